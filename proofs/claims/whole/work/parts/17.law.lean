theorem om_e01 {σ τ : om_S} : ¬ some ((0 : Int32), σ) = some ((1 : Int32), τ) := by
  intro h
  have h2 : (0 : Int32) = 1 := congrArg Prod.fst (Option.some.inj h)
  exact absurd h2 (by decide)
def f_L_law_b1287 (scL : Nat) (scr : Nat → Int32) (lp18 : Nat → Nat → Int32 → om_S → Option (Int32 × om_S)) (a1 : Nat) (a2 : Nat) (v3 : Int32) (σ : om_S) : Option (Int32 × om_S) := lp18 a1 a2 (v3 + 6) σ
set_option maxRecDepth 100000 in
theorem g_L_law_b1287 {x : om_X} {nm : String}  (O : om_Ok x RL nm cL_law 4 (some FieldType.boolean) 66 600000 7302250) {scL : Nat} {scr : Nat → Int32} (hSc : om_Sc x scL scr)  {τ : om_S} (hE : ∀ (pc : Nat) (lv : List (Nat × om_V)) (σ : om_S), σ = τ → decode cL_law pc = .ok (.ireturn, 1) → om_J x pc lv [vI 1] σ om_rf om_N 105 5839) {lp18 : Nat → Nat → Int32 → om_S → Option (Int32 × om_S)} (L18 : ∀ (a1 : Nat) (a2 : Nat) (v3 : Int32) (σ : om_S) (ka1 : om_kc a1 = 8) (ka2 : om_kc a2 = 9), lp18 a1 a2 v3 σ = some (1, τ) → om_J x 18 [(0, vR (some 901)), (1, vR (some a1)), (2, vR (some a2)), (3, vI v3)] [] σ om_rf om_N 105 5839) {a1 : Nat} {a2 : Nat} {v3 : Int32} {σ : om_S} (ka1 : om_kc a1 = 8) (ka2 : om_kc a2 = 9) (h : f_L_law_b1287 scL scr lp18 a1 a2 v3 σ = some (1, τ)) : om_J x 1287 [(0, vR (some 901)), (1, vR (some a1)), (2, vR (some a2)), (3, vI v3)] [] σ om_rf om_N 105 5839 := by
  unfold f_L_law_b1287 at h
  refine om_iinc O (v1 := (v3 + 6)) (lv' := [(0, vR (some 901)), (1, vR (some a1)), (2, vR (some a2)), (3, vI (v3 + 6))]) 3 [1, 2, 3, 0] rfl dL_law_1287 rfl rfl (by decide) rfl ?_
  refine om_goto O (tgt := 18) dL_law_1290 (by decide) ?_
  exact L18 _ _ _ _ ka1 ka2 h
def f_L_law_b18 (scL : Nat) (scr : Nat → Int32) : Nat → Nat → Nat → Int32 → om_S → Option (Int32 × om_S)
  | 0, _, _, _, _ => none
  | F + 1, a1, a2, v3, σ => if ((Int32.ofNat scL) - (6 : Int32)) < v3 then (some ((1 : Int32), σ)) else (if om_in v3 scL then if ((scr v3.toNatClampNeg) &&& (63 : Int32)) = 0 then (if om_in (v3 + (1 : Int32)) scL then if om_in (v3 + (2 : Int32)) scL then if om_in (v3 + (3 : Int32)) scL then om_call (f_X8_memory a1 (scr (v3 + (1 : Int32)).toNatClampNeg) (scr (v3 + (2 : Int32)).toNatClampNeg) (scr (v3 + (3 : Int32)).toNatClampNeg) σ) fun (r1o : Int32) (σ1o : om_S) => if om_in (v3 + (1 : Int32)) scL then if om_in (v3 + (2 : Int32)) scL then if om_in (v3 + (3 : Int32)) scL then om_call (f_X9_memory a2 (scr (v3 + (1 : Int32)).toNatClampNeg) (scr (v3 + (2 : Int32)).toNatClampNeg) (scr (v3 + (3 : Int32)).toNatClampNeg) σ1o) fun (r2o : Int32) (σ2o : om_S) => if r1o = r2o then (f_L_law_b1287 scL scr (f_L_law_b18 scL scr F) a1 a2 v3 σ2o) else (some ((0 : Int32), σ2o)) else none else none else none else none else none else none) else (if ((scr v3.toNatClampNeg) &&& (63 : Int32)) = 1 then (if om_in (v3 + (1 : Int32)) scL then if om_in (v3 + (2 : Int32)) scL then om_call (f_X8_memoryIs a1 (scr (v3 + (1 : Int32)).toNatClampNeg) (scr (v3 + (2 : Int32)).toNatClampNeg) σ) fun (r3o : Int32) (σ3o : om_S) => if om_in (v3 + (1 : Int32)) scL then if om_in (v3 + (2 : Int32)) scL then om_call (f_X9_memoryIs a2 (scr (v3 + (1 : Int32)).toNatClampNeg) (scr (v3 + (2 : Int32)).toNatClampNeg) σ3o) fun (r4o : Int32) (σ4o : om_S) => if r3o = r4o then (f_L_law_b1287 scL scr (f_L_law_b18 scL scr F) a1 a2 v3 σ4o) else (some ((0 : Int32), σ4o)) else none else none else none else none) else (if ((scr v3.toNatClampNeg) &&& (63 : Int32)) = 2 then (if om_in (v3 + (1 : Int32)) scL then if om_in (v3 + (2 : Int32)) scL then om_call (f_X8_become a1 (scr (v3 + (1 : Int32)).toNatClampNeg) (scr (v3 + (2 : Int32)).toNatClampNeg) σ) fun (r5o : Int32) (σ5o : om_S) => if om_in (v3 + (1 : Int32)) scL then if om_in (v3 + (2 : Int32)) scL then om_call (f_X9_become a2 (scr (v3 + (1 : Int32)).toNatClampNeg) (scr (v3 + (2 : Int32)).toNatClampNeg) σ5o) fun (r6o : Int32) (σ6o : om_S) => if r5o = r6o then (f_L_law_b1287 scL scr (f_L_law_b18 scL scr F) a1 a2 v3 σ6o) else (some ((0 : Int32), σ6o)) else none else none else none else none) else (if ((scr v3.toNatClampNeg) &&& (63 : Int32)) = 3 then (if om_in (v3 + (1 : Int32)) scL then if om_in (v3 + (2 : Int32)) scL then om_call (f_X8_as a1 (scr (v3 + (1 : Int32)).toNatClampNeg) (scr (v3 + (2 : Int32)).toNatClampNeg) σ) fun (r7o : Int32) (σ7o : om_S) => if om_in (v3 + (1 : Int32)) scL then if om_in (v3 + (2 : Int32)) scL then om_call (f_X9_as a2 (scr (v3 + (1 : Int32)).toNatClampNeg) (scr (v3 + (2 : Int32)).toNatClampNeg) σ7o) fun (r8o : Int32) (σ8o : om_S) => if r7o = r8o then (f_L_law_b1287 scL scr (f_L_law_b18 scL scr F) a1 a2 v3 σ8o) else (some ((0 : Int32), σ8o)) else none else none else none else none) else (if ((scr v3.toNatClampNeg) &&& (63 : Int32)) = 4 then (if om_in (v3 + (1 : Int32)) scL then if om_in (v3 + (2 : Int32)) scL then om_call (f_X8_fills a1 (scr (v3 + (1 : Int32)).toNatClampNeg) (scr (v3 + (2 : Int32)).toNatClampNeg) σ) fun (r9o : Int32) (σ9o : om_S) => if om_in (v3 + (1 : Int32)) scL then if om_in (v3 + (2 : Int32)) scL then om_call (f_X9_fills a2 (scr (v3 + (1 : Int32)).toNatClampNeg) (scr (v3 + (2 : Int32)).toNatClampNeg) σ9o) fun (r10o : Int32) (σ10o : om_S) => if r9o = r10o then (f_L_law_b1287 scL scr (f_L_law_b18 scL scr F) a1 a2 v3 σ10o) else (some ((0 : Int32), σ10o)) else none else none else none else none) else (if ((scr v3.toNatClampNeg) &&& (63 : Int32)) = 5 then (if om_in (v3 + (1 : Int32)) scL then if om_in (v3 + (2 : Int32)) scL then om_call (f_X8_dear a1 (scr (v3 + (1 : Int32)).toNatClampNeg) (scr (v3 + (2 : Int32)).toNatClampNeg) σ) fun (r11o : Int32) (σ11o : om_S) => if om_in (v3 + (1 : Int32)) scL then if om_in (v3 + (2 : Int32)) scL then om_call (f_X9_dear a2 (scr (v3 + (1 : Int32)).toNatClampNeg) (scr (v3 + (2 : Int32)).toNatClampNeg) σ11o) fun (r12o : Int32) (σ12o : om_S) => if r11o = r12o then (f_L_law_b1287 scL scr (f_L_law_b18 scL scr F) a1 a2 v3 σ12o) else (some ((0 : Int32), σ12o)) else none else none else none else none) else (if ((scr v3.toNatClampNeg) &&& (63 : Int32)) = 6 then (if om_in (v3 + (1 : Int32)) scL then if om_in (v3 + (2 : Int32)) scL then om_call (f_X8_trim a1 (scr (v3 + (1 : Int32)).toNatClampNeg) (scr (v3 + (2 : Int32)).toNatClampNeg) σ) fun (r13o : Int32) (σ13o : om_S) => if om_in (v3 + (1 : Int32)) scL then if om_in (v3 + (2 : Int32)) scL then om_call (f_X9_trim a2 (scr (v3 + (1 : Int32)).toNatClampNeg) (scr (v3 + (2 : Int32)).toNatClampNeg) σ13o) fun (r14o : Int32) (σ14o : om_S) => if r13o = r14o then (f_L_law_b1287 scL scr (f_L_law_b18 scL scr F) a1 a2 v3 σ14o) else (some ((0 : Int32), σ14o)) else none else none else none else none) else (if ((scr v3.toNatClampNeg) &&& (63 : Int32)) = 7 then (if om_in (v3 + (1 : Int32)) scL then if om_in (v3 + (2 : Int32)) scL then om_call (f_X8_tells a1 (scr (v3 + (1 : Int32)).toNatClampNeg) (scr (v3 + (2 : Int32)).toNatClampNeg) σ) fun (r15o : Int32) (σ15o : om_S) => if om_in (v3 + (1 : Int32)) scL then if om_in (v3 + (2 : Int32)) scL then om_call (f_X9_tells a2 (scr (v3 + (1 : Int32)).toNatClampNeg) (scr (v3 + (2 : Int32)).toNatClampNeg) σ15o) fun (r16o : Int32) (σ16o : om_S) => if r15o = r16o then (f_L_law_b1287 scL scr (f_L_law_b18 scL scr F) a1 a2 v3 σ16o) else (some ((0 : Int32), σ16o)) else none else none else none else none) else (if ((scr v3.toNatClampNeg) &&& (63 : Int32)) = 8 then (if om_in (v3 + (1 : Int32)) scL then om_call (f_X8_blows a1 (scr (v3 + (1 : Int32)).toNatClampNeg) σ) fun (r17o : Int32) (σ17o : om_S) => if om_in (v3 + (1 : Int32)) scL then om_call (f_X9_blows a2 (scr (v3 + (1 : Int32)).toNatClampNeg) σ17o) fun (r18o : Int32) (σ18o : om_S) => if r17o = r18o then (f_L_law_b1287 scL scr (f_L_law_b18 scL scr F) a1 a2 v3 σ18o) else (some ((0 : Int32), σ18o)) else none else none) else (if ((scr v3.toNatClampNeg) &&& (63 : Int32)) = 9 then (if om_in (v3 + (1 : Int32)) scL then if om_in (v3 + (2 : Int32)) scL then if om_in (v3 + (3 : Int32)) scL then om_call (f_X8_feed a1 ((((scr (v3 + (1 : Int32)).toNatClampNeg).toInt64) <<< ((32 : Int32).toInt64 &&& 63)) ||| (((scr (v3 + (2 : Int32)).toNatClampNeg).toInt64) &&& (4294967295 : Int64))) (scr (v3 + (3 : Int32)).toNatClampNeg) σ) fun (r19o : Int32) (σ19o : om_S) => if om_in (v3 + (1 : Int32)) scL then if om_in (v3 + (2 : Int32)) scL then if om_in (v3 + (3 : Int32)) scL then om_call (f_X9_feed a2 ((((scr (v3 + (1 : Int32)).toNatClampNeg).toInt64) <<< ((32 : Int32).toInt64 &&& 63)) ||| (((scr (v3 + (2 : Int32)).toNatClampNeg).toInt64) &&& (4294967295 : Int64))) (scr (v3 + (3 : Int32)).toNatClampNeg) σ19o) fun (r20o : Int32) (σ20o : om_S) => if r19o = r20o then (f_L_law_b1287 scL scr (f_L_law_b18 scL scr F) a1 a2 v3 σ20o) else (some ((0 : Int32), σ20o)) else none else none else none else none else none else none) else (if ((scr v3.toNatClampNeg) &&& (63 : Int32)) = 10 then (if om_in (v3 + (1 : Int32)) scL then om_call (f_X8_text a1 (scr (v3 + (1 : Int32)).toNatClampNeg) σ) fun (r21o : Int32) (σ21o : om_S) => if om_in (v3 + (1 : Int32)) scL then om_call (f_X9_text a2 (scr (v3 + (1 : Int32)).toNatClampNeg) σ21o) fun (r22o : Int32) (σ22o : om_S) => if r21o = r22o then (f_L_law_b1287 scL scr (f_L_law_b18 scL scr F) a1 a2 v3 σ22o) else (some ((0 : Int32), σ22o)) else none else none) else (if ((scr v3.toNatClampNeg) &&& (63 : Int32)) = 11 then (if om_in (v3 + (1 : Int32)) scL then om_call (f_X8_untell a1 (scr (v3 + (1 : Int32)).toNatClampNeg) σ) fun (r23o : Int32) (σ23o : om_S) => if om_in (v3 + (1 : Int32)) scL then om_call (f_X9_untell a2 (scr (v3 + (1 : Int32)).toNatClampNeg) σ23o) fun (r24o : Int32) (σ24o : om_S) => if r23o = r24o then (f_L_law_b1287 scL scr (f_L_law_b18 scL scr F) a1 a2 v3 σ24o) else (some ((0 : Int32), σ24o)) else none else none) else (if ((scr v3.toNatClampNeg) &&& (63 : Int32)) = 12 then (if om_in (v3 + (1 : Int32)) scL then if om_in (v3 + (2 : Int32)) scL then if om_in (v3 + (3 : Int32)) scL then if om_in (v3 + (4 : Int32)) scL then om_call (f_X8_law a1 (scr (v3 + (1 : Int32)).toNatClampNeg) (scr (v3 + (2 : Int32)).toNatClampNeg) (scr (v3 + (3 : Int32)).toNatClampNeg) (scr (v3 + (4 : Int32)).toNatClampNeg) σ) fun (r25o : Int32) (σ25o : om_S) => if om_in (v3 + (1 : Int32)) scL then if om_in (v3 + (2 : Int32)) scL then if om_in (v3 + (3 : Int32)) scL then if om_in (v3 + (4 : Int32)) scL then om_call (f_X9_law a2 (scr (v3 + (1 : Int32)).toNatClampNeg) (scr (v3 + (2 : Int32)).toNatClampNeg) (scr (v3 + (3 : Int32)).toNatClampNeg) (scr (v3 + (4 : Int32)).toNatClampNeg) σ25o) fun (r26o : Int32) (σ26o : om_S) => if r25o = r26o then (f_L_law_b1287 scL scr (f_L_law_b18 scL scr F) a1 a2 v3 σ26o) else (some ((0 : Int32), σ26o)) else none else none else none else none else none else none else none else none) else (if ((scr v3.toNatClampNeg) &&& (63 : Int32)) = 13 then (if om_in (v3 + (1 : Int32)) scL then om_call (f_X8_nights a1 (scr (v3 + (1 : Int32)).toNatClampNeg) σ) fun (r27o : Int32) (σ27o : om_S) => if om_in (v3 + (1 : Int32)) scL then om_call (f_X9_nights a2 (scr (v3 + (1 : Int32)).toNatClampNeg) σ27o) fun (r28o : Int32) (σ28o : om_S) => if r27o = r28o then (f_L_law_b1287 scL scr (f_L_law_b18 scL scr F) a1 a2 v3 σ28o) else (some ((0 : Int32), σ28o)) else none else none) else (if ((scr v3.toNatClampNeg) &&& (63 : Int32)) = 14 then (if om_in (v3 + (1 : Int32)) scL then om_call (f_X8_loose a1 (scr (v3 + (1 : Int32)).toNatClampNeg) σ) fun (r29o : Int32) (σ29o : om_S) => if om_in (v3 + (1 : Int32)) scL then om_call (f_X9_loose a2 (scr (v3 + (1 : Int32)).toNatClampNeg) σ29o) fun (r30o : Int32) (σ30o : om_S) => if r29o = r30o then (f_L_law_b1287 scL scr (f_L_law_b18 scL scr F) a1 a2 v3 σ30o) else (some ((0 : Int32), σ30o)) else none else none) else (if ((scr v3.toNatClampNeg) &&& (63 : Int32)) = 15 then (if om_in (v3 + (1 : Int32)) scL then om_call (f_X8_seed a1 (scr (v3 + (1 : Int32)).toNatClampNeg) σ) fun (r31o : Int32) (σ31o : om_S) => if om_in (v3 + (1 : Int32)) scL then om_call (f_X9_seed a2 (scr (v3 + (1 : Int32)).toNatClampNeg) σ31o) fun (r32o : Int32) (σ32o : om_S) => if r31o = r32o then (f_L_law_b1287 scL scr (f_L_law_b18 scL scr F) a1 a2 v3 σ32o) else (some ((0 : Int32), σ32o)) else none else none) else (if ((scr v3.toNatClampNeg) &&& (63 : Int32)) = 16 then (if om_in (v3 + (1 : Int32)) scL then om_call (f_X8_tonight a1 (scr (v3 + (1 : Int32)).toNatClampNeg) σ) fun (r33o : Int32) (σ33o : om_S) => if om_in (v3 + (1 : Int32)) scL then om_call (f_X9_tonight a2 (scr (v3 + (1 : Int32)).toNatClampNeg) σ33o) fun (r34o : Int32) (σ34o : om_S) => if r33o = r34o then (f_L_law_b1287 scL scr (f_L_law_b18 scL scr F) a1 a2 v3 σ34o) else (some ((0 : Int32), σ34o)) else none else none) else (if ((scr v3.toNatClampNeg) &&& (63 : Int32)) = 17 then (om_call (f_X8_lasts a1 σ) fun (r35o : Int32) (σ35o : om_S) => om_call (f_X9_lasts a2 σ35o) fun (r36o : Int32) (σ36o : om_S) => if r35o = r36o then (f_L_law_b1287 scL scr (f_L_law_b18 scL scr F) a1 a2 v3 σ36o) else (some ((0 : Int32), σ36o))) else (if ((scr v3.toNatClampNeg) &&& (63 : Int32)) = 18 then (if om_in (v3 + (1 : Int32)) scL then om_call (f_X8_without a1 (scr (v3 + (1 : Int32)).toNatClampNeg) σ) fun (r37o : Int32) (σ37o : om_S) => if om_in (v3 + (1 : Int32)) scL then om_call (f_X9_without a2 (scr (v3 + (1 : Int32)).toNatClampNeg) σ37o) fun (r38o : Int32) (σ38o : om_S) => if r37o = r38o then (f_L_law_b1287 scL scr (f_L_law_b18 scL scr F) a1 a2 v3 σ38o) else (some ((0 : Int32), σ38o)) else none else none) else (if ((scr v3.toNatClampNeg) &&& (63 : Int32)) = 19 then (if om_in (v3 + (1 : Int32)) scL then if om_in (v3 + (2 : Int32)) scL then om_call (f_X8_then a1 (scr (v3 + (1 : Int32)).toNatClampNeg) (scr (v3 + (2 : Int32)).toNatClampNeg) σ) fun (r39o : Int32) (σ39o : om_S) => if om_in (v3 + (1 : Int32)) scL then if om_in (v3 + (2 : Int32)) scL then om_call (f_X9_then a2 (scr (v3 + (1 : Int32)).toNatClampNeg) (scr (v3 + (2 : Int32)).toNatClampNeg) σ39o) fun (r40o : Int32) (σ40o : om_S) => if r39o = r40o then (f_L_law_b1287 scL scr (f_L_law_b18 scL scr F) a1 a2 v3 σ40o) else (some ((0 : Int32), σ40o)) else none else none else none else none) else (if ((scr v3.toNatClampNeg) &&& (63 : Int32)) = 20 then (if om_in (v3 + (1 : Int32)) scL then om_call (f_X8_has a1 (scr (v3 + (1 : Int32)).toNatClampNeg) σ) fun (r41o : Int32) (σ41o : om_S) => if om_in (v3 + (1 : Int32)) scL then om_call (f_X9_has a2 (scr (v3 + (1 : Int32)).toNatClampNeg) σ41o) fun (r42o : Int32) (σ42o : om_S) => if r41o = r42o then (f_L_law_b1287 scL scr (f_L_law_b18 scL scr F) a1 a2 v3 σ42o) else (some ((0 : Int32), σ42o)) else none else none) else (if ((scr v3.toNatClampNeg) &&& (63 : Int32)) = 21 then (if om_in (v3 + (1 : Int32)) scL then if om_in (v3 + (2 : Int32)) scL then om_call (f_X8_mixes a1 (scr (v3 + (1 : Int32)).toNatClampNeg) (scr (v3 + (2 : Int32)).toNatClampNeg) σ) fun (r43o : Int32) (σ43o : om_S) => if om_in (v3 + (1 : Int32)) scL then if om_in (v3 + (2 : Int32)) scL then om_call (f_X9_mixes a2 (scr (v3 + (1 : Int32)).toNatClampNeg) (scr (v3 + (2 : Int32)).toNatClampNeg) σ43o) fun (r44o : Int32) (σ44o : om_S) => if r43o = r44o then (f_L_law_b1287 scL scr (f_L_law_b18 scL scr F) a1 a2 v3 σ44o) else (some ((0 : Int32), σ44o)) else none else none else none else none) else (if ((scr v3.toNatClampNeg) &&& (63 : Int32)) = 22 then (if om_in (v3 + (1 : Int32)) scL then om_call (f_X8_odds a1 (scr (v3 + (1 : Int32)).toNatClampNeg) σ) fun (r45o : Int32) (σ45o : om_S) => if om_in (v3 + (1 : Int32)) scL then om_call (f_X9_odds a2 (scr (v3 + (1 : Int32)).toNatClampNeg) σ45o) fun (r46o : Int32) (σ46o : om_S) => if r45o = r46o then (f_L_law_b1287 scL scr (f_L_law_b18 scL scr F) a1 a2 v3 σ46o) else (some ((0 : Int32), σ46o)) else none else none) else (if ((scr v3.toNatClampNeg) &&& (63 : Int32)) = 23 then (if om_in (v3 + (1 : Int32)) scL then om_call (f_X8_fits a1 (scr (v3 + (1 : Int32)).toNatClampNeg) σ) fun (r47o : Int32) (σ47o : om_S) => if om_in (v3 + (1 : Int32)) scL then om_call (f_X9_fits a2 (scr (v3 + (1 : Int32)).toNatClampNeg) σ47o) fun (r48o : Int32) (σ48o : om_S) => if r47o = r48o then (f_L_law_b1287 scL scr (f_L_law_b18 scL scr F) a1 a2 v3 σ48o) else (some ((0 : Int32), σ48o)) else none else none) else (if ((scr v3.toNatClampNeg) &&& (63 : Int32)) = 24 then (if om_in (v3 + (1 : Int32)) scL then if om_in (v3 + (2 : Int32)) scL then if om_in (v3 + (3 : Int32)) scL then om_call (f_X8_voice a1 (scr (v3 + (1 : Int32)).toNatClampNeg) (scr (v3 + (2 : Int32)).toNatClampNeg) (scr (v3 + (3 : Int32)).toNatClampNeg) σ) fun (r49o : Int32) (σ49o : om_S) => if om_in (v3 + (1 : Int32)) scL then if om_in (v3 + (2 : Int32)) scL then if om_in (v3 + (3 : Int32)) scL then om_call (f_X9_voice a2 (scr (v3 + (1 : Int32)).toNatClampNeg) (scr (v3 + (2 : Int32)).toNatClampNeg) (scr (v3 + (3 : Int32)).toNatClampNeg) σ49o) fun (r50o : Int32) (σ50o : om_S) => if r49o = r50o then (f_L_law_b1287 scL scr (f_L_law_b18 scL scr F) a1 a2 v3 σ50o) else (some ((0 : Int32), σ50o)) else none else none else none else none else none else none) else (if ((scr v3.toNatClampNeg) &&& (63 : Int32)) = 25 then (if om_in (v3 + (1 : Int32)) scL then om_call (f_X8_body a1 (scr (v3 + (1 : Int32)).toNatClampNeg) σ) fun (r51o : Int32) (σ51o : om_S) => if om_in (v3 + (1 : Int32)) scL then om_call (f_X9_body a2 (scr (v3 + (1 : Int32)).toNatClampNeg) σ51o) fun (r52o : Int32) (σ52o : om_S) => if r51o = r52o then (f_L_law_b1287 scL scr (f_L_law_b18 scL scr F) a1 a2 v3 σ52o) else (some ((0 : Int32), σ52o)) else none else none) else (if ((scr v3.toNatClampNeg) &&& (63 : Int32)) = 26 then (if om_in (v3 + (1 : Int32)) scL then if om_in (v3 + (2 : Int32)) scL then if om_in (v3 + (3 : Int32)) scL then om_call (f_X8_sheet a1 (scr (v3 + (1 : Int32)).toNatClampNeg) (scr (v3 + (2 : Int32)).toNatClampNeg) (scr (v3 + (3 : Int32)).toNatClampNeg) σ) fun (r53o : Int32) (σ53o : om_S) => if om_in (v3 + (1 : Int32)) scL then if om_in (v3 + (2 : Int32)) scL then if om_in (v3 + (3 : Int32)) scL then om_call (f_X9_sheet a2 (scr (v3 + (1 : Int32)).toNatClampNeg) (scr (v3 + (2 : Int32)).toNatClampNeg) (scr (v3 + (3 : Int32)).toNatClampNeg) σ53o) fun (r54o : Int32) (σ54o : om_S) => if r53o = r54o then (f_L_law_b1287 scL scr (f_L_law_b18 scL scr F) a1 a2 v3 σ54o) else (some ((0 : Int32), σ54o)) else none else none else none else none else none else none) else (if ((scr v3.toNatClampNeg) &&& (63 : Int32)) = 27 then (if om_in (v3 + (1 : Int32)) scL then if om_in (v3 + (2 : Int32)) scL then if om_in (v3 + (3 : Int32)) scL then om_call (f_X8_put a1 (scr (v3 + (1 : Int32)).toNatClampNeg) (scr (v3 + (2 : Int32)).toNatClampNeg) (scr (v3 + (3 : Int32)).toNatClampNeg) σ) fun (r55o : Int32) (σ55o : om_S) => if om_in (v3 + (1 : Int32)) scL then if om_in (v3 + (2 : Int32)) scL then if om_in (v3 + (3 : Int32)) scL then om_call (f_X9_put a2 (scr (v3 + (1 : Int32)).toNatClampNeg) (scr (v3 + (2 : Int32)).toNatClampNeg) (scr (v3 + (3 : Int32)).toNatClampNeg) σ55o) fun (r56o : Int32) (σ56o : om_S) => if r55o = r56o then (f_L_law_b1287 scL scr (f_L_law_b18 scL scr F) a1 a2 v3 σ56o) else (some ((0 : Int32), σ56o)) else none else none else none else none else none else none) else (if ((scr v3.toNatClampNeg) &&& (63 : Int32)) = 28 then (if om_in (v3 + (1 : Int32)) scL then if om_in (v3 + (2 : Int32)) scL then if om_in (v3 + (3 : Int32)) scL then if om_in (v3 + (4 : Int32)) scL then if om_in (v3 + (5 : Int32)) scL then om_call (f_X8_move a1 (scr (v3 + (1 : Int32)).toNatClampNeg) (scr (v3 + (2 : Int32)).toNatClampNeg) (scr (v3 + (3 : Int32)).toNatClampNeg) (scr (v3 + (4 : Int32)).toNatClampNeg) (scr (v3 + (5 : Int32)).toNatClampNeg) σ) fun (r57o : Int32) (σ57o : om_S) => if om_in (v3 + (1 : Int32)) scL then if om_in (v3 + (2 : Int32)) scL then if om_in (v3 + (3 : Int32)) scL then if om_in (v3 + (4 : Int32)) scL then if om_in (v3 + (5 : Int32)) scL then om_call (f_X9_move a2 (scr (v3 + (1 : Int32)).toNatClampNeg) (scr (v3 + (2 : Int32)).toNatClampNeg) (scr (v3 + (3 : Int32)).toNatClampNeg) (scr (v3 + (4 : Int32)).toNatClampNeg) (scr (v3 + (5 : Int32)).toNatClampNeg) σ57o) fun (r58o : Int32) (σ58o : om_S) => if r57o = r58o then (f_L_law_b1287 scL scr (f_L_law_b18 scL scr F) a1 a2 v3 σ58o) else (some ((0 : Int32), σ58o)) else none else none else none else none else none else none else none else none else none else none) else (if ((scr v3.toNatClampNeg) &&& (63 : Int32)) = 29 then (if om_in (v3 + (1 : Int32)) scL then om_call (f_X8_dears a1 (scr (v3 + (1 : Int32)).toNatClampNeg) σ) fun (r59o : Int32) (σ59o : om_S) => if om_in (v3 + (1 : Int32)) scL then om_call (f_X9_dears a2 (scr (v3 + (1 : Int32)).toNatClampNeg) σ59o) fun (r60o : Int32) (σ60o : om_S) => if r59o = r60o then (f_L_law_b1287 scL scr (f_L_law_b18 scL scr F) a1 a2 v3 σ60o) else (some ((0 : Int32), σ60o)) else none else none) else (if ((scr v3.toNatClampNeg) &&& (63 : Int32)) = 30 then (if om_in (v3 + (1 : Int32)) scL then om_call (f_X8_judge a1 (scr (v3 + (1 : Int32)).toNatClampNeg) σ) fun (r61o : Int32) (σ61o : om_S) => if om_in (v3 + (1 : Int32)) scL then om_call (f_X9_judge a2 (scr (v3 + (1 : Int32)).toNatClampNeg) σ61o) fun (r62o : Int32) (σ62o : om_S) => if r61o = r62o then (f_L_law_b1287 scL scr (f_L_law_b18 scL scr F) a1 a2 v3 σ62o) else (some ((0 : Int32), σ62o)) else none else none) else (if ((scr v3.toNatClampNeg) &&& (63 : Int32)) = 31 then (om_call (f_X8_image a1 σ) fun (r63o : Int32) (σ63o : om_S) => om_call (f_X9_image a2 σ63o) fun (r64o : Int32) (σ64o : om_S) => if r63o = r64o then (f_L_law_b1287 scL scr (f_L_law_b18 scL scr F) a1 a2 v3 σ64o) else (some ((0 : Int32), σ64o))) else (if ((scr v3.toNatClampNeg) &&& (63 : Int32)) = 32 then (om_call (f_X8_restore a1 σ) fun (r65o : Int32) (σ65o : om_S) => om_call (f_X9_restore a2 σ65o) fun (r66o : Int32) (σ66o : om_S) => if r65o = r66o then (f_L_law_b1287 scL scr (f_L_law_b18 scL scr F) a1 a2 v3 σ66o) else (some ((0 : Int32), σ66o))) else (if ((scr v3.toNatClampNeg) &&& (63 : Int32)) = 33 then (if om_in (v3 + (1 : Int32)) scL then om_call (f_X8_tell a1 (scr (v3 + (1 : Int32)).toNatClampNeg) σ) fun (r67o : Int32) (σ67o : om_S) => if om_in (v3 + (1 : Int32)) scL then om_call (f_X9_tell a2 (scr (v3 + (1 : Int32)).toNatClampNeg) σ67o) fun (r68o : Int32) (σ68o : om_S) => if r67o = r68o then (f_L_law_b1287 scL scr (f_L_law_b18 scL scr F) a1 a2 v3 σ68o) else (some ((0 : Int32), σ68o)) else none else none) else (if ((scr v3.toNatClampNeg) &&& (63 : Int32)) = 34 then (om_call (f_X8_check a1 σ) fun (r69o : Int32) (σ69o : om_S) => om_call (f_X9_check a2 σ69o) fun (r70o : Int32) (σ70o : om_S) => if r69o = r70o then (f_L_law_b1287 scL scr (f_L_law_b18 scL scr F) a1 a2 v3 σ70o) else (some ((0 : Int32), σ70o))) else (if ((scr v3.toNatClampNeg) &&& (63 : Int32)) = 35 then (if om_in (v3 + (1 : Int32)) scL then om_call (f_X8_count a1 (scr (v3 + (1 : Int32)).toNatClampNeg) σ) fun (r71o : Int32) (σ71o : om_S) => if om_in (v3 + (1 : Int32)) scL then om_call (f_X9_count a2 (scr (v3 + (1 : Int32)).toNatClampNeg) σ71o) fun (r72o : Int32) (σ72o : om_S) => if r71o = r72o then (f_L_law_b1287 scL scr (f_L_law_b18 scL scr F) a1 a2 v3 σ72o) else (some ((0 : Int32), σ72o)) else none else none) else (if ((scr v3.toNatClampNeg) &&& (63 : Int32)) = 36 then (if om_in (v3 + (1 : Int32)) scL then om_call (f_X8_told a1 (scr (v3 + (1 : Int32)).toNatClampNeg) σ) fun (r73o : Int32) (σ73o : om_S) => if om_in (v3 + (1 : Int32)) scL then om_call (f_X9_told a2 (scr (v3 + (1 : Int32)).toNatClampNeg) σ73o) fun (r74o : Int32) (σ74o : om_S) => if r73o = r74o then (f_L_law_b1287 scL scr (f_L_law_b18 scL scr F) a1 a2 v3 σ74o) else (some ((0 : Int32), σ74o)) else none else none) else (f_L_law_b1287 scL scr (f_L_law_b18 scL scr F) a1 a2 v3 σ))))))))))))))))))))))))))))))))))))) else none)
set_option maxRecDepth 100000 in
theorem g_L_law_b18 {x : om_X} {nm : String}  (O : om_Ok x RL nm cL_law 4 (some FieldType.boolean) 66 600000 7302250) {scL : Nat} {scr : Nat → Int32} (hSc : om_Sc x scL scr)  {τ : om_S} (hE : ∀ (pc : Nat) (lv : List (Nat × om_V)) (σ : om_S), σ = τ → decode cL_law pc = .ok (.ireturn, 1) → om_J x pc lv [vI 1] σ om_rf om_N 105 5839)   : ∀ (F : Nat) (a1 : Nat) (a2 : Nat) (v3 : Int32) (σ : om_S) (ka1 : om_kc a1 = 8) (ka2 : om_kc a2 = 9), f_L_law_b18 scL scr F a1 a2 v3 σ = some (1, τ) → om_J x 18 [(0, vR (some 901)), (1, vR (some a1)), (2, vR (some a2)), (3, vI v3)] [] σ om_rf om_N 105 5839 := by
  intro F
  induction F with
  | zero =>
    intro a1 a2 v3 σ ka1 ka2 h
    cases h
  | succ F ih =>
    intro a1 a2 v3 σ ka1 ka2 h
    unfold f_L_law_b18 at h
    refine om_iload_n O 3 dL_law_18 rfl rfl ?_
    refine om_aload_n O 0 dL_law_19 rfl rfl ?_
    refine om_sLen O hSc dL_law_20 ?_
    refine om_bipush O (v := 6) dL_law_21 (by decide) ?_
    refine om_isub O dL_law_23 ?_
    refine om_icmp_gt O (tgt := 1293) dL_law_24 (by decide) (fun c1o => ?_) (fun c1o => ?_)
    · replace h := (if_pos c1o).symm.trans h
      refine om_iconst O (v := 1) dL_law_1293 (by decide) ?_
      exact hE _ _ _ (om_eL h) dL_law_1294
    · replace h := (if_neg c1o).symm.trans h
      refine om_aload_n O 0 dL_law_27 rfl rfl ?_
      refine om_iload_n O 3 dL_law_28 rfl rfl ?_
      revert h; refine om_iteR (fun i1o h => ?_)
      refine om_sLd O hSc i1o dL_law_29 ?_
      refine om_bipush O (v := 63) dL_law_30 (by decide) ?_
      refine om_iand O dL_law_32 ?_
      by_cases c2o : ((scr v3.toNatClampNeg) &&& (63 : Int32)) = 0
      · replace h := (if_pos c2o).symm.trans h
        refine om_tblIn O (b := 0) (off := 163) (tgt := 196) dL_law_33 c2o (by decide) (by decide) (by decide +kernel) (by decide) ?_
        refine om_aload_n O 1 dL_law_196 rfl rfl ?_
        refine om_aload_n O 0 dL_law_197 rfl rfl ?_
        refine om_iload_n O 3 dL_law_198 rfl rfl ?_
        refine om_iconst O (v := 1) dL_law_199 (by decide) ?_
        refine om_iadd O dL_law_200 ?_
        revert h; refine om_iteR (fun i2o h => ?_)
        refine om_sLd O hSc i2o dL_law_201 ?_
        refine om_aload_n O 0 dL_law_202 rfl rfl ?_
        refine om_iload_n O 3 dL_law_203 rfl rfl ?_
        refine om_iconst O (v := 2) dL_law_204 (by decide) ?_
        refine om_iadd O dL_law_205 ?_
        revert h; refine om_iteR (fun i3o h => ?_)
        refine om_sLd O hSc i3o dL_law_206 ?_
        refine om_aload_n O 0 dL_law_207 rfl rfl ?_
        refine om_iload_n O 3 dL_law_208 rfl rfl ?_
        refine om_iconst O (v := 3) dL_law_209 (by decide) ?_
        refine om_iadd O dL_law_210 ?_
        revert h; refine om_iteR (fun i4o h => ?_)
        refine om_sLd O hSc i4o dL_law_211 ?_
        revert h; refine om_callR (fun r1o σ1o g1o h => ?_)
        refine cl_L_13 O (st := []) (stk := [vI (scr (v3 + (3 : Int32)).toNatClampNeg), vI (scr (v3 + (2 : Int32)).toNatClampNeg), vI (scr (v3 + (1 : Int32)).toNatClampNeg), vR (some a1)]) (st2 := [vI r1o]) [vI (scr (v3 + (1 : Int32)).toNatClampNeg), vI (scr (v3 + (2 : Int32)).toNatClampNeg), vI (scr (v3 + (3 : Int32)).toNatClampNeg)] (fun l G => c_X8_memory l G g1o) ka1 (om_lt ka1 (by decide)) (by decide) rfl rfl rfl_le rfl rfl_le rfl_le dL_law_212 ?_
        refine om_aload_n O 2 dL_law_215 rfl rfl ?_
        refine om_aload_n O 0 dL_law_216 rfl rfl ?_
        refine om_iload_n O 3 dL_law_217 rfl rfl ?_
        refine om_iconst O (v := 1) dL_law_218 (by decide) ?_
        refine om_iadd O dL_law_219 ?_
        revert h; refine om_iteR (fun i5o h => ?_)
        refine om_sLd O hSc i5o dL_law_220 ?_
        refine om_aload_n O 0 dL_law_221 rfl rfl ?_
        refine om_iload_n O 3 dL_law_222 rfl rfl ?_
        refine om_iconst O (v := 2) dL_law_223 (by decide) ?_
        refine om_iadd O dL_law_224 ?_
        revert h; refine om_iteR (fun i6o h => ?_)
        refine om_sLd O hSc i6o dL_law_225 ?_
        refine om_aload_n O 0 dL_law_226 rfl rfl ?_
        refine om_iload_n O 3 dL_law_227 rfl rfl ?_
        refine om_iconst O (v := 3) dL_law_228 (by decide) ?_
        refine om_iadd O dL_law_229 ?_
        revert h; refine om_iteR (fun i7o h => ?_)
        refine om_sLd O hSc i7o dL_law_230 ?_
        revert h; refine om_callR (fun r2o σ2o g2o h => ?_)
        refine cl_L_17 O (st := [vI r1o]) (stk := [vI (scr (v3 + (3 : Int32)).toNatClampNeg), vI (scr (v3 + (2 : Int32)).toNatClampNeg), vI (scr (v3 + (1 : Int32)).toNatClampNeg), vR (some a2), vI r1o]) (st2 := [vI r2o, vI r1o]) [vI (scr (v3 + (1 : Int32)).toNatClampNeg), vI (scr (v3 + (2 : Int32)).toNatClampNeg), vI (scr (v3 + (3 : Int32)).toNatClampNeg)] (fun l G => c_X9_memory l G g2o) ka2 (om_lt ka2 (by decide)) (by decide) rfl rfl rfl_le rfl rfl_le rfl_le dL_law_231 ?_
        refine om_icmp_eq O (tgt := 1287) dL_law_234 (by decide) (fun c3o => ?_) (fun c3o => ?_)
        · replace h := (if_pos c3o).symm.trans h
          exact g_L_law_b1287 O hSc hE ih ka1 ka2 h
        · replace h := (if_neg c3o).symm.trans h
          refine om_iconst O (v := 0) dL_law_237 (by decide) ?_
          exact absurd h om_e01
      · replace h := (if_neg c2o).symm.trans h
        by_cases c4o : ((scr v3.toNatClampNeg) &&& (63 : Int32)) = 1
        · replace h := (if_pos c4o).symm.trans h
          refine om_tblIn O (b := 1) (off := 206) (tgt := 239) dL_law_33 c4o (by decide) (by decide) (by decide +kernel) (by decide) ?_
          refine om_aload_n O 1 dL_law_239 rfl rfl ?_
          refine om_aload_n O 0 dL_law_240 rfl rfl ?_
          refine om_iload_n O 3 dL_law_241 rfl rfl ?_
          refine om_iconst O (v := 1) dL_law_242 (by decide) ?_
          refine om_iadd O dL_law_243 ?_
          revert h; refine om_iteR (fun i8o h => ?_)
          refine om_sLd O hSc i8o dL_law_244 ?_
          refine om_aload_n O 0 dL_law_245 rfl rfl ?_
          refine om_iload_n O 3 dL_law_246 rfl rfl ?_
          refine om_iconst O (v := 2) dL_law_247 (by decide) ?_
          refine om_iadd O dL_law_248 ?_
          revert h; refine om_iteR (fun i9o h => ?_)
          refine om_sLd O hSc i9o dL_law_249 ?_
          revert h; refine om_callR (fun r3o σ3o g3o h => ?_)
          refine cl_L_18 O (st := []) (stk := [vI (scr (v3 + (2 : Int32)).toNatClampNeg), vI (scr (v3 + (1 : Int32)).toNatClampNeg), vR (some a1)]) (st2 := [vI r3o]) [vI (scr (v3 + (1 : Int32)).toNatClampNeg), vI (scr (v3 + (2 : Int32)).toNatClampNeg)] (fun l G => c_X8_memoryIs l G g3o) ka1 (om_lt ka1 (by decide)) (by decide) rfl rfl rfl_le rfl rfl_le rfl_le dL_law_250 ?_
          refine om_aload_n O 2 dL_law_253 rfl rfl ?_
          refine om_aload_n O 0 dL_law_254 rfl rfl ?_
          refine om_iload_n O 3 dL_law_255 rfl rfl ?_
          refine om_iconst O (v := 1) dL_law_256 (by decide) ?_
          refine om_iadd O dL_law_257 ?_
          revert h; refine om_iteR (fun i10o h => ?_)
          refine om_sLd O hSc i10o dL_law_258 ?_
          refine om_aload_n O 0 dL_law_259 rfl rfl ?_
          refine om_iload_n O 3 dL_law_260 rfl rfl ?_
          refine om_iconst O (v := 2) dL_law_261 (by decide) ?_
          refine om_iadd O dL_law_262 ?_
          revert h; refine om_iteR (fun i11o h => ?_)
          refine om_sLd O hSc i11o dL_law_263 ?_
          revert h; refine om_callR (fun r4o σ4o g4o h => ?_)
          refine cl_L_22 O (st := [vI r3o]) (stk := [vI (scr (v3 + (2 : Int32)).toNatClampNeg), vI (scr (v3 + (1 : Int32)).toNatClampNeg), vR (some a2), vI r3o]) (st2 := [vI r4o, vI r3o]) [vI (scr (v3 + (1 : Int32)).toNatClampNeg), vI (scr (v3 + (2 : Int32)).toNatClampNeg)] (fun l G => c_X9_memoryIs l G g4o) ka2 (om_lt ka2 (by decide)) (by decide) rfl rfl rfl_le rfl rfl_le rfl_le dL_law_264 ?_
          refine om_icmp_eq O (tgt := 1287) dL_law_267 (by decide) (fun c5o => ?_) (fun c5o => ?_)
          · replace h := (if_pos c5o).symm.trans h
            exact g_L_law_b1287 O hSc hE ih ka1 ka2 h
          · replace h := (if_neg c5o).symm.trans h
            refine om_iconst O (v := 0) dL_law_270 (by decide) ?_
            exact absurd h om_e01
        · replace h := (if_neg c4o).symm.trans h
          by_cases c6o : ((scr v3.toNatClampNeg) &&& (63 : Int32)) = 2
          · replace h := (if_pos c6o).symm.trans h
            refine om_tblIn O (b := 2) (off := 239) (tgt := 272) dL_law_33 c6o (by decide) (by decide) (by decide +kernel) (by decide) ?_
            refine om_aload_n O 1 dL_law_272 rfl rfl ?_
            refine om_aload_n O 0 dL_law_273 rfl rfl ?_
            refine om_iload_n O 3 dL_law_274 rfl rfl ?_
            refine om_iconst O (v := 1) dL_law_275 (by decide) ?_
            refine om_iadd O dL_law_276 ?_
            revert h; refine om_iteR (fun i12o h => ?_)
            refine om_sLd O hSc i12o dL_law_277 ?_
            refine om_aload_n O 0 dL_law_278 rfl rfl ?_
            refine om_iload_n O 3 dL_law_279 rfl rfl ?_
            refine om_iconst O (v := 2) dL_law_280 (by decide) ?_
            refine om_iadd O dL_law_281 ?_
            revert h; refine om_iteR (fun i13o h => ?_)
            refine om_sLd O hSc i13o dL_law_282 ?_
            revert h; refine om_callR (fun r5o σ5o g5o h => ?_)
            refine cl_L_23 O (st := []) (stk := [vI (scr (v3 + (2 : Int32)).toNatClampNeg), vI (scr (v3 + (1 : Int32)).toNatClampNeg), vR (some a1)]) (st2 := [vI r5o]) [vI (scr (v3 + (1 : Int32)).toNatClampNeg), vI (scr (v3 + (2 : Int32)).toNatClampNeg)] (fun l G => c_X8_become l G g5o) ka1 (om_lt ka1 (by decide)) (by decide) rfl rfl rfl_le rfl rfl_le rfl_le dL_law_283 ?_
            refine om_aload_n O 2 dL_law_286 rfl rfl ?_
            refine om_aload_n O 0 dL_law_287 rfl rfl ?_
            refine om_iload_n O 3 dL_law_288 rfl rfl ?_
            refine om_iconst O (v := 1) dL_law_289 (by decide) ?_
            refine om_iadd O dL_law_290 ?_
            revert h; refine om_iteR (fun i14o h => ?_)
            refine om_sLd O hSc i14o dL_law_291 ?_
            refine om_aload_n O 0 dL_law_292 rfl rfl ?_
            refine om_iload_n O 3 dL_law_293 rfl rfl ?_
            refine om_iconst O (v := 2) dL_law_294 (by decide) ?_
            refine om_iadd O dL_law_295 ?_
            revert h; refine om_iteR (fun i15o h => ?_)
            refine om_sLd O hSc i15o dL_law_296 ?_
            revert h; refine om_callR (fun r6o σ6o g6o h => ?_)
            refine cl_L_26 O (st := [vI r5o]) (stk := [vI (scr (v3 + (2 : Int32)).toNatClampNeg), vI (scr (v3 + (1 : Int32)).toNatClampNeg), vR (some a2), vI r5o]) (st2 := [vI r6o, vI r5o]) [vI (scr (v3 + (1 : Int32)).toNatClampNeg), vI (scr (v3 + (2 : Int32)).toNatClampNeg)] (fun l G => c_X9_become l G g6o) ka2 (om_lt ka2 (by decide)) (by decide) rfl rfl rfl_le rfl rfl_le rfl_le dL_law_297 ?_
            refine om_icmp_eq O (tgt := 1287) dL_law_300 (by decide) (fun c7o => ?_) (fun c7o => ?_)
            · replace h := (if_pos c7o).symm.trans h
              exact g_L_law_b1287 O hSc hE ih ka1 ka2 h
            · replace h := (if_neg c7o).symm.trans h
              refine om_iconst O (v := 0) dL_law_303 (by decide) ?_
              exact absurd h om_e01
          · replace h := (if_neg c6o).symm.trans h
            by_cases c8o : ((scr v3.toNatClampNeg) &&& (63 : Int32)) = 3
            · replace h := (if_pos c8o).symm.trans h
              refine om_tblIn O (b := 3) (off := 272) (tgt := 305) dL_law_33 c8o (by decide) (by decide) (by decide +kernel) (by decide) ?_
              refine om_aload_n O 1 dL_law_305 rfl rfl ?_
              refine om_aload_n O 0 dL_law_306 rfl rfl ?_
              refine om_iload_n O 3 dL_law_307 rfl rfl ?_
              refine om_iconst O (v := 1) dL_law_308 (by decide) ?_
              refine om_iadd O dL_law_309 ?_
              revert h; refine om_iteR (fun i16o h => ?_)
              refine om_sLd O hSc i16o dL_law_310 ?_
              refine om_aload_n O 0 dL_law_311 rfl rfl ?_
              refine om_iload_n O 3 dL_law_312 rfl rfl ?_
              refine om_iconst O (v := 2) dL_law_313 (by decide) ?_
              refine om_iadd O dL_law_314 ?_
              revert h; refine om_iteR (fun i17o h => ?_)
              refine om_sLd O hSc i17o dL_law_315 ?_
              revert h; refine om_callR (fun r7o σ7o g7o h => ?_)
              refine cl_L_27 O (st := []) (stk := [vI (scr (v3 + (2 : Int32)).toNatClampNeg), vI (scr (v3 + (1 : Int32)).toNatClampNeg), vR (some a1)]) (st2 := [vI r7o]) [vI (scr (v3 + (1 : Int32)).toNatClampNeg), vI (scr (v3 + (2 : Int32)).toNatClampNeg)] (fun l G => c_X8_as l G g7o) ka1 (om_lt ka1 (by decide)) (by decide) rfl rfl rfl_le rfl rfl_le rfl_le dL_law_316 ?_
              refine om_aload_n O 2 dL_law_319 rfl rfl ?_
              refine om_aload_n O 0 dL_law_320 rfl rfl ?_
              refine om_iload_n O 3 dL_law_321 rfl rfl ?_
              refine om_iconst O (v := 1) dL_law_322 (by decide) ?_
              refine om_iadd O dL_law_323 ?_
              revert h; refine om_iteR (fun i18o h => ?_)
              refine om_sLd O hSc i18o dL_law_324 ?_
              refine om_aload_n O 0 dL_law_325 rfl rfl ?_
              refine om_iload_n O 3 dL_law_326 rfl rfl ?_
              refine om_iconst O (v := 2) dL_law_327 (by decide) ?_
              refine om_iadd O dL_law_328 ?_
              revert h; refine om_iteR (fun i19o h => ?_)
              refine om_sLd O hSc i19o dL_law_329 ?_
              revert h; refine om_callR (fun r8o σ8o g8o h => ?_)
              refine cl_L_30 O (st := [vI r7o]) (stk := [vI (scr (v3 + (2 : Int32)).toNatClampNeg), vI (scr (v3 + (1 : Int32)).toNatClampNeg), vR (some a2), vI r7o]) (st2 := [vI r8o, vI r7o]) [vI (scr (v3 + (1 : Int32)).toNatClampNeg), vI (scr (v3 + (2 : Int32)).toNatClampNeg)] (fun l G => c_X9_as l G g8o) ka2 (om_lt ka2 (by decide)) (by decide) rfl rfl rfl_le rfl rfl_le rfl_le dL_law_330 ?_
              refine om_icmp_eq O (tgt := 1287) dL_law_333 (by decide) (fun c9o => ?_) (fun c9o => ?_)
              · replace h := (if_pos c9o).symm.trans h
                exact g_L_law_b1287 O hSc hE ih ka1 ka2 h
              · replace h := (if_neg c9o).symm.trans h
                refine om_iconst O (v := 0) dL_law_336 (by decide) ?_
                exact absurd h om_e01
            · replace h := (if_neg c8o).symm.trans h
              by_cases c10o : ((scr v3.toNatClampNeg) &&& (63 : Int32)) = 4
              · replace h := (if_pos c10o).symm.trans h
                refine om_tblIn O (b := 4) (off := 305) (tgt := 338) dL_law_33 c10o (by decide) (by decide) (by decide +kernel) (by decide) ?_
                refine om_aload_n O 1 dL_law_338 rfl rfl ?_
                refine om_aload_n O 0 dL_law_339 rfl rfl ?_
                refine om_iload_n O 3 dL_law_340 rfl rfl ?_
                refine om_iconst O (v := 1) dL_law_341 (by decide) ?_
                refine om_iadd O dL_law_342 ?_
                revert h; refine om_iteR (fun i20o h => ?_)
                refine om_sLd O hSc i20o dL_law_343 ?_
                refine om_aload_n O 0 dL_law_344 rfl rfl ?_
                refine om_iload_n O 3 dL_law_345 rfl rfl ?_
                refine om_iconst O (v := 2) dL_law_346 (by decide) ?_
                refine om_iadd O dL_law_347 ?_
                revert h; refine om_iteR (fun i21o h => ?_)
                refine om_sLd O hSc i21o dL_law_348 ?_
                revert h; refine om_callR (fun r9o σ9o g9o h => ?_)
                refine cl_L_31 O (st := []) (stk := [vI (scr (v3 + (2 : Int32)).toNatClampNeg), vI (scr (v3 + (1 : Int32)).toNatClampNeg), vR (some a1)]) (st2 := [vI r9o]) [vI (scr (v3 + (1 : Int32)).toNatClampNeg), vI (scr (v3 + (2 : Int32)).toNatClampNeg)] (fun l G => c_X8_fills l G g9o) ka1 (om_lt ka1 (by decide)) (by decide) rfl rfl rfl_le rfl rfl_le rfl_le dL_law_349 ?_
                refine om_aload_n O 2 dL_law_352 rfl rfl ?_
                refine om_aload_n O 0 dL_law_353 rfl rfl ?_
                refine om_iload_n O 3 dL_law_354 rfl rfl ?_
                refine om_iconst O (v := 1) dL_law_355 (by decide) ?_
                refine om_iadd O dL_law_356 ?_
                revert h; refine om_iteR (fun i22o h => ?_)
                refine om_sLd O hSc i22o dL_law_357 ?_
                refine om_aload_n O 0 dL_law_358 rfl rfl ?_
                refine om_iload_n O 3 dL_law_359 rfl rfl ?_
                refine om_iconst O (v := 2) dL_law_360 (by decide) ?_
                refine om_iadd O dL_law_361 ?_
                revert h; refine om_iteR (fun i23o h => ?_)
                refine om_sLd O hSc i23o dL_law_362 ?_
                revert h; refine om_callR (fun r10o σ10o g10o h => ?_)
                refine cl_L_34 O (st := [vI r9o]) (stk := [vI (scr (v3 + (2 : Int32)).toNatClampNeg), vI (scr (v3 + (1 : Int32)).toNatClampNeg), vR (some a2), vI r9o]) (st2 := [vI r10o, vI r9o]) [vI (scr (v3 + (1 : Int32)).toNatClampNeg), vI (scr (v3 + (2 : Int32)).toNatClampNeg)] (fun l G => c_X9_fills l G g10o) ka2 (om_lt ka2 (by decide)) (by decide) rfl rfl rfl_le rfl rfl_le rfl_le dL_law_363 ?_
                refine om_icmp_eq O (tgt := 1287) dL_law_366 (by decide) (fun c11o => ?_) (fun c11o => ?_)
                · replace h := (if_pos c11o).symm.trans h
                  exact g_L_law_b1287 O hSc hE ih ka1 ka2 h
                · replace h := (if_neg c11o).symm.trans h
                  refine om_iconst O (v := 0) dL_law_369 (by decide) ?_
                  exact absurd h om_e01
              · replace h := (if_neg c10o).symm.trans h
                by_cases c12o : ((scr v3.toNatClampNeg) &&& (63 : Int32)) = 5
                · replace h := (if_pos c12o).symm.trans h
                  refine om_tblIn O (b := 5) (off := 338) (tgt := 371) dL_law_33 c12o (by decide) (by decide) (by decide +kernel) (by decide) ?_
                  refine om_aload_n O 1 dL_law_371 rfl rfl ?_
                  refine om_aload_n O 0 dL_law_372 rfl rfl ?_
                  refine om_iload_n O 3 dL_law_373 rfl rfl ?_
                  refine om_iconst O (v := 1) dL_law_374 (by decide) ?_
                  refine om_iadd O dL_law_375 ?_
                  revert h; refine om_iteR (fun i24o h => ?_)
                  refine om_sLd O hSc i24o dL_law_376 ?_
                  refine om_aload_n O 0 dL_law_377 rfl rfl ?_
                  refine om_iload_n O 3 dL_law_378 rfl rfl ?_
                  refine om_iconst O (v := 2) dL_law_379 (by decide) ?_
                  refine om_iadd O dL_law_380 ?_
                  revert h; refine om_iteR (fun i25o h => ?_)
                  refine om_sLd O hSc i25o dL_law_381 ?_
                  revert h; refine om_callR (fun r11o σ11o g11o h => ?_)
                  refine cl_L_35 O (st := []) (stk := [vI (scr (v3 + (2 : Int32)).toNatClampNeg), vI (scr (v3 + (1 : Int32)).toNatClampNeg), vR (some a1)]) (st2 := [vI r11o]) [vI (scr (v3 + (1 : Int32)).toNatClampNeg), vI (scr (v3 + (2 : Int32)).toNatClampNeg)] (fun l G => c_X8_dear l G g11o) ka1 (om_lt ka1 (by decide)) (by decide) rfl rfl rfl_le rfl rfl_le rfl_le dL_law_382 ?_
                  refine om_aload_n O 2 dL_law_385 rfl rfl ?_
                  refine om_aload_n O 0 dL_law_386 rfl rfl ?_
                  refine om_iload_n O 3 dL_law_387 rfl rfl ?_
                  refine om_iconst O (v := 1) dL_law_388 (by decide) ?_
                  refine om_iadd O dL_law_389 ?_
                  revert h; refine om_iteR (fun i26o h => ?_)
                  refine om_sLd O hSc i26o dL_law_390 ?_
                  refine om_aload_n O 0 dL_law_391 rfl rfl ?_
                  refine om_iload_n O 3 dL_law_392 rfl rfl ?_
                  refine om_iconst O (v := 2) dL_law_393 (by decide) ?_
                  refine om_iadd O dL_law_394 ?_
                  revert h; refine om_iteR (fun i27o h => ?_)
                  refine om_sLd O hSc i27o dL_law_395 ?_
                  revert h; refine om_callR (fun r12o σ12o g12o h => ?_)
                  refine cl_L_38 O (st := [vI r11o]) (stk := [vI (scr (v3 + (2 : Int32)).toNatClampNeg), vI (scr (v3 + (1 : Int32)).toNatClampNeg), vR (some a2), vI r11o]) (st2 := [vI r12o, vI r11o]) [vI (scr (v3 + (1 : Int32)).toNatClampNeg), vI (scr (v3 + (2 : Int32)).toNatClampNeg)] (fun l G => c_X9_dear l G g12o) ka2 (om_lt ka2 (by decide)) (by decide) rfl rfl rfl_le rfl rfl_le rfl_le dL_law_396 ?_
                  refine om_icmp_eq O (tgt := 1287) dL_law_399 (by decide) (fun c13o => ?_) (fun c13o => ?_)
                  · replace h := (if_pos c13o).symm.trans h
                    exact g_L_law_b1287 O hSc hE ih ka1 ka2 h
                  · replace h := (if_neg c13o).symm.trans h
                    refine om_iconst O (v := 0) dL_law_402 (by decide) ?_
                    exact absurd h om_e01
                · replace h := (if_neg c12o).symm.trans h
                  by_cases c14o : ((scr v3.toNatClampNeg) &&& (63 : Int32)) = 6
                  · replace h := (if_pos c14o).symm.trans h
                    refine om_tblIn O (b := 6) (off := 371) (tgt := 404) dL_law_33 c14o (by decide) (by decide) (by decide +kernel) (by decide) ?_
                    refine om_aload_n O 1 dL_law_404 rfl rfl ?_
                    refine om_aload_n O 0 dL_law_405 rfl rfl ?_
                    refine om_iload_n O 3 dL_law_406 rfl rfl ?_
                    refine om_iconst O (v := 1) dL_law_407 (by decide) ?_
                    refine om_iadd O dL_law_408 ?_
                    revert h; refine om_iteR (fun i28o h => ?_)
                    refine om_sLd O hSc i28o dL_law_409 ?_
                    refine om_aload_n O 0 dL_law_410 rfl rfl ?_
                    refine om_iload_n O 3 dL_law_411 rfl rfl ?_
                    refine om_iconst O (v := 2) dL_law_412 (by decide) ?_
                    refine om_iadd O dL_law_413 ?_
                    revert h; refine om_iteR (fun i29o h => ?_)
                    refine om_sLd O hSc i29o dL_law_414 ?_
                    revert h; refine om_callR (fun r13o σ13o g13o h => ?_)
                    refine cl_L_39 O (st := []) (stk := [vI (scr (v3 + (2 : Int32)).toNatClampNeg), vI (scr (v3 + (1 : Int32)).toNatClampNeg), vR (some a1)]) (st2 := [vI r13o]) [vI (scr (v3 + (1 : Int32)).toNatClampNeg), vI (scr (v3 + (2 : Int32)).toNatClampNeg)] (fun l G => c_X8_trim l G g13o) ka1 (om_lt ka1 (by decide)) (by decide) rfl rfl rfl_le rfl rfl_le rfl_le dL_law_415 ?_
                    refine om_aload_n O 2 dL_law_418 rfl rfl ?_
                    refine om_aload_n O 0 dL_law_419 rfl rfl ?_
                    refine om_iload_n O 3 dL_law_420 rfl rfl ?_
                    refine om_iconst O (v := 1) dL_law_421 (by decide) ?_
                    refine om_iadd O dL_law_422 ?_
                    revert h; refine om_iteR (fun i30o h => ?_)
                    refine om_sLd O hSc i30o dL_law_423 ?_
                    refine om_aload_n O 0 dL_law_424 rfl rfl ?_
                    refine om_iload_n O 3 dL_law_425 rfl rfl ?_
                    refine om_iconst O (v := 2) dL_law_426 (by decide) ?_
                    refine om_iadd O dL_law_427 ?_
                    revert h; refine om_iteR (fun i31o h => ?_)
                    refine om_sLd O hSc i31o dL_law_428 ?_
                    revert h; refine om_callR (fun r14o σ14o g14o h => ?_)
                    refine cl_L_42 O (st := [vI r13o]) (stk := [vI (scr (v3 + (2 : Int32)).toNatClampNeg), vI (scr (v3 + (1 : Int32)).toNatClampNeg), vR (some a2), vI r13o]) (st2 := [vI r14o, vI r13o]) [vI (scr (v3 + (1 : Int32)).toNatClampNeg), vI (scr (v3 + (2 : Int32)).toNatClampNeg)] (fun l G => c_X9_trim l G g14o) ka2 (om_lt ka2 (by decide)) (by decide) rfl rfl rfl_le rfl rfl_le rfl_le dL_law_429 ?_
                    refine om_icmp_eq O (tgt := 1287) dL_law_432 (by decide) (fun c15o => ?_) (fun c15o => ?_)
                    · replace h := (if_pos c15o).symm.trans h
                      exact g_L_law_b1287 O hSc hE ih ka1 ka2 h
                    · replace h := (if_neg c15o).symm.trans h
                      refine om_iconst O (v := 0) dL_law_435 (by decide) ?_
                      exact absurd h om_e01
                  · replace h := (if_neg c14o).symm.trans h
                    by_cases c16o : ((scr v3.toNatClampNeg) &&& (63 : Int32)) = 7
                    · replace h := (if_pos c16o).symm.trans h
                      refine om_tblIn O (b := 7) (off := 404) (tgt := 437) dL_law_33 c16o (by decide) (by decide) (by decide +kernel) (by decide) ?_
                      refine om_aload_n O 1 dL_law_437 rfl rfl ?_
                      refine om_aload_n O 0 dL_law_438 rfl rfl ?_
                      refine om_iload_n O 3 dL_law_439 rfl rfl ?_
                      refine om_iconst O (v := 1) dL_law_440 (by decide) ?_
                      refine om_iadd O dL_law_441 ?_
                      revert h; refine om_iteR (fun i32o h => ?_)
                      refine om_sLd O hSc i32o dL_law_442 ?_
                      refine om_aload_n O 0 dL_law_443 rfl rfl ?_
                      refine om_iload_n O 3 dL_law_444 rfl rfl ?_
                      refine om_iconst O (v := 2) dL_law_445 (by decide) ?_
                      refine om_iadd O dL_law_446 ?_
                      revert h; refine om_iteR (fun i33o h => ?_)
                      refine om_sLd O hSc i33o dL_law_447 ?_
                      revert h; refine om_callR (fun r15o σ15o g15o h => ?_)
                      refine cl_L_43 O (st := []) (stk := [vI (scr (v3 + (2 : Int32)).toNatClampNeg), vI (scr (v3 + (1 : Int32)).toNatClampNeg), vR (some a1)]) (st2 := [vI r15o]) [vI (scr (v3 + (1 : Int32)).toNatClampNeg), vI (scr (v3 + (2 : Int32)).toNatClampNeg)] (fun l G => c_X8_tells l G g15o) ka1 (om_lt ka1 (by decide)) (by decide) rfl rfl rfl_le rfl rfl_le rfl_le dL_law_448 ?_
                      refine om_aload_n O 2 dL_law_451 rfl rfl ?_
                      refine om_aload_n O 0 dL_law_452 rfl rfl ?_
                      refine om_iload_n O 3 dL_law_453 rfl rfl ?_
                      refine om_iconst O (v := 1) dL_law_454 (by decide) ?_
                      refine om_iadd O dL_law_455 ?_
                      revert h; refine om_iteR (fun i34o h => ?_)
                      refine om_sLd O hSc i34o dL_law_456 ?_
                      refine om_aload_n O 0 dL_law_457 rfl rfl ?_
                      refine om_iload_n O 3 dL_law_458 rfl rfl ?_
                      refine om_iconst O (v := 2) dL_law_459 (by decide) ?_
                      refine om_iadd O dL_law_460 ?_
                      revert h; refine om_iteR (fun i35o h => ?_)
                      refine om_sLd O hSc i35o dL_law_461 ?_
                      revert h; refine om_callR (fun r16o σ16o g16o h => ?_)
                      refine cl_L_46 O (st := [vI r15o]) (stk := [vI (scr (v3 + (2 : Int32)).toNatClampNeg), vI (scr (v3 + (1 : Int32)).toNatClampNeg), vR (some a2), vI r15o]) (st2 := [vI r16o, vI r15o]) [vI (scr (v3 + (1 : Int32)).toNatClampNeg), vI (scr (v3 + (2 : Int32)).toNatClampNeg)] (fun l G => c_X9_tells l G g16o) ka2 (om_lt ka2 (by decide)) (by decide) rfl rfl rfl_le rfl rfl_le rfl_le dL_law_462 ?_
                      refine om_icmp_eq O (tgt := 1287) dL_law_465 (by decide) (fun c17o => ?_) (fun c17o => ?_)
                      · replace h := (if_pos c17o).symm.trans h
                        exact g_L_law_b1287 O hSc hE ih ka1 ka2 h
                      · replace h := (if_neg c17o).symm.trans h
                        refine om_iconst O (v := 0) dL_law_468 (by decide) ?_
                        exact absurd h om_e01
                    · replace h := (if_neg c16o).symm.trans h
                      by_cases c18o : ((scr v3.toNatClampNeg) &&& (63 : Int32)) = 8
                      · replace h := (if_pos c18o).symm.trans h
                        refine om_tblIn O (b := 8) (off := 437) (tgt := 470) dL_law_33 c18o (by decide) (by decide) (by decide +kernel) (by decide) ?_
                        refine om_aload_n O 1 dL_law_470 rfl rfl ?_
                        refine om_aload_n O 0 dL_law_471 rfl rfl ?_
                        refine om_iload_n O 3 dL_law_472 rfl rfl ?_
                        refine om_iconst O (v := 1) dL_law_473 (by decide) ?_
                        refine om_iadd O dL_law_474 ?_
                        revert h; refine om_iteR (fun i36o h => ?_)
                        refine om_sLd O hSc i36o dL_law_475 ?_
                        revert h; refine om_callR (fun r17o σ17o g17o h => ?_)
                        refine cl_L_47 O (st := []) (stk := [vI (scr (v3 + (1 : Int32)).toNatClampNeg), vR (some a1)]) (st2 := [vI r17o]) [vI (scr (v3 + (1 : Int32)).toNatClampNeg)] (fun l G => c_X8_blows l G g17o) ka1 (om_lt ka1 (by decide)) (by decide) rfl rfl rfl_le rfl rfl_le rfl_le dL_law_476 ?_
                        refine om_aload_n O 2 dL_law_479 rfl rfl ?_
                        refine om_aload_n O 0 dL_law_480 rfl rfl ?_
                        refine om_iload_n O 3 dL_law_481 rfl rfl ?_
                        refine om_iconst O (v := 1) dL_law_482 (by decide) ?_
                        refine om_iadd O dL_law_483 ?_
                        revert h; refine om_iteR (fun i37o h => ?_)
                        refine om_sLd O hSc i37o dL_law_484 ?_
                        revert h; refine om_callR (fun r18o σ18o g18o h => ?_)
                        refine cl_L_51 O (st := [vI r17o]) (stk := [vI (scr (v3 + (1 : Int32)).toNatClampNeg), vR (some a2), vI r17o]) (st2 := [vI r18o, vI r17o]) [vI (scr (v3 + (1 : Int32)).toNatClampNeg)] (fun l G => c_X9_blows l G g18o) ka2 (om_lt ka2 (by decide)) (by decide) rfl rfl rfl_le rfl rfl_le rfl_le dL_law_485 ?_
                        refine om_icmp_eq O (tgt := 1287) dL_law_488 (by decide) (fun c19o => ?_) (fun c19o => ?_)
                        · replace h := (if_pos c19o).symm.trans h
                          exact g_L_law_b1287 O hSc hE ih ka1 ka2 h
                        · replace h := (if_neg c19o).symm.trans h
                          refine om_iconst O (v := 0) dL_law_491 (by decide) ?_
                          exact absurd h om_e01
                      · replace h := (if_neg c18o).symm.trans h
                        by_cases c20o : ((scr v3.toNatClampNeg) &&& (63 : Int32)) = 9
                        · replace h := (if_pos c20o).symm.trans h
                          refine om_tblIn O (b := 9) (off := 460) (tgt := 493) dL_law_33 c20o (by decide) (by decide) (by decide +kernel) (by decide) ?_
                          refine om_aload_n O 1 dL_law_493 rfl rfl ?_
                          refine om_aload_n O 0 dL_law_494 rfl rfl ?_
                          refine om_iload_n O 3 dL_law_495 rfl rfl ?_
                          refine om_iconst O (v := 1) dL_law_496 (by decide) ?_
                          refine om_iadd O dL_law_497 ?_
                          revert h; refine om_iteR (fun i38o h => ?_)
                          refine om_sLd O hSc i38o dL_law_498 ?_
                          refine om_i2l O dL_law_499 ?_
                          refine om_bipush O (v := 32) dL_law_500 (by decide) ?_
                          refine om_lshl O dL_law_502 ?_
                          refine om_aload_n O 0 dL_law_503 rfl rfl ?_
                          refine om_iload_n O 3 dL_law_504 rfl rfl ?_
                          refine om_iconst O (v := 2) dL_law_505 (by decide) ?_
                          refine om_iadd O dL_law_506 ?_
                          revert h; refine om_iteR (fun i39o h => ?_)
                          refine om_sLd O hSc i39o dL_law_507 ?_
                          refine om_i2l O dL_law_508 ?_
                          refine om_ldc2 O (v := 4294967295) wd_1181 dL_law_509 ?_
                          refine om_land O dL_law_512 ?_
                          refine om_lor O dL_law_513 ?_
                          refine om_aload_n O 0 dL_law_514 rfl rfl ?_
                          refine om_iload_n O 3 dL_law_515 rfl rfl ?_
                          refine om_iconst O (v := 3) dL_law_516 (by decide) ?_
                          refine om_iadd O dL_law_517 ?_
                          revert h; refine om_iteR (fun i40o h => ?_)
                          refine om_sLd O hSc i40o dL_law_518 ?_
                          revert h; refine om_callR (fun r19o σ19o g19o h => ?_)
                          refine cl_L_54 O (st := []) (stk := [vI (scr (v3 + (3 : Int32)).toNatClampNeg), vL ((((scr (v3 + (1 : Int32)).toNatClampNeg).toInt64) <<< ((32 : Int32).toInt64 &&& 63)) ||| (((scr (v3 + (2 : Int32)).toNatClampNeg).toInt64) &&& (4294967295 : Int64))), vR (some a1)]) (st2 := [vI r19o]) [vL ((((scr (v3 + (1 : Int32)).toNatClampNeg).toInt64) <<< ((32 : Int32).toInt64 &&& 63)) ||| (((scr (v3 + (2 : Int32)).toNatClampNeg).toInt64) &&& (4294967295 : Int64))), vI (scr (v3 + (3 : Int32)).toNatClampNeg)] (fun l G => c_X8_feed l G g19o) ka1 (om_lt ka1 (by decide)) (by decide) rfl rfl rfl_le rfl rfl_le rfl_le dL_law_519 ?_
                          refine om_aload_n O 2 dL_law_522 rfl rfl ?_
                          refine om_aload_n O 0 dL_law_523 rfl rfl ?_
                          refine om_iload_n O 3 dL_law_524 rfl rfl ?_
                          refine om_iconst O (v := 1) dL_law_525 (by decide) ?_
                          refine om_iadd O dL_law_526 ?_
                          revert h; refine om_iteR (fun i41o h => ?_)
                          refine om_sLd O hSc i41o dL_law_527 ?_
                          refine om_i2l O dL_law_528 ?_
                          refine om_bipush O (v := 32) dL_law_529 (by decide) ?_
                          refine om_lshl O dL_law_531 ?_
                          refine om_aload_n O 0 dL_law_532 rfl rfl ?_
                          refine om_iload_n O 3 dL_law_533 rfl rfl ?_
                          refine om_iconst O (v := 2) dL_law_534 (by decide) ?_
                          refine om_iadd O dL_law_535 ?_
                          revert h; refine om_iteR (fun i42o h => ?_)
                          refine om_sLd O hSc i42o dL_law_536 ?_
                          refine om_i2l O dL_law_537 ?_
                          refine om_ldc2 O (v := 4294967295) wd_1181 dL_law_538 ?_
                          refine om_land O dL_law_541 ?_
                          refine om_lor O dL_law_542 ?_
                          refine om_aload_n O 0 dL_law_543 rfl rfl ?_
                          refine om_iload_n O 3 dL_law_544 rfl rfl ?_
                          refine om_iconst O (v := 3) dL_law_545 (by decide) ?_
                          refine om_iadd O dL_law_546 ?_
                          revert h; refine om_iteR (fun i43o h => ?_)
                          refine om_sLd O hSc i43o dL_law_547 ?_
                          revert h; refine om_callR (fun r20o σ20o g20o h => ?_)
                          refine cl_L_58 O (st := [vI r19o]) (stk := [vI (scr (v3 + (3 : Int32)).toNatClampNeg), vL ((((scr (v3 + (1 : Int32)).toNatClampNeg).toInt64) <<< ((32 : Int32).toInt64 &&& 63)) ||| (((scr (v3 + (2 : Int32)).toNatClampNeg).toInt64) &&& (4294967295 : Int64))), vR (some a2), vI r19o]) (st2 := [vI r20o, vI r19o]) [vL ((((scr (v3 + (1 : Int32)).toNatClampNeg).toInt64) <<< ((32 : Int32).toInt64 &&& 63)) ||| (((scr (v3 + (2 : Int32)).toNatClampNeg).toInt64) &&& (4294967295 : Int64))), vI (scr (v3 + (3 : Int32)).toNatClampNeg)] (fun l G => c_X9_feed l G g20o) ka2 (om_lt ka2 (by decide)) (by decide) rfl rfl rfl_le rfl rfl_le rfl_le dL_law_548 ?_
                          refine om_icmp_eq O (tgt := 1287) dL_law_551 (by decide) (fun c21o => ?_) (fun c21o => ?_)
                          · replace h := (if_pos c21o).symm.trans h
                            exact g_L_law_b1287 O hSc hE ih ka1 ka2 h
                          · replace h := (if_neg c21o).symm.trans h
                            refine om_iconst O (v := 0) dL_law_554 (by decide) ?_
                            exact absurd h om_e01
                        · replace h := (if_neg c20o).symm.trans h
                          by_cases c22o : ((scr v3.toNatClampNeg) &&& (63 : Int32)) = 10
                          · replace h := (if_pos c22o).symm.trans h
                            refine om_tblIn O (b := 10) (off := 523) (tgt := 556) dL_law_33 c22o (by decide) (by decide) (by decide +kernel) (by decide) ?_
                            refine om_aload_n O 1 dL_law_556 rfl rfl ?_
                            refine om_aload_n O 0 dL_law_557 rfl rfl ?_
                            refine om_iload_n O 3 dL_law_558 rfl rfl ?_
                            refine om_iconst O (v := 1) dL_law_559 (by decide) ?_
                            refine om_iadd O dL_law_560 ?_
                            revert h; refine om_iteR (fun i44o h => ?_)
                            refine om_sLd O hSc i44o dL_law_561 ?_
                            revert h; refine om_callR (fun r21o σ21o g21o h => ?_)
                            refine cl_L_59 O (st := []) (stk := [vI (scr (v3 + (1 : Int32)).toNatClampNeg), vR (some a1)]) (st2 := [vI r21o]) [vI (scr (v3 + (1 : Int32)).toNatClampNeg)] (fun l G => c_X8_text l G g21o) ka1 (om_lt ka1 (by decide)) (by decide) rfl rfl rfl_le rfl rfl_le rfl_le dL_law_562 ?_
                            refine om_aload_n O 2 dL_law_565 rfl rfl ?_
                            refine om_aload_n O 0 dL_law_566 rfl rfl ?_
                            refine om_iload_n O 3 dL_law_567 rfl rfl ?_
                            refine om_iconst O (v := 1) dL_law_568 (by decide) ?_
                            refine om_iadd O dL_law_569 ?_
                            revert h; refine om_iteR (fun i45o h => ?_)
                            refine om_sLd O hSc i45o dL_law_570 ?_
                            revert h; refine om_callR (fun r22o σ22o g22o h => ?_)
                            refine cl_L_62 O (st := [vI r21o]) (stk := [vI (scr (v3 + (1 : Int32)).toNatClampNeg), vR (some a2), vI r21o]) (st2 := [vI r22o, vI r21o]) [vI (scr (v3 + (1 : Int32)).toNatClampNeg)] (fun l G => c_X9_text l G g22o) ka2 (om_lt ka2 (by decide)) (by decide) rfl rfl rfl_le rfl rfl_le rfl_le dL_law_571 ?_
                            refine om_icmp_eq O (tgt := 1287) dL_law_574 (by decide) (fun c23o => ?_) (fun c23o => ?_)
                            · replace h := (if_pos c23o).symm.trans h
                              exact g_L_law_b1287 O hSc hE ih ka1 ka2 h
                            · replace h := (if_neg c23o).symm.trans h
                              refine om_iconst O (v := 0) dL_law_577 (by decide) ?_
                              exact absurd h om_e01
                          · replace h := (if_neg c22o).symm.trans h
                            by_cases c24o : ((scr v3.toNatClampNeg) &&& (63 : Int32)) = 11
                            · replace h := (if_pos c24o).symm.trans h
                              refine om_tblIn O (b := 11) (off := 546) (tgt := 579) dL_law_33 c24o (by decide) (by decide) (by decide +kernel) (by decide) ?_
                              refine om_aload_n O 1 dL_law_579 rfl rfl ?_
                              refine om_aload_n O 0 dL_law_580 rfl rfl ?_
                              refine om_iload_n O 3 dL_law_581 rfl rfl ?_
                              refine om_iconst O (v := 1) dL_law_582 (by decide) ?_
                              refine om_iadd O dL_law_583 ?_
                              revert h; refine om_iteR (fun i46o h => ?_)
                              refine om_sLd O hSc i46o dL_law_584 ?_
                              revert h; refine om_callR (fun r23o σ23o g23o h => ?_)
                              refine cl_L_63 O (st := []) (stk := [vI (scr (v3 + (1 : Int32)).toNatClampNeg), vR (some a1)]) (st2 := [vI r23o]) [vI (scr (v3 + (1 : Int32)).toNatClampNeg)] (fun l G => c_X8_untell l G g23o) ka1 (om_lt ka1 (by decide)) (by decide) rfl rfl rfl_le rfl rfl_le rfl_le dL_law_585 ?_
                              refine om_aload_n O 2 dL_law_588 rfl rfl ?_
                              refine om_aload_n O 0 dL_law_589 rfl rfl ?_
                              refine om_iload_n O 3 dL_law_590 rfl rfl ?_
                              refine om_iconst O (v := 1) dL_law_591 (by decide) ?_
                              refine om_iadd O dL_law_592 ?_
                              revert h; refine om_iteR (fun i47o h => ?_)
                              refine om_sLd O hSc i47o dL_law_593 ?_
                              revert h; refine om_callR (fun r24o σ24o g24o h => ?_)
                              refine cl_L_66 O (st := [vI r23o]) (stk := [vI (scr (v3 + (1 : Int32)).toNatClampNeg), vR (some a2), vI r23o]) (st2 := [vI r24o, vI r23o]) [vI (scr (v3 + (1 : Int32)).toNatClampNeg)] (fun l G => c_X9_untell l G g24o) ka2 (om_lt ka2 (by decide)) (by decide) rfl rfl rfl_le rfl rfl_le rfl_le dL_law_594 ?_
                              refine om_icmp_eq O (tgt := 1287) dL_law_597 (by decide) (fun c25o => ?_) (fun c25o => ?_)
                              · replace h := (if_pos c25o).symm.trans h
                                exact g_L_law_b1287 O hSc hE ih ka1 ka2 h
                              · replace h := (if_neg c25o).symm.trans h
                                refine om_iconst O (v := 0) dL_law_600 (by decide) ?_
                                exact absurd h om_e01
                            · replace h := (if_neg c24o).symm.trans h
                              by_cases c26o : ((scr v3.toNatClampNeg) &&& (63 : Int32)) = 12
                              · replace h := (if_pos c26o).symm.trans h
                                refine om_tblIn O (b := 12) (off := 569) (tgt := 602) dL_law_33 c26o (by decide) (by decide) (by decide +kernel) (by decide) ?_
                                refine om_aload_n O 1 dL_law_602 rfl rfl ?_
                                refine om_aload_n O 0 dL_law_603 rfl rfl ?_
                                refine om_iload_n O 3 dL_law_604 rfl rfl ?_
                                refine om_iconst O (v := 1) dL_law_605 (by decide) ?_
                                refine om_iadd O dL_law_606 ?_
                                revert h; refine om_iteR (fun i48o h => ?_)
                                refine om_sLd O hSc i48o dL_law_607 ?_
                                refine om_aload_n O 0 dL_law_608 rfl rfl ?_
                                refine om_iload_n O 3 dL_law_609 rfl rfl ?_
                                refine om_iconst O (v := 2) dL_law_610 (by decide) ?_
                                refine om_iadd O dL_law_611 ?_
                                revert h; refine om_iteR (fun i49o h => ?_)
                                refine om_sLd O hSc i49o dL_law_612 ?_
                                refine om_aload_n O 0 dL_law_613 rfl rfl ?_
                                refine om_iload_n O 3 dL_law_614 rfl rfl ?_
                                refine om_iconst O (v := 3) dL_law_615 (by decide) ?_
                                refine om_iadd O dL_law_616 ?_
                                revert h; refine om_iteR (fun i50o h => ?_)
                                refine om_sLd O hSc i50o dL_law_617 ?_
                                refine om_aload_n O 0 dL_law_618 rfl rfl ?_
                                refine om_iload_n O 3 dL_law_619 rfl rfl ?_
                                refine om_iconst O (v := 4) dL_law_620 (by decide) ?_
                                refine om_iadd O dL_law_621 ?_
                                revert h; refine om_iteR (fun i51o h => ?_)
                                refine om_sLd O hSc i51o dL_law_622 ?_
                                revert h; refine om_callR (fun r25o σ25o g25o h => ?_)
                                refine cl_L_67 O (st := []) (stk := [vI (scr (v3 + (4 : Int32)).toNatClampNeg), vI (scr (v3 + (3 : Int32)).toNatClampNeg), vI (scr (v3 + (2 : Int32)).toNatClampNeg), vI (scr (v3 + (1 : Int32)).toNatClampNeg), vR (some a1)]) (st2 := [vI r25o]) [vI (scr (v3 + (1 : Int32)).toNatClampNeg), vI (scr (v3 + (2 : Int32)).toNatClampNeg), vI (scr (v3 + (3 : Int32)).toNatClampNeg), vI (scr (v3 + (4 : Int32)).toNatClampNeg)] (fun l G => c_X8_law l G g25o) ka1 (om_lt ka1 (by decide)) (by decide) rfl rfl rfl_le rfl rfl_le rfl_le dL_law_623 ?_
                                refine om_aload_n O 2 dL_law_626 rfl rfl ?_
                                refine om_aload_n O 0 dL_law_627 rfl rfl ?_
                                refine om_iload_n O 3 dL_law_628 rfl rfl ?_
                                refine om_iconst O (v := 1) dL_law_629 (by decide) ?_
                                refine om_iadd O dL_law_630 ?_
                                revert h; refine om_iteR (fun i52o h => ?_)
                                refine om_sLd O hSc i52o dL_law_631 ?_
                                refine om_aload_n O 0 dL_law_632 rfl rfl ?_
                                refine om_iload_n O 3 dL_law_633 rfl rfl ?_
                                refine om_iconst O (v := 2) dL_law_634 (by decide) ?_
                                refine om_iadd O dL_law_635 ?_
                                revert h; refine om_iteR (fun i53o h => ?_)
                                refine om_sLd O hSc i53o dL_law_636 ?_
                                refine om_aload_n O 0 dL_law_637 rfl rfl ?_
                                refine om_iload_n O 3 dL_law_638 rfl rfl ?_
                                refine om_iconst O (v := 3) dL_law_639 (by decide) ?_
                                refine om_iadd O dL_law_640 ?_
                                revert h; refine om_iteR (fun i54o h => ?_)
                                refine om_sLd O hSc i54o dL_law_641 ?_
                                refine om_aload_n O 0 dL_law_642 rfl rfl ?_
                                refine om_iload_n O 3 dL_law_643 rfl rfl ?_
                                refine om_iconst O (v := 4) dL_law_644 (by decide) ?_
                                refine om_iadd O dL_law_645 ?_
                                revert h; refine om_iteR (fun i55o h => ?_)
                                refine om_sLd O hSc i55o dL_law_646 ?_
                                revert h; refine om_callR (fun r26o σ26o g26o h => ?_)
                                refine cl_L_71 O (st := [vI r25o]) (stk := [vI (scr (v3 + (4 : Int32)).toNatClampNeg), vI (scr (v3 + (3 : Int32)).toNatClampNeg), vI (scr (v3 + (2 : Int32)).toNatClampNeg), vI (scr (v3 + (1 : Int32)).toNatClampNeg), vR (some a2), vI r25o]) (st2 := [vI r26o, vI r25o]) [vI (scr (v3 + (1 : Int32)).toNatClampNeg), vI (scr (v3 + (2 : Int32)).toNatClampNeg), vI (scr (v3 + (3 : Int32)).toNatClampNeg), vI (scr (v3 + (4 : Int32)).toNatClampNeg)] (fun l G => c_X9_law l G g26o) ka2 (om_lt ka2 (by decide)) (by decide) rfl rfl rfl_le rfl rfl_le rfl_le dL_law_647 ?_
                                refine om_icmp_eq O (tgt := 1287) dL_law_650 (by decide) (fun c27o => ?_) (fun c27o => ?_)
                                · replace h := (if_pos c27o).symm.trans h
                                  exact g_L_law_b1287 O hSc hE ih ka1 ka2 h
                                · replace h := (if_neg c27o).symm.trans h
                                  refine om_iconst O (v := 0) dL_law_653 (by decide) ?_
                                  exact absurd h om_e01
                              · replace h := (if_neg c26o).symm.trans h
                                by_cases c28o : ((scr v3.toNatClampNeg) &&& (63 : Int32)) = 13
                                · replace h := (if_pos c28o).symm.trans h
                                  refine om_tblIn O (b := 13) (off := 622) (tgt := 655) dL_law_33 c28o (by decide) (by decide) (by decide +kernel) (by decide) ?_
                                  refine om_aload_n O 1 dL_law_655 rfl rfl ?_
                                  refine om_aload_n O 0 dL_law_656 rfl rfl ?_
                                  refine om_iload_n O 3 dL_law_657 rfl rfl ?_
                                  refine om_iconst O (v := 1) dL_law_658 (by decide) ?_
                                  refine om_iadd O dL_law_659 ?_
                                  revert h; refine om_iteR (fun i56o h => ?_)
                                  refine om_sLd O hSc i56o dL_law_660 ?_
                                  revert h; refine om_callR (fun r27o σ27o g27o h => ?_)
                                  refine cl_L_72 O (st := []) (stk := [vI (scr (v3 + (1 : Int32)).toNatClampNeg), vR (some a1)]) (st2 := [vI r27o]) [vI (scr (v3 + (1 : Int32)).toNatClampNeg)] (fun l G => c_X8_nights l G g27o) ka1 (om_lt ka1 (by decide)) (by decide) rfl rfl rfl_le rfl rfl_le rfl_le dL_law_661 ?_
                                  refine om_aload_n O 2 dL_law_664 rfl rfl ?_
                                  refine om_aload_n O 0 dL_law_665 rfl rfl ?_
                                  refine om_iload_n O 3 dL_law_666 rfl rfl ?_
                                  refine om_iconst O (v := 1) dL_law_667 (by decide) ?_
                                  refine om_iadd O dL_law_668 ?_
                                  revert h; refine om_iteR (fun i57o h => ?_)
                                  refine om_sLd O hSc i57o dL_law_669 ?_
                                  revert h; refine om_callR (fun r28o σ28o g28o h => ?_)
                                  refine cl_L_75 O (st := [vI r27o]) (stk := [vI (scr (v3 + (1 : Int32)).toNatClampNeg), vR (some a2), vI r27o]) (st2 := [vI r28o, vI r27o]) [vI (scr (v3 + (1 : Int32)).toNatClampNeg)] (fun l G => c_X9_nights l G g28o) ka2 (om_lt ka2 (by decide)) (by decide) rfl rfl rfl_le rfl rfl_le rfl_le dL_law_670 ?_
                                  refine om_icmp_eq O (tgt := 1287) dL_law_673 (by decide) (fun c29o => ?_) (fun c29o => ?_)
                                  · replace h := (if_pos c29o).symm.trans h
                                    exact g_L_law_b1287 O hSc hE ih ka1 ka2 h
                                  · replace h := (if_neg c29o).symm.trans h
                                    refine om_iconst O (v := 0) dL_law_676 (by decide) ?_
                                    exact absurd h om_e01
                                · replace h := (if_neg c28o).symm.trans h
                                  by_cases c30o : ((scr v3.toNatClampNeg) &&& (63 : Int32)) = 14
                                  · replace h := (if_pos c30o).symm.trans h
                                    refine om_tblIn O (b := 14) (off := 645) (tgt := 678) dL_law_33 c30o (by decide) (by decide) (by decide +kernel) (by decide) ?_
                                    refine om_aload_n O 1 dL_law_678 rfl rfl ?_
                                    refine om_aload_n O 0 dL_law_679 rfl rfl ?_
                                    refine om_iload_n O 3 dL_law_680 rfl rfl ?_
                                    refine om_iconst O (v := 1) dL_law_681 (by decide) ?_
                                    refine om_iadd O dL_law_682 ?_
                                    revert h; refine om_iteR (fun i58o h => ?_)
                                    refine om_sLd O hSc i58o dL_law_683 ?_
                                    revert h; refine om_callR (fun r29o σ29o g29o h => ?_)
                                    refine cl_L_76 O (st := []) (stk := [vI (scr (v3 + (1 : Int32)).toNatClampNeg), vR (some a1)]) (st2 := [vI r29o]) [vI (scr (v3 + (1 : Int32)).toNatClampNeg)] (fun l G => c_X8_loose l G g29o) ka1 (om_lt ka1 (by decide)) (by decide) rfl rfl rfl_le rfl rfl_le rfl_le dL_law_684 ?_
                                    refine om_aload_n O 2 dL_law_687 rfl rfl ?_
                                    refine om_aload_n O 0 dL_law_688 rfl rfl ?_
                                    refine om_iload_n O 3 dL_law_689 rfl rfl ?_
                                    refine om_iconst O (v := 1) dL_law_690 (by decide) ?_
                                    refine om_iadd O dL_law_691 ?_
                                    revert h; refine om_iteR (fun i59o h => ?_)
                                    refine om_sLd O hSc i59o dL_law_692 ?_
                                    revert h; refine om_callR (fun r30o σ30o g30o h => ?_)
                                    refine cl_L_79 O (st := [vI r29o]) (stk := [vI (scr (v3 + (1 : Int32)).toNatClampNeg), vR (some a2), vI r29o]) (st2 := [vI r30o, vI r29o]) [vI (scr (v3 + (1 : Int32)).toNatClampNeg)] (fun l G => c_X9_loose l G g30o) ka2 (om_lt ka2 (by decide)) (by decide) rfl rfl rfl_le rfl rfl_le rfl_le dL_law_693 ?_
                                    refine om_icmp_eq O (tgt := 1287) dL_law_696 (by decide) (fun c31o => ?_) (fun c31o => ?_)
                                    · replace h := (if_pos c31o).symm.trans h
                                      exact g_L_law_b1287 O hSc hE ih ka1 ka2 h
                                    · replace h := (if_neg c31o).symm.trans h
                                      refine om_iconst O (v := 0) dL_law_699 (by decide) ?_
                                      exact absurd h om_e01
                                  · replace h := (if_neg c30o).symm.trans h
                                    by_cases c32o : ((scr v3.toNatClampNeg) &&& (63 : Int32)) = 15
                                    · replace h := (if_pos c32o).symm.trans h
                                      refine om_tblIn O (b := 15) (off := 668) (tgt := 701) dL_law_33 c32o (by decide) (by decide) (by decide +kernel) (by decide) ?_
                                      refine om_aload_n O 1 dL_law_701 rfl rfl ?_
                                      refine om_aload_n O 0 dL_law_702 rfl rfl ?_
                                      refine om_iload_n O 3 dL_law_703 rfl rfl ?_
                                      refine om_iconst O (v := 1) dL_law_704 (by decide) ?_
                                      refine om_iadd O dL_law_705 ?_
                                      revert h; refine om_iteR (fun i60o h => ?_)
                                      refine om_sLd O hSc i60o dL_law_706 ?_
                                      revert h; refine om_callR (fun r31o σ31o g31o h => ?_)
                                      refine cl_L_80 O (st := []) (stk := [vI (scr (v3 + (1 : Int32)).toNatClampNeg), vR (some a1)]) (st2 := [vI r31o]) [vI (scr (v3 + (1 : Int32)).toNatClampNeg)] (fun l G => c_X8_seed l G g31o) ka1 (om_lt ka1 (by decide)) (by decide) rfl rfl rfl_le rfl rfl_le rfl_le dL_law_707 ?_
                                      refine om_aload_n O 2 dL_law_710 rfl rfl ?_
                                      refine om_aload_n O 0 dL_law_711 rfl rfl ?_
                                      refine om_iload_n O 3 dL_law_712 rfl rfl ?_
                                      refine om_iconst O (v := 1) dL_law_713 (by decide) ?_
                                      refine om_iadd O dL_law_714 ?_
                                      revert h; refine om_iteR (fun i61o h => ?_)
                                      refine om_sLd O hSc i61o dL_law_715 ?_
                                      revert h; refine om_callR (fun r32o σ32o g32o h => ?_)
                                      refine cl_L_83 O (st := [vI r31o]) (stk := [vI (scr (v3 + (1 : Int32)).toNatClampNeg), vR (some a2), vI r31o]) (st2 := [vI r32o, vI r31o]) [vI (scr (v3 + (1 : Int32)).toNatClampNeg)] (fun l G => c_X9_seed l G g32o) ka2 (om_lt ka2 (by decide)) (by decide) rfl rfl rfl_le rfl rfl_le rfl_le dL_law_716 ?_
                                      refine om_icmp_eq O (tgt := 1287) dL_law_719 (by decide) (fun c33o => ?_) (fun c33o => ?_)
                                      · replace h := (if_pos c33o).symm.trans h
                                        exact g_L_law_b1287 O hSc hE ih ka1 ka2 h
                                      · replace h := (if_neg c33o).symm.trans h
                                        refine om_iconst O (v := 0) dL_law_722 (by decide) ?_
                                        exact absurd h om_e01
                                    · replace h := (if_neg c32o).symm.trans h
                                      by_cases c34o : ((scr v3.toNatClampNeg) &&& (63 : Int32)) = 16
                                      · replace h := (if_pos c34o).symm.trans h
                                        refine om_tblIn O (b := 16) (off := 691) (tgt := 724) dL_law_33 c34o (by decide) (by decide) (by decide +kernel) (by decide) ?_
                                        refine om_aload_n O 1 dL_law_724 rfl rfl ?_
                                        refine om_aload_n O 0 dL_law_725 rfl rfl ?_
                                        refine om_iload_n O 3 dL_law_726 rfl rfl ?_
                                        refine om_iconst O (v := 1) dL_law_727 (by decide) ?_
                                        refine om_iadd O dL_law_728 ?_
                                        revert h; refine om_iteR (fun i62o h => ?_)
                                        refine om_sLd O hSc i62o dL_law_729 ?_
                                        revert h; refine om_callR (fun r33o σ33o g33o h => ?_)
                                        refine cl_L_84 O (st := []) (stk := [vI (scr (v3 + (1 : Int32)).toNatClampNeg), vR (some a1)]) (st2 := [vI r33o]) [vI (scr (v3 + (1 : Int32)).toNatClampNeg)] (fun l G => c_X8_tonight l G g33o) ka1 (om_lt ka1 (by decide)) (by decide) rfl rfl rfl_le rfl rfl_le rfl_le dL_law_730 ?_
                                        refine om_aload_n O 2 dL_law_733 rfl rfl ?_
                                        refine om_aload_n O 0 dL_law_734 rfl rfl ?_
                                        refine om_iload_n O 3 dL_law_735 rfl rfl ?_
                                        refine om_iconst O (v := 1) dL_law_736 (by decide) ?_
                                        refine om_iadd O dL_law_737 ?_
                                        revert h; refine om_iteR (fun i63o h => ?_)
                                        refine om_sLd O hSc i63o dL_law_738 ?_
                                        revert h; refine om_callR (fun r34o σ34o g34o h => ?_)
                                        refine cl_L_87 O (st := [vI r33o]) (stk := [vI (scr (v3 + (1 : Int32)).toNatClampNeg), vR (some a2), vI r33o]) (st2 := [vI r34o, vI r33o]) [vI (scr (v3 + (1 : Int32)).toNatClampNeg)] (fun l G => c_X9_tonight l G g34o) ka2 (om_lt ka2 (by decide)) (by decide) rfl rfl rfl_le rfl rfl_le rfl_le dL_law_739 ?_
                                        refine om_icmp_eq O (tgt := 1287) dL_law_742 (by decide) (fun c35o => ?_) (fun c35o => ?_)
                                        · replace h := (if_pos c35o).symm.trans h
                                          exact g_L_law_b1287 O hSc hE ih ka1 ka2 h
                                        · replace h := (if_neg c35o).symm.trans h
                                          refine om_iconst O (v := 0) dL_law_745 (by decide) ?_
                                          exact absurd h om_e01
                                      · replace h := (if_neg c34o).symm.trans h
                                        by_cases c36o : ((scr v3.toNatClampNeg) &&& (63 : Int32)) = 17
                                        · replace h := (if_pos c36o).symm.trans h
                                          refine om_tblIn O (b := 17) (off := 714) (tgt := 747) dL_law_33 c36o (by decide) (by decide) (by decide +kernel) (by decide) ?_
                                          refine om_aload_n O 1 dL_law_747 rfl rfl ?_
                                          revert h; refine om_callR (fun r35o σ35o g35o h => ?_)
                                          refine cl_L_88 O (st := []) (stk := [vR (some a1)]) (st2 := [vI r35o]) [] (fun l G => c_X8_lasts l G g35o) ka1 (om_lt ka1 (by decide)) (by decide) rfl rfl rfl_le rfl rfl_le rfl_le dL_law_748 ?_
                                          refine om_aload_n O 2 dL_law_751 rfl rfl ?_
                                          revert h; refine om_callR (fun r36o σ36o g36o h => ?_)
                                          refine cl_L_92 O (st := [vI r35o]) (stk := [vR (some a2), vI r35o]) (st2 := [vI r36o, vI r35o]) [] (fun l G => c_X9_lasts l G g36o) ka2 (om_lt ka2 (by decide)) (by decide) rfl rfl rfl_le rfl rfl_le rfl_le dL_law_752 ?_
                                          refine om_icmp_eq O (tgt := 1287) dL_law_755 (by decide) (fun c37o => ?_) (fun c37o => ?_)
                                          · replace h := (if_pos c37o).symm.trans h
                                            exact g_L_law_b1287 O hSc hE ih ka1 ka2 h
                                          · replace h := (if_neg c37o).symm.trans h
                                            refine om_iconst O (v := 0) dL_law_758 (by decide) ?_
                                            exact absurd h om_e01
                                        · replace h := (if_neg c36o).symm.trans h
                                          by_cases c38o : ((scr v3.toNatClampNeg) &&& (63 : Int32)) = 18
                                          · replace h := (if_pos c38o).symm.trans h
                                            refine om_tblIn O (b := 18) (off := 727) (tgt := 760) dL_law_33 c38o (by decide) (by decide) (by decide +kernel) (by decide) ?_
                                            refine om_aload_n O 1 dL_law_760 rfl rfl ?_
                                            refine om_aload_n O 0 dL_law_761 rfl rfl ?_
                                            refine om_iload_n O 3 dL_law_762 rfl rfl ?_
                                            refine om_iconst O (v := 1) dL_law_763 (by decide) ?_
                                            refine om_iadd O dL_law_764 ?_
                                            revert h; refine om_iteR (fun i64o h => ?_)
                                            refine om_sLd O hSc i64o dL_law_765 ?_
                                            revert h; refine om_callR (fun r37o σ37o g37o h => ?_)
                                            refine cl_L_93 O (st := []) (stk := [vI (scr (v3 + (1 : Int32)).toNatClampNeg), vR (some a1)]) (st2 := [vI r37o]) [vI (scr (v3 + (1 : Int32)).toNatClampNeg)] (fun l G => c_X8_without l G g37o) ka1 (om_lt ka1 (by decide)) (by decide) rfl rfl rfl_le rfl rfl_le rfl_le dL_law_766 ?_
                                            refine om_aload_n O 2 dL_law_769 rfl rfl ?_
                                            refine om_aload_n O 0 dL_law_770 rfl rfl ?_
                                            refine om_iload_n O 3 dL_law_771 rfl rfl ?_
                                            refine om_iconst O (v := 1) dL_law_772 (by decide) ?_
                                            refine om_iadd O dL_law_773 ?_
                                            revert h; refine om_iteR (fun i65o h => ?_)
                                            refine om_sLd O hSc i65o dL_law_774 ?_
                                            revert h; refine om_callR (fun r38o σ38o g38o h => ?_)
                                            refine cl_L_96 O (st := [vI r37o]) (stk := [vI (scr (v3 + (1 : Int32)).toNatClampNeg), vR (some a2), vI r37o]) (st2 := [vI r38o, vI r37o]) [vI (scr (v3 + (1 : Int32)).toNatClampNeg)] (fun l G => c_X9_without l G g38o) ka2 (om_lt ka2 (by decide)) (by decide) rfl rfl rfl_le rfl rfl_le rfl_le dL_law_775 ?_
                                            refine om_icmp_eq O (tgt := 1287) dL_law_778 (by decide) (fun c39o => ?_) (fun c39o => ?_)
                                            · replace h := (if_pos c39o).symm.trans h
                                              exact g_L_law_b1287 O hSc hE ih ka1 ka2 h
                                            · replace h := (if_neg c39o).symm.trans h
                                              refine om_iconst O (v := 0) dL_law_781 (by decide) ?_
                                              exact absurd h om_e01
                                          · replace h := (if_neg c38o).symm.trans h
                                            by_cases c40o : ((scr v3.toNatClampNeg) &&& (63 : Int32)) = 19
                                            · replace h := (if_pos c40o).symm.trans h
                                              refine om_tblIn O (b := 19) (off := 750) (tgt := 783) dL_law_33 c40o (by decide) (by decide) (by decide +kernel) (by decide) ?_
                                              refine om_aload_n O 1 dL_law_783 rfl rfl ?_
                                              refine om_aload_n O 0 dL_law_784 rfl rfl ?_
                                              refine om_iload_n O 3 dL_law_785 rfl rfl ?_
                                              refine om_iconst O (v := 1) dL_law_786 (by decide) ?_
                                              refine om_iadd O dL_law_787 ?_
                                              revert h; refine om_iteR (fun i66o h => ?_)
                                              refine om_sLd O hSc i66o dL_law_788 ?_
                                              refine om_aload_n O 0 dL_law_789 rfl rfl ?_
                                              refine om_iload_n O 3 dL_law_790 rfl rfl ?_
                                              refine om_iconst O (v := 2) dL_law_791 (by decide) ?_
                                              refine om_iadd O dL_law_792 ?_
                                              revert h; refine om_iteR (fun i67o h => ?_)
                                              refine om_sLd O hSc i67o dL_law_793 ?_
                                              revert h; refine om_callR (fun r39o σ39o g39o h => ?_)
                                              refine cl_L_97 O (st := []) (stk := [vI (scr (v3 + (2 : Int32)).toNatClampNeg), vI (scr (v3 + (1 : Int32)).toNatClampNeg), vR (some a1)]) (st2 := [vI r39o]) [vI (scr (v3 + (1 : Int32)).toNatClampNeg), vI (scr (v3 + (2 : Int32)).toNatClampNeg)] (fun l G => c_X8_then l G g39o) ka1 (om_lt ka1 (by decide)) (by decide) rfl rfl rfl_le rfl rfl_le rfl_le dL_law_794 ?_
                                              refine om_aload_n O 2 dL_law_797 rfl rfl ?_
                                              refine om_aload_n O 0 dL_law_798 rfl rfl ?_
                                              refine om_iload_n O 3 dL_law_799 rfl rfl ?_
                                              refine om_iconst O (v := 1) dL_law_800 (by decide) ?_
                                              refine om_iadd O dL_law_801 ?_
                                              revert h; refine om_iteR (fun i68o h => ?_)
                                              refine om_sLd O hSc i68o dL_law_802 ?_
                                              refine om_aload_n O 0 dL_law_803 rfl rfl ?_
                                              refine om_iload_n O 3 dL_law_804 rfl rfl ?_
                                              refine om_iconst O (v := 2) dL_law_805 (by decide) ?_
                                              refine om_iadd O dL_law_806 ?_
                                              revert h; refine om_iteR (fun i69o h => ?_)
                                              refine om_sLd O hSc i69o dL_law_807 ?_
                                              revert h; refine om_callR (fun r40o σ40o g40o h => ?_)
                                              refine cl_L_100 O (st := [vI r39o]) (stk := [vI (scr (v3 + (2 : Int32)).toNatClampNeg), vI (scr (v3 + (1 : Int32)).toNatClampNeg), vR (some a2), vI r39o]) (st2 := [vI r40o, vI r39o]) [vI (scr (v3 + (1 : Int32)).toNatClampNeg), vI (scr (v3 + (2 : Int32)).toNatClampNeg)] (fun l G => c_X9_then l G g40o) ka2 (om_lt ka2 (by decide)) (by decide) rfl rfl rfl_le rfl rfl_le rfl_le dL_law_808 ?_
                                              refine om_icmp_eq O (tgt := 1287) dL_law_811 (by decide) (fun c41o => ?_) (fun c41o => ?_)
                                              · replace h := (if_pos c41o).symm.trans h
                                                exact g_L_law_b1287 O hSc hE ih ka1 ka2 h
                                              · replace h := (if_neg c41o).symm.trans h
                                                refine om_iconst O (v := 0) dL_law_814 (by decide) ?_
                                                exact absurd h om_e01
                                            · replace h := (if_neg c40o).symm.trans h
                                              by_cases c42o : ((scr v3.toNatClampNeg) &&& (63 : Int32)) = 20
                                              · replace h := (if_pos c42o).symm.trans h
                                                refine om_tblIn O (b := 20) (off := 783) (tgt := 816) dL_law_33 c42o (by decide) (by decide) (by decide +kernel) (by decide) ?_
                                                refine om_aload_n O 1 dL_law_816 rfl rfl ?_
                                                refine om_aload_n O 0 dL_law_817 rfl rfl ?_
                                                refine om_iload_n O 3 dL_law_818 rfl rfl ?_
                                                refine om_iconst O (v := 1) dL_law_819 (by decide) ?_
                                                refine om_iadd O dL_law_820 ?_
                                                revert h; refine om_iteR (fun i70o h => ?_)
                                                refine om_sLd O hSc i70o dL_law_821 ?_
                                                revert h; refine om_callR (fun r41o σ41o g41o h => ?_)
                                                refine cl_L_101 O (st := []) (stk := [vI (scr (v3 + (1 : Int32)).toNatClampNeg), vR (some a1)]) (st2 := [vI r41o]) [vI (scr (v3 + (1 : Int32)).toNatClampNeg)] (fun l G => c_X8_has l G g41o) ka1 (om_lt ka1 (by decide)) (by decide) rfl rfl rfl_le rfl rfl_le rfl_le dL_law_822 ?_
                                                refine om_aload_n O 2 dL_law_825 rfl rfl ?_
                                                refine om_aload_n O 0 dL_law_826 rfl rfl ?_
                                                refine om_iload_n O 3 dL_law_827 rfl rfl ?_
                                                refine om_iconst O (v := 1) dL_law_828 (by decide) ?_
                                                refine om_iadd O dL_law_829 ?_
                                                revert h; refine om_iteR (fun i71o h => ?_)
                                                refine om_sLd O hSc i71o dL_law_830 ?_
                                                revert h; refine om_callR (fun r42o σ42o g42o h => ?_)
                                                refine cl_L_104 O (st := [vI r41o]) (stk := [vI (scr (v3 + (1 : Int32)).toNatClampNeg), vR (some a2), vI r41o]) (st2 := [vI r42o, vI r41o]) [vI (scr (v3 + (1 : Int32)).toNatClampNeg)] (fun l G => c_X9_has l G g42o) ka2 (om_lt ka2 (by decide)) (by decide) rfl rfl rfl_le rfl rfl_le rfl_le dL_law_831 ?_
                                                refine om_icmp_eq O (tgt := 1287) dL_law_834 (by decide) (fun c43o => ?_) (fun c43o => ?_)
                                                · replace h := (if_pos c43o).symm.trans h
                                                  exact g_L_law_b1287 O hSc hE ih ka1 ka2 h
                                                · replace h := (if_neg c43o).symm.trans h
                                                  refine om_iconst O (v := 0) dL_law_837 (by decide) ?_
                                                  exact absurd h om_e01
                                              · replace h := (if_neg c42o).symm.trans h
                                                by_cases c44o : ((scr v3.toNatClampNeg) &&& (63 : Int32)) = 21
                                                · replace h := (if_pos c44o).symm.trans h
                                                  refine om_tblIn O (b := 21) (off := 806) (tgt := 839) dL_law_33 c44o (by decide) (by decide) (by decide +kernel) (by decide) ?_
                                                  refine om_aload_n O 1 dL_law_839 rfl rfl ?_
                                                  refine om_aload_n O 0 dL_law_840 rfl rfl ?_
                                                  refine om_iload_n O 3 dL_law_841 rfl rfl ?_
                                                  refine om_iconst O (v := 1) dL_law_842 (by decide) ?_
                                                  refine om_iadd O dL_law_843 ?_
                                                  revert h; refine om_iteR (fun i72o h => ?_)
                                                  refine om_sLd O hSc i72o dL_law_844 ?_
                                                  refine om_aload_n O 0 dL_law_845 rfl rfl ?_
                                                  refine om_iload_n O 3 dL_law_846 rfl rfl ?_
                                                  refine om_iconst O (v := 2) dL_law_847 (by decide) ?_
                                                  refine om_iadd O dL_law_848 ?_
                                                  revert h; refine om_iteR (fun i73o h => ?_)
                                                  refine om_sLd O hSc i73o dL_law_849 ?_
                                                  revert h; refine om_callR (fun r43o σ43o g43o h => ?_)
                                                  refine cl_L_105 O (st := []) (stk := [vI (scr (v3 + (2 : Int32)).toNatClampNeg), vI (scr (v3 + (1 : Int32)).toNatClampNeg), vR (some a1)]) (st2 := [vI r43o]) [vI (scr (v3 + (1 : Int32)).toNatClampNeg), vI (scr (v3 + (2 : Int32)).toNatClampNeg)] (fun l G => c_X8_mixes l G g43o) ka1 (om_lt ka1 (by decide)) (by decide) rfl rfl rfl_le rfl rfl_le rfl_le dL_law_850 ?_
                                                  refine om_aload_n O 2 dL_law_853 rfl rfl ?_
                                                  refine om_aload_n O 0 dL_law_854 rfl rfl ?_
                                                  refine om_iload_n O 3 dL_law_855 rfl rfl ?_
                                                  refine om_iconst O (v := 1) dL_law_856 (by decide) ?_
                                                  refine om_iadd O dL_law_857 ?_
                                                  revert h; refine om_iteR (fun i74o h => ?_)
                                                  refine om_sLd O hSc i74o dL_law_858 ?_
                                                  refine om_aload_n O 0 dL_law_859 rfl rfl ?_
                                                  refine om_iload_n O 3 dL_law_860 rfl rfl ?_
                                                  refine om_iconst O (v := 2) dL_law_861 (by decide) ?_
                                                  refine om_iadd O dL_law_862 ?_
                                                  revert h; refine om_iteR (fun i75o h => ?_)
                                                  refine om_sLd O hSc i75o dL_law_863 ?_
                                                  revert h; refine om_callR (fun r44o σ44o g44o h => ?_)
                                                  refine cl_L_108 O (st := [vI r43o]) (stk := [vI (scr (v3 + (2 : Int32)).toNatClampNeg), vI (scr (v3 + (1 : Int32)).toNatClampNeg), vR (some a2), vI r43o]) (st2 := [vI r44o, vI r43o]) [vI (scr (v3 + (1 : Int32)).toNatClampNeg), vI (scr (v3 + (2 : Int32)).toNatClampNeg)] (fun l G => c_X9_mixes l G g44o) ka2 (om_lt ka2 (by decide)) (by decide) rfl rfl rfl_le rfl rfl_le rfl_le dL_law_864 ?_
                                                  refine om_icmp_eq O (tgt := 1287) dL_law_867 (by decide) (fun c45o => ?_) (fun c45o => ?_)
                                                  · replace h := (if_pos c45o).symm.trans h
                                                    exact g_L_law_b1287 O hSc hE ih ka1 ka2 h
                                                  · replace h := (if_neg c45o).symm.trans h
                                                    refine om_iconst O (v := 0) dL_law_870 (by decide) ?_
                                                    exact absurd h om_e01
                                                · replace h := (if_neg c44o).symm.trans h
                                                  by_cases c46o : ((scr v3.toNatClampNeg) &&& (63 : Int32)) = 22
                                                  · replace h := (if_pos c46o).symm.trans h
                                                    refine om_tblIn O (b := 22) (off := 839) (tgt := 872) dL_law_33 c46o (by decide) (by decide) (by decide +kernel) (by decide) ?_
                                                    refine om_aload_n O 1 dL_law_872 rfl rfl ?_
                                                    refine om_aload_n O 0 dL_law_873 rfl rfl ?_
                                                    refine om_iload_n O 3 dL_law_874 rfl rfl ?_
                                                    refine om_iconst O (v := 1) dL_law_875 (by decide) ?_
                                                    refine om_iadd O dL_law_876 ?_
                                                    revert h; refine om_iteR (fun i76o h => ?_)
                                                    refine om_sLd O hSc i76o dL_law_877 ?_
                                                    revert h; refine om_callR (fun r45o σ45o g45o h => ?_)
                                                    refine cl_L_109 O (st := []) (stk := [vI (scr (v3 + (1 : Int32)).toNatClampNeg), vR (some a1)]) (st2 := [vI r45o]) [vI (scr (v3 + (1 : Int32)).toNatClampNeg)] (fun l G => c_X8_odds l G g45o) ka1 (om_lt ka1 (by decide)) (by decide) rfl rfl rfl_le rfl rfl_le rfl_le dL_law_878 ?_
                                                    refine om_aload_n O 2 dL_law_881 rfl rfl ?_
                                                    refine om_aload_n O 0 dL_law_882 rfl rfl ?_
                                                    refine om_iload_n O 3 dL_law_883 rfl rfl ?_
                                                    refine om_iconst O (v := 1) dL_law_884 (by decide) ?_
                                                    refine om_iadd O dL_law_885 ?_
                                                    revert h; refine om_iteR (fun i77o h => ?_)
                                                    refine om_sLd O hSc i77o dL_law_886 ?_
                                                    revert h; refine om_callR (fun r46o σ46o g46o h => ?_)
                                                    refine cl_L_112 O (st := [vI r45o]) (stk := [vI (scr (v3 + (1 : Int32)).toNatClampNeg), vR (some a2), vI r45o]) (st2 := [vI r46o, vI r45o]) [vI (scr (v3 + (1 : Int32)).toNatClampNeg)] (fun l G => c_X9_odds l G g46o) ka2 (om_lt ka2 (by decide)) (by decide) rfl rfl rfl_le rfl rfl_le rfl_le dL_law_887 ?_
                                                    refine om_icmp_eq O (tgt := 1287) dL_law_890 (by decide) (fun c47o => ?_) (fun c47o => ?_)
                                                    · replace h := (if_pos c47o).symm.trans h
                                                      exact g_L_law_b1287 O hSc hE ih ka1 ka2 h
                                                    · replace h := (if_neg c47o).symm.trans h
                                                      refine om_iconst O (v := 0) dL_law_893 (by decide) ?_
                                                      exact absurd h om_e01
                                                  · replace h := (if_neg c46o).symm.trans h
                                                    by_cases c48o : ((scr v3.toNatClampNeg) &&& (63 : Int32)) = 23
                                                    · replace h := (if_pos c48o).symm.trans h
                                                      refine om_tblIn O (b := 23) (off := 862) (tgt := 895) dL_law_33 c48o (by decide) (by decide) (by decide +kernel) (by decide) ?_
                                                      refine om_aload_n O 1 dL_law_895 rfl rfl ?_
                                                      refine om_aload_n O 0 dL_law_896 rfl rfl ?_
                                                      refine om_iload_n O 3 dL_law_897 rfl rfl ?_
                                                      refine om_iconst O (v := 1) dL_law_898 (by decide) ?_
                                                      refine om_iadd O dL_law_899 ?_
                                                      revert h; refine om_iteR (fun i78o h => ?_)
                                                      refine om_sLd O hSc i78o dL_law_900 ?_
                                                      revert h; refine om_callR (fun r47o σ47o g47o h => ?_)
                                                      refine cl_L_113 O (st := []) (stk := [vI (scr (v3 + (1 : Int32)).toNatClampNeg), vR (some a1)]) (st2 := [vI r47o]) [vI (scr (v3 + (1 : Int32)).toNatClampNeg)] (fun l G => c_X8_fits l G g47o) ka1 (om_lt ka1 (by decide)) (by decide) rfl rfl rfl_le rfl rfl_le rfl_le dL_law_901 ?_
                                                      refine om_aload_n O 2 dL_law_904 rfl rfl ?_
                                                      refine om_aload_n O 0 dL_law_905 rfl rfl ?_
                                                      refine om_iload_n O 3 dL_law_906 rfl rfl ?_
                                                      refine om_iconst O (v := 1) dL_law_907 (by decide) ?_
                                                      refine om_iadd O dL_law_908 ?_
                                                      revert h; refine om_iteR (fun i79o h => ?_)
                                                      refine om_sLd O hSc i79o dL_law_909 ?_
                                                      revert h; refine om_callR (fun r48o σ48o g48o h => ?_)
                                                      refine cl_L_116 O (st := [vI r47o]) (stk := [vI (scr (v3 + (1 : Int32)).toNatClampNeg), vR (some a2), vI r47o]) (st2 := [vI r48o, vI r47o]) [vI (scr (v3 + (1 : Int32)).toNatClampNeg)] (fun l G => c_X9_fits l G g48o) ka2 (om_lt ka2 (by decide)) (by decide) rfl rfl rfl_le rfl rfl_le rfl_le dL_law_910 ?_
                                                      refine om_icmp_eq O (tgt := 1287) dL_law_913 (by decide) (fun c49o => ?_) (fun c49o => ?_)
                                                      · replace h := (if_pos c49o).symm.trans h
                                                        exact g_L_law_b1287 O hSc hE ih ka1 ka2 h
                                                      · replace h := (if_neg c49o).symm.trans h
                                                        refine om_iconst O (v := 0) dL_law_916 (by decide) ?_
                                                        exact absurd h om_e01
                                                    · replace h := (if_neg c48o).symm.trans h
                                                      by_cases c50o : ((scr v3.toNatClampNeg) &&& (63 : Int32)) = 24
                                                      · replace h := (if_pos c50o).symm.trans h
                                                        refine om_tblIn O (b := 24) (off := 885) (tgt := 918) dL_law_33 c50o (by decide) (by decide) (by decide +kernel) (by decide) ?_
                                                        refine om_aload_n O 1 dL_law_918 rfl rfl ?_
                                                        refine om_aload_n O 0 dL_law_919 rfl rfl ?_
                                                        refine om_iload_n O 3 dL_law_920 rfl rfl ?_
                                                        refine om_iconst O (v := 1) dL_law_921 (by decide) ?_
                                                        refine om_iadd O dL_law_922 ?_
                                                        revert h; refine om_iteR (fun i80o h => ?_)
                                                        refine om_sLd O hSc i80o dL_law_923 ?_
                                                        refine om_aload_n O 0 dL_law_924 rfl rfl ?_
                                                        refine om_iload_n O 3 dL_law_925 rfl rfl ?_
                                                        refine om_iconst O (v := 2) dL_law_926 (by decide) ?_
                                                        refine om_iadd O dL_law_927 ?_
                                                        revert h; refine om_iteR (fun i81o h => ?_)
                                                        refine om_sLd O hSc i81o dL_law_928 ?_
                                                        refine om_aload_n O 0 dL_law_929 rfl rfl ?_
                                                        refine om_iload_n O 3 dL_law_930 rfl rfl ?_
                                                        refine om_iconst O (v := 3) dL_law_931 (by decide) ?_
                                                        refine om_iadd O dL_law_932 ?_
                                                        revert h; refine om_iteR (fun i82o h => ?_)
                                                        refine om_sLd O hSc i82o dL_law_933 ?_
                                                        revert h; refine om_callR (fun r49o σ49o g49o h => ?_)
                                                        refine cl_L_117 O (st := []) (stk := [vI (scr (v3 + (3 : Int32)).toNatClampNeg), vI (scr (v3 + (2 : Int32)).toNatClampNeg), vI (scr (v3 + (1 : Int32)).toNatClampNeg), vR (some a1)]) (st2 := [vI r49o]) [vI (scr (v3 + (1 : Int32)).toNatClampNeg), vI (scr (v3 + (2 : Int32)).toNatClampNeg), vI (scr (v3 + (3 : Int32)).toNatClampNeg)] (fun l G => c_X8_voice l G g49o) ka1 (om_lt ka1 (by decide)) (by decide) rfl rfl rfl_le rfl rfl_le rfl_le dL_law_934 ?_
                                                        refine om_aload_n O 2 dL_law_937 rfl rfl ?_
                                                        refine om_aload_n O 0 dL_law_938 rfl rfl ?_
                                                        refine om_iload_n O 3 dL_law_939 rfl rfl ?_
                                                        refine om_iconst O (v := 1) dL_law_940 (by decide) ?_
                                                        refine om_iadd O dL_law_941 ?_
                                                        revert h; refine om_iteR (fun i83o h => ?_)
                                                        refine om_sLd O hSc i83o dL_law_942 ?_
                                                        refine om_aload_n O 0 dL_law_943 rfl rfl ?_
                                                        refine om_iload_n O 3 dL_law_944 rfl rfl ?_
                                                        refine om_iconst O (v := 2) dL_law_945 (by decide) ?_
                                                        refine om_iadd O dL_law_946 ?_
                                                        revert h; refine om_iteR (fun i84o h => ?_)
                                                        refine om_sLd O hSc i84o dL_law_947 ?_
                                                        refine om_aload_n O 0 dL_law_948 rfl rfl ?_
                                                        refine om_iload_n O 3 dL_law_949 rfl rfl ?_
                                                        refine om_iconst O (v := 3) dL_law_950 (by decide) ?_
                                                        refine om_iadd O dL_law_951 ?_
                                                        revert h; refine om_iteR (fun i85o h => ?_)
                                                        refine om_sLd O hSc i85o dL_law_952 ?_
                                                        revert h; refine om_callR (fun r50o σ50o g50o h => ?_)
                                                        refine cl_L_120 O (st := [vI r49o]) (stk := [vI (scr (v3 + (3 : Int32)).toNatClampNeg), vI (scr (v3 + (2 : Int32)).toNatClampNeg), vI (scr (v3 + (1 : Int32)).toNatClampNeg), vR (some a2), vI r49o]) (st2 := [vI r50o, vI r49o]) [vI (scr (v3 + (1 : Int32)).toNatClampNeg), vI (scr (v3 + (2 : Int32)).toNatClampNeg), vI (scr (v3 + (3 : Int32)).toNatClampNeg)] (fun l G => c_X9_voice l G g50o) ka2 (om_lt ka2 (by decide)) (by decide) rfl rfl rfl_le rfl rfl_le rfl_le dL_law_953 ?_
                                                        refine om_icmp_eq O (tgt := 1287) dL_law_956 (by decide) (fun c51o => ?_) (fun c51o => ?_)
                                                        · replace h := (if_pos c51o).symm.trans h
                                                          exact g_L_law_b1287 O hSc hE ih ka1 ka2 h
                                                        · replace h := (if_neg c51o).symm.trans h
                                                          refine om_iconst O (v := 0) dL_law_959 (by decide) ?_
                                                          exact absurd h om_e01
                                                      · replace h := (if_neg c50o).symm.trans h
                                                        by_cases c52o : ((scr v3.toNatClampNeg) &&& (63 : Int32)) = 25
                                                        · replace h := (if_pos c52o).symm.trans h
                                                          refine om_tblIn O (b := 25) (off := 928) (tgt := 961) dL_law_33 c52o (by decide) (by decide) (by decide +kernel) (by decide) ?_
                                                          refine om_aload_n O 1 dL_law_961 rfl rfl ?_
                                                          refine om_aload_n O 0 dL_law_962 rfl rfl ?_
                                                          refine om_iload_n O 3 dL_law_963 rfl rfl ?_
                                                          refine om_iconst O (v := 1) dL_law_964 (by decide) ?_
                                                          refine om_iadd O dL_law_965 ?_
                                                          revert h; refine om_iteR (fun i86o h => ?_)
                                                          refine om_sLd O hSc i86o dL_law_966 ?_
                                                          revert h; refine om_callR (fun r51o σ51o g51o h => ?_)
                                                          refine cl_L_121 O (st := []) (stk := [vI (scr (v3 + (1 : Int32)).toNatClampNeg), vR (some a1)]) (st2 := [vI r51o]) [vI (scr (v3 + (1 : Int32)).toNatClampNeg)] (fun l G => c_X8_body l G g51o) ka1 (om_lt ka1 (by decide)) (by decide) rfl rfl rfl_le rfl rfl_le rfl_le dL_law_967 ?_
                                                          refine om_aload_n O 2 dL_law_970 rfl rfl ?_
                                                          refine om_aload_n O 0 dL_law_971 rfl rfl ?_
                                                          refine om_iload_n O 3 dL_law_972 rfl rfl ?_
                                                          refine om_iconst O (v := 1) dL_law_973 (by decide) ?_
                                                          refine om_iadd O dL_law_974 ?_
                                                          revert h; refine om_iteR (fun i87o h => ?_)
                                                          refine om_sLd O hSc i87o dL_law_975 ?_
                                                          revert h; refine om_callR (fun r52o σ52o g52o h => ?_)
                                                          refine cl_L_124 O (st := [vI r51o]) (stk := [vI (scr (v3 + (1 : Int32)).toNatClampNeg), vR (some a2), vI r51o]) (st2 := [vI r52o, vI r51o]) [vI (scr (v3 + (1 : Int32)).toNatClampNeg)] (fun l G => c_X9_body l G g52o) ka2 (om_lt ka2 (by decide)) (by decide) rfl rfl rfl_le rfl rfl_le rfl_le dL_law_976 ?_
                                                          refine om_icmp_eq O (tgt := 1287) dL_law_979 (by decide) (fun c53o => ?_) (fun c53o => ?_)
                                                          · replace h := (if_pos c53o).symm.trans h
                                                            exact g_L_law_b1287 O hSc hE ih ka1 ka2 h
                                                          · replace h := (if_neg c53o).symm.trans h
                                                            refine om_iconst O (v := 0) dL_law_982 (by decide) ?_
                                                            exact absurd h om_e01
                                                        · replace h := (if_neg c52o).symm.trans h
                                                          by_cases c54o : ((scr v3.toNatClampNeg) &&& (63 : Int32)) = 26
                                                          · replace h := (if_pos c54o).symm.trans h
                                                            refine om_tblIn O (b := 26) (off := 951) (tgt := 984) dL_law_33 c54o (by decide) (by decide) (by decide +kernel) (by decide) ?_
                                                            refine om_aload_n O 1 dL_law_984 rfl rfl ?_
                                                            refine om_aload_n O 0 dL_law_985 rfl rfl ?_
                                                            refine om_iload_n O 3 dL_law_986 rfl rfl ?_
                                                            refine om_iconst O (v := 1) dL_law_987 (by decide) ?_
                                                            refine om_iadd O dL_law_988 ?_
                                                            revert h; refine om_iteR (fun i88o h => ?_)
                                                            refine om_sLd O hSc i88o dL_law_989 ?_
                                                            refine om_aload_n O 0 dL_law_990 rfl rfl ?_
                                                            refine om_iload_n O 3 dL_law_991 rfl rfl ?_
                                                            refine om_iconst O (v := 2) dL_law_992 (by decide) ?_
                                                            refine om_iadd O dL_law_993 ?_
                                                            revert h; refine om_iteR (fun i89o h => ?_)
                                                            refine om_sLd O hSc i89o dL_law_994 ?_
                                                            refine om_aload_n O 0 dL_law_995 rfl rfl ?_
                                                            refine om_iload_n O 3 dL_law_996 rfl rfl ?_
                                                            refine om_iconst O (v := 3) dL_law_997 (by decide) ?_
                                                            refine om_iadd O dL_law_998 ?_
                                                            revert h; refine om_iteR (fun i90o h => ?_)
                                                            refine om_sLd O hSc i90o dL_law_999 ?_
                                                            revert h; refine om_callR (fun r53o σ53o g53o h => ?_)
                                                            refine cl_L_125 O (st := []) (stk := [vI (scr (v3 + (3 : Int32)).toNatClampNeg), vI (scr (v3 + (2 : Int32)).toNatClampNeg), vI (scr (v3 + (1 : Int32)).toNatClampNeg), vR (some a1)]) (st2 := [vI r53o]) [vI (scr (v3 + (1 : Int32)).toNatClampNeg), vI (scr (v3 + (2 : Int32)).toNatClampNeg), vI (scr (v3 + (3 : Int32)).toNatClampNeg)] (fun l G => c_X8_sheet l G g53o) ka1 (om_lt ka1 (by decide)) (by decide) rfl rfl rfl_le rfl rfl_le rfl_le dL_law_1000 ?_
                                                            refine om_aload_n O 2 dL_law_1003 rfl rfl ?_
                                                            refine om_aload_n O 0 dL_law_1004 rfl rfl ?_
                                                            refine om_iload_n O 3 dL_law_1005 rfl rfl ?_
                                                            refine om_iconst O (v := 1) dL_law_1006 (by decide) ?_
                                                            refine om_iadd O dL_law_1007 ?_
                                                            revert h; refine om_iteR (fun i91o h => ?_)
                                                            refine om_sLd O hSc i91o dL_law_1008 ?_
                                                            refine om_aload_n O 0 dL_law_1009 rfl rfl ?_
                                                            refine om_iload_n O 3 dL_law_1010 rfl rfl ?_
                                                            refine om_iconst O (v := 2) dL_law_1011 (by decide) ?_
                                                            refine om_iadd O dL_law_1012 ?_
                                                            revert h; refine om_iteR (fun i92o h => ?_)
                                                            refine om_sLd O hSc i92o dL_law_1013 ?_
                                                            refine om_aload_n O 0 dL_law_1014 rfl rfl ?_
                                                            refine om_iload_n O 3 dL_law_1015 rfl rfl ?_
                                                            refine om_iconst O (v := 3) dL_law_1016 (by decide) ?_
                                                            refine om_iadd O dL_law_1017 ?_
                                                            revert h; refine om_iteR (fun i93o h => ?_)
                                                            refine om_sLd O hSc i93o dL_law_1018 ?_
                                                            revert h; refine om_callR (fun r54o σ54o g54o h => ?_)
                                                            refine cl_L_128 O (st := [vI r53o]) (stk := [vI (scr (v3 + (3 : Int32)).toNatClampNeg), vI (scr (v3 + (2 : Int32)).toNatClampNeg), vI (scr (v3 + (1 : Int32)).toNatClampNeg), vR (some a2), vI r53o]) (st2 := [vI r54o, vI r53o]) [vI (scr (v3 + (1 : Int32)).toNatClampNeg), vI (scr (v3 + (2 : Int32)).toNatClampNeg), vI (scr (v3 + (3 : Int32)).toNatClampNeg)] (fun l G => c_X9_sheet l G g54o) ka2 (om_lt ka2 (by decide)) (by decide) rfl rfl rfl_le rfl rfl_le rfl_le dL_law_1019 ?_
                                                            refine om_icmp_eq O (tgt := 1287) dL_law_1022 (by decide) (fun c55o => ?_) (fun c55o => ?_)
                                                            · replace h := (if_pos c55o).symm.trans h
                                                              exact g_L_law_b1287 O hSc hE ih ka1 ka2 h
                                                            · replace h := (if_neg c55o).symm.trans h
                                                              refine om_iconst O (v := 0) dL_law_1025 (by decide) ?_
                                                              exact absurd h om_e01
                                                          · replace h := (if_neg c54o).symm.trans h
                                                            by_cases c56o : ((scr v3.toNatClampNeg) &&& (63 : Int32)) = 27
                                                            · replace h := (if_pos c56o).symm.trans h
                                                              refine om_tblIn O (b := 27) (off := 994) (tgt := 1027) dL_law_33 c56o (by decide) (by decide) (by decide +kernel) (by decide) ?_
                                                              refine om_aload_n O 1 dL_law_1027 rfl rfl ?_
                                                              refine om_aload_n O 0 dL_law_1028 rfl rfl ?_
                                                              refine om_iload_n O 3 dL_law_1029 rfl rfl ?_
                                                              refine om_iconst O (v := 1) dL_law_1030 (by decide) ?_
                                                              refine om_iadd O dL_law_1031 ?_
                                                              revert h; refine om_iteR (fun i94o h => ?_)
                                                              refine om_sLd O hSc i94o dL_law_1032 ?_
                                                              refine om_aload_n O 0 dL_law_1033 rfl rfl ?_
                                                              refine om_iload_n O 3 dL_law_1034 rfl rfl ?_
                                                              refine om_iconst O (v := 2) dL_law_1035 (by decide) ?_
                                                              refine om_iadd O dL_law_1036 ?_
                                                              revert h; refine om_iteR (fun i95o h => ?_)
                                                              refine om_sLd O hSc i95o dL_law_1037 ?_
                                                              refine om_aload_n O 0 dL_law_1038 rfl rfl ?_
                                                              refine om_iload_n O 3 dL_law_1039 rfl rfl ?_
                                                              refine om_iconst O (v := 3) dL_law_1040 (by decide) ?_
                                                              refine om_iadd O dL_law_1041 ?_
                                                              revert h; refine om_iteR (fun i96o h => ?_)
                                                              refine om_sLd O hSc i96o dL_law_1042 ?_
                                                              revert h; refine om_callR (fun r55o σ55o g55o h => ?_)
                                                              refine cl_L_129 O (st := []) (stk := [vI (scr (v3 + (3 : Int32)).toNatClampNeg), vI (scr (v3 + (2 : Int32)).toNatClampNeg), vI (scr (v3 + (1 : Int32)).toNatClampNeg), vR (some a1)]) (st2 := [vI r55o]) [vI (scr (v3 + (1 : Int32)).toNatClampNeg), vI (scr (v3 + (2 : Int32)).toNatClampNeg), vI (scr (v3 + (3 : Int32)).toNatClampNeg)] (fun l G => c_X8_put l G g55o) ka1 (om_lt ka1 (by decide)) (by decide) rfl rfl rfl_le rfl rfl_le rfl_le dL_law_1043 ?_
                                                              refine om_aload_n O 2 dL_law_1046 rfl rfl ?_
                                                              refine om_aload_n O 0 dL_law_1047 rfl rfl ?_
                                                              refine om_iload_n O 3 dL_law_1048 rfl rfl ?_
                                                              refine om_iconst O (v := 1) dL_law_1049 (by decide) ?_
                                                              refine om_iadd O dL_law_1050 ?_
                                                              revert h; refine om_iteR (fun i97o h => ?_)
                                                              refine om_sLd O hSc i97o dL_law_1051 ?_
                                                              refine om_aload_n O 0 dL_law_1052 rfl rfl ?_
                                                              refine om_iload_n O 3 dL_law_1053 rfl rfl ?_
                                                              refine om_iconst O (v := 2) dL_law_1054 (by decide) ?_
                                                              refine om_iadd O dL_law_1055 ?_
                                                              revert h; refine om_iteR (fun i98o h => ?_)
                                                              refine om_sLd O hSc i98o dL_law_1056 ?_
                                                              refine om_aload_n O 0 dL_law_1057 rfl rfl ?_
                                                              refine om_iload_n O 3 dL_law_1058 rfl rfl ?_
                                                              refine om_iconst O (v := 3) dL_law_1059 (by decide) ?_
                                                              refine om_iadd O dL_law_1060 ?_
                                                              revert h; refine om_iteR (fun i99o h => ?_)
                                                              refine om_sLd O hSc i99o dL_law_1061 ?_
                                                              revert h; refine om_callR (fun r56o σ56o g56o h => ?_)
                                                              refine cl_L_132 O (st := [vI r55o]) (stk := [vI (scr (v3 + (3 : Int32)).toNatClampNeg), vI (scr (v3 + (2 : Int32)).toNatClampNeg), vI (scr (v3 + (1 : Int32)).toNatClampNeg), vR (some a2), vI r55o]) (st2 := [vI r56o, vI r55o]) [vI (scr (v3 + (1 : Int32)).toNatClampNeg), vI (scr (v3 + (2 : Int32)).toNatClampNeg), vI (scr (v3 + (3 : Int32)).toNatClampNeg)] (fun l G => c_X9_put l G g56o) ka2 (om_lt ka2 (by decide)) (by decide) rfl rfl rfl_le rfl rfl_le rfl_le dL_law_1062 ?_
                                                              refine om_icmp_eq O (tgt := 1287) dL_law_1065 (by decide) (fun c57o => ?_) (fun c57o => ?_)
                                                              · replace h := (if_pos c57o).symm.trans h
                                                                exact g_L_law_b1287 O hSc hE ih ka1 ka2 h
                                                              · replace h := (if_neg c57o).symm.trans h
                                                                refine om_iconst O (v := 0) dL_law_1068 (by decide) ?_
                                                                exact absurd h om_e01
                                                            · replace h := (if_neg c56o).symm.trans h
                                                              by_cases c58o : ((scr v3.toNatClampNeg) &&& (63 : Int32)) = 28
                                                              · replace h := (if_pos c58o).symm.trans h
                                                                refine om_tblIn O (b := 28) (off := 1037) (tgt := 1070) dL_law_33 c58o (by decide) (by decide) (by decide +kernel) (by decide) ?_
                                                                refine om_aload_n O 1 dL_law_1070 rfl rfl ?_
                                                                refine om_aload_n O 0 dL_law_1071 rfl rfl ?_
                                                                refine om_iload_n O 3 dL_law_1072 rfl rfl ?_
                                                                refine om_iconst O (v := 1) dL_law_1073 (by decide) ?_
                                                                refine om_iadd O dL_law_1074 ?_
                                                                revert h; refine om_iteR (fun i100o h => ?_)
                                                                refine om_sLd O hSc i100o dL_law_1075 ?_
                                                                refine om_aload_n O 0 dL_law_1076 rfl rfl ?_
                                                                refine om_iload_n O 3 dL_law_1077 rfl rfl ?_
                                                                refine om_iconst O (v := 2) dL_law_1078 (by decide) ?_
                                                                refine om_iadd O dL_law_1079 ?_
                                                                revert h; refine om_iteR (fun i101o h => ?_)
                                                                refine om_sLd O hSc i101o dL_law_1080 ?_
                                                                refine om_aload_n O 0 dL_law_1081 rfl rfl ?_
                                                                refine om_iload_n O 3 dL_law_1082 rfl rfl ?_
                                                                refine om_iconst O (v := 3) dL_law_1083 (by decide) ?_
                                                                refine om_iadd O dL_law_1084 ?_
                                                                revert h; refine om_iteR (fun i102o h => ?_)
                                                                refine om_sLd O hSc i102o dL_law_1085 ?_
                                                                refine om_aload_n O 0 dL_law_1086 rfl rfl ?_
                                                                refine om_iload_n O 3 dL_law_1087 rfl rfl ?_
                                                                refine om_iconst O (v := 4) dL_law_1088 (by decide) ?_
                                                                refine om_iadd O dL_law_1089 ?_
                                                                revert h; refine om_iteR (fun i103o h => ?_)
                                                                refine om_sLd O hSc i103o dL_law_1090 ?_
                                                                refine om_aload_n O 0 dL_law_1091 rfl rfl ?_
                                                                refine om_iload_n O 3 dL_law_1092 rfl rfl ?_
                                                                refine om_iconst O (v := 5) dL_law_1093 (by decide) ?_
                                                                refine om_iadd O dL_law_1094 ?_
                                                                revert h; refine om_iteR (fun i104o h => ?_)
                                                                refine om_sLd O hSc i104o dL_law_1095 ?_
                                                                revert h; refine om_callR (fun r57o σ57o g57o h => ?_)
                                                                refine cl_L_133 O (st := []) (stk := [vI (scr (v3 + (5 : Int32)).toNatClampNeg), vI (scr (v3 + (4 : Int32)).toNatClampNeg), vI (scr (v3 + (3 : Int32)).toNatClampNeg), vI (scr (v3 + (2 : Int32)).toNatClampNeg), vI (scr (v3 + (1 : Int32)).toNatClampNeg), vR (some a1)]) (st2 := [vI r57o]) [vI (scr (v3 + (1 : Int32)).toNatClampNeg), vI (scr (v3 + (2 : Int32)).toNatClampNeg), vI (scr (v3 + (3 : Int32)).toNatClampNeg), vI (scr (v3 + (4 : Int32)).toNatClampNeg), vI (scr (v3 + (5 : Int32)).toNatClampNeg)] (fun l G => c_X8_move l G g57o) ka1 (om_lt ka1 (by decide)) (by decide) rfl rfl rfl_le rfl rfl_le rfl_le dL_law_1096 ?_
                                                                refine om_aload_n O 2 dL_law_1099 rfl rfl ?_
                                                                refine om_aload_n O 0 dL_law_1100 rfl rfl ?_
                                                                refine om_iload_n O 3 dL_law_1101 rfl rfl ?_
                                                                refine om_iconst O (v := 1) dL_law_1102 (by decide) ?_
                                                                refine om_iadd O dL_law_1103 ?_
                                                                revert h; refine om_iteR (fun i105o h => ?_)
                                                                refine om_sLd O hSc i105o dL_law_1104 ?_
                                                                refine om_aload_n O 0 dL_law_1105 rfl rfl ?_
                                                                refine om_iload_n O 3 dL_law_1106 rfl rfl ?_
                                                                refine om_iconst O (v := 2) dL_law_1107 (by decide) ?_
                                                                refine om_iadd O dL_law_1108 ?_
                                                                revert h; refine om_iteR (fun i106o h => ?_)
                                                                refine om_sLd O hSc i106o dL_law_1109 ?_
                                                                refine om_aload_n O 0 dL_law_1110 rfl rfl ?_
                                                                refine om_iload_n O 3 dL_law_1111 rfl rfl ?_
                                                                refine om_iconst O (v := 3) dL_law_1112 (by decide) ?_
                                                                refine om_iadd O dL_law_1113 ?_
                                                                revert h; refine om_iteR (fun i107o h => ?_)
                                                                refine om_sLd O hSc i107o dL_law_1114 ?_
                                                                refine om_aload_n O 0 dL_law_1115 rfl rfl ?_
                                                                refine om_iload_n O 3 dL_law_1116 rfl rfl ?_
                                                                refine om_iconst O (v := 4) dL_law_1117 (by decide) ?_
                                                                refine om_iadd O dL_law_1118 ?_
                                                                revert h; refine om_iteR (fun i108o h => ?_)
                                                                refine om_sLd O hSc i108o dL_law_1119 ?_
                                                                refine om_aload_n O 0 dL_law_1120 rfl rfl ?_
                                                                refine om_iload_n O 3 dL_law_1121 rfl rfl ?_
                                                                refine om_iconst O (v := 5) dL_law_1122 (by decide) ?_
                                                                refine om_iadd O dL_law_1123 ?_
                                                                revert h; refine om_iteR (fun i109o h => ?_)
                                                                refine om_sLd O hSc i109o dL_law_1124 ?_
                                                                revert h; refine om_callR (fun r58o σ58o g58o h => ?_)
                                                                refine cl_L_137 O (st := [vI r57o]) (stk := [vI (scr (v3 + (5 : Int32)).toNatClampNeg), vI (scr (v3 + (4 : Int32)).toNatClampNeg), vI (scr (v3 + (3 : Int32)).toNatClampNeg), vI (scr (v3 + (2 : Int32)).toNatClampNeg), vI (scr (v3 + (1 : Int32)).toNatClampNeg), vR (some a2), vI r57o]) (st2 := [vI r58o, vI r57o]) [vI (scr (v3 + (1 : Int32)).toNatClampNeg), vI (scr (v3 + (2 : Int32)).toNatClampNeg), vI (scr (v3 + (3 : Int32)).toNatClampNeg), vI (scr (v3 + (4 : Int32)).toNatClampNeg), vI (scr (v3 + (5 : Int32)).toNatClampNeg)] (fun l G => c_X9_move l G g58o) ka2 (om_lt ka2 (by decide)) (by decide) rfl rfl rfl_le rfl rfl_le rfl_le dL_law_1125 ?_
                                                                refine om_icmp_eq O (tgt := 1287) dL_law_1128 (by decide) (fun c59o => ?_) (fun c59o => ?_)
                                                                · replace h := (if_pos c59o).symm.trans h
                                                                  exact g_L_law_b1287 O hSc hE ih ka1 ka2 h
                                                                · replace h := (if_neg c59o).symm.trans h
                                                                  refine om_iconst O (v := 0) dL_law_1131 (by decide) ?_
                                                                  exact absurd h om_e01
                                                              · replace h := (if_neg c58o).symm.trans h
                                                                by_cases c60o : ((scr v3.toNatClampNeg) &&& (63 : Int32)) = 29
                                                                · replace h := (if_pos c60o).symm.trans h
                                                                  refine om_tblIn O (b := 29) (off := 1100) (tgt := 1133) dL_law_33 c60o (by decide) (by decide) (by decide +kernel) (by decide) ?_
                                                                  refine om_aload_n O 1 dL_law_1133 rfl rfl ?_
                                                                  refine om_aload_n O 0 dL_law_1134 rfl rfl ?_
                                                                  refine om_iload_n O 3 dL_law_1135 rfl rfl ?_
                                                                  refine om_iconst O (v := 1) dL_law_1136 (by decide) ?_
                                                                  refine om_iadd O dL_law_1137 ?_
                                                                  revert h; refine om_iteR (fun i110o h => ?_)
                                                                  refine om_sLd O hSc i110o dL_law_1138 ?_
                                                                  revert h; refine om_callR (fun r59o σ59o g59o h => ?_)
                                                                  refine cl_L_138 O (st := []) (stk := [vI (scr (v3 + (1 : Int32)).toNatClampNeg), vR (some a1)]) (st2 := [vI r59o]) [vI (scr (v3 + (1 : Int32)).toNatClampNeg)] (fun l G => c_X8_dears l G g59o) ka1 (om_lt ka1 (by decide)) (by decide) rfl rfl rfl_le rfl rfl_le rfl_le dL_law_1139 ?_
                                                                  refine om_aload_n O 2 dL_law_1142 rfl rfl ?_
                                                                  refine om_aload_n O 0 dL_law_1143 rfl rfl ?_
                                                                  refine om_iload_n O 3 dL_law_1144 rfl rfl ?_
                                                                  refine om_iconst O (v := 1) dL_law_1145 (by decide) ?_
                                                                  refine om_iadd O dL_law_1146 ?_
                                                                  revert h; refine om_iteR (fun i111o h => ?_)
                                                                  refine om_sLd O hSc i111o dL_law_1147 ?_
                                                                  revert h; refine om_callR (fun r60o σ60o g60o h => ?_)
                                                                  refine cl_L_141 O (st := [vI r59o]) (stk := [vI (scr (v3 + (1 : Int32)).toNatClampNeg), vR (some a2), vI r59o]) (st2 := [vI r60o, vI r59o]) [vI (scr (v3 + (1 : Int32)).toNatClampNeg)] (fun l G => c_X9_dears l G g60o) ka2 (om_lt ka2 (by decide)) (by decide) rfl rfl rfl_le rfl rfl_le rfl_le dL_law_1148 ?_
                                                                  refine om_icmp_eq O (tgt := 1287) dL_law_1151 (by decide) (fun c61o => ?_) (fun c61o => ?_)
                                                                  · replace h := (if_pos c61o).symm.trans h
                                                                    exact g_L_law_b1287 O hSc hE ih ka1 ka2 h
                                                                  · replace h := (if_neg c61o).symm.trans h
                                                                    refine om_iconst O (v := 0) dL_law_1154 (by decide) ?_
                                                                    exact absurd h om_e01
                                                                · replace h := (if_neg c60o).symm.trans h
                                                                  by_cases c62o : ((scr v3.toNatClampNeg) &&& (63 : Int32)) = 30
                                                                  · replace h := (if_pos c62o).symm.trans h
                                                                    refine om_tblIn O (b := 30) (off := 1123) (tgt := 1156) dL_law_33 c62o (by decide) (by decide) (by decide +kernel) (by decide) ?_
                                                                    refine om_aload_n O 1 dL_law_1156 rfl rfl ?_
                                                                    refine om_aload_n O 0 dL_law_1157 rfl rfl ?_
                                                                    refine om_iload_n O 3 dL_law_1158 rfl rfl ?_
                                                                    refine om_iconst O (v := 1) dL_law_1159 (by decide) ?_
                                                                    refine om_iadd O dL_law_1160 ?_
                                                                    revert h; refine om_iteR (fun i112o h => ?_)
                                                                    refine om_sLd O hSc i112o dL_law_1161 ?_
                                                                    revert h; refine om_callR (fun r61o σ61o g61o h => ?_)
                                                                    refine cl_L_142 O (st := []) (stk := [vI (scr (v3 + (1 : Int32)).toNatClampNeg), vR (some a1)]) (st2 := [vI r61o]) [vI (scr (v3 + (1 : Int32)).toNatClampNeg)] (fun l G => c_X8_judge l G g61o) ka1 (om_lt ka1 (by decide)) (by decide) rfl rfl rfl_le rfl rfl_le rfl_le dL_law_1162 ?_
                                                                    refine om_aload_n O 2 dL_law_1165 rfl rfl ?_
                                                                    refine om_aload_n O 0 dL_law_1166 rfl rfl ?_
                                                                    refine om_iload_n O 3 dL_law_1167 rfl rfl ?_
                                                                    refine om_iconst O (v := 1) dL_law_1168 (by decide) ?_
                                                                    refine om_iadd O dL_law_1169 ?_
                                                                    revert h; refine om_iteR (fun i113o h => ?_)
                                                                    refine om_sLd O hSc i113o dL_law_1170 ?_
                                                                    revert h; refine om_callR (fun r62o σ62o g62o h => ?_)
                                                                    refine cl_L_145 O (st := [vI r61o]) (stk := [vI (scr (v3 + (1 : Int32)).toNatClampNeg), vR (some a2), vI r61o]) (st2 := [vI r62o, vI r61o]) [vI (scr (v3 + (1 : Int32)).toNatClampNeg)] (fun l G => c_X9_judge l G g62o) ka2 (om_lt ka2 (by decide)) (by decide) rfl rfl rfl_le rfl rfl_le rfl_le dL_law_1171 ?_
                                                                    refine om_icmp_eq O (tgt := 1287) dL_law_1174 (by decide) (fun c63o => ?_) (fun c63o => ?_)
                                                                    · replace h := (if_pos c63o).symm.trans h
                                                                      exact g_L_law_b1287 O hSc hE ih ka1 ka2 h
                                                                    · replace h := (if_neg c63o).symm.trans h
                                                                      refine om_iconst O (v := 0) dL_law_1177 (by decide) ?_
                                                                      exact absurd h om_e01
                                                                  · replace h := (if_neg c62o).symm.trans h
                                                                    by_cases c64o : ((scr v3.toNatClampNeg) &&& (63 : Int32)) = 31
                                                                    · replace h := (if_pos c64o).symm.trans h
                                                                      refine om_tblIn O (b := 31) (off := 1146) (tgt := 1179) dL_law_33 c64o (by decide) (by decide) (by decide +kernel) (by decide) ?_
                                                                      refine om_aload_n O 1 dL_law_1179 rfl rfl ?_
                                                                      revert h; refine om_callR (fun r63o σ63o g63o h => ?_)
                                                                      refine cl_L_146 O (st := []) (stk := [vR (some a1)]) (st2 := [vI r63o]) [] (fun l G => c_X8_image l G g63o) ka1 (om_lt ka1 (by decide)) (by decide) rfl rfl rfl_le rfl rfl_le rfl_le dL_law_1180 ?_
                                                                      refine om_aload_n O 2 dL_law_1183 rfl rfl ?_
                                                                      revert h; refine om_callR (fun r64o σ64o g64o h => ?_)
                                                                      refine cl_L_149 O (st := [vI r63o]) (stk := [vR (some a2), vI r63o]) (st2 := [vI r64o, vI r63o]) [] (fun l G => c_X9_image l G g64o) ka2 (om_lt ka2 (by decide)) (by decide) rfl rfl rfl_le rfl rfl_le rfl_le dL_law_1184 ?_
                                                                      refine om_icmp_eq O (tgt := 1287) dL_law_1187 (by decide) (fun c65o => ?_) (fun c65o => ?_)
                                                                      · replace h := (if_pos c65o).symm.trans h
                                                                        exact g_L_law_b1287 O hSc hE ih ka1 ka2 h
                                                                      · replace h := (if_neg c65o).symm.trans h
                                                                        refine om_iconst O (v := 0) dL_law_1190 (by decide) ?_
                                                                        exact absurd h om_e01
                                                                    · replace h := (if_neg c64o).symm.trans h
                                                                      by_cases c66o : ((scr v3.toNatClampNeg) &&& (63 : Int32)) = 32
                                                                      · replace h := (if_pos c66o).symm.trans h
                                                                        refine om_tblIn O (b := 32) (off := 1159) (tgt := 1192) dL_law_33 c66o (by decide) (by decide) (by decide +kernel) (by decide) ?_
                                                                        refine om_aload_n O 1 dL_law_1192 rfl rfl ?_
                                                                        revert h; refine om_callR (fun r65o σ65o g65o h => ?_)
                                                                        refine cl_L_150 O (st := []) (stk := [vR (some a1)]) (st2 := [vI r65o]) [] (fun l G => c_X8_restore l G g65o) ka1 (om_lt ka1 (by decide)) (by decide) rfl rfl rfl_le rfl rfl_le rfl_le dL_law_1193 ?_
                                                                        refine om_aload_n O 2 dL_law_1196 rfl rfl ?_
                                                                        revert h; refine om_callR (fun r66o σ66o g66o h => ?_)
                                                                        refine cl_L_153 O (st := [vI r65o]) (stk := [vR (some a2), vI r65o]) (st2 := [vI r66o, vI r65o]) [] (fun l G => c_X9_restore l G g66o) ka2 (om_lt ka2 (by decide)) (by decide) rfl rfl rfl_le rfl rfl_le rfl_le dL_law_1197 ?_
                                                                        refine om_icmp_eq O (tgt := 1287) dL_law_1200 (by decide) (fun c67o => ?_) (fun c67o => ?_)
                                                                        · replace h := (if_pos c67o).symm.trans h
                                                                          exact g_L_law_b1287 O hSc hE ih ka1 ka2 h
                                                                        · replace h := (if_neg c67o).symm.trans h
                                                                          refine om_iconst O (v := 0) dL_law_1203 (by decide) ?_
                                                                          exact absurd h om_e01
                                                                      · replace h := (if_neg c66o).symm.trans h
                                                                        by_cases c68o : ((scr v3.toNatClampNeg) &&& (63 : Int32)) = 33
                                                                        · replace h := (if_pos c68o).symm.trans h
                                                                          refine om_tblIn O (b := 33) (off := 1172) (tgt := 1205) dL_law_33 c68o (by decide) (by decide) (by decide +kernel) (by decide) ?_
                                                                          refine om_aload_n O 1 dL_law_1205 rfl rfl ?_
                                                                          refine om_aload_n O 0 dL_law_1206 rfl rfl ?_
                                                                          refine om_iload_n O 3 dL_law_1207 rfl rfl ?_
                                                                          refine om_iconst O (v := 1) dL_law_1208 (by decide) ?_
                                                                          refine om_iadd O dL_law_1209 ?_
                                                                          revert h; refine om_iteR (fun i114o h => ?_)
                                                                          refine om_sLd O hSc i114o dL_law_1210 ?_
                                                                          revert h; refine om_callR (fun r67o σ67o g67o h => ?_)
                                                                          refine cl_L_154 O (st := []) (stk := [vI (scr (v3 + (1 : Int32)).toNatClampNeg), vR (some a1)]) (st2 := [vI r67o]) [vI (scr (v3 + (1 : Int32)).toNatClampNeg)] (fun l G => c_X8_tell l G g67o) ka1 (om_lt ka1 (by decide)) (by decide) rfl rfl rfl_le rfl rfl_le rfl_le dL_law_1211 ?_
                                                                          refine om_aload_n O 2 dL_law_1214 rfl rfl ?_
                                                                          refine om_aload_n O 0 dL_law_1215 rfl rfl ?_
                                                                          refine om_iload_n O 3 dL_law_1216 rfl rfl ?_
                                                                          refine om_iconst O (v := 1) dL_law_1217 (by decide) ?_
                                                                          refine om_iadd O dL_law_1218 ?_
                                                                          revert h; refine om_iteR (fun i115o h => ?_)
                                                                          refine om_sLd O hSc i115o dL_law_1219 ?_
                                                                          revert h; refine om_callR (fun r68o σ68o g68o h => ?_)
                                                                          refine cl_L_157 O (st := [vI r67o]) (stk := [vI (scr (v3 + (1 : Int32)).toNatClampNeg), vR (some a2), vI r67o]) (st2 := [vI r68o, vI r67o]) [vI (scr (v3 + (1 : Int32)).toNatClampNeg)] (fun l G => c_X9_tell l G g68o) ka2 (om_lt ka2 (by decide)) (by decide) rfl rfl rfl_le rfl rfl_le rfl_le dL_law_1220 ?_
                                                                          refine om_icmp_eq O (tgt := 1287) dL_law_1223 (by decide) (fun c69o => ?_) (fun c69o => ?_)
                                                                          · replace h := (if_pos c69o).symm.trans h
                                                                            exact g_L_law_b1287 O hSc hE ih ka1 ka2 h
                                                                          · replace h := (if_neg c69o).symm.trans h
                                                                            refine om_iconst O (v := 0) dL_law_1226 (by decide) ?_
                                                                            exact absurd h om_e01
                                                                        · replace h := (if_neg c68o).symm.trans h
                                                                          by_cases c70o : ((scr v3.toNatClampNeg) &&& (63 : Int32)) = 34
                                                                          · replace h := (if_pos c70o).symm.trans h
                                                                            refine om_tblIn O (b := 34) (off := 1195) (tgt := 1228) dL_law_33 c70o (by decide) (by decide) (by decide +kernel) (by decide) ?_
                                                                            refine om_aload_n O 1 dL_law_1228 rfl rfl ?_
                                                                            revert h; refine om_callR (fun r69o σ69o g69o h => ?_)
                                                                            refine cl_L_158 O (st := []) (stk := [vR (some a1)]) (st2 := [vI r69o]) [] (fun l G => c_X8_check l G g69o) ka1 (om_lt ka1 (by decide)) (by decide) rfl rfl rfl_le rfl rfl_le rfl_le dL_law_1229 ?_
                                                                            refine om_aload_n O 2 dL_law_1232 rfl rfl ?_
                                                                            revert h; refine om_callR (fun r70o σ70o g70o h => ?_)
                                                                            refine cl_L_161 O (st := [vI r69o]) (stk := [vR (some a2), vI r69o]) (st2 := [vI r70o, vI r69o]) [] (fun l G => c_X9_check l G g70o) ka2 (om_lt ka2 (by decide)) (by decide) rfl rfl rfl_le rfl rfl_le rfl_le dL_law_1233 ?_
                                                                            refine om_icmp_eq O (tgt := 1287) dL_law_1236 (by decide) (fun c71o => ?_) (fun c71o => ?_)
                                                                            · replace h := (if_pos c71o).symm.trans h
                                                                              exact g_L_law_b1287 O hSc hE ih ka1 ka2 h
                                                                            · replace h := (if_neg c71o).symm.trans h
                                                                              refine om_iconst O (v := 0) dL_law_1239 (by decide) ?_
                                                                              exact absurd h om_e01
                                                                          · replace h := (if_neg c70o).symm.trans h
                                                                            by_cases c72o : ((scr v3.toNatClampNeg) &&& (63 : Int32)) = 35
                                                                            · replace h := (if_pos c72o).symm.trans h
                                                                              refine om_tblIn O (b := 35) (off := 1208) (tgt := 1241) dL_law_33 c72o (by decide) (by decide) (by decide +kernel) (by decide) ?_
                                                                              refine om_aload_n O 1 dL_law_1241 rfl rfl ?_
                                                                              refine om_aload_n O 0 dL_law_1242 rfl rfl ?_
                                                                              refine om_iload_n O 3 dL_law_1243 rfl rfl ?_
                                                                              refine om_iconst O (v := 1) dL_law_1244 (by decide) ?_
                                                                              refine om_iadd O dL_law_1245 ?_
                                                                              revert h; refine om_iteR (fun i116o h => ?_)
                                                                              refine om_sLd O hSc i116o dL_law_1246 ?_
                                                                              revert h; refine om_callR (fun r71o σ71o g71o h => ?_)
                                                                              refine cl_L_162 O (st := []) (stk := [vI (scr (v3 + (1 : Int32)).toNatClampNeg), vR (some a1)]) (st2 := [vI r71o]) [vI (scr (v3 + (1 : Int32)).toNatClampNeg)] (fun l G => c_X8_count l G g71o) ka1 (om_lt ka1 (by decide)) (by decide) rfl rfl rfl_le rfl rfl_le rfl_le dL_law_1247 ?_
                                                                              refine om_aload_n O 2 dL_law_1250 rfl rfl ?_
                                                                              refine om_aload_n O 0 dL_law_1251 rfl rfl ?_
                                                                              refine om_iload_n O 3 dL_law_1252 rfl rfl ?_
                                                                              refine om_iconst O (v := 1) dL_law_1253 (by decide) ?_
                                                                              refine om_iadd O dL_law_1254 ?_
                                                                              revert h; refine om_iteR (fun i117o h => ?_)
                                                                              refine om_sLd O hSc i117o dL_law_1255 ?_
                                                                              revert h; refine om_callR (fun r72o σ72o g72o h => ?_)
                                                                              refine cl_L_165 O (st := [vI r71o]) (stk := [vI (scr (v3 + (1 : Int32)).toNatClampNeg), vR (some a2), vI r71o]) (st2 := [vI r72o, vI r71o]) [vI (scr (v3 + (1 : Int32)).toNatClampNeg)] (fun l G => c_X9_count l G g72o) ka2 (om_lt ka2 (by decide)) (by decide) rfl rfl rfl_le rfl rfl_le rfl_le dL_law_1256 ?_
                                                                              refine om_icmp_eq O (tgt := 1287) dL_law_1259 (by decide) (fun c73o => ?_) (fun c73o => ?_)
                                                                              · replace h := (if_pos c73o).symm.trans h
                                                                                exact g_L_law_b1287 O hSc hE ih ka1 ka2 h
                                                                              · replace h := (if_neg c73o).symm.trans h
                                                                                refine om_iconst O (v := 0) dL_law_1262 (by decide) ?_
                                                                                exact absurd h om_e01
                                                                            · replace h := (if_neg c72o).symm.trans h
                                                                              by_cases c74o : ((scr v3.toNatClampNeg) &&& (63 : Int32)) = 36
                                                                              · replace h := (if_pos c74o).symm.trans h
                                                                                refine om_tblIn O (b := 36) (off := 1231) (tgt := 1264) dL_law_33 c74o (by decide) (by decide) (by decide +kernel) (by decide) ?_
                                                                                refine om_aload_n O 1 dL_law_1264 rfl rfl ?_
                                                                                refine om_aload_n O 0 dL_law_1265 rfl rfl ?_
                                                                                refine om_iload_n O 3 dL_law_1266 rfl rfl ?_
                                                                                refine om_iconst O (v := 1) dL_law_1267 (by decide) ?_
                                                                                refine om_iadd O dL_law_1268 ?_
                                                                                revert h; refine om_iteR (fun i118o h => ?_)
                                                                                refine om_sLd O hSc i118o dL_law_1269 ?_
                                                                                revert h; refine om_callR (fun r73o σ73o g73o h => ?_)
                                                                                refine cl_L_166 O (st := []) (stk := [vI (scr (v3 + (1 : Int32)).toNatClampNeg), vR (some a1)]) (st2 := [vI r73o]) [vI (scr (v3 + (1 : Int32)).toNatClampNeg)] (fun l G => c_X8_told l G g73o) ka1 (om_lt ka1 (by decide)) (by decide) rfl rfl rfl_le rfl rfl_le rfl_le dL_law_1270 ?_
                                                                                refine om_aload_n O 2 dL_law_1273 rfl rfl ?_
                                                                                refine om_aload_n O 0 dL_law_1274 rfl rfl ?_
                                                                                refine om_iload_n O 3 dL_law_1275 rfl rfl ?_
                                                                                refine om_iconst O (v := 1) dL_law_1276 (by decide) ?_
                                                                                refine om_iadd O dL_law_1277 ?_
                                                                                revert h; refine om_iteR (fun i119o h => ?_)
                                                                                refine om_sLd O hSc i119o dL_law_1278 ?_
                                                                                revert h; refine om_callR (fun r74o σ74o g74o h => ?_)
                                                                                refine cl_L_169 O (st := [vI r73o]) (stk := [vI (scr (v3 + (1 : Int32)).toNatClampNeg), vR (some a2), vI r73o]) (st2 := [vI r74o, vI r73o]) [vI (scr (v3 + (1 : Int32)).toNatClampNeg)] (fun l G => c_X9_told l G g74o) ka2 (om_lt ka2 (by decide)) (by decide) rfl rfl rfl_le rfl rfl_le rfl_le dL_law_1279 ?_
                                                                                refine om_icmp_eq O (tgt := 1287) dL_law_1282 (by decide) (fun c75o => ?_) (fun c75o => ?_)
                                                                                · replace h := (if_pos c75o).symm.trans h
                                                                                  exact g_L_law_b1287 O hSc hE ih ka1 ka2 h
                                                                                · replace h := (if_neg c75o).symm.trans h
                                                                                  refine om_iconst O (v := 0) dL_law_1285 (by decide) ?_
                                                                                  exact absurd h om_e01
                                                                              · replace h := (if_neg c74o).symm.trans h
                                                                                refine om_tblDef O (tgt := 1287) dL_law_33 (fun v hv h1 h2 => by
    have h3 : v = 0 ∨ v = 1 ∨ v = 2 ∨ v = 3 ∨ v = 4 ∨ v = 5 ∨ v = 6 ∨ v = 7 ∨ v = 8 ∨ v = 9 ∨ v = 10 ∨ v = 11 ∨ v = 12 ∨ v = 13 ∨ v = 14 ∨ v = 15 ∨ v = 16 ∨ v = 17 ∨ v = 18 ∨ v = 19 ∨ v = 20 ∨ v = 21 ∨ v = 22 ∨ v = 23 ∨ v = 24 ∨ v = 25 ∨ v = 26 ∨ v = 27 ∨ v = 28 ∨ v = 29 ∨ v = 30 ∨ v = 31 ∨ v = 32 ∨ v = 33 ∨ v = 34 ∨ v = 35 ∨ v = 36 := by omega
    rcases h3 with rfl | rfl | rfl | rfl | rfl | rfl | rfl | rfl | rfl | rfl | rfl | rfl | rfl | rfl | rfl | rfl | rfl | rfl | rfl | rfl | rfl | rfl | rfl | rfl | rfl | rfl | rfl | rfl | rfl | rfl | rfl | rfl | rfl | rfl | rfl | rfl | rfl <;> first | rfl | exact absurd hv.symm (lv_neT (k := 0) c2o (by decide)) | exact absurd hv.symm (lv_neT (k := 1) c4o (by decide)) | exact absurd hv.symm (lv_neT (k := 2) c6o (by decide)) | exact absurd hv.symm (lv_neT (k := 3) c8o (by decide)) | exact absurd hv.symm (lv_neT (k := 4) c10o (by decide)) | exact absurd hv.symm (lv_neT (k := 5) c12o (by decide)) | exact absurd hv.symm (lv_neT (k := 6) c14o (by decide)) | exact absurd hv.symm (lv_neT (k := 7) c16o (by decide)) | exact absurd hv.symm (lv_neT (k := 8) c18o (by decide)) | exact absurd hv.symm (lv_neT (k := 9) c20o (by decide)) | exact absurd hv.symm (lv_neT (k := 10) c22o (by decide)) | exact absurd hv.symm (lv_neT (k := 11) c24o (by decide)) | exact absurd hv.symm (lv_neT (k := 12) c26o (by decide)) | exact absurd hv.symm (lv_neT (k := 13) c28o (by decide)) | exact absurd hv.symm (lv_neT (k := 14) c30o (by decide)) | exact absurd hv.symm (lv_neT (k := 15) c32o (by decide)) | exact absurd hv.symm (lv_neT (k := 16) c34o (by decide)) | exact absurd hv.symm (lv_neT (k := 17) c36o (by decide)) | exact absurd hv.symm (lv_neT (k := 18) c38o (by decide)) | exact absurd hv.symm (lv_neT (k := 19) c40o (by decide)) | exact absurd hv.symm (lv_neT (k := 20) c42o (by decide)) | exact absurd hv.symm (lv_neT (k := 21) c44o (by decide)) | exact absurd hv.symm (lv_neT (k := 22) c46o (by decide)) | exact absurd hv.symm (lv_neT (k := 23) c48o (by decide)) | exact absurd hv.symm (lv_neT (k := 24) c50o (by decide)) | exact absurd hv.symm (lv_neT (k := 25) c52o (by decide)) | exact absurd hv.symm (lv_neT (k := 26) c54o (by decide)) | exact absurd hv.symm (lv_neT (k := 27) c56o (by decide)) | exact absurd hv.symm (lv_neT (k := 28) c58o (by decide)) | exact absurd hv.symm (lv_neT (k := 29) c60o (by decide)) | exact absurd hv.symm (lv_neT (k := 30) c62o (by decide)) | exact absurd hv.symm (lv_neT (k := 31) c64o (by decide)) | exact absurd hv.symm (lv_neT (k := 32) c66o (by decide)) | exact absurd hv.symm (lv_neT (k := 33) c68o (by decide)) | exact absurd hv.symm (lv_neT (k := 34) c70o (by decide)) | exact absurd hv.symm (lv_neT (k := 35) c72o (by decide)) | exact absurd hv.symm (lv_neT (k := 36) c74o (by decide))) (by decide) ?_
                                                                                exact g_L_law_b1287 O hSc hE ih ka1 ka2 h
