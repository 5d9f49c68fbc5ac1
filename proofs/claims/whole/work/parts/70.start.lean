/-! THE CLAIM OUT OF ONE WALK OF THE LAW'S BODY. Your part is whole_start (and what it stands on); all else here is the same for every law, but numbers. -/
def R_law : String := "OilMemoriesLaw"
def lw_P (b : Addr) (xs : List Int32) (args : Array Value) (s : State) : Prop := args = #[.ref b] ∧ s.IntsAt b xs ∧ xs.length ≤ 3072 ∧ (Jvm.Cond.and given_1 narrow_1).before args s = true
def lw_Q (_ : Array Value) (s : State) (o : Outcome) (t : State) : Prop := o = .returned (some (.int 1)) ∧ Framed s o t [] 600000 7302250
def lw_Z (below : List Frame) (a : Array Value) (s : State) : State → Prop := fun t => ∃ o, t.status = .running ∧ Ended t below o ∧ lw_Q a s o t
/-- the law's own end, with 1 on the stack, nothing written that was there before, its room as the claim has it -/
theorem lw_ret {p : Program} {l : Launch} {e : Env} {s : State} {m : MethodId} {below : List Frame} {meth : Method} {c : Code} {b : Nat} (hx : p.tables.exec = Jvm.exec) (hb : c.code = code) (hr : meth.sig.returnType = ret) (hlocks : meth.locks = false) {pc : Nat} {H : Heap} {ls : Array Slot} (hdg : decode code pc = .ok (.ireturn, 1)) : W p l e room_1 s m #[Value.ref b] below meth c H [] 600000 7302250 (lw_Z below #[Value.ref b] s) (F0 m pc ls [.int 1]) := by
  intro T hT X
  obtain ⟨fs, hret, hrun, hended, hW, hframe⟩ := X.leave (v := some (.int 1)) (hlocks := hlocks) (fun h => by rw [hr] at h; cases h)
  have hmeth' : T.vm.method? m = some meth := X.method'
  refine ⟨T.setFrames fs, ?_, .returned (some (.int 1)), hrun, hended, rfl, ⟨_, rfl⟩, hW, hframe⟩
  jvm_step X.here [X.here.top, hx, hb, hdg, hmeth', hr, ret, narrow_b1]
  (try refine ⟨rfl, ?_⟩); (try refine ⟨rfl, ?_⟩)
  first | (intro acts; rw [hret _ acts rfl rfl rfl]) | rw [hret _ _ rfl rfl rfl]
  exact Steps.refl _
/-- what holds at the law's entry: the machine, the code, the tables' words (any of lw_tbl by 'hts w (by decide +kernel)'), the script of L ints xs at the cell b, what the Statement gives of the start (any of its parts by flat_of_before) -/
def lw_At (p : Program) (s : State) (m : MethodId) (meth : Method) (c : Code) (b L : Nat) (xs : Nat → Int32) : Prop :=
  p.tables.exec = Jvm.exec ∧ c.code = code ∧ meth.sig.returnType = ret ∧ c.maxLocals = 4 ∧ s.vm.findClass R_law = some m.cls ∧ (∀ w ∈ lw_tbl, w.before #[Value.ref b] s = true) ∧ va_X b L xs s s.heap ∧ b < s.heap.size ∧ meth.locks = false ∧ (Jvm.Cond.and given_1 narrow_1).before #[Value.ref b] s = true
set_option maxHeartbeats 4000000 in
set_option maxRecDepth 100000 in
theorem om_start {p : Program} {e : Env} {s : State} {m : MethodId} {below : List Frame} {meth : Method} {c : Code} (l : Launch) {b L : Nat} {xs : Nat → Int32} (C0 : lw_At p s m meth c b L xs) {τ : om_S} (hgo : f_L_law_b18 L xs om_F 0 90 0 om_s2 = some (1, τ)) : W p l e room_1 s m #[Value.ref b] below meth c s.heap [] 0 0 (lw_Z below #[Value.ref b] s) (entryFrame m ([Value.ref b] : List Value).toArray 4) := by
  obtain ⟨hx, hb, hr, hml, hown, hts, hX, hbl, hlocks, hgv⟩ := id C0
  have htb : ∀ w ∈ om_tbl, w.before #[Value.ref b] s = true := fun w h => hts w (om_sub h)
  have hcls : ∀ k : Nat, ∃ (cC : ClassId) (iS : Nat → Nat), ∀ q, vwCl[k]? = some q → u_Kn s q.1 q.2.1 q.2.2 cC iS := by
    intro k
    match k with
    | 0 =>
      obtain ⟨c1, i1, h1⟩ := u_known htb in_X0 (htb _ wd_178)
      exact ⟨c1, i1, fun q hq => by cases hq; exact h1⟩
    | 1 =>
      obtain ⟨c1, i1, h1⟩ := u_known htb in_X1 (htb _ wd_111)
      exact ⟨c1, i1, fun q hq => by cases hq; exact h1⟩
    | 2 =>
      obtain ⟨c1, i1, h1⟩ := u_known htb in_X2 (htb _ wd_202)
      exact ⟨c1, i1, fun q hq => by cases hq; exact h1⟩
    | 3 =>
      obtain ⟨c1, i1, h1⟩ := u_known htb in_X3 (htb _ wd_86)
      exact ⟨c1, i1, fun q hq => by cases hq; exact h1⟩
    | 4 =>
      obtain ⟨c1, i1, h1⟩ := u_known htb in_X4 (htb _ wd_253)
      exact ⟨c1, i1, fun q hq => by cases hq; exact h1⟩
    | 5 =>
      obtain ⟨c1, i1, h1⟩ := u_known htb in_X5 (htb _ wd_80)
      exact ⟨c1, i1, fun q hq => by cases hq; exact h1⟩
    | 6 =>
      obtain ⟨c1, i1, h1⟩ := u_known htb in_X6 (htb _ wd_72)
      exact ⟨c1, i1, fun q hq => by cases hq; exact h1⟩
    | 7 =>
      obtain ⟨c1, i1, h1⟩ := u_known htb in_X7 (htb _ wd_226)
      exact ⟨c1, i1, fun q hq => by cases hq; exact h1⟩
    | 8 =>
      obtain ⟨c1, i1, h1⟩ := u_known htb in_X8 (htb _ wd_64)
      exact ⟨c1, i1, fun q hq => by cases hq; exact h1⟩
    | 9 =>
      obtain ⟨c1, i1, h1⟩ := u_known htb in_X9 (htb _ wd_757)
      exact ⟨c1, i1, fun q hq => by cases hq; exact h1⟩
    | k + 10 => exact ⟨0, fun _ => 0, fun q hq => by simp [vwCl] at hq⟩
  obtain ⟨dC, hdC⟩ := Classical.axiomOfChoice hcls
  obtain ⟨dI, hdI⟩ := Classical.axiomOfChoice hdC
  obtain ⟨cI, kI, compI, fI, hkI, hkindI⟩ := Cond.arrayClass_spec (htb _ wd_arr)
  obtain ⟨compM, cM, kM, hM1, hM2, hM3, hM4, hM5⟩ := Cond.arrayOver_spec (hts _ wn_78)
  obtain ⟨compS, cS, kS, hS1, hS2, hS3, hS4, hS5⟩ := Cond.arrayOver_spec (hts _ wn_252)
  have hs := flat_of_before _ hgv
  obtain ⟨ta, hta, hT⟩ := va_Tof (tm := .static "OilMemories" "KIND_ABOVE" "[I") (ty := .int) (N := 7) (f := fun j => .int (om_ka j)) (A := fun q => s.heap.size ≤ q) (by decide) (hs (.arrayOf (.static "OilMemories" "KIND_ABOVE" "[I") .int) (by decide +kernel)) (va_eqt (hs (.eq (.length (.static "OilMemories" "KIND_ABOVE" "[I")) (.int 7)) (by decide +kernel))) (fun j hj => by
    match j, hj with
    | 0, _ => exact va_eqt (hs (.eq (.elem (.static "OilMemories" "KIND_ABOVE" "[I") (.int 0)) (.int (-1))) (by decide +kernel))
    | 1, _ => exact va_eqt (hs (.eq (.elem (.static "OilMemories" "KIND_ABOVE" "[I") (.int 1)) (.int 0)) (by decide +kernel))
    | 2, _ => exact va_eqt (hs (.eq (.elem (.static "OilMemories" "KIND_ABOVE" "[I") (.int 2)) (.int 0)) (by decide +kernel))
    | 3, _ => exact va_eqt (hs (.eq (.elem (.static "OilMemories" "KIND_ABOVE" "[I") (.int 3)) (.int 0)) (by decide +kernel))
    | 4, _ => exact va_eqt (hs (.eq (.elem (.static "OilMemories" "KIND_ABOVE" "[I") (.int 4)) (.int 1)) (by decide +kernel))
    | 5, _ => exact va_eqt (hs (.eq (.elem (.static "OilMemories" "KIND_ABOVE" "[I") (.int 5)) (.int 2)) (by decide +kernel))
    | 6, _ => exact va_eqt (hs (.eq (.elem (.static "OilMemories" "KIND_ABOVE" "[I") (.int 6)) (.int 0)) (by decide +kernel))) (fun a h => Nat.not_le.mpr h)
  have hZ : va_Z "OilMemories" "KIND_ABOVE" "[I" (.ref ta) (fun q => s.heap.size ≤ q) s s.heap := va_Zref (hts _ wn_393) (htb _ wd_51) hta (fun a h => Nat.not_le.mpr h)
  obtain ⟨G, hG⟩ : ∃ G : om_G, G = ((dC, dI), s.heap, (cI, cM, cS), ta, b, L, xs) := ⟨_, rfl⟩
  have hK : om_Kn G s := by
    subst hG
    refine ⟨⟨fun k q hq => hdI k q hq, fun k q hq => ?_⟩, hZ, hT, va_AO.of (hts _ wn_78), va_AO.of (hts _ wn_252), ⟨va_Nw.of rfl (hts _ wn_112), va_Nw.of rfl (hts _ wn_179), va_Nw.of rfl (hts _ wn_203), va_Nw.of rfl (hts _ wn_227), va_Nw.of rfl (hts _ wn_254), va_Nw.of rfl (hts _ wn_392)⟩⟩
    match k, hq with
    | 0, hq =>
      cases hq
      exact ⟨fun N z => ⟨fun k h => (by cases h), kI, hkI, compI, hkindI⟩, fI⟩
    | 1, hq =>
      cases hq
      exact ⟨fun N z => ⟨fun k h => (by cases h), kM, hM3, compM, hM4⟩, kM, compM, hM3, hM4, hM1, hM5⟩
    | 2, hq =>
      cases hq
      exact ⟨fun N z => ⟨fun k h => (by cases h), kS, hS3, compS, hS4⟩, kS, compS, hS3, hS4, hS1, hS5⟩
    | k + 3, hq => simp [om_tys] at hq
  have hH : G.2.1 = s.heap := by rw [hG]
  have hR : om_Rep G om_s0 om_r0 0 s.heap := by
    refine ⟨fun k q h => by simp [om_ws] at h, ⟨fun i j p q h => by simp [om_ws] at h, fun k q h => by simp [om_ws] at h⟩, by rw [hH]; rfl, Nat.zero_le _, fun q _ => by rw [hH]⟩
  obtain ⟨x, hxx⟩ : ∃ x : om_X, x = (G, p, l, e, room_1, s, m, #[Value.ref b], below, meth, c, 4, lw_Z below #[Value.ref b] s) := ⟨_, rfl⟩
  have O : om_Ok x RL meth.name cL_law 4 (some FieldType.boolean) 66 600000 7302250 := by
    subst hxx
    exact ⟨hx, hb, hml, rfl, hr, hlocks, rfl, hown, htb, hK, rfl_le, rfl_le, rfl_le, rfl_le⟩
  have hSc : om_Sc x L xs := by
    subst hxx
    subst hG
    exact ⟨hX, hbl⟩
  have hE : ∀ (pc : Nat) (lv : List (Nat × om_V)) (σ : om_S), σ = τ → decode cL_law pc = .ok (.ireturn, 1) → om_J x pc lv [vI 1] σ om_rf om_N 105 5839 := by
    intro pc lv σ _ hd
    subst hxx
    intro H locs ls hP hL hl
    refine va_forget (fun q hq => by have := hL q hq; unfold om_A at this; rw [hH] at this; exact this) (W.widen (k := 600000) (n := 7302250) (by decide) (by decide) (lw_ret hx hb hr hlocks hd))
  have J : om_J x 0 [(0, vR (some 901))] [] om_s0 om_r0 0 0 0 := by
    refine nw_L_7 O (by decide +kernel) (by decide) (by decide) dL_law_0 rfl rfl rfl ?_
    refine om_dup O rfl dL_law_3 ?_
    refine cl_L_9 O (st := [vR (some 0)]) (stk := [vR (some 0), vR (some 0)]) (st2 := [vR (some 0)]) [] (fun l G => c_X8_init l G om_i1_ok) (by decide) rfl rfl rfl_le rfl rfl_le rfl_le dL_law_4 ?_
    refine om_astore_n O (lv' := [(0, vR (some 901)), (1, vR (some 0))]) [1, 0] dL_law_7 rfl (by decide) rfl ?_
    refine nw_L_10 O (by decide +kernel) rfl_le rfl_le dL_law_8 rfl rfl rfl ?_
    refine om_dup O rfl dL_law_11 ?_
    refine cl_L_12 O (st := [vR (some 90)]) (stk := [vR (some 90), vR (some 90)]) (st2 := [vR (some 90)]) [] (fun l G => c_X9_init l G om_i2_ok) (by decide) rfl rfl rfl_le rfl rfl_le rfl_le dL_law_12 ?_
    refine om_astore_n O (lv' := [(0, vR (some 901)), (1, vR (some 0)), (2, vR (some 90))]) [1, 2, 0] dL_law_15 rfl (by decide) rfl ?_
    refine om_iconst O (v := 0) dL_law_16 (by decide) ?_
    refine om_istore_n O (lv' := [(0, vR (some 901)), (1, vR (some 0)), (2, vR (some 90)), (3, vI 0)]) [1, 2, 3, 0] rfl dL_law_17 rfl (by decide) rfl ?_
    refine om_toF ?_
    exact g_L_law_b18 O hSc hE om_F 0 90 0 om_s2 (by decide +kernel) (by decide +kernel) hgo
  rw [lg_entry_eq]
  subst hxx
  refine J s.heap [] _ hR (fun q hq => by cases hq) ?_
  have hl := lv_entry ([.ref b]) (n := 4) (Nat.le_of_ble_eq_true rfl)
  have hb2 : om_cv G (vR (some 901)) = .ref b := by
    subst hG
    rfl
  show lv_has _ 4 [(0, om_cv G (vR (some 901)))]
  rw [hb2]
  exact hl
theorem whole_start {p : Program} {e : Env} {s : State} {m : MethodId} {below : List Frame} {meth : Method} {c : Code} (l : Launch) (hflags : l.flags = flags0) {b L : Nat} {xs : Nat → Int32} (hL : L ≤ 3072) (C0 : lw_At p s m meth c b L xs) : W p l e room_1 s m #[Value.ref b] below meth c s.heap [] 0 0 (lw_Z below #[Value.ref b] s) (entryFrame m ([Value.ref b] : List Value).toArray 4) := by
  obtain ⟨τ, h⟩ := om_pure L xs hL
  exact om_start l C0 h
set_option maxHeartbeats 4000000 in
theorem lw_walk (l : Launch) (hflags : l.flags = flags0) (b : Addr) (xs : List Int32) : MetFree l x (headSpec (Jvm.Cond.code x code maxLocals ret :: tables_1) room_1) (lw_P b xs) (fun _ _ _ _ _ => True) lw_Q := by
  refine MetFree.of_bodyS (code := code) (maxLocals := maxLocals) (ret := ret) (by decide) ?_ ?_
  · intro args s m h hn
    obtain ⟨meth, c, h1, h2, h3, h4, h5, h6, -, -⟩ := Cond.code_spec hn (atoms_spec (ws := Jvm.Cond.code x code maxLocals ret :: tables_1) h _ List.mem_cons_self)
    exact ⟨meth, c, h1, h2, h3, h4, h5, h6⟩
  · intro p e s m args below meth c s₁ B hml0 hP _
    obtain ⟨rfl, hx, hbd, hgv⟩ := hP
    obtain ⟨scr, harrAt, hlist, hof, hsmall⟩ := hx
    obtain ⟨hcb, hkn, -, -⟩ := State.arrayAt?_spec harrAt
    have hown : s.vm.findClass R_law = some m.cls := findClass_of_methodNamed B.named
    have hts0 : ∀ c ∈ (Jvm.Cond.code x code maxLocals ret :: tables_1), c.before #[Value.ref b] s = true := atoms_spec (ws := Jvm.Cond.code x code maxLocals ret :: tables_1) B.pre
    have hts : ∀ w ∈ lw_tbl, w.before #[Value.ref b] s = true := k2_hts_sels lw_privs (fun w hw => hts0 w (List.mem_cons_of_mem _ hw)) lw_privs_ok
    have hml : c.maxLocals = 4 := B.maxLocals_eq (hts0 _ List.mem_cons_self)
    have X₀ : Stand p l e room_1 s m #[Value.ref b] below meth c s₁ [] 0 0 := Stand.of_body B
    have hh0 : s₁.heap = s.heap := by rw [B.state]; rfl
    have hsz : scr.slots.size = xs.length := by rw [← Array.length_toList, hlist, List.length_map]
    have hval : ∀ j : Nat, j < xs.length → scr.slots[j]? = some (.int (xs.getD j 0)) := fun j hj => by
      rw [← Array.getElem?_toList, hlist]
      simp [hj]
    have hbl : b < s.heap.size := (Array.getElem?_eq_some_iff.mp hcb).1
    have hX : va_X b xs.length (fun j => xs.getD j 0) s s.heap := ⟨scr, hcb, hof, hkn, hsz, hval⟩
    have K : W p l e room_1 s m #[Value.ref b] below meth c s₁.heap [] 0 0 (lw_Z below #[Value.ref b] s) (entryFrame m ([Value.ref b] : List Value).toArray 4) := by
      rw [hh0]
      exact whole_start l hflags hbd ⟨B.exec, B.bytes, B.returns, hml, hown, hts, hX, hbl, B.notSynchronized, hgv⟩
    obtain ⟨t, a1, o, b1, b2, b3⟩ := K s₁ rfl X₀
    exact ⟨t, o, a1, b1, b2, b3⟩
theorem lw_pre_spec {args : Array Value} {s : State} (h : (Jvm.Cond.and given_1 narrow_1).before args s = true) (hr : rest_1_c.before args s = true) : ∃ (b : Addr) (xs : List Int32), lw_P b xs args s := by
  have hs := flat_of_before _ h
  have hq := flat_of_before _ hr
  have hc : (Cond.count 1).before args s = true := hs _ (by decide +kernel)
  have harr : (Cond.arrayOf (.arg 0) .int).before args s = true := hs _ (by decide +kernel)
  have hle : (Cond.le (.length (.arg 0)) (.int 3072)).before args s = true := hs _ (by decide +kernel)
  have hlen : (Cond.isInt (.length (.arg 0))).before args s = true := hq _ (by decide +kernel)
  have hall : (Cond.all (.arg 0) (.isInt (.elem (.arg 0) (.index 0)))).before args s = true := hq _ (by decide +kernel)
  obtain ⟨b, xs, hb, hx⟩ := State.ints_of_pre rfl harr hlen hall
  have hsm : xs.length < 2 ^ 31 := hx.choose_spec.2.2.2
  have hev : (Term.length (.arg 0)).eval args s none [] s = some (.int xs.length.toInt32) := hx.length_eval hb
  have hv := Cond.le_ints hev (show (Term.int 3072).eval args s none [] s = some (.int 3072) from rfl)
  have hd : xs.length.toInt32 ≤ 3072 := by
    simpa [Cond.before, Cond.holds, hv] using hle
  have hN : xs.length ≤ 3072 := (Int32.ofNat_le_ofNat hsm (by decide)).mp (show Int32.ofNat xs.length ≤ Int32.ofNat 3072 from hd)
  exact ⟨b, xs, Cond.one_arg hc (show args[0]? = some (.ref b) from hb), hx, hN, h⟩
theorem lw_comes (l : Launch) (hflags : l.flags = flags0) : Comes l x (Jvm.Cond.code x code maxLocals ret :: tables_1) room_1 (fun tb e args s => Calls_1 tb e args s ∧ rest_1 tb e args s ∧ Pre_1 tb e args s)
    (fun _ _ args s o t => lw_Q args s o t) := by
  intro p e ha hc hk s m args below hf hfit hheap happ hpre
  obtain ⟨b, xs, hP⟩ := lw_pre_spec hpre.2.2 hpre.2.1
  obtain ⟨k, o, h1, h2, h3, hQ⟩ := lw_walk l hflags b xs p e ha hc hk s m args below hf ((Spec.applies_iff_loose hf).mp happ).1 hP trivial
  exact ⟨k, o, h1, h2, h3, hQ⟩
theorem lw_frame {s t : State} {o : Outcome} {args : Array Value} (h : Framed s o t [] 600000 7302250) :
    Framed s o t (fieldLocs frame_1_writes args s ++ arrayLocs frame_1_arrays args s ++ staticLocs frame_1_statics s) 600000 7302250 := h
theorem lw_limb (L : Cond) (hL : ∀ (args : Array Value) (s t : State), L.after args s (.returned (some (.int 1))) t = true) :
    ArmFor flags0 classFile x code maxLocals ret World_1 tables_1 room_1 Calls_1 rest_1 Pre_1
      (fun tb e a s o t => postC L tb e a s o t ∧ Framed s o t (fieldLocs frame_1_writes a s ++ arrayLocs frame_1_arrays a s ++ staticLocs frame_1_statics s) 600000 7302250) := by
  intro l hflags _ _ p e ha hc hk s m args below hf hfit hheap happ hpre
  obtain ⟨k, o, h1, h2, h3, rfl, hF⟩ := lw_comes l hflags p e ha hc hk s m args below hf hfit hheap happ hpre
  exact ⟨k, _, h1, h2, h3, hL args s _, lw_frame hF⟩
theorem i_vc : Claimed_1_1 ∧ Claimed_1_2 := ⟨lw_limb limb_1_1 (fun args s t => by simp [limb_1_1, Cond.after, Cond.holds, Cond.value]), lw_limb limb_1_2 (fun args s t => Cond.after_iff.mpr (by
  first | (rw [show limb_1_2 = Cond.eq .result (.int 1) from rfl, Cond.eq_ints (x := 1) (y := 1) rfl rfl]; simp; done) | (simp [limb_1_2, Cond.value, Term.eval]; done)))⟩
