/-! Methods with a table of handlers: their contract, their call; the law's three helpers. (printed by law_v.py) -/
def mdWsW (M : MD) (hh : List (Nat × Nat × Nat × Nat)) : List Cond := .codeWith M.1 M.2.1 M.2.2.1 M.2.2.2.1 hh :: tbG
def ConH (G : Gx) (M : MD) (hh : List (Nat × Nat × Nat × Nat)) (d : Nat) (av : List Value) (μ : Mem) (r : Option Value × Mem) : Prop :=
  ∀ (l : Launch), l.flags = flags0 → ∀ (dy : Nat → Nat) (sz : Nat), Met l M.1 (mdWsW M hh) (rmOf d μ) (PcE G av μ dy sz) (QcOf G μ dy sz r) (r.2.2.2.1 - μ.2.2.1) (r.2.2.2.2 - μ.2.2.2) (va_A (wsOf G μ dy) sz)
theorem ConH.ofI {M : MD} {hh : List (Nat × Nat × Nat × Nat)} {d : Nat} {G : Gx} {av : List Value} {μ μ' : Mem} {v : Int32} (hM : MOk M av) (hr : M.2.2.2.1 = some .int)
    (hb : ∀ (X : Cx), xG X = G → Ok M d X → EXT (xA X) (xs X) (xs X).heap → (xl X).flags = flags0 → (xk X).exceptionTable.toList.map (fun h => (h.startPc, h.endPc, h.handlerPc, h.catchType)) = hh → RetI M X v μ' → ∀ dy, AW X 0 (lv_args 0 av) [] μ dy) : ConH G M hh d av μ (some (.int v), μ') := by
  intro l hl dy sz
  refine va_MetW (cc := M.2.1) (maxL := M.2.2.1) (ret := M.2.2.2.1) (hh := hh) hM.1 rfl ?_
  intro p e s m args below meth c s₁ B hml hv
  obtain ⟨⟨rfl, hsz, hP, hK, hD0, ⟨hb1, hb2⟩, hE⟩, hT⟩ := hv
  have hts := atoms_spec (ws := mdWsW M hh) B.pre
  have hown : s.vm.findClass M.2.2.2.2 = some m.cls := by rw [hM.2.1]; exact findClass_of_methodNamed B.named
  have htab : c.exceptionTable.toList.map (fun h => (h.startPc, h.endPc, h.handlerPc, h.catchType)) = hh := by
    obtain ⟨m9, meth9, c9, hn9, hm9, hc9, -, -, htab, -⟩ := Cond.codeWith_spec (hts _ List.mem_cons_self)
    cases B.named.symm.trans hn9
    cases B.method.symm.trans hm9
    cases (Stand.of_body B).code.symm.trans hc9
    exact htab
  subst hsz
  have hD := hD0.self (sz := s.heap.size)
  have hlk := B.notSynchronized
  have hrt := B.returns
  have hX : Ok M d (p, l, e, (headSpec (mdWsW M hh) (rmOf d μ)).room, s, m, av.toArray, below, meth, c, va_A (wsOf G μ dy) s.heap.size, MQ below (QcOf G μ dy s.heap.size (some (.int v), μ')) av.toArray s (μ'.2.2.1 - μ.2.2.1) (μ'.2.2.2 - μ.2.2.2) (va_A (wsOf G μ dy) s.heap.size), G, μ.2.2.1, μ.2.2.2) :=
    ⟨B.exec, B.bytes, hml, hown, fun w hw => hts w (List.mem_cons_of_mem _ hw), hK, ⟨Nat.le_refl _, Nat.le_refl _⟩, ⟨Nat.sub_add_cancel hb1, Nat.sub_add_cancel hb2⟩, fun q h => Or.inr h, hE⟩
  have key := hb _ rfl hX hT hl htab (fun pc ls dy1 hd H locs la hP hD hS hB h => by
    exact W.zret (ty := .int) hX.1 hX.2.1 (hrt.trans hr) rfl (fun t ht hW => ⟨rfl, ⟨dy1, by rw [ht]; exact hP, hD⟩, hB, hS.F ht⟩) hS.2.2 hd hlk) dy
  have hl := lv_entry av (n := M.2.2.1) hM.2.2
  rw [lg_entry_eq]
  have k1 := key s.heap [] _ hP hD va_S.rf ⟨⟨Nat.le_refl _, hb1⟩, Nat.le_refl _, hb2⟩ (by
    show lv_has _ c.maxLocals _
    rw [hml]
    exact hl)
  dsimp only [xp, xl, xe, xR, xs, xm, xa, xb, xh, xk, xQ, xc, xz] at k1
  rw [Nat.sub_self, Nat.sub_self] at k1
  exact k1
section BKW
variable {l : Launch} {R : Room} {p : Program} {e : Env} {below : List Frame} {s : State} {sargs : Array Value} {y : MethodName} {len W9 : Nat}
theorem back_of2W {ws : List Cond} {rm : Room} {Pc : Array Value → State → Prop} {Qc : Array Value → State → Outcome → State → Prop} {mc ms : Nat} {free : Addr → Prop} {bytes : ByteArray} {maxL : Nat} {ret : Option FieldType} {hh : List (Nat × Nat × Nat × Nat)}
    (hM : Met l y ws rm Pc Qc mc ms free) (hblind : FrameBlind Pc)
    (hframes : rm.frames + 1 ≤ R.frames) (hlocals : W9 + (maxL + 11) + rm.locals ≤ R.locals)
    (hws : ∀ w ∈ ws, ∀ a' U, s.WarmedH U.vm → w.before a' U = true) (hcode : Cond.codeWith y bytes maxL ret hh ∈ ws) (hinit : ∀ a' U, s.WarmedH U.vm → (Cond.initialized y.cls).before a' U = true) :
    Back l R p e below s sargs y len W9 (fun A a => A.cells + rm.cells ≤ R.cells ∧ A.slots + rm.slots ≤ R.slots ∧ Pc a A.U) (PostOf Qc mc ms free) := by
  refine va_ofFreeW (hh := hh) (S := headSpec ws rm) (P := Pc) (K := fun _ _ _ _ _ => True) (Q := fun a st o t => Qc a st o t ∧ ∃ L, FrameEnd st o t L mc ms ∧ ∀ q ∈ L, free q.base) (bytes := bytes) (maxL := maxL) (ret := ret)
    (E := fun a st o t L k n => k = mc ∧ n = ms ∧ ∀ q ∈ L, free q.base) hM hframes hlocals ?_ ?_ (fun _ _ _ _ _ _ _ _ _ => trivial) ?_ ?_
  · intro m meth c A a X hp
    exact ⟨atoms_intro fun w hw => hws w hw _ _ X.warmed, hws _ hcode _ _ X.warmed, hinit _ _ X.warmed, hp.1, hp.2.1⟩
  · intro m meth c A a g mk X hp
    exact hblind _ _ _ _ hp.2.2
  · intro a st o t ⟨hq, L, hF, hL⟩
    exact ⟨L, mc, ms, hF, rfl, rfl, hL⟩
  · intro m meth c A a g mk v t L k n X hp hq hF ⟨e1, e2, hL⟩
    subst e1; subst e2
    exact ⟨g, mk, t, L, rfl, rfl, hq.1, rfl, hL, rfl, rfl⟩
end BKW
section CSW
variable {M : MD} {d : Nat} {X : Cx} {pc : Nat} {ls : List (Nat × Value)} {st stk : List Value} {μ μ1 : Mem} {dy : Nat → Nat} {N : MD} {idx n : Nat} {As : List Value}
/-- the words of a helper's call -/
def CH (own : String) (idx : Nat) (N : MD) (hh : List (Nat × Nat × Nat × Nat)) (n : Nat) : Prop := Cond.methodLink own idx N.1 ∈ tbG ∧ Cond.codeWith N.1 N.2.1 N.2.2.1 N.2.2.2.1 hh ∈ tbG ∧ Cond.initialized N.1.cls ∈ tbG ∧ (N.1.cls ≠ "java/lang/invoke/MethodHandle" ∧ N.1.cls ≠ "java/lang/invoke/VarHandle") ∧ (parseMethodDescriptor N.1.desc).map (fun d => d.parameters.length) = some n ∧ Nat.ble N.2.2.1 21 = true ∧ Cond.static N.1 ∈ tbG
theorem r_callH {hh : List (Nat × Nat × Nat × Nat)} {v : Int32} (hX : Ok M (d + 1) X) (hE : EXT (xA X) (xs X) (xs X).heap) (hfl : (xl X).flags = flags0) (hcon : ConH (xG X) N hh d As μ (some (.int v), μ1)) (hw9 : CH M.2.2.2.2 idx N hh n) (hst : As.reverse ++ st = stk) (hn : As.length = n) (hroom : Nat.ble ((st.map fun v => v.category).sum) 8 = true) (hd : decode M.2.1 pc = .ok (.invokestatic idx, 3))
    (kk : ∀ dy1, AW X (pc + 3) ls (.int v :: st) μ1 dy1) : AW X pc ls stk μ dy := by
  intro H locs la hP hD hS hB h
  subst hst
  obtain ⟨hl, hco, hini, hy, hlen, hmx, hstt⟩ := hw9
  have hts := hX.2.2.2.2.1
  refine r_behind (r := (some (.int v), μ1)) (a := As.toArray) hP hD hS hX.2.2.2.2.2.2.2.2.1 hB h kk (fun T hT XS => ?_)
  have hfr := hX.2.2.2.2.2.2.1
  have hrm := hX.2.2.2.2.2.2.2.1
  have hm1 := Nat.le_of_ble_eq_true hmx
  have hK := back_of2W (hh := hh) (p := xp X) (e := xe X) (R := xR X) (below := xb X) (s := xs X) (sargs := xa X) (len := 3) (W9 := 8) (hcon (xl X) hfl dy H.size) pcE_blind (show d + 1 ≤ _ from hfr.1) (show 8 + (N.2.2.1 + 11) + 40 * d ≤ _ by omega) (fun w hw a' U hW => by
      rcases List.mem_cons.mp hw with rfl | h2
      · exact tb_at hts hW hco
      · exact tb_at hts hW h2) (bytes := N.2.1) (maxL := N.2.2.1) (ret := N.2.2.2.1) List.mem_cons_self (fun a' U hW => tb_at hts hW hini)
  obtain ⟨mk, methM, cM, hnamed, hmethM, -, -, -, -, -, -, hsigM⟩ := Cond.codeWith_spec (hts _ hco)
  have hstatic : methM.isStatic = true := Cond.static_spec hnamed hmethM (hts _ hstt)
  obtain ⟨kP, hkP, -⟩ := className_of_methodNamed hnamed
  have hinitP : kP.init = .initialized := Cond.initialized_spec (findClass_of_methodNamed hnamed) hkP (hts _ hini)
  have hdg : decode (xk X).code (F0 (xm X) pc la (As.reverse ++ st)).pc = .ok (.invokestatic idx, 3) := by rw [hX.2.1]; exact hd
  obtain ⟨vm₁, X₁, hstep₁⟩ := XS.invokestatic hX.1 hX.2.2.2.1 (hts _ hl) hnamed hmethM hstatic hkP hinitP hy (g := F0 (xm X) pc la (As.reverse ++ st)) rfl (argsL := As) (rest := st) (hn.trans (len_of hlen _ hsigM)) rfl hdg
  have hpe := pcE_at (av := As) hX hE (U := T.setVm vm₁) hT X₁.warmed hP hD hS hB
  obtain ⟨v9, ⟨U', l2, c2, s2⟩, X', ⟨g', mk', t, L, e1, e2, hq, h1, hL, h2, h3⟩, hsteps⟩ := hK (xm X) (xh X) (xk X) ⟨T.setVm vm₁, locs, μ.2.2.1 - xc X, μ.2.2.2 - xz X⟩ (F0 (xm X) pc la st) (.invokestatic idx) mk As.toArray X₁ rfl h.1 hdg (lv_room (rest := st) (Nat.le_of_ble_eq_true hroom)) (X₁.named hnamed)
    ⟨by show (μ.2.2.1 - xc X) + (LIMc - μ.2.2.1) ≤ _; have := hB.1.1; have := hB.1.2; omega, by show (μ.2.2.2 - xz X) + (LIMs - μ.2.2.2) ≤ _; have := hB.2.1; have := hB.2.2; omega, hpe⟩
  dsimp only [Pt.U, Pt.locs, Pt.cells, Pt.slots] at X' e1 e2 h1 h2 h3 hsteps
  subst h1; subst h2; subst h3
  exact ⟨v9, (T.setVm vm₁).calling g' mk' As.toArray, t, U', L, hT, X', hL, e1, e2, hq, fun target ht => hstep₁ _ fun acts => by rw [doInvoke_state]; exact hsteps.trans ht⟩
end CSW
theorem tab1 {l : List ExceptionTableEntry} {a b c k : Nat} (h : l.map (fun h => (h.startPc, h.endPc, h.handlerPc, h.catchType)) = [(a, b, c, k)]) : ∃ e, l = [e] ∧ e.startPc = a ∧ e.endPc = b ∧ e.handlerPc = c ∧ e.catchType = k := by
  match l, h with
  | [e], h =>
    simp only [List.map_cons, List.map_nil, List.cons.injEq, Prod.mk.injEq, and_true] at h
    exact ⟨e, rfl, h.1, h.2.1, h.2.2.1, h.2.2.2⟩
theorem dL_person_0 : decode cL_person 0 = .ok (.aload_n 3, 1) := by decide +kernel
theorem dL_person_1 : decode cL_person 1 = .ok (.iconst 0, 1) := by decide +kernel
theorem dL_person_2 : decode cL_person 2 = .ok (.aload_n 0, 1) := by decide +kernel
theorem dL_person_3 : decode cL_person 3 = .ok (.iload_n 1, 1) := by decide +kernel
theorem dL_person_4 : decode cL_person 4 = .ok (.iload_n 2, 1) := by decide +kernel
theorem dL_person_5 : decode cL_person 5 = .ok (.invokevirtual 7, 3) := by decide +kernel
theorem dL_person_8 : decode cL_person 8 = .ok (.i2l, 1) := by decide +kernel
theorem dL_person_9 : decode cL_person 9 = .ok (.lastore, 1) := by decide +kernel
theorem dL_person_10 : decode cL_person 10 = .ok (.goto 7, 3) := by decide +kernel
theorem dL_person_13 : decode cL_person 13 = .ok (.astore 4, 2) := by decide +kernel
theorem dL_person_15 : decode cL_person 15 = .ok (.iconst 1, 1) := by decide +kernel
theorem dL_person_16 : decode cL_person 16 = .ok (.ireturn, 1) := by decide +kernel
theorem dL_person_17 : decode cL_person 17 = .ok (.iconst 0, 1) := by decide +kernel
theorem dL_person_18 : decode cL_person 18 = .ok (.ireturn, 1) := by decide +kernel
theorem hk_person_1 : Cond.methodLink RL 41 yL_person ∈ tbG := mG (tt6 (List.mem_of_getElem? (i := 20) rfl)) rfl
theorem hk_person_2 : Cond.codeWith yL_person cL_person 5 (some .int) [(0, 10, 13, 13)] ∈ tbG := mG (tt6 (List.mem_of_getElem? (i := 22) rfl)) rfl
theorem hk_person_3 : Cond.initialized RL ∈ tbG := mG (tt1 (List.mem_of_getElem? (i := 0) rfl)) rfl
theorem hk_person_4 : Cond.static yL_person ∈ tbG := mG (tt6 (List.mem_of_getElem? (i := 21) rfl)) rfl
theorem ch_person : CH RL 41 M_lw_person [(0, 10, 13, 13)] 4 := ⟨hk_person_1, hk_person_2, hk_person_3, ⟨by decide, by decide⟩, by decide +kernel, rfl, hk_person_4⟩
set_option maxHeartbeats 1000000 in
theorem h_person {G : Gx} {d : Nat} {x1 x2 : Int32} {μ μ1 : Mem} {v : Int32} (hf : f_x_person x1 x2 μ = some (v, μ1)) : ConH G M_lw_person [(0, 10, 13, 13)] (d + 9) [.ref (gA G 0), .int x1, .int x2, .ref (gA G 134)] μ (some (.int 0), setL μ1 l_out 0 (v.toInt64)) := by
  refine ConH.ofI ⟨rfl, rfl, Nat.le_of_ble_eq_true rfl⟩ rfl (fun X hG hX hE hfl ht hr dy => ?_)
  subst hG
  show AW X 0 [(0, .ref (gA (xG X) 0)), (1, .int x1), (2, .int x2), (3, .ref (gA (xG X) 134))] [] μ dy
  refine r_aload_n hX dL_person_0 3 rfl ?_
  refine r_iconst hX (0 : Int32) dL_person_1 rfl ?_
  refine r_aload_n hX dL_person_2 0 rfl ?_
  refine r_iload_n hX dL_person_3 1 rfl ?_
  refine r_iload_n hX dL_person_4 2 rfl ?_
  refine r_callVI (Ok.le hX (by omega)) (c_x_person (d := d + 6) hf) cv_L_7 (w_0 _ _ _) rfl rfl (st := [.int 0, .ref (gA (xG X) 134)]) rfl rfl rfl dL_person_5 (fun dy => ?_)
  refine r_i2l hX dL_person_8 ?_
  refine r_last hX (w_134 _ _ _) (inb_in (by decide)) (s_134 _ _ _ _ _) rfl rfl dL_person_9 ?_
  refine r_goto hX 17 dL_person_10 rfl ?_
  refine r_iconst hX (0 : Int32) dL_person_17 rfl ?_
  exact hr _ _ _ dL_person_18
set_option maxHeartbeats 1000000 in
theorem ht_person {G : Gx} {d : Nat} {x1 x2 : Int32} {μ : Mem} (hz : μ.2.2.1 + 1 ≤ LIMc ∧ μ.2.2.2 + 6 ≤ LIMs) (hf : f_x_person_thr x1 x2 μ = some μ) : ConH G M_lw_person [(0, 10, 13, 13)] (d + 9) [.ref (gA G 0), .int x1, .int x2, .ref (gA G 134)] μ (some (.int 1), addC μ 1 6) := by
  refine ConH.ofI ⟨rfl, rfl, Nat.le_of_ble_eq_true rfl⟩ rfl (fun X hG hX hE hfl ht hr dy => ?_)
  subst hG
  show AW X 0 [(0, .ref (gA (xG X) 0)), (1, .int x1), (2, .int x2), (3, .ref (gA (xG X) 134))] [] μ dy
  obtain ⟨e, t1, t2, t3, t4, t5⟩ := tab1 ht
  refine r_aload_n hX dL_person_0 3 rfl ?_
  refine r_iconst hX (0 : Int32) dL_person_1 rfl ?_
  refine r_aload_n hX dL_person_2 0 rfl ?_
  refine r_iload_n hX dL_person_3 1 rfl ?_
  refine r_iload_n hX dL_person_4 2 rfl ?_
  refine r_callT (d := d + 8) hX hE hfl rfl t1 (by simp [covers, t2, t3]) t5 (t_x_person (by omega) hz hf) cv_L_7 (w_0 _ _ _) rfl rfl (st := [.int 0, .ref (gA (xG X) 134)]) rfl rfl rfl hz dL_person_5 (fun x dy => ?_)
  rw [t4]
  refine r_astore hX dL_person_13 rfl rfl ?_
  refine r_iconst hX (1 : Int32) dL_person_15 rfl ?_
  exact hr _ _ _ dL_person_16
theorem dL_rates_0 : decode cL_rates 0 = .ok (.aload_n 3, 1) := by decide +kernel
theorem dL_rates_1 : decode cL_rates 1 = .ok (.iconst 0, 1) := by decide +kernel
theorem dL_rates_2 : decode cL_rates 2 = .ok (.aload_n 0, 1) := by decide +kernel
theorem dL_rates_3 : decode cL_rates 3 = .ok (.iload_n 1, 1) := by decide +kernel
theorem dL_rates_4 : decode cL_rates 4 = .ok (.iload_n 2, 1) := by decide +kernel
theorem dL_rates_5 : decode cL_rates 5 = .ok (.invokevirtual 15, 3) := by decide +kernel
theorem dL_rates_8 : decode cL_rates 8 = .ok (.i2l, 1) := by decide +kernel
theorem dL_rates_9 : decode cL_rates 9 = .ok (.lastore, 1) := by decide +kernel
theorem dL_rates_10 : decode cL_rates 10 = .ok (.goto 7, 3) := by decide +kernel
theorem dL_rates_13 : decode cL_rates 13 = .ok (.astore 4, 2) := by decide +kernel
theorem dL_rates_15 : decode cL_rates 15 = .ok (.iconst 1, 1) := by decide +kernel
theorem dL_rates_16 : decode cL_rates 16 = .ok (.ireturn, 1) := by decide +kernel
theorem dL_rates_17 : decode cL_rates 17 = .ok (.iconst 0, 1) := by decide +kernel
theorem dL_rates_18 : decode cL_rates 18 = .ok (.ireturn, 1) := by decide +kernel
theorem hk_rates_1 : Cond.methodLink RL 177 yL_rates ∈ tbG := mG (tt6 (List.mem_of_getElem? (i := 91) rfl)) rfl
theorem hk_rates_2 : Cond.codeWith yL_rates cL_rates 5 (some .int) [(0, 10, 13, 13)] ∈ tbG := mG (tt6 (List.mem_of_getElem? (i := 93) rfl)) rfl
theorem hk_rates_3 : Cond.initialized RL ∈ tbG := mG (tt1 (List.mem_of_getElem? (i := 0) rfl)) rfl
theorem hk_rates_4 : Cond.static yL_rates ∈ tbG := mG (tt6 (List.mem_of_getElem? (i := 92) rfl)) rfl
theorem ch_rates : CH RL 177 M_lw_rates [(0, 10, 13, 13)] 4 := ⟨hk_rates_1, hk_rates_2, hk_rates_3, ⟨by decide, by decide⟩, by decide +kernel, rfl, hk_rates_4⟩
set_option maxHeartbeats 1000000 in
theorem h_rates {G : Gx} {d : Nat} {x1 x2 : Int32} {μ μ1 : Mem} {v : Int32} (hf : f_x_rates x1 x2 μ = some (v, μ1)) : ConH G M_lw_rates [(0, 10, 13, 13)] (d + 9) [.ref (gA G 0), .int x1, .int x2, .ref (gA G 134)] μ (some (.int 0), setL μ1 l_out 0 (v.toInt64)) := by
  refine ConH.ofI ⟨rfl, rfl, Nat.le_of_ble_eq_true rfl⟩ rfl (fun X hG hX hE hfl ht hr dy => ?_)
  subst hG
  show AW X 0 [(0, .ref (gA (xG X) 0)), (1, .int x1), (2, .int x2), (3, .ref (gA (xG X) 134))] [] μ dy
  refine r_aload_n hX dL_rates_0 3 rfl ?_
  refine r_iconst hX (0 : Int32) dL_rates_1 rfl ?_
  refine r_aload_n hX dL_rates_2 0 rfl ?_
  refine r_iload_n hX dL_rates_3 1 rfl ?_
  refine r_iload_n hX dL_rates_4 2 rfl ?_
  refine r_callVI (Ok.le hX (by omega)) (c_x_rates (d := d + 5) hf) cv_L_15 (w_0 _ _ _) rfl rfl (st := [.int 0, .ref (gA (xG X) 134)]) rfl rfl rfl dL_rates_5 (fun dy => ?_)
  refine r_i2l hX dL_rates_8 ?_
  refine r_last hX (w_134 _ _ _) (inb_in (by decide)) (s_134 _ _ _ _ _) rfl rfl dL_rates_9 ?_
  refine r_goto hX 17 dL_rates_10 rfl ?_
  refine r_iconst hX (0 : Int32) dL_rates_17 rfl ?_
  exact hr _ _ _ dL_rates_18
set_option maxHeartbeats 1000000 in
theorem ht_rates {G : Gx} {d : Nat} {x1 x2 : Int32} {μ : Mem} (hz : μ.2.2.1 + 1 ≤ LIMc ∧ μ.2.2.2 + 6 ≤ LIMs) (hf : f_x_rates_thr x1 x2 μ = some μ) : ConH G M_lw_rates [(0, 10, 13, 13)] (d + 9) [.ref (gA G 0), .int x1, .int x2, .ref (gA G 134)] μ (some (.int 1), addC μ 1 6) := by
  refine ConH.ofI ⟨rfl, rfl, Nat.le_of_ble_eq_true rfl⟩ rfl (fun X hG hX hE hfl ht hr dy => ?_)
  subst hG
  show AW X 0 [(0, .ref (gA (xG X) 0)), (1, .int x1), (2, .int x2), (3, .ref (gA (xG X) 134))] [] μ dy
  obtain ⟨e, t1, t2, t3, t4, t5⟩ := tab1 ht
  refine r_aload_n hX dL_rates_0 3 rfl ?_
  refine r_iconst hX (0 : Int32) dL_rates_1 rfl ?_
  refine r_aload_n hX dL_rates_2 0 rfl ?_
  refine r_iload_n hX dL_rates_3 1 rfl ?_
  refine r_iload_n hX dL_rates_4 2 rfl ?_
  refine r_callT (d := d + 8) hX hE hfl rfl t1 (by simp [covers, t2, t3]) t5 (t_x_rates (by omega) hz hf) cv_L_15 (w_0 _ _ _) rfl rfl (st := [.int 0, .ref (gA (xG X) 134)]) rfl rfl rfl hz dL_rates_5 (fun x dy => ?_)
  rw [t4]
  refine r_astore hX dL_rates_13 rfl rfl ?_
  refine r_iconst hX (1 : Int32) dL_rates_15 rfl ?_
  exact hr _ _ _ dL_rates_16
theorem dL_row_0 : decode cL_row 0 = .ok (.aload_n 2, 1) := by decide +kernel
theorem dL_row_1 : decode cL_row 1 = .ok (.iconst 0, 1) := by decide +kernel
theorem dL_row_2 : decode cL_row 2 = .ok (.aload_n 0, 1) := by decide +kernel
theorem dL_row_3 : decode cL_row 3 = .ok (.iload_n 1, 1) := by decide +kernel
theorem dL_row_4 : decode cL_row 4 = .ok (.invokevirtual 18, 3) := by decide +kernel
theorem dL_row_7 : decode cL_row 7 = .ok (.lastore, 1) := by decide +kernel
theorem dL_row_8 : decode cL_row 8 = .ok (.goto 6, 3) := by decide +kernel
theorem dL_row_11 : decode cL_row 11 = .ok (.astore_n 3, 1) := by decide +kernel
theorem dL_row_12 : decode cL_row 12 = .ok (.iconst 1, 1) := by decide +kernel
theorem dL_row_13 : decode cL_row 13 = .ok (.ireturn, 1) := by decide +kernel
theorem dL_row_14 : decode cL_row 14 = .ok (.iconst 0, 1) := by decide +kernel
theorem dL_row_15 : decode cL_row 15 = .ok (.ireturn, 1) := by decide +kernel
theorem hk_row_1 : Cond.methodLink RL 220 yL_row ∈ tbG := mG (tt6 (List.mem_of_getElem? (i := 99) rfl)) rfl
theorem hk_row_2 : Cond.codeWith yL_row cL_row 4 (some .int) [(0, 8, 11, 13)] ∈ tbG := mG (tt6 (List.mem_of_getElem? (i := 101) rfl)) rfl
theorem hk_row_3 : Cond.initialized RL ∈ tbG := mG (tt1 (List.mem_of_getElem? (i := 0) rfl)) rfl
theorem hk_row_4 : Cond.static yL_row ∈ tbG := mG (tt6 (List.mem_of_getElem? (i := 100) rfl)) rfl
theorem ch_row : CH RL 220 M_lw_row [(0, 8, 11, 13)] 3 := ⟨hk_row_1, hk_row_2, hk_row_3, ⟨by decide, by decide⟩, by decide +kernel, rfl, hk_row_4⟩
set_option maxHeartbeats 1000000 in
theorem h_row {G : Gx} {d : Nat} {x1 : Int32} {μ μ1 : Mem} {v : Int64} (hf : f_x_row x1 μ = some (v, μ1)) : ConH G M_lw_row [(0, 8, 11, 13)] (d + 9) [.ref (gA G 0), .int x1, .ref (gA G 134)] μ (some (.int 0), setL μ1 l_out 0 (v)) := by
  refine ConH.ofI ⟨rfl, rfl, Nat.le_of_ble_eq_true rfl⟩ rfl (fun X hG hX hE hfl ht hr dy => ?_)
  subst hG
  show AW X 0 [(0, .ref (gA (xG X) 0)), (1, .int x1), (2, .ref (gA (xG X) 134))] [] μ dy
  refine r_aload_n hX dL_row_0 2 rfl ?_
  refine r_iconst hX (0 : Int32) dL_row_1 rfl ?_
  refine r_aload_n hX dL_row_2 0 rfl ?_
  refine r_iload_n hX dL_row_3 1 rfl ?_
  refine r_callVL (Ok.le hX (by omega)) (c_x_row (d := d + 8) hf) cv_L_18 (w_0 _ _ _) rfl rfl (st := [.int 0, .ref (gA (xG X) 134)]) rfl rfl rfl dL_row_4 (fun dy => ?_)
  refine r_last hX (w_134 _ _ _) (inb_in (by decide)) (s_134 _ _ _ _ _) rfl rfl dL_row_7 ?_
  refine r_goto hX 14 dL_row_8 rfl ?_
  refine r_iconst hX (0 : Int32) dL_row_14 rfl ?_
  exact hr _ _ _ dL_row_15
set_option maxHeartbeats 1000000 in
theorem ht_row {G : Gx} {d : Nat} {x1 : Int32} {μ : Mem} (hz : μ.2.2.1 + 1 ≤ LIMc ∧ μ.2.2.2 + 6 ≤ LIMs) (hf : f_x_row_thr x1 μ = some μ) : ConH G M_lw_row [(0, 8, 11, 13)] (d + 9) [.ref (gA G 0), .int x1, .ref (gA G 134)] μ (some (.int 1), addC μ 1 6) := by
  refine ConH.ofI ⟨rfl, rfl, Nat.le_of_ble_eq_true rfl⟩ rfl (fun X hG hX hE hfl ht hr dy => ?_)
  subst hG
  show AW X 0 [(0, .ref (gA (xG X) 0)), (1, .int x1), (2, .ref (gA (xG X) 134))] [] μ dy
  obtain ⟨e, t1, t2, t3, t4, t5⟩ := tab1 ht
  refine r_aload_n hX dL_row_0 2 rfl ?_
  refine r_iconst hX (0 : Int32) dL_row_1 rfl ?_
  refine r_aload_n hX dL_row_2 0 rfl ?_
  refine r_iload_n hX dL_row_3 1 rfl ?_
  refine r_callT (d := d + 8) hX hE hfl rfl t1 (by simp [covers, t2, t3]) t5 (t_x_row (by omega) hz hf) cv_L_18 (w_0 _ _ _) rfl rfl (st := [.int 0, .ref (gA (xG X) 134)]) rfl rfl rfl hz dL_row_4 (fun x dy => ?_)
  rw [t4]
  refine r_astore_n hX dL_row_11 rfl rfl ?_
  refine r_iconst hX (1 : Int32) dL_row_12 rfl ?_
  exact hr _ _ _ dL_row_13
