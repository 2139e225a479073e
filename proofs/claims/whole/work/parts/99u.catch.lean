/-! A throw that is caught, and methods with a table of handlers. -/
section CAT
variable {p : Program} {l : Launch} {e : Env} {R : Room} {s : State} {m : MethodId} {args : Array Value} {below : List Frame} {meth : Method} {c : Code} {T : State} {locs : List Loc} {cells slots : Nat}
/-- the table's one entry takes it; the class that it names may be linked here for the first time -/
theorem catch_one (X : Stand p l e R s m args below meth c T locs cells slots) (x : Addr) {g : JFrame} (hg : g.method = m) {own nm : String} (hown : s.vm.findClass own = some m.cls) {ent : ExceptionTableEntry} (htab : c.exceptionTable.toList = [ent]) (hcov : covers ent g.pc = true) (h0 : ent.catchType ≠ 0)
    (hlink : (Cond.classLink own ent.catchType nm).before args s = true) {cell : Cell} (hcT : s.vm.findClass nm = some cell.cls) (hcell : T.heap[x]? = some cell) (hobj : cell.vm = .none) :
    ∃ vm', s.WarmedH vm' ∧ ∀ target, Steps p.tables e below ((T.setVm vm').setTop { g with pc := ent.handlerPc, stack := [.ref x] }) target → Steps p.tables e below ((T.setTop g).pushFrame (.throwing x)) target := by
  subst hg
  have hpl : e.platform.magicAccessors = ({} : Platform).magicAccessors := by rw [X.admits.platform]
  obtain ⟨c', hc', hcl⟩ := Cond.classLink_spec hown hlink e.platform hpl
  cases hcT.symm.trans hc'
  obtain ⟨dk, _, _, kt, hd, _, _, _, _, hkt, _, hopen⟩ := hcl.here
  have hl := X.warmed.classLinks hcl
  have hW' : s.WarmedH (T.vm.noted g.method.cls ent.catchType (.cls cell.cls)) := X.warmed.noted hd hopen (State.rightAt_cls hcl)
  obtain ⟨k1, hk1, -⟩ := hW'.alike.2.2 _ _ hkt
  obtain ⟨ha, ht⟩ := (resolveClass_links e.toSetting hl).op (op := VmOp.resolveClass g.method.cls ent.catchType) rfl
  have hfit : (T.vm.noted g.method.cls ent.catchType (.cls cell.cls)).assignable cell.cls cell.cls = true := by
    show (T.vm.noted g.method.cls ent.catchType (.cls cell.cls)).assignableAux (255 + 1) cell.cls cell.cls = true
    rw [Vm.assignableAux, Bool.or_eq_true, beq_iff_eq]
    exact Or.inl rfl
  have hm : ((T.setTop g).pushFrame (.throwing x)).vm.method? g.method = some meth := X.method'
  have hcell' : ((T.setTop g).pushFrame (.throwing x)).heap[x]? = some cell := hcell
  have ha' : _ := ha
  have hfind : ∀ (Q : Handler → Pre) (E : CtlPost) (d : Bool) (acts : List Action), wp (findHandler g x) Q E e d acts ((T.setTop g).pushFrame (.throwing x)) ↔ Q (.found ent.handlerPc) d acts (((T.setTop g).pushFrame (.throwing x)).setVm (T.vm.noted g.method.cls ent.catchType (.cls cell.cls))) := by
    intro Q E d acts
    rw [W.findHandler_eq hm X.code, htab]
    simp only [covers] at hcov
    have hobj' : ∀ k, cell.vm ≠ .statics k := fun k h => by rw [hobj] at h; cases h
    have e1 : ((T.setTop g).pushFrame (.throwing x)).vm = T.vm := rfl
    simp [findHandler.go, hcov, h0, e1, ha, ht, hcell', hobj', hk1, hfit, VmOp.dirties, VmOp.acts]
  refine ⟨_, hW', fun target hrest => ?_⟩
  obtain ⟨hgo, hw⟩ := X.here.throwing x
  refine Steps.head hgo hw ?_
  rw [stepThread_throwing (frames_entered X.here.top _)]
  have hst : (stepThrowing e ((T.setTop g).pushFrame (.throwing x)) x (.java g :: T.frames.tail)).1 = (((T.setTop g).pushFrame (.throwing x)).setVm (T.vm.noted g.method.cls ent.catchType (.cls cell.cls))).setFrames (.java { g with pc := ent.handlerPc, stack := [.ref x] } :: T.frames.tail) := by
    simp only [stepThrowing, searchFrame, vmDo]
    generalize hr : Sem.go _ e false [] _ = res
    obtain ⟨as, rfl, -⟩ := Sem.eq_ok_of hr (a := Handler.found ent.handlerPc) (s' := ((T.setTop g).pushFrame (.throwing x)).setVm (T.vm.noted g.method.cls ent.catchType (.cls cell.cls))) (acts' := []) (by simp [hfind _ _ _ _])
    rfl
  rw [hst]
  obtain ⟨g₀, hf⟩ := X.frames_eq
  rw [State.setTop_of_frames _ (show (T.setVm (T.vm.noted g.method.cls ent.catchType (.cls cell.cls))).frames = .java g₀ :: below from hf)] at hrest
  have e2 : ∀ (fs gs : List Frame) (vm : Vm), ((T.setFrames fs).setVm vm).setFrames gs = (T.setVm vm).setFrames gs := fun fs gs vm => by
    show ((T.setVm vm).setFrames fs).setFrames gs = _
    rw [State.setFrames_setFrames]
  rw [State.pushFrame, State.setTop_of_frames _ hf, State.setFrames_setFrames, e2, hf]
  exact hrest
end CAT
section CT
variable {M : MD} {d : Nat} {X : Cx} {pc : Nat} {ls : List (Nat × Value)} {st stk : List Value} {μ : Mem} {dy : Nat → Nat} {N : MD} {idx n : Nat} {As : List Value} {r : Option Value × Mem}
theorem pcE_blind {G : Gx} {av : List Value} {μ : Mem} {dy : Nat → Nat} {sz : Nat} : FrameBlind (PcE G av μ dy sz) := fun a U g mk q => ⟨pc_blind a U g mk q.1, EXT.same (s := U) (U := U.calling g mk a) (H := U.heap) rfl q.2⟩
/-- what a call's start owes, out of the caller's picture -/
theorem pcE_at (hX : Ok M d X) (hE : EXT (xA X) (xs X) (xs X).heap) {H : Heap} {locs : List Loc} {U : State} {av : List Value} (hU : U.heap = H) (hW : (xs X).WarmedH U.vm) (hP : va_P (gD (xG X)) cls (wsOf (xG X) μ dy) H) (hD : va_D (xA X) (wsOf (xG X) μ dy)) (hS : va_S (xA X) (xs X).heap H locs) (hB : bdd X μ) : PcE (xG X) av μ dy H.size av.toArray U := by
  have hA : ∀ q, va_A (wsOf (xG X) μ dy) H.size q → xA X q := fun q hq => by
    rcases hq with ⟨k, e, hke⟩ | hq
    · exact hD.2 k _ hke
    · exact hX.2.2.2.2.2.2.2.2.1 q (Nat.le_trans hS.1 hq)
  have h9 := (hX.2.2.2.2.2.2.2.2.2.kept (H1 := H) hS.2.1).narrow (B := va_A (wsOf (xG X) μ dy) H.size) hA
  have h8 := (hE.kept (H1 := H) hS.2.1).narrow (B := va_A (wsOf (xG X) μ dy) H.size) hA
  subst hU
  exact ⟨⟨rfl, rfl, hP, va_K.moved hW.alike hX.2.2.2.2.2.1, hD.weaken (fun _ _ _ _ => trivial), ⟨hB.1.2, hB.2.2⟩, h9.warm hW⟩, h8.warm hW⟩
/-- a call that throws, caught by the frame's own table -/
theorem r_callT (hX : Ok M (d + 1) X) (hE : EXT (xA X) (xs X) (xs X).heap) (hfl : (xl X).flags = flags0) (hown : M.2.2.2.2 = "MoreThanHalfLaw") {ent : ExceptionTableEntry} (htab : (xk X).exceptionTable.toList = [ent]) (hcov : covers ent pc = true) (hct : ent.catchType = 13) {a q0 ci : Nat} {cr : vw_C} {fs : List Value} (hcon : ConT (xG X) N d (.ref a :: As) μ) (hw9 : CV M.2.2.2.2 idx N n) (hw : (wsOf (xG X) μ dy)[q0]? = some (a, .inr (ci, fs))) (hc : cls[ci]? = some cr) (hcr : cr.1 = N.1.cls) (hst : As.reverse ++ .ref a :: st = stk) (hn : As.length = n) (hroom : Nat.ble ((st.map fun v => v.category).sum) 8 = true) (hr : μ.2.2.1 + 1 ≤ LIMc ∧ μ.2.2.2 + 6 ≤ LIMs) (hd : decode M.2.1 pc = .ok (.invokevirtual idx, 3))
    (kk : ∀ (x : Nat) (dy1 : Nat → Nat), AW X ent.handlerPc ls [.ref x] (addC μ 1 6) dy1) : AW X pc ls stk μ dy := by
  intro H locs la hP hD hS hB h T hT XS
  subst hst
  obtain ⟨⟨hl, hco, hini, hy, hlen, hmx⟩, hin, hse⟩ := hw9
  have hts := hX.2.2.2.2.1
  obtain ⟨cell, hcB, hoB, hclB⟩ := va_recv hX.2.2.2.2.2.1 hP hc hw
  have hfr := hX.2.2.2.2.2.2.1
  have hrm := hX.2.2.2.2.2.2.2.1
  have hm1 := Nat.le_of_ble_eq_true hmx
  obtain ⟨mk, methM, hnamed, hmethM, hstM, habM⟩ := Cond.instanceMethod_spec (hts _ hin)
  obtain ⟨methM', cM, hmethM', -, -, -, -, -, -, hsigM⟩ := Cond.code_spec hnamed (hts _ hco)
  cases hmethM.symm.trans hmethM'
  obtain ⟨c2, r2, m2, q1, q2, q3, q4, kP, hkP, hkPi⟩ := Cond.selects_spec (hts _ hse)
  rw [hcr] at hclB
  cases hclB.symm.trans q1
  cases (State.methodFound?_of_named hnamed hy).symm.trans q2
  cases hnamed.symm.trans q3
  have hselP : selectMethod (xe X).platform (xs X).vm cell.cls mk = .method mk := by rw [Launch.admits_selectMethod XS.admits]; exact q4
  obtain ⟨vm₁, X₁, hstep₁⟩ := XS.invokevirtual hX.1 hX.2.2.2.1 (hts _ hl) hnamed hmethM hstM hkP hkPi hy (a := a) (cell := cell) (by rw [hT]; exact hcB) (fun z h => by rw [h] at hoB; cases hoB) hselP hmethM habM hkP hkPi (g := F0 (xm X) pc la (As.reverse ++ .ref a :: st)) rfl (argsL := As) (rest := st) (hn.trans (len_of hlen _ hsigM)) rfl (by rw [hX.2.1]; exact hd)
  have hW1 : (xs X).WarmedH (T.setVm vm₁).vm := X₁.warmed
  have hpe := pcE_at (av := .ref a :: As) hX hE (U := T.setVm vm₁) hT hW1 hP hD hS hB
  have hnm := X₁.named hnamed
  have h2 : (Cond.code N.1 N.2.1 N.2.2.1 N.2.2.2.1).before (Value.ref a :: As).toArray (T.setVm vm₁) = true := tb_at hts hW1 hco
  obtain ⟨methY, cY, hmY, hcY, -, hlY, -, -, -, -⟩ := Cond.code_spec hnm h2
  obtain ⟨kY, hkY, -⟩ := className_of_methodNamed hnm
  have hinitY : kY.init = .initialized := Cond.initialized_spec (findClass_of_methodNamed hnm) hkY (tb_at (a' := (Value.ref a :: As).toArray) hts hW1 hini)
  have hdg : decode (xk X).code (F0 (xm X) pc la st).pc = .ok (.invokevirtual idx, 3) := by rw [hX.2.1]; exact hd
  have h88 : 2 * (F0 (xm X) pc la st).monitorRoom + (st.map fun v => v.category).sum ≤ 8 := lv_room (rest := st) (Nat.le_of_ble_eq_true hroom)
  have happ : (headSpec (mdWs N) (rmOf d μ)).appliesLoose N.1 (xe X).platform ((T.setVm vm₁).calling (F0 (xm X) pc la st) mk (Value.ref a :: As).toArray) = true :=
    Spec.appliesLoose_calling (g := F0 (xm X) pc la st) X₁.here hdg hnm hkY hinitY
      (X₁.room_calling (g := F0 (xm X) pc la st) (R' := rmOf d μ) h.1 hmY hcY (show d + 1 ≤ _ from hfr.1) (by rw [hlY]; show 2 * (F0 (xm X) pc la st).monitorRoom + (st.map fun v => v.category).sum + (N.2.2.1 + 11) + 40 * d ≤ _; omega)
        (by show (μ.2.2.1 - xc X) + (LIMc - μ.2.2.1) ≤ _; have := hB.1.1; have := hB.1.2; omega) (by show (μ.2.2.2 - xz X) + (LIMs - μ.2.2.2) ≤ _; have := hB.2.1; have := hB.2.2; omega))
      (atoms_intro fun w hw => by
        rcases List.mem_cons.mp hw with rfl | h2
        · exact tb_at hts hW1 hco
        · exact tb_at hts hW1 h2)
  obtain ⟨mid, hmid⟩ := X₁.here.above
  have hfm : ((T.setVm vm₁).setTop (F0 (xm X) pc la st)).frames = (.java (F0 (xm X) pc la st) :: mid) ++ xb X := by rw [State.frames_setTop' _ X₁.here.top, hmid]; rfl
  obtain ⟨o, s₂, hsteps, -, hend, hq⟩ := Steps.callFree (hcon (xl X) hfl dy H.size) (xp X) X₁.admits X₁.cas X₁.clock (acts := []) hfm happ (pcE_blind _ _ (F0 (xm X) pc la st) mk hpe) trivial
  rw [State.frames_setTop' _ X₁.here.top, X₁.tail] at hend
  obtain ⟨⟨x, ce, rfl, hce, hcv, hcf⟩, ⟨dy1, hP1, hD1⟩, ⟨hz, hk⟩, L, hW2, hsm, hL⟩ := hq
  obtain ⟨T', X₂, -, -, ht⟩ := X₁.outOfThrown (g := F0 (xm X) pc la st) rfl hend hW2 hsm
  have hh : T'.heap = s₂.heap := by rw [ht]; rfl
  have hcf' : (xs X).vm.findClass nsE = some ce.cls := by
    rw [← hcf]
    show _ = (T.setVm vm₁).vm.findClass nsE
    rw [hW1.alike.findClass]
  obtain ⟨vm2, hWv, st2⟩ := catch_one X₂ x (g := F0 (xm X) pc la st) rfl (own := "MoreThanHalfLaw") (nm := nsE) (by rw [← hown]; exact hX.2.2.2.1) htab hcov (by rw [hct]; decide) (by rw [hct]; exact hE.word (List.mem_cons_of_mem _ (List.mem_cons_of_mem _ (List.mem_cons_self ..)))) hcf' (by rw [hh]; exact hce) hcv
  have X₃ := X₂.noted hWv
  have hF : ∀ q, va_A (wsOf (xG X) μ dy) H.size q → xA X q := fun q hq => by
    rcases hq with ⟨k, e, hke⟩ | hq
    · exact hD.2 k _ hke
    · exact hX.2.2.2.2.2.2.2.2.1 q (Nat.le_trans hS.1 hq)
  have hz' : H.size ≤ T'.heap.size := by rw [hh, ← hT]; exact hz
  have hk' : ∀ q : Nat, q < H.size → ¬ va_A (wsOf (xG X) μ dy) H.size q → T'.heap[q]? = H[q]? := fun q h1 h2 => by
    rw [hh, ← hT]
    exact hk q (by show q < T.heap.size; rw [hT]; exact h1) h2
  have hb1 : (addC μ 1 6).2.2.1 = μ.2.2.1 + 1 := rfl
  have hb2 : (addC μ 1 6).2.2.2 = μ.2.2.2 + 6 := rfl
  have c1 : μ.2.2.1 - xc X + 1 = (addC μ 1 6).2.2.1 - xc X := by have := hB.1.1; omega
  have c2 : μ.2.2.2 - xz X + 6 = (addC μ 1 6).2.2.2 - xz X := by have := hB.2.1; omega
  rw [c1, c2] at X₃
  have k1 := kk x dy1 T'.heap (locs ++ L) la (by rw [hh]; exact hP1) ⟨hD1.1, fun k q hq => hF _ (hD1.2 k q hq)⟩
    ⟨Nat.le_trans hS.1 hz', fun q h1 h2 => by rw [hk' q (Nat.lt_of_lt_of_le h1 hS.1) (fun z => h2 (hF q z))]; exact hS.2.1 q h1 h2, fun q hq => by
      rcases List.mem_append.mp hq with h | h
      · exact hS.2.2 q h
      · exact hF _ (hL q h)⟩ ⟨⟨by rw [hb1]; have := hB.1.1; omega, by rw [hb1]; exact hr.1⟩, by rw [hb2]; have := hB.2.1; omega, by rw [hb2]; exact hr.2⟩ h
  obtain ⟨t2, a1, b1⟩ := k1 (T'.setVm vm2) rfl X₃
  refine ⟨t2, hstep₁ _ (fun acts => ?_), b1⟩
  rw [doInvoke_state]
  rw [ht] at hsteps
  exact hsteps.trans (st2 _ a1)
end CT
