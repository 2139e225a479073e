/-! Contracts over the memory picture, and calls by contract. -/
def mdCode (M : MD) : Cond := .code M.1 M.2.1 M.2.2.1 M.2.2.2.1
def mdWs (M : MD) : List Cond := mdCode M :: tbG
def rmOf (d : Nat) (μ : Mem) : Room := { frames := d, cells := LIMc - μ.2.2.1, slots := LIMs - μ.2.2.2, locals := 40 * d }
def PcOf (G : Gx) (av : List Value) (μ : Mem) (dy : Nat → Nat) (sz : Nat) : Array Value → State → Prop :=
  va_Pc av (fun U => U.heap.size = sz ∧ va_P (gD G) cls (wsOf G μ dy) U.heap ∧ va_K (gD G) cls (tysOf G) U ∧ va_D (fun _ => True) (wsOf G μ dy) ∧ (μ.2.2.1 ≤ LIMc ∧ μ.2.2.2 ≤ LIMs) ∧ EX G (va_A (wsOf G μ dy) sz) U U.heap)
def QcOf (G : Gx) (μ : Mem) (dy : Nat → Nat) (sz : Nat) (r : Option Value × Mem) : Array Value → State → Outcome → State → Prop := fun _ st oc t =>
  oc = .returned r.1 ∧ (∃ dy1 : Nat → Nat, va_P (gD G) cls (wsOf G r.2 dy1) t.heap ∧ va_D (va_A (wsOf G μ dy) sz) (wsOf G r.2 dy1)) ∧
    ((μ.2.2.1 ≤ r.2.2.2.1 ∧ r.2.2.2.1 ≤ LIMc) ∧ μ.2.2.2 ≤ r.2.2.2.2 ∧ r.2.2.2.2 ≤ LIMs) ∧ va_F (va_A (wsOf G μ dy) sz) st t
/-- from the memory μ the method returns, with r.1 and the memory r.2 -/
def Con (G : Gx) (M : MD) (d : Nat) (av : List Value) (μ : Mem) (r : Option Value × Mem) : Prop :=
  ∀ (l : Launch) (dy : Nat → Nat) (sz : Nat), Met l M.1 (mdWs M) (rmOf d μ) (PcOf G av μ dy sz) (QcOf G μ dy sz r) (r.2.2.2.1 - μ.2.2.1) (r.2.2.2.2 - μ.2.2.2) (va_A (wsOf G μ dy) sz)
def RetI (M : MD) (X : Cx) (v : Int32) (μ : Mem) : Prop := ∀ (pc : Nat) (ls : List (Nat × Value)) (dy : Nat → Nat), decode M.2.1 pc = .ok (.ireturn, 1) → AW X pc ls [.int v] μ dy
def RetL (M : MD) (X : Cx) (v : Int64) (μ : Mem) : Prop := ∀ (pc : Nat) (ls : List (Nat × Value)) (dy : Nat → Nat), decode M.2.1 pc = .ok (.lreturn, 1) → AW X pc ls [.long v] μ dy
def RetV (M : MD) (X : Cx) (μ : Mem) : Prop := ∀ (pc : Nat) (ls : List (Nat × Value)) (dy : Nat → Nat), decode M.2.1 pc = .ok (.return_, 1) → AW X pc ls [] μ dy
/-- what is asked of a method's own data -/
def MOk (M : MD) (av : List Value) : Prop := plainName M.1.cls = true ∧ M.2.2.2.2 = M.1.cls ∧ (lg_sl av).length ≤ M.2.2.1
section CO
variable {M : MD} {d : Nat} {G : Gx} {av : List Value} {μ μ' : Mem}
theorem Con.core (hM : MOk M av) (o : Option Value)
    (hb : ∀ (X : Cx), xG X = G → Ok M d X → (xh X).locks = false → (xh X).sig.returnType = M.2.2.2.1 →
      (∃ dy0 : Nat → Nat, xA X = va_A (wsOf G μ dy0) (xs X).heap.size ∧ xc X = μ.2.2.1 ∧ xz X = μ.2.2.2 ∧ xQ X = MQ (xb X) (QcOf G μ dy0 (xs X).heap.size (o, μ')) (xa X) (xs X) (μ'.2.2.1 - μ.2.2.1) (μ'.2.2.2 - μ.2.2.2) (xA X)) → ∀ dy, AW X 0 (lv_args 0 av) [] μ dy) : Con G M d av μ (o, μ') := by
  intro l dy sz
  refine Met.ofW (cc := M.2.1) (maxL := M.2.2.1) (ret := M.2.2.2.1) hM.1 rfl ?_
  intro p e s m args below meth c s₁ B hml hv
  obtain ⟨rfl, hsz, hP, hK, hD0, ⟨hb1, hb2⟩, hE⟩ := hv
  have hts := atoms_spec (ws := mdWs M) B.pre
  have hown : s.vm.findClass M.2.2.2.2 = some m.cls := by rw [hM.2.1]; exact findClass_of_methodNamed B.named
  subst hsz
  have hD := hD0.self (sz := s.heap.size)
  have key := hb (p, l, e, (headSpec (mdWs M) (rmOf d μ)).room, s, m, av.toArray, below, meth, c, va_A (wsOf G μ dy) s.heap.size, MQ below (QcOf G μ dy s.heap.size (o, μ')) av.toArray s (μ'.2.2.1 - μ.2.2.1) (μ'.2.2.2 - μ.2.2.2) (va_A (wsOf G μ dy) s.heap.size), G, μ.2.2.1, μ.2.2.2) rfl
    ⟨B.exec, B.bytes, hml, hown, fun w hw => hts w (List.mem_cons_of_mem _ hw), hK, ⟨Nat.le_refl _, Nat.le_refl _⟩, ⟨Nat.sub_add_cancel hb1, Nat.sub_add_cancel hb2⟩, fun q h => Or.inr h, hE⟩ B.notSynchronized B.returns ⟨dy, rfl, rfl, rfl, rfl⟩ dy
  have hl := lv_entry av (n := M.2.2.1) hM.2.2
  rw [lg_entry_eq]
  have k1 := key s.heap [] _ hP hD va_S.rf ⟨⟨Nat.le_refl _, hb1⟩, Nat.le_refl _, hb2⟩ (by
    show lv_has _ c.maxLocals _
    rw [hml]
    exact hl)
  dsimp only [xp, xl, xe, xR, xs, xm, xa, xb, xh, xk, xQ, xc, xz] at k1
  rw [Nat.sub_self, Nat.sub_self] at k1
  exact k1
theorem Con.ofI {v : Int32} {ty : FieldType} (hM : MOk M av) (hr : M.2.2.2.1 = some ty) (hn : narrow ty (.int v) = .int v) (hb : ∀ (X : Cx), xG X = G → Ok M d X → RetI M X v μ' → ∀ dy, AW X 0 (lv_args 0 av) [] μ dy) : Con G M d av μ (some (.int v), μ') := by
  refine Con.core hM _ (fun X hG hX hk hrt hz => hb X hG hX ?_)
  obtain ⟨dy0, hA, hc0, hz0, hQ⟩ := hz
  subst hG
  intro pc ls dy hd H locs la hP hD hS hB h
  rw [hc0, hz0, hQ]
  refine W.zret (ty := ty) hX.1 hX.2.1 (hrt.trans hr) hn (fun t ht hW => ⟨rfl, ⟨dy, by rw [ht]; exact hP, by rw [hA] at hD; exact hD⟩, ?_, ?_⟩) hS.2.2 hd hk
  · unfold bdd at hB
    rw [hc0, hz0] at hB
    exact hB
  · rw [hA] at hS
    exact hS.F ht
theorem Con.ofL {v : Int64} (hM : MOk M av) (hr : M.2.2.2.1 = some .long) (hb : ∀ (X : Cx), xG X = G → Ok M d X → RetL M X v μ' → ∀ dy, AW X 0 (lv_args 0 av) [] μ dy) : Con G M d av μ (some (.long v), μ') := by
  refine Con.core hM _ (fun X hG hX hk hrt hz => hb X hG hX ?_)
  obtain ⟨dy0, hA, hc0, hz0, hQ⟩ := hz
  subst hG
  intro pc ls dy hd H locs la hP hD hS hB h
  rw [hc0, hz0, hQ]
  refine W.lret hX.1 hX.2.1 (hrt.trans hr) (fun t ht hW => ⟨rfl, ⟨dy, by rw [ht]; exact hP, by rw [hA] at hD; exact hD⟩, ?_, ?_⟩) hS.2.2 hd hk
  · unfold bdd at hB
    rw [hc0, hz0] at hB
    exact hB
  · rw [hA] at hS
    exact hS.F ht
theorem Con.ofV (hM : MOk M av) (hr : M.2.2.2.1 = none) (hb : ∀ (X : Cx), xG X = G → Ok M d X → RetV M X μ' → ∀ dy, AW X 0 (lv_args 0 av) [] μ dy) : Con G M d av μ (none, μ') := by
  refine Con.core hM _ (fun X hG hX hk hrt hz => hb X hG hX ?_)
  obtain ⟨dy0, hA, hc0, hz0, hQ⟩ := hz
  subst hG
  intro pc ls dy hd H locs la hP hD hS hB h
  rw [hc0, hz0, hQ]
  refine W.vret hX.1 hX.2.1 (hrt.trans hr) (fun t ht hW => ⟨rfl, ⟨dy, by rw [ht]; exact hP, by rw [hA] at hD; exact hD⟩, ?_, ?_⟩) hS.2.2 hd hk
  · unfold bdd at hB
    rw [hc0, hz0] at hB
    exact hB
  · rw [hA] at hS
    exact hS.F ht
end CO
section BK
variable {l : Launch} {R : Room} {p : Program} {e : Env} {below : List Frame} {s : State} {sargs : Array Value} {y : MethodName} {len W9 : Nat}
/-- a call's way back, where the callee's room is more than what it made -/
theorem back_of2 {ws : List Cond} {rm : Room} {Pc : Array Value → State → Prop} {Qc : Array Value → State → Outcome → State → Prop} {mc ms : Nat} {free : Addr → Prop} {bytes : ByteArray} {maxL : Nat} {ret : Option FieldType}
    (hM : Met l y ws rm Pc Qc mc ms free) (hblind : FrameBlind Pc)
    (hframes : rm.frames + 1 ≤ R.frames) (hlocals : W9 + (maxL + 11) + rm.locals ≤ R.locals)
    (hws : ∀ w ∈ ws, ∀ a' U, s.WarmedH U.vm → w.before a' U = true) (hcode : Cond.code y bytes maxL ret ∈ ws) (hinit : ∀ a' U, s.WarmedH U.vm → (Cond.initialized y.cls).before a' U = true) :
    Back l R p e below s sargs y len W9 (fun A a => A.cells + rm.cells ≤ R.cells ∧ A.slots + rm.slots ≤ R.slots ∧ Pc a A.U) (PostOf Qc mc ms free) := by
  refine Back.of_free (S := headSpec ws rm) (P := Pc) (K := fun _ _ _ _ _ => True) (Q := fun a st o t => Qc a st o t ∧ ∃ L, FrameEnd st o t L mc ms ∧ ∀ q ∈ L, free q.base) (bytes := bytes) (maxL := maxL) (ret := ret)
    (E := fun a st o t L k n => k = mc ∧ n = ms ∧ ∀ q ∈ L, free q.base) hM hframes hlocals ?_ ?_ (fun _ _ _ _ _ _ _ _ _ => trivial) ?_ ?_
  · intro m meth c A a X hp
    exact ⟨atoms_intro fun w hw => hws w hw _ _ X.warmed, hws _ hcode _ _ X.warmed, hinit _ _ X.warmed, hp.1, hp.2.1⟩
  · intro m meth c A a g mk X hp
    exact hblind _ _ _ _ hp.2.2
  · intro a st o t ⟨hq, L, hF, hL⟩
    exact ⟨L, mc, ms, hF, rfl, rfl, hL⟩
  · intro m meth c A a g mk v t L k n X hp hq hF ⟨e1, e2, hL⟩
    subst e1; subst e2
    exact ⟨g, mk, t, L, rfl, rfl, hq.1, rfl, hL, rfl, rfl⟩
end BK
/-- the words of a call's target -/
def CB (own : String) (idx : Nat) (N : MD) (n : Nat) : Prop := Cond.methodLink own idx N.1 ∈ tbG ∧ mdCode N ∈ tbG ∧ Cond.initialized N.1.cls ∈ tbG ∧ (N.1.cls ≠ "java/lang/invoke/MethodHandle" ∧ N.1.cls ≠ "java/lang/invoke/VarHandle") ∧ (parseMethodDescriptor N.1.desc).map (fun d => d.parameters.length) = some n ∧ Nat.ble N.2.2.1 21 = true
def CV (own : String) (idx : Nat) (N : MD) (n : Nat) : Prop := CB own idx N n ∧ Cond.instanceMethod N.1 ∈ tbG ∧ Cond.selects N.1.cls N.1 N.1 ∈ tbG
def CS (own : String) (idx : Nat) (N : MD) (n : Nat) : Prop := CB own idx N n ∧ Cond.static N.1 ∈ tbG
section CR
variable {M : MD} {d : Nat} {X : Cx} {pc : Nat} {ls : List (Nat × Value)} {st stk : List Value} {μ : Mem} {dy : Nat → Nat} {N : MD} {idx n : Nat} {As : List Value} {r : Option Value × Mem}
theorem tb_at {args a' : Array Value} {s U : State} (hts : ∀ w ∈ tbG, w.before args s = true) (hW : s.WarmedH U.vm) {w : Cond} (h : w ∈ tbG) : w.before a' U = true :=
  word_at hW (good_of_word (List.mem_filter.mp h).2) (hts w h)
theorem pc_blind {G : Gx} {av : List Value} {μ : Mem} {dy : Nat → Nat} {sz : Nat} : FrameBlind (PcOf G av μ dy sz) := fun a U g mk q => by
  obtain ⟨q0, q1, qP, qK, qD⟩ := q
  exact ⟨q0, q1, qP, va_K.moved (u := U) (U := U.calling g mk a) (Vm.Alike.refl U.vm) qK, qD.1, qD.2.1, EX.same (s := U) (U := U.calling g mk a) (H := U.heap) rfl qD.2.2⟩
theorem len_of {desc : String} {n : Nat} (h : (parseMethodDescriptor desc).map (fun d => d.parameters.length) = some n) : ∀ sig, parseMethodDescriptor desc = some sig → n = sig.parameters.length := fun sig hs => by
  rw [hs] at h
  exact (Option.some.inj h).symm
/-- behind a call: the callee's end brought back to the caller's picture -/
theorem r_behind {a : Array Value} {st0 : List Value} {la : Array Slot} {H : Heap} {locs : List Loc} {len : Nat} (hP : va_P (gD (xG X)) cls (wsOf (xG X) μ dy) H) (hD : va_D (xA X) (wsOf (xG X) μ dy)) (hS : va_S (xA X) (xs X).heap H locs) (hA : ∀ q, (xs X).heap.size ≤ q → xA X q) (hB : bdd X μ) (h : lv_has la (xk X).maxLocals ls)
    (kk : ∀ dy1, AW X (pc + len) ls (r.1.toList ++ st) r.2 dy1)
    (run : ∀ T : State, T.heap = H → Stand (xp X) (xl X) (xe X) (xR X) (xs X) (xm X) (xa X) (xb X) (xh X) (xk X) T locs (μ.2.2.1 - xc X) (μ.2.2.2 - xz X) → ∃ (v : Option Value) (st₀ t T' : State) (L : List Loc), st₀.heap = H ∧ Stand (xp X) (xl X) (xe X) (xR X) (xs X) (xm X) (xa X) (xb X) (xh X) (xk X) T' (locs ++ L) (μ.2.2.1 - xc X + (r.2.2.2.1 - μ.2.2.1)) (μ.2.2.2 - xz X + (r.2.2.2.2 - μ.2.2.2)) ∧ (∀ q ∈ L, va_A (wsOf (xG X) μ dy) H.size q.base) ∧ T'.heap = t.heap ∧ T'.vm = t.vm ∧ QcOf (xG X) μ dy H.size r a st₀ (.returned v) t ∧
      Goes (xp X) (xe X) (xb X) T (F0 (xm X) pc la st0) T' { F0 (xm X) pc la st0 with pc := pc + len, stack := v.toList ++ st }) :
    W (xp X) (xl X) (xe X) (xR X) (xs X) (xm X) (xa X) (xb X) (xh X) (xk X) H locs (μ.2.2.1 - xc X) (μ.2.2.2 - xz X) (xQ X) (F0 (xm X) pc la st0) := by
  intro T hT XS
  obtain ⟨v, st₀, t, T', L, h0, X', hL, e1, e2, ⟨hv, ⟨dy1, hP1, hD1⟩, hb1, hz, hk⟩, stp⟩ := run T hT XS
  cases hv
  rw [h0] at hz hk
  have hF : ∀ q, va_A (wsOf (xG X) μ dy) H.size q → xA X q := by
    intro q hq
    rcases hq with ⟨k, e, hke⟩ | hq
    · exact hD.2 k _ hke
    · exact hA q (Nat.le_trans hS.1 hq)
  have hB1 : bdd X r.2 := ⟨⟨Nat.le_trans hB.1.1 hb1.1.1, hb1.1.2⟩, Nat.le_trans hB.2.1 hb1.2.1, hb1.2.2⟩
  have c1 : μ.2.2.1 - xc X + (r.2.2.2.1 - μ.2.2.1) = r.2.2.2.1 - xc X := by
    have := hB.1.1
    have := hb1.1.1
    omega
  have c2 : μ.2.2.2 - xz X + (r.2.2.2.2 - μ.2.2.2) = r.2.2.2.2 - xz X := by
    have := hB.2.1
    have := hb1.2.1
    omega
  rw [c1, c2] at X'
  have k1 := kk dy1 T'.heap (locs ++ L) la (by rw [e1]; exact hP1) ⟨hD1.1, fun k q hq => hF _ (hD1.2 k q hq)⟩
    ⟨Nat.le_trans hS.1 (by rw [e1]; exact hz), fun q h1 h2 => by rw [e1, hk q (Nat.lt_of_lt_of_le h1 hS.1) (fun z => h2 (hF q z))]; exact hS.2.1 q h1 h2, fun q hq => by
      rcases List.mem_append.mp hq with h | h
      · exact hS.2.2 q h
      · exact hF _ (hL q h)⟩ hB1 h
  obtain ⟨t2, a1, b1⟩ := k1 T' rfl X'
  exact ⟨t2, stp t2 a1, b1⟩
theorem r_callV (hX : Ok M (d + 1) X) {a q0 ci : Nat} {cr : vw_C} {fs : List Value} (hcon : Con (xG X) N d (.ref a :: As) μ r) (hw9 : CV M.2.2.2.2 idx N n) (hw : (wsOf (xG X) μ dy)[q0]? = some (a, .inr (ci, fs))) (hc : cls[ci]? = some cr) (hcr : cr.1 = N.1.cls) (hst : As.reverse ++ .ref a :: st = stk) (hn : As.length = n) (hroom : Nat.ble ((st.map fun v => v.category).sum) 8 = true) (hd : decode M.2.1 pc = .ok (.invokevirtual idx, 3))
    (kk : ∀ dy1, AW X (pc + 3) ls (r.1.toList ++ st) r.2 dy1) : AW X pc ls stk μ dy := by
  intro H locs la hP hD hS hB h
  subst hst
  obtain ⟨⟨hl, hco, hini, hy, hlen, hmx⟩, hin, hse⟩ := hw9
  have hts := hX.2.2.2.2.1
  obtain ⟨cell, hcB, hoB, hclB⟩ := va_recv hX.2.2.2.2.2.1 hP hc hw
  refine r_behind (a := (Value.ref a :: As).toArray) hP hD hS hX.2.2.2.2.2.2.2.2.1 hB h kk (fun T hT XS => ?_)
  have hfr := hX.2.2.2.2.2.2.1
  have hrm := hX.2.2.2.2.2.2.2.1
  have hm1 := Nat.le_of_ble_eq_true hmx
  have hK := back_of2 (p := xp X) (e := xe X) (R := xR X) (below := xb X) (s := xs X) (sargs := xa X) (len := 3) (W9 := 8) (hcon (xl X) dy H.size) pc_blind (show d + 1 ≤ _ from hfr.1) (show 8 + (N.2.2.1 + 11) + 40 * d ≤ _ by omega) (fun w hw a' U hW => by
      rcases List.mem_cons.mp hw with rfl | h2
      · exact tb_at hts hW hco
      · exact tb_at hts hW h2) (bytes := N.2.1) (maxL := N.2.2.1) (ret := N.2.2.2.1) List.mem_cons_self (fun a' U hW => tb_at hts hW hini)
  obtain ⟨v, vm₁, ⟨U', l2, c2, s2⟩, hW₁, X', ⟨g', mk, t, L, e1, e2, hq, h1, hL, h2, h3⟩, stp⟩ := callV XS hX.1 (C := cr.1) (bytes := N.2.1) (maxL := N.2.2.1) (ret := N.2.2.2.1) hX.2.2.2.1 (hts _ hl) (hts _ hin) (by rw [hcr]; exact hts _ hse) (hts _ hco) hy hK (by rw [hT]; exact hcB) hoB hclB (g := F0 (xm X) pc la (As.reverse ++ .ref a :: st)) rfl h.1 (argsL := As) (rest := st) (fun sig hs => hn.trans (len_of hlen sig hs)) rfl (lv_room (Nat.le_of_ble_eq_true hroom)) (by rw [hX.2.1]; exact hd)
    (fun vm₁ hW₁ => ⟨by show (μ.2.2.1 - xc X) + (LIMc - μ.2.2.1) ≤ _; have := hB.1.1; have := hB.1.2; omega, by show (μ.2.2.2 - xz X) + (LIMs - μ.2.2.2) ≤ _; have := hB.2.1; have := hB.2.2; omega, rfl, by show T.heap.size = _; rw [hT], by show va_P _ _ _ T.heap; rw [hT]; exact hP, va_K.moved hW₁.alike hX.2.2.2.2.2.1, hD.weaken (fun _ _ _ _ => trivial), ⟨hB.1.2, hB.2.2⟩, by
      have h9 := (hX.2.2.2.2.2.2.2.2.2.kept (H1 := H) hS.2.1).narrow (B := va_A (wsOf (xG X) μ dy) H.size) (fun q hq => by
        rcases hq with ⟨k, e, hke⟩ | hq
        · exact hD.2 k _ hke
        · exact hX.2.2.2.2.2.2.2.2.1 q (Nat.le_trans hS.1 hq))
      show EX _ _ _ T.heap
      rw [hT]
      exact h9.warm hW₁⟩)
  dsimp only [Pt.U, Pt.locs, Pt.cells, Pt.slots] at X' e1 e2 h1 h2 h3 stp
  subst h1; subst h2; subst h3
  exact ⟨v, (T.setVm vm₁).calling g' mk (Value.ref a :: As).toArray, t, U', L, hT, X', hL, e1, e2, hq, stp⟩
theorem r_callS (hX : Ok M (d + 1) X) (hcon : Con (xG X) N d As μ r) (hw9 : CS M.2.2.2.2 idx N n) (hst : As.reverse ++ st = stk) (hn : As.length = n) (hroom : Nat.ble ((st.map fun v => v.category).sum) 8 = true) (hd : decode M.2.1 pc = .ok (.invokestatic idx, 3))
    (kk : ∀ dy1, AW X (pc + 3) ls (r.1.toList ++ st) r.2 dy1) : AW X pc ls stk μ dy := by
  intro H locs la hP hD hS hB h
  subst hst
  obtain ⟨⟨hl, hco, hini, hy, hlen, hmx⟩, hstt⟩ := hw9
  have hts := hX.2.2.2.2.1
  refine r_behind (a := As.toArray) hP hD hS hX.2.2.2.2.2.2.2.2.1 hB h kk (fun T hT XS => ?_)
  have hfr := hX.2.2.2.2.2.2.1
  have hrm := hX.2.2.2.2.2.2.2.1
  have hm1 := Nat.le_of_ble_eq_true hmx
  have hK := back_of2 (p := xp X) (e := xe X) (R := xR X) (below := xb X) (s := xs X) (sargs := xa X) (len := 3) (W9 := 8) (hcon (xl X) dy H.size) pc_blind (show d + 1 ≤ _ from hfr.1) (show 8 + (N.2.2.1 + 11) + 40 * d ≤ _ by omega) (fun w hw a' U hW => by
      rcases List.mem_cons.mp hw with rfl | h2
      · exact tb_at hts hW hco
      · exact tb_at hts hW h2) (bytes := N.2.1) (maxL := N.2.2.1) (ret := N.2.2.2.1) List.mem_cons_self (fun a' U hW => tb_at hts hW hini)
  obtain ⟨v, vm₁, ⟨U', l2, c2, s2⟩, hW₁, X', ⟨g', mk, t, L, e1, e2, hq, h1, hL, h2, h3⟩, stp⟩ := callS XS hX.1 (bytes := N.2.1) (maxL := N.2.2.1) (ret := N.2.2.2.1) hX.2.2.2.1 (hts _ hl) (hts _ hstt) (hts _ hini) (hts _ hco) hy hK (g := F0 (xm X) pc la (As.reverse ++ st)) rfl h.1 (argsL := As) (rest := st) (fun sig hs => hn.trans (len_of hlen sig hs)) rfl (lv_room (Nat.le_of_ble_eq_true hroom)) (by rw [hX.2.1]; exact hd)
    (fun vm₁ hW₁ => ⟨by show (μ.2.2.1 - xc X) + (LIMc - μ.2.2.1) ≤ _; have := hB.1.1; have := hB.1.2; omega, by show (μ.2.2.2 - xz X) + (LIMs - μ.2.2.2) ≤ _; have := hB.2.1; have := hB.2.2; omega, rfl, by show T.heap.size = _; rw [hT], by show va_P _ _ _ T.heap; rw [hT]; exact hP, va_K.moved hW₁.alike hX.2.2.2.2.2.1, hD.weaken (fun _ _ _ _ => trivial), ⟨hB.1.2, hB.2.2⟩, by
      have h9 := (hX.2.2.2.2.2.2.2.2.2.kept (H1 := H) hS.2.1).narrow (B := va_A (wsOf (xG X) μ dy) H.size) (fun q hq => by
        rcases hq with ⟨k, e, hke⟩ | hq
        · exact hD.2 k _ hke
        · exact hX.2.2.2.2.2.2.2.2.1 q (Nat.le_trans hS.1 hq))
      show EX _ _ _ T.heap
      rw [hT]
      exact h9.warm hW₁⟩)
  dsimp only [Pt.U, Pt.locs, Pt.cells, Pt.slots] at X' e1 e2 h1 h2 h3 stp
  subst h1; subst h2; subst h3
  exact ⟨v, (T.setVm vm₁).calling g' mk As.toArray, t, U', L, hT, X', hL, e1, e2, hq, stp⟩
end CR
