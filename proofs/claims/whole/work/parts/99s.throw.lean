/-! A call that throws: what it needs of the tables, the throw, and how it is caught. -/
abbrev nsE : String := "java/util/NoSuchElementException"
abbrev nsUp : List String := ["java/lang/RuntimeException", "java/lang/Exception"]
def wThA : List Cond := Bundle.ownAtoms0 "MoreThanHalf" 122 nsE nsUp
def wThT : List Cond := Cond.classLink "MoreThanHalf" 120 nsE :: Cond.initialized nsE :: Cond.classLink "MoreThanHalfLaw" 13 nsE :: wThA.filter Cond.tabsOnly
theorem wT_tabs : ∀ w ∈ wThT, w.tabsOnly = true := by decide +kernel
theorem wA_in : ∀ w ∈ wThA, w.tabsOnly = true ∨ w = .isRef (.static Bundle.tN "UNASSIGNED_STACK" Bundle.steD) ∨ w = .isRef (.static Bundle.tN "SUPPRESSED_SENTINEL" Bundle.listD) ∨ w = .laysStatic Bundle.tN "UNASSIGNED_STACK" Bundle.steD ∨ w = .laysStatic Bundle.tN "SUPPRESSED_SENTINEL" Bundle.listD := by decide +kernel
/-- a static of Throwable's that holds a reference -/
def ZS (n d : String) (A : Nat → Prop) (U : State) (H : Heap) : Prop :=
  ∃ (c : ClassId) (k : Class) (fi : Nat) (f : Field) (a : Nat) (cell : Cell) (v : Value), U.vm.findClass Bundle.tN = some c ∧ U.fieldFound? Bundle.tN n d = some (c, k, fi, f) ∧ (f.isStatic = true ∧ k.statics = some a ∧ k.staticTypes[f.slot]? = some f.type) ∧ H[a]? = some cell ∧ (cell.vm.isStatics = true ∧ cell.cls = c ∧ f.slot < cell.slots.size ∧ cell.slots[f.slot]? = some v ∧ (v = .null ∨ ∃ t : Nat, v = .ref t)) ∧ ¬ A a
theorem ZS.moved {n d : String} {A : Nat → Prop} {u U : State} {H : Heap} (hvm : u.vm.Alike U.vm) (h : ZS n d A u H) : ZS n d A U H := by
  obtain ⟨c, k, fi, f, a, cell, v, h1, h2, h3, h4⟩ := h
  obtain ⟨k', hi', he⟩ := State.fieldFound?_setVm hvm h2
  exact ⟨c, k', fi, f, a, cell, v, by rw [hvm.findClass]; exact h1, hi', by rw [he]; exact h3, h4⟩
theorem ZS.kept {n d : String} {A : Nat → Prop} {U : State} {H H1 : Heap} (h : ZS n d A U H) (hq : ∀ a : Nat, a < H.size → ¬ A a → H1[a]? = H[a]?) : ZS n d A U H1 := by
  obtain ⟨c, k, fi, f, a, cell, v, h1, h2, h3, h4, h5, h6⟩ := h
  exact ⟨c, k, fi, f, a, cell, v, h1, h2, h3, by rw [hq a (Array.getElem?_eq_some_iff.mp h4).1 h6]; exact h4, h5, h6⟩
theorem ZS.narrow {n d : String} {A B : Nat → Prop} {U : State} {H : Heap} (h : ZS n d A U H) (hAB : ∀ q, B q → A q) : ZS n d B U H := by
  obtain ⟨c, k, fi, f, a, cell, v, h1, h2, h3, h4, h5, h6⟩ := h
  exact ⟨c, k, fi, f, a, cell, v, h1, h2, h3, h4, h5, fun z => h6 (hAB a z)⟩
theorem ZS.of {args : Array Value} {s : State} {n d : String} {A : Nat → Prop} (hl : (Cond.laysStatic Bundle.tN n d).before args s = true) (h : (Cond.isRef (.static Bundle.tN n d)).before args s = true) (hA : ∀ a : Nat, a < s.heap.size → ¬ A a) : ZS n d A s s.heap := by
  obtain ⟨c, k, i, f, a, cell, hc, hi, hst, ha, hcell, hs, hcls, hlt, hty⟩ := Cond.laysStatic_spec hl
  cases hv : (Term.static Bundle.tN n d).eval args s none [] s with
  | none => simp [Cond.before, Cond.holds, Cond.value, hv] at h
  | some w =>
    simp only [Cond.before, Cond.holds, Cond.value, hv] at h
    obtain ⟨hst', a', cell', ha', hcell', -, hslot⟩ := Term.static_spec hi hv
    cases ha.symm.trans ha'
    cases hcell.symm.trans hcell'
    refine ⟨c, k, i, f, a, cell, w, hc, hi, ⟨hst, ha, hty⟩, hcell, ⟨hs, hcls, hlt, hslot, ?_⟩, hA a (Array.getElem?_eq_some_iff.mp hcell).1⟩
    cases w with
    | null => exact Or.inl rfl
    | ref t => exact Or.inr ⟨t, rfl⟩
    | _ => simp at h
theorem ZS.lays {args : Array Value} {U : State} {n d : String} {A : Nat → Prop} (h : ZS n d A U U.heap) : (Cond.laysStatic Bundle.tN n d).before args U = true := by
  obtain ⟨c, k, fi, f, a, cell, v, h1, h2, ⟨h3, h4, h5⟩, h6, ⟨h7, h8, h9, h10, h11⟩, h12⟩ := h
  simp [Cond.before, Cond.holds, Cond.value, h1, h2, h4, h6, h3, h7, h8, h9, h5]
theorem ZS.isr {args : Array Value} {U : State} {n d : String} {A : Nat → Prop} (h : ZS n d A U U.heap) : (Cond.isRef (.static Bundle.tN n d)).before args U = true := by
  obtain ⟨c, k, fi, f, a, cell, v, h1, h2, ⟨h3, h4, h5⟩, h6, ⟨h7, h8, h9, h10, h11⟩, h12⟩ := h
  have e : (Term.static Bundle.tN n d).eval args U none [] U = some v := by simp [Term.eval, State.fieldNamed?, h2, h3, h4, h6, h7, h10]
  rcases h11 with rfl | ⟨t, rfl⟩ <;> simp [Cond.before, Cond.holds, Cond.value, e]
/-- what a throw needs beside EX -/
def EXT (A : Nat → Prop) (U : State) (H : Heap) : Prop := (∀ w ∈ wThT, va_Nw w U) ∧ ZS "UNASSIGNED_STACK" Bundle.steD A U H ∧ ZS "SUPPRESSED_SENTINEL" Bundle.listD A U H
theorem EXT.kept {A : Nat → Prop} {U : State} {H H1 : Heap} (h : EXT A U H) (hq : ∀ a : Nat, a < H.size → ¬ A a → H1[a]? = H[a]?) : EXT A U H1 := ⟨h.1, h.2.1.kept hq, h.2.2.kept hq⟩
theorem EXT.narrow {A B : Nat → Prop} {U : State} {H : Heap} (h : EXT A U H) (hAB : ∀ q, B q → A q) : EXT B U H := ⟨h.1, h.2.1.narrow hAB, h.2.2.narrow hAB⟩
theorem tabs_use {w : Cond} (hw : w.tabsOnly = true) {s U : State} {a a' : Array Value} (hW : s.WarmedH U.vm) (h : w.before a s = true) : w.before a' U = true := by
  have h1 := Cond.tabsOnly_warm (args' := a') (T := U) hW w hw h
  rwa [State.setVm_self] at h1
theorem EXT.warm {A : Nat → Prop} {s U : State} {H : Heap} (hW : s.WarmedH U.vm) (h : EXT A s H) : EXT A U H := ⟨fun w hw => tabs_use (wT_tabs w hw) hW (h.1 w hw), h.2.1.moved hW.alike, h.2.2.moved hW.alike⟩
theorem EXT.same {A : Nat → Prop} {s U : State} {H : Heap} (hv : U.vm = s.vm) (h : EXT A s H) : EXT A U H := h.warm (by rw [hv]; exact State.WarmedH.refl s)
theorem EXT.word {A : Nat → Prop} {U : State} {H : Heap} (h : EXT A U H) {args : Array Value} {w : Cond} (hw : w ∈ wThT) : w.before args U = true := tabs_use (wT_tabs w hw) (State.WarmedH.refl U) (h.1 w hw)
theorem EXT.words {A : Nat → Prop} {U : State} (h : EXT A U U.heap) {args : Array Value} : ∀ w ∈ wThA, w.before args U = true := fun w hw => by
  rcases wA_in w hw with h1 | rfl | rfl | rfl | rfl
  · exact h.word (List.mem_cons_of_mem _ (List.mem_cons_of_mem _ (List.mem_cons_of_mem _ (List.mem_filter.mpr ⟨hw, h1⟩))))
  · exact h.2.1.isr
  · exact h.2.2.isr
  · exact h.2.1.lays
  · exact h.2.2.lays
section RB
variable {p : Program} {l : Launch} {e : Env} {R : Room} {s : State} {m : MethodId} {args : Array Value} {below : List Frame} {meth : Method} {c : Code} {T : State} {locs : List Loc} {cells slots : Nat}
/-- where a walk stands, as a beginning of its own: with what is left of the room -/
theorem stand_again (X : Stand p l e R s m args below meth c T locs cells slots) (hc : cells ≤ R.cells) (hs : slots ≤ R.slots) :
    Stand p l e { frames := R.frames, cells := R.cells - cells, slots := R.slots - slots, locals := R.locals } (T.setFrames (.invoking m args :: below)) m args below meth c T [] 0 0 := by
  obtain ⟨g₀, hf⟩ := X.frames_eq
  have hcur := State.cur_lt_of_frames hf
  obtain ⟨th, hth, -⟩ := State.frames_cons hf
  have hfr : (T.setFrames (.invoking m args :: below)).frames = .invoking m args :: below := State.frames_setFrames _ hcur
  have hm : (T.setFrames (.invoking m args :: below)).vm.method? m = some meth := X.method'
  refine ⟨X.admits, X.cas, X.clock, hfr, ?_, ?_, hm, X.code, X.here, X.tail, State.WarmedH.refl (T.setFrames (.invoking m args :: below)), (State.stackLimits_setFrames _ _ _).symm, (State.stackBytes_setFrames _ _).symm, ?_⟩
  · have hr := X.room
    have hb := X.book
    have h1 := X.heapSize
    have h2 := X.used
    simp only [State.hasRoom, Bool.and_eq_true, decide_eq_true_eq, State.localsInUse_invoking X.frames X.method X.code, X.frames] at hr
    simp only [State.hasRoom, Bool.and_eq_true, decide_eq_true_eq, State.localsInUse_invoking hfr hm X.code, hfr, State.stackLimits_setFrames, State.stackBytes_setFrames, X.limits, X.bytes]
    obtain ⟨⟨⟨⟨r1, r2⟩, r3⟩, r4⟩, r5⟩ := hr
    exact ⟨⟨⟨⟨r1, r2⟩, by show T.heap.size + _ ≤ _; omega⟩, by show T.slotsUsed + _ ≤ _; omega⟩, hb⟩
  · have hh := X.hears
    have ea : ∀ mm : MethodId, T.vm.method? mm = s.vm.method? mm := fun mm => X.warmed.alike.method? mm
    rcases below with _ | ⟨y, r⟩
    · simpa [State.hears, State.setFrames, ea] using hh
    · cases y <;> simpa [State.hears, State.setFrames, State.code?_eq, ea] using hh
  · have h1 := (State.sameButNew.refl (T.setFrames (.invoking m args :: below)) (x := { th with frames := .invoking m args :: below }) (by simp [State.setFrames, Array.getElem?_modify, hth])).setFrames T.frames (by simpa [State.setFrames] using hcur)
    rw [State.setFrames_setFrames, State.setFrames_self hth] at h1
    exact h1
/-- what came behind such a beginning, told from the first one -/
theorem same_again (X : Stand p l e R s m args below meth c T locs cells slots) {U : State} {k n : Nat} {fs : List Frame} (h : (T.setFrames fs).sameButNew ({ U with vm := (T.setFrames fs).vm } : State) [] k n) :
    s.sameButNew ({ U with vm := s.vm } : State) locs (cells + k) (slots + n) := by
  obtain ⟨e2, q2, q3, q4, q5, q6⟩ := h
  have h1 : T.sameButNew (U.setVm T.vm) [] k n := by
    refine ⟨?_, q2, q3, q4, q5, q6⟩
    refine Eq.trans e2 ?_
    rw [State.setFrames_setFrames]
    rfl
  have h2 := X.same.trans (h1.setVm s.vm)
  rw [List.append_nil] at h2
  exact h2
end RB
