/-! Worlds that grow: what a constructor's walk stands on. -/
theorem person_thr_same {x y : Int32} {μ μ' : Mem} (h : f_x_person_thr x y μ = some μ') : μ' = μ := by
  unfold f_x_person_thr f_x_person_thr_b20 at h
  obtain ⟨v, μ1, h1, h⟩ := bd2_eq h
  cases has_same h1
  repeat' split at h
  all_goals first | (cases h <;> rfl) | (obtain ⟨_, _, _, h⟩ := bd2_eq h; cases h; done) | (unfold chk at h; split at h <;> cases h)
theorem rates_thr_same {x y : Int32} {μ μ' : Mem} (h : f_x_rates_thr x y μ = some μ') : μ' = μ := by
  unfold f_x_rates_thr f_x_rates_thr_b18 at h
  obtain ⟨v, μ1, h1, h⟩ := bd2_eq h
  cases isShop_same h1
  split at h
  · cases h; rfl
  obtain ⟨v2, μ2, h2, h⟩ := bd2_eq h
  cases has_same h2
  split at h
  · cases h; rfl
  obtain ⟨μ3, h3, h⟩ := bd1_eq h
  obtain ⟨_, _, _, h⟩ := bd2_eq h
  obtain ⟨_, _, _, h⟩ := bd2_eq h
  cases h
theorem row_thr_same {x : Int32} {μ μ' : Mem} (h : f_x_row_thr x μ = some μ') : μ' = μ := by
  unfold f_x_row_thr f_x_row_thr_b15 at h
  repeat' split at h
  all_goals first | (cases h <;> rfl) | (unfold chk at h; split at h <;> cases h)
/-- words that no table of good words holds: arrays over arrays and objects, a nest mate's constructor -/
def isE : Cond → Bool
  | .arrayOver (.object _) => true
  | .arrayOver (.array _) => true
  | .methodLinkNest _ _ _ _ => true
  | _ => false
def tbE : List Cond := lw_tbl.filter isE
theorem mE {w : Cond} (h : w ∈ lw_tbl) (hg : isE w = true) : w ∈ tbE := List.mem_filter.mpr ⟨h, hg⟩
theorem aoB {ty : FieldType} {u : State} (h : va_AOA ty u) : ∃ (comp c : ClassId) (k : Class), u.vm.findClass (FieldType.array ty).toString = some comp ∧ (u.vm.classes.findIdx? fun (x : Class) => match x.kind with | .array component _ => component == comp | _ => false) = some c ∧ u.vm.classes[c]? = some k ∧ k.kind = .array comp (.array ty) ∧ u.vm.findClass ("[" ++ (FieldType.array ty).toString) = some c := by
  simp only [va_AOA, Cond.before, Cond.holds, Cond.value, beq_iff_eq] at h
  cases hc : u.vm.findClass (FieldType.array ty).toString with
  | none => simp [hc] at h
  | some comp =>
    simp only [hc, Option.bind_some, Option.bind_eq_some_iff, Option.map_eq_some_iff] at h
    obtain ⟨c, hi, k, hk, hb⟩ := h
    obtain ⟨hlt, hp, -⟩ := Array.findIdx?_eq_some_iff_getElem.mp hi
    have hkk : u.vm.classes[c] = k := (Array.getElem?_eq_some_iff.mp hk).2
    rw [hkk] at hp
    cases hkind : k.kind with
    | array component ty =>
      rw [hkind] at hb hp
      simp at hb hp
      exact ⟨comp, c, k, rfl, hi, hk, by rw [hkind, hp, hb.1], hb.2⟩
    | _ => rw [hkind] at hb; simp at hb
theorem va_AOA.moved {ty : FieldType} {u U : State} (hvm : u.vm.Alike U.vm) (h : va_AOA ty u) : va_AOA ty U := by
  obtain ⟨comp, c, k, h1, h2, h3, h4, h5⟩ := aoB h
  obtain ⟨k', hk', he⟩ := hvm.2.2 _ _ h3
  have hi : (U.vm.classes.findIdx? fun (x : Class) => match x.kind with | .array component _ => component == comp | _ => false) = some c := by
    have e := va_idx_bare U.vm comp
    have e2 := va_idx_bare u.vm comp
    first | rw [hvm.bare_eq] at e | rw [← hvm.bare_eq] at e
    exact e.symm.trans (e2.trans h2)
  have hkind : k'.kind = .array comp (.array ty) := by rw [he]; exact h4
  have f1 : U.vm.findClass (FieldType.array ty).toString = some comp := by rw [hvm.findClass]; exact h1
  have f2 : U.vm.findClass ("[" ++ (FieldType.array ty).toString) = some c := by rw [hvm.findClass]; exact h5
  unfold va_AOA Cond.before Cond.holds
  simp only [Cond.value, f1, Option.bind_some, beq_iff_eq]
  rw [Option.bind_eq_some_iff]
  refine ⟨c, hi, ?_⟩
  simp [hk', hkind, f2]
def EB (U : State) : Prop := ∀ w ∈ tbE, va_Nw w U
theorem EB.warm {s U : State} (hW : s.WarmedH U.vm) (h : EB s) : EB U := fun w hw => by
  have h1 := h w hw
  have h2 := (List.mem_filter.mp hw).2
  cases w with
  | methodLinkNest a i x y => exact va_Nw.warmM hW h1
  | arrayOver t =>
    cases t with
    | object C => exact va_AO.moved hW.alike h1
    | array t => exact va_AOA.moved hW.alike h1
    | _ => exact absurd h2 Bool.false_ne_true
  | _ => exact absurd h2 Bool.false_ne_true
theorem EB.same {s U : State} (hv : U.vm = s.vm) (h : EB s) : EB U := fun w hw => by
  have h1 := h w hw
  have h2 := (List.mem_filter.mp hw).2
  cases w with
  | methodLinkNest a i x y => exact va_Nw.same rfl hv.symm h1
  | arrayOver t =>
    cases t with
    | object C => exact va_AO.moved (by rw [hv]; exact Vm.Alike.refl _) h1
    | array t => exact va_AOA.moved (by rw [hv]; exact Vm.Alike.refl _) h1
    | _ => exact absurd h2 Bool.false_ne_true
  | _ => exact absurd h2 Bool.false_ne_true
/-- new addresses: of single cells, of rows of arrays -/
abbrev Nw : Type := (Nat → Nat) × (Nat → Nat → Nat)
def BW (X : Cx) (pc : Nat) (ls : List (Nat × Value)) (st : List Value) (ws : va_W) (c z : Nat) : Prop :=
  ∀ (H : Heap) (locs : List Loc) (la : Array Slot), va_P (gD (xG X)) cls ws H → va_D (xA X) ws → va_S (xA X) (xs X).heap H locs → lv_has la (xk X).maxLocals ls →
    W (xp X) (xl X) (xe X) (xR X) (xs X) (xm X) (xa X) (xb X) (xh X) (xk X) H locs c z (xQ X) (F0 (xm X) pc la st)
def BOk (M : MD) (d : Nat) (X : Cx) : Prop :=
  (xp X).tables.exec = Jvm.exec ∧ (xk X).code = M.2.1 ∧ (xk X).maxLocals = M.2.2.1 ∧ (xs X).vm.findClass M.2.2.2.2 = some (xm X).cls ∧ (∀ w ∈ tbG, w.before (xa X) (xs X) = true) ∧ va_K (gD (xG X)) cls (tysOf (xG X)) (xs X) ∧
    (d ≤ (xR X).frames ∧ 40 * d ≤ (xR X).locals) ∧ (∀ q, (xs X).heap.size ≤ q → xA X q) ∧ EB (xs X) ∧ (xh X).name = M.1.name
def PcB (G : Gx) (av : List Value) (w0 : va_W) (sz : Nat) : Array Value → State → Prop :=
  va_Pc av (fun U => U.heap.size = sz ∧ va_P (gD G) cls w0 U.heap ∧ va_K (gD G) cls (tysOf G) U ∧ va_D (fun _ => True) w0 ∧ EB U)
abbrev QcB (G : Gx) (w0 : va_W) (sz : Nat) (w1 : Nw → va_W) : Array Value → State → Outcome → State → Prop :=
  va_Qv (fun _ : Nw => True) (fun q t => va_P (gD G) cls (w1 q) t.heap ∧ va_D (va_A w0 sz) (w1 q)) (va_A w0 sz)
abbrev bRm (d mc ms : Nat) : Room := { frames := d, cells := mc, slots := ms, locals := 40 * d }
/-- a constructor: from the cells w0 to the cells w1 q, with mc cells of ms slots that are new -/
def ConB (G : Gx) (M : MD) (d : Nat) (av : List Value) (w0 : va_W) (w1 : Nw → va_W) (mc ms : Nat) : Prop :=
  ∀ (l : Launch) (sz : Nat), Met l M.1 (mdWs M) (bRm d mc ms) (PcB G av w0 sz) (QcB G w0 sz w1) mc ms (va_A w0 sz)
def RetB (M : MD) (X : Cx) (w1 : Nw → va_W) (mc ms : Nat) : Prop := ∀ (pc : Nat) (ls : List (Nat × Value)) (q : Nw), decode M.2.1 pc = .ok (.return_, 1) → BW X pc ls [] (w1 q) mc ms
theorem pcB_blind {G : Gx} {av : List Value} {w0 : va_W} {sz : Nat} : FrameBlind (PcB G av w0 sz) := fun a U g mk q => by
  obtain ⟨q0, q1, qP, qK, qD, qE⟩ := q
  exact ⟨q0, q1, qP, va_K.moved (u := U) (U := U.calling g mk a) (Vm.Alike.refl U.vm) qK, qD, EB.same (s := U) (U := U.calling g mk a) rfl qE⟩
theorem ConB.of {G : Gx} {M : MD} {d : Nat} {av : List Value} {w0 : va_W} {w1 : Nw → va_W} {mc ms : Nat} (hM : MOk M av) (hr : M.2.2.2.1 = none)
    (hb : ∀ (X : Cx), xG X = G → BOk M d X → (xR X).cells = mc → (xR X).slots = ms → RetB M X w1 mc ms → BW X 0 (lv_args 0 av) [] w0 0 0) : ConB G M d av w0 w1 mc ms := by
  intro l sz
  refine Met.ofW (cc := M.2.1) (maxL := M.2.2.1) (ret := M.2.2.2.1) hM.1 rfl ?_
  intro p e s m args below meth c s₁ B hml hv
  obtain ⟨rfl, hsz, hP, hK, hD0, hE⟩ := hv
  have hts := atoms_spec (ws := mdWs M) B.pre
  have hown : s.vm.findClass M.2.2.2.2 = some m.cls := by rw [hM.2.1]; exact findClass_of_methodNamed B.named
  have hlocks := B.notSynchronized
  have hrt := B.returns
  subst hsz
  have hD := hD0.self (sz := s.heap.size)
  have key := hb (p, l, e, (headSpec (mdWs M) (bRm d mc ms)).room, s, m, av.toArray, below, meth, c, va_A w0 s.heap.size, MQ below (QcB G w0 s.heap.size w1) av.toArray s mc ms (va_A w0 s.heap.size), G, 0, 0) rfl
    ⟨B.exec, B.bytes, hml, hown, fun w hw => hts w (List.mem_cons_of_mem _ hw), hK, ⟨Nat.le_refl _, Nat.le_refl _⟩, fun q h => Or.inr h, hE, (name_of_methodNamed B.named B.method).1⟩ rfl rfl (fun pc ls q hd H locs la hP hD hS h => by
      exact W.vret (e := e) B.exec B.bytes (hrt.trans hr) (fun t ht hW => ⟨⟨q, rfl, trivial, by rw [ht]; exact hP, hD⟩, hS.F ht⟩) hS.2.2 hd hlocks)
  have hl := lv_entry av (n := M.2.2.1) hM.2.2
  rw [lg_entry_eq]
  exact key s.heap [] _ hP hD va_S.rf (by
    show lv_has _ c.maxLocals _
    rw [hml]
    exact hl)
theorem K_eq {D : va_G} {cl : List vw_C} {tys : List (ClassId × FieldType)} {U : State} {ty : FieldType} {c0 cA : ClassId} (t0 : Nat) (hK : va_K D cl tys U) (h0 : tys[t0]? = some (c0, ty)) (h1 : va_K D cl (tys ++ [(cA, ty)]) U) : cA = c0 := by
  have a := (hK.2 t0 _ h0).2
  have b := (h1.2 tys.length (cA, ty) (by simp)).2
  have f : ∀ {c : ClassId}, va_RA U c ty → U.vm.findClass ("[" ++ ty.toString) = some c := fun {c} h => by
    cases ty with
    | object C => obtain ⟨_, _, _, _, _, h⟩ := h; exact h
    | _ => exact h
  exact Option.some.inj ((f b).symm.trans (f a))
theorem va_nd_of : ∀ {l : List Nat}, l.Nodup → va_nd l = true
  | [], _ => rfl
  | a :: l, h => by
    rw [List.nodup_cons] at h
    simp only [va_nd, Bool.and_eq_true, decide_eq_true_eq]
    exact ⟨h.1, va_nd_of h.2⟩
theorem join1 {A0 : Nat → Prop} {D : va_G} {cl : List vw_C} {wr w1 : va_W} {x : Nat × va_E} {H H1 : Heap} (hP : va_P D cl (wr ++ [x]) H) (hD : va_D A0 (wr ++ [x]))
    (hk : ∀ q : Nat, q < H.size → ¬ va_A [x] H.size q → H1[q]? = H[q]?) (hF : ∀ q, va_A [x] H.size q → A0 q) (hP1 : va_P D cl w1 H1) (hD1 : va_D (va_A [x] H.size) w1) : va_P D cl (wr ++ w1) H1 ∧ va_D A0 (wr ++ w1) := by
  refine va_join hP hD [wr.length] (List.range wr.length) (by simp) ?_ (va_nd_of List.nodup_range) (fun i hi => ?_) hk hF hP1 hD1
  · apply List.ext_getElem?
    intro i
    rw [List.getElem?_map, List.getElem?_map]
    by_cases h : i < wr.length
    · rw [List.getElem?_range h, Option.map_some, List.getElem?_append_left h]
      rw [List.getElem?_eq_getElem h]
      rfl
    · rw [List.getElem?_eq_none (by simpa using h), List.getElem?_eq_none (by omega)]
      rfl
  · have := List.mem_range.mp hi
    simp
    omega
