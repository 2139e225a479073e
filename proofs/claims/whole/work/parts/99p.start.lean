/-! The law's entry: class numbers, array classes, texts. -/
theorem kIn_X11 : Cond.instantiable RX11 15 ∈ tbG := mG (tt1 (List.mem_of_getElem? (i := 28) rfl)) rfl
theorem kIn_X12 : Cond.instantiable RX12 39 ∈ tbG := mG (tt6 (List.mem_of_getElem? (i := 107) rfl)) rfl
theorem st_cls {a : Array Value} {s : State} (hts : ∀ w ∈ tbG, w.before a s = true) : ∃ D : va_G, ∀ (c : Nat) (q : vw_C), cls[c]? = some q → u_Kn s q.1 q.2.1 q.2.2 (D.1 c) (D.2 c) := by
  have h : ∀ c : Nat, ∃ (cC : ClassId) (iS : Nat → Nat), ∀ q, cls[c]? = some q → u_Kn s q.1 q.2.1 q.2.2 cC iS := fun c => by
    match c with
    | 0 => obtain ⟨x, y, z⟩ := u_known hts inX0 (hts _ kIn_X0); exact ⟨x, y, fun q hq => by cases hq; exact z⟩
    | 1 => obtain ⟨x, y, z⟩ := u_known hts inX1 (hts _ kIn_X1); exact ⟨x, y, fun q hq => by cases hq; exact z⟩
    | 2 => obtain ⟨x, y, z⟩ := u_known hts inX2 (hts _ kIn_X2); exact ⟨x, y, fun q hq => by cases hq; exact z⟩
    | 3 => obtain ⟨x, y, z⟩ := u_known hts inX3 (hts _ kIn_X3); exact ⟨x, y, fun q hq => by cases hq; exact z⟩
    | 4 => obtain ⟨x, y, z⟩ := u_known hts inX4 (hts _ kIn_X4); exact ⟨x, y, fun q hq => by cases hq; exact z⟩
    | 5 => obtain ⟨x, y, z⟩ := u_known hts inX5 (hts _ kIn_X5); exact ⟨x, y, fun q hq => by cases hq; exact z⟩
    | 6 => obtain ⟨x, y, z⟩ := u_known hts inX6 (hts _ kIn_X6); exact ⟨x, y, fun q hq => by cases hq; exact z⟩
    | 7 => obtain ⟨x, y, z⟩ := u_known hts inX7 (hts _ kIn_X7); exact ⟨x, y, fun q hq => by cases hq; exact z⟩
    | 8 => obtain ⟨x, y, z⟩ := u_known hts inX8 (hts _ kIn_X8); exact ⟨x, y, fun q hq => by cases hq; exact z⟩
    | 9 => obtain ⟨x, y, z⟩ := u_known hts inX9 (hts _ kIn_X9); exact ⟨x, y, fun q hq => by cases hq; exact z⟩
    | 10 => obtain ⟨x, y, z⟩ := u_known hts inX10 (hts _ kIn_X10); exact ⟨x, y, fun q hq => by cases hq; exact z⟩
    | 11 => obtain ⟨x, y, z⟩ := u_known hts inX11 (hts _ kIn_X11); exact ⟨x, y, fun q hq => by cases hq; exact z⟩
    | 12 => obtain ⟨x, y, z⟩ := u_known hts inX12 (hts _ kIn_X12); exact ⟨x, y, fun q hq => by cases hq; exact z⟩
    | c + 13 => exact ⟨0, fun _ => 0, fun q hq => by simp at hq⟩
  exact ⟨(fun c => (h c).choose, fun c => (h c).choose_spec.choose), fun c q hq => (h c).choose_spec.choose_spec q hq⟩
theorem st_ap {a : Array Value} {s : State} {ty : FieldType} (h : (Cond.arrayClass ty).before a s = true) : ∃ c : ClassId, ArrOfT s c ty ∧ s.vm.findClass ("[" ++ ty.toString) = some c := by
  obtain ⟨c, k, comp, h1, h2, h3⟩ := Cond.arrayClass_spec h
  exact ⟨c, fun n z => ⟨fun k h => (by cases h), k, h2, comp, h3⟩, h1⟩
theorem st_ao {s : State} {C : String} (h : va_Nw (.arrayOver (.object C)) s) : ∃ c : ClassId, ArrOfT s c (.object C) ∧ va_RA s c (.object C) := by
  obtain ⟨comp, c, k, h1, hi, h2, h3, h4⟩ := Cond.arrayOver_spec h
  exact ⟨c, fun n z => ⟨fun k h => (by cases h), k, h2, comp, h3⟩, k, comp, h2, h3, h1, h4⟩
theorem st_aa {s : State} {ty : FieldType} (h : va_Nw (.arrayOver (.array ty)) s) : ∃ c : ClassId, ArrOfT s c (.array ty) ∧ va_RA s c (.array ty) := by
  obtain ⟨comp, c, k, h1, hi, h2, h3, h4⟩ := aoB h
  exact ⟨c, fun n z => ⟨fun k h => (by cases h), k, h2, comp, h3⟩, h4⟩
theorem st_K {a : Array Value} {s : State} (hts : ∀ w ∈ tbG, w.before a s = true) (hE : EB s) : ∃ (D : va_G) (C : Nat → ClassId), ∀ (A K V : Nat → Nat), va_K (gD (D.1, D.2, A, C, K, V)) cls (tysOf (D.1, D.2, A, C, K, V)) s := by
  obtain ⟨D, hD⟩ := st_cls hts
  obtain ⟨c0, p0, q0⟩ := st_ap (hts _ kA_int)
  obtain ⟨c1, p1, q1⟩ := st_ap (hts _ kA_byte)
  obtain ⟨c2, p2, q2⟩ := st_ap (hts _ kA_boolean)
  obtain ⟨c3, p3, q3⟩ := st_ap (hts _ kA_long)
  obtain ⟨c4, p4, q4⟩ := st_ao (hE _ kAO_Rule)
  obtain ⟨c5, p5, q5⟩ := st_ao (hE _ kAO_Street)
  obtain ⟨c6, p6, q6⟩ := st_aa (hE _ kAO_int)
  obtain ⟨c7, p7, q7⟩ := st_aa (hE _ kAO_byte)
  refine ⟨D, fun k => [c0, c1, c2, c3, c4, c5, c6, c7].getD k 0, fun A K V => ⟨hD, fun k q hq => ?_⟩⟩
  match k, hq with
  | 0, hq => cases hq; exact ⟨p0, q0⟩
  | 1, hq => cases hq; exact ⟨p1, q1⟩
  | 2, hq => cases hq; exact ⟨p2, q2⟩
  | 3, hq => cases hq; exact ⟨p3, q3⟩
  | 4, hq => cases hq; exact ⟨p4, q4⟩
  | 5, hq => cases hq; exact ⟨p5, q5⟩
  | 6, hq => cases hq; exact ⟨p6, q6⟩
  | 7, hq => cases hq; exact ⟨p7, q7⟩
  | k + 8, hq => simp [tysOf] at hq
theorem st_EB {a : Array Value} {s : State} (hts : ∀ w ∈ lw_tbl, w.before a s = true) : EB s := fun w hw => by
  have h1 := hts w (List.mem_filter.mp hw).1
  have h2 := (List.mem_filter.mp hw).2
  cases w with
  | methodLinkNest a i x y => exact va_Nw.of rfl h1
  | arrayOver t =>
    cases t with
    | object C => exact h1
    | array t => exact h1
    | _ => exact absurd h2 Bool.false_ne_true
  | _ => exact absurd h2 Bool.false_ne_true
def stTm (i : Nat) : Term := .string "MoreThanHalf$RuleReader" (sIx.getD i 0)
def stFl : List Cond := flatC (Jvm.Cond.and given_1 narrow_1)
theorem st_0 : (∀ i, i < 8 → (Cond.exactly (stTm i) "java/lang/String") ∈ stFl) ∧ (∀ i, i < 8 → (Cond.eq (.field (stTm i) "java/lang/String" "coder" "B") (.int 0)) ∈ stFl) ∧ (∀ i, i < 8 → (Cond.arrayOf (.field (stTm i) "java/lang/String" "value" "[B") .byte) ∈ stFl) ∧
    (∀ i, i < 8 → (Cond.eq (.length (.field (stTm i) "java/lang/String" "value" "[B")) (.int (Int32.ofNat (sLn.getD i 0)))) ∈ stFl) := by decide +kernel
theorem st_1 : ∀ i, i < 8 → ∀ j, j < sLn.getD i 0 → (Cond.eq (.elem (.field (stTm i) "java/lang/String" "value" "[B") (.int (Int32.ofNat j))) (.int ((sBy.getD i []).getD j 0))) ∈ stFl := by decide +kernel
theorem st_2 : ∀ i, i < 8 → ∀ j, j < 8 → i ≠ j → (Cond.not (Cond.eq (stTm i) (stTm j))) ∈ stFl ∨ (Cond.not (Cond.eq (stTm j) (stTm i))) ∈ stFl := by decide +kernel
theorem st_3 : ∀ i, i < 8 → (Cond.stringRef "MoreThanHalf$RuleReader" (sIx.getD i 0) (sTx.getD i "")) ∈ lw_tbl := by decide +kernel
theorem st_EX {a : Array Value} {s : State} (hts : ∀ w ∈ lw_tbl, w.before a s = true) (hg : (Jvm.Cond.and given_1 narrow_1).before a s = true) : ∃ K V : Nat → Nat, ∀ (D : va_G) (A' : Nat → Nat) (C : Nat → ClassId), EX (D.1, D.2, A', C, K, V) (fun q => s.heap.size ≤ q) s s.heap := by
  have hs := flat_of_before _ hg
  have hA : ∀ a : Nat, a < s.heap.size → ¬ (fun q : Nat => s.heap.size ≤ q) a := fun a h => Nat.not_le.mpr h
  obtain ⟨K, V, h1, h2⟩ := vk_Sof (N := 8) (tm := stTm) (len := sLn) (byt := sBy) (A := fun q => s.heap.size ≤ q) (by decide) (fun i hi => hs _ (st_0.1 i hi)) (fun i hi => hs _ (st_0.2.1 i hi)) (fun i hi => hs _ (st_0.2.2.1 i hi)) (fun i hi => hs _ (st_0.2.2.2 i hi)) (fun i hi j hj => hs _ (st_1 i hi j hj)) (fun i j hi hj hn => (st_2 i hi j hj hn).imp (hs _) (hs _)) hA
  refine ⟨K, V, fun D A' C => ⟨h1, fun i hi => vk_R.of (hts _ (st_3 i hi)) (h2 i hi), va_Zof (hts _ (tt4 (List.mem_of_getElem? (i := 223) rfl))) (hts _ (tt1 (List.mem_of_getElem? (i := 21) rfl))) (va_eqi (hs _ (by decide +kernel))) hA, fun w hw => ?_⟩⟩
  have h1 := hts w (List.mem_filter.mp hw).1
  have h2 := (List.mem_filter.mp hw).2
  cases w <;> first | exact absurd h2 Bool.false_ne_true | exact va_Nw.of rfl h1
