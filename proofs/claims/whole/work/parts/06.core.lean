/-! The walk over the memory picture: a frame's context X, the judgement AW, contracts Con. -/
abbrev MD : Type := MethodName × ByteArray × Nat × Option FieldType × String
abbrev Cx : Type := Program × Launch × Env × Room × State × MethodId × Array Value × List Frame × Method × Code × (Nat → Prop) × (State → Prop) × Gx × Nat × Nat
abbrev xp (X : Cx) : Program := X.1
abbrev xl (X : Cx) : Launch := X.2.1
abbrev xe (X : Cx) : Env := X.2.2.1
abbrev xR (X : Cx) : Room := X.2.2.2.1
abbrev xs (X : Cx) : State := X.2.2.2.2.1
abbrev xm (X : Cx) : MethodId := X.2.2.2.2.2.1
abbrev xa (X : Cx) : Array Value := X.2.2.2.2.2.2.1
abbrev xb (X : Cx) : List Frame := X.2.2.2.2.2.2.2.1
abbrev xh (X : Cx) : Method := X.2.2.2.2.2.2.2.2.1
abbrev xk (X : Cx) : Code := X.2.2.2.2.2.2.2.2.2.1
abbrev xA (X : Cx) : Nat → Prop := X.2.2.2.2.2.2.2.2.2.2.1
abbrev xQ (X : Cx) : State → Prop := X.2.2.2.2.2.2.2.2.2.2.2.1
abbrev xG (X : Cx) : Gx := X.2.2.2.2.2.2.2.2.2.2.2.2.1
abbrev xc (X : Cx) : Nat := X.2.2.2.2.2.2.2.2.2.2.2.2.2.1
abbrev xz (X : Cx) : Nat := X.2.2.2.2.2.2.2.2.2.2.2.2.2.2
def LIMc : Nat := 601024
def LIMs : Nat := 7293034
def tbG : List Cond := lw_tbl.filter goodWord
def isFN : Cond → Bool
  | .fieldLinkNest _ _ _ _ _ _ => true
  | _ => false
def tbN : List Cond := lw_tbl.filter isFN
/-- the texts that the rules' reader holds its signs against -/
def sIx : List Nat := [69, 74, 88, 90, 82, 67, 62, 49]
def sTx : List String := ["-", "inpasod", "(", ")", "0123456789", "*/", "+-", "<>="]
def sLn : List Nat := [1, 7, 1, 1, 10, 2, 2, 3]
def sBy : List (List Int32) := [[45], [105, 110, 112, 97, 115, 111, 100], [40], [41], [48, 49, 50, 51, 52, 53, 54, 55, 56, 57], [42, 47], [43, 45], [60, 62, 61]]
/-- what lies outside the picture and is never written: the texts, a switch of String's, links among nest mates -/
def EX (G : Gx) (A : Nat → Prop) (U : State) (H : Heap) : Prop :=
  vk_S 8 sLn sBy (gK G) (gV G) A U H ∧ (∀ i, i < 8 → vk_R "MoreThanHalf$RuleReader" (sIx.getD i 0) (sTx.getD i "") (gK G i) U) ∧ va_Z "java/lang/String" "COMPACT_STRINGS" "Z" (.int 1) A U H ∧ ∀ w ∈ tbN, va_Nw w U
theorem EX.kept {G : Gx} {A : Nat → Prop} {U : State} {H H1 : Heap} (h : EX G A U H) (hq : ∀ a : Nat, a < H.size → ¬ A a → H1[a]? = H[a]?) : EX G A U H1 := ⟨h.1.kept hq, h.2.1, va_Z.kept h.2.2.1 hq, h.2.2.2⟩
theorem EX.narrow {G : Gx} {A B : Nat → Prop} {U : State} {H : Heap} (h : EX G A U H) (hAB : ∀ q, B q → A q) : EX G B U H := ⟨h.1.narrow hAB, h.2.1, va_Z.narrow h.2.2.1 hAB, h.2.2.2⟩
theorem EX.warm {G : Gx} {A : Nat → Prop} {s U : State} {H : Heap} (hW : s.WarmedH U.vm) (h : EX G A s H) : EX G A U H := by
  refine ⟨h.1.moved hW.alike, fun i hi => (h.2.1 i hi).warm hW, va_Z.moved hW.alike h.2.2.1, fun w hw => ?_⟩
  have h1 := h.2.2.2 w hw
  have h2 := (List.mem_filter.mp hw).2
  cases w <;> first | exact absurd h2 Bool.false_ne_true | exact va_Nw.warmF hW h1
theorem EX.same {G : Gx} {A : Nat → Prop} {s U : State} {H : Heap} (hv : U.vm = s.vm) (h : EX G A s H) : EX G A U H := by
  refine ⟨h.1.moved (by rw [hv]; exact Vm.Alike.refl _), fun i hi => (h.2.1 i hi).same hv, va_Z.moved (by rw [hv]; exact Vm.Alike.refl _) h.2.2.1, fun w hw => ?_⟩
  have h1 := h.2.2.2 w hw
  have h2 := (List.mem_filter.mp hw).2
  cases w <;> first | exact absurd h2 Bool.false_ne_true | exact va_Nw.same rfl hv.symm h1
/-- the counters lie between the frame's start and the claim's room -/
def bdd (X : Cx) (μ : Mem) : Prop := (xc X ≤ μ.2.2.1 ∧ μ.2.2.1 ≤ LIMc) ∧ xz X ≤ μ.2.2.2 ∧ μ.2.2.2 ≤ LIMs
def AW (X : Cx) (pc : Nat) (ls : List (Nat × Value)) (st : List Value) (μ : Mem) (dy : Nat → Nat) : Prop :=
  ∀ (H : Heap) (locs : List Loc) (la : Array Slot), va_P (gD (xG X)) cls (wsOf (xG X) μ dy) H → va_D (xA X) (wsOf (xG X) μ dy) → va_S (xA X) (xs X).heap H locs → bdd X μ → lv_has la (xk X).maxLocals ls →
    W (xp X) (xl X) (xe X) (xR X) (xs X) (xm X) (xa X) (xb X) (xh X) (xk X) H locs (μ.2.2.1 - xc X) (μ.2.2.2 - xz X) (xQ X) (F0 (xm X) pc la st)
def Ok (M : MD) (d : Nat) (X : Cx) : Prop :=
  (xp X).tables.exec = Jvm.exec ∧ (xk X).code = M.2.1 ∧ (xk X).maxLocals = M.2.2.1 ∧ (xs X).vm.findClass M.2.2.2.2 = some (xm X).cls ∧ (∀ w ∈ tbG, w.before (xa X) (xs X) = true) ∧ va_K (gD (xG X)) cls (tysOf (xG X)) (xs X) ∧
    (d ≤ (xR X).frames ∧ 40 * d ≤ (xR X).locals) ∧ ((xR X).cells + xc X = LIMc ∧ (xR X).slots + xz X = LIMs) ∧ (∀ q, (xs X).heap.size ≤ q → xA X q) ∧ EX (xG X) (xA X) (xs X) (xs X).heap
def stL (l : List (Nat × Value)) (i : Nat) (v : Value) : List (Nat × Value) := (i, v) :: l.filter (fun q => !(q.1 == i) && !(q.1 + 1 == i && q.2.category == 2))
def stL2 (l : List (Nat × Value)) (i : Nat) (v : Value) : List (Nat × Value) := (i, v) :: l.filter (fun q => !(q.1 == i) && (!(q.1 == i + 1) && !(q.1 + 1 == i && q.2.category == 2)))
section RWS
variable {M : MD} {d : Nat} {X : Cx} {pc : Nat} {ls ls' : List (Nat × Value)} {st : List Value} {μ : Mem} {dy : Nat → Nat}
theorem mG {w : Cond} (h : w ∈ lw_tbl) (hg : goodWord w = true) : w ∈ tbG := List.mem_filter.mpr ⟨h, hg⟩
theorem r_weak (ks : List Nat) (hl : lv_pick ls ks = ls') (k : AW X pc ls' st μ dy) : AW X pc ls st μ dy := fun H locs la hP hD hS hB h => k H locs la hP hD hS hB (lv_sub h ks hl)
theorem r_iconst (hX : Ok M d X) {n : Int} (v : Int32) (hd : decode M.2.1 pc = .ok (.iconst n, 1)) (hv : Int32.ofInt n = v) (k : AW X (pc + 1) ls (.int v :: st) μ dy) : AW X pc ls st μ dy :=
  fun H locs la hP hD hS hB h => lv_iconst hX.1 hX.2.1 hd hv (k H locs la hP hD hS hB h)
theorem r_bipush (hX : Ok M d X) {n : Int} (v : Int32) (hd : decode M.2.1 pc = .ok (.bipush n, 2)) (hv : (Int8.ofInt n).toInt32 = v) (k : AW X (pc + 2) ls (.int v :: st) μ dy) : AW X pc ls st μ dy :=
  fun H locs la hP hD hS hB h => lv_bipush hX.1 hX.2.1 hd hv (k H locs la hP hD hS hB h)
theorem r_sipush (hX : Ok M d X) {n : Int} (v : Int32) (hd : decode M.2.1 pc = .ok (.sipush n, 3)) (hv : (Int16.ofInt n).toInt32 = v) (k : AW X (pc + 3) ls (.int v :: st) μ dy) : AW X pc ls st μ dy :=
  fun H locs la hP hD hS hB h => lv_sipush hX.1 hX.2.1 hd hv (k H locs la hP hD hS hB h)
theorem r_lconst (hX : Ok M d X) {n : Fin 2} (v : Int64) (hd : decode M.2.1 pc = .ok (.lconst n, 1)) (hv : Int64.ofNat (n : Nat) = v) (k : AW X (pc + 1) ls (.long v :: st) μ dy) : AW X pc ls st μ dy :=
  fun H locs la hP hD hS hB h => lv_lconst hX.1 hX.2.1 hd hv (k H locs la hP hD hS hB h)
theorem r_ldc (hX : Ok M d X) {i : Nat} {v : Int32} (hd : decode M.2.1 pc = .ok (.ldc i, 2)) (hw : Cond.constant M.2.2.2.2 i v ∈ tbG) (k : AW X (pc + 2) ls (.int v :: st) μ dy) : AW X pc ls st μ dy :=
  fun H locs la hP hD hS hB h => lv_ldc hX.1 hX.2.1 hX.2.2.2.1 (hX.2.2.2.2.1 _ hw) hd (k H locs la hP hD hS hB h)
theorem r_ldc2 (hX : Ok M d X) {i : Nat} {v : Int64} (hd : decode M.2.1 pc = .ok (.ldc2_w i, 3)) (hw : Cond.constantLong M.2.2.2.2 i v ∈ tbG) (k : AW X (pc + 3) ls (.long v :: st) μ dy) : AW X pc ls st μ dy :=
  fun H locs la hP hD hS hB h => lv_ldc2 hX.1 hX.2.1 hX.2.2.2.1 (hX.2.2.2.2.1 _ hw) hd (k H locs la hP hD hS hB h)
theorem r_iload (hX : Ok M d X) {i : Nat} {x : Int32} (hd : decode M.2.1 pc = .ok (.iload i, 2)) (j : Nat) (hk : ls[j]? = some (i, .int x)) (k : AW X (pc + 2) ls (.int x :: st) μ dy) : AW X pc ls st μ dy :=
  fun H locs la hP hD hS hB h => lv_iload hX.1 hX.2.1 hd (lv_at h j hk) (k H locs la hP hD hS hB h)
theorem r_iload_n (hX : Ok M d X) {i : Fin 4} {x : Int32} (hd : decode M.2.1 pc = .ok (.iload_n i, 1)) (j : Nat) (hk : ls[j]? = some ((i : Nat), .int x)) (k : AW X (pc + 1) ls (.int x :: st) μ dy) : AW X pc ls st μ dy :=
  fun H locs la hP hD hS hB h => lv_iload_n hX.1 hX.2.1 hd rfl (lv_at h j hk) (k H locs la hP hD hS hB h)
theorem r_lload (hX : Ok M d X) {i : Nat} {x : Int64} (hd : decode M.2.1 pc = .ok (.lload i, 2)) (j : Nat) (hk : ls[j]? = some (i, .long x)) (k : AW X (pc + 2) ls (.long x :: st) μ dy) : AW X pc ls st μ dy :=
  fun H locs la hP hD hS hB h => lv_lload hX.1 hX.2.1 hd (lv_at h j hk) (k H locs la hP hD hS hB h)
theorem r_lload_n (hX : Ok M d X) {i : Fin 4} {x : Int64} (hd : decode M.2.1 pc = .ok (.lload_n i, 1)) (j : Nat) (hk : ls[j]? = some ((i : Nat), .long x)) (k : AW X (pc + 1) ls (.long x :: st) μ dy) : AW X pc ls st μ dy :=
  fun H locs la hP hD hS hB h => lv_lload_n hX.1 hX.2.1 hd rfl (lv_at h j hk) (k H locs la hP hD hS hB h)
theorem r_aload (hX : Ok M d X) {i : Nat} {x : Nat} (hd : decode M.2.1 pc = .ok (.aload i, 2)) (j : Nat) (hk : ls[j]? = some (i, .ref x)) (k : AW X (pc + 2) ls (.ref x :: st) μ dy) : AW X pc ls st μ dy :=
  fun H locs la hP hD hS hB h => lv_aload hX.1 hX.2.1 hd (lv_at h j hk) (k H locs la hP hD hS hB h)
theorem r_aload_n (hX : Ok M d X) {i : Fin 4} {x : Nat} (hd : decode M.2.1 pc = .ok (.aload_n i, 1)) (j : Nat) (hk : ls[j]? = some ((i : Nat), .ref x)) (k : AW X (pc + 1) ls (.ref x :: st) μ dy) : AW X pc ls st μ dy :=
  fun H locs la hP hD hS hB h => lv_aload_n hX.1 hX.2.1 hd rfl (lv_at h j hk) (k H locs la hP hD hS hB h)
theorem r_istore (hX : Ok M d X) {i : Nat} {x : Int32} (hd : decode M.2.1 pc = .ok (.istore i, 2)) (hn : Nat.ble (i + 1) M.2.2.1 = true) (hl : stL ls i (.int x) = ls') (k : AW X (pc + 2) ls' st μ dy) : AW X pc ls (.int x :: st) μ dy :=
  fun H locs la hP hD hS hB h => lv_istore hX.1 hX.2.1 hd h (by rw [hX.2.2.1]; exact Nat.le_of_ble_eq_true hn) hl (fun la1 h1 => k H locs la1 hP hD hS hB h1)
theorem r_istore_n (hX : Ok M d X) {i : Fin 4} {x : Int32} (hd : decode M.2.1 pc = .ok (.istore_n i, 1)) (hn : Nat.ble ((i : Nat) + 1) M.2.2.1 = true) (hl : stL ls i (.int x) = ls') (k : AW X (pc + 1) ls' st μ dy) : AW X pc ls (.int x :: st) μ dy :=
  fun H locs la hP hD hS hB h => lv_istore_n hX.1 hX.2.1 hd rfl h (by rw [hX.2.2.1]; exact Nat.le_of_ble_eq_true hn) hl (fun la1 h1 => k H locs la1 hP hD hS hB h1)
theorem r_lstore (hX : Ok M d X) {i : Nat} {x : Int64} (hd : decode M.2.1 pc = .ok (.lstore i, 2)) (hn : Nat.ble (i + 2) M.2.2.1 = true) (hl : stL2 ls i (.long x) = ls') (k : AW X (pc + 2) ls' st μ dy) : AW X pc ls (.long x :: st) μ dy :=
  fun H locs la hP hD hS hB h => lv_lstore hX.1 hX.2.1 hd h (by rw [hX.2.2.1]; exact Nat.le_of_ble_eq_true hn) hl (fun la1 h1 => k H locs la1 hP hD hS hB h1)
theorem r_lstore_n (hX : Ok M d X) {i : Fin 4} {x : Int64} (hd : decode M.2.1 pc = .ok (.lstore_n i, 1)) (hn : Nat.ble ((i : Nat) + 2) M.2.2.1 = true) (hl : stL2 ls i (.long x) = ls') (k : AW X (pc + 1) ls' st μ dy) : AW X pc ls (.long x :: st) μ dy :=
  fun H locs la hP hD hS hB h => lv_lstore_n hX.1 hX.2.1 hd rfl h (by rw [hX.2.2.1]; exact Nat.le_of_ble_eq_true hn) hl (fun la1 h1 => k H locs la1 hP hD hS hB h1)
theorem r_astore (hX : Ok M d X) {i : Nat} {x : Nat} (hd : decode M.2.1 pc = .ok (.astore i, 2)) (hn : Nat.ble (i + 1) M.2.2.1 = true) (hl : stL ls i (.ref x) = ls') (k : AW X (pc + 2) ls' st μ dy) : AW X pc ls (.ref x :: st) μ dy :=
  fun H locs la hP hD hS hB h => lv_astore hX.1 hX.2.1 hd h (by rw [hX.2.2.1]; exact Nat.le_of_ble_eq_true hn) hl (fun la1 h1 => k H locs la1 hP hD hS hB h1)
theorem r_astore_n (hX : Ok M d X) {i : Fin 4} {x : Nat} (hd : decode M.2.1 pc = .ok (.astore_n i, 1)) (hn : Nat.ble ((i : Nat) + 1) M.2.2.1 = true) (hl : stL ls i (.ref x) = ls') (k : AW X (pc + 1) ls' st μ dy) : AW X pc ls (.ref x :: st) μ dy :=
  fun H locs la hP hD hS hB h => lv_astore_n hX.1 hX.2.1 hd rfl h (by rw [hX.2.2.1]; exact Nat.le_of_ble_eq_true hn) hl (fun la1 h1 => k H locs la1 hP hD hS hB h1)
theorem r_iinc (hX : Ok M d X) {i : Nat} {n : Int} {x : Int32} (v : Int32) (hd : decode M.2.1 pc = .ok (.iinc i n, 3)) (j : Nat) (hk : ls[j]? = some (i, .int x)) (hv : x + Int32.ofInt n = v) (hn : Nat.ble (i + 1) M.2.2.1 = true) (hl : stL ls i (.int v) = ls') (k : AW X (pc + 3) ls' st μ dy) : AW X pc ls st μ dy :=
  fun H locs la hP hD hS hB h => lv_iinc hX.1 hX.2.1 hd h hk hv (by rw [hX.2.2.1]; exact Nat.le_of_ble_eq_true hn) hl (fun la1 h1 => k H locs la1 hP hD hS hB h1)
theorem r_iincW (hX : Ok M d X) {i : Nat} {n : Int} {x : Int32} (v : Int32) (hd : decode M.2.1 pc = .ok (.iinc i n, 6)) (j : Nat) (hk : ls[j]? = some (i, .int x)) (hv : x + Int32.ofInt n = v) (hn : Nat.ble (i + 1) M.2.2.1 = true) (hl : stL ls i (.int v) = ls') (k : AW X (pc + 6) ls' st μ dy) : AW X pc ls st μ dy :=
  fun H locs la hP hD hS hB h => lv_iincW hX.1 hX.2.1 hd h hk hv (by rw [hX.2.2.1]; exact Nat.le_of_ble_eq_true hn) hl (fun la1 h1 => k H locs la1 hP hD hS hB h1)
theorem r_iadd (hX : Ok M d X) {x y : Int32} (hd : decode M.2.1 pc = .ok (.iadd, 1)) (k : AW X (pc + 1) ls (.int (x + y) :: st) μ dy) : AW X pc ls (.int y :: .int x :: st) μ dy :=
  fun H locs la hP hD hS hB h => lv_iadd hX.1 hX.2.1 hd (k H locs la hP hD hS hB h)
theorem r_isub (hX : Ok M d X) {x y : Int32} (hd : decode M.2.1 pc = .ok (.isub, 1)) (k : AW X (pc + 1) ls (.int (x - y) :: st) μ dy) : AW X pc ls (.int y :: .int x :: st) μ dy :=
  fun H locs la hP hD hS hB h => lv_isub hX.1 hX.2.1 hd (k H locs la hP hD hS hB h)
theorem r_imul (hX : Ok M d X) {x y : Int32} (hd : decode M.2.1 pc = .ok (.imul, 1)) (k : AW X (pc + 1) ls (.int (x * y) :: st) μ dy) : AW X pc ls (.int y :: .int x :: st) μ dy :=
  fun H locs la hP hD hS hB h => lv_imul hX.1 hX.2.1 hd (k H locs la hP hD hS hB h)
theorem r_iand (hX : Ok M d X) {x y : Int32} (hd : decode M.2.1 pc = .ok (.iand, 1)) (k : AW X (pc + 1) ls (.int (x &&& y) :: st) μ dy) : AW X pc ls (.int y :: .int x :: st) μ dy :=
  fun H locs la hP hD hS hB h => lv_iand hX.1 hX.2.1 hd (k H locs la hP hD hS hB h)
theorem r_ior (hX : Ok M d X) {x y : Int32} (hd : decode M.2.1 pc = .ok (.ior, 1)) (k : AW X (pc + 1) ls (.int (x ||| y) :: st) μ dy) : AW X pc ls (.int y :: .int x :: st) μ dy :=
  fun H locs la hP hD hS hB h => lv_ior hX.1 hX.2.1 hd (k H locs la hP hD hS hB h)
theorem r_ixor (hX : Ok M d X) {x y : Int32} (hd : decode M.2.1 pc = .ok (.ixor, 1)) (k : AW X (pc + 1) ls (.int (x ^^^ y) :: st) μ dy) : AW X pc ls (.int y :: .int x :: st) μ dy :=
  fun H locs la hP hD hS hB h => lv_ixor hX.1 hX.2.1 hd (k H locs la hP hD hS hB h)
theorem r_ishl (hX : Ok M d X) {x y : Int32} (hd : decode M.2.1 pc = .ok (.ishl, 1)) (k : AW X (pc + 1) ls (.int (x <<< (y &&& 31)) :: st) μ dy) : AW X pc ls (.int y :: .int x :: st) μ dy :=
  fun H locs la hP hD hS hB h => lv_ishl hX.1 hX.2.1 hd (k H locs la hP hD hS hB h)
theorem r_ishr (hX : Ok M d X) {x y : Int32} (hd : decode M.2.1 pc = .ok (.ishr, 1)) (k : AW X (pc + 1) ls (.int (x >>> (y &&& 31)) :: st) μ dy) : AW X pc ls (.int y :: .int x :: st) μ dy :=
  fun H locs la hP hD hS hB h => lv_ishr hX.1 hX.2.1 hd (k H locs la hP hD hS hB h)
theorem r_ladd (hX : Ok M d X) {x y : Int64} (hd : decode M.2.1 pc = .ok (.ladd, 1)) (k : AW X (pc + 1) ls (.long (x + y) :: st) μ dy) : AW X pc ls (.long y :: .long x :: st) μ dy :=
  fun H locs la hP hD hS hB h => lv_ladd hX.1 hX.2.1 hd (k H locs la hP hD hS hB h)
theorem r_lsub (hX : Ok M d X) {x y : Int64} (hd : decode M.2.1 pc = .ok (.lsub, 1)) (k : AW X (pc + 1) ls (.long (x - y) :: st) μ dy) : AW X pc ls (.long y :: .long x :: st) μ dy :=
  fun H locs la hP hD hS hB h => lv_lsub hX.1 hX.2.1 hd (k H locs la hP hD hS hB h)
theorem r_lmul (hX : Ok M d X) {x y : Int64} (hd : decode M.2.1 pc = .ok (.lmul, 1)) (k : AW X (pc + 1) ls (.long (x * y) :: st) μ dy) : AW X pc ls (.long y :: .long x :: st) μ dy :=
  fun H locs la hP hD hS hB h => lv_lmul hX.1 hX.2.1 hd (k H locs la hP hD hS hB h)
theorem r_land (hX : Ok M d X) {x y : Int64} (hd : decode M.2.1 pc = .ok (.land, 1)) (k : AW X (pc + 1) ls (.long (x &&& y) :: st) μ dy) : AW X pc ls (.long y :: .long x :: st) μ dy :=
  fun H locs la hP hD hS hB h => lv_land hX.1 hX.2.1 hd (k H locs la hP hD hS hB h)
theorem r_lor (hX : Ok M d X) {x y : Int64} (hd : decode M.2.1 pc = .ok (.lor, 1)) (k : AW X (pc + 1) ls (.long (x ||| y) :: st) μ dy) : AW X pc ls (.long y :: .long x :: st) μ dy :=
  fun H locs la hP hD hS hB h => lv_lor hX.1 hX.2.1 hd (k H locs la hP hD hS hB h)
theorem r_lxor (hX : Ok M d X) {x y : Int64} (hd : decode M.2.1 pc = .ok (.lxor, 1)) (k : AW X (pc + 1) ls (.long (x ^^^ y) :: st) μ dy) : AW X pc ls (.long y :: .long x :: st) μ dy :=
  fun H locs la hP hD hS hB h => lv_lxor hX.1 hX.2.1 hd (k H locs la hP hD hS hB h)
theorem r_idiv (hX : Ok M d X) {x y : Int32} (hd : decode M.2.1 pc = .ok (.idiv, 1)) (hne : ¬ y = 0) (k : AW X (pc + 1) ls (.int (x / y) :: st) μ dy) : AW X pc ls (.int y :: .int x :: st) μ dy :=
  fun H locs la hP hD hS hB h => lv_idiv hX.1 hX.2.1 hd hne (k H locs la hP hD hS hB h)
theorem r_irem (hX : Ok M d X) {x y : Int32} (hd : decode M.2.1 pc = .ok (.irem, 1)) (hne : ¬ y = 0) (k : AW X (pc + 1) ls (.int (x - x / y * y) :: st) μ dy) : AW X pc ls (.int y :: .int x :: st) μ dy :=
  fun H locs la hP hD hS hB h => lv_irem hX.1 hX.2.1 hd hne (k H locs la hP hD hS hB h)
theorem r_iushr (hX : Ok M d X) {x y : Int32} (hd : decode M.2.1 pc = .ok (.iushr, 1)) (k : AW X (pc + 1) ls (.int ((x.toUInt32 >>> (y.toUInt32 &&& Int32.toUInt32 31)).toInt32) :: st) μ dy) : AW X pc ls (.int y :: .int x :: st) μ dy :=
  fun H locs la hP hD hS hB h => lv_iushr hX.1 hX.2.1 hd rfl (k H locs la hP hD hS hB h)
theorem r_lushr (hX : Ok M d X) {x : Int64} {y : Int32} (hd : decode M.2.1 pc = .ok (.lushr, 1)) (k : AW X (pc + 1) ls (.long ((x.toUInt64 >>> (y.toInt64.toUInt64 &&& Int64.toUInt64 63)).toInt64) :: st) μ dy) : AW X pc ls (.int y :: .long x :: st) μ dy :=
  fun H locs la hP hD hS hB h => lv_lushr hX.1 hX.2.1 hd rfl (k H locs la hP hD hS hB h)
theorem r_lshl (hX : Ok M d X) {x : Int64} {y : Int32} (hd : decode M.2.1 pc = .ok (.lshl, 1)) (k : AW X (pc + 1) ls (.long (x <<< (y.toInt64 &&& 63)) :: st) μ dy) : AW X pc ls (.int y :: .long x :: st) μ dy :=
  fun H locs la hP hD hS hB h => lv_lshl hX.1 hX.2.1 hd rfl (k H locs la hP hD hS hB h)
theorem r_i2l (hX : Ok M d X) {x : Int32} (hd : decode M.2.1 pc = .ok (.i2l, 1)) (k : AW X (pc + 1) ls (.long (x.toInt64) :: st) μ dy) : AW X pc ls (.int x :: st) μ dy :=
  fun H locs la hP hD hS hB h => lv_i2l hX.1 hX.2.1 hd rfl (k H locs la hP hD hS hB h)
theorem r_l2i (hX : Ok M d X) {x : Int64} (hd : decode M.2.1 pc = .ok (.l2i, 1)) (k : AW X (pc + 1) ls (.int (x.toInt32) :: st) μ dy) : AW X pc ls (.long x :: st) μ dy :=
  fun H locs la hP hD hS hB h => lv_l2i hX.1 hX.2.1 hd rfl (k H locs la hP hD hS hB h)
theorem r_i2b (hX : Ok M d X) {x : Int32} (hd : decode M.2.1 pc = .ok (.i2b, 1)) (k : AW X (pc + 1) ls (.int (x.toInt8.toInt32) :: st) μ dy) : AW X pc ls (.int x :: st) μ dy :=
  fun H locs la hP hD hS hB h => lv_i2b hX.1 hX.2.1 hd rfl (k H locs la hP hD hS hB h)
theorem r_i2s (hX : Ok M d X) {x : Int32} (hd : decode M.2.1 pc = .ok (.i2s, 1)) (k : AW X (pc + 1) ls (.int (x.toInt16.toInt32) :: st) μ dy) : AW X pc ls (.int x :: st) μ dy :=
  fun H locs la hP hD hS hB h => lv_i2s hX.1 hX.2.1 hd rfl (k H locs la hP hD hS hB h)
theorem r_i2c (hX : Ok M d X) {x : Int32} (hd : decode M.2.1 pc = .ok (.i2c, 1)) (k : AW X (pc + 1) ls (.int ((x.toUInt32 % 65536).toInt32) :: st) μ dy) : AW X pc ls (.int x :: st) μ dy :=
  fun H locs la hP hD hS hB h => lv_i2c hX.1 hX.2.1 hd rfl (k H locs la hP hD hS hB h)
theorem r_ineg (hX : Ok M d X) {x : Int32} (hd : decode M.2.1 pc = .ok (.ineg, 1)) (k : AW X (pc + 1) ls (.int (-x) :: st) μ dy) : AW X pc ls (.int x :: st) μ dy :=
  fun H locs la hP hD hS hB h => lv_ineg hX.1 hX.2.1 hd (k H locs la hP hD hS hB h)
theorem r_lcmp (hX : Ok M d X) {x y : Int64} (hd : decode M.2.1 pc = .ok (.lcmp, 1)) (k : AW X (pc + 1) ls (.int (lg_cmp x y) :: st) μ dy) : AW X pc ls (.long y :: .long x :: st) μ dy :=
  fun H locs la hP hD hS hB h => W.lcmp hX.1 hX.2.1 hd (k H locs la hP hD hS hB h)
theorem r_dup (hX : Ok M d X) {va : Value} (hd : decode M.2.1 pc = .ok (.dup, 1)) (hc : va.category = 1) (k : AW X (pc + 1) ls (va :: va :: st) μ dy) : AW X pc ls (va :: st) μ dy :=
  fun H locs la hP hD hS hB h => lv_dup hX.1 hX.2.1 hd hc (k H locs la hP hD hS hB h)
theorem r_pop (hX : Ok M d X) {va : Value} (hd : decode M.2.1 pc = .ok (.pop, 1)) (hc : va.category = 1) (k : AW X (pc + 1) ls st μ dy) : AW X pc ls (va :: st) μ dy :=
  fun H locs la hP hD hS hB h => lv_pop hX.1 hX.2.1 hd hc (k H locs la hP hD hS hB h)
theorem r_dup_x1 (hX : Ok M d X) {va vb : Value} (hd : decode M.2.1 pc = .ok (.dup_x1, 1)) (hc : va.category = 1) (hc2 : vb.category = 1) (k : AW X (pc + 1) ls (va :: vb :: va :: st) μ dy) : AW X pc ls (va :: vb :: st) μ dy :=
  fun H locs la hP hD hS hB h => lv_dup_x1 hX.1 hX.2.1 hd hc hc2 (k H locs la hP hD hS hB h)
theorem r_dup2 (hX : Ok M d X) {va vb : Value} (hd : decode M.2.1 pc = .ok (.dup2, 1)) (hc : va.category = 1) (hc2 : vb.category = 1) (k : AW X (pc + 1) ls (va :: vb :: va :: vb :: st) μ dy) : AW X pc ls (va :: vb :: st) μ dy :=
  fun H locs la hP hD hS hB h => lv_dup2_11 hX.1 hX.2.1 hd hc hc2 (k H locs la hP hD hS hB h)
theorem r_goto (hX : Ok M d X) {off : Int} (tgt : Nat) (hd : decode M.2.1 pc = .ok (.goto off, 3)) (ht : (pc : Int) + off = (tgt : Int)) (k : AW X tgt ls st μ dy) : AW X pc ls st μ dy :=
  fun H locs la hP hD hS hB h => lv_goto hX.1 hX.2.1 hd ht (k H locs la hP hD hS hB h)
theorem r_if_eq (hX : Ok M d X) {x : Int32} {off : Int} (tgt : Nat) (hd : decode M.2.1 pc = .ok (.ifCond .eq off, 3)) (ht : (pc : Int) + off = (tgt : Int)) (kt : x = 0 → AW X tgt ls st μ dy) (kf : ¬ x = 0 → AW X (pc + 3) ls st μ dy) : AW X pc ls (.int x :: st) μ dy :=
  fun H locs la hP hD hS hB h => lv_if_eq hX.1 hX.2.1 hd ht (fun q => kt q H locs la hP hD hS hB h) (fun q => kf q H locs la hP hD hS hB h)
theorem r_if_ne (hX : Ok M d X) {x : Int32} {off : Int} (tgt : Nat) (hd : decode M.2.1 pc = .ok (.ifCond .ne off, 3)) (ht : (pc : Int) + off = (tgt : Int)) (kt : ¬ x = 0 → AW X tgt ls st μ dy) (kf : x = 0 → AW X (pc + 3) ls st μ dy) : AW X pc ls (.int x :: st) μ dy :=
  fun H locs la hP hD hS hB h => lv_if_ne hX.1 hX.2.1 hd ht (fun q => kt q H locs la hP hD hS hB h) (fun q => kf q H locs la hP hD hS hB h)
theorem r_if_lt (hX : Ok M d X) {x : Int32} {off : Int} (tgt : Nat) (hd : decode M.2.1 pc = .ok (.ifCond .lt off, 3)) (ht : (pc : Int) + off = (tgt : Int)) (kt : x < 0 → AW X tgt ls st μ dy) (kf : ¬ x < 0 → AW X (pc + 3) ls st μ dy) : AW X pc ls (.int x :: st) μ dy :=
  fun H locs la hP hD hS hB h => lv_if_lt hX.1 hX.2.1 hd ht (fun q => kt q H locs la hP hD hS hB h) (fun q => kf q H locs la hP hD hS hB h)
theorem r_if_ge (hX : Ok M d X) {x : Int32} {off : Int} (tgt : Nat) (hd : decode M.2.1 pc = .ok (.ifCond .ge off, 3)) (ht : (pc : Int) + off = (tgt : Int)) (kt : 0 ≤ x → AW X tgt ls st μ dy) (kf : ¬ 0 ≤ x → AW X (pc + 3) ls st μ dy) : AW X pc ls (.int x :: st) μ dy :=
  fun H locs la hP hD hS hB h => lv_if_ge hX.1 hX.2.1 hd ht (fun q => kt q H locs la hP hD hS hB h) (fun q => kf q H locs la hP hD hS hB h)
theorem r_if_gt (hX : Ok M d X) {x : Int32} {off : Int} (tgt : Nat) (hd : decode M.2.1 pc = .ok (.ifCond .gt off, 3)) (ht : (pc : Int) + off = (tgt : Int)) (kt : 0 < x → AW X tgt ls st μ dy) (kf : ¬ 0 < x → AW X (pc + 3) ls st μ dy) : AW X pc ls (.int x :: st) μ dy :=
  fun H locs la hP hD hS hB h => lv_if_gt hX.1 hX.2.1 hd ht (fun q => kt q H locs la hP hD hS hB h) (fun q => kf q H locs la hP hD hS hB h)
theorem r_if_le (hX : Ok M d X) {x : Int32} {off : Int} (tgt : Nat) (hd : decode M.2.1 pc = .ok (.ifCond .le off, 3)) (ht : (pc : Int) + off = (tgt : Int)) (kt : x ≤ 0 → AW X tgt ls st μ dy) (kf : ¬ x ≤ 0 → AW X (pc + 3) ls st μ dy) : AW X pc ls (.int x :: st) μ dy :=
  fun H locs la hP hD hS hB h => lv_if_le hX.1 hX.2.1 hd ht (fun q => kt q H locs la hP hD hS hB h) (fun q => kf q H locs la hP hD hS hB h)
theorem r_icmp_eq (hX : Ok M d X) {x y : Int32} {off : Int} (tgt : Nat) (hd : decode M.2.1 pc = .ok (.if_icmp .eq off, 3)) (ht : (pc : Int) + off = (tgt : Int)) (kt : x = y → AW X tgt ls st μ dy) (kf : ¬ x = y → AW X (pc + 3) ls st μ dy) : AW X pc ls (.int y :: .int x :: st) μ dy :=
  fun H locs la hP hD hS hB h => lv_icmp_eq hX.1 hX.2.1 hd ht (fun q => kt q H locs la hP hD hS hB h) (fun q => kf q H locs la hP hD hS hB h)
theorem r_icmp_ne (hX : Ok M d X) {x y : Int32} {off : Int} (tgt : Nat) (hd : decode M.2.1 pc = .ok (.if_icmp .ne off, 3)) (ht : (pc : Int) + off = (tgt : Int)) (kt : ¬ x = y → AW X tgt ls st μ dy) (kf : x = y → AW X (pc + 3) ls st μ dy) : AW X pc ls (.int y :: .int x :: st) μ dy :=
  fun H locs la hP hD hS hB h => lv_icmp_ne hX.1 hX.2.1 hd ht (fun q => kt q H locs la hP hD hS hB h) (fun q => kf q H locs la hP hD hS hB h)
theorem r_icmp_lt (hX : Ok M d X) {x y : Int32} {off : Int} (tgt : Nat) (hd : decode M.2.1 pc = .ok (.if_icmp .lt off, 3)) (ht : (pc : Int) + off = (tgt : Int)) (kt : x < y → AW X tgt ls st μ dy) (kf : ¬ x < y → AW X (pc + 3) ls st μ dy) : AW X pc ls (.int y :: .int x :: st) μ dy :=
  fun H locs la hP hD hS hB h => lv_icmp_lt hX.1 hX.2.1 hd ht (fun q => kt q H locs la hP hD hS hB h) (fun q => kf q H locs la hP hD hS hB h)
theorem r_icmp_ge (hX : Ok M d X) {x y : Int32} {off : Int} (tgt : Nat) (hd : decode M.2.1 pc = .ok (.if_icmp .ge off, 3)) (ht : (pc : Int) + off = (tgt : Int)) (kt : y ≤ x → AW X tgt ls st μ dy) (kf : ¬ y ≤ x → AW X (pc + 3) ls st μ dy) : AW X pc ls (.int y :: .int x :: st) μ dy :=
  fun H locs la hP hD hS hB h => lv_icmp_ge hX.1 hX.2.1 hd ht (fun q => kt q H locs la hP hD hS hB h) (fun q => kf q H locs la hP hD hS hB h)
theorem r_icmp_gt (hX : Ok M d X) {x y : Int32} {off : Int} (tgt : Nat) (hd : decode M.2.1 pc = .ok (.if_icmp .gt off, 3)) (ht : (pc : Int) + off = (tgt : Int)) (kt : y < x → AW X tgt ls st μ dy) (kf : ¬ y < x → AW X (pc + 3) ls st μ dy) : AW X pc ls (.int y :: .int x :: st) μ dy :=
  fun H locs la hP hD hS hB h => lv_icmp_gt hX.1 hX.2.1 hd ht (fun q => kt q H locs la hP hD hS hB h) (fun q => kf q H locs la hP hD hS hB h)
theorem r_icmp_le (hX : Ok M d X) {x y : Int32} {off : Int} (tgt : Nat) (hd : decode M.2.1 pc = .ok (.if_icmp .le off, 3)) (ht : (pc : Int) + off = (tgt : Int)) (kt : x ≤ y → AW X tgt ls st μ dy) (kf : ¬ x ≤ y → AW X (pc + 3) ls st μ dy) : AW X pc ls (.int y :: .int x :: st) μ dy :=
  fun H locs la hP hD hS hB h => lv_icmp_le hX.1 hX.2.1 hd ht (fun q => kt q H locs la hP hD hS hB h) (fun q => kf q H locs la hP hD hS hB h)
theorem r_tabIn (hX : Ok M d X) {dflt lo hi : Int} {offs : Array Int} {len : Nat} {x : Int32} {off : Int} (tgt : Nat) (hd : decode M.2.1 pc = .ok (.tableswitch dflt lo hi offs, len)) (h1 : ¬ x.toInt < lo) (h2 : ¬ hi < x.toInt) (ho : offs[(x.toInt - lo).toNat]? = some off) (ht : (pc : Int) + off = (tgt : Int)) (k : AW X tgt ls st μ dy) : AW X pc ls (.int x :: st) μ dy :=
  fun H locs la hP hD hS hB h => lv_tableIn hX.1 hX.2.1 hd h1 h2 ho ht (k H locs la hP hD hS hB h)
theorem r_tabOut (hX : Ok M d X) {dflt lo hi : Int} {offs : Array Int} {len : Nat} {x : Int32} (tgt : Nat) (hd : decode M.2.1 pc = .ok (.tableswitch dflt lo hi offs, len)) (ho : x.toInt < lo ∨ hi < x.toInt) (ht : (pc : Int) + dflt = (tgt : Int)) (k : AW X tgt ls st μ dy) : AW X pc ls (.int x :: st) μ dy :=
  fun H locs la hP hD hS hB h => lv_tableOut hX.1 hX.2.1 hd ho ht (k H locs la hP hD hS hB h)
theorem r_look (hX : Ok M d X) {dflt : Int} {ps : Array (Int × Int)} {len : Nat} {x : Int32} {off : Int} (tgt : Nat) (hd : decode M.2.1 pc = .ok (.lookupswitch dflt ps, len)) (hp : (ps.toList.zip (ps.toList.drop 1)).all (fun (a, next) => a.1 < next.1) = true) (ho : Op.lookupswitch.offset ps.toList dflt x.toInt = off) (ht : (pc : Int) + off = (tgt : Int)) (k : AW X tgt ls st μ dy) : AW X pc ls (.int x :: st) μ dy :=
  fun H locs la hP hD hS hB h => lv_lookup hX.1 hX.2.1 hd hp ho ht (k H locs la hP hD hS hB h)
/-- a field of a class's cell: its link from the method's own class -/
def FL (own : String) (idx ci k : Nat) (r : vw_C) : Prop := (∀ w ∈ u_ws r.1 r.2.1 r.2.2, w ∈ tbG) ∧ cls[ci]? = some r ∧ k < r.2.2 ∧ Cond.fieldLink own idx (r.2.1 k).1 (r.2.1 k).2.1 (r.2.1 k).2.2.1 ∈ tbG
def FN (own : String) (idx ci k : Nat) (r : vw_C) (host : String) : Prop := (∀ w ∈ u_ws r.1 r.2.1 r.2.2, w ∈ tbG) ∧ cls[ci]? = some r ∧ k < r.2.2 ∧ Cond.fieldLinkNest own idx (r.2.1 k).1 (r.2.1 k).2.1 (r.2.1 k).2.2.1 host ∈ tbN
/-- the field can be written: its type, its class's names apart, it isn't final -/
def FT (r : vw_C) (k : Nat) (ty0 : Nat → FieldType) (ty : FieldType) : Prop := (∀ k, k < r.2.2 → parseFieldDescriptor (r.2.1 k).2.2.1 = some (ty0 k)) ∧ (∀ a, a < r.2.2 → ∀ b, b < r.2.2 → a ≠ b → (r.2.1 a).2.1 ≠ (r.2.1 b).2.1) ∧ (r.2.1 k).2.2.2 = false ∧ parseFieldDescriptor (r.2.1 k).2.2.1 = some ty
theorem r_get (hX : Ok M d X) {idx ci k q0 a : Nat} {r : vw_C} {fs : List Value} {v : Value} (hf : FL M.2.2.2.2 idx ci k r) (hw : (wsOf (xG X) μ dy)[q0]? = some (a, .inr (ci, fs))) (hv : fs[k]? = some v) (hd : decode M.2.1 pc = .ok (.getfield idx, 3)) (kk : AW X (pc + 3) ls (v :: st) μ dy) : AW X pc ls (.ref a :: st) μ dy :=
  fun H locs la hP hD hS hB h => va_get hX.1 hX.2.1 hX.2.2.2.2.1 hf.1 hX.2.2.2.1 hX.2.2.2.2.2.1 hP q0 hw hf.2.1 k hf.2.2.1 (hX.2.2.2.2.1 _ hf.2.2.2) (fun _ z => z) hv hd (kk H locs la hP hD hS hB h)
theorem r_getN (hX : Ok M d X) {idx ci k q0 a : Nat} {r : vw_C} {host : String} {fs : List Value} {v : Value} (hf : FN M.2.2.2.2 idx ci k r host) (hw : (wsOf (xG X) μ dy)[q0]? = some (a, .inr (ci, fs))) (hv : fs[k]? = some v) (hd : decode M.2.1 pc = .ok (.getfield idx, 3)) (kk : AW X (pc + 3) ls (v :: st) μ dy) : AW X pc ls (.ref a :: st) μ dy :=
  fun H locs la hP hD hS hB h => va_getN hX.1 hX.2.1 hX.2.2.2.2.1 hf.1 hX.2.2.2.1 hX.2.2.2.2.2.1 hP q0 hw hf.2.1 k hf.2.2.1 (va_Nw.use rfl (hX.2.2.2.2.2.2.2.2.2.2.2.2 _ hf.2.2.2)) (fun _ z => z) hv hd (kk H locs la hP hD hS hB h)
theorem r_put (hX : Ok M d X) {idx ci k q0 a : Nat} {r : vw_C} {ty0 : Nat → FieldType} {ty : FieldType} {fs : List Value} {v : Value} {μ' μ1 : Mem} (hf : FL M.2.2.2.2 idx ci k r) (ht : FT r k ty0 ty) (hw : (wsOf (xG X) μ dy)[q0]? = some (a, .inr (ci, fs))) (hl : Nat.ble (k + 1) fs.length = true) (hn : narrow ty v = v) (hfit : fits ty v = true) (hs : (wsOf (xG X) μ dy).set q0 (a, .inr (ci, fs.set k v)) = wsOf (xG X) μ' dy) (he : μ1 = μ') (hc : μ'.2.2 = μ.2.2) (hd : decode M.2.1 pc = .ok (.putfield idx, 3)) (kk : AW X (pc + 3) ls st μ1 dy) : AW X pc ls (v :: .ref a :: st) μ dy :=
  fun H locs la hP hD hS hB h => va_put hX.1 hX.2.1 hX.2.2.2.2.1 hf.1 ty0 ht.1 ht.2.1 hX.2.2.2.1 hX.2.2.2.2.2.1 hP hD hS q0 hw hf.2.1 k hf.2.2.1 (hX.2.2.2.2.1 _ hf.2.2.2) (fun _ z => z) ht.2.2.1 ht.2.2.2 hn hfit (Nat.le_of_ble_eq_true hl) hd (fun H1 l1 hP1 hD1 hS1 => by
    subst he
    have hk := kk H1 l1 la (hs ▸ hP1) (hs ▸ hD1) hS1 (by unfold bdd; rw [hc]; exact hB) h
    rw [hc] at hk
    exact hk)
theorem r_putN (hX : Ok M d X) {idx ci k q0 a : Nat} {r : vw_C} {host : String} {ty0 : Nat → FieldType} {ty : FieldType} {fs : List Value} {v : Value} {μ' μ1 : Mem} (hf : FN M.2.2.2.2 idx ci k r host) (ht : FT r k ty0 ty) (hw : (wsOf (xG X) μ dy)[q0]? = some (a, .inr (ci, fs))) (hl : Nat.ble (k + 1) fs.length = true) (hn : narrow ty v = v) (hfit : fits ty v = true) (hs : (wsOf (xG X) μ dy).set q0 (a, .inr (ci, fs.set k v)) = wsOf (xG X) μ' dy) (he : μ1 = μ') (hc : μ'.2.2 = μ.2.2) (hd : decode M.2.1 pc = .ok (.putfield idx, 3)) (kk : AW X (pc + 3) ls st μ1 dy) : AW X pc ls (v :: .ref a :: st) μ dy :=
  fun H locs la hP hD hS hB h => va_putN hX.1 hX.2.1 hX.2.2.2.2.1 hf.1 ty0 ht.1 ht.2.1 hX.2.2.2.1 hX.2.2.2.2.2.1 hP hD hS q0 hw hf.2.1 k hf.2.2.1 (va_Nw.use rfl (hX.2.2.2.2.2.2.2.2.2.2.2.2 _ hf.2.2.2)) (fun _ z => z) ht.2.2.1 ht.2.2.2 hn hfit (Nat.le_of_ble_eq_true hl) hd (fun H1 l1 hP1 hD1 hS1 => by
    subst he
    have hk := kk H1 l1 la (hs ▸ hP1) (hs ▸ hD1) hS1 (by unfold bdd; rw [hc]; exact hB) h
    rw [hc] at hk
    exact hk)
theorem r_iald (hX : Ok M d X) {q0 a n : Nat} {f : Nat → Int32} {i : Int32} (hw : (wsOf (xG X) μ dy)[q0]? = some (a, .inl (gC (xG X) 0, n, .inl f))) (hin : vp_in i n) (hd : decode M.2.1 pc = .ok (.iaload, 1)) (kk : AW X (pc + 1) ls (.int (f i.toNatClampNeg) :: st) μ dy) : AW X pc ls (.int i :: .ref a :: st) μ dy :=
  fun H locs la hP hD hS hB h => va_iald hX.1 hX.2.1 hX.2.2.2.2.2.1 hP q0 0 hw rfl hin hd (kk H locs la hP hD hS hB h)
theorem r_bald (hX : Ok M d X) {q0 a n : Nat} {f : Nat → Int32} {i : Int32} (hw : (wsOf (xG X) μ dy)[q0]? = some (a, .inl (gC (xG X) 1, n, .inl f))) (hin : vp_in i n) (hd : decode M.2.1 pc = .ok (.baload, 1)) (kk : AW X (pc + 1) ls (.int (f i.toNatClampNeg) :: st) μ dy) : AW X pc ls (.int i :: .ref a :: st) μ dy :=
  fun H locs la hP hD hS hB h => va_bald hX.1 hX.2.1 hX.2.2.2.2.2.1 hP q0 1 hw rfl hin hd (kk H locs la hP hD hS hB h)
theorem r_zald (hX : Ok M d X) {q0 a n : Nat} {f : Nat → Int32} {i : Int32} (hw : (wsOf (xG X) μ dy)[q0]? = some (a, .inl (gC (xG X) 2, n, .inl f))) (hin : vp_in i n) (hd : decode M.2.1 pc = .ok (.baload, 1)) (kk : AW X (pc + 1) ls (.int (f i.toNatClampNeg) :: st) μ dy) : AW X pc ls (.int i :: .ref a :: st) μ dy :=
  fun H locs la hP hD hS hB h => va_zald hX.1 hX.2.1 hX.2.2.2.2.2.1 hP q0 2 hw rfl hin hd (kk H locs la hP hD hS hB h)
theorem r_lald (hX : Ok M d X) {q0 a n : Nat} {f : Nat → Int64} {i : Int32} (hw : (wsOf (xG X) μ dy)[q0]? = some (a, .inl (gC (xG X) 3, n, .inr (.inl f)))) (hin : vp_in i n) (hd : decode M.2.1 pc = .ok (.laload, 1)) (kk : AW X (pc + 1) ls (.long (f i.toNatClampNeg) :: st) μ dy) : AW X pc ls (.int i :: .ref a :: st) μ dy :=
  fun H locs la hP hD hS hB h => va_lald hX.1 hX.2.1 hX.2.2.2.2.2.1 hP q0 3 hw rfl hin hd (kk H locs la hP hD hS hB h)
theorem r_iast (hX : Ok M d X) {q0 a n : Nat} {f : Nat → Int32} {i : Int32} {x : Int32} {μ' μ1 : Mem} (hw : (wsOf (xG X) μ dy)[q0]? = some (a, .inl (gC (xG X) 0, n, .inl f))) (hin : vp_in i n) (hs : (wsOf (xG X) μ dy).set q0 (a, .inl (gC (xG X) 0, n, .inl (upd f i.toNatClampNeg x))) = wsOf (xG X) μ' dy) (he : μ1 = μ') (hc : μ'.2.2 = μ.2.2) (hd : decode M.2.1 pc = .ok (.iastore, 1)) (kk : AW X (pc + 1) ls st μ1 dy) : AW X pc ls (.int x :: .int i :: .ref a :: st) μ dy :=
  fun H locs la hP hD hS hB h => va_iast hX.1 hX.2.1 hX.2.2.2.2.2.1 hP hD hS q0 0 hw rfl hin hd (fun H1 l1 hP1 hD1 hS1 => by
    subst he
    have hk := kk H1 l1 la (hs ▸ hP1) (hs ▸ hD1) hS1 (by unfold bdd; rw [hc]; exact hB) h
    rw [hc] at hk
    exact hk)
theorem r_bast (hX : Ok M d X) {q0 a n : Nat} {f : Nat → Int32} {i : Int32} {x : Int32} {μ' μ1 : Mem} (hw : (wsOf (xG X) μ dy)[q0]? = some (a, .inl (gC (xG X) 1, n, .inl f))) (hin : vp_in i n) (hs : (wsOf (xG X) μ dy).set q0 (a, .inl (gC (xG X) 1, n, .inl (upd f i.toNatClampNeg (vp_nar .byte x)))) = wsOf (xG X) μ' dy) (he : μ1 = μ') (hc : μ'.2.2 = μ.2.2) (hd : decode M.2.1 pc = .ok (.bastore, 1)) (kk : AW X (pc + 1) ls st μ1 dy) : AW X pc ls (.int x :: .int i :: .ref a :: st) μ dy :=
  fun H locs la hP hD hS hB h => va_bast hX.1 hX.2.1 hX.2.2.2.2.2.1 hP hD hS q0 1 hw rfl hin hd (fun H1 l1 hP1 hD1 hS1 => by
    subst he
    have hk := kk H1 l1 la (hs ▸ hP1) (hs ▸ hD1) hS1 (by unfold bdd; rw [hc]; exact hB) h
    rw [hc] at hk
    exact hk)
theorem r_zast (hX : Ok M d X) {q0 a n : Nat} {f : Nat → Int32} {i : Int32} {x : Int32} {μ' μ1 : Mem} (hw : (wsOf (xG X) μ dy)[q0]? = some (a, .inl (gC (xG X) 2, n, .inl f))) (hin : vp_in i n) (hs : (wsOf (xG X) μ dy).set q0 (a, .inl (gC (xG X) 2, n, .inl (upd f i.toNatClampNeg (vp_nar .boolean x)))) = wsOf (xG X) μ' dy) (he : μ1 = μ') (hc : μ'.2.2 = μ.2.2) (hd : decode M.2.1 pc = .ok (.bastore, 1)) (kk : AW X (pc + 1) ls st μ1 dy) : AW X pc ls (.int x :: .int i :: .ref a :: st) μ dy :=
  fun H locs la hP hD hS hB h => va_zast hX.1 hX.2.1 hX.2.2.2.2.2.1 hP hD hS q0 2 hw rfl hin hd (fun H1 l1 hP1 hD1 hS1 => by
    subst he
    have hk := kk H1 l1 la (hs ▸ hP1) (hs ▸ hD1) hS1 (by unfold bdd; rw [hc]; exact hB) h
    rw [hc] at hk
    exact hk)
theorem r_last (hX : Ok M d X) {q0 a n : Nat} {f : Nat → Int64} {i : Int32} {x : Int64} {μ' μ1 : Mem} (hw : (wsOf (xG X) μ dy)[q0]? = some (a, .inl (gC (xG X) 3, n, .inr (.inl f)))) (hin : vp_in i n) (hs : (wsOf (xG X) μ dy).set q0 (a, .inl (gC (xG X) 3, n, .inr (.inl (vp_updL f i.toNatClampNeg x)))) = wsOf (xG X) μ' dy) (he : μ1 = μ') (hc : μ'.2.2 = μ.2.2) (hd : decode M.2.1 pc = .ok (.lastore, 1)) (kk : AW X (pc + 1) ls st μ1 dy) : AW X pc ls (.long x :: .int i :: .ref a :: st) μ dy :=
  fun H locs la hP hD hS hB h => va_last hX.1 hX.2.1 hX.2.2.2.2.2.1 hP hD hS q0 3 hw rfl hin hd (fun H1 l1 hP1 hD1 hS1 => by
    subst he
    have hk := kk H1 l1 la (hs ▸ hP1) (hs ▸ hD1) hS1 (by unfold bdd; rw [hc]; exact hB) h
    rw [hc] at hk
    exact hk)
theorem r_alen (hX : Ok M d X) {q0 a n t0 : Nat} {E} {ty : FieldType} (hw : (wsOf (xG X) μ dy)[q0]? = some (a, .inl (gC (xG X) t0, n, E))) (ht : (tysOf (xG X))[t0]? = some (gC (xG X) t0, ty)) (hd : decode M.2.1 pc = .ok (.arraylength, 1)) (kk : AW X (pc + 1) ls (.int (Int32.ofNat n) :: st) μ dy) : AW X pc ls (.ref a :: st) μ dy :=
  fun H locs la hP hD hS hB h => va_alen hX.1 hX.2.1 hX.2.2.2.2.2.1 hP q0 t0 hw ht rfl hd (kk H locs la hP hD hS hB h)
theorem r_aald (hX : Ok M d X) {q0 a n b t0 : Nat} {ty : FieldType} {f : Nat → Option Nat} {i : Int32} (hw : (wsOf (xG X) μ dy)[q0]? = some (a, .inl (gC (xG X) t0, n, .inr (.inr (.inr (.inr f)))))) (ht : (tysOf (xG X))[t0]? = some (gC (xG X) t0, ty)) (hr : refKind ty = true) (hin : vp_in i n) (hb : f i.toNatClampNeg = some b) (hd : decode M.2.1 pc = .ok (.aaload, 1)) (kk : AW X (pc + 1) ls (.ref b :: st) μ dy) : AW X pc ls (.int i :: .ref a :: st) μ dy := by
  intro H locs la hP hD hS hB h
  have hlt : i.toNatClampNeg < n := Nat.not_le.mp fun q => hin (Or.inr q)
  exact W.aald (v := .ref b) (ty := ty) hX.1 hX.2.1 (hP q0 _ hw) ((hX.2.2.2.2.2.1.2 t0 _ ht).1 n (fun j => va_rf (f j))) hr (fun q => by cases q) (by show ¬ (i < 0 ∨ (arrV _ _ _).slots.size ≤ _); rw [arrV_size]; exact hin) (by show (arrV _ _ _).slots[_]? = _; rw [arrV_read _ _ hlt, hb]; rfl) rfl rfl hd (kk H locs la hP hD hS hB h)
end RWS
