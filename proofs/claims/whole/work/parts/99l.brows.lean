/-! Rows of a walk over a world that grows. -/
/-- a final field of the constructor's own class -/
def FTf (own : String) (r : vw_C) (k : Nat) (ty0 : Nat → FieldType) (ty : FieldType) : Prop := (∀ k, k < r.2.2 → parseFieldDescriptor (r.2.1 k).2.2.1 = some (ty0 k)) ∧ (∀ a, a < r.2.2 → ∀ b, b < r.2.2 → a ≠ b → (r.2.1 a).2.1 ≠ (r.2.1 b).2.1) ∧ (r.2.1 k).2.2.2 = true ∧ parseFieldDescriptor (r.2.1 k).2.2.1 = some ty ∧ (r.2.1 k).1 = own
section BRW
variable {M : MD} {d : Nat} {X : Cx} {pc : Nat} {ls ls' : List (Nat × Value)} {st : List Value} {ws ws' : va_W} {c z : Nat}
theorem b_iconst (hX : BOk M d X) {n : Int} (v : Int32) (hd : decode M.2.1 pc = .ok (.iconst n, 1)) (hv : Int32.ofInt n = v) (k : BW X (pc + 1) ls (.int v :: st) ws c z) : BW X pc ls st ws c z :=
  fun H locs la hP hD hS h => lv_iconst hX.1 hX.2.1 hd hv (k H locs la hP hD hS h)
theorem b_bipush (hX : BOk M d X) {n : Int} (v : Int32) (hd : decode M.2.1 pc = .ok (.bipush n, 2)) (hv : (Int8.ofInt n).toInt32 = v) (k : BW X (pc + 2) ls (.int v :: st) ws c z) : BW X pc ls st ws c z :=
  fun H locs la hP hD hS h => lv_bipush hX.1 hX.2.1 hd hv (k H locs la hP hD hS h)
theorem b_sipush (hX : BOk M d X) {n : Int} (v : Int32) (hd : decode M.2.1 pc = .ok (.sipush n, 3)) (hv : (Int16.ofInt n).toInt32 = v) (k : BW X (pc + 3) ls (.int v :: st) ws c z) : BW X pc ls st ws c z :=
  fun H locs la hP hD hS h => lv_sipush hX.1 hX.2.1 hd hv (k H locs la hP hD hS h)
theorem b_ldc (hX : BOk M d X) {i : Nat} {v : Int32} (hd : decode M.2.1 pc = .ok (.ldc i, 2)) (hw : Cond.constant M.2.2.2.2 i v ∈ tbG) (k : BW X (pc + 2) ls (.int v :: st) ws c z) : BW X pc ls st ws c z :=
  fun H locs la hP hD hS h => lv_ldc hX.1 hX.2.1 hX.2.2.2.1 (hX.2.2.2.2.1 _ hw) hd (k H locs la hP hD hS h)
theorem b_aload (hX : BOk M d X) {i : Nat} {x : Nat} (hd : decode M.2.1 pc = .ok (.aload i, 2)) (j : Nat) (hk : ls[j]? = some (i, .ref x)) (k : BW X (pc + 2) ls (.ref x :: st) ws c z) : BW X pc ls st ws c z :=
  fun H locs la hP hD hS h => lv_aload hX.1 hX.2.1 hd (lv_at h j hk) (k H locs la hP hD hS h)
theorem b_aload_n (hX : BOk M d X) {i : Fin 4} {x : Nat} (hd : decode M.2.1 pc = .ok (.aload_n i, 1)) (j : Nat) (hk : ls[j]? = some ((i : Nat), .ref x)) (k : BW X (pc + 1) ls (.ref x :: st) ws c z) : BW X pc ls st ws c z :=
  fun H locs la hP hD hS h => lv_aload_n hX.1 hX.2.1 hd rfl (lv_at h j hk) (k H locs la hP hD hS h)
theorem b_dup (hX : BOk M d X) {x : Nat} (hd : decode M.2.1 pc = .ok (.dup, 1)) (k : BW X (pc + 1) ls (.ref x :: .ref x :: st) ws c z) : BW X pc ls (.ref x :: st) ws c z :=
  fun H locs la hP hD hS h => lv_dup hX.1 hX.2.1 hd rfl (k H locs la hP hD hS h)
theorem b_get (hX : BOk M d X) {idx ci k q0 a : Nat} {r : vw_C} {fs : List Value} {v : Value} (hf : FL M.2.2.2.2 idx ci k r) (hw : ws[q0]? = some (a, .inr (ci, fs))) (hv : fs[k]? = some v) (hd : decode M.2.1 pc = .ok (.getfield idx, 3)) (kk : BW X (pc + 3) ls (v :: st) ws c z) : BW X pc ls (.ref a :: st) ws c z :=
  fun H locs la hP hD hS h => va_get hX.1 hX.2.1 hX.2.2.2.2.1 hf.1 hX.2.2.2.1 hX.2.2.2.2.2.1 hP q0 hw hf.2.1 k hf.2.2.1 (hX.2.2.2.2.1 _ hf.2.2.2) (fun _ z => z) hv hd (kk H locs la hP hD hS h)
theorem b_put (hX : BOk M d X) {idx ci k q0 a : Nat} {r : vw_C} {ty0 : Nat → FieldType} {ty : FieldType} {fs : List Value} {v : Value} (hf : FL M.2.2.2.2 idx ci k r) (ht : FT r k ty0 ty) (hw : ws[q0]? = some (a, .inr (ci, fs))) (hl : Nat.ble (k + 1) fs.length = true) (hn : narrow ty v = v) (hfit : fits ty v = true) (hs : ws.set q0 (a, .inr (ci, fs.set k v)) = ws') (hd : decode M.2.1 pc = .ok (.putfield idx, 3)) (kk : BW X (pc + 3) ls st ws' c z) : BW X pc ls (v :: .ref a :: st) ws c z :=
  fun H locs la hP hD hS h => va_put hX.1 hX.2.1 hX.2.2.2.2.1 hf.1 ty0 ht.1 ht.2.1 hX.2.2.2.1 hX.2.2.2.2.2.1 hP hD hS q0 hw hf.2.1 k hf.2.2.1 (hX.2.2.2.2.1 _ hf.2.2.2) (fun _ z => z) ht.2.2.1 ht.2.2.2 hn hfit (Nat.le_of_ble_eq_true hl) hd (fun H1 l1 hP1 hD1 hS1 => by subst hs; exact kk H1 l1 la hP1 hD1 hS1 h)
theorem b_putF (hX : BOk M d X) {idx ci k q0 a : Nat} {r : vw_C} {ty0 : Nat → FieldType} {ty : FieldType} {fs : List Value} {v : Value} (hi : M.1.name = "<init>") (hf : FL M.2.2.2.2 idx ci k r) (ht : FTf M.2.2.2.2 r k ty0 ty) (hw : ws[q0]? = some (a, .inr (ci, fs))) (hl : Nat.ble (k + 1) fs.length = true) (hn : narrow ty v = v) (hfit : fits ty v = true) (hs : ws.set q0 (a, .inr (ci, fs.set k v)) = ws') (hd : decode M.2.1 pc = .ok (.putfield idx, 3)) (kk : BW X (pc + 3) ls st ws' c z) : BW X pc ls (v :: .ref a :: st) ws c z :=
  fun H locs la hP hD hS h => va_putF hX.1 hX.2.1 hX.2.2.2.2.1 hf.1 ty0 ht.1 ht.2.1 hX.2.2.2.1 hX.2.2.2.2.2.1 hP hD hS q0 hw hf.2.1 k hf.2.2.1 (hX.2.2.2.2.1 _ hf.2.2.2) (fun _ z => z) ht.2.2.1 (hX.2.2.2.2.2.2.2.2.2.trans hi) ht.2.2.2.2 ht.2.2.2.1 hn hfit (Nat.le_of_ble_eq_true hl) hd (fun H1 l1 hP1 hD1 hS1 => by subst hs; exact kk H1 l1 la hP1 hD1 hS1 h)
/-- the words of 'new' -/
def CN (own : String) (idx ci : Nat) (r : vw_C) (ty0 : Nat → FieldType) : Prop := Cond.classLink own idx r.1 ∈ tbG ∧ Cond.instantiable r.1 r.2.2 ∈ tbG ∧ Cond.initialized r.1 ∈ tbG ∧ (∀ w ∈ u_ws r.1 r.2.1 r.2.2, w ∈ tbG) ∧ cls[ci]? = some r ∧ ∀ k, k < r.2.2 → parseFieldDescriptor (r.2.1 k).2.2.1 = some (ty0 k)
theorem b_new (hX : BOk M d X) {idx ci : Nat} {r : vw_C} {ty0 : Nat → FieldType} {fs : List Value} (hc : CN M.2.2.2.2 idx ci r ty0) (hfs : ∀ j, j < r.2.2 → defaultValue (ty0 j) = vp_V fs j) (h1 : c + 1 ≤ (xR X).cells) (h2 : z + r.2.2 ≤ (xR X).slots) (hd : decode M.2.1 pc = .ok (.new idx, 3)) (kk : ∀ q, BW X (pc + 3) ls (.ref q :: st) (ws ++ [(q, .inr (ci, fs))]) (c + 1) (z + r.2.2)) : BW X pc ls st ws c z :=
  fun H locs la hP hD hS h => va_new (ci := ci) (fs := fs) hX.1 hX.2.1 hX.2.2.2.2.1 hc.2.2.2.1 ty0 hc.2.2.2.2.2 hX.2.2.2.1 (hX.2.2.2.2.1 _ hc.1) (hX.2.2.2.2.1 _ hc.2.1) (hX.2.2.2.2.1 _ hc.2.2.1) hX.2.2.2.2.2.1 hP hD hS hX.2.2.2.2.2.2.2.1 hc.2.2.2.2.1 hfs h1 h2 hd (fun q H1 hP1 hD1 hS1 => kk q H1 locs la hP1 hD1 hS1 h)
theorem b_newa (hX : BOk M d X) {atype : ArrayType} {ty : FieldType} {n : Int32} {N' : Nat} {a0 : vp_A} (t0 : Nat) (harr : Cond.arrayClass (newarray.typeOf atype) ∈ tbG) (hty : newarray.typeOf atype = ty) (ht : (tysOf (xG X))[t0]? = some (gC (xG X) t0, ty)) (ha : ∀ cA : ClassId, vp_cell cA a0 = arrV cA N' (fun _ => defaultValue ty)) (hn : ¬ n < 0) (hN : n.toNatClampNeg = N') (hbytes : N' * componentBytes ty ≤ 536870912) (h1 : c + 1 ≤ (xR X).cells) (h2 : z + N' ≤ (xR X).slots) (hd : decode M.2.1 pc = .ok (.newarray atype, 2))
    (kk : ∀ q, BW X (pc + 2) ls (.ref q :: st) (ws ++ [(q, .inl (gC (xG X) t0, a0))]) (c + 1) (z + N')) : BW X pc ls (.int n :: st) ws c z :=
  fun H locs la hP hD hS h => va_newa hX.1 hX.2.1 (hX.2.2.2.2.1 _ harr) hty hX.2.2.2.2.2.1 hP hD hS hX.2.2.2.2.2.2.2.1 ha hn hN hbytes h1 h2 hd (fun q cA H1 hK1 hP1 hD1 hS1 => by
    cases K_eq t0 hX.2.2.2.2.2.1 ht hK1
    exact kk q H1 locs la hP1 hD1 hS1 h)
theorem b_newq (hX : BOk M d X) {C : String} {idx : Nat} {n : Int32} {N' : Nat} (t0 : Nat) (hcl : Cond.classLink M.2.2.2.2 idx C ∈ tbG) (hao : Cond.arrayOver (.object C) ∈ tbE) (ht : (tysOf (xG X))[t0]? = some (gC (xG X) t0, .object C)) (hn : ¬ n < 0) (hN : n.toNatClampNeg = N') (hbytes : N' * 4 ≤ 536870912) (h1 : c + 1 ≤ (xR X).cells) (h2 : z + N' ≤ (xR X).slots) (hd : decode M.2.1 pc = .ok (.anewarray idx, 3))
    (kk : ∀ q, BW X (pc + 3) ls (.ref q :: st) (ws ++ [(q, .inl (gC (xG X) t0, N', .inr (.inr (.inr (.inr (fun _ => none))))))]) (c + 1) (z + N')) : BW X pc ls (.int n :: st) ws c z :=
  fun H locs la hP hD hS h => va_newq hX.1 hX.2.1 hX.2.2.2.1 (hX.2.2.2.2.1 _ hcl) (hX.2.2.2.2.2.2.2.2.1 _ hao) hX.2.2.2.2.2.1 hP hD hS hX.2.2.2.2.2.2.2.1 hn hN hbytes h1 h2 hd (fun q cA H1 hK1 hP1 hD1 hS1 => by
    cases K_eq t0 hX.2.2.2.2.2.1 ht hK1
    exact kk q H1 locs la hP1 hD1 hS1 h)
theorem b_astq (hX : BOk M d X) {a v n ci : Nat} {r : vw_C} {vs : List Value} {f : Nat → Option Nat} {i : Int32} (q0 t0 qk : Nat) (hw : ws[q0]? = some (a, .inl (gC (xG X) t0, n, .inr (.inr (.inr (.inr f)))))) (ht : (tysOf (xG X))[t0]? = some (gC (xG X) t0, .object r.1)) (hv : ws[qk]? = some (v, .inr (ci, vs))) (hc : cls[ci]? = some r) (hin : vp_in i n) (hs : ws.set q0 (a, .inl (gC (xG X) t0, n, .inr (.inr (.inr (.inr (va_up f i.toNatClampNeg (some v))))))) = ws') (hd : decode M.2.1 pc = .ok (.aastore, 1)) (kk : BW X (pc + 1) ls st ws' c z) : BW X pc ls (.ref v :: .int i :: .ref a :: st) ws c z :=
  fun H locs la hP hD hS h => va_astq hX.1 hX.2.1 hX.2.2.2.2.2.1 hP hD hS q0 t0 qk ci hw ht hv hc hin hd (fun H1 l1 hP1 hD1 hS1 => by subst hs; exact kk H1 l1 la hP1 hD1 hS1 h)
theorem pl_rows (N' : Nat) (r : Nat → Nat) (f : Nat → va_E) (e : va_E) : va_pl ([] ++ (List.range N').map r) (vr_up f ((List.range N').map r) e) = (List.range N').map (fun i => (r i, e)) := by
  unfold va_pl
  rw [List.nil_append, List.map_map]
  apply List.map_congr_left
  intro i hi
  show (r i, vr_up f _ e (r i)) = (r i, e)
  unfold vr_up
  rw [if_pos (List.mem_map.mpr ⟨i, hi, rfl⟩)]
theorem b_mna (hX : BOk M d X) {idx t0 t1 : Nat} {ty : FieldType} {n k : Int32} {N' K' : Nat} {z0 : vp_A} (hcl : Cond.classLink M.2.2.2.2 idx ("[" ++ (FieldType.array ty).toString) ∈ tbG) (hao : Cond.arrayOver (.array ty) ∈ tbE) (harr : Cond.arrayClass ty ∈ tbG) (ht0 : (tysOf (xG X))[t0]? = some (gC (xG X) t0, .array ty)) (ht1 : (tysOf (xG X))[t1]? = some (gC (xG X) t1, ty)) (hra : ∀ (U : State) (c : ClassId), va_RA U c ty → U.vm.findClass (FieldType.array ty).toString = some c) (hn : ¬ n < 0) (hk : ¬ k < 0) (hN : n.toNatClampNeg = N') (hM : k.toNatClampNeg = K')
    (hb1 : N' * 4 ≤ 536870912) (hb2 : K' * componentBytes ty ≤ 536870912) (hb3 : K' ≤ 536870912) (hdf : fits ty (defaultValue ty) = true) (hdd : (defaultValue ty).isDefault = true) (h1 : c + (1 + N') ≤ (xR X).cells) (h2 : z + (N' + N' * K') ≤ (xR X).slots) (hz : ∀ c : ClassId, Jvm.Free.Multi.innerC c K' (defaultValue ty) = vp_cell c z0) (hd : decode M.2.1 pc = .ok (.multianewarray idx 2, 4))
    (kk : ∀ (q : Nat) (r : Nat → Nat), BW X (pc + 4) ls (.ref q :: st) ((ws ++ [(q, .inl (gC (xG X) t0, N', .inr (.inr (.inr (.inr (fun i => if i < N' then some (r i) else none))))))]) ++ (List.range N').map (fun i => (r i, .inl (gC (xG X) t1, z0)))) (c + 1 + N') (z + N' + N' * K')) : BW X pc ls (.int k :: .int n :: st) ws c z :=
  fun H locs la hP hD hS h => va_mna (X := ws) (L := []) (f := fun _ => .inl (gC (xG X) t1, z0)) (cy := gC (xG X) t1) (z := z0) hX.1 hX.2.1 hX.2.2.2.1 (hX.2.2.2.2.1 _ hcl) (hX.2.2.2.2.2.2.2.2.1 _ hao) (hX.2.2.2.2.1 _ harr) (hra _ _ (hX.2.2.2.2.2.1.2 t1 _ ht1).2) hX.2.2.2.2.2.1 (by show va_P _ _ (ws ++ []) H; rw [List.append_nil]; exact hP) (by show va_D _ (ws ++ []); rw [List.append_nil]; exact hD) hS hX.2.2.2.2.2.2.2.1 hn hk hN hM hb1 hb2 hb3 hdf hdd h1 h2 hz hd (fun q r cA H1 _ _ hK1 hP1 hD1 hS1 => by
    cases K_eq t0 hX.2.2.2.2.2.1 ht0 hK1
    rw [pl_rows] at hP1 hD1
    exact kk q r H1 locs la hP1 hD1 hS1 h)
theorem b_obj (hX : BOk M (d + 1) X) {idx a : Nat} (hl : Cond.methodLink M.2.2.2.2 idx Lib.objectInit ∈ tbG) (hi : Cond.instanceMethod Lib.objectInit ∈ tbG) (hco : Cond.code Lib.objectInit ⟨#[0xb1]⟩ 1 none ∈ tbG) (hd : decode M.2.1 pc = .ok (.invokespecial idx, 3)) (kk : BW X (pc + 3) ls [] ws c z) : BW X pc ls [.ref a] ws c z :=
  fun H locs la hP hD hS h => W.objInit hX.1 hX.2.1 hX.2.2.2.1 (hX.2.2.2.2.1 _ hl) (hX.2.2.2.2.1 _ hi) (hX.2.2.2.2.1 _ hco) rfl h.1 rfl hd (by have := hX.2.2.2.2.2.2.1.1; omega) (by have := hX.2.2.2.2.2.2.1.2; show 2 * JFrame.monitorRoom _ + 0 + 12 ≤ _; have e : JFrame.monitorRoom (F0 (xm X) pc la [.ref a]) = 0 := rfl; omega) (kk H locs la hP hD hS h)
theorem good_tb {args : Array Value} {s : State} {N : MD} (hts : ∀ w ∈ tbG, w.before args s = true) (hco : mdCode N ∈ tbG) : GoodIn tbG (mdWs N) := fun w hw => by
  rcases List.mem_cons.mp hw with rfl | h
  · exact ⟨hco, good_of_word (List.mem_filter.mp hco).2⟩
  · exact ⟨h, good_of_word (List.mem_filter.mp h).2⟩
/-- the words of a constructor's call -/
def CI (own : String) (idx : Nat) (N : MD) (n : Nat) : Prop := (Cond.methodLink own idx N.1 ∈ tbG ∨ ∃ host, Cond.methodLinkNest own idx N.1 host ∈ tbE) ∧ mdCode N ∈ tbG ∧ Cond.initialized N.1.cls ∈ tbG ∧ Cond.instanceMethod N.1 ∈ tbG ∧ N.1.name = "<init>" ∧ (N.1.cls ≠ "java/lang/invoke/MethodHandle" ∧ N.1.cls ≠ "java/lang/invoke/VarHandle" ∧ (parseMethodDescriptor N.1.desc).map (fun d => d.parameters.length) = some n) ∧ Nat.ble N.2.2.1 21 = true ∧ N.2.2.2.1 = none
theorem b_init (hX : BOk M (d + 1) X) {N : MD} {idx n b mc ms : Nat} {As stk : List Value} {E : va_E} {w1 : Nw → va_W} {wr : va_W} (hcon : ConB (xG X) N d (.ref b :: As) [(b, E)] w1 mc ms) (hw9 : CI M.2.2.2.2 idx N n) (hst : As.reverse ++ .ref b :: st = stk) (hn : As.length = n) (hroom : Nat.ble ((st.map fun v => v.category).sum) 8 = true) (h1 : c + mc ≤ (xR X).cells) (h2 : z + ms ≤ (xR X).slots) (hd : decode M.2.1 pc = .ok (.invokespecial idx, 3))
    (hwr : wr ++ [(b, E)] = ws) (kk : ∀ q, BW X (pc + 3) ls st (wr ++ w1 q) (c + mc) (z + ms)) : BW X pc ls stk ws c z := by
  intro H locs la hP hD hS h
  subst hst
  subst hwr
  obtain ⟨hlk, hco, hini, hin, hnm, hdd, hmx, hret⟩ := hw9
  have hts := hX.2.2.2.2.1
  have hfr := hX.2.2.2.2.2.2.1
  have hm1 := Nat.le_of_ble_eq_true hmx
  have hA := hX.2.2.2.2.2.2.2.1
  have hPc : va_P (gD (xG X)) cls [(b, E)] H := fun k q hk => hP (wr.length + k) q (by rw [List.getElem?_append_right (by omega), Nat.add_sub_cancel_left]; exact hk)
  have hDc : va_D (fun _ => True) [(b, E)] := ⟨fun i j p q hi hj _ => by
    have h1 : i < 1 := (List.getElem?_eq_some_iff.mp hi).1
    have h2 : j < 1 := (List.getElem?_eq_some_iff.mp hj).1
    omega, fun _ _ _ => trivial⟩
  have hFc : ∀ q, va_A [(b, E)] H.size q → xA X q := va_free (wc := [(b, E)]) hD hS hA [wr.length] (by simp)
  have hcw : mdWs N = Cond.code N.1 N.2.1 N.2.2.1 none :: tbG := by unfold mdWs mdCode; rw [hret]
  have hpre : PreS (xs X) H (PcB (xG X) (.ref b :: As) [(b, E)] H.size) (.ref b :: As) := ⟨pcB_blind, fun U hU hW => ⟨rfl, by rw [hU], by rw [hU]; exact hPc, va_K.moved hW.alike hX.2.2.2.2.2.1, hDc, hX.2.2.2.2.2.2.2.2.1.warm hW⟩⟩
  have hrun : va_Run (xp X) (xl X) (xe X) (xR X) (xs X) (xm X) (xa X) (xb X) (xh X) (xk X) H locs c z mc ms (F0 (xm X) pc la (As.reverse ++ .ref b :: st)) st (QcB (xG X) [(b, E)] H.size w1 (Value.ref b :: As).toArray) (va_A [(b, E)] H.size) := by
    rcases hlk with hl | ⟨host, hl⟩
    · exact va_runI (As := As) (rest := st) (Ts := tbG) (bytes := N.2.1) (maxL := N.2.2.1) ⟨hX.1, hX.2.1, hX.2.2.1, hX.2.2.2.1, hts⟩ (hcon (xl X) H.size) (cwI n hts (good_tb hts hco) hcw rfl rfl (hts _ hini) (hts _ hl) (hts _ hin) hnm hdd ⟨by show d + 1 ≤ _; omega, by show 8 + (_ + 11) + 40 * d ≤ _; omega⟩) hpre rfl hn (by rw [← hX.2.2.1]; exact h.1) rfl (lv_room (Nat.le_of_ble_eq_true hroom)) hd ⟨h1, h2⟩
    · exact va_runIN (As := As) (rest := st) (Ts := tbG) (bytes := N.2.1) (maxL := N.2.2.1) (host := host) ⟨hX.1, hX.2.1, hX.2.2.1, hX.2.2.2.1, hts⟩ (hcon (xl X) H.size) ⟨va_cnB n hts (good_tb hts hco) hcw rfl rfl (hX.2.2.2.2.2.2.2.2.1 _ hl) (hts _ hini) hdd ⟨by show d + 1 ≤ _; omega, by show 8 + (_ + 11) + 40 * d ≤ _; omega⟩, hnm, hts _ hin⟩ hpre rfl hn (by rw [← hX.2.2.1]; exact h.1) rfl (lv_room (Nat.le_of_ble_eq_true hroom)) hd ⟨h1, h2⟩
  refine va_callv hrun hS (fun q _ hq => hFc q hq) hFc (fun u t H1 locs1 ht hvm _ hB hz1 hk1 hS1 => ?_)
  obtain ⟨hP1, hD1⟩ := hB
  rw [ht] at hP1
  obtain ⟨hP2, hD2⟩ := join1 hP hD hk1 hFc hP1 hD1
  exact kk u H1 locs1 la hP2 hD2 hS1 h
end BRW
