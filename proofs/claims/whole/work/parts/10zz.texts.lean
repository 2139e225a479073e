theorem kwCopy_X8_92 : CY RX8 92 := ⟨mG (tt6 (List.mem_of_getElem? (i := 0) rfl)) rfl, mG (tt6 (List.mem_of_getElem? (i := 2) rfl)) rfl, mG (tt6 (List.mem_of_getElem? (i := 1) rfl)) rfl, mG (tt1 (List.mem_of_getElem? (i := 26) rfl)) rfl⟩
theorem kf_J0_38 : Cond.fieldLink RJ0 38 "java/lang/String" "COMPACT_STRINGS" "Z" ∈ tbG := mG (tt4 (List.mem_of_getElem? (i := 222) rfl)) rfl
theorem kf_J0_15 : Cond.fieldLink RJ0 15 "java/lang/String" "coder" "B" ∈ tbG := mG (tt8 (List.mem_of_getElem? (i := 189) rfl)) rfl
theorem kf_J0_9 : Cond.fieldLink RJ0 9 "java/lang/String" "value" "[B" ∈ tbG := mG (tt8 (List.mem_of_getElem? (i := 190) rfl)) rfl
section IO
variable {M : MD} {d : Nat} {X : Cx} {pc : Nat} {ls : List (Nat × Value)} {st stk : List Value} {μ μ1 : Mem} {dy : Nat → Nat}
theorem r_gets (hX : Ok M d X) {idx : Nat} (hl : Cond.fieldLink M.2.2.2.2 idx "java/lang/String" "COMPACT_STRINGS" "Z" ∈ tbG) (hd : decode M.2.1 pc = .ok (.getstatic idx, 3)) (k : AW X (pc + 3) ls (.int 1 :: st) μ dy) : AW X pc ls st μ dy :=
  fun H locs la hP hD hS hB h => va_gets hX.1 hX.2.1 hX.2.2.2.2.2.2.2.2.2.2.2.1 hS hX.2.2.2.1 (hX.2.2.2.2.1 _ hl) (fun _ z => z) hd (k H locs la hP hD hS hB h)
theorem r_strC (hX : Ok M d X) {idx s : Nat} (hs : s < 8) (hl : Cond.fieldLink M.2.2.2.2 idx "java/lang/String" "coder" "B" ∈ tbG) (hd : decode M.2.1 pc = .ok (.getfield idx, 3)) (k : AW X (pc + 3) ls (.int 0 :: st) μ dy) : AW X pc ls (.ref (gK (xG X) s) :: st) μ dy :=
  fun H locs la hP hD hS hB h => vk_getf hX.1 hX.2.1 (hX.2.2.2.2.2.2.2.2.2.1.1 s hs).2.1 hS hX.2.2.2.1 (hX.2.2.2.2.1 _ hl) (fun _ z => z) hd (k H locs la hP hD hS hB h)
theorem r_strV (hX : Ok M d X) {idx s : Nat} (hs : s < 8) (hl : Cond.fieldLink M.2.2.2.2 idx "java/lang/String" "value" "[B" ∈ tbG) (hd : decode M.2.1 pc = .ok (.getfield idx, 3)) (k : AW X (pc + 3) ls (.ref (gV (xG X) s) :: st) μ dy) : AW X pc ls (.ref (gK (xG X) s) :: st) μ dy :=
  fun H locs la hP hD hS hB h => vk_getf hX.1 hX.2.1 (hX.2.2.2.2.2.2.2.2.2.1.1 s hs).2.2.1 hS hX.2.2.2.1 (hX.2.2.2.2.1 _ hl) (fun _ z => z) hd (k H locs la hP hD hS hB h)
theorem r_tb (hX : Ok M d X) {s : Nat} (hs : s < 8) {i : Int32} (hin : vp_in i (sLn.getD s 0)) (hd : decode M.2.1 pc = .ok (.baload, 1)) (k : AW X (pc + 1) ls (.int ((sBy.getD s []).getD i.toNatClampNeg 0) :: st) μ dy) : AW X pc ls (.int i :: .ref (gV (xG X) s) :: st) μ dy :=
  fun H locs la hP hD hS hB h => va_tb hX.1 hX.2.1 (hX.2.2.2.2.2.2.2.2.2.1.1 s hs).2.2.2 hS hin rfl hd (k H locs la hP hD hS hB h)
theorem r_tl (hX : Ok M d X) {s : Nat} (hs : s < 8) (hd : decode M.2.1 pc = .ok (.arraylength, 1)) (k : AW X (pc + 1) ls (.int (Int32.ofNat (sLn.getD s 0)) :: st) μ dy) : AW X pc ls (.ref (gV (xG X) s) :: st) μ dy :=
  fun H locs la hP hD hS hB h => va_tlen hX.1 hX.2.1 (hX.2.2.2.2.2.2.2.2.2.1.1 s hs).2.2.2 hS rfl hd (k H locs la hP hD hS hB h)
theorem r_callVSI {N : MD} {idx n s : Nat} {As : List Value} {v : Int32} (hX : Ok M (d + 1) X) (hs : s < 8) (hcon : Con (xG X) N d (.ref (gK (xG X) s) :: As) μ (some (.int v), μ1)) (hw9 : CV M.2.2.2.2 idx N n) (hcr : N.1.cls = "java/lang/String") (hst : As.reverse ++ .ref (gK (xG X) s) :: st = stk) (hn : As.length = n) (hroom : Nat.ble ((st.map fun v => v.category).sum) 8 = true) (hd : decode M.2.1 pc = .ok (.invokevirtual idx, 3))
    (kk : ∀ dy, AW X (pc + 3) ls (.int v :: st) μ1 dy) : AW X pc ls stk μ dy := by
  intro H locs la hP hD hS hB h
  subst hst
  obtain ⟨⟨hl, hco, hini, hy, hlen, hmx⟩, hin, hse⟩ := hw9
  have hts := hX.2.2.2.2.1
  obtain ⟨cell, hcB, hoB, hclB⟩ := vk_recv hX.2.2.2.2.2.2.2.2.2.1 hs hS
  refine r_behind (r := (some (.int v), μ1)) (a := (Value.ref (gK (xG X) s) :: As).toArray) hP hD hS hX.2.2.2.2.2.2.2.2.1 hB h kk (fun T hT XS => ?_)
  have hfr := hX.2.2.2.2.2.2.1
  have hrm := hX.2.2.2.2.2.2.2.1
  have hm1 := Nat.le_of_ble_eq_true hmx
  have hK := back_of2 (p := xp X) (e := xe X) (R := xR X) (below := xb X) (s := xs X) (sargs := xa X) (len := 3) (W9 := 8) (hcon (xl X) dy H.size) pc_blind (show d + 1 ≤ _ from hfr.1) (show 8 + (N.2.2.1 + 11) + 40 * d ≤ _ by omega) (fun w hw a' U hW => by
      rcases List.mem_cons.mp hw with rfl | h2
      · exact tb_at hts hW hco
      · exact tb_at hts hW h2) (bytes := N.2.1) (maxL := N.2.2.1) (ret := N.2.2.2.1) List.mem_cons_self (fun a' U hW => tb_at hts hW hini)
  obtain ⟨v, vm₁, ⟨U', l2, c2, s2⟩, hW₁, X', ⟨g', mk, t, L, e1, e2, hq, h1, hL, h2, h3⟩, stp⟩ := callV XS hX.1 (C := "java/lang/String") (bytes := N.2.1) (maxL := N.2.2.1) (ret := N.2.2.2.1) hX.2.2.2.1 (hts _ hl) (hts _ hin) (by rw [← hcr]; exact hts _ hse) (hts _ hco) hy hK (by rw [hT]; exact hcB) hoB hclB (g := F0 (xm X) pc la (As.reverse ++ .ref (gK (xG X) s) :: st)) rfl h.1 (argsL := As) (rest := st) (fun sig hs => hn.trans (len_of hlen sig hs)) rfl (lv_room (Nat.le_of_ble_eq_true hroom)) (by rw [hX.2.1]; exact hd)
    (fun vm₁ hW₁ => ⟨by show (μ.2.2.1 - xc X) + (LIMc - μ.2.2.1) ≤ _; have := hB.1.1; have := hB.1.2; omega, by show (μ.2.2.2 - xz X) + (LIMs - μ.2.2.2) ≤ _; have := hB.2.1; have := hB.2.2; omega, rfl, by show T.heap.size = _; rw [hT], by show va_P _ _ _ T.heap; rw [hT]; exact hP, va_K.moved hW₁.alike hX.2.2.2.2.2.1, hD.weaken (fun _ _ _ _ => trivial), ⟨hB.1.2, hB.2.2⟩, by
      have h9 := (hX.2.2.2.2.2.2.2.2.2.kept (H1 := H) hS.2.1).narrow (B := va_A (wsOf (xG X) μ dy) H.size) (fun q hq => by
        rcases hq with ⟨k, e, hke⟩ | hq
        · exact hD.2 k _ hke
        · exact hX.2.2.2.2.2.2.2.2.1 q (Nat.le_trans hS.1 hq))
      show EX _ _ _ T.heap
      rw [hT]
      exact h9.warm hW₁⟩)
  dsimp only [Pt.U, Pt.locs, Pt.cells, Pt.slots] at X' e1 e2 h1 h2 h3 stp
  subst h1; subst h2; subst h3
  exact ⟨v, (T.setVm vm₁).calling g' mk (Value.ref (gK (xG X) s) :: As).toArray, t, U', L, hT, X', hL, e1, e2, hq, stp⟩
end IO
