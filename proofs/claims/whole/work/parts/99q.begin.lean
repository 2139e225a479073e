/-! The law's beginning: the class, the reference and the array for answers are made. (printed by law_q.py) -/
theorem lkC_X11 : Cond.classLink RL 8 RX11 ∈ tbG := mG (tt1 (List.mem_of_getElem? (i := 27) rfl)) rfl
theorem lkI_X11 : Cond.initialized RX11 ∈ tbG := mG (tt1 (List.mem_of_getElem? (i := 1) rfl)) rfl
theorem lcn_X11 : CN RL 8 11 (RX11, TX11, 15) tyX11 := ⟨lkC_X11, kIn_X11, lkI_X11, inX11, rfl, tyX11_ok⟩
theorem lkM_X11 : Cond.methodLink RL 22 yX11_init ∈ tbG := mG (tt1 (List.mem_of_getElem? (i := 29) rfl)) rfl
theorem lkK_X11 : mdCode M_x_init ∈ tbG := mG (tt1 (List.mem_of_getElem? (i := 31) rfl)) rfl
theorem lkN_X11 : Cond.instanceMethod yX11_init ∈ tbG := mG (tt1 (List.mem_of_getElem? (i := 30) rfl)) rfl
theorem lci_X11 : CI RL 22 M_x_init 0 := ⟨Or.inl lkM_X11, lkK_X11, lkI_X11, lkN_X11, rfl, ⟨by decide, by decide, by decide +kernel⟩, rfl, rfl⟩
theorem lkC_X12 : Cond.classLink RL 23 RX12 ∈ tbG := mG (tt6 (List.mem_of_getElem? (i := 106) rfl)) rfl
theorem lkI_X12 : Cond.initialized RX12 ∈ tbG := mG (tt1 (List.mem_of_getElem? (i := 13) rfl)) rfl
theorem lcn_X12 : CN RL 23 12 (RX12, TX12, 39) tyX12 := ⟨lkC_X12, kIn_X12, lkI_X12, inX12, rfl, tyX12_ok⟩
theorem lkM_X12 : Cond.methodLink RL 25 yX12_init ∈ tbG := mG (tt6 (List.mem_of_getElem? (i := 108) rfl)) rfl
theorem lkK_X12 : mdCode M_m_init ∈ tbG := mG (tt6 (List.mem_of_getElem? (i := 110) rfl)) rfl
theorem lkN_X12 : Cond.instanceMethod yX12_init ∈ tbG := mG (tt6 (List.mem_of_getElem? (i := 109) rfl)) rfl
theorem lci_X12 : CI RL 25 M_m_init 0 := ⟨Or.inl lkM_X12, lkK_X12, lkI_X12, lkN_X12, rfl, ⟨by decide, by decide, by decide +kernel⟩, rfl, rfl⟩
theorem b_astore_n {M : MD} {d : Nat} {X : Cx} {pc : Nat} {ls ls' : List (Nat × Value)} {st : List Value} {ws : va_W} {c z : Nat} (hX : BOk M d X) {i : Fin 4} {x : Nat} (hd : decode M.2.1 pc = .ok (.astore_n i, 1)) (hn : Nat.ble ((i : Nat) + 1) M.2.2.1 = true) (hl : stL ls i (.ref x) = ls') (k : BW X (pc + 1) ls' st ws c z) : BW X pc ls (.ref x :: st) ws c z :=
  fun H locs la hP hD hS h => lv_astore_n hX.1 hX.2.1 hd rfl h (by rw [hX.2.2.1]; exact Nat.le_of_ble_eq_true hn) hl (fun la1 h1 => k H locs la1 hP hD hS h1)
theorem dL_0 : decode cL_law 0 = .ok (.new 8, 3) := by decide +kernel
theorem dL_3 : decode cL_law 3 = .ok (.dup, 1) := by decide +kernel
theorem dL_4 : decode cL_law 4 = .ok (.invokespecial 22, 3) := by decide +kernel
theorem dL_7 : decode cL_law 7 = .ok (.astore_n 1, 1) := by decide +kernel
theorem dL_8 : decode cL_law 8 = .ok (.new 23, 3) := by decide +kernel
theorem dL_11 : decode cL_law 11 = .ok (.dup, 1) := by decide +kernel
theorem dL_12 : decode cL_law 12 = .ok (.invokespecial 25, 3) := by decide +kernel
theorem dL_15 : decode cL_law 15 = .ok (.astore_n 2, 1) := by decide +kernel
theorem dL_16 : decode cL_law 16 = .ok (.iconst 1, 1) := by decide +kernel
theorem dL_17 : decode cL_law 17 = .ok (.newarray .long, 2) := by decide +kernel
theorem dL_19 : decode cL_law 19 = .ok (.astore_n 3, 1) := by decide +kernel
abbrev wL (G : Gx) (bx : Nat) (u : Nw) (bm : Nat) (v : Nw) (o : Nat) : va_W := apW (apW (w_x_init G bx u) (w_m_init G bm v)) [(o, .inl (gC G 3, 1, .inr (.inl (fun _ => 0))))]
set_option maxHeartbeats 1000000 in
theorem law_begin {X : Cx} {b : Nat} (hX : BOk M_lw_law 2047 X) (hR : xR X = room_1) (K : ∀ bx u bm v o, BW X 20 [(3, .ref o), (2, .ref bm), (1, .ref bx), (0, .ref b)] [] (wL (xG X) bx u bm v o) 138 282595) : BW X 0 [(0, .ref b)] [] [] 0 0 := by
  have hc : (xR X).cells = 601024 := by rw [hR]; rfl
  have hz : (xR X).slots = 7293034 := by rw [hR]; rfl
  refine b_new hX (fs := [.null, .int 0, .null, .null, .null, .null, .null, .null, .null, .null, .null, .null, .null, .null, .null]) lcn_X11 df_X11 (by rw [hc]; decide) (by rw [hz]; decide) dL_0 (fun bx => ?_)
  refine b_dup hX dL_3 ?_
  refine b_init (d := 2046) hX (wr := []) (c_x_init (xG X) (d := 2043) bx) lci_X11 (st := [.ref bx]) rfl rfl rfl (by rw [hc]; decide) (by rw [hz]; decide) dL_4 rfl (fun u => ?_)
  show BW X 7 _ _ (w_x_init (xG X) bx u) _ _
  refine b_astore_n hX dL_7 rfl (ls' := [(1, .ref bx), (0, .ref b)]) rfl ?_
  refine b_new hX (fs := [.int 0, .null, .null, .int 0, .null, .null, .int 0, .null, .int 0, .null, .int 0, .int 0, .null, .int 0, .int 0, .int 0, .int 0, .null, .null, .null, .int 0, .int 0, .int 0, .int 0, .null, .null, .null, .null, .null, .null, .null, .int 0, .int 0, .int 0, .null, .int 0, .null, .null, .null]) lcn_X12 df_X12 (by rw [hc]; decide) (by rw [hz]; decide) dL_8 (fun bm => ?_)
  refine b_dup hX dL_11 ?_
  refine b_init (d := 2046) hX (wr := w_x_init (xG X) bx u) (c_m_init (xG X) (d := 2045) bm) lci_X12 (st := [.ref bm]) rfl rfl rfl (by rw [hc]; decide) (by rw [hz]; decide) dL_12 rfl (fun v => ?_)
  show BW X 15 _ _ (apW (w_x_init (xG X) bx u) (w_m_init (xG X) bm v)) _ _
  refine b_astore_n hX dL_15 rfl (ls' := [(2, .ref bm), (1, .ref bx), (0, .ref b)]) rfl ?_
  refine b_iconst hX (1 : Int32) dL_16 rfl ?_
  refine b_newa hX (atype := .long) (ty := .long) (N' := 1) (a0 := (1, .inr (.inl (fun _ => 0)))) 3 kA_long rfl rfl (ha_long 1) (by decide) (by decide) (by decide) (by rw [hc]; decide) (by rw [hz]; decide) dL_17 (fun o => ?_)
  refine b_astore_n hX dL_19 rfl (ls' := [(3, .ref o), (2, .ref bm), (1, .ref bx), (0, .ref b)]) rfl ?_
  exact K bx u bm v o
