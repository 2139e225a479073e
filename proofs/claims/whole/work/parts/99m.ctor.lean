/-! The constructors. -/
abbrev apW (a b : va_W) : va_W := List.append a b
def rwl (n : Nat) (r : Nat → Nat) (e : va_E) : va_W := (List.range n).map (fun i => (r i, e))
/-- the new addresses from the a-th single and the b-th row on -/
abbrev shU (u : Nw) (a b : Nat) : Nw := (fun i => u.1 (a + i), fun i => u.2 (b + i))
theorem ha_int (n : Nat) (cA : ClassId) : vp_cell cA (n, .inl (fun _ => 0)) = arrV cA n (fun _ => defaultValue .int) := rfl
theorem ha_byte (n : Nat) (cA : ClassId) : vp_cell cA (n, .inl (fun _ => 0)) = arrV cA n (fun _ => defaultValue .byte) := rfl
theorem ha_boolean (n : Nat) (cA : ClassId) : vp_cell cA (n, .inl (fun _ => 0)) = arrV cA n (fun _ => defaultValue .boolean) := rfl
theorem ha_long (n : Nat) (cA : ClassId) : vp_cell cA (n, .inr (.inl (fun _ => 0))) = arrV cA n (fun _ => defaultValue .long) := rfl
theorem inn_int14 {c : ClassId} : Jvm.Free.Multi.innerC c 14 (defaultValue .int) = vp_cell c (14, .inl (fun _ => 0)) := (arrV_new c 14 (.int 0))
theorem inn_int7 {c : ClassId} : Jvm.Free.Multi.innerC c 7 (defaultValue .int) = vp_cell c (7, .inl (fun _ => 0)) := (arrV_new c 7 (.int 0))
theorem inn_byte40 {c : ClassId} : Jvm.Free.Multi.innerC c 40 (defaultValue .byte) = vp_cell c (40, .inl (fun _ => 0)) := (arrV_new c 40 (.int 0))
theorem kOi : Cond.instanceMethod Lib.objectInit ∈ tbG := mG (tt1 (List.mem_of_getElem? (i := 33) rfl)) rfl
theorem kOc : Cond.code Lib.objectInit ⟨#[0xb1]⟩ 1 none ∈ tbG := mG (tt1 (List.mem_of_getElem? (i := 34) rfl)) rfl
theorem kA_int : Cond.arrayClass .int ∈ tbG := mG (tt1 (List.mem_of_getElem? (i := 50) rfl)) rfl
theorem kA_byte : Cond.arrayClass .byte ∈ tbG := mG (tt5 (List.mem_of_getElem? (i := 71) rfl)) rfl
theorem kA_boolean : Cond.arrayClass .boolean ∈ tbG := mG (tt1 (List.mem_of_getElem? (i := 132) rfl)) rfl
theorem kA_long : Cond.arrayClass .long ∈ tbG := mG (tt1 (List.mem_of_getElem? (i := 51) rfl)) rfl
theorem kAO_int : Cond.arrayOver (.array .int) ∈ tbE := mE (tt1 (List.mem_of_getElem? (i := 59) rfl)) rfl
theorem kAO_byte : Cond.arrayOver (.array .byte) ∈ tbE := mE (tt6 (List.mem_of_getElem? (i := 114) rfl)) rfl
theorem kAO_Street : Cond.arrayOver (.object "MoreThanHalf$Street") ∈ tbE := mE (tt1 (List.mem_of_getElem? (i := 111) rfl)) rfl
theorem kAO_Rule : Cond.arrayOver (.object "MoreThanHalf$Rule") ∈ tbE := mE (tt1 (List.mem_of_getElem? (i := 113) rfl)) rfl
theorem kOl_X4_1 : Cond.methodLink RX4 1 Lib.objectInit ∈ tbG := mG (tt1 (List.mem_of_getElem? (i := 40) rfl)) rfl
theorem ff_X4_0 : FTf RX4 (RX4, TX4, 2) 0 tyX4 (.array .long) := ⟨tyX4_ok, nmX4, rfl, by decide +kernel, rfl⟩
theorem dX4_init_0 : decode cX4_init 0 = .ok (.aload_n 0, 1) := by decide +kernel
theorem dX4_init_1 : decode cX4_init 1 = .ok (.invokespecial 1, 3) := by decide +kernel
theorem dX4_init_4 : decode cX4_init 4 = .ok (.aload_n 0, 1) := by decide +kernel
theorem dX4_init_5 : decode cX4_init 5 = .ok (.bipush 16, 2) := by decide +kernel
theorem dX4_init_7 : decode cX4_init 7 = .ok (.newarray .long, 2) := by decide +kernel
theorem dX4_init_9 : decode cX4_init 9 = .ok (.putfield 9, 3) := by decide +kernel
theorem dX4_init_12 : decode cX4_init 12 = .ok (.return_, 1) := by decide +kernel
abbrev w_rw_init (G : Gx) (b : Nat) (u : Nw) : va_W := (b, .inr (4, [.ref ((u.1 0)), .int 0])) :: (apW ([]) [((u.1 0), .inl (gC G 3, 16, .inr (.inl (fun _ => 0))))])
theorem df_X4 : ∀ j, j < 2 → defaultValue (tyX4 j) = vp_V [.null, .int 0] j := by
  intro j hj
  match j, hj with
  | 0, _ => rfl
  | 1, _ => rfl
set_option maxRecDepth 20000 in
set_option maxHeartbeats 4000000 in
theorem c_rw_init (G : Gx) {d : Nat} (b : Nat) : ConB G M_rw_init (d + 1) [.ref b] [(b, .inr (4, [.null, .int 0]))] (w_rw_init G b) 1 16 := by
  refine ConB.of ⟨by decide, rfl, Nat.le_of_ble_eq_true rfl⟩ rfl (fun X hG hX hc hz hret => ?_)
  subst hG
  show BW X 0 [(0, .ref b)] [] ((b, .inr (4, [.null, .int 0])) :: []) 0 0
  refine b_aload_n hX dX4_init_0 0 rfl ?_
  refine b_obj hX kOl_X4_1 kOi kOc dX4_init_1 ?_
  refine b_aload_n hX dX4_init_4 0 rfl ?_
  refine b_bipush hX (16 : Int32) dX4_init_5 rfl ?_
  refine b_newa (atype := .long) hX 3 kA_long rfl rfl (a0 := (16, .inr (.inl (fun _ => 0)))) (ha_long 16) (by decide) (N' := 16) rfl (by decide) (by rw [hc]; decide) (by rw [hz]; decide) dX4_init_7 (fun a7 => ?_)
  show BW X 9 _ _ ((b, .inr (4, [.null, .int 0])) :: (apW ([]) [(a7, .inl (gC (xG X) 3, 16, .inr (.inl (fun _ => 0))))])) 1 16
  refine b_putF hX rfl fl_X4_9 ff_X4_0 (q0 := 0) rfl rfl rfl rfl (ws' := (b, .inr (4, [.ref (a7), .int 0])) :: (apW ([]) [(a7, .inl (gC (xG X) 3, 16, .inr (.inl (fun _ => 0))))])) rfl dX4_init_9 ?_
  exact hret _ _ (fun i => [a7].getD i 0, fun i => [].getD i (fun _ => 0)) dX4_init_12
theorem kOl_X2_5 : Cond.methodLink RX2 5 Lib.objectInit ∈ tbG := mG (tt1 (List.mem_of_getElem? (i := 227) rfl)) rfl
theorem dX2_init_0 : decode cX2_init 0 = .ok (.aload_n 0, 1) := by decide +kernel
theorem dX2_init_1 : decode cX2_init 1 = .ok (.invokespecial 5, 3) := by decide +kernel
theorem dX2_init_4 : decode cX2_init 4 = .ok (.aload_n 0, 1) := by decide +kernel
theorem dX2_init_5 : decode cX2_init 5 = .ok (.iconst 0, 1) := by decide +kernel
theorem dX2_init_6 : decode cX2_init 6 = .ok (.newarray .int, 2) := by decide +kernel
theorem dX2_init_8 : decode cX2_init 8 = .ok (.putfield 11, 3) := by decide +kernel
theorem dX2_init_11 : decode cX2_init 11 = .ok (.return_, 1) := by decide +kernel
abbrev w_me_init (G : Gx) (b : Nat) (u : Nw) : va_W := (b, .inr (2, [.ref ((u.1 0)), .int 0, .int 0])) :: (apW ([]) [((u.1 0), .inl (gC G 0, 0, .inl (fun _ => 0)))])
theorem df_X2 : ∀ j, j < 3 → defaultValue (tyX2 j) = vp_V [.null, .int 0, .int 0] j := by
  intro j hj
  match j, hj with
  | 0, _ => rfl
  | 1, _ => rfl
  | 2, _ => rfl
set_option maxRecDepth 20000 in
set_option maxHeartbeats 4000000 in
theorem c_me_init (G : Gx) {d : Nat} (b : Nat) : ConB G M_me_init (d + 1) [.ref b] [(b, .inr (2, [.null, .int 0, .int 0]))] (w_me_init G b) 1 0 := by
  refine ConB.of ⟨by decide, rfl, Nat.le_of_ble_eq_true rfl⟩ rfl (fun X hG hX hc hz hret => ?_)
  subst hG
  show BW X 0 [(0, .ref b)] [] ((b, .inr (2, [.null, .int 0, .int 0])) :: []) 0 0
  refine b_aload_n hX dX2_init_0 0 rfl ?_
  refine b_obj hX kOl_X2_5 kOi kOc dX2_init_1 ?_
  refine b_aload_n hX dX2_init_4 0 rfl ?_
  refine b_iconst hX (0 : Int32) dX2_init_5 rfl ?_
  refine b_newa (atype := .int) hX 0 kA_int rfl rfl (a0 := (0, .inl (fun _ => 0))) (ha_int 0) (by decide) (N' := 0) rfl (by decide) (by rw [hc]; decide) (by rw [hz]; decide) dX2_init_6 (fun a6 => ?_)
  show BW X 8 _ _ ((b, .inr (2, [.null, .int 0, .int 0])) :: (apW ([]) [(a6, .inl (gC (xG X) 0, 0, .inl (fun _ => 0)))])) 1 0
  refine b_put hX fl_X2_11 ft_X2_0 (q0 := 0) rfl rfl rfl rfl (ws' := (b, .inr (2, [.ref (a6), .int 0, .int 0])) :: (apW ([]) [(a6, .inl (gC (xG X) 0, 0, .inl (fun _ => 0)))])) rfl dX2_init_8 ?_
  exact hret _ _ (fun i => [a6].getD i 0, fun i => [].getD i (fun _ => 0)) dX2_init_11
theorem kOl_X5_3 : Cond.methodLink RX5 3 Lib.objectInit ∈ tbG := mG (tt1 (List.mem_of_getElem? (i := 118) rfl)) rfl
theorem ff_X5_0 : FTf RX5 (RX5, TX5, 4) 0 tyX5 (.array .int) := ⟨tyX5_ok, nmX5, rfl, by decide +kernel, rfl⟩
theorem ff_X5_1 : FTf RX5 (RX5, TX5, 4) 1 tyX5 (.array .int) := ⟨tyX5_ok, nmX5, rfl, by decide +kernel, rfl⟩
theorem dX5_init_0 : decode cX5_init 0 = .ok (.aload_n 0, 1) := by decide +kernel
theorem dX5_init_1 : decode cX5_init 1 = .ok (.invokespecial 3, 3) := by decide +kernel
theorem dX5_init_4 : decode cX5_init 4 = .ok (.aload_n 0, 1) := by decide +kernel
theorem dX5_init_5 : decode cX5_init 5 = .ok (.bipush 40, 2) := by decide +kernel
theorem dX5_init_7 : decode cX5_init 7 = .ok (.newarray .int, 2) := by decide +kernel
theorem dX5_init_9 : decode cX5_init 9 = .ok (.putfield 9, 3) := by decide +kernel
theorem dX5_init_12 : decode cX5_init 12 = .ok (.aload_n 0, 1) := by decide +kernel
theorem dX5_init_13 : decode cX5_init 13 = .ok (.bipush 40, 2) := by decide +kernel
theorem dX5_init_15 : decode cX5_init 15 = .ok (.newarray .int, 2) := by decide +kernel
theorem dX5_init_17 : decode cX5_init 17 = .ok (.putfield 15, 3) := by decide +kernel
theorem dX5_init_20 : decode cX5_init 20 = .ok (.return_, 1) := by decide +kernel
abbrev w_ru_init (G : Gx) (b : Nat) (u : Nw) : va_W := (b, .inr (5, [.ref ((u.1 0)), .ref ((u.1 1)), .int 0, .int 0])) :: (apW (apW ([]) [((u.1 0), .inl (gC G 0, 40, .inl (fun _ => 0)))]) [((u.1 1), .inl (gC G 0, 40, .inl (fun _ => 0)))])
theorem df_X5 : ∀ j, j < 4 → defaultValue (tyX5 j) = vp_V [.null, .null, .int 0, .int 0] j := by
  intro j hj
  match j, hj with
  | 0, _ => rfl
  | 1, _ => rfl
  | 2, _ => rfl
  | 3, _ => rfl
set_option maxRecDepth 20000 in
set_option maxHeartbeats 4000000 in
theorem c_ru_init (G : Gx) {d : Nat} (b : Nat) : ConB G M_ru_init (d + 1) [.ref b] [(b, .inr (5, [.null, .null, .int 0, .int 0]))] (w_ru_init G b) 2 80 := by
  refine ConB.of ⟨by decide, rfl, Nat.le_of_ble_eq_true rfl⟩ rfl (fun X hG hX hc hz hret => ?_)
  subst hG
  show BW X 0 [(0, .ref b)] [] ((b, .inr (5, [.null, .null, .int 0, .int 0])) :: []) 0 0
  refine b_aload_n hX dX5_init_0 0 rfl ?_
  refine b_obj hX kOl_X5_3 kOi kOc dX5_init_1 ?_
  refine b_aload_n hX dX5_init_4 0 rfl ?_
  refine b_bipush hX (40 : Int32) dX5_init_5 rfl ?_
  refine b_newa (atype := .int) hX 0 kA_int rfl rfl (a0 := (40, .inl (fun _ => 0))) (ha_int 40) (by decide) (N' := 40) rfl (by decide) (by rw [hc]; decide) (by rw [hz]; decide) dX5_init_7 (fun a7 => ?_)
  show BW X 9 _ _ ((b, .inr (5, [.null, .null, .int 0, .int 0])) :: (apW ([]) [(a7, .inl (gC (xG X) 0, 40, .inl (fun _ => 0)))])) 1 40
  refine b_putF hX rfl fl_X5_9 ff_X5_0 (q0 := 0) rfl rfl rfl rfl (ws' := (b, .inr (5, [.ref (a7), .null, .int 0, .int 0])) :: (apW ([]) [(a7, .inl (gC (xG X) 0, 40, .inl (fun _ => 0)))])) rfl dX5_init_9 ?_
  refine b_aload_n hX dX5_init_12 0 rfl ?_
  refine b_bipush hX (40 : Int32) dX5_init_13 rfl ?_
  refine b_newa (atype := .int) hX 0 kA_int rfl rfl (a0 := (40, .inl (fun _ => 0))) (ha_int 40) (by decide) (N' := 40) rfl (by decide) (by rw [hc]; decide) (by rw [hz]; decide) dX5_init_15 (fun a15 => ?_)
  show BW X 17 _ _ ((b, .inr (5, [.ref (a7), .null, .int 0, .int 0])) :: (apW (apW ([]) [(a7, .inl (gC (xG X) 0, 40, .inl (fun _ => 0)))]) [(a15, .inl (gC (xG X) 0, 40, .inl (fun _ => 0)))])) 2 80
  refine b_putF hX rfl fl_X5_15 ff_X5_1 (q0 := 0) rfl rfl rfl rfl (ws' := (b, .inr (5, [.ref (a7), .ref (a15), .int 0, .int 0])) :: (apW (apW ([]) [(a7, .inl (gC (xG X) 0, 40, .inl (fun _ => 0)))]) [(a15, .inl (gC (xG X) 0, 40, .inl (fun _ => 0)))])) rfl dX5_init_17 ?_
  exact hret _ _ (fun i => [a7, a15].getD i 0, fun i => [].getD i (fun _ => 0)) dX5_init_20
theorem kOl_X1_5 : Cond.methodLink RX1 5 Lib.objectInit ∈ tbG := mG (tt1 (List.mem_of_getElem? (i := 190) rfl)) rfl
theorem ff_X1_1 : FTf RX1 (RX1, TX1, 10) 1 tyX1 (.array .long) := ⟨tyX1_ok, nmX1, rfl, by decide +kernel, rfl⟩
theorem ff_X1_2 : FTf RX1 (RX1, TX1, 10) 2 tyX1 (.array .long) := ⟨tyX1_ok, nmX1, rfl, by decide +kernel, rfl⟩
theorem ff_X1_3 : FTf RX1 (RX1, TX1, 10) 3 tyX1 (.array .int) := ⟨tyX1_ok, nmX1, rfl, by decide +kernel, rfl⟩
theorem ff_X1_4 : FTf RX1 (RX1, TX1, 10) 4 tyX1 (.array .int) := ⟨tyX1_ok, nmX1, rfl, by decide +kernel, rfl⟩
theorem ff_X1_0 : FTf RX1 (RX1, TX1, 10) 0 tyX1 (.object "MoreThanHalf$Street") := ⟨tyX1_ok, nmX1, rfl, by decide +kernel, rfl⟩
theorem dX1_init_0 : decode cX1_init 0 = .ok (.aload_n 0, 1) := by decide +kernel
theorem dX1_init_1 : decode cX1_init 1 = .ok (.invokespecial 5, 3) := by decide +kernel
theorem dX1_init_4 : decode cX1_init 4 = .ok (.aload_n 0, 1) := by decide +kernel
theorem dX1_init_5 : decode cX1_init 5 = .ok (.bipush 14, 2) := by decide +kernel
theorem dX1_init_7 : decode cX1_init 7 = .ok (.newarray .long, 2) := by decide +kernel
theorem dX1_init_9 : decode cX1_init 9 = .ok (.putfield 11, 3) := by decide +kernel
theorem dX1_init_12 : decode cX1_init 12 = .ok (.aload_n 0, 1) := by decide +kernel
theorem dX1_init_13 : decode cX1_init 13 = .ok (.bipush 14, 2) := by decide +kernel
theorem dX1_init_15 : decode cX1_init 15 = .ok (.newarray .long, 2) := by decide +kernel
theorem dX1_init_17 : decode cX1_init 17 = .ok (.putfield 15, 3) := by decide +kernel
theorem dX1_init_20 : decode cX1_init 20 = .ok (.aload_n 0, 1) := by decide +kernel
theorem dX1_init_21 : decode cX1_init 21 = .ok (.bipush 14, 2) := by decide +kernel
theorem dX1_init_23 : decode cX1_init 23 = .ok (.newarray .int, 2) := by decide +kernel
theorem dX1_init_25 : decode cX1_init 25 = .ok (.putfield 18, 3) := by decide +kernel
theorem dX1_init_28 : decode cX1_init 28 = .ok (.aload_n 0, 1) := by decide +kernel
theorem dX1_init_29 : decode cX1_init 29 = .ok (.bipush 14, 2) := by decide +kernel
theorem dX1_init_31 : decode cX1_init 31 = .ok (.newarray .int, 2) := by decide +kernel
theorem dX1_init_33 : decode cX1_init 33 = .ok (.putfield 22, 3) := by decide +kernel
theorem dX1_init_36 : decode cX1_init 36 = .ok (.aload_n 0, 1) := by decide +kernel
theorem dX1_init_37 : decode cX1_init 37 = .ok (.iconst 0, 1) := by decide +kernel
theorem dX1_init_38 : decode cX1_init 38 = .ok (.newarray .int, 2) := by decide +kernel
theorem dX1_init_40 : decode cX1_init 40 = .ok (.putfield 25, 3) := by decide +kernel
theorem dX1_init_43 : decode cX1_init 43 = .ok (.aload_n 0, 1) := by decide +kernel
theorem dX1_init_44 : decode cX1_init 44 = .ok (.aload_n 1, 1) := by decide +kernel
theorem dX1_init_45 : decode cX1_init 45 = .ok (.putfield 28, 3) := by decide +kernel
theorem dX1_init_48 : decode cX1_init 48 = .ok (.return_, 1) := by decide +kernel
abbrev w_he_init (G : Gx) (b : Nat) (p1 : Nat) (u : Nw) : va_W := (b, .inr (1, [.ref (p1), .ref ((u.1 0)), .ref ((u.1 1)), .ref ((u.1 2)), .ref ((u.1 3)), .long 0, .long 0, .int 0, .ref ((u.1 4)), .int 0])) :: (apW (apW (apW (apW (apW ([]) [((u.1 0), .inl (gC G 3, 14, .inr (.inl (fun _ => 0))))]) [((u.1 1), .inl (gC G 3, 14, .inr (.inl (fun _ => 0))))]) [((u.1 2), .inl (gC G 0, 14, .inl (fun _ => 0)))]) [((u.1 3), .inl (gC G 0, 14, .inl (fun _ => 0)))]) [((u.1 4), .inl (gC G 0, 0, .inl (fun _ => 0)))])
theorem df_X1 : ∀ j, j < 10 → defaultValue (tyX1 j) = vp_V [.null, .null, .null, .null, .null, .long 0, .long 0, .int 0, .null, .int 0] j := by
  intro j hj
  match j, hj with
  | 0, _ => rfl
  | 1, _ => rfl
  | 2, _ => rfl
  | 3, _ => rfl
  | 4, _ => rfl
  | 5, _ => rfl
  | 6, _ => rfl
  | 7, _ => rfl
  | 8, _ => rfl
  | 9, _ => rfl
set_option maxRecDepth 20000 in
set_option maxHeartbeats 4000000 in
theorem c_he_init (G : Gx) {d : Nat} (b : Nat) (p1 : Nat) : ConB G M_he_init (d + 1) [.ref b, .ref p1] [(b, .inr (1, [.null, .null, .null, .null, .null, .long 0, .long 0, .int 0, .null, .int 0]))] (w_he_init G b p1) 5 56 := by
  refine ConB.of ⟨by decide, rfl, Nat.le_of_ble_eq_true rfl⟩ rfl (fun X hG hX hc hz hret => ?_)
  subst hG
  show BW X 0 [(0, .ref b), (1, .ref p1)] [] ((b, .inr (1, [.null, .null, .null, .null, .null, .long 0, .long 0, .int 0, .null, .int 0])) :: []) 0 0
  refine b_aload_n hX dX1_init_0 0 rfl ?_
  refine b_obj hX kOl_X1_5 kOi kOc dX1_init_1 ?_
  refine b_aload_n hX dX1_init_4 0 rfl ?_
  refine b_bipush hX (14 : Int32) dX1_init_5 rfl ?_
  refine b_newa (atype := .long) hX 3 kA_long rfl rfl (a0 := (14, .inr (.inl (fun _ => 0)))) (ha_long 14) (by decide) (N' := 14) rfl (by decide) (by rw [hc]; decide) (by rw [hz]; decide) dX1_init_7 (fun a7 => ?_)
  show BW X 9 _ _ ((b, .inr (1, [.null, .null, .null, .null, .null, .long 0, .long 0, .int 0, .null, .int 0])) :: (apW ([]) [(a7, .inl (gC (xG X) 3, 14, .inr (.inl (fun _ => 0))))])) 1 14
  refine b_putF hX rfl fl_X1_11 ff_X1_1 (q0 := 0) rfl rfl rfl rfl (ws' := (b, .inr (1, [.null, .ref (a7), .null, .null, .null, .long 0, .long 0, .int 0, .null, .int 0])) :: (apW ([]) [(a7, .inl (gC (xG X) 3, 14, .inr (.inl (fun _ => 0))))])) rfl dX1_init_9 ?_
  refine b_aload_n hX dX1_init_12 0 rfl ?_
  refine b_bipush hX (14 : Int32) dX1_init_13 rfl ?_
  refine b_newa (atype := .long) hX 3 kA_long rfl rfl (a0 := (14, .inr (.inl (fun _ => 0)))) (ha_long 14) (by decide) (N' := 14) rfl (by decide) (by rw [hc]; decide) (by rw [hz]; decide) dX1_init_15 (fun a15 => ?_)
  show BW X 17 _ _ ((b, .inr (1, [.null, .ref (a7), .null, .null, .null, .long 0, .long 0, .int 0, .null, .int 0])) :: (apW (apW ([]) [(a7, .inl (gC (xG X) 3, 14, .inr (.inl (fun _ => 0))))]) [(a15, .inl (gC (xG X) 3, 14, .inr (.inl (fun _ => 0))))])) 2 28
  refine b_putF hX rfl fl_X1_15 ff_X1_2 (q0 := 0) rfl rfl rfl rfl (ws' := (b, .inr (1, [.null, .ref (a7), .ref (a15), .null, .null, .long 0, .long 0, .int 0, .null, .int 0])) :: (apW (apW ([]) [(a7, .inl (gC (xG X) 3, 14, .inr (.inl (fun _ => 0))))]) [(a15, .inl (gC (xG X) 3, 14, .inr (.inl (fun _ => 0))))])) rfl dX1_init_17 ?_
  refine b_aload_n hX dX1_init_20 0 rfl ?_
  refine b_bipush hX (14 : Int32) dX1_init_21 rfl ?_
  refine b_newa (atype := .int) hX 0 kA_int rfl rfl (a0 := (14, .inl (fun _ => 0))) (ha_int 14) (by decide) (N' := 14) rfl (by decide) (by rw [hc]; decide) (by rw [hz]; decide) dX1_init_23 (fun a23 => ?_)
  show BW X 25 _ _ ((b, .inr (1, [.null, .ref (a7), .ref (a15), .null, .null, .long 0, .long 0, .int 0, .null, .int 0])) :: (apW (apW (apW ([]) [(a7, .inl (gC (xG X) 3, 14, .inr (.inl (fun _ => 0))))]) [(a15, .inl (gC (xG X) 3, 14, .inr (.inl (fun _ => 0))))]) [(a23, .inl (gC (xG X) 0, 14, .inl (fun _ => 0)))])) 3 42
  refine b_putF hX rfl fl_X1_18 ff_X1_3 (q0 := 0) rfl rfl rfl rfl (ws' := (b, .inr (1, [.null, .ref (a7), .ref (a15), .ref (a23), .null, .long 0, .long 0, .int 0, .null, .int 0])) :: (apW (apW (apW ([]) [(a7, .inl (gC (xG X) 3, 14, .inr (.inl (fun _ => 0))))]) [(a15, .inl (gC (xG X) 3, 14, .inr (.inl (fun _ => 0))))]) [(a23, .inl (gC (xG X) 0, 14, .inl (fun _ => 0)))])) rfl dX1_init_25 ?_
  refine b_aload_n hX dX1_init_28 0 rfl ?_
  refine b_bipush hX (14 : Int32) dX1_init_29 rfl ?_
  refine b_newa (atype := .int) hX 0 kA_int rfl rfl (a0 := (14, .inl (fun _ => 0))) (ha_int 14) (by decide) (N' := 14) rfl (by decide) (by rw [hc]; decide) (by rw [hz]; decide) dX1_init_31 (fun a31 => ?_)
  show BW X 33 _ _ ((b, .inr (1, [.null, .ref (a7), .ref (a15), .ref (a23), .null, .long 0, .long 0, .int 0, .null, .int 0])) :: (apW (apW (apW (apW ([]) [(a7, .inl (gC (xG X) 3, 14, .inr (.inl (fun _ => 0))))]) [(a15, .inl (gC (xG X) 3, 14, .inr (.inl (fun _ => 0))))]) [(a23, .inl (gC (xG X) 0, 14, .inl (fun _ => 0)))]) [(a31, .inl (gC (xG X) 0, 14, .inl (fun _ => 0)))])) 4 56
  refine b_putF hX rfl fl_X1_22 ff_X1_4 (q0 := 0) rfl rfl rfl rfl (ws' := (b, .inr (1, [.null, .ref (a7), .ref (a15), .ref (a23), .ref (a31), .long 0, .long 0, .int 0, .null, .int 0])) :: (apW (apW (apW (apW ([]) [(a7, .inl (gC (xG X) 3, 14, .inr (.inl (fun _ => 0))))]) [(a15, .inl (gC (xG X) 3, 14, .inr (.inl (fun _ => 0))))]) [(a23, .inl (gC (xG X) 0, 14, .inl (fun _ => 0)))]) [(a31, .inl (gC (xG X) 0, 14, .inl (fun _ => 0)))])) rfl dX1_init_33 ?_
  refine b_aload_n hX dX1_init_36 0 rfl ?_
  refine b_iconst hX (0 : Int32) dX1_init_37 rfl ?_
  refine b_newa (atype := .int) hX 0 kA_int rfl rfl (a0 := (0, .inl (fun _ => 0))) (ha_int 0) (by decide) (N' := 0) rfl (by decide) (by rw [hc]; decide) (by rw [hz]; decide) dX1_init_38 (fun a38 => ?_)
  show BW X 40 _ _ ((b, .inr (1, [.null, .ref (a7), .ref (a15), .ref (a23), .ref (a31), .long 0, .long 0, .int 0, .null, .int 0])) :: (apW (apW (apW (apW (apW ([]) [(a7, .inl (gC (xG X) 3, 14, .inr (.inl (fun _ => 0))))]) [(a15, .inl (gC (xG X) 3, 14, .inr (.inl (fun _ => 0))))]) [(a23, .inl (gC (xG X) 0, 14, .inl (fun _ => 0)))]) [(a31, .inl (gC (xG X) 0, 14, .inl (fun _ => 0)))]) [(a38, .inl (gC (xG X) 0, 0, .inl (fun _ => 0)))])) 5 56
  refine b_put hX fl_X1_25 ft_X1_8 (q0 := 0) rfl rfl rfl rfl (ws' := (b, .inr (1, [.null, .ref (a7), .ref (a15), .ref (a23), .ref (a31), .long 0, .long 0, .int 0, .ref (a38), .int 0])) :: (apW (apW (apW (apW (apW ([]) [(a7, .inl (gC (xG X) 3, 14, .inr (.inl (fun _ => 0))))]) [(a15, .inl (gC (xG X) 3, 14, .inr (.inl (fun _ => 0))))]) [(a23, .inl (gC (xG X) 0, 14, .inl (fun _ => 0)))]) [(a31, .inl (gC (xG X) 0, 14, .inl (fun _ => 0)))]) [(a38, .inl (gC (xG X) 0, 0, .inl (fun _ => 0)))])) rfl dX1_init_40 ?_
  refine b_aload_n hX dX1_init_43 0 rfl ?_
  refine b_aload_n hX dX1_init_44 1 rfl ?_
  refine b_putF hX rfl fl_X1_28 ff_X1_0 (q0 := 0) rfl rfl rfl rfl (ws' := (b, .inr (1, [.ref (p1), .ref (a7), .ref (a15), .ref (a23), .ref (a31), .long 0, .long 0, .int 0, .ref (a38), .int 0])) :: (apW (apW (apW (apW (apW ([]) [(a7, .inl (gC (xG X) 3, 14, .inr (.inl (fun _ => 0))))]) [(a15, .inl (gC (xG X) 3, 14, .inr (.inl (fun _ => 0))))]) [(a23, .inl (gC (xG X) 0, 14, .inl (fun _ => 0)))]) [(a31, .inl (gC (xG X) 0, 14, .inl (fun _ => 0)))]) [(a38, .inl (gC (xG X) 0, 0, .inl (fun _ => 0)))])) rfl dX1_init_45 ?_
  exact hret _ _ (fun i => [a7, a15, a23, a31, a38].getD i 0, fun i => [].getD i (fun _ => 0)) dX1_init_48
theorem kOl_X8_3 : Cond.methodLink RX8 3 Lib.objectInit ∈ tbG := mG (tt1 (List.mem_of_getElem? (i := 57) rfl)) rfl
theorem ff_X8_0 : FTf RX8 (RX8, TX8, 9) 0 tyX8 (.array .int) := ⟨tyX8_ok, nmX8, rfl, by decide +kernel, rfl⟩
theorem ff_X8_1 : FTf RX8 (RX8, TX8, 9) 1 tyX8 (.array .int) := ⟨tyX8_ok, nmX8, rfl, by decide +kernel, rfl⟩
theorem kCl_X8_18 : Cond.classLink RX8 18 ("[" ++ (FieldType.array .int).toString) ∈ tbG := mG (tt1 (List.mem_of_getElem? (i := 58) rfl)) rfl
theorem ff_X8_2 : FTf RX8 (RX8, TX8, 9) 2 tyX8 (.array (.array .int)) := ⟨tyX8_ok, nmX8, rfl, by decide +kernel, rfl⟩
theorem ff_X8_3 : FTf RX8 (RX8, TX8, 9) 3 tyX8 (.array .int) := ⟨tyX8_ok, nmX8, rfl, by decide +kernel, rfl⟩
theorem ff_X8_4 : FTf RX8 (RX8, TX8, 9) 4 tyX8 (.array .int) := ⟨tyX8_ok, nmX8, rfl, by decide +kernel, rfl⟩
theorem dX8_init_0 : decode cX8_init 0 = .ok (.aload_n 0, 1) := by decide +kernel
theorem dX8_init_1 : decode cX8_init 1 = .ok (.invokespecial 3, 3) := by decide +kernel
theorem dX8_init_4 : decode cX8_init 4 = .ok (.aload_n 0, 1) := by decide +kernel
theorem dX8_init_5 : decode cX8_init 5 = .ok (.bipush 14, 2) := by decide +kernel
theorem dX8_init_7 : decode cX8_init 7 = .ok (.newarray .int, 2) := by decide +kernel
theorem dX8_init_9 : decode cX8_init 9 = .ok (.putfield 9, 3) := by decide +kernel
theorem dX8_init_12 : decode cX8_init 12 = .ok (.aload_n 0, 1) := by decide +kernel
theorem dX8_init_13 : decode cX8_init 13 = .ok (.bipush 14, 2) := by decide +kernel
theorem dX8_init_15 : decode cX8_init 15 = .ok (.newarray .int, 2) := by decide +kernel
theorem dX8_init_17 : decode cX8_init 17 = .ok (.putfield 15, 3) := by decide +kernel
theorem dX8_init_20 : decode cX8_init 20 = .ok (.aload_n 0, 1) := by decide +kernel
theorem dX8_init_21 : decode cX8_init 21 = .ok (.bipush 14, 2) := by decide +kernel
theorem dX8_init_23 : decode cX8_init 23 = .ok (.bipush 14, 2) := by decide +kernel
theorem dX8_init_25 : decode cX8_init 25 = .ok (.multianewarray 18 2, 4) := by decide +kernel
theorem dX8_init_29 : decode cX8_init 29 = .ok (.putfield 20, 3) := by decide +kernel
theorem dX8_init_32 : decode cX8_init 32 = .ok (.aload_n 0, 1) := by decide +kernel
theorem dX8_init_33 : decode cX8_init 33 = .ok (.sipush 201, 3) := by decide +kernel
theorem dX8_init_36 : decode cX8_init 36 = .ok (.newarray .int, 2) := by decide +kernel
theorem dX8_init_38 : decode cX8_init 38 = .ok (.putfield 23, 3) := by decide +kernel
theorem dX8_init_41 : decode cX8_init 41 = .ok (.aload_n 0, 1) := by decide +kernel
theorem dX8_init_42 : decode cX8_init 42 = .ok (.bipush 15, 2) := by decide +kernel
theorem dX8_init_44 : decode cX8_init 44 = .ok (.newarray .int, 2) := by decide +kernel
theorem dX8_init_46 : decode cX8_init 46 = .ok (.putfield 26, 3) := by decide +kernel
theorem dX8_init_49 : decode cX8_init 49 = .ok (.aload_n 0, 1) := by decide +kernel
theorem dX8_init_50 : decode cX8_init 50 = .ok (.iconst 1, 1) := by decide +kernel
theorem dX8_init_51 : decode cX8_init 51 = .ok (.putfield 29, 3) := by decide +kernel
theorem dX8_init_54 : decode cX8_init 54 = .ok (.return_, 1) := by decide +kernel
abbrev w_st_init (G : Gx) (b : Nat) (u : Nw) : va_W := (b, .inr (8, [.ref ((u.1 0)), .ref ((u.1 1)), .ref ((u.1 2)), .ref ((u.1 3)), .ref ((u.1 4)), .int 0, .int 0, .int 0, .int 1])) :: (apW (apW (apW (apW (apW (apW ([]) [((u.1 0), .inl (gC G 0, 14, .inl (fun _ => 0)))]) [((u.1 1), .inl (gC G 0, 14, .inl (fun _ => 0)))]) [((u.1 2), .inl (gC G 6, 14, .inr (.inr (.inr (.inr (fun i => if i < 14 then some ((u.2 0) i) else none))))))]) (rwl 14 (u.2 0) (.inl (gC G 0, 14, .inl (fun _ => 0))))) [((u.1 3), .inl (gC G 0, 201, .inl (fun _ => 0)))]) [((u.1 4), .inl (gC G 0, 15, .inl (fun _ => 0)))])
theorem df_X8 : ∀ j, j < 9 → defaultValue (tyX8 j) = vp_V [.null, .null, .null, .null, .null, .int 0, .int 0, .int 0, .int 0] j := by
  intro j hj
  match j, hj with
  | 0, _ => rfl
  | 1, _ => rfl
  | 2, _ => rfl
  | 3, _ => rfl
  | 4, _ => rfl
  | 5, _ => rfl
  | 6, _ => rfl
  | 7, _ => rfl
  | 8, _ => rfl
set_option maxRecDepth 20000 in
set_option maxHeartbeats 4000000 in
theorem c_st_init (G : Gx) {d : Nat} (b : Nat) : ConB G M_st_init (d + 1) [.ref b] [(b, .inr (8, [.null, .null, .null, .null, .null, .int 0, .int 0, .int 0, .int 0]))] (w_st_init G b) 19 454 := by
  refine ConB.of ⟨by decide, rfl, Nat.le_of_ble_eq_true rfl⟩ rfl (fun X hG hX hc hz hret => ?_)
  subst hG
  show BW X 0 [(0, .ref b)] [] ((b, .inr (8, [.null, .null, .null, .null, .null, .int 0, .int 0, .int 0, .int 0])) :: []) 0 0
  refine b_aload_n hX dX8_init_0 0 rfl ?_
  refine b_obj hX kOl_X8_3 kOi kOc dX8_init_1 ?_
  refine b_aload_n hX dX8_init_4 0 rfl ?_
  refine b_bipush hX (14 : Int32) dX8_init_5 rfl ?_
  refine b_newa (atype := .int) hX 0 kA_int rfl rfl (a0 := (14, .inl (fun _ => 0))) (ha_int 14) (by decide) (N' := 14) rfl (by decide) (by rw [hc]; decide) (by rw [hz]; decide) dX8_init_7 (fun a7 => ?_)
  show BW X 9 _ _ ((b, .inr (8, [.null, .null, .null, .null, .null, .int 0, .int 0, .int 0, .int 0])) :: (apW ([]) [(a7, .inl (gC (xG X) 0, 14, .inl (fun _ => 0)))])) 1 14
  refine b_putF hX rfl fl_X8_9 ff_X8_0 (q0 := 0) rfl rfl rfl rfl (ws' := (b, .inr (8, [.ref (a7), .null, .null, .null, .null, .int 0, .int 0, .int 0, .int 0])) :: (apW ([]) [(a7, .inl (gC (xG X) 0, 14, .inl (fun _ => 0)))])) rfl dX8_init_9 ?_
  refine b_aload_n hX dX8_init_12 0 rfl ?_
  refine b_bipush hX (14 : Int32) dX8_init_13 rfl ?_
  refine b_newa (atype := .int) hX 0 kA_int rfl rfl (a0 := (14, .inl (fun _ => 0))) (ha_int 14) (by decide) (N' := 14) rfl (by decide) (by rw [hc]; decide) (by rw [hz]; decide) dX8_init_15 (fun a15 => ?_)
  show BW X 17 _ _ ((b, .inr (8, [.ref (a7), .null, .null, .null, .null, .int 0, .int 0, .int 0, .int 0])) :: (apW (apW ([]) [(a7, .inl (gC (xG X) 0, 14, .inl (fun _ => 0)))]) [(a15, .inl (gC (xG X) 0, 14, .inl (fun _ => 0)))])) 2 28
  refine b_putF hX rfl fl_X8_15 ff_X8_1 (q0 := 0) rfl rfl rfl rfl (ws' := (b, .inr (8, [.ref (a7), .ref (a15), .null, .null, .null, .int 0, .int 0, .int 0, .int 0])) :: (apW (apW ([]) [(a7, .inl (gC (xG X) 0, 14, .inl (fun _ => 0)))]) [(a15, .inl (gC (xG X) 0, 14, .inl (fun _ => 0)))])) rfl dX8_init_17 ?_
  refine b_aload_n hX dX8_init_20 0 rfl ?_
  refine b_bipush hX (14 : Int32) dX8_init_21 rfl ?_
  refine b_bipush hX (14 : Int32) dX8_init_23 rfl ?_
  refine b_mna hX (t0 := 6) (t1 := 0) (ty := .int) (N' := 14) (K' := 14) (z0 := (14, .inl (fun _ => 0))) kCl_X8_18 kAO_int kA_int rfl rfl (fun _ _ h => h) (by decide) (by decide) rfl rfl (by decide) (by decide) (by decide) rfl rfl (by rw [hc]; decide) (by rw [hz]; decide) (fun _ => inn_int14) dX8_init_25 (fun a25 r25 => ?_)
  show BW X 29 _ _ ((b, .inr (8, [.ref (a7), .ref (a15), .null, .null, .null, .int 0, .int 0, .int 0, .int 0])) :: (apW (apW (apW (apW ([]) [(a7, .inl (gC (xG X) 0, 14, .inl (fun _ => 0)))]) [(a15, .inl (gC (xG X) 0, 14, .inl (fun _ => 0)))]) [(a25, .inl (gC (xG X) 6, 14, .inr (.inr (.inr (.inr (fun i => if i < 14 then some (r25 i) else none))))))]) (rwl 14 r25 (.inl (gC (xG X) 0, 14, .inl (fun _ => 0)))))) 17 238
  refine b_putF hX rfl fl_X8_20 ff_X8_2 (q0 := 0) rfl rfl rfl rfl (ws' := (b, .inr (8, [.ref (a7), .ref (a15), .ref (a25), .null, .null, .int 0, .int 0, .int 0, .int 0])) :: (apW (apW (apW (apW ([]) [(a7, .inl (gC (xG X) 0, 14, .inl (fun _ => 0)))]) [(a15, .inl (gC (xG X) 0, 14, .inl (fun _ => 0)))]) [(a25, .inl (gC (xG X) 6, 14, .inr (.inr (.inr (.inr (fun i => if i < 14 then some (r25 i) else none))))))]) (rwl 14 r25 (.inl (gC (xG X) 0, 14, .inl (fun _ => 0)))))) rfl dX8_init_29 ?_
  refine b_aload_n hX dX8_init_32 0 rfl ?_
  refine b_sipush hX (201 : Int32) dX8_init_33 rfl ?_
  refine b_newa (atype := .int) hX 0 kA_int rfl rfl (a0 := (201, .inl (fun _ => 0))) (ha_int 201) (by decide) (N' := 201) rfl (by decide) (by rw [hc]; decide) (by rw [hz]; decide) dX8_init_36 (fun a36 => ?_)
  show BW X 38 _ _ ((b, .inr (8, [.ref (a7), .ref (a15), .ref (a25), .null, .null, .int 0, .int 0, .int 0, .int 0])) :: (apW (apW (apW (apW (apW ([]) [(a7, .inl (gC (xG X) 0, 14, .inl (fun _ => 0)))]) [(a15, .inl (gC (xG X) 0, 14, .inl (fun _ => 0)))]) [(a25, .inl (gC (xG X) 6, 14, .inr (.inr (.inr (.inr (fun i => if i < 14 then some (r25 i) else none))))))]) (rwl 14 r25 (.inl (gC (xG X) 0, 14, .inl (fun _ => 0))))) [(a36, .inl (gC (xG X) 0, 201, .inl (fun _ => 0)))])) 18 439
  refine b_putF hX rfl fl_X8_23 ff_X8_3 (q0 := 0) rfl rfl rfl rfl (ws' := (b, .inr (8, [.ref (a7), .ref (a15), .ref (a25), .ref (a36), .null, .int 0, .int 0, .int 0, .int 0])) :: (apW (apW (apW (apW (apW ([]) [(a7, .inl (gC (xG X) 0, 14, .inl (fun _ => 0)))]) [(a15, .inl (gC (xG X) 0, 14, .inl (fun _ => 0)))]) [(a25, .inl (gC (xG X) 6, 14, .inr (.inr (.inr (.inr (fun i => if i < 14 then some (r25 i) else none))))))]) (rwl 14 r25 (.inl (gC (xG X) 0, 14, .inl (fun _ => 0))))) [(a36, .inl (gC (xG X) 0, 201, .inl (fun _ => 0)))])) rfl dX8_init_38 ?_
  refine b_aload_n hX dX8_init_41 0 rfl ?_
  refine b_bipush hX (15 : Int32) dX8_init_42 rfl ?_
  refine b_newa (atype := .int) hX 0 kA_int rfl rfl (a0 := (15, .inl (fun _ => 0))) (ha_int 15) (by decide) (N' := 15) rfl (by decide) (by rw [hc]; decide) (by rw [hz]; decide) dX8_init_44 (fun a44 => ?_)
  show BW X 46 _ _ ((b, .inr (8, [.ref (a7), .ref (a15), .ref (a25), .ref (a36), .null, .int 0, .int 0, .int 0, .int 0])) :: (apW (apW (apW (apW (apW (apW ([]) [(a7, .inl (gC (xG X) 0, 14, .inl (fun _ => 0)))]) [(a15, .inl (gC (xG X) 0, 14, .inl (fun _ => 0)))]) [(a25, .inl (gC (xG X) 6, 14, .inr (.inr (.inr (.inr (fun i => if i < 14 then some (r25 i) else none))))))]) (rwl 14 r25 (.inl (gC (xG X) 0, 14, .inl (fun _ => 0))))) [(a36, .inl (gC (xG X) 0, 201, .inl (fun _ => 0)))]) [(a44, .inl (gC (xG X) 0, 15, .inl (fun _ => 0)))])) 19 454
  refine b_putF hX rfl fl_X8_26 ff_X8_4 (q0 := 0) rfl rfl rfl rfl (ws' := (b, .inr (8, [.ref (a7), .ref (a15), .ref (a25), .ref (a36), .ref (a44), .int 0, .int 0, .int 0, .int 0])) :: (apW (apW (apW (apW (apW (apW ([]) [(a7, .inl (gC (xG X) 0, 14, .inl (fun _ => 0)))]) [(a15, .inl (gC (xG X) 0, 14, .inl (fun _ => 0)))]) [(a25, .inl (gC (xG X) 6, 14, .inr (.inr (.inr (.inr (fun i => if i < 14 then some (r25 i) else none))))))]) (rwl 14 r25 (.inl (gC (xG X) 0, 14, .inl (fun _ => 0))))) [(a36, .inl (gC (xG X) 0, 201, .inl (fun _ => 0)))]) [(a44, .inl (gC (xG X) 0, 15, .inl (fun _ => 0)))])) rfl dX8_init_46 ?_
  refine b_aload_n hX dX8_init_49 0 rfl ?_
  refine b_iconst hX (1 : Int32) dX8_init_50 rfl ?_
  refine b_put hX fl_X8_29 ft_X8_8 (q0 := 0) rfl rfl rfl rfl (ws' := (b, .inr (8, [.ref (a7), .ref (a15), .ref (a25), .ref (a36), .ref (a44), .int 0, .int 0, .int 0, .int 1])) :: (apW (apW (apW (apW (apW (apW ([]) [(a7, .inl (gC (xG X) 0, 14, .inl (fun _ => 0)))]) [(a15, .inl (gC (xG X) 0, 14, .inl (fun _ => 0)))]) [(a25, .inl (gC (xG X) 6, 14, .inr (.inr (.inr (.inr (fun i => if i < 14 then some (r25 i) else none))))))]) (rwl 14 r25 (.inl (gC (xG X) 0, 14, .inl (fun _ => 0))))) [(a36, .inl (gC (xG X) 0, 201, .inl (fun _ => 0)))]) [(a44, .inl (gC (xG X) 0, 15, .inl (fun _ => 0)))])) rfl dX8_init_51 ?_
  exact hret _ _ (fun i => [a7, a15, a25, a36, a44].getD i 0, fun i => [r25].getD i (fun _ => 0)) dX8_init_54
theorem kOl_X9_3 : Cond.methodLink RX9 3 Lib.objectInit ∈ tbG := mG (tt1 (List.mem_of_getElem? (i := 138) rfl)) rfl
theorem ff_X9_0 : FTf RX9 (RX9, TX9, 7) 0 tyX9 (.object "MoreThanHalf$Street") := ⟨tyX9_ok, nmX9, rfl, by decide +kernel, rfl⟩
theorem dX9_init_0 : decode cX9_init 0 = .ok (.aload_n 0, 1) := by decide +kernel
theorem dX9_init_1 : decode cX9_init 1 = .ok (.invokespecial 3, 3) := by decide +kernel
theorem dX9_init_4 : decode cX9_init 4 = .ok (.aload_n 0, 1) := by decide +kernel
theorem dX9_init_5 : decode cX9_init 5 = .ok (.aload_n 1, 1) := by decide +kernel
theorem dX9_init_6 : decode cX9_init 6 = .ok (.putfield 9, 3) := by decide +kernel
theorem dX9_init_9 : decode cX9_init 9 = .ok (.aload_n 0, 1) := by decide +kernel
theorem dX9_init_10 : decode cX9_init 10 = .ok (.iconst 0, 1) := by decide +kernel
theorem dX9_init_11 : decode cX9_init 11 = .ok (.newarray .int, 2) := by decide +kernel
theorem dX9_init_13 : decode cX9_init 13 = .ok (.putfield 15, 3) := by decide +kernel
theorem dX9_init_16 : decode cX9_init 16 = .ok (.return_, 1) := by decide +kernel
abbrev w_sr_init (G : Gx) (b : Nat) (p1 : Nat) (u : Nw) : va_W := (b, .inr (9, [.ref (p1), .ref ((u.1 0)), .int 0, .int 0, .int 0, .int 0, .int 0])) :: (apW ([]) [((u.1 0), .inl (gC G 0, 0, .inl (fun _ => 0)))])
theorem df_X9 : ∀ j, j < 7 → defaultValue (tyX9 j) = vp_V [.null, .null, .int 0, .int 0, .int 0, .int 0, .int 0] j := by
  intro j hj
  match j, hj with
  | 0, _ => rfl
  | 1, _ => rfl
  | 2, _ => rfl
  | 3, _ => rfl
  | 4, _ => rfl
  | 5, _ => rfl
  | 6, _ => rfl
set_option maxRecDepth 20000 in
set_option maxHeartbeats 4000000 in
theorem c_sr_init (G : Gx) {d : Nat} (b : Nat) (p1 : Nat) : ConB G M_sr_init (d + 1) [.ref b, .ref p1] [(b, .inr (9, [.null, .null, .int 0, .int 0, .int 0, .int 0, .int 0]))] (w_sr_init G b p1) 1 0 := by
  refine ConB.of ⟨by decide, rfl, Nat.le_of_ble_eq_true rfl⟩ rfl (fun X hG hX hc hz hret => ?_)
  subst hG
  show BW X 0 [(0, .ref b), (1, .ref p1)] [] ((b, .inr (9, [.null, .null, .int 0, .int 0, .int 0, .int 0, .int 0])) :: []) 0 0
  refine b_aload_n hX dX9_init_0 0 rfl ?_
  refine b_obj hX kOl_X9_3 kOi kOc dX9_init_1 ?_
  refine b_aload_n hX dX9_init_4 0 rfl ?_
  refine b_aload_n hX dX9_init_5 1 rfl ?_
  refine b_putF hX rfl fl_X9_9 ff_X9_0 (q0 := 0) rfl rfl rfl rfl (ws' := (b, .inr (9, [.ref (p1), .null, .int 0, .int 0, .int 0, .int 0, .int 0])) :: ([])) rfl dX9_init_6 ?_
  refine b_aload_n hX dX9_init_9 0 rfl ?_
  refine b_iconst hX (0 : Int32) dX9_init_10 rfl ?_
  refine b_newa (atype := .int) hX 0 kA_int rfl rfl (a0 := (0, .inl (fun _ => 0))) (ha_int 0) (by decide) (N' := 0) rfl (by decide) (by rw [hc]; decide) (by rw [hz]; decide) dX9_init_11 (fun a11 => ?_)
  show BW X 13 _ _ ((b, .inr (9, [.ref (p1), .null, .int 0, .int 0, .int 0, .int 0, .int 0])) :: (apW ([]) [(a11, .inl (gC (xG X) 0, 0, .inl (fun _ => 0)))])) 1 0
  refine b_put hX fl_X9_15 ft_X9_1 (q0 := 0) rfl rfl rfl rfl (ws' := (b, .inr (9, [.ref (p1), .ref (a11), .int 0, .int 0, .int 0, .int 0, .int 0])) :: (apW ([]) [(a11, .inl (gC (xG X) 0, 0, .inl (fun _ => 0)))])) rfl dX9_init_13 ?_
  exact hret _ _ (fun i => [a11].getD i 0, fun i => [].getD i (fun _ => 0)) dX9_init_16
theorem kOl_X6_3 : Cond.methodLink RX6 3 Lib.objectInit ∈ tbG := mG (tt1 (List.mem_of_getElem? (i := 166) rfl)) rfl
theorem kCl_X6_9 : Cond.classLink RX6 9 RX5 ∈ tbG := mG (tt1 (List.mem_of_getElem? (i := 167) rfl)) rfl
theorem kIn_X5 : Cond.instantiable RX5 4 ∈ tbG := mG (tt1 (List.mem_of_getElem? (i := 114) rfl)) rfl
theorem kIi_X5 : Cond.initialized RX5 ∈ tbG := mG (tt1 (List.mem_of_getElem? (i := 4) rfl)) rfl
theorem cn_X6_9 : CN RX6 9 5 (RX5, TX5, 4) tyX5 := ⟨kCl_X6_9, kIn_X5, kIi_X5, inX5, rfl, tyX5_ok⟩
theorem kMl_X6_11 : Cond.methodLinkNest RX6 11 yX5_init "MoreThanHalf" ∈ tbE := mE (tt1 (List.mem_of_getElem? (i := 168) rfl)) rfl
theorem kMc_X5 : mdCode M_ru_init ∈ tbG := mG (tt1 (List.mem_of_getElem? (i := 117) rfl)) rfl
theorem kIm_X5 : Cond.instanceMethod yX5_init ∈ tbG := mG (tt1 (List.mem_of_getElem? (i := 116) rfl)) rfl
theorem ci_X6_11 : CI RX6 11 M_ru_init 0 := ⟨Or.inr ⟨_, kMl_X6_11⟩, kMc_X5, kIi_X5, kIm_X5, rfl, ⟨by decide, by decide, by decide +kernel⟩, rfl, rfl⟩
theorem ff_X6_0 : FTf RX6 (RX6, TX6, 5) 0 tyX6 (.array (.object "MoreThanHalf$Rule")) := ⟨tyX6_ok, nmX6, rfl, by decide +kernel, rfl⟩
theorem dX6_init_0 : decode cX6_init 0 = .ok (.aload_n 0, 1) := by decide +kernel
theorem dX6_init_1 : decode cX6_init 1 = .ok (.invokespecial 3, 3) := by decide +kernel
theorem dX6_init_4 : decode cX6_init 4 = .ok (.aload_n 0, 1) := by decide +kernel
theorem dX6_init_5 : decode cX6_init 5 = .ok (.new 9, 3) := by decide +kernel
theorem dX6_init_8 : decode cX6_init 8 = .ok (.dup, 1) := by decide +kernel
theorem dX6_init_9 : decode cX6_init 9 = .ok (.invokespecial 11, 3) := by decide +kernel
theorem dX6_init_12 : decode cX6_init 12 = .ok (.putfield 12, 3) := by decide +kernel
theorem dX6_init_15 : decode cX6_init 15 = .ok (.aload_n 0, 1) := by decide +kernel
theorem dX6_init_16 : decode cX6_init 16 = .ok (.aload_n 1, 1) := by decide +kernel
theorem dX6_init_17 : decode cX6_init 17 = .ok (.putfield 18, 3) := by decide +kernel
theorem dX6_init_20 : decode cX6_init 20 = .ok (.aload_n 0, 1) := by decide +kernel
theorem dX6_init_21 : decode cX6_init 21 = .ok (.iconst 0, 1) := by decide +kernel
theorem dX6_init_22 : decode cX6_init 22 = .ok (.newarray .int, 2) := by decide +kernel
theorem dX6_init_24 : decode cX6_init 24 = .ok (.putfield 22, 3) := by decide +kernel
theorem dX6_init_27 : decode cX6_init 27 = .ok (.return_, 1) := by decide +kernel
abbrev w_rr_init (G : Gx) (b : Nat) (p1 : Nat) (u : Nw) : va_W := (b, .inr (6, [.ref (p1), .ref ((u.1 0)), .ref ((u.1 3)), .int 0, .int 0])) :: (apW (apW ([]) (w_ru_init G (u.1 0) (shU u 1 0))) [((u.1 3), .inl (gC G 0, 0, .inl (fun _ => 0)))])
theorem df_X6 : ∀ j, j < 5 → defaultValue (tyX6 j) = vp_V [.null, .null, .null, .int 0, .int 0] j := by
  intro j hj
  match j, hj with
  | 0, _ => rfl
  | 1, _ => rfl
  | 2, _ => rfl
  | 3, _ => rfl
  | 4, _ => rfl
set_option maxRecDepth 20000 in
set_option maxHeartbeats 4000000 in
theorem c_rr_init (G : Gx) {d : Nat} (b : Nat) (p1 : Nat) : ConB G M_rr_init (d + 2) [.ref b, .ref p1] [(b, .inr (6, [.null, .null, .null, .int 0, .int 0]))] (w_rr_init G b p1) 4 84 := by
  refine ConB.of ⟨by decide, rfl, Nat.le_of_ble_eq_true rfl⟩ rfl (fun X hG hX hc hz hret => ?_)
  subst hG
  show BW X 0 [(0, .ref b), (1, .ref p1)] [] ((b, .inr (6, [.null, .null, .null, .int 0, .int 0])) :: []) 0 0
  refine b_aload_n hX dX6_init_0 0 rfl ?_
  refine b_obj hX kOl_X6_3 kOi kOc dX6_init_1 ?_
  refine b_aload_n hX dX6_init_4 0 rfl ?_
  refine b_new hX (fs := [.null, .null, .int 0, .int 0]) cn_X6_9 (df_X5) (by rw [hc]; decide) (by rw [hz]; decide) dX6_init_5 (fun a5 => ?_)
  show BW X 8 _ _ ((b, .inr (6, [.null, .null, .null, .int 0, .int 0])) :: (apW ([]) [(a5, .inr (5, [.null, .null, .int 0, .int 0]))])) 1 4
  refine b_dup hX dX6_init_8 ?_
  refine b_init (d := d + 1) hX (wr := (b, .inr (6, [.null, .null, .null, .int 0, .int 0])) :: ([])) (c_ru_init (xG X) (d := d + 0) a5) ci_X6_11 (st := [.ref (a5), .ref (b)]) rfl rfl rfl (by rw [hc]; decide) (by rw [hz]; decide) dX6_init_9 rfl (fun u9 => ?_)
  show BW X 12 _ _ ((b, .inr (6, [.null, .null, .null, .int 0, .int 0])) :: (apW ([]) (w_ru_init (xG X) a5 u9))) 3 84
  refine b_put hX fl_X6_12 ft_X6_1 (q0 := 0) rfl rfl rfl rfl (ws' := (b, .inr (6, [.null, .ref (a5), .null, .int 0, .int 0])) :: (apW ([]) (w_ru_init (xG X) a5 u9))) rfl dX6_init_12 ?_
  refine b_aload_n hX dX6_init_15 0 rfl ?_
  refine b_aload_n hX dX6_init_16 1 rfl ?_
  refine b_putF hX rfl fl_X6_18 ff_X6_0 (q0 := 0) rfl rfl rfl rfl (ws' := (b, .inr (6, [.ref (p1), .ref (a5), .null, .int 0, .int 0])) :: (apW ([]) (w_ru_init (xG X) a5 u9))) rfl dX6_init_17 ?_
  refine b_aload_n hX dX6_init_20 0 rfl ?_
  refine b_iconst hX (0 : Int32) dX6_init_21 rfl ?_
  refine b_newa (atype := .int) hX 0 kA_int rfl rfl (a0 := (0, .inl (fun _ => 0))) (ha_int 0) (by decide) (N' := 0) rfl (by decide) (by rw [hc]; decide) (by rw [hz]; decide) dX6_init_22 (fun a22 => ?_)
  show BW X 24 _ _ ((b, .inr (6, [.ref (p1), .ref (a5), .null, .int 0, .int 0])) :: (apW (apW ([]) (w_ru_init (xG X) a5 u9)) [(a22, .inl (gC (xG X) 0, 0, .inl (fun _ => 0)))])) 4 84
  refine b_put hX fl_X6_22 ft_X6_2 (q0 := 0) rfl rfl rfl rfl (ws' := (b, .inr (6, [.ref (p1), .ref (a5), .ref (a22), .int 0, .int 0])) :: (apW (apW ([]) (w_ru_init (xG X) a5 u9)) [(a22, .inl (gC (xG X) 0, 0, .inl (fun _ => 0)))])) rfl dX6_init_24 ?_
  exact hret _ _ (fun i => [a5, u9.1 0, u9.1 1, a22].getD i 0, fun i => [].getD i (fun _ => 0)) dX6_init_27
theorem kOl_X3_3 : Cond.methodLink RX3 3 Lib.objectInit ∈ tbG := mG (tt2 (List.mem_of_getElem? (i := 3) rfl)) rfl
theorem ff_X3_0 : FTf RX3 (RX3, TX3, 10) 0 tyX3 (.object "MoreThanHalf$Street") := ⟨tyX3_ok, nmX3, rfl, by decide +kernel, rfl⟩
theorem ff_X3_1 : FTf RX3 (RX3, TX3, 10) 1 tyX3 (.object "MoreThanHalf$Hearing") := ⟨tyX3_ok, nmX3, rfl, by decide +kernel, rfl⟩
theorem ff_X3_2 : FTf RX3 (RX3, TX3, 10) 2 tyX3 (.object "MoreThanHalf$Memo") := ⟨tyX3_ok, nmX3, rfl, by decide +kernel, rfl⟩
theorem ff_X3_3 : FTf RX3 (RX3, TX3, 10) 3 tyX3 (.object "MoreThanHalf$Row") := ⟨tyX3_ok, nmX3, rfl, by decide +kernel, rfl⟩
theorem dX3_init_0 : decode cX3_init 0 = .ok (.aload_n 0, 1) := by decide +kernel
theorem dX3_init_1 : decode cX3_init 1 = .ok (.invokespecial 3, 3) := by decide +kernel
theorem dX3_init_4 : decode cX3_init 4 = .ok (.aload_n 0, 1) := by decide +kernel
theorem dX3_init_5 : decode cX3_init 5 = .ok (.aload_n 1, 1) := by decide +kernel
theorem dX3_init_6 : decode cX3_init 6 = .ok (.putfield 9, 3) := by decide +kernel
theorem dX3_init_9 : decode cX3_init 9 = .ok (.aload_n 0, 1) := by decide +kernel
theorem dX3_init_10 : decode cX3_init 10 = .ok (.aload_n 2, 1) := by decide +kernel
theorem dX3_init_11 : decode cX3_init 11 = .ok (.putfield 15, 3) := by decide +kernel
theorem dX3_init_14 : decode cX3_init 14 = .ok (.aload_n 0, 1) := by decide +kernel
theorem dX3_init_15 : decode cX3_init 15 = .ok (.aload_n 3, 1) := by decide +kernel
theorem dX3_init_16 : decode cX3_init 16 = .ok (.putfield 19, 3) := by decide +kernel
theorem dX3_init_19 : decode cX3_init 19 = .ok (.aload_n 0, 1) := by decide +kernel
theorem dX3_init_20 : decode cX3_init 20 = .ok (.aload 4, 2) := by decide +kernel
theorem dX3_init_22 : decode cX3_init 22 = .ok (.putfield 23, 3) := by decide +kernel
theorem dX3_init_25 : decode cX3_init 25 = .ok (.return_, 1) := by decide +kernel
abbrev w_ob_init (G : Gx) (b : Nat) (p1 : Nat) (p2 : Nat) (p3 : Nat) (p4 : Nat) (u : Nw) : va_W := (b, .inr (3, [.ref (p1), .ref (p2), .ref (p3), .ref (p4), .int 0, .int 0, .int 0, .int 0, .int 0, .int 0])) :: ([])
theorem df_X3 : ∀ j, j < 10 → defaultValue (tyX3 j) = vp_V [.null, .null, .null, .null, .int 0, .int 0, .int 0, .int 0, .int 0, .int 0] j := by
  intro j hj
  match j, hj with
  | 0, _ => rfl
  | 1, _ => rfl
  | 2, _ => rfl
  | 3, _ => rfl
  | 4, _ => rfl
  | 5, _ => rfl
  | 6, _ => rfl
  | 7, _ => rfl
  | 8, _ => rfl
  | 9, _ => rfl
set_option maxRecDepth 20000 in
set_option maxHeartbeats 4000000 in
theorem c_ob_init (G : Gx) {d : Nat} (b : Nat) (p1 : Nat) (p2 : Nat) (p3 : Nat) (p4 : Nat) : ConB G M_ob_init (d + 1) [.ref b, .ref p1, .ref p2, .ref p3, .ref p4] [(b, .inr (3, [.null, .null, .null, .null, .int 0, .int 0, .int 0, .int 0, .int 0, .int 0]))] (w_ob_init G b p1 p2 p3 p4) 0 0 := by
  refine ConB.of ⟨by decide, rfl, Nat.le_of_ble_eq_true rfl⟩ rfl (fun X hG hX hc hz hret => ?_)
  subst hG
  show BW X 0 [(0, .ref b), (1, .ref p1), (2, .ref p2), (3, .ref p3), (4, .ref p4)] [] ((b, .inr (3, [.null, .null, .null, .null, .int 0, .int 0, .int 0, .int 0, .int 0, .int 0])) :: []) 0 0
  refine b_aload_n hX dX3_init_0 0 rfl ?_
  refine b_obj hX kOl_X3_3 kOi kOc dX3_init_1 ?_
  refine b_aload_n hX dX3_init_4 0 rfl ?_
  refine b_aload_n hX dX3_init_5 1 rfl ?_
  refine b_putF hX rfl fl_X3_9 ff_X3_0 (q0 := 0) rfl rfl rfl rfl (ws' := (b, .inr (3, [.ref (p1), .null, .null, .null, .int 0, .int 0, .int 0, .int 0, .int 0, .int 0])) :: ([])) rfl dX3_init_6 ?_
  refine b_aload_n hX dX3_init_9 0 rfl ?_
  refine b_aload_n hX dX3_init_10 2 rfl ?_
  refine b_putF hX rfl fl_X3_15 ff_X3_1 (q0 := 0) rfl rfl rfl rfl (ws' := (b, .inr (3, [.ref (p1), .ref (p2), .null, .null, .int 0, .int 0, .int 0, .int 0, .int 0, .int 0])) :: ([])) rfl dX3_init_11 ?_
  refine b_aload_n hX dX3_init_14 0 rfl ?_
  refine b_aload_n hX dX3_init_15 3 rfl ?_
  refine b_putF hX rfl fl_X3_19 ff_X3_2 (q0 := 0) rfl rfl rfl rfl (ws' := (b, .inr (3, [.ref (p1), .ref (p2), .ref (p3), .null, .int 0, .int 0, .int 0, .int 0, .int 0, .int 0])) :: ([])) rfl dX3_init_16 ?_
  refine b_aload_n hX dX3_init_19 0 rfl ?_
  refine b_aload hX dX3_init_20 4 rfl ?_
  refine b_putF hX rfl fl_X3_23 ff_X3_3 (q0 := 0) rfl rfl rfl rfl (ws' := (b, .inr (3, [.ref (p1), .ref (p2), .ref (p3), .ref (p4), .int 0, .int 0, .int 0, .int 0, .int 0, .int 0])) :: ([])) rfl dX3_init_22 ?_
  exact hret _ _ (fun i => [].getD i 0, fun i => [].getD i (fun _ => 0)) dX3_init_25
theorem kOl_X10_3 : Cond.methodLink RX10 3 Lib.objectInit ∈ tbG := mG (tt2 (List.mem_of_getElem? (i := 46) rfl)) rfl
theorem ff_X10_0 : FTf RX10 (RX10, TX10, 7) 0 tyX10 (.object "MoreThanHalf$Street") := ⟨tyX10_ok, nmX10, rfl, by decide +kernel, rfl⟩
theorem ff_X10_1 : FTf RX10 (RX10, TX10, 7) 1 tyX10 (.object "MoreThanHalf$Hearing") := ⟨tyX10_ok, nmX10, rfl, by decide +kernel, rfl⟩
theorem ff_X10_2 : FTf RX10 (RX10, TX10, 7) 2 tyX10 (.object "MoreThanHalf$Memo") := ⟨tyX10_ok, nmX10, rfl, by decide +kernel, rfl⟩
theorem ff_X10_3 : FTf RX10 (RX10, TX10, 7) 3 tyX10 (.object "MoreThanHalf$Row") := ⟨tyX10_ok, nmX10, rfl, by decide +kernel, rfl⟩
theorem dX10_init_0 : decode cX10_init 0 = .ok (.aload_n 0, 1) := by decide +kernel
theorem dX10_init_1 : decode cX10_init 1 = .ok (.invokespecial 3, 3) := by decide +kernel
theorem dX10_init_4 : decode cX10_init 4 = .ok (.aload_n 0, 1) := by decide +kernel
theorem dX10_init_5 : decode cX10_init 5 = .ok (.aload_n 1, 1) := by decide +kernel
theorem dX10_init_6 : decode cX10_init 6 = .ok (.putfield 9, 3) := by decide +kernel
theorem dX10_init_9 : decode cX10_init 9 = .ok (.aload_n 0, 1) := by decide +kernel
theorem dX10_init_10 : decode cX10_init 10 = .ok (.aload_n 2, 1) := by decide +kernel
theorem dX10_init_11 : decode cX10_init 11 = .ok (.putfield 15, 3) := by decide +kernel
theorem dX10_init_14 : decode cX10_init 14 = .ok (.aload_n 0, 1) := by decide +kernel
theorem dX10_init_15 : decode cX10_init 15 = .ok (.aload_n 3, 1) := by decide +kernel
theorem dX10_init_16 : decode cX10_init 16 = .ok (.putfield 19, 3) := by decide +kernel
theorem dX10_init_19 : decode cX10_init 19 = .ok (.aload_n 0, 1) := by decide +kernel
theorem dX10_init_20 : decode cX10_init 20 = .ok (.aload 4, 2) := by decide +kernel
theorem dX10_init_22 : decode cX10_init 22 = .ok (.putfield 23, 3) := by decide +kernel
theorem dX10_init_25 : decode cX10_init 25 = .ok (.return_, 1) := by decide +kernel
abbrev w_ta_init (G : Gx) (b : Nat) (p1 : Nat) (p2 : Nat) (p3 : Nat) (p4 : Nat) (u : Nw) : va_W := (b, .inr (10, [.ref (p1), .ref (p2), .ref (p3), .ref (p4), .int 0, .int 0, .int 0])) :: ([])
theorem df_X10 : ∀ j, j < 7 → defaultValue (tyX10 j) = vp_V [.null, .null, .null, .null, .int 0, .int 0, .int 0] j := by
  intro j hj
  match j, hj with
  | 0, _ => rfl
  | 1, _ => rfl
  | 2, _ => rfl
  | 3, _ => rfl
  | 4, _ => rfl
  | 5, _ => rfl
  | 6, _ => rfl
set_option maxRecDepth 20000 in
set_option maxHeartbeats 4000000 in
theorem c_ta_init (G : Gx) {d : Nat} (b : Nat) (p1 : Nat) (p2 : Nat) (p3 : Nat) (p4 : Nat) : ConB G M_ta_init (d + 1) [.ref b, .ref p1, .ref p2, .ref p3, .ref p4] [(b, .inr (10, [.null, .null, .null, .null, .int 0, .int 0, .int 0]))] (w_ta_init G b p1 p2 p3 p4) 0 0 := by
  refine ConB.of ⟨by decide, rfl, Nat.le_of_ble_eq_true rfl⟩ rfl (fun X hG hX hc hz hret => ?_)
  subst hG
  show BW X 0 [(0, .ref b), (1, .ref p1), (2, .ref p2), (3, .ref p3), (4, .ref p4)] [] ((b, .inr (10, [.null, .null, .null, .null, .int 0, .int 0, .int 0])) :: []) 0 0
  refine b_aload_n hX dX10_init_0 0 rfl ?_
  refine b_obj hX kOl_X10_3 kOi kOc dX10_init_1 ?_
  refine b_aload_n hX dX10_init_4 0 rfl ?_
  refine b_aload_n hX dX10_init_5 1 rfl ?_
  refine b_putF hX rfl fl_X10_9 ff_X10_0 (q0 := 0) rfl rfl rfl rfl (ws' := (b, .inr (10, [.ref (p1), .null, .null, .null, .int 0, .int 0, .int 0])) :: ([])) rfl dX10_init_6 ?_
  refine b_aload_n hX dX10_init_9 0 rfl ?_
  refine b_aload_n hX dX10_init_10 2 rfl ?_
  refine b_putF hX rfl fl_X10_15 ff_X10_1 (q0 := 0) rfl rfl rfl rfl (ws' := (b, .inr (10, [.ref (p1), .ref (p2), .null, .null, .int 0, .int 0, .int 0])) :: ([])) rfl dX10_init_11 ?_
  refine b_aload_n hX dX10_init_14 0 rfl ?_
  refine b_aload_n hX dX10_init_15 3 rfl ?_
  refine b_putF hX rfl fl_X10_19 ff_X10_2 (q0 := 0) rfl rfl rfl rfl (ws' := (b, .inr (10, [.ref (p1), .ref (p2), .ref (p3), .null, .int 0, .int 0, .int 0])) :: ([])) rfl dX10_init_16 ?_
  refine b_aload_n hX dX10_init_19 0 rfl ?_
  refine b_aload hX dX10_init_20 4 rfl ?_
  refine b_putF hX rfl fl_X10_23 ff_X10_3 (q0 := 0) rfl rfl rfl rfl (ws' := (b, .inr (10, [.ref (p1), .ref (p2), .ref (p3), .ref (p4), .int 0, .int 0, .int 0])) :: ([])) rfl dX10_init_22 ?_
  exact hret _ _ (fun i => [].getD i 0, fun i => [].getD i (fun _ => 0)) dX10_init_25
theorem kOl_X7_3 : Cond.methodLink RX7 3 Lib.objectInit ∈ tbG := mG (tt2 (List.mem_of_getElem? (i := 74) rfl)) rfl
theorem kCl_X7_9 : Cond.classLink RX7 9 ("[" ++ (FieldType.array .int).toString) ∈ tbG := mG (tt2 (List.mem_of_getElem? (i := 75) rfl)) rfl
theorem ff_X7_5 : FTf RX7 (RX7, TX7, 7) 5 tyX7 (.array (.array .int)) := ⟨tyX7_ok, nmX7, rfl, by decide +kernel, rfl⟩
theorem ff_X7_6 : FTf RX7 (RX7, TX7, 7) 6 tyX7 (.array .int) := ⟨tyX7_ok, nmX7, rfl, by decide +kernel, rfl⟩
theorem ff_X7_0 : FTf RX7 (RX7, TX7, 7) 0 tyX7 (.object "MoreThanHalf$Street") := ⟨tyX7_ok, nmX7, rfl, by decide +kernel, rfl⟩
theorem ff_X7_1 : FTf RX7 (RX7, TX7, 7) 1 tyX7 (.object "MoreThanHalf$Hearing") := ⟨tyX7_ok, nmX7, rfl, by decide +kernel, rfl⟩
theorem ff_X7_2 : FTf RX7 (RX7, TX7, 7) 2 tyX7 (.object "MoreThanHalf$Memo") := ⟨tyX7_ok, nmX7, rfl, by decide +kernel, rfl⟩
theorem ff_X7_3 : FTf RX7 (RX7, TX7, 7) 3 tyX7 (.array (.object "MoreThanHalf$Rule")) := ⟨tyX7_ok, nmX7, rfl, by decide +kernel, rfl⟩
theorem ff_X7_4 : FTf RX7 (RX7, TX7, 7) 4 tyX7 (.object "MoreThanHalf$Row") := ⟨tyX7_ok, nmX7, rfl, by decide +kernel, rfl⟩
theorem dX7_init_0 : decode cX7_init 0 = .ok (.aload_n 0, 1) := by decide +kernel
theorem dX7_init_1 : decode cX7_init 1 = .ok (.invokespecial 3, 3) := by decide +kernel
theorem dX7_init_4 : decode cX7_init 4 = .ok (.aload_n 0, 1) := by decide +kernel
theorem dX7_init_5 : decode cX7_init 5 = .ok (.bipush 14, 2) := by decide +kernel
theorem dX7_init_7 : decode cX7_init 7 = .ok (.bipush 7, 2) := by decide +kernel
theorem dX7_init_9 : decode cX7_init 9 = .ok (.multianewarray 9 2, 4) := by decide +kernel
theorem dX7_init_13 : decode cX7_init 13 = .ok (.putfield 11, 3) := by decide +kernel
theorem dX7_init_16 : decode cX7_init 16 = .ok (.aload_n 0, 1) := by decide +kernel
theorem dX7_init_17 : decode cX7_init 17 = .ok (.iconst 2, 1) := by decide +kernel
theorem dX7_init_18 : decode cX7_init 18 = .ok (.newarray .int, 2) := by decide +kernel
theorem dX7_init_20 : decode cX7_init 20 = .ok (.putfield 16, 3) := by decide +kernel
theorem dX7_init_23 : decode cX7_init 23 = .ok (.aload_n 0, 1) := by decide +kernel
theorem dX7_init_24 : decode cX7_init 24 = .ok (.aload_n 1, 1) := by decide +kernel
theorem dX7_init_25 : decode cX7_init 25 = .ok (.putfield 20, 3) := by decide +kernel
theorem dX7_init_28 : decode cX7_init 28 = .ok (.aload_n 0, 1) := by decide +kernel
theorem dX7_init_29 : decode cX7_init 29 = .ok (.aload_n 2, 1) := by decide +kernel
theorem dX7_init_30 : decode cX7_init 30 = .ok (.putfield 24, 3) := by decide +kernel
theorem dX7_init_33 : decode cX7_init 33 = .ok (.aload_n 0, 1) := by decide +kernel
theorem dX7_init_34 : decode cX7_init 34 = .ok (.aload_n 3, 1) := by decide +kernel
theorem dX7_init_35 : decode cX7_init 35 = .ok (.putfield 28, 3) := by decide +kernel
theorem dX7_init_38 : decode cX7_init 38 = .ok (.aload_n 0, 1) := by decide +kernel
theorem dX7_init_39 : decode cX7_init 39 = .ok (.aload 4, 2) := by decide +kernel
theorem dX7_init_41 : decode cX7_init 41 = .ok (.putfield 32, 3) := by decide +kernel
theorem dX7_init_44 : decode cX7_init 44 = .ok (.aload_n 0, 1) := by decide +kernel
theorem dX7_init_45 : decode cX7_init 45 = .ok (.aload 5, 2) := by decide +kernel
theorem dX7_init_47 : decode cX7_init 47 = .ok (.putfield 36, 3) := by decide +kernel
theorem dX7_init_50 : decode cX7_init 50 = .ok (.return_, 1) := by decide +kernel
abbrev w_sh_init (G : Gx) (b : Nat) (p1 : Nat) (p2 : Nat) (p3 : Nat) (p4 : Nat) (p5 : Nat) (u : Nw) : va_W := (b, .inr (7, [.ref (p1), .ref (p2), .ref (p3), .ref (p4), .ref (p5), .ref ((u.1 0)), .ref ((u.1 1))])) :: (apW (apW (apW ([]) [((u.1 0), .inl (gC G 6, 14, .inr (.inr (.inr (.inr (fun i => if i < 14 then some ((u.2 0) i) else none))))))]) (rwl 14 (u.2 0) (.inl (gC G 0, 7, .inl (fun _ => 0))))) [((u.1 1), .inl (gC G 0, 2, .inl (fun _ => 0)))])
theorem df_X7 : ∀ j, j < 7 → defaultValue (tyX7 j) = vp_V [.null, .null, .null, .null, .null, .null, .null] j := by
  intro j hj
  match j, hj with
  | 0, _ => rfl
  | 1, _ => rfl
  | 2, _ => rfl
  | 3, _ => rfl
  | 4, _ => rfl
  | 5, _ => rfl
  | 6, _ => rfl
set_option maxRecDepth 20000 in
set_option maxHeartbeats 4000000 in
theorem c_sh_init (G : Gx) {d : Nat} (b : Nat) (p1 : Nat) (p2 : Nat) (p3 : Nat) (p4 : Nat) (p5 : Nat) : ConB G M_sh_init (d + 1) [.ref b, .ref p1, .ref p2, .ref p3, .ref p4, .ref p5] [(b, .inr (7, [.null, .null, .null, .null, .null, .null, .null]))] (w_sh_init G b p1 p2 p3 p4 p5) 16 114 := by
  refine ConB.of ⟨by decide, rfl, Nat.le_of_ble_eq_true rfl⟩ rfl (fun X hG hX hc hz hret => ?_)
  subst hG
  show BW X 0 [(0, .ref b), (1, .ref p1), (2, .ref p2), (3, .ref p3), (4, .ref p4), (5, .ref p5)] [] ((b, .inr (7, [.null, .null, .null, .null, .null, .null, .null])) :: []) 0 0
  refine b_aload_n hX dX7_init_0 0 rfl ?_
  refine b_obj hX kOl_X7_3 kOi kOc dX7_init_1 ?_
  refine b_aload_n hX dX7_init_4 0 rfl ?_
  refine b_bipush hX (14 : Int32) dX7_init_5 rfl ?_
  refine b_bipush hX (7 : Int32) dX7_init_7 rfl ?_
  refine b_mna hX (t0 := 6) (t1 := 0) (ty := .int) (N' := 14) (K' := 7) (z0 := (7, .inl (fun _ => 0))) kCl_X7_9 kAO_int kA_int rfl rfl (fun _ _ h => h) (by decide) (by decide) rfl rfl (by decide) (by decide) (by decide) rfl rfl (by rw [hc]; decide) (by rw [hz]; decide) (fun _ => inn_int7) dX7_init_9 (fun a9 r9 => ?_)
  show BW X 13 _ _ ((b, .inr (7, [.null, .null, .null, .null, .null, .null, .null])) :: (apW (apW ([]) [(a9, .inl (gC (xG X) 6, 14, .inr (.inr (.inr (.inr (fun i => if i < 14 then some (r9 i) else none))))))]) (rwl 14 r9 (.inl (gC (xG X) 0, 7, .inl (fun _ => 0)))))) 15 112
  refine b_putF hX rfl fl_X7_11 ff_X7_5 (q0 := 0) rfl rfl rfl rfl (ws' := (b, .inr (7, [.null, .null, .null, .null, .null, .ref (a9), .null])) :: (apW (apW ([]) [(a9, .inl (gC (xG X) 6, 14, .inr (.inr (.inr (.inr (fun i => if i < 14 then some (r9 i) else none))))))]) (rwl 14 r9 (.inl (gC (xG X) 0, 7, .inl (fun _ => 0)))))) rfl dX7_init_13 ?_
  refine b_aload_n hX dX7_init_16 0 rfl ?_
  refine b_iconst hX (2 : Int32) dX7_init_17 rfl ?_
  refine b_newa (atype := .int) hX 0 kA_int rfl rfl (a0 := (2, .inl (fun _ => 0))) (ha_int 2) (by decide) (N' := 2) rfl (by decide) (by rw [hc]; decide) (by rw [hz]; decide) dX7_init_18 (fun a18 => ?_)
  show BW X 20 _ _ ((b, .inr (7, [.null, .null, .null, .null, .null, .ref (a9), .null])) :: (apW (apW (apW ([]) [(a9, .inl (gC (xG X) 6, 14, .inr (.inr (.inr (.inr (fun i => if i < 14 then some (r9 i) else none))))))]) (rwl 14 r9 (.inl (gC (xG X) 0, 7, .inl (fun _ => 0))))) [(a18, .inl (gC (xG X) 0, 2, .inl (fun _ => 0)))])) 16 114
  refine b_putF hX rfl fl_X7_16 ff_X7_6 (q0 := 0) rfl rfl rfl rfl (ws' := (b, .inr (7, [.null, .null, .null, .null, .null, .ref (a9), .ref (a18)])) :: (apW (apW (apW ([]) [(a9, .inl (gC (xG X) 6, 14, .inr (.inr (.inr (.inr (fun i => if i < 14 then some (r9 i) else none))))))]) (rwl 14 r9 (.inl (gC (xG X) 0, 7, .inl (fun _ => 0))))) [(a18, .inl (gC (xG X) 0, 2, .inl (fun _ => 0)))])) rfl dX7_init_20 ?_
  refine b_aload_n hX dX7_init_23 0 rfl ?_
  refine b_aload_n hX dX7_init_24 1 rfl ?_
  refine b_putF hX rfl fl_X7_20 ff_X7_0 (q0 := 0) rfl rfl rfl rfl (ws' := (b, .inr (7, [.ref (p1), .null, .null, .null, .null, .ref (a9), .ref (a18)])) :: (apW (apW (apW ([]) [(a9, .inl (gC (xG X) 6, 14, .inr (.inr (.inr (.inr (fun i => if i < 14 then some (r9 i) else none))))))]) (rwl 14 r9 (.inl (gC (xG X) 0, 7, .inl (fun _ => 0))))) [(a18, .inl (gC (xG X) 0, 2, .inl (fun _ => 0)))])) rfl dX7_init_25 ?_
  refine b_aload_n hX dX7_init_28 0 rfl ?_
  refine b_aload_n hX dX7_init_29 2 rfl ?_
  refine b_putF hX rfl fl_X7_24 ff_X7_1 (q0 := 0) rfl rfl rfl rfl (ws' := (b, .inr (7, [.ref (p1), .ref (p2), .null, .null, .null, .ref (a9), .ref (a18)])) :: (apW (apW (apW ([]) [(a9, .inl (gC (xG X) 6, 14, .inr (.inr (.inr (.inr (fun i => if i < 14 then some (r9 i) else none))))))]) (rwl 14 r9 (.inl (gC (xG X) 0, 7, .inl (fun _ => 0))))) [(a18, .inl (gC (xG X) 0, 2, .inl (fun _ => 0)))])) rfl dX7_init_30 ?_
  refine b_aload_n hX dX7_init_33 0 rfl ?_
  refine b_aload_n hX dX7_init_34 3 rfl ?_
  refine b_putF hX rfl fl_X7_28 ff_X7_2 (q0 := 0) rfl rfl rfl rfl (ws' := (b, .inr (7, [.ref (p1), .ref (p2), .ref (p3), .null, .null, .ref (a9), .ref (a18)])) :: (apW (apW (apW ([]) [(a9, .inl (gC (xG X) 6, 14, .inr (.inr (.inr (.inr (fun i => if i < 14 then some (r9 i) else none))))))]) (rwl 14 r9 (.inl (gC (xG X) 0, 7, .inl (fun _ => 0))))) [(a18, .inl (gC (xG X) 0, 2, .inl (fun _ => 0)))])) rfl dX7_init_35 ?_
  refine b_aload_n hX dX7_init_38 0 rfl ?_
  refine b_aload hX dX7_init_39 4 rfl ?_
  refine b_putF hX rfl fl_X7_32 ff_X7_3 (q0 := 0) rfl rfl rfl rfl (ws' := (b, .inr (7, [.ref (p1), .ref (p2), .ref (p3), .ref (p4), .null, .ref (a9), .ref (a18)])) :: (apW (apW (apW ([]) [(a9, .inl (gC (xG X) 6, 14, .inr (.inr (.inr (.inr (fun i => if i < 14 then some (r9 i) else none))))))]) (rwl 14 r9 (.inl (gC (xG X) 0, 7, .inl (fun _ => 0))))) [(a18, .inl (gC (xG X) 0, 2, .inl (fun _ => 0)))])) rfl dX7_init_41 ?_
  refine b_aload_n hX dX7_init_44 0 rfl ?_
  refine b_aload hX dX7_init_45 5 rfl ?_
  refine b_putF hX rfl fl_X7_36 ff_X7_4 (q0 := 0) rfl rfl rfl rfl (ws' := (b, .inr (7, [.ref (p1), .ref (p2), .ref (p3), .ref (p4), .ref (p5), .ref (a9), .ref (a18)])) :: (apW (apW (apW ([]) [(a9, .inl (gC (xG X) 6, 14, .inr (.inr (.inr (.inr (fun i => if i < 14 then some (r9 i) else none))))))]) (rwl 14 r9 (.inl (gC (xG X) 0, 7, .inl (fun _ => 0))))) [(a18, .inl (gC (xG X) 0, 2, .inl (fun _ => 0)))])) rfl dX7_init_47 ?_
  exact hret _ _ (fun i => [a9, a18].getD i 0, fun i => [r9].getD i (fun _ => 0)) dX7_init_50
theorem kOl_X0_3 : Cond.methodLink RX0 3 Lib.objectInit ∈ tbG := mG (tt2 (List.mem_of_getElem? (i := 103) rfl)) rfl
theorem ff_X0_0 : FTf RX0 (RX0, TX0, 3) 0 tyX0 (.object "MoreThanHalf$Street") := ⟨tyX0_ok, nmX0, rfl, by decide +kernel, rfl⟩
theorem ff_X0_1 : FTf RX0 (RX0, TX0, 3) 1 tyX0 (.object "MoreThanHalf$Row") := ⟨tyX0_ok, nmX0, rfl, by decide +kernel, rfl⟩
theorem kCl_X0_19 : Cond.classLink RX0 19 RX1 ∈ tbG := mG (tt2 (List.mem_of_getElem? (i := 104) rfl)) rfl
theorem kIn_X1 : Cond.instantiable RX1 10 ∈ tbG := mG (tt1 (List.mem_of_getElem? (i := 186) rfl)) rfl
theorem kIi_X1 : Cond.initialized RX1 ∈ tbG := mG (tt1 (List.mem_of_getElem? (i := 7) rfl)) rfl
theorem cn_X0_19 : CN RX0 19 1 (RX1, TX1, 10) tyX1 := ⟨kCl_X0_19, kIn_X1, kIi_X1, inX1, rfl, tyX1_ok⟩
theorem kMl_X0_21 : Cond.methodLink RX0 21 yX1_init ∈ tbG := mG (tt2 (List.mem_of_getElem? (i := 105) rfl)) rfl
theorem kMc_X1 : mdCode M_he_init ∈ tbG := mG (tt1 (List.mem_of_getElem? (i := 189) rfl)) rfl
theorem kIm_X1 : Cond.instanceMethod yX1_init ∈ tbG := mG (tt1 (List.mem_of_getElem? (i := 188) rfl)) rfl
theorem ci_X0_21 : CI RX0 21 M_he_init 1 := ⟨Or.inl kMl_X0_21, kMc_X1, kIi_X1, kIm_X1, rfl, ⟨by decide, by decide, by decide +kernel⟩, rfl, rfl⟩
theorem ff_X0_2 : FTf RX0 (RX0, TX0, 3) 2 tyX0 (.object "MoreThanHalf$Hearing") := ⟨tyX0_ok, nmX0, rfl, by decide +kernel, rfl⟩
theorem dX0_init_0 : decode cX0_init 0 = .ok (.aload_n 0, 1) := by decide +kernel
theorem dX0_init_1 : decode cX0_init 1 = .ok (.invokespecial 3, 3) := by decide +kernel
theorem dX0_init_4 : decode cX0_init 4 = .ok (.aload_n 0, 1) := by decide +kernel
theorem dX0_init_5 : decode cX0_init 5 = .ok (.aload_n 1, 1) := by decide +kernel
theorem dX0_init_6 : decode cX0_init 6 = .ok (.putfield 9, 3) := by decide +kernel
theorem dX0_init_9 : decode cX0_init 9 = .ok (.aload_n 0, 1) := by decide +kernel
theorem dX0_init_10 : decode cX0_init 10 = .ok (.aload_n 2, 1) := by decide +kernel
theorem dX0_init_11 : decode cX0_init 11 = .ok (.putfield 15, 3) := by decide +kernel
theorem dX0_init_14 : decode cX0_init 14 = .ok (.aload_n 0, 1) := by decide +kernel
theorem dX0_init_15 : decode cX0_init 15 = .ok (.new 19, 3) := by decide +kernel
theorem dX0_init_18 : decode cX0_init 18 = .ok (.dup, 1) := by decide +kernel
theorem dX0_init_19 : decode cX0_init 19 = .ok (.aload_n 1, 1) := by decide +kernel
theorem dX0_init_20 : decode cX0_init 20 = .ok (.invokespecial 21, 3) := by decide +kernel
theorem dX0_init_23 : decode cX0_init 23 = .ok (.putfield 24, 3) := by decide +kernel
theorem dX0_init_26 : decode cX0_init 26 = .ok (.return_, 1) := by decide +kernel
abbrev w_ac_init (G : Gx) (b : Nat) (p1 : Nat) (p2 : Nat) (u : Nw) : va_W := (b, .inr (0, [.ref (p1), .ref (p2), .ref ((u.1 0))])) :: (apW ([]) (w_he_init G (u.1 0) (p1) (shU u 1 0)))
theorem df_X0 : ∀ j, j < 3 → defaultValue (tyX0 j) = vp_V [.null, .null, .null] j := by
  intro j hj
  match j, hj with
  | 0, _ => rfl
  | 1, _ => rfl
  | 2, _ => rfl
set_option maxRecDepth 20000 in
set_option maxHeartbeats 4000000 in
theorem c_ac_init (G : Gx) {d : Nat} (b : Nat) (p1 : Nat) (p2 : Nat) : ConB G M_ac_init (d + 2) [.ref b, .ref p1, .ref p2] [(b, .inr (0, [.null, .null, .null]))] (w_ac_init G b p1 p2) 6 66 := by
  refine ConB.of ⟨by decide, rfl, Nat.le_of_ble_eq_true rfl⟩ rfl (fun X hG hX hc hz hret => ?_)
  subst hG
  show BW X 0 [(0, .ref b), (1, .ref p1), (2, .ref p2)] [] ((b, .inr (0, [.null, .null, .null])) :: []) 0 0
  refine b_aload_n hX dX0_init_0 0 rfl ?_
  refine b_obj hX kOl_X0_3 kOi kOc dX0_init_1 ?_
  refine b_aload_n hX dX0_init_4 0 rfl ?_
  refine b_aload_n hX dX0_init_5 1 rfl ?_
  refine b_putF hX rfl fl_X0_9 ff_X0_0 (q0 := 0) rfl rfl rfl rfl (ws' := (b, .inr (0, [.ref (p1), .null, .null])) :: ([])) rfl dX0_init_6 ?_
  refine b_aload_n hX dX0_init_9 0 rfl ?_
  refine b_aload_n hX dX0_init_10 2 rfl ?_
  refine b_putF hX rfl fl_X0_15 ff_X0_1 (q0 := 0) rfl rfl rfl rfl (ws' := (b, .inr (0, [.ref (p1), .ref (p2), .null])) :: ([])) rfl dX0_init_11 ?_
  refine b_aload_n hX dX0_init_14 0 rfl ?_
  refine b_new hX (fs := [.null, .null, .null, .null, .null, .long 0, .long 0, .int 0, .null, .int 0]) cn_X0_19 (df_X1) (by rw [hc]; decide) (by rw [hz]; decide) dX0_init_15 (fun a15 => ?_)
  show BW X 18 _ _ ((b, .inr (0, [.ref (p1), .ref (p2), .null])) :: (apW ([]) [(a15, .inr (1, [.null, .null, .null, .null, .null, .long 0, .long 0, .int 0, .null, .int 0]))])) 1 10
  refine b_dup hX dX0_init_18 ?_
  refine b_aload_n hX dX0_init_19 1 rfl ?_
  refine b_init (d := d + 1) hX (wr := (b, .inr (0, [.ref (p1), .ref (p2), .null])) :: ([])) (c_he_init (xG X) (d := d + 0) a15 (p1)) ci_X0_21 (st := [.ref (a15), .ref (b)]) rfl rfl rfl (by rw [hc]; decide) (by rw [hz]; decide) dX0_init_20 rfl (fun u20 => ?_)
  show BW X 23 _ _ ((b, .inr (0, [.ref (p1), .ref (p2), .null])) :: (apW ([]) (w_he_init (xG X) a15 (p1) u20))) 6 66
  refine b_putF hX rfl fl_X0_24 ff_X0_2 (q0 := 0) rfl rfl rfl rfl (ws' := (b, .inr (0, [.ref (p1), .ref (p2), .ref (a15)])) :: (apW ([]) (w_he_init (xG X) a15 (p1) u20))) rfl dX0_init_23 ?_
  exact hret _ _ (fun i => [a15, u20.1 0, u20.1 1, u20.1 2, u20.1 3, u20.1 4].getD i 0, fun i => [].getD i (fun _ => 0)) dX0_init_26
