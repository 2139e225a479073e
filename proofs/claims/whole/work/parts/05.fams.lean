set_option maxRecDepth 8000 in
theorem s_0_1 (G : Gx) (μ : Mem) (dy : Nat → Nat) (x : Int32) : (wsOf G μ dy).set 0 (gA G 0, .inr (11, [.ref (gA G 1), .int (μ.1 v_x_signs 0), .ref (gA G 2), .ref (gA G 4), .ref (gA G 64), .ref (gA G 65), .ref (gA G 66), .ref (gA G 76), .ref (gA G 78), .ref (gA G 80), .ref (gA G 90), .ref (gA G 91), .ref (gA G 92), .ref (gA G 93), .ref (gA G 110)].set 1 (.int x))) = wsOf G (setI μ v_x_signs 0 x) dy := rfl
set_option maxRecDepth 8000 in
theorem s_1 (G : Gx) (μ : Mem) (dy : Nat → Nat) (i : Nat) (x : Int32) : (wsOf G μ dy).set 1 (gA G 1, .inl (gC G 0, 80, .inl (upd (μ.1 v_x_text) i x))) = wsOf G (setI μ v_x_text i x) dy := rfl
set_option maxRecDepth 8000 in
theorem s_2_1 (G : Gx) (μ : Mem) (dy : Nat → Nat) (x : Int32) : (wsOf G μ dy).set 2 (gA G 2, .inr (4, [.ref (gA G 3), .int (μ.1 v_row_size 0)].set 1 (.int x))) = wsOf G (setI μ v_row_size 0 x) dy := rfl
set_option maxRecDepth 8000 in
theorem s_3 (G : Gx) (μ : Mem) (dy : Nat → Nat) (i : Nat) (x : Int64) : (wsOf G μ dy).set 3 (gA G 3, .inl (gC G 3, 16, .inr (.inl (vp_updL (μ.2.1 l_row_numbers) i x)))) = wsOf G (setL μ l_row_numbers i x) dy := rfl
set_option maxRecDepth 8000 in
theorem s_4_5 (G : Gx) (μ : Mem) (dy : Nat → Nat) (x : Int32) : (wsOf G μ dy).set 4 (gA G 4, .inr (8, [.ref (gA G 5), .ref (gA G 6), .ref (gA G 7), .ref (gA G 22), .ref (gA G 23), .int (μ.1 (vSt 0 0) 0), .int (μ.1 (vSt 0 1) 0), .int (μ.1 (vSt 0 2) 0), .int (μ.1 (vSt 0 3) 0)].set 5 (.int x))) = wsOf G (setI μ (vSt 0 0) 0 x) dy := rfl
set_option maxRecDepth 8000 in
theorem s_4_6 (G : Gx) (μ : Mem) (dy : Nat → Nat) (x : Int32) : (wsOf G μ dy).set 4 (gA G 4, .inr (8, [.ref (gA G 5), .ref (gA G 6), .ref (gA G 7), .ref (gA G 22), .ref (gA G 23), .int (μ.1 (vSt 0 0) 0), .int (μ.1 (vSt 0 1) 0), .int (μ.1 (vSt 0 2) 0), .int (μ.1 (vSt 0 3) 0)].set 6 (.int x))) = wsOf G (setI μ (vSt 0 1) 0 x) dy := rfl
set_option maxRecDepth 8000 in
theorem s_4_7 (G : Gx) (μ : Mem) (dy : Nat → Nat) (x : Int32) : (wsOf G μ dy).set 4 (gA G 4, .inr (8, [.ref (gA G 5), .ref (gA G 6), .ref (gA G 7), .ref (gA G 22), .ref (gA G 23), .int (μ.1 (vSt 0 0) 0), .int (μ.1 (vSt 0 1) 0), .int (μ.1 (vSt 0 2) 0), .int (μ.1 (vSt 0 3) 0)].set 7 (.int x))) = wsOf G (setI μ (vSt 0 2) 0 x) dy := rfl
set_option maxRecDepth 8000 in
theorem s_4_8 (G : Gx) (μ : Mem) (dy : Nat → Nat) (x : Int32) : (wsOf G μ dy).set 4 (gA G 4, .inr (8, [.ref (gA G 5), .ref (gA G 6), .ref (gA G 7), .ref (gA G 22), .ref (gA G 23), .int (μ.1 (vSt 0 0) 0), .int (μ.1 (vSt 0 1) 0), .int (μ.1 (vSt 0 2) 0), .int (μ.1 (vSt 0 3) 0)].set 8 (.int x))) = wsOf G (setI μ (vSt 0 3) 0 x) dy := rfl
set_option maxRecDepth 8000 in
theorem s_5 (G : Gx) (μ : Mem) (dy : Nat → Nat) (i : Nat) (x : Int32) : (wsOf G μ dy).set 5 (gA G 5, .inl (gC G 0, 14, .inl (upd (μ.1 (vSt 0 4)) i x))) = wsOf G (setI μ (vSt 0 4) i x) dy := rfl
set_option maxRecDepth 8000 in
theorem s_6 (G : Gx) (μ : Mem) (dy : Nat → Nat) (i : Nat) (x : Int32) : (wsOf G μ dy).set 6 (gA G 6, .inl (gC G 0, 14, .inl (upd (μ.1 (vSt 0 5)) i x))) = wsOf G (setI μ (vSt 0 5) i x) dy := rfl
set_option maxRecDepth 8000 in
theorem s_8 (G : Gx) (μ : Mem) (dy : Nat → Nat) (i : Nat) (x : Int32) : (wsOf G μ dy).set 8 (gA G 8, .inl (gC G 0, 14, .inl (upd (μ.1 (vSt 0 8)) i x))) = wsOf G (setI μ (vSt 0 8) i x) dy := rfl
set_option maxRecDepth 8000 in
theorem s_9 (G : Gx) (μ : Mem) (dy : Nat → Nat) (i : Nat) (x : Int32) : (wsOf G μ dy).set 9 (gA G 9, .inl (gC G 0, 14, .inl (upd (μ.1 (vSt 0 9)) i x))) = wsOf G (setI μ (vSt 0 9) i x) dy := rfl
set_option maxRecDepth 8000 in
theorem s_10 (G : Gx) (μ : Mem) (dy : Nat → Nat) (i : Nat) (x : Int32) : (wsOf G μ dy).set 10 (gA G 10, .inl (gC G 0, 14, .inl (upd (μ.1 (vSt 0 10)) i x))) = wsOf G (setI μ (vSt 0 10) i x) dy := rfl
set_option maxRecDepth 8000 in
theorem s_11 (G : Gx) (μ : Mem) (dy : Nat → Nat) (i : Nat) (x : Int32) : (wsOf G μ dy).set 11 (gA G 11, .inl (gC G 0, 14, .inl (upd (μ.1 (vSt 0 11)) i x))) = wsOf G (setI μ (vSt 0 11) i x) dy := rfl
set_option maxRecDepth 8000 in
theorem s_12 (G : Gx) (μ : Mem) (dy : Nat → Nat) (i : Nat) (x : Int32) : (wsOf G μ dy).set 12 (gA G 12, .inl (gC G 0, 14, .inl (upd (μ.1 (vSt 0 12)) i x))) = wsOf G (setI μ (vSt 0 12) i x) dy := rfl
set_option maxRecDepth 8000 in
theorem s_13 (G : Gx) (μ : Mem) (dy : Nat → Nat) (i : Nat) (x : Int32) : (wsOf G μ dy).set 13 (gA G 13, .inl (gC G 0, 14, .inl (upd (μ.1 (vSt 0 13)) i x))) = wsOf G (setI μ (vSt 0 13) i x) dy := rfl
set_option maxRecDepth 8000 in
theorem s_14 (G : Gx) (μ : Mem) (dy : Nat → Nat) (i : Nat) (x : Int32) : (wsOf G μ dy).set 14 (gA G 14, .inl (gC G 0, 14, .inl (upd (μ.1 (vSt 0 14)) i x))) = wsOf G (setI μ (vSt 0 14) i x) dy := rfl
set_option maxRecDepth 8000 in
theorem s_15 (G : Gx) (μ : Mem) (dy : Nat → Nat) (i : Nat) (x : Int32) : (wsOf G μ dy).set 15 (gA G 15, .inl (gC G 0, 14, .inl (upd (μ.1 (vSt 0 15)) i x))) = wsOf G (setI μ (vSt 0 15) i x) dy := rfl
set_option maxRecDepth 8000 in
theorem s_16 (G : Gx) (μ : Mem) (dy : Nat → Nat) (i : Nat) (x : Int32) : (wsOf G μ dy).set 16 (gA G 16, .inl (gC G 0, 14, .inl (upd (μ.1 (vSt 0 16)) i x))) = wsOf G (setI μ (vSt 0 16) i x) dy := rfl
set_option maxRecDepth 8000 in
theorem s_17 (G : Gx) (μ : Mem) (dy : Nat → Nat) (i : Nat) (x : Int32) : (wsOf G μ dy).set 17 (gA G 17, .inl (gC G 0, 14, .inl (upd (μ.1 (vSt 0 17)) i x))) = wsOf G (setI μ (vSt 0 17) i x) dy := rfl
set_option maxRecDepth 8000 in
theorem s_18 (G : Gx) (μ : Mem) (dy : Nat → Nat) (i : Nat) (x : Int32) : (wsOf G μ dy).set 18 (gA G 18, .inl (gC G 0, 14, .inl (upd (μ.1 (vSt 0 18)) i x))) = wsOf G (setI μ (vSt 0 18) i x) dy := rfl
set_option maxRecDepth 8000 in
theorem s_19 (G : Gx) (μ : Mem) (dy : Nat → Nat) (i : Nat) (x : Int32) : (wsOf G μ dy).set 19 (gA G 19, .inl (gC G 0, 14, .inl (upd (μ.1 (vSt 0 19)) i x))) = wsOf G (setI μ (vSt 0 19) i x) dy := rfl
set_option maxRecDepth 8000 in
theorem s_20 (G : Gx) (μ : Mem) (dy : Nat → Nat) (i : Nat) (x : Int32) : (wsOf G μ dy).set 20 (gA G 20, .inl (gC G 0, 14, .inl (upd (μ.1 (vSt 0 20)) i x))) = wsOf G (setI μ (vSt 0 20) i x) dy := rfl
set_option maxRecDepth 8000 in
theorem s_21 (G : Gx) (μ : Mem) (dy : Nat → Nat) (i : Nat) (x : Int32) : (wsOf G μ dy).set 21 (gA G 21, .inl (gC G 0, 14, .inl (upd (μ.1 (vSt 0 21)) i x))) = wsOf G (setI μ (vSt 0 21) i x) dy := rfl
set_option maxRecDepth 8000 in
theorem s_22 (G : Gx) (μ : Mem) (dy : Nat → Nat) (i : Nat) (x : Int32) : (wsOf G μ dy).set 22 (gA G 22, .inl (gC G 0, 201, .inl (upd (μ.1 (vSt 0 6)) i x))) = wsOf G (setI μ (vSt 0 6) i x) dy := rfl
set_option maxRecDepth 8000 in
theorem s_23 (G : Gx) (μ : Mem) (dy : Nat → Nat) (i : Nat) (x : Int32) : (wsOf G μ dy).set 23 (gA G 23, .inl (gC G 0, 15, .inl (upd (μ.1 (vSt 0 7)) i x))) = wsOf G (setI μ (vSt 0 7) i x) dy := rfl
set_option maxRecDepth 8000 in
theorem s_24_5 (G : Gx) (μ : Mem) (dy : Nat → Nat) (x : Int32) : (wsOf G μ dy).set 24 (gA G 24, .inr (8, [.ref (gA G 25), .ref (gA G 26), .ref (gA G 27), .ref (gA G 42), .ref (gA G 43), .int (μ.1 (vSt 1 0) 0), .int (μ.1 (vSt 1 1) 0), .int (μ.1 (vSt 1 2) 0), .int (μ.1 (vSt 1 3) 0)].set 5 (.int x))) = wsOf G (setI μ (vSt 1 0) 0 x) dy := rfl
set_option maxRecDepth 8000 in
theorem s_24_6 (G : Gx) (μ : Mem) (dy : Nat → Nat) (x : Int32) : (wsOf G μ dy).set 24 (gA G 24, .inr (8, [.ref (gA G 25), .ref (gA G 26), .ref (gA G 27), .ref (gA G 42), .ref (gA G 43), .int (μ.1 (vSt 1 0) 0), .int (μ.1 (vSt 1 1) 0), .int (μ.1 (vSt 1 2) 0), .int (μ.1 (vSt 1 3) 0)].set 6 (.int x))) = wsOf G (setI μ (vSt 1 1) 0 x) dy := rfl
set_option maxRecDepth 8000 in
theorem s_24_7 (G : Gx) (μ : Mem) (dy : Nat → Nat) (x : Int32) : (wsOf G μ dy).set 24 (gA G 24, .inr (8, [.ref (gA G 25), .ref (gA G 26), .ref (gA G 27), .ref (gA G 42), .ref (gA G 43), .int (μ.1 (vSt 1 0) 0), .int (μ.1 (vSt 1 1) 0), .int (μ.1 (vSt 1 2) 0), .int (μ.1 (vSt 1 3) 0)].set 7 (.int x))) = wsOf G (setI μ (vSt 1 2) 0 x) dy := rfl
set_option maxRecDepth 8000 in
theorem s_24_8 (G : Gx) (μ : Mem) (dy : Nat → Nat) (x : Int32) : (wsOf G μ dy).set 24 (gA G 24, .inr (8, [.ref (gA G 25), .ref (gA G 26), .ref (gA G 27), .ref (gA G 42), .ref (gA G 43), .int (μ.1 (vSt 1 0) 0), .int (μ.1 (vSt 1 1) 0), .int (μ.1 (vSt 1 2) 0), .int (μ.1 (vSt 1 3) 0)].set 8 (.int x))) = wsOf G (setI μ (vSt 1 3) 0 x) dy := rfl
set_option maxRecDepth 8000 in
theorem s_25 (G : Gx) (μ : Mem) (dy : Nat → Nat) (i : Nat) (x : Int32) : (wsOf G μ dy).set 25 (gA G 25, .inl (gC G 0, 14, .inl (upd (μ.1 (vSt 1 4)) i x))) = wsOf G (setI μ (vSt 1 4) i x) dy := rfl
set_option maxRecDepth 8000 in
theorem s_26 (G : Gx) (μ : Mem) (dy : Nat → Nat) (i : Nat) (x : Int32) : (wsOf G μ dy).set 26 (gA G 26, .inl (gC G 0, 14, .inl (upd (μ.1 (vSt 1 5)) i x))) = wsOf G (setI μ (vSt 1 5) i x) dy := rfl
set_option maxRecDepth 8000 in
theorem s_28 (G : Gx) (μ : Mem) (dy : Nat → Nat) (i : Nat) (x : Int32) : (wsOf G μ dy).set 28 (gA G 28, .inl (gC G 0, 14, .inl (upd (μ.1 (vSt 1 8)) i x))) = wsOf G (setI μ (vSt 1 8) i x) dy := rfl
set_option maxRecDepth 8000 in
theorem s_29 (G : Gx) (μ : Mem) (dy : Nat → Nat) (i : Nat) (x : Int32) : (wsOf G μ dy).set 29 (gA G 29, .inl (gC G 0, 14, .inl (upd (μ.1 (vSt 1 9)) i x))) = wsOf G (setI μ (vSt 1 9) i x) dy := rfl
set_option maxRecDepth 8000 in
theorem s_30 (G : Gx) (μ : Mem) (dy : Nat → Nat) (i : Nat) (x : Int32) : (wsOf G μ dy).set 30 (gA G 30, .inl (gC G 0, 14, .inl (upd (μ.1 (vSt 1 10)) i x))) = wsOf G (setI μ (vSt 1 10) i x) dy := rfl
set_option maxRecDepth 8000 in
theorem s_31 (G : Gx) (μ : Mem) (dy : Nat → Nat) (i : Nat) (x : Int32) : (wsOf G μ dy).set 31 (gA G 31, .inl (gC G 0, 14, .inl (upd (μ.1 (vSt 1 11)) i x))) = wsOf G (setI μ (vSt 1 11) i x) dy := rfl
set_option maxRecDepth 8000 in
theorem s_32 (G : Gx) (μ : Mem) (dy : Nat → Nat) (i : Nat) (x : Int32) : (wsOf G μ dy).set 32 (gA G 32, .inl (gC G 0, 14, .inl (upd (μ.1 (vSt 1 12)) i x))) = wsOf G (setI μ (vSt 1 12) i x) dy := rfl
set_option maxRecDepth 8000 in
theorem s_33 (G : Gx) (μ : Mem) (dy : Nat → Nat) (i : Nat) (x : Int32) : (wsOf G μ dy).set 33 (gA G 33, .inl (gC G 0, 14, .inl (upd (μ.1 (vSt 1 13)) i x))) = wsOf G (setI μ (vSt 1 13) i x) dy := rfl
set_option maxRecDepth 8000 in
theorem s_34 (G : Gx) (μ : Mem) (dy : Nat → Nat) (i : Nat) (x : Int32) : (wsOf G μ dy).set 34 (gA G 34, .inl (gC G 0, 14, .inl (upd (μ.1 (vSt 1 14)) i x))) = wsOf G (setI μ (vSt 1 14) i x) dy := rfl
set_option maxRecDepth 8000 in
theorem s_35 (G : Gx) (μ : Mem) (dy : Nat → Nat) (i : Nat) (x : Int32) : (wsOf G μ dy).set 35 (gA G 35, .inl (gC G 0, 14, .inl (upd (μ.1 (vSt 1 15)) i x))) = wsOf G (setI μ (vSt 1 15) i x) dy := rfl
set_option maxRecDepth 8000 in
theorem s_36 (G : Gx) (μ : Mem) (dy : Nat → Nat) (i : Nat) (x : Int32) : (wsOf G μ dy).set 36 (gA G 36, .inl (gC G 0, 14, .inl (upd (μ.1 (vSt 1 16)) i x))) = wsOf G (setI μ (vSt 1 16) i x) dy := rfl
set_option maxRecDepth 8000 in
theorem s_37 (G : Gx) (μ : Mem) (dy : Nat → Nat) (i : Nat) (x : Int32) : (wsOf G μ dy).set 37 (gA G 37, .inl (gC G 0, 14, .inl (upd (μ.1 (vSt 1 17)) i x))) = wsOf G (setI μ (vSt 1 17) i x) dy := rfl
set_option maxRecDepth 8000 in
theorem s_38 (G : Gx) (μ : Mem) (dy : Nat → Nat) (i : Nat) (x : Int32) : (wsOf G μ dy).set 38 (gA G 38, .inl (gC G 0, 14, .inl (upd (μ.1 (vSt 1 18)) i x))) = wsOf G (setI μ (vSt 1 18) i x) dy := rfl
set_option maxRecDepth 8000 in
theorem s_39 (G : Gx) (μ : Mem) (dy : Nat → Nat) (i : Nat) (x : Int32) : (wsOf G μ dy).set 39 (gA G 39, .inl (gC G 0, 14, .inl (upd (μ.1 (vSt 1 19)) i x))) = wsOf G (setI μ (vSt 1 19) i x) dy := rfl
set_option maxRecDepth 8000 in
theorem s_40 (G : Gx) (μ : Mem) (dy : Nat → Nat) (i : Nat) (x : Int32) : (wsOf G μ dy).set 40 (gA G 40, .inl (gC G 0, 14, .inl (upd (μ.1 (vSt 1 20)) i x))) = wsOf G (setI μ (vSt 1 20) i x) dy := rfl
set_option maxRecDepth 8000 in
theorem s_41 (G : Gx) (μ : Mem) (dy : Nat → Nat) (i : Nat) (x : Int32) : (wsOf G μ dy).set 41 (gA G 41, .inl (gC G 0, 14, .inl (upd (μ.1 (vSt 1 21)) i x))) = wsOf G (setI μ (vSt 1 21) i x) dy := rfl
set_option maxRecDepth 8000 in
theorem s_42 (G : Gx) (μ : Mem) (dy : Nat → Nat) (i : Nat) (x : Int32) : (wsOf G μ dy).set 42 (gA G 42, .inl (gC G 0, 201, .inl (upd (μ.1 (vSt 1 6)) i x))) = wsOf G (setI μ (vSt 1 6) i x) dy := rfl
set_option maxRecDepth 8000 in
theorem s_43 (G : Gx) (μ : Mem) (dy : Nat → Nat) (i : Nat) (x : Int32) : (wsOf G μ dy).set 43 (gA G 43, .inl (gC G 0, 15, .inl (upd (μ.1 (vSt 1 7)) i x))) = wsOf G (setI μ (vSt 1 7) i x) dy := rfl
set_option maxRecDepth 8000 in
theorem s_44_5 (G : Gx) (μ : Mem) (dy : Nat → Nat) (x : Int32) : (wsOf G μ dy).set 44 (gA G 44, .inr (8, [.ref (gA G 45), .ref (gA G 46), .ref (gA G 47), .ref (gA G 62), .ref (gA G 63), .int (μ.1 (vSt 2 0) 0), .int (μ.1 (vSt 2 1) 0), .int (μ.1 (vSt 2 2) 0), .int (μ.1 (vSt 2 3) 0)].set 5 (.int x))) = wsOf G (setI μ (vSt 2 0) 0 x) dy := rfl
set_option maxRecDepth 8000 in
theorem s_44_6 (G : Gx) (μ : Mem) (dy : Nat → Nat) (x : Int32) : (wsOf G μ dy).set 44 (gA G 44, .inr (8, [.ref (gA G 45), .ref (gA G 46), .ref (gA G 47), .ref (gA G 62), .ref (gA G 63), .int (μ.1 (vSt 2 0) 0), .int (μ.1 (vSt 2 1) 0), .int (μ.1 (vSt 2 2) 0), .int (μ.1 (vSt 2 3) 0)].set 6 (.int x))) = wsOf G (setI μ (vSt 2 1) 0 x) dy := rfl
set_option maxRecDepth 8000 in
theorem s_44_7 (G : Gx) (μ : Mem) (dy : Nat → Nat) (x : Int32) : (wsOf G μ dy).set 44 (gA G 44, .inr (8, [.ref (gA G 45), .ref (gA G 46), .ref (gA G 47), .ref (gA G 62), .ref (gA G 63), .int (μ.1 (vSt 2 0) 0), .int (μ.1 (vSt 2 1) 0), .int (μ.1 (vSt 2 2) 0), .int (μ.1 (vSt 2 3) 0)].set 7 (.int x))) = wsOf G (setI μ (vSt 2 2) 0 x) dy := rfl
set_option maxRecDepth 8000 in
theorem s_44_8 (G : Gx) (μ : Mem) (dy : Nat → Nat) (x : Int32) : (wsOf G μ dy).set 44 (gA G 44, .inr (8, [.ref (gA G 45), .ref (gA G 46), .ref (gA G 47), .ref (gA G 62), .ref (gA G 63), .int (μ.1 (vSt 2 0) 0), .int (μ.1 (vSt 2 1) 0), .int (μ.1 (vSt 2 2) 0), .int (μ.1 (vSt 2 3) 0)].set 8 (.int x))) = wsOf G (setI μ (vSt 2 3) 0 x) dy := rfl
set_option maxRecDepth 8000 in
theorem s_45 (G : Gx) (μ : Mem) (dy : Nat → Nat) (i : Nat) (x : Int32) : (wsOf G μ dy).set 45 (gA G 45, .inl (gC G 0, 14, .inl (upd (μ.1 (vSt 2 4)) i x))) = wsOf G (setI μ (vSt 2 4) i x) dy := rfl
set_option maxRecDepth 8000 in
theorem s_46 (G : Gx) (μ : Mem) (dy : Nat → Nat) (i : Nat) (x : Int32) : (wsOf G μ dy).set 46 (gA G 46, .inl (gC G 0, 14, .inl (upd (μ.1 (vSt 2 5)) i x))) = wsOf G (setI μ (vSt 2 5) i x) dy := rfl
set_option maxRecDepth 8000 in
theorem s_48 (G : Gx) (μ : Mem) (dy : Nat → Nat) (i : Nat) (x : Int32) : (wsOf G μ dy).set 48 (gA G 48, .inl (gC G 0, 14, .inl (upd (μ.1 (vSt 2 8)) i x))) = wsOf G (setI μ (vSt 2 8) i x) dy := rfl
set_option maxRecDepth 8000 in
theorem s_49 (G : Gx) (μ : Mem) (dy : Nat → Nat) (i : Nat) (x : Int32) : (wsOf G μ dy).set 49 (gA G 49, .inl (gC G 0, 14, .inl (upd (μ.1 (vSt 2 9)) i x))) = wsOf G (setI μ (vSt 2 9) i x) dy := rfl
set_option maxRecDepth 8000 in
theorem s_50 (G : Gx) (μ : Mem) (dy : Nat → Nat) (i : Nat) (x : Int32) : (wsOf G μ dy).set 50 (gA G 50, .inl (gC G 0, 14, .inl (upd (μ.1 (vSt 2 10)) i x))) = wsOf G (setI μ (vSt 2 10) i x) dy := rfl
set_option maxRecDepth 8000 in
theorem s_51 (G : Gx) (μ : Mem) (dy : Nat → Nat) (i : Nat) (x : Int32) : (wsOf G μ dy).set 51 (gA G 51, .inl (gC G 0, 14, .inl (upd (μ.1 (vSt 2 11)) i x))) = wsOf G (setI μ (vSt 2 11) i x) dy := rfl
set_option maxRecDepth 8000 in
theorem s_52 (G : Gx) (μ : Mem) (dy : Nat → Nat) (i : Nat) (x : Int32) : (wsOf G μ dy).set 52 (gA G 52, .inl (gC G 0, 14, .inl (upd (μ.1 (vSt 2 12)) i x))) = wsOf G (setI μ (vSt 2 12) i x) dy := rfl
set_option maxRecDepth 8000 in
theorem s_53 (G : Gx) (μ : Mem) (dy : Nat → Nat) (i : Nat) (x : Int32) : (wsOf G μ dy).set 53 (gA G 53, .inl (gC G 0, 14, .inl (upd (μ.1 (vSt 2 13)) i x))) = wsOf G (setI μ (vSt 2 13) i x) dy := rfl
set_option maxRecDepth 8000 in
theorem s_54 (G : Gx) (μ : Mem) (dy : Nat → Nat) (i : Nat) (x : Int32) : (wsOf G μ dy).set 54 (gA G 54, .inl (gC G 0, 14, .inl (upd (μ.1 (vSt 2 14)) i x))) = wsOf G (setI μ (vSt 2 14) i x) dy := rfl
set_option maxRecDepth 8000 in
theorem s_55 (G : Gx) (μ : Mem) (dy : Nat → Nat) (i : Nat) (x : Int32) : (wsOf G μ dy).set 55 (gA G 55, .inl (gC G 0, 14, .inl (upd (μ.1 (vSt 2 15)) i x))) = wsOf G (setI μ (vSt 2 15) i x) dy := rfl
set_option maxRecDepth 8000 in
theorem s_56 (G : Gx) (μ : Mem) (dy : Nat → Nat) (i : Nat) (x : Int32) : (wsOf G μ dy).set 56 (gA G 56, .inl (gC G 0, 14, .inl (upd (μ.1 (vSt 2 16)) i x))) = wsOf G (setI μ (vSt 2 16) i x) dy := rfl
set_option maxRecDepth 8000 in
theorem s_57 (G : Gx) (μ : Mem) (dy : Nat → Nat) (i : Nat) (x : Int32) : (wsOf G μ dy).set 57 (gA G 57, .inl (gC G 0, 14, .inl (upd (μ.1 (vSt 2 17)) i x))) = wsOf G (setI μ (vSt 2 17) i x) dy := rfl
set_option maxRecDepth 8000 in
theorem s_58 (G : Gx) (μ : Mem) (dy : Nat → Nat) (i : Nat) (x : Int32) : (wsOf G μ dy).set 58 (gA G 58, .inl (gC G 0, 14, .inl (upd (μ.1 (vSt 2 18)) i x))) = wsOf G (setI μ (vSt 2 18) i x) dy := rfl
set_option maxRecDepth 8000 in
theorem s_59 (G : Gx) (μ : Mem) (dy : Nat → Nat) (i : Nat) (x : Int32) : (wsOf G μ dy).set 59 (gA G 59, .inl (gC G 0, 14, .inl (upd (μ.1 (vSt 2 19)) i x))) = wsOf G (setI μ (vSt 2 19) i x) dy := rfl
set_option maxRecDepth 8000 in
theorem s_60 (G : Gx) (μ : Mem) (dy : Nat → Nat) (i : Nat) (x : Int32) : (wsOf G μ dy).set 60 (gA G 60, .inl (gC G 0, 14, .inl (upd (μ.1 (vSt 2 20)) i x))) = wsOf G (setI μ (vSt 2 20) i x) dy := rfl
set_option maxRecDepth 8000 in
theorem s_61 (G : Gx) (μ : Mem) (dy : Nat → Nat) (i : Nat) (x : Int32) : (wsOf G μ dy).set 61 (gA G 61, .inl (gC G 0, 14, .inl (upd (μ.1 (vSt 2 21)) i x))) = wsOf G (setI μ (vSt 2 21) i x) dy := rfl
set_option maxRecDepth 8000 in
theorem s_62 (G : Gx) (μ : Mem) (dy : Nat → Nat) (i : Nat) (x : Int32) : (wsOf G μ dy).set 62 (gA G 62, .inl (gC G 0, 201, .inl (upd (μ.1 (vSt 2 6)) i x))) = wsOf G (setI μ (vSt 2 6) i x) dy := rfl
set_option maxRecDepth 8000 in
theorem s_63 (G : Gx) (μ : Mem) (dy : Nat → Nat) (i : Nat) (x : Int32) : (wsOf G μ dy).set 63 (gA G 63, .inl (gC G 0, 15, .inl (upd (μ.1 (vSt 2 7)) i x))) = wsOf G (setI μ (vSt 2 7) i x) dy := rfl
set_option maxRecDepth 8000 in
theorem s_65 (G : Gx) (μ : Mem) (dy : Nat → Nat) (i : Nat) (x : Int32) : (wsOf G μ dy).set 65 (gA G 65, .inl (gC G 2, 2, .inl (upd (μ.1 v_x_isKept) i x))) = wsOf G (setI μ v_x_isKept i x) dy := rfl
set_option maxRecDepth 8000 in
theorem s_67_2 (G : Gx) (μ : Mem) (dy : Nat → Nat) (x : Int32) : (wsOf G μ dy).set 67 (gA G 67, .inr (5, [.ref (gA G 68), .ref (gA G 69), .int (μ.1 (vRu 0 0) 0), .int (μ.1 (vRu 0 1) 0)].set 2 (.int x))) = wsOf G (setI μ (vRu 0 0) 0 x) dy := rfl
set_option maxRecDepth 8000 in
theorem s_67_3 (G : Gx) (μ : Mem) (dy : Nat → Nat) (x : Int32) : (wsOf G μ dy).set 67 (gA G 67, .inr (5, [.ref (gA G 68), .ref (gA G 69), .int (μ.1 (vRu 0 0) 0), .int (μ.1 (vRu 0 1) 0)].set 3 (.int x))) = wsOf G (setI μ (vRu 0 1) 0 x) dy := rfl
set_option maxRecDepth 8000 in
theorem s_68 (G : Gx) (μ : Mem) (dy : Nat → Nat) (i : Nat) (x : Int32) : (wsOf G μ dy).set 68 (gA G 68, .inl (gC G 0, 40, .inl (upd (μ.1 (vRu 0 2)) i x))) = wsOf G (setI μ (vRu 0 2) i x) dy := rfl
set_option maxRecDepth 8000 in
theorem s_69 (G : Gx) (μ : Mem) (dy : Nat → Nat) (i : Nat) (x : Int32) : (wsOf G μ dy).set 69 (gA G 69, .inl (gC G 0, 40, .inl (upd (μ.1 (vRu 0 3)) i x))) = wsOf G (setI μ (vRu 0 3) i x) dy := rfl
set_option maxRecDepth 8000 in
theorem s_70_2 (G : Gx) (μ : Mem) (dy : Nat → Nat) (x : Int32) : (wsOf G μ dy).set 70 (gA G 70, .inr (5, [.ref (gA G 71), .ref (gA G 72), .int (μ.1 (vRu 1 0) 0), .int (μ.1 (vRu 1 1) 0)].set 2 (.int x))) = wsOf G (setI μ (vRu 1 0) 0 x) dy := rfl
set_option maxRecDepth 8000 in
theorem s_70_3 (G : Gx) (μ : Mem) (dy : Nat → Nat) (x : Int32) : (wsOf G μ dy).set 70 (gA G 70, .inr (5, [.ref (gA G 71), .ref (gA G 72), .int (μ.1 (vRu 1 0) 0), .int (μ.1 (vRu 1 1) 0)].set 3 (.int x))) = wsOf G (setI μ (vRu 1 1) 0 x) dy := rfl
set_option maxRecDepth 8000 in
theorem s_71 (G : Gx) (μ : Mem) (dy : Nat → Nat) (i : Nat) (x : Int32) : (wsOf G μ dy).set 71 (gA G 71, .inl (gC G 0, 40, .inl (upd (μ.1 (vRu 1 2)) i x))) = wsOf G (setI μ (vRu 1 2) i x) dy := rfl
set_option maxRecDepth 8000 in
theorem s_72 (G : Gx) (μ : Mem) (dy : Nat → Nat) (i : Nat) (x : Int32) : (wsOf G μ dy).set 72 (gA G 72, .inl (gC G 0, 40, .inl (upd (μ.1 (vRu 1 3)) i x))) = wsOf G (setI μ (vRu 1 3) i x) dy := rfl
set_option maxRecDepth 8000 in
theorem s_73_2 (G : Gx) (μ : Mem) (dy : Nat → Nat) (x : Int32) : (wsOf G μ dy).set 73 (gA G 73, .inr (5, [.ref (gA G 74), .ref (gA G 75), .int (μ.1 (vRu 2 0) 0), .int (μ.1 (vRu 2 1) 0)].set 2 (.int x))) = wsOf G (setI μ (vRu 2 0) 0 x) dy := rfl
set_option maxRecDepth 8000 in
theorem s_73_3 (G : Gx) (μ : Mem) (dy : Nat → Nat) (x : Int32) : (wsOf G μ dy).set 73 (gA G 73, .inr (5, [.ref (gA G 74), .ref (gA G 75), .int (μ.1 (vRu 2 0) 0), .int (μ.1 (vRu 2 1) 0)].set 3 (.int x))) = wsOf G (setI μ (vRu 2 1) 0 x) dy := rfl
set_option maxRecDepth 8000 in
theorem s_74 (G : Gx) (μ : Mem) (dy : Nat → Nat) (i : Nat) (x : Int32) : (wsOf G μ dy).set 74 (gA G 74, .inl (gC G 0, 40, .inl (upd (μ.1 (vRu 2 2)) i x))) = wsOf G (setI μ (vRu 2 2) i x) dy := rfl
set_option maxRecDepth 8000 in
theorem s_75 (G : Gx) (μ : Mem) (dy : Nat → Nat) (i : Nat) (x : Int32) : (wsOf G μ dy).set 75 (gA G 75, .inl (gC G 0, 40, .inl (upd (μ.1 (vRu 2 3)) i x))) = wsOf G (setI μ (vRu 2 3) i x) dy := rfl
set_option maxRecDepth 8000 in
theorem s_76_2 (G : Gx) (μ : Mem) (dy : Nat → Nat) (x : Int32) : (wsOf G μ dy).set 76 (gA G 76, .inr (9, [.ref (gA G 4), .ref (gA G (if μ.1 v_sr_text 0 = 1 then 1 else 77)), .int (μ.1 v_sr_length 0), .int (μ.1 v_sr_limit 0), .int (μ.1 v_sr_at 0), .int (μ.1 v_sr_there 0), .int (μ.1 v_sr_telling 0)].set 2 (.int x))) = wsOf G (setI μ v_sr_length 0 x) dy := rfl
set_option maxRecDepth 8000 in
theorem s_76_3 (G : Gx) (μ : Mem) (dy : Nat → Nat) (x : Int32) : (wsOf G μ dy).set 76 (gA G 76, .inr (9, [.ref (gA G 4), .ref (gA G (if μ.1 v_sr_text 0 = 1 then 1 else 77)), .int (μ.1 v_sr_length 0), .int (μ.1 v_sr_limit 0), .int (μ.1 v_sr_at 0), .int (μ.1 v_sr_there 0), .int (μ.1 v_sr_telling 0)].set 3 (.int x))) = wsOf G (setI μ v_sr_limit 0 x) dy := rfl
set_option maxRecDepth 8000 in
theorem s_76_4 (G : Gx) (μ : Mem) (dy : Nat → Nat) (x : Int32) : (wsOf G μ dy).set 76 (gA G 76, .inr (9, [.ref (gA G 4), .ref (gA G (if μ.1 v_sr_text 0 = 1 then 1 else 77)), .int (μ.1 v_sr_length 0), .int (μ.1 v_sr_limit 0), .int (μ.1 v_sr_at 0), .int (μ.1 v_sr_there 0), .int (μ.1 v_sr_telling 0)].set 4 (.int x))) = wsOf G (setI μ v_sr_at 0 x) dy := rfl
set_option maxRecDepth 8000 in
theorem s_76_5 (G : Gx) (μ : Mem) (dy : Nat → Nat) (x : Int32) : (wsOf G μ dy).set 76 (gA G 76, .inr (9, [.ref (gA G 4), .ref (gA G (if μ.1 v_sr_text 0 = 1 then 1 else 77)), .int (μ.1 v_sr_length 0), .int (μ.1 v_sr_limit 0), .int (μ.1 v_sr_at 0), .int (μ.1 v_sr_there 0), .int (μ.1 v_sr_telling 0)].set 5 (.int x))) = wsOf G (setI μ v_sr_there 0 x) dy := rfl
set_option maxRecDepth 8000 in
theorem s_76_6 (G : Gx) (μ : Mem) (dy : Nat → Nat) (x : Int32) : (wsOf G μ dy).set 76 (gA G 76, .inr (9, [.ref (gA G 4), .ref (gA G (if μ.1 v_sr_text 0 = 1 then 1 else 77)), .int (μ.1 v_sr_length 0), .int (μ.1 v_sr_limit 0), .int (μ.1 v_sr_at 0), .int (μ.1 v_sr_there 0), .int (μ.1 v_sr_telling 0)].set 6 (.int x))) = wsOf G (setI μ v_sr_telling 0 x) dy := rfl
set_option maxRecDepth 8000 in
theorem s_78_3 (G : Gx) (μ : Mem) (dy : Nat → Nat) (x : Int32) : (wsOf G μ dy).set 78 (gA G 78, .inr (6, [.ref (gA G 66), .ref (gA G (67 + 3 * (μ.1 v_rr_spare 0).toNatClampNeg)), .ref (gA G (if μ.1 v_rr_text 0 = 1 then 1 else 79)), .int (μ.1 v_rr_limit 0), .int (μ.1 v_rr_at 0)].set 3 (.int x))) = wsOf G (setI μ v_rr_limit 0 x) dy := rfl
set_option maxRecDepth 8000 in
theorem s_78_4 (G : Gx) (μ : Mem) (dy : Nat → Nat) (x : Int32) : (wsOf G μ dy).set 78 (gA G 78, .inr (6, [.ref (gA G 66), .ref (gA G (67 + 3 * (μ.1 v_rr_spare 0).toNatClampNeg)), .ref (gA G (if μ.1 v_rr_text 0 = 1 then 1 else 79)), .int (μ.1 v_rr_limit 0), .int (μ.1 v_rr_at 0)].set 4 (.int x))) = wsOf G (setI μ v_rr_at 0 x) dy := rfl
set_option maxRecDepth 8000 in
theorem s_80_5 (G : Gx) (μ : Mem) (dy : Nat → Nat) (x : Int64) : (wsOf G μ dy).set 80 (gA G 80, .inr (1, [.ref (gA G 4), .ref (gA G 81), .ref (gA G 82), .ref (gA G 83), .ref (gA G 84), .long (μ.2.1 (lHe 0 0) 0), .long (μ.2.1 (lHe 0 1) 0), .int (μ.1 (vHe 0 0) 0), .ref (dy 0), .int (μ.1 (vHe 0 1) 0)].set 5 (.long x))) = wsOf G (setL μ (lHe 0 0) 0 x) dy := rfl
set_option maxRecDepth 8000 in
theorem s_80_6 (G : Gx) (μ : Mem) (dy : Nat → Nat) (x : Int64) : (wsOf G μ dy).set 80 (gA G 80, .inr (1, [.ref (gA G 4), .ref (gA G 81), .ref (gA G 82), .ref (gA G 83), .ref (gA G 84), .long (μ.2.1 (lHe 0 0) 0), .long (μ.2.1 (lHe 0 1) 0), .int (μ.1 (vHe 0 0) 0), .ref (dy 0), .int (μ.1 (vHe 0 1) 0)].set 6 (.long x))) = wsOf G (setL μ (lHe 0 1) 0 x) dy := rfl
set_option maxRecDepth 8000 in
theorem s_80_7 (G : Gx) (μ : Mem) (dy : Nat → Nat) (x : Int32) : (wsOf G μ dy).set 80 (gA G 80, .inr (1, [.ref (gA G 4), .ref (gA G 81), .ref (gA G 82), .ref (gA G 83), .ref (gA G 84), .long (μ.2.1 (lHe 0 0) 0), .long (μ.2.1 (lHe 0 1) 0), .int (μ.1 (vHe 0 0) 0), .ref (dy 0), .int (μ.1 (vHe 0 1) 0)].set 7 (.int x))) = wsOf G (setI μ (vHe 0 0) 0 x) dy := rfl
set_option maxRecDepth 8000 in
theorem s_80_9 (G : Gx) (μ : Mem) (dy : Nat → Nat) (x : Int32) : (wsOf G μ dy).set 80 (gA G 80, .inr (1, [.ref (gA G 4), .ref (gA G 81), .ref (gA G 82), .ref (gA G 83), .ref (gA G 84), .long (μ.2.1 (lHe 0 0) 0), .long (μ.2.1 (lHe 0 1) 0), .int (μ.1 (vHe 0 0) 0), .ref (dy 0), .int (μ.1 (vHe 0 1) 0)].set 9 (.int x))) = wsOf G (setI μ (vHe 0 1) 0 x) dy := rfl
set_option maxRecDepth 8000 in
theorem s_81 (G : Gx) (μ : Mem) (dy : Nat → Nat) (i : Nat) (x : Int64) : (wsOf G μ dy).set 81 (gA G 81, .inl (gC G 3, 14, .inr (.inl (vp_updL (μ.2.1 (lHe 0 2)) i x)))) = wsOf G (setL μ (lHe 0 2) i x) dy := rfl
set_option maxRecDepth 8000 in
theorem s_82 (G : Gx) (μ : Mem) (dy : Nat → Nat) (i : Nat) (x : Int64) : (wsOf G μ dy).set 82 (gA G 82, .inl (gC G 3, 14, .inr (.inl (vp_updL (μ.2.1 (lHe 0 3)) i x)))) = wsOf G (setL μ (lHe 0 3) i x) dy := rfl
set_option maxRecDepth 8000 in
theorem s_83 (G : Gx) (μ : Mem) (dy : Nat → Nat) (i : Nat) (x : Int32) : (wsOf G μ dy).set 83 (gA G 83, .inl (gC G 0, 14, .inl (upd (μ.1 (vHe 0 4)) i x))) = wsOf G (setI μ (vHe 0 4) i x) dy := rfl
set_option maxRecDepth 8000 in
theorem s_84 (G : Gx) (μ : Mem) (dy : Nat → Nat) (i : Nat) (x : Int32) : (wsOf G μ dy).set 84 (gA G 84, .inl (gC G 0, 14, .inl (upd (μ.1 (vHe 0 5)) i x))) = wsOf G (setI μ (vHe 0 5) i x) dy := rfl
set_option maxRecDepth 8000 in
theorem s_85_5 (G : Gx) (μ : Mem) (dy : Nat → Nat) (x : Int64) : (wsOf G μ dy).set 85 (gA G 85, .inr (1, [.ref (gA G 4), .ref (gA G 86), .ref (gA G 87), .ref (gA G 88), .ref (gA G 89), .long (μ.2.1 (lHe 1 0) 0), .long (μ.2.1 (lHe 1 1) 0), .int (μ.1 (vHe 1 0) 0), .ref (dy 1), .int (μ.1 (vHe 1 1) 0)].set 5 (.long x))) = wsOf G (setL μ (lHe 1 0) 0 x) dy := rfl
set_option maxRecDepth 8000 in
theorem s_85_6 (G : Gx) (μ : Mem) (dy : Nat → Nat) (x : Int64) : (wsOf G μ dy).set 85 (gA G 85, .inr (1, [.ref (gA G 4), .ref (gA G 86), .ref (gA G 87), .ref (gA G 88), .ref (gA G 89), .long (μ.2.1 (lHe 1 0) 0), .long (μ.2.1 (lHe 1 1) 0), .int (μ.1 (vHe 1 0) 0), .ref (dy 1), .int (μ.1 (vHe 1 1) 0)].set 6 (.long x))) = wsOf G (setL μ (lHe 1 1) 0 x) dy := rfl
set_option maxRecDepth 8000 in
theorem s_85_7 (G : Gx) (μ : Mem) (dy : Nat → Nat) (x : Int32) : (wsOf G μ dy).set 85 (gA G 85, .inr (1, [.ref (gA G 4), .ref (gA G 86), .ref (gA G 87), .ref (gA G 88), .ref (gA G 89), .long (μ.2.1 (lHe 1 0) 0), .long (μ.2.1 (lHe 1 1) 0), .int (μ.1 (vHe 1 0) 0), .ref (dy 1), .int (μ.1 (vHe 1 1) 0)].set 7 (.int x))) = wsOf G (setI μ (vHe 1 0) 0 x) dy := rfl
set_option maxRecDepth 8000 in
theorem s_85_9 (G : Gx) (μ : Mem) (dy : Nat → Nat) (x : Int32) : (wsOf G μ dy).set 85 (gA G 85, .inr (1, [.ref (gA G 4), .ref (gA G 86), .ref (gA G 87), .ref (gA G 88), .ref (gA G 89), .long (μ.2.1 (lHe 1 0) 0), .long (μ.2.1 (lHe 1 1) 0), .int (μ.1 (vHe 1 0) 0), .ref (dy 1), .int (μ.1 (vHe 1 1) 0)].set 9 (.int x))) = wsOf G (setI μ (vHe 1 1) 0 x) dy := rfl
set_option maxRecDepth 8000 in
theorem s_86 (G : Gx) (μ : Mem) (dy : Nat → Nat) (i : Nat) (x : Int64) : (wsOf G μ dy).set 86 (gA G 86, .inl (gC G 3, 14, .inr (.inl (vp_updL (μ.2.1 (lHe 1 2)) i x)))) = wsOf G (setL μ (lHe 1 2) i x) dy := rfl
set_option maxRecDepth 8000 in
theorem s_87 (G : Gx) (μ : Mem) (dy : Nat → Nat) (i : Nat) (x : Int64) : (wsOf G μ dy).set 87 (gA G 87, .inl (gC G 3, 14, .inr (.inl (vp_updL (μ.2.1 (lHe 1 3)) i x)))) = wsOf G (setL μ (lHe 1 3) i x) dy := rfl
set_option maxRecDepth 8000 in
theorem s_88 (G : Gx) (μ : Mem) (dy : Nat → Nat) (i : Nat) (x : Int32) : (wsOf G μ dy).set 88 (gA G 88, .inl (gC G 0, 14, .inl (upd (μ.1 (vHe 1 4)) i x))) = wsOf G (setI μ (vHe 1 4) i x) dy := rfl
set_option maxRecDepth 8000 in
theorem s_89 (G : Gx) (μ : Mem) (dy : Nat → Nat) (i : Nat) (x : Int32) : (wsOf G μ dy).set 89 (gA G 89, .inl (gC G 0, 14, .inl (upd (μ.1 (vHe 1 5)) i x))) = wsOf G (setI μ (vHe 1 5) i x) dy := rfl
set_option maxRecDepth 8000 in
theorem s_90_1 (G : Gx) (μ : Mem) (dy : Nat → Nat) (x : Int32) : (wsOf G μ dy).set 90 (gA G 90, .inr (2, [.ref (dy 2), .int (μ.1 v_me_size 0), .int (μ.1 v_me_stamp 0)].set 1 (.int x))) = wsOf G (setI μ v_me_size 0 x) dy := rfl
set_option maxRecDepth 8000 in
theorem s_90_2 (G : Gx) (μ : Mem) (dy : Nat → Nat) (x : Int32) : (wsOf G μ dy).set 90 (gA G 90, .inr (2, [.ref (dy 2), .int (μ.1 v_me_size 0), .int (μ.1 v_me_stamp 0)].set 2 (.int x))) = wsOf G (setI μ v_me_stamp 0 x) dy := rfl
set_option maxRecDepth 8000 in
theorem s_91_4 (G : Gx) (μ : Mem) (dy : Nat → Nat) (x : Int32) : (wsOf G μ dy).set 91 (gA G 91, .inr (3, [.ref (gA G 4), .ref (gA G 80), .ref (gA G 90), .ref (gA G 2), .int (μ.1 v_or_till 0), .int (μ.1 v_or_period 0), .int (μ.1 v_or_entry 0), .int (μ.1 v_or_least 0), .int (μ.1 v_or_always 0), .int (μ.1 v_or_ever 0)].set 4 (.int x))) = wsOf G (setI μ v_or_till 0 x) dy := rfl
set_option maxRecDepth 8000 in
theorem s_91_5 (G : Gx) (μ : Mem) (dy : Nat → Nat) (x : Int32) : (wsOf G μ dy).set 91 (gA G 91, .inr (3, [.ref (gA G 4), .ref (gA G 80), .ref (gA G 90), .ref (gA G 2), .int (μ.1 v_or_till 0), .int (μ.1 v_or_period 0), .int (μ.1 v_or_entry 0), .int (μ.1 v_or_least 0), .int (μ.1 v_or_always 0), .int (μ.1 v_or_ever 0)].set 5 (.int x))) = wsOf G (setI μ v_or_period 0 x) dy := rfl
set_option maxRecDepth 8000 in
theorem s_91_6 (G : Gx) (μ : Mem) (dy : Nat → Nat) (x : Int32) : (wsOf G μ dy).set 91 (gA G 91, .inr (3, [.ref (gA G 4), .ref (gA G 80), .ref (gA G 90), .ref (gA G 2), .int (μ.1 v_or_till 0), .int (μ.1 v_or_period 0), .int (μ.1 v_or_entry 0), .int (μ.1 v_or_least 0), .int (μ.1 v_or_always 0), .int (μ.1 v_or_ever 0)].set 6 (.int x))) = wsOf G (setI μ v_or_entry 0 x) dy := rfl
set_option maxRecDepth 8000 in
theorem s_91_7 (G : Gx) (μ : Mem) (dy : Nat → Nat) (x : Int32) : (wsOf G μ dy).set 91 (gA G 91, .inr (3, [.ref (gA G 4), .ref (gA G 80), .ref (gA G 90), .ref (gA G 2), .int (μ.1 v_or_till 0), .int (μ.1 v_or_period 0), .int (μ.1 v_or_entry 0), .int (μ.1 v_or_least 0), .int (μ.1 v_or_always 0), .int (μ.1 v_or_ever 0)].set 7 (.int x))) = wsOf G (setI μ v_or_least 0 x) dy := rfl
set_option maxRecDepth 8000 in
theorem s_91_8 (G : Gx) (μ : Mem) (dy : Nat → Nat) (x : Int32) : (wsOf G μ dy).set 91 (gA G 91, .inr (3, [.ref (gA G 4), .ref (gA G 80), .ref (gA G 90), .ref (gA G 2), .int (μ.1 v_or_till 0), .int (μ.1 v_or_period 0), .int (μ.1 v_or_entry 0), .int (μ.1 v_or_least 0), .int (μ.1 v_or_always 0), .int (μ.1 v_or_ever 0)].set 8 (.int x))) = wsOf G (setI μ v_or_always 0 x) dy := rfl
set_option maxRecDepth 8000 in
theorem s_91_9 (G : Gx) (μ : Mem) (dy : Nat → Nat) (x : Int32) : (wsOf G μ dy).set 91 (gA G 91, .inr (3, [.ref (gA G 4), .ref (gA G 80), .ref (gA G 90), .ref (gA G 2), .int (μ.1 v_or_till 0), .int (μ.1 v_or_period 0), .int (μ.1 v_or_entry 0), .int (μ.1 v_or_least 0), .int (μ.1 v_or_always 0), .int (μ.1 v_or_ever 0)].set 9 (.int x))) = wsOf G (setI μ v_or_ever 0 x) dy := rfl
set_option maxRecDepth 8000 in
theorem s_92_4 (G : Gx) (μ : Mem) (dy : Nat → Nat) (x : Int32) : (wsOf G μ dy).set 92 (gA G 92, .inr (10, [.ref (gA G 4), .ref (gA G 80), .ref (gA G 90), .ref (gA G 2), .int (μ.1 v_ta_wanted 0), .int (μ.1 v_ta_sum 0), .int (μ.1 v_ta_soonest 0)].set 4 (.int x))) = wsOf G (setI μ v_ta_wanted 0 x) dy := rfl
set_option maxRecDepth 8000 in
theorem s_92_5 (G : Gx) (μ : Mem) (dy : Nat → Nat) (x : Int32) : (wsOf G μ dy).set 92 (gA G 92, .inr (10, [.ref (gA G 4), .ref (gA G 80), .ref (gA G 90), .ref (gA G 2), .int (μ.1 v_ta_wanted 0), .int (μ.1 v_ta_sum 0), .int (μ.1 v_ta_soonest 0)].set 5 (.int x))) = wsOf G (setI μ v_ta_sum 0 x) dy := rfl
set_option maxRecDepth 8000 in
theorem s_92_6 (G : Gx) (μ : Mem) (dy : Nat → Nat) (x : Int32) : (wsOf G μ dy).set 92 (gA G 92, .inr (10, [.ref (gA G 4), .ref (gA G 80), .ref (gA G 90), .ref (gA G 2), .int (μ.1 v_ta_wanted 0), .int (μ.1 v_ta_sum 0), .int (μ.1 v_ta_soonest 0)].set 6 (.int x))) = wsOf G (setI μ v_ta_soonest 0 x) dy := rfl
set_option maxRecDepth 8000 in
theorem s_95 (G : Gx) (μ : Mem) (dy : Nat → Nat) (i : Nat) (x : Int32) : (wsOf G μ dy).set 95 (gA G 95, .inl (gC G 0, 7, .inl (upd (μ.1 (vFa 0)) i x))) = wsOf G (setI μ (vFa 0) i x) dy := rfl
set_option maxRecDepth 8000 in
theorem s_96 (G : Gx) (μ : Mem) (dy : Nat → Nat) (i : Nat) (x : Int32) : (wsOf G μ dy).set 96 (gA G 96, .inl (gC G 0, 7, .inl (upd (μ.1 (vFa 1)) i x))) = wsOf G (setI μ (vFa 1) i x) dy := rfl
set_option maxRecDepth 8000 in
theorem s_97 (G : Gx) (μ : Mem) (dy : Nat → Nat) (i : Nat) (x : Int32) : (wsOf G μ dy).set 97 (gA G 97, .inl (gC G 0, 7, .inl (upd (μ.1 (vFa 2)) i x))) = wsOf G (setI μ (vFa 2) i x) dy := rfl
set_option maxRecDepth 8000 in
theorem s_98 (G : Gx) (μ : Mem) (dy : Nat → Nat) (i : Nat) (x : Int32) : (wsOf G μ dy).set 98 (gA G 98, .inl (gC G 0, 7, .inl (upd (μ.1 (vFa 3)) i x))) = wsOf G (setI μ (vFa 3) i x) dy := rfl
set_option maxRecDepth 8000 in
theorem s_99 (G : Gx) (μ : Mem) (dy : Nat → Nat) (i : Nat) (x : Int32) : (wsOf G μ dy).set 99 (gA G 99, .inl (gC G 0, 7, .inl (upd (μ.1 (vFa 4)) i x))) = wsOf G (setI μ (vFa 4) i x) dy := rfl
set_option maxRecDepth 8000 in
theorem s_100 (G : Gx) (μ : Mem) (dy : Nat → Nat) (i : Nat) (x : Int32) : (wsOf G μ dy).set 100 (gA G 100, .inl (gC G 0, 7, .inl (upd (μ.1 (vFa 5)) i x))) = wsOf G (setI μ (vFa 5) i x) dy := rfl
set_option maxRecDepth 8000 in
theorem s_101 (G : Gx) (μ : Mem) (dy : Nat → Nat) (i : Nat) (x : Int32) : (wsOf G μ dy).set 101 (gA G 101, .inl (gC G 0, 7, .inl (upd (μ.1 (vFa 6)) i x))) = wsOf G (setI μ (vFa 6) i x) dy := rfl
set_option maxRecDepth 8000 in
theorem s_102 (G : Gx) (μ : Mem) (dy : Nat → Nat) (i : Nat) (x : Int32) : (wsOf G μ dy).set 102 (gA G 102, .inl (gC G 0, 7, .inl (upd (μ.1 (vFa 7)) i x))) = wsOf G (setI μ (vFa 7) i x) dy := rfl
set_option maxRecDepth 8000 in
theorem s_103 (G : Gx) (μ : Mem) (dy : Nat → Nat) (i : Nat) (x : Int32) : (wsOf G μ dy).set 103 (gA G 103, .inl (gC G 0, 7, .inl (upd (μ.1 (vFa 8)) i x))) = wsOf G (setI μ (vFa 8) i x) dy := rfl
set_option maxRecDepth 8000 in
theorem s_104 (G : Gx) (μ : Mem) (dy : Nat → Nat) (i : Nat) (x : Int32) : (wsOf G μ dy).set 104 (gA G 104, .inl (gC G 0, 7, .inl (upd (μ.1 (vFa 9)) i x))) = wsOf G (setI μ (vFa 9) i x) dy := rfl
set_option maxRecDepth 8000 in
theorem s_105 (G : Gx) (μ : Mem) (dy : Nat → Nat) (i : Nat) (x : Int32) : (wsOf G μ dy).set 105 (gA G 105, .inl (gC G 0, 7, .inl (upd (μ.1 (vFa 10)) i x))) = wsOf G (setI μ (vFa 10) i x) dy := rfl
set_option maxRecDepth 8000 in
theorem s_106 (G : Gx) (μ : Mem) (dy : Nat → Nat) (i : Nat) (x : Int32) : (wsOf G μ dy).set 106 (gA G 106, .inl (gC G 0, 7, .inl (upd (μ.1 (vFa 11)) i x))) = wsOf G (setI μ (vFa 11) i x) dy := rfl
set_option maxRecDepth 8000 in
theorem s_107 (G : Gx) (μ : Mem) (dy : Nat → Nat) (i : Nat) (x : Int32) : (wsOf G μ dy).set 107 (gA G 107, .inl (gC G 0, 7, .inl (upd (μ.1 (vFa 12)) i x))) = wsOf G (setI μ (vFa 12) i x) dy := rfl
set_option maxRecDepth 8000 in
theorem s_108 (G : Gx) (μ : Mem) (dy : Nat → Nat) (i : Nat) (x : Int32) : (wsOf G μ dy).set 108 (gA G 108, .inl (gC G 0, 7, .inl (upd (μ.1 (vFa 13)) i x))) = wsOf G (setI μ (vFa 13) i x) dy := rfl
set_option maxRecDepth 8000 in
theorem s_109 (G : Gx) (μ : Mem) (dy : Nat → Nat) (i : Nat) (x : Int32) : (wsOf G μ dy).set 109 (gA G 109, .inl (gC G 0, 2, .inl (upd (μ.1 v_sh_paid) i x))) = wsOf G (setI μ v_sh_paid i x) dy := rfl
set_option maxRecDepth 8000 in
theorem s_111_0 (G : Gx) (μ : Mem) (dy : Nat → Nat) (x : Int32) : (wsOf G μ dy).set 111 (gA G 111, .inr (12, [.int (μ.1 v_m_people 0), .ref (gA G 112), .ref (gA G 113), .int (μ.1 v_m_firm 0), .ref (gA G 114), .ref (gA G 115), .int (μ.1 v_m_days 0), .ref (gA G 116), .int (μ.1 v_m_typed 0), .ref (gA G 117), .int (μ.1 v_m_rowMany 0), .int (μ.1 v_m_thrown 0), mRd (gA G) (μ.1 v_m_read 0), .int (μ.1 v_m_size 0), .int (μ.1 v_m_top 0), .int (μ.1 v_m_at 0), .int (μ.1 v_m_wrong 0), .ref (gA G 118), .ref (gA G 119), .ref (gA G 120), .int (μ.1 v_m_question 0), .int (μ.1 v_m_restIn 0), .int (μ.1 v_m_restRound 0), .int (μ.1 v_m_restState 0), .ref (gA G 121), .ref (gA G 122), .ref (gA G 123), .ref (gA G 124), .ref (gA G 125), .ref (gA G 126), .ref (gA G 129), .int (μ.1 v_m_askedShop 0), .int (μ.1 v_m_askedOne 0), .int (μ.1 v_m_askedState 0), .ref (gA G 130), .int (μ.1 v_m_peopleTold 0), .ref (gA G 131), .ref (gA G 132), .ref (gA G 133)].set 0 (.int x))) = wsOf G (setI μ v_m_people 0 x) dy := rfl
set_option maxRecDepth 8000 in
theorem s_111_3 (G : Gx) (μ : Mem) (dy : Nat → Nat) (x : Int32) : (wsOf G μ dy).set 111 (gA G 111, .inr (12, [.int (μ.1 v_m_people 0), .ref (gA G 112), .ref (gA G 113), .int (μ.1 v_m_firm 0), .ref (gA G 114), .ref (gA G 115), .int (μ.1 v_m_days 0), .ref (gA G 116), .int (μ.1 v_m_typed 0), .ref (gA G 117), .int (μ.1 v_m_rowMany 0), .int (μ.1 v_m_thrown 0), mRd (gA G) (μ.1 v_m_read 0), .int (μ.1 v_m_size 0), .int (μ.1 v_m_top 0), .int (μ.1 v_m_at 0), .int (μ.1 v_m_wrong 0), .ref (gA G 118), .ref (gA G 119), .ref (gA G 120), .int (μ.1 v_m_question 0), .int (μ.1 v_m_restIn 0), .int (μ.1 v_m_restRound 0), .int (μ.1 v_m_restState 0), .ref (gA G 121), .ref (gA G 122), .ref (gA G 123), .ref (gA G 124), .ref (gA G 125), .ref (gA G 126), .ref (gA G 129), .int (μ.1 v_m_askedShop 0), .int (μ.1 v_m_askedOne 0), .int (μ.1 v_m_askedState 0), .ref (gA G 130), .int (μ.1 v_m_peopleTold 0), .ref (gA G 131), .ref (gA G 132), .ref (gA G 133)].set 3 (.int x))) = wsOf G (setI μ v_m_firm 0 x) dy := rfl
set_option maxRecDepth 8000 in
theorem s_111_6 (G : Gx) (μ : Mem) (dy : Nat → Nat) (x : Int32) : (wsOf G μ dy).set 111 (gA G 111, .inr (12, [.int (μ.1 v_m_people 0), .ref (gA G 112), .ref (gA G 113), .int (μ.1 v_m_firm 0), .ref (gA G 114), .ref (gA G 115), .int (μ.1 v_m_days 0), .ref (gA G 116), .int (μ.1 v_m_typed 0), .ref (gA G 117), .int (μ.1 v_m_rowMany 0), .int (μ.1 v_m_thrown 0), mRd (gA G) (μ.1 v_m_read 0), .int (μ.1 v_m_size 0), .int (μ.1 v_m_top 0), .int (μ.1 v_m_at 0), .int (μ.1 v_m_wrong 0), .ref (gA G 118), .ref (gA G 119), .ref (gA G 120), .int (μ.1 v_m_question 0), .int (μ.1 v_m_restIn 0), .int (μ.1 v_m_restRound 0), .int (μ.1 v_m_restState 0), .ref (gA G 121), .ref (gA G 122), .ref (gA G 123), .ref (gA G 124), .ref (gA G 125), .ref (gA G 126), .ref (gA G 129), .int (μ.1 v_m_askedShop 0), .int (μ.1 v_m_askedOne 0), .int (μ.1 v_m_askedState 0), .ref (gA G 130), .int (μ.1 v_m_peopleTold 0), .ref (gA G 131), .ref (gA G 132), .ref (gA G 133)].set 6 (.int x))) = wsOf G (setI μ v_m_days 0 x) dy := rfl
set_option maxRecDepth 8000 in
theorem s_111_8 (G : Gx) (μ : Mem) (dy : Nat → Nat) (x : Int32) : (wsOf G μ dy).set 111 (gA G 111, .inr (12, [.int (μ.1 v_m_people 0), .ref (gA G 112), .ref (gA G 113), .int (μ.1 v_m_firm 0), .ref (gA G 114), .ref (gA G 115), .int (μ.1 v_m_days 0), .ref (gA G 116), .int (μ.1 v_m_typed 0), .ref (gA G 117), .int (μ.1 v_m_rowMany 0), .int (μ.1 v_m_thrown 0), mRd (gA G) (μ.1 v_m_read 0), .int (μ.1 v_m_size 0), .int (μ.1 v_m_top 0), .int (μ.1 v_m_at 0), .int (μ.1 v_m_wrong 0), .ref (gA G 118), .ref (gA G 119), .ref (gA G 120), .int (μ.1 v_m_question 0), .int (μ.1 v_m_restIn 0), .int (μ.1 v_m_restRound 0), .int (μ.1 v_m_restState 0), .ref (gA G 121), .ref (gA G 122), .ref (gA G 123), .ref (gA G 124), .ref (gA G 125), .ref (gA G 126), .ref (gA G 129), .int (μ.1 v_m_askedShop 0), .int (μ.1 v_m_askedOne 0), .int (μ.1 v_m_askedState 0), .ref (gA G 130), .int (μ.1 v_m_peopleTold 0), .ref (gA G 131), .ref (gA G 132), .ref (gA G 133)].set 8 (.int x))) = wsOf G (setI μ v_m_typed 0 x) dy := rfl
set_option maxRecDepth 8000 in
theorem s_111_10 (G : Gx) (μ : Mem) (dy : Nat → Nat) (x : Int32) : (wsOf G μ dy).set 111 (gA G 111, .inr (12, [.int (μ.1 v_m_people 0), .ref (gA G 112), .ref (gA G 113), .int (μ.1 v_m_firm 0), .ref (gA G 114), .ref (gA G 115), .int (μ.1 v_m_days 0), .ref (gA G 116), .int (μ.1 v_m_typed 0), .ref (gA G 117), .int (μ.1 v_m_rowMany 0), .int (μ.1 v_m_thrown 0), mRd (gA G) (μ.1 v_m_read 0), .int (μ.1 v_m_size 0), .int (μ.1 v_m_top 0), .int (μ.1 v_m_at 0), .int (μ.1 v_m_wrong 0), .ref (gA G 118), .ref (gA G 119), .ref (gA G 120), .int (μ.1 v_m_question 0), .int (μ.1 v_m_restIn 0), .int (μ.1 v_m_restRound 0), .int (μ.1 v_m_restState 0), .ref (gA G 121), .ref (gA G 122), .ref (gA G 123), .ref (gA G 124), .ref (gA G 125), .ref (gA G 126), .ref (gA G 129), .int (μ.1 v_m_askedShop 0), .int (μ.1 v_m_askedOne 0), .int (μ.1 v_m_askedState 0), .ref (gA G 130), .int (μ.1 v_m_peopleTold 0), .ref (gA G 131), .ref (gA G 132), .ref (gA G 133)].set 10 (.int x))) = wsOf G (setI μ v_m_rowMany 0 x) dy := rfl
set_option maxRecDepth 8000 in
theorem s_111_11 (G : Gx) (μ : Mem) (dy : Nat → Nat) (x : Int32) : (wsOf G μ dy).set 111 (gA G 111, .inr (12, [.int (μ.1 v_m_people 0), .ref (gA G 112), .ref (gA G 113), .int (μ.1 v_m_firm 0), .ref (gA G 114), .ref (gA G 115), .int (μ.1 v_m_days 0), .ref (gA G 116), .int (μ.1 v_m_typed 0), .ref (gA G 117), .int (μ.1 v_m_rowMany 0), .int (μ.1 v_m_thrown 0), mRd (gA G) (μ.1 v_m_read 0), .int (μ.1 v_m_size 0), .int (μ.1 v_m_top 0), .int (μ.1 v_m_at 0), .int (μ.1 v_m_wrong 0), .ref (gA G 118), .ref (gA G 119), .ref (gA G 120), .int (μ.1 v_m_question 0), .int (μ.1 v_m_restIn 0), .int (μ.1 v_m_restRound 0), .int (μ.1 v_m_restState 0), .ref (gA G 121), .ref (gA G 122), .ref (gA G 123), .ref (gA G 124), .ref (gA G 125), .ref (gA G 126), .ref (gA G 129), .int (μ.1 v_m_askedShop 0), .int (μ.1 v_m_askedOne 0), .int (μ.1 v_m_askedState 0), .ref (gA G 130), .int (μ.1 v_m_peopleTold 0), .ref (gA G 131), .ref (gA G 132), .ref (gA G 133)].set 11 (.int x))) = wsOf G (setI μ v_m_thrown 0 x) dy := rfl
set_option maxRecDepth 8000 in
theorem s_111_13 (G : Gx) (μ : Mem) (dy : Nat → Nat) (x : Int32) : (wsOf G μ dy).set 111 (gA G 111, .inr (12, [.int (μ.1 v_m_people 0), .ref (gA G 112), .ref (gA G 113), .int (μ.1 v_m_firm 0), .ref (gA G 114), .ref (gA G 115), .int (μ.1 v_m_days 0), .ref (gA G 116), .int (μ.1 v_m_typed 0), .ref (gA G 117), .int (μ.1 v_m_rowMany 0), .int (μ.1 v_m_thrown 0), mRd (gA G) (μ.1 v_m_read 0), .int (μ.1 v_m_size 0), .int (μ.1 v_m_top 0), .int (μ.1 v_m_at 0), .int (μ.1 v_m_wrong 0), .ref (gA G 118), .ref (gA G 119), .ref (gA G 120), .int (μ.1 v_m_question 0), .int (μ.1 v_m_restIn 0), .int (μ.1 v_m_restRound 0), .int (μ.1 v_m_restState 0), .ref (gA G 121), .ref (gA G 122), .ref (gA G 123), .ref (gA G 124), .ref (gA G 125), .ref (gA G 126), .ref (gA G 129), .int (μ.1 v_m_askedShop 0), .int (μ.1 v_m_askedOne 0), .int (μ.1 v_m_askedState 0), .ref (gA G 130), .int (μ.1 v_m_peopleTold 0), .ref (gA G 131), .ref (gA G 132), .ref (gA G 133)].set 13 (.int x))) = wsOf G (setI μ v_m_size 0 x) dy := rfl
set_option maxRecDepth 8000 in
theorem s_111_14 (G : Gx) (μ : Mem) (dy : Nat → Nat) (x : Int32) : (wsOf G μ dy).set 111 (gA G 111, .inr (12, [.int (μ.1 v_m_people 0), .ref (gA G 112), .ref (gA G 113), .int (μ.1 v_m_firm 0), .ref (gA G 114), .ref (gA G 115), .int (μ.1 v_m_days 0), .ref (gA G 116), .int (μ.1 v_m_typed 0), .ref (gA G 117), .int (μ.1 v_m_rowMany 0), .int (μ.1 v_m_thrown 0), mRd (gA G) (μ.1 v_m_read 0), .int (μ.1 v_m_size 0), .int (μ.1 v_m_top 0), .int (μ.1 v_m_at 0), .int (μ.1 v_m_wrong 0), .ref (gA G 118), .ref (gA G 119), .ref (gA G 120), .int (μ.1 v_m_question 0), .int (μ.1 v_m_restIn 0), .int (μ.1 v_m_restRound 0), .int (μ.1 v_m_restState 0), .ref (gA G 121), .ref (gA G 122), .ref (gA G 123), .ref (gA G 124), .ref (gA G 125), .ref (gA G 126), .ref (gA G 129), .int (μ.1 v_m_askedShop 0), .int (μ.1 v_m_askedOne 0), .int (μ.1 v_m_askedState 0), .ref (gA G 130), .int (μ.1 v_m_peopleTold 0), .ref (gA G 131), .ref (gA G 132), .ref (gA G 133)].set 14 (.int x))) = wsOf G (setI μ v_m_top 0 x) dy := rfl
set_option maxRecDepth 8000 in
theorem s_111_15 (G : Gx) (μ : Mem) (dy : Nat → Nat) (x : Int32) : (wsOf G μ dy).set 111 (gA G 111, .inr (12, [.int (μ.1 v_m_people 0), .ref (gA G 112), .ref (gA G 113), .int (μ.1 v_m_firm 0), .ref (gA G 114), .ref (gA G 115), .int (μ.1 v_m_days 0), .ref (gA G 116), .int (μ.1 v_m_typed 0), .ref (gA G 117), .int (μ.1 v_m_rowMany 0), .int (μ.1 v_m_thrown 0), mRd (gA G) (μ.1 v_m_read 0), .int (μ.1 v_m_size 0), .int (μ.1 v_m_top 0), .int (μ.1 v_m_at 0), .int (μ.1 v_m_wrong 0), .ref (gA G 118), .ref (gA G 119), .ref (gA G 120), .int (μ.1 v_m_question 0), .int (μ.1 v_m_restIn 0), .int (μ.1 v_m_restRound 0), .int (μ.1 v_m_restState 0), .ref (gA G 121), .ref (gA G 122), .ref (gA G 123), .ref (gA G 124), .ref (gA G 125), .ref (gA G 126), .ref (gA G 129), .int (μ.1 v_m_askedShop 0), .int (μ.1 v_m_askedOne 0), .int (μ.1 v_m_askedState 0), .ref (gA G 130), .int (μ.1 v_m_peopleTold 0), .ref (gA G 131), .ref (gA G 132), .ref (gA G 133)].set 15 (.int x))) = wsOf G (setI μ v_m_at 0 x) dy := rfl
set_option maxRecDepth 8000 in
theorem s_111_16 (G : Gx) (μ : Mem) (dy : Nat → Nat) (x : Int32) : (wsOf G μ dy).set 111 (gA G 111, .inr (12, [.int (μ.1 v_m_people 0), .ref (gA G 112), .ref (gA G 113), .int (μ.1 v_m_firm 0), .ref (gA G 114), .ref (gA G 115), .int (μ.1 v_m_days 0), .ref (gA G 116), .int (μ.1 v_m_typed 0), .ref (gA G 117), .int (μ.1 v_m_rowMany 0), .int (μ.1 v_m_thrown 0), mRd (gA G) (μ.1 v_m_read 0), .int (μ.1 v_m_size 0), .int (μ.1 v_m_top 0), .int (μ.1 v_m_at 0), .int (μ.1 v_m_wrong 0), .ref (gA G 118), .ref (gA G 119), .ref (gA G 120), .int (μ.1 v_m_question 0), .int (μ.1 v_m_restIn 0), .int (μ.1 v_m_restRound 0), .int (μ.1 v_m_restState 0), .ref (gA G 121), .ref (gA G 122), .ref (gA G 123), .ref (gA G 124), .ref (gA G 125), .ref (gA G 126), .ref (gA G 129), .int (μ.1 v_m_askedShop 0), .int (μ.1 v_m_askedOne 0), .int (μ.1 v_m_askedState 0), .ref (gA G 130), .int (μ.1 v_m_peopleTold 0), .ref (gA G 131), .ref (gA G 132), .ref (gA G 133)].set 16 (.int x))) = wsOf G (setI μ v_m_wrong 0 x) dy := rfl
set_option maxRecDepth 8000 in
theorem s_111_20 (G : Gx) (μ : Mem) (dy : Nat → Nat) (x : Int32) : (wsOf G μ dy).set 111 (gA G 111, .inr (12, [.int (μ.1 v_m_people 0), .ref (gA G 112), .ref (gA G 113), .int (μ.1 v_m_firm 0), .ref (gA G 114), .ref (gA G 115), .int (μ.1 v_m_days 0), .ref (gA G 116), .int (μ.1 v_m_typed 0), .ref (gA G 117), .int (μ.1 v_m_rowMany 0), .int (μ.1 v_m_thrown 0), mRd (gA G) (μ.1 v_m_read 0), .int (μ.1 v_m_size 0), .int (μ.1 v_m_top 0), .int (μ.1 v_m_at 0), .int (μ.1 v_m_wrong 0), .ref (gA G 118), .ref (gA G 119), .ref (gA G 120), .int (μ.1 v_m_question 0), .int (μ.1 v_m_restIn 0), .int (μ.1 v_m_restRound 0), .int (μ.1 v_m_restState 0), .ref (gA G 121), .ref (gA G 122), .ref (gA G 123), .ref (gA G 124), .ref (gA G 125), .ref (gA G 126), .ref (gA G 129), .int (μ.1 v_m_askedShop 0), .int (μ.1 v_m_askedOne 0), .int (μ.1 v_m_askedState 0), .ref (gA G 130), .int (μ.1 v_m_peopleTold 0), .ref (gA G 131), .ref (gA G 132), .ref (gA G 133)].set 20 (.int x))) = wsOf G (setI μ v_m_question 0 x) dy := rfl
set_option maxRecDepth 8000 in
theorem s_111_21 (G : Gx) (μ : Mem) (dy : Nat → Nat) (x : Int32) : (wsOf G μ dy).set 111 (gA G 111, .inr (12, [.int (μ.1 v_m_people 0), .ref (gA G 112), .ref (gA G 113), .int (μ.1 v_m_firm 0), .ref (gA G 114), .ref (gA G 115), .int (μ.1 v_m_days 0), .ref (gA G 116), .int (μ.1 v_m_typed 0), .ref (gA G 117), .int (μ.1 v_m_rowMany 0), .int (μ.1 v_m_thrown 0), mRd (gA G) (μ.1 v_m_read 0), .int (μ.1 v_m_size 0), .int (μ.1 v_m_top 0), .int (μ.1 v_m_at 0), .int (μ.1 v_m_wrong 0), .ref (gA G 118), .ref (gA G 119), .ref (gA G 120), .int (μ.1 v_m_question 0), .int (μ.1 v_m_restIn 0), .int (μ.1 v_m_restRound 0), .int (μ.1 v_m_restState 0), .ref (gA G 121), .ref (gA G 122), .ref (gA G 123), .ref (gA G 124), .ref (gA G 125), .ref (gA G 126), .ref (gA G 129), .int (μ.1 v_m_askedShop 0), .int (μ.1 v_m_askedOne 0), .int (μ.1 v_m_askedState 0), .ref (gA G 130), .int (μ.1 v_m_peopleTold 0), .ref (gA G 131), .ref (gA G 132), .ref (gA G 133)].set 21 (.int x))) = wsOf G (setI μ v_m_restIn 0 x) dy := rfl
set_option maxRecDepth 8000 in
theorem s_111_22 (G : Gx) (μ : Mem) (dy : Nat → Nat) (x : Int32) : (wsOf G μ dy).set 111 (gA G 111, .inr (12, [.int (μ.1 v_m_people 0), .ref (gA G 112), .ref (gA G 113), .int (μ.1 v_m_firm 0), .ref (gA G 114), .ref (gA G 115), .int (μ.1 v_m_days 0), .ref (gA G 116), .int (μ.1 v_m_typed 0), .ref (gA G 117), .int (μ.1 v_m_rowMany 0), .int (μ.1 v_m_thrown 0), mRd (gA G) (μ.1 v_m_read 0), .int (μ.1 v_m_size 0), .int (μ.1 v_m_top 0), .int (μ.1 v_m_at 0), .int (μ.1 v_m_wrong 0), .ref (gA G 118), .ref (gA G 119), .ref (gA G 120), .int (μ.1 v_m_question 0), .int (μ.1 v_m_restIn 0), .int (μ.1 v_m_restRound 0), .int (μ.1 v_m_restState 0), .ref (gA G 121), .ref (gA G 122), .ref (gA G 123), .ref (gA G 124), .ref (gA G 125), .ref (gA G 126), .ref (gA G 129), .int (μ.1 v_m_askedShop 0), .int (μ.1 v_m_askedOne 0), .int (μ.1 v_m_askedState 0), .ref (gA G 130), .int (μ.1 v_m_peopleTold 0), .ref (gA G 131), .ref (gA G 132), .ref (gA G 133)].set 22 (.int x))) = wsOf G (setI μ v_m_restRound 0 x) dy := rfl
set_option maxRecDepth 8000 in
theorem s_111_23 (G : Gx) (μ : Mem) (dy : Nat → Nat) (x : Int32) : (wsOf G μ dy).set 111 (gA G 111, .inr (12, [.int (μ.1 v_m_people 0), .ref (gA G 112), .ref (gA G 113), .int (μ.1 v_m_firm 0), .ref (gA G 114), .ref (gA G 115), .int (μ.1 v_m_days 0), .ref (gA G 116), .int (μ.1 v_m_typed 0), .ref (gA G 117), .int (μ.1 v_m_rowMany 0), .int (μ.1 v_m_thrown 0), mRd (gA G) (μ.1 v_m_read 0), .int (μ.1 v_m_size 0), .int (μ.1 v_m_top 0), .int (μ.1 v_m_at 0), .int (μ.1 v_m_wrong 0), .ref (gA G 118), .ref (gA G 119), .ref (gA G 120), .int (μ.1 v_m_question 0), .int (μ.1 v_m_restIn 0), .int (μ.1 v_m_restRound 0), .int (μ.1 v_m_restState 0), .ref (gA G 121), .ref (gA G 122), .ref (gA G 123), .ref (gA G 124), .ref (gA G 125), .ref (gA G 126), .ref (gA G 129), .int (μ.1 v_m_askedShop 0), .int (μ.1 v_m_askedOne 0), .int (μ.1 v_m_askedState 0), .ref (gA G 130), .int (μ.1 v_m_peopleTold 0), .ref (gA G 131), .ref (gA G 132), .ref (gA G 133)].set 23 (.int x))) = wsOf G (setI μ v_m_restState 0 x) dy := rfl
set_option maxRecDepth 8000 in
theorem s_111_31 (G : Gx) (μ : Mem) (dy : Nat → Nat) (x : Int32) : (wsOf G μ dy).set 111 (gA G 111, .inr (12, [.int (μ.1 v_m_people 0), .ref (gA G 112), .ref (gA G 113), .int (μ.1 v_m_firm 0), .ref (gA G 114), .ref (gA G 115), .int (μ.1 v_m_days 0), .ref (gA G 116), .int (μ.1 v_m_typed 0), .ref (gA G 117), .int (μ.1 v_m_rowMany 0), .int (μ.1 v_m_thrown 0), mRd (gA G) (μ.1 v_m_read 0), .int (μ.1 v_m_size 0), .int (μ.1 v_m_top 0), .int (μ.1 v_m_at 0), .int (μ.1 v_m_wrong 0), .ref (gA G 118), .ref (gA G 119), .ref (gA G 120), .int (μ.1 v_m_question 0), .int (μ.1 v_m_restIn 0), .int (μ.1 v_m_restRound 0), .int (μ.1 v_m_restState 0), .ref (gA G 121), .ref (gA G 122), .ref (gA G 123), .ref (gA G 124), .ref (gA G 125), .ref (gA G 126), .ref (gA G 129), .int (μ.1 v_m_askedShop 0), .int (μ.1 v_m_askedOne 0), .int (μ.1 v_m_askedState 0), .ref (gA G 130), .int (μ.1 v_m_peopleTold 0), .ref (gA G 131), .ref (gA G 132), .ref (gA G 133)].set 31 (.int x))) = wsOf G (setI μ v_m_askedShop 0 x) dy := rfl
set_option maxRecDepth 8000 in
theorem s_111_32 (G : Gx) (μ : Mem) (dy : Nat → Nat) (x : Int32) : (wsOf G μ dy).set 111 (gA G 111, .inr (12, [.int (μ.1 v_m_people 0), .ref (gA G 112), .ref (gA G 113), .int (μ.1 v_m_firm 0), .ref (gA G 114), .ref (gA G 115), .int (μ.1 v_m_days 0), .ref (gA G 116), .int (μ.1 v_m_typed 0), .ref (gA G 117), .int (μ.1 v_m_rowMany 0), .int (μ.1 v_m_thrown 0), mRd (gA G) (μ.1 v_m_read 0), .int (μ.1 v_m_size 0), .int (μ.1 v_m_top 0), .int (μ.1 v_m_at 0), .int (μ.1 v_m_wrong 0), .ref (gA G 118), .ref (gA G 119), .ref (gA G 120), .int (μ.1 v_m_question 0), .int (μ.1 v_m_restIn 0), .int (μ.1 v_m_restRound 0), .int (μ.1 v_m_restState 0), .ref (gA G 121), .ref (gA G 122), .ref (gA G 123), .ref (gA G 124), .ref (gA G 125), .ref (gA G 126), .ref (gA G 129), .int (μ.1 v_m_askedShop 0), .int (μ.1 v_m_askedOne 0), .int (μ.1 v_m_askedState 0), .ref (gA G 130), .int (μ.1 v_m_peopleTold 0), .ref (gA G 131), .ref (gA G 132), .ref (gA G 133)].set 32 (.int x))) = wsOf G (setI μ v_m_askedOne 0 x) dy := rfl
set_option maxRecDepth 8000 in
theorem s_111_33 (G : Gx) (μ : Mem) (dy : Nat → Nat) (x : Int32) : (wsOf G μ dy).set 111 (gA G 111, .inr (12, [.int (μ.1 v_m_people 0), .ref (gA G 112), .ref (gA G 113), .int (μ.1 v_m_firm 0), .ref (gA G 114), .ref (gA G 115), .int (μ.1 v_m_days 0), .ref (gA G 116), .int (μ.1 v_m_typed 0), .ref (gA G 117), .int (μ.1 v_m_rowMany 0), .int (μ.1 v_m_thrown 0), mRd (gA G) (μ.1 v_m_read 0), .int (μ.1 v_m_size 0), .int (μ.1 v_m_top 0), .int (μ.1 v_m_at 0), .int (μ.1 v_m_wrong 0), .ref (gA G 118), .ref (gA G 119), .ref (gA G 120), .int (μ.1 v_m_question 0), .int (μ.1 v_m_restIn 0), .int (μ.1 v_m_restRound 0), .int (μ.1 v_m_restState 0), .ref (gA G 121), .ref (gA G 122), .ref (gA G 123), .ref (gA G 124), .ref (gA G 125), .ref (gA G 126), .ref (gA G 129), .int (μ.1 v_m_askedShop 0), .int (μ.1 v_m_askedOne 0), .int (μ.1 v_m_askedState 0), .ref (gA G 130), .int (μ.1 v_m_peopleTold 0), .ref (gA G 131), .ref (gA G 132), .ref (gA G 133)].set 33 (.int x))) = wsOf G (setI μ v_m_askedState 0 x) dy := rfl
set_option maxRecDepth 8000 in
theorem s_111_35 (G : Gx) (μ : Mem) (dy : Nat → Nat) (x : Int32) : (wsOf G μ dy).set 111 (gA G 111, .inr (12, [.int (μ.1 v_m_people 0), .ref (gA G 112), .ref (gA G 113), .int (μ.1 v_m_firm 0), .ref (gA G 114), .ref (gA G 115), .int (μ.1 v_m_days 0), .ref (gA G 116), .int (μ.1 v_m_typed 0), .ref (gA G 117), .int (μ.1 v_m_rowMany 0), .int (μ.1 v_m_thrown 0), mRd (gA G) (μ.1 v_m_read 0), .int (μ.1 v_m_size 0), .int (μ.1 v_m_top 0), .int (μ.1 v_m_at 0), .int (μ.1 v_m_wrong 0), .ref (gA G 118), .ref (gA G 119), .ref (gA G 120), .int (μ.1 v_m_question 0), .int (μ.1 v_m_restIn 0), .int (μ.1 v_m_restRound 0), .int (μ.1 v_m_restState 0), .ref (gA G 121), .ref (gA G 122), .ref (gA G 123), .ref (gA G 124), .ref (gA G 125), .ref (gA G 126), .ref (gA G 129), .int (μ.1 v_m_askedShop 0), .int (μ.1 v_m_askedOne 0), .int (μ.1 v_m_askedState 0), .ref (gA G 130), .int (μ.1 v_m_peopleTold 0), .ref (gA G 131), .ref (gA G 132), .ref (gA G 133)].set 35 (.int x))) = wsOf G (setI μ v_m_peopleTold 0 x) dy := rfl
set_option maxRecDepth 8000 in
theorem s_112 (G : Gx) (μ : Mem) (dy : Nat → Nat) (i : Nat) (x : Int32) : (wsOf G μ dy).set 112 (gA G 112, .inl (gC G 0, 14, .inl (upd (μ.1 v_m_need) i x))) = wsOf G (setI μ v_m_need i x) dy := rfl
set_option maxRecDepth 8000 in
theorem s_113 (G : Gx) (μ : Mem) (dy : Nat → Nat) (i : Nat) (x : Int32) : (wsOf G μ dy).set 113 (gA G 113, .inl (gC G 0, 14, .inl (upd (μ.1 v_m_price) i x))) = wsOf G (setI μ v_m_price i x) dy := rfl
set_option maxRecDepth 8000 in
theorem s_114 (G : Gx) (μ : Mem) (dy : Nat → Nat) (i : Nat) (x : Int32) : (wsOf G μ dy).set 114 (gA G 114, .inl (gC G 0, 196, .inl (upd (μ.1 v_m_loud) i x))) = wsOf G (setI μ v_m_loud i x) dy := rfl
set_option maxRecDepth 8000 in
theorem s_115 (G : Gx) (μ : Mem) (dy : Nat → Nat) (i : Nat) (x : Int32) : (wsOf G μ dy).set 115 (gA G 115, .inl (gC G 0, 201, .inl (upd (μ.1 v_m_states) i x))) = wsOf G (setI μ v_m_states i x) dy := rfl
set_option maxRecDepth 8000 in
theorem s_116 (G : Gx) (μ : Mem) (dy : Nat → Nat) (i : Nat) (x : Int32) : (wsOf G μ dy).set 116 (gA G 116, .inl (gC G 1, 80, .inl (upd (μ.1 v_m_text) i x))) = wsOf G (setI μ v_m_text i x) dy := rfl
set_option maxRecDepth 8000 in
theorem s_117 (G : Gx) (μ : Mem) (dy : Nat → Nat) (i : Nat) (x : Int64) : (wsOf G μ dy).set 117 (gA G 117, .inl (gC G 3, 210, .inr (.inl (vp_updL (μ.2.1 l_m_row) i x)))) = wsOf G (setL μ l_m_row i x) dy := rfl
set_option maxRecDepth 8000 in
theorem s_118 (G : Gx) (μ : Mem) (dy : Nat → Nat) (i : Nat) (x : Int32) : (wsOf G μ dy).set 118 (gA G 118, .inl (gC G 0, 320, .inl (upd (μ.1 v_m_line) i x))) = wsOf G (setI μ v_m_line i x) dy := rfl
set_option maxRecDepth 8000 in
theorem s_119 (G : Gx) (μ : Mem) (dy : Nat → Nat) (i : Nat) (x : Int32) : (wsOf G μ dy).set 119 (gA G 119, .inl (gC G 0, 16384, .inl (upd (μ.1 v_m_cameOn) i x))) = wsOf G (setI μ v_m_cameOn i x) dy := rfl
set_option maxRecDepth 8000 in
theorem s_120 (G : Gx) (μ : Mem) (dy : Nat → Nat) (i : Nat) (x : Int32) : (wsOf G μ dy).set 120 (gA G 120, .inl (gC G 0, 16384, .inl (upd (μ.1 v_m_cameIn) i x))) = wsOf G (setI μ v_m_cameIn i x) dy := rfl
set_option maxRecDepth 8000 in
theorem s_121 (G : Gx) (μ : Mem) (dy : Nat → Nat) (i : Nat) (x : Int32) : (wsOf G μ dy).set 121 (gA G 121, .inl (gC G 0, 14, .inl (upd (μ.1 v_m_needWas) i x))) = wsOf G (setI μ v_m_needWas i x) dy := rfl
set_option maxRecDepth 8000 in
theorem s_122 (G : Gx) (μ : Mem) (dy : Nat → Nat) (i : Nat) (x : Int32) : (wsOf G μ dy).set 122 (gA G 122, .inl (gC G 0, 14, .inl (upd (μ.1 v_m_far) i x))) = wsOf G (setI μ v_m_far i x) dy := rfl
set_option maxRecDepth 8000 in
theorem s_123 (G : Gx) (μ : Mem) (dy : Nat → Nat) (i : Nat) (x : Int32) : (wsOf G μ dy).set 123 (gA G 123, .inl (gC G 2, 16384, .inl (upd (μ.1 v_m_isLast) i x))) = wsOf G (setI μ v_m_isLast i x) dy := rfl
set_option maxRecDepth 8000 in
theorem s_124 (G : Gx) (μ : Mem) (dy : Nat → Nat) (i : Nat) (x : Int32) : (wsOf G μ dy).set 124 (gA G 124, .inl (gC G 0, 114688, .inl (upd (μ.1 v_m_sums) i x))) = wsOf G (setI μ v_m_sums i x) dy := rfl
set_option maxRecDepth 8000 in
theorem s_125 (G : Gx) (μ : Mem) (dy : Nat → Nat) (i : Nat) (x : Int32) : (wsOf G μ dy).set 125 (gA G 125, .inl (gC G 0, 114688, .inl (upd (μ.1 v_m_sumsIn) i x))) = wsOf G (setI μ v_m_sumsIn i x) dy := rfl
set_option maxRecDepth 8000 in
theorem s_127 (G : Gx) (μ : Mem) (dy : Nat → Nat) (i : Nat) (x : Int32) : (wsOf G μ dy).set 127 (gA G 127, .inl (gC G 1, 40, .inl (upd (μ.1 v_m_rules0) i x))) = wsOf G (setI μ v_m_rules0 i x) dy := rfl
set_option maxRecDepth 8000 in
theorem s_128 (G : Gx) (μ : Mem) (dy : Nat → Nat) (i : Nat) (x : Int32) : (wsOf G μ dy).set 128 (gA G 128, .inl (gC G 1, 40, .inl (upd (μ.1 v_m_rules1) i x))) = wsOf G (setI μ v_m_rules1 i x) dy := rfl
set_option maxRecDepth 8000 in
theorem s_129 (G : Gx) (μ : Mem) (dy : Nat → Nat) (i : Nat) (x : Int32) : (wsOf G μ dy).set 129 (gA G 129, .inl (gC G 0, 2, .inl (upd (μ.1 v_m_ruleSize) i x))) = wsOf G (setI μ v_m_ruleSize i x) dy := rfl
set_option maxRecDepth 8000 in
theorem s_130 (G : Gx) (μ : Mem) (dy : Nat → Nat) (i : Nat) (x : Int32) : (wsOf G μ dy).set 130 (gA G 130, .inl (gC G 0, 4, .inl (upd (μ.1 v_m_loudWas) i x))) = wsOf G (setI μ v_m_loudWas i x) dy := rfl
set_option maxRecDepth 8000 in
theorem s_131 (G : Gx) (μ : Mem) (dy : Nat → Nat) (i : Nat) (x : Int32) : (wsOf G μ dy).set 131 (gA G 131, .inl (gC G 0, 824, .inl (upd (μ.1 v_m_kept) i x))) = wsOf G (setI μ v_m_kept i x) dy := rfl
set_option maxRecDepth 8000 in
theorem s_132 (G : Gx) (μ : Mem) (dy : Nat → Nat) (i : Nat) (x : Int32) : (wsOf G μ dy).set 132 (gA G 132, .inl (gC G 2, 2, .inl (upd (μ.1 v_m_isKept) i x))) = wsOf G (setI μ v_m_isKept i x) dy := rfl
set_option maxRecDepth 8000 in
theorem s_133 (G : Gx) (μ : Mem) (dy : Nat → Nat) (i : Nat) (x : Int32) : (wsOf G μ dy).set 133 (gA G 133, .inl (gC G 0, 2, .inl (upd (μ.1 v_m_keptTold) i x))) = wsOf G (setI μ v_m_keptTold i x) dy := rfl
set_option maxRecDepth 8000 in
theorem s_134 (G : Gx) (μ : Mem) (dy : Nat → Nat) (i : Nat) (x : Int64) : (wsOf G μ dy).set 134 (gA G 134, .inl (gC G 3, 1, .inr (.inl (vp_updL (μ.2.1 l_out) i x)))) = wsOf G (setL μ l_out i x) dy := rfl
set_option maxRecDepth 8000 in
theorem s_135 (G : Gx) (μ : Mem) (dy : Nat → Nat) (i : Nat) (x : Int32) : (wsOf G μ dy).set 135 (dy 0, .inl (gC G 0, (μ.1 (vHe 0 2) 0).toNatClampNeg, .inl (upd (μ.1 (vHe 0 3)) i x))) = wsOf G (setI μ (vHe 0 3) i x) dy := rfl
set_option maxRecDepth 8000 in
theorem s_136 (G : Gx) (μ : Mem) (dy : Nat → Nat) (i : Nat) (x : Int32) : (wsOf G μ dy).set 136 (dy 1, .inl (gC G 0, (μ.1 (vHe 1 2) 0).toNatClampNeg, .inl (upd (μ.1 (vHe 1 3)) i x))) = wsOf G (setI μ (vHe 1 3) i x) dy := rfl
set_option maxRecDepth 8000 in
theorem s_137 (G : Gx) (μ : Mem) (dy : Nat → Nat) (i : Nat) (x : Int32) : (wsOf G μ dy).set 137 (dy 2, .inl (gC G 0, (μ.1 v_me_cellsLen 0).toNatClampNeg, .inl (upd (μ.1 v_me_cells) i x))) = wsOf G (setI μ v_me_cells i x) dy := rfl
section FAM
variable {G : Gx} {μ : Mem} {dy : Nat → Nat} {t i : Nat}
set_option maxRecDepth 8000 in
theorem wRu_o (ht : t < 3) : (wsOf G μ dy)[67 + 3 * t]? = some (gA G (67 + 3 * t), .inr (5, [.ref (gA G (67 + 3 * t + 1)), .ref (gA G (67 + 3 * t + 2)), .int (μ.1 (vRu t 0) 0), .int (μ.1 (vRu t 1) 0)])) := by
  match t, ht with
  | 0, _ => rfl
  | 1, _ => rfl
  | 2, _ => rfl
set_option maxRecDepth 8000 in
theorem wRu_c (ht : t < 3) : (wsOf G μ dy)[67 + 3 * t + 1]? = some (gA G (67 + 3 * t + 1), .inl (gC G 0, 40, .inl (μ.1 (vRu t 2)))) := by
  match t, ht with
  | 0, _ => rfl
  | 1, _ => rfl
  | 2, _ => rfl
set_option maxRecDepth 8000 in
theorem wRu_s (ht : t < 3) : (wsOf G μ dy)[67 + 3 * t + 2]? = some (gA G (67 + 3 * t + 2), .inl (gC G 0, 40, .inl (μ.1 (vRu t 3)))) := by
  match t, ht with
  | 0, _ => rfl
  | 1, _ => rfl
  | 2, _ => rfl
set_option maxRecDepth 8000 in
theorem sRu_size (ht : t < 3) (x : Int32) : (wsOf G μ dy).set (67 + 3 * t) (gA G (67 + 3 * t), .inr (5, [.ref (gA G (67 + 3 * t + 1)), .ref (gA G (67 + 3 * t + 2)), .int (μ.1 (vRu t 0) 0), .int (μ.1 (vRu t 1) 0)].set 2 (.int x))) = wsOf G (setI μ (vRu t 0) 0 x) dy := by
  match t, ht with
  | 0, _ => rfl
  | 1, _ => rfl
  | 2, _ => rfl
set_option maxRecDepth 8000 in
theorem sRu_top (ht : t < 3) (x : Int32) : (wsOf G μ dy).set (67 + 3 * t) (gA G (67 + 3 * t), .inr (5, [.ref (gA G (67 + 3 * t + 1)), .ref (gA G (67 + 3 * t + 2)), .int (μ.1 (vRu t 0) 0), .int (μ.1 (vRu t 1) 0)].set 3 (.int x))) = wsOf G (setI μ (vRu t 1) 0 x) dy := by
  match t, ht with
  | 0, _ => rfl
  | 1, _ => rfl
  | 2, _ => rfl
set_option maxRecDepth 8000 in
theorem sRu_codes (ht : t < 3) (j : Nat) (x : Int32) : (wsOf G μ dy).set (67 + 3 * t + 1) (gA G (67 + 3 * t + 1), .inl (gC G 0, 40, .inl (upd (μ.1 (vRu t 2)) j x))) = wsOf G (setI μ (vRu t 2) j x) dy := by
  match t, ht with
  | 0, _ => rfl
  | 1, _ => rfl
  | 2, _ => rfl
set_option maxRecDepth 8000 in
theorem sRu_stack (ht : t < 3) (j : Nat) (x : Int32) : (wsOf G μ dy).set (67 + 3 * t + 2) (gA G (67 + 3 * t + 2), .inl (gC G 0, 40, .inl (upd (μ.1 (vRu t 3)) j x))) = wsOf G (setI μ (vRu t 3) j x) dy := by
  match t, ht with
  | 0, _ => rfl
  | 1, _ => rfl
  | 2, _ => rfl
set_option maxRecDepth 8000 in
theorem wHe_o (ht : t < 2) : (wsOf G μ dy)[80 + 5 * t]? = some (gA G (80 + 5 * t), .inr (1, [.ref (gA G 4), .ref (gA G (80 + 5 * t + 1)), .ref (gA G (80 + 5 * t + 2)), .ref (gA G (80 + 5 * t + 3)), .ref (gA G (80 + 5 * t + 4)), .long (μ.2.1 (lHe t 0) 0), .long (μ.2.1 (lHe t 1) 0), .int (μ.1 (vHe t 0) 0), .ref (dy t), .int (μ.1 (vHe t 1) 0)])) := by
  match t, ht with
  | 0, _ => rfl
  | 1, _ => rfl
set_option maxRecDepth 8000 in
theorem wHe_low (ht : t < 2) : (wsOf G μ dy)[80 + 5 * t + 1]? = some (gA G (80 + 5 * t + 1), .inl (gC G 3, 14, .inr (.inl (μ.2.1 (lHe t 2))))) := by
  match t, ht with
  | 0, _ => rfl
  | 1, _ => rfl
set_option maxRecDepth 8000 in
theorem wHe_high (ht : t < 2) : (wsOf G μ dy)[80 + 5 * t + 2]? = some (gA G (80 + 5 * t + 2), .inl (gC G 3, 14, .inr (.inl (μ.2.1 (lHe t 3))))) := by
  match t, ht with
  | 0, _ => rfl
  | 1, _ => rfl
set_option maxRecDepth 8000 in
theorem wHe_all (ht : t < 2) : (wsOf G μ dy)[80 + 5 * t + 3]? = some (gA G (80 + 5 * t + 3), .inl (gC G 0, 14, .inl (μ.1 (vHe t 4)))) := by
  match t, ht with
  | 0, _ => rfl
  | 1, _ => rfl
set_option maxRecDepth 8000 in
theorem wHe_need (ht : t < 2) : (wsOf G μ dy)[80 + 5 * t + 4]? = some (gA G (80 + 5 * t + 4), .inl (gC G 0, 14, .inl (μ.1 (vHe t 5)))) := by
  match t, ht with
  | 0, _ => rfl
  | 1, _ => rfl
set_option maxRecDepth 8000 in
theorem wHe_known (ht : t < 2) : (wsOf G μ dy)[135 + t]? = some (dy t, .inl (gC G 0, (μ.1 (vHe t 2) 0).toNatClampNeg, .inl (μ.1 (vHe t 3)))) := by
  match t, ht with
  | 0, _ => rfl
  | 1, _ => rfl
set_option maxRecDepth 8000 in
theorem sHe_moving (ht : t < 2) (x : Int32) : (wsOf G μ dy).set (80 + 5 * t) (gA G (80 + 5 * t), .inr (1, [.ref (gA G 4), .ref (gA G (80 + 5 * t + 1)), .ref (gA G (80 + 5 * t + 2)), .ref (gA G (80 + 5 * t + 3)), .ref (gA G (80 + 5 * t + 4)), .long (μ.2.1 (lHe t 0) 0), .long (μ.2.1 (lHe t 1) 0), .int (μ.1 (vHe t 0) 0), .ref (dy t), .int (μ.1 (vHe t 1) 0)].set 7 (.int x))) = wsOf G (setI μ (vHe t 0) 0 x) dy := by
  match t, ht with
  | 0, _ => rfl
  | 1, _ => rfl
set_option maxRecDepth 8000 in
theorem sHe_version (ht : t < 2) (x : Int32) : (wsOf G μ dy).set (80 + 5 * t) (gA G (80 + 5 * t), .inr (1, [.ref (gA G 4), .ref (gA G (80 + 5 * t + 1)), .ref (gA G (80 + 5 * t + 2)), .ref (gA G (80 + 5 * t + 3)), .ref (gA G (80 + 5 * t + 4)), .long (μ.2.1 (lHe t 0) 0), .long (μ.2.1 (lHe t 1) 0), .int (μ.1 (vHe t 0) 0), .ref (dy t), .int (μ.1 (vHe t 1) 0)].set 9 (.int x))) = wsOf G (setI μ (vHe t 1) 0 x) dy := by
  match t, ht with
  | 0, _ => rfl
  | 1, _ => rfl
set_option maxRecDepth 8000 in
theorem sHe_lowBar (ht : t < 2) (x : Int64) : (wsOf G μ dy).set (80 + 5 * t) (gA G (80 + 5 * t), .inr (1, [.ref (gA G 4), .ref (gA G (80 + 5 * t + 1)), .ref (gA G (80 + 5 * t + 2)), .ref (gA G (80 + 5 * t + 3)), .ref (gA G (80 + 5 * t + 4)), .long (μ.2.1 (lHe t 0) 0), .long (μ.2.1 (lHe t 1) 0), .int (μ.1 (vHe t 0) 0), .ref (dy t), .int (μ.1 (vHe t 1) 0)].set 5 (.long x))) = wsOf G (setL μ (lHe t 0) 0 x) dy := by
  match t, ht with
  | 0, _ => rfl
  | 1, _ => rfl
set_option maxRecDepth 8000 in
theorem sHe_highBar (ht : t < 2) (x : Int64) : (wsOf G μ dy).set (80 + 5 * t) (gA G (80 + 5 * t), .inr (1, [.ref (gA G 4), .ref (gA G (80 + 5 * t + 1)), .ref (gA G (80 + 5 * t + 2)), .ref (gA G (80 + 5 * t + 3)), .ref (gA G (80 + 5 * t + 4)), .long (μ.2.1 (lHe t 0) 0), .long (μ.2.1 (lHe t 1) 0), .int (μ.1 (vHe t 0) 0), .ref (dy t), .int (μ.1 (vHe t 1) 0)].set 6 (.long x))) = wsOf G (setL μ (lHe t 1) 0 x) dy := by
  match t, ht with
  | 0, _ => rfl
  | 1, _ => rfl
set_option maxRecDepth 8000 in
theorem sHe_low (ht : t < 2) (j : Nat) (x : Int64) : (wsOf G μ dy).set (80 + 5 * t + 1) (gA G (80 + 5 * t + 1), .inl (gC G 3, 14, .inr (.inl (vp_updL (μ.2.1 (lHe t 2)) j x)))) = wsOf G (setL μ (lHe t 2) j x) dy := by
  match t, ht with
  | 0, _ => rfl
  | 1, _ => rfl
set_option maxRecDepth 8000 in
theorem sHe_high (ht : t < 2) (j : Nat) (x : Int64) : (wsOf G μ dy).set (80 + 5 * t + 2) (gA G (80 + 5 * t + 2), .inl (gC G 3, 14, .inr (.inl (vp_updL (μ.2.1 (lHe t 3)) j x)))) = wsOf G (setL μ (lHe t 3) j x) dy := by
  match t, ht with
  | 0, _ => rfl
  | 1, _ => rfl
set_option maxRecDepth 8000 in
theorem sHe_all (ht : t < 2) (j : Nat) (x : Int32) : (wsOf G μ dy).set (80 + 5 * t + 3) (gA G (80 + 5 * t + 3), .inl (gC G 0, 14, .inl (upd (μ.1 (vHe t 4)) j x))) = wsOf G (setI μ (vHe t 4) j x) dy := by
  match t, ht with
  | 0, _ => rfl
  | 1, _ => rfl
set_option maxRecDepth 8000 in
theorem sHe_need (ht : t < 2) (j : Nat) (x : Int32) : (wsOf G μ dy).set (80 + 5 * t + 4) (gA G (80 + 5 * t + 4), .inl (gC G 0, 14, .inl (upd (μ.1 (vHe t 5)) j x))) = wsOf G (setI μ (vHe t 5) j x) dy := by
  match t, ht with
  | 0, _ => rfl
  | 1, _ => rfl
set_option maxRecDepth 8000 in
theorem sHe_known (ht : t < 2) (j : Nat) (x : Int32) : (wsOf G μ dy).set (135 + t) (dy t, .inl (gC G 0, (μ.1 (vHe t 2) 0).toNatClampNeg, .inl (upd (μ.1 (vHe t 3)) j x))) = wsOf G (setI μ (vHe t 3) j x) dy := by
  match t, ht with
  | 0, _ => rfl
  | 1, _ => rfl
set_option maxRecDepth 8000 in
theorem wFa (hi : i < 14) : (wsOf G μ dy)[95 + i]? = some (gA G (95 + i), .inl (gC G 0, 7, .inl (μ.1 (vFa i)))) := by
  match i, hi with
  | 0, _ => rfl
  | 1, _ => rfl
  | 2, _ => rfl
  | 3, _ => rfl
  | 4, _ => rfl
  | 5, _ => rfl
  | 6, _ => rfl
  | 7, _ => rfl
  | 8, _ => rfl
  | 9, _ => rfl
  | 10, _ => rfl
  | 11, _ => rfl
  | 12, _ => rfl
  | 13, _ => rfl
set_option maxRecDepth 8000 in
theorem sFa (hi : i < 14) (j : Nat) (x : Int32) : (wsOf G μ dy).set (95 + i) (gA G (95 + i), .inl (gC G 0, 7, .inl (upd (μ.1 (vFa i)) j x))) = wsOf G (setI μ (vFa i) j x) dy := by
  match i, hi with
  | 0, _ => rfl
  | 1, _ => rfl
  | 2, _ => rfl
  | 3, _ => rfl
  | 4, _ => rfl
  | 5, _ => rfl
  | 6, _ => rfl
  | 7, _ => rfl
  | 8, _ => rfl
  | 9, _ => rfl
  | 10, _ => rfl
  | 11, _ => rfl
  | 12, _ => rfl
  | 13, _ => rfl
set_option maxRecDepth 8000 in
theorem wLo (hi : i < 14) : (wsOf G μ dy)[8 + i]? = some (gA G (8 + i), .inl (gC G 0, 14, .inl (μ.1 (vSt 0 (8 + i))))) := by
  match i, hi with
  | 0, _ => rfl
  | 1, _ => rfl
  | 2, _ => rfl
  | 3, _ => rfl
  | 4, _ => rfl
  | 5, _ => rfl
  | 6, _ => rfl
  | 7, _ => rfl
  | 8, _ => rfl
  | 9, _ => rfl
  | 10, _ => rfl
  | 11, _ => rfl
  | 12, _ => rfl
  | 13, _ => rfl
set_option maxRecDepth 8000 in
theorem sLo (hi : i < 14) (j : Nat) (x : Int32) : (wsOf G μ dy).set (8 + i) (gA G (8 + i), .inl (gC G 0, 14, .inl (upd (μ.1 (vSt 0 (8 + i))) j x))) = wsOf G (setI μ (vSt 0 (8 + i)) j x) dy := by
  match i, hi with
  | 0, _ => rfl
  | 1, _ => rfl
  | 2, _ => rfl
  | 3, _ => rfl
  | 4, _ => rfl
  | 5, _ => rfl
  | 6, _ => rfl
  | 7, _ => rfl
  | 8, _ => rfl
  | 9, _ => rfl
  | 10, _ => rfl
  | 11, _ => rfl
  | 12, _ => rfl
  | 13, _ => rfl
set_option maxRecDepth 8000 in
theorem wSt_o (ht : t < 3) : (wsOf G μ dy)[4 + 20 * t]? = some (gA G (4 + 20 * t), .inr (8, [.ref (gA G (4 + 20 * t + 1)), .ref (gA G (4 + 20 * t + 2)), .ref (gA G (4 + 20 * t + 3)), .ref (gA G (4 + 20 * t + 18)), .ref (gA G (4 + 20 * t + 19)), .int (μ.1 (vSt t 0) 0), .int (μ.1 (vSt t 1) 0), .int (μ.1 (vSt t 2) 0), .int (μ.1 (vSt t 3) 0)])) := by
  match t, ht with
  | 0, _ => rfl
  | 1, _ => rfl
  | 2, _ => rfl
set_option maxRecDepth 8000 in
theorem wSt_need (ht : t < 3) : (wsOf G μ dy)[4 + 20 * t + 1]? = some (gA G (4 + 20 * t + 1), .inl (gC G 0, 14, .inl (μ.1 (vSt t 4)))) := by
  match t, ht with
  | 0, _ => rfl
  | 1, _ => rfl
  | 2, _ => rfl
set_option maxRecDepth 8000 in
theorem aSt_need (ht : t < 3) (f : Nat → Int32) : (wsOf G μ dy).set (4 + 20 * t + 1) (gA G (4 + 20 * t + 1), .inl (gC G 0, 14, .inl f)) = wsOf G (setA μ (vSt t 4) f) dy := by
  match t, ht with
  | 0, _ => rfl
  | 1, _ => rfl
  | 2, _ => rfl
set_option maxRecDepth 8000 in
theorem wSt_states (ht : t < 3) : (wsOf G μ dy)[4 + 20 * t + 18]? = some (gA G (4 + 20 * t + 18), .inl (gC G 0, 201, .inl (μ.1 (vSt t 6)))) := by
  match t, ht with
  | 0, _ => rfl
  | 1, _ => rfl
  | 2, _ => rfl
set_option maxRecDepth 8000 in
theorem aSt_states (ht : t < 3) (f : Nat → Int32) : (wsOf G μ dy).set (4 + 20 * t + 18) (gA G (4 + 20 * t + 18), .inl (gC G 0, 201, .inl f)) = wsOf G (setA μ (vSt t 6) f) dy := by
  match t, ht with
  | 0, _ => rfl
  | 1, _ => rfl
  | 2, _ => rfl
set_option maxRecDepth 8000 in
theorem wSt_loud (ht : t < 3) : (wsOf G μ dy)[4 + 20 * t + 3]? = some (gA G (4 + 20 * t + 3), .inl (gC G 6, 14, .inr (.inr (.inr (.inr (fun i => if i < 14 then some (gA G (4 + 20 * t + 4 + i)) else none)))))) := by
  match t, ht with
  | 0, _ => rfl
  | 1, _ => rfl
  | 2, _ => rfl
set_option maxRecDepth 8000 in
theorem wSt_row (ht : t < 3) (hi : i < 14) : (wsOf G μ dy)[4 + 20 * t + 4 + i]? = some (gA G (4 + 20 * t + 4 + i), .inl (gC G 0, 14, .inl (μ.1 (vSt t (8 + i))))) := by
  match t, ht, i, hi with
  | 0, _, 0, _ => rfl
  | 0, _, 1, _ => rfl
  | 0, _, 2, _ => rfl
  | 0, _, 3, _ => rfl
  | 0, _, 4, _ => rfl
  | 0, _, 5, _ => rfl
  | 0, _, 6, _ => rfl
  | 0, _, 7, _ => rfl
  | 0, _, 8, _ => rfl
  | 0, _, 9, _ => rfl
  | 0, _, 10, _ => rfl
  | 0, _, 11, _ => rfl
  | 0, _, 12, _ => rfl
  | 0, _, 13, _ => rfl
  | 1, _, 0, _ => rfl
  | 1, _, 1, _ => rfl
  | 1, _, 2, _ => rfl
  | 1, _, 3, _ => rfl
  | 1, _, 4, _ => rfl
  | 1, _, 5, _ => rfl
  | 1, _, 6, _ => rfl
  | 1, _, 7, _ => rfl
  | 1, _, 8, _ => rfl
  | 1, _, 9, _ => rfl
  | 1, _, 10, _ => rfl
  | 1, _, 11, _ => rfl
  | 1, _, 12, _ => rfl
  | 1, _, 13, _ => rfl
  | 2, _, 0, _ => rfl
  | 2, _, 1, _ => rfl
  | 2, _, 2, _ => rfl
  | 2, _, 3, _ => rfl
  | 2, _, 4, _ => rfl
  | 2, _, 5, _ => rfl
  | 2, _, 6, _ => rfl
  | 2, _, 7, _ => rfl
  | 2, _, 8, _ => rfl
  | 2, _, 9, _ => rfl
  | 2, _, 10, _ => rfl
  | 2, _, 11, _ => rfl
  | 2, _, 12, _ => rfl
  | 2, _, 13, _ => rfl
set_option maxRecDepth 8000 in
theorem aSt_row (ht : t < 3) (hi : i < 14) (f : Nat → Int32) : (wsOf G μ dy).set (4 + 20 * t + 4 + i) (gA G (4 + 20 * t + 4 + i), .inl (gC G 0, 14, .inl f)) = wsOf G (setA μ (vSt t (8 + i)) f) dy := by
  match t, ht, i, hi with
  | 0, _, 0, _ => rfl
  | 0, _, 1, _ => rfl
  | 0, _, 2, _ => rfl
  | 0, _, 3, _ => rfl
  | 0, _, 4, _ => rfl
  | 0, _, 5, _ => rfl
  | 0, _, 6, _ => rfl
  | 0, _, 7, _ => rfl
  | 0, _, 8, _ => rfl
  | 0, _, 9, _ => rfl
  | 0, _, 10, _ => rfl
  | 0, _, 11, _ => rfl
  | 0, _, 12, _ => rfl
  | 0, _, 13, _ => rfl
  | 1, _, 0, _ => rfl
  | 1, _, 1, _ => rfl
  | 1, _, 2, _ => rfl
  | 1, _, 3, _ => rfl
  | 1, _, 4, _ => rfl
  | 1, _, 5, _ => rfl
  | 1, _, 6, _ => rfl
  | 1, _, 7, _ => rfl
  | 1, _, 8, _ => rfl
  | 1, _, 9, _ => rfl
  | 1, _, 10, _ => rfl
  | 1, _, 11, _ => rfl
  | 1, _, 12, _ => rfl
  | 1, _, 13, _ => rfl
  | 2, _, 0, _ => rfl
  | 2, _, 1, _ => rfl
  | 2, _, 2, _ => rfl
  | 2, _, 3, _ => rfl
  | 2, _, 4, _ => rfl
  | 2, _, 5, _ => rfl
  | 2, _, 6, _ => rfl
  | 2, _, 7, _ => rfl
  | 2, _, 8, _ => rfl
  | 2, _, 9, _ => rfl
  | 2, _, 10, _ => rfl
  | 2, _, 11, _ => rfl
  | 2, _, 12, _ => rfl
  | 2, _, 13, _ => rfl
set_option maxRecDepth 8000 in
theorem sSt_people (ht : t < 3) (x : Int32) : (wsOf G μ dy).set (4 + 20 * t) (gA G (4 + 20 * t), .inr (8, [.ref (gA G (4 + 20 * t + 1)), .ref (gA G (4 + 20 * t + 2)), .ref (gA G (4 + 20 * t + 3)), .ref (gA G (4 + 20 * t + 18)), .ref (gA G (4 + 20 * t + 19)), .int (μ.1 (vSt t 0) 0), .int (μ.1 (vSt t 1) 0), .int (μ.1 (vSt t 2) 0), .int (μ.1 (vSt t 3) 0)].set 5 (.int x))) = wsOf G (setI μ (vSt t 0) 0 x) dy := by
  match t, ht with
  | 0, _ => rfl
  | 1, _ => rfl
  | 2, _ => rfl
set_option maxRecDepth 8000 in
theorem sSt_days (ht : t < 3) (x : Int32) : (wsOf G μ dy).set (4 + 20 * t) (gA G (4 + 20 * t), .inr (8, [.ref (gA G (4 + 20 * t + 1)), .ref (gA G (4 + 20 * t + 2)), .ref (gA G (4 + 20 * t + 3)), .ref (gA G (4 + 20 * t + 18)), .ref (gA G (4 + 20 * t + 19)), .int (μ.1 (vSt t 0) 0), .int (μ.1 (vSt t 1) 0), .int (μ.1 (vSt t 2) 0), .int (μ.1 (vSt t 3) 0)].set 7 (.int x))) = wsOf G (setI μ (vSt t 2) 0 x) dy := by
  match t, ht with
  | 0, _ => rfl
  | 1, _ => rfl
  | 2, _ => rfl
set_option maxRecDepth 8000 in
theorem sSt_version (ht : t < 3) (x : Int32) : (wsOf G μ dy).set (4 + 20 * t) (gA G (4 + 20 * t), .inr (8, [.ref (gA G (4 + 20 * t + 1)), .ref (gA G (4 + 20 * t + 2)), .ref (gA G (4 + 20 * t + 3)), .ref (gA G (4 + 20 * t + 18)), .ref (gA G (4 + 20 * t + 19)), .int (μ.1 (vSt t 0) 0), .int (μ.1 (vSt t 1) 0), .int (μ.1 (vSt t 2) 0), .int (μ.1 (vSt t 3) 0)].set 8 (.int x))) = wsOf G (setI μ (vSt t 3) 0 x) dy := by
  match t, ht with
  | 0, _ => rfl
  | 1, _ => rfl
  | 2, _ => rfl
end FAM
