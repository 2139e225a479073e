/-! The cells that the beginning made are the picture, at a first memory. (printed by law_r.py) -/
abbrev aL (bx : Nat) (u : Nw) (bm : Nat) (v : Nw) (o : Nat) : List Nat := [bx, u.1 0, u.1 1, u.1 2, u.1 3, u.1 4, u.1 5, u.1 6, u.2 0 0, u.2 0 1, u.2 0 2, u.2 0 3, u.2 0 4, u.2 0 5, u.2 0 6, u.2 0 7, u.2 0 8, u.2 0 9, u.2 0 10, u.2 0 11, u.2 0 12, u.2 0 13, u.1 7, u.1 8, u.1 10, u.1 11, u.1 12, u.1 13, u.2 1 0, u.2 1 1, u.2 1 2, u.2 1 3, u.2 1 4, u.2 1 5, u.2 1 6, u.2 1 7, u.2 1 8, u.2 1 9, u.2 1 10, u.2 1 11, u.2 1 12, u.2 1 13, u.1 14, u.1 15, u.1 16, u.1 17, u.1 18, u.1 19, u.2 2 0, u.2 2 1, u.2 2 2, u.2 2 3, u.2 2 4, u.2 2 5, u.2 2 6, u.2 2 7, u.2 2 8, u.2 2 9, u.2 2 10, u.2 2 11, u.2 2 12, u.2 2 13, u.1 20, u.1 21, u.1 9, u.1 22, u.1 23, u.1 24, u.1 25, u.1 26, u.1 27, u.1 28, u.1 29, u.1 33, u.1 34, u.1 35, u.1 30, u.1 31, u.1 32, u.1 36, u.1 37, u.1 38, u.1 39, u.1 40, u.1 41, u.1 51, u.1 52, u.1 53, u.1 54, u.1 55, u.1 43, u.1 45, u.1 46, u.1 47, u.1 48, u.2 3 0, u.2 3 1, u.2 3 2, u.2 3 3, u.2 3 4, u.2 3 5, u.2 3 6, u.2 3 7, u.2 3 8, u.2 3 9, u.2 3 10, u.2 3 11, u.2 3 12, u.2 3 13, u.1 49, u.1 50, bm, v.1 0, v.1 1, v.1 2, v.1 3, v.1 4, v.1 5, v.1 6, v.1 7, v.1 8, v.1 9, v.1 10, v.1 11, v.1 12, v.1 13, v.1 14, v.2 0 0, v.2 0 1, v.1 15, v.1 16, v.1 17, v.1 18, v.1 19, o]
abbrev gL (G : Gx) (bx : Nat) (u : Nw) (bm : Nat) (v : Nw) (o : Nat) : Gx := (G.1, G.2.1, fun k => (aL bx u bm v o).getD k 0, gC G, gK G, gV G)
abbrev dL0 (u : Nw) : Nat → Nat := fun k => [u.1 42, u.1 56, u.1 44].getD k 0
def mu0 : Mem := (fun v i => if v = v_x_rules then Int32.ofNat i else if v = vSt 0 3 then 1 else if v = vSt 1 3 then 1 else if v = vSt 2 3 then 1 else if v = v_rr_spare then 2 else if v = v_m_askedOne then -1 else 0, fun _ _ => 0, 138, 282595)
theorem eL126 (G : Gx) (bx : Nat) (u : Nw) (bm : Nat) (v : Nw) (o : Nat) : (fun i => if i < 2 then some (gA (gL G bx u bm v o) (127 + i)) else none) = fun i => if i < 2 then some (v.2 0 i) else none := by
  funext i
  match i with
  | 0 => rfl
  | 1 => rfl
  | i + 2 => rw [if_neg (by omega), if_neg (by omega)]
theorem eL94 (G : Gx) (bx : Nat) (u : Nw) (bm : Nat) (v : Nw) (o : Nat) : (fun i => if i < 14 then some (gA (gL G bx u bm v o) (95 + i)) else none) = fun i => if i < 14 then some (u.2 3 i) else none := by
  funext i
  match i with
  | 0 => rfl
  | 1 => rfl
  | 2 => rfl
  | 3 => rfl
  | 4 => rfl
  | 5 => rfl
  | 6 => rfl
  | 7 => rfl
  | 8 => rfl
  | 9 => rfl
  | 10 => rfl
  | 11 => rfl
  | 12 => rfl
  | 13 => rfl
  | i + 14 => rw [if_neg (by omega), if_neg (by omega)]
theorem eL66 (G : Gx) (bx : Nat) (u : Nw) (bm : Nat) (v : Nw) (o : Nat) : (fun i => if i < 2 then some (gA (gL G bx u bm v o) (67 + 3 * (mu0.1 v_x_rules i).toNatClampNeg)) else none) = va_up (va_up (fun _ => none) 0 (some (u.1 24))) 1 (some (u.1 27)) := by
  funext i
  match i with
  | 0 => rfl
  | 1 => rfl
  | i + 2 => simp [va_up]
theorem eL64 (G : Gx) (bx : Nat) (u : Nw) (bm : Nat) (v : Nw) (o : Nat) : (fun i => if i < 2 then some (gA (gL G bx u bm v o) (24 + 20 * i)) else none) = va_up (va_up (fun _ => none) 0 (some (u.1 10))) 1 (some (u.1 16)) := by
  funext i
  match i with
  | 0 => rfl
  | 1 => rfl
  | i + 2 => simp [va_up]
theorem eL47 (G : Gx) (bx : Nat) (u : Nw) (bm : Nat) (v : Nw) (o : Nat) : (fun i => if i < 14 then some (gA (gL G bx u bm v o) (48 + i)) else none) = fun i => if i < 14 then some (u.2 2 i) else none := by
  funext i
  match i with
  | 0 => rfl
  | 1 => rfl
  | 2 => rfl
  | 3 => rfl
  | 4 => rfl
  | 5 => rfl
  | 6 => rfl
  | 7 => rfl
  | 8 => rfl
  | 9 => rfl
  | 10 => rfl
  | 11 => rfl
  | 12 => rfl
  | 13 => rfl
  | i + 14 => rw [if_neg (by omega), if_neg (by omega)]
theorem eL27 (G : Gx) (bx : Nat) (u : Nw) (bm : Nat) (v : Nw) (o : Nat) : (fun i => if i < 14 then some (gA (gL G bx u bm v o) (28 + i)) else none) = fun i => if i < 14 then some (u.2 1 i) else none := by
  funext i
  match i with
  | 0 => rfl
  | 1 => rfl
  | 2 => rfl
  | 3 => rfl
  | 4 => rfl
  | 5 => rfl
  | 6 => rfl
  | 7 => rfl
  | 8 => rfl
  | 9 => rfl
  | 10 => rfl
  | 11 => rfl
  | 12 => rfl
  | 13 => rfl
  | i + 14 => rw [if_neg (by omega), if_neg (by omega)]
theorem eL7 (G : Gx) (bx : Nat) (u : Nw) (bm : Nat) (v : Nw) (o : Nat) : (fun i => if i < 14 then some (gA (gL G bx u bm v o) (8 + i)) else none) = fun i => if i < 14 then some (u.2 0 i) else none := by
  funext i
  match i with
  | 0 => rfl
  | 1 => rfl
  | 2 => rfl
  | 3 => rfl
  | 4 => rfl
  | 5 => rfl
  | 6 => rfl
  | 7 => rfl
  | 8 => rfl
  | 9 => rfl
  | 10 => rfl
  | 11 => rfl
  | 12 => rfl
  | 13 => rfl
  | i + 14 => rw [if_neg (by omega), if_neg (by omega)]
abbrev pL : List Nat := [0, 1, 2, 3, 4, 5, 6, 7, 8, 9, 10, 11, 12, 13, 14, 15, 16, 17, 18, 19, 20, 21, 22, 23, 25, 26, 27, 28, 29, 30, 31, 32, 33, 34, 35, 36, 37, 38, 39, 40, 41, 42, 43, 44, 45, 46, 47, 48, 49, 50, 51, 52, 53, 54, 55, 56, 57, 58, 59, 60, 61, 62, 63, 64, 24, 65, 66, 67, 68, 69, 70, 71, 72, 76, 77, 78, 73, 74, 75, 79, 80, 81, 82, 83, 84, 108, 109, 110, 111, 112, 86, 88, 89, 90, 91, 92, 93, 94, 95, 96, 97, 98, 99, 100, 101, 102, 103, 104, 105, 106, 107, 114, 115, 116, 117, 118, 119, 120, 121, 122, 123, 124, 125, 126, 127, 128, 129, 130, 131, 132, 133, 134, 135, 136, 137, 85, 113, 87]
theorem apW_nil (b : va_W) : apW [] b = b := rfl
theorem apW_cons (a : Nat × va_E) (l b : va_W) : apW (a :: l) b = a :: apW l b := rfl
theorem rwl_2 (r : Nat → Nat) (e : va_E) : rwl 2 r e = [(r 0, e), (r 1, e)] := rfl
theorem rwl_14 (r : Nat → Nat) (e : va_E) : rwl 14 r e = [(r 0, e), (r 1, e), (r 2, e), (r 3, e), (r 4, e), (r 5, e), (r 6, e), (r 7, e), (r 8, e), (r 9, e), (r 10, e), (r 11, e), (r 12, e), (r 13, e)] := rfl
set_option maxHeartbeats 4000000 in
set_option maxRecDepth 20000 in
theorem wL_eq (G : Gx) (bx : Nat) (u : Nw) (bm : Nat) (v : Nw) (o : Nat) : pL.map (fun i => (wL G bx u bm v o)[i]?) = (wsOf (gL G bx u bm v o) mu0 (dL0 u)).map some := by
  simp only [wL, w_ac_init, w_he_init, w_m_init, w_me_init, w_ob_init, w_rr_init, w_ru_init, w_rw_init, w_sh_init, w_sr_init, w_st_init, w_ta_init, w_x_init, apW_nil, apW_cons, rwl_2, rwl_14]
  unfold wsOf
  rw [eL7 G bx u bm v o, eL27 G bx u bm v o, eL47 G bx u bm v o, eL64 G bx u bm v o, eL66 G bx u bm v o, eL94 G bx u bm v o, eL126 G bx u bm v o]
  exact rfl
