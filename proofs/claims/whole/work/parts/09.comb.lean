/-! The words that the functions of the methods are written with, and rows for what is rare. -/
def FU : Nat := 20000
def bnd {α β : Type} (a : α) (f : α → Option β) : Option β := f a
def bd2 {α β : Type} (o : Option (α × Mem)) (f : α → Mem → Option β) : Option β := match o with
  | none => none
  | some p => f p.1 p.2
def bd1 {β : Type} (o : Option Mem) (f : Mem → Option β) : Option β := match o with
  | none => none
  | some p => f p
def chk {β : Type} (b : Bool) (k : Option β) : Option β := match b with
  | true => k
  | false => none
def inb (i : Int32) (n : Nat) : Bool := decide (¬ (i < 0 ∨ n ≤ i.toNatClampNeg))
def zb (x : Int32) : Bool := decide (x = 0 ∨ x = 1)
theorem bnd_eq {α β : Type} {a : α} {f : α → Option β} {r : β} (h : bnd a f = some r) : ∃ z, z = a ∧ f z = some r := ⟨a, rfl, h⟩
theorem bd2_eq {α β : Type} {o : Option (α × Mem)} {f : α → Mem → Option β} {r : β} (h : bd2 o f = some r) : ∃ v μ1, o = some (v, μ1) ∧ f v μ1 = some r := by
  cases o with
  | none => exact nomatch h
  | some p => exact ⟨p.1, p.2, rfl, h⟩
theorem bd1_eq {β : Type} {o : Option Mem} {f : Mem → Option β} {r : β} (h : bd1 o f = some r) : ∃ μ1, o = some μ1 ∧ f μ1 = some r := by
  cases o with
  | none => exact nomatch h
  | some p => exact ⟨p, rfl, h⟩
theorem chk_eq {β : Type} {b : Bool} {k : Option β} {r : β} (h : chk b k = some r) : b = true ∧ k = some r := by
  cases b with
  | false => exact nomatch h
  | true => exact ⟨rfl, h⟩
theorem inb_in {i : Int32} {n : Nat} (h : inb i n = true) : vp_in i n := of_decide_eq_true (p := ¬ (i < 0 ∨ n ≤ i.toNatClampNeg)) h
theorem inb_lt {i : Int32} {n : Nat} (h : inb i n = true) : i.toNatClampNeg < n := Nat.not_le.mp fun q => (inb_in h) (Or.inr q)
theorem zb_nar {x : Int32} (h : zb x = true) : narrow .boolean (.int x) = .int x := by
  rcases of_decide_eq_true h with rfl | rfl <;> rfl
theorem zb_fit {x : Int32} (h : zb x = true) : fits .boolean (.int x) = true := by
  rcases of_decide_eq_true h with rfl | rfl <;> rfl
theorem i32_eq {x y : Int32} {n : Int} (h : x.toInt = n) (hy : y.toInt = n) : x = y := Int32.toInt_inj.mp (h.trans hy.symm)
theorem i32_ne {x y : Int32} {n : Int} (h : ¬ x = y) (hy : y.toInt = n) : ¬ x.toInt = n := fun q => h (i32_eq q hy)
theorem i32_nf {x y : Int32} {n : Int} (h : ¬ x = y) (hy : y.toInt = n) : ¬ n = x.toInt := fun q => h (i32_eq q.symm hy)
theorem Ok.le {M : MD} {a b : Nat} {X : Cx} (hX : Ok M a X) (h : b ≤ a) : Ok M b X :=
  ⟨hX.1, hX.2.1, hX.2.2.1, hX.2.2.2.1, hX.2.2.2.2.1, hX.2.2.2.2.2.1, ⟨Nat.le_trans h hX.2.2.2.2.2.2.1.1, Nat.le_trans (Nat.mul_le_mul_left 40 h) hX.2.2.2.2.2.2.1.2⟩, hX.2.2.2.2.2.2.2⟩
def RetZ (M : MD) (X : Cx) (v : Int32) (μ : Mem) : Prop := ∀ (pc : Nat) (ls : List (Nat × Value)) (dy : Nat → Nat), narrow .boolean (.int v) = .int v → decode M.2.1 pc = .ok (.ireturn, 1) → AW X pc ls [.int v] μ dy
def RetT (M : MD) (X : Cx) (μ : Mem) : Prop := ∀ (pc : Nat) (ls : List (Nat × Value)) (dy : Nat → Nat) {ik ic : Nat}, decode M.2.1 pc = .ok (.new ik, 3) → decode M.2.1 (pc + 3) = .ok (.dup, 1) → decode M.2.1 (pc + 4) = .ok (.invokespecial ic, 3) → decode M.2.1 (pc + 7) = .ok (.athrow, 1) → AW X pc ls [] μ dy
theorem Con.ofZ {M : MD} {d : Nat} {G : Gx} {av : List Value} {μ μ' : Mem} {v : Int32} (hM : MOk M av) (hr : M.2.2.2.1 = some .boolean) (hb : ∀ (X : Cx), xG X = G → Ok M d X → RetZ M X v μ' → ∀ dy, AW X 0 (lv_args 0 av) [] μ dy) : Con G M d av μ (some (.int v), μ') := by
  refine Con.core hM _ (fun X hG hX hk hrt hz => hb X hG hX ?_)
  obtain ⟨dy0, hA, hc0, hz0, hQ⟩ := hz
  subst hG
  intro pc ls dy hn hd H locs la hP hD hS hB h
  rw [hc0, hz0, hQ]
  refine W.zret (ty := .boolean) hX.1 hX.2.1 (hrt.trans hr) hn (fun t ht hW => ⟨rfl, ⟨dy, by rw [ht]; exact hP, by rw [hA] at hD; exact hD⟩, ?_, ?_⟩) hS.2.2 hd hk
  · unfold bdd at hB
    rw [hc0, hz0] at hB
    exact hB
  · rw [hA] at hS
    exact hS.F ht
def RetY (M : MD) (X : Cx) (v : Int32) (μ : Mem) : Prop := ∀ (pc : Nat) (ls : List (Nat × Value)) (dy : Nat → Nat), narrow .byte (.int v) = .int v → decode M.2.1 pc = .ok (.ireturn, 1) → AW X pc ls [.int v] μ dy
theorem zb_narB {x : Int32} (h : zb x = true) : narrow .byte (.int x) = .int x := by
  rcases of_decide_eq_true h with rfl | rfl <;> rfl
theorem Con.ofY {M : MD} {d : Nat} {G : Gx} {av : List Value} {μ μ' : Mem} {v : Int32} (hM : MOk M av) (hr : M.2.2.2.1 = some .byte) (hb : ∀ (X : Cx), xG X = G → Ok M d X → RetY M X v μ' → ∀ dy, AW X 0 (lv_args 0 av) [] μ dy) : Con G M d av μ (some (.int v), μ') := by
  refine Con.core hM _ (fun X hG hX hk hrt hz => hb X hG hX ?_)
  obtain ⟨dy0, hA, hc0, hz0, hQ⟩ := hz
  subst hG
  intro pc ls dy hn hd H locs la hP hD hS hB h
  rw [hc0, hz0, hQ]
  refine W.zret (ty := .byte) hX.1 hX.2.1 (hrt.trans hr) hn (fun t ht hW => ⟨rfl, ⟨dy, by rw [ht]; exact hP, by rw [hA] at hD; exact hD⟩, ?_, ?_⟩) hS.2.2 hd hk
  · unfold bdd at hB
    rw [hc0, hz0] at hB
    exact hB
  · rw [hA] at hS
    exact hS.F ht
theorem fin_Y {M : MD} {X : Cx} {v : Int32} {μ : Mem} {r : Int32 × Mem} (hf : some (v, μ) = some r) (hr : RetY M X r.1 r.2) : RetY M X v μ := by cases hf; exact hr
theorem fin_I {M : MD} {X : Cx} {v : Int32} {μ : Mem} {r : Int32 × Mem} (hf : some (v, μ) = some r) (hr : RetI M X r.1 r.2) : RetI M X v μ := by cases hf; exact hr
theorem fin_Z {M : MD} {X : Cx} {v : Int32} {μ : Mem} {r : Int32 × Mem} (hf : some (v, μ) = some r) (hr : RetZ M X r.1 r.2) : RetZ M X v μ := by cases hf; exact hr
theorem fin_L {M : MD} {X : Cx} {v : Int64} {μ : Mem} {r : Int64 × Mem} (hf : some (v, μ) = some r) (hr : RetL M X r.1 r.2) : RetL M X v μ := by cases hf; exact hr
theorem fin_V {M : MD} {X : Cx} {μ r : Mem} (hf : some μ = some r) (hr : RetV M X r) : RetV M X μ := by cases hf; exact hr
theorem fin_T {M : MD} {X : Cx} {μ r : Mem} (hf : some μ = some r) (hr : RetT M X r) : RetT M X μ := by cases hf; exact hr
section CK
variable {M : MD} {d : Nat} {X : Cx} {pc : Nat} {ls : List (Nat × Value)} {st stk : List Value} {μ μ1 : Mem} {dy : Nat → Nat} {N : MD} {idx n : Nat} {As : List Value}
theorem r_topI {x y : Int32} (e : x = y) (k : AW X pc ls (.int x :: st) μ dy) : AW X pc ls (.int y :: st) μ dy := e ▸ k
theorem r_topL {x y : Int64} (e : x = y) (k : AW X pc ls (.long x :: st) μ dy) : AW X pc ls (.long y :: st) μ dy := e ▸ k
theorem r_callVI (hX : Ok M (d + 1) X) {a q0 ci : Nat} {cr : vw_C} {fs : List Value} {v : Int32} (hcon : Con (xG X) N d (.ref a :: As) μ (some (.int v), μ1)) (hw9 : CV M.2.2.2.2 idx N n) (hw : (wsOf (xG X) μ dy)[q0]? = some (a, .inr (ci, fs))) (hc : cls[ci]? = some cr) (hcr : cr.1 = N.1.cls) (hst : As.reverse ++ .ref a :: st = stk) (hn : As.length = n) (hroom : Nat.ble ((st.map fun v => v.category).sum) 8 = true) (hd : decode M.2.1 pc = .ok (.invokevirtual idx, 3))
    (kk : ∀ dy, AW X (pc + 3) ls (.int v :: st) μ1 dy) : AW X pc ls stk μ dy := r_callV hX hcon hw9 hw hc hcr hst hn hroom hd kk
theorem r_callVL (hX : Ok M (d + 1) X) {a q0 ci : Nat} {cr : vw_C} {fs : List Value} {v : Int64} (hcon : Con (xG X) N d (.ref a :: As) μ (some (.long v), μ1)) (hw9 : CV M.2.2.2.2 idx N n) (hw : (wsOf (xG X) μ dy)[q0]? = some (a, .inr (ci, fs))) (hc : cls[ci]? = some cr) (hcr : cr.1 = N.1.cls) (hst : As.reverse ++ .ref a :: st = stk) (hn : As.length = n) (hroom : Nat.ble ((st.map fun v => v.category).sum) 8 = true) (hd : decode M.2.1 pc = .ok (.invokevirtual idx, 3))
    (kk : ∀ dy, AW X (pc + 3) ls (.long v :: st) μ1 dy) : AW X pc ls stk μ dy := r_callV hX hcon hw9 hw hc hcr hst hn hroom hd kk
theorem r_callVV (hX : Ok M (d + 1) X) {a q0 ci : Nat} {cr : vw_C} {fs : List Value} (hcon : Con (xG X) N d (.ref a :: As) μ (none, μ1)) (hw9 : CV M.2.2.2.2 idx N n) (hw : (wsOf (xG X) μ dy)[q0]? = some (a, .inr (ci, fs))) (hc : cls[ci]? = some cr) (hcr : cr.1 = N.1.cls) (hst : As.reverse ++ .ref a :: st = stk) (hn : As.length = n) (hroom : Nat.ble ((st.map fun v => v.category).sum) 8 = true) (hd : decode M.2.1 pc = .ok (.invokevirtual idx, 3))
    (kk : ∀ dy, AW X (pc + 3) ls st μ1 dy) : AW X pc ls stk μ dy := r_callV hX hcon hw9 hw hc hcr hst hn hroom hd kk
theorem r_callSI (hX : Ok M (d + 1) X) {v : Int32} (hcon : Con (xG X) N d As μ (some (.int v), μ1)) (hw9 : CS M.2.2.2.2 idx N n) (hst : As.reverse ++ st = stk) (hn : As.length = n) (hroom : Nat.ble ((st.map fun v => v.category).sum) 8 = true) (hd : decode M.2.1 pc = .ok (.invokestatic idx, 3))
    (kk : ∀ dy, AW X (pc + 3) ls (.int v :: st) μ1 dy) : AW X pc ls stk μ dy := r_callS hX hcon hw9 hst hn hroom hd kk
theorem r_callSV (hX : Ok M (d + 1) X) (hcon : Con (xG X) N d As μ (none, μ1)) (hw9 : CS M.2.2.2.2 idx N n) (hst : As.reverse ++ st = stk) (hn : As.length = n) (hroom : Nat.ble ((st.map fun v => v.category).sum) 8 = true) (hd : decode M.2.1 pc = .ok (.invokestatic idx, 3))
    (kk : ∀ dy, AW X (pc + 3) ls st μ1 dy) : AW X pc ls stk μ dy := r_callS hX hcon hw9 hst hn hroom hd kk
end CK
