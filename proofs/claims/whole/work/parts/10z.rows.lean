/-! Rows for what is rare: texts, array copies, arrays made anew, the rules' places. -/
theorem wp_repl {D : va_G} {cl : List vw_C} {ws : va_W} {x : Nat × va_E} {H : Heap} (i : Nat) (h : va_P D cl (ws ++ [x]) H) : va_P D cl (ws.set i x) H := by
  intro k q hk
  rw [List.getElem?_set] at hk
  by_cases e : i = k
  · rw [if_pos e] at hk
    by_cases hl : i < ws.length
    · rw [if_pos hl] at hk
      cases hk
      exact h ws.length x (by simp)
    · rw [if_neg hl] at hk
      cases hk
  · rw [if_neg e] at hk
    have hl := (List.getElem?_eq_some_iff.mp hk).1
    exact h k q (by rw [List.getElem?_append_left hl]; exact hk)
theorem wd_repl {A : Nat → Prop} {ws : va_W} {x : Nat × va_E} (i : Nat) (h : va_D A (ws ++ [x])) : va_D A (ws.set i x) := by
  have key : ∀ k q, (ws.set i x)[k]? = some q → ∃ k', (ws ++ [x])[k']? = some q ∧ ((k = i ∧ k' = ws.length) ∨ (k ≠ i ∧ k' = k)) ∧ k < ws.length := by
    intro k q hk
    rw [List.getElem?_set] at hk
    by_cases e : i = k
    · rw [if_pos e] at hk
      by_cases hl : i < ws.length
      · rw [if_pos hl] at hk
        cases hk
        exact ⟨ws.length, by simp, Or.inl ⟨e.symm, rfl⟩, e ▸ hl⟩
      · rw [if_neg hl] at hk
        cases hk
    · rw [if_neg e] at hk
      have hl := (List.getElem?_eq_some_iff.mp hk).1
      exact ⟨k, by rw [List.getElem?_append_left hl]; exact hk, Or.inr ⟨fun z => e z.symm, rfl⟩, hl⟩
  refine ⟨fun a b p q ha hb hpq => ?_, fun k q hk => ?_⟩
  · obtain ⟨a', ha', ca, la⟩ := key a p ha
    obtain ⟨b', hb', cb, lb⟩ := key b q hb
    have e := h.1 a' b' p q ha' hb' hpq
    rcases ca with ⟨c1, c2⟩ | ⟨c1, c2⟩ <;> rcases cb with ⟨c3, c4⟩ | ⟨c3, c4⟩ <;> omega
  · obtain ⟨k', hk', -⟩ := key k q hk
    exact h.2 k' q hk'
section RR
variable {M : MD} {d : Nat} {X : Cx} {pc : Nat} {ls : List (Nat × Value)} {st : List Value} {μ μ1 : Mem} {dy : Nat → Nat}
theorem r_ldcw (hX : Ok M d X) {i : Nat} {v : Int32} (hd : decode M.2.1 pc = .ok (.ldc_w i, 3)) (hw : Cond.constant M.2.2.2.2 i v ∈ tbG) (k : AW X (pc + 3) ls (.int v :: st) μ dy) : AW X pc ls st μ dy :=
  fun H locs la hP hD hS hB h => lv_ldcw hX.1 hX.2.1 hX.2.2.2.1 (hX.2.2.2.2.1 _ hw) hd (k H locs la hP hD hS hB h)
theorem r_ldcS (hX : Ok M d X) {ix : Nat} (i : Nat) (hi : i < 8) (hx : sIx.getD i 0 = ix) (ho : M.2.2.2.2 = "MoreThanHalf$RuleReader") (hd : decode M.2.1 pc = .ok (.ldc ix, 2)) (k : AW X (pc + 2) ls (.ref (gK (xG X) i) :: st) μ dy) : AW X pc ls st μ dy := by
  intro H locs la hP hD hS hB h
  have hR := hX.2.2.2.2.2.2.2.2.2.2.1 i hi
  rw [hx] at hR
  exact va_ldcS hX.1 hX.2.1 (by rw [← ho]; exact hX.2.2.2.1) hR hd (k H locs la hP hD hS hB h)
theorem mathX : Lib.Math.max.name = yJ9_max_7cf53 ∧ Lib.Math.max.code = cJ9_max_7cf53 ∧ Lib.Math.min.name = yJ9_min_7cf53 ∧ Lib.Math.min.code = cJ9_min_7cf53 := ⟨by decide +kernel, by decide +kernel, by decide +kernel, by decide +kernel⟩
theorem r_max (hX : Ok M (d + 1) X) {idx : Nat} {x y : Int32} (hw : CS M.2.2.2.2 idx M_jd_max 2) (hroom : Nat.ble ((st.map fun v => v.category).sum) 8 = true) (hd : decode M.2.1 pc = .ok (.invokestatic idx, 3)) (k : AW X (pc + 3) ls (.int (imax x y) :: st) μ dy) : AW X pc ls (.int y :: .int x :: st) μ dy := by
  intro H locs la hP hD hS hB h
  obtain ⟨⟨h1, h2, h3, -, -, -⟩, h4⟩ := hw
  have hts := hX.2.2.2.2.1
  have hfr := hX.2.2.2.2.2.2.1
  have hrm := hX.2.2.2.2.2.2.2.1
  have h9 := Nat.le_of_ble_eq_true hroom
  have a1 := hB.1.1
  have a2 := hB.1.2
  have a3 := hB.2.1
  have a4 := hB.2.2
  exact va_mmax hX.1 hX.2.1 h.1.symm hX.2.2.2.1 (by rw [mathX.1]; exact hts _ h1) (by rw [mathX.1]; exact hts _ h4) (hts _ h3) (by rw [mathX.1, mathX.2.1]; exact hts _ h2) (by omega) (by omega) (by omega) (by omega) hd (k H locs la hP hD hS hB h)
theorem r_min (hX : Ok M (d + 1) X) {idx : Nat} {x y : Int32} (hw : CS M.2.2.2.2 idx M_jd_min 2) (hroom : Nat.ble ((st.map fun v => v.category).sum) 8 = true) (hd : decode M.2.1 pc = .ok (.invokestatic idx, 3)) (k : AW X (pc + 3) ls (.int (imin x y) :: st) μ dy) : AW X pc ls (.int y :: .int x :: st) μ dy := by
  intro H locs la hP hD hS hB h
  obtain ⟨⟨h1, h2, h3, -, -, -⟩, h4⟩ := hw
  have hts := hX.2.2.2.2.1
  have hfr := hX.2.2.2.2.2.2.1
  have hrm := hX.2.2.2.2.2.2.2.1
  have h9 := Nat.le_of_ble_eq_true hroom
  have a1 := hB.1.1
  have a2 := hB.1.2
  have a3 := hB.2.1
  have a4 := hB.2.2
  exact va_mmin hX.1 hX.2.1 h.1.symm hX.2.2.2.1 (by rw [mathX.2.2.1]; exact hts _ h1) (by rw [mathX.2.2.1]; exact hts _ h4) (hts _ h3) (by rw [mathX.2.2.1, mathX.2.2.2]; exact hts _ h2) (by omega) (by omega) (by omega) (by omega) hd (k H locs la hP hD hS hB h)
theorem dynT {c : Prop} [Decidable c] {f : Nat → Nat} {a b : Nat} (h : c) : some (Value.ref (f (if c then a else b))) = some (Value.ref (f a)) := by rw [if_pos h]
theorem dynR1 {f : Nat → Nat} {x : Int32} (h : x = 1) : some (mRd f x) = some (Value.ref (f 116)) := by rw [h]; rfl
theorem dynR2 {f : Nat → Nat} {x : Int32} (h : x = 2) : some (mRd f x) = some (Value.ref (f 127)) := by rw [h]; rfl
theorem dynR3 {f : Nat → Nat} {x : Int32} (h : x = 3) : some (mRd f x) = some (Value.ref (f 128)) := by rw [h]; rfl
set_option maxRecDepth 8000 in
theorem sD_76 (G : Gx) (μ : Mem) (dy : Nat → Nat) : (wsOf G μ dy).set 76 (gA G 76, .inr (9, [.ref (gA G 4), .ref (gA G (if μ.1 v_sr_text 0 = 1 then 1 else 77)), .int (μ.1 v_sr_length 0), .int (μ.1 v_sr_limit 0), .int (μ.1 v_sr_at 0), .int (μ.1 v_sr_there 0), .int (μ.1 v_sr_telling 0)].set 1 (.ref (gA G 1)))) = wsOf G (setI μ v_sr_text 0 1) dy := rfl
set_option maxRecDepth 8000 in
theorem sD_78 (G : Gx) (μ : Mem) (dy : Nat → Nat) : (wsOf G μ dy).set 78 (gA G 78, .inr (6, [.ref (gA G 66), .ref (gA G (67 + 3 * (μ.1 v_rr_spare 0).toNatClampNeg)), .ref (gA G (if μ.1 v_rr_text 0 = 1 then 1 else 79)), .int (μ.1 v_rr_limit 0), .int (μ.1 v_rr_at 0)].set 2 (.ref (gA G 1)))) = wsOf G (setI μ v_rr_text 0 1) dy := rfl
set_option maxRecDepth 8000 in
theorem sD_spare (G : Gx) (μ : Mem) (dy : Nat → Nat) (x : Int32) : (wsOf G μ dy).set 78 (gA G 78, .inr (6, [.ref (gA G 66), .ref (gA G (67 + 3 * (μ.1 v_rr_spare 0).toNatClampNeg)), .ref (gA G (if μ.1 v_rr_text 0 = 1 then 1 else 79)), .int (μ.1 v_rr_limit 0), .int (μ.1 v_rr_at 0)].set 1 (.ref (gA G (67 + 3 * x.toNatClampNeg))))) = wsOf G (setI μ v_rr_spare 0 x) dy := rfl
set_option maxRecDepth 8000 in
theorem sD_read1 (G : Gx) (μ : Mem) (dy : Nat → Nat) : (wsOf G μ dy).set 111 (gA G 111, .inr (12, [.int (μ.1 v_m_people 0), .ref (gA G 112), .ref (gA G 113), .int (μ.1 v_m_firm 0), .ref (gA G 114), .ref (gA G 115), .int (μ.1 v_m_days 0), .ref (gA G 116), .int (μ.1 v_m_typed 0), .ref (gA G 117), .int (μ.1 v_m_rowMany 0), .int (μ.1 v_m_thrown 0), mRd (gA G) (μ.1 v_m_read 0), .int (μ.1 v_m_size 0), .int (μ.1 v_m_top 0), .int (μ.1 v_m_at 0), .int (μ.1 v_m_wrong 0), .ref (gA G 118), .ref (gA G 119), .ref (gA G 120), .int (μ.1 v_m_question 0), .int (μ.1 v_m_restIn 0), .int (μ.1 v_m_restRound 0), .int (μ.1 v_m_restState 0), .ref (gA G 121), .ref (gA G 122), .ref (gA G 123), .ref (gA G 124), .ref (gA G 125), .ref (gA G 126), .ref (gA G 129), .int (μ.1 v_m_askedShop 0), .int (μ.1 v_m_askedOne 0), .int (μ.1 v_m_askedState 0), .ref (gA G 130), .int (μ.1 v_m_peopleTold 0), .ref (gA G 131), .ref (gA G 132), .ref (gA G 133)].set 12 (.ref (gA G 116)))) = wsOf G (setI μ v_m_read 0 1) dy := rfl
set_option maxRecDepth 8000 in
theorem sD_read2 (G : Gx) (μ : Mem) (dy : Nat → Nat) : (wsOf G μ dy).set 111 (gA G 111, .inr (12, [.int (μ.1 v_m_people 0), .ref (gA G 112), .ref (gA G 113), .int (μ.1 v_m_firm 0), .ref (gA G 114), .ref (gA G 115), .int (μ.1 v_m_days 0), .ref (gA G 116), .int (μ.1 v_m_typed 0), .ref (gA G 117), .int (μ.1 v_m_rowMany 0), .int (μ.1 v_m_thrown 0), mRd (gA G) (μ.1 v_m_read 0), .int (μ.1 v_m_size 0), .int (μ.1 v_m_top 0), .int (μ.1 v_m_at 0), .int (μ.1 v_m_wrong 0), .ref (gA G 118), .ref (gA G 119), .ref (gA G 120), .int (μ.1 v_m_question 0), .int (μ.1 v_m_restIn 0), .int (μ.1 v_m_restRound 0), .int (μ.1 v_m_restState 0), .ref (gA G 121), .ref (gA G 122), .ref (gA G 123), .ref (gA G 124), .ref (gA G 125), .ref (gA G 126), .ref (gA G 129), .int (μ.1 v_m_askedShop 0), .int (μ.1 v_m_askedOne 0), .int (μ.1 v_m_askedState 0), .ref (gA G 130), .int (μ.1 v_m_peopleTold 0), .ref (gA G 131), .ref (gA G 132), .ref (gA G 133)].set 12 (.ref (gA G 127)))) = wsOf G (setI μ v_m_read 0 2) dy := rfl
set_option maxRecDepth 8000 in
theorem sD_read3 (G : Gx) (μ : Mem) (dy : Nat → Nat) : (wsOf G μ dy).set 111 (gA G 111, .inr (12, [.int (μ.1 v_m_people 0), .ref (gA G 112), .ref (gA G 113), .int (μ.1 v_m_firm 0), .ref (gA G 114), .ref (gA G 115), .int (μ.1 v_m_days 0), .ref (gA G 116), .int (μ.1 v_m_typed 0), .ref (gA G 117), .int (μ.1 v_m_rowMany 0), .int (μ.1 v_m_thrown 0), mRd (gA G) (μ.1 v_m_read 0), .int (μ.1 v_m_size 0), .int (μ.1 v_m_top 0), .int (μ.1 v_m_at 0), .int (μ.1 v_m_wrong 0), .ref (gA G 118), .ref (gA G 119), .ref (gA G 120), .int (μ.1 v_m_question 0), .int (μ.1 v_m_restIn 0), .int (μ.1 v_m_restRound 0), .int (μ.1 v_m_restState 0), .ref (gA G 121), .ref (gA G 122), .ref (gA G 123), .ref (gA G 124), .ref (gA G 125), .ref (gA G 126), .ref (gA G 129), .int (μ.1 v_m_askedShop 0), .int (μ.1 v_m_askedOne 0), .int (μ.1 v_m_askedState 0), .ref (gA G 130), .int (μ.1 v_m_peopleTold 0), .ref (gA G 131), .ref (gA G 132), .ref (gA G 133)].set 12 (.ref (gA G 128)))) = wsOf G (setI μ v_m_read 0 3) dy := rfl
set_option maxRecDepth 8000 in
theorem nHe {G : Gx} {μ : Mem} {dy : Nat → Nat} {t q : Nat} (ht : t < 2) (n : Int32) : ((wsOf G μ dy).set (80 + 5 * t) (gA G (80 + 5 * t), .inr (1, [.ref (gA G 4), .ref (gA G (80 + 5 * t + 1)), .ref (gA G (80 + 5 * t + 2)), .ref (gA G (80 + 5 * t + 3)), .ref (gA G (80 + 5 * t + 4)), .long (μ.2.1 (lHe t 0) 0), .long (μ.2.1 (lHe t 1) 0), .int (μ.1 (vHe t 0) 0), .ref (dy t), .int (μ.1 (vHe t 1) 0)].set 8 (.ref q)))).set (135 + t) (q, .inl (gC G 0, n.toNatClampNeg, .inl (fun _ => 0))) = wsOf G (newHe t μ n) (fun u => if u = t then q else dy u) := by
  match t, ht with
  | 0, _ => rfl
  | 1, _ => rfl
set_option maxRecDepth 8000 in
theorem nMe {G : Gx} {μ : Mem} {dy : Nat → Nat} {q : Nat} (n : Int32) : ((wsOf G μ dy).set 90 (gA G 90, .inr (2, [.ref (dy 2), .int (μ.1 v_me_size 0), .int (μ.1 v_me_stamp 0)].set 0 (.ref q)))).set 137 (q, .inl (gC G 0, n.toNatClampNeg, .inl (fun _ => 0))) = wsOf G (newMe μ n) (fun u => if u = 2 then q else dy u) := rfl
theorem nw_of {n : Int32} (h : nwOk μ n = true) : ¬ n < 0 ∧ n.toNatClampNeg * 4 ≤ 536870912 ∧ μ.2.2.1 + 1 ≤ LIMc ∧ μ.2.2.2 + n.toNatClampNeg ≤ LIMs := of_decide_eq_true h
theorem kwInt : Cond.arrayClass .int ∈ tbG := mG (tt1 (List.mem_of_getElem? (i := 50) rfl)) rfl
/-- 'new int[n]' put into a field at once -/
theorem r_newA (hX : Ok M d X) {idx ci k q0 qd a : Nat} {r : vw_C} {ty0 : Nat → FieldType} {fs : List Value} {n : Int32} {μ' : Mem} {dy1 : Nat → Nat → Nat} (hf : FL M.2.2.2.2 idx ci k r) (ht : FT r k ty0 (.array .int)) (hw : (wsOf (xG X) μ dy)[q0]? = some (a, .inr (ci, fs))) (hl : Nat.ble (k + 1) fs.length = true) (hb : nwOk μ n = true)
    (hs : ∀ q : Nat, ((wsOf (xG X) μ dy).set q0 (a, .inr (ci, fs.set k (.ref q)))).set qd (q, .inl (gC (xG X) 0, n.toNatClampNeg, .inl (fun _ => 0))) = wsOf (xG X) μ' (dy1 q)) (he : μ1 = μ') (hc : μ'.2.2.1 = μ.2.2.1 + 1 ∧ μ'.2.2.2 = μ.2.2.2 + n.toNatClampNeg) (hd : decode M.2.1 pc = .ok (.newarray .int, 2)) (hd2 : decode M.2.1 (pc + 2) = .ok (.putfield idx, 3)) (kk : ∀ dy, AW X (pc + 5) ls st μ1 dy) : AW X pc ls (.int n :: .ref a :: st) μ dy := by
  intro H locs la hP hD hS hB h
  subst he
  obtain ⟨n0, n1, n2, n3⟩ := nw_of hb
  have hrm := hX.2.2.2.2.2.2.2.1
  have hB1 := hB.1.1
  have hB2 := hB.2.1
  refine va_newa (atype := .int) (N' := n.toNatClampNeg) (ty := .int) (a0 := (n.toNatClampNeg, .inl (fun _ => 0))) hX.1 hX.2.1 (hX.2.2.2.2.1 _ kwInt) rfl hX.2.2.2.2.2.1 hP hD hS hX.2.2.2.2.2.2.2.2.1 (fun cA => rfl) n0 rfl (by show _ * 4 ≤ _; exact n1) (by omega) (by omega) hd (fun q cA H1 hK1 hP1 hD1 hS1 => ?_)
  have hcA : cA = gC (xG X) 0 := by
    have e1 := (hK1.2 8 (cA, .int) rfl).2
    have e2 := (hX.2.2.2.2.2.1.2 0 (gC (xG X) 0, .int) rfl).2
    exact Option.some.inj (e1.symm.trans e2)
  subst hcA
  have hlen : q0 < (wsOf (xG X) μ dy).length := (List.getElem?_eq_some_iff.mp hw).1
  refine va_put hX.1 hX.2.1 hX.2.2.2.2.1 hf.1 ty0 ht.1 ht.2.1 hX.2.2.2.1 hX.2.2.2.2.2.1 hP1 hD1 hS1 q0 (by rw [List.getElem?_append_left hlen]; exact hw) hf.2.1 k hf.2.2.1 (hX.2.2.2.2.1 _ hf.2.2.2) (fun _ z => z) ht.2.2.1 ht.2.2.2 rfl rfl (Nat.le_of_ble_eq_true hl) hd2 (fun H2 l2 hP2 hD2 hS2 => ?_)
  rw [List.set_append_left _ _ hlen] at hP2 hD2
  have hP3 := wp_repl qd hP2
  have hD3 := wd_repl qd hD2
  rw [hs q] at hP3 hD3
  have hk := kk (dy1 q) H2 l2 la hP3 hD3 hS2 ⟨⟨by rw [hc.1]; omega, by rw [hc.1]; exact n2⟩, by rw [hc.2]; omega, by rw [hc.2]; exact n3⟩ h
  have c1 : μ1.2.2.1 - xc X = μ.2.2.1 - xc X + 1 := by rw [hc.1]; omega
  have c2 : μ1.2.2.2 - xz X = μ.2.2.2 - xz X + n.toNatClampNeg := by rw [hc.2]; omega
  rw [c1, c2] at hk
  exact hk
theorem r_newHe {t : Nat} (ht : t < 2) (hX : Ok M d X) {idx : Nat} {n : Int32} (hf : FL M.2.2.2.2 idx 1 8 (RX1, TX1, 10)) (hft : FT (RX1, TX1, 10) 8 tyX1 (.array .int)) (hb : nwOk μ n = true) (he : μ1 = newHe t μ n) (hd : decode M.2.1 pc = .ok (.newarray .int, 2)) (hd2 : decode M.2.1 (pc + 2) = .ok (.putfield idx, 3)) (kk : ∀ dy, AW X (pc + 5) ls st μ1 dy) : AW X pc ls (.int n :: .ref (gA (xG X) (80 + 5 * t)) :: st) μ dy :=
  r_newA hX hf hft (wHe_o ht) rfl hb (fun q => nHe ht n) he ⟨rfl, rfl⟩ hd hd2 kk
theorem r_newMe (hX : Ok M d X) {idx : Nat} {n : Int32} (hf : FL M.2.2.2.2 idx 2 0 (RX2, TX2, 3)) (hft : FT (RX2, TX2, 3) 0 tyX2 (.array .int)) (hb : nwOk μ n = true) (he : μ1 = newMe μ n) (hd : decode M.2.1 pc = .ok (.newarray .int, 2)) (hd2 : decode M.2.1 (pc + 2) = .ok (.putfield idx, 3)) (kk : ∀ dy, AW X (pc + 5) ls st μ1 dy) : AW X pc ls (.int n :: .ref (gA (xG X) 90) :: st) μ dy :=
  r_newA hX hf hft (w_90 _ _ _) rfl hb (fun q => nMe n) he ⟨rfl, rfl⟩ hd hd2 kk
theorem cp_of {sp dp n : Int32} {n0 n1 : Nat} (h : cpOk sp dp n n0 n1 = true) : ¬ sp < 0 ∧ ¬ dp < 0 ∧ ¬ n < 0 ∧ sp.toNatClampNeg + n.toNatClampNeg ≤ n0 ∧ dp.toNatClampNeg + n.toNatClampNeg ≤ n1 := of_decide_eq_true h
/-- the words of arraycopy -/
def CY (own : String) (idx : Nat) : Prop := Cond.methodLink own idx arraycopyName ∈ tbG ∧ Cond.native arraycopyName ∈ tbG ∧ Cond.static arraycopyName ∈ tbG ∧ Cond.initialized "java/lang/System" ∈ tbG
theorem r_copy (hX : Ok M (d + 1) X) {idx q0 q1 a0 a n0 n1 : Nat} {f g : Nat → Int32} {sp dp n : Int32} {μ' : Mem} (hw0 : (wsOf (xG X) μ dy)[q0]? = some (a0, .inl (gC (xG X) 0, n0, .inl f))) (hw1 : (wsOf (xG X) μ dy)[q1]? = some (a, .inl (gC (xG X) 0, n1, .inl g))) (hb : cpOk sp dp n n0 n1 = true)
    (hs : (wsOf (xG X) μ dy).set q1 (a, .inl (gC (xG X) 0, n1, .inl (va_cpy f g sp.toNatClampNeg dp.toNatClampNeg n.toNatClampNeg))) = wsOf (xG X) μ' dy) (he : μ1 = μ') (hc : μ'.2.2 = μ.2.2) (hy : CY M.2.2.2.2 idx) (hd : decode M.2.1 pc = .ok (.invokestatic idx, 3)) (kk : AW X (pc + 3) ls [] μ1 dy) : AW X pc ls [.int n, .int dp, .ref a, .int sp, .ref a0] μ dy := by
  intro H locs la hP hD hS hB h
  subst he
  obtain ⟨h1, h2, h3, h4, h5⟩ := cp_of hb
  have hfr := hX.2.2.2.2.2.2.1
  have hts := hX.2.2.2.2.1
  refine va_copyi (rest := []) hX.1 hX.2.1 h.1.symm hX.2.2.2.1 (hts _ hy.1) (hts _ hy.2.1) (hts _ hy.2.2.1) (hts _ hy.2.2.2) hX.2.2.2.2.2.1 hP hD hS q0 q1 0 0 hw0 hw1 rfl rfl rfl h1 h2 h3 h4 h5 (fun i hi => rfl) (by omega) (Nat.le_trans (by decide +kernel : (0 : Nat) + (nativeFrameWords "java/lang/System" "arraycopy" 5 + 11) ≤ 40) (by omega)) hd (fun H1 l1 hP1 hD1 hS1 => ?_)
  have hk := kk H1 l1 la (hs ▸ hP1) (hs ▸ hD1) hS1 (by unfold bdd; rw [hc]; exact hB) h
  rw [hc] at hk
  exact hk
theorem up_rules {G : Gx} {μ : Mem} {i : Nat} {x : Int32} (hi : i < 2) : va_up (fun i => if i < 2 then some (gA G (67 + 3 * (μ.1 v_x_rules i).toNatClampNeg)) else none) i (some (gA G (67 + 3 * x.toNatClampNeg))) = fun j => if j < 2 then some (gA G (67 + 3 * (upd (μ.1 v_x_rules) i x j).toNatClampNeg)) else none := by
  funext j
  unfold va_up upd
  by_cases e : j = i
  · subst e
    rw [if_pos rfl, if_pos hi, if_pos rfl]
  · rw [if_neg e, if_neg e]
set_option maxRecDepth 8000 in
theorem sRules {G : Gx} {μ : Mem} {dy : Nat → Nat} (i : Nat) (x : Int32) : (wsOf G μ dy).set 66 (gA G 66, .inl (gC G 4, 2, .inr (.inr (.inr (.inr (fun j => if j < 2 then some (gA G (67 + 3 * (upd (μ.1 v_x_rules) i x j).toNatClampNeg)) else none)))))) = wsOf G (setI μ v_x_rules i x) dy := rfl
theorem r_astRule (hX : Ok M d X) {i x : Int32} (hx : x.toNatClampNeg < 3) (hb : inb i 2 = true) (he : μ1 = setI μ v_x_rules i.toNatClampNeg x) (hd : decode M.2.1 pc = .ok (.aastore, 1)) (kk : AW X (pc + 1) ls st μ1 dy) : AW X pc ls (.ref (gA (xG X) (67 + 3 * x.toNatClampNeg)) :: .int i :: .ref (gA (xG X) 66) :: st) μ dy := by
  intro H locs la hP hD hS hB h
  subst he
  refine va_astq hX.1 hX.2.1 hX.2.2.2.2.2.1 hP hD hS 66 4 (67 + 3 * x.toNatClampNeg) 5 (r := (RX5, TX5, 4)) (w_66 _ _ _) rfl (wRu_o hx) rfl (inb_in hb) hd (fun H1 l1 hP1 hD1 hS1 => ?_)
  rw [up_rules (inb_lt hb), sRules] at hP1 hD1
  exact kk H1 l1 la hP1 hD1 hS1 hB h
end RR
