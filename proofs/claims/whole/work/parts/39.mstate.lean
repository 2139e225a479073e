/-! The reference's state. -/
def MT (t : List Nat) (μ : Mem) : Prop := μ.1 v_m_typed 0 = nI t.length ∧ ∀ k, k < t.length → μ.1 v_m_text k = (nI (t.getD k 0)).toInt8.toInt32
def MW (r : List Int64) (μ : Mem) : Prop := μ.1 v_m_rowMany 0 = nI r.length ∧ ∀ k, k < r.length → μ.2.1 l_m_row k = r.getD k 0
def MDs (a : Ab) (μ : Mem) : Prop := (∀ i, i < (aS a).1 → μ.1 v_m_price i = nI (aPr a i)) ∧ μ.1 v_m_days 0 = nI (aD a) ∧ ∀ d, d ≤ aD a → μ.1 v_m_states d = nI (aZ a d)
def MK1 (T p : Nat) (o : Option KP) (s : Nat) (μ : Mem) : Prop := match o with
  | none => μ.1 v_m_isKept s = 0
  | some k => μ.1 v_m_isKept s = 1 ∧ (∃ t, t ≤ T ∧ μ.1 v_m_keptTold s = nI t ∧ (t = T ↔ k.1 = p)) ∧ μ.1 v_m_kept (412 * s) = nI k.2.1 ∧ (∀ d, d ≤ k.2.1 → μ.1 v_m_kept (412 * s + 1 + d) = nI (k.2.2.1 d)) ∧ (∀ i j, i < 14 → j < 14 → μ.1 v_m_kept (412 * s + 202 + (14 * i + j)) = nI (k.2.2.2.1 i j)) ∧ ∀ i, i < k.1 → μ.1 v_m_kept (412 * s + 398 + i) = nI (k.2.2.2.2 i)
def MKs (N : Nat) (a : Ab) (μ : Mem) : Prop := ∃ T, T ≤ N ∧ μ.1 v_m_peopleTold 0 = nI T ∧ MK1 T (aS a).1 (aK a 0) 0 μ ∧ MK1 T (aS a).1 (aK a 1) 1 μ
def MP (N : Nat) (a : Ab) (μ : Mem) : Prop := MB (aS a) μ ∧ MDs a μ ∧ MT (aT a) μ ∧ MW (aR a) μ ∧ MKs N a μ
/-- its marks are no younger than its question -/
def MQn (Q : Nat) (μ : Mem) : Prop := μ.1 v_m_question 0 = nI Q ∧ (∀ k, k < 16384 → ∃ w, w ≤ Q ∧ μ.1 v_m_cameIn k = nI w) ∧ ∀ k, k < 114688 → ∃ w, w ≤ Q ∧ μ.1 v_m_sumsIn k = nI w
def MR (N : Nat) (a : Ab) (μ : Mem) : Prop := WF a ∧ MP N a μ ∧ N ≤ 600 ∧ ∃ Q, Q ≤ 50000 * N ∧ MQn Q μ
/-- the reference alone has changed, not its rules -/
def MFr (μ μ' : Mem) : Prop := (∀ v, (v < 133 ∨ v = 161 ∨ v = 162 ∨ v = 163) → μ'.1 v = μ.1 v) ∧ (∀ v, v ≠ 9 → μ'.2.1 v = μ.2.1 v) ∧ μ'.2.2 = μ.2.2
theorem MFr.rf (μ : Mem) : MFr μ μ := ⟨fun _ _ => rfl, fun _ _ => rfl, rfl⟩
theorem MFr.tr {a b c : Mem} (h : MFr a b) (k : MFr b c) : MFr a c := ⟨fun v hv => (k.1 v hv).trans (h.1 v hv), fun v hv => (k.2.1 v hv).trans (h.2.1 v hv), k.2.2.trans h.2.2⟩
theorem MFr.I (μ : Mem) {v : Nat} (i : Nat) (x : Int32) (hv : 133 ≤ v ∧ v ≠ 161 ∧ v ≠ 162 ∧ v ≠ 163) : MFr μ (setI μ v i x) := ⟨fun u hu => sI_v μ i x (by omega), fun _ _ => rfl, rfl⟩
/-- variables that are nobody's -/
def mIn (v : Nat) : Prop := (143 ≤ v ∧ v ≤ 160) ∨ (164 ≤ v ∧ v ≤ 167)
/-- only such have changed, not the marks -/
def mFr (μ μ' : Mem) : Prop := (∀ v, (¬ mIn v ∨ v = 151 ∨ v = 152 ∨ v = 160) → μ'.1 v = μ.1 v) ∧ μ'.2 = μ.2
def MI (N Q : Nat) (a : Ab) (μ0 μ : Mem) : Prop := WF a ∧ MP N a μ ∧ MQn Q μ ∧ (N ≤ 600 ∧ Q ≤ 50000 * N + 50000) ∧ MFr μ0 μ
theorem mIn.fr {N : Nat} {a : Ab} {μ μ' : Mem} (h : MP N a μ) (he : ∀ v, ¬ mIn v → μ'.1 v = μ.1 v) (hl : μ'.2 = μ.2) : MP N a μ' := by
  obtain ⟨⟨b1, b2, b3, b4, b5⟩, ⟨d1, d2, d3⟩, ⟨t1, t2⟩, ⟨r1, r2⟩, T, k1, k2, k3, k4⟩ := h
  have e : ∀ v, ((133 ≤ v ∧ v ≤ 142) ∨ (161 ≤ v ∧ v ≤ 163) ∨ 168 ≤ v) → μ'.1 v = μ.1 v := fun v hv => he v (by unfold mIn; omega)
  have hk : ∀ o s, MK1 T (aS a).1 o s μ → MK1 T (aS a).1 o s μ' := by
    intro o s h
    cases o with
    | none => show μ'.1 v_m_isKept s = 0; rw [e _ (by decide)]; exact h
    | some k =>
      obtain ⟨h1, ⟨t, h2, h3, h4⟩, h5, h6, h7, h8⟩ := h
      exact ⟨by rw [e _ (by decide)]; exact h1, ⟨t, h2, by rw [e _ (by decide)]; exact h3, h4⟩, by rw [e _ (by decide)]; exact h5, fun d hd => by rw [e _ (by decide)]; exact h6 d hd, fun i j hi hj => by rw [e _ (by decide)]; exact h7 i j hi hj, fun i hi => by rw [e _ (by decide)]; exact h8 i hi⟩
  refine ⟨⟨by rw [e _ (by decide)]; exact b1, fun i j hi hj => by rw [e _ (by decide)]; exact b2 i j hi hj, fun i hi => by rw [e _ (by decide)]; exact b3 i hi, by rw [e _ (by decide)]; exact b4, b5⟩, ⟨fun i hi => by rw [e _ (by decide)]; exact d1 i hi, by rw [e _ (by decide)]; exact d2, fun d hd => by rw [e _ (by decide)]; exact d3 d hd⟩, ⟨by rw [e _ (by decide)]; exact t1, fun k hk => by rw [e _ (by decide)]; exact t2 k hk⟩, ⟨by rw [e _ (by decide)]; exact r1, fun k hk => by rw [hl]; exact r2 k hk⟩, T, k1, by rw [e _ (by decide)]; exact k2, hk _ _ k3, hk _ _ k4⟩
theorem MR.MI {N : Nat} {a : Ab} {μ : Mem} (h : MR N a μ) : ∃ Q, Q ≤ 50000 * N ∧ MI N Q a μ μ := by
  obtain ⟨h1, h2, h3, Q, h4, h5⟩ := h
  exact ⟨Q, h4, h1, h2, h5, ⟨h3, by omega⟩, MFr.rf μ⟩
/-- a change of a variable that is nobody's -/
theorem MI.put {N Q : Nat} {a : Ab} {μ0 μ : Mem} (h : MI N Q a μ0 μ) {v : Nat} (i : Nat) (x : Int32) (hv : mIn v ∧ v ≠ 151 ∧ v ≠ 152 ∧ v ≠ 160) : MI N Q a μ0 (setI μ v i x) := by
  obtain ⟨h1, h2, ⟨q1, q2, q3⟩, h4, h5⟩ := h
  refine ⟨h1, mIn.fr h2 (fun u hu => sI_v _ _ _ (fun q => hu (q ▸ hv.1))) rfl, ⟨?_, fun k hk => ?_, fun k hk => ?_⟩, h4, h5.tr (MFr.I _ _ _ (by have := hv.1; unfold mIn at this; omega))⟩
  · rw [sI_v _ _ _ (fun q => hv.2.2.1 q.symm)]; exact q1
  · rw [sI_v _ _ _ (fun q => hv.2.1 q.symm)]; exact q2 k hk
  · rw [sI_v _ _ _ (fun q => hv.2.2.2 q.symm)]; exact q3 k hk
theorem MI.thrown {N Q : Nat} {a : Ab} {μ0 μ : Mem} (h : MI N Q a μ0 μ) (x : Int32) : MI N Q a μ0 (setI μ v_m_thrown 0 x) := h.put 0 x ⟨by unfold mIn; decide, by decide, by decide, by decide⟩
/-- one question more -/
theorem MI.ask {N Q : Nat} {a : Ab} {μ0 μ : Mem} (h : MI N Q a μ0 μ) (hQ : Q + 1 ≤ 50000 * N + 50000) : MI N (Q + 1) a μ0 (setI μ v_m_question 0 (nI (Q + 1))) ∧ ∀ k, k < 16384 → ∃ w, w ≤ Q ∧ (setI μ v_m_question 0 (nI (Q + 1))).1 v_m_cameIn k = nI w := by
  obtain ⟨h1, h2, ⟨q1, q2, q3⟩, h4, h5⟩ := h
  have hm : mIn v_m_question := by unfold mIn; decide
  refine ⟨⟨h1, mIn.fr h2 (fun u hu => sI_v _ _ _ (fun q => hu (q ▸ hm))) rfl, ⟨sI_eq _ _ _ _, fun k hk => ?_, fun k hk => ?_⟩, ⟨h4.1, hQ⟩, h5.tr (MFr.I _ _ _ (by decide))⟩, fun k hk => ?_⟩
  · obtain ⟨w, e1, e2⟩ := q2 k hk
    exact ⟨w, by omega, by rw [sI_v _ _ _ (by decide)]; exact e2⟩
  · obtain ⟨w, e1, e2⟩ := q3 k hk
    exact ⟨w, by omega, by rw [sI_v _ _ _ (by decide)]; exact e2⟩
  · obtain ⟨w, e1, e2⟩ := q2 k hk
    exact ⟨w, e1, by rw [sI_v _ _ _ (by decide)]; exact e2⟩
/-- what a call of the reference did -/
def MO (N : Nat) (a' : Ab) (μ μ' : Mem) : Prop := MR (N + 1) a' μ' ∧ MFr μ μ'
theorem MKs.up {N : Nat} {a : Ab} {μ : Mem} (h : MKs N a μ) : MKs (N + 1) a μ := by
  obtain ⟨T, k1, k2, k3, k4⟩ := h
  exact ⟨T, by omega, k2, k3, k4⟩
theorem MP.up {N : Nat} {a : Ab} {μ : Mem} (h : MP N a μ) : MP (N + 1) a μ := ⟨h.1, h.2.1, h.2.2.1, h.2.2.2.1, h.2.2.2.2.up⟩
theorem MI.frm {N Q : Nat} {a : Ab} {μ0 μ : Mem} (h : MI N Q a μ0 μ) : MFr μ0 μ := h.2.2.2.2
theorem MI.done {N Q : Nat} {a : Ab} {μ0 μ : Mem} (h : MI N Q a μ0 μ) (hN : N < 600) : MO N a μ0 μ := by
  obtain ⟨h1, h2, h3, h4, h5⟩ := h
  exact ⟨⟨h1, h2.up, by omega, Q, by omega, h3⟩, h5⟩
/-! its row -/
def mrFr (μ μ' : Mem) : Prop := (∀ v, v ≠ v_m_rowMany → μ'.1 v = μ.1 v) ∧ (∀ v, v ≠ l_m_row → μ'.2.1 v = μ.2.1 v) ∧ μ'.2.2 = μ.2.2
theorem mrFr.tr {a b c : Mem} (h : mrFr a b) (k : mrFr b c) : mrFr a c := ⟨fun v hv => (k.1 v hv).trans (h.1 v hv), fun v hv => (k.2.1 v hv).trans (h.2.1 v hv), k.2.2.trans h.2.2⟩
theorem m_clear (μ : Mem) : MW [] (setI μ v_m_rowMany 0 0) ∧ mrFr μ (setI μ v_m_rowMany 0 0) := ⟨⟨sI_eq _ _ _ _, fun k hk => absurd hk (by simp)⟩, fun v hv => sI_v _ _ _ hv, fun v hv => rfl, rfl⟩
theorem m_tell {r : List Int64} {μ : Mem} (x : Int64) (h : MW r μ) (hr : r.length < 16) : ∃ μ', f_m_tell x μ = some μ' ∧ MW (r ++ [x]) μ' ∧ mrFr μ μ' := by
  have h1 := h.1
  refine ⟨setI (setL μ l_m_row r.length x) v_m_rowMany 0 (nI (r.length + 1)), by simp (disch := omega) only [l_0, l_1, l_2, l_3, l_4, l_5, l_6, l_7, l_8, l_9, l_10, l_14, l_15, l_16, l_20, l_31, l_40, l_48, l_50, l_57, l_60, l_64, l_76, l_80, l_99, l_100, l_127, l_196, l_200, l_201, l_202, l_255, l_412, l_999, l_1000, l_16000, l_1000000, i_add, i_mul, i_sub, i_leN, i_ltN, i_eqN, i_nleG, i_nltG, inb_n, cl_nI, chk_q, bnd_q, bd1_q, bd2_q, i_bitQ, i_oneQ, i_woQ, i_or, i_and, i_xor, zb_q0, zb_q1, zb_b, b_0Q, if_true, if_false, reduceCtorEq, if_pos, if_neg, f_m_tell, h1, sL_1], ⟨?_, fun k hk => ?_⟩, fun v hv => ?_, fun v hv => ?_, rfl⟩
  · rw [sI_eq, List.length_append, List.length_singleton]
  · rw [getD_app _ _ _ _ hk, sI_2]
    by_cases e : k = r.length
    · rw [if_pos e, e, sL_eq]
    · rw [if_neg e, sL_i _ _ _ e]
      exact h.2 k (by rw [List.length_append, List.length_singleton] at hk; omega)
  · rw [sI_v _ _ _ hv, sL_1]
  · rw [sI_2, sL_v _ _ _ hv]
theorem MI.told {N Q : Nat} {a : Ab} {μ0 μ μ' : Mem} {r : List Int64} (h : MI N Q a μ0 μ) (hN : N < 600) (hr : r.length ≤ 16) (hw : MW r μ') (hf : mrFr μ μ') : MO N (aSetR a r) μ0 μ' := by
  have hF := h.frm
  obtain ⟨⟨w1, w2, w3, w4, w5, w6, w7⟩, ⟨⟨b1, b2, b3, b4, b5⟩, ⟨d1, d2, d3⟩, ⟨t1, t2⟩, _, T, k1, k2, k3, k4⟩, ⟨q1, q2, q3⟩, h4, h5⟩ := h
  have e : ∀ v, v ≠ 142 → μ'.1 v = μ.1 v := fun v hv => hf.1 v hv
  have hk : ∀ o s, MK1 T (aS a).1 o s μ → MK1 T (aS a).1 o s μ' := by
    intro o s h
    cases o with
    | none => show μ'.1 v_m_isKept s = 0; rw [e _ (by decide)]; exact h
    | some k =>
      obtain ⟨h1, ⟨t, h2, h3, h4⟩, h5, h6, h7, h8⟩ := h
      exact ⟨by rw [e _ (by decide)]; exact h1, ⟨t, h2, by rw [e _ (by decide)]; exact h3, h4⟩, by rw [e _ (by decide)]; exact h5, fun d hd => by rw [e _ (by decide)]; exact h6 d hd, fun i j hi hj => by rw [e _ (by decide)]; exact h7 i j hi hj, fun i hi => by rw [e _ (by decide)]; exact h8 i hi⟩
  refine ⟨⟨⟨w1, w2, w3, w4, w5, hr, w7⟩, ⟨⟨by rw [e _ (by decide)]; exact b1, fun i j hi hj => by rw [e _ (by decide)]; exact b2 i j hi hj, fun i hi => by rw [e _ (by decide)]; exact b3 i hi, by rw [e _ (by decide)]; exact b4, b5⟩, ⟨fun i hi => by rw [e _ (by decide)]; exact d1 i hi, by rw [e _ (by decide)]; exact d2, fun d hd => by rw [e _ (by decide)]; exact d3 d hd⟩, ⟨by rw [e _ (by decide)]; exact t1, fun k hk => by rw [e _ (by decide)]; exact t2 k hk⟩, hw, T, by omega, by rw [e _ (by decide)]; exact k2, hk _ _ k3, hk _ _ k4⟩, by omega, Q, by omega, ⟨by rw [e _ (by decide)]; exact q1, fun k hk => by rw [e _ (by decide)]; exact q2 k hk, fun k hk => by rw [e _ (by decide)]; exact q3 k hk⟩⟩, hF.tr ⟨fun v hv => e v (by omega), fun v hv => hf.2.1 v hv, hf.2.2⟩⟩
/-! what it answers of itself -/
section ME9
variable {a : Ab} {μ : Mem} {S : SP} {N : Nat}
theorem m_now (hW : WF a) (h : MDs a μ) : f_m_now μ = some (nI (aN a), μ) := by
  have h1 := h.2.1
  have h2 := h.2.2 _ (Nat.le_refl _)
  have h3 := hW.2.2.2.1.1
  simp (disch := omega) only [l_0, l_1, l_2, l_3, l_4, l_5, l_6, l_7, l_8, l_9, l_10, l_14, l_15, l_16, l_20, l_31, l_40, l_48, l_50, l_57, l_60, l_64, l_76, l_80, l_99, l_100, l_127, l_196, l_200, l_201, l_202, l_255, l_412, l_999, l_1000, l_16000, l_1000000, i_add, i_mul, i_sub, i_leN, i_ltN, i_eqN, i_nleG, i_nltG, inb_n, cl_nI, chk_q, bnd_q, bd1_q, bd2_q, i_bitQ, i_oneQ, i_woQ, i_or, i_and, i_xor, zb_q0, zb_q1, zb_b, b_0Q, if_true, if_false, reduceCtorEq, if_pos, if_neg, f_m_now, h1, h2]
theorem m_inN {n b : Nat} (hn : n < 2 ^ 31) (hb : b < 2 ^ 31) (μ : Mem) : f_m_in (nI n) (nI 0) (nI b) μ = some (nI (bN (decide (n ≤ b))), μ) := by
  rw [m_in, b_if]
  have e : decide (nI 0 ≤ nI n ∧ nI n ≤ nI b) = decide (n ≤ b) := decide_eq_decide.mpr (by rw [i_leN (by omega) hn, i_leN hn hb]; omega)
  rw [e]
theorem m_inG {x y : Int32} (hx : x < nI 0) (μ : Mem) : f_m_in x (nI 0) y μ = some (nI 0, μ) := by
  rw [m_in, if_neg (fun q => absurd q.1 (by rw [i_le]; rw [i_lt] at hx; omega))]
  rfl
theorem m_isOne (h : MB S μ) {n : Nat} (hn : n < 2 ^ 31) : f_m_isOne (nI n) μ = some (nI (bN (decide (n < S.1))), μ) := by
  have hp := h.2.2.2.2.1
  unfold f_m_isOne
  rw [h.1, m_in, b_if]
  have e : decide ((0 : Int32) ≤ nI n ∧ nI n ≤ nI S.1 - 1) = decide (n < S.1) := decide_eq_decide.mpr (by
    rw [l_0, i_leN (by omega) hn]
    by_cases h0 : S.1 = 0
    · rw [h0, i_le, i_tI hn]
      have : (nI 0 - 1 : Int32).toInt = -1 := by decide
      omega
    · rw [l_1, i_sub (by omega), i_leN hn (by omega)]; omega)
  rw [e, bd2_s, zb_b, chk_t]
theorem m_isOneG {x : Int32} (hx : x < nI 0) (μ : Mem) : f_m_isOne x μ = some (nI 0, μ) := by
  unfold f_m_isOne
  rw [l_0, m_inG hx, bd2_s]; rfl
theorem m_areSome (h : MB S μ) {n : Nat} (hn : n < 2 ^ 31) : f_m_areSome (nI n) μ = some (nI (bN (decide (n < 2 ^ S.1))), μ) := by
  have h14 := p2_14 h.2.2.2.2.1
  have h1 := Nat.one_le_two_pow (n := S.1)
  unfold f_m_areSome
  rw [m_everybody h, bd2_s, l_0, m_inN hn (by omega), bd2_s, zb_b, chk_t]
  have e : decide (n ≤ 2 ^ S.1 - 1) = decide (n < 2 ^ S.1) := decide_eq_decide.mpr (by omega)
  rw [e]
theorem m_areSomeG (h : MB S μ) {x : Int32} (hx : x < nI 0) : f_m_areSome x μ = some (nI 0, μ) := by
  unfold f_m_areSome
  rw [m_everybody h, bd2_s, l_0, m_inG hx, bd2_s]; rfl
theorem m_open (hW : WF a) (hb : MB (aS a) μ) (h : MDs a μ) : f_m_open μ = some (nI (opn a), μ) := by
  have h1 := hb.2.2.2.1
  simp (disch := omega) only [l_0, l_1, l_2, l_3, l_4, l_5, l_6, l_7, l_8, l_9, l_10, l_14, l_15, l_16, l_20, l_31, l_40, l_48, l_50, l_57, l_60, l_64, l_76, l_80, l_99, l_100, l_127, l_196, l_200, l_201, l_202, l_255, l_412, l_999, l_1000, l_16000, l_1000000, i_add, i_mul, i_sub, i_leN, i_ltN, i_eqN, i_nleG, i_nltG, inb_n, cl_nI, chk_q, bnd_q, bd1_q, bd2_q, i_bitQ, i_oneQ, i_woQ, i_or, i_and, i_xor, zb_q0, zb_q1, zb_b, b_0Q, if_true, if_false, reduceCtorEq, if_pos, if_neg, f_m_open, m_everybody hb, m_now hW h, h1]
  rfl
theorem m_priceOf_lp {pr : Nat → Nat} (h : MB S μ) (h5 : ∀ i, i < S.1 → μ.1 v_m_price i = nI (pr i)) {s : Nat} (hs : s < 2 ^ 31) : ∀ m i n, i + m = S.1 → m < n → f_m_priceOf_b4 n (nI s) (nI (sm (fun i => bN (s.testBit i) * pr i) i)) (nI i) μ = some (nI (prS S.1 pr s), μ) := by
  have hp := h.2.2.2.2.1
  have h0 := h.1
  intro m
  induction m with
  | zero =>
    intro i n hi hn
    obtain ⟨n, rfl⟩ : ∃ z, n = z + 1 := ⟨n - 1, by omega⟩
    obtain rfl : i = S.1 := by omega
    simp (disch := omega) only [l_0, l_1, l_2, l_3, l_4, l_5, l_6, l_7, l_8, l_9, l_10, l_14, l_15, l_16, l_20, l_31, l_40, l_48, l_50, l_57, l_60, l_64, l_76, l_80, l_99, l_100, l_127, l_196, l_200, l_201, l_202, l_255, l_412, l_999, l_1000, l_16000, l_1000000, i_add, i_mul, i_sub, i_leN, i_ltN, i_eqN, i_nleG, i_nltG, inb_n, cl_nI, chk_q, bnd_q, bd1_q, bd2_q, i_bitQ, i_oneQ, i_woQ, i_or, i_and, i_xor, zb_q0, zb_q1, zb_b, b_0Q, if_true, if_false, reduceCtorEq, if_pos, if_neg, f_m_priceOf_b4, h0]
    rfl
  | succ m ih =>
    intro i n hi hn
    obtain ⟨n, rfl⟩ : ∃ z, n = z + 1 := ⟨n - 1, by omega⟩
    have := ih (i + 1) n (by omega) (by omega)
    rw [sm] at this
    simp (disch := omega) only [l_0, l_1, l_2, l_3, l_4, l_5, l_6, l_7, l_8, l_9, l_10, l_14, l_15, l_16, l_20, l_31, l_40, l_48, l_50, l_57, l_60, l_64, l_76, l_80, l_99, l_100, l_127, l_196, l_200, l_201, l_202, l_255, l_412, l_999, l_1000, l_16000, l_1000000, i_add, i_mul, i_sub, i_leN, i_ltN, i_eqN, i_nleG, i_nltG, inb_n, cl_nI, chk_q, bnd_q, bd1_q, bd2_q, i_bitQ, i_oneQ, i_woQ, i_or, i_and, i_xor, zb_q0, zb_q1, zb_b, b_0Q, if_true, if_false, reduceCtorEq, if_pos, if_neg, f_m_priceOf_b4, f_m_priceOf_b31, h0, h5, m_has]
    cases hb : s.testBit i with
    | true => rw [hb, show bN true = 1 from rfl, Nat.one_mul] at this; rw [if_neg (by decide), this]
    | false => rw [hb, show bN false = 0 from rfl, Nat.zero_mul] at this; rw [if_pos (by decide), this]
theorem m_priceOf {pr : Nat → Nat} (h : MB S μ) (h5 : ∀ i, i < S.1 → μ.1 v_m_price i = nI (pr i)) {s : Nat} (hs : s < 2 ^ 31) : f_m_priceOf (nI s) μ = some (nI (prS S.1 pr s), μ) :=
  m_priceOf_lp h h5 hs S.1 0 FU (by omega) (by have := h.2.2.2.2.1; unfold FU; omega)
end ME9
