/-! The reference's rate; picks. -/
section OPS
variable {N : Nat} {a : Ab} {b : Nat × Nat} {μ0 μ : Mem} {Q : Nat} {S : SP} {U : Nat → List Nat}
theorem m_side_lp (h : MB S μ) {sh s i : Nat} (hi : i < 14) (hsh : sh < 2) (hs : s < 2 ^ 31) (e1 : μ.1 v_m_askedShop 0 = nI sh) (e2 : μ.1 v_m_askedOne 0 = nI i) (e3 : μ.1 v_m_askedState 0 = nI s) : ∀ m o n, o + m = S.1 → m < n → f_m_letter_b128 n (nI (sm (fun o => bN (onS sh s o) * S.2.1 i o) o)) (nI o) μ = some (nI (sdS S sh s i), μ)
  | 0, o, n + 1, ho, _ => by
    have hp := h.2.2.2.2.1
    have e : o = S.1 := by omega
    subst e
    rw [f_m_letter_b128, h.1, if_pos ((i_leN (by omega) (by omega)).mpr (Nat.le_refl _))]
    rfl
  | m + 1, o, n + 1, ho, hn => by
    have hp := h.2.2.2.2.1
    have ih := m_side_lp h hi hsh hs e1 e2 e3 m (o + 1) n (by omega) (by omega)
    have es : sm (fun o => bN (onS sh s o) * S.2.1 i o) (o + 1) = sm (fun o => bN (onS sh s o) * S.2.1 i o) o + bN (onS sh s o) * S.2.1 i o := rfl
    rw [f_m_letter_b128, h.1, if_neg (fun q => absurd ((i_leN (by omega) (by omega)).mp q) (by omega)), e3, m_has hs (by omega), bd2_s, e1, bnd_s]
    have hq : (nI (bN (s.testBit o)) = if nI sh = (1 : Int32) then (1 : Int32) else 0) ↔ onS sh s o = true := by
      have : sh = 0 ∨ sh = 1 := by omega
      rcases this with q | q
      · subst q
        rw [if_neg (by decide)]
        unfold onS
        rw [if_neg (by decide)]
        cases s.testBit o <;> decide
      · subst q
        rw [if_pos (show nI 1 = (1 : Int32) from rfl)]
        unfold onS
        rw [if_pos rfl]
        cases s.testBit o <;> decide
    by_cases c : onS sh s o = true
    · rw [if_pos (hq.mpr c), e2, show (14 : Int32) = nI 14 from rfl, i_mul, i_add, inb_n (by omega) (by omega), chk_t, cl_nI (by omega), h.2.1 i o hi (by omega)]
      unfold f_m_letter_b179
      rw [i_add, l_1, i_add]
      rw [es, c, show bN true = 1 from rfl, Nat.one_mul] at ih
      exact ih
    · rw [if_neg (fun q => c (hq.mp q))]
      unfold f_m_letter_b179
      rw [show (0 : Int32) = nI 0 from rfl, i_add, l_1, i_add]
      rw [es, bF c, show bN false = 0 from rfl, Nat.zero_mul] at ih
      exact ih
theorem m_dn_lp (h : MB S μ) {i : Nat} (hi : i < 14) (e2 : μ.1 v_m_askedOne 0 = nI i) : ∀ m o n, o + m = S.1 → m < n → f_m_letter_b200 n (nI (sm (fun o => bN (decide (0 < S.2.1 o i))) o)) (nI o) μ = some (nI (dN S i), μ)
  | 0, o, n + 1, ho, _ => by
    have hp := h.2.2.2.2.1
    have e : o = S.1 := by omega
    subst e
    rw [f_m_letter_b200, h.1, if_pos ((i_leN (by omega) (by omega)).mpr (Nat.le_refl _))]
    rfl
  | m + 1, o, n + 1, ho, hn => by
    have hp := h.2.2.2.2.1
    have h9 := h.2.2.2.2.2.1 o i
    have ih := m_dn_lp h hi e2 m (o + 1) n (by omega) (by omega)
    rw [f_m_letter_b200, h.1, if_neg (fun q => absurd ((i_leN (by omega) (by omega)).mp q) (by omega)), e2, show (14 : Int32) = nI 14 from rfl, i_mul, i_add, inb_n (by omega) (by omega), chk_t, cl_nI (by omega), h.2.1 o i (by omega) hi, le0_if (by omega), bnd_s]
    have e : (if S.2.1 o i = 0 then (0 : Int32) else 1) = nI (bN (decide (0 < S.2.1 o i))) := by
      by_cases q : 0 < S.2.1 o i
      · rw [decide_eq_true q, if_neg (by omega)]; rfl
      · rw [decide_eq_false q, if_pos (by omega)]; rfl
    rw [e, i_add, l_1, i_add]
    exact ih
theorem m_letter (hM : MB (aS a) μ) (hD : MDs a μ) {sh s i : Nat} (hi : i < (aS a).1) (hsh : sh < 2) (hs : s < 2 ^ (aS a).1) (e1 : μ.1 v_m_askedShop 0 = nI sh) (e2 : μ.1 v_m_askedOne 0 = nI i) (e3 : μ.1 v_m_askedState 0 = nI s) {c j : Nat} (hc : ltI c = some j) : f_m_letter (nI c) μ = some (lvF a sh s i j, μ) := by
  have hp := hM.2.2.2.2.1
  have hs' : s < 16384 := Nat.lt_of_lt_of_le hs (Nat.pow_le_pow_right (by omega) hp)
  have hcc : (c = 105 ∧ j = 0) ∨ (c = 110 ∧ j = 1) ∨ (c = 112 ∧ j = 2) ∨ (c = 97 ∧ j = 3) ∨ (c = 115 ∧ j = 4) ∨ (c = 111 ∧ j = 5) ∨ (c = 100 ∧ j = 6) := by
    unfold ltI at hc
    by_cases q1 : c = 105
    · rw [if_pos q1] at hc; left; exact ⟨q1, (Option.some.inj hc).symm⟩
    rw [if_neg q1] at hc
    by_cases q2 : c = 110
    · rw [if_pos q2] at hc; right; left; exact ⟨q2, (Option.some.inj hc).symm⟩
    rw [if_neg q2] at hc
    by_cases q3 : c = 112
    · rw [if_pos q3] at hc; right; right; left; exact ⟨q3, (Option.some.inj hc).symm⟩
    rw [if_neg q3] at hc
    by_cases q4 : c = 97
    · rw [if_pos q4] at hc; right; right; right; left; exact ⟨q4, (Option.some.inj hc).symm⟩
    rw [if_neg q4] at hc
    by_cases q5 : c = 115
    · rw [if_pos q5] at hc; right; right; right; right; left; exact ⟨q5, (Option.some.inj hc).symm⟩
    rw [if_neg q5] at hc
    by_cases q6 : c = 111
    · rw [if_pos q6] at hc; right; right; right; right; right; left; exact ⟨q6, (Option.some.inj hc).symm⟩
    rw [if_neg q6] at hc
    by_cases q7 : c = 100
    · rw [if_pos q7] at hc; right; right; right; right; right; right; exact ⟨q7, (Option.some.inj hc).symm⟩
    rw [if_neg q7] at hc
    exact absurd hc (by simp)
  have ki : inb (nI i) 14 = true := inb_n (by omega) (by omega)
  have ci : (nI i).toNatClampNeg = i := cl_nI (by omega)
  unfold f_m_letter
  rcases hcc with ⟨rfl, rfl⟩ | ⟨rfl, rfl⟩ | ⟨rfl, rfl⟩ | ⟨rfl, rfl⟩ | ⟨rfl, rfl⟩ | ⟨rfl, rfl⟩ | ⟨rfl, rfl⟩
  · rw [if_neg (by decide), if_pos (by decide), e2]; rfl
  · rw [if_neg (by decide), if_neg (by decide), if_pos (by decide), e2, ki, chk_t, ci, hM.2.2.1 i hi]; rfl
  · rw [if_neg (by decide), if_neg (by decide), if_neg (by decide), if_neg (by decide), if_pos (by decide), e2, ki, chk_t, ci, hD.1 i hi]; rfl
  · rw [if_pos (by decide), e2, m_allOf hM (by omega), bd2_s]; rfl
  · rw [if_neg (by decide), if_neg (by decide), if_neg (by decide), if_neg (by decide), if_neg (by decide), if_pos (by decide)]
    exact m_side_lp hM (by omega) hsh (by omega) e1 e2 e3 (aS a).1 0 FU (by omega) (by unfold FU; omega)
  · rw [if_neg (by decide), if_neg (by decide), if_neg (by decide), if_pos (by decide), e2, m_heardBy hM (by omega), bd2_s]; rfl
  · rw [if_neg (by decide), if_neg (by decide), if_neg (by decide), if_neg (by decide), if_neg (by decide), if_neg (by decide)]
    exact m_dn_lp hM (by omega) e2 (aS a).1 0 FU (by omega) (by unfold FU; omega)
/-- as a rate is begun -/
def mRt (μ : Mem) (sh n i s : Nat) : Mem := setI (setI (setI (setI (setI (setI (setI (setI μ v_m_read 0 (nI (2 + sh))) v_m_size 0 (nI n)) v_m_top 0 40) v_m_at 0 0) v_m_wrong 0 (-1)) v_m_askedShop 0 (nI sh)) v_m_askedOne 0 (nI i)) v_m_askedState 0 (nI s)
/-- only the rates' own variables have changed -/
def MG (μ μ' : Mem) : Prop := (∀ v, ¬ ((144 ≤ v ∧ v ≤ 148) ∨ (164 ≤ v ∧ v ≤ 166)) → μ'.1 v = μ.1 v) ∧ μ'.2 = μ.2
theorem MG.rf (μ : Mem) : MG μ μ := ⟨fun _ _ => rfl, rfl⟩
theorem MG.tr {a b c : Mem} (h : MG a b) (k : MG b c) : MG a c := ⟨fun v hv => (k.1 v hv).trans (h.1 v hv), k.2.trans h.2⟩
theorem MI.mg {μ' : Mem} (h : MI N Q a μ0 μ) (hf : MG μ μ') : MI N Q a μ0 μ' := by
  obtain ⟨w1, w2, w3, w4, w5⟩ := h
  exact ⟨w1, mIn.fr w2 (fun v hv => hf.1 v (fun z => hv (by unfold mIn; omega))) hf.2, w3.of (fun v hv => hf.1 v (by omega)), w4, w5.tr ⟨fun v hv => hf.1 v (by omega), fun v _ => by rw [hf.2], by rw [hf.2]⟩⟩
theorem mRt_G (μ : Mem) (sh n i s : Nat) : MG μ (mRt μ sh n i s) := by
  refine ⟨fun v hv => ?_, rfl⟩
  unfold mRt
  rw [sI_v _ _ _ (show v ≠ 166 by omega), sI_v _ _ _ (show v ≠ 165 by omega), sI_v _ _ _ (show v ≠ 164 by omega), sI_v _ _ _ (show v ≠ 148 by omega), sI_v _ _ _ (show v ≠ 147 by omega), sI_v _ _ _ (show v ≠ 146 by omega), sI_v _ _ _ (show v ≠ 145 by omega), sI_v _ _ _ (show v ≠ 144 by omega)]
theorem RF.MG {μ μ' : Mem} (h : RF μ μ') : MG μ μ' := ⟨fun v hv => h.1 v (by omega) (by omega), h.2⟩
theorem MU.of2 {μ0 μ : Mem} (hU : MU U μ0) (h : MI N Q a μ0 μ) : MU U μ := hU.of (fun v hv => h.2.2.2.2.1 v (by omega))
theorem m_rate (h : MI N Q a μ0 μ) (hU : MU U μ0) {sh s i : Nat} (hsh : sh < 2) (hi : i < (aS a).1) (hs : s < 2 ^ (aS a).1) : ∃ μ', f_m_rateOf (nI sh) (nI i) (nI s) μ = some (rtF a U sh s i, μ') ∧ MG μ μ' := by
  have hp := h.2.1.1.2.2.2.2.1
  have hU1 := hU.of2 h
  have hz : μ.1 v_m_ruleSize sh = nI (U sh).length ∧ VU (U sh) := by
    have : sh = 0 ∨ sh = 1 := by omega
    rcases this with q | q
    · subst q; exact ⟨hU1.2.1, hU1.1.1⟩
    · subst q; exact ⟨hU1.2.2.1, hU1.1.2⟩
  unfold f_m_rateOf
  rw [inb_n hsh (by omega), chk_t, cl_nI (show sh < 2 ^ 31 by omega), hz.1]
  by_cases c0 : U sh = []
  · refine ⟨μ, ?_, MG.rf _⟩
    rw [if_pos (show nI (U sh).length = 0 by rw [c0]; rfl)]
    unfold rtF rvU
    rw [if_pos c0]
  · have hpos : 0 < (U sh).length := List.length_pos_iff.mpr c0
    obtain ⟨v1, v2, v3, v4⟩ := hz.2.resolve_left c0
    have hb8 := t_lt v2
    generalize hμ5 : mRt μ sh (U sh).length i s = μ5
    have hG : MG μ μ5 := by rw [← hμ5]; exact mRt_G _ _ _ _ _
    have h5 := h.mg hG
    have a1 : μ5.1 v_m_askedShop 0 = nI sh := by rw [← hμ5]; unfold mRt; rw [sI_v _ _ _ (by decide), sI_v _ _ _ (by decide), sI_eq]
    have a2 : μ5.1 v_m_askedOne 0 = nI i := by rw [← hμ5]; unfold mRt; rw [sI_v _ _ _ (by decide), sI_eq]
    have a3 : μ5.1 v_m_askedState 0 = nI s := by rw [← hμ5]; unfold mRt; rw [sI_eq]
    have a4 : μ5.1 v_m_read 0 = nI (2 + sh) := by rw [← hμ5]; unfold mRt; rw [sI_v _ _ _ (by decide), sI_v _ _ _ (by decide), sI_v _ _ _ (by decide), sI_v _ _ _ (by decide), sI_v _ _ _ (by decide), sI_v _ _ _ (by decide), sI_v _ _ _ (by decide), sI_eq]
    have a5 : μ5.1 v_m_size 0 = nI (U sh).length := by rw [← hμ5]; unfold mRt; rw [sI_v _ _ _ (by decide), sI_v _ _ _ (by decide), sI_v _ _ _ (by decide), sI_v _ _ _ (by decide), sI_v _ _ _ (by decide), sI_v _ _ _ (by decide), sI_eq]
    have a6 : μ5.1 v_m_top 0 = nI 40 := by rw [← hμ5]; unfold mRt; rw [sI_v _ _ _ (by decide), sI_v _ _ _ (by decide), sI_v _ _ _ (by decide), sI_v _ _ _ (by decide), sI_v _ _ _ (by decide), sI_eq]; rfl
    have a7 : MSt 0 μ5 := by
      refine ⟨?_, ?_⟩
      · rw [← hμ5]; unfold mRt; rw [sI_v _ _ _ (by decide), sI_v _ _ _ (by decide), sI_v _ _ _ (by decide), sI_v _ _ _ (by decide), sI_eq]; rfl
      · rw [← hμ5]; unfold mRt; rw [sI_v _ _ _ (by decide), sI_v _ _ _ (by decide), sI_v _ _ _ (by decide), sI_eq]
    have hU5 := hU.of2 h5
    have hE : RE (U sh) (U sh).length μ5 := by
      refine ⟨⟨v1, hb8⟩, ⟨(U sh).length, by omega, a5, by omega⟩, a6, ?_⟩
      have : sh = 0 ∨ sh = 1 := by omega
      rcases this with q | q
      · subst q; right; left; exact ⟨a4, hU5.2.2.2.1⟩
      · subst q; right; right; exact ⟨a4, hU5.2.2.2.2⟩
    have hLv : LVs (lvF a sh s i) μ5 := fun c j m hc hf => by
      have h6 := h5.mg hf.MG
      have e1 : m.1 v_m_askedShop 0 = nI sh := by rw [hf.1 _ (by decide) (by decide)]; exact a1
      have e2 : m.1 v_m_askedOne 0 = nI i := by rw [hf.1 _ (by decide) (by decide)]; exact a2
      have e3 : m.1 v_m_askedState 0 = nI s := by rw [hf.1 _ (by decide) (by decide)]; exact a3
      rw [e2, if_neg (nI_ne_m1 (by omega)), m_letter h6.2.1.1 h6.2.1.2.1 hi hsh hs e1 e2 e3 hc, bd2_s]
    have hF := m_held hE (m_th hE hLv 50 5 0 rfl) (pTh_gd (lv := lvF a sh s i) 6 0)
    obtain ⟨v, μ1, q1, q2, q3, q4⟩ := hF 0 μ5 (by omega) (Nat.zero_le _) (RF.rf _) a7
    have hok : (prU (lvF a sh s i) (U sh) (U sh).length).1 = true := by rw [← (prU_ag lv0 (lvF a sh s i) (U sh) (U sh).length).1]; exact v3
    have hv : v = rtF a U sh s i := by
      unfold rtF rvU
      rw [if_neg c0]
      exact (q3 hok).2
    refine ⟨μ1, ?_, hG.tr q2.MG⟩
    rw [if_neg (show ¬ nI (U sh).length = 0 from fun q => by have := nI_inj (b := 0) (by omega) (by omega) q; omega)]
    have : sh = 0 ∨ sh = 1 := by omega
    rcases this with q | q
    · subst q
      rw [if_pos (show nI 0 = 0 from rfl), chk_t]
      unfold f_m_begin_127
      rw [bnd_s, bnd_s, bnd_s, bnd_s, bnd_s, bd1_s, bnd_s, bnd_s, bnd_s]
      have e5 : setI (setI (setI (setI (setI (setI (setI (setI μ v_m_read 0 2) v_m_size 0 (nI (U 0).length)) v_m_top 0 40) v_m_at 0 0) v_m_wrong 0 (-1)) v_m_askedShop 0 (nI 0)) v_m_askedOne 0 (nI i)) v_m_askedState 0 (nI s) = μ5 := hμ5
      rw [e5, show (0 : Int32) = nI 0 from rfl, q1, bd2_s, hv]
    · subst q
      rw [if_neg (show ¬ nI 1 = 0 by decide), if_pos (show nI 1 = 1 from rfl), chk_t]
      unfold f_m_begin_128
      rw [bnd_s, bnd_s, bnd_s, bnd_s, bnd_s, bd1_s, bnd_s, bnd_s, bnd_s]
      have e5 : setI (setI (setI (setI (setI (setI (setI (setI μ v_m_read 0 3) v_m_size 0 (nI (U 1).length)) v_m_top 0 40) v_m_at 0 0) v_m_wrong 0 (-1)) v_m_askedShop 0 (nI 1)) v_m_askedOne 0 (nI i)) v_m_askedState 0 (nI s) = μ5 := hμ5
      rw [e5, show (0 : Int32) = nI 0 from rfl, q1, bd2_s, hv]
end OPS
