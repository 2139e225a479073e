/-! The class reads a RULE. -/
/-- which signs a text of the reader's holds -/
def isC (s c : Nat) : Bool := if s = 0 then decide (c = 45) else if s = 1 then (ltI c).isSome else if s = 2 then decide (c = 40) else if s = 3 then decide (c = 41) else if s = 4 then decide (48 ≤ c ∧ c ≤ 57) else if s = 5 then isPd c else if s = 6 then isSm c else isEx c
theorem sIdx_c : ∀ s, s < 8 → ∀ c, c < 256 → decide (sIdx s (nI c) < 0) = !isC s c := by decide +kernel
theorem sIdx_l : ∀ c, c < 256 → sIdx 1 (nI c) = oI (ltI c) := by decide +kernel
theorem isC_256 : ∀ s, s < 8 → isC s 256 = false := by decide
section RD
variable {t : List Nat} {L sp : Nat} {lv : Nat → Int32} {μ : Mem}
/-- the reader stands at k, the spare rule holds the codes cs -/
def CR (t : List Nat) (L sp k : Nat) (cs : List Nat) (μ : Mem) : Prop := (L ≤ 40 ∧ sp < 3 ∧ ∀ j, t.getD j 0 < 256) ∧ (μ.1 v_rr_text 0 = 1 ∧ μ.1 v_rr_limit 0 = nI L ∧ μ.1 v_rr_at 0 = nI k ∧ μ.1 v_rr_spare 0 = nI sp) ∧ (∀ j, j < L → μ.1 v_x_text j = nI (t.getD j 0)) ∧ μ.1 (vRu sp 0) 0 = nI cs.length ∧ ∀ j, j < cs.length → μ.1 (vRu sp 2) j = nI (cs.getD j 0)
def CF (sp : Nat) (μ μ' : Mem) : Prop := (∀ v, v ≠ 80 → v ≠ vRu sp 0 → v ≠ vRu sp 2 → μ'.1 v = μ.1 v) ∧ μ'.2 = μ.2
theorem CF.rf (sp : Nat) (μ : Mem) : CF sp μ μ := ⟨fun _ _ _ _ => rfl, rfl⟩
theorem CF.tr {sp : Nat} {a b c : Mem} (h : CF sp a b) (k : CF sp b c) : CF sp a c := ⟨fun v h1 h2 h3 => (k.1 v h1 h2 h3).trans (h.1 v h1 h2 h3), k.2.trans h.2⟩
theorem cu_lt (h : ∀ j, t.getD j 0 < 256) {k : Nat} (hk : k < L) : cu t L k < 256 := by unfold cu; rw [if_pos hk]; exact h k
theorem ch_n {c : Nat} (h : c < 256) : ((nI c).toUInt32 % 65536).toInt32 = nI c := by
  rw [pk_char, pk_tn (by omega), Nat.mod_eq_of_lt (by omega)]
theorem ch_16 {c : Nat} (h : c < 256) : chr16 (nI c) = true := by
  unfold chr16
  exact decide_eq_true ⟨(i_leN (a := 0) (by omega) (by omega)).mpr (by omega), (i_leN (b := 65535) (by omega) (by omega)).mpr (by omega)⟩
theorem CR.is {cs : List Nat} {k : Nat} (h : CR t L sp k cs μ) {s : Nat} (hs : s < 8) (hk : k ≤ L) : f_rr_isOneOf s μ = some (nI (bN (isC s (cu t L k))), μ) := by
  obtain ⟨⟨h1, h2, h3⟩, ⟨h4, h5, h6, h7⟩, h8, h9, h10⟩ := h
  unfold f_rr_isOneOf
  rw [h5, h6]
  by_cases c : L ≤ k
  · have e : cu t L k = 256 := if_neg (by omega)
    rw [if_pos ((i_leN (by omega) (by omega)).mpr c), zb_0, chk_t, e, isC_256 s hs]
    rfl
  · have hc := cu_lt (L := L) h3 (k := k) (by omega)
    have e : cu t L k = t.getD k 0 := if_pos (by omega)
    have hx := sIdx_c s hs (cu t L k) hc
    rw [if_neg (fun q => c ((i_leN (by omega) (by omega)).mp q)), h4, if_pos rfl, inb_n (by omega) (by omega), chk_t, cl_nI (by omega), h8 k (by omega), ← e, ch_n hc, ch_16 hc, chk_t, bnd_s, b_ifn, decide_not, hx, Bool.not_not, bnd_s, zb_b, chk_t]
/-- a sign passed -/
theorem CR.pass {cs : List Nat} {k : Nat} (h : CR t L sp k cs μ) : CR t L sp (k + 1) cs (setI μ v_rr_at 0 (nI k + 1)) ∧ CF sp μ (setI μ v_rr_at 0 (nI k + 1)) := by
  obtain ⟨⟨h1, h2, h3⟩, ⟨h4, h5, h6, h7⟩, h8, h9, h10⟩ := h
  have e : ∀ v, v ≠ 80 → (setI μ v_rr_at 0 (nI k + 1)).1 v = μ.1 v := fun v hv => sI_v _ _ _ hv
  have n0 : vRu sp 0 ≠ 80 := by show 81 + 4 * sp + 0 ≠ 80; omega
  have n2 : vRu sp 2 ≠ 80 := by show 81 + 4 * sp + 2 ≠ 80; omega
  exact ⟨⟨⟨h1, h2, h3⟩, ⟨by rw [e _ (by decide)]; exact h4, by rw [e _ (by decide)]; exact h5, by rw [sI_eq]; exact i_add k 1, by rw [e _ (by decide)]; exact h7⟩, fun j hj => by rw [e _ (by decide)]; exact h8 j hj, by rw [e _ n0]; exact h9, fun j hj => by rw [e _ n2]; exact h10 j hj⟩, fun v hv _ _ => e v hv, rfl⟩
/-- a code added -/
theorem CR.add {cs : List Nat} {k : Nat} (h : CR t L sp k cs μ) (hl : cs.length < 40) (c : Nat) : ∃ μ', f_ru_add sp (nI c) μ = some μ' ∧ CR t L sp k (cs ++ [c]) μ' ∧ CF sp μ μ' := by
  obtain ⟨⟨h1, h2, h3⟩, ⟨h4, h5, h6, h7⟩, h8, h9, h10⟩ := h
  have e : ∀ v, v ≠ vRu sp 0 → v ≠ vRu sp 2 → (setI (setI μ (vRu sp 0) 0 (nI (cs.length + 1))) (vRu sp 2) cs.length (nI c)).1 v = μ.1 v := fun v hv hw => by rw [sI_v _ _ _ hw, sI_v _ _ _ hv]
  have n02 : vRu sp 0 ≠ vRu sp 2 := by show 81 + 4 * sp + 0 ≠ 81 + 4 * sp + 2; omega
  have lo : ∀ v, v ≤ 80 → v ≠ vRu sp 0 ∧ v ≠ vRu sp 2 := fun v hv => ⟨by show v ≠ 81 + 4 * sp + 0; omega, by show v ≠ 81 + 4 * sp + 2; omega⟩
  refine ⟨setI (setI μ (vRu sp 0) 0 (nI (cs.length + 1))) (vRu sp 2) cs.length (nI c), ?_, ⟨⟨h1, h2, h3⟩, ⟨?_, ?_, ?_, ?_⟩, fun j hj => ?_, ?_, fun j hj => ?_⟩, fun v _ g1 g2 => e v g1 g2, rfl⟩
  · unfold f_ru_add
    rw [h9, l_40, if_neg (fun q => absurd ((i_leN (by omega) (by omega)).mp q) (by omega)), l_1, i_add, bnd_s, inb_n hl (by omega), chk_t, cl_nI (by omega), bnd_s]
  · rw [e _ (lo _ (by decide)).1 (lo _ (by decide)).2]; exact h4
  · rw [e _ (lo _ (by decide)).1 (lo _ (by decide)).2]; exact h5
  · rw [e _ (lo _ (by decide)).1 (lo _ (by decide)).2]; exact h6
  · rw [e _ (lo _ (by decide)).1 (lo _ (by decide)).2]; exact h7
  · rw [e _ (lo _ (by decide)).1 (lo _ (by decide)).2]; exact h8 j hj
  · rw [sI_v _ _ _ n02, sI_eq, List.length_append, List.length_singleton]
  · rw [getD_app _ _ _ _ hj]
    by_cases q : j = cs.length
    · rw [if_pos q, q, sI_eq]
    · rw [if_neg q, sI_i _ _ _ q, sI_v _ _ _ (fun z => n02 z.symm)]
      exact h10 j (by rw [List.length_append, List.length_singleton] at hj; omega)
theorem CR.sp3 {cs : List Nat} {k : Nat} (h : CR t L sp k cs μ) : decide ((μ.1 v_rr_spare 0).toNatClampNeg < 3) = true ∧ (μ.1 v_rr_spare 0).toNatClampNeg = sp := by
  have e : (μ.1 v_rr_spare 0).toNatClampNeg = sp := by rw [h.2.1.2.2.2, cl_nI (by have := h.1.2.1; omega)]
  rw [e]
  exact ⟨decide_eq_true h.1.2.1, rfl⟩
theorem CR.ch {cs : List Nat} {k : Nat} (h : CR t L sp k cs μ) (hk : k < L) : μ.1 v_x_text k = nI (cu t L k) := by
  rw [h.2.2.1 k hk]
  unfold cu
  rw [if_pos hk]
theorem CR.ch_at {cs : List Nat} {k : Nat} (h : CR t L sp (k + 1) cs μ) (hk : k < L) : μ.1 v_x_text k = nI (cu t L k) := by
  rw [h.2.2.1 k hk]
  unfold cu
  rw [if_pos hk]
/-- what a reading method of the class owes -/
def CSp (t : List Nat) (L sp : Nat) (F : Mem → Option (Int32 × Mem)) (P : Nat → PR) : Prop := ∀ k cs (μ : Mem), k ≤ L → cs.length ≤ k → CR t L sp k cs μ → ∃ cs' μ', F μ = some (nI (bN (P k).1), μ') ∧ CR t L sp (P k).2.1 cs' μ' ∧ CF sp μ μ' ∧ cs'.length ≤ (P k).2.1 ∧ ((P k).1 = true → cs' = cs ++ (P k).2.2.1)
theorem x_num_lp {cs : List Nat} : ∀ m k d v g (μ : Mem), m + d = 3 → m < g → k ≤ L → v < 10 ^ d → CR t L sp k cs μ → ∃ μ', CR t L sp (pNumL t L m k v).1 cs μ' ∧ CF sp μ μ' ∧ f_rr_number_b4 g (nI v) (nI d) μ = some (nI (pNumL t L m k v).2, μ') := by
  intro m
  induction m with
  | zero =>
    intro k d v g μ hd hg hk hv h
    obtain ⟨g, rfl⟩ : ∃ z, g = z + 1 := ⟨g - 1, by omega⟩
    obtain rfl : d = 3 := by omega
    refine ⟨μ, h, CF.rf _ _, ?_⟩
    rw [f_rr_number_b4, l_3, if_pos ((i_leN (by omega) (by omega)).mpr (Nat.le_refl _))]
    rfl
  | succ m ih =>
    intro k d v g μ hd hg hk hv h
    obtain ⟨g, rfl⟩ : ∃ z, g = z + 1 := ⟨g - 1, by omega⟩
    have hL := h.1.1
    have hv3 : 10 ^ d ≤ 100 := by
      have : 10 ^ d ≤ 10 ^ 2 := Nat.pow_le_pow_right (by omega) (by omega)
      exact this
    rw [f_rr_number_b4, l_3, if_neg (fun q => absurd ((i_leN (by omega) (by omega)).mp q) (by omega)), h.2.1.2.1, h.2.1.2.2.1, pNumL]
    by_cases e : L ≤ k
    · have hc : cu t L k = 256 := if_neg (by omega)
      rw [if_pos ((i_leN (by omega) (by omega)).mpr e), if_neg (show ¬ (48 ≤ cu t L k ∧ cu t L k ≤ 57) by omega)]
      exact ⟨μ, h, CF.rf _ _, rfl⟩
    · have hkL : k < L := by omega
      have hc := cu_lt h.1.2.2 hkL
      rw [if_neg (fun q => e ((i_leN (by omega) (by omega)).mp q)), h.2.1.1, if_pos rfl, inb_n (by omega) (by omega), chk_t, cl_nI (by omega), h.ch hkL, l_48, l_57]
      by_cases c1 : cu t L k < 48
      · rw [if_pos ((i_ltN (by omega) (by omega)).mpr c1), if_neg (show ¬ (48 ≤ cu t L k ∧ cu t L k ≤ 57) by omega)]
        exact ⟨μ, h, CF.rf _ _, rfl⟩
      · rw [if_neg (fun q => c1 ((i_ltN (by omega) (by omega)).mp q)), if_pos rfl, chk_t]
        by_cases c2 : 57 < cu t L k
        · rw [if_pos ((i_ltN (by omega) (by omega)).mpr c2), if_neg (show ¬ (48 ≤ cu t L k ∧ cu t L k ≤ 57) by omega)]
          exact ⟨μ, h, CF.rf _ _, rfl⟩
        · obtain ⟨p1, p2⟩ := h.pass
          rw [if_neg (fun q => c2 ((i_ltN (by omega) (by omega)).mp q)), if_pos rfl, bnd_s, chk_t, p1.ch_at hkL, if_pos (show 48 ≤ cu t L k ∧ cu t L k ≤ 57 by omega)]
          obtain ⟨μ', q1, q2, q3⟩ := ih (k + 1) (d + 1) (v * 10 + cu t L k - 48) g _ (by omega) (by omega) (by omega) (by rw [Nat.pow_succ]; omega) p1
          refine ⟨μ', q1, p2.tr q2, ?_⟩
          rw [show nI v * (10 : Int32) + nI (cu t L k) - nI 48 = nI (v * 10 + cu t L k - 48) by rw [l_10, i_mul, i_add, i_sub (by omega)], bnd_s, show nI d + 1 = nI (d + 1) from i_add d 1, q3]
theorem x_num {cs : List Nat} {k : Nat} (hk : k ≤ L) (h : CR t L sp k cs μ) : ∃ μ', CR t L sp (pNumL t L 3 k 0).1 cs μ' ∧ CF sp μ μ' ∧ f_rr_number μ = some (nI (pNumL t L 3 k 0).2, μ') :=
  x_num_lp (cs := cs) 3 k 0 0 FU μ rfl (by unfold FU; omega) hk (by decide) h
theorem x_sg_lp {R : Int32 → Mem → Option (Int32 × Mem)} {Rp : Nat → PR} {dep : Nat} (hR : CSp t L sp (R (nI dep)) Rp) (hG : Gd L lv Rp) {cs : List Nat} : ∀ m k c0 g (μ : Mem), k ≤ L → L < k + m → m < g → cs.length + c0 ≤ k → CR t L sp k cs μ → ∃ cs' μ', f_rr_readSigned_b2 R g (nI dep) (nI (c0 % 2)) μ = some (nI (bN (sgn (c0 + mnC t L m k) (Rp (k + mnC t L m k))).1), μ') ∧ CR t L sp (sgn (c0 + mnC t L m k) (Rp (k + mnC t L m k))).2.1 cs' μ' ∧ CF sp μ μ' ∧ cs'.length ≤ (sgn (c0 + mnC t L m k) (Rp (k + mnC t L m k))).2.1 ∧ ((sgn (c0 + mnC t L m k) (Rp (k + mnC t L m k))).1 = true → cs' = cs ++ (sgn (c0 + mnC t L m k) (Rp (k + mnC t L m k))).2.2.1) := by
  have fin : ∀ k c0 (μ : Mem), k ≤ L → cs.length + c0 ≤ k → CR t L sp k cs μ → ∃ cs' μ', f_rr_readSigned_b45 R (nI dep) (nI (c0 % 2)) μ = some (nI (bN (sgn c0 (Rp k)).1), μ') ∧ CR t L sp (sgn c0 (Rp k)).2.1 cs' μ' ∧ CF sp μ μ' ∧ cs'.length ≤ (sgn c0 (Rp k)).2.1 ∧ ((sgn c0 (Rp k)).1 = true → cs' = cs ++ (sgn c0 (Rp k)).2.2.1) := fun k c0 μ hk hcs h => by
    have hL := h.1.1
    obtain ⟨b1, b2, b3⟩ := hG k hk
    obtain ⟨cs1, μ1, q1, q2, q3, q4, q5⟩ := hR k cs μ hk (by omega) h
    unfold f_rr_readSigned_b45 sgn
    rw [q1, bd2_s]
    by_cases d : (Rp k).1 = true
    · obtain ⟨r1, r2, r3, _, _⟩ := b3 d
      rw [d, if_neg (show ¬ nI (bN true) = 0 by decide), if_pos rfl]
      have e5 := q5 d
      by_cases f : c0 % 2 = 1
      · obtain ⟨s1, s2⟩ := q2.sp3
        have hlen : cs1.length = cs.length + (Rp k).2.2.1.length := by rw [e5, List.length_append]
        obtain ⟨μ2, a1, a2, a3⟩ := q2.add (by omega) 2126
        rw [f, if_neg (show ¬ nI 1 = 0 by decide), s1, chk_t, s2, show f_ru_add sp (2126 : Int32) μ1 = _ from a1, bd1_s, zb_1, chk_t, if_pos rfl]
        refine ⟨_, μ2, rfl, a2, q3.tr a3, ?_, fun _ => ?_⟩
        · rw [List.length_append, List.length_singleton]; show cs1.length + 1 ≤ (Rp k).2.1; omega
        · rw [e5, List.append_assoc]
      · have f0 : c0 % 2 = 0 := by omega
        rw [f0, if_pos (show nI 0 = 0 from rfl), zb_1, chk_t, if_neg (by omega)]
        exact ⟨cs1, μ1, rfl, q2, q3, q4, fun _ => e5⟩
    · have d' : (Rp k).1 = false := by cases z : (Rp k).1 with
        | false => rfl
        | true => exact absurd z d
      rw [d', if_pos (show nI (bN false) = 0 by decide), zb_0, chk_t, if_neg (by decide)]
      exact ⟨cs1, μ1, rfl, q2, q3, q4, fun z => absurd z (by simp [failP])⟩
  intro m
  induction m with
  | zero => intro k c0 g μ hk hm hg hcs h; omega
  | succ m ih =>
    intro k c0 g μ hk hm hg hcs h
    obtain ⟨g, rfl⟩ : ∃ z, g = z + 1 := ⟨g - 1, by omega⟩
    have hL := h.1.1
    rw [f_rr_readSigned_b2, h.2.1.2.1, h.2.1.2.2.1, mnC]
    by_cases cL : L ≤ k
    · have e : ¬ cu t L k = 45 := by rw [show cu t L k = 256 from if_neg (by omega)]; decide
      rw [if_pos ((i_leN (by omega) (by omega)).mpr cL), if_neg e, Nat.add_zero, Nat.add_zero]
      exact fin k c0 μ hk hcs h
    · rw [if_neg (fun q => cL ((i_leN (by omega) (by omega)).mp q)), h.is (by omega) hk, bd2_s, show isC 0 (cu t L k) = decide (cu t L k = 45) from rfl]
      by_cases c : cu t L k = 45
      · obtain ⟨p1, p2⟩ := h.pass
        obtain ⟨cs', μ', q1, q2, q3, q4⟩ := ih (k + 1) (c0 + 1) g _ (by omega) (by omega) (by omega) (by omega) p1
        have ev : (if nI (c0 % 2) = 0 then (1 : Int32) else 0) = nI ((c0 + 1) % 2) := by
          by_cases z : c0 % 2 = 0
          · rw [z, if_pos (show nI 0 = 0 from rfl), show (c0 + 1) % 2 = 1 by omega]; rfl
          · rw [show c0 % 2 = 1 by omega, if_neg (show ¬ nI 1 = 0 by decide), show (c0 + 1) % 2 = 0 by omega]; rfl
        rw [decide_eq_true c, if_neg (show ¬ nI (bN true) = 0 by decide), h.2.1.2.2.1, bnd_s, ev, bnd_s, if_pos c]
        rw [show c0 + (mnC t L m (k + 1) + 1) = c0 + 1 + mnC t L m (k + 1) by omega, show k + (mnC t L m (k + 1) + 1) = k + 1 + mnC t L m (k + 1) by omega]
        exact ⟨cs', μ', q1, q2, p2.tr q3, q4⟩
      · rw [decide_eq_false c, if_pos (show nI (bN false) = 0 by decide), if_neg c, Nat.add_zero, Nat.add_zero]
        exact fin k c0 μ hk hcs h
theorem x_sg {R : Int32 → Mem → Option (Int32 × Mem)} {Rp : Nat → PR} {dep : Nat} (hR : CSp t L sp (R (nI dep)) Rp) (hG : Gd L lv Rp) : CSp t L sp (f_rr_readSigned R (nI dep)) (pSg t L Rp) := by
  intro k cs μ hk hcs h
  have hL := h.1.1
  have := x_sg_lp hR hG (cs := cs) 41 k 0 FU μ hk (by omega) (by unfold FU; omega) (by omega) h
  rw [Nat.zero_add] at this
  exact this
theorem x_prod_lp {R : Int32 → Mem → Option (Int32 × Mem)} {Fp : Nat → PR} {dep : Nat} (hF : CSp t L sp (f_rr_readSigned R (nI dep)) Fp) (hG : Gd L lv Fp) {cs0 : List Nat} : ∀ m r g (μ : Mem), r.1 = true → r.2.1 ≤ L → L < r.2.1 + m → m < g → cs0.length + r.2.2.1.length ≤ r.2.1 → CR t L sp r.2.1 (cs0 ++ r.2.2.1) μ → ∃ cs' μ', f_rr_readProduct_b10 R g (nI dep) μ = some (nI (bN (pLp t L isPd Fp m r).1), μ') ∧ CR t L sp (pLp t L isPd Fp m r).2.1 cs' μ' ∧ CF sp μ μ' ∧ cs'.length ≤ (pLp t L isPd Fp m r).2.1 ∧ ((pLp t L isPd Fp m r).1 = true → cs' = cs0 ++ (pLp t L isPd Fp m r).2.2.1) := by
  intro m
  induction m with
  | zero => intro r g μ h0 h1 h2 hg hl h; omega
  | succ m ih =>
    intro r g μ h0 h1 h2 hg hl h
    obtain ⟨g, rfl⟩ : ∃ z, g = z + 1 := ⟨g - 1, by omega⟩
    have hL := h.1.1
    have stop : isPd (cu t L r.2.1) = false → ∃ cs' μ', some ((1 : Int32), μ) = some (nI (bN (pLp t L isPd Fp (m + 1) r).1), μ') ∧ CR t L sp (pLp t L isPd Fp (m + 1) r).2.1 cs' μ' ∧ CF sp μ μ' ∧ cs'.length ≤ (pLp t L isPd Fp (m + 1) r).2.1 ∧ ((pLp t L isPd Fp (m + 1) r).1 = true → cs' = cs0 ++ (pLp t L isPd Fp (m + 1) r).2.2.1) := fun q => by
      rw [pLp, q, if_neg (show ¬ false = true by decide)]
      exact ⟨_, μ, by rw [h0]; rfl, h, CF.rf _ _, by rw [List.length_append]; exact hl, fun _ => rfl⟩
    rw [f_rr_readProduct_b10, h.2.1.2.1, h.2.1.2.2.1]
    by_cases cL : L ≤ r.2.1
    · rw [if_pos ((i_leN (by omega) (by omega)).mpr cL), zb_1, chk_t]
      exact stop (by rw [show cu t L r.2.1 = 256 from if_neg (by omega)]; rfl)
    · rw [if_neg (fun q => cL ((i_leN (by omega) (by omega)).mp q)), h.is (by omega) h1, bd2_s, show isC 5 (cu t L r.2.1) = isPd (cu t L r.2.1) from rfl]
      cases c : isPd (cu t L r.2.1) with
      | false =>
        rw [if_pos (show nI (bN false) = 0 by decide), zb_1, chk_t]
        exact stop c
      | true =>
        have hc := isPd_c _ c
        obtain ⟨p1, p2⟩ := h.pass
        obtain ⟨b1, b2, b3⟩ := hG (r.2.1 + 1) (by omega)
        obtain ⟨cs1, μ1, q1, q2, q3, q4, q5⟩ := hF (r.2.1 + 1) (cs0 ++ r.2.2.1) _ (by omega) (by rw [List.length_append]; omega) p1
        rw [if_neg (show ¬ nI (bN true) = 0 by decide), h.2.1.1, if_pos rfl, h.2.1.2.2.1, bnd_s, inb_n (by omega) (by omega), chk_t, cl_nI (by omega), p1.ch_at (by omega), bnd_s, q1, bd2_s, pLp, c, if_pos rfl]
        by_cases d : (Fp (r.2.1 + 1)).1 = true
        · obtain ⟨r1, r2, r3, _, _⟩ := b3 d
          obtain ⟨s1, s2⟩ := q2.sp3
          have e5 := q5 d
          have hlen : cs1.length = cs0.length + r.2.2.1.length + (Fp (r.2.1 + 1)).2.2.1.length := by rw [e5, List.length_append, List.length_append]
          obtain ⟨μ2, a1, a2, a3⟩ := q2.add (by omega) (2000 + cu t L r.2.1)
          have ej : jn (cu t L r.2.1) r (Fp (r.2.1 + 1)) = (true, (Fp (r.2.1 + 1)).2.1, r.2.2.1 ++ (Fp (r.2.1 + 1)).2.2.1 ++ [2000 + cu t L r.2.1], opR (cu t L r.2.1) r.2.2.2 (Fp (r.2.1 + 1)).2.2.2) := by unfold jn; rw [if_pos d]
          have ecs : cs1 ++ [2000 + cu t L r.2.1] = cs0 ++ (jn (cu t L r.2.1) r (Fp (r.2.1 + 1))).2.2.1 := by rw [ej, e5]; simp only [List.append_assoc]
          rw [d, if_neg (show ¬ nI (bN true) = 0 by decide), if_pos rfl, s1, chk_t, s2, show (2000 : Int32) + nI (cu t L r.2.1) = nI (2000 + cu t L r.2.1) from i_add 2000 _, a1, bd1_s]
          rw [ecs] at a2
          have hx : CR t L sp (jn (cu t L r.2.1) r (Fp (r.2.1 + 1))).2.1 (cs0 ++ (jn (cu t L r.2.1) r (Fp (r.2.1 + 1))).2.2.1) μ2 := by
            rw [show (jn (cu t L r.2.1) r (Fp (r.2.1 + 1))).2.1 = (Fp (r.2.1 + 1)).2.1 by rw [ej]]
            exact a2
          obtain ⟨cs', μ', k1, k2, k3, k4⟩ := ih (jn (cu t L r.2.1) r (Fp (r.2.1 + 1))) g μ2 (by rw [ej]) (by rw [ej]; exact b2) (by rw [ej]; show L < (Fp (r.2.1 + 1)).2.1 + m; omega) (by omega) (by rw [ej]; show cs0.length + (_ ++ _ ++ [2000 + cu t L r.2.1]).length ≤ (Fp (r.2.1 + 1)).2.1; rw [List.length_append, List.length_append, List.length_singleton]; omega) hx
          exact ⟨cs', μ', k1, k2, ((p2.tr q3).tr a3).tr k3, k4⟩
        · have d' : (Fp (r.2.1 + 1)).1 = false := by cases z : (Fp (r.2.1 + 1)).1 with
            | false => rfl
            | true => exact absurd z d
          rw [d', if_pos (show nI (bN false) = 0 by decide), zb_0, chk_t, if_neg (show ¬ false = true by decide)]
          exact ⟨cs1, μ1, rfl, q2, p2.tr q3, q4, fun z => absurd z (by simp [failP])⟩
theorem x_prod {R : Int32 → Mem → Option (Int32 × Mem)} {Fp : Nat → PR} {dep : Nat} (hF : CSp t L sp (f_rr_readSigned R (nI dep)) Fp) (hG : Gd L lv Fp) : CSp t L sp (f_rr_readProduct R (nI dep)) (pCh t L isPd Fp) := by
  intro k cs μ hk hcs h
  have hL := h.1.1
  obtain ⟨b1, b2, b3⟩ := hG k hk
  obtain ⟨cs1, μ1, q1, q2, q3, q4, q5⟩ := hF k cs μ hk hcs h
  unfold f_rr_readProduct pCh
  rw [q1, bd2_s]
  by_cases d : (Fp k).1 = true
  · obtain ⟨r1, r2, r3, _, _⟩ := b3 d
    have e5 := q5 d
    rw [e5] at q2
    rw [d, if_neg (show ¬ nI (bN true) = 0 by decide), if_pos rfl]
    obtain ⟨cs', μ', k1, k2, k3, k4⟩ := x_prod_lp hF hG (cs0 := cs) 41 (Fp k) FU μ1 d b2 (by omega) (by unfold FU; omega) (by omega) q2
    exact ⟨cs', μ', k1, k2, q3.tr k3, k4⟩
  · have d' : (Fp k).1 = false := by cases z : (Fp k).1 with
      | false => rfl
      | true => exact absurd z d
    rw [d', if_pos (show nI (bN false) = 0 by decide), zb_0, chk_t, if_neg (show ¬ false = true by decide)]
    exact ⟨cs1, μ1, rfl, q2, q3, q4, fun z => absurd z (by simp [failP])⟩
theorem x_sum_lp {R : Int32 → Mem → Option (Int32 × Mem)} {Fp : Nat → PR} {dep : Nat} (hF : CSp t L sp (f_rr_readProduct R (nI dep)) Fp) (hG : Gd L lv Fp) {cs0 : List Nat} : ∀ m r g (μ : Mem), r.1 = true → r.2.1 ≤ L → L < r.2.1 + m → m < g → cs0.length + r.2.2.1.length ≤ r.2.1 → CR t L sp r.2.1 (cs0 ++ r.2.2.1) μ → ∃ cs' μ', f_rr_readSum_b10 R g (nI dep) μ = some (nI (bN (pLp t L isSm Fp m r).1), μ') ∧ CR t L sp (pLp t L isSm Fp m r).2.1 cs' μ' ∧ CF sp μ μ' ∧ cs'.length ≤ (pLp t L isSm Fp m r).2.1 ∧ ((pLp t L isSm Fp m r).1 = true → cs' = cs0 ++ (pLp t L isSm Fp m r).2.2.1) := by
  intro m
  induction m with
  | zero => intro r g μ h0 h1 h2 hg hl h; omega
  | succ m ih =>
    intro r g μ h0 h1 h2 hg hl h
    obtain ⟨g, rfl⟩ : ∃ z, g = z + 1 := ⟨g - 1, by omega⟩
    have hL := h.1.1
    have stop : isSm (cu t L r.2.1) = false → ∃ cs' μ', some ((1 : Int32), μ) = some (nI (bN (pLp t L isSm Fp (m + 1) r).1), μ') ∧ CR t L sp (pLp t L isSm Fp (m + 1) r).2.1 cs' μ' ∧ CF sp μ μ' ∧ cs'.length ≤ (pLp t L isSm Fp (m + 1) r).2.1 ∧ ((pLp t L isSm Fp (m + 1) r).1 = true → cs' = cs0 ++ (pLp t L isSm Fp (m + 1) r).2.2.1) := fun q => by
      rw [pLp, q, if_neg (show ¬ false = true by decide)]
      exact ⟨_, μ, by rw [h0]; rfl, h, CF.rf _ _, by rw [List.length_append]; exact hl, fun _ => rfl⟩
    rw [f_rr_readSum_b10, h.2.1.2.1, h.2.1.2.2.1]
    by_cases cL : L ≤ r.2.1
    · rw [if_pos ((i_leN (by omega) (by omega)).mpr cL), zb_1, chk_t]
      exact stop (by rw [show cu t L r.2.1 = 256 from if_neg (by omega)]; rfl)
    · rw [if_neg (fun q => cL ((i_leN (by omega) (by omega)).mp q)), h.is (by omega) h1, bd2_s, show isC 6 (cu t L r.2.1) = isSm (cu t L r.2.1) from rfl]
      cases c : isSm (cu t L r.2.1) with
      | false =>
        rw [if_pos (show nI (bN false) = 0 by decide), zb_1, chk_t]
        exact stop c
      | true =>
        have hc := isSm_c _ c
        obtain ⟨p1, p2⟩ := h.pass
        obtain ⟨b1, b2, b3⟩ := hG (r.2.1 + 1) (by omega)
        obtain ⟨cs1, μ1, q1, q2, q3, q4, q5⟩ := hF (r.2.1 + 1) (cs0 ++ r.2.2.1) _ (by omega) (by rw [List.length_append]; omega) p1
        rw [if_neg (show ¬ nI (bN true) = 0 by decide), h.2.1.1, if_pos rfl, h.2.1.2.2.1, bnd_s, inb_n (by omega) (by omega), chk_t, cl_nI (by omega), p1.ch_at (by omega), bnd_s, q1, bd2_s, pLp, c, if_pos rfl]
        by_cases d : (Fp (r.2.1 + 1)).1 = true
        · obtain ⟨r1, r2, r3, _, _⟩ := b3 d
          obtain ⟨s1, s2⟩ := q2.sp3
          have e5 := q5 d
          have hlen : cs1.length = cs0.length + r.2.2.1.length + (Fp (r.2.1 + 1)).2.2.1.length := by rw [e5, List.length_append, List.length_append]
          obtain ⟨μ2, a1, a2, a3⟩ := q2.add (by omega) (2000 + cu t L r.2.1)
          have ej : jn (cu t L r.2.1) r (Fp (r.2.1 + 1)) = (true, (Fp (r.2.1 + 1)).2.1, r.2.2.1 ++ (Fp (r.2.1 + 1)).2.2.1 ++ [2000 + cu t L r.2.1], opR (cu t L r.2.1) r.2.2.2 (Fp (r.2.1 + 1)).2.2.2) := by unfold jn; rw [if_pos d]
          have ecs : cs1 ++ [2000 + cu t L r.2.1] = cs0 ++ (jn (cu t L r.2.1) r (Fp (r.2.1 + 1))).2.2.1 := by rw [ej, e5]; simp only [List.append_assoc]
          rw [d, if_neg (show ¬ nI (bN true) = 0 by decide), if_pos rfl, s1, chk_t, s2, show (2000 : Int32) + nI (cu t L r.2.1) = nI (2000 + cu t L r.2.1) from i_add 2000 _, a1, bd1_s]
          rw [ecs] at a2
          have hx : CR t L sp (jn (cu t L r.2.1) r (Fp (r.2.1 + 1))).2.1 (cs0 ++ (jn (cu t L r.2.1) r (Fp (r.2.1 + 1))).2.2.1) μ2 := by
            rw [show (jn (cu t L r.2.1) r (Fp (r.2.1 + 1))).2.1 = (Fp (r.2.1 + 1)).2.1 by rw [ej]]
            exact a2
          obtain ⟨cs', μ', k1, k2, k3, k4⟩ := ih (jn (cu t L r.2.1) r (Fp (r.2.1 + 1))) g μ2 (by rw [ej]) (by rw [ej]; exact b2) (by rw [ej]; show L < (Fp (r.2.1 + 1)).2.1 + m; omega) (by omega) (by rw [ej]; show cs0.length + (_ ++ _ ++ [2000 + cu t L r.2.1]).length ≤ (Fp (r.2.1 + 1)).2.1; rw [List.length_append, List.length_append, List.length_singleton]; omega) hx
          exact ⟨cs', μ', k1, k2, ((p2.tr q3).tr a3).tr k3, k4⟩
        · have d' : (Fp (r.2.1 + 1)).1 = false := by cases z : (Fp (r.2.1 + 1)).1 with
            | false => rfl
            | true => exact absurd z d
          rw [d', if_pos (show nI (bN false) = 0 by decide), zb_0, chk_t, if_neg (show ¬ false = true by decide)]
          exact ⟨cs1, μ1, rfl, q2, p2.tr q3, q4, fun z => absurd z (by simp [failP])⟩
theorem x_sum {R : Int32 → Mem → Option (Int32 × Mem)} {Fp : Nat → PR} {dep : Nat} (hF : CSp t L sp (f_rr_readProduct R (nI dep)) Fp) (hG : Gd L lv Fp) : CSp t L sp (f_rr_readSum R (nI dep)) (pCh t L isSm Fp) := by
  intro k cs μ hk hcs h
  have hL := h.1.1
  obtain ⟨b1, b2, b3⟩ := hG k hk
  obtain ⟨cs1, μ1, q1, q2, q3, q4, q5⟩ := hF k cs μ hk hcs h
  unfold f_rr_readSum pCh
  rw [q1, bd2_s]
  by_cases d : (Fp k).1 = true
  · obtain ⟨r1, r2, r3, _, _⟩ := b3 d
    have e5 := q5 d
    rw [e5] at q2
    rw [d, if_neg (show ¬ nI (bN true) = 0 by decide), if_pos rfl]
    obtain ⟨cs', μ', k1, k2, k3, k4⟩ := x_sum_lp hF hG (cs0 := cs) 41 (Fp k) FU μ1 d b2 (by omega) (by unfold FU; omega) (by omega) q2
    exact ⟨cs', μ', k1, k2, q3.tr k3, k4⟩
  · have d' : (Fp k).1 = false := by cases z : (Fp k).1 with
      | false => rfl
      | true => exact absurd z d
    rw [d', if_pos (show nI (bN false) = 0 by decide), zb_0, chk_t, if_neg (show ¬ false = true by decide)]
    exact ⟨cs1, μ1, rfl, q2, q3, q4, fun z => absurd z (by simp [failP])⟩
theorem x_ex {R : Int32 → Mem → Option (Int32 × Mem)} {Rp : Nat → PR} {dep : Nat} (hR : CSp t L sp (R (nI dep)) Rp) (hG : Gd L lv Rp) : CSp t L sp (f_rr_readExpression R (nI dep)) (pEx t L Rp) := by
  intro k cs μ hk hcs h
  have hL := h.1.1
  have hF : CSp t L sp (f_rr_readSum R (nI dep)) (pSm t L Rp) := x_sum (x_prod (x_sg hR hG) (pSg_gd hG)) (pPd_gd hG)
  have hGs := pSm_gd (t := t) hG
  obtain ⟨b1, b2, b3⟩ := hGs k hk
  obtain ⟨cs1, μ1, q1, q2, q3, q4, q5⟩ := hF k cs μ hk hcs h
  unfold f_rr_readExpression pEx
  rw [q1, bd2_s]
  by_cases d : (pSm t L Rp k).1 = true
  · obtain ⟨r1, r2, r3, _, _⟩ := b3 d
    have e5 := q5 d
    rw [d, if_neg (show ¬ nI (bN true) = 0 by decide), if_pos rfl, q2.is (by omega) b2, bd2_s, show isC 7 (cu t L (pSm t L Rp k).2.1) = isEx (cu t L (pSm t L Rp k).2.1) from rfl]
    cases c : isEx (cu t L (pSm t L Rp k).2.1) with
    | false =>
      rw [if_pos (show nI (bN false) = 0 by decide), zb_1, chk_t, if_neg (show ¬ false = true by decide)]
      exact ⟨cs1, μ1, by rw [d]; rfl, q2, q3, q4, fun _ => e5⟩
    | true =>
      have hc := isEx_c _ c
      have hkL := cu_L (t := t) (L := L) (k := (pSm t L Rp k).2.1) (by omega)
      obtain ⟨p1, p2⟩ := q2.pass
      obtain ⟨c1, c2, c3⟩ := hGs ((pSm t L Rp k).2.1 + 1) (by omega)
      obtain ⟨cs2, μ2, u1, u2, u3, u4, u5⟩ := hF ((pSm t L Rp k).2.1 + 1) cs1 _ (by omega) (by omega) p1
      rw [if_neg (show ¬ nI (bN true) = 0 by decide), if_pos rfl, q2.2.1.1, if_pos rfl, q2.2.1.2.2.1, bnd_s, inb_n (by omega) (by omega), chk_t, cl_nI (by omega), p1.ch_at hkL, bnd_s, u1, bd2_s]
      unfold jn
      by_cases e : (pSm t L Rp ((pSm t L Rp k).2.1 + 1)).1 = true
      · obtain ⟨w1, w2, w3, _, _⟩ := c3 e
        obtain ⟨s1, s2⟩ := u2.sp3
        have e6 := u5 e
        have hlen : cs2.length = cs.length + (pSm t L Rp k).2.2.1.length + (pSm t L Rp ((pSm t L Rp k).2.1 + 1)).2.2.1.length := by rw [e6, e5, List.length_append, List.length_append]
        obtain ⟨μ3, a1, a2, a3⟩ := u2.add (by omega) (2000 + cu t L (pSm t L Rp k).2.1)
        rw [e, if_neg (show ¬ nI (bN true) = 0 by decide), if_pos rfl, s1, chk_t, s2, show (2000 : Int32) + nI (cu t L (pSm t L Rp k).2.1) = nI (2000 + cu t L (pSm t L Rp k).2.1) from i_add 2000 _, a1, bd1_s, zb_1, chk_t]
        refine ⟨_, μ3, rfl, a2, ((q3.tr p2).tr u3).tr a3, ?_, fun _ => ?_⟩
        · rw [List.length_append, List.length_singleton]; show cs2.length + 1 ≤ (pSm t L Rp ((pSm t L Rp k).2.1 + 1)).2.1; omega
        · rw [e6, e5]; simp only [List.append_assoc]
      · have d' : (pSm t L Rp ((pSm t L Rp k).2.1 + 1)).1 = false := by cases z : (pSm t L Rp ((pSm t L Rp k).2.1 + 1)).1 with
          | false => rfl
          | true => exact absurd z e
        rw [d', if_pos (show nI (bN false) = 0 by decide), zb_0, chk_t, if_neg (show ¬ false = true by decide)]
        exact ⟨cs2, μ2, rfl, u2, (q3.tr p2).tr u3, u4, fun z => absurd z (by simp [failP])⟩
  · have d' : (pSm t L Rp k).1 = false := by cases z : (pSm t L Rp k).1 with
      | false => rfl
      | true => exact absurd z d
    rw [d', if_pos (show nI (bN false) = 0 by decide), zb_0, chk_t, if_neg (show ¬ false = true by decide)]
    exact ⟨cs1, μ1, rfl, q2, q3, q4, fun z => absurd z (by simp [failP])⟩
theorem x_th : ∀ n dep, n + dep = 6 → 1 ≤ n → CSp t L sp (f_rr_readThing n (nI dep)) (pTh t L lv n dep) := by
  intro n
  induction n with
  | zero => intro dep _ h1; omega
  | succ n ih =>
    intro dep hn _ k cs μ hk hcs h
    have hL := h.1.1
    rw [f_rr_readThing, f_rr_readThing_body, h.is (by omega) hk, bd2_s, show isC 1 (cu t L k) = (ltI (cu t L k)).isSome from rfl]
    cases e : ltI (cu t L k) with
    | some i =>
      obtain ⟨i1, i2⟩ := ltI_lt e
      have hkL := cu_L (t := t) (L := L) (k := k) (by omega)
      obtain ⟨p1, p2⟩ := h.pass
      obtain ⟨s1, s2⟩ := h.sp3
      have hc := cu_lt h.1.2.2 hkL
      obtain ⟨μ2, a1, a2, a3⟩ := p1.add (by omega) (1000 + i)
      rw [pTh, e, show (some i).isSome = true from rfl, if_neg (show ¬ nI (bN true) = 0 by decide), s1, chk_t, h.2.1.1, if_pos rfl, h.2.1.2.2.1, bnd_s, inb_n (by omega) (by omega), chk_t, cl_nI (by omega), p1.ch_at hkL, ch_n hc, ch_16 hc, chk_t, sIdx_l _ hc, e, bnd_s, s2, show (1000 : Int32) + oI (some i) = nI (1000 + i) from i_add 1000 i, a1, bd1_s, zb_1, chk_t]
      exact ⟨_, μ2, rfl, a2, p2.tr a3, by rw [List.length_append, List.length_singleton]; show cs.length + 1 ≤ k + 1; omega, fun _ => rfl⟩
    | none =>
      rw [show (none : Option Nat).isSome = false from rfl, if_pos (show nI (bN false) = 0 by decide), h.is (by omega) hk, bd2_s, show isC 4 (cu t L k) = decide (48 ≤ cu t L k ∧ cu t L k ≤ 57) from rfl]
      by_cases cd : 48 ≤ cu t L k ∧ cu t L k ≤ 57
      · have hkL := cu_L (t := t) (L := L) (k := k) (by omega)
        have hp : k < (pNumL t L 3 k 0).1 := by
          rw [pNumL, if_pos cd]
          have := (pNumL_p (t := t) (L := L) 2 (k + 1) (0 * 10 + cu t L k - 48) (by omega) (by have : (10 : Nat) ^ (3 - 2) = 10 := rfl; omega) (by omega)).1
          omega
        have hP : pTh t L lv (n + 1) dep k = (true, (pNumL t L 3 k 0).1, [(pNumL t L 3 k 0).2], nI (pNumL t L 3 k 0).2) := by
          rw [pTh, e]
          show (if cu t L k = 40 then _ else pNum t L k) = _
          rw [if_neg (show ¬ cu t L k = 40 by omega)]
          unfold pNum
          rw [if_neg (show ¬ (pNumL t L 3 k 0).1 = k by omega)]
        obtain ⟨s1, s2⟩ := h.sp3
        obtain ⟨μ1, q1, q2, q3⟩ := x_num hk h
        obtain ⟨μ2, a1, a2, a3⟩ := q1.add (by omega) (pNumL t L 3 k 0).2
        rw [hP, decide_eq_true cd, if_neg (show ¬ nI (bN true) = 0 by decide), s1, chk_t, q3, bd2_s, s2, a1, bd1_s, zb_1, chk_t]
        exact ⟨_, μ2, rfl, a2, q2.tr a3, by rw [List.length_append, List.length_singleton]; show cs.length + 1 ≤ (pNumL t L 3 k 0).1; omega, fun _ => rfl⟩
      · rw [decide_eq_false cd, if_pos (show nI (bN false) = 0 by decide), h.is (by omega) hk, bd2_s, show isC 2 (cu t L k) = decide (cu t L k = 40) from rfl]
        by_cases c : cu t L k = 40
        · rw [pTh, e]
          show ∃ cs' μ', _ = some (nI (bN (if cu t L k = 40 then _ else _ : PR).1), μ') ∧ _
          rw [decide_eq_true c, if_neg (show ¬ nI (bN true) = 0 by decide), if_pos c]
          have hkL := cu_L (t := t) (L := L) (k := k) (by omega)
          by_cases d : dep < 4
          · rw [l_4, if_pos ((i_ltN (by omega) (by omega)).mpr d), if_pos d]
            obtain ⟨p1, p2⟩ := h.pass
            have hF := x_ex (ih (dep + 1) (by omega) (by omega)) (pTh_gd (lv := lv) n (dep + 1))
            obtain ⟨b1, b2, b3⟩ := pEx_gd (t := t) (pTh_gd (t := t) (L := L) (lv := lv) n (dep + 1)) (k + 1) (by omega)
            obtain ⟨cs1, μ1, q1, q2, q3, q4, q5⟩ := hF (k + 1) cs _ (by omega) (by omega) p1
            unfold nst
            rw [h.2.1.2.2.1, bnd_s, show nI dep + 1 = nI (dep + 1) from i_add dep 1, q1, bd2_s]
            by_cases f : (pEx t L (pTh t L lv n (dep + 1)) (k + 1)).1 = true
            · rw [f, if_neg (show ¬ nI (bN true) = 0 by decide), if_pos rfl, q2.is (by omega) b2, bd2_s, show isC 3 (cu t L (pEx t L (pTh t L lv n (dep + 1)) (k + 1)).2.1) = decide (cu t L (pEx t L (pTh t L lv n (dep + 1)) (k + 1)).2.1 = 41) from rfl]
              by_cases g : cu t L (pEx t L (pTh t L lv n (dep + 1)) (k + 1)).2.1 = 41
              · obtain ⟨u1, u2⟩ := q2.pass
                rw [decide_eq_true g, if_neg (show ¬ nI (bN true) = 0 by decide), if_pos g, q2.2.1.2.2.1, bnd_s, zb_1, chk_t]
                exact ⟨cs1, _, rfl, u1, (p2.tr q3).tr u2, Nat.le_succ_of_le q4, fun _ => q5 f⟩
              · rw [decide_eq_false g, if_pos (show nI (bN false) = 0 by decide), if_neg g, zb_0, chk_t]
                exact ⟨cs1, μ1, rfl, q2, p2.tr q3, q4, fun z => absurd z (by simp [failP])⟩
            · have d' : (pEx t L (pTh t L lv n (dep + 1)) (k + 1)).1 = false := by cases z : (pEx t L (pTh t L lv n (dep + 1)) (k + 1)).1 with
                | false => rfl
                | true => exact absurd z f
              rw [d', if_pos (show nI (bN false) = 0 by decide), if_neg (show ¬ false = true by decide), zb_0, chk_t]
              exact ⟨cs1, μ1, rfl, q2, p2.tr q3, q4, fun z => absurd z (by simp [failP])⟩
          · rw [l_4, if_neg (fun q => d ((i_ltN (by omega) (by omega)).mp q)), if_neg d, zb_0, chk_t]
            exact ⟨cs, μ, rfl, h, CF.rf _ _, hcs, fun z => absurd z (by simp [failP])⟩
        · have hP : pTh t L lv (n + 1) dep k = failP k := by
            rw [pTh, e]
            show (if cu t L k = 40 then _ else pNum t L k) = _
            rw [if_neg c]
            unfold pNum
            rw [if_pos (show (pNumL t L 3 k 0).1 = k by rw [pNumL, if_neg cd])]
          rw [hP, decide_eq_false c, if_pos (show nI (bN false) = 0 by decide), zb_0, chk_t]
          exact ⟨cs, μ, rfl, h, CF.rf _ _, hcs, fun z => absurd z (by simp [failP])⟩
end RD
