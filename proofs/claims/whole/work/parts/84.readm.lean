/-! The reference reads a RULE. -/
/-- a sign as the reference sees it: bytes with their sign, none is -1 -/
def hb (c : Nat) : Int32 := if c = 256 then -1 else (nI c).toInt8.toInt32
theorem hb_all : ∀ c, c < 257 → (c < 128 ∧ hb c = nI c) ∨ (128 ≤ c ∧ hb c < 0) := by decide +kernel
theorem hb_eq {c x : Nat} (hc : c < 257) (hx : x < 128) : hb c = nI x ↔ c = x := by
  rcases hb_all c hc with ⟨h1, h2⟩ | ⟨h1, h2⟩
  · rw [h2, i_eqN (by omega) (by omega)]
  · constructor
    · intro q
      rw [q] at h2
      exact absurd h2 (i_nlt0 (by omega))
    · intro q; omega
theorem hb_in {c : Nat} (hc : c < 257) : ((48 : Int32) ≤ hb c ∧ hb c ≤ 57) ↔ (48 ≤ c ∧ c ≤ 57) := by
  rcases hb_all c hc with ⟨h1, h2⟩ | ⟨h1, h2⟩
  · rw [h2, show (48 : Int32) = nI 48 from rfl, show (57 : Int32) = nI 57 from rfl, i_leN (by omega) (by omega), i_leN (by omega) (by omega)]
  · constructor
    · intro q
      have := q.1
      rw [i_le] at this
      rw [i_lt] at h2
      have e1 : (48 : Int32).toInt = 48 := rfl
      have e2 : (0 : Int32).toInt = 0 := rfl
      omega
    · intro q; omega
section RM
variable {t : List Nat} {L : Nat} {lv : Nat → Int32} {μb μ : Mem}
/-- where the reference reads from -/
def RE (t : List Nat) (L : Nat) (μ : Mem) : Prop := (L ≤ 40 ∧ ∀ j, t.getD j 0 < 256) ∧ (∃ sz, sz ≤ 80 ∧ μ.1 v_m_size 0 = nI sz ∧ L = min sz 40) ∧ μ.1 v_m_top 0 = nI 40 ∧ ((μ.1 v_m_read 0 = 1 ∧ ∀ j, j < L → μ.1 v_m_text j = hb (t.getD j 0)) ∨ (μ.1 v_m_read 0 = 2 ∧ ∀ j, j < L → μ.1 v_m_rules0 j = hb (t.getD j 0)) ∨ (μ.1 v_m_read 0 = 3 ∧ ∀ j, j < L → μ.1 v_m_rules1 j = hb (t.getD j 0)))
def RF (μ μ' : Mem) : Prop := (∀ v, v ≠ 147 → v ≠ 148 → μ'.1 v = μ.1 v) ∧ μ'.2 = μ.2
theorem RF.rf (μ : Mem) : RF μ μ := ⟨fun _ _ _ => rfl, rfl⟩
theorem RF.tr {a b c : Mem} (h : RF a b) (k : RF b c) : RF a c := ⟨fun v h1 h2 => (k.1 v h1 h2).trans (h.1 v h1 h2), k.2.trans h.2⟩
theorem RF.at_ (μ : Mem) (x : Int32) : RF μ (setI μ v_m_at 0 x) := ⟨fun v h1 _ => sI_v _ _ _ h1, rfl⟩
theorem RF.wr_ (μ : Mem) (x : Int32) : RF μ (setI μ v_m_wrong 0 x) := ⟨fun v _ h2 => sI_v _ _ _ h2, rfl⟩
theorem RE.fr {μ' : Mem} (h : RE t L μ) (hf : RF μ μ') : RE t L μ' := by
  obtain ⟨h1, ⟨sz, h2, h3, h4⟩, h5, h6⟩ := h
  have e : ∀ v, v ≠ 147 → v ≠ 148 → μ'.1 v = μ.1 v := hf.1
  refine ⟨h1, ⟨sz, h2, by rw [e _ (by decide) (by decide)]; exact h3, h4⟩, by rw [e _ (by decide) (by decide)]; exact h5, ?_⟩
  rw [e _ (by decide) (by decide), e _ (by decide) (by decide), e _ (by decide) (by decide), e _ (by decide) (by decide)]
  exact h6
/-- the letters say lv -/
def LVs (lv : Nat → Int32) (μb : Mem) : Prop := ∀ c i (μ : Mem), ltI c = some i → RF μb μ → (if (μ.1 v_m_askedOne 0) = (-1 : Int32) then (some ((0 : Int32), μ)) else (bd2 (f_m_letter (nI c) μ) fun v m => some (v, m))) = some (lv i, μ)
def MSt (k : Nat) (μ : Mem) : Prop := μ.1 v_m_at 0 = nI k ∧ μ.1 v_m_wrong 0 = -1
theorem cu_256 (h : ∀ j, t.getD j 0 < 256) (k : Nat) : cu t L k < 257 := by
  unfold cu
  have := h k
  split <;> omega
theorem m_here (h : RE t L μ) {k : Nat} (hk : k ≤ L) (ha : μ.1 v_m_at 0 = nI k) : f_m_here μ = some (hb (cu t L k), μ) := by
  obtain ⟨⟨h1, h1'⟩, ⟨sz, h2, h3, h4⟩, h5, h6⟩ := h
  unfold f_m_here
  rw [ha, h3, h5]
  by_cases c : k < L
  · have hcu : cu t L k = t.getD k 0 := if_pos c
    rw [if_neg (fun q => absurd ((i_leN (by omega) (by omega)).mp q) (by omega)), if_neg (fun q => absurd ((i_leN (by omega) (by omega)).mp q) (by omega)), hcu]
    rcases h6 with ⟨g1, g2⟩ | ⟨g1, g2⟩ | ⟨g1, g2⟩
    · rw [g1, if_pos rfl, inb_n (by omega) (by omega), chk_t, cl_nI (by omega), g2 k c]
    · rw [g1, if_neg (by decide), if_pos rfl, inb_n (by omega) (by omega), chk_t, cl_nI (by omega), g2 k c]
    · rw [g1, if_neg (by decide), if_neg (by decide), if_pos rfl, inb_n (by omega) (by omega), chk_t, cl_nI (by omega), g2 k c]
  · have hcu : cu t L k = 256 := if_neg c
    rw [hcu, show hb 256 = -1 from rfl]
    by_cases d : sz ≤ k
    · rw [if_pos ((i_leN (by omega) (by omega)).mpr d)]
    · rw [if_neg (fun q => d ((i_leN (by omega) (by omega)).mp q)), if_pos ((i_leN (by omega) (by omega)).mpr (by omega))]
theorem m_fine1 (h : μ.1 v_m_wrong 0 = -1) : f_m_fine μ = some (1, μ) := by
  unfold f_m_fine
  rw [h, if_pos rfl, bnd_s, zb_1, chk_t]
theorem m_fine0 {w : Nat} (hw : w < 2 ^ 31) (h : μ.1 v_m_wrong 0 = nI w) : f_m_fine μ = some (0, μ) := by
  unfold f_m_fine
  rw [h, if_neg (nI_ne_m1 hw), bnd_s, zb_0, chk_t]
theorem m_fault1 (h : μ.1 v_m_wrong 0 = -1) (x : Int32) : f_m_fault x μ = some (setI μ v_m_wrong 0 x) := by
  unfold f_m_fault
  rw [m_fine1 h, bd2_s, if_neg (by decide), bnd_s]
theorem m_fault0 {w : Nat} (hw : w < 2 ^ 31) (h : μ.1 v_m_wrong 0 = nI w) (x : Int32) : f_m_fault x μ = some μ := by
  unfold f_m_fault
  rw [m_fine0 hw h, bd2_s, if_pos rfl]
theorem m_passN {w : Nat} (hw : w < 2 ^ 31) (h : μ.1 v_m_wrong 0 = nI w) (x : Int32) : f_m_passes x μ = some (0, μ) := by
  unfold f_m_passes
  rw [m_fine0 hw h, bd2_s, if_pos rfl, zb_0, chk_t]
theorem MSt.pass {k : Nat} (h : MSt k μ) : MSt (k + 1) (setI μ v_m_at 0 (nI k + 1)) := ⟨by rw [sI_eq]; exact i_add k 1, by rw [sI_v _ _ _ (by decide)]; exact h.2⟩
theorem m_pass (h : RE t L μ) {k c : Nat} (hk : k ≤ L) (hs : MSt k μ) (hc : c < 128) : f_m_passes (nI c) μ = some (nI (bN (decide (cu t L k = c))), if cu t L k = c then setI μ v_m_at 0 (nI k + 1) else μ) := by
  have h256 := cu_256 (L := L) h.1.2 k
  unfold f_m_passes
  rw [m_fine1 hs.2, bd2_s, if_neg (by decide), m_here h hk hs.1, bd2_s]
  by_cases d : cu t L k = c
  · rw [if_pos ((hb_eq h256 hc).mpr d), hs.1, bnd_s, zb_1, chk_t, decide_eq_true d, if_pos d]
    rfl
  · rw [if_neg (fun q => d ((hb_eq h256 hc).mp q)), zb_0, chk_t, decide_eq_false d, if_neg d]
    rfl
/-- what a reading method of the reference owes, from k0 on -/
def MSp (μb : Mem) (L k0 : Nat) (F : Mem → Option (Int32 × Mem)) (P : Nat → PR) : Prop := ∀ k (μ : Mem), k0 ≤ k → k ≤ L → RF μb μ → MSt k μ → ∃ v μ', F μ = some (v, μ') ∧ RF μb μ' ∧ ((P k).1 = true → MSt (P k).2.1 μ' ∧ v = (P k).2.2.2) ∧ ((P k).1 = false → μ'.1 v_m_wrong 0 = nI (P k).2.1)
theorem m_num_lp (h : RE t L μb) {k1 : Nat} : ∀ m k d v g (μ : Mem), m + d = 3 → k = k1 + d → m < g → k ≤ L → v < 10 ^ d → RF μb μ → MSt k μ → ∃ μ', f_m_number_b18 g (nI 3) (nI 0) (nI 999) (nI k1) (nI v) μ = f_m_number_b71 (nI 0) (nI 999) (nI k1) (nI (pNumL t L m k v).2) μ' ∧ RF μb μ' ∧ MSt (pNumL t L m k v).1 μ' := by
  intro m
  induction m with
  | zero =>
    intro k d v g μ hd hk1 hg hk hv hf hs
    obtain ⟨g, rfl⟩ : ∃ z, g = z + 1 := ⟨g - 1, by omega⟩
    have hL := h.1.1
    refine ⟨μ, ?_, hf, hs⟩
    rw [f_m_number_b18, hs.1, i_add, if_pos ((i_leN (by omega) (by omega)).mpr (by omega))]
    rfl
  | succ m ih =>
    intro k d v g μ hd hk1 hg hk hv hf hs
    obtain ⟨g, rfl⟩ : ∃ z, g = z + 1 := ⟨g - 1, by omega⟩
    have hL := h.1.1
    have hE := h.fr hf
    have h256 := cu_256 (L := L) h.1.2 k
    have hv3 : 10 ^ d ≤ 100 := by
      have : 10 ^ d ≤ 10 ^ 2 := Nat.pow_le_pow_right (by omega) (by omega)
      exact this
    rw [f_m_number_b18, hs.1, i_add, if_neg (fun q => absurd ((i_leN (by omega) (by omega)).mp q) (by omega)), m_here hE hk hs.1, bd2_s, m_in, bd2_s, pNumL]
    by_cases c : 48 ≤ cu t L k ∧ cu t L k ≤ 57
    · have hkL := cu_L (t := t) (L := L) (k := k) (by omega)
      have e1 : hb (cu t L k) = nI (cu t L k) := (hb_eq h256 (by omega)).mpr rfl
      obtain ⟨μ', q1, q2, q3⟩ := ih (k + 1) (d + 1) (v * 10 + cu t L k - 48) g _ (by omega) (by omega) (by omega) (by omega) (by rw [Nat.pow_succ]; omega) (hf.tr (RF.at_ μ (nI k + 1))) hs.pass
      rw [if_pos ((hb_in h256).mpr c), if_neg (by decide), m_here hE hk hs.1, bd2_s, e1, show (10 : Int32) * nI v + nI (cu t L k) - (48 : Int32) = nI (v * 10 + cu t L k - 48) by rw [l_10, l_48, i_mul, i_add, i_sub (by omega), Nat.mul_comm], bnd_s, hs.1, bnd_s, if_pos c]
      exact ⟨μ', q1, q2, q3⟩
    · rw [if_neg (fun q => c ((hb_in h256).mp q)), if_pos rfl, if_neg c]
      exact ⟨μ, rfl, hf, hs⟩
theorem m_num (h : RE t L μb) {k : Nat} (hk : k ≤ L) (hf : RF μb μ) (hs : MSt k μ) (hd : 48 ≤ cu t L k ∧ cu t L k ≤ 57) : ∃ μ', f_m_number 3 0 999 μ = some (nI (pNumL t L 3 k 0).2, μ') ∧ RF μb μ' ∧ MSt (pNumL t L 3 k 0).1 μ' ∧ k < (pNumL t L 3 k 0).1 := by
  have hL := h.1.1
  have hp := pNumL_p (t := t) (L := L) 3 k 0 hk (by decide) (by omega)
  obtain ⟨μ1, q1, q2, q3⟩ := m_num_lp h (k1 := k) 3 k 0 0 FU μ rfl rfl (by unfold FU; omega) hk (by decide) hf hs
  have hlt : k < (pNumL t L 3 k 0).1 := by
    have hkL := cu_L (t := t) (L := L) (k := k) (by omega)
    have h2 := (pNumL_p (t := t) (L := L) 2 (k + 1) (0 * 10 + cu t L k - 48) (by omega) (by show _ < 10; omega) (by omega)).1
    have e : pNumL t L 3 k 0 = pNumL t L 2 (k + 1) (0 * 10 + cu t L k - 48) := by rw [pNumL, if_pos hd]
    rw [e]; omega
  refine ⟨μ1, ?_, q2, q3, hlt⟩
  unfold f_m_number
  rw [m_fine1 hs.2, bd2_s, if_neg (by decide), hs.1, show f_m_number_b18 FU 3 0 999 (nI k) 0 μ = _ from q1]
  unfold f_m_number_b71 f_m_number_b111
  rw [q3.1, if_neg (fun q => by have := nI_inj (by omega) (by omega) q; omega), m_in, if_pos ⟨(i_leN (by omega) (by omega)).mpr (by omega), (i_leN (by omega) (by omega)).mpr (by omega)⟩, bd2_s, if_neg (by decide), m_fine1 q3.2, bd2_s, if_neg (by decide), bnd_s]
theorem mnC_fuel : ∀ m k, L < k + m → mnC t L (m + 1) k = mnC t L m k
  | 0, k, h => by
    rw [mnC, mnC, if_neg]
    rw [show cu t L k = 256 from if_neg (by omega)]
    decide
  | m + 1, k, h => by
    show (if cu t L k = 45 then mnC t L (m + 1) (k + 1) + 1 else 0) = (if cu t L k = 45 then mnC t L m (k + 1) + 1 else 0)
    by_cases c : cu t L k = 45
    · rw [if_pos c, if_pos c, mnC_fuel m (k + 1) (by omega)]
    · rw [if_neg c, if_neg c]
theorem pSg_neg {R : Nat → PR} {k : Nat} (hL : L ≤ 40) (hc : cu t L k = 45) : (pSg t L R k).1 = (pSg t L R (k + 1)).1 ∧ (pSg t L R k).2.1 = (pSg t L R (k + 1)).2.1 ∧ ((pSg t L R k).1 = true → (pSg t L R k).2.2.2 = -(pSg t L R (k + 1)).2.2.2) := by
  have e : mnC t L 41 k = mnC t L 41 (k + 1) + 1 := by
    rw [mnC, if_pos hc, mnC_fuel 40 (k + 1) (by omega)]
  unfold pSg
  rw [e, show k + (mnC t L 41 (k + 1) + 1) = k + 1 + mnC t L 41 (k + 1) by omega]
  unfold sgn
  by_cases d : (R (k + 1 + mnC t L 41 (k + 1))).1 = true
  · rw [if_pos d, if_pos d]
    refine ⟨rfl, rfl, fun _ => ?_⟩
    show (if (mnC t L 41 (k + 1) + 1) % 2 = 1 then -_ else _) = -(if mnC t L 41 (k + 1) % 2 = 1 then -_ else _)
    by_cases f : mnC t L 41 (k + 1) % 2 = 1
    · rw [if_neg (by omega), if_pos f, Int32.neg_neg]
    · rw [if_pos (by omega), if_neg f]
  · rw [if_neg d, if_neg d]
    exact ⟨rfl, rfl, fun z => absurd z (by simp [failP])⟩
theorem pSg_0 {R : Nat → PR} {k : Nat} (hc : ¬ cu t L k = 45) : (pSg t L R k).1 = (R k).1 ∧ (pSg t L R k).2.1 = (R k).2.1 ∧ ((pSg t L R k).1 = true → (pSg t L R k).2.2.2 = (R k).2.2.2) := by
  have e : mnC t L 41 k = 0 := by rw [mnC, if_neg hc]
  unfold pSg
  rw [e, Nat.add_zero]
  unfold sgn
  by_cases d : (R k).1 = true
  · rw [if_pos d]
    exact ⟨d.symm, rfl, fun _ => rfl⟩
  · rw [if_neg d]
    have d' : (R k).1 = false := by cases z : (R k).1 with
      | false => rfl
      | true => exact absurd z d
    exact ⟨d'.symm, rfl, fun z => absurd z (by simp [failP])⟩
theorem bF {b : Bool} (h : ¬ b = true) : b = false := by cases b with
  | false => rfl
  | true => exact absurd rfl h
theorem m_prod_lp (hE : RE t L μb) {R : Int32 → Mem → Option (Int32 × Mem)} {Fp : Nat → PR} {dep k0 : Nat} (hF : MSp μb L k0 (R (nI dep)) Fp) (hG : Gd L lv Fp) : ∀ m r g (μ : Mem), r.1 = true → k0 ≤ r.2.1 → r.2.1 ≤ L → L < r.2.1 + m → m < g → RF μb μ → MSt r.2.1 μ → ∃ v μ', f_m_product_b6 R g (nI dep) r.2.2.2 μ = some (v, μ') ∧ RF μb μ' ∧ ((pLp t L isPd Fp m r).1 = true → MSt (pLp t L isPd Fp m r).2.1 μ' ∧ v = (pLp t L isPd Fp m r).2.2.2) ∧ ((pLp t L isPd Fp m r).1 = false → μ'.1 v_m_wrong 0 = nI (pLp t L isPd Fp m r).2.1) := by
  intro m
  induction m with
  | zero => intro r g μ h0 hk0 h1 h2 hg hf hs; omega
  | succ m ih =>
    intro r g μ h0 hk0 h1 h2 hg hf hs
    obtain ⟨g, rfl⟩ : ∃ z, g = z + 1 := ⟨g - 1, by omega⟩
    have hL := hE.1.1
    have hEm := hE.fr hf
    have h256 := cu_256 (L := L) hE.1.2 r.2.1
    have go : isPd (cu t L r.2.1) = true → ∃ v μ', f_m_product_b31 R (f_m_product_b6 R g) (nI dep) r.2.2.2 μ = some (v, μ') ∧ RF μb μ' ∧ ((pLp t L isPd Fp (m + 1) r).1 = true → MSt (pLp t L isPd Fp (m + 1) r).2.1 μ' ∧ v = (pLp t L isPd Fp (m + 1) r).2.2.2) ∧ ((pLp t L isPd Fp (m + 1) r).1 = false → μ'.1 v_m_wrong 0 = nI (pLp t L isPd Fp (m + 1) r).2.1) := fun c => by
      have hc := isPd_c _ c
      have hkL := cu_L (t := t) (L := L) (k := r.2.1) (by omega)
      obtain ⟨b1, b2, b3⟩ := hG (r.2.1 + 1) (by omega)
      obtain ⟨y, μ1, q1, q2, q3, q4⟩ := hF (r.2.1 + 1) _ (by omega) (by omega) (hf.tr (RF.at_ μ (nI r.2.1 + 1))) hs.pass
      have key : ∃ z, f_m_product_b31 R (f_m_product_b6 R g) (nI dep) r.2.2.2 μ = f_m_product_b6 R g (nI dep) z μ1 ∧ z = opR (cu t L r.2.1) r.2.2.2 y := by
        unfold f_m_product_b31 f_m_product_b87
        rw [m_here hEm h1 hs.1, bd2_s, hs.1]
        by_cases c1 : cu t L r.2.1 = 42
        · refine ⟨r.2.2.2 * y, ?_, by rw [c1]; rfl⟩
          rw [if_pos (show hb (cu t L r.2.1) = (42 : Int32) from (hb_eq (x := 42) h256 (by decide)).mpr c1), bnd_s, bnd_s, q1, bd2_s, if_neg (by decide)]
        · have c2 : cu t L r.2.1 = 47 := by
            unfold isPd at c
            rw [Bool.or_eq_true, decide_eq_true_iff, decide_eq_true_iff] at c
            omega
          rw [if_neg (show ¬ hb (cu t L r.2.1) = (42 : Int32) from fun q => c1 ((hb_eq (x := 42) h256 (by decide)).mp q)), bnd_s, bnd_s, q1, bd2_s, if_pos rfl, c2]
          by_cases e : y = 0
          · refine ⟨0, ?_, ?_⟩
            · rw [if_pos e]
            · unfold opR; rw [if_neg (by decide), if_neg (by decide), if_neg (by decide), if_pos rfl, if_pos e]
          · refine ⟨r.2.2.2 / y, ?_, ?_⟩
            · rw [if_neg e, decide_eq_true e, chk_t]
            · unfold opR; rw [if_neg (by decide), if_neg (by decide), if_neg (by decide), if_pos rfl, if_neg e]
      obtain ⟨z, z1, z2⟩ := key
      rw [z1, pLp, c, if_pos rfl]
      by_cases d : (Fp (r.2.1 + 1)).1 = true
      · obtain ⟨r1, _, _, _, _⟩ := b3 d
        obtain ⟨q5, q6⟩ := q3 d
        have ej : jn (cu t L r.2.1) r (Fp (r.2.1 + 1)) = (true, (Fp (r.2.1 + 1)).2.1, r.2.2.1 ++ (Fp (r.2.1 + 1)).2.2.1 ++ [2000 + cu t L r.2.1], opR (cu t L r.2.1) r.2.2.2 (Fp (r.2.1 + 1)).2.2.2) := by unfold jn; rw [if_pos d]
        have := ih (jn (cu t L r.2.1) r (Fp (r.2.1 + 1))) g μ1 (by rw [ej]) (by rw [ej]; show k0 ≤ (Fp (r.2.1 + 1)).2.1; omega) (by rw [ej]; exact b2) (by rw [ej]; show L < (Fp (r.2.1 + 1)).2.1 + m; omega) (by omega) q2 (by rw [ej]; exact q5)
        rw [show (jn (cu t L r.2.1) r (Fp (r.2.1 + 1))).2.2.2 = z by rw [ej, z2, q6]] at this
        rw [if_pos d]
        exact this
      · have hw := q4 (bF d)
        obtain ⟨g, rfl⟩ : ∃ z, g = z + 1 := ⟨g - 1, by omega⟩
        rw [if_neg d]
        refine ⟨z, μ1, ?_, q2, fun z => absurd z (by simp [failP]), fun _ => hw⟩
        rw [f_m_product_b6, m_fine0 (by omega) hw, bd2_s, if_pos rfl]
    rw [f_m_product_b6, m_fine1 hs.2, bd2_s, if_neg (by decide), m_here hEm h1 hs.1, bd2_s]
    by_cases c1 : cu t L r.2.1 = 42
    · rw [if_pos (show hb (cu t L r.2.1) = (42 : Int32) from (hb_eq (x := 42) h256 (by decide)).mpr c1)]
      exact go (by rw [c1]; rfl)
    · rw [if_neg (show ¬ hb (cu t L r.2.1) = (42 : Int32) from fun q => c1 ((hb_eq (x := 42) h256 (by decide)).mp q)), m_here hEm h1 hs.1, bd2_s]
      by_cases c2 : cu t L r.2.1 = 47
      · rw [if_pos (show hb (cu t L r.2.1) = (47 : Int32) from (hb_eq (x := 47) h256 (by decide)).mpr c2)]
        exact go (by rw [c2]; rfl)
      · have c : isPd (cu t L r.2.1) = false := by unfold isPd; rw [decide_eq_false c1, decide_eq_false c2]; rfl
        rw [if_neg (show ¬ hb (cu t L r.2.1) = (47 : Int32) from fun q => c2 ((hb_eq (x := 47) h256 (by decide)).mp q)), pLp, c, if_neg (show ¬ false = true by decide)]
        exact ⟨_, μ, rfl, hf, fun _ => ⟨hs, rfl⟩, fun z => by rw [h0] at z; exact absurd z (by decide)⟩
theorem m_prod (hE : RE t L μb) {R : Int32 → Mem → Option (Int32 × Mem)} {Fp : Nat → PR} {dep k0 : Nat} (hF : MSp μb L k0 (R (nI dep)) Fp) (hG : Gd L lv Fp) : MSp μb L k0 (f_m_product R (nI dep)) (pCh t L isPd Fp) := by
  intro k μ hk0 hk hf hs
  have hL := hE.1.1
  obtain ⟨b1, b2, b3⟩ := hG k hk
  obtain ⟨y, μ1, q1, q2, q3, q4⟩ := hF k μ hk0 hk hf hs
  unfold f_m_product pCh
  rw [q1, bd2_s]
  by_cases d : (Fp k).1 = true
  · obtain ⟨q5, q6⟩ := q3 d
    rw [if_pos d, q6]
    exact m_prod_lp hE hF hG 41 (Fp k) FU μ1 d (by omega) b2 (by omega) (by unfold FU; omega) q2 q5
  · have hw := q4 (bF d)
    rw [if_neg d]
    refine ⟨y, μ1, ?_, q2, fun z => absurd z (by simp [failP]), fun _ => hw⟩
    rw [show FU = (FU - 1) + 1 from rfl, f_m_product_b6, m_fine0 (by omega) hw, bd2_s, if_pos rfl]
theorem m_summ_lp (hE : RE t L μb) {R : Int32 → Mem → Option (Int32 × Mem)} {Fp : Nat → PR} {dep k0 : Nat} (hF : MSp μb L k0 (f_m_product R (nI dep)) Fp) (hG : Gd L lv Fp) : ∀ m r g (μ : Mem), r.1 = true → k0 ≤ r.2.1 → r.2.1 ≤ L → L < r.2.1 + m → m < g → RF μb μ → MSt r.2.1 μ → ∃ v μ', f_m_sum_b6 R g (nI dep) r.2.2.2 μ = some (v, μ') ∧ RF μb μ' ∧ ((pLp t L isSm Fp m r).1 = true → MSt (pLp t L isSm Fp m r).2.1 μ' ∧ v = (pLp t L isSm Fp m r).2.2.2) ∧ ((pLp t L isSm Fp m r).1 = false → μ'.1 v_m_wrong 0 = nI (pLp t L isSm Fp m r).2.1) := by
  intro m
  induction m with
  | zero => intro r g μ h0 hk0 h1 h2 hg hf hs; omega
  | succ m ih =>
    intro r g μ h0 hk0 h1 h2 hg hf hs
    obtain ⟨g, rfl⟩ : ∃ z, g = z + 1 := ⟨g - 1, by omega⟩
    have hL := hE.1.1
    have hEm := hE.fr hf
    have h256 := cu_256 (L := L) hE.1.2 r.2.1
    have go : isSm (cu t L r.2.1) = true → ∃ v μ', f_m_sum_b31 R (f_m_sum_b6 R g) (nI dep) r.2.2.2 μ = some (v, μ') ∧ RF μb μ' ∧ ((pLp t L isSm Fp (m + 1) r).1 = true → MSt (pLp t L isSm Fp (m + 1) r).2.1 μ' ∧ v = (pLp t L isSm Fp (m + 1) r).2.2.2) ∧ ((pLp t L isSm Fp (m + 1) r).1 = false → μ'.1 v_m_wrong 0 = nI (pLp t L isSm Fp (m + 1) r).2.1) := fun c => by
      have hc := isSm_c _ c
      have hkL := cu_L (t := t) (L := L) (k := r.2.1) (by omega)
      obtain ⟨b1, b2, b3⟩ := hG (r.2.1 + 1) (by omega)
      obtain ⟨y, μ1, q1, q2, q3, q4⟩ := hF (r.2.1 + 1) _ (by omega) (by omega) (hf.tr (RF.at_ μ (nI r.2.1 + 1))) hs.pass
      have key : ∃ z, f_m_sum_b31 R (f_m_sum_b6 R g) (nI dep) r.2.2.2 μ = f_m_sum_b6 R g (nI dep) z μ1 ∧ z = opR (cu t L r.2.1) r.2.2.2 y := by
        unfold f_m_sum_b31
        rw [m_here hEm h1 hs.1, bd2_s, hs.1]
        by_cases c1 : cu t L r.2.1 = 43
        · refine ⟨r.2.2.2 + y, ?_, by rw [c1]; rfl⟩
          rw [if_pos (show hb (cu t L r.2.1) = (43 : Int32) from (hb_eq (x := 43) h256 (by decide)).mpr c1), bnd_s, bnd_s, q1, bd2_s, if_neg (by decide), bnd_s]
        · have c2 : cu t L r.2.1 = 45 := by
            unfold isSm at c
            rw [Bool.or_eq_true, decide_eq_true_iff, decide_eq_true_iff] at c
            omega
          refine ⟨r.2.2.2 - y, ?_, by rw [c2]; rfl⟩
          rw [if_neg (show ¬ hb (cu t L r.2.1) = (43 : Int32) from fun q => c1 ((hb_eq (x := 43) h256 (by decide)).mp q)), bnd_s, bnd_s, q1, bd2_s, if_pos rfl, bnd_s]
      obtain ⟨z, z1, z2⟩ := key
      rw [z1, pLp, c, if_pos rfl]
      by_cases d : (Fp (r.2.1 + 1)).1 = true
      · obtain ⟨r1, _, _, _, _⟩ := b3 d
        obtain ⟨q5, q6⟩ := q3 d
        have ej : jn (cu t L r.2.1) r (Fp (r.2.1 + 1)) = (true, (Fp (r.2.1 + 1)).2.1, r.2.2.1 ++ (Fp (r.2.1 + 1)).2.2.1 ++ [2000 + cu t L r.2.1], opR (cu t L r.2.1) r.2.2.2 (Fp (r.2.1 + 1)).2.2.2) := by unfold jn; rw [if_pos d]
        have := ih (jn (cu t L r.2.1) r (Fp (r.2.1 + 1))) g μ1 (by rw [ej]) (by rw [ej]; show k0 ≤ (Fp (r.2.1 + 1)).2.1; omega) (by rw [ej]; exact b2) (by rw [ej]; show L < (Fp (r.2.1 + 1)).2.1 + m; omega) (by omega) q2 (by rw [ej]; exact q5)
        rw [show (jn (cu t L r.2.1) r (Fp (r.2.1 + 1))).2.2.2 = z by rw [ej, z2, q6]] at this
        rw [if_pos d]
        exact this
      · have hw := q4 (bF d)
        obtain ⟨g, rfl⟩ : ∃ z, g = z + 1 := ⟨g - 1, by omega⟩
        rw [if_neg d]
        refine ⟨z, μ1, ?_, q2, fun z => absurd z (by simp [failP]), fun _ => hw⟩
        rw [f_m_sum_b6, m_fine0 (by omega) hw, bd2_s, if_pos rfl]
    rw [f_m_sum_b6, m_fine1 hs.2, bd2_s, if_neg (by decide), m_here hEm h1 hs.1, bd2_s]
    by_cases c1 : cu t L r.2.1 = 43
    · rw [if_pos (show hb (cu t L r.2.1) = (43 : Int32) from (hb_eq (x := 43) h256 (by decide)).mpr c1)]
      exact go (by rw [c1]; rfl)
    · rw [if_neg (show ¬ hb (cu t L r.2.1) = (43 : Int32) from fun q => c1 ((hb_eq (x := 43) h256 (by decide)).mp q)), m_here hEm h1 hs.1, bd2_s]
      by_cases c2 : cu t L r.2.1 = 45
      · rw [if_pos (show hb (cu t L r.2.1) = (45 : Int32) from (hb_eq (x := 45) h256 (by decide)).mpr c2)]
        exact go (by rw [c2]; rfl)
      · have c : isSm (cu t L r.2.1) = false := by unfold isSm; rw [decide_eq_false c1, decide_eq_false c2]; rfl
        rw [if_neg (show ¬ hb (cu t L r.2.1) = (45 : Int32) from fun q => c2 ((hb_eq (x := 45) h256 (by decide)).mp q)), pLp, c, if_neg (show ¬ false = true by decide)]
        exact ⟨_, μ, rfl, hf, fun _ => ⟨hs, rfl⟩, fun z => by rw [h0] at z; exact absurd z (by decide)⟩
theorem m_summ (hE : RE t L μb) {R : Int32 → Mem → Option (Int32 × Mem)} {Fp : Nat → PR} {dep k0 : Nat} (hF : MSp μb L k0 (f_m_product R (nI dep)) Fp) (hG : Gd L lv Fp) : MSp μb L k0 (f_m_sum R (nI dep)) (pCh t L isSm Fp) := by
  intro k μ hk0 hk hf hs
  have hL := hE.1.1
  obtain ⟨b1, b2, b3⟩ := hG k hk
  obtain ⟨y, μ1, q1, q2, q3, q4⟩ := hF k μ hk0 hk hf hs
  unfold f_m_sum pCh
  rw [q1, bd2_s]
  by_cases d : (Fp k).1 = true
  · obtain ⟨q5, q6⟩ := q3 d
    rw [if_pos d, q6]
    exact m_summ_lp hE hF hG 41 (Fp k) FU μ1 d (by omega) b2 (by omega) (by unfold FU; omega) q2 q5
  · have hw := q4 (bF d)
    rw [if_neg d]
    refine ⟨y, μ1, ?_, q2, fun z => absurd z (by simp [failP]), fun _ => hw⟩
    rw [show FU = (FU - 1) + 1 from rfl, f_m_sum_b6, m_fine0 (by omega) hw, bd2_s, if_pos rfl]
theorem m_held (hE : RE t L μb) {R : Int32 → Mem → Option (Int32 × Mem)} {Rp : Nat → PR} {dep k0 : Nat} (hF : MSp μb L k0 (R (nI dep)) (pSg t L Rp)) (hG : Gd L lv Rp) : MSp μb L k0 (f_m_held R (nI dep)) (pEx t L Rp) := by
  intro k μ hk0 hk hf hs
  have hL := hE.1.1
  have hGs := pSm_gd (t := t) hG
  have hS : MSp μb L k0 (f_m_sum R (nI dep)) (pSm t L Rp) := m_summ hE (m_prod hE hF (pSg_gd hG)) (pPd_gd hG)
  obtain ⟨b1, b2, b3⟩ := hGs k hk
  obtain ⟨x, μ1, q1, q2, q3, q4⟩ := hS k μ hk0 hk hf hs
  unfold f_m_held pEx
  rw [q1, bd2_s]
  by_cases d : (pSm t L Rp k).1 = true
  · obtain ⟨q5, q6⟩ := q3 d
    have hE1 := hE.fr q2
    have h256 := cu_256 (L := L) hE.1.2 (pSm t L Rp k).2.1
    rw [if_pos d]
    have go : ∀ c, 42 ≤ c → c ≤ 62 → cu t L (pSm t L Rp k).2.1 = c → isEx c = true → ∃ y μ2, f_m_sum R (nI dep) (setI μ1 v_m_at 0 (nI (pSm t L Rp k).2.1 + 1)) = some (y, μ2) ∧ ∀ v, v = opR c x y → (∃ v' μ', some (v, μ2) = some (v', μ') ∧ RF μb μ' ∧ ((if isEx (cu t L (pSm t L Rp k).2.1) then jn (cu t L (pSm t L Rp k).2.1) (pSm t L Rp k) (pSm t L Rp ((pSm t L Rp k).2.1 + 1)) else pSm t L Rp k).1 = true → MSt (if isEx (cu t L (pSm t L Rp k).2.1) then jn (cu t L (pSm t L Rp k).2.1) (pSm t L Rp k) (pSm t L Rp ((pSm t L Rp k).2.1 + 1)) else pSm t L Rp k).2.1 μ' ∧ v' = (if isEx (cu t L (pSm t L Rp k).2.1) then jn (cu t L (pSm t L Rp k).2.1) (pSm t L Rp k) (pSm t L Rp ((pSm t L Rp k).2.1 + 1)) else pSm t L Rp k).2.2.2) ∧ ((if isEx (cu t L (pSm t L Rp k).2.1) then jn (cu t L (pSm t L Rp k).2.1) (pSm t L Rp k) (pSm t L Rp ((pSm t L Rp k).2.1 + 1)) else pSm t L Rp k).1 = false → μ'.1 v_m_wrong 0 = nI (if isEx (cu t L (pSm t L Rp k).2.1) then jn (cu t L (pSm t L Rp k).2.1) (pSm t L Rp k) (pSm t L Rp ((pSm t L Rp k).2.1 + 1)) else pSm t L Rp k).2.1)) := fun c h1 h2 hc hx => by
      have hkL := cu_L (t := t) (L := L) (k := (pSm t L Rp k).2.1) (by omega)
      obtain ⟨y, μ2, u1, u2, u3, u4⟩ := hS ((pSm t L Rp k).2.1 + 1) _ (by omega) (by omega) (q2.tr (RF.at_ μ1 (nI (pSm t L Rp k).2.1 + 1))) q5.pass
      refine ⟨y, μ2, u1, fun v hv => ⟨v, μ2, rfl, u2, ?_⟩⟩
      rw [hc, hx, if_pos rfl]
      unfold jn
      by_cases e : (pSm t L Rp ((pSm t L Rp k).2.1 + 1)).1 = true
      · obtain ⟨u5, u6⟩ := u3 e
        rw [if_pos e]
        exact ⟨fun _ => ⟨u5, by rw [hv, q6, u6]⟩, fun z => absurd z (by simp)⟩
      · rw [if_neg e]
        exact ⟨fun z => absurd z (by simp [failP]), fun _ => u4 (bF e)⟩
    rw [show f_m_passes (60 : Int32) μ1 = _ from m_pass hE1 b2 q5 (c := 60) (by omega), bd2_s]
    by_cases c1 : cu t L (pSm t L Rp k).2.1 = 60
    · obtain ⟨y, μ2, g1, g2⟩ := go 60 (by omega) (by omega) c1 rfl
      rw [decide_eq_true c1, if_neg (show ¬ nI (bN true) = 0 by decide), if_pos c1, g1, bd2_s, bnd_s]
      exact g2 _ rfl
    · rw [decide_eq_false c1, if_pos (show nI (bN false) = 0 by decide), if_neg c1, show f_m_passes (62 : Int32) μ1 = _ from m_pass hE1 b2 q5 (c := 62) (by omega), bd2_s]
      by_cases c2 : cu t L (pSm t L Rp k).2.1 = 62
      · obtain ⟨y, μ2, g1, g2⟩ := go 62 (by omega) (by omega) c2 rfl
        rw [decide_eq_true c2, if_neg (show ¬ nI (bN true) = 0 by decide), if_pos c2, g1, bd2_s, bnd_s]
        exact g2 _ rfl
      · rw [decide_eq_false c2, if_pos (show nI (bN false) = 0 by decide), if_neg c2, show f_m_passes (61 : Int32) μ1 = _ from m_pass hE1 b2 q5 (c := 61) (by omega), bd2_s]
        by_cases c3 : cu t L (pSm t L Rp k).2.1 = 61
        · obtain ⟨y, μ2, g1, g2⟩ := go 61 (by omega) (by omega) c3 rfl
          rw [decide_eq_true c3, if_neg (show ¬ nI (bN true) = 0 by decide), if_pos c3, g1, bd2_s, bnd_s]
          exact g2 _ rfl
        · have hx : isEx (cu t L (pSm t L Rp k).2.1) = false := by unfold isEx; rw [decide_eq_false c1, decide_eq_false c2, decide_eq_false c3]; rfl
          rw [decide_eq_false c3, if_pos (show nI (bN false) = 0 by decide), if_neg c3, hx, if_neg (show ¬ false = true by decide)]
          exact ⟨x, μ1, rfl, q2, fun _ => ⟨q5, q6⟩, fun z => by rw [d] at z; exact absurd z (by decide)⟩
  · have hw := q4 (bF d)
    rw [if_neg d, m_passN (by omega) hw, bd2_s, if_pos rfl, m_passN (by omega) hw, bd2_s, if_pos rfl, m_passN (by omega) hw, bd2_s, if_pos rfl]
    exact ⟨x, μ1, rfl, q2, fun z => absurd z (by simp [failP]), fun _ => hw⟩
theorem ltI_iff {c : Nat} : (ltI c = none ↔ ¬ (c = 105 ∨ c = 110 ∨ c = 112 ∨ c = 97 ∨ c = 115 ∨ c = 111 ∨ c = 100)) := by
  unfold ltI
  repeat' split
  all_goals simp_all
theorem m_b67 (hE : RE t L μb) (hLv : LVs lv μb) (R : Int32 → Mem → Option (Int32 × Mem)) {k dep n : Nat} (hk : k ≤ L) (hf : RF μb μ) (hs : MSt k μ) (hno : cu t L k = 40 → ¬ dep < 4) : ∃ v μ', f_m_thing_b67 R (hb (cu t L k)) μ = some (v, μ') ∧ RF μb μ' ∧ ((pTh t L lv (n + 1) dep k).1 = true → MSt (pTh t L lv (n + 1) dep k).2.1 μ' ∧ v = (pTh t L lv (n + 1) dep k).2.2.2) ∧ ((pTh t L lv (n + 1) dep k).1 = false → μ'.1 v_m_wrong 0 = nI (pTh t L lv (n + 1) dep k).2.1) := by
  have h256 := cu_256 (L := L) hE.1.2 k
  have hE1 := hE.fr hf
  have hL := hE.1.1
  rw [pTh]
  unfold f_m_thing_b67
  rw [m_in, bd2_s]
  by_cases dg : 48 ≤ cu t L k ∧ cu t L k ≤ 57
  · have hl : ltI (cu t L k) = none := ltI_iff.mpr (by omega)
    obtain ⟨μ1, q1, q2, q3, q4⟩ := m_num hE hk hf hs dg
    rw [if_pos ((hb_in h256).mpr dg), if_neg (by decide), q1, bd2_s, hl]
    show ∃ v μ', _ ∧ _ ∧ ((if cu t L k = 40 then _ else _ : PR).1 = true → _) ∧ _
    rw [if_neg (by omega)]
    unfold pNum
    rw [if_neg (by omega)]
    exact ⟨_, μ1, rfl, q2, fun _ => ⟨q3, rfl⟩, fun z => absurd z (by simp)⟩
  · rw [if_neg (fun q => dg ((hb_in h256).mp q)), if_pos rfl]
    cases e : ltI (cu t L k) with
    | some i =>
      obtain ⟨i1, i2⟩ := ltI_lt e
      have hkL := cu_L (t := t) (L := L) (k := k) (by omega)
      have hbc : hb (cu t L k) = nI (cu t L k) := (hb_eq h256 (by omega)).mpr rfl
      have hlet := hLv _ i (setI μ v_m_at 0 (nI k + 1)) e (hf.tr (RF.at_ μ _))
      have h140 : f_m_thing_b140 R (hb (cu t L k)) μ = some (lv i, setI μ v_m_at 0 (nI k + 1)) := by
        unfold f_m_thing_b140
        rw [hs.1, bnd_s, hbc, ch_n (by omega)]
        exact hlet
      have hor : cu t L k = 105 ∨ cu t L k = 110 ∨ cu t L k = 112 ∨ cu t L k = 97 ∨ cu t L k = 115 ∨ cu t L k = 111 ∨ cu t L k = 100 := Classical.byContradiction fun q => by
        rw [ltI_iff.mpr q] at e
        exact absurd e (by simp)
      rw [h140]
      refine ⟨lv i, _, ?_, hf.tr (RF.at_ μ (nI k + 1)), fun _ => ⟨hs.pass, rfl⟩, fun z => absurd z (by simp)⟩
      repeat' split
      all_goals (first | rfl | skip)
      rename_i h1 h2 h3 h4 h5 h6 h7
      exfalso
      rcases hor with q | q | q | q | q | q | q
      · exact h1 (by rw [q]; decide)
      · exact h2 (by rw [q]; decide)
      · exact h3 (by rw [q]; decide)
      · exact h4 (by rw [q]; decide)
      · exact h5 (by rw [q]; decide)
      · exact h6 (by rw [q]; decide)
      · exact h7 (by rw [q]; decide)
    | none =>
      have hnor := ltI_iff.mp e
      have ne : ∀ x, x < 128 → cu t L k ≠ x → ¬ hb (cu t L k) = nI x := fun x hx hn q => hn ((hb_eq h256 hx).mp q)
      rw [if_neg (show ¬ hb (cu t L k) = (105 : Int32) from ne 105 (by decide) (by omega)), if_neg (show ¬ hb (cu t L k) = (110 : Int32) from ne 110 (by decide) (by omega)), if_neg (show ¬ hb (cu t L k) = (112 : Int32) from ne 112 (by decide) (by omega)), if_neg (show ¬ hb (cu t L k) = (97 : Int32) from ne 97 (by decide) (by omega)), if_neg (show ¬ hb (cu t L k) = (115 : Int32) from ne 115 (by decide) (by omega)), if_neg (show ¬ hb (cu t L k) = (111 : Int32) from ne 111 (by decide) (by omega)), if_neg (show ¬ hb (cu t L k) = (100 : Int32) from ne 100 (by decide) (by omega)), hs.1, m_fault1 hs.2, bd1_s]
      have hP : (if cu t L k = 40 then (if dep < 4 then nst t L (pEx t L (pTh t L lv n (dep + 1)) (k + 1)) else failP k) else pNum t L k) = failP k := by
        by_cases c : cu t L k = 40
        · rw [if_pos c, if_neg (hno c)]
        · rw [if_neg c]
          unfold pNum
          rw [if_pos]
          rw [pNumL, if_neg dg]
      show ∃ v μ', _ ∧ _ ∧ ((if cu t L k = 40 then (if dep < 4 then nst t L (pEx t L (pTh t L lv n (dep + 1)) (k + 1)) else failP k) else pNum t L k).1 = true → _) ∧ ((if cu t L k = 40 then (if dep < 4 then nst t L (pEx t L (pTh t L lv n (dep + 1)) (k + 1)) else failP k) else pNum t L k).1 = false → _ = nI (if cu t L k = 40 then (if dep < 4 then nst t L (pEx t L (pTh t L lv n (dep + 1)) (k + 1)) else failP k) else pNum t L k).2.1)
      rw [hP]
      exact ⟨0, _, rfl, hf.tr (RF.wr_ μ (nI k)), fun z => absurd z (by simp [failP]), fun _ => sI_eq _ _ _ _⟩
theorem m_th (hE : RE t L μb) (hLv : LVs lv μb) : ∀ k' n dep, n + dep = 5 → MSp μb L (L + 1 - k') (f_m_thing k' (nI dep)) (pSg t L (pTh t L lv (n + 1) dep)) := by
  have hL := hE.1.1
  intro k'
  induction k' with
  | zero => intro n dep _ k μ hk0 hk; omega
  | succ k' ih =>
    intro n dep hn k μ hk0 hk hf hs
    have hE1 := hE.fr hf
    have h256 := cu_256 (L := L) hE.1.2 k
    rw [f_m_thing, f_m_thing_body, show f_m_passes (45 : Int32) μ = _ from m_pass hE1 hk hs (c := 45) (by omega), bd2_s]
    by_cases c : cu t L k = 45
    · have hkL := cu_L (t := t) (L := L) (k := k) (by omega)
      obtain ⟨e1, e2, e3⟩ := pSg_neg (R := pTh t L lv (n + 1) dep) hL c
      obtain ⟨v, μ1, q1, q2, q3, q4⟩ := ih n dep hn (k + 1) _ (by omega) (by omega) (hf.tr (RF.at_ μ (nI k + 1))) hs.pass
      rw [decide_eq_true c, if_neg (show ¬ nI (bN true) = 0 by decide), if_pos c, q1, bd2_s]
      refine ⟨-v, μ1, rfl, q2, fun z => ?_, fun z => ?_⟩
      · obtain ⟨q5, q6⟩ := q3 (e1 ▸ z)
        rw [e2, e3 z, q6]
        exact ⟨q5, rfl⟩
      · rw [e2]
        exact q4 (e1 ▸ z)
    · obtain ⟨e1, e2, e3⟩ := pSg_0 (R := pTh t L lv (n + 1) dep) c
      rw [decide_eq_false c, if_pos (show nI (bN false) = 0 by decide), if_neg c, m_fine1 hs.2, bd2_s, if_neg (by decide), m_here hE1 hk hs.1, bd2_s]
      have suff : (∃ v μ', (if hb (cu t L k) = (40 : Int32) then (if (4 : Int32) ≤ nI dep then (f_m_thing_b67 (f_m_thing k') (hb (cu t L k)) μ) else (bnd (setI μ v_m_at 0 ((μ.1 v_m_at 0) + (1 : Int32))) fun μ36 => bd2 (f_m_held (f_m_thing k') (nI dep + (1 : Int32)) μ36) fun v40 μ38 => bd1 (f_m_need (41 : Int32) μ38) fun μ41 => some (v40, μ41))) else (f_m_thing_b67 (f_m_thing k') (hb (cu t L k)) μ)) = some (v, μ') ∧ RF μb μ' ∧ ((pTh t L lv (n + 1) dep k).1 = true → MSt (pTh t L lv (n + 1) dep k).2.1 μ' ∧ v = (pTh t L lv (n + 1) dep k).2.2.2) ∧ ((pTh t L lv (n + 1) dep k).1 = false → μ'.1 v_m_wrong 0 = nI (pTh t L lv (n + 1) dep k).2.1)) → _ := fun ⟨v, μ', g1, g2, g3, g4⟩ => (⟨v, μ', g1, g2, fun z => by
        obtain ⟨g5, g6⟩ := g3 (e1 ▸ z)
        rw [e2, e3 z]
        exact ⟨g5, g6⟩, fun z => by
        rw [e2]
        exact g4 (e1 ▸ z)⟩ : ∃ v μ', (if hb (cu t L k) = (40 : Int32) then (if (4 : Int32) ≤ nI dep then (f_m_thing_b67 (f_m_thing k') (hb (cu t L k)) μ) else (bnd (setI μ v_m_at 0 ((μ.1 v_m_at 0) + (1 : Int32))) fun μ36 => bd2 (f_m_held (f_m_thing k') (nI dep + (1 : Int32)) μ36) fun v40 μ38 => bd1 (f_m_need (41 : Int32) μ38) fun μ41 => some (v40, μ41))) else (f_m_thing_b67 (f_m_thing k') (hb (cu t L k)) μ)) = some (v, μ') ∧ RF μb μ' ∧ ((pSg t L (pTh t L lv (n + 1) dep) k).1 = true → MSt (pSg t L (pTh t L lv (n + 1) dep) k).2.1 μ' ∧ v = (pSg t L (pTh t L lv (n + 1) dep) k).2.2.2) ∧ ((pSg t L (pTh t L lv (n + 1) dep) k).1 = false → μ'.1 v_m_wrong 0 = nI (pSg t L (pTh t L lv (n + 1) dep) k).2.1))
      refine suff ?_
      by_cases c40 : cu t L k = 40
      · rw [if_pos (show hb (cu t L k) = (40 : Int32) from (hb_eq (x := 40) h256 (by decide)).mpr c40)]
        by_cases d : dep < 4
        · have hkL := cu_L (t := t) (L := L) (k := k) (by omega)
          obtain ⟨n, rfl⟩ : ∃ z, n = z + 1 := ⟨n - 1, by omega⟩
          have hG := pTh_gd (t := t) (L := L) (lv := lv) (n + 1) (dep + 1)
          obtain ⟨b1, b2, b3⟩ := pEx_gd (t := t) hG (k + 1) (by omega)
          have hH := m_held hE (ih n (dep + 1) (by omega)) hG
          obtain ⟨v, μ1, q1, q2, q3, q4⟩ := hH (k + 1) _ (by omega) (by omega) (hf.tr (RF.at_ μ (nI k + 1))) hs.pass
          rw [if_neg (show ¬ (4 : Int32) ≤ nI dep from fun q => absurd ((i_leN (a := 4) (by omega) (by omega)).mp q) (by omega)), hs.1, bnd_s, show nI dep + 1 = nI (dep + 1) from i_add dep 1, q1, bd2_s]
          have hP : pTh t L lv (n + 1 + 1) dep k = nst t L (pEx t L (pTh t L lv (n + 1) (dep + 1)) (k + 1)) := by
            rw [pTh, show ltI (cu t L k) = none by rw [c40]; rfl]
            show (if cu t L k = 40 then _ else _) = _
            rw [if_pos c40, if_pos d]
          rw [hP]
          unfold nst f_m_need
          by_cases f : (pEx t L (pTh t L lv (n + 1) (dep + 1)) (k + 1)).1 = true
          · obtain ⟨q5, q6⟩ := q3 f
            have hE2 := hE.fr q2
            rw [if_pos f, show f_m_passes (41 : Int32) μ1 = _ from m_pass hE2 b2 q5 (c := 41) (by omega), bd2_s]
            by_cases g : cu t L (pEx t L (pTh t L lv (n + 1) (dep + 1)) (k + 1)).2.1 = 41
            · rw [decide_eq_true g, if_neg (show ¬ nI (bN true) = 0 by decide), if_pos g, if_pos g, bd1_s]
              exact ⟨v, _, rfl, q2.tr (RF.at_ μ1 _), fun _ => ⟨q5.pass, q6⟩, fun z => absurd z (by simp)⟩
            · rw [decide_eq_false g, if_pos (show nI (bN false) = 0 by decide), if_neg g, if_neg g, q5.1, m_fault1 q5.2, bd1_s, bd1_s]
              exact ⟨v, _, rfl, q2.tr (RF.wr_ μ1 _), fun z => absurd z (by simp [failP]), fun _ => sI_eq _ _ _ _⟩
          · have hw := q4 (bF f)
            rw [if_neg f, m_passN (by omega) hw, bd2_s, if_pos rfl, m_fault0 (by omega) hw, bd1_s, bd1_s]
            exact ⟨v, μ1, rfl, q2, fun z => absurd z (by simp [failP]), fun _ => hw⟩
        · rw [if_pos (show (4 : Int32) ≤ nI dep from (i_leN (a := 4) (by omega) (by omega)).mpr (by omega))]
          exact m_b67 hE hLv (f_m_thing k') hk hf hs (fun _ => d)
      · rw [if_neg (show ¬ hb (cu t L k) = (40 : Int32) from fun q => c40 ((hb_eq (x := 40) h256 (by decide)).mp q))]
        exact m_b67 hE hLv (f_m_thing k') hk hf hs (fun q => absurd q c40)
end RM
