/-! guard. -/
theorem tb_0 (i : Nat) : (0 : Nat).testBit i = false := Nat.zero_testBit i
theorem i_low {x l : Nat} (hl : l < 31) (h1 : x.testBit l = true) (h2 : ∀ j, j < l → x.testBit j = false) : nI x &&& -nI x = nI (2 ^ l) := by
  apply Int32.toBitVec_inj.1
  show BitVec.ofNat 32 x &&& -(BitVec.ofNat 32 x) = BitVec.ofNat 32 (2 ^ l)
  apply BitVec.eq_of_getLsbD_eq
  intro i hi
  rw [BitVec.getLsbD_and, BitVec.getLsbD_neg, BitVec.getLsbD_ofNat, BitVec.getLsbD_ofNat, tb_p2, decide_eq_true hi, Bool.true_and, Bool.true_and, Bool.true_and]
  rcases Nat.lt_trichotomy i l with q | q | q
  · rw [h2 i q, Bool.false_and, decide_eq_false (by omega)]
  · subst q
    rw [h1, decide_eq_true rfl, decide_eq_false]
    · rfl
    · rintro ⟨j, j1, j2⟩
      rw [BitVec.getLsbD_ofNat, h2 j j1, Bool.and_false] at j2
      exact absurd j2 (by decide)
  · rw [decide_eq_false (show ¬ l = i by omega), decide_eq_true]
    · cases x.testBit i <;> rfl
    · exact ⟨l, q, by rw [BitVec.getLsbD_ofNat, h1, decide_eq_true (show l < 32 by omega)]; rfl⟩
theorem pcN_p2 : ∀ l, l < 14 → pcN (2 ^ l) = 1 := by decide
theorem pcN_pos {k : Nat} (h0 : k ≠ 0) (hk : k < 16384) : 1 ≤ pcN k := by
  have h1 : crd 14 0 < crd 14 k := crd_lt (p := 14) hk (fun j q => by rw [tb_0] at q; exact absurd q (by decide)) (fun q => h0 q.symm)
  have h2 : crd 14 k = pcN k := rfl
  omega
theorem nxt_tb2 (S : SP) (s i : Nat) : (nxt S s).testBit i = (decide (i < S.1) && wld S i s) := bs_tb _ _ _
theorem itr_firm {S : SP} {i : Nat} (hi : i < S.1) (hf : S.2.2.2.testBit i = true) : ∀ n s, (itr S n s).testBit i = s.testBit i
  | 0, _ => rfl
  | n + 1, s => by
    rw [itr, itr_firm hi hf n, nxt_tb2, decide_eq_true hi, Bool.true_and]
    unfold wld mvd
    rw [hf]
    rfl
noncomputable def evB (S : SP) (w s : Nat) : Bool := @decide (∃ j, itr S j s &&& w = w) (Classical.propDecidable _)
theorem evB_t {S : SP} {w s : Nat} : evB S w s = true ↔ ∃ j, itr S j s &&& w = w := @decide_eq_true_iff _ (Classical.propDecidable _)
theorem evB_f {S : SP} {w s : Nat} (h : ∀ j, ¬ itr S j s &&& w = w) : evB S w s = false := by
  cases e : evB S w s with
  | false => rfl
  | true => obtain ⟨j, hj⟩ := evB_t.mp e; exact absurd hj (h j)
section OPS
variable {N : Nat} {a : Ab} {b : Nat × Nat} {μ0 μ : Mem} {Q : Nat} {S : SP}
theorem MI.firm (h : MI N Q a μ0 μ) {F : Nat} (hF : F < 2 ^ (aS a).1) : MI N Q (aSetS a ((aS a).1, (aS a).2.1, (aS a).2.2.1, F)) μ0 (setI μ v_m_firm 0 (nI F)) := by
  have e : ∀ v, v ≠ 136 → (setI μ v_m_firm 0 (nI F)).1 v = μ.1 v := fun v hv => sI_v _ _ _ hv
  obtain ⟨⟨w1, w2, w3, w4, w5, w6, w7⟩, ⟨b, d, t, r, k⟩, q, h4, h5'⟩ := h
  exact ⟨⟨⟨w1.1, w1.2.1, w1.2.2.1, hF⟩, w2, w3, w4, w5, w6, w7⟩, ⟨⟨by rw [e _ (by decide)]; exact b.1, fun i j hi hj => by rw [e _ (by decide)]; exact b.2.1 i j hi hj, fun i hi => by rw [e _ (by decide)]; exact b.2.2.1 i hi, sI_eq _ _ _ _, ⟨w1.1, w1.2.1, w1.2.2.1, hF⟩⟩, MDs.of (a := a) d (fun v hv => e v (by omega)), t.of (fun v hv => e v (by omega)), r.of (e _ (by decide)) rfl, k.of rfl rfl (fun v hv => e v (by omega))⟩, q.of (fun v hv => e v (by omega)), h4, h5'.tr (MFr.I _ _ _ (by decide))⟩
theorem m_ever_lp (h : MB S μ) {w s t r : Nat} (hs : s < 2 ^ S.1) (hw : w < 2 ^ S.1) (hR : Rho S s t r) : ∀ m k g, k + m = t + r → m < g → (∀ j, j < k → ¬ itr S j s &&& w = w) → f_m_everAll_b21 g (nI w) (nI (itr S k s)) (nI (t + r)) (nI k) μ = some (nI (bN (evB S w s)), μ) := by
  have h14 := p2_14 h.2.2.2.2.1
  have hr2 := hR.2.1
  intro m
  induction m with
  | zero =>
    intro k g hk hg hj
    obtain ⟨g, rfl⟩ : ∃ z, g = z + 1 := ⟨g - 1, by omega⟩
    obtain rfl : k = t + r := by omega
    rw [f_m_everAll_b21, if_pos ((i_leN (by omega) (by omega)).mpr (Nat.le_refl _)), zb_0, chk_t, evB_f (fun j q => by
      obtain ⟨i, i1, i2⟩ := rho_fin hR j
      exact hj i i1 (i2 ▸ q))]
    rfl
  | succ m ih =>
    intro k g hk hg hj
    obtain ⟨g, rfl⟩ : ∃ z, g = z + 1 := ⟨g - 1, by omega⟩
    have hi := itr_lt (S := S) k hs
    have hia : itr S k s &&& w < 2 ^ S.1 := and_lt hi
    rw [f_m_everAll_b21, if_neg (fun q => absurd ((i_leN (by omega) (by omega)).mp q) (by omega)), i_and]
    by_cases c : itr S k s &&& w = w
    · rw [if_pos (by rw [c]), zb_1, chk_t, evB_t.mpr ⟨k, c⟩]
      rfl
    · rw [if_neg (fun q => c (nI_inj (by omega) (by omega) q)), m_next h hi, bd2_s, ← itr_s, l_1, i_add]
      refine ih (k + 1) g (by omega) (by omega) (fun j hj' => ?_)
      by_cases e : j = k
      · subst e; exact c
      · exact hj j (by omega)
theorem m_ever {w s : Nat} (hs : s < 2 ^ (aS a).1) (hw : w < 2 ^ (aS a).1) (h : MI N Q a μ0 μ) (hQ : Q + 1 ≤ 50000 * N + 50000) : ∃ μ', f_m_everAll (nI w) (nI s) μ = some (nI (bN (evB (aS a) w s)), μ') ∧ MI N (Q + 1) a μ0 μ' := by
  have h14 := p2_14 h.1.1.1
  obtain ⟨t, r, hR⟩ := rho_ex hs
  obtain ⟨μ1, k1, k2, ⟨k3, k4, k5⟩, k6⟩ := m_find hs hR h hQ
  refine ⟨μ1, ?_, k2⟩
  unfold f_m_everAll
  rw [k1, bd1_s, k3, k4, i_add, bnd_s]
  exact m_ever_lp k2.2.1.1 hs hw hR (t + r) 0 FU (by omega) (by have := hR.2.1; unfold FU; omega) (fun j hj => absurd hj (by omega))
def bad (a : Ab) (w k : Nat) : Bool := decide (wo w (aN a) &&& ((aS a).2.2.2 ||| k) ≠ 0)
theorem opn_tb (a : Ab) (i : Nat) : (opn a).testBit i = (decide (i < (aS a).1) && !(aS a).2.2.2.testBit i && !(aN a).testBit i) := by
  unfold opn
  rw [wo_tb, wo_tb, tb_ev]
theorem wo_0 {x y : Nat} (h : wo x y = 0) : sub x y := fun j hj => by
  have := wo_tb x y j
  rw [h, tb_0, hj] at this
  cases e : y.testBit j with
  | true => rfl
  | false => rw [e] at this; exact absurd this (by decide)
theorem wo_0' {x y : Nat} (h : sub x y) : wo x y = 0 := nat_ext fun j => by
  rw [wo_tb, tb_0]
  cases e : x.testBit j with
  | false => rfl
  | true => rw [h j e]; rfl
theorem bad_ev (hW : WF a) {w k : Nat} (hw : w < 2 ^ (aS a).1) (hk : wo k (opn a) = 0) : evB ((aS a).1, (aS a).2.1, (aS a).2.2.1, (aS a).2.2.2 ||| k) w (aN a ||| wo (opn a) k) = !bad a w k := by
  by_cases c : wo w (aN a) &&& ((aS a).2.2.2 ||| k) = 0
  · have hb : bad a w k = false := by unfold bad; rw [decide_eq_false (fun q => q c)]
    rw [hb, evB_t.mpr ⟨0, nat_ext fun i => ?_⟩]
    · rfl
    · show ((aN a ||| wo (opn a) k) &&& w).testBit i = w.testBit i
      rw [Nat.testBit_and, Nat.testBit_or, wo_tb, opn_tb]
      cases hwi : w.testBit i with
      | false => rw [Bool.and_false]
      | true =>
        have hip : i < (aS a).1 := by
          rcases Nat.lt_or_ge i (aS a).1 with q | q
          · exact q
          · rw [tb_lt hw q] at hwi; exact absurd hwi (by decide)
        have := congrArg (fun z => z.testBit i) c
        simp only [Nat.testBit_and, Nat.testBit_or, wo_tb, tb_0, hwi, Bool.true_and] at this
        rw [decide_eq_true hip]
        cases h1 : (aN a).testBit i with
        | true => rfl
        | false =>
          rw [h1] at this
          cases h2 : (aS a).2.2.2.testBit i with
          | true => rw [h2] at this; exact absurd this (by simp)
          | false =>
            rw [h2] at this
            cases h3 : k.testBit i with
            | true => rw [h3] at this; exact absurd this (by simp)
            | false => rfl
  · have hb : bad a w k = true := by unfold bad; rw [decide_eq_true c]
    obtain ⟨i, h1, h2⟩ := (and_ne0 _ _).mp c
    rw [wo_tb, Bool.and_eq_true] at h1
    obtain ⟨hwi, hni⟩ := h1
    have hip : i < (aS a).1 := by
      rcases Nat.lt_or_ge i (aS a).1 with q | q
      · exact q
      · rw [tb_lt hw q] at hwi; exact absurd hwi (by decide)
    rw [hb, evB_f (fun j q => ?_)]
    · rfl
    · have e1 := congrArg (fun z => z.testBit i) q
      have e2 := itr_firm (S := ((aS a).1, (aS a).2.1, (aS a).2.2.1, (aS a).2.2.2 ||| k)) (i := i) hip h2 j (aN a ||| wo (opn a) k)
      simp only [Nat.testBit_and, hwi, Bool.and_true] at e1
      rw [e2, Nat.testBit_or, wo_tb, opn_tb] at e1
      rw [Nat.testBit_or] at h2
      cases z1 : (aN a).testBit i with
      | true => rw [z1] at hni; exact absurd hni (by decide)
      | false =>
        rw [z1] at e1
        cases z2 : k.testBit i with
        | true => rw [z2] at e1; simp at e1
        | false =>
          cases z3 : (aS a).2.2.2.testBit i with
          | true => rw [z3] at e1; simp at e1
          | false => rw [z2, z3] at h2; exact absurd h2 (by decide)
def guP (a : Ab) (w : Nat) (o : Option Nat) (k : Nat) : Bool := decide (wo k (opn a) = 0) && ((match o with
  | none => true
  | some v => decide (pcN k < pcN v)) && bad a w k)
def guF (a : Ab) (w : Nat) : Nat → Option Nat
  | 0 => none
  | k + 1 => if guP a w (guF a w k) k then some k else guF a w k
theorem guF_lt (a : Ab) (w : Nat) : ∀ k v, guF a w k = some v → v < k
  | 0, _, h => absurd h (by simp [guF])
  | k + 1, v, h => by
    rw [guF] at h
    by_cases c : guP a w (guF a w k) k = true
    · rw [if_pos c] at h
      have := Option.some.inj h
      omega
    · rw [if_neg c] at h
      have := guF_lt a w k v h
      omega
def guA (a : Ab) (o : Option Nat) : Int32 × Ab := match o with
  | none => (-2, a)
  | some v => (nI (pcN v), aSetR a [(nI v).toInt64])
theorem m_guard_lp (hN : N < 600) {w : Nat} (hw : w < 2 ^ (aS a).1) : ∀ r k g Q (μ : Mem), k + r = 2 ^ (aS a).1 → r < g → Q + r ≤ 50000 * N + 50000 → MI N Q a μ0 μ → ∃ μ', f_m_guard_b31 g (nI w) (nI (opn a)) (nI (aS a).2.2.2) (oI (guF a w k)) (nI k) μ = some ((guA a (guF a w (2 ^ (aS a).1))).1, μ') ∧ MO N (guA a (guF a w (2 ^ (aS a).1))).2 μ0 μ' := by
  intro r
  induction r with
  | zero =>
    intro k g Q μ hk hg hQ h
    obtain ⟨g, rfl⟩ : ∃ z, g = z + 1 := ⟨g - 1, by omega⟩
    have h14 := p2_14 h.1.1.1
    have h1p := Nat.one_le_two_pow (n := (aS a).1)
    obtain rfl : k = 2 ^ (aS a).1 := by omega
    rw [f_m_guard_b31, m_everybody h.2.1.1, bd2_s, if_pos ((i_ltN (by omega) (by omega)).mpr (by omega))]
    cases e : guF a w (2 ^ (aS a).1) with
    | none => exact ⟨μ, by rw [if_pos (show oI none = -1 from rfl)]; rfl, h.done hN⟩
    | some v =>
      have hv := guF_lt _ _ _ _ e
      obtain ⟨c1, c2⟩ := m_clear μ
      obtain ⟨μ1, a1, a2, a3⟩ := m_tell (nI v).toInt64 c1 (by simp)
      refine ⟨μ1, ?_, h.told hN (by simp) a2 (c2.tr a3)⟩
      rw [if_neg (show ¬ oI (some v) = -1 from nI_ne_m1 (by omega)), show oI (some v) = nI v from rfl, bnd_s, a1, bd1_s, jd_bc (by omega), bd2_s]
      rfl
  | succ r ih =>
    intro k g Q μ hk hg hQ h
    obtain ⟨g, rfl⟩ : ∃ z, g = z + 1 := ⟨g - 1, by omega⟩
    have h14 := p2_14 h.1.1.1
    have hnow := now_lt h.1
    have hks : k < 2 ^ (aS a).1 := by omega
    have hwo : wo k (opn a) < 2 ^ (aS a).1 := wo_lt hks
    have hfm : (aS a).2.2.2 < 2 ^ (aS a).1 := h.1.1.2.2.2
    rw [f_m_guard_b31, m_everybody h.2.1.1, bd2_s, if_neg (fun q => absurd ((i_ltN (by omega) (by omega)).mp q) (by omega)), i_wo]
    by_cases c1 : wo k (opn a) = 0
    · have e71 : (match guF a w k with | none => true | some v => decide (pcN k < pcN v)) = true → ∃ μ', f_m_guard_b71 (f_m_guard_b31 g) (nI w) (nI (opn a)) (nI (aS a).2.2.2) (oI (guF a w k)) (nI k) μ = some ((guA a (guF a w (2 ^ (aS a).1))).1, μ') ∧ MO N (guA a (guF a w (2 ^ (aS a).1))).2 μ0 μ' := fun c2 => by
        have hx := h.firm (F := (aS a).2.2.2 ||| k) (or_lt hfm hks)
        obtain ⟨μ1, k1, k2⟩ := m_ever (a := aSetS a ((aS a).1, (aS a).2.1, (aS a).2.2.1, (aS a).2.2.2 ||| k)) (Q := Q) (w := w) (s := aN a ||| wo (opn a) k) (or_lt hnow (wo_lt (opn_lt a))) hw hx (by omega)
        have hy : MI N (Q + 1) a μ0 (setI μ1 v_m_firm 0 (nI (aS a).2.2.2)) := k2.firm (F := (aS a).2.2.2) hfm
        have hbv := bad_ev h.1 hw c1
        have k1' : f_m_everAll (nI w) (nI (aN a ||| wo (opn a) k)) (setI μ v_m_firm 0 (nI ((aS a).2.2.2 ||| k))) = some (nI (bN (evB ((aS a).1, (aS a).2.1, (aS a).2.2.1, (aS a).2.2.2 ||| k) w (aN a ||| wo (opn a) k))), μ1) := k1
        have hnw : f_m_now (setI μ v_m_firm 0 (nI ((aS a).2.2.2 ||| k))) = some (nI (aN a), setI μ v_m_firm 0 (nI ((aS a).2.2.2 ||| k))) := m_now (a := aSetS a ((aS a).1, (aS a).2.1, (aS a).2.2.1, (aS a).2.2.2 ||| k)) hx.1 hx.2.1.2.1
        unfold f_m_guard_b71
        rw [i_or, bnd_s, hnw, bd2_s, i_wo, i_or, k1', hbv, bd2_s]
        unfold f_m_guard_b102
        cases c3 : bad a w k with
        | true =>
          have e : guF a w (k + 1) = some k := by
            rw [guF, if_pos]; unfold guP; rw [decide_eq_true c1, c2, c3]; rfl
          have := ih (k + 1) g (Q + 1) _ (by omega) (by omega) (by omega) hy
          rw [e] at this
          rw [if_pos (show nI (bN (!true)) = 0 by decide), bnd_s, l_1, i_add]
          exact this
        | false =>
          have e : guF a w (k + 1) = guF a w k := by
            rw [guF, if_neg]; unfold guP; rw [c3]; simp
          have := ih (k + 1) g (Q + 1) _ (by omega) (by omega) (by omega) hy
          rw [e] at this
          rw [if_neg (show ¬ nI (bN (!false)) = 0 by decide), bnd_s, l_1, i_add]
          exact this
      rw [c1, if_pos (show nI 0 = 0 from rfl)]
      cases e : guF a w k with
      | none =>
        rw [e] at e71
        rw [if_pos (show oI none = -1 from rfl)]
        exact e71 rfl
      | some v =>
        have hv := guF_lt _ _ _ _ e
        have hp1 := pcN_le k
        have hp2 := pcN_le v
        rw [e] at e71
        rw [if_neg (show ¬ oI (some v) = -1 from nI_ne_m1 (by omega)), show oI (some v) = nI v from rfl, jd_bc (by omega), bd2_s, jd_bc (by omega), bd2_s]
        by_cases c2 : pcN k < pcN v
        · rw [if_pos ((i_ltN (by omega) (by omega)).mpr c2)]
          exact e71 (decide_eq_true c2)
        · have e' : guF a w (k + 1) = some v := by
            rw [guF, if_neg, e]; unfold guP; rw [e]; show ¬ (_ && (decide (pcN k < pcN v) && _)) = true; rw [decide_eq_false c2]; simp
          have := ih (k + 1) g Q μ (by omega) (by omega) (by omega) h
          rw [e'] at this
          rw [if_neg (fun q => c2 ((i_ltN (by omega) (by omega)).mp q)), l_1, i_add]
          exact this
    · have e : guF a w (k + 1) = guF a w k := by
        rw [guF, if_neg]; unfold guP; rw [decide_eq_false c1]; simp
      have := ih (k + 1) g Q μ (by omega) (by omega) (by omega) h
      rw [e] at this
      rw [if_neg (nI_nz (by omega) c1), l_1, i_add]
      exact this
theorem guF_none {w : Nat} (h : wo w (aN a) = 0) : ∀ k, guF a w k = none
  | 0 => rfl
  | k + 1 => by
    rw [guF, if_neg, guF_none h k]
    unfold guP bad
    rw [h, Nat.zero_and]
    simp
theorem guF_zero {w : Nat} (h : wo w (aN a) &&& (aS a).2.2.2 ≠ 0) : ∀ k, 1 ≤ k → guF a w k = some 0
  | 0, h => absurd h (by omega)
  | k + 1, _ => by
    rcases Nat.eq_zero_or_pos k with q | q
    · subst q
      rw [guF, if_pos]
      unfold guP bad
      rw [Nat.or_zero, decide_eq_true h, decide_eq_true (show wo 0 (opn a) = 0 from wo_0' (fun j q => by rw [tb_0] at q; exact absurd q (by decide)))]
      rfl
    · rw [guF, if_neg, guF_zero h k q]
      rw [guF_zero h k q]
      unfold guP
      show ¬ (_ && (decide (pcN k < pcN 0) && _)) = true
      rw [show pcN 0 = 0 from by decide, decide_eq_false (Nat.not_lt_zero _)]
      simp
theorem guF_low (hW : WF a) {w l : Nat} (hw : w < 2 ^ (aS a).1) (h : wo w (aN a) &&& (aS a).2.2.2 = 0) (h1 : (wo w (aN a)).testBit l = true) (h2 : ∀ j, j < l → (wo w (aN a)).testBit j = false) : ∀ k, k ≤ 2 ^ (aS a).1 → guF a w k = if k ≤ 2 ^ l then none else some (2 ^ l)
  | 0, _ => by rw [if_pos (Nat.zero_le _)]; rfl
  | k + 1, hk => by
    have h14 := p2_14 hW.1.1
    have hlp : l < (aS a).1 := by
      rcases Nat.lt_or_ge l (aS a).1 with q | q
      · exact q
      · rw [tb_lt (wo_lt hw) q] at h1; exact absurd h1 (by decide)
    have ih := guF_low hW hw h h1 h2 k (by omega)
    have hf : (aS a).2.2.2.testBit l = false := by
      have := congrArg (fun z => z.testBit l) h
      simp only [Nat.testBit_and, h1, tb_0, Bool.true_and] at this
      exact this
    rcases Nat.lt_trichotomy k (2 ^ l) with q | q | q
    · rw [if_pos (by omega)] at ih
      rw [guF, ih, if_pos (show k + 1 ≤ 2 ^ l by omega), if_neg]
      unfold guP bad
      rw [decide_eq_false (show ¬ wo w (aN a) &&& ((aS a).2.2.2 ||| k) ≠ 0 from fun z => ?_)]
      · simp
      · obtain ⟨i, i1, i2⟩ := (and_ne0 _ _).mp z
        rw [Nat.testBit_or, Bool.or_eq_true] at i2
        rcases i2 with i2 | i2
        · have := congrArg (fun z => z.testBit i) h
          simp only [Nat.testBit_and, i1, i2, tb_0] at this
          exact absurd this (by decide)
        · rcases Nat.lt_or_ge i l with z | z
          · rw [h2 i z] at i1; exact absurd i1 (by decide)
          · rw [tb_lt q z] at i2; exact absurd i2 (by decide)
    · rw [if_pos (by omega)] at ih
      rw [guF, ih, if_neg (show ¬ k + 1 ≤ 2 ^ l by omega), if_pos, q]
      unfold guP bad
      rw [wo_tb, Bool.and_eq_true] at h1
      rw [q, decide_eq_true (show wo w (aN a) &&& ((aS a).2.2.2 ||| 2 ^ l) ≠ 0 from (and_ne0 _ _).mpr ⟨l, by rw [wo_tb, h1.1, h1.2]; rfl, by rw [Nat.testBit_or, tb_p2]; simp⟩), decide_eq_true (show wo (2 ^ l) (opn a) = 0 from wo_0' (fun j z => ?_))]
      · rfl
      · rw [tb_p2, decide_eq_true_iff] at z
        subst z
        rw [opn_tb, decide_eq_true hlp, hf, h1.2]
        rfl
    · rw [if_neg (by omega)] at ih
      rw [guF, ih, if_neg (show ¬ k + 1 ≤ 2 ^ l by omega), if_neg]
      unfold guP
      have hp := pcN_pos (k := k) (by have := Nat.two_pow_pos l; omega) (by omega)
      show ¬ (_ && (decide (pcN k < pcN (2 ^ l)) && _)) = true
      rw [pcN_p2 l (by have := hW.1.1; omega), decide_eq_false (show ¬ pcN k < 1 by omega)]
      simp
theorem op_guard (x : Int32) : OpI N a (f_x_guard x) (f_m_guard x) := by
  intro hW hN
  have h14 := p2_14 hW.1.1
  have h1p := Nat.one_le_two_pow (n := (aS a).1)
  refine op_some (gx := fun x μ1 => bd2 (f_ta_keepFrom x μ1) fun v7 μ5 => some (v7, μ5)) (gm := fun x μ3 => bd2 (f_m_open μ3) fun v9 μ7 => f_m_guard_b31 FU x v9 (μ7.1 v_m_firm 0) (-1 : Int32) (0 : Int32) μ7) x (fun μ => rfl) (fun μ => rfl) hW hN (fun w hw _ => ?_)
  refine ⟨(guA a (guF a w (2 ^ (aS a).1))).1, (guA a (guF a w (2 ^ (aS a).1))).2, fun μ h => ?_, fun ν Q ν1 hQ hI => ?_⟩
  · have hD : wo w (aN a) < 2 ^ (aS a).1 := wo_lt hw
    have hDf : wo w (aN a) &&& (aS a).2.2.2 < 2 ^ (aS a).1 := and_lt hD
    unfold f_ta_keepFrom
    rw [st_now hW h.2.1, bd2_s, i_wo, h.2.1.1.2.2.2.1, i_and]
    by_cases c1 : wo w (aN a) = 0
    · rw [guF_none c1, c1]
      exact ⟨μ, by rw [if_pos (show nI 0 = 0 from rfl), bd2_s]; rfl, h.XI.done hN⟩
    · rw [if_neg (nI_nz (by omega) c1)]
      by_cases c2 : wo w (aN a) &&& (aS a).2.2.2 = 0
      · obtain ⟨j, hj⟩ := Nat.exists_testBit_of_ne_zero c1
        obtain ⟨l, l1, l2, l3⟩ := least_n (P := fun j => (wo w (aN a)).testBit j = true) j hj
        have l3' : ∀ j, j < l → (wo w (aN a)).testBit j = false := fun j hj => by
          cases e : (wo w (aN a)).testBit j with
          | false => rfl
          | true => exact absurd e (l3 j hj)
        have hlp : l < (aS a).1 := by
          rcases Nat.lt_or_ge l (aS a).1 with q | q
          · exact q
          · have : (wo w (aN a)).testBit l = true := l2
            rw [tb_lt hD q] at this; exact absurd this (by decide)
        have h13 := hW.1.1
        have hpl : 2 ^ l < 2 ^ (aS a).1 := Nat.pow_lt_pow_right (by omega) hlp
        obtain ⟨μ1, a1, a2, a3⟩ := rw_only (nI (2 ^ l)).toInt64 μ
        rw [guF_low hW hw c2 l2 l3' _ (Nat.le_refl _), if_neg (show ¬ 2 ^ (aS a).1 ≤ 2 ^ l by omega)]
        refine ⟨μ1, ?_, h.XI.told hN (by simp) a2 a3⟩
        rw [c2, if_pos (show nI 0 = 0 from rfl)]
        unfold f_jd_lowestOneBit
        rw [bd2_s, i_low (by omega) l2 l3', a1, bd1_s, bd2_s]
        show _ = some (nI (pcN (2 ^ l)), μ1)
        rw [pcN_p2 l (by omega)]
        rfl
      · obtain ⟨μ1, a1, a2, a3⟩ := rw_only (nI 0).toInt64 μ
        rw [guF_zero c2 _ h1p]
        refine ⟨μ1, ?_, h.XI.told hN (by simp) a2 a3⟩
        rw [if_neg (nI_nz (by omega) c2), show f_rw_only (0 : Int64) μ = some μ1 from a1, bd1_s, bd2_s]
        rfl
  · rw [m_open hI.1 hI.2.1.1 hI.2.1.2.1, bd2_s, hI.2.1.1.2.2.2.1]
    exact m_guard_lp hN hw (2 ^ (aS a).1) 0 FU Q ν1 (by omega) (by unfold FU; omega) (by omega) hI
end OPS
