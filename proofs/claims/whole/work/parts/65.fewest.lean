/-! fewest, cheapest. -/
theorem nI_nz {n : Nat} (h : n < 2 ^ 31) (hn : n ≠ 0) : ¬ nI n = 0 := fun q => hn (nI_inj (b := 0) h (by omega) q)
/-- the first DAY of d .. on which all of w believe -/
def doN (S : SP) (w : Nat) : Nat → Nat → Nat → Option Nat
  | 0, _, _ => none
  | m + 1, d, s => if s &&& w = w then some d else doN S w m (d + 1) (nxt S s)
theorem doN_fix {S : SP} {w s : Nat} (h : nxt S s = s) (hn : ¬ s &&& w = w) : ∀ m d, doN S w m d s = none
  | 0, _ => rfl
  | m + 1, d => by rw [doN, if_neg hn, h]; exact doN_fix h hn m (d + 1)
theorem doN_lt {S : SP} {w : Nat} : ∀ m d s v, doN S w m d s = some v → v < d + m
  | 0, _, _, _, h => absurd h (by simp [doN])
  | m + 1, d, s, v, h => by
    rw [doN] at h
    by_cases c : s &&& w = w
    · rw [if_pos c] at h
      have := Option.some.inj h
      omega
    · rw [if_neg c] at h
      have := doN_lt m (d + 1) _ v h
      omega
def dyF (S : SP) (w n s : Nat) : Option Nat := doN S w (n + 1) 0 s
section OPS
variable {N : Nat} {a : Ab} {b : Nat × Nat} {μ0 μ : Mem} {Q : Nat} {S : SP}
theorem x_dayOf_lp {w n : Nat} (hw : w < 2 ^ (aS a).1) (hn : n < 19000) : ∀ m d g s (μ : Mem), d + m = n + 1 → m < g → s < 2 ^ (aS a).1 → XI N b a μ0 μ → ∃ μ', f_he_dayOf_b6 0 g (nI w) (nI n) (nI s) (nI d) μ = some (oI (doN (aS a) w m d s), μ') ∧ XI N b a μ0 μ' ∧ AF μ μ' := by
  intro m
  induction m with
  | zero =>
    intro d g s μ hd hg hs h
    obtain ⟨g, rfl⟩ : ∃ z, g = z + 1 := ⟨g - 1, by omega⟩
    refine ⟨μ, ?_, h, ⟨fun _ _ => rfl, fun _ _ => rfl⟩⟩
    rw [f_he_dayOf_b6, if_pos ((i_ltN (by omega) (by omega)).mpr (by omega))]
    rfl
  | succ m ih =>
    intro d g s μ hd hg hs h
    obtain ⟨g, rfl⟩ : ∃ z, g = z + 1 := ⟨g - 1, by omega⟩
    have h14 := p2_14 h.1.1.1
    have hsw : s &&& w < 2 ^ (aS a).1 := and_lt hs
    rw [f_he_dayOf_b6, if_neg (fun q => absurd ((i_ltN (by omega) (by omega)).mp q) (by omega)), i_and, doN]
    by_cases c : s &&& w = w
    · refine ⟨μ, ?_, h, ⟨fun _ _ => rfl, fun _ _ => rfl⟩⟩
      rw [if_pos (by rw [c]), if_pos c]
      rfl
    · obtain ⟨μ1, l1, l2, l3⟩ := h.after hs
      have hx := nxt_lt (aS a) s
      rw [if_neg (fun q => c (nI_inj (by omega) (by omega) q)), if_neg c, l1, bd2_s]
      by_cases e : nxt (aS a) s = s
      · refine ⟨μ1, ?_, l2, l3⟩
        rw [if_pos (by rw [e]), e, doN_fix e c]
        rfl
      · obtain ⟨μ', k1, k2, k3⟩ := ih (d + 1) g (nxt (aS a) s) μ1 (by omega) (by omega) hx l2
        refine ⟨μ', ?_, k2, ⟨fun v hv => (k3.1 v hv).trans (l3.1 v hv), fun v hv => (k3.2 v hv).trans (l3.2 v hv)⟩⟩
        rw [if_neg (fun q => e (nI_inj (by omega) (by omega) q)), l_1, i_add]
        exact k1
theorem x_dayOf {w n s : Nat} (hw : w < 2 ^ (aS a).1) (hs : s < 2 ^ (aS a).1) (hn : n < 19000) (h : XI N b a μ0 μ) : ∃ μ', f_he_dayOf 0 (nI s) (nI w) (nI n) μ = some (oI (dyF (aS a) w n s), μ') ∧ XI N b a μ0 μ' ∧ AF μ μ' :=
  x_dayOf_lp hw hn (n + 1) 0 FU s μ (by omega) (by unfold FU; omega) hs h
theorem m_dayOf_lp (h : MB S μ) {w n : Nat} (hw : w < 2 ^ S.1) (hn : n < 19000) : ∀ m d g s, d + m = n + 1 → m < g → s < 2 ^ S.1 → f_m_dayOf_b6 g (nI w) (nI n) (nI s) (nI d) μ = some (oI (doN S w m d s), μ) := by
  intro m
  induction m with
  | zero =>
    intro d g s hd hg hs
    obtain ⟨g, rfl⟩ : ∃ z, g = z + 1 := ⟨g - 1, by omega⟩
    rw [f_m_dayOf_b6, if_pos ((i_ltN (by omega) (by omega)).mpr (by omega))]
    rfl
  | succ m ih =>
    intro d g s hd hg hs
    obtain ⟨g, rfl⟩ : ∃ z, g = z + 1 := ⟨g - 1, by omega⟩
    have h14 := p2_14 h.2.2.2.2.1
    have hsw : s &&& w < 2 ^ S.1 := and_lt hs
    rw [f_m_dayOf_b6, if_neg (fun q => absurd ((i_ltN (by omega) (by omega)).mp q) (by omega)), i_and, doN]
    by_cases c : s &&& w = w
    · rw [if_pos (by rw [c]), if_pos c]
      rfl
    · rw [if_neg (fun q => c (nI_inj (by omega) (by omega) q)), if_neg c, m_next h hs, bd2_s, l_1, i_add]
      exact ih (d + 1) g _ (by omega) (by omega) (nxt_lt S s)
theorem m_dayOf (h : MB S μ) {w n s : Nat} (hw : w < 2 ^ S.1) (hs : s < 2 ^ S.1) (hn : n < 19000) : f_m_dayOf (nI w) (nI s) (nI n) μ = some (oI (dyF S w n s), μ) :=
  m_dayOf_lp h hw hn (n + 1) 0 FU s (by omega) (by unfold FU; omega) hs
theorem dyF_ne {S : SP} {w n s : Nat} (hn : n < 19000) : oI (dyF S w n s) = -1 ↔ dyF S w n s = none := by
  constructor
  · intro q
    exact oI_inj (y := none) (fun v e => by have := doN_lt _ _ _ _ e; omega) (fun v e => absurd e (by simp)) q
  · intro q; rw [q]; rfl
/-- what a set costs: by its number alone, or by prices first -/
def cst (a : Ab) (pd : Bool) (k : Nat) : Nat := pcN k + (if pd then prS (aS a).1 (aPr a) k * 16 else 0)
def cst0 (a : Ab) (pd : Bool) (o : Option Nat) : Nat := match o with
  | none => 16000
  | some k => cst a pd k
def ftP (a : Ab) (pd : Bool) (w n : Nat) (o : Option Nat) (k : Nat) : Bool := decide (wo k (opn a) = 0) && (decide (cst a pd k < cst0 a pd o) && (dyF (aS a) w n (aN a ||| k)).isSome)
def ftF (a : Ab) (pd : Bool) (w n : Nat) : Nat → Option Nat
  | 0 => none
  | k + 1 => if ftP a pd w n (ftF a pd w n k) k then some k else ftF a pd w n k
theorem ftF_lt (a : Ab) (pd : Bool) (w n : Nat) : ∀ k v, ftF a pd w n k = some v → v < k
  | 0, _, h => absurd h (by simp [ftF])
  | k + 1, v, h => by
    rw [ftF] at h
    by_cases c : ftP a pd w n (ftF a pd w n k) k = true
    · rw [if_pos c] at h
      have := Option.some.inj h
      omega
    · rw [if_neg c] at h
      have := ftF_lt a pd w n k v h
      omega
theorem cst_le (hW : WF a) (pd : Bool) (k : Nat) : cst a pd k ≤ 2100 := by
  have h1 := pcN_le k
  have h2 := prS_le hW.1.1 hW.2.2.1 k
  unfold cst
  split <;> omega
theorem cst0_le (hW : WF a) (pd : Bool) (o : Option Nat) : cst0 a pd o ≤ 16000 := by
  cases o with
  | none => exact Nat.le_refl _
  | some k => have := cst_le hW pd k; show cst a pd k ≤ _; omega
def ftA (a : Ab) (pd : Bool) (o : Option Nat) : Int32 × Ab := match o with
  | none => (-2, a)
  | some k => (nI (if pd then prS (aS a).1 (aPr a) k else pcN k), aSetR a [(nI k).toInt64])
theorem i_div16 {n : Nat} (h : n < 2 ^ 31) : nI n / (16 : Int32) = nI (n / 16) := by
  rw [l_16]
  apply Int32.toBitVec_inj.1
  show (BitVec.ofNat 32 n).sdiv (BitVec.ofNat 32 16) = BitVec.ofNat 32 (n / 16)
  have h1 : (BitVec.ofNat 32 n).msb = false := by
    rw [BitVec.msb_eq_decide]
    simp
    omega
  have h2 : (BitVec.ofNat 32 16).msb = false := by decide
  rw [BitVec.sdiv_eq, h1, h2]
  show (BitVec.ofNat 32 n) / (BitVec.ofNat 32 16) = _
  apply BitVec.eq_of_toNat_eq
  rw [BitVec.toNat_udiv, BitVec.toNat_ofNat, BitVec.toNat_ofNat, BitVec.toNat_ofNat, Nat.mod_eq_of_lt (by omega), Nat.mod_eq_of_lt (by omega), Nat.mod_eq_of_lt (by omega)]
theorem x_atOnce_lp (hN : N < 600) {w n : Nat} (pd : Bool) (hw : w < 2 ^ (aS a).1) (hn : n < 19000) : ∀ r k g (μ : Mem), k + r = 2 ^ (aS a).1 → r < g → XI N b a μ0 μ → ∃ μ', f_ta_atOnce_b20 g (nI w) (nI n) (nI (bN pd)) (nI (opn a)) (oI (ftF a pd w n k)) (nI (cst0 a pd (ftF a pd w n k))) (nI k) μ = some ((ftA a pd (ftF a pd w n (2 ^ (aS a).1))).1, μ') ∧ XO N (ftA a pd (ftF a pd w n (2 ^ (aS a).1))).2 μ0 μ' := by
  intro r
  induction r with
  | zero =>
    intro k g μ hk hg h
    obtain ⟨g, rfl⟩ : ∃ z, g = z + 1 := ⟨g - 1, by omega⟩
    have h14 := p2_14 h.1.1.1
    have h1p := Nat.one_le_two_pow (n := (aS a).1)
    obtain rfl : k = 2 ^ (aS a).1 := by omega
    rw [f_ta_atOnce_b20, st_everybody h.2.1.1, bd2_s, if_pos ((i_ltN (by omega) (by omega)).mpr (by omega))]
    cases e : ftF a pd w n (2 ^ (aS a).1) with
    | none => exact ⟨μ, by rw [if_pos (show oI none = -1 from rfl)]; rfl, h.done hN⟩
    | some v =>
      have hv := ftF_lt _ _ _ _ _ _ e
      have hc := cst_le h.1 pd v
      obtain ⟨μ1, a1, a2, a3⟩ := rw_only (nI v).toInt64 μ
      refine ⟨μ1, ?_, h.told hN (by simp) a2 a3⟩
      rw [if_neg (show ¬ oI (some v) = -1 from nI_ne_m1 (by omega)), show oI (some v) = nI v from rfl, a1, bd1_s]
      show _ = some (nI (if pd then prS (aS a).1 (aPr a) v else pcN v), μ1)
      have hc0 : cst0 a pd (some v) = cst a pd v := rfl
      rw [hc0]
      cases pd with
      | false => rw [if_pos (by decide)]; rfl
      | true =>
        rw [if_neg (by decide), i_div16 (by omega)]
        have : cst a true v / 16 = prS (aS a).1 (aPr a) v := by
          have h1 := pcN_le v
          show (pcN v + prS (aS a).1 (aPr a) v * 16) / 16 = _
          omega
        rw [this]; rfl
  | succ r ih =>
    intro k g μ hk hg h
    obtain ⟨g, rfl⟩ : ∃ z, g = z + 1 := ⟨g - 1, by omega⟩
    have h14 := p2_14 h.1.1.1
    have hnow := now_lt h.1
    have hks : k < 2 ^ (aS a).1 := by omega
    have hc := cst_le h.1 pd k
    have hc0 := cst0_le h.1 pd (ftF a pd w n k)
    have hwo : wo k (opn a) < 2 ^ (aS a).1 := wo_lt hks
    rw [f_ta_atOnce_b20, st_everybody h.2.1.1, bd2_s, if_neg (fun q => absurd ((i_ltN (by omega) (by omega)).mp q) (by omega)), i_wo]
    by_cases c1 : wo k (opn a) = 0
    · have e67 : ∀ s0 s1 : Int32, s0 + s1 = nI (cst a pd k) → ∃ μ', f_ta_atOnce_b67 (f_ta_atOnce_b20 g) (nI w) (nI n) (nI (bN pd)) (nI (opn a)) (oI (ftF a pd w n k)) (nI (cst0 a pd (ftF a pd w n k))) (nI k) s0 s1 μ = some ((ftA a pd (ftF a pd w n (2 ^ (aS a).1))).1, μ') ∧ XO N (ftA a pd (ftF a pd w n (2 ^ (aS a).1))).2 μ0 μ' := fun s0 s1 hs01 => by
        unfold f_ta_atOnce_b67
        rw [hs01]
        by_cases c2 : cst a pd k < cst0 a pd (ftF a pd w n k)
        · obtain ⟨μ1, l1, l2, _⟩ := x_dayOf (s := aN a ||| k) hw (or_lt hnow hks) hn h
          rw [if_neg (fun q => absurd ((i_leN (by omega) (by omega)).mp q) (by omega)), st_now h.1 h.2.1, bd2_s, i_or, l1, bd2_s]
          by_cases c3 : dyF (aS a) w n (aN a ||| k) = none
          · rw [if_pos ((dyF_ne hn).mpr c3), l_1, i_add]
            have e : ftF a pd w n (k + 1) = ftF a pd w n k := by
              rw [ftF, if_neg]; unfold ftP; rw [c3]; simp
            rw [← e]
            exact ih (k + 1) g μ1 (by omega) (by omega) l2
          · rw [if_neg (fun q => c3 ((dyF_ne hn).mp q)), l_1, i_add]
            have e : ftF a pd w n (k + 1) = some k := by
              rw [ftF, if_pos]; unfold ftP; rw [decide_eq_true c1, decide_eq_true c2, Option.isSome_iff_ne_none.mpr c3]; rfl
            have := ih (k + 1) g μ1 (by omega) (by omega) l2
            rw [e] at this
            exact this
        · rw [if_pos ((i_leN (by omega) (by omega)).mpr (by omega)), l_1, i_add]
          have e : ftF a pd w n (k + 1) = ftF a pd w n k := by
            rw [ftF, if_neg]; unfold ftP; rw [decide_eq_false c2]; simp
          rw [← e]
          exact ih (k + 1) g μ (by omega) (by omega) h
      rw [c1, if_pos (show nI 0 = 0 from rfl), jd_bc (by omega), bd2_s]
      cases hpd : pd with
      | false =>
        rw [hpd] at e67
        rw [if_pos (show nI (bN false) = 0 by decide)]
        exact e67 _ _ (by rw [l_0, i_add]; rfl)
      | true =>
        rw [hpd] at e67
        rw [if_neg (show ¬ nI (bN true) = 0 by decide), st_priceOf h.2.1.1 h.2.1.2.1.1 (by omega), bd2_s]
        exact e67 _ _ (by rw [l_16, i_mul, i_add]; rfl)
    · rw [if_neg (nI_nz (by omega) c1), l_1, i_add]
      have e : ftF a pd w n (k + 1) = ftF a pd w n k := by
        rw [ftF, if_neg]; unfold ftP; rw [decide_eq_false c1]; simp
      rw [← e]
      exact ih (k + 1) g μ (by omega) (by omega) h
theorem m_isLess (hW : WF a) (hB : MB (aS a) μ) (hD : MDs a μ) (pd : Bool) {k v : Nat} (hk : k < 16384) (hv : v < 16384) : f_m_isLess (nI k) (nI v) (nI (bN pd)) μ = some (nI (bN (decide (cst a pd k < cst a pd v))), μ) := by
  have h1 := pcN_le k
  have h2 := pcN_le v
  have h3 := prS_le hW.1.1 hW.2.2.1 k
  have h4 := prS_le hW.1.1 hW.2.2.1 v
  have e36 : pcN k < pcN v ∨ ¬ pcN k < pcN v → f_m_isLess_b36 (nI k) (nI v) μ = some (nI (bN (decide (pcN k < pcN v))), μ) := fun _ => by
    unfold f_m_isLess_b36
    rw [jd_bc hk, bd2_s, jd_bc hv, bd2_s, b_ifn, bnd_s, zb_b, chk_t]
    have : decide (¬ nI (pcN v) ≤ nI (pcN k)) = decide (pcN k < pcN v) := decide_eq_decide.mpr (by rw [i_leN (by omega) (by omega), Nat.not_le])
    rw [this]
  have e36' := e36 (Classical.em _)
  unfold f_m_isLess
  cases pd with
  | false => rw [if_pos (by decide), e36']; rfl
  | true =>
    rw [if_neg (by decide), m_priceOf hB hD.1 (by omega), bd2_s, m_priceOf hB hD.1 (by omega), bd2_s]
    have hck : ∀ x, cst a true x = pcN x + prS (aS a).1 (aPr a) x * 16 := fun x => rfl
    rw [hck, hck]
    by_cases c : prS (aS a).1 (aPr a) k = prS (aS a).1 (aPr a) v
    · rw [if_pos (by rw [c]), e36']
      have : decide (pcN k < pcN v) = decide (pcN k + prS (aS a).1 (aPr a) k * 16 < pcN v + prS (aS a).1 (aPr a) v * 16) := decide_eq_decide.mpr (by omega)
      rw [this]
    · rw [if_neg (fun q => c (nI_inj (by omega) (by omega) q)), m_priceOf hB hD.1 (by omega), bd2_s, m_priceOf hB hD.1 (by omega), bd2_s, b_ifn, bnd_s, zb_b, chk_t]
      have : decide (¬ nI (prS (aS a).1 (aPr a) v) ≤ nI (prS (aS a).1 (aPr a) k)) = decide (pcN k + prS (aS a).1 (aPr a) k * 16 < pcN v + prS (aS a).1 (aPr a) v * 16) := decide_eq_decide.mpr (by rw [i_leN (by omega) (by omega), Nat.not_le]; omega)
      rw [this]
theorem m_findT_lp (h : MI N Q a μ0 μ) {w n : Nat} (pd : Bool) (hw : w < 2 ^ (aS a).1) (hn : n < 19000) : ∀ r k g, k + r = 2 ^ (aS a).1 → r < g → f_m_findTalked_b6 g (nI w) (nI n) (nI (bN pd)) (oI (ftF a pd w n k)) (nI k) μ = some (oI (ftF a pd w n (2 ^ (aS a).1)), μ) := by
  have h14 := p2_14 h.1.1.1
  have hnow := now_lt h.1
  have h1p := Nat.one_le_two_pow (n := (aS a).1)
  intro r
  induction r with
  | zero =>
    intro k g hk hg
    obtain ⟨g, rfl⟩ : ∃ z, g = z + 1 := ⟨g - 1, by omega⟩
    obtain rfl : k = 2 ^ (aS a).1 := by omega
    rw [f_m_findTalked_b6, m_everybody h.2.1.1, bd2_s, if_pos ((i_ltN (by omega) (by omega)).mpr (by omega))]
  | succ r ih =>
    intro k g hk hg
    obtain ⟨g, rfl⟩ : ∃ z, g = z + 1 := ⟨g - 1, by omega⟩
    have hks : k < 2 ^ (aS a).1 := by omega
    have hwo : wo k (opn a) < 2 ^ (aS a).1 := wo_lt hks
    have next := ih (k + 1) g (by omega) (by omega)
    rw [f_m_findTalked_b6, m_everybody h.2.1.1, bd2_s, if_neg (fun q => absurd ((i_ltN (by omega) (by omega)).mp q) (by omega)), m_open h.1 h.2.1.1 h.2.1.2.1, bd2_s, i_wo]
    by_cases c1 : wo k (opn a) = 0
    · have e51 : cst a pd k < cst0 a pd (ftF a pd w n k) → f_m_findTalked_b51 (f_m_findTalked_b6 g) (nI w) (nI n) (nI (bN pd)) (oI (ftF a pd w n k)) (nI k) μ = some (oI (ftF a pd w n (2 ^ (aS a).1)), μ) := fun c2 => by
        unfold f_m_findTalked_b51
        rw [m_now h.1 h.2.1.2.1, bd2_s, i_or, m_dayOf h.2.1.1 hw (or_lt hnow hks) hn, bd2_s]
        by_cases c3 : dyF (aS a) w n (aN a ||| k) = none
        · have e : ftF a pd w n (k + 1) = ftF a pd w n k := by
            rw [ftF, if_neg]; unfold ftP; rw [c3]; simp
          rw [e] at next
          rw [if_pos ((dyF_ne hn).mpr c3), l_1, i_add]
          exact next
        · have e : ftF a pd w n (k + 1) = some k := by
            rw [ftF, if_pos]; unfold ftP; rw [decide_eq_true c1, decide_eq_true c2, Option.isSome_iff_ne_none.mpr c3]; rfl
          rw [e] at next
          rw [if_neg (fun q => c3 ((dyF_ne hn).mp q)), l_1, i_add]
          exact next
      rw [c1, if_pos (show nI 0 = 0 from rfl)]
      cases e : ftF a pd w n k with
      | none =>
        rw [e] at e51
        rw [if_pos (show oI none = -1 from rfl)]
        exact e51 (by have := cst_le h.1 pd k; show cst a pd k < 16000; omega)
      | some v =>
        have hv := ftF_lt _ _ _ _ _ _ e
        rw [e] at e51
        rw [if_neg (show ¬ oI (some v) = -1 from nI_ne_m1 (by omega)), show oI (some v) = nI v from rfl, m_isLess h.1 h.2.1.1 h.2.1.2.1 pd (by omega) (by omega), bd2_s]
        by_cases c2 : cst a pd k < cst a pd v
        · rw [decide_eq_true c2, if_neg (by decide)]
          exact e51 c2
        · have e' : ftF a pd w n (k + 1) = some v := by
            rw [ftF, if_neg, e]; unfold ftP; rw [e]; show ¬ (_ && (decide (cst a pd k < cst a pd v) && _)) = true; rw [decide_eq_false c2]; simp
          rw [e'] at next
          rw [decide_eq_false c2, if_pos (by decide), l_1, i_add]
          exact next
    · have e : ftF a pd w n (k + 1) = ftF a pd w n k := by
        rw [ftF, if_neg]; unfold ftP; rw [decide_eq_false c1]; simp
      rw [e] at next
      rw [if_neg (nI_nz (by omega) c1), l_1, i_add]
      exact next
theorem x_talkDay {x : Int32} : f_x_isTalkDay x μ = some (nI (bN (decide (0 ≤ x ∧ x ≤ 20))), μ) := by
  unfold f_x_isTalkDay
  by_cases c1 : x < 0
  · rw [if_pos c1, bnd_s, zb_0, chk_t, decide_eq_false (fun q => by rw [i_lt] at c1; have := q.1; rw [i_le] at this; omega)]; rfl
  · rw [if_neg c1]
    by_cases c2 : 20 < x
    · rw [if_pos c2, bnd_s, zb_0, chk_t, decide_eq_false (fun q => by rw [i_lt] at c2; have := q.2; rw [i_le] at this; omega)]; rfl
    · rw [if_neg c2, bnd_s, zb_1, chk_t, decide_eq_true ⟨by rw [i_lt] at c1; rw [i_le]; omega, by rw [i_lt] at c2; rw [i_le]; omega⟩]; rfl
theorem m_talkDay {x : Int32} : f_m_isDays x 20 μ = some (nI (bN (decide (0 ≤ x ∧ x ≤ 20))), μ) := by
  unfold f_m_isDays
  rw [m_in, b_if, bd2_s, zb_b, chk_t]
theorem talk_n {x : Int32} (h : 0 ≤ x ∧ x ≤ 20) : ∃ n, n ≤ 20 ∧ x = nI n := by
  rcases i_cases x with q | ⟨n, hn, rfl⟩
  · have := h.1; rw [i_le] at this; rw [i_lt] at q; omega
  · exact ⟨n, (i_leN hn (by omega)).mp h.2, rfl⟩
/-- what a call with some of PEOPLE owes, where none such is told -/
theorem op_some {fx fm : Mem → Option (Int32 × Mem)} {gx gm : Int32 → Mem → Option (Int32 × Mem)} (x : Int32) (hfx : ∀ μ, fx μ = bd2 (f_st_hasAll x μ) fun v μ1 => if v = 0 then some (-1, μ1) else gx x μ1) (hfm : ∀ μ, fm μ = bnd (setI μ v_m_thrown 0 (0 : Int32)) fun μ1 => bd2 (f_m_areSome x μ1) fun v μ3 => if v = 0 then some (-1, μ3) else gm x μ3) (hW : WF a) (hN : N < 600) (h : ∀ w, w < 2 ^ (aS a).1 → x = nI w → ∃ ans a', (∀ μ, XR N a μ → ∃ μ', gx (nI w) μ = some (ans, μ') ∧ XO N a' μ μ') ∧ ∀ ν Q ν1, Q ≤ 50000 * N → MI N Q a ν ν1 → ∃ ν', gm (nI w) ν1 = some (ans, ν') ∧ MO N a' ν ν') : ∃ ans a', (∀ μ, XR N a μ → ∃ μ', fx μ = some (ans, μ') ∧ XO N a' μ μ') ∧ ∀ ν, MR N a ν → ∃ ν', fm ν = some (ans, ν') ∧ MO N a' ν ν' := by
  rcases i_casesQ x with hx | ⟨n, hn, rfl⟩
  · refine ⟨-1, a, fun μ h => x_same h hN ?_, fun ν h => ?_⟩
    · rw [hfx, st_hasAllG hx, bd2_s, if_pos (by decide)]
    · rw [hfm]
      refine m_start h fun Q ν1 _ hI _ => m_same hI hN ?_
      rw [m_areSomeG hI.2.1.1 hx, bd2_s, if_pos (by decide)]
  by_cases hd : n < 2 ^ (aS a).1
  · obtain ⟨ans, a', h1, h2⟩ := h n hd rfl
    refine ⟨ans, a', fun μ h => ?_, fun ν h => ?_⟩
    · rw [hfx, st_hasAll h.2.1.1 hn, bd2_s, decide_eq_true hd, if_neg (by decide)]
      exact h1 μ h
    · rw [hfm]
      refine m_start h fun Q ν1 hQ hI _ => ?_
      rw [m_areSome hI.2.1.1 hn, bd2_s, decide_eq_true hd, if_neg (by decide)]
      exact h2 ν Q ν1 hQ hI
  · refine ⟨-1, a, fun μ h => x_same h hN ?_, fun ν h => ?_⟩
    · rw [hfx, st_hasAll h.2.1.1 hn, bd2_s, decide_eq_false hd, if_pos (by decide)]
    · rw [hfm]
      refine m_start h fun Q ν1 _ hI _ => m_same hI hN ?_
      rw [m_areSome hI.2.1.1 hn, bd2_s, decide_eq_false hd, if_pos (by decide)]
theorem x_atOnce (hN : N < 600) {w n : Nat} (pd : Bool) (hw : w < 2 ^ (aS a).1) (hn : n < 19000) (h : XR N a μ) : ∃ μ', f_ta_atOnce (nI w) (nI n) (nI (bN pd)) μ = some ((ftA a pd (ftF a pd w n (2 ^ (aS a).1))).1, μ') ∧ XO N (ftA a pd (ftF a pd w n (2 ^ (aS a).1))).2 μ μ' := by
  have h14 := p2_14 h.1.1.1
  unfold f_ta_atOnce
  rw [st_open h.1 h.2.1, bd2_s]
  exact x_atOnce_lp hN pd hw hn (2 ^ (aS a).1) 0 FU μ (by omega) (by unfold FU; omega) h.XI
theorem m_findT (h : MI N Q a μ0 μ) {w n : Nat} (pd : Bool) (hw : w < 2 ^ (aS a).1) (hn : n < 19000) : f_m_findTalked (nI w) (nI n) (nI (bN pd)) μ = some (oI (ftF a pd w n (2 ^ (aS a).1)), μ) := by
  have h14 := p2_14 h.1.1.1
  exact m_findT_lp h pd hw hn (2 ^ (aS a).1) 0 FU (by omega) (by unfold FU; omega)
theorem op_fewest (x y : Int32) : OpI N a (f_x_fewest x y) (f_m_fewest x y) := by
  intro hW hN
  have h14 := p2_14 hW.1.1
  refine op_some (gx := fun x μ1 => bd2 (f_x_isTalkDay y μ1) fun v7 μ5 => if v7 = 0 then (some ((-1 : Int32), μ5)) else (bd2 (f_ta_atOnce x y (0 : Int32) μ5) fun v11 μ9 => some (v11, μ9))) (gm := fun x μ3 => bd2 (f_m_isDays y (20 : Int32) μ3) fun v9 μ7 => if v9 = 0 then (some ((-1 : Int32), μ7)) else (bd2 (f_m_findTalked x y (0 : Int32) μ7) fun v13 μ11 => if v13 = (-1 : Int32) then (some ((-2 : Int32), μ11)) else (bnd (setI μ11 v_m_rowMany 0 (0 : Int32)) fun μ15 => bd1 (f_m_tell v13.toInt64 μ15) fun μ17 => bd2 (f_jd_bitCount v13 μ17) fun v21 μ19 => some (v21, μ19)))) x (fun μ => rfl) (fun μ => rfl) hW hN (fun w hw _ => ?_)
  by_cases c : 0 ≤ y ∧ y ≤ 20
  · obtain ⟨n, hn, rfl⟩ := talk_n c
    refine ⟨(ftA a false (ftF a false w n (2 ^ (aS a).1))).1, (ftA a false (ftF a false w n (2 ^ (aS a).1))).2, fun μ h => ?_, fun ν Q ν1 hQ hI => ?_⟩
    · obtain ⟨μ', k1, k2⟩ := x_atOnce hN false hw (n := n) (by omega) h
      refine ⟨μ', ?_, k2⟩
      rw [x_talkDay, bd2_s, decide_eq_true c, if_neg (by decide), show f_ta_atOnce (nI w) (nI n) (0 : Int32) μ = _ from k1, bd2_s]
    · rw [m_talkDay, bd2_s, decide_eq_true c, if_neg (by decide), show f_m_findTalked (nI w) (nI n) (0 : Int32) ν1 = _ from m_findT hI false hw (n := n) (by omega), bd2_s]
      cases e : ftF a false w n (2 ^ (aS a).1) with
      | none => exact ⟨ν1, by rw [if_pos (show oI none = -1 from rfl)]; rfl, hI.done hN⟩
      | some v =>
        have hv := ftF_lt _ _ _ _ _ _ e
        obtain ⟨c1, c2⟩ := m_clear ν1
        obtain ⟨μ1, a1, a2, a3⟩ := m_tell (nI v).toInt64 c1 (by simp)
        refine ⟨μ1, ?_, hI.told hN (by simp) a2 (c2.tr a3)⟩
        rw [if_neg (show ¬ oI (some v) = -1 from nI_ne_m1 (by omega)), show oI (some v) = nI v from rfl, bnd_s]
        rw [a1, bd1_s, jd_bc (by omega), bd2_s]
        rfl
  · refine ⟨-1, a, fun μ h => x_same h hN ?_, fun ν Q ν1 hQ hI => m_same hI hN ?_⟩
    · rw [x_talkDay, bd2_s, decide_eq_false c, if_pos (by decide)]
    · rw [m_talkDay, bd2_s, decide_eq_false c, if_pos (by decide)]
theorem op_cheapest (x y : Int32) : OpI N a (f_x_cheapest x y) (f_m_cheapest x y) := by
  intro hW hN
  have h14 := p2_14 hW.1.1
  refine op_some (gx := fun x μ1 => bd2 (f_x_isTalkDay y μ1) fun v7 μ5 => if v7 = 0 then (some ((-1 : Int32), μ5)) else (bd2 (f_ta_atOnce x y (1 : Int32) μ5) fun v11 μ9 => some (v11, μ9))) (gm := fun x μ3 => bd2 (f_m_isDays y (20 : Int32) μ3) fun v9 μ7 => if v9 = 0 then (some ((-1 : Int32), μ7)) else (bd2 (f_m_findTalked x y (1 : Int32) μ7) fun v13 μ11 => if v13 = (-1 : Int32) then (some ((-2 : Int32), μ11)) else (bnd (setI μ11 v_m_rowMany 0 (0 : Int32)) fun μ15 => bd1 (f_m_tell v13.toInt64 μ15) fun μ17 => bd2 (f_m_priceOf v13 μ17) fun v21 μ19 => some (v21, μ19)))) x (fun μ => rfl) (fun μ => rfl) hW hN (fun w hw _ => ?_)
  by_cases c : 0 ≤ y ∧ y ≤ 20
  · obtain ⟨n, hn, rfl⟩ := talk_n c
    refine ⟨(ftA a true (ftF a true w n (2 ^ (aS a).1))).1, (ftA a true (ftF a true w n (2 ^ (aS a).1))).2, fun μ h => ?_, fun ν Q ν1 hQ hI => ?_⟩
    · obtain ⟨μ', k1, k2⟩ := x_atOnce hN true hw (n := n) (by omega) h
      refine ⟨μ', ?_, k2⟩
      rw [x_talkDay, bd2_s, decide_eq_true c, if_neg (by decide), show f_ta_atOnce (nI w) (nI n) (1 : Int32) μ = _ from k1, bd2_s]
    · rw [m_talkDay, bd2_s, decide_eq_true c, if_neg (by decide), show f_m_findTalked (nI w) (nI n) (1 : Int32) ν1 = _ from m_findT hI true hw (n := n) (by omega), bd2_s]
      cases e : ftF a true w n (2 ^ (aS a).1) with
      | none => exact ⟨ν1, by rw [if_pos (show oI none = -1 from rfl)]; rfl, hI.done hN⟩
      | some v =>
        have hv := ftF_lt _ _ _ _ _ _ e
        obtain ⟨c1, c2⟩ := m_clear ν1
        obtain ⟨μ1, a1, a2, a3⟩ := m_tell (nI v).toInt64 c1 (by simp)
        have hX := hI.told hN (by simp) a2 (c2.tr a3)
        refine ⟨μ1, ?_, hX⟩
        rw [if_neg (show ¬ oI (some v) = -1 from nI_ne_m1 (by omega)), show oI (some v) = nI v from rfl, bnd_s, a1, bd1_s, m_priceOf hX.1.2.1.1 hX.1.2.1.2.1.1 (by omega), bd2_s]
        rfl
  · refine ⟨-1, a, fun μ h => x_same h hN ?_, fun ν Q ν1 hQ hI => m_same hI hN ?_⟩
    · rw [x_talkDay, bd2_s, decide_eq_false c, if_pos (by decide)]
    · rw [m_talkDay, bd2_s, decide_eq_false c, if_pos (by decide)]
end OPS
