/-! rates, picks. -/
def OpTU {α : Type} (N : Nat) (a : Ab) (U : Nat → List Nat) (fx : Mem → Option (α × Mem)) (ft : Mem → Option Mem) (fm : Mem → Option (α × Mem)) : Prop := WF a → N < 600 →
  (∃ ans a' U', (∀ μ, XR N a μ → XU U μ → ∃ μ', fx μ = some (ans, μ') ∧ XOr N a' U' μ μ') ∧ ∀ ν, MR N a ν → MU U ν → ∃ ν', fm ν = some (ans, ν') ∧ MOr N a' U' ν ν' ∧ ν'.1 v_m_thrown 0 = nI 0) ∨
  ∃ a' U', (∀ μ, XR N a μ → XU U μ → ∃ μ', ft μ = some μ' ∧ XOr N a' U' μ μ') ∧ ∀ ν, MR N a ν → MU U ν → ∃ ans ν', fm ν = some (ans, ν') ∧ MOr N a' U' ν ν' ∧ ν'.1 v_m_thrown 0 = nI 1
theorem OpT.u {α : Type} {N : Nat} {a : Ab} {U : Nat → List Nat} {fx : Mem → Option (α × Mem)} {ft : Mem → Option Mem} {fm : Mem → Option (α × Mem)} (h : OpT N a fx ft fm) : OpTU N a U fx ft fm := fun hW hN => by
  rcases h hW hN with ⟨ans, a', h1, h2⟩ | ⟨a', h1, h2⟩
  · left
    exact ⟨ans, a', U, fun μ hμ hU => by
      obtain ⟨μ', k1, k2⟩ := h1 μ hμ
      exact ⟨μ', k1, k2.r hU⟩, fun ν hν hU => by
      obtain ⟨ν', k1, k2, k3⟩ := h2 ν hν
      exact ⟨ν', k1, k2.r hU, k3⟩⟩
  · right
    exact ⟨a', U, fun μ hμ hU => by
      obtain ⟨μ', k1, k2⟩ := h1 μ hμ
      exact ⟨μ', k1, k2.r hU⟩, fun ν hν hU => by
      obtain ⟨ans, ν', k1, k2, k3⟩ := h2 ν hν
      exact ⟨ans, ν', k1, k2.r hU, k3⟩⟩
/-- may the shop win i -/
def cnP (S : SP) (sh s i : Nat) : Bool := if sh = 1 then opS S s i else opZ S s i
/-- the pick among the first k, and what the rule said of it -/
def pkS (a : Ab) (U : Nat → List Nat) (sh s : Nat) : Nat → Option (Nat × Int32)
  | 0 => none
  | k + 1 => if cnP (aS a) sh s k then (match pkS a U sh s k with
    | none => some (k, rtF a U sh s k)
    | some q => if rtF a U sh s k ≤ q.2 then some q else some (k, rtF a U sh s k)) else pkS a U sh s k
def pkI : Option (Nat × Int32) → Int32
  | none => -2
  | some q => nI q.1
def pkR : Option (Nat × Int32) → Int32
  | none => 0
  | some q => q.2
theorem pkS_lt {a : Ab} {U : Nat → List Nat} {sh s : Nat} : ∀ k q, pkS a U sh s k = some q → q.1 < k ∧ cnP (aS a) sh s q.1 = true
  | 0, q, h => by rw [pkS] at h; exact absurd h (by simp)
  | k + 1, q, h => by
    rw [pkS] at h
    by_cases c : cnP (aS a) sh s k = true
    · rw [if_pos c] at h
      cases e : pkS a U sh s k with
      | none =>
        rw [e] at h
        have h' : some (k, rtF a U sh s k) = some q := h
        rw [← Option.some.inj h']
        exact ⟨by show k < k + 1; omega, c⟩
      | some r =>
        rw [e] at h
        have h' : (if rtF a U sh s k ≤ r.2 then some r else some (k, rtF a U sh s k)) = some q := h
        by_cases d : rtF a U sh s k ≤ r.2
        · rw [if_pos d] at h'
          have := pkS_lt k r e
          rw [← Option.some.inj h']
          exact ⟨by omega, this.2⟩
        · rw [if_neg d] at h'
          rw [← Option.some.inj h']
          exact ⟨by show k < k + 1; omega, c⟩
    · rw [if_neg c] at h
      have := pkS_lt k q h
      exact ⟨by omega, this.2⟩
section OPS
variable {N : Nat} {a : Ab} {b : Nat × Nat} {μ0 μ : Mem} {Q : Nat} {S : SP} {U : Nat → List Nat}
theorem nI_ne_m2 {n : Nat} (h : n < 2 ^ 31) : ¬ nI n = (-2 : Int32) := fun q => absurd (q ▸ i_nlt0 h) (by decide)
theorem sh_openP (h : XB S μ) {sh s : Nat} (hsh : sh < 2) (hs : s < 2 ^ S.1) : ∃ w, f_sh_open (nI sh) (nI s) μ = some (nI w, μ) ∧ w < 2 ^ S.1 ∧ ∀ i, i < S.1 → w.testBit i = cnP S sh s i := by
  have : sh = 0 ∨ sh = 1 := by omega
  rcases this with q | q
  · subst q
    exact ⟨_, sh_open0 h hs, wo_lt (and_lt hs), fun i hi => op0_tb hi⟩
  · subst q
    exact ⟨_, sh_open1 h hs, wo_lt (wo_lt (ev_lt _)), fun i hi => op1_tb hi⟩
theorem x_pick_lp (hU : XU U μ0) {sh s w : Nat} (hsh : sh < 2) (hs : s < 2 ^ (aS a).1) (hw : w < 2 ^ (aS a).1) (hwt : ∀ i, i < (aS a).1 → w.testBit i = cnP (aS a) sh s i) : ∀ m k g (μ : Mem), XI N b a μ0 μ → FX a μ → k + m = (aS a).1 → m < g → ∃ μ', f_sh_pick_b17 g (nI sh) (nI s) (nI w) (pkI (pkS a U sh s k)) (pkR (pkS a U sh s k)) (nI k) μ = some (pkI (pkS a U sh s (aS a).1), μ') ∧ RG μ μ' ∧ FX a μ'
  | 0, k, g + 1, μ, h, hF, hk, _ => by
    have hp := h.2.1.1.2.2.2.2.1
    have e : k = (aS a).1 := by omega
    subst e
    refine ⟨μ, ?_, RG.rf _, hF⟩
    rw [f_sh_pick_b17, h.2.1.1.1, if_pos ((i_leN (by omega) (by omega)).mpr (Nat.le_refl _))]
  | m + 1, k, g + 1, μ, h, hF, hk, hg => by
    have hp := h.2.1.1.2.2.2.2.1
    have h14 := p2_14 hp
    have ih := x_pick_lp hU hsh hs hw hwt m (k + 1) g
    have es : pkS a U sh s (k + 1) = if cnP (aS a) sh s k then (match pkS a U sh s k with
      | none => some (k, rtF a U sh s k)
      | some q => if rtF a U sh s k ≤ q.2 then some q else some (k, rtF a U sh s k)) else pkS a U sh s k := rfl
    rw [f_sh_pick_b17, h.2.1.1.1, if_neg (fun q => absurd ((i_leN (by omega) (by omega)).mp q) (by omega))]
    by_cases c : cnP (aS a) sh s k = true
    · have hwk : w.testBit k = true := (hwt k (by omega)).trans c
      obtain ⟨μ1, k1, k2, k3⟩ := x_rate h hU hF hsh (show k < (aS a).1 by omega) hs
      rw [if_neg (fun q => by rw [(i_bit0 (show w < 2 ^ 31 by omega) (by omega)).mp q] at hwk; exact absurd hwk (by decide)), k1, bd2_s]
      obtain ⟨μ', q1, q2, q3⟩ := ih μ1 (h.rg k2) k3 (by omega) (by omega)
      refine ⟨μ', ?_, k2.tr q2, q3⟩
      rw [es, if_pos c] at q1
      rw [← q1]
      cases e : pkS a U sh s k with
      | none =>
        rw [if_pos (show pkI none = (-2 : Int32) from rfl)]
        unfold f_sh_pick_b62
        rw [l_1, i_add]
        rfl
      | some r =>
        have hr := pkS_lt k r e
        rw [if_neg (show ¬ pkI (some r) = (-2 : Int32) from nI_ne_m2 (by omega))]
        show (if rtF a U sh s k ≤ r.2 then _ else _) = f_sh_pick_b17 g (nI sh) (nI s) (nI w) (pkI (if rtF a U sh s k ≤ r.2 then some r else some (k, rtF a U sh s k))) (pkR (if rtF a U sh s k ≤ r.2 then some r else some (k, rtF a U sh s k))) (nI (k + 1)) μ1
        by_cases d : rtF a U sh s k ≤ r.2
        · rw [if_pos d, if_pos d, l_1, i_add]
        · rw [if_neg d, if_neg d]
          unfold f_sh_pick_b62
          rw [l_1, i_add]
          rfl
    · have hwk : w.testBit k = false := (hwt k (by omega)).trans (bF c)
      obtain ⟨μ', q1, q2, q3⟩ := ih μ h hF (by omega) (by omega)
      refine ⟨μ', ?_, q2, q3⟩
      rw [if_pos ((i_bit0 (show w < 2 ^ 31 by omega) (by omega)).mpr hwk), l_1, i_add, ← q1, es, if_neg c]
/-- whom the shop picks in state s -/
def pkA (a : Ab) (U : Nat → List Nat) (sh s : Nat) : Option (Nat × Int32) := pkS a U sh s (aS a).1
theorem x_pick (h : XI N b a μ0 μ) (hU : XU U μ0) (hF : FX a μ) {sh s : Nat} (hsh : sh < 2) (hs : s < 2 ^ (aS a).1) : ∃ μ', f_sh_pick (nI sh) (nI s) μ = some (pkI (pkA a U sh s), μ') ∧ RG μ μ' ∧ FX a μ' := by
  obtain ⟨w, w1, w2, w3⟩ := sh_openP h.2.1.1 hsh hs
  unfold f_sh_pick
  rw [w1, bd2_s]
  exact x_pick_lp hU hsh hs w2 w3 (aS a).1 0 FU μ h hF (by omega) (by have := h.2.1.1.2.2.2.2.1; unfold FU; omega)
theorem m_canWinP (h : MB S μ) {sh i s : Nat} (hsh : sh < 2) (hi : i < 14) (hs : s < 2 ^ S.1) : f_m_canWin (nI sh) (nI i) (nI s) μ = some (nI (bN (cnP S sh s i)), μ) := by
  have : sh = 0 ∨ sh = 1 := by omega
  rcases this with q | q
  · subst q; exact m_canWin0 h hi hs
  · subst q; exact m_canWin1 h hi hs
theorem m_pick_lp (hU : MU U μ0) {sh s : Nat} (hsh : sh < 2) (hs : s < 2 ^ (aS a).1) : ∀ m k g (μ : Mem), MI N Q a μ0 μ → k + m = (aS a).1 → m < g → ∃ μ', f_m_pick_b9 g (nI sh) (nI s) (pkI (pkS a U sh s k)) (pkR (pkS a U sh s k)) (nI k) μ = some (pkI (pkS a U sh s (aS a).1), μ') ∧ MG μ μ'
  | 0, k, g + 1, μ, h, hk, _ => by
    have hp := h.2.1.1.2.2.2.2.1
    have e : k = (aS a).1 := by omega
    subst e
    refine ⟨μ, ?_, MG.rf _⟩
    rw [f_m_pick_b9, h.2.1.1.1, if_pos ((i_leN (by omega) (by omega)).mpr (Nat.le_refl _))]
  | m + 1, k, g + 1, μ, h, hk, hg => by
    have hp := h.2.1.1.2.2.2.2.1
    have ih := m_pick_lp hU hsh hs m (k + 1) g
    have es : pkS a U sh s (k + 1) = if cnP (aS a) sh s k then (match pkS a U sh s k with
      | none => some (k, rtF a U sh s k)
      | some q => if rtF a U sh s k ≤ q.2 then some q else some (k, rtF a U sh s k)) else pkS a U sh s k := rfl
    rw [f_m_pick_b9, h.2.1.1.1, if_neg (fun q => absurd ((i_leN (by omega) (by omega)).mp q) (by omega)), m_canWinP h.2.1.1 hsh (by omega) hs, bd2_s]
    by_cases c : cnP (aS a) sh s k = true
    · obtain ⟨μ1, k1, k2⟩ := m_rate h hU hsh (show k < (aS a).1 by omega) hs
      rw [c, if_neg (show ¬ nI (bN true) = 0 by decide), k1, bd2_s]
      obtain ⟨μ', q1, q2⟩ := ih μ1 (h.mg k2) (by omega) (by omega)
      refine ⟨μ', ?_, k2.tr q2⟩
      rw [es, if_pos c] at q1
      rw [← q1]
      cases e : pkS a U sh s k with
      | none =>
        rw [if_pos (show pkI none < (0 : Int32) by decide)]
        unfold f_m_pick_b56
        rw [l_1, i_add]
        rfl
      | some r =>
        have hr := pkS_lt k r e
        rw [if_neg (show ¬ pkI (some r) < (0 : Int32) from i_nlt0 (by omega))]
        show (if r.2 < rtF a U sh s k then _ else _) = f_m_pick_b9 g (nI sh) (nI s) (pkI (if rtF a U sh s k ≤ r.2 then some r else some (k, rtF a U sh s k))) (pkR (if rtF a U sh s k ≤ r.2 then some r else some (k, rtF a U sh s k))) (nI (k + 1)) μ1
        by_cases d : rtF a U sh s k ≤ r.2
        · rw [if_neg (show ¬ r.2 < rtF a U sh s k from Int32.not_lt.mpr d), if_pos d, l_1, i_add]
        · rw [if_pos (show r.2 < rtF a U sh s k from Int32.not_le.mp d), if_neg d]
          unfold f_m_pick_b56
          rw [l_1, i_add]
          rfl
    · obtain ⟨μ', q1, q2⟩ := ih μ h (by omega) (by omega)
      refine ⟨μ', ?_, q2⟩
      rw [bF c, if_pos (show nI (bN false) = 0 by decide), l_1, i_add, ← q1, es, if_neg c]
theorem m_pick (h : MI N Q a μ0 μ) (hU : MU U μ0) {sh s : Nat} (hsh : sh < 2) (hs : s < 2 ^ (aS a).1) : ∃ μ', f_m_pick (nI sh) (nI s) μ = some (pkI (pkA a U sh s), μ') ∧ MG μ μ' := by
  unfold f_m_pick
  exact m_pick_lp hU hsh hs (aS a).1 0 FU μ h (by omega) (by have := h.2.1.1.2.2.2.2.1; unfold FU; omega)
theorem op_picks {x : Int32} : OpU N a U (f_x_picks x) (f_m_picks x) := fun hW hN => by
  have hnow := now_lt hW
  by_cases c : x = 0 ∨ x = 1
  · obtain ⟨sh, hsh, rfl⟩ := shop_n c
    refine ⟨pkI (pkA a U sh (aN a)), a, U, fun μ h hU => ?_, fun ν h hU => ?_⟩
    · obtain ⟨μ1, k1, k2, k3⟩ := x_learn h.XI
      have h1 := h.XI.rg k2
      obtain ⟨μ', q1, q2, q3⟩ := x_pick h1 hU k3 hsh hnow
      refine ⟨μ', ?_, ((h1.rg q2).done hN).r hU⟩
      unfold f_x_picks
      rw [x_isShop, bd2_s, decide_eq_true c, if_neg (show ¬ nI (bN true) = 0 by decide), k1, bd1_s, st_now hW h1.2.1, bd2_s, q1, bd2_s]
    · obtain ⟨Q, hQ, hI⟩ := h.MI
      have hI1 := hI.thrown 0
      obtain ⟨ν', q1, q2⟩ := m_pick hI1 hU hsh hnow
      refine ⟨ν', ?_, ((hI1.mg q2).done hN).r hU⟩
      unfold f_m_picks
      rw [bnd_s, m_isShop, bd2_s, decide_eq_true c, if_neg (show ¬ nI (bN true) = 0 by decide), m_now hW hI1.2.1.2.1, bd2_s, q1, bd2_s]
  · refine ⟨-1, a, U, fun μ h hU => ⟨μ, ?_, (h.XI.done hN).r hU⟩, fun ν h hU => ?_⟩
    · unfold f_x_picks
      rw [x_isShop, bd2_s, decide_eq_false c, if_pos (show nI (bN false) = 0 by decide)]
    · obtain ⟨Q, hQ, hI⟩ := h.MI
      refine ⟨setI ν v_m_thrown 0 0, ?_, ((hI.thrown 0).done hN).r hU⟩
      unfold f_m_picks
      rw [bnd_s, m_isShop, bd2_s, decide_eq_false c, if_pos (show nI (bN false) = 0 by decide)]
theorem op_rates {x y : Int32} : OpTU N a U (f_x_rates x y) (f_x_rates_thr x y) (f_m_rates x y) := fun hW hN => by
  have hp := hW.1.1
  have hnow := now_lt hW
  have bad : (∀ μ, XR N a μ → f_x_rates_thr x y μ = some μ) → (∀ Q ν, MI N Q a ν (setI ν v_m_thrown 0 0) → f_m_rates x y ν = f_m_rates_b35 (setI ν v_m_thrown 0 0)) → ∃ a' U', (∀ μ, XR N a μ → XU U μ → ∃ μ', f_x_rates_thr x y μ = some μ' ∧ XOr N a' U' μ μ') ∧ ∀ ν, MR N a ν → MU U ν → ∃ ans ν', f_m_rates x y ν = some (ans, ν') ∧ MOr N a' U' ν ν' ∧ ν'.1 v_m_thrown 0 = nI 1 := by
    intro g1 g2
    refine ⟨a, U, fun μ h hU => ⟨μ, g1 μ h, (h.XI.done hN).r hU⟩, fun ν h hU => ?_⟩
    obtain ⟨Q, hQ, hI⟩ := h.MI
    exact ⟨nI 0, _, (g2 Q ν (hI.thrown _)).trans rfl, (((hI.thrown 0).thrown 1).done hN).r hU, sI_eq _ _ _ _⟩
  by_cases c : x = 0 ∨ x = 1
  · rcases i_casesQ y with hy | ⟨i, hi, rfl⟩
    · right
      exact bad (fun μ h => by
        unfold f_x_rates_thr f_x_rates_thr_b18
        rw [x_isShop, bd2_s, decide_eq_true c, if_neg (show ¬ nI (bN true) = 0 by decide), st_hasG hy, bd2_s, if_pos (show nI 0 = 0 from rfl)]) (fun Q ν hI => by
        unfold f_m_rates
        rw [bnd_s, m_isShop, bd2_s, decide_eq_true c, if_neg (show ¬ nI (bN true) = 0 by decide), m_isOneG hy, bd2_s, if_pos (show nI 0 = 0 from rfl)])
    by_cases h1 : i < (aS a).1
    · left
      obtain ⟨sh, hsh, rfl⟩ := shop_n c
      refine ⟨rtF a U sh (aN a) i, a, U, fun μ h hU => ?_, fun ν h hU => ?_⟩
      · obtain ⟨μ1, k1, k2, k3⟩ := x_learn h.XI
        have h2 := h.XI.rg k2
        obtain ⟨μ', q1, q2, q3⟩ := x_rate h2 hU k3 hsh h1 hnow
        refine ⟨μ', ?_, ((h2.rg q2).done hN).r hU⟩
        unfold f_x_rates
        rw [x_isShop, bd2_s, decide_eq_true c, if_neg (show ¬ nI (bN true) = 0 by decide), st_has h.2.1.1 hi, bd2_s, decide_eq_true h1, if_neg (show ¬ nI (bN true) = 0 by decide), k1, bd1_s, st_now hW h2.2.1, bd2_s, q1, bd2_s]
      · obtain ⟨Q, hQ, hI⟩ := h.MI
        have hI1 := hI.thrown 0
        obtain ⟨ν', q1, q2⟩ := m_rate hI1 hU hsh h1 hnow
        refine ⟨ν', ?_, ((hI1.mg q2).done hN).r hU, ?_⟩
        · unfold f_m_rates
          rw [bnd_s, m_isShop, bd2_s, decide_eq_true c, if_neg (show ¬ nI (bN true) = 0 by decide), m_isOne hI1.2.1.1 hi, bd2_s, decide_eq_true h1, if_neg (show ¬ nI (bN true) = 0 by decide), m_now hW hI1.2.1.2.1, bd2_s, q1, bd2_s]
        · rw [q2.1 _ (by decide), sI_eq]; rfl
    · right
      exact bad (fun μ h => by
        unfold f_x_rates_thr f_x_rates_thr_b18
        rw [x_isShop, bd2_s, decide_eq_true c, if_neg (show ¬ nI (bN true) = 0 by decide), st_has h.2.1.1 hi, bd2_s, decide_eq_false h1, if_pos (show nI (bN false) = 0 by decide)]) (fun Q ν hI => by
        unfold f_m_rates
        rw [bnd_s, m_isShop, bd2_s, decide_eq_true c, if_neg (show ¬ nI (bN true) = 0 by decide), m_isOne hI.2.1.1 hi, bd2_s, decide_eq_false h1, if_pos (show nI (bN false) = 0 by decide)])
  · right
    exact bad (fun μ h => by
      unfold f_x_rates_thr f_x_rates_thr_b18
      rw [x_isShop, bd2_s, decide_eq_false c, if_pos (show nI (bN false) = 0 by decide)]) (fun Q ν hI => by
      unfold f_m_rates
      rw [bnd_s, m_isShop, bd2_s, decide_eq_false c, if_pos (show nI (bN false) = 0 by decide)])
end OPS
