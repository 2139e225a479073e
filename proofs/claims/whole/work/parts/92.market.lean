/-! market. -/
def wnF (s : Nat) : Option (Nat × Int32) → Nat
  | none => s
  | some q => s ^^^ 2 ^ q.1
def prP (a : Ab) : Option (Nat × Int32) → Nat
  | none => 0
  | some q => aPr a q.1
/-- state, and what shop 0 and shop 1 were paid -/
def mkS (a : Ab) (U : Nat → List Nat) : Nat → Nat × Nat × Nat
  | 0 => (aN a, 0, 0)
  | k + 1 => (nxt (aS a) (wnF (wnF (mkS a U k).1 (pkA a U 1 (mkS a U k).1)) (pkA a U 0 (wnF (mkS a U k).1 (pkA a U 1 (mkS a U k).1)))), (mkS a U k).2.1 + prP a (pkA a U 0 (wnF (mkS a U k).1 (pkA a U 1 (mkS a U k).1))), (mkS a U k).2.2 + prP a (pkA a U 1 (mkS a U k).1))
section OPS
variable {N : Nat} {a : Ab} {b : Nat × Nat} {μ0 μ : Mem} {Q : Nat} {S : SP} {U : Nat → List Nat}
theorem wnF_lt {sh s s' : Nat} (hs : s < 2 ^ (aS a).1) : wnF s (pkA a U sh s') < 2 ^ (aS a).1 := by
  cases e : pkA a U sh s' with
  | none => exact hs
  | some q => exact xor_lt hs (Nat.pow_lt_pow_right (by omega) (pkS_lt _ q e).1)
theorem prP_le (hW : WF a) {sh s : Nat} : prP a (pkA a U sh s) ≤ 9 := by
  cases e : pkA a U sh s with
  | none => exact Nat.zero_le _
  | some q => exact hW.2.2.1 _ (pkS_lt _ q e).1
theorem mkS_ok (hW : WF a) : ∀ k, (mkS a U k).1 < 2 ^ (aS a).1 ∧ (mkS a U k).2.1 ≤ 9 * k ∧ (mkS a U k).2.2 ≤ 9 * k
  | 0 => ⟨now_lt hW, Nat.zero_le _, Nat.zero_le _⟩
  | k + 1 => by
    have ih := mkS_ok hW k
    have h0 := prP_le (U := U) hW (sh := 0) (s := wnF (mkS a U k).1 (pkA a U 1 (mkS a U k).1))
    have h1 := prP_le (U := U) hW (sh := 1) (s := (mkS a U k).1)
    refine ⟨nxt_lt _ _, ?_, ?_⟩
    · show (mkS a U k).2.1 + prP a _ ≤ _; omega
    · show (mkS a U k).2.2 + prP a _ ≤ _; omega
theorem l_addN {p q : Nat} (h : p + q < 2 ^ 31) : (nI p).toInt64 + (nI q).toInt64 = (nI (p + q)).toInt64 := by
  rw [z_nI (by omega), z_nI (by omega), z_nI h, z_add, Int.natCast_add]
def PX (p0 p1 : Nat) (μ : Mem) : Prop := μ.1 v_sh_paid 0 = nI p0 ∧ μ.1 v_sh_paid 1 = nI p1
theorem FX.of {μ' : Mem} (h : FX a μ) (hp : (aS a).1 ≤ 14) (e : ∀ v, 118 ≤ v → v ≤ 131 → μ'.1 v = μ.1 v) : FX a μ' := fun i hi j hj h4 => by
  rw [e (vFa i) (by show 118 ≤ 118 + i; omega) (by show 118 + i ≤ 131; omega)]; exact h i hi j hj h4
theorem pk_bit {s : Nat} {q : Nat × Int32} (hq : q.1 < 14) : nI s ^^^ ((1 : Int32) <<< (nI q.1 &&& 31)) = nI (s ^^^ 2 ^ q.1) := by
  rw [i_one (by omega), i_xor]
/-- one shop serves -/
theorem x_serve (h : XI N b a μ0 μ) (hU : XU U μ0) (hF : FX a μ) {sh s : Nat} (hsh : sh < 2) (hs : s < 2 ^ (aS a).1) {p0 p1 : Nat} (hP : PX p0 p1 μ) : ∃ μ', f_sh_serve (nI sh) (nI s) μ = some (nI (wnF s (pkA a U sh s)), μ') ∧ XI N b a μ0 μ' ∧ FX a μ' ∧ PX (if sh = 0 then p0 + prP a (pkA a U sh s) else p0) (if sh = 1 then p1 + prP a (pkA a U sh s) else p1) μ' := by
  have hp := h.2.1.1.2.2.2.2.1
  obtain ⟨μ1, k1, k2, k3⟩ := x_pick h hU hF hsh hs
  have h1 := h.rg k2
  have e1 : μ1.1 v_sh_paid = μ.1 v_sh_paid := k2.1 _ (by unfold rIn; decide)
  unfold f_sh_serve
  rw [k1, bd2_s]
  cases e : pkA a U sh s with
  | none =>
    refine ⟨μ1, ?_, h1, k3, ?_⟩
    · rw [if_neg (show ¬ (0 : Int32) ≤ pkI none by decide)]; rfl
    · show PX (if sh = 0 then p0 + 0 else p0) (if sh = 1 then p1 + 0 else p1) μ1
      refine ⟨?_, ?_⟩
      · rw [e1, hP.1]; by_cases q : sh = 0
        · rw [if_pos q]; rfl
        · rw [if_neg q]
      · rw [e1, hP.2]; by_cases q : sh = 1
        · rw [if_pos q]; rfl
        · rw [if_neg q]
  | some q =>
    have hq := (pkS_lt _ q e).1
    have hge : (0 : Int32) ≤ pkI (some q) := (i_leN (a := 0) (by omega) (show q.1 < 2 ^ 31 by omega)).mpr (Nat.zero_le _)
    have hpr := h1.2.1.2.1.1 q.1 hq
    have hsc : (nI sh).toNatClampNeg = sh := cl_nI (by omega)
    have hqc : (pkI (some q)).toNatClampNeg = q.1 := cl_nI (show q.1 < 2 ^ 31 by omega)
    have hqi : inb (pkI (some q)) 14 = true := inb_n (show q.1 < 14 by omega) (by omega)
    have hpd : μ1.1 v_sh_paid sh = nI (if sh = 0 then p0 else p1) := by
      have : sh = 0 ∨ sh = 1 := by omega
      rcases this with z | z
      · rw [z, e1, if_pos rfl]; exact hP.1
      · rw [z, e1, if_neg (by decide)]; exact hP.2
    refine ⟨setI μ1 v_sh_paid sh (nI ((if sh = 0 then p0 else p1) + aPr a q.1)), ?_, h1.put _ _ (by decide), k3.of hp (fun v _ h2 => sI_v _ _ _ (show v ≠ 132 by omega)), ?_⟩
    · rw [if_pos hge, inb_n hsh (by omega), chk_t, hqi, chk_t, chk_t, hsc, hqc, hpd, hpr, i_add, bnd_s]
      show some (nI s ^^^ ((1 : Int32) <<< (nI q.1 &&& 31)), _) = some (nI (s ^^^ 2 ^ q.1), _)
      rw [pk_bit (by omega)]
    · have : sh = 0 ∨ sh = 1 := by omega
      rcases this with z | z
      · subst z
        refine ⟨?_, ?_⟩
        · rw [sI_eq, if_pos rfl, if_pos rfl]; rfl
        · rw [sI_i _ _ _ (by decide), if_neg (by decide), e1]; exact hP.2
      · subst z
        refine ⟨?_, ?_⟩
        · rw [sI_i _ _ _ (by decide), if_neg (by decide), e1]; exact hP.1
        · rw [sI_eq, if_neg (by decide), if_pos rfl]; rfl
theorem x_trade_lp (hN : N < 600) (hU : XU U μ0) {n : Nat} (hn : n ≤ 60) : ∀ m k g (μ : Mem), k + m = n → m < g → XI N b a μ0 μ → FX a μ → PX (mkS a U k).2.1 (mkS a U k).2.2 μ → ∃ μ', f_sh_trade_b22 g (nI n) (nI (mkS a U k).1) (nI k) μ = some (nI (pcN (mkS a U n).1), μ') ∧ XO N (aSetR a [(nI (mkS a U n).1).toInt64, (nI (mkS a U n).2.1).toInt64, (nI (mkS a U n).2.2).toInt64]) μ0 μ'
  | 0, k, g + 1, μ, hk, _, h, hF, hP => by
    have e : k = n := by omega
    subst e
    have hp := h.2.1.1.2.2.2.2.1
    have h14 := p2_14 hp
    have hok := mkS_ok (U := U) h.1 k
    obtain ⟨μ1, a1, a2, a3⟩ := rw_only (nI (mkS a U k).1).toInt64 μ
    obtain ⟨μ2, b1, b2, b3⟩ := rw_add (nI (mkS a U k).2.1).toInt64 a2 (by simp)
    obtain ⟨μ3, c1, c2, c3⟩ := rw_add (nI (mkS a U k).2.2).toInt64 b2 (by simp)
    refine ⟨μ3, ?_, h.told hN (by simp) c2 ((a3.tr b3).tr c3)⟩
    have e0 : inb 0 2 = true := by decide
    have e1 : inb 1 2 = true := by decide
    have t0 : (0 : Int32).toNatClampNeg = 0 := rfl
    have t1 : (1 : Int32).toNatClampNeg = 1 := rfl
    have f1 : μ1.1 v_sh_paid = μ.1 v_sh_paid := a3.1 _ (by decide)
    have f2 : μ2.1 v_sh_paid = μ.1 v_sh_paid := (b3.1 _ (by decide)).trans f1
    rw [f_sh_trade_b22, if_pos ((i_leN (by omega) (by omega)).mpr (Nat.le_refl _)), a1, bd1_s, e0, chk_t, t0, f1, hP.1, b1, bd1_s, e1, chk_t, t1, f2, hP.2, c1, bd1_s, jd_bc (by omega), bd2_s]
  | m + 1, k, g + 1, μ, hk, hg, h, hF, hP => by
    have hp := h.2.1.1.2.2.2.2.1
    have hok := mkS_ok (U := U) h.1 k
    obtain ⟨μ1, a1, a2, a3, a4⟩ := x_serve h hU hF (sh := 1) (by omega) hok.1 hP
    have hs1 := wnF_lt (U := U) (sh := 1) (s' := (mkS a U k).1) hok.1
    obtain ⟨μ2, b1, b2, b3, b4⟩ := x_serve a2 hU a3 (sh := 0) (by omega) hs1 a4
    have hs2 := wnF_lt (U := U) (sh := 0) (s' := wnF (mkS a U k).1 (pkA a U 1 (mkS a U k).1)) hs1
    obtain ⟨μ3, c1, c2, c3⟩ := b2.after hs2
    have hF3 : FX a μ3 := b3.of hp (fun v h1 h2 => c3.1 v (by omega))
    have hP3 : PX (mkS a U (k + 1)).2.1 (mkS a U (k + 1)).2.2 μ3 := by
      have e : μ3.1 v_sh_paid = μ2.1 v_sh_paid := c3.1 _ (by decide)
      refine ⟨?_, ?_⟩
      · rw [e, b4.1, if_pos rfl, if_neg (by decide)]; rfl
      · rw [e, b4.2, if_neg (by decide), if_pos rfl]; rfl
    obtain ⟨μ', q1, q2⟩ := x_trade_lp hN hU hn m (k + 1) g μ3 (by omega) (by omega) c2 hF3 hP3
    refine ⟨μ', ?_, q2⟩
    rw [f_sh_trade_b22, if_neg (fun q => absurd ((i_leN (by omega) (by omega)).mp q) (by omega)), show (1 : Int32) = nI 1 from rfl, a1, bd2_s, show (0 : Int32) = nI 0 from rfl, b1, bd2_s, c1, bd2_s, i_add]
    exact q1
theorem x_trade (hN : N < 600) (h : XI N b a μ0 μ) (hU : XU U μ0) {n : Nat} (hn : n ≤ 60) : ∃ μ', f_sh_trade (nI n) μ = some (nI (pcN (mkS a U n).1), μ') ∧ XO N (aSetR a [(nI (mkS a U n).1).toInt64, (nI (mkS a U n).2.1).toInt64, (nI (mkS a U n).2.2).toInt64]) μ0 μ' := by
  have hp := h.2.1.1.2.2.2.2.1
  obtain ⟨μ1, k1, k2, k3⟩ := x_learn h
  have h1 := h.rg k2
  have h2 : XI N b a μ0 (setI (setI μ1 v_sh_paid 0 0) v_sh_paid 1 0) := (h1.put 0 0 (by decide)).put 1 0 (by decide)
  have hF2 : FX a (setI (setI μ1 v_sh_paid 0 0) v_sh_paid 1 0) := k3.of hp (fun v _ h2 => by rw [sI_v _ _ _ (show v ≠ 132 by omega), sI_v _ _ _ (show v ≠ 132 by omega)])
  have hfill : f_jd_fill 0 μ1 = some (setI (setI μ1 v_sh_paid 0 0) v_sh_paid 1 0) := by
    unfold f_jd_fill
    rw [show FU = 19997 + 1 + 1 + 1 from rfl, f_jd_fill_b5, if_neg (by decide), show inb (0 : Int32) 2 = true by decide, chk_t, show (0 : Int32).toNatClampNeg = 0 from rfl, bnd_s, f_jd_fill_b5, if_neg (by decide), show inb ((0 : Int32) + 1) 2 = true by decide, chk_t, show ((0 : Int32) + 1).toNatClampNeg = 1 from rfl, bnd_s, f_jd_fill_b5, if_pos (by decide)]
  obtain ⟨μ', q1, q2⟩ := x_trade_lp (b := b) hN hU hn n 0 FU _ (by omega) (by unfold FU; omega) h2 hF2 ⟨by rw [sI_i _ _ _ (by decide), sI_eq]; rfl, by rw [sI_eq]; rfl⟩
  refine ⟨μ', ?_, q2⟩
  unfold f_sh_trade
  rw [k1, bd1_s, hfill, bd1_s, st_now h.1 h2.2.1, bd2_s]
  exact q1
theorem m_wonP {sh s : Nat} (hp : (aS a).1 ≤ 14) : f_m_won (nI s) (pkI (pkA a U sh s)) μ = some (nI (wnF s (pkA a U sh s)), μ) := by
  unfold f_m_won
  cases e : pkA a U sh s with
  | none => rw [if_neg (show ¬ (0 : Int32) ≤ pkI none by decide), bnd_s]; rfl
  | some q =>
    have hq := (pkS_lt _ q e).1
    have hge : (0 : Int32) ≤ pkI (some q) := (i_leN (a := 0) (by omega) (show q.1 < 2 ^ 31 by omega)).mpr (Nat.zero_le _)
    rw [if_pos hge, bnd_s]
    show some (nI s ^^^ ((1 : Int32) <<< (nI q.1 &&& 31)), μ) = some (nI (s ^^^ 2 ^ q.1), μ)
    rw [pk_bit (by omega)]
theorem m_priceIf (h : MI N Q a μ0 μ) {sh s : Nat} {α : Type} (K : Int64 → Mem → Option α) : (if 0 ≤ pkI (pkA a U sh s) then (chk (inb (pkI (pkA a U sh s)) 14) (K ((μ.1 v_m_price (pkI (pkA a U sh s)).toNatClampNeg).toInt64) μ)) else K (0 : Int64) μ) = K ((nI (prP a (pkA a U sh s))).toInt64) μ := by
  have hp := h.2.1.1.2.2.2.2.1
  cases e : pkA a U sh s with
  | none => rw [if_neg (show ¬ (0 : Int32) ≤ pkI none by decide)]; rfl
  | some q =>
    have hq := (pkS_lt _ q e).1
    have hge : (0 : Int32) ≤ pkI (some q) := (i_leN (a := 0) (by omega) (show q.1 < 2 ^ 31 by omega)).mpr (Nat.zero_le _)
    have hqc : (pkI (some q)).toNatClampNeg = q.1 := cl_nI (show q.1 < 2 ^ 31 by omega)
    have hqi : inb (pkI (some q)) 14 = true := inb_n (show q.1 < 14 by omega) (by omega)
    rw [if_pos hge, hqi, chk_t, hqc, h.2.1.2.1.1 q.1 hq]
    rfl
theorem m_market_lp (hN : N < 600) (hU : MU U μ0) {n : Nat} (hn : n ≤ 60) : ∀ m k g (μ : Mem), k + m = n → m < g → MI N Q a μ0 μ → ∃ μ', f_m_market_b30 g (nI n) (nI (mkS a U k).1) (nI (mkS a U k).2.1).toInt64 (nI (mkS a U k).2.2).toInt64 (nI k) μ = some (nI (pcN (mkS a U n).1), μ') ∧ MO N (aSetR a [(nI (mkS a U n).1).toInt64, (nI (mkS a U n).2.1).toInt64, (nI (mkS a U n).2.2).toInt64]) μ0 μ'
  | 0, k, g + 1, μ, hk, _, h => by
    have e : k = n := by omega
    subst e
    have hp := h.2.1.1.2.2.2.2.1
    have h14 := p2_14 hp
    have hok := mkS_ok (U := U) h.1 k
    obtain ⟨μ1, a1, a2, a3⟩ := m_tell3 h hN (nI (mkS a U k).1).toInt64 (nI (mkS a U k).2.1).toInt64 (nI (mkS a U k).2.2).toInt64
    refine ⟨μ1, ?_, a2⟩
    rw [f_m_market_b30, if_pos ((i_leN (by omega) (by omega)).mpr (Nat.le_refl _)), a1, jd_bc (by omega), bd2_s]
  | m + 1, k, g + 1, μ, hk, hg, h => by
    have hp := h.2.1.1.2.2.2.2.1
    have hok := mkS_ok (U := U) h.1 k
    have hs1 := wnF_lt (U := U) (sh := 1) (s' := (mkS a U k).1) hok.1
    have hs2 := wnF_lt (U := U) (sh := 0) (s' := wnF (mkS a U k).1 (pkA a U 1 (mkS a U k).1)) hs1
    have q0 := prP_le (U := U) h.1 (sh := 0) (s := wnF (mkS a U k).1 (pkA a U 1 (mkS a U k).1))
    have q1 := prP_le (U := U) h.1 (sh := 1) (s := (mkS a U k).1)
    obtain ⟨μ1, a1, a2⟩ := m_pick h hU (sh := 1) (by omega) hok.1
    have h1 := h.mg a2
    obtain ⟨μ2, b1, b2⟩ := m_pick h1 hU (sh := 0) (by omega) hs1
    have h2 := h1.mg b2
    obtain ⟨μ', r1, r2⟩ := m_market_lp hN hU hn m (k + 1) g μ2 (by omega) (by omega) h2
    refine ⟨μ', ?_, r2⟩
    rw [f_m_market_b30, if_neg (fun q => absurd ((i_leN (by omega) (by omega)).mp q) (by omega)), show (1 : Int32) = nI 1 from rfl, a1, bd2_s, m_wonP hp, bd2_s]
    refine (m_priceIf h1 (fun z m => f_m_market_b70 (f_m_market_b30 g) (nI n) (nI (wnF (mkS a U k).1 (pkA a U 1 (mkS a U k).1))) (nI (mkS a U k).2.1).toInt64 (nI k) (nI (mkS a U k).2.2).toInt64 z m)).trans ?_
    show f_m_market_b70 (f_m_market_b30 g) (nI n) (nI (wnF (mkS a U k).1 (pkA a U 1 (mkS a U k).1))) (nI (mkS a U k).2.1).toInt64 (nI k) (nI (mkS a U k).2.2).toInt64 (nI (prP a (pkA a U 1 (mkS a U k).1))).toInt64 μ1 = _
    unfold f_m_market_b70
    rw [show (0 : Int32) = nI 0 from rfl, b1, bd2_s, m_wonP hp, bd2_s, l_addN (by omega)]
    refine (m_priceIf h2 (fun z m => f_m_market_b106 (f_m_market_b30 g) (nI n) (nI (wnF (wnF (mkS a U k).1 (pkA a U 1 (mkS a U k).1)) (pkA a U 0 (wnF (mkS a U k).1 (pkA a U 1 (mkS a U k).1))))) (nI ((mkS a U k).2.2 + prP a (pkA a U 1 (mkS a U k).1))).toInt64 (nI k) (nI (mkS a U k).2.1).toInt64 z m)).trans ?_
    show f_m_market_b106 (f_m_market_b30 g) (nI n) (nI (wnF (wnF (mkS a U k).1 (pkA a U 1 (mkS a U k).1)) (pkA a U 0 (wnF (mkS a U k).1 (pkA a U 1 (mkS a U k).1))))) (nI ((mkS a U k).2.2 + prP a (pkA a U 1 (mkS a U k).1))).toInt64 (nI k) (nI (mkS a U k).2.1).toInt64 (nI (prP a (pkA a U 0 (wnF (mkS a U k).1 (pkA a U 1 (mkS a U k).1))))).toInt64 μ2 = _
    unfold f_m_market_b106
    rw [m_next h2.2.1.1 hs2, bd2_s, l_addN (by omega), l_1, i_add]
    exact r1
theorem op_market {x : Int32} : OpU N a U (f_x_market x) (f_m_market x) := fun hW hN => by
  have no : (∀ μ, f_x_market x μ = some (-1, μ)) → (∀ ν, f_m_market x ν = some (-1, setI ν v_m_thrown 0 0)) → ∃ ans a' U', (∀ μ, XR N a μ → XU U μ → ∃ μ', f_x_market x μ = some (ans, μ') ∧ XOr N a' U' μ μ') ∧ ∀ ν, MR N a ν → MU U ν → ∃ ν', f_m_market x ν = some (ans, ν') ∧ MOr N a' U' ν ν' := fun g1 g2 => ⟨-1, a, U, fun μ h hU => ⟨μ, g1 μ, (h.XI.done hN).r hU⟩, fun ν h hU => by
    obtain ⟨Q, hQ, hI⟩ := h.MI
    exact ⟨_, g2 ν, ((hI.thrown 0).done hN).r hU⟩⟩
  rcases i_casesQ x with hx | ⟨n, hn, rfl⟩
  · exact no (fun μ => by unfold f_x_market f_x_market_b10; rw [if_pos (show x < 0 from hx)]) (fun ν => by
      unfold f_m_market
      rw [bnd_s, show f_m_in x 0 60 (setI ν v_m_thrown 0 0) = some (nI 0, setI ν v_m_thrown 0 0) from m_inG hx _, bd2_s, if_pos (show nI 0 = 0 from rfl)])
  · have hm : ∀ ν, f_m_in (nI n) 0 60 ν = some (nI (bN (decide (n ≤ 60))), ν) := fun ν => m_inN hn (b := 60) (by omega) ν
    by_cases c : n ≤ 60
    · refine ⟨nI (pcN (mkS a U n).1), aSetR a [(nI (mkS a U n).1).toInt64, (nI (mkS a U n).2.1).toInt64, (nI (mkS a U n).2.2).toInt64], U, fun μ h hU => ?_, fun ν h hU => ?_⟩
      · obtain ⟨μ', k1, k2⟩ := x_trade hN h.XI hU c
        refine ⟨μ', ?_, k2.r hU⟩
        unfold f_x_market
        rw [if_neg (i_nlt0 hn), if_pos (show nI n ≤ (60 : Int32) from (i_leN (b := 60) hn (by omega)).mpr c), k1, bd2_s]
      · obtain ⟨Q, hQ, hI⟩ := h.MI
        have hI1 := hI.thrown 0
        obtain ⟨ν', k1, k2⟩ := m_market_lp (U := U) hN hU c n 0 FU _ (by omega) (by unfold FU; omega) hI1
        refine ⟨ν', ?_, k2.r hU⟩
        unfold f_m_market
        rw [bnd_s, hm, bd2_s, decide_eq_true c, if_neg (show ¬ nI (bN true) = 0 by decide), m_now hW hI1.2.1.2.1, bd2_s]
        exact k1
    · exact no (fun μ => by unfold f_x_market f_x_market_b10; rw [if_neg (i_nlt0 hn), if_neg (show ¬ nI n ≤ (60 : Int32) from fun q => c ((i_leN (b := 60) hn (by omega)).mp q))]) (fun ν => by
        unfold f_m_market
        rw [bnd_s, hm, bd2_s, decide_eq_false c, if_pos (show nI (bN false) = 0 by decide)])
end OPS
