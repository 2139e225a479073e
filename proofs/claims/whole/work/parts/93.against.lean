/-! against. -/
/-- the state behind shop 0's reply -/
def rpl (a : Ab) (U : Nat → List Nat) (s : Nat) : Nat := nxt (aS a) (wnF s (pkA a U 0 s))
def agZ (a : Ab) (U : Nat → List Nat) (G : Nat → Nat) (s : Nat) : Nat := G (rpl a U s)
theorem agZ_ok (a : Ab) (U : Nat → List Nat) : Zok (agZ a U) := fun G hG s => hG _
theorem me_cells_ne {v : Nat} (h : 118 ≤ v) : v ≠ v_me_cells := fun q => by rw [q] at h; exact absurd h (by decide)
section OPS
variable {N : Nat} {a : Ab} {b : Nat × Nat} {μ0 μ : Mem} {Q : Nat} {S : SP} {U : Nat → List Nat}
theorem RS.mg {G : Nat → Nat → Nat} {p : Nat} {μ' : Mem} (h : RS Q G p μ) (hf : MG μ μ') : RS Q G p μ' := fun l s h1 h2 h3 h4 => by
  rw [hf.1 _ (by decide)] at h4 ⊢
  exact h l s h1 h2 h3 h4
theorem m_ans1 (hU : MU U μ0) : RAn N Q a μ0 (agZ a U) true := by
  intro d R hd hR s μ hs h hS
  have hp := h.1.1.1
  obtain ⟨μ1, a1, a2⟩ := m_pick h hU (sh := 0) (by omega) hs
  have h1 := h.mg a2
  have hs1 := wnF_lt (U := U) (sh := 0) (s' := s) hs
  obtain ⟨μ2, b1, b2, b3⟩ := hR (rpl a U s) μ1 (nxt_lt _ _) h1 (hS.mg a2)
  refine ⟨μ2, ?_, b2, b3⟩
  have b1' : R (nI (rpl a U s)) (nI d) 1 μ1 = some (nI (gA9 a (agZ a U) d (rpl a U s)), μ2) := b1
  unfold f_m_answered
  rw [if_neg (show ¬ nI (bN true) = 0 by decide), show f_m_pick (0 : Int32) (nI s) μ = _ from a1, bd2_s, m_wonP hp, bd2_s, m_next h1.2.1.1 hs1, bd2_s, show nI (d + 1) - (1 : Int32) = nI d from i_sub (b := 1) (by omega)]
  show (bd2 (R (nI (rpl a U s)) (nI d) 1 μ1) _) = _
  rw [b1', bd2_s]
  rfl
abbrev gR (a : Ab) (U : Nat → List Nat) (d s : Nat) : Nat := gO (aS a) (agZ a U) d s
/-- the memo, and the facts -/
def AGS (a : Ab) (U : Nat → List Nat) (μ : Mem) : Prop := FX a μ ∧ ∃ f, ME (aS a).1 f μ ∧ ∀ l s v, l < 7 → s < 2 ^ (aS a).1 → f l s = some v → (l = 0 → v = rpl a U s) ∧ (1 ≤ l → v = gR a U l s)
theorem AGS.fr {μ' : Mem} (h : AGS a U μ) (hF : FX a μ') (he : ∀ v, 105 ≤ v → v ≤ 108 → μ'.1 v = μ.1 v) : AGS a U μ' := by
  obtain ⟨_, f, h1, h2⟩ := h
  exact ⟨hF, f, h1.fr he, h2⟩
theorem x_reply (hU : XU U μ0) {s : Nat} (hs : s < 2 ^ (aS a).1) (h : XI N b a μ0 μ) (hG : AGS a U μ) : ∃ μ', f_sh_behindReply (nI s) μ = some (nI (rpl a U s), μ') ∧ XI N b a μ0 μ' ∧ AGS a U μ' := by
  have hp := h.1.1.1
  have h14 := p2_14 hp
  have hG' := hG
  obtain ⟨hF, f, f1, f2⟩ := hG'
  unfold f_sh_behindReply
  rw [show f_me_recall (0 : Int32) (nI s) μ = _ from me_recall hp f1 (l := 0) (by omega) hs, bd2_s]
  cases c : f 0 s with
  | some v =>
    have hv := (f2 0 s v (by omega) hs c).1 rfl
    refine ⟨μ, ?_, h, hG⟩
    rw [if_neg (show ¬ oI (some v) = -1 from nI_ne_m1 (by have := f1.lt (by omega) hs c; omega)), ← hv]
    rfl
  | none =>
    obtain ⟨μ1, a1, a2, a3⟩ := x_pick h hU hF (sh := 0) (by omega) hs
    have h1 := h.rg a2
    have hs1 := wnF_lt (U := U) (sh := 0) (s' := s) hs
    obtain ⟨μ2, b1, b2, b3⟩ := h1.after hs1
    have hr : rpl a U s < 2 ^ (aS a).1 := nxt_lt _ _
    have f12 : ME (aS a).1 f μ2 := (f1.fr (fun v w1 w2 => a2.1 v (by unfold rIn; omega))).fr (fun v w1 w2 => b3.1 v (by omega))
    obtain ⟨μ3, n1, n2, n3, n4⟩ := me_note (u := rpl a U s) b2 f12 (l := 0) (s := s) (by omega) hs (by omega)
    have hF2 : FX a μ2 := a3.of hp (fun v w1 w2 => b3.1 v (by omega))
    refine ⟨μ3, ?_, n2, hF2.of hp (fun v w1 w2 => n4 v (me_cells_ne w1)), _, n3, fun l s' v h1 h2 h3 => ?_⟩
    · have ew : (if (0 : Int32) ≤ pkI (pkA a U 0 s) then nI s ^^^ ((1 : Int32) <<< (pkI (pkA a U 0 s) &&& 31)) else nI s) = nI (wnF s (pkA a U 0 s)) := by
        have := m_wonP (U := U) (μ := μ) (sh := 0) (s := s) hp
        unfold f_m_won at this
        rw [bnd_s] at this
        exact (Prod.mk.inj (Option.some.inj this)).1
      rw [if_pos (show oI none = -1 from rfl), show f_sh_pick (0 : Int32) (nI s) μ = _ from a1, bd2_s, bnd_s, ew, b1, bd2_s]
      show (bd1 (f_me_note (nI 0) (nI s) (nI (rpl a U s)) μ2) _) = _
      rw [n1, bd1_s]
      rfl
    · unfold fup at h3
      by_cases q : l = 0 ∧ s' = s
      · rw [if_pos q] at h3
        have hv := Option.some.inj h3
        refine ⟨fun _ => ?_, fun z => by omega⟩
        rw [q.2]
        exact hv.symm
      · rw [if_neg q] at h3
        exact f2 l s' v h1 h2 h3
def RGr (N : Nat) (b : Nat × Nat) (a : Ab) (U : Nat → List Nat) (μ0 : Mem) (d : Nat) (R : Int32 → Int32 → Mem → Option (Int32 × Mem)) : Prop := ∀ s (μ : Mem), s < 2 ^ (aS a).1 → XI N b a μ0 μ → AGS a U μ → ∃ μ', R (nI s) (nI d) μ = some (nI (gR a U d s), μ') ∧ XI N b a μ0 μ' ∧ AGS a U μ'
theorem x_br_lp (hU : XU U μ0) {d s : Nat} {R : Int32 → Int32 → Mem → Option (Int32 × Mem)} (hR : RGr N b a U μ0 d R) (hd : d < 6) (hs : s < 2 ^ (aS a).1) : ∀ m i g (μ : Mem), i + m = (aS a).1 → m < g → XI N b a μ0 μ → AGS a U μ → ∃ μ', f_sh_bestAgainstRule_b51 R g (nI s) (nI (d + 1)) (nI (mxL (fun i => agZ a U (gR a U d) (s ||| 2 ^ i)) (opS (aS a) s) i (agZ a U (gR a U d) s))) (nI (wo (wo (2 ^ (aS a).1 - 1) s) (aS a).2.2.2)) (nI i) μ = some (nI (gR a U (d + 1) s), μ') ∧ XI N b a μ0 μ' ∧ AGS a U μ' := by
  have hop : wo (wo (2 ^ (aS a).1 - 1) s) (aS a).2.2.2 < 2 ^ (aS a).1 := wo_lt (wo_lt (ev_lt _))
  intro m
  induction m with
  | zero =>
    intro i g μ hi hg h hG
    obtain ⟨g, rfl⟩ : ∃ z, g = z + 1 := ⟨g - 1, by omega⟩
    have hp := h.1.1.1
    obtain rfl : i = (aS a).1 := by omega
    have e : mxL (fun i => agZ a U (gR a U d) (s ||| 2 ^ i)) (opS (aS a) s) (aS a).1 (agZ a U (gR a U d) s) = gR a U (d + 1) s := rfl
    have hb : gR a U (d + 1) s ≤ 14 := gO_le (agZ_ok a U) (d + 1) s
    obtain ⟨hF, f, f1, f2⟩ := hG
    obtain ⟨μ1, n1, n2, n3, n4⟩ := me_note (u := gR a U (d + 1) s) h f1 (l := d + 1) (s := s) (by omega) hs (by omega)
    refine ⟨μ1, ?_, n2, hF.of hp (fun v w1 w2 => n4 v (me_cells_ne w1)), _, n3, fun l s' v h1 h2 h3 => ?_⟩
    · rw [f_sh_bestAgainstRule_b51, h.2.1.1.1, if_pos ((i_leN (by omega) (by omega)).mpr (Nat.le_refl _)), e, n1, bd1_s]
    · unfold fup at h3
      by_cases q : l = d + 1 ∧ s' = s
      · rw [if_pos q] at h3
        have hv := Option.some.inj h3
        refine ⟨fun z => by omega, fun _ => ?_⟩
        rw [q.1, q.2]
        exact hv.symm
      · rw [if_neg q] at h3
        exact f2 l s' v h1 h2 h3
  | succ m ih =>
    intro i g μ hi hg h hG
    obtain ⟨g, rfl⟩ : ∃ z, g = z + 1 := ⟨g - 1, by omega⟩
    have hp := h.1.1.1
    have h14 := p2_14 hp
    have hz : ∀ s, agZ a U (gR a U d) s ≤ 14 := agZ_ok a U _ (gO_le (agZ_ok a U) d)
    have hb1 := hz (s ||| 2 ^ i)
    have hb3 : mxL (fun i => agZ a U (gR a U d) (s ||| 2 ^ i)) (opS (aS a) s) i (agZ a U (gR a U d) s) ≤ 14 := mxL_le i (hz s) (fun j => hz _)
    rw [f_sh_bestAgainstRule_b51, h.2.1.1.1, if_neg (fun q => absurd ((i_leN (by omega) (by omega)).mp q) (by omega)), i_bit (by omega) (by omega), op1_tb (by omega)]
    cases c : opS (aS a) s i with
    | false =>
      have e : mxL (fun i => agZ a U (gR a U d) (s ||| 2 ^ i)) (opS (aS a) s) (i + 1) (agZ a U (gR a U d) s) = mxL (fun i => agZ a U (gR a U d) (s ||| 2 ^ i)) (opS (aS a) s) i (agZ a U (gR a U d) s) := by rw [mxL, c]; rfl
      have := ih (i + 1) g μ (by omega) (by omega) h hG
      rw [e] at this
      rw [if_pos (by decide), l_1, i_add]
      exact this
    | true =>
      have e : mxL (fun i => agZ a U (gR a U d) (s ||| 2 ^ i)) (opS (aS a) s) (i + 1) (agZ a U (gR a U d) s) = max (mxL (fun i => agZ a U (gR a U d) (s ||| 2 ^ i)) (opS (aS a) s) i (agZ a U (gR a U d) s)) (agZ a U (gR a U d) (s ||| 2 ^ i)) := by rw [mxL, c]; rfl
      obtain ⟨μ1, a1, a2, a3⟩ := x_reply hU (s := s ||| 2 ^ i) (or_lt hs (Nat.pow_lt_pow_right (by omega) (by omega))) h hG
      obtain ⟨μ2, b1, b2, b3⟩ := hR (rpl a U (s ||| 2 ^ i)) μ1 (nxt_lt _ _) a2 a3
      obtain ⟨μ', k1, k2, k3⟩ := ih (i + 1) g μ2 (by omega) (by omega) b2 b3
      rw [e] at k1
      refine ⟨μ', ?_, k2, k3⟩
      rw [if_neg (by decide), i_one (by omega), i_or, a1, bd2_s, l_1, i_sub (by omega), Nat.add_sub_cancel, b1, bd2_s, show gR a U d (rpl a U (s ||| 2 ^ i)) = agZ a U (gR a U d) (s ||| 2 ^ i) from rfl, imax_n (by omega) (by omega), i_add]
      exact k1
theorem x_br (hU : XU U μ0) : ∀ d k, d < k → d ≤ 6 → RGr N b a U μ0 d (f_sh_bestAgainstRule k) := by
  intro d
  induction d with
  | zero =>
    intro k hk hd s μ hs h hG
    obtain ⟨k, rfl⟩ : ∃ z, k = z + 1 := ⟨k - 1, by omega⟩
    have h14 := p2_14 h.1.1.1
    refine ⟨μ, ?_, h, hG⟩
    rw [f_sh_bestAgainstRule, f_sh_bestAgainstRule_body, if_neg (show ¬ (0 : Int32) < nI 0 by decide), jd_bc (by omega), bd2_s]
    rfl
  | succ d ih =>
    intro k hk hd s μ hs h hG
    obtain ⟨k, rfl⟩ : ∃ z, k = z + 1 := ⟨k - 1, by omega⟩
    have hp := h.1.1.1
    have ihR := ih k (by omega) (by omega)
    have hG' := hG
    obtain ⟨hF, f, f1, f2⟩ := hG'
    have e0 : (0 : Int32) < nI (d + 1) := (i_ltN (a := 0) (by omega) (by omega)).mpr (by omega)
    rw [f_sh_bestAgainstRule, f_sh_bestAgainstRule_body, if_pos e0, me_recall hp f1 (show d + 1 < 7 by omega) hs, bd2_s]
    cases c : f (d + 1) s with
    | some v =>
      have hv := (f2 (d + 1) s v (by omega) hs c).2 (by omega)
      refine ⟨μ, ?_, h, hG⟩
      rw [if_neg (show ¬ oI (some v) = -1 from nI_ne_m1 (by have := f1.lt (by omega) hs c; omega)), ← hv]
      rfl
    | none =>
      obtain ⟨μ1, a1, a2, a3⟩ := x_reply hU hs h hG
      obtain ⟨μ2, b1, b2, b3⟩ := ihR (rpl a U s) μ1 (nxt_lt _ _) a2 a3
      obtain ⟨μ3, c1, c2, c3⟩ := x_br_lp hU ihR (by omega) hs (aS a).1 0 FU μ2 (by omega) (by unfold FU; omega) b2 b3
      refine ⟨μ3, ?_, c2, c3⟩
      rw [if_pos (show oI none = -1 from rfl), a1, bd2_s, show nI (d + 1) - (1 : Int32) = nI d from i_sub (b := 1) (by omega), b1, bd2_s, sh_open1 b2.2.1.1 hs, bd2_s]
      exact c1
theorem x_pr_lp (hU : XU U μ0) (hN : N < 600) {d : Nat} (hd : d < 6) : ∀ k x g (μ : Mem), k ≤ (aS a).1 → k < g → XI N b a μ0 μ → AGS a U μ → ∃ μ', f_sh_playRule_b75 g (nI (d + 1)) (nI (aN a)) (nI (gR a U (d + 1) (aN a))) x (nI (wo (wo (2 ^ (aS a).1 - 1) (aN a)) (aS a).2.2.2)) (nI k + (-1 : Int32)) μ = some (nI (gR a U (d + 1) (aN a)), μ') ∧ XO N (aSetR a [(dnI (pkG (aS a) (agZ a U) d (aN a)) k x).toInt64]) μ0 μ' := by
  have hop : wo (wo (2 ^ (aS a).1 - 1) (aN a)) (aS a).2.2.2 < 2 ^ (aS a).1 := wo_lt (wo_lt (ev_lt _))
  intro k
  induction k with
  | zero =>
    intro x g μ hk hg h hG
    obtain ⟨g, rfl⟩ : ∃ z, g = z + 1 := ⟨g - 1, by omega⟩
    obtain ⟨μ1, a1, a2, a3⟩ := rw_only x.toInt64 μ
    refine ⟨μ1, ?_, h.told hN (by simp) a2 a3⟩
    unfold f_sh_playRule_b75 f_sh_playRule_b138
    rw [i_m1, if_pos (by decide), a1, bd1_s]
  | succ k ih =>
    intro x g μ hk hg h hG
    obtain ⟨g, rfl⟩ : ∃ z, g = z + 1 := ⟨g - 1, by omega⟩
    have hp := h.1.1.1
    have h14 := p2_14 hp
    have hnow := now_lt h.1
    have hz : ∀ s, agZ a U (gR a U d) s ≤ 14 := agZ_ok a U _ (gO_le (agZ_ok a U) d)
    have hb1 := hz (aN a ||| 2 ^ k)
    have hb2 : gR a U (d + 1) (aN a) ≤ 14 := gO_le (agZ_ok a U) (d + 1) _
    rw [f_sh_playRule_b75, i_dec (by omega), Nat.add_sub_cancel, if_neg (i_nlt0 (by omega)), i_bit (by omega) (by omega), op1_tb (by omega), dnI]
    cases c : opS (aS a) (aN a) k with
    | false =>
      have hpk : pkG (aS a) (agZ a U) d (aN a) k = false := by unfold pkG; rw [c]; rfl
      unfold f_sh_playRule_b115 f_sh_playRule_b116
      rw [if_pos (by decide), bnd_s, if_pos rfl, hpk]
      exact ih x g μ (by omega) (by omega) h hG
    | true =>
      obtain ⟨μ1, a1, a2, a3⟩ := x_reply hU (s := aN a ||| 2 ^ k) (or_lt hnow (Nat.pow_lt_pow_right (by omega) (by omega))) h hG
      obtain ⟨μ2, b1, b2, b3⟩ := x_br hU d 8 (by omega) (by omega) (rpl a U (aN a ||| 2 ^ k)) μ1 (nxt_lt _ _) a2 a3
      rw [if_neg (by decide), i_one (by omega), i_or, a1, bd2_s, show nI (d + 1) - (1 : Int32) = nI d from i_sub (b := 1) (by omega), b1, bd2_s, show gR a U d (rpl a U (aN a ||| 2 ^ k)) = agZ a U (gR a U d) (aN a ||| 2 ^ k) from rfl]
      by_cases c2 : agZ a U (gR a U d) (aN a ||| 2 ^ k) = gR a U (d + 1) (aN a)
      · have hpk : pkG (aS a) (agZ a U) d (aN a) k = true := by unfold pkG; rw [c, decide_eq_true (show agZ a U (gO (aS a) (agZ a U) d) (aN a ||| 2 ^ k) = gO (aS a) (agZ a U) (d + 1) (aN a) from c2)]; rfl
        rw [if_pos (by rw [c2]), bnd_s, if_neg (show ¬ (1 : Int32) = 0 by decide), bnd_s, hpk]
        exact ih (nI k) g μ2 (by omega) (by omega) b2 b3
      · have hpk : pkG (aS a) (agZ a U) d (aN a) k = false := by unfold pkG; rw [decide_eq_false (show ¬ agZ a U (gO (aS a) (agZ a U) d) (aN a ||| 2 ^ k) = gO (aS a) (agZ a U) (d + 1) (aN a) from c2)]; simp
        rw [if_neg (fun q => c2 (nI_inj (by omega) (by omega) q)), bnd_s, if_pos rfl, bnd_s, hpk]
        exact ih x g μ2 (by omega) (by omega) b2 b3
theorem x_pr (hN : N < 600) {n : Nat} (hn : n ≤ 6) (h : XR N a μ) (hU : XU U μ) : ∃ μ', f_sh_playRule (nI n) μ = some (nI (gR a U n (aN a)), μ') ∧ XO N (aSetR a (rwG (aS a) (agZ a U) n (aN a))) μ μ' := by
  have hp := h.1.1.1
  have hnow := now_lt h.1
  obtain ⟨μl, l1, l2, l3⟩ := x_learn h.XI
  have hl := h.XI.rg l2
  obtain ⟨μ1, b1, b2, b3, b4⟩ := me_begin hl (by show 4 * N + 1 ≤ _; omega)
  have hF1 : FX a μ1 := l3.of hp (fun v w1 w2 => b4 v (by omega))
  obtain ⟨μ2, t1, t2, t3⟩ := x_br hU n 8 (by omega) hn (aN a) μ1 hnow b2 ⟨hF1, _, b3, fun l s v h1 h2 h3 => absurd h3 (by simp)⟩
  unfold f_sh_playRule
  rw [l1, bd1_s, hl.2.1.1.1, b1, bd1_s, st_now b2.1 b2.2.1, bd2_s, t1, bd2_s]
  unfold rwG
  by_cases c : n = 0
  · subst c
    obtain ⟨μ3, a1, a2, a3⟩ := rw_only (oI none).toInt64 μ2
    refine ⟨μ3, ?_, t2.told hN (by simp) a2 a3⟩
    unfold f_sh_playRule_b138
    rw [if_pos (show nI 0 ≤ 0 by decide), show f_rw_only (Int32.toInt64 (-1)) μ2 = some μ3 from a1, bd1_s]
  · obtain ⟨d, rfl⟩ : ∃ z, n = z + 1 := ⟨n - 1, by omega⟩
    obtain ⟨μ2', r1, r2, r3⟩ := x_reply hU hnow t2 t3
    obtain ⟨μ3, a1, a2, a3⟩ := x_br hU d 8 (by omega) (by omega) (rpl a U (aN a)) μ2' (nxt_lt _ _) r2 r3
    have hb1 : agZ a U (gR a U d) (aN a) ≤ 14 := agZ_ok a U _ (gO_le (agZ_ok a U) d) _
    have hb2 : gR a U (d + 1) (aN a) ≤ 14 := gO_le (agZ_ok a U) (d + 1) _
    rw [if_neg (show ¬ nI (d + 1) ≤ 0 from fun q => absurd ((i_leN (b := 0) (by omega) (by omega)).mp q) (by omega)), r1, bd2_s, show nI (d + 1) - (1 : Int32) = nI d from i_sub (b := 1) (by omega), a1, bd2_s, if_neg c, Nat.add_sub_cancel]
    unfold whG
    by_cases q : agZ a U (gO (aS a) (agZ a U) d) (aN a) = gO (aS a) (agZ a U) (d + 1) (aN a)
    · obtain ⟨μ4, f1, f2, f3⟩ := rw_only (oI none).toInt64 μ3
      rw [if_pos q]
      refine ⟨μ4, ?_, a2.told hN (by simp) f2 f3⟩
      unfold f_sh_playRule_b138
      rw [if_pos (show nI (gR a U d (rpl a U (aN a))) = nI (gR a U (d + 1) (aN a)) from congrArg nI q), show f_rw_only (Int32.toInt64 (-1)) μ3 = some μ4 from f1, bd1_s]
    · rw [if_neg (show ¬ nI (gR a U d (rpl a U (aN a))) = nI (gR a U (d + 1) (aN a)) from fun z => q (nI_inj (Nat.lt_of_le_of_lt hb1 (by omega)) (Nat.lt_of_le_of_lt hb2 (by omega)) z)), if_neg q, sh_open1 a2.2.1.1 hnow, bd2_s, a2.2.1.1.1]
      obtain ⟨μ5, g1, g2⟩ := x_pr_lp hU hN (d := d) (by omega) (aS a).1 (-1) FU μ3 (Nat.le_refl _) (by unfold FU; omega) a2 a3
      rw [dnI_o] at g2
      refine ⟨μ5, ?_, g2⟩
      rw [bnd_s, Int32.sub_eq_add_neg]
      exact g1
theorem op_against {x : Int32} : OpU N a U (f_x_against x) (f_m_against x) := fun hW hN => by
  have no : (∀ μ, f_x_against x μ = some (-1, μ)) → (∀ ν, f_m_against x ν = some (-1, setI ν v_m_thrown 0 0)) → ∃ ans a' U', (∀ μ, XR N a μ → XU U μ → ∃ μ', f_x_against x μ = some (ans, μ') ∧ XOr N a' U' μ μ') ∧ ∀ ν, MR N a ν → MU U ν → ∃ ν', f_m_against x ν = some (ans, ν') ∧ MOr N a' U' ν ν' := fun g1 g2 => ⟨-1, a, U, fun μ h hU => ⟨μ, g1 μ, (h.XI.done hN).r hU⟩, fun ν h hU => by
    obtain ⟨Q, hQ, hI⟩ := h.MI
    exact ⟨_, g2 ν, ((hI.thrown 0).done hN).r hU⟩⟩
  rcases i_casesQ x with hx | ⟨n, hn, rfl⟩
  · exact no (fun μ => by unfold f_x_against f_x_against_b10; rw [if_pos (show x < 0 from hx)]) (fun ν => by
      unfold f_m_against
      rw [bnd_s, show f_m_in x 0 6 (setI ν v_m_thrown 0 0) = some (nI 0, setI ν v_m_thrown 0 0) from m_inG hx _, bd2_s, if_pos (show nI 0 = 0 from rfl)])
  · have hm : ∀ ν, f_m_in (nI n) 0 6 ν = some (nI (bN (decide (n ≤ 6))), ν) := fun ν => m_inN hn (b := 6) (by omega) ν
    by_cases c : n ≤ 6
    · refine ⟨nI (gR a U n (aN a)), aSetR a (rwG (aS a) (agZ a U) n (aN a)), U, fun μ h hU => ?_, fun ν h hU => ?_⟩
      · obtain ⟨μ', k1, k2⟩ := x_pr hN c h hU
        refine ⟨μ', ?_, k2.r hU⟩
        unfold f_x_against
        rw [if_neg (i_nlt0 hn), if_pos (show nI n ≤ (6 : Int32) from (i_leN (b := 6) hn (by omega)).mpr c), k1, bd2_s]
      · obtain ⟨Q, hQ, hI⟩ := h.MI
        have hI1 := hI.thrown 0
        have hN6 := hI.2.2.2.1.1
        obtain ⟨ν', k1, k2⟩ := m_out (agZ_ok a U) (m_ans1 hU) hN c hI1 (by omega)
        refine ⟨ν', ?_, k2.r hU⟩
        have k1' : f_m_playOut (nI n) 1 (setI ν v_m_thrown 0 0) = some (nI (gR a U n (aN a)), ν') := k1
        unfold f_m_against
        rw [bnd_s, hm, bd2_s, decide_eq_true c, if_neg (show ¬ nI (bN true) = 0 by decide), k1', bd2_s]
    · exact no (fun μ => by unfold f_x_against f_x_against_b10; rw [if_neg (i_nlt0 hn), if_neg (show ¬ nI n ≤ (6 : Int32) from fun q => c ((i_leN (b := 6) hn (by omega)).mp q))]) (fun ν => by
        unfold f_m_against
        rw [bnd_s, hm, bd2_s, decide_eq_false c, if_pos (show nI (bN false) = 0 by decide)])
end OPS
