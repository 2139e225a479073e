/-! daily, plan: the class. -/
section OPS
variable {N : Nat} {a : Ab} {b : Nat × Nat} {μ0 μ : Mem} {Q : Nat} {S : SP} {w : Nat}
abbrev lsA (a : Ab) (w d s : Nat) : Nat := lsD (aS a) (aPr a) w d s
/-- the memo of sums, and who is wanted -/
def TS (a : Ab) (w : Nat) (μ : Mem) : Prop := (∃ f, ME (aS a).1 f μ ∧ ∀ l s v, 1 ≤ l → l < 7 → s < 2 ^ (aS a).1 → f l s = some v → v = lsA a w l s) ∧ μ.1 v_ta_wanted 0 = nI w
def TFr (μ μ' : Mem) : Prop := ∀ v, 109 ≤ v → v ≤ 132 → μ'.1 v = μ.1 v
theorem TFr.tr {μ1 μ2 μ3 : Mem} (h : TFr μ1 μ2) (k : TFr μ2 μ3) : TFr μ1 μ3 := fun v h1 h2 => (k v h1 h2).trans (h v h1 h2)
theorem TS.fr {μ' : Mem} (h : TS a w μ) (he : ∀ v, 105 ≤ v → v ≤ 108 → μ'.1 v = μ.1 v) (hw : μ'.1 v_ta_wanted = μ.1 v_ta_wanted) : TS a w μ' := by
  obtain ⟨⟨f, h1, h2⟩, h3⟩ := h
  exact ⟨⟨f, h1.fr he, h2⟩, by rw [hw]; exact h3⟩
theorem x_aft {s : Nat} (hs : s < 2 ^ (aS a).1) (h : XI N b a μ0 μ) (hT : TS a w μ) : ∃ μ', f_he_after 0 (nI s) μ = some (nI (nxt (aS a) s), μ') ∧ XI N b a μ0 μ' ∧ TS a w μ' ∧ TFr μ μ' := by
  obtain ⟨μ1, l1, l2, l3⟩ := h.after hs
  exact ⟨μ1, l1, l2, hT.fr (fun v h1 h2 => l3.1 v (by omega)) (l3.1 _ (by decide)), fun v h1 h2 => l3.1 v (by omega)⟩
def RSp (N : Nat) (b : Nat × Nat) (a : Ab) (μ0 : Mem) (w d : Nat) (R : Int32 → Int32 → Mem → Option (Int32 × Mem)) : Prop := ∀ s (μ : Mem), s < 2 ^ (aS a).1 → XI N b a μ0 μ → TS a w μ → ∃ μ', R (nI s) (nI d) μ = some (nI (lsA a w d s), μ') ∧ XI N b a μ0 μ' ∧ TS a w μ' ∧ TFr μ μ'
theorem x_lsW {d i s : Nat} {R : Int32 → Int32 → Mem → Option (Int32 × Mem)} (hR : RSp N b a μ0 w d R) (hi : i < (aS a).1) (hs : s < 2 ^ (aS a).1) (h : XI N b a μ0 μ) (hT : TS a w μ) (hd : d < 100) : ∃ μ', f_ta_leastSumWith R (nI i) (nI s) (nI (d + 1)) μ = some (nI (aPr a i + lsA a w d (nxt (aS a) (s ||| 2 ^ i))), μ') ∧ XI N b a μ0 μ' ∧ TS a w μ' ∧ TFr μ μ' := by
  have hp := h.1.1.1
  have hpr := h.2.1.2.1.1 i hi
  obtain ⟨μ1, a1, a2, a3, a4⟩ := x_aft (s := s ||| 2 ^ i) (or_lt hs (Nat.pow_lt_pow_right (by omega) hi)) h hT
  obtain ⟨μ2, b1, b2, b3, b4⟩ := hR _ μ1 (nxt_lt _ _) a2 a3
  refine ⟨μ2, ?_, b2, b3, a4.tr b4⟩
  unfold f_ta_leastSumWith
  rw [inb_n (by omega) (by omega), chk_t, i_one (by omega), i_or, a1, bd2_s, l_1, i_sub (by omega), Nat.add_sub_cancel, b1, bd2_s, cl_nI (by omega), hpr, i_add]
def fL (a : Ab) (w d s : Nat) : Nat → Nat := fun i => aPr a i + lsA a w d (nxt (aS a) (s ||| 2 ^ i))
theorem op_tb {s i : Nat} (hi : i < S.1) : (wo (wo (2 ^ S.1 - 1) S.2.2.2) s).testBit i = opS S s i := by
  rw [wo_tb, wo_tb, tb_ev, decide_eq_true hi, Bool.true_and]
  rfl
theorem x_ls_lp {d s : Nat} {R : Int32 → Int32 → Mem → Option (Int32 × Mem)} (hR : RSp N b a μ0 w d R) (hs : s < 2 ^ (aS a).1) (hd : d + 1 < 7) : ∀ m i g (μ : Mem), i + m = (aS a).1 → m < g → XI N b a μ0 μ → TS a w μ → ∃ μ', f_ta_leastSum_b85 R g (nI s) (nI (d + 1)) (nI (mnL (fL a w d s) (opS (aS a) s) i (lsA a w d (nxt (aS a) s)))) (nI (wo (wo (2 ^ (aS a).1 - 1) (aS a).2.2.2) s)) (nI i) μ = some (nI (lsA a w (d + 1) s), μ') ∧ XI N b a μ0 μ' ∧ TS a w μ' ∧ TFr μ μ' := by
  have hop : wo (wo (2 ^ (aS a).1 - 1) (aS a).2.2.2) s < 2 ^ (aS a).1 := wo_lt (wo_lt (ev_lt _))
  intro m
  induction m with
  | zero =>
    intro i g μ hi hg h hT
    obtain ⟨g, rfl⟩ : ∃ z, g = z + 1 := ⟨g - 1, by omega⟩
    have hp := h.1.1.1
    obtain rfl : i = (aS a).1 := by omega
    have e : mnL (fL a w d s) (opS (aS a) s) (aS a).1 (lsA a w d (nxt (aS a) s)) = lsA a w (d + 1) s := rfl
    have hle := lsD_le (S := aS a) (pr := aPr a) (w := w) (d + 1) s
    obtain ⟨⟨f, f1, f2⟩, hw⟩ := hT
    obtain ⟨μ1, n1, n2, n3, n4⟩ := me_note (u := lsA a w (d + 1) s) h f1 (l := d + 1) (s := s) hd hs (by show lsD _ _ _ _ _ < _; omega)
    refine ⟨μ1, ?_, n2, ⟨⟨_, n3, fun l s' v h1 h2 h3 h4 => ?_⟩, by rw [n4 _ (by decide)]; exact hw⟩, fun v h1 h2 => n4 v (by show v ≠ 106; omega)⟩
    · rw [f_ta_leastSum_b85, h.2.1.1.1, if_pos ((i_leN (by omega) (by omega)).mpr (Nat.le_refl _)), e, n1, bd1_s]
    · unfold fup at h4
      by_cases q : l = d + 1 ∧ s' = s
      · rw [if_pos q] at h4
        rw [q.1, q.2]
        exact (Option.some.inj h4).symm
      · rw [if_neg q] at h4
        exact f2 l s' v h1 h2 h3 h4
  | succ m ih =>
    intro i g μ hi hg h hT
    obtain ⟨g, rfl⟩ : ∃ z, g = z + 1 := ⟨g - 1, by omega⟩
    have hp := h.1.1.1
    have h14 := p2_14 hp
    have hx := mnL_x (fL a w d s) (opS (aS a) s) (lsA a w d (nxt (aS a) s)) i
    have hle := lsD_le (S := aS a) (pr := aPr a) (w := w) d (nxt (aS a) s)
    have hle2 := lsD_le (S := aS a) (pr := aPr a) (w := w) d (nxt (aS a) (s ||| 2 ^ i))
    have h9 := h.1.2.2.1 i (by omega)
    rw [f_ta_leastSum_b85, h.2.1.1.1, if_neg (fun q => absurd ((i_leN (by omega) (by omega)).mp q) (by omega)), i_bit (by omega) (by omega), op_tb (by omega)]
    cases c : opS (aS a) s i with
    | false =>
      have e : mnL (fL a w d s) (opS (aS a) s) (i + 1) (lsA a w d (nxt (aS a) s)) = mnL (fL a w d s) (opS (aS a) s) i (lsA a w d (nxt (aS a) s)) := by rw [mnL, c]; rfl
      have := ih (i + 1) g μ (by omega) (by omega) h hT
      rw [e] at this
      rw [if_pos (by decide), l_1, i_add]
      exact this
    | true =>
      have e : mnL (fL a w d s) (opS (aS a) s) (i + 1) (lsA a w d (nxt (aS a) s)) = min (mnL (fL a w d s) (opS (aS a) s) i (lsA a w d (nxt (aS a) s))) (fL a w d s i) := by rw [mnL, c]; rfl
      obtain ⟨μ1, a1, a2, a3, a4⟩ := x_lsW hR (i := i) (by omega) hs h hT (by omega)
      obtain ⟨μ', k1, k2, k3, k4⟩ := ih (i + 1) g μ1 (by omega) (by omega) a2 a3
      rw [e] at k1
      refine ⟨μ', ?_, k2, k3, a4.tr k4⟩
      rw [if_neg (by decide), a1, bd2_s, imin_n (by show _ < _; have : lsA a w d (nxt (aS a) s) = lsD (aS a) (aPr a) w d (nxt (aS a) s) := rfl; omega) (by have : lsA a w d (nxt (aS a) (s ||| 2 ^ i)) = lsD (aS a) (aPr a) w d (nxt (aS a) (s ||| 2 ^ i)) := rfl; omega), l_1, i_add]
      exact k1
theorem x_ls (hw : w < 2 ^ (aS a).1) : ∀ d k, d < k → d < 7 → RSp N b a μ0 w d (f_ta_leastSum k) := by
  intro d
  induction d with
  | zero =>
    intro k hk hd s μ hs h hT
    obtain ⟨k, rfl⟩ : ∃ z, k = z + 1 := ⟨k - 1, by omega⟩
    have h14 := p2_14 h.1.1.1
    have hsw : s &&& w < 2 ^ (aS a).1 := and_lt hs
    refine ⟨μ, ?_, h, hT, fun _ _ _ => rfl⟩
    rw [f_ta_leastSum, f_ta_leastSum_body, if_neg (show ¬ (0 : Int32) < nI 0 by decide), hT.2, i_and]
    show _ = some (nI (lsD (aS a) (aPr a) w 0 s), μ)
    rw [lsD]
    by_cases c : s &&& w = w
    · rw [if_pos (by rw [c]), if_pos c]; rfl
    · rw [if_neg (fun q => c (nI_inj (by omega) (by omega) q)), if_neg c]; rfl
  | succ d ih =>
    intro k hk hd s μ hs h hT
    obtain ⟨k, rfl⟩ : ∃ z, k = z + 1 := ⟨k - 1, by omega⟩
    have h14 := p2_14 h.1.1.1
    have hp := h.1.1.1
    have ihR := ih k (by omega) (by omega)
    have hT' := hT
    obtain ⟨⟨f, f1, f2⟩, hwt⟩ := hT'
    have e0 : (0 : Int32) < nI (d + 1) := (i_ltN (a := 0) (by omega) (by omega)).mpr (by omega)
    cases c : f (d + 1) s with
    | some v =>
      have hv := f2 (d + 1) s v (by omega) hd hs c
      refine ⟨μ, ?_, h, hT, fun _ _ _ => rfl⟩
      rw [f_ta_leastSum, f_ta_leastSum_body, if_pos e0, me_recall hp f1 hd hs, bd2_s, c, if_neg (show ¬ oI (some v) = -1 from nI_ne_m1 (by have := f1.lt hd hs c; omega)), hv]
      rfl
    | none =>
      obtain ⟨μ1, a1, a2, a3, a4⟩ := x_aft hs h hT
      obtain ⟨μ2, b1, b2, b3, b4⟩ := ihR _ μ1 (nxt_lt _ _) a2 a3
      obtain ⟨μ3, c1, c2, c3, c4⟩ := x_ls_lp ihR hs hd (aS a).1 0 FU μ2 (by omega) (by unfold FU; omega) b2 b3
      refine ⟨μ3, ?_, c2, c3, (a4.tr b4).tr c4⟩
      rw [f_ta_leastSum, f_ta_leastSum_body, if_pos e0, me_recall hp f1 hd hs, bd2_s, c, if_pos (show oI none = -1 from rfl), a1, bd2_s, l_1, i_sub (by omega), Nat.add_sub_cancel, b1, bd2_s, st_everybody b2.2.1.1, bd2_s, b2.2.1.1.2.2.2.1, i_woQ, i_woQ, bnd_s]
      exact c1
theorem x_who_lp (hw : w < 2 ^ (aS a).1) {d c s : Nat} (hs : s < 2 ^ (aS a).1) (hd : d + 1 < 7) (hc : c < 2 ^ 31) : ∀ m i g (μ : Mem), i + m = (aS a).1 → m < g → XI N b a μ0 μ → TS a w μ → ∃ μ', f_ta_whomFirst_b47 g (nI s) (nI (d + 1)) (nI c) (nI (wo (wo (2 ^ (aS a).1 - 1) (aS a).2.2.2) s)) (nI i) μ = some (oI (fsI (pkD (aS a) (aPr a) w (d + 1) c s) m i), μ') ∧ XI N b a μ0 μ' ∧ TS a w μ' ∧ TFr μ μ' := by
  have hop : wo (wo (2 ^ (aS a).1 - 1) (aS a).2.2.2) s < 2 ^ (aS a).1 := wo_lt (wo_lt (ev_lt _))
  intro m
  induction m with
  | zero =>
    intro i g μ hi hg h hT
    obtain ⟨g, rfl⟩ : ∃ z, g = z + 1 := ⟨g - 1, by omega⟩
    have hp := h.1.1.1
    refine ⟨μ, ?_, h, hT, fun _ _ _ => rfl⟩
    rw [f_ta_whomFirst_b47, h.2.1.1.1, if_pos ((i_leN (by omega) (by omega)).mpr (by omega))]
    rfl
  | succ m ih =>
    intro i g μ hi hg h hT
    obtain ⟨g, rfl⟩ : ∃ z, g = z + 1 := ⟨g - 1, by omega⟩
    have hp := h.1.1.1
    have h14 := p2_14 hp
    have hle2 := lsD_le (S := aS a) (pr := aPr a) (w := w) d (nxt (aS a) (s ||| 2 ^ i))
    have h9 := h.1.2.2.1 i (by omega)
    rw [f_ta_whomFirst_b47, h.2.1.1.1, if_neg (fun q => absurd ((i_leN (by omega) (by omega)).mp q) (by omega)), i_bit (by omega) (by omega), op_tb (by omega), fsI]
    cases c1 : opS (aS a) s i with
    | false =>
      rw [if_pos (by decide), l_1, i_add, if_neg (by unfold pkD; rw [c1]; simp)]
      exact ih (i + 1) g μ (by omega) (by omega) h hT
    | true =>
      obtain ⟨μ1, a1, a2, a3, a4⟩ := x_lsW (x_ls hw d 8 (by omega) (by omega)) (i := i) (by omega) hs h hT (by omega)
      rw [if_neg (by decide), a1, bd2_s]
      by_cases c2 : aPr a i + lsD (aS a) (aPr a) w d (nxt (aS a) (s ||| 2 ^ i)) = c
      · refine ⟨μ1, ?_, a2, a3, a4⟩
        rw [if_pos (show nI _ = nI c by rw [← c2]), if_pos (by unfold pkD; rw [c1, Nat.add_sub_cancel, decide_eq_true c2]; rfl)]
        rfl
      · obtain ⟨μ', k1, k2, k3, k4⟩ := ih (i + 1) g μ1 (by omega) (by omega) a2 a3
        refine ⟨μ', ?_, k2, k3, a4.tr k4⟩
        rw [if_neg (fun q => c2 (nI_inj (by omega) (by omega) q)), l_1, i_add, if_neg (by unfold pkD; rw [Nat.add_sub_cancel, decide_eq_false c2]; simp)]
        exact k1
theorem x_who (hw : w < 2 ^ (aS a).1) {d c s : Nat} (hs : s < 2 ^ (aS a).1) (hd : d + 1 < 7) (hc : c < 2 ^ 31) (h : XI N b a μ0 μ) (hT : TS a w μ) : ∃ μ', f_ta_whomFirst (nI s) (nI (d + 1)) (nI c) μ = some (oI (whD (aS a) (aPr a) w (d + 1) c s), μ') ∧ XI N b a μ0 μ' ∧ TS a w μ' ∧ TFr μ μ' := by
  have hp := h.1.1.1
  obtain ⟨μ1, a1, a2, a3, a4⟩ := x_aft hs h hT
  obtain ⟨μ2, b1, b2, b3, b4⟩ := x_ls hw d 8 (by omega) (by omega) _ μ1 (nxt_lt _ _) a2 a3
  have hle := lsD_le (S := aS a) (pr := aPr a) (w := w) d (nxt (aS a) s)
  have b1' : f_ta_leastSum 8 (nI (nxt (aS a) s)) (nI d) μ1 = some (nI (lsD (aS a) (aPr a) w d (nxt (aS a) s)), μ2) := b1
  unfold f_ta_whomFirst whD
  rw [a1, bd2_s, l_1, i_sub (by omega), Nat.add_sub_cancel, b1', bd2_s]
  by_cases q : lsD (aS a) (aPr a) w d (nxt (aS a) s) = c
  · refine ⟨μ2, ?_, b2, b3, a4.tr b4⟩
    rw [if_pos (by rw [q]), if_pos q]
    rfl
  · obtain ⟨μ3, c1, c2, c3, c4⟩ := x_who_lp hw hs hd hc (aS a).1 0 FU μ2 (by omega) (by unfold FU; omega) b2 b3
    refine ⟨μ3, ?_, c2, c3, (a4.tr b4).tr c4⟩
    rw [if_neg (fun z => q (nI_inj (by omega) hc z)), if_neg q, st_everybody b2.2.1.1, bd2_s, b2.2.1.1.2.2.2.1, i_woQ, i_woQ, bnd_s]
    exact c1
theorem TS.put {x : Int32} {j : Nat} (h : TS a w μ) (hj : j = 116 ∨ j = 117) : TS a w (setI μ j 0 x) := h.fr (fun v h1 h2 => sI_v _ _ _ (by omega)) (sI_v _ _ _ (by show 115 ≠ j; omega))
theorem x_seek1_lp (hw : w < 2 ^ (aS a).1) {n c d : Nat} (hn : n ≤ 6) (hR : Rl1 (aS a) (aPr a) w n (aN a) c d) : ∀ m k g (μ : Mem), k + m = n + 1 → m < g → XI N b a μ0 μ → TS a w μ → (k ≤ d → ∃ q, μ.1 v_ta_sum 0 = nI q ∧ c < q ∧ q ≤ 1000) → (d < k → μ.1 v_ta_sum 0 = nI c ∧ μ.1 v_ta_soonest 0 = nI d) → ∃ μ', f_ta_seek_b28 g (nI n) (nI k) μ = some (nI 1, μ') ∧ XI N b a μ0 μ' ∧ TS a w μ' ∧ μ'.1 v_ta_sum 0 = nI c ∧ μ'.1 v_ta_soonest 0 = nI d := by
  obtain ⟨r1, r2, r3, r4, r5, r6⟩ := hR
  intro m
  induction m with
  | zero =>
    intro k g μ hk hg h hT h1 h2
    obtain ⟨g, rfl⟩ : ∃ z, g = z + 1 := ⟨g - 1, by omega⟩
    obtain ⟨e1, e2⟩ := h2 (by omega)
    refine ⟨μ, ?_, h, hT, e1, e2⟩
    rw [f_ta_seek_b28, if_pos ((i_ltN (by omega) (by omega)).mpr (by omega)), e1, l_1000, if_neg (fun q => absurd ((i_leN (by omega) (by omega)).mp q) (by omega)), bnd_s, zb_1, chk_t]
    rfl
  | succ m ih =>
    intro k g μ hk hg h hT h1 h2
    obtain ⟨g, rfl⟩ : ∃ z, g = z + 1 := ⟨g - 1, by omega⟩
    have hnow := now_lt h.1
    have hle := lsD_le (S := aS a) (pr := aPr a) (w := w) k (aN a)
    obtain ⟨μ1, b1, b2, b3, b4⟩ := x_ls hw k 8 (by omega) (by omega) (aN a) μ hnow h hT
    have b1' : f_ta_leastSum 8 (nI (aN a)) (nI k) μ = some (nI (lsD (aS a) (aPr a) w k (aN a)), μ1) := b1
    have es : μ1.1 v_ta_sum 0 = μ.1 v_ta_sum 0 := by rw [b4 _ (by decide) (by decide)]
    have eo : μ1.1 v_ta_soonest 0 = μ.1 v_ta_soonest 0 := by rw [b4 _ (by decide) (by decide)]
    rw [f_ta_seek_b28, if_neg (fun q => absurd ((i_ltN (by omega) (by omega)).mp q) (by omega)), st_now h.1 h.2.1, bd2_s, b1', bd2_s, es]
    have upd := (b2.put (v := v_ta_sum) 0 (nI (lsD (aS a) (aPr a) w k (aN a))) (by decide)).put (v := v_ta_soonest) 0 (nI k) (by decide)
    have updT := TS.put (x := nI k) (j := v_ta_soonest) (TS.put (x := nI (lsD (aS a) (aPr a) w k (aN a))) (j := v_ta_sum) b3 (Or.inl rfl)) (Or.inr rfl)
    rcases Nat.lt_trichotomy k d with q | q | q
    · obtain ⟨z, z1, z2, z3⟩ := h1 (by omega)
      have hlk := r5 k q
      rw [z1]
      by_cases c1 : z ≤ lsD (aS a) (aPr a) w k (aN a)
      · rw [if_pos ((i_leN (by omega) (by omega)).mpr c1), l_1, i_add]
        exact ih (k + 1) g μ1 (by omega) (by omega) b2 b3 (fun _ => ⟨z, by rw [es]; exact z1, z2, z3⟩) (fun y => by omega)
      · rw [if_neg (fun y => c1 ((i_leN (by omega) (by omega)).mp y)), bnd_s, bnd_s, l_1, i_add]
        exact ih (k + 1) g _ (by omega) (by omega) upd updT (fun _ => ⟨_, by rw [sI_v _ _ _ (by decide), sI_eq], hlk, hle⟩) (fun y => by omega)
    · obtain ⟨z, z1, z2, z3⟩ := h1 (by omega)
      rw [← q] at r3
      rw [z1, if_neg (fun y => absurd ((i_leN (by omega) (by omega)).mp y) (by omega)), bnd_s, bnd_s, l_1, i_add]
      exact ih (k + 1) g _ (by omega) (by omega) upd updT (fun y => by omega) (fun _ => ⟨by rw [sI_v _ _ _ (by decide), sI_eq, r3], by rw [sI_eq, q]⟩)
    · obtain ⟨z1, z2⟩ := h2 q
      have hlk := r4 k (by omega)
      rw [z1, if_pos ((i_leN (by omega) (by omega)).mpr hlk), l_1, i_add]
      exact ih (k + 1) g μ1 (by omega) (by omega) b2 b3 (fun y => by omega) (fun _ => ⟨by rw [es]; exact z1, by rw [eo]; exact z2⟩)
theorem x_seek0_lp (hw : w < 2 ^ (aS a).1) {n : Nat} (hn : n ≤ 6) (hR : Rl0 (aS a) (aPr a) w n (aN a)) : ∀ m k g (μ : Mem), k + m = n + 1 → m < g → XI N b a μ0 μ → TS a w μ → μ.1 v_ta_sum 0 = nI 1000 → ∃ μ', f_ta_seek_b28 g (nI n) (nI k) μ = some (nI 0, μ') ∧ XI N b a μ0 μ' := by
  obtain ⟨r1, r2⟩ := hR
  intro m
  induction m with
  | zero =>
    intro k g μ hk hg h hT h1
    obtain ⟨g, rfl⟩ : ∃ z, g = z + 1 := ⟨g - 1, by omega⟩
    refine ⟨μ, ?_, h⟩
    rw [f_ta_seek_b28, if_pos ((i_ltN (by omega) (by omega)).mpr (by omega)), h1, l_1000, if_pos ((i_leN (by omega) (by omega)).mpr (Nat.le_refl _)), bnd_s, zb_0, chk_t]
    rfl
  | succ m ih =>
    intro k g μ hk hg h hT h1
    obtain ⟨g, rfl⟩ : ∃ z, g = z + 1 := ⟨g - 1, by omega⟩
    have hnow := now_lt h.1
    obtain ⟨μ1, b1, b2, b3, b4⟩ := x_ls hw k 8 (by omega) (by omega) (aN a) μ hnow h hT
    have b1' : f_ta_leastSum 8 (nI (aN a)) (nI k) μ = some (nI (lsD (aS a) (aPr a) w k (aN a)), μ1) := b1
    have es : μ1.1 v_ta_sum 0 = μ.1 v_ta_sum 0 := by rw [b4 _ (by decide) (by decide)]
    rw [f_ta_seek_b28, if_neg (fun q => absurd ((i_ltN (by omega) (by omega)).mp q) (by omega)), st_now h.1 h.2.1, bd2_s, b1', bd2_s, es, h1, r2 k (by omega), if_pos ((i_leN (by omega) (by omega)).mpr (Nat.le_refl _)), l_1, i_add]
    exact ih (k + 1) g μ1 (by omega) (by omega) b2 b3 (by rw [es]; exact h1)
/-- the search begins -/
theorem x_seek_0 {n : Nat} (h : XI N b a μ0 μ) (hb : b.1 + 1 ≤ 4 * N + 4) : ∃ μ1, f_ta_seek (nI w) (nI n) μ = f_ta_seek_b28 FU (nI n) (nI 0) μ1 ∧ XI N (b.1 + 1, b.2) a μ0 μ1 ∧ TS a w μ1 ∧ μ1.1 v_ta_sum 0 = nI 1000 := by
  have hx := h.put (v := v_ta_wanted) 0 (nI w) (by decide)
  obtain ⟨μ1, b1, b2, b3, b4⟩ := me_begin hx hb
  refine ⟨setI μ1 v_ta_sum 0 1000, ?_, b2.put (v := v_ta_sum) 0 1000 (by decide), TS.put (j := v_ta_sum) ⟨⟨_, b3, fun l s v h1 h2 h3 h4 => absurd h4 (by simp)⟩, by rw [b4 _ (by decide), sI_eq]⟩ (Or.inl rfl), sI_eq _ _ _ _⟩
  unfold f_ta_seek
  rw [bnd_s, hx.2.1.1.1, b1, bd1_s, bnd_s]
  rfl
def rwO (l : List (Option Nat)) : List Int64 := l.map (fun o => (oI o).toInt64)
theorem x_plan_lp (hw : w < 2 ^ (aS a).1) {D : Nat} : ∀ d c s g r a' (μ : Mem), a' = aSetR a r → d < g → d < 7 → r.length + d ≤ 7 → s < 2 ^ (aS a).1 → c < 1000 → XI N b a' μ0 μ → TS a w μ → μ.1 v_ta_soonest 0 = nI D → ∃ μ', f_ta_wholePlan_b39 g (nI s) (nI c) (nI d) μ = some (nI D, μ') ∧ XI N b (aSetR a (r ++ rwO (plR (aS a) (aPr a) w d c s))) μ0 μ' := by
  intro d
  induction d with
  | zero =>
    intro c s g r a' μ ha hg hd hr hs hc h hT hD
    obtain ⟨g, rfl⟩ : ∃ z, g = z + 1 := ⟨g - 1, by omega⟩
    refine ⟨μ, ?_, ?_⟩
    · rw [f_ta_wholePlan_b39, if_pos (show nI 0 ≤ 0 by decide), hD]
    · show XI N b (aSetR a (r ++ [])) μ0 μ
      rw [List.append_nil, ← ha]
      exact h
  | succ d ih =>
    intro c s g r a' μ ha hg hd hr hs hc h hT hD
    obtain ⟨g, rfl⟩ : ∃ z, g = z + 1 := ⟨g - 1, by omega⟩
    subst ha
    have hp := h.1.1.1
    obtain ⟨μ1, k1, k2, k3, k4⟩ := x_who (a := aSetR a r) (w := w) (d := d) (c := c) (s := s) hw hs (by omega) (by omega) h hT
    have k1' : f_ta_whomFirst (nI s) (nI (d + 1)) (nI c) μ = some (oI (whD (aS a) (aPr a) w (d + 1) c s), μ1) := k1
    obtain ⟨μ2, a1, a2, a3⟩ := rw_add (oI (whD (aS a) (aPr a) w (d + 1) c s)).toInt64 k2.2.1.2.2.2.1 (by show r.length < 16; omega)
    have hx : XI N b (aSetR a (r ++ [(oI (whD (aS a) (aPr a) w (d + 1) c s)).toInt64])) μ0 μ2 := k2.row (by show (r ++ [_]).length ≤ 16; rw [List.length_append, List.length_singleton]; omega) a2 a3
    have hT2 : TS a w μ2 := TS.fr k3 (fun v h1 h2 => a3.1 v (by show v ≠ 4; omega)) (a3.1 _ (by decide))
    have hD2 : μ2.1 v_ta_soonest 0 = nI D := by rw [a3.1 _ (by decide), k4 _ (by decide) (by decide)]; exact hD
    have hlt := stO_lt (S := aS a) s (whD (aS a) (aPr a) w (d + 1) c s)
    have fin : ∀ s', s' < 2 ^ (aS a).1 → nxt (aS a) s' = stO (aS a) s (whD (aS a) (aPr a) w (d + 1) c s) → ∃ μ', f_ta_wholePlan_b93 (f_ta_wholePlan_b39 g) (nI s') (nI (c - coO (aPr a) (whD (aS a) (aPr a) w (d + 1) c s))) (nI (d + 1)) μ2 = some (nI D, μ') ∧ XI N b (aSetR a (r ++ rwO (plR (aS a) (aPr a) w (d + 1) c s))) μ0 μ' := fun s' hs' es => by
      obtain ⟨μ3, l1, l2, l3, l4⟩ := x_aft (a := aSetR a (r ++ [(oI (whD (aS a) (aPr a) w (d + 1) c s)).toInt64])) (w := w) hs' hx hT2
      obtain ⟨μ', m1, m2⟩ := ih (c - coO (aPr a) (whD (aS a) (aPr a) w (d + 1) c s)) (stO (aS a) s (whD (aS a) (aPr a) w (d + 1) c s)) g (r ++ [(oI (whD (aS a) (aPr a) w (d + 1) c s)).toInt64]) _ μ3 rfl (by omega) (by omega) (by rw [List.length_append, List.length_singleton]; omega) hlt (by omega) l2 l3 (by rw [l4 _ (by decide) (by decide)]; exact hD2)
      refine ⟨μ', ?_, ?_⟩
      · have l1' : f_he_after 0 (nI s') μ2 = some (nI (nxt (aS a) s'), μ3) := l1
        unfold f_ta_wholePlan_b93
        rw [l1', bd2_s, es, i_dec (by omega), Nat.add_sub_cancel]
        exact m1
      · rw [plR]
        show XI N b (aSetR a (r ++ ((oI (whD (aS a) (aPr a) w (d + 1) c s)).toInt64 :: rwO _))) μ0 μ'
        rw [show r ++ ((oI (whD (aS a) (aPr a) w (d + 1) c s)).toInt64 :: rwO (plR (aS a) (aPr a) w d (c - coO (aPr a) (whD (aS a) (aPr a) w (d + 1) c s)) (stO (aS a) s (whD (aS a) (aPr a) w (d + 1) c s)))) = (r ++ [(oI (whD (aS a) (aPr a) w (d + 1) c s)).toInt64]) ++ rwO (plR (aS a) (aPr a) w d (c - coO (aPr a) (whD (aS a) (aPr a) w (d + 1) c s)) (stO (aS a) s (whD (aS a) (aPr a) w (d + 1) c s))) by rw [List.append_assoc]; rfl]
        exact m2
    rw [f_ta_wholePlan_b39, if_neg (show ¬ nI (d + 1) ≤ 0 from fun q => absurd ((i_leN (b := 0) (by omega) (by omega)).mp q) (by omega)), k1', bd2_s, a1, bd1_s]
    cases e : whD (aS a) (aPr a) w (d + 1) c s with
    | none =>
      rw [e] at fin
      rw [if_pos (show oI none = -1 from rfl)]
      have := fin s hs rfl
      exact this
    | some v =>
      rw [e] at fin
      obtain ⟨v1, v2⟩ := whD_lt e
      have hp' : (aS a).1 ≤ 14 := hp
      rw [if_neg (show ¬ oI (some v) = -1 from nI_ne_m1 (by omega)), show oI (some v) = nI v from rfl, inb_n (by omega) (by omega), chk_t, cl_nI (by omega), hx.2.1.2.1.1 v v1, i_sub v2, bnd_s, i_one (by omega), i_or, bnd_s]
      exact fin (s ||| 2 ^ v) (or_lt hs (Nat.pow_lt_pow_right (by omega) v1)) rfl
theorem x_isDaily {x y : Int32} (h : XR N a μ) : f_x_isDaily x y μ = some (nI (bN (decide ((0 ≤ x ∧ x ≤ nI (2 ^ (aS a).1 - 1)) ∧ 0 ≤ y ∧ y ≤ 6))), μ) := by
  have h14 := p2_14 h.1.1.1
  have h1p := Nat.one_le_two_pow (n := (aS a).1)
  unfold f_x_isDaily
  have ey : (if y < 0 then (0 : Int32) else if (6 : Int32) < y then 0 else 1) = nI (bN (decide (0 ≤ y ∧ y ≤ 6))) := by
    by_cases c1 : y < 0
    · rw [if_pos c1, decide_eq_false (fun q => by rw [i_lt] at c1; have := q.1; rw [i_le] at this; omega)]; rfl
    · rw [if_neg c1]
      by_cases c2 : 6 < y
      · rw [if_pos c2, decide_eq_false (fun q => by rw [i_lt] at c2; have := q.2; rw [i_le] at this; omega)]; rfl
      · rw [if_neg c2, decide_eq_true ⟨by rw [i_lt] at c1; rw [i_le]; omega, by rw [i_lt] at c2; rw [i_le]; omega⟩]; rfl
  rcases i_casesQ x with hx | ⟨n, hn, rfl⟩
  · rw [st_hasAllG hx, bd2_s, if_pos (show nI 0 = 0 from rfl), bnd_s, zb_0, chk_t, decide_eq_false (fun q => by have := q.1.1; rw [i_le] at this; rw [i_lt] at hx; have e : (nI 0).toInt = (0 : Int32).toInt := rfl; omega)]
    rfl
  · rw [st_hasAll h.2.1.1 hn, bd2_s]
    by_cases c : n < 2 ^ (aS a).1
    · rw [decide_eq_true c, if_neg (show ¬ nI (bN true) = 0 by decide), ey, bnd_s, zb_b, chk_t]
      have : decide (0 ≤ y ∧ y ≤ 6) = decide (((0 : Int32) ≤ nI n ∧ nI n ≤ nI (2 ^ (aS a).1 - 1)) ∧ 0 ≤ y ∧ y ≤ 6) := decide_eq_decide.mpr ⟨fun q => ⟨⟨(i_leN (a := 0) (by omega) hn).mpr (by omega), (i_leN hn (by omega)).mpr (by omega)⟩, q⟩, fun q => q.2⟩
      rw [this]
    · rw [decide_eq_false c, if_pos (show nI (bN false) = 0 by decide), bnd_s, zb_0, chk_t, decide_eq_false (fun q => c (by have := (i_leN hn (by omega)).mp q.1.2; omega))]
      rfl
end OPS
