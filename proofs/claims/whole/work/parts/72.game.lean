/-! game: the class. -/
/-- counting down, the last that is taken is the first -/
def dnI (P : Nat → Bool) : Nat → Int32 → Int32
  | 0, x => x
  | k + 1, x => dnI P k (if P k then nI k else x)
theorem fsI_snoc (P : Nat → Bool) : ∀ m i, fsI P (m + 1) i = (match fsI P m i with
  | none => if P (i + m) then some (i + m) else none
  | some v => some v)
  | 0, i => by rw [fsI, fsI, fsI]; rfl
  | m + 1, i => by
    rw [fsI, fsI_snoc P m (i + 1)]
    conv => rhs; rw [fsI]
    by_cases c : P i = true
    · rw [if_pos c, if_pos c]
    · rw [if_neg c, if_neg c, show i + 1 + m = i + (m + 1) by omega]
theorem dnI_eq (P : Nat → Bool) : ∀ k (x : Int32), dnI P k x = (match fsI P k 0 with
  | none => x
  | some v => nI v)
  | 0, x => rfl
  | k + 1, x => by
    rw [dnI, dnI_eq P k, fsI_snoc, Nat.zero_add]
    cases fsI P k 0 with
    | some v => rfl
    | none => by_cases c : P k = true
              · show (if P k = true then nI k else x) = _
                rw [if_pos c, if_pos c]
              · show (if P k = true then nI k else x) = _
                rw [if_neg c, if_neg c]
section OPS
variable {N : Nat} {a : Ab} {b : Nat × Nat} {μ0 μ : Mem} {Q : Nat} {S : SP}
theorem sh_open1 (h : XB S μ) {s : Nat} (hs : s < 2 ^ S.1) : f_sh_open 1 (nI s) μ = some (nI (wo (wo (2 ^ S.1 - 1) s) S.2.2.2), μ) := by
  unfold f_sh_open
  rw [if_pos rfl, bnd_s, st_everybody h, bd2_s, Int32.and_comm (nI s ^^^ -1), i_wo, h.2.2.2.1, i_wo]
theorem sh_open0 (h : XB S μ) {s : Nat} (hs : s < 2 ^ S.1) : f_sh_open 0 (nI s) μ = some (nI (wo (s &&& (2 ^ S.1 - 1)) S.2.2.2), μ) := by
  unfold f_sh_open
  rw [if_neg (by decide), bnd_s, st_everybody h, bd2_s, i_and, h.2.2.2.1, i_wo]
theorem op1_tb {s i : Nat} (hi : i < S.1) : (wo (wo (2 ^ S.1 - 1) s) S.2.2.2).testBit i = opS S s i := by
  rw [wo_com, op_tb hi]
theorem op0_tb {s i : Nat} (hi : i < S.1) : (wo (s &&& (2 ^ S.1 - 1)) S.2.2.2).testBit i = opZ S s i := by
  rw [wo_tb, Nat.testBit_and, tb_ev, decide_eq_true hi, Bool.and_true, Bool.and_comm]
  rfl
abbrev gG (a : Ab) (d s : Nat) : Nat := gO (aS a) (gmZ (aS a)) d s
def GS (a : Ab) (μ : Mem) : Prop := ∃ f, ME (aS a).1 f μ ∧ ∀ l s v, l < 7 → s < 2 ^ (aS a).1 → f l s = some v → (1 ≤ l → l ≤ 3 → v = gG a l s) ∧ (4 ≤ l → v = gmZ (aS a) (gG a (l - 4)) s)
theorem GS.fr {μ' : Mem} (h : GS a μ) (he : ∀ v, 105 ≤ v → v ≤ 108 → μ'.1 v = μ.1 v) : GS a μ' := by
  obtain ⟨f, h1, h2⟩ := h
  exact ⟨f, h1.fr he, h2⟩
def RGx (N : Nat) (b : Nat × Nat) (a : Ab) (μ0 : Mem) (d : Nat) (R : Int32 → Int32 → Mem → Option (Int32 × Mem)) : Prop := ∀ s (μ : Mem), s < 2 ^ (aS a).1 → XI N b a μ0 μ → GS a μ → ∃ μ', R (nI s) (nI d) μ = some (nI (gG a d s), μ') ∧ XI N b a μ0 μ' ∧ GS a μ'
theorem x_aftG {s : Nat} (hs : s < 2 ^ (aS a).1) (h : XI N b a μ0 μ) (hG : GS a μ) : ∃ μ', f_he_after 0 (nI s) μ = some (nI (nxt (aS a) s), μ') ∧ XI N b a μ0 μ' ∧ GS a μ' := by
  obtain ⟨μ1, l1, l2, l3⟩ := h.after hs
  exact ⟨μ1, l1, l2, hG.fr (fun v h1 h2 => l3.1 v (by omega))⟩
theorem x_bz_lp {d s : Nat} {R : Int32 → Int32 → Mem → Option (Int32 × Mem)} (hR : RGx N b a μ0 d R) (hd : d < 3) (hs : s < 2 ^ (aS a).1) : ∀ m i g (μ : Mem), i + m = (aS a).1 → m < g → XI N b a μ0 μ → GS a μ → ∃ μ', f_sh_bestForZero_b52 R g (nI s) (nI (d + 1)) (nI (3 + (d + 1))) (nI (mnL (fun i => gG a d (nxt (aS a) (s ^^^ 2 ^ i))) (opZ (aS a) s) i (gG a d (nxt (aS a) s)))) (nI (wo (s &&& (2 ^ (aS a).1 - 1)) (aS a).2.2.2)) (nI i) μ = some (nI (gmZ (aS a) (gG a d) s), μ') ∧ XI N b a μ0 μ' ∧ GS a μ' := by
  have hop : wo (s &&& (2 ^ (aS a).1 - 1)) (aS a).2.2.2 < 2 ^ (aS a).1 := wo_lt (and_lt hs)
  intro m
  induction m with
  | zero =>
    intro i g μ hi hg h hG
    obtain ⟨g, rfl⟩ : ∃ z, g = z + 1 := ⟨g - 1, by omega⟩
    have hp := h.1.1.1
    obtain rfl : i = (aS a).1 := by omega
    have e : mnL (fun i => gG a d (nxt (aS a) (s ^^^ 2 ^ i))) (opZ (aS a) s) (aS a).1 (gG a d (nxt (aS a) s)) = gmZ (aS a) (gG a d) s := rfl
    have hb : gmZ (aS a) (gG a d) s ≤ 14 := gmZ_ok (aS a) _ (gO_le (gmZ_ok (aS a)) d) s
    obtain ⟨f, f1, f2⟩ := hG
    obtain ⟨μ1, n1, n2, n3, n4⟩ := me_note (u := gmZ (aS a) (gG a d) s) h f1 (l := 3 + (d + 1)) (s := s) (by omega) hs (by omega)
    refine ⟨μ1, ?_, n2, _, n3, fun l s' v h1 h2 h3 => ?_⟩
    · rw [f_sh_bestForZero_b52, h.2.1.1.1, if_pos ((i_leN (by omega) (by omega)).mpr (Nat.le_refl _)), e, n1, bd1_s]
    · unfold fup at h3
      by_cases q : l = 3 + (d + 1) ∧ s' = s
      · rw [if_pos q] at h3
        have hv := Option.some.inj h3
        refine ⟨fun z1 z2 => by omega, fun _ => ?_⟩
        rw [q.1, q.2, show 3 + (d + 1) - 4 = d by omega]
        exact hv.symm
      · rw [if_neg q] at h3
        exact f2 l s' v h1 h2 h3
  | succ m ih =>
    intro i g μ hi hg h hG
    obtain ⟨g, rfl⟩ : ∃ z, g = z + 1 := ⟨g - 1, by omega⟩
    have hp := h.1.1.1
    have h14 := p2_14 hp
    have hb1 : gG a d (nxt (aS a) (s ^^^ 2 ^ i)) ≤ 14 := gO_le (gmZ_ok (aS a)) d _
    have hb2 : gG a d (nxt (aS a) s) ≤ 14 := gO_le (gmZ_ok (aS a)) d _
    have hb3 := mnL_x (fun i => gG a d (nxt (aS a) (s ^^^ 2 ^ i))) (opZ (aS a) s) (gG a d (nxt (aS a) s)) i
    rw [f_sh_bestForZero_b52, h.2.1.1.1, if_neg (fun q => absurd ((i_leN (by omega) (by omega)).mp q) (by omega)), i_bit (by omega) (by omega), op0_tb (by omega)]
    cases c : opZ (aS a) s i with
    | false =>
      have e : mnL (fun i => gG a d (nxt (aS a) (s ^^^ 2 ^ i))) (opZ (aS a) s) (i + 1) (gG a d (nxt (aS a) s)) = mnL (fun i => gG a d (nxt (aS a) (s ^^^ 2 ^ i))) (opZ (aS a) s) i (gG a d (nxt (aS a) s)) := by rw [mnL, c]; rfl
      have := ih (i + 1) g μ (by omega) (by omega) h hG
      rw [e] at this
      rw [if_pos (by decide), l_1, i_add]
      exact this
    | true =>
      have e : mnL (fun i => gG a d (nxt (aS a) (s ^^^ 2 ^ i))) (opZ (aS a) s) (i + 1) (gG a d (nxt (aS a) s)) = min (mnL (fun i => gG a d (nxt (aS a) (s ^^^ 2 ^ i))) (opZ (aS a) s) i (gG a d (nxt (aS a) s))) (gG a d (nxt (aS a) (s ^^^ 2 ^ i))) := by rw [mnL, c]; rfl
      obtain ⟨μ1, a1, a2, a3⟩ := x_aftG (s := s ^^^ 2 ^ i) (xor_lt hs (Nat.pow_lt_pow_right (by omega) (by omega))) h hG
      obtain ⟨μ2, b1, b2, b3⟩ := hR _ μ1 (nxt_lt _ _) a2 a3
      obtain ⟨μ', k1, k2, k3⟩ := ih (i + 1) g μ2 (by omega) (by omega) b2 b3
      rw [e] at k1
      refine ⟨μ', ?_, k2, k3⟩
      rw [if_neg (by decide), i_one (by omega), i_xor, a1, bd2_s, l_1, i_sub (by omega), Nat.add_sub_cancel, b1, bd2_s, imin_n (by omega) (by omega), i_add]
      exact k1
theorem x_bz {d s : Nat} {R : Int32 → Int32 → Mem → Option (Int32 × Mem)} (hR : RGx N b a μ0 d R) (hd : d < 3) (hs : s < 2 ^ (aS a).1) (h : XI N b a μ0 μ) (hG : GS a μ) : ∃ μ', f_sh_bestForZero R (nI s) (nI (d + 1)) μ = some (nI (gmZ (aS a) (gG a d) s), μ') ∧ XI N b a μ0 μ' ∧ GS a μ' := by
  have hp := h.1.1.1
  have hG' := hG
  obtain ⟨f, f1, f2⟩ := hG'
  unfold f_sh_bestForZero
  rw [l_3, i_add, me_recall hp f1 (show 3 + (d + 1) < 7 by omega) hs, bd2_s]
  cases c : f (3 + (d + 1)) s with
  | some v =>
    have hv := (f2 (3 + (d + 1)) s v (by omega) hs c).2 (by omega)
    rw [show 3 + (d + 1) - 4 = d by omega] at hv
    refine ⟨μ, ?_, h, hG⟩
    rw [if_neg (show ¬ oI (some v) = -1 from nI_ne_m1 (by have := f1.lt (by omega) hs c; omega)), ← hv]
    rfl
  | none =>
    obtain ⟨μ1, a1, a2, a3⟩ := x_aftG hs h hG
    obtain ⟨μ2, b1, b2, b3⟩ := hR _ μ1 (nxt_lt _ _) a2 a3
    obtain ⟨μ3, c1, c2, c3⟩ := x_bz_lp hR hd hs (aS a).1 0 FU μ2 (by omega) (by unfold FU; omega) b2 b3
    refine ⟨μ3, ?_, c2, c3⟩
    rw [if_pos (show oI none = -1 from rfl), a1, bd2_s, l_1, i_sub (by omega), Nat.add_sub_cancel, b1, bd2_s, sh_open0 b2.2.1.1 hs, bd2_s]
    exact c1
theorem x_bo_lp {d s : Nat} {R : Int32 → Int32 → Mem → Option (Int32 × Mem)} (hR : RGx N b a μ0 d R) (hd : d < 3) (hs : s < 2 ^ (aS a).1) : ∀ m i g (μ : Mem), i + m = (aS a).1 → m < g → XI N b a μ0 μ → GS a μ → ∃ μ', f_sh_bestForOne_b45 R g (nI s) (nI (d + 1)) (nI (mxL (fun i => gmZ (aS a) (gG a d) (s ||| 2 ^ i)) (opS (aS a) s) i (gmZ (aS a) (gG a d) s))) (nI (wo (wo (2 ^ (aS a).1 - 1) s) (aS a).2.2.2)) (nI i) μ = some (nI (gG a (d + 1) s), μ') ∧ XI N b a μ0 μ' ∧ GS a μ' := by
  have hop : wo (wo (2 ^ (aS a).1 - 1) s) (aS a).2.2.2 < 2 ^ (aS a).1 := wo_lt (wo_lt (ev_lt _))
  intro m
  induction m with
  | zero =>
    intro i g μ hi hg h hG
    obtain ⟨g, rfl⟩ : ∃ z, g = z + 1 := ⟨g - 1, by omega⟩
    have hp := h.1.1.1
    obtain rfl : i = (aS a).1 := by omega
    have e : mxL (fun i => gmZ (aS a) (gG a d) (s ||| 2 ^ i)) (opS (aS a) s) (aS a).1 (gmZ (aS a) (gG a d) s) = gG a (d + 1) s := rfl
    have hb : gG a (d + 1) s ≤ 14 := gO_le (gmZ_ok (aS a)) (d + 1) s
    obtain ⟨f, f1, f2⟩ := hG
    obtain ⟨μ1, n1, n2, n3, n4⟩ := me_note (u := gG a (d + 1) s) h f1 (l := d + 1) (s := s) (by omega) hs (by omega)
    refine ⟨μ1, ?_, n2, _, n3, fun l s' v h1 h2 h3 => ?_⟩
    · rw [f_sh_bestForOne_b45, h.2.1.1.1, if_pos ((i_leN (by omega) (by omega)).mpr (Nat.le_refl _)), e, n1, bd1_s]
    · unfold fup at h3
      by_cases q : l = d + 1 ∧ s' = s
      · rw [if_pos q] at h3
        have hv := Option.some.inj h3
        refine ⟨fun _ _ => ?_, fun z => by omega⟩
        rw [q.1, q.2]
        exact hv.symm
      · rw [if_neg q] at h3
        exact f2 l s' v h1 h2 h3
  | succ m ih =>
    intro i g μ hi hg h hG
    obtain ⟨g, rfl⟩ : ∃ z, g = z + 1 := ⟨g - 1, by omega⟩
    have hp := h.1.1.1
    have h14 := p2_14 hp
    have hz : ∀ s, gmZ (aS a) (gG a d) s ≤ 14 := gmZ_ok (aS a) _ (gO_le (gmZ_ok (aS a)) d)
    have hb1 := hz (s ||| 2 ^ i)
    have hb3 : mxL (fun i => gmZ (aS a) (gG a d) (s ||| 2 ^ i)) (opS (aS a) s) i (gmZ (aS a) (gG a d) s) ≤ 14 := mxL_le i (hz s) (fun j => hz _)
    rw [f_sh_bestForOne_b45, h.2.1.1.1, if_neg (fun q => absurd ((i_leN (by omega) (by omega)).mp q) (by omega)), i_bit (by omega) (by omega), op1_tb (by omega)]
    cases c : opS (aS a) s i with
    | false =>
      have e : mxL (fun i => gmZ (aS a) (gG a d) (s ||| 2 ^ i)) (opS (aS a) s) (i + 1) (gmZ (aS a) (gG a d) s) = mxL (fun i => gmZ (aS a) (gG a d) (s ||| 2 ^ i)) (opS (aS a) s) i (gmZ (aS a) (gG a d) s) := by rw [mxL, c]; rfl
      have := ih (i + 1) g μ (by omega) (by omega) h hG
      rw [e] at this
      rw [if_pos (by decide), l_1, i_add]
      exact this
    | true =>
      have e : mxL (fun i => gmZ (aS a) (gG a d) (s ||| 2 ^ i)) (opS (aS a) s) (i + 1) (gmZ (aS a) (gG a d) s) = max (mxL (fun i => gmZ (aS a) (gG a d) (s ||| 2 ^ i)) (opS (aS a) s) i (gmZ (aS a) (gG a d) s)) (gmZ (aS a) (gG a d) (s ||| 2 ^ i)) := by rw [mxL, c]; rfl
      obtain ⟨μ1, a1, a2, a3⟩ := x_bz hR hd (s := s ||| 2 ^ i) (or_lt hs (Nat.pow_lt_pow_right (by omega) (by omega))) h hG
      obtain ⟨μ', k1, k2, k3⟩ := ih (i + 1) g μ1 (by omega) (by omega) a2 a3
      rw [e] at k1
      refine ⟨μ', ?_, k2, k3⟩
      rw [if_neg (by decide), i_one (by omega), i_or, a1, bd2_s, imax_n (by omega) (by omega), l_1, i_add]
      exact k1
theorem x_bo : ∀ d k, d < k → d ≤ 3 → RGx N b a μ0 d (f_sh_bestForOne k) := by
  intro d
  induction d with
  | zero =>
    intro k hk hd s μ hs h hG
    obtain ⟨k, rfl⟩ : ∃ z, k = z + 1 := ⟨k - 1, by omega⟩
    have h14 := p2_14 h.1.1.1
    refine ⟨μ, ?_, h, hG⟩
    rw [f_sh_bestForOne, f_sh_bestForOne_body, if_neg (show ¬ (0 : Int32) < nI 0 by decide), jd_bc (by omega), bd2_s]
    rfl
  | succ d ih =>
    intro k hk hd s μ hs h hG
    obtain ⟨k, rfl⟩ : ∃ z, k = z + 1 := ⟨k - 1, by omega⟩
    have hp := h.1.1.1
    have ihR := ih k (by omega) (by omega)
    have hG' := hG
    obtain ⟨f, f1, f2⟩ := hG'
    have e0 : (0 : Int32) < nI (d + 1) := (i_ltN (a := 0) (by omega) (by omega)).mpr (by omega)
    rw [f_sh_bestForOne, f_sh_bestForOne_body, if_pos e0, me_recall hp f1 (show d + 1 < 7 by omega) hs, bd2_s]
    cases c : f (d + 1) s with
    | some v =>
      have hv := (f2 (d + 1) s v (by omega) hs c).1 (by omega) hd
      refine ⟨μ, ?_, h, hG⟩
      rw [if_neg (show ¬ oI (some v) = -1 from nI_ne_m1 (by have := f1.lt (by omega) hs c; omega)), ← hv]
      rfl
    | none =>
      obtain ⟨μ1, a1, a2, a3⟩ := x_bz ihR (by omega) hs h hG
      obtain ⟨μ3, c1, c2, c3⟩ := x_bo_lp ihR (by omega) hs (aS a).1 0 FU μ1 (by omega) (by unfold FU; omega) a2 a3
      refine ⟨μ3, ?_, c2, c3⟩
      rw [if_pos (show oI none = -1 from rfl), a1, bd2_s, sh_open1 a2.2.1.1 hs, bd2_s]
      exact c1
theorem x_play_lp (hN : N < 600) {d : Nat} (hd : d < 3) : ∀ k x g (μ : Mem), k ≤ (aS a).1 → k < g → XI N b a μ0 μ → GS a μ → ∃ μ', f_sh_playBoth_b65 g (nI (d + 1)) (nI (aN a)) (nI (gG a (d + 1) (aN a))) x (nI (wo (wo (2 ^ (aS a).1 - 1) (aN a)) (aS a).2.2.2)) (nI k + (-1 : Int32)) μ = some (nI (gG a (d + 1) (aN a)), μ') ∧ XO N (aSetR a [(dnI (pkG (aS a) (gmZ (aS a)) d (aN a)) k x).toInt64]) μ0 μ' := by
  have hop : wo (wo (2 ^ (aS a).1 - 1) (aN a)) (aS a).2.2.2 < 2 ^ (aS a).1 := wo_lt (wo_lt (ev_lt _))
  intro k
  induction k with
  | zero =>
    intro x g μ hk hg h hG
    obtain ⟨g, rfl⟩ : ∃ z, g = z + 1 := ⟨g - 1, by omega⟩
    obtain ⟨μ1, a1, a2, a3⟩ := rw_only x.toInt64 μ
    refine ⟨μ1, ?_, h.told hN (by simp) a2 a3⟩
    unfold f_sh_playBoth_b65 f_sh_playBoth_b110
    rw [i_m1, if_pos (by decide), a1, bd1_s]
  | succ k ih =>
    intro x g μ hk hg h hG
    obtain ⟨g, rfl⟩ : ∃ z, g = z + 1 := ⟨g - 1, by omega⟩
    have hp := h.1.1.1
    have h14 := p2_14 hp
    have hnow := now_lt h.1
    have hz : ∀ s, gmZ (aS a) (gG a d) s ≤ 14 := gmZ_ok (aS a) _ (gO_le (gmZ_ok (aS a)) d)
    have hb1 := hz (aN a ||| 2 ^ k)
    have hb2 : gG a (d + 1) (aN a) ≤ 14 := gO_le (gmZ_ok (aS a)) (d + 1) _
    rw [f_sh_playBoth_b65, i_dec (by omega), Nat.add_sub_cancel, if_neg (i_nlt0 (by omega)), i_bit (by omega) (by omega), op1_tb (by omega), dnI]
    cases c : opS (aS a) (aN a) k with
    | false =>
      have hpk : pkG (aS a) (gmZ (aS a)) d (aN a) k = false := by unfold pkG; rw [c]; rfl
      unfold f_sh_playBoth_b100 f_sh_playBoth_b102
      rw [if_pos (by decide), hpk]
      exact ih x g μ (by omega) (by omega) h hG
    | true =>
      obtain ⟨μ1, a1, a2, a3⟩ := x_bz (x_bo d 5 (by omega) (by omega)) hd (s := aN a ||| 2 ^ k) (or_lt hnow (Nat.pow_lt_pow_right (by omega) (by omega))) h hG
      rw [if_neg (by decide), i_one (by omega), i_or, a1, bd2_s]
      by_cases c2 : gmZ (aS a) (gG a d) (aN a ||| 2 ^ k) = gG a (d + 1) (aN a)
      · have hpk : pkG (aS a) (gmZ (aS a)) d (aN a) k = true := by unfold pkG; rw [c, decide_eq_true (show gmZ (aS a) (gO (aS a) (gmZ (aS a)) d) (aN a ||| 2 ^ k) = gO (aS a) (gmZ (aS a)) (d + 1) (aN a) from c2)]; rfl
        rw [if_pos (by rw [c2]), bnd_s, hpk]
        exact ih (nI k) g μ1 (by omega) (by omega) a2 a3
      · have hpk : pkG (aS a) (gmZ (aS a)) d (aN a) k = false := by unfold pkG; rw [decide_eq_false (show ¬ gmZ (aS a) (gO (aS a) (gmZ (aS a)) d) (aN a ||| 2 ^ k) = gO (aS a) (gmZ (aS a)) (d + 1) (aN a) from c2)]; simp
        rw [if_neg (fun q => c2 (nI_inj (by omega) (by omega) q)), bnd_s, hpk]
        exact ih x g μ1 (by omega) (by omega) a2 a3
theorem dnI_o (P : Nat → Bool) (k : Nat) : dnI P k (-1) = oI (fsI P k 0) := by
  rw [dnI_eq]
  cases fsI P k 0 <;> rfl
theorem x_play (hN : N < 600) {n : Nat} (hn : n ≤ 3) (h : XR N a μ) : ∃ μ', f_sh_playBoth (nI n) μ = some (nI (gG a n (aN a)), μ') ∧ XO N (aSetR a (rwG (aS a) (gmZ (aS a)) n (aN a))) μ μ' := by
  have hp := h.1.1.1
  have hnow := now_lt h.1
  obtain ⟨μ1, b1, b2, b3, _⟩ := me_begin h.XI (by show 4 * N + 1 ≤ _; omega)
  obtain ⟨μ2, t1, t2, t3⟩ := x_bo n 5 (by omega) hn (aN a) μ1 hnow b2 ⟨_, b3, fun l s v h1 h2 h3 => absurd h3 (by simp)⟩
  unfold f_sh_playBoth
  rw [h.2.1.1.1, b1, bd1_s, st_now b2.1 b2.2.1, bd2_s, t1, bd2_s]
  unfold rwG
  by_cases c : n = 0
  · subst c
    obtain ⟨μ3, a1, a2, a3⟩ := rw_only (oI none).toInt64 μ2
    refine ⟨μ3, ?_, t2.told hN (by simp) a2 a3⟩
    unfold f_sh_playBoth_b110
    rw [if_pos (show nI 0 ≤ 0 by decide), show f_rw_only (Int32.toInt64 (-1)) μ2 = some μ3 from a1, bd1_s]
  · obtain ⟨d, rfl⟩ : ∃ z, n = z + 1 := ⟨n - 1, by omega⟩
    obtain ⟨μ3, a1, a2, a3⟩ := x_bz (x_bo d 5 (by omega) (by omega)) (by omega) hnow t2 t3
    have hb1 : gmZ (aS a) (gG a d) (aN a) ≤ 14 := gmZ_ok (aS a) _ (gO_le (gmZ_ok (aS a)) d) _
    have hb2 : gG a (d + 1) (aN a) ≤ 14 := gO_le (gmZ_ok (aS a)) (d + 1) _
    rw [if_neg (show ¬ nI (d + 1) ≤ 0 from fun q => absurd ((i_leN (b := 0) (by omega) (by omega)).mp q) (by omega)), a1, bd2_s, if_neg c, Nat.add_sub_cancel]
    unfold whG
    by_cases q : gmZ (aS a) (gO (aS a) (gmZ (aS a)) d) (aN a) = gO (aS a) (gmZ (aS a)) (d + 1) (aN a)
    · obtain ⟨μ4, f1, f2, f3⟩ := rw_only (oI none).toInt64 μ3
      rw [if_pos q]
      refine ⟨μ4, ?_, a2.told hN (by simp) f2 f3⟩
      unfold f_sh_playBoth_b110
      rw [if_pos (show nI (gmZ (aS a) (gG a d) (aN a)) = nI (gG a (d + 1) (aN a)) from congrArg nI q), show f_rw_only (Int32.toInt64 (-1)) μ3 = some μ4 from f1, bd1_s]
    · rw [if_neg (fun z => q (nI_inj (Nat.lt_of_le_of_lt hb1 (by omega)) (Nat.lt_of_le_of_lt hb2 (by omega)) z)), if_neg q, sh_open1 a2.2.1.1 hnow, bd2_s, a2.2.1.1.1]
      obtain ⟨μ5, g1, g2⟩ := x_play_lp hN (d := d) (by omega) (aS a).1 (-1) FU μ3 (Nat.le_refl _) (by unfold FU; omega) a2 a3
      rw [dnI_o] at g2
      refine ⟨μ5, ?_, g2⟩
      rw [bnd_s, Int32.sub_eq_add_neg]
      exact g1
theorem op_game (x : Int32) : OpI N a (f_x_game x) (f_m_game_ x) := by
  intro hW hN
  have hno : ∀ μ, (x < 0 ∨ (3 : Int32) < x) → f_x_game x μ = some (-1, μ) := fun μ c => by
    unfold f_x_game f_x_game_b9
    by_cases c1 : x < 0
    · rw [if_pos c1]
    · rw [if_neg c1, if_neg]
      rcases c with c | c
      · exact absurd c c1
      · intro q; rw [i_le] at q; rw [i_lt] at c; omega
  rcases i_casesQ x with hx | ⟨n, hn, rfl⟩
  · refine ⟨-1, a, fun μ h => x_same h hN (hno μ (Or.inl hx)), fun ν h => m_start h fun Q ν1 _ hI _ => m_same hI hN ?_⟩
    rw [l_0, m_inG hx, bd2_s, if_pos (by decide)]
  by_cases hd : n ≤ 3
  · refine ⟨nI (gG a n (aN a)), aSetR a (rwG (aS a) (gmZ (aS a)) n (aN a)), fun μ h => ?_, fun ν h => m_start h fun Q ν1 hQ hI _ => ?_⟩
    · obtain ⟨μ', k1, k2⟩ := x_play hN hd h
      refine ⟨μ', ?_, k2⟩
      unfold f_x_game
      rw [if_neg (i_nlt0 hn), l_3, if_pos ((i_leN hn (by omega)).mpr hd), k1, bd2_s]
    · have hN6 := hI.2.2.2.1.1
      obtain ⟨μ', k1, k2⟩ := m_out (gmZ_ok (aS a)) m_ans0 hN (n := n) (by omega) hI (by omega)
      refine ⟨μ', ?_, k2⟩
      have k1' : f_m_playOut (nI n) 0 ν1 = some (nI (gG a n (aN a)), μ') := k1
      rw [l_0, l_3, m_inN hn (by omega), bd2_s, decide_eq_true hd, if_neg (by decide)]
      rw [show f_m_playOut (nI n) (nI 0) ν1 = some (nI (gG a n (aN a)), μ') from k1', bd2_s]
  · refine ⟨-1, a, fun μ h => x_same h hN (hno μ (Or.inr ((i_ltN (a := 3) (by omega) hn).mpr (by omega)))), fun ν h => m_start h fun Q ν1 _ hI _ => m_same hI hN ?_⟩
    rw [l_0, l_3, m_inN hn (by omega), bd2_s, decide_eq_false hd, if_pos (by decide)]
end OPS
