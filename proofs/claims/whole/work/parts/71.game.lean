/-! game, against: what is reckoned, and the reference. -/
def mxL (f : Nat → Nat) (P : Nat → Bool) : Nat → Nat → Nat
  | 0, x => x
  | k + 1, x => if P k then max (mxL f P k x) (f k) else mxL f P k x
theorem mxL_le {f : Nat → Nat} {P : Nat → Bool} {x B : Nat} : ∀ k, x ≤ B → (∀ i, f i ≤ B) → mxL f P k x ≤ B
  | 0, h, _ => h
  | k + 1, h, hf => by
    have h1 := mxL_le (P := P) k h hf
    have h2 := hf k
    rw [mxL]
    split <;> omega
theorem mxL_at (f : Nat → Nat) (P : Nat → Bool) (x : Nat) : ∀ k, mxL f P k x = x ∨ ∃ i, i < k ∧ P i = true ∧ mxL f P k x = f i
  | 0 => Or.inl rfl
  | k + 1 => by
    rw [mxL]
    have ih := mxL_at f P x k
    by_cases c : P k = true
    · rw [if_pos c]
      rcases Nat.lt_or_ge (mxL f P k x) (f k) with q | q
      · exact Or.inr ⟨k, by omega, c, by omega⟩
      · rcases ih with e | ⟨i, i1, i2, i3⟩
        · left; omega
        · exact Or.inr ⟨i, by omega, i2, by omega⟩
    · rw [if_neg c]
      rcases ih with e | ⟨i, i1, i2, i3⟩
      · exact Or.inl e
      · exact Or.inr ⟨i, by omega, i2, i3⟩
/-- the best that can be had in d DAYS, where Z says what the other does -/
def gO (S : SP) (Z : (Nat → Nat) → Nat → Nat) : Nat → Nat → Nat
  | 0, s => pcN s
  | d + 1, s => mxL (fun i => Z (gO S Z d) (s ||| 2 ^ i)) (opS S s) S.1 (Z (gO S Z d) s)
/-- Z keeps bounds -/
def Zok (Z : (Nat → Nat) → Nat → Nat) : Prop := ∀ G : Nat → Nat, (∀ s, G s ≤ 14) → ∀ s, Z G s ≤ 14
theorem gO_le {S : SP} {Z : (Nat → Nat) → Nat → Nat} (hZ : Zok Z) : ∀ d s, gO S Z d s ≤ 14
  | 0, s => pcN_le s
  | d + 1, s => by
    rw [gO]
    exact mxL_le S.1 (hZ _ (gO_le hZ d) s) (fun i => hZ _ (gO_le hZ d) _)
def opZ (S : SP) (s i : Nat) : Bool := !S.2.2.2.testBit i && s.testBit i
def gmZ (S : SP) (G : Nat → Nat) (s : Nat) : Nat := mnL (fun i => G (nxt S (s ^^^ 2 ^ i))) (opZ S s) S.1 (G (nxt S s))
theorem gmZ_ok (S : SP) : Zok (gmZ S) := fun G hG s => Nat.le_trans (mnL_x _ _ _ _) (hG _)
theorem xor_or {s i : Nat} (h : s.testBit i = false) : s ^^^ 2 ^ i = s ||| 2 ^ i := nat_ext fun j => by
  rw [Nat.testBit_xor, Nat.testBit_or, tb_p2]
  by_cases e : i = j
  · subst e; rw [h]; simp
  · rw [decide_eq_false e]; simp
def pkG (S : SP) (Z : (Nat → Nat) → Nat → Nat) (d s i : Nat) : Bool := opS S s i && decide (Z (gO S Z d) (s ||| 2 ^ i) = gO S Z (d + 1) s)
/-- whom first: nobody, or the first -/
def whG (S : SP) (Z : (Nat → Nat) → Nat → Nat) (d s : Nat) : Option Nat := if Z (gO S Z d) s = gO S Z (d + 1) s then none else fsI (pkG S Z d s) S.1 0
theorem whG_ex {S : SP} {Z : (Nat → Nat) → Nat → Nat} {d s : Nat} (h : ¬ Z (gO S Z d) s = gO S Z (d + 1) s) : fsI (pkG S Z d s) S.1 0 ≠ none := by
  rcases mxL_at (fun i => Z (gO S Z d) (s ||| 2 ^ i)) (opS S s) (Z (gO S Z d) s) S.1 with e | ⟨i, i1, i2, i3⟩
  · exact absurd e.symm h
  · refine fsI_some _ _ ⟨i, by omega, by omega, ?_⟩
    unfold pkG
    rw [i2, decide_eq_true (show Z (gO S Z d) (s ||| 2 ^ i) = gO S Z (d + 1) s from i3.symm)]
    rfl
section OPS
variable {N : Nat} {a : Ab} {b : Nat × Nat} {μ0 μ : Mem} {Q : Nat} {S : SP} {fl : Bool} {Z : (Nat → Nat) → Nat → Nat}
theorem m_canWin1 (h : MB S μ) {i s : Nat} (hi : i < 14) (hs : s < 2 ^ S.1) : f_m_canWin 1 (nI i) (nI s) μ = some (nI (bN (opS S s i)), μ) := by
  have hp := h.2.2.2.2.1
  have hf := h.2.2.2.2.2.2.2
  unfold f_m_canWin
  rw [if_neg (nI_ne_m1 (by omega)), h.2.2.2.1, m_has (p2_31 hp hf) (by omega), bd2_s]
  unfold opS
  cases c1 : S.2.2.2.testBit i with
  | true => rw [if_neg (by decide), zb_0, chk_t]; rfl
  | false =>
    rw [if_pos (by decide), m_has (p2_31 hp hs) (by omega), bd2_s]
    cases c2 : s.testBit i with
    | true => rw [if_pos rfl, bnd_s, if_pos (by decide), bnd_s, zb_0, chk_t]; rfl
    | false => rw [if_pos rfl, bnd_s, if_neg (by decide), bnd_s, zb_1, chk_t]; rfl
theorem m_canWin0 (h : MB S μ) {i s : Nat} (hi : i < 14) (hs : s < 2 ^ S.1) : f_m_canWin 0 (nI i) (nI s) μ = some (nI (bN (opZ S s i)), μ) := by
  have hp := h.2.2.2.2.1
  have hf := h.2.2.2.2.2.2.2
  unfold f_m_canWin
  rw [if_neg (nI_ne_m1 (by omega)), h.2.2.2.1, m_has (p2_31 hp hf) (by omega), bd2_s]
  unfold opZ
  cases c1 : S.2.2.2.testBit i with
  | true => rw [if_neg (by decide), zb_0, chk_t]; rfl
  | false =>
    rw [if_pos (by decide), m_has (p2_31 hp hs) (by omega), bd2_s]
    cases c2 : s.testBit i with
    | true => rw [if_neg (by decide), bnd_s, if_neg (by decide), bnd_s, zb_1, chk_t]; rfl
    | false => rw [if_neg (by decide), bnd_s, if_pos (by decide), bnd_s, zb_0, chk_t]; rfl
theorem m_canWinN {x y : Int32} : f_m_canWin x (-1) y μ = some (nI (bN true), μ) := by
  unfold f_m_canWin f_m_canWin_b34
  rw [if_pos rfl, zb_1, chk_t]
  rfl
theorem m_won {s i : Nat} (hi : i < 14) : f_m_won (nI s) (nI i) μ = some (nI (s ^^^ 2 ^ i), μ) := by
  unfold f_m_won
  rw [if_pos (show (0 : Int32) ≤ nI i from (i_leN (a := 0) (by omega) (by omega)).mpr (by omega)), bnd_s, i_one (by omega), i_xor]
theorem m_wonN {s : Nat} : f_m_won (nI s) (-1) μ = some (nI s, μ) := by
  unfold f_m_won
  rw [if_neg (by decide), bnd_s]
theorem opS_f {s i : Nat} (h : opS S s i = true) : s.testBit i = false := by
  unfold opS at h
  cases e : s.testBit i with
  | false => rfl
  | true => rw [e] at h; simp at h
abbrev gA9 (a : Ab) (Z : (Nat → Nat) → Nat → Nat) (d s : Nat) : Nat := gO (aS a) Z d s
/-- the reference plays on, d DAYS -/
def RGm (N Q : Nat) (a : Ab) (μ0 : Mem) (Z : (Nat → Nat) → Nat → Nat) (fl : Bool) (d : Nat) (R : Int32 → Int32 → Int32 → Mem → Option (Int32 × Mem)) : Prop := ∀ s (μ : Mem), s < 2 ^ (aS a).1 → MI N Q a μ0 μ → RS Q (gA9 a Z) (aS a).1 μ → ∃ μ', R (nI s) (nI d) (nI (bN fl)) μ = some (nI (gA9 a Z d s), μ') ∧ MI N Q a μ0 μ' ∧ RS Q (gA9 a Z) (aS a).1 μ'
/-- its answers -/
def RAn (N Q : Nat) (a : Ab) (μ0 : Mem) (Z : (Nat → Nat) → Nat → Nat) (fl : Bool) : Prop := ∀ d (R : Int32 → Int32 → Int32 → Mem → Option (Int32 × Mem)), d < 6 → RGm N Q a μ0 Z fl d R → ∀ s (μ : Mem), s < 2 ^ (aS a).1 → MI N Q a μ0 μ → RS Q (gA9 a Z) (aS a).1 μ → ∃ μ', f_m_answered R (nI s) (nI (d + 1)) (nI (bN fl)) μ = some (nI (Z (gA9 a Z d) s), μ') ∧ MI N Q a μ0 μ' ∧ RS Q (gA9 a Z) (aS a).1 μ'
theorem imax_m1 {n : Nat} (h : n < 2 ^ 31) : imax (-1) (nI n) = nI n := by
  unfold imax
  rw [if_pos]
  rw [i_lt, i_tI h]
  have e : (-1 : Int32).toInt = -1 := by decide
  omega
theorem m_gm_lp (hZ : Zok Z) (hA : RAn N Q a μ0 Z fl) {d s : Nat} {R : Int32 → Int32 → Int32 → Mem → Option (Int32 × Mem)} (hR : RGm N Q a μ0 Z fl d R) (hd : d < 6) (hs : s < 2 ^ (aS a).1) : ∀ m i g (μ : Mem), i + m = (aS a).1 → m < g → MI N Q a μ0 μ → RS Q (gA9 a Z) (aS a).1 μ → ∃ μ', f_m_game_b46 R g (nI s) (nI (d + 1)) (nI (bN fl)) (nI (16384 * (d + 1) + s)) (nI (mxL (fun i => Z (gA9 a Z d) (s ||| 2 ^ i)) (opS (aS a) s) i (Z (gA9 a Z d) s))) (nI i) μ = some (nI (gA9 a Z (d + 1) s), μ') ∧ MI N Q a μ0 μ' ∧ RS Q (gA9 a Z) (aS a).1 μ' := by
  intro m
  induction m with
  | zero =>
    intro i g μ hi hg h hS
    obtain ⟨g, rfl⟩ : ∃ z, g = z + 1 := ⟨g - 1, by omega⟩
    have hp := h.1.1.1
    have h14 := p2_14 hp
    obtain rfl : i = (aS a).1 := by omega
    have e : mxL (fun i => Z (gA9 a Z d) (s ||| 2 ^ i)) (opS (aS a) s) (aS a).1 (Z (gA9 a Z d) s) = gA9 a Z (d + 1) s := rfl
    refine ⟨_, ?_, (h.mark2 (s := 16384 * (d + 1) + s)).put (v := v_m_sums) (16384 * (d + 1) + s) (nI (gA9 a Z (d + 1) s)) ⟨by unfold mIn; decide, by decide, by decide, by decide⟩, hS.put (l := d + 1) hp hs⟩
    rw [f_m_game_b46, h.2.1.1.1, if_pos ((i_leN (by omega) (by omega)).mpr (Nat.le_refl _)), inb_n (by omega) (by omega), chk_t, cl_nI (by omega), h.2.2.1.1, bnd_s, chk_t, e, bnd_s]
  | succ m ih =>
    intro i g μ hi hg h hS
    obtain ⟨g, rfl⟩ : ∃ z, g = z + 1 := ⟨g - 1, by omega⟩
    have hp := h.1.1.1
    have hb1 : Z (gA9 a Z d) (s ||| 2 ^ i) ≤ 14 := hZ _ (gO_le hZ d) _
    have hb2 : mxL (fun i => Z (gA9 a Z d) (s ||| 2 ^ i)) (opS (aS a) s) i (Z (gA9 a Z d) s) ≤ 14 := mxL_le i (hZ _ (gO_le hZ d) _) (fun j => hZ _ (gO_le hZ d) _)
    rw [f_m_game_b46, h.2.1.1.1, if_neg (fun q => absurd ((i_leN (by omega) (by omega)).mp q) (by omega)), m_canWin1 h.2.1.1 (by omega) hs, bd2_s]
    cases c : opS (aS a) s i with
    | false =>
      have e : mxL (fun i => Z (gA9 a Z d) (s ||| 2 ^ i)) (opS (aS a) s) (i + 1) (Z (gA9 a Z d) s) = mxL (fun i => Z (gA9 a Z d) (s ||| 2 ^ i)) (opS (aS a) s) i (Z (gA9 a Z d) s) := by rw [mxL, c]; rfl
      have := ih (i + 1) g μ (by omega) (by omega) h hS
      rw [e] at this
      rw [if_pos (by decide), l_1, i_add]
      exact this
    | true =>
      have e : mxL (fun i => Z (gA9 a Z d) (s ||| 2 ^ i)) (opS (aS a) s) (i + 1) (Z (gA9 a Z d) s) = max (mxL (fun i => Z (gA9 a Z d) (s ||| 2 ^ i)) (opS (aS a) s) i (Z (gA9 a Z d) s)) (Z (gA9 a Z d) (s ||| 2 ^ i)) := by rw [mxL, c]; rfl
      obtain ⟨μ1, a1, a2, a3⟩ := hA d R hd hR (s ||| 2 ^ i) μ (or_lt hs (Nat.pow_lt_pow_right (by omega) (by omega))) h hS
      obtain ⟨μ', k1, k2, k3⟩ := ih (i + 1) g μ1 (by omega) (by omega) a2 a3
      rw [e] at k1
      refine ⟨μ', ?_, k2, k3⟩
      rw [if_neg (by decide), m_won (by omega), bd2_s, xor_or (opS_f c), a1, bd2_s, imax_n (by omega) (by omega), l_1, i_add]
      exact k1
theorem m_gm (hZ : Zok Z) (hA : RAn N Q a μ0 Z fl) : ∀ d k, d < k → d ≤ 6 → RGm N Q a μ0 Z fl d (f_m_game k) := by
  intro d
  induction d with
  | zero =>
    intro k hk hd s μ hs h hS
    obtain ⟨k, rfl⟩ : ∃ z, k = z + 1 := ⟨k - 1, by omega⟩
    have h14 := p2_14 h.1.1.1
    refine ⟨μ, ?_, h, hS⟩
    rw [f_m_game, f_m_game_body, if_pos (show nI 0 = 0 from rfl), jd_bc (by omega), bd2_s]
    rfl
  | succ d ih =>
    intro k hk hd s μ hs h hS
    obtain ⟨k, rfl⟩ : ∃ z, k = z + 1 := ⟨k - 1, by omega⟩
    have h14 := p2_14 h.1.1.1
    have hp := h.1.1.1
    have ihR := ih k (by omega) (by omega)
    rw [f_m_game, f_m_game_body, if_neg (show ¬ nI (d + 1) = 0 from nI_nz (by omega) (by omega)), l_16384, i_mul, i_add, inb_n (by omega) (by omega), chk_t, cl_nI (by omega), h.2.2.1.1]
    by_cases c2 : μ.1 v_m_sumsIn (16384 * (d + 1) + s) = nI Q
    · refine ⟨μ, ?_, h, hS⟩
      rw [if_pos c2, chk_t, hS (d + 1) s (by omega) hd hs c2]
    · obtain ⟨μ1, a1, a2, a3⟩ := hA d (f_m_game k) (by omega) ihR s μ hs h hS
      obtain ⟨μ2, b1, b2, b3⟩ := m_gm_lp hZ hA ihR (by omega) hs (aS a).1 0 (FU - 1) μ1 (by omega) (by unfold FU; omega) a2 a3
      have hb1 : Z (gA9 a Z d) s ≤ 14 := hZ _ (gO_le hZ d) _
      refine ⟨μ2, ?_, b2, b3⟩
      rw [if_neg c2, show FU = (FU - 1) + 1 from rfl, f_m_game_b46, h.2.1.1.1, if_neg (nI_nle_m1 (by omega)), m_canWinN, bd2_s, if_neg (show ¬ nI (bN true) = 0 by decide), m_wonN, bd2_s, a1, bd2_s, imax_m1 (by omega), show (-1 : Int32) + 1 = nI 0 from rfl]
      exact b1
/-- the reference answers that do as well as can be -/
theorem m_ans0_lp {d s : Nat} {R : Int32 → Int32 → Int32 → Mem → Option (Int32 × Mem)} (hR : RGm N Q a μ0 (gmZ (aS a)) false d R) (hs : s < 2 ^ (aS a).1) : ∀ m i g (μ : Mem), i + m = (aS a).1 → m < g → MI N Q a μ0 μ → RS Q (gA9 a (gmZ (aS a))) (aS a).1 μ → ∃ μ', f_m_answered_b34 R g (nI s) (nI (d + 1)) (nI (mnL (fun i => gA9 a (gmZ (aS a)) d (nxt (aS a) (s ^^^ 2 ^ i))) (opZ (aS a) s) i (gA9 a (gmZ (aS a)) d (nxt (aS a) s)))) (nI i) μ = some (nI (gmZ (aS a) (gA9 a (gmZ (aS a)) d) s), μ') ∧ MI N Q a μ0 μ' ∧ RS Q (gA9 a (gmZ (aS a))) (aS a).1 μ' := by
  intro m
  induction m with
  | zero =>
    intro i g μ hi hg h hS
    obtain ⟨g, rfl⟩ : ∃ z, g = z + 1 := ⟨g - 1, by omega⟩
    have hp := h.1.1.1
    obtain rfl : i = (aS a).1 := by omega
    refine ⟨μ, ?_, h, hS⟩
    rw [f_m_answered_b34, h.2.1.1.1, if_pos ((i_leN (by omega) (by omega)).mpr (Nat.le_refl _))]
    rfl
  | succ m ih =>
    intro i g μ hi hg h hS
    obtain ⟨g, rfl⟩ : ∃ z, g = z + 1 := ⟨g - 1, by omega⟩
    have hp := h.1.1.1
    have hb1 := gO_le (S := aS a) (gmZ_ok (aS a)) d (nxt (aS a) (s ^^^ 2 ^ i))
    have hb2 := gO_le (S := aS a) (gmZ_ok (aS a)) d (nxt (aS a) s)
    have hb3 := mnL_x (fun i => gA9 a (gmZ (aS a)) d (nxt (aS a) (s ^^^ 2 ^ i))) (opZ (aS a) s) (gA9 a (gmZ (aS a)) d (nxt (aS a) s)) i
    rw [f_m_answered_b34, h.2.1.1.1, if_neg (fun q => absurd ((i_leN (by omega) (by omega)).mp q) (by omega)), m_canWin0 h.2.1.1 (by omega) hs, bd2_s]
    cases c : opZ (aS a) s i with
    | false =>
      have e : mnL (fun i => gA9 a (gmZ (aS a)) d (nxt (aS a) (s ^^^ 2 ^ i))) (opZ (aS a) s) (i + 1) (gA9 a (gmZ (aS a)) d (nxt (aS a) s)) = mnL (fun i => gA9 a (gmZ (aS a)) d (nxt (aS a) (s ^^^ 2 ^ i))) (opZ (aS a) s) i (gA9 a (gmZ (aS a)) d (nxt (aS a) s)) := by rw [mnL, c]; rfl
      have := ih (i + 1) g μ (by omega) (by omega) h hS
      rw [e] at this
      rw [if_pos (by decide), l_1, i_add]
      exact this
    | true =>
      have e : mnL (fun i => gA9 a (gmZ (aS a)) d (nxt (aS a) (s ^^^ 2 ^ i))) (opZ (aS a) s) (i + 1) (gA9 a (gmZ (aS a)) d (nxt (aS a) s)) = min (mnL (fun i => gA9 a (gmZ (aS a)) d (nxt (aS a) (s ^^^ 2 ^ i))) (opZ (aS a) s) i (gA9 a (gmZ (aS a)) d (nxt (aS a) s))) (gA9 a (gmZ (aS a)) d (nxt (aS a) (s ^^^ 2 ^ i))) := by rw [mnL, c]; rfl
      obtain ⟨μ1, a1, a2, a3⟩ := hR (nxt (aS a) (s ^^^ 2 ^ i)) μ (nxt_lt _ _) h hS
      obtain ⟨μ', k1, k2, k3⟩ := ih (i + 1) g μ1 (by omega) (by omega) a2 a3
      rw [e] at k1
      refine ⟨μ', ?_, k2, k3⟩
      have hbb1 : gA9 a (gmZ (aS a)) d (nxt (aS a) (s ^^^ 2 ^ i)) ≤ 14 := hb1
      have hbb2 : gA9 a (gmZ (aS a)) d (nxt (aS a) s) ≤ 14 := hb2
      rw [if_neg (by decide), m_won (by omega), bd2_s, m_next h.2.1.1 (xor_lt hs (Nat.pow_lt_pow_right (by omega) (by omega))), bd2_s, show (1 : Int32) = nI 1 from rfl, i_sub (by omega), Nat.add_sub_cancel, show (0 : Int32) = nI (bN false) from rfl, a1, bd2_s, imin_n (by omega) (by omega), i_add]
      exact k1
theorem m_ans0 : RAn N Q a μ0 (gmZ (aS a)) false := by
  intro d R hd hR s μ hs h hS
  have hp := h.1.1.1
  obtain ⟨μ1, a1, a2, a3⟩ := hR (nxt (aS a) s) μ (nxt_lt _ _) h hS
  obtain ⟨μ2, b1, b2, b3⟩ := m_ans0_lp hR hs (aS a).1 0 (FU - 1) μ1 (by omega) (by unfold FU; omega) a2 a3
  have hbb2 : gA9 a (gmZ (aS a)) d (nxt (aS a) s) ≤ 14 := gO_le (S := aS a) (gmZ_ok (aS a)) d (nxt (aS a) s)
  refine ⟨μ2, ?_, b2, b3⟩
  unfold f_m_answered
  rw [if_pos (show nI (bN false) = 0 by decide), show FU = (FU - 1) + 1 from rfl, f_m_answered_b34, h.2.1.1.1, if_neg (nI_nle_m1 (by omega)), m_canWinN, bd2_s, if_neg (show ¬ nI (bN true) = 0 by decide), m_wonN, bd2_s, m_next h.2.1.1 hs, bd2_s, show (-1 : Int32) + 1 = nI 0 from rfl, show (1 : Int32) = nI 1 from rfl, i_sub (by omega), Nat.add_sub_cancel]
  have a1' : R (nI (nxt (aS a) s)) (nI d) 0 μ = some (nI (gA9 a (gmZ (aS a)) d (nxt (aS a) s)), μ1) := a1
  rw [a1', bd2_s, l_1000000, imin_n (by omega) (by omega), Nat.min_eq_right (by omega)]
  exact b1
theorem m_out_lp (hZ : Zok Z) (hA : RAn N Q a μ0 Z fl) (hN : N < 600) {d : Nat} (hd : d < 6) : ∀ m i g (μ : Mem), i + m = (aS a).1 → m < g → MI N Q a μ0 μ → RS Q (gA9 a Z) (aS a).1 μ → fsI (pkG (aS a) Z d (aN a)) m i ≠ none → ∃ μ', f_m_playOut_b24 g (nI (d + 1)) (nI (bN fl)) (nI (gA9 a Z (d + 1) (aN a))) (nI i) μ = some (nI (gA9 a Z (d + 1) (aN a)), μ') ∧ MO N (aSetR a [(oI (fsI (pkG (aS a) Z d (aN a)) m i)).toInt64]) μ0 μ' := by
  intro m
  induction m with
  | zero =>
    intro i g μ hi hg h hS hne
    exact absurd rfl hne
  | succ m ih =>
    intro i g μ hi hg h hS hne
    obtain ⟨g, rfl⟩ : ∃ z, g = z + 1 := ⟨g - 1, by omega⟩
    have hp := h.1.1.1
    have hnow := now_lt h.1
    have hb1 : Z (gA9 a Z d) (aN a ||| 2 ^ i) ≤ 14 := hZ _ (gO_le hZ d) _
    have hb2 : gA9 a Z (d + 1) (aN a) ≤ 14 := gO_le hZ (d + 1) _
    rw [fsI] at hne ⊢
    rw [f_m_playOut_b24, if_neg (show ¬ nI (d + 1) ≤ 0 from fun q => absurd ((i_leN (b := 0) (by omega) (by omega)).mp q) (by omega)), m_now h.1 h.2.1.2.1, bd2_s, m_canWin1 h.2.1.1 (by omega) hnow, bd2_s]
    cases c1 : opS (aS a) (aN a) i with
    | false =>
      have hpk : pkG (aS a) Z d (aN a) i = false := by unfold pkG; rw [c1]; rfl
      rw [hpk, if_neg (show ¬ false = true by decide)] at hne ⊢
      rw [if_pos (show nI (bN false) = 0 by decide), l_1, i_add]
      exact ih (i + 1) g μ (by omega) (by omega) h hS hne
    | true =>
      obtain ⟨μ1, a1, a2, a3⟩ := hA d (f_m_game 8) hd (m_gm hZ hA d 8 (by omega) (by omega)) (aN a ||| 2 ^ i) μ (or_lt hnow (Nat.pow_lt_pow_right (by omega) (by omega))) h hS
      rw [if_neg (show ¬ nI (bN true) = 0 by decide), m_now h.1 h.2.1.2.1, bd2_s, m_won (by omega), bd2_s, xor_or (opS_f c1), a1, bd2_s]
      by_cases c2 : Z (gA9 a Z d) (aN a ||| 2 ^ i) = gA9 a Z (d + 1) (aN a)
      · have hpk : pkG (aS a) Z d (aN a) i = true := by unfold pkG; rw [c1, decide_eq_true (show Z (gO (aS a) Z d) (aN a ||| 2 ^ i) = gO (aS a) Z (d + 1) (aN a) from c2)]; rfl
        rw [hpk, if_pos rfl]
        obtain ⟨e1, e2⟩ := m_clear μ1
        obtain ⟨μ2, f1, f2, f3⟩ := m_tell (nI i).toInt64 e1 (by simp)
        refine ⟨μ2, ?_, a2.told hN (by simp) f2 (e2.tr f3)⟩
        unfold f_m_playOut_b67
        rw [if_pos (by rw [c2]), bnd_s, f1, bd1_s]
      · have hpk : pkG (aS a) Z d (aN a) i = false := by unfold pkG; rw [decide_eq_false (show ¬ Z (gO (aS a) Z d) (aN a ||| 2 ^ i) = gO (aS a) Z (d + 1) (aN a) from c2)]; simp
        rw [hpk, if_neg (show ¬ false = true by decide)] at hne ⊢
        rw [if_neg (fun q => c2 (nI_inj (by omega) (by omega) q)), l_1, i_add]
        exact ih (i + 1) g μ1 (by omega) (by omega) a2 a3 hne
def rwG (S : SP) (Z : (Nat → Nat) → Nat → Nat) (n s : Nat) : List Int64 := [(oI (if n = 0 then none else whG S Z (n - 1) s)).toInt64]
theorem m_out (hZ : Zok Z) (hA : RAn N (Q + 1) a μ0 Z fl) (hN : N < 600) {n : Nat} (hn : n ≤ 6) (h : MI N Q a μ0 μ) (hQ : Q + 1 ≤ 50000 * N + 50000) : ∃ μ', f_m_playOut (nI n) (nI (bN fl)) μ = some (nI (gA9 a Z n (aN a)), μ') ∧ MO N (aSetR a (rwG (aS a) Z n (aN a))) μ0 μ' := by
  have hp := h.1.1.1
  have hnow := now_lt h.1
  obtain ⟨hK, hS⟩ := h.ask2 hQ (gA9 a Z)
  obtain ⟨μ1, t1, t2, t3⟩ := m_gm hZ hA n 8 (by omega) hn (aN a) _ hnow hK hS
  unfold f_m_playOut
  rw [h.2.2.1.1, l_1, i_add, bnd_s, m_now hK.1 hK.2.1.2.1, bd2_s, t1, bd2_s]
  rw [show FU = (FU - 1) + 1 from rfl, f_m_playOut_b24]
  obtain ⟨e1, e2⟩ := m_clear μ1
  by_cases c : n = 0
  · subst c
    obtain ⟨μ2, f1, f2, f3⟩ := m_tell (oI none).toInt64 e1 (by simp)
    refine ⟨μ2, ?_, t2.told hN (by simp [rwG]) f2 (e2.tr f3)⟩
    unfold f_m_playOut_b67
    rw [if_pos (show nI 0 ≤ 0 by decide), bnd_s, show f_m_tell (Int32.toInt64 (-nI 1)) (setI μ1 v_m_rowMany 0 0) = some μ2 from f1, bd1_s]
  · obtain ⟨d, rfl⟩ : ∃ z, n = z + 1 := ⟨n - 1, by omega⟩
    obtain ⟨μ2, a1, a2, a3⟩ := hA d (f_m_game 8) (by omega) (m_gm hZ hA d 8 (by omega) (by omega)) (aN a) μ1 hnow t2 t3
    have hb1 : Z (gA9 a Z d) (aN a) ≤ 14 := hZ _ (gO_le hZ d) _
    have hb2 : gA9 a Z (d + 1) (aN a) ≤ 14 := gO_le hZ (d + 1) _
    unfold rwG
    rw [if_neg (show ¬ nI (d + 1) ≤ 0 from fun q => absurd ((i_leN (b := 0) (by omega) (by omega)).mp q) (by omega)), m_now t2.1 t2.2.1.2.1, bd2_s, show f_m_canWin 1 (-nI 1) (nI (aN a)) μ1 = _ from m_canWinN, bd2_s, if_neg (show ¬ nI (bN true) = 0 by decide), m_now t2.1 t2.2.1.2.1, bd2_s, show f_m_won (nI (aN a)) (-nI 1) μ1 = _ from m_wonN, bd2_s, a1, bd2_s, if_neg c, Nat.add_sub_cancel]
    unfold whG
    by_cases q : Z (gO (aS a) Z d) (aN a) = gO (aS a) Z (d + 1) (aN a)
    · obtain ⟨g1, g2⟩ := m_clear μ2
      obtain ⟨μ3, f1, f2, f3⟩ := m_tell (oI none).toInt64 g1 (by simp)
      rw [if_pos q]
      refine ⟨μ3, ?_, a2.told hN (by simp) f2 (g2.tr f3)⟩
      unfold f_m_playOut_b67
      rw [if_pos (show nI (Z (gA9 a Z d) (aN a)) = nI (gA9 a Z (d + 1) (aN a)) from congrArg nI q), bnd_s, show f_m_tell (Int32.toInt64 (-nI 1)) (setI μ2 v_m_rowMany 0 0) = some μ3 from f1, bd1_s]
    · rw [if_neg (fun z => q (nI_inj (Nat.lt_of_le_of_lt hb1 (by omega)) (Nat.lt_of_le_of_lt hb2 (by omega)) z)), if_neg q, show -nI 1 + 1 = nI 0 from rfl]
      exact m_out_lp hZ hA hN (by omega) (aS a).1 0 (FU - 1) μ2 (by omega) (by unfold FU; omega) a2 a3 (whG_ex q)
end OPS
