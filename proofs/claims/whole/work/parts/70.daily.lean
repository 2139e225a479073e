/-! daily, plan: the reference, and both. -/
section OPS
variable {N : Nat} {a : Ab} {b : Nat × Nat} {μ0 μ : Mem} {Q : Nat} {S : SP} {w : Nat}
abbrev sqA (a : Ab) (w l s : Nat) : Nat := sqD (aS a) (aPr a) w l s
def RS (Q : Nat) (g : Nat → Nat → Nat) (p : Nat) (μ : Mem) : Prop := ∀ l s, 1 ≤ l → l ≤ 6 → s < 2 ^ p → μ.1 v_m_sumsIn (16384 * l + s) = nI Q → μ.1 v_m_sums (16384 * l + s) = nI (g l s)
theorem MI.mark2 (h : MI N Q a μ0 μ) {s : Nat} : MI N Q a μ0 (setI μ v_m_sumsIn s (nI Q)) := by
  obtain ⟨h1, h2, ⟨q1, q2, q3⟩, h4, h5⟩ := h
  have hm : mIn v_m_sumsIn := by unfold mIn; decide
  refine ⟨h1, mIn.fr h2 (fun u hu => sI_v _ _ _ (fun q => hu (q ▸ hm))) rfl, ⟨?_, fun k hk => ?_, fun k hk => ?_⟩, h4, h5.tr (MFr.I _ _ _ (by decide))⟩
  · rw [sI_v _ _ _ (by decide)]; exact q1
  · rw [sI_v _ _ _ (by decide)]; exact q2 k hk
  · by_cases e : k = s
    · subst e; exact ⟨Q, Nat.le_refl _, sI_eq _ _ _ _⟩
    · rw [sI_i _ _ _ e]; exact q3 k hk
/-- a new question: nothing of it is known yet -/
theorem MI.ask2 (h : MI N Q a μ0 μ) (hQ : Q + 1 ≤ 50000 * N + 50000) (g : Nat → Nat → Nat) : MI N (Q + 1) a μ0 (setI μ v_m_question 0 (nI (Q + 1))) ∧ RS (Q + 1) g (aS a).1 (setI μ v_m_question 0 (nI (Q + 1))) := by
  have hN6 := h.2.2.2.1.1
  have h14 := p2_14 h.1.1.1
  refine ⟨(h.ask hQ).1, fun l s h1 h2 h3 h4 => ?_⟩
  obtain ⟨w, w1, w2⟩ := h.2.2.1.2.2 (16384 * l + s) (by omega)
  rw [sI_v _ _ _ (by decide), w2] at h4
  have := nI_inj (by omega) (by omega) h4
  omega
theorem RS.put {g : Nat → Nat → Nat} {p l s : Nat} (hp : p ≤ 14) (h : RS Q g p μ) (hs : s < 2 ^ p) : RS Q g p (setI (setI μ v_m_sumsIn (16384 * l + s) (nI Q)) v_m_sums (16384 * l + s) (nI (g l s))) := fun l' s' h1 h2 h3 h4 => by
  have h14 := p2_14 hp
  by_cases e : 16384 * l' + s' = 16384 * l + s
  · have e1 : l' = l := by omega
    have e2 : s' = s := by omega
    rw [e1, e2, sI_eq]
  · rw [sI_i _ _ _ e, sI_v _ _ _ (by decide)]
    rw [sI_v _ _ _ (by decide), sI_i _ _ _ e] at h4
    exact h l' s' h1 h2 h3 h4
theorem m_canTalk (h : MB S μ) {i s : Nat} (hi : i < 14) (hs : s < 2 ^ S.1) : f_m_canTalk (nI i) (nI s) μ = some (nI (bN (opS S s i)), μ) := by
  have hp := h.2.2.2.2.1
  have hf := h.2.2.2.2.2.2.2
  unfold f_m_canTalk
  rw [if_neg (nI_ne_m1 (by omega)), h.2.2.2.1, m_has (p2_31 hp hf) (by omega), bd2_s]
  unfold opS
  cases c1 : S.2.2.2.testBit i with
  | true => rw [if_neg (by decide), zb_0, chk_t]; rfl
  | false =>
    rw [if_pos (by decide), m_has (p2_31 hp hs) (by omega), bd2_s]
    cases c2 : s.testBit i with
    | true => rw [if_neg (by decide), bnd_s, zb_0, chk_t]; rfl
    | false => rw [if_pos (by decide), bnd_s, zb_1, chk_t]; rfl
theorem m_canTalk0 {x : Int32} : f_m_canTalk (-1) x μ = some (nI (bN true), μ) := by
  unfold f_m_canTalk f_m_canTalk_b24
  rw [if_pos rfl, zb_1, chk_t]
  rfl
def RMp (N Q : Nat) (a : Ab) (μ0 : Mem) (w l : Nat) (R : Int32 → Int32 → Int32 → Mem → Option (Int32 × Mem)) : Prop := ∀ s (μ : Mem), s < 2 ^ (aS a).1 → MI N Q a μ0 μ → RS Q (sqA a w) (aS a).1 μ → ∃ μ', R (nI w) (nI s) (nI l) μ = some (nI (sqA a w l s), μ') ∧ MI N Q a μ0 μ' ∧ RS Q (sqA a w) (aS a).1 μ'
theorem nI_nle_m1 {n : Nat} (h : n < 2 ^ 31) : ¬ nI n ≤ -1 := fun q => by
  rw [i_le, i_tI h] at q
  have e : (-1 : Int32).toInt = -1 := by decide
  omega
theorem m_sumBy {l s : Nat} {R : Int32 → Int32 → Int32 → Mem → Option (Int32 × Mem)} (hR : RMp N Q a μ0 w l R) (o : Option Nat) (ho : ∀ i, o = some i → i < (aS a).1) (hl : l < 6) (hs : s < 2 ^ (aS a).1) (h : MI N Q a μ0 μ) (hS : RS Q (sqA a w) (aS a).1 μ) : ∃ μ', f_m_sumBy R (nI w) (nI s) (nI (l + 1)) (oI o) μ = some (nI (bmp (coO (aPr a) o) (sqA a w l (stO (aS a) s o))), μ') ∧ MI N Q a μ0 μ' ∧ RS Q (sqA a w) (aS a).1 μ' := by
  have hp := h.1.1.1
  have hlt := stO_lt (S := aS a) s o
  obtain ⟨μ1, a1, a2, a3⟩ := hR (stO (aS a) s o) μ hlt h hS
  have hb := rl_far (w := w) h.1.2.2.1 (l := l) (by omega) hlt
  have hbb : sqA a w l (stO (aS a) s o) < 2 ^ 31 := by show sqD _ _ _ _ _ < _; omega
  refine ⟨μ1, ?_, a2, a3⟩
  unfold f_m_sumBy
  have fin : ∀ x : Int32, x = nI (coO (aPr a) o) → f_m_sumBy_b63 R (nI (sqA a w l (stO (aS a) s o))) 100 x μ1 = some (nI (sqA a w l (stO (aS a) s o) + 100 * coO (aPr a) o + 1), μ1) := fun x hx => by
    unfold f_m_sumBy_b63
    rw [hx, l_100, i_mul, i_add, l_1, i_add]
  cases o with
  | none =>
    rw [if_pos (show oI none = -1 from rfl), bnd_s, m_next h.2.1.1 hs, bd2_s, l_1, i_sub (by omega), Nat.add_sub_cancel, show nxt (aS a) s = stO (aS a) s none from rfl, a1, bd2_s, l_1000000]
    unfold bmp
    by_cases c : sqA a w l (stO (aS a) s none) = 1000000
    · rw [if_pos (by rw [c]), if_pos c]
    · rw [if_neg (fun q => c (nI_inj hbb (by omega) q)), if_neg c, if_pos (show oI none = -nI 1 from rfl)]
      exact fin _ rfl
  | some i =>
    have hi := ho i rfl
    have hne : ¬ oI (some i) = -1 := nI_ne_m1 (by omega)
    rw [if_neg hne, bnd_s, show oI (some i) = nI i from rfl, i_one (by omega), i_or, m_next h.2.1.1 (or_lt hs (Nat.pow_lt_pow_right (by omega) hi)), bd2_s, show (1 : Int32) = nI 1 from rfl, i_sub (by omega), Nat.add_sub_cancel, show nxt (aS a) (s ||| 2 ^ i) = stO (aS a) s (some i) from rfl, a1, bd2_s, l_1000000]
    unfold bmp
    by_cases c : sqA a w l (stO (aS a) s (some i)) = 1000000
    · rw [if_pos (by rw [c]), if_pos c]
    · rw [if_neg (fun q => c (nI_inj hbb (by omega) q)), if_neg c, if_neg (show ¬ nI i = -nI 1 from hne), inb_n (by omega) (by omega), chk_t, cl_nI (by omega), a2.2.1.2.1.1 i hi]
      exact fin _ rfl
def f2L (a : Ab) (w l s : Nat) : Nat → Nat := fun i => bmp (aPr a i) (sqA a w l (nxt (aS a) (s ||| 2 ^ i)))
theorem bmp_lt {c v : Nat} (hc : c ≤ 9) (hv : v = 1000000 ∨ v ≤ 5500) : bmp c v ≤ 1000000 := by
  unfold bmp
  split <;> omega
theorem m_sq_lp {l s : Nat} {R : Int32 → Int32 → Int32 → Mem → Option (Int32 × Mem)} (hR : RMp N Q a μ0 w l R) (hs : s < 2 ^ (aS a).1) (hl : l < 6) (hu : ¬ s &&& w = w) : ∀ m i g (μ : Mem), i + m = (aS a).1 → m < g → MI N Q a μ0 μ → RS Q (sqA a w) (aS a).1 μ → ∃ μ', f_m_sumOf_b54 R g (nI w) (nI s) (nI (l + 1)) (nI (16384 * (l + 1) + s)) (nI (mnL (f2L a w l s) (opS (aS a) s) i (bmp 0 (sqA a w l (nxt (aS a) s))))) (nI i) μ = some (nI (sqA a w (l + 1) s), μ') ∧ MI N Q a μ0 μ' ∧ RS Q (sqA a w) (aS a).1 μ' := by
  intro m
  induction m with
  | zero =>
    intro i g μ hi hg h hS
    obtain ⟨g, rfl⟩ : ∃ z, g = z + 1 := ⟨g - 1, by omega⟩
    have hp := h.1.1.1
    have h14 := p2_14 hp
    obtain rfl : i = (aS a).1 := by omega
    have e : mnL (f2L a w l s) (opS (aS a) s) (aS a).1 (bmp 0 (sqA a w l (nxt (aS a) s))) = sqA a w (l + 1) s := by
      show _ = sqD _ _ _ _ _
      rw [sqD, if_neg hu]
      rfl
    refine ⟨_, ?_, (h.mark2 (s := 16384 * (l + 1) + s)).put (v := v_m_sums) (16384 * (l + 1) + s) (nI (sqA a w (l + 1) s)) ⟨by unfold mIn; decide, by decide, by decide, by decide⟩, hS.put (l := l + 1) hp hs⟩
    rw [f_m_sumOf_b54, h.2.1.1.1, if_pos ((i_leN (by omega) (by omega)).mpr (Nat.le_refl _)), inb_n (by omega) (by omega), chk_t, cl_nI (by omega), h.2.2.1.1, bnd_s, chk_t, e, bnd_s]
  | succ m ih =>
    intro i g μ hi hg h hS
    obtain ⟨g, rfl⟩ : ∃ z, g = z + 1 := ⟨g - 1, by omega⟩
    have hp := h.1.1.1
    have h14 := p2_14 hp
    have hx := mnL_x (f2L a w l s) (opS (aS a) s) (bmp 0 (sqA a w l (nxt (aS a) s))) i
    have hb1 : bmp 0 (sqA a w l (nxt (aS a) s)) ≤ 1000000 := bmp_lt (by omega) (rl_far (w := w) h.1.2.2.1 (l := l) (by omega) (nxt_lt _ _))
    have hb2 : bmp (aPr a i) (sqA a w l (nxt (aS a) (s ||| 2 ^ i))) ≤ 1000000 := bmp_lt (h.1.2.2.1 i (by omega)) (rl_far (w := w) h.1.2.2.1 (l := l) (by omega) (nxt_lt _ _))
    rw [f_m_sumOf_b54, h.2.1.1.1, if_neg (fun q => absurd ((i_leN (by omega) (by omega)).mp q) (by omega)), m_canTalk h.2.1.1 (by omega) hs, bd2_s]
    cases c : opS (aS a) s i with
    | false =>
      have e : mnL (f2L a w l s) (opS (aS a) s) (i + 1) (bmp 0 (sqA a w l (nxt (aS a) s))) = mnL (f2L a w l s) (opS (aS a) s) i (bmp 0 (sqA a w l (nxt (aS a) s))) := by rw [mnL, c]; rfl
      have := ih (i + 1) g μ (by omega) (by omega) h hS
      rw [e] at this
      rw [if_pos (by decide), l_1, i_add]
      exact this
    | true =>
      have e : mnL (f2L a w l s) (opS (aS a) s) (i + 1) (bmp 0 (sqA a w l (nxt (aS a) s))) = min (mnL (f2L a w l s) (opS (aS a) s) i (bmp 0 (sqA a w l (nxt (aS a) s)))) (f2L a w l s i) := by rw [mnL, c]; rfl
      obtain ⟨μ1, a1, a2, a3⟩ := m_sumBy hR (some i) (fun j q => by have := Option.some.inj q; omega) hl hs h hS
      have a1' : f_m_sumBy R (nI w) (nI s) (nI (l + 1)) (nI i) μ = some (nI (f2L a w l s i), μ1) := a1
      obtain ⟨μ', k1, k2, k3⟩ := ih (i + 1) g μ1 (by omega) (by omega) a2 a3
      rw [e] at k1
      refine ⟨μ', ?_, k2, k3⟩
      rw [if_neg (by decide), a1', bd2_s, imin_n (by omega) (show f2L a w l s i < _ by show bmp _ _ < _; omega), l_1, i_add]
      exact k1
theorem m_sq (hw : w < 2 ^ (aS a).1) : ∀ l k, l < k → l ≤ 6 → RMp N Q a μ0 w l (f_m_sumOf k) := by
  intro l
  induction l with
  | zero =>
    intro k hk hl s μ hs h hS
    obtain ⟨k, rfl⟩ : ∃ z, k = z + 1 := ⟨k - 1, by omega⟩
    have h14 := p2_14 h.1.1.1
    have hsw : s &&& w < 2 ^ (aS a).1 := and_lt hs
    refine ⟨μ, ?_, h, hS⟩
    rw [f_m_sumOf, f_m_sumOf_body, i_and]
    show _ = some (nI (sqD (aS a) (aPr a) w 0 s), μ)
    rw [sqD]
    by_cases c : s &&& w = w
    · rw [if_pos (by rw [c]), if_pos c]; rfl
    · rw [if_neg (fun q => c (nI_inj (by omega) (by omega) q)), if_neg c, if_pos (show nI 0 = 0 from rfl)]; rfl
  | succ l ih =>
    intro k hk hl s μ hs h hS
    obtain ⟨k, rfl⟩ : ∃ z, k = z + 1 := ⟨k - 1, by omega⟩
    have h14 := p2_14 h.1.1.1
    have hp := h.1.1.1
    have ihR := ih k (by omega) (by omega)
    have hsw : s &&& w < 2 ^ (aS a).1 := and_lt hs
    rw [f_m_sumOf, f_m_sumOf_body, i_and]
    by_cases c : s &&& w = w
    · refine ⟨μ, ?_, h, hS⟩
      rw [if_pos (by rw [c])]
      show _ = some (nI (sqD (aS a) (aPr a) w (l + 1) s), μ)
      rw [sqD, if_pos c]; rfl
    · rw [if_neg (fun q => c (nI_inj (by omega) (by omega) q)), if_neg (show ¬ nI (l + 1) = 0 from nI_nz (by omega) (by omega)), l_16384, i_mul, i_add, inb_n (by omega) (by omega), chk_t, cl_nI (by omega), h.2.2.1.1]
      by_cases c2 : μ.1 v_m_sumsIn (16384 * (l + 1) + s) = nI Q
      · refine ⟨μ, ?_, h, hS⟩
        rw [if_pos c2, chk_t, hS (l + 1) s (by omega) hl hs c2]
      · obtain ⟨μ1, a1, a2, a3⟩ := m_sumBy ihR none (fun j q => absurd q (by simp)) (by omega) hs h hS
        have a1' : f_m_sumBy (f_m_sumOf k) (nI w) (nI s) (nI (l + 1)) (-1) μ = some (nI (bmp 0 (sqA a w l (nxt (aS a) s))), μ1) := a1
        obtain ⟨μ2, b1, b2, b3⟩ := m_sq_lp ihR hs (by omega) c (aS a).1 0 (FU - 1) μ1 (by omega) (by unfold FU; omega) a2 a3
        have hb1 : bmp 0 (sqA a w l (nxt (aS a) s)) ≤ 1000000 := bmp_lt (by omega) (rl_far (w := w) h.1.2.2.1 (l := l) (by omega) (nxt_lt _ _))
        refine ⟨μ2, ?_, b2, b3⟩
        rw [if_neg c2, show FU = (FU - 1) + 1 from rfl, f_m_sumOf_b54, h.2.1.1.1, if_neg (nI_nle_m1 (by omega)), m_canTalk0, bd2_s, if_neg (show ¬ nI (bN true) = 0 by decide), a1', bd2_s, l_1000000, imin_n (by omega) (by omega), Nat.min_eq_right hb1, show (-1 : Int32) + 1 = nI 0 from rfl]
        exact b1
theorem m_who_lp (hw : w < 2 ^ (aS a).1) {l s c d : Nat} (hs : s < 2 ^ (aS a).1) (hl : l + 1 ≤ 6) (hu : ¬ s &&& w = w) (hR : Rl1 (aS a) (aPr a) w (l + 1) s c d) : ∀ m i g (μ : Mem), i + m = (aS a).1 → m < g → MI N Q a μ0 μ → RS Q (sqA a w) (aS a).1 μ → fsI (pkD (aS a) (aPr a) w d c s) m i ≠ none → ∃ μ', f_m_whoFirst_b12 g (nI w) (nI s) (nI (l + 1)) (nI (100 * c + d)) (nI i) μ = some (oI (fsI (pkD (aS a) (aPr a) w d c s) m i), μ') ∧ MI N Q a μ0 μ' ∧ RS Q (sqA a w) (aS a).1 μ' := by
  have hR' := hR
  obtain ⟨r1, r2, _⟩ := hR'
  intro m
  induction m with
  | zero =>
    intro i g μ hi hg h hS hne
    exact absurd rfl hne
  | succ m ih =>
    intro i g μ hi hg h hS hne
    obtain ⟨g, rfl⟩ : ∃ z, g = z + 1 := ⟨g - 1, by omega⟩
    have hp := h.1.1.1
    have hb2 : bmp (aPr a i) (sqA a w l (nxt (aS a) (s ||| 2 ^ i))) ≤ 1000000 := bmp_lt (h.1.2.2.1 i (by omega)) (rl_far (w := w) h.1.2.2.1 (l := l) (by omega) (nxt_lt _ _))
    rw [fsI] at hne ⊢
    rw [f_m_whoFirst_b12, m_canTalk h.2.1.1 (by omega) hs, bd2_s]
    cases c1 : opS (aS a) s i with
    | false =>
      have hpk : pkD (aS a) (aPr a) w d c s i = false := by unfold pkD; rw [c1]; rfl
      rw [hpk, if_neg (show ¬ false = true by decide)] at hne ⊢
      rw [if_pos (show nI (bN false) = 0 by decide), l_1, i_add]
      exact ih (i + 1) g μ (by omega) (by omega) h hS hne
    | true =>
      obtain ⟨μ1, a1, a2, a3⟩ := m_sumBy (m_sq hw l 8 (by omega) (by omega)) (some i) (fun j q => by have := Option.some.inj q; omega) (by omega) hs h hS
      have a1' : f_m_sumBy (f_m_sumOf 8) (nI w) (nI s) (nI (l + 1)) (nI i) μ = some (nI (bmp (aPr a i) (sqA a w l (nxt (aS a) (s ||| 2 ^ i)))), μ1) := a1
      have hpi := (rl_pick h.1.2.2.1 hl hu hR (Or.inr ⟨i, by omega, c1, rfl, rfl⟩)).1
      rw [if_neg (by decide), a1', bd2_s]
      by_cases c2 : bmp (aPr a i) (sqA a w l (nxt (aS a) (s ||| 2 ^ i))) = 100 * c + d
      · have hpk : pkD (aS a) (aPr a) w d c s i = true := by unfold pkD; rw [c1, decide_eq_true (hpi.mp c2)]; rfl
        rw [hpk, if_pos rfl]
        refine ⟨μ1, ?_, a2, a3⟩
        rw [if_pos (by rw [c2])]
        rfl
      · have hpk : pkD (aS a) (aPr a) w d c s i = false := by unfold pkD; rw [decide_eq_false (fun q => c2 (hpi.mpr q))]; simp
        rw [hpk, if_neg (show ¬ false = true by decide)] at hne ⊢
        rw [if_neg (fun q => c2 (nI_inj (by omega) (by omega) q)), l_1, i_add]
        exact ih (i + 1) g μ1 (by omega) (by omega) a2 a3 hne
theorem m_who (hw : w < 2 ^ (aS a).1) {l s c d : Nat} (hs : s < 2 ^ (aS a).1) (hl : l + 1 ≤ 6) (hu : ¬ s &&& w = w) (hR : Rl1 (aS a) (aPr a) w (l + 1) s c d) (h : MI N Q a μ0 μ) (hS : RS Q (sqA a w) (aS a).1 μ) : ∃ μ', f_m_whoFirst (nI w) (nI s) (nI (l + 1)) μ = some (oI (whD (aS a) (aPr a) w d c s), μ') ∧ MI N Q a μ0 μ' ∧ RS Q (sqA a w) (aS a).1 μ' := by
  have hp := h.1.1.1
  have hR' := hR
  obtain ⟨r1, r2, r3, r4, r5, r6⟩ := hR'
  obtain ⟨μ1, a1, a2, a3⟩ := m_sq hw (l + 1) 8 (by omega) hl s μ hs h hS
  have a1' : f_m_sumOf 8 (nI w) (nI s) (nI (l + 1)) μ = some (nI (100 * c + d), μ1) := by rw [a1]; show some (nI (sqD _ _ _ _ _), _) = _; rw [r6]
  obtain ⟨μ2, b1, b2, b3⟩ := m_sumBy (m_sq hw l 8 (by omega) (by omega)) none (fun j q => absurd q (by simp)) (by omega) hs a2 a3
  have b1' : f_m_sumBy (f_m_sumOf 8) (nI w) (nI s) (nI (l + 1)) (-1) μ1 = some (nI (bmp 0 (sqA a w l (nxt (aS a) s))), μ2) := b1
  have hb1 : bmp 0 (sqA a w l (nxt (aS a) s)) ≤ 1000000 := bmp_lt (by omega) (rl_far (w := w) h.1.2.2.1 (l := l) (by omega) (nxt_lt _ _))
  have hpi := (rl_pick h.1.2.2.1 hl hu hR (Or.inl ⟨rfl, rfl⟩)).1
  rw [Nat.zero_add] at hpi
  unfold f_m_whoFirst
  rw [a1', bd2_s, show FU = (FU - 1) + 1 from rfl, f_m_whoFirst_b12, m_canTalk0, bd2_s, if_neg (show ¬ nI (bN true) = 0 by decide), b1', bd2_s]
  unfold whD
  by_cases q : lsD (aS a) (aPr a) w (d - 1) (nxt (aS a) s) = c
  · refine ⟨μ2, ?_, b2, b3⟩
    rw [if_pos (show nI (bmp 0 (sqA a w l (nxt (aS a) s))) = nI (100 * c + d) by rw [hpi.mpr q]), if_pos q]
    rfl
  · rw [if_neg (fun z => q (hpi.mp (nI_inj (Nat.lt_of_le_of_lt hb1 (by omega)) (by omega) z))), if_neg q, show (-1 : Int32) + 1 = nI 0 from rfl]
    obtain ⟨n, co, hO, hm⟩ := sq_at (S := aS a) (pr := aPr a) (w := w) (l := l) hu
    rw [r6] at hm
    have hpp := (rl_pick h.1.2.2.1 hl hu hR hO).1.mp hm.symm
    refine m_who_lp hw hs hl hu hR (aS a).1 0 (FU - 1) μ2 (by omega) (by unfold FU; omega) b2 b3 ?_
    rcases hO with ⟨e1, e2⟩ | ⟨i, e1, e2, e3, e4⟩
    · rw [e1, e2, Nat.zero_add] at hpp
      exact absurd hpp q
    · refine fsI_some _ _ ⟨i, by omega, by omega, ?_⟩
      unfold pkD
      rw [e2, decide_eq_true (show aPr a i + lsD (aS a) (aPr a) w (d - 1) (nxt (aS a) (s ||| 2 ^ i)) = c by rw [← e3, ← e4]; exact hpp)]
      rfl
theorem i_rem100 {c d : Nat} (hc : c < 10000) (hd : d < 100) : nI (100 * c + d) - nI (100 * c + d) / (100 : Int32) * (100 : Int32) = nI d := by
  rw [l_100, pk_rem (by omega) (by omega) (by omega)]
  congr 1
  omega
theorem i_div100 {c d : Nat} (hc : c < 10000) (hd : d < 100) : nI (100 * c + d) / (100 : Int32) = nI c := by
  rw [l_100, pk_div (by omega) (by omega) (by omega)]
  congr 1
  omega
theorem rl_uns {pr : Nat → Nat} {l s c d : Nat} (h : Rl1 S pr w l s c d) (hl : l ≤ 6) : (s &&& w = w ↔ d = 0) := by
  obtain ⟨h1, h2, h3, h4, h5, h6⟩ := h
  constructor
  · intro q
    rcases Nat.eq_zero_or_pos d with z | z
    · exact z
    · have := h5 0 z
      rw [lsD, if_pos q] at this
      omega
  · intro q
    subst q
    refine Classical.byContradiction fun z => ?_
    rw [lsD, if_neg z] at h3
    omega
theorem m_plan_lp (hw : w < 2 ^ (aS a).1) {C D : Nat} (hC : C < 1000) : ∀ d c s l k g r a' (μ : Mem), a' = aSetR a r → k + d = D → d < g → l ≤ 6 → D < 7 → r.length + d ≤ 7 → s < 2 ^ (aS a).1 → Rl1 (aS a) (aPr a) w l s c d → MI N Q a' μ0 μ → RS Q (sqA a w) (aS a).1 μ → ∃ μ', f_m_plan_b71 g (nI w) (nI (100 * C + D)) (nI s) (nI l) (nI k) μ = some (nI D, μ') ∧ MI N Q (aSetR a (r ++ rwO (plR (aS a) (aPr a) w d c s))) μ0 μ' := by
  intro d
  induction d with
  | zero =>
    intro c s l k g r a' μ ha hk hg hl hD hr hs hR h hS
    obtain ⟨g, rfl⟩ : ∃ z, g = z + 1 := ⟨g - 1, by omega⟩
    refine ⟨μ, ?_, ?_⟩
    · rw [f_m_plan_b71, i_rem100 (by omega) (by omega), if_pos ((i_leN (by omega) (by omega)).mpr (by omega))]
    · show MI N Q (aSetR a (r ++ [])) μ0 μ
      rw [List.append_nil, ← ha]
      exact h
  | succ d ih =>
    intro c s l k g r a' μ ha hk hg hl hD hr hs hR h hS
    obtain ⟨g, rfl⟩ : ∃ z, g = z + 1 := ⟨g - 1, by omega⟩
    subst ha
    have hp : (aS a).1 ≤ 14 := h.1.1.1
    have hdl := hR.1
    obtain ⟨l, rfl⟩ : ∃ z, l = z + 1 := ⟨l - 1, by omega⟩
    have hu : ¬ s &&& w = w := fun q => by have := (rl_uns hR hl).mp q; omega
    obtain ⟨μ1, k1, k2, k3⟩ := m_who (a := aSetR a r) (w := w) hw hs hl hu hR h hS
    have k1' : f_m_whoFirst (nI w) (nI s) (nI (l + 1)) μ = some (oI (whD (aS a) (aPr a) w (d + 1) c s), μ1) := k1
    obtain ⟨μ2, a1, a2, a3⟩ := m_tell (oI (whD (aS a) (aPr a) w (d + 1) c s)).toInt64 k2.2.1.2.2.2.1 (by show r.length < 16; omega)
    have hx : MI N Q (aSetR a (r ++ [(oI (whD (aS a) (aPr a) w (d + 1) c s)).toInt64])) μ0 μ2 := k2.row (by show (r ++ [_]).length ≤ 16; rw [List.length_append, List.length_singleton]; omega) a2 a3
    have hS2 : RS Q (sqA a w) (aS a).1 μ2 := fun l' s' h1 h2 h3 h4 => by
      rw [a3.1 _ (by decide)] at h4 ⊢
      exact k3 l' s' h1 h2 h3 h4
    have hlt := stO_lt (S := aS a) s (whD (aS a) (aPr a) w (d + 1) c s)
    have hok := whD_ok h.1.2.2.1 hl hu hR
    obtain ⟨μ', m1, m2⟩ := ih (c - coO (aPr a) (whD (aS a) (aPr a) w (d + 1) c s)) (stO (aS a) s (whD (aS a) (aPr a) w (d + 1) c s)) l (k + 1) g (r ++ [(oI (whD (aS a) (aPr a) w (d + 1) c s)).toInt64]) _ μ2 rfl (by omega) (by omega) (by omega) hD (by rw [List.length_append, List.length_singleton]; omega) hlt hok hx hS2
    refine ⟨μ', ?_, ?_⟩
    · rw [f_m_plan_b71, i_rem100 (by omega) (by omega), if_neg (fun q => absurd ((i_leN (by omega) (by omega)).mp q) (by omega)), k1', bd2_s, a1, bd1_s]
      have hnx : ∀ s', s' < 2 ^ (aS a).1 → f_m_next (nI s') μ2 = some (nI (nxt (aS a) s'), μ2) := fun s' hs' => m_next hx.2.1.1 hs'
      cases e : whD (aS a) (aPr a) w (d + 1) c s with
      | none =>
        rw [e] at m1
        rw [if_pos (show oI none = -1 from rfl), bnd_s, hnx s hs, bd2_s, i_dec (by omega), Nat.add_sub_cancel, l_1, i_add]
        exact m1
      | some v =>
        rw [e] at m1
        obtain ⟨v1, v2⟩ := whD_lt e
        rw [if_neg (show ¬ oI (some v) = -1 from nI_ne_m1 (by omega)), show oI (some v) = nI v from rfl, i_one (by omega), i_or, bnd_s, hnx _ (or_lt hs (Nat.pow_lt_pow_right (by omega) v1)), bd2_s, i_dec (by omega), Nat.add_sub_cancel, l_1, i_add]
        exact m1
    · rw [plR]
      show MI N Q (aSetR a (r ++ ((oI (whD (aS a) (aPr a) w (d + 1) c s)).toInt64 :: rwO _))) μ0 μ'
      rw [show r ++ ((oI (whD (aS a) (aPr a) w (d + 1) c s)).toInt64 :: rwO (plR (aS a) (aPr a) w d (c - coO (aPr a) (whD (aS a) (aPr a) w (d + 1) c s)) (stO (aS a) s (whD (aS a) (aPr a) w (d + 1) c s)))) = (r ++ [(oI (whD (aS a) (aPr a) w (d + 1) c s)).toInt64]) ++ rwO (plR (aS a) (aPr a) w d (c - coO (aPr a) (whD (aS a) (aPr a) w (d + 1) c s)) (stO (aS a) s (whD (aS a) (aPr a) w (d + 1) c s))) by rw [List.append_assoc]; rfl]
      exact m2
theorem m_days6 {x : Int32} : f_m_isDays x 6 μ = some (nI (bN (decide (0 ≤ x ∧ x ≤ 6))), μ) := by
  unfold f_m_isDays
  rw [m_in, b_if, bd2_s, zb_b, chk_t]
theorem days6_n {x : Int32} (h : 0 ≤ x ∧ x ≤ 6) : ∃ n, n ≤ 6 ∧ x = nI n := by
  rcases i_cases x with q | ⟨n, hn, rfl⟩
  · have := h.1; rw [i_le] at this; rw [i_lt] at q; omega
  · exact ⟨n, (i_leN hn (by omega)).mp h.2, rfl⟩
/-- what daily and plan share: who is asked, and for how long -/
theorem op_dl {x y : Int32} {fx fm : Mem → Option (Int32 × Mem)} {gx gm : Int32 → Int32 → Mem → Option (Int32 × Mem)} (hfx : ∀ μ, fx μ = bd2 (f_x_isDaily x y μ) fun v3 μ1 => if v3 = 0 then some (-1, μ1) else bd2 (gx x y μ1) fun v7 μ5 => some (v7, μ5)) (hfm : ∀ μ, fm μ = bnd (setI μ v_m_thrown 0 (0 : Int32)) fun μ1 => bd2 (f_m_areSome x μ1) fun v5 μ3 => if v5 = 0 then some (-1, μ3) else bd2 (f_m_isDays y (6 : Int32) μ3) fun v9 μ7 => if v9 = 0 then some (-1, μ7) else gm x y μ7) (hW : WF a) (hN : N < 600) (h : ∀ w n, w < 2 ^ (aS a).1 → n ≤ 6 → ∃ ans a', (∀ μ, XR N a μ → ∃ μ', gx (nI w) (nI n) μ = some (ans, μ') ∧ XO N a' μ μ') ∧ ∀ ν Q ν1, Q ≤ 50000 * N → MI N Q a ν ν1 → ∃ ν', gm (nI w) (nI n) ν1 = some (ans, ν') ∧ MO N a' ν ν') : ∃ ans a', (∀ μ, XR N a μ → ∃ μ', fx μ = some (ans, μ') ∧ XO N a' μ μ') ∧ ∀ ν, MR N a ν → ∃ ν', fm ν = some (ans, ν') ∧ MO N a' ν ν' := by
  have h14 := p2_14 hW.1.1
  have h1p := Nat.one_le_two_pow (n := (aS a).1)
  by_cases c : (0 ≤ x ∧ x ≤ nI (2 ^ (aS a).1 - 1)) ∧ 0 ≤ y ∧ y ≤ 6
  · obtain ⟨⟨c1, c2⟩, c3⟩ := c
    obtain ⟨n, hn, rfl⟩ := days6_n c3
    obtain ⟨w, hw, rfl⟩ : ∃ w, w < 2 ^ (aS a).1 ∧ x = nI w := by
      rcases i_cases x with q | ⟨w, hw, rfl⟩
      · rw [i_le] at c1; rw [i_lt] at q; omega
      · exact ⟨w, by have := (i_leN hw (by omega)).mp c2; omega, rfl⟩
    obtain ⟨ans, a', h1, h2⟩ := h w n hw hn
    refine ⟨ans, a', fun μ hμ => ?_, fun ν hν => ?_⟩
    · obtain ⟨μ', k1, k2⟩ := h1 μ hμ
      refine ⟨μ', ?_, k2⟩
      rw [hfx, x_isDaily hμ, bd2_s, decide_eq_true ⟨⟨c1, c2⟩, c3⟩, if_neg (by decide), k1, bd2_s]
    · rw [hfm]
      refine m_start hν fun Q ν1 hQ hI _ => ?_
      rw [m_areSome hI.2.1.1 (by omega), bd2_s, decide_eq_true hw, if_neg (by decide), m_days6, bd2_s, decide_eq_true c3, if_neg (by decide)]
      exact h2 ν Q ν1 hQ hI
  · refine ⟨-1, a, fun μ hμ => x_same hμ hN ?_, fun ν hν => ?_⟩
    · rw [hfx, x_isDaily hμ, bd2_s, decide_eq_false c, if_pos (by decide)]
    · rw [hfm]
      refine m_start hν fun Q ν1 hQ hI _ => m_same hI hN ?_
      rcases i_casesQ x with hx | ⟨w, hw, rfl⟩
      · rw [m_areSomeG hI.2.1.1 hx, bd2_s, if_pos (by decide)]
      · rw [m_areSome hI.2.1.1 hw, bd2_s]
        by_cases d : w < 2 ^ (aS a).1
        · rw [decide_eq_true d, if_neg (by decide), m_days6, bd2_s, decide_eq_false (fun q => c ⟨⟨(i_leN (a := 0) (by omega) hw).mpr (by omega), (i_leN hw (by omega)).mpr (by omega)⟩, q⟩), if_pos (by decide)]
        · rw [decide_eq_false d, if_pos (by decide)]
theorem op_plan (x y : Int32) : OpI N a (f_x_plan x y) (f_m_plan x y) := by
  intro hW hN
  refine op_dl (gx := f_ta_wholePlan) (gm := fun x1 x2 μ7 => bnd (setI μ7 v_m_question 0 ((μ7.1 v_m_question 0) + (1 : Int32))) fun μ11 => bd2 (f_m_now μ11) fun v15 μ13 => bd2 (f_m_sumOf 8 x1 v15 x2 μ13) fun v18 μ16 => if v18 = (1000000 : Int32) then (some ((-2 : Int32), μ16)) else (bnd (setI μ16 v_m_rowMany 0 (0 : Int32)) fun μ20 => bd2 (f_m_now μ20) fun v24 μ22 => f_m_plan_b71 FU x1 v18 v24 x2 (0 : Int32) μ22)) (fun μ => rfl) (fun μ => rfl) hW hN (fun w n hw hn => ?_)
  have hnow := now_lt hW
  rcases rl (w := w) hW.2.2.1 n (aN a) hn hnow with h0 | ⟨c, d, h1⟩
  · refine ⟨-2, a, fun μ h => ?_, fun ν Q ν1 hQ hI => ?_⟩
    · obtain ⟨μ1, s1, s2, s3, s4⟩ := x_seek_0 (w := w) (n := n) h.XI (by show 4 * N + 1 ≤ _; omega)
      obtain ⟨μ2, t1, t2⟩ := x_seek0_lp hw hn h0 (n + 1) 0 FU μ1 (by omega) (by unfold FU; omega) s2 s3 s4
      refine ⟨μ2, ?_, t2.done hN⟩
      unfold f_ta_wholePlan
      rw [s1, t1, bd2_s, if_pos (show nI 0 = 0 from rfl)]
    · have hN6 := hI.2.2.2.1.1
      obtain ⟨hA, hS⟩ := hI.ask2 (by omega) (sqA a w)
      obtain ⟨μ2, t1, t2, t3⟩ := m_sq hw n 8 (by omega) hn (aN a) _ hnow hA hS
      refine ⟨μ2, ?_, t2.done hN⟩
      rw [hI.2.2.1.1, l_1, i_add, bnd_s, m_now hA.1 hA.2.1.2.1, bd2_s, t1, bd2_s, show sqA a w n (aN a) = 1000000 from h0.1, if_pos (show nI 1000000 = 1000000 from rfl)]
  · have hd : d ≤ 6 := by have := h1.1; omega
    have hc : c ≤ 54 := by have := h1.2.1; omega
    have hne : 100 * c + d ≠ 1000000 := by omega
    refine ⟨nI d, aSetR a ([] ++ rwO (plR (aS a) (aPr a) w d c (aN a))), fun μ h => ?_, fun ν Q ν1 hQ hI => ?_⟩
    · obtain ⟨μ1, s1, s2, s3, s4⟩ := x_seek_0 (w := w) (n := n) h.XI (by show 4 * N + 1 ≤ _; omega)
      obtain ⟨μ2, t1, t2, t3, t4, t5⟩ := x_seek1_lp hw hn h1 (n + 1) 0 FU μ1 (by omega) (by unfold FU; omega) s2 s3 (fun _ => ⟨1000, s4, by omega, by omega⟩) (fun q => absurd q (by omega))
      obtain ⟨μ3, a1, a2, a3⟩ := rw_clear μ2
      have hx := t2.row (r := []) (by simp) a2 a3
      have hT3 : TS a w μ3 := TS.fr t3 (fun v h1 h2 => a3.1 v (by show v ≠ 4; omega)) (a3.1 _ (by decide))
      obtain ⟨μ4, k1, k2⟩ := x_plan_lp (a := a) (w := w) hw (D := d) d c (aN a) FU [] _ μ3 rfl (by unfold FU; omega) (by omega) (by simp; omega) hnow (by omega) hx hT3 (by rw [a3.1 _ (by decide)]; exact t5)
      refine ⟨μ4, ?_, k2.done hN⟩
      unfold f_ta_wholePlan
      have hnw : f_st_now μ3 = some (nI (aN a), μ3) := st_now (a := aSetR a []) hx.1 hx.2.1
      rw [s1, t1, bd2_s, if_neg (show ¬ nI 1 = 0 by decide), a1, bd1_s, hnw, bd2_s, a3.1 _ (by decide), a3.1 _ (by decide), t4, t5]
      exact k1
    · have hN6 := hI.2.2.2.1.1
      obtain ⟨hA, hS⟩ := hI.ask2 (by omega) (sqA a w)
      obtain ⟨μ2, t1, t2, t3⟩ := m_sq hw n 8 (by omega) hn (aN a) _ hnow hA hS
      obtain ⟨c1, c2⟩ := m_clear μ2
      have hx := t2.row (r := []) (by simp) c1 c2
      obtain ⟨μ4, k1, k2⟩ := m_plan_lp (a := a) (w := w) hw (C := c) (D := d) (by omega) d c (aN a) n 0 FU [] _ _ rfl (by omega) (by unfold FU; omega) hn (by omega) (by simp; omega) hnow h1 hx (fun l' s' q1 q2 q3 q4 => by rw [sI_v _ _ _ (by decide)] at q4 ⊢; exact t3 l' s' q1 q2 q3 q4)
      refine ⟨μ4, ?_, k2.done hN⟩
      have hnw : f_m_now (setI μ2 v_m_rowMany 0 0) = some (nI (aN a), setI μ2 v_m_rowMany 0 0) := m_now (a := aSetR a []) hx.1 hx.2.1.2.1
      rw [hI.2.2.1.1, show (1 : Int32) = nI 1 from rfl, i_add, bnd_s, m_now hA.1 hA.2.1.2.1, bd2_s, t1, bd2_s, show sqA a w n (aN a) = 100 * c + d from h1.2.2.2.2.2, if_neg (show ¬ nI (100 * c + d) = 1000000 from fun q => hne (nI_inj (b := 1000000) (by omega) (by omega) q)), bnd_s, hnw, bd2_s]
      exact k1
theorem op_daily (x y : Int32) : OpI N a (f_x_daily x y) (f_m_daily x y) := by
  intro hW hN
  refine op_dl (gx := f_ta_dayByDay) (gm := fun x1 x2 μ7 => bnd (setI μ7 v_m_question 0 ((μ7.1 v_m_question 0) + (1 : Int32))) fun μ11 => bd2 (f_m_now μ11) fun v15 μ13 => bd2 (f_m_sumOf 8 x1 v15 x2 μ13) fun v18 μ16 => if v18 = (1000000 : Int32) then (some ((-2 : Int32), μ16)) else (bnd (setI μ16 v_m_rowMany 0 (0 : Int32)) fun μ20 => bd1 (f_m_tell ((v18 - v18 / (100 : Int32) * (100 : Int32)).toInt64) μ20) fun μ23 => if v18 = 0 then (f_m_daily_b90 v18 (-1 : Int64) μ23) else (bd2 (f_m_now μ23) fun v28 μ26 => bd2 (f_m_whoFirst x1 v28 x2 μ26) fun v31 μ29 => f_m_daily_b90 v18 v31.toInt64 μ29))) (fun μ => rfl) (fun μ => rfl) hW hN (fun w n hw hn => ?_)
  have hnow := now_lt hW
  rcases rl (w := w) hW.2.2.1 n (aN a) hn hnow with h0 | ⟨c, d, h1⟩
  · refine ⟨-2, a, fun μ h => ?_, fun ν Q ν1 hQ hI => ?_⟩
    · obtain ⟨μ1, s1, s2, s3, s4⟩ := x_seek_0 (w := w) (n := n) h.XI (by show 4 * N + 1 ≤ _; omega)
      obtain ⟨μ2, t1, t2⟩ := x_seek0_lp hw hn h0 (n + 1) 0 FU μ1 (by omega) (by unfold FU; omega) s2 s3 s4
      refine ⟨μ2, ?_, t2.done hN⟩
      unfold f_ta_dayByDay
      rw [s1, t1, bd2_s, if_pos (show nI 0 = 0 from rfl)]
    · have hN6 := hI.2.2.2.1.1
      obtain ⟨hA, hS⟩ := hI.ask2 (by omega) (sqA a w)
      obtain ⟨μ2, t1, t2, t3⟩ := m_sq hw n 8 (by omega) hn (aN a) _ hnow hA hS
      refine ⟨μ2, ?_, t2.done hN⟩
      rw [hI.2.2.1.1, l_1, i_add, bnd_s, m_now hA.1 hA.2.1.2.1, bd2_s, t1, bd2_s, show sqA a w n (aN a) = 1000000 from h0.1, if_pos (show nI 1000000 = 1000000 from rfl)]
  · have hd : d ≤ 6 := by have := h1.1; omega
    have hc : c ≤ 54 := by have := h1.2.1; omega
    have hne : 100 * c + d ≠ 1000000 := by omega
    have huns := rl_uns h1 hn
    have hc0 : d = 0 → c = 0 := fun q => by
      have e := h1.2.2.1
      rw [q, lsD, if_pos (huns.mpr q)] at e
      omega
    refine ⟨nI c, aSetR a [(nI d).toInt64, (oI (if d = 0 then none else whD (aS a) (aPr a) w d c (aN a))).toInt64], fun μ h => ?_, fun ν Q ν1 hQ hI => ?_⟩
    · obtain ⟨μ1, s1, s2, s3, s4⟩ := x_seek_0 (w := w) (n := n) h.XI (by show 4 * N + 1 ≤ _; omega)
      obtain ⟨μ2, t1, t2, t3, t4, t5⟩ := x_seek1_lp hw hn h1 (n + 1) 0 FU μ1 (by omega) (by unfold FU; omega) s2 s3 (fun _ => ⟨1000, s4, by omega, by omega⟩) (fun q => absurd q (by omega))
      obtain ⟨μ3, a1, a2, a3⟩ := rw_only (nI d).toInt64 μ2
      have hx := t2.row (r := [(nI d).toInt64]) (by simp) a2 a3
      have hT3 : TS a w μ3 := TS.fr t3 (fun v h1 h2 => a3.1 v (by show v ≠ 4; omega)) (a3.1 _ (by decide))
      have t4' : μ3.1 v_ta_sum 0 = nI c := by rw [a3.1 _ (by decide)]; exact t4
      have t5' : μ3.1 v_ta_soonest 0 = nI d := by rw [a3.1 _ (by decide)]; exact t5
      have hnw : f_st_now μ3 = some (nI (aN a), μ3) := st_now (a := aSetR a [(nI d).toInt64]) hx.1 hx.2.1
      unfold f_ta_dayByDay
      rw [s1, t1, bd2_s, if_neg (show ¬ nI 1 = 0 by decide), t5, a1, bd1_s, t5']
      by_cases q : d = 0
      · obtain ⟨μ4, b1, b2, b3⟩ := rw_add (oI none).toInt64 a2 (by simp)
        refine ⟨μ4, ?_, ?_⟩
        · unfold f_ta_dayByDay_b61
          rw [if_pos (by rw [q]; rfl), show f_rw_add (-1 : Int64) μ3 = some μ4 from b1, bd1_s, b3.1 _ (by decide), t4']
        · rw [if_pos q]
          exact t2.told hN (by simp) b2 (a3.tr b3)
      · obtain ⟨d', rfl⟩ : ∃ z, d = z + 1 := ⟨d - 1, by omega⟩
        obtain ⟨μ4, k1, k2, k3, k4⟩ := x_who (a := aSetR a [(nI (d' + 1)).toInt64]) (w := w) (d := d') (c := c) (s := aN a) hw hnow (by omega) (by omega) hx hT3
        have k1' : f_ta_whomFirst (nI (aN a)) (nI (d' + 1)) (nI c) μ3 = some (oI (whD (aS a) (aPr a) w (d' + 1) c (aN a)), μ4) := k1
        obtain ⟨μ5, b1, b2, b3⟩ := rw_add (oI (whD (aS a) (aPr a) w (d' + 1) c (aN a))).toInt64 k2.2.1.2.2.2.1 (by show 1 < 16; omega)
        refine ⟨μ5, ?_, ?_⟩
        · unfold f_ta_dayByDay_b61
          rw [if_neg (nI_nz (by omega) q), hnw, bd2_s, t5', t4', k1', bd2_s, b1, bd1_s, b3.1 _ (by decide), k4 _ (by decide) (by decide), t4']
        · rw [if_neg q]
          have := k2.told hN (by show 2 ≤ 16; omega) b2 b3
          exact this
    · have hN6 := hI.2.2.2.1.1
      obtain ⟨hA, hS⟩ := hI.ask2 (by omega) (sqA a w)
      obtain ⟨μ2, t1, t2, t3⟩ := m_sq hw n 8 (by omega) hn (aN a) _ hnow hA hS
      obtain ⟨c1, c2⟩ := m_clear μ2
      obtain ⟨μ3, a1, a2, a3⟩ := m_tell (nI d).toInt64 c1 (by simp)
      have hx := t2.row (r := [(nI d).toInt64]) (by simp) a2 (c2.tr a3)
      have hS3 : RS (Q + 1) (sqA a w) (aS a).1 μ3 := fun l' s' q1 q2 q3 q4 => by
        rw [(c2.tr a3).1 _ (by decide)] at q4 ⊢
        exact t3 l' s' q1 q2 q3 q4
      have hnw : f_m_now μ3 = some (nI (aN a), μ3) := m_now (a := aSetR a [(nI d).toInt64]) hx.1 hx.2.1.2.1
      rw [hI.2.2.1.1, show (1 : Int32) = nI 1 from rfl, i_add, bnd_s, m_now hA.1 hA.2.1.2.1, bd2_s, t1, bd2_s, show sqA a w n (aN a) = 100 * c + d from h1.2.2.2.2.2, if_neg (show ¬ nI (100 * c + d) = 1000000 from fun q => hne (nI_inj (b := 1000000) (by omega) (by omega) q)), bnd_s, i_rem100 (by omega) (by omega), a1, bd1_s]
      by_cases q : d = 0
      · obtain ⟨μ4, b1, b2, b3⟩ := m_tell (oI none).toInt64 a2 (by simp)
        refine ⟨μ4, ?_, ?_⟩
        · unfold f_m_daily_b90
          rw [if_pos (by rw [q, hc0 q]; rfl), show f_m_tell (-(1 : Int64)) μ3 = some μ4 from b1, bd1_s, i_div100 (by omega) (by omega)]
        · rw [if_pos q]
          exact t2.told hN (by simp) b2 ((c2.tr a3).tr b3)
      · obtain ⟨n', rfl⟩ : ∃ z, n = z + 1 := ⟨n - 1, by have := h1.1; omega⟩
        have hu : ¬ aN a &&& w = w := fun z => q (huns.mp z)
        obtain ⟨μ4, k1, k2, k3⟩ := m_who (a := aSetR a [(nI d).toInt64]) (w := w) hw hnow hn hu h1 hx hS3
        have k1' : f_m_whoFirst (nI w) (nI (aN a)) (nI (n' + 1)) μ3 = some (oI (whD (aS a) (aPr a) w d c (aN a)), μ4) := k1
        obtain ⟨μ5, b1, b2, b3⟩ := m_tell (oI (whD (aS a) (aPr a) w d c (aN a))).toInt64 k2.2.1.2.2.2.1 (by show 1 < 16; omega)
        refine ⟨μ5, ?_, ?_⟩
        · unfold f_m_daily_b90
          rw [if_neg (nI_nz (by omega) (by omega)), hnw, bd2_s, k1', bd2_s, b1, bd1_s, i_div100 (by omega) (by omega)]
        · rw [if_neg q]
          have := k2.told hN (by show 2 ≤ 16; omega) b2 b3
          exact this
end OPS
