/-! last. -/
theorem rho_fin {S : SP} {s t r : Nat} (h : Rho S s t r) : ∀ j, ∃ i, i < t + r ∧ itr S j s = itr S i s
  | 0 => ⟨0, by have := h.1; omega, rfl⟩
  | j + 1 => by
    obtain ⟨i, h1, h2⟩ := rho_fin h j
    have h3 : itr S (j + 1) s = itr S (i + 1) s := by rw [itr_s, itr_s, h2]
    by_cases e : i + 1 = t + r
    · have := h.1
      exact ⟨t, by omega, by rw [h3, e]; exact h.2.2.2⟩
    · exact ⟨i + 1, by omega, h3⟩
theorem itr_mul {S : SP} {e r : Nat} (h : itr S r e = e) : ∀ n, itr S (r * n) e = e
  | 0 => rfl
  | n + 1 => by rw [Nat.mul_succ, itr_add, itr_mul h n]; exact h
theorem itr_mod {S : SP} {e r : Nat} (h : itr S r e = e) (q : Nat) : itr S q e = itr S (q % r) e := by
  conv => lhs; rw [← Nat.div_add_mod q r, itr_add, itr_mul h]
/-- from any place of the walk, the round's first STATE comes again -/
theorem rho_back {S : SP} {s t r : Nat} (h : Rho S s t r) (i : Nat) : ∃ m, itr S m (itr S i s) = itr S t s := by
  obtain ⟨h1, _⟩ := rho_round h
  have hr := h.1
  have hle : i ≤ t + r * i := by
    have : 1 * i ≤ r * i := Nat.mul_le_mul_right _ hr
    omega
  refine ⟨t + r * i - i, ?_⟩
  rw [← itr_add, show i + (t + r * i - i) = t + r * i by omega, itr_add, itr_mul h1]
theorem rho_min {S : SP} {s t r : Nat} (h : Rho S s t r) {i k : Nat} (h1 : 1 ≤ k) (h2 : k < r) : itr S k (itr S i s) ≠ itr S i s := fun q => by
  obtain ⟨m, hm⟩ := rho_back h i
  obtain ⟨_, h3⟩ := rho_round h
  refine h3 k h1 h2 ?_
  rw [← hm, ← itr_add, Nat.add_comm, itr_add, q]
theorem rho_eq {S : SP} {s t r s' t' r' i j : Nat} (h : Rho S s t r) (h' : Rho S s' t' r') (e : itr S i s = itr S j s') : r = r' := by
  obtain ⟨m, hm⟩ := rho_back h i
  obtain ⟨h1, _⟩ := rho_round h
  obtain ⟨m', hm'⟩ := rho_back h' j
  obtain ⟨h1', _⟩ := rho_round h'
  have e2 : itr S t s = itr S (j + m) s' := by rw [← hm, e, ← itr_add]
  have e3 : itr S t' s' = itr S (i + m') s := by rw [← hm', ← e, ← itr_add]
  rcases Nat.lt_trichotomy r r' with q | q | q
  · refine absurd ?_ (rho_min h' (i := j + m) h.1 q)
    rw [← e2]; exact h1
  · exact q
  · refine absurd ?_ (rho_min h (i := i + m') h'.1 q)
    rw [← e3]; exact h1'
/-- met from an earlier STATE that is FIRM as now -/
def Vis (S : SP) (w k x : Nat) : Prop := ∃ s, s < k ∧ fAs S s w = true ∧ ∃ j, itr S j s = x
theorem Vis.nx {S : SP} {w k x : Nat} (h : Vis S w k x) (n : Nat) : Vis S w k (itr S n x) := by
  obtain ⟨s, h1, h2, j, h3⟩ := h
  exact ⟨s, h1, h2, j + n, by rw [itr_add, h3]⟩
theorem Vis.up {S : SP} {w k x : Nat} (h : Vis S w k x) : Vis S w (k + 1) x := by
  obtain ⟨s, h1, h2⟩ := h
  exact ⟨s, by omega, h2⟩
theorem Vis.cs {S : SP} {w k x : Nat} (h : Vis S w (k + 1) x) : Vis S w k x ∨ (fAs S k w = true ∧ ∃ j, itr S j k = x) := by
  obtain ⟨s, h1, h2, h3⟩ := h
  by_cases e : s = k
  · subst e; exact Or.inr ⟨h2, h3⟩
  · exact Or.inl ⟨s, by omega, h2, h3⟩
/-- a STATE whose round is a new one -/
noncomputable def nwc (S : SP) (w s : Nat) : Bool := @decide (¬ ∃ i, Vis S w s (itr S i s)) (Classical.propDecidable _)
theorem nwc_t {S : SP} {w s : Nat} : nwc S w s = true ↔ ¬ ∃ i, Vis S w s (itr S i s) := @decide_eq_true_iff _ (Classical.propDecidable _)
theorem nwc_f {S : SP} {w s : Nat} : nwc S w s = false ↔ ∃ i, Vis S w s (itr S i s) := by
  constructor
  · intro h
    refine Classical.byContradiction fun q => ?_
    rw [nwc_t.mpr q] at h
    exact absurd h (by decide)
  · intro h
    cases e : nwc S w s with
    | false => rfl
    | true => exact absurd h (nwc_t.mp e)
noncomputable def rR (S : SP) (s : Nat) : Nat := @dite Nat (∃ t r, Rho S s t r) (Classical.propDecidable _) (fun h => Classical.choose (Classical.choose_spec h)) (fun _ => 0)
theorem rR_eq {S : SP} {s t r : Nat} (h : Rho S s t r) : rR S s = r := by
  have hx : ∃ t r, Rho S s t r := ⟨t, r, h⟩
  have e : rR S s = Classical.choose (Classical.choose_spec hx) := @dif_pos (∃ t r, Rho S s t r) (Classical.propDecidable _) hx _ _ _
  rw [e]
  exact rho_eq (Classical.choose_spec (Classical.choose_spec hx)) h (i := 0) (j := 0) rfl
noncomputable def lastF (S : SP) (w : Nat) : Nat → Nat × Nat × Nat
  | 0 => (0, 0, 0)
  | k + 1 => if fAs S k w && nwc S w k then ((lastF S w k).1 + rR S k, (lastF S w k).2.1 + bN (decide (rR S k = 1)), max (lastF S w k).2.2 (rR S k)) else lastF S w k
theorem lastF_le {S : SP} {w : Nat} (hp : S.1 ≤ 14) : ∀ k, k ≤ 2 ^ S.1 → (lastF S w k).1 ≤ k * 16384 ∧ (lastF S w k).2.1 ≤ k ∧ (lastF S w k).2.2 ≤ 16384 ∧ ∀ s, s < k → fAs S s w = true → rR S s ≤ (lastF S w k).2.2
  | 0, _ => ⟨Nat.zero_le _, Nat.le_refl _, Nat.zero_le _, fun s h => absurd h (by omega)⟩
  | k + 1, hk => by
    obtain ⟨h1, h2, h3, h4⟩ := lastF_le (w := w) hp k (by omega)
    have h14 := p2_14 hp
    obtain ⟨t, r, hR⟩ := rho_ex (S := S) (s := k) (by omega)
    have e := rR_eq hR
    have hr := hR.2.1
    have hb := bN_lt (decide (rR S k = 1))
    rw [lastF]
    by_cases c : (fAs S k w && nwc S w k) = true
    · rw [if_pos c]
      refine ⟨?_, ?_, ?_, fun s hs hf => ?_⟩
      · show (lastF S w k).1 + rR S k ≤ _; omega
      · show (lastF S w k).2.1 + _ ≤ _; omega
      · show max _ _ ≤ _; omega
      · show rR S s ≤ max _ _
        by_cases q : s = k
        · subst q; omega
        · have := h4 s (by omega) hf; omega
    · rw [if_neg c]
      refine ⟨Nat.le_trans h1 (Nat.mul_le_mul_right _ (by omega)), Nat.le_succ_of_le h2, h3, fun s hs hf => ?_⟩
      by_cases q : s = k
      · subst q
        rw [hf, Bool.true_and] at c
        obtain ⟨i, s', g1, g2, j, g3⟩ := nwc_f.mp (by cases z : nwc S w s with
          | false => rfl
          | true => exact absurd z c)
        obtain ⟨t', r', hR'⟩ := rho_ex (S := S) (s := s') (by omega)
        have := h4 s' g1 g2
        rw [rR_eq hR'] at this
        rw [e, rho_eq hR hR' g3.symm]
        exact this
      · exact h4 s (by omega) hf
theorem imax_n {p q : Nat} (hp : p < 2 ^ 31) (hq : q < 2 ^ 31) : imax (nI p) (nI q) = nI (max p q) := by
  unfold imax
  by_cases c : p < q
  · rw [if_pos ((i_ltN hp hq).mpr c), Nat.max_eq_right (by omega)]
  · rw [if_neg (fun h => c ((i_ltN hp hq).mp h)), Nat.max_eq_left (by omega)]
theorem ME.lt {p : Nat} {f : Nat → Nat → Option Nat} {μ : Mem} (h : ME p f μ) {l s v : Nat} (hl : l < 7) (hs : s < 2 ^ p) (e : f l s = some v) : v < 32768 := by
  obtain ⟨h1, CL, ST, h2, h3, h3', h4, h5, h6⟩ := h
  obtain ⟨w, u, q1, q2, q3, q4⟩ := h6 l s hl hs
  rw [q4] at e
  by_cases c : w = ST
  · rw [if_pos c] at e
    have := Option.some.inj e
    omega
  · rw [if_neg c] at e
    exact absurd e (by simp)
theorem oI_inj {x y : Option Nat} (hx : ∀ v, x = some v → v < 2 ^ 31) (hy : ∀ v, y = some v → v < 2 ^ 31) (h : oI x = oI y) : x = y := by
  cases x with
  | none => cases y with
    | none => rfl
    | some v => exact absurd h.symm (nI_ne_m1 (hy v rfl))
  | some u => cases y with
    | none => exact absurd h (nI_ne_m1 (hx u rfl))
    | some v => rw [nI_inj (hx u rfl) (hy v rfl) h]
section OPS
variable {N : Nat} {a : Ab} {b : Nat × Nat} {μ0 μ : Mem} {Q : Nat} {S : SP}
/-- a walk that marks with u what is marked with ov -/
theorem x_walk_lp {s t r u : Nat} {ov : Option Nat} {f0 : Nat → Nat → Option Nat} (hs : s < 2 ^ (aS a).1) (hu : u < 32768) (hov : ∀ v, ov = some v → v < 32768) (hne : ov ≠ some u) (hR : Rho (aS a) s t r) : ∀ m d g f (μ : Mem), d + m = t + r → m < g → XI N b a μ0 μ → ME (aS a).1 f μ → (∀ x, x < 2 ^ (aS a).1 → f 0 x = if mkd (aS a) s d x = none then f0 0 x else some u) → (∀ j, j < d → f0 0 (itr (aS a) j s) = ov) →
    ∃ d' f' μ', f_ob_walkMarking_b6 g (nI u) (oI ov) (nI (itr (aS a) d s)) (nI d) μ = some (nI (itr (aS a) d' s), μ') ∧ XI N b a μ0 μ' ∧ ME (aS a).1 f' μ' ∧ (∀ x, x < 2 ^ (aS a).1 → f' 0 x = if mkd (aS a) s d' x = none then f0 0 x else some u) ∧ (∀ j, j < d' → f0 0 (itr (aS a) j s) = ov) ∧ d' ≤ t + r ∧ (d' = t + r ∨ f0 0 (itr (aS a) d' s) ≠ ov) := by
  have hR' := hR
  obtain ⟨r1, r2, r3, r4⟩ := hR'
  intro m
  induction m with
  | zero =>
    intro d g f μ hd hg h hM hf hj
    obtain ⟨g, rfl⟩ : ∃ z, g = z + 1 := ⟨g - 1, by omega⟩
    have h14 := p2_14 h.1.1.1
    obtain rfl : d = t + r := by omega
    refine ⟨t + r, f, μ, ?_, h, hM, hf, hj, Nat.le_refl _, Or.inl rfl⟩
    have hi := itr_lt (S := aS a) (t + r) hs
    have ht := itr_lt (S := aS a) t hs
    rw [f_ob_walkMarking_b6, st_everybody h.2.1.1, bd2_s]
    by_cases c : 2 ^ (aS a).1 - 1 < t + r
    · rw [if_pos ((i_ltN (by omega) (by omega)).mpr c)]
    · rw [if_neg (fun q => c ((i_ltN (by omega) (by omega)).mp q)), l_0, me_recall h.1.1.1 hM (by omega) hi, bd2_s, if_neg ?_]
      rw [r4, hf _ ht, mkd_some (t + r) r3 (by omega), if_neg (by simp)]
      intro q
      exact hne (oI_inj (fun v e => by have := Option.some.inj e; omega) (fun v e => by have := hov v e; omega) q).symm
  | succ m ih =>
    intro d g f μ hd hg h hM hf hj
    obtain ⟨g, rfl⟩ : ∃ z, g = z + 1 := ⟨g - 1, by omega⟩
    have h14 := p2_14 h.1.1.1
    have hi := itr_lt (S := aS a) d hs
    have e0 : f 0 (itr (aS a) d s) = f0 0 (itr (aS a) d s) := by rw [hf _ hi, mkd_none d (fun j hj => r3 j d hj (by omega)), if_pos rfl]
    by_cases c : f0 0 (itr (aS a) d s) = ov
    · obtain ⟨μ1, n1, n2, n3, n4⟩ := me_note (u := u) h hM (l := 0) (s := itr (aS a) d s) (by omega) hi hu
      obtain ⟨μ2, l1, l2, l3⟩ := n2.after hi
      obtain ⟨d', f', μ', k1, k2⟩ := ih (d + 1) g _ μ2 (by omega) (by omega) l2 (n3.fr (fun v h1 h2 => l3.1 v (by omega))) (fun x hx => by
        unfold fup
        rw [mkd]
        by_cases e : x = itr (aS a) d s
        · rw [if_pos ⟨rfl, e⟩, if_pos e, if_neg (by simp)]
        · rw [if_neg (fun q => e q.2), if_neg e, hf x hx]) (fun j hj' => by
        by_cases e : j = d
        · subst e; exact c
        · exact hj j (by omega))
      refine ⟨d', f', μ', ?_, k2⟩
      rw [f_ob_walkMarking_b6, st_everybody h.2.1.1, bd2_s, if_neg (fun q => absurd ((i_ltN (by omega) (by omega)).mp q) (by omega)), l_0, me_recall h.1.1.1 hM (by omega) hi, bd2_s, e0, c, if_pos rfl, n1, bd1_s, l1, bd2_s, l_1, i_add, ← itr_s]
      exact k1
    · refine ⟨d, f, μ, ?_, h, hM, hf, hj, by omega, Or.inr c⟩
      rw [f_ob_walkMarking_b6, st_everybody h.2.1.1, bd2_s, if_neg (fun q => absurd ((i_ltN (by omega) (by omega)).mp q) (by omega)), l_0, me_recall h.1.1.1 hM (by omega) hi, bd2_s, e0, if_neg ?_]
      intro q
      exact c (oI_inj (fun v e => by have := hM.lt (by omega) hi (e0.trans e); omega) (fun v e => by have := hov v e; omega) q)
theorem x_walk {s t r u : Nat} {ov : Option Nat} {f : Nat → Nat → Option Nat} (hs : s < 2 ^ (aS a).1) (hu : u < 32768) (hov : ∀ v, ov = some v → v < 32768) (hne : ov ≠ some u) (hR : Rho (aS a) s t r) (h : XI N b a μ0 μ) (hM : ME (aS a).1 f μ) :
    ∃ d f' μ', f_ob_walkMarking (nI s) (nI u) (oI ov) μ = some (nI (itr (aS a) d s), μ') ∧ XI N b a μ0 μ' ∧ ME (aS a).1 f' μ' ∧ (∀ x, x < 2 ^ (aS a).1 → f' 0 x = if mkd (aS a) s d x = none then f 0 x else some u) ∧ (∀ j, j < d → f 0 (itr (aS a) j s) = ov) ∧ d ≤ t + r ∧ (d = t + r ∨ f 0 (itr (aS a) d s) ≠ ov) :=
  x_walk_lp hs hu hov hne hR (t + r) 0 FU f μ (by omega) (by have h1 := hR.2.1; have h2 := p2_14 h.1.1.1; unfold FU; omega) h hM (fun x _ => by rw [mkd, if_pos rfl]) (fun j hj => absurd hj (by omega))
theorem x_roundOf_lp {e r : Nat} (he : e < 2 ^ (aS a).1) (h1 : itr (aS a) r e = e) (h2 : ∀ k, 1 ≤ k → k < r → itr (aS a) k e ≠ e) (hr : r ≤ 2 ^ (aS a).1) : ∀ m k g (μ : Mem), k + m = r → 1 ≤ k → m < g → XI N b a μ0 μ → ∃ μ', f_ob_roundOf_b11 g (nI e) (nI (itr (aS a) k e)) (nI k) μ = some (nI r, μ') ∧ XI N b a μ0 μ' ∧ ∀ v, (v < 93 ∨ 99 ≤ v) → μ'.1 v = μ.1 v := by
  intro m
  induction m with
  | zero =>
    intro k g μ hk hk1 hg h
    obtain ⟨g, rfl⟩ : ∃ z, g = z + 1 := ⟨g - 1, by omega⟩
    obtain rfl : k = r := by omega
    refine ⟨μ, ?_, h, fun _ _ => rfl⟩
    rw [f_ob_roundOf_b11, st_everybody h.2.1.1, bd2_s, h1]
    split
    · rfl
    · rw [if_pos rfl]
  | succ m ih =>
    intro k g μ hk hk1 hg h
    obtain ⟨g, rfl⟩ : ∃ z, g = z + 1 := ⟨g - 1, by omega⟩
    have h14 := p2_14 h.1.1.1
    have hi := itr_lt (S := aS a) k he
    obtain ⟨μ1, l1, l2, l3⟩ := h.after hi
    obtain ⟨μ', k1, k2, k3⟩ := ih (k + 1) g μ1 (by omega) (by omega) (by omega) l2
    refine ⟨μ', ?_, k2, fun v hv => by rw [k3 v hv, l3.1 v hv]⟩
    rw [f_ob_roundOf_b11, st_everybody h.2.1.1, bd2_s, if_neg (fun q => absurd ((i_ltN (by omega) (by omega)).mp q) (by omega)), if_neg (fun q => h2 k hk1 (by omega) (nI_inj (by omega) (by omega) q)), l1, bd2_s, l_1, i_add, ← itr_s]
    exact k1
theorem x_roundOf {e r : Nat} (he : e < 2 ^ (aS a).1) (h1 : itr (aS a) r e = e) (h2 : ∀ k, 1 ≤ k → k < r → itr (aS a) k e ≠ e) (hr1 : 1 ≤ r) (hr : r ≤ 2 ^ (aS a).1) (h : XI N b a μ0 μ) : ∃ μ', f_ob_roundOf (nI e) μ = some (nI r, μ') ∧ XI N b a μ0 μ' ∧ ∀ v, (v < 93 ∨ 99 ≤ v) → μ'.1 v = μ.1 v := by
  have h14 := p2_14 h.1.1.1
  obtain ⟨μ1, l1, l2, l3⟩ := h.after he
  obtain ⟨μ', k1, k2, k3⟩ := x_roundOf_lp he h1 h2 hr (r - 1) 1 FU μ1 (by omega) (by omega) (by unfold FU; omega) l2
  refine ⟨μ', ?_, k2, fun v hv => by rw [k3 v hv, l3.1 v hv]⟩
  unfold f_ob_roundOf
  rw [l1, bd2_s]
  exact k1
def MkOk (S : SP) (w k : Nat) (f : Nat → Nat → Option Nat) : Prop := ∀ x, x < 2 ^ S.1 → (∀ m, f 0 x = some m → m < k ∧ Vis S w k x) ∧ (Vis S w k x → f 0 x ≠ none)
theorem x_last_lp (hN : N < 600) : ∀ r k g f (μ : Mem), k + r = 2 ^ (aS a).1 → r < g → XI N b a μ0 μ → ME (aS a).1 f μ → MkOk (aS a) (aN a) k f → ∃ μ', f_ob_comeAgain_b32 g (nI (aN a)) (nI (lastF (aS a) (aN a) k).1) (nI (lastF (aS a) (aN a) k).2.1) (nI (lastF (aS a) (aN a) k).2.2) (nI k) μ = some (nI (lastF (aS a) (aN a) (2 ^ (aS a).1)).1, μ') ∧ XO N (aSetR a [(nI (lastF (aS a) (aN a) (2 ^ (aS a).1)).2.1).toInt64, (nI (lastF (aS a) (aN a) (2 ^ (aS a).1)).2.2).toInt64]) μ0 μ' := by
  intro r
  induction r with
  | zero =>
    intro k g f μ hk hg h hM hf
    obtain ⟨g, rfl⟩ : ∃ z, g = z + 1 := ⟨g - 1, by omega⟩
    have h14 := p2_14 h.1.1.1
    have h1p := Nat.one_le_two_pow (n := (aS a).1)
    obtain rfl : k = 2 ^ (aS a).1 := by omega
    obtain ⟨μ1, a1, a2, a3⟩ := rw_only (nI (lastF (aS a) (aN a) (2 ^ (aS a).1)).2.1).toInt64 μ
    obtain ⟨μ2, b1, b2, b3⟩ := rw_add (nI (lastF (aS a) (aN a) (2 ^ (aS a).1)).2.2).toInt64 a2 (by simp)
    refine ⟨μ2, ?_, h.told hN (by simp) b2 (a3.tr b3)⟩
    rw [f_ob_comeAgain_b32, st_everybody h.2.1.1, bd2_s, if_pos ((i_ltN (by omega) (by omega)).mpr (by omega)), a1, bd1_s, b1, bd1_s]
  | succ r ih =>
    intro k g f μ hk hg h hM hf
    obtain ⟨g, rfl⟩ : ∃ z, g = z + 1 := ⟨g - 1, by omega⟩
    have h14 := p2_14 h.1.1.1
    have hnow := now_lt h.1
    have hks : k < 2 ^ (aS a).1 := by omega
    obtain ⟨L1, L2, L3, L4⟩ := lastF_le (S := aS a) (w := aN a) h.1.1.1 k (by omega)
    rw [f_ob_comeAgain_b32, st_everybody h.2.1.1, bd2_s, if_neg (fun q => absurd ((i_ltN (by omega) (by omega)).mp q) (by omega)), ob_firmAs h.2.1.1 hks hnow, bd2_s]
    cases hfa : fAs (aS a) k (aN a) with
    | false =>
      rw [if_pos (show nI (bN false) = 0 by decide), l_1, i_add]
      have e : lastF (aS a) (aN a) (k + 1) = lastF (aS a) (aN a) k := by rw [lastF, hfa]; rfl
      rw [← e]
      refine ih (k + 1) g f μ (by omega) (by omega) h hM (fun x hx => ⟨fun m q => ?_, fun q => (hf x hx).2 ?_⟩)
      · have := (hf x hx).1 m q
        exact ⟨by omega, this.2.up⟩
      · rcases q.cs with q | q
        · exact q
        · rw [hfa] at q; exact absurd q.1 (by decide)
    | true =>
      rw [if_neg (show ¬ nI (bN true) = 0 by decide), l_0, me_recall h.1.1.1 hM (by omega) hks, bd2_s]
      by_cases hv : Vis (aS a) (aN a) k k
      · have e : lastF (aS a) (aN a) (k + 1) = lastF (aS a) (aN a) k := by
          rw [lastF, hfa, nwc_f.mpr ⟨0, hv⟩]; rfl
        have hne : ¬ oI (f 0 k) = -1 := fun q => (hf k hks).2 hv (oI_inj (fun v e => by have := hM.lt (by omega) hks e; omega) (fun v e => absurd e (by simp)) q)
        rw [if_neg hne, l_1, i_add, ← e]
        refine ih (k + 1) g f μ (by omega) (by omega) h hM (fun x hx => ⟨fun m q => ?_, fun q => (hf x hx).2 ?_⟩)
        · have := (hf x hx).1 m q
          exact ⟨by omega, this.2.up⟩
        · rcases q.cs with q | ⟨_, j, q⟩
          · exact q
          · rw [← q]; exact hv.nx j
      · have hfn : f 0 k = none := by
          cases e : f 0 k with
          | none => rfl
          | some m => exact absurd ((hf k hks).1 m e).2 hv
        obtain ⟨t, p, hR⟩ := rho_ex hks
        obtain ⟨d, f', μ1, k1, k2, k3, k4, k5, k6, k7⟩ := x_walk (u := k) (ov := none) hks (by omega) (fun v e => absurd e (by simp)) (by simp) hR h hM
        have hid := itr_lt (S := aS a) d hks
        have hcl : ∀ j, (∃ i, i < d ∧ itr (aS a) j k = itr (aS a) i k) ∨ Vis (aS a) (aN a) k (itr (aS a) j k) := fun j => by
          rcases k7 with e | e
          · obtain ⟨i, i1, i2⟩ := rho_fin hR j
            exact Or.inl ⟨i, by omega, i2⟩
          · rcases Nat.lt_or_ge j d with q | q
            · exact Or.inl ⟨j, q, rfl⟩
            · right
              cases e2 : f 0 (itr (aS a) d k) with
              | none => exact absurd e2 e
              | some m =>
                have := ((hf _ hid).1 m e2).2.nx (j - d)
                rw [← itr_add, show d + (j - d) = j by omega] at this
                exact this
        have hdist : ∀ x y, x < y → y < d → itr (aS a) x k ≠ itr (aS a) y k := fun x y q1 q2 => hR.2.2.1 x y q1 (by omega)
        have hMk : MkOk (aS a) (aN a) (k + 1) f' := fun x hx => by
          rw [k4 x hx]
          constructor
          · intro m q
            by_cases c : mkd (aS a) k d x = none
            · rw [if_pos c] at q
              have := (hf x hx).1 m q
              exact ⟨by omega, this.2.up⟩
            · rw [if_neg c] at q
              have := Option.some.inj q
              refine ⟨by omega, k, by omega, hfa, ?_⟩
              refine Classical.byContradiction fun z => c (mkd_none d (fun j _ q => z ⟨j, q⟩))
          · intro q
            by_cases c : mkd (aS a) k d x = none
            · rw [if_pos c]
              rcases q.cs with q | ⟨_, j, q⟩
              · exact (hf x hx).2 q
              · rcases hcl j with ⟨i, i1, i2⟩ | z
                · rw [← q, i2, mkd_some d hdist i1] at c
                  exact absurd c (by simp)
                · rw [q] at z
                  exact (hf x hx).2 z
            · rw [if_neg c]; simp
        rw [hfn, if_pos (show oI none = -1 from rfl), show (-1 : Int32) = oI none from rfl, k1, bd2_s, me_recall h.1.1.1 k3 (by omega) hid, bd2_s, k4 _ hid]
        by_cases c : d = t + p
        · have hp1 := hR.1
          have hp2 := hR.2.1
          have eo : itr (aS a) d k = itr (aS a) t k := by rw [c]; exact hR.2.2.2
          obtain ⟨q1, q2⟩ := rho_round hR
          have hnw : nwc (aS a) (aN a) k = true := nwc_t.mpr (by
            rintro ⟨i, hi⟩
            obtain ⟨i', i1, i2⟩ := rho_fin hR i
            rw [i2] at hi
            exact (hf _ (itr_lt _ hks)).2 hi (k5 i' (by omega)))
          have e : lastF (aS a) (aN a) (k + 1) = ((lastF (aS a) (aN a) k).1 + p, (lastF (aS a) (aN a) k).2.1 + bN (decide (p = 1)), max (lastF (aS a) (aN a) k).2.2 p) := by
            rw [lastF, hfa, hnw, rR_eq hR]; rfl
          obtain ⟨μ2, m1, m2, m3⟩ := x_roundOf (itr_lt t hks) q1 q2 hp1 (by omega) k2
          rw [eo, mkd_some d hdist (by omega), if_neg (show ¬ some t = none by simp), if_pos (show oI (some k) = nI k from rfl), m1, bd2_s]
          unfold f_ob_comeAgain_b104
          have e2 : (if nI p = (1 : Int32) then (1 : Int32) else 0) = nI (bN (decide (p = 1))) := by
            rw [b_if]
            have : decide (nI p = (1 : Int32)) = decide (p = 1) := decide_eq_decide.mpr (i_eqN (b := 1) (by omega) (by omega))
            rw [this]
          rw [e2, bnd_s, i_add, i_add, imax_n (by omega) (by omega), l_1, i_add]
          have := ih (k + 1) g f' μ2 (by omega) (by omega) m2 (k3.fr (fun v h1 h2 => m3 v (by omega))) hMk
          rw [e] at this
          exact this
        · have hnd : f 0 (itr (aS a) d k) ≠ none := k7.resolve_left c
          have hmk : mkd (aS a) k d (itr (aS a) d k) = none := mkd_none d (fun j hj => hR.2.2.1 j d hj (by omega))
          rw [hmk, if_pos rfl]
          cases e2 : f 0 (itr (aS a) d k) with
          | none => exact absurd e2 hnd
          | some m =>
            obtain ⟨u1, u2⟩ := (hf _ hid).1 m e2
            have e : lastF (aS a) (aN a) (k + 1) = lastF (aS a) (aN a) k := by
              rw [lastF, hfa, nwc_f.mpr ⟨d, u2⟩]; rfl
            rw [if_neg (show ¬ oI (some m) = nI k from fun q => by have := nI_inj (by omega) (by omega) q; omega)]
            unfold f_ob_comeAgain_b104
            rw [if_neg (show ¬ (nI 0 : Int32) = 1 by decide), bnd_s, l_0, i_add, i_add, Nat.add_zero, Nat.add_zero, imax_n (by omega) (by omega), Nat.max_eq_left (Nat.zero_le _), l_1, i_add, ← e]
            exact ih (k + 1) g f' μ1 (by omega) (by omega) k2 k3 hMk
end OPS
