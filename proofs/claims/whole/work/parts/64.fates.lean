/-! fates. -/
noncomputable def rch (S : SP) (g s : Nat) : Bool := @decide (∃ j, itr S j s = g) (Classical.propDecidable _)
theorem rch_t {S : SP} {g s : Nat} : rch S g s = true ↔ ∃ j, itr S j s = g := @decide_eq_true_iff _ (Classical.propDecidable _)
theorem rch_f {S : SP} {g s : Nat} (h : ∀ j, itr S j s ≠ g) : rch S g s = false := by
  cases e : rch S g s with
  | false => rfl
  | true => obtain ⟨j, hj⟩ := rch_t.mp e; exact absurd hj (h j)
noncomputable def cnF (S : SP) (w : Nat) (P : Nat → Bool) : Nat → Nat
  | 0 => 0
  | k + 1 => cnF S w P k + bN (fAs S k w && P k)
theorem cnF_le (S : SP) (w : Nat) (P : Nat → Bool) : ∀ k, cnF S w P k ≤ k
  | 0 => Nat.le_refl _
  | k + 1 => by have := cnF_le S w P k; have := bN_lt (fAs S k w && P k); rw [cnF]; omega
theorem mkd_ex {S : SP} {s d x : Nat} (h : mkd S s d x ≠ none) : ∃ j, j < d ∧ itr S j s = x := Classical.byContradiction fun q => h (mkd_none d (fun j hj e => q ⟨j, hj, e⟩))
section OPS
variable {N : Nat} {a : Ab} {b : Nat × Nat} {μ0 μ : Mem} {Q : Nat} {S : SP}
def GOk (S : SP) (g : Nat) (f : Nat → Nat → Option Nat) : Prop := f 0 g = some 1 ∧ ∀ x, x < 2 ^ S.1 → f 0 x = none ∨ f 0 x = some (if rch S g x then 1 else 2)
theorem b12 (b : Bool) : (if b then 1 else 2 : Nat) < 32768 ∧ (if b then 1 else 2 : Nat) ≠ 3 := by cases b <;> decide
theorem x_lead_step {s g : Nat} {f : Nat → Nat → Option Nat} (hs : s < 2 ^ (aS a).1) (hg : g < 2 ^ (aS a).1) (h : XI N b a μ0 μ) (hM : ME (aS a).1 f μ) (hG : GOk (aS a) g f) :
    ∃ d μ1 μ2 o f2, f_ob_walkMarking (nI s) (nI 3) (oI none) μ = some (nI d, μ1) ∧ d < 2 ^ (aS a).1 ∧ f_me_recall (nI 0) (nI d) μ1 = some (oI o, μ1) ∧ (o = some 1 ↔ rch (aS a) g s = true) ∧ (∀ v, o = some v → v < 32768) ∧ (∃ e, f_ob_walkMarking (nI s) (nI (if rch (aS a) g s then 1 else 2)) (oI (some 3)) μ1 = some (nI e, μ2)) ∧ f_me_recall (nI 0) (nI s) μ2 = some (nI (if rch (aS a) g s then 1 else 2), μ2) ∧ XI N b a μ0 μ2 ∧ ME (aS a).1 f2 μ2 ∧ GOk (aS a) g f2 := by
  obtain ⟨t, r, hR⟩ := rho_ex hs
  have hr1 := hR.1
  have hr2 := hR.2.1
  have h14 := p2_14 h.1.1.1
  have hn3 : ∀ x, x < 2 ^ (aS a).1 → f 0 x ≠ some 3 := fun x hx q => by
    rcases hG.2 x hx with e | e
    · rw [e] at q; exact absurd q (by simp)
    · rw [e] at q; exact (b12 _).2 (Option.some.inj q)
  obtain ⟨d, f1, μ1, k1, k2, k3, k4, k5, k6, k7⟩ := x_walk (u := 3) (ov := none) hs (by omega) (fun v e => absurd e (by simp)) (by simp) hR h hM
  have hid := itr_lt (S := aS a) d hs
  have hdist : ∀ x y, x < y → y < d → itr (aS a) x s ≠ itr (aS a) y s := fun x y q1 q2 => hR.2.2.1 x y q1 (by omega)
  have hng : ∀ j, j < d → itr (aS a) j s ≠ g := fun j hj q => by
    have := k5 j hj
    rw [q, hG.1] at this
    exact absurd this (by simp)
  have hnd : d < t + r → mkd (aS a) s d (itr (aS a) d s) = none := fun q => mkd_none d (fun j hj => hR.2.2.1 j d hj q)
  have hA : f1 0 (itr (aS a) d s) = some 1 ↔ rch (aS a) g s = true := by
    rw [k4 _ hid]
    rcases Nat.lt_or_ge d (t + r) with q | q
    · rw [hnd q, if_pos rfl]
      have hne := k7.resolve_left (by omega)
      rcases hG.2 _ hid with e | e
      · exact absurd e hne
      · rw [e]
        have hrr : rch (aS a) g (itr (aS a) d s) = rch (aS a) g s := by
          rw [Bool.eq_iff_iff, rch_t, rch_t]
          constructor
          · rintro ⟨j, hj⟩; exact ⟨d + j, by rw [itr_add]; exact hj⟩
          · rintro ⟨j, hj⟩
            refine ⟨j - d, ?_⟩
            rcases Nat.lt_or_ge j d with z | z
            · exact absurd hj (hng j z)
            · rw [← itr_add, show d + (j - d) = j by omega]; exact hj
        rw [hrr]
        cases rch (aS a) g s <;> simp
    · have hd : d = t + r := by omega
      have eo : itr (aS a) d s = itr (aS a) t s := by rw [hd]; exact hR.2.2.2
      rw [eo, mkd_some d hdist (by omega), if_neg (by simp), rch_f (fun j q => by
        obtain ⟨i, i1, i2⟩ := rho_fin hR j
        exact hng i (by omega) (i2 ▸ q))]
      simp
  have hf1 : ∀ x, x < 2 ^ (aS a).1 → (f1 0 x = some 3 ↔ mkd (aS a) s d x ≠ none) := fun x hx => by
    rw [k4 x hx]
    by_cases c : mkd (aS a) s d x = none
    · rw [if_pos c]
      exact ⟨fun q => absurd q (hn3 x hx), fun q => absurd c q⟩
    · rw [if_neg c]; exact ⟨fun _ => c, fun _ => rfl⟩
  obtain ⟨d2, f2, μ2, l1, l2, l3, l4, l5, l6, l7⟩ := x_walk (u := if rch (aS a) g s then 1 else 2) (ov := some 3) hs (b12 _).1 (fun v e => by have := Option.some.inj e; omega) (fun q => (b12 _).2 (Option.some.inj q).symm) hR k2 k3
  obtain rfl : d2 = d := by
    rcases Nat.lt_trichotomy d2 d with q | q | q
    · exact absurd ((hf1 _ (itr_lt d2 hs)).mpr (by rw [mkd_some d hdist q]; simp)) (l7.resolve_left (by omega))
    · exact q
    · exact absurd (hnd (by omega)) ((hf1 _ hid).mp (l5 d q))
  have hf2 : ∀ x, x < 2 ^ (aS a).1 → f2 0 x = if mkd (aS a) s d2 x = none then f 0 x else some (if rch (aS a) g s then 1 else 2) := fun x hx => by
    rw [l4 x hx]
    by_cases c : mkd (aS a) s d2 x = none
    · rw [if_pos c, if_pos c, k4 x hx, if_pos c]
    · rw [if_neg c, if_neg c]
  have hre : ∀ j, j < d2 → rch (aS a) g (itr (aS a) j s) = rch (aS a) g s := fun j hj => by
    rw [Bool.eq_iff_iff, rch_t, rch_t]
    constructor
    · rintro ⟨i, hi⟩; exact ⟨j + i, by rw [itr_add]; exact hi⟩
    · rintro ⟨i, hi⟩
      refine ⟨i - j, ?_⟩
      rcases Nat.lt_or_ge i j with z | z
      · exact absurd hi (hng i (by omega))
      · rw [← itr_add, show j + (i - j) = i by omega]; exact hi
  refine ⟨itr (aS a) d2 s, μ1, μ2, f1 0 (itr (aS a) d2 s), f2, k1, hid, me_recall h.1.1.1 k3 (by omega) hid, hA, fun v e => k3.lt (by omega) hid e, ⟨_, l1⟩, ?_, l2, l3, ?_, fun x hx => ?_⟩
  · rw [me_recall h.1.1.1 l3 (by omega) hs, hf2 s hs]
    by_cases c : mkd (aS a) s d2 s = none
    · rw [if_pos c]
      have hd0 : d2 = 0 := by
        rcases Nat.eq_zero_or_pos d2 with z | z
        · exact z
        · have := mkd_some (S := aS a) (s := s) (j := 0) d2 hdist z
          rw [show itr (aS a) 0 s = s from rfl, c] at this
          exact absurd this (by simp)
      have hne := k7.resolve_left (by omega)
      rw [hd0] at hne
      rcases hG.2 s hs with e | e
      · exact absurd e hne
      · rw [e]; rfl
    · rw [if_neg c]; rfl
  · rw [hf2 g hg]
    by_cases c : mkd (aS a) s d2 g = none
    · rw [if_pos c]; exact hG.1
    · obtain ⟨j, j1, j2⟩ := mkd_ex c
      exact absurd j2 (hng j j1)
  · rw [hf2 x hx]
    by_cases c : mkd (aS a) s d2 x = none
    · rw [if_pos c]; exact hG.2 x hx
    · obtain ⟨j, j1, j2⟩ := mkd_ex c
      rw [if_neg c, ← j2, hre j j1]
      exact Or.inr rfl
theorem x_lead_lp {g : Nat} (hg : g < 2 ^ (aS a).1) : ∀ r k n f (μ : Mem), k + r = 2 ^ (aS a).1 → r < n → XI N b a μ0 μ → ME (aS a).1 f μ → GOk (aS a) g f → ∃ μ', f_ob_leadTo_b37 n (nI (aN a)) (nI (cnF (aS a) (aN a) (rch (aS a) g) k)) (nI k) μ = some (nI (cnF (aS a) (aN a) (rch (aS a) g) (2 ^ (aS a).1)), μ') ∧ XI N b a μ0 μ' := by
  intro r
  induction r with
  | zero =>
    intro k n f μ hk hn h hM hG
    obtain ⟨n, rfl⟩ : ∃ z, n = z + 1 := ⟨n - 1, by omega⟩
    have h14 := p2_14 h.1.1.1
    have h1p := Nat.one_le_two_pow (n := (aS a).1)
    obtain rfl : k = 2 ^ (aS a).1 := by omega
    refine ⟨μ, ?_, h⟩
    rw [f_ob_leadTo_b37, st_everybody h.2.1.1, bd2_s, if_pos ((i_ltN (by omega) (by omega)).mpr (by omega))]
  | succ r ih =>
    intro k n f μ hk hn h hM hG
    obtain ⟨n, rfl⟩ : ∃ z, n = z + 1 := ⟨n - 1, by omega⟩
    have h14 := p2_14 h.1.1.1
    have hnow := now_lt h.1
    have hks : k < 2 ^ (aS a).1 := by omega
    rw [f_ob_leadTo_b37, st_everybody h.2.1.1, bd2_s, if_neg (fun q => absurd ((i_ltN (by omega) (by omega)).mp q) (by omega)), ob_firmAs h.2.1.1 hks hnow, bd2_s]
    cases hfa : fAs (aS a) k (aN a) with
    | false =>
      rw [if_pos (show nI (bN false) = 0 by decide), l_1, i_add]
      have e : cnF (aS a) (aN a) (rch (aS a) g) (k + 1) = cnF (aS a) (aN a) (rch (aS a) g) k := by rw [cnF, hfa]; rfl
      rw [← e]
      exact ih (k + 1) n f μ (by omega) (by omega) h hM hG
    | true =>
      obtain ⟨d, μ1, μ2, o, f2, k1, k2, k3, k4, k5, ⟨e, k6⟩, k7, k8, k9, k10⟩ := x_lead_step hks hg h hM hG
      have e : cnF (aS a) (aN a) (rch (aS a) g) (k + 1) = cnF (aS a) (aN a) (rch (aS a) g) k + bN (rch (aS a) g k) := by rw [cnF, hfa]; rfl
      have e1 : (if oI o = (1 : Int32) then (1 : Int32) else 2) = nI (if rch (aS a) g k then 1 else 2) := by
        cases c : rch (aS a) g k with
        | true => rw [k4.mpr c, if_pos (show oI (some 1) = 1 from rfl)]; rfl
        | false =>
          rw [if_neg ?_]
          · rfl
          · intro q
            have := oI_inj (y := some 1) (fun v e => by have := k5 v e; omega) (fun v e => by have := Option.some.inj e; omega) q
            rw [k4.mp this] at c
            exact absurd c (by decide)
      have e2 : (if nI (if rch (aS a) g k then 1 else 2) = (1 : Int32) then (1 : Int32) else 0) = nI (bN (rch (aS a) g k)) := by
        cases rch (aS a) g k <;> decide
      have := ih (k + 1) n f2 μ2 (by omega) (by omega) k8 k9 k10
      rw [e] at this
      rw [if_neg (show ¬ nI (bN true) = 0 by decide), show (-1 : Int32) = oI none from rfl, l_3, k1, bd2_s, l_0, k3, bd2_s, e1, bnd_s, show nI 3 = oI (some 3) from rfl, k6, bd2_s, k7, bd2_s]
      rw [show (nI 0 : Int32) = 0 from rfl, e2, bnd_s, i_add, l_1, i_add]
      exact this
theorem x_lead {g : Nat} (hg : g < 2 ^ (aS a).1) (h : XI N b a μ0 μ) (hb : b.1 + 1 ≤ 4 * N + 4) : ∃ μ', f_ob_leadTo (nI g) μ = some (nI (cnF (aS a) (aN a) (rch (aS a) g) (2 ^ (aS a).1)), μ') ∧ XI N (b.1 + 1, b.2) a μ0 μ' := by
  have h14 := p2_14 h.1.1.1
  obtain ⟨μ1, b1, b2, b3, _⟩ := me_begin h hb
  obtain ⟨μ2, n1, n2, n3, _⟩ := me_note (u := 1) b2 b3 (l := 0) (s := g) (by omega) hg (by omega)
  obtain ⟨μ', k1, k2⟩ := x_lead_lp hg (2 ^ (aS a).1) 0 FU _ μ2 (by omega) (by unfold FU; omega) n2 n3 ⟨by unfold fup; rw [if_pos ⟨rfl, rfl⟩], fun x hx => by
    unfold fup
    by_cases c : x = g
    · rw [if_pos ⟨rfl, c⟩, c, show rch (aS a) g g = true from rch_t.mpr ⟨0, rfl⟩]; exact Or.inr rfl
    · rw [if_neg (fun q => c q.2)]; exact Or.inl rfl⟩
  refine ⟨μ', ?_, k2⟩
  unfold f_ob_leadTo
  rw [st_now h.1 h.2.1, bd2_s, h.2.1.1.1, b1, bd1_s, l_0, l_1, n1, bd1_s]
  exact k1
/-! the reference -/
def exK (S : SP) (g s : Nat) : Nat → Bool
  | 0 => false
  | k + 1 => exK S g s k || decide (itr S k s = g)
theorem exK_t {S : SP} {g s : Nat} : ∀ k, exK S g s k = true ↔ ∃ j, j < k ∧ itr S j s = g
  | 0 => by simp [exK]
  | k + 1 => by
    rw [exK, Bool.or_eq_true, decide_eq_true_iff, exK_t k]
    constructor
    · rintro (⟨j, h1, h2⟩ | h)
      · exact ⟨j, by omega, h2⟩
      · exact ⟨k, by omega, h⟩
    · rintro ⟨j, h1, h2⟩
      by_cases e : j = k
      · subst e; exact Or.inr h2
      · exact Or.inl ⟨j, by omega, h2⟩
theorem exK_rch {S : SP} {g s t r : Nat} (h : Rho S s t r) : exK S g s (t + r) = rch S g s := by
  rw [Bool.eq_iff_iff, exK_t, rch_t]
  constructor
  · rintro ⟨j, _, h2⟩; exact ⟨j, h2⟩
  · rintro ⟨j, hj⟩
    obtain ⟨i, i1, i2⟩ := rho_fin h j
    exact ⟨i, i1, i2 ▸ hj⟩
theorem fl_or (A : Bool) {x g : Nat} (hx : x < 2 ^ 31) (hg : g < 2 ^ 31) : (if nI (bN A) = 0 then (if nI x = nI g then (1 : Int32) else 0) else 1) = nI (bN (A || decide (x = g))) := by
  cases A with
  | true => rw [if_neg (by decide)]; rfl
  | false =>
    rw [if_pos (by decide), b_if]
    have : decide (nI x = nI g) = decide (x = g) := decide_eq_decide.mpr (i_eqN hx hg)
    rw [this]; rfl
theorem m_fates_in (h : MB S μ) (k11 : Int32 → Int32 → Int32 → Mem → Option (Int32 × Mem)) (x1 x2 x3 : Int32) {s t r : Nat} (hs : s < 2 ^ S.1) (hR : Rho S s t r) (p1 : μ.1 v_m_restIn 0 = nI t) (p2 : μ.1 v_m_restRound 0 = nI r) : ∀ m k g, k + m = t + r → m < g → f_m_fates_b51 k11 g x1 x2 x3 (nI (bN (exK S (2 ^ S.1 - 1) s k))) (nI (bN (exK S 0 s k))) (nI (itr S k s)) (nI k) μ = k11 (x1 + nI (bN (rch S (2 ^ S.1 - 1) s))) (x2 + nI (bN (rch S 0 s))) (x3 + 1) μ := by
  have h14 := p2_14 h.2.2.2.2.1
  have hr2 := hR.2.1
  have bb : ∀ A : Bool, (if nI (bN A) = 0 then (0 : Int32) else 1) = nI (bN A) := fun A => by cases A <;> decide
  intro m
  induction m with
  | zero =>
    intro k g hk hg
    obtain ⟨g, rfl⟩ : ∃ z, g = z + 1 := ⟨g - 1, by omega⟩
    obtain rfl : k = t + r := by omega
    rw [f_m_fates_b51, p1, p2, i_add, if_pos ((i_leN (by omega) (by omega)).mpr (Nat.le_refl _)), bb, bnd_s, bb, bnd_s, exK_rch hR, exK_rch hR]
  | succ m ih =>
    intro k g hk hg
    obtain ⟨g, rfl⟩ : ∃ z, g = z + 1 := ⟨g - 1, by omega⟩
    have hi := itr_lt (S := S) k hs
    have e0 := fl_or (exK S 0 s k) (x := itr S k s) (g := 0) (by omega) (by omega)
    rw [show (nI 0 : Int32) = 0 from rfl] at e0
    have e1 := fl_or (exK S (2 ^ S.1 - 1) s k) (x := itr S k s) (g := 2 ^ S.1 - 1) (by omega) (by omega)
    have := ih (k + 1) g (by omega) (by omega)
    rw [exK, exK, itr_s] at this
    rw [f_m_fates_b51, p1, p2, i_add, if_neg (fun q => absurd ((i_leN (by omega) (by omega)).mp q) (by omega))]
    cases c : exK S (2 ^ S.1 - 1) s k with
    | false =>
      rw [c] at e1 this
      rw [if_pos (by decide)] at e1
      rw [if_pos (show nI (bN false) = 0 by decide), m_everybody h, bd2_s, e1, bnd_s, e0, bnd_s, m_next h hi, bd2_s, l_1, i_add]
      exact this
    | true =>
      rw [c] at this
      rw [if_neg (show ¬ nI (bN true) = 0 by decide)]
      unfold f_m_fates_b79 f_m_fates_b84
      rw [e0, bnd_s, m_next h hi, bd2_s, show (1 : Int32) = nI (bN true) from rfl]
      rw [show (nI k + nI (bN true)) = nI (k + 1) from i_add k 1]
      rw [Bool.true_or] at this
      exact this
theorem m_fates_lp (hN : N < 600) : ∀ r k g Q (μ : Mem), k + r = 2 ^ (aS a).1 → r < g → Q + r ≤ 50000 * N + 50000 → MI N Q a μ0 μ → ∃ μ', f_m_fates_b11 g (nI (cnF (aS a) (aN a) (rch (aS a) (2 ^ (aS a).1 - 1)) k)) (nI (cnF (aS a) (aN a) (rch (aS a) 0) k)) (nI k) μ = some (nI (cnF (aS a) (aN a) (rch (aS a) (2 ^ (aS a).1 - 1)) (2 ^ (aS a).1)), μ') ∧ MO N (aSetR a [(nI (cnF (aS a) (aN a) (rch (aS a) 0) (2 ^ (aS a).1))).toInt64]) μ0 μ' := by
  intro r
  induction r with
  | zero =>
    intro k g Q μ hk hg hQ h
    obtain ⟨g, rfl⟩ : ∃ z, g = z + 1 := ⟨g - 1, by omega⟩
    have h14 := p2_14 h.1.1.1
    have h1p := Nat.one_le_two_pow (n := (aS a).1)
    obtain rfl : k = 2 ^ (aS a).1 := by omega
    obtain ⟨c1, c2⟩ := m_clear μ
    obtain ⟨μ1, a1, a2, a3⟩ := m_tell (nI (cnF (aS a) (aN a) (rch (aS a) 0) (2 ^ (aS a).1))).toInt64 c1 (by simp)
    refine ⟨μ1, ?_, h.told hN (by simp) a2 (c2.tr a3)⟩
    rw [f_m_fates_b11, m_everybody h.2.1.1, bd2_s, if_pos ((i_ltN (by omega) (by omega)).mpr (by omega)), bnd_s, a1, bd1_s]
  | succ r ih =>
    intro k g Q μ hk hg hQ h
    obtain ⟨g, rfl⟩ : ∃ z, g = z + 1 := ⟨g - 1, by omega⟩
    have h14 := p2_14 h.1.1.1
    have hnow := now_lt h.1
    have hks : k < 2 ^ (aS a).1 := by omega
    rw [f_m_fates_b11, m_everybody h.2.1.1, bd2_s, if_neg (fun q => absurd ((i_ltN (by omega) (by omega)).mp q) (by omega)), m_now h.1 h.2.1.2.1, bd2_s, m_firmAs h.2.1.1 hks hnow, bd2_s]
    cases hfa : fAs (aS a) k (aN a) with
    | false =>
      have e : ∀ P, cnF (aS a) (aN a) P (k + 1) = cnF (aS a) (aN a) P k := fun P => by rw [cnF, hfa]; rfl
      rw [if_pos (show nI (bN false) = 0 by decide), l_1, i_add, ← e, ← e (rch (aS a) 0)]
      exact ih (k + 1) g Q μ (by omega) (by omega) (by omega) h
    | true =>
      have e : ∀ P, cnF (aS a) (aN a) P (k + 1) = cnF (aS a) (aN a) P k + bN (P k) := fun P => by rw [cnF, hfa]; rfl
      obtain ⟨t, p, hR⟩ := rho_ex hks
      obtain ⟨μ1, k1, k2, ⟨k3, k4, k5⟩, k6⟩ := m_find hks hR h (by omega)
      have hin := m_fates_in k2.2.1.1 (f_m_fates_b11 g) (nI (cnF (aS a) (aN a) (rch (aS a) (2 ^ (aS a).1 - 1)) k)) (nI (cnF (aS a) (aN a) (rch (aS a) 0) k)) (nI k) hks hR k3 k4 (t + p) 0 FU (by omega) (by have := hR.2.1; unfold FU; omega)
      have := ih (k + 1) g (Q + 1) μ1 (by omega) (by omega) (by omega) k2
      rw [e, e] at this
      rw [if_neg (show ¬ nI (bN true) = 0 by decide), k1, bd1_s]
      have hin' : f_m_fates_b51 (f_m_fates_b11 g) FU (nI (cnF (aS a) (aN a) (rch (aS a) (2 ^ (aS a).1 - 1)) k)) (nI (cnF (aS a) (aN a) (rch (aS a) 0) k)) (nI k) 0 0 (nI k) 0 μ1 = _ := hin
      rw [hin', i_add, i_add, l_1, i_add]
      exact this
theorem op_fates : OpI N a f_x_fates f_m_fates := by
  intro hW hN
  have h14 := p2_14 hW.1.1
  have h1p := Nat.one_le_two_pow (n := (aS a).1)
  refine ⟨nI (cnF (aS a) (aN a) (rch (aS a) (2 ^ (aS a).1 - 1)) (2 ^ (aS a).1)), aSetR a [(nI (cnF (aS a) (aN a) (rch (aS a) 0) (2 ^ (aS a).1))).toInt64], fun μ h => ?_, fun ν h => m_start h fun Q ν1 hQ hI _ => ?_⟩
  · obtain ⟨μ1, k1, k2⟩ := x_lead (g := 2 ^ (aS a).1 - 1) (ev_lt _) h.XI (by show 4 * N + 1 ≤ _; omega)
    obtain ⟨μ2, l1, l2⟩ := x_lead (g := 0) (Nat.two_pow_pos _) k2 (by show 4 * N + 1 + 1 ≤ _; omega)
    obtain ⟨μ3, a1, a2, a3⟩ := rw_only (nI (cnF (aS a) (aN a) (rch (aS a) 0) (2 ^ (aS a).1))).toInt64 μ2
    refine ⟨μ3, ?_, l2.told hN (by simp) a2 a3⟩
    unfold f_x_fates
    rw [st_everybody h.2.1.1, bd2_s, k1, bd2_s, l_0, l1, bd2_s, a1, bd1_s]
  · exact m_fates_lp hN (2 ^ (aS a).1) 0 FU Q ν1 (by omega) (by unfold FU; omega) (by omega) hI
end OPS
