/-! Where a STATE leads to: rest, swings. -/
theorem nI_ne_m1 {n : Nat} (h : n < 2 ^ 31) : ¬ nI n = -1 := fun q => by
  have := congrArg Int32.toInt q
  rw [i_tI h] at this
  have e : (-1 : Int32).toInt = -1 := by decide
  omega
theorem pig : ∀ n (f : Nat → Nat), (∀ i, i ≤ n → f i < n) → ∃ i j, i < j ∧ j ≤ n ∧ f i = f j
  | 0, f, h => absurd (h 0 (Nat.le_refl _)) (by omega)
  | n + 1, f, h => by
    by_cases c : ∃ i, i ≤ n ∧ f i = f (n + 1)
    · obtain ⟨i, h1, h2⟩ := c
      exact ⟨i, n + 1, by omega, Nat.le_refl _, h2⟩
    · have hv := h (n + 1) (Nat.le_refl _)
      have hne : ∀ i, i ≤ n → f i ≠ f (n + 1) := fun i hi q => c ⟨i, hi, q⟩
      obtain ⟨i, j, h1, h2, h3⟩ := pig n (fun i => if f i = n then f (n + 1) else f i) (fun i hi => by
        have h4 := h i (by omega)
        have h5 := hne i hi
        show (if f i = n then f (n + 1) else f i) < n
        split <;> omega)
      refine ⟨i, j, h1, by omega, ?_⟩
      have h4 := hne i (by omega)
      have h5 := hne j h2
      by_cases e1 : f i = n
      · by_cases e2 : f j = n
        · omega
        · rw [if_pos e1, if_neg e2] at h3; omega
      · by_cases e2 : f j = n
        · rw [if_neg e1, if_pos e2] at h3; omega
        · rw [if_neg e1, if_neg e2] at h3; omega
theorem least_n {P : Nat → Prop} : ∀ n, P n → ∃ m, m ≤ n ∧ P m ∧ ∀ k, k < m → ¬ P k
  | 0, h => ⟨0, Nat.le_refl _, h, fun k hk => absurd hk (by omega)⟩
  | n + 1, h => by
    by_cases c : ∃ k, k ≤ n ∧ P k
    · obtain ⟨k, h1, h2⟩ := c
      obtain ⟨m, h3, h4, h5⟩ : ∃ m, m ≤ k ∧ P m ∧ ∀ j, j < m → ¬ P j := by
        clear h
        induction k using Nat.strongRecOn with
        | ind k ih =>
          by_cases d : ∃ j, j < k ∧ P j
          · obtain ⟨j, d1, d2⟩ := d
            obtain ⟨m, e1, e2, e3⟩ := ih j d1 (by omega) d2
            exact ⟨m, by omega, e2, e3⟩
          · exact ⟨k, Nat.le_refl _, h2, fun j q r => d ⟨j, q, r⟩⟩
      exact ⟨m, by omega, h4, h5⟩
    · exact ⟨n + 1, Nat.le_refl _, h, fun k hk q => c ⟨k, by omega, q⟩⟩
theorem itr_s (S : SP) : ∀ n s, itr S (n + 1) s = nxt S (itr S n s)
  | 0, _ => rfl
  | n + 1, s => by rw [itr, itr_s S n (nxt S s)]; rfl
theorem itr_add (S : SP) : ∀ n m s, itr S (n + m) s = itr S m (itr S n s)
  | 0, m, s => by rw [Nat.zero_add]; rfl
  | n + 1, m, s => by rw [show n + 1 + m = (n + m) + 1 by omega, itr, itr_add S n m]; rfl
/-- the walk from s: t STATES, then a round of r -/
def Rho (S : SP) (s t r : Nat) : Prop := 1 ≤ r ∧ t + r ≤ 2 ^ S.1 ∧ (∀ i j, i < j → j < t + r → itr S i s ≠ itr S j s) ∧ itr S (t + r) s = itr S t s
theorem rho_ex {S : SP} {s : Nat} (hs : s < 2 ^ S.1) : ∃ t r, Rho S s t r := by
  obtain ⟨i, j, h1, h2, h3⟩ := pig (2 ^ S.1) (fun k => itr S k s) (fun k _ => itr_lt k hs)
  obtain ⟨d, d1, ⟨i', j', e1, e2, e3⟩, d3⟩ := least_n (P := fun d => ∃ i j, i < j ∧ j ≤ d ∧ itr S i s = itr S j s) j ⟨i, j, h1, Nat.le_refl _, h3⟩
  have hj : j' = d := by
    rcases Nat.lt_or_ge j' d with q | q
    · exact absurd ⟨i', j', e1, Nat.le_refl _, e3⟩ (d3 j' q)
    · omega
  refine ⟨i', d - i', by omega, by omega, fun x y q1 q2 q3 => d3 y (by omega) ⟨x, y, q1, Nat.le_refl _, q3⟩, ?_⟩
  rw [show i' + (d - i') = d by omega, ← hj, ← e3]
/-- when a STATE was first met within the first k -/
def mkd (S : SP) (s : Nat) : Nat → Nat → Option Nat
  | 0, _ => none
  | k + 1, x => if x = itr S k s then some k else mkd S s k x
theorem mkd_none {S : SP} {s x : Nat} : ∀ k, (∀ j, j < k → itr S j s ≠ x) → mkd S s k x = none
  | 0, _ => rfl
  | k + 1, h => by rw [mkd, if_neg (fun q => h k (by omega) q.symm)]; exact mkd_none k (fun j hj => h j (by omega))
theorem mkd_some {S : SP} {s j : Nat} : ∀ k, (∀ x y, x < y → y < k → itr S x s ≠ itr S y s) → j < k → mkd S s k (itr S j s) = some j
  | 0, _, h => absurd h (by omega)
  | k + 1, h, hj => by
    rw [mkd]
    by_cases e : j = k
    · subst e; rw [if_pos rfl]
    · rw [if_neg (h j k (by omega) (by omega))]
      exact mkd_some k (fun x y q1 q2 => h x y q1 (by omega)) (by omega)
def lsF (S : SP) (e : Nat) : Nat → Nat
  | 0 => e
  | k + 1 => min (lsF S e k) (itr S (k + 1) e)
def alF (S : SP) (e : Nat) : Nat → Nat
  | 0 => e
  | k + 1 => alF S e k &&& itr S (k + 1) e
def evF (S : SP) (e : Nat) : Nat → Nat
  | 0 => e
  | k + 1 => evF S e k ||| itr S (k + 1) e
theorem lsF_lt {S : SP} {e : Nat} (he : e < 2 ^ S.1) : ∀ k, lsF S e k < 2 ^ S.1
  | 0 => he
  | k + 1 => by have := lsF_lt he k; rw [lsF]; omega
theorem alF_lt {S : SP} {e : Nat} (he : e < 2 ^ S.1) : ∀ k, alF S e k < 2 ^ S.1
  | 0 => he
  | k + 1 => and_lt (alF_lt he k)
theorem evF_lt {S : SP} {e : Nat} (he : e < 2 ^ S.1) : ∀ k, evF S e k < 2 ^ S.1
  | 0 => he
  | k + 1 => or_lt (evF_lt he k) (itr_lt (k + 1) he)
/-- the round alone: first back behind r -/
theorem rho_round {S : SP} {s t r : Nat} (h : Rho S s t r) : itr S r (itr S t s) = itr S t s ∧ ∀ k, 1 ≤ k → k < r → itr S k (itr S t s) ≠ itr S t s := by
  refine ⟨by rw [← itr_add]; exact h.2.2.2, fun k h1 h2 q => ?_⟩
  rw [← itr_add] at q
  exact h.2.2.1 t (t + k) (by omega) (by omega) q.symm
section OPS
variable {N : Nat} {a : Ab} {b : Nat × Nat} {μ0 μ : Mem} {Q : Nat} {S : SP}
theorem x_round_lp {e r : Nat} (he : e < 2 ^ (aS a).1) (hr : r < 2 ^ 31) : ∀ m k g (μ : Mem), k + m = r → 1 ≤ k → m < g → XI N b a μ0 μ → μ.1 v_or_period 0 = nI r → μ.1 v_or_least 0 = nI (lsF (aS a) e (k - 1)) → μ.1 v_or_always 0 = nI (alF (aS a) e (k - 1)) → μ.1 v_or_ever 0 = nI (evF (aS a) e (k - 1)) →
    ∃ μ', f_ob_goRound_b31 g (nI (itr (aS a) (k - 1) e)) (nI k) μ = some μ' ∧ XI N b a μ0 μ' ∧ μ'.1 v_or_least 0 = nI (lsF (aS a) e (r - 1)) ∧ μ'.1 v_or_always 0 = nI (alF (aS a) e (r - 1)) ∧ μ'.1 v_or_ever 0 = nI (evF (aS a) e (r - 1)) ∧ ∀ v, 109 ≤ v → v ≤ 111 → μ'.1 v = μ.1 v := by
  intro m
  induction m with
  | zero =>
    intro k g μ hk h1 hg h p1 p2 p3 p4
    obtain ⟨g, rfl⟩ : ∃ z, g = z + 1 := ⟨g - 1, by omega⟩
    obtain rfl : k = r := by omega
    refine ⟨μ, ?_, h, p2, p3, p4, fun _ _ _ => rfl⟩
    rw [f_ob_goRound_b31, p1, if_pos ((i_leN hr hr).mpr (Nat.le_refl _))]
  | succ m ih =>
    intro k g μ hk h1 hg h p1 p2 p3 p4
    obtain ⟨g, rfl⟩ : ∃ z, g = z + 1 := ⟨g - 1, by omega⟩
    have h14 := p2_14 h.1.1.1
    have hl := lsF_lt (S := aS a) he (k - 1)
    have hi := itr_lt (S := aS a) (k - 1) he
    have hi2 := itr_lt (S := aS a) k he
    obtain ⟨μ1, l1, l2, l3⟩ := h.after hi
    have ek : nxt (aS a) (itr (aS a) (k - 1) e) = itr (aS a) k e := by rw [← itr_s, Nat.sub_add_cancel h1]
    have e0 : k = (k - 1) + 1 := by omega
    have e1 : lsF (aS a) e k = min (lsF (aS a) e (k - 1)) (itr (aS a) k e) := by
      conv => lhs; rw [e0]
      rw [lsF, Nat.sub_add_cancel h1]
    have e2 : alF (aS a) e k = alF (aS a) e (k - 1) &&& itr (aS a) k e := by
      conv => lhs; rw [e0]
      rw [alF, Nat.sub_add_cancel h1]
    have e3 : evF (aS a) e k = evF (aS a) e (k - 1) ||| itr (aS a) k e := by
      conv => lhs; rw [e0]
      rw [evF, Nat.sub_add_cancel h1]
    have hx1 := l2.put (v := v_or_least) 0 (nI (lsF (aS a) e k)) (by decide)
    have hx2 := hx1.put (v := v_or_always) 0 (nI (alF (aS a) e k)) (by decide)
    have hx3 := hx2.put (v := v_or_ever) 0 (nI (evF (aS a) e k)) (by decide)
    have q2 : μ1.1 v_or_least 0 = nI (lsF (aS a) e (k - 1)) := by rw [l3.1 _ (by decide)]; exact p2
    have q3 : μ1.1 v_or_always 0 = nI (alF (aS a) e (k - 1)) := by rw [l3.1 _ (by decide)]; exact p3
    have q4 : μ1.1 v_or_ever 0 = nI (evF (aS a) e (k - 1)) := by rw [l3.1 _ (by decide)]; exact p4
    obtain ⟨μ', k1, k2, k3, k4, k5, k6⟩ := ih (k + 1) g _ (by omega) (by omega) (by omega) hx3 (by rw [sI_v _ _ _ (by decide), sI_v _ _ _ (by decide), sI_v _ _ _ (by decide), l3.1 _ (by decide)]; exact p1) (by rw [sI_v _ _ _ (by decide), sI_v _ _ _ (by decide), sI_eq]; rfl) (by rw [sI_v _ _ _ (by decide), sI_eq]; rfl) (by rw [sI_eq]; rfl)
    refine ⟨μ', ?_, k2, k3, k4, k5, fun v v1 v2 => ?_⟩
    · rw [← k1, f_ob_goRound_b31, p1, if_neg (fun q => absurd ((i_leN hr (by omega)).mp q) (by omega)), l1, bd2_s, ek, q2, imin_n (by omega) (by omega), ← e1, bnd_s, sI_v _ _ _ (by decide), q3, i_and, ← e2, bnd_s, sI_v _ _ _ (by decide), sI_v _ _ _ (by decide), q4, i_or, ← e3, bnd_s, l_1, i_add]
      rfl
    · rw [k6 v v1 v2, sI_v _ _ _ (by show v ≠ 114; omega), sI_v _ _ _ (by show v ≠ 113; omega), sI_v _ _ _ (by show v ≠ 112; omega), l3.1 v (by omega)]
/-- what the class has found behind a walk from s -/
def XF (S : SP) (s t r : Nat) (μ : Mem) : Prop := μ.1 v_or_till 0 = nI t ∧ μ.1 v_or_period 0 = nI r ∧ μ.1 v_or_entry 0 = nI (itr S t s) ∧ μ.1 v_or_least 0 = nI (lsF S (itr S t s) (r - 1)) ∧ μ.1 v_or_always 0 = nI (alF S (itr S t s) (r - 1)) ∧ μ.1 v_or_ever 0 = nI (evF S (itr S t s) (r - 1))
theorem x_goRound {s t r : Nat} (h : XI N b a μ0 μ) (hs : s < 2 ^ (aS a).1) (hR : Rho (aS a) s t r) (p1 : μ.1 v_or_till 0 = nI t) (p2 : μ.1 v_or_period 0 = nI r) (p3 : μ.1 v_or_entry 0 = nI (itr (aS a) t s)) : ∃ μ', f_ob_goRound μ = some μ' ∧ XI N b a μ0 μ' ∧ XF (aS a) s t r μ' := by
  have h14 := p2_14 h.1.1.1
  obtain ⟨r1, r2, _, _⟩ := hR
  have he := itr_lt (S := aS a) t hs
  have hx1 := h.put (v := v_or_least) 0 (nI (itr (aS a) t s)) (by decide)
  have hx2 := hx1.put (v := v_or_always) 0 (nI (itr (aS a) t s)) (by decide)
  have hx3 := hx2.put (v := v_or_ever) 0 (nI (itr (aS a) t s)) (by decide)
  obtain ⟨μ', k1, k2, k3, k4, k5, k6⟩ := x_round_lp (r := r) he (by omega) (r - 1) 1 FU _ (by omega) (by omega) (by unfold FU; omega) hx3 (by rw [sI_v _ _ _ (by decide), sI_v _ _ _ (by decide), sI_v _ _ _ (by decide)]; exact p2) (by rw [sI_v _ _ _ (by decide), sI_v _ _ _ (by decide), sI_eq]; rfl) (by rw [sI_v _ _ _ (by decide), sI_eq]; rfl) (by rw [sI_eq]; rfl)
  have hk : ∀ v, 109 ≤ v → v ≤ 111 → μ'.1 v = μ.1 v := fun v v1 v2 => by rw [k6 v v1 v2, sI_v _ _ _ (by show v ≠ 114; omega), sI_v _ _ _ (by show v ≠ 113; omega), sI_v _ _ _ (by show v ≠ 112; omega)]
  refine ⟨μ', ?_, k2, by rw [hk _ (by decide) (by decide)]; exact p1, by rw [hk _ (by decide) (by decide)]; exact p2, by rw [hk _ (by decide) (by decide)]; exact p3, k3, k4, k5⟩
  unfold f_ob_goRound
  rw [p3, bnd_s, sI_v _ _ _ (by decide), p3, bnd_s, sI_v _ _ _ (by decide), sI_v _ _ _ (by decide), p3, bnd_s, sI_v _ _ _ (by decide), sI_v _ _ _ (by decide), sI_v _ _ _ (by decide), p3]
  exact k1
theorem x_follow_end {s t r : Nat} {f : Nat → Nat → Option Nat} (h : XI N b a μ0 μ) (hM : ME (aS a).1 f μ) (hs : s < 2 ^ (aS a).1) (hR : Rho (aS a) s t r) (hf : ∀ x, x < 2 ^ (aS a).1 → f 0 x = mkd (aS a) s (t + r) x) : ∃ μ', f_ob_follow_b67 (nI (itr (aS a) (t + r) s)) (nI (t + r)) μ = some μ' ∧ XI N b a μ0 μ' ∧ XF (aS a) s t r μ' := by
  have h14 := p2_14 h.1.1.1
  have he := itr_lt (S := aS a) t hs
  have r1 := hR.1
  have e : f 0 (itr (aS a) t s) = some t := by rw [hf _ he]; exact mkd_some (t + r) hR.2.2.1 (by omega)
  have hx1 := h.put (v := v_or_till) 0 (nI t) (by decide)
  have hx2 := hx1.put (v := v_or_period) 0 (nI r) (by decide)
  have hx3 := hx2.put (v := v_or_entry) 0 (nI (itr (aS a) t s)) (by decide)
  obtain ⟨μ', k1, k2, k3⟩ := x_goRound hx3 hs hR (by rw [sI_v _ _ _ (by decide), sI_v _ _ _ (by decide), sI_eq]) (by rw [sI_v _ _ _ (by decide), sI_eq]) (by rw [sI_eq])
  refine ⟨μ', ?_, k2, k3⟩
  unfold f_ob_follow_b67
  rw [hR.2.2.2, l_0, me_recall h.1.1.1 hM (by omega) he, bd2_s, e, show oI (some t) = nI t from rfl, bnd_s, sI_eq, i_sub (by omega), bnd_s, bnd_s, show t + r - t = r by omega, k1, bd1_s]
theorem x_follow_lp {s t r : Nat} (hs : s < 2 ^ (aS a).1) (hR : Rho (aS a) s t r) : ∀ m d g f (μ : Mem), d + m = t + r → m < g → XI N b a μ0 μ → ME (aS a).1 f μ → (∀ x, x < 2 ^ (aS a).1 → f 0 x = mkd (aS a) s d x) → ∃ μ', f_ob_follow_b18 g (nI (itr (aS a) d s)) (nI d) μ = some μ' ∧ XI N b a μ0 μ' ∧ XF (aS a) s t r μ' := by
  have hR' := hR
  obtain ⟨r1, r2, r3, r4⟩ := hR'
  intro m
  induction m with
  | zero =>
    intro d g f μ hd hg h hM hf
    obtain ⟨g, rfl⟩ : ∃ z, g = z + 1 := ⟨g - 1, by omega⟩
    have h14 := p2_14 h.1.1.1
    have he := itr_lt (S := aS a) t hs
    obtain rfl : d = t + r := by omega
    obtain ⟨μ', k1, k2, k3⟩ := x_follow_end h hM hs hR hf
    refine ⟨μ', ?_, k2, k3⟩
    rw [f_ob_follow_b18, st_everybody h.2.1.1, bd2_s]
    by_cases c : 2 ^ (aS a).1 - 1 < t + r
    · rw [if_pos ((i_ltN (by omega) (by omega)).mpr c)]
      exact k1
    · rw [if_neg (fun q => c ((i_ltN (by omega) (by omega)).mp q)), l_0, me_recall h.1.1.1 hM (by omega) (itr_lt _ hs), bd2_s, if_neg ?_]
      · exact k1
      · rw [r4, hf _ he, mkd_some (t + r) r3 (by omega)]
        show ¬ nI t = -1
        exact nI_ne_m1 (by omega)
  | succ m ih =>
    intro d g f μ hd hg h hM hf
    obtain ⟨g, rfl⟩ : ∃ z, g = z + 1 := ⟨g - 1, by omega⟩
    have h14 := p2_14 h.1.1.1
    have hi := itr_lt (S := aS a) d hs
    have e0 : f 0 (itr (aS a) d s) = none := by rw [hf _ hi]; exact mkd_none d (fun j hj => r3 j d hj (by omega))
    obtain ⟨μ1, n1, n2, n3, n4⟩ := me_note (u := d) h hM (l := 0) (s := itr (aS a) d s) (by omega) hi (by omega)
    obtain ⟨μ2, l1, l2, l3⟩ := n2.after hi
    obtain ⟨μ', k1, k2, k3⟩ := ih (d + 1) g _ μ2 (by omega) (by omega) l2 (n3.fr (fun v h1 h2 => l3.1 v (by omega))) (fun x hx => by
      unfold fup
      rw [mkd]
      by_cases e : x = itr (aS a) d s
      · rw [if_pos ⟨rfl, e⟩, if_pos e]
      · rw [if_neg (fun q => e q.2), if_neg e, hf x hx])
    refine ⟨μ', ?_, k2, k3⟩
    rw [f_ob_follow_b18, st_everybody h.2.1.1, bd2_s, if_neg (fun q => absurd ((i_ltN (by omega) (by omega)).mp q) (by omega)), l_0, me_recall h.1.1.1 hM (by omega) hi, bd2_s, e0, if_pos (show oI none = -1 from rfl), n1, bd1_s, l1, bd2_s, l_1, i_add, ← itr_s]
    exact k1
theorem x_follow {s t r : Nat} (hs : s < 2 ^ (aS a).1) (hR : Rho (aS a) s t r) (h : XI N b a μ0 μ) (hb : b.1 + 1 ≤ 4 * N + 4) : ∃ μ', f_ob_follow (nI s) μ = some μ' ∧ XI N (b.1 + 1, b.2) a μ0 μ' ∧ XF (aS a) s t r μ' := by
  have h14 := p2_14 h.1.1.1
  obtain ⟨μ1, b1, b2, b3, _⟩ := me_begin h hb
  obtain ⟨μ', k1, k2, k3⟩ := x_follow_lp hs hR (t + r) 0 FU _ μ1 (by omega) (by have := hR.2.1; unfold FU; omega) b2 b3 (fun x hx => rfl)
  refine ⟨μ', ?_, k2, k3⟩
  unfold f_ob_follow
  rw [h.2.1.1.1, b1, bd1_s, l_0]
  exact k1
/-! the reference -/
def MF (S : SP) (s t r : Nat) (μ : Mem) : Prop := μ.1 v_m_restIn 0 = nI t ∧ μ.1 v_m_restRound 0 = nI r ∧ μ.1 v_m_restState 0 = nI (itr S t s)
theorem m_find_lp {s t r : Nat} (hs : s < 2 ^ (aS a).1) (hQ : Q < 2 ^ 31) (hR : Rho (aS a) s t r) : ∀ m d g (μ : Mem), d + m = t + r → m < g → MI N Q a μ0 μ → (∀ x, x < 2 ^ (aS a).1 → (mkd (aS a) s d x = none → μ.1 v_m_cameIn x ≠ nI Q) ∧ ∀ k, mkd (aS a) s d x = some k → μ.1 v_m_cameIn x = nI Q ∧ μ.1 v_m_cameOn x = nI k) → ∃ μ', f_m_findRest_b14 g (nI (itr (aS a) d s)) (nI d) μ = some μ' ∧ MI N Q a μ0 μ' ∧ MF (aS a) s t r μ' ∧ ∀ v, (v < 150 ∨ 156 ≤ v) → μ'.1 v = μ.1 v := by
  have hR' := hR
  obtain ⟨r1, r2, r3, r4⟩ := hR'
  intro m
  induction m with
  | zero =>
    intro d g μ hd hg h hf
    obtain ⟨g, rfl⟩ : ∃ z, g = z + 1 := ⟨g - 1, by omega⟩
    have h14 := p2_14 h.1.1.1
    have he := itr_lt (S := aS a) t hs
    obtain rfl : d = t + r := by omega
    obtain ⟨c1, c2⟩ := (hf _ he).2 t (mkd_some (t + r) r3 (by omega))
    have hx1 := h.put (v := v_m_restIn) 0 (nI t) ⟨by unfold mIn; decide, by decide, by decide, by decide⟩
    have hx2 := hx1.put (v := v_m_restRound) 0 (nI r) ⟨by unfold mIn; decide, by decide, by decide, by decide⟩
    have hx3 := hx2.put (v := v_m_restState) 0 (nI (itr (aS a) t s)) ⟨by unfold mIn; decide, by decide, by decide, by decide⟩
    refine ⟨_, ?_, hx3, ⟨by rw [sI_v _ _ _ (by decide), sI_v _ _ _ (by decide), sI_eq], by rw [sI_v _ _ _ (by decide), sI_eq], by rw [sI_eq]⟩, fun v hv => by rw [sI_v _ _ _ (by show v ≠ 155; omega), sI_v _ _ _ (by show v ≠ 154; omega), sI_v _ _ _ (by show v ≠ 153; omega)]⟩
    rw [r4, f_m_findRest_b14, inb_n (by omega) (by omega), chk_t, cl_nI (by omega), c1, h.2.2.1.1, if_pos rfl, chk_t, c2, bnd_s, chk_t, sI_v _ _ _ (by decide), c2, i_sub (by omega), bnd_s, bnd_s, show t + r - t = r by omega]
  | succ m ih =>
    intro d g μ hd hg h hf
    obtain ⟨g, rfl⟩ : ∃ z, g = z + 1 := ⟨g - 1, by omega⟩
    have h14 := p2_14 h.1.1.1
    have hi := itr_lt (S := aS a) d hs
    have c1 := (hf _ hi).1 (mkd_none d (fun j hj => r3 j d hj (by omega)))
    have hx1 := h.mark (s := itr (aS a) d s)
    have hx2 := hx1.put (v := v_m_cameOn) (itr (aS a) d s) (nI d) ⟨by unfold mIn; decide, by decide, by decide, by decide⟩
    obtain ⟨μ', k1, k2, k3, k4⟩ := ih (d + 1) g _ (by omega) (by omega) hx2 (fun x hx => by
      rw [mkd]
      by_cases e : x = itr (aS a) d s
      · rw [if_pos e]
        refine ⟨fun q => absurd q (by simp), fun k q => ?_⟩
        obtain rfl : d = k := Option.some.inj q
        rw [sI_v _ _ _ (by decide), e, sI_eq, sI_eq]
        exact ⟨rfl, rfl⟩
      · rw [if_neg e]
        rw [sI_v _ _ _ (by decide), sI_i _ _ _ e, sI_i _ _ _ e, sI_v _ _ _ (by decide)]
        exact hf x hx)
    refine ⟨μ', ?_, k2, k3, fun v hv => by rw [k4 v hv, sI_v _ _ _ (by show v ≠ 150; omega), sI_v _ _ _ (by show v ≠ 151; omega)]⟩
    rw [f_m_findRest_b14, inb_n (by omega) (by omega), chk_t, cl_nI (by omega), h.2.2.1.1, if_neg c1, chk_t, bnd_s, chk_t, bnd_s, m_next hx2.2.1.1 hi, bd2_s, l_1, i_add, ← itr_s]
    exact k1
theorem m_find {s t r : Nat} (hs : s < 2 ^ (aS a).1) (hR : Rho (aS a) s t r) (h : MI N Q a μ0 μ) (hQ : Q + 1 ≤ 50000 * N + 50000) : ∃ μ', f_m_findRest (nI s) μ = some μ' ∧ MI N (Q + 1) a μ0 μ' ∧ MF (aS a) s t r μ' ∧ ∀ v, (v < 150 ∨ 156 ≤ v) → μ'.1 v = μ.1 v := by
  have h14 := p2_14 h.1.1.1
  have hN6 := h.2.2.2.1.1
  have hq := h.2.2.1.1
  obtain ⟨hA, hB⟩ := h.ask hQ
  obtain ⟨μ', k1, k2, k3, k4⟩ := m_find_lp (Q := Q + 1) hs (by omega) hR (t + r) 0 FU _ (by omega) (by have := hR.2.1; unfold FU; omega) hA (fun x hx => ⟨fun _ q => by
    obtain ⟨w, w1, w2⟩ := hB x (by omega)
    rw [w2] at q
    have := nI_inj (by omega) (by omega) q
    omega, fun k q => absurd q (by simp [mkd])⟩)
  refine ⟨μ', ?_, k2, k3, fun v hv => by rw [k4 v hv, sI_v _ _ _ (by show v ≠ 152; omega)]⟩
  unfold f_m_findRest
  rw [hq, l_1, i_add, bnd_s, l_0]
  exact k1
theorem m_rest_lp (hN : N < 600) {s t r : Nat} (hs : s < 2 ^ (aS a).1) (hR : Rho (aS a) s t r) (h : MI N Q a μ0 μ) (hF : MF (aS a) s t r μ) : ∀ m k g, k + m = r → 1 ≤ k → m < g → ∃ μ', f_m_rest_b27 g (nI (lsF (aS a) (itr (aS a) t s) (k - 1))) (nI (itr (aS a) k (itr (aS a) t s))) μ = some (nI t, μ') ∧ MO N (aSetR a [(nI r).toInt64, (nI (itr (aS a) t s)).toInt64, (nI (lsF (aS a) (itr (aS a) t s) (r - 1))).toInt64]) μ0 μ' := by
  have h14 := p2_14 h.1.1.1
  have he := itr_lt (S := aS a) t hs
  obtain ⟨q1, q2⟩ := rho_round hR
  obtain ⟨f1, f2, f3⟩ := hF
  intro m
  induction m with
  | zero =>
    intro k g hk h1 hg
    obtain ⟨g, rfl⟩ : ∃ z, g = z + 1 := ⟨g - 1, by omega⟩
    obtain rfl : k = r := by omega
    obtain ⟨c1, c2⟩ := m_clear μ
    obtain ⟨μ1, a1, a2, a3⟩ := m_tell (nI k).toInt64 c1 (by simp)
    obtain ⟨μ2, b1, b2, b3⟩ := m_tell (nI (itr (aS a) t s)).toInt64 a2 (by simp)
    obtain ⟨μ3, d1, d2, d3⟩ := m_tell (nI (lsF (aS a) (itr (aS a) t s) (k - 1))).toInt64 b2 (by simp)
    refine ⟨μ3, ?_, h.told hN (by simp) d2 (((c2.tr a3).tr b3).tr d3)⟩
    rw [f_m_rest_b27, q1, f3, if_pos rfl, bnd_s, c2.1 _ (by decide), f2, a1, bd1_s, a3.1 _ (by decide), c2.1 _ (by decide), f3, b1, bd1_s, d1, bd1_s, d3.1 _ (by decide), b3.1 _ (by decide), a3.1 _ (by decide), c2.1 _ (by decide), f1]
  | succ m ih =>
    intro k g hk h1 hg
    obtain ⟨g, rfl⟩ : ∃ z, g = z + 1 := ⟨g - 1, by omega⟩
    have hi := itr_lt (S := aS a) k he
    have hl := lsF_lt (S := aS a) he (k - 1)
    have e1 : lsF (aS a) (itr (aS a) t s) k = min (lsF (aS a) (itr (aS a) t s) (k - 1)) (itr (aS a) k (itr (aS a) t s)) := by
      conv => lhs; rw [show k = (k - 1) + 1 by omega]
      rw [lsF, Nat.sub_add_cancel h1]
    obtain ⟨μ', k1, k2⟩ := ih (k + 1) g (by omega) (by omega) (by omega)
    refine ⟨μ', ?_, k2⟩
    rw [f_m_rest_b27, f3, if_neg (fun q => q2 k h1 (by omega) (nI_inj (by omega) (by omega) q)), m_next h.2.1.1 hi, bd2_s, imin_n (by omega) (by omega), ← e1, ← itr_s]
    exact k1
theorem op_rest : OpI N a f_x_rest f_m_rest := by
  intro hW hN
  have h14 := p2_14 hW.1.1
  have hs := now_lt hW
  obtain ⟨t, r, hR⟩ := rho_ex hs
  have he := itr_lt (S := aS a) t hs
  refine ⟨nI t, aSetR a [(nI r).toInt64, (nI (itr (aS a) t (aN a))).toInt64, (nI (lsF (aS a) (itr (aS a) t (aN a)) (r - 1))).toInt64], fun μ h => ?_, fun ν h => m_start h fun Q ν1 hQ hI _ => ?_⟩
  · obtain ⟨μ1, k1, k2, f1, f2, f3, f4, f5, f6⟩ := x_follow hs hR h.XI (by show 4 * N + 1 ≤ _; omega)
    obtain ⟨μ2, a1, a2, a3⟩ := rw_only (nI r).toInt64 μ1
    obtain ⟨μ3, b1, b2, b3⟩ := rw_add (nI (itr (aS a) t (aN a))).toInt64 a2 (by simp)
    obtain ⟨μ4, d1, d2, d3⟩ := rw_add (nI (lsF (aS a) (itr (aS a) t (aN a)) (r - 1))).toInt64 b2 (by simp)
    refine ⟨μ4, ?_, k2.told hN (by simp) d2 ((a3.tr b3).tr d3)⟩
    unfold f_x_rest
    rw [st_now hW h.2.1, bd2_s, k1, bd1_s, f2, a1, bd1_s, a3.1 _ (by decide), f3, b1, bd1_s, b3.1 _ (by decide), a3.1 _ (by decide), f4, d1, bd1_s, d3.1 _ (by decide), b3.1 _ (by decide), a3.1 _ (by decide), f1]
  · have hN6 := hI.2.2.2.1.1
    obtain ⟨μ1, k1, k2, k3, _⟩ := m_find hs hR hI (by omega)
    obtain ⟨μ', l1, l2⟩ := m_rest_lp hN hs hR k2 k3 (r - 1) 1 FU (by have := hR.1; omega) (by omega) (by have := hR.2.1; unfold FU; omega)
    refine ⟨μ', ?_, l2⟩
    rw [m_now hW hI.2.1.2.1, bd2_s, k1, bd1_s, k3.2.2, m_next k2.2.1.1 he, bd2_s]
    exact l1
theorem m_swings_lp (hN : N < 600) {s t r : Nat} (hs : s < 2 ^ (aS a).1) (hR : Rho (aS a) s t r) (h : MI N Q a μ0 μ) (hF : MF (aS a) s t r μ) : ∀ m k g, k + m = r → 1 ≤ k → m < g → ∃ μ', f_m_swings_b32 g (nI (evF (aS a) (itr (aS a) t s) (k - 1))) (nI (alF (aS a) (itr (aS a) t s) (k - 1))) (nI (itr (aS a) k (itr (aS a) t s))) μ = some (nI (wo (evF (aS a) (itr (aS a) t s) (r - 1)) (alF (aS a) (itr (aS a) t s) (r - 1))), μ') ∧ MO N (aSetR a [(nI (alF (aS a) (itr (aS a) t s) (r - 1))).toInt64]) μ0 μ' := by
  have h14 := p2_14 h.1.1.1
  have he := itr_lt (S := aS a) t hs
  obtain ⟨q1, q2⟩ := rho_round hR
  obtain ⟨f1, f2, f3⟩ := hF
  intro m
  induction m with
  | zero =>
    intro k g hk h1 hg
    obtain ⟨g, rfl⟩ : ∃ z, g = z + 1 := ⟨g - 1, by omega⟩
    obtain rfl : k = r := by omega
    obtain ⟨c1, c2⟩ := m_clear μ
    obtain ⟨μ1, a1, a2, a3⟩ := m_tell (nI (alF (aS a) (itr (aS a) t s) (k - 1))).toInt64 c1 (by simp)
    refine ⟨μ1, ?_, h.told hN (by simp) a2 (c2.tr a3)⟩
    rw [f_m_swings_b32, q1, f3, if_pos rfl, bnd_s, a1, bd1_s, i_wo]
  | succ m ih =>
    intro k g hk h1 hg
    obtain ⟨g, rfl⟩ : ∃ z, g = z + 1 := ⟨g - 1, by omega⟩
    have hi := itr_lt (S := aS a) k he
    have e1 : evF (aS a) (itr (aS a) t s) k = evF (aS a) (itr (aS a) t s) (k - 1) ||| itr (aS a) k (itr (aS a) t s) := by
      conv => lhs; rw [show k = (k - 1) + 1 by omega]
      rw [evF, Nat.sub_add_cancel h1]
    have e2 : alF (aS a) (itr (aS a) t s) k = alF (aS a) (itr (aS a) t s) (k - 1) &&& itr (aS a) k (itr (aS a) t s) := by
      conv => lhs; rw [show k = (k - 1) + 1 by omega]
      rw [alF, Nat.sub_add_cancel h1]
    obtain ⟨μ', k1, k2⟩ := ih (k + 1) g (by omega) (by omega) (by omega)
    refine ⟨μ', ?_, k2⟩
    rw [f_m_swings_b32, f3, if_neg (fun q => q2 k h1 (by omega) (nI_inj (by omega) (by omega) q)), m_next h.2.1.1 hi, bd2_s, i_or, i_and, ← e1, ← e2, ← itr_s]
    exact k1
theorem op_swings : OpI N a f_x_swings f_m_swings := by
  intro hW hN
  have h14 := p2_14 hW.1.1
  have hs := now_lt hW
  obtain ⟨t, r, hR⟩ := rho_ex hs
  have he := itr_lt (S := aS a) t hs
  refine ⟨nI (wo (evF (aS a) (itr (aS a) t (aN a)) (r - 1)) (alF (aS a) (itr (aS a) t (aN a)) (r - 1))), aSetR a [(nI (alF (aS a) (itr (aS a) t (aN a)) (r - 1))).toInt64], fun μ h => ?_, fun ν h => m_start h fun Q ν1 hQ hI _ => ?_⟩
  · obtain ⟨μ1, k1, k2, f1, f2, f3, f4, f5, f6⟩ := x_follow hs hR h.XI (by show 4 * N + 1 ≤ _; omega)
    obtain ⟨μ2, a1, a2, a3⟩ := rw_only (nI (alF (aS a) (itr (aS a) t (aN a)) (r - 1))).toInt64 μ1
    refine ⟨μ2, ?_, k2.told hN (by simp) a2 a3⟩
    unfold f_x_swings
    rw [st_now hW h.2.1, bd2_s, k1, bd1_s, f5, a1, bd1_s, a3.1 _ (by decide), a3.1 _ (by decide), f6, f5, i_wo]
  · have hN6 := hI.2.2.2.1.1
    obtain ⟨μ1, k1, k2, k3, _⟩ := m_find hs hR hI (by omega)
    obtain ⟨μ', l1, l2⟩ := m_swings_lp hN hs hR k2 k3 (r - 1) 1 FU (by have := hR.1; omega) (by omega) (by have := hR.2.1; unfold FU; omega)
    refine ⟨μ', ?_, l2⟩
    rw [m_now hW hI.2.1.2.1, bd2_s, k1, bd1_s, k3.2.2, m_next k2.2.1.1 he, bd2_s]
    exact l1
end OPS
