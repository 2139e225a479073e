/-! hops: the reference, and both. -/
section OPS
variable {N : Nat} {a : Ab} {b : Nat × Nat} {μ0 μ : Mem} {Q : Nat} {S : SP} {to : Nat}
def FR (p : Nat) (F : Nat → Nat) (μ : Mem) : Prop := ∀ i, i < p → μ.1 v_m_far i = nI (F i)
def Fok (S : SP) (to : Nat) (F : Nat → Nat) : Prop := ∀ i, i < S.1 → dst S to i ≤ F i ∧ F i ≤ 1000000
def Fup (S : SP) (to r : Nat) (F : Nat → Nat) : Prop := ∀ i, i < S.1 → dst S to i ≤ r → F i ≤ dst S to i
theorem m_hop_in (hp : (aS a).1 ≤ 14) (ht : to < (aS a).1) (k58 : Int32 → Int32 → Mem → Option (Int32 × Mem)) (k69 : Int32 → Int32 → Int32 → Mem → Option (Int32 × Mem)) (x1 x3 : Int32) {i : Nat} {F0 : Nat → Nat} (hi : i < (aS a).1) : ∀ m o g F (μ : Mem), o + m = (aS a).1 → m < g → MI N Q a μ0 μ → FR (aS a).1 F μ → Fok (aS a) to F → (∀ x, x < (aS a).1 → F x ≤ F0 x) → (∀ o', o' < o → 0 < (aS a).2.1 o' i → F i ≤ F0 o' + 1) →
    ∃ F' μ', f_m_hops_b81 k58 k69 g x1 x3 (nI i) (nI o) μ = k69 x1 x3 (nI (i + 1)) μ' ∧ MI N Q a μ0 μ' ∧ FR (aS a).1 F' μ' ∧ Fok (aS a) to F' ∧ (∀ x, x < (aS a).1 → F' x ≤ F0 x) ∧ (∀ o', o' < (aS a).1 → 0 < (aS a).2.1 o' i → F' i ≤ F0 o' + 1) ∧ ∀ x, x ≠ i → F' x = F x := by
  intro m
  induction m with
  | zero =>
    intro o g F μ ho hg h hF h1 h2 h3
    obtain ⟨g, rfl⟩ : ∃ z, g = z + 1 := ⟨g - 1, by omega⟩
    obtain rfl : o = (aS a).1 := by omega
    refine ⟨F, μ, ?_, h, hF, h1, h2, h3, fun _ _ => rfl⟩
    rw [f_m_hops_b81, h.2.1.1.1, if_pos ((i_leN (by omega) (by omega)).mpr (Nat.le_refl _)), l_1, i_add]
  | succ m ih =>
    intro o g F μ ho hg h hF h1 h2 h3
    obtain ⟨g, rfl⟩ : ∃ z, g = z + 1 := ⟨g - 1, by omega⟩
    have h9 := h.1.1.2.1 o i
    rw [f_m_hops_b81, h.2.1.1.1, if_neg (fun q => absurd ((i_leN (by omega) (by omega)).mp q) (by omega)), l_14, i_mul, i_add, inb_n (by omega) (by omega), chk_t, cl_nI (by omega), h.2.1.1.2.1 o i (by omega) (by omega)]
    by_cases c : (aS a).2.1 o i = 0
    · rw [if_pos (show nI ((aS a).2.1 o i) ≤ 0 by rw [c]; decide), l_1, i_add]
      refine ih (o + 1) g F μ (by omega) (by omega) h hF h1 h2 (fun o' q1 q2 => ?_)
      by_cases e : o' = o
      · subst e; omega
      · exact h3 o' (by omega) q2
    · have hfi := h1 i hi
      have hfo := h1 o (by omega)
      have hm : (setI μ v_m_far i (nI (min (F i) (F o + 1)))).1 v_m_far = _ := rfl
      have hx := h.put (v := v_m_far) i (nI (min (F i) (F o + 1))) ⟨by unfold mIn; decide, by decide, by decide, by decide⟩
      have tri := dst_tri hp ht hi (show o < (aS a).1 by omega) (by omega)
      obtain ⟨F', μ', k1, k2, k3, k4, k5, k6, k7⟩ := ih (o + 1) g (fnu F i (min (F i) (F o + 1))) _ (by omega) (by omega) hx (sI_fnu hF i _) (fun x hx' => by
        by_cases e : x = i
        · subst e; rw [fnu_eq]; omega
        · rw [fnu_ne _ _ e]; exact h1 x hx') (fun x hx' => by
        by_cases e : x = i
        · subst e; rw [fnu_eq]; have := h2 x hx'; omega
        · rw [fnu_ne _ _ e]; exact h2 x hx') (fun o' q1 q2 => by
        rw [fnu_eq]
        by_cases e : o' = o
        · subst e; have := h2 o' (by omega); omega
        · have := h3 o' (by omega) q2; omega)
      refine ⟨F', μ', ?_, k2, k3, k4, k5, k6, fun x e => by rw [k7 x e, fnu_ne _ _ e]⟩
      rw [if_neg (fun q => c (by have := (i_leN (b := 0) (by omega) (by omega)).mp q; omega)), inb_n (show i < 14 by omega) (by omega), chk_t, inb_n (show o < 14 by omega) (by omega), chk_t, chk_t, cl_nI (show i < 2 ^ 31 by omega), cl_nI (show o < 2 ^ 31 by omega), hF i hi, hF o (by omega), l_1, i_add, imin_n (by omega) (by omega), bnd_s, i_add]
      exact k1
theorem m_hop_mid (hp : (aS a).1 ≤ 14) (ht : to < (aS a).1) (k58 : Int32 → Int32 → Mem → Option (Int32 × Mem)) (x1 : Int32) {r : Nat} {F0 : Nat → Nat} (hr : r < 20) (h0 : Fup (aS a) to r F0) : ∀ m i g F (μ : Mem), i + m = (aS a).1 → m < g → MI N Q a μ0 μ → FR (aS a).1 F μ → Fok (aS a) to F → (∀ x, x < (aS a).1 → F x ≤ F0 x) → (∀ x, x < i → dst (aS a) to x ≤ r + 1 → F x ≤ dst (aS a) to x) →
    ∃ F' μ', f_m_hops_b69 k58 g x1 (nI r) (nI i) μ = k58 x1 (nI (r + 1)) μ' ∧ MI N Q a μ0 μ' ∧ FR (aS a).1 F' μ' ∧ Fok (aS a) to F' ∧ Fup (aS a) to (r + 1) F' := by
  intro m
  induction m with
  | zero =>
    intro i g F μ hi hg h hF h1 h2 h3
    obtain ⟨g, rfl⟩ : ∃ z, g = z + 1 := ⟨g - 1, by omega⟩
    obtain rfl : i = (aS a).1 := by omega
    refine ⟨F, μ, ?_, h, hF, h1, fun x hx q => h3 x hx q⟩
    rw [f_m_hops_b69, h.2.1.1.1, if_pos ((i_leN (by omega) (by omega)).mpr (Nat.le_refl _)), l_1, i_add]
  | succ m ih =>
    intro i g F μ hi hg h hF h1 h2 h3
    obtain ⟨g, rfl⟩ : ∃ z, g = z + 1 := ⟨g - 1, by omega⟩
    obtain ⟨F1, μ1, a1, a2, a3, a4, a5, a6, a7⟩ := m_hop_in hp ht k58 (f_m_hops_b69 k58 g) x1 (nI r) (i := i) (F0 := F0) (by omega) (aS a).1 0 FU F μ (by omega) (by unfold FU; omega) h hF h1 h2 (fun o' q => absurd q (by omega))
    obtain ⟨F', μ', k1, k2⟩ := ih (i + 1) g F1 μ1 (by omega) (by omega) a2 a3 a4 a5 (fun x hx q => by
      by_cases e : x = i
      · subst e
        by_cases z : dst (aS a) to x ≤ r
        · exact Nat.le_trans (a5 x (by omega)) (h0 x (by omega) z)
        · obtain ⟨o, o1, o2, o3⟩ := dst_pre hp ht (i := x) (r := r) (by omega) (by omega)
          have u1 := a6 o o1 o2
          have u2 := h0 o o1 (by omega)
          omega
      · rw [a7 x e]; exact h3 x (by omega) q)
    refine ⟨F', μ', ?_, k2⟩
    rw [f_m_hops_b69, h.2.1.1.1, if_neg (fun q => absurd ((i_leN (by omega) (by omega)).mp q) (by omega)), l_0, a1]
    exact k1
/-- the search for who passes it on -/
theorem m_hop_find (hp : (aS a).1 ≤ 14) (k174 : Int32 → Int32 → Int32 → Mem → Option (Int32 × Mem)) (x1 x4 : Int32) {cur k v : Nat} (hc : cur < (aS a).1) (hk : k < 1000) (hd : dst (aS a) to cur = k + 1) (h : MI N Q a μ0 μ) (hF : FR (aS a).1 (dst (aS a) to) μ) (hl : ∀ i, dst (aS a) to i ≤ 1000000) {μ1 : Mem} (hT : f_m_tell (nI v).toInt64 μ = some μ1) : ∀ m o g, o + m = (aS a).1 → m < g → fsI (pkH (aS a) to cur k) m o = some v → f_m_hops_b188 k174 g x1 (nI cur) x4 (nI o) μ = k174 x1 (nI v) (x4 + 1) μ1 := by
  intro m
  induction m with
  | zero => intro o g ho hg hv; exact absurd hv (by simp [fsI])
  | succ m ih =>
    intro o g ho hg hv
    obtain ⟨g, rfl⟩ : ∃ z, g = z + 1 := ⟨g - 1, by omega⟩
    have h9 := h.1.1.2.1 o cur
    have hlo := hl o
    rw [fsI] at hv
    rw [f_m_hops_b188, l_14, i_mul, i_add, inb_n (by omega) (by omega), chk_t, cl_nI (by omega), h.2.1.1.2.1 o cur (by omega) (by omega)]
    by_cases c : (aS a).2.1 o cur = 0
    · have hpk : pkH (aS a) to cur k o = false := by unfold pkH; rw [decide_eq_false (by omega)]; rfl
      rw [hpk, if_neg (by decide)] at hv
      rw [if_pos (by rw [c]; rfl), l_1, i_add]
      exact ih (o + 1) g (by omega) (by omega) hv
    · rw [if_neg (nI_nz (by omega) c), inb_n (show o < 14 by omega) (by omega), chk_t, inb_n (show cur < 14 by omega) (by omega), chk_t, cl_nI (show o < 2 ^ 31 by omega), cl_nI (show cur < 2 ^ 31 by omega), hF o (by omega), hF cur hc, hd, l_1, i_sub (by omega), Nat.add_sub_cancel]
      by_cases c2 : dst (aS a) to o = k
      · have hpk : pkH (aS a) to cur k o = true := by unfold pkH; rw [decide_eq_true (show 0 < (aS a).2.1 o cur by omega), decide_eq_true c2]; rfl
        rw [hpk, if_pos rfl] at hv
        obtain rfl := Option.some.inj hv
        rw [if_pos (by rw [c2]), hT, bd1_s]
      · have hpk : pkH (aS a) to cur k o = false := by unfold pkH; rw [decide_eq_false c2, Bool.and_false]
        rw [hpk, if_neg (by decide)] at hv
        rw [if_neg (fun q => c2 (nI_inj (by omega) (by omega) q)), i_add]
        exact ih (o + 1) g (by omega) (by omega) hv
theorem m_hop_lp (hp : (aS a).1 ≤ 14) (ht : to < (aS a).1) {fr D : Nat} (hf : fr < (aS a).1) (hD : dst (aS a) to fr = D) (hDp : D < (aS a).1) : ∀ m cur k g r a' (μ : Mem), a' = aSetR a r → k + m = D → 1 ≤ k → m < g → r.length + m ≤ 14 → cur < (aS a).1 → dst (aS a) to cur = m + 1 → MI N Q a' μ0 μ → FR (aS a).1 (dst (aS a) to) μ → ∃ μ', f_m_hops_b174 g (nI fr) (nI cur) (nI k) μ = some (nI D, μ') ∧ MI N Q (aSetR a (r ++ rwN (hpL (aS a) to m cur))) μ0 μ' := by
  intro m
  induction m with
  | zero =>
    intro cur k g r a' μ ha hk h1 hg hr hc hd h hF
    obtain ⟨g, rfl⟩ : ∃ z, g = z + 1 := ⟨g - 1, by omega⟩
    refine ⟨μ, ?_, ?_⟩
    · rw [f_m_hops_b174, inb_n (by omega) (by omega), chk_t, cl_nI (by omega), hF fr hf, hD, if_pos ((i_leN (by omega) (by omega)).mpr (by omega)), chk_t]
    · show MI N Q (aSetR a (r ++ [])) μ0 μ
      rw [List.append_nil, ← ha]
      exact h
  | succ m ih =>
    intro cur k g r a' μ ha hk h1 hg hr hc hd h hF
    obtain ⟨g, rfl⟩ : ∃ z, g = z + 1 := ⟨g - 1, by omega⟩
    subst ha
    obtain ⟨e1, e2, e3⟩ := hpN_ok hp ht hd (by omega)
    obtain ⟨μ2, a1, a2, a3⟩ := m_tell (nI (hpN (aS a) to cur (m + 1))).toInt64 h.2.1.2.2.2.1 (by show r.length < 16; omega)
    have hx : MI N Q (aSetR a (r ++ [(nI (hpN (aS a) to cur (m + 1))).toInt64])) μ0 μ2 := h.row (by show (r ++ [_]).length ≤ 16; rw [List.length_append, List.length_singleton]; omega) a2 a3
    have hF2 : FR (aS a).1 (dst (aS a) to) μ2 := fun j hj => by rw [a3.1 _ (by decide)]; exact hF j hj
    have hdn : dst (aS a) to (hpN (aS a) to cur (m + 1)) = m + 1 := by
      unfold pkH at e3
      rw [Bool.and_eq_true, decide_eq_true_iff, decide_eq_true_iff] at e3
      exact e3.2
    obtain ⟨μ', k1, k2⟩ := ih (hpN (aS a) to cur (m + 1)) (k + 1) g (r ++ [(nI (hpN (aS a) to cur (m + 1))).toInt64]) _ μ2 rfl (by omega) (by omega) (by omega) (by rw [List.length_append, List.length_singleton]; omega) e2 hdn hx hF2
    have hfd := m_hop_find (a := aSetR a r) (to := to) hp (f_m_hops_b174 g) (nI fr) (nI k) hc (by omega) hd h hF (fun i => (dst_le ht i).1) a1 (aS a).1 0 FU (Nat.zero_add _) (by unfold FU; omega) e1
    refine ⟨μ', ?_, ?_⟩
    · rw [f_m_hops_b174, inb_n (by omega) (by omega), chk_t, cl_nI (by omega), hF fr hf, hD, if_neg (fun q => absurd ((i_leN (by omega) (by omega)).mp q) (by omega)), l_0, hfd, l_1, i_add]
      exact k1
    · rw [hpL]
      show MI N Q (aSetR a (r ++ ((nI (hpN (aS a) to cur (m + 1))).toInt64 :: rwN _))) μ0 μ'
      rw [show r ++ ((nI (hpN (aS a) to cur (m + 1))).toInt64 :: rwN (hpL (aS a) to m (hpN (aS a) to cur (m + 1)))) = (r ++ [(nI (hpN (aS a) to cur (m + 1))).toInt64]) ++ rwN (hpL (aS a) to m (hpN (aS a) to cur (m + 1))) by rw [List.append_assoc]; rfl]
      exact k2
theorem m_hop_rd (hN : N < 600) (hp : (aS a).1 ≤ 14) (ht : to < (aS a).1) {fr : Nat} (hf : fr < (aS a).1) : ∀ m r g F (μ : Mem), r + m = (aS a).1 → m < g → MI N Q a μ0 μ → FR (aS a).1 F μ → Fok (aS a) to F → Fup (aS a) to r F → ∃ μ', f_m_hops_b58 g (nI fr) (nI r) μ = some ((hpA a fr to).1, μ') ∧ MO N (hpA a fr to).2 μ0 μ' := by
  intro m
  induction m with
  | zero =>
    intro r g F μ hr hg h hF h1 h2
    obtain ⟨g, rfl⟩ : ∃ z, g = z + 1 := ⟨g - 1, by omega⟩
    obtain rfl : r = (aS a).1 := by omega
    have hFe : ∀ i, i < (aS a).1 → F i = dst (aS a) to i := fun i hi => by
      have u1 := h1 i hi
      by_cases z : dst (aS a) to i < 1000000
      · have := (dst_le ht i).2 z
        have := h2 i hi (by omega)
        omega
      · omega
    have hF' : FR (aS a).1 (dst (aS a) to) μ := fun i hi => by rw [hF i hi, hFe i hi]
    have hle := dst_le ht fr
    rw [f_m_hops_b58, h.2.1.1.1, if_pos ((i_leN (by omega) (by omega)).mpr (Nat.le_refl _)), inb_n (by omega) (by omega), chk_t, cl_nI (by omega), hF' fr hf, l_1000000]
    unfold hpA
    by_cases c : dst (aS a) to fr = 1000000
    · rw [if_neg (fun q => by have := (i_ltN (by omega) (by omega)).mp q; omega), if_pos c]
      exact ⟨μ, rfl, h.done hN⟩
    · have hdp := hle.2 (by omega)
      rw [if_pos ((i_ltN (by omega) (by omega)).mpr (by omega)), if_neg c, bnd_s]
      obtain ⟨e1, e2⟩ := m_clear μ
      have hx := h.row (r := []) (by simp) e1 e2
      have hF2 : FR (aS a).1 (dst (aS a) to) (setI μ v_m_rowMany 0 0) := fun j hj => by rw [sI_v _ _ _ (by decide)]; exact hF' j hj
      by_cases c0 : dst (aS a) to fr = 0
      · have hx0 := hx.done hN
        rw [c0]
        refine ⟨_, ?_, hx0⟩
        rw [show FU = (FU - 1) + 1 from rfl, f_m_hops_b174, inb_n (by omega) (by omega), chk_t, cl_nI (by omega), hF2 fr hf, c0, if_pos (show nI 0 ≤ 1 by decide), chk_t]
      · obtain ⟨μ', k1, k2⟩ := m_hop_lp hp ht hf rfl hdp (dst (aS a) to fr - 1) fr 1 FU [] _ _ rfl (by omega) (by omega) (by unfold FU; omega) (by simp; omega) hf (by omega) hx hF2
        exact ⟨μ', k1, k2.done hN⟩
  | succ m ih =>
    intro r g F μ hr hg h hF h1 h2
    obtain ⟨g, rfl⟩ : ∃ z, g = z + 1 := ⟨g - 1, by omega⟩
    obtain ⟨F', μ1, a1, a2, a3, a4, a5⟩ := m_hop_mid hp ht (f_m_hops_b58 g) (nI fr) (r := r) (F0 := F) (by omega) h2 (aS a).1 0 FU F μ (by omega) (by unfold FU; omega) h hF h1 (fun x _ => Nat.le_refl _) (fun x hx => absurd hx (by omega))
    rw [f_m_hops_b58, h.2.1.1.1, if_neg (fun q => absurd ((i_leN (by omega) (by omega)).mp q) (by omega)), l_0, a1]
    exact ih (r + 1) g F' μ1 (by omega) (by omega) a2 a3 a4 a5
theorem m_hop_0 (hN : N < 600) (hp : (aS a).1 ≤ 14) (ht : to < (aS a).1) {fr : Nat} (hf : fr < (aS a).1) : ∀ m i g (μ : Mem), i + m = (aS a).1 → m < g → MI N Q a μ0 μ → (∀ x, x < i → μ.1 v_m_far x = nI (if x = to then 0 else 1000000)) → ∃ μ', f_m_hops_b25 g (nI fr) (nI to) (nI i) μ = some ((hpA a fr to).1, μ') ∧ MO N (hpA a fr to).2 μ0 μ' := by
  intro m
  induction m with
  | zero =>
    intro i g μ hi hg h hF
    obtain ⟨g, rfl⟩ : ∃ z, g = z + 1 := ⟨g - 1, by omega⟩
    obtain rfl : i = (aS a).1 := by omega
    rw [f_m_hops_b25, h.2.1.1.1, if_pos ((i_leN (by omega) (by omega)).mpr (Nat.le_refl _))]
    refine m_hop_rd hN hp ht hf (aS a).1 0 FU (fun x => if x = to then 0 else 1000000) μ (by omega) (by unfold FU; omega) h hF (fun x hx => ?_) (fun x hx q => ?_)
    · by_cases e : x = to
      · subst e; rw [dst_to hp ht]; exact ⟨Nat.zero_le _, by show (if x = x then 0 else 1000000) ≤ _; rw [if_pos rfl]; omega⟩
      · show _ ≤ (if x = to then 0 else 1000000) ∧ (if x = to then 0 else 1000000) ≤ _
        rw [if_neg e]; exact ⟨(dst_le ht x).1, Nat.le_refl _⟩
    · rcases dst_cs ht x with z | ⟨z1, z2⟩
      · omega
      · have e0 : dst (aS a) to x = 0 := by omega
        rw [e0] at z2
        have : (2 ^ to).testBit x = true := z2
        rw [tb_p2, decide_eq_true_iff] at this
        show (if x = to then 0 else 1000000) ≤ _
        rw [if_pos this.symm]; omega
  | succ m ih =>
    intro i g μ hi hg h hF
    obtain ⟨g, rfl⟩ : ∃ z, g = z + 1 := ⟨g - 1, by omega⟩
    have e0 : (if nI i = nI to then (0 : Int32) else 1000000) = nI (if i = to then 0 else 1000000) := by
      by_cases e : i = to
      · rw [if_pos (by rw [e]), if_pos e]; rfl
      · rw [if_neg (fun q => e (nI_inj (by omega) (by omega) q)), if_neg e]; rfl
    have hx := h.put (v := v_m_far) i (nI (if i = to then 0 else 1000000)) ⟨by unfold mIn; decide, by decide, by decide, by decide⟩
    rw [f_m_hops_b25, h.2.1.1.1, if_neg (fun q => absurd ((i_leN (by omega) (by omega)).mp q) (by omega)), e0, bnd_s, inb_n (by omega) (by omega), chk_t, cl_nI (by omega), bnd_s, l_1, i_add]
    refine ih (i + 1) g _ (by omega) (by omega) hx (fun x hx' => ?_)
    by_cases e : x = i
    · rw [e, sI_eq]
    · rw [sI_i _ _ _ e]; exact hF x (by omega)
theorem op_hops (x y : Int32) : OpI N a (f_x_hops x y) (f_m_hops x y) := by
  intro hW hN
  have hp := hW.1.1
  rcases i_casesQ x with hx | ⟨n, hn, rfl⟩
  · refine ⟨-1, a, fun μ h => x_same h hN ?_, fun ν h => m_start h fun Q ν1 _ hI _ => m_same hI hN ?_⟩
    · unfold f_x_hops
      rw [st_hasG hx, bd2_s, if_pos (by decide)]
    · rw [m_isOneG hx, bd2_s, if_pos (by decide)]
  by_cases hd : n < (aS a).1
  · rcases i_casesQ y with hy | ⟨t, ht, rfl⟩
    · refine ⟨-1, a, fun μ h => x_same h hN ?_, fun ν h => m_start h fun Q ν1 _ hI _ => m_same hI hN ?_⟩
      · unfold f_x_hops
        rw [st_has h.2.1.1 hn, bd2_s, decide_eq_true hd, if_neg (by decide), st_hasG hy, bd2_s, if_pos (by decide)]
      · rw [m_isOne hI.2.1.1 hn, bd2_s, decide_eq_true hd, if_neg (by decide), m_isOneG hy, bd2_s, if_pos (by decide)]
    by_cases hd2 : t < (aS a).1
    · refine ⟨(hpA a n t).1, (hpA a n t).2, fun μ h => ?_, fun ν h => m_start h fun Q ν1 _ hI _ => ?_⟩
      · obtain ⟨μ', k1, k2⟩ := x_pass hN hp hd2 hd h.XI
        refine ⟨μ', ?_, k2⟩
        unfold f_x_hops
        rw [st_has h.2.1.1 hn, bd2_s, decide_eq_true hd, if_neg (by decide), st_has h.2.1.1 ht, bd2_s, decide_eq_true hd2, if_neg (by decide), k1, bd2_s]
      · rw [m_isOne hI.2.1.1 hn, bd2_s, decide_eq_true hd, if_neg (by decide), m_isOne hI.2.1.1 ht, bd2_s, decide_eq_true hd2, if_neg (by decide)]
        exact m_hop_0 hN hp hd2 hd (aS a).1 0 FU ν1 (by omega) (by unfold FU; omega) hI (fun x hx => absurd hx (by omega))
    · refine ⟨-1, a, fun μ h => x_same h hN ?_, fun ν h => m_start h fun Q ν1 _ hI _ => m_same hI hN ?_⟩
      · unfold f_x_hops
        rw [st_has h.2.1.1 hn, bd2_s, decide_eq_true hd, if_neg (by decide), st_has h.2.1.1 ht, bd2_s, decide_eq_false hd2, if_pos (by decide)]
      · rw [m_isOne hI.2.1.1 hn, bd2_s, decide_eq_true hd, if_neg (by decide), m_isOne hI.2.1.1 ht, bd2_s, decide_eq_false hd2, if_pos (by decide)]
  · refine ⟨-1, a, fun μ h => x_same h hN ?_, fun ν h => m_start h fun Q ν1 _ hI _ => m_same hI hN ?_⟩
    · unfold f_x_hops
      rw [st_has h.2.1.1 hn, bd2_s, decide_eq_false hd, if_pos (by decide)]
    · rw [m_isOne hI.2.1.1 hn, bd2_s, decide_eq_false hd, if_pos (by decide)]
end OPS
