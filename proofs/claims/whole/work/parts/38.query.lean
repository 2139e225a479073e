/-! A question to the class: what its inner tables do meanwhile. -/
/-- the class's tables, behind N calls, the memo's stamp no more than b.1, b.2 changes since -/
def XQb (N : Nat) (b : Nat × Nat) (S : SP) (μ : Mem) : Prop := ∃ V CL e, V ≤ 1 + 60 * N + b.2 ∧ e ≤ N ∧ (N ≤ 600 ∧ b.1 ≤ 4 * N + 4 ∧ b.2 ≤ 60) ∧ HC S V CL e μ ∧ MC S.1 CL b.1 μ
def XI (N : Nat) (b : Nat × Nat) (a : Ab) (μ0 μ : Mem) : Prop := WF a ∧ XP a μ ∧ XQb N b (aS a) μ ∧ OFr μ0 μ
theorem XR.XI {N : Nat} {a : Ab} {μ : Mem} (h : XR N a μ) : XI N (4 * N, 0) a μ μ := by
  obtain ⟨h1, h2, V, CL, e, k1, k2, k3, k4, k5⟩ := h
  exact ⟨h1, h2, ⟨V, CL, e, k1, k2, ⟨k3, by show 4 * N ≤ _; omega, Nat.zero_le 60⟩, k4, k5⟩, OFr.rf μ⟩
theorem XQb.XQ {N : Nat} {b : Nat × Nat} {S : SP} {μ : Mem} (h : XQb N b S μ) (hN : N < 600) : XQ (N + 1) S μ := by
  obtain ⟨V, CL, e, k1, k2, k3, k4, k5⟩ := h
  exact ⟨V, CL, e, by omega, by omega, by omega, k4, k5.up (by omega)⟩
theorem rFr.IFx {μ μ' : Mem} (h : rFr μ μ') : ∀ v, v ≠ 4 → μ'.1 v = μ.1 v := h.1
/-- the answer of a question that tells nothing -/
theorem XI.done {N : Nat} {b : Nat × Nat} {a : Ab} {μ0 μ : Mem} (h : XI N b a μ0 μ) (hN : N < 600) : XO N a μ0 μ := ⟨⟨h.1, h.2.1, h.2.2.1.XQ hN⟩, h.2.2.2⟩
abbrev aSetR (a : Ab) (r : List Int64) : Ab := (a.1, a.2.1, a.2.2.1, a.2.2.2.1, r, a.2.2.2.2.2)
abbrev aSetT (a : Ab) (t : List Nat) : Ab := (a.1, a.2.1, a.2.2.1, t, a.2.2.2.2)
abbrev aSetZ (a : Ab) (z : Nat × (Nat → Nat)) : Ab := (a.1, a.2.1, z, a.2.2.2)
abbrev aSetP (a : Ab) (pr : Nat → Nat) : Ab := (a.1, pr, a.2.2)
abbrev aSetS (a : Ab) (S : SP) : Ab := (S, a.2)
theorem XB.of {S : SP} {μ μ' : Mem} (h : XB S μ) (he : ∀ j, j < 22 → j ≠ 2 → j ≠ 3 → j ≠ 5 → j ≠ 6 → j ≠ 7 → μ'.1 (vSt 0 j) = μ.1 (vSt 0 j)) : XB S μ' :=
  ⟨by rw [he 0 (by omega) (by omega) (by omega) (by omega) (by omega) (by omega)]; exact h.1, fun i j hi hj => by rw [he (8 + i) (by omega) (by omega) (by omega) (by omega) (by omega) (by omega)]; exact h.2.1 i j hi hj, fun i hi => by rw [he 4 (by omega) (by omega) (by omega) (by omega) (by omega) (by omega)]; exact h.2.2.1 i hi, by rw [he 1 (by omega) (by omega) (by omega) (by omega) (by omega) (by omega)]; exact h.2.2.2.1, h.2.2.2.2⟩
theorem XK1.of {o : Option KP} {s : Nat} {μ μ' : Mem} (hs : s < 2) (h : XK1 o s μ) (hk : μ'.1 2 = μ.1 2) (he : ∀ j, j < 22 → μ'.1 (vSt (1 + s) j) = μ.1 (vSt (1 + s) j)) : XK1 o s μ' := by
  cases o with
  | none => show μ'.1 2 s = 0; rw [hk]; exact h
  | some k =>
    obtain ⟨h1, h2, h3, h4, h5, h6⟩ := h
    exact ⟨by rw [show v_x_isKept = 2 from rfl, hk]; exact h1, by rw [he 0 (by omega)]; exact h2, by rw [he 2 (by omega)]; exact h3, fun d hd => by rw [he 6 (by omega)]; exact h4 d hd, fun i j hi hj => by rw [he (8 + i) (by omega)]; exact h5 i j hi hj, fun i hi => by rw [he 4 (by omega)]; exact h6 i hi⟩
theorem XQb.of {N : Nat} {b : Nat × Nat} {S : SP} {μ μ' : Mem} (h : XQb N b S μ) (hv : μ'.1 (vSt 0 3) = μ.1 (vSt 0 3)) (he : ∀ v, 93 ≤ v → v ≤ 108 → μ'.1 v = μ.1 v) (hl : ∀ v, 1 ≤ v → v ≤ 4 → μ'.2.1 v = μ.2.1 v) (hc : μ'.2.2 = μ.2.2) : XQb N b S μ' := by
  obtain ⟨V, CL, e, k1, k2, k3, k4, k5⟩ := h
  exact ⟨V, CL, e, k1, k2, k3, k4.fr hv (fun v h1 h2 => he v h1 (by omega)) hl hc, k5.fr (fun v h1 h2 => he v (by omega) h2)⟩
/-- the answer of a question that tells r -/
theorem XI.told {N : Nat} {b : Nat × Nat} {a : Ab} {μ0 μ μ' : Mem} {r : List Int64} (h : XI N b a μ0 μ) (hN : N < 600) (hr : r.length ≤ 16) (hw : XW r μ') (hf : rFr μ μ') : XO N (aSetR a r) μ0 μ' := by
  obtain ⟨⟨w1, w2, w3, w4, w5, w6, w7⟩, ⟨p1, p2, p3, p4, p5, p6⟩, hQ, hI⟩ := h
  have hx : ∀ t j, t < 3 → j < 22 → μ'.1 (vSt t j) = μ.1 (vSt t j) := fun t j _ _ => hf.1 _ (by show 5 + 22 * t + j ≠ 4; omega)
  refine ⟨⟨⟨w1, w2, w3, w4, w5, hr, w7⟩, ⟨p1.of (fun j hj _ _ _ _ _ => hx 0 j (by omega) hj), ⟨fun i hi => ?_, ?_, fun d hd => ?_⟩, ⟨?_, fun k hk => ?_⟩, hw, p5.of (by omega) (hf.1 _ (by decide)) (fun j hj => hx 1 j (by omega) hj), p6.of (by omega) (hf.1 _ (by decide)) (fun j hj => hx 2 j (by omega) hj)⟩, (hQ.of (hx 0 3 (by omega) (by omega)) (fun v h1 h2 => hf.1 v (by show v ≠ 4; omega)) (fun v h1 h2 => hf.2.1 v (by show v ≠ 0; omega)) hf.2.2).XQ hN⟩, hI.tr ⟨fun v hv => hf.1 v (by show v ≠ 4; omega), fun v hv => hf.2.1 v (by show v ≠ 0; omega)⟩⟩
  · rw [hx 0 5 (by omega) (by omega)]; exact p2.1 i hi
  · rw [hx 0 2 (by omega) (by omega)]; exact p2.2.1
  · rw [hx 0 6 (by omega) (by omega)]; exact p2.2.2 d hd
  · rw [hf.1 _ (by decide)]; exact p3.1
  · rw [hf.1 _ (by decide)]; exact p3.2 k hk
/-- the DAY behind -/
theorem XI.after {N : Nat} {b : Nat × Nat} {a : Ab} {μ0 μ : Mem} (h : XI N b a μ0 μ) {s : Nat} (hs : s < 2 ^ (aS a).1) : ∃ μ', f_he_after 0 (nI s) μ = some (nI (nxt (aS a) s), μ') ∧ XI N b a μ0 μ' ∧ AF μ μ' := by
  obtain ⟨hW, hP, ⟨V, CL, e, k1, k2, k3, k4, k5⟩, hI⟩ := h
  obtain ⟨μ', l1, l2, l3⟩ := he_after hP.1 k4 hs
  exact ⟨μ', l1, ⟨hW, l3.IFr.XP hP, ⟨V, CL, e, k1, k2, k3, l2, k5.fr (fun v h1 h2 => l3.1 v (by omega))⟩, hI.tr l3.IFr.OFr⟩, l3⟩
/-- a change of a variable that is nobody's -/
theorem XI.put {N : Nat} {b : Nat × Nat} {a : Ab} {μ0 μ : Mem} (h : XI N b a μ0 μ) {v : Nat} (i : Nat) (x : Int32) (hv : 109 ≤ v ∧ v ≤ 132) : XI N b a μ0 (setI μ v i x) := by
  have hi : IFr μ (setI μ v i x) := IFr.I μ i x (by unfold inn; omega)
  exact ⟨h.1, hi.XP h.2.1, h.2.2.1.of (by rw [sI_v]; show 5 + 22 * 0 + 3 ≠ v; omega) (fun u _ _ => sI_v _ _ _ (by omega)) (fun u _ _ => rfl) rfl, h.2.2.2.tr hi.OFr⟩
/-! the memo -/
theorem m15_ver {w u : Nat} (hw : w < 65536) (hu : u < 32768) : ((nI (w * 32768 + u)).toUInt32 >>> ((15 : Int32).toUInt32 &&& Int32.toUInt32 31)).toInt32 = nI w := by
  rw [pk_ushrN (by omega) (15 : Int32) 15 (by decide)]
  congr 1
  omega
theorem m15_val {w u : Nat} (hu : u < 32768) : nI (w * 32768 + u) &&& (32767 : Int32) = nI u := by
  rw [l_32767, i_and, show (32767 : Nat) = 2 ^ 15 - 1 from rfl, Nat.and_two_pow_sub_one_eq_mod]
  congr 1
  omega
theorem m15_mk {w u : Nat} (hw : w < 65536) (hu : u < 32768) : (nI w <<< ((15 : Int32) &&& 31)) ||| nI u = nI (w * 32768 + u) := by
  rw [show ((15 : Int32) &&& 31) = (nI 15 &&& 31) from rfl, i_shl (by omega) (by omega), i_or]
  congr 1
  have := Nat.two_pow_add_eq_or_of_lt (i := 15) (b := u) hu w
  rw [Nat.mul_comm w, ← this, Nat.mul_comm]
/-- the memo says f -/
def ME (p : Nat) (f : Nat → Nat → Option Nat) (μ : Mem) : Prop := μ.1 v_me_size 0 = nI (2 ^ p) ∧ ∃ CL ST, μ.1 v_me_cellsLen 0 = nI CL ∧ 7 * 2 ^ p ≤ CL ∧ CL ≤ 114688 ∧ μ.1 v_me_stamp 0 = nI ST ∧ ST < 65536 ∧
  ∀ l s, l < 7 → s < 2 ^ p → ∃ w u, w < 65536 ∧ u < 32768 ∧ μ.1 v_me_cells (l * 2 ^ p + s) = nI (w * 32768 + u) ∧ f l s = if w = ST then some u else none
theorem ME.fr {p : Nat} {f : Nat → Nat → Option Nat} {μ μ' : Mem} (h : ME p f μ) (he : ∀ v, 105 ≤ v → v ≤ 108 → μ'.1 v = μ.1 v) : ME p f μ' := by
  obtain ⟨h1, CL, ST, h2, h3, h3', h4, h5, h6⟩ := h
  exact ⟨by rw [he _ (by decide) (by decide)]; exact h1, CL, ST, by rw [he _ (by decide) (by decide)]; exact h2, h3, h3', by rw [he _ (by decide) (by decide)]; exact h4, h5, fun l s hl hs => by rw [he _ (by decide) (by decide)]; exact h6 l s hl hs⟩
theorem lev_lt {p l s : Nat} (hp : p ≤ 14) (hl : l < 7) (hs : s < 2 ^ p) : l * 2 ^ p + s < 7 * 2 ^ p ∧ 7 * 2 ^ p ≤ 114688 := by
  have h1 : (l + 1) * 2 ^ p ≤ 7 * 2 ^ p := Nat.mul_le_mul_right _ (by omega)
  have h2 := p2_14 hp
  rw [Nat.add_mul] at h1
  omega
theorem lev_inj {p l s l' s' : Nat} (hs : s < 2 ^ p) (hs' : s' < 2 ^ p) (h : l * 2 ^ p + s = l' * 2 ^ p + s') : l = l' ∧ s = s' := by
  have h0 : 0 < 2 ^ p := by omega
  have h1 : (s + 2 ^ p * l) / 2 ^ p = l := by rw [Nat.add_mul_div_left _ _ h0, Nat.div_eq_of_lt hs, Nat.zero_add]
  have h2 : (s' + 2 ^ p * l') / 2 ^ p = l' := by rw [Nat.add_mul_div_left _ _ h0, Nat.div_eq_of_lt hs', Nat.zero_add]
  have h3 : s + 2 ^ p * l = s' + 2 ^ p * l' := by rw [Nat.mul_comm _ l, Nat.mul_comm _ l']; omega
  have h4 : l = l' := by rw [← h1, ← h2, h3]
  subst h4
  exact ⟨rfl, by omega⟩
/-- an answer of the memo: none is -1 -/
def oI (o : Option Nat) : Int32 := match o with
  | none => -1
  | some u => nI u
theorem me_recall {p : Nat} {f : Nat → Nat → Option Nat} {μ : Mem} (hp : p ≤ 14) (h : ME p f μ) {l s : Nat} (hl : l < 7) (hs : s < 2 ^ p) : f_me_recall (nI l) (nI s) μ = some (oI (f l s), μ) := by
  obtain ⟨h1, CL, ST, h2, h3, h3', h4, h5, h6⟩ := h
  obtain ⟨k1, k2⟩ := lev_lt hp hl hs
  obtain ⟨w, u, q1, q2, q3, q4⟩ := h6 l s hl hs
  unfold f_me_recall
  rw [h1, i_mul, i_add, h2, cl_nI (by omega), inb_n (by omega) (by omega), chk_t, cl_nI (by omega), q3, bnd_s, m15_ver q1 q2, h4, m15_val q2, q4]
  by_cases e : w = ST
  · rw [if_pos (by rw [e]), bnd_s, if_pos e]; rfl
  · rw [if_neg (fun q => e (nI_inj (by omega) (by omega) q)), bnd_s, if_neg e]; rfl
def fup (f : Nat → Nat → Option Nat) (l s u : Nat) : Nat → Nat → Option Nat := fun l' s' => if l' = l ∧ s' = s then some u else f l' s'
theorem me_note {N : Nat} {b : Nat × Nat} {a : Ab} {μ0 μ : Mem} {f : Nat → Nat → Option Nat} (hX : XI N b a μ0 μ) (h : ME (aS a).1 f μ) {l s u : Nat} (hl : l < 7) (hs : s < 2 ^ (aS a).1) (hu : u < 32768) :
    ∃ μ', f_me_note (nI l) (nI s) (nI u) μ = some μ' ∧ XI N b a μ0 μ' ∧ ME (aS a).1 (fup f l s u) μ' ∧ ∀ v, v ≠ v_me_cells → μ'.1 v = μ.1 v := by
  have hp := hX.1.1.1
  obtain ⟨h1, CL, ST, h2, h3, h3', h4, h5, h6⟩ := h
  obtain ⟨k1, k2⟩ := lev_lt hp hl hs
  refine ⟨setI μ v_me_cells (l * 2 ^ (aS a).1 + s) (nI (ST * 32768 + u)), ?_, ?_, ⟨?_, CL, ST, ?_, h3, h3', ?_, h5, fun l' s' hl' hs' => ?_⟩, fun v hv => sI_v _ _ _ hv⟩
  · unfold f_me_note
    rw [h1, i_mul, i_add, h2, cl_nI (by omega), inb_n (by omega) (by omega), chk_t, cl_nI (by omega), h4, m15_mk h5 hu, bnd_s]
  · have hi : IFr μ (setI μ v_me_cells (l * 2 ^ (aS a).1 + s) (nI (ST * 32768 + u))) := IFr.I μ _ _ (by unfold inn; decide)
    obtain ⟨hW, hP, ⟨V, CL', e, c1, c2, c3, c4, ⟨d1, d2, ST', d3, d4, d5⟩⟩, hI⟩ := hX
    have hST : ST' = ST := by
      have : nI ST' = nI ST := d4.symm.trans h4
      have hb : ST' < 2 ^ 31 := by omega
      exact nI_inj hb (by omega) this
    subst hST
    refine ⟨hW, hi.XP hP, ⟨V, CL', e, c1, c2, c3, c4.fr (hi.st (by omega) (by omega)) (fun v _ _ => sI_v _ _ _ (by show v ≠ 106; omega)) (fun _ _ _ => rfl) rfl, ⟨?_, d2, ST', d3, ?_, fun k hk => ?_⟩⟩, hI.tr hi.OFr⟩
    · rw [sI_v _ _ _ (by decide)]; exact d1
    · rw [sI_v _ _ _ (by decide)]; exact d4
    · by_cases ek : k = l * 2 ^ (aS a).1 + s
      · subst ek
        exact ⟨ST', u, Nat.le_refl _, hu, sI_eq _ _ _ _⟩
      · rw [sI_i _ _ _ ek]; exact d5 k hk
  · rw [sI_v _ _ _ (by decide)]; exact h1
  · rw [sI_v _ _ _ (by decide)]; exact h2
  · rw [sI_v _ _ _ (by decide)]; exact h4
  · unfold fup
    by_cases ek : l' = l ∧ s' = s
    · rw [if_pos ek, ek.1, ek.2]
      exact ⟨ST, u, h5, hu, sI_eq _ _ _ _, by rw [if_pos rfl]⟩
    · obtain ⟨w, u', q1, q2, q3, q4⟩ := h6 l' s' hl' hs'
      rw [if_neg ek]
      exact ⟨w, u', q1, q2, by rw [sI_i _ _ _ (fun q => ek (lev_inj hs' hs q))]; exact q3, q4⟩
theorem MC.CLle {p CL b : Nat} {μ : Mem} (hp : p ≤ 14) (h : MC p CL b μ) : CL ≤ 114688 := by
  rcases h.2.1 with h1 | ⟨q, hq, h1⟩
  · omega
  · have := p2_14 (Nat.le_trans hq hp)
    omega
/-- the memo begins anew -/
theorem me_begin {N : Nat} {b : Nat × Nat} {a : Ab} {μ0 μ : Mem} (hX : XI N b a μ0 μ) (hb : b.1 + 1 ≤ 4 * N + 4) :
    ∃ μ', f_me_begin (nI (aS a).1) μ = some μ' ∧ XI N (b.1 + 1, b.2) a μ0 μ' ∧ ME (aS a).1 (fun _ _ => none) μ' ∧ ∀ v, (v < 105 ∨ 109 ≤ v) → μ'.1 v = μ.1 v := by
  obtain ⟨hW, hP, ⟨V, CL, e, c1, c2, c3, ⟨KL, c4⟩, hM⟩, hI⟩ := hX
  have hp := hW.1.1
  have h14 := p2_14 hp
  have h1p := Nat.one_le_two_pow (n := (aS a).1)
  have hCL := hM.CLle hp
  obtain ⟨d1, d2, ST, d3, d4, d5⟩ := hM
  have hfr0 : ∀ x, ∀ v, (v < 105 ∨ 109 ≤ v) → (setI μ v_me_size 0 x).1 v = μ.1 v := fun x v hv => sI_v _ _ _ (by show v ≠ 107; omega)
  have fin : ∀ (CL' ST' : Nat) (ν : Mem), (∀ v, (v < 105 ∨ 109 ≤ v) → ν.1 v = μ.1 v) → ν.2.1 = μ.2.1 → HCk (aS a) V CL' e KL ν → ν.1 v_me_size 0 = nI (2 ^ (aS a).1) → ν.1 v_me_cellsLen 0 = nI CL' → 7 * 2 ^ (aS a).1 ≤ CL' → CL' ≤ 114688 → (CL' = 0 ∨ ∃ q, q ≤ (aS a).1 ∧ CL' = 7 * 2 ^ q) → ν.1 v_me_stamp 0 = nI ST' → ST' ≤ b.1 → (∀ k, k < CL' → ∃ w u, w ≤ ST' ∧ u < 32768 ∧ ν.1 v_me_cells k = nI (w * 32768 + u)) →
      ∃ μ', f_me_begin_b40 ν = some μ' ∧ XI N (b.1 + 1, b.2) a μ0 μ' ∧ ME (aS a).1 (fun _ _ => none) μ' ∧ ∀ v, (v < 105 ∨ 109 ≤ v) → μ'.1 v = μ.1 v := by
    intro CL' ST' ν g1 g2 g3 g4 g5 g6 g6' g7 g8 g9 g10
    have hs : ∀ v, v ≠ 108 → (setI ν v_me_stamp 0 (nI (ST' + 1))).1 v = ν.1 v := fun v hv => sI_v _ _ _ hv
    have hIF : IFr μ (setI ν v_me_stamp 0 (nI (ST' + 1))) := ⟨fun v hv => by
      have : v < 105 ∨ 109 ≤ v := by unfold inn at hv; omega
      rw [hs v (by omega)]; exact g1 v this, fun v _ => by rw [sI_2, g2]⟩
    refine ⟨setI ν v_me_stamp 0 (nI (ST' + 1)), ?_, ⟨hW, hIF.XP hP, ⟨V, CL', e, c1, c2, ⟨c3.1, hb, c3.2.2⟩, ⟨KL, ?_⟩, ⟨?_, g7, ST' + 1, by show ST' + 1 ≤ b.1 + 1; omega, sI_eq _ _ _ _, fun k hk => ?_⟩⟩, hI.tr hIF.OFr⟩, ⟨?_, CL', ST' + 1, ?_, g6, g6', sI_eq _ _ _ _, by omega, fun l s hl hs' => ?_⟩, fun v hv => ?_⟩
    · unfold f_me_begin_b40 f_me_begin_b62
      rw [g8, l_65535, if_neg (fun q => absurd (nI_inj (by omega) (by omega) q) (by omega)), l_1, i_add, bnd_s]
    · exact g3.fr (hs _ (by decide)) (fun v _ _ => hs v (by omega)) (fun _ _ _ => rfl) rfl
    · rw [hs _ (by decide)]; exact g5
    · obtain ⟨w, u, q1, q2, q3⟩ := g10 k hk
      exact ⟨w, u, by omega, q2, by rw [hs _ (by decide)]; exact q3⟩
    · rw [hs _ (by decide)]; exact g4
    · rw [hs _ (by decide)]; exact g5
    · obtain ⟨k1, k2⟩ := lev_lt hp hl hs'
      obtain ⟨w, u, q1, q2, q3⟩ := g10 (l * 2 ^ (aS a).1 + s) (by omega)
      exact ⟨w, u, by omega, q2, by rw [hs _ (by decide)]; exact q3, by rw [if_neg (by omega)]⟩
    · rw [hs v (by omega)]; exact g1 v hv
  unfold f_me_begin
  rw [i_one (by omega), bnd_s, sI_eq, sI_v _ _ _ (by decide), d1, cl_nI (by omega), l_7, i_mul, show Int32.ofNat CL = nI CL from rfl]
  by_cases hl : 7 * 2 ^ (aS a).1 ≤ CL
  · rw [if_pos ((i_leN (by omega) (by omega)).mpr hl)]
    refine fin CL ST _ (hfr0 _) rfl ?_ (sI_eq _ _ _ _) (by rw [sI_v _ _ _ (by decide)]; exact d1) hl hCL d2 (by rw [sI_v _ _ _ (by decide)]; exact d4) d3 (fun k hk => by rw [sI_v _ _ _ (by decide)]; exact d5 k hk)
    exact c4.fr (hfr0 _ _ (by decide)) (fun v _ _ => hfr0 _ v (by omega)) (fun _ _ _ => rfl) rfl
  · rw [if_neg (fun q => hl ((i_leN (by omega) (by omega)).mp q))]
    have hhalf : 2 * CL ≤ 7 * 2 ^ (aS a).1 := by
      rcases d2 with h0 | ⟨q, hq, h0⟩
      · omega
      · have hqp : q < (aS a).1 := by
          rcases Nat.lt_or_ge q (aS a).1 with h1 | h1
          · exact h1
          · exact absurd (Nat.mul_le_mul_left 7 (Nat.pow_le_pow_right (show 0 < 2 by omega) h1)) (by omega)
        have h2 : 2 ^ (q + 1) ≤ 2 ^ (aS a).1 := Nat.pow_le_pow_right (by omega) hqp
        rw [Nat.pow_succ] at h2
        omega
    obtain ⟨b1, b2, b3, b4⟩ := c4.2.2.2.2.1
    have hKL := p2_le hp c4.2.2.2.1
    have hok : nwOk (setI μ v_me_size 0 (nI (2 ^ (aS a).1))) (nI (7 * 2 ^ (aS a).1)) = true := by
      refine decide_eq_true ⟨i_nlt0 (by omega), ?_, ?_, ?_⟩
      · rw [cl_nI (by omega)]; omega
      · show μ.2.2.1 + 1 ≤ _; unfold C0n at b1; unfold LIMc; omega
      · show μ.2.2.2 + _ ≤ _; rw [cl_nI (by omega)]; unfold S0n at b2; unfold LIMs; omega
    rw [hok, chk_t, bnd_s, bnd_s]
    have hq : ∀ v, (setI (newMe (setI μ v_me_size 0 (nI (2 ^ (aS a).1))) (nI (7 * 2 ^ (aS a).1))) v_me_stamp 0 0).1 v = (setI (setI (setA (setI μ v_me_size 0 (nI (2 ^ (aS a).1))) v_me_cells (fun _ => 0)) v_me_cellsLen 0 (nI (7 * 2 ^ (aS a).1))) v_me_stamp 0 0).1 v := fun _ => rfl
    have hfr1 : ∀ v, (v < 105 ∨ 109 ≤ v) → (setI (newMe (setI μ v_me_size 0 (nI (2 ^ (aS a).1))) (nI (7 * 2 ^ (aS a).1))) v_me_stamp 0 0).1 v = μ.1 v := fun v hv => by
      rw [hq, sI_v _ _ _ (by show v ≠ 108; omega), sI_v _ _ _ (by show v ≠ 105; omega), sA_v _ _ (by show v ≠ 106; omega), sI_v _ _ _ (by show v ≠ 107; omega)]
    refine fin (7 * 2 ^ (aS a).1) 0 _ hfr1 rfl (c4.frB (hfr1 _ (by decide)) (fun v _ _ => hfr1 v (by omega)) (fun _ _ _ => rfl) ⟨?_, ?_, by omega, b4⟩) ?_ ?_ (Nat.le_refl _) (by omega) (Or.inr ⟨_, Nat.le_refl _, rfl⟩) (sI_eq _ _ _ _) (by omega) (fun k hk => ⟨0, 0, by omega, by omega, ?_⟩)
    · show μ.2.2.1 + 1 ≤ _; omega
    · show μ.2.2.2 + (nI (7 * 2 ^ (aS a).1)).toNatClampNeg ≤ _; rw [cl_nI (by omega)]; omega
    · rw [hq, sI_v _ _ _ (by decide), sI_v _ _ _ (by decide), sA_v _ _ (by decide), sI_eq]
    · rw [hq, sI_v _ _ _ (by decide), sI_eq]
    · rw [hq, sI_v _ _ _ (by decide), sI_v _ _ _ (by decide), sA_eq]; rfl
/-! the parts of the state that a call changes -/
theorem XI.days {N : Nat} {b : Nat × Nat} {a : Ab} {μ0 μ μ' : Mem} {z : Nat × (Nat → Nat)} (h : XI N b a μ0 μ) (hz : z.1 ≤ 200 ∧ ∀ d, d ≤ z.1 → z.2 d < 2 ^ (aS a).1) (he : ∀ v, v ≠ vSt 0 2 → v ≠ vSt 0 6 → μ'.1 v = μ.1 v) (hl : μ'.2 = μ.2) (h2 : μ'.1 (vSt 0 2) 0 = nI z.1) (h6 : ∀ d, d ≤ z.1 → μ'.1 (vSt 0 6) d = nI (z.2 d)) : XI N b (aSetZ a z) μ0 μ' := by
  obtain ⟨⟨w1, w2, w3, w4, w5, w6, w7⟩, ⟨p1, p2, p3, p4, p5, p6⟩, hQ, hI⟩ := h
  have e : ∀ v, v ≠ 7 → v ≠ 11 → μ'.1 v = μ.1 v := fun v h1 h2 => he v h1 h2
  have hx : ∀ t j, t < 3 → j < 22 → (t ≠ 0 ∨ (j ≠ 2 ∧ j ≠ 6)) → μ'.1 (vSt t j) = μ.1 (vSt t j) := fun t j _ _ _ => e _ (by show 5 + 22 * t + j ≠ 7; omega) (by show 5 + 22 * t + j ≠ 11; omega)
  refine ⟨⟨w1, w2, w3, hz, w5, w6, w7⟩, ⟨p1.of (fun j hj _ _ _ _ _ => hx 0 j (by omega) hj (by omega)), ⟨fun i hi => ?_, h2, h6⟩, ⟨?_, fun k hk => ?_⟩, ⟨?_, fun k hk => ?_⟩, p5.of (by omega) (e _ (by decide) (by decide)) (fun j hj => hx 1 j (by omega) hj (by omega)), p6.of (by omega) (e _ (by decide) (by decide)) (fun j hj => hx 2 j (by omega) hj (by omega))⟩, hQ.of (hx 0 3 (by omega) (by omega) (by omega)) (fun v h1 h2 => e v (by omega) (by omega)) (fun v _ _ => by rw [hl]) (by rw [hl]), hI.tr ⟨fun v hv => e v (by omega) (by omega), fun v _ => by rw [hl]⟩⟩
  · rw [hx 0 5 (by omega) (by omega) (by omega)]; exact p2.1 i hi
  · rw [e _ (by decide) (by decide)]; exact p3.1
  · rw [e _ (by decide) (by decide)]; exact p3.2 k hk
  · rw [e _ (by decide) (by decide)]; exact p4.1
  · rw [hl]; exact p4.2 k hk
theorem XI.price {N : Nat} {b : Nat × Nat} {a : Ab} {μ0 μ μ' : Mem} {pr : Nat → Nat} (h : XI N b a μ0 μ) (hz : ∀ i, i < (aS a).1 → pr i ≤ 9) (he : ∀ v, v ≠ vSt 0 5 → μ'.1 v = μ.1 v) (hl : μ'.2 = μ.2) (h5 : ∀ i, i < (aS a).1 → μ'.1 (vSt 0 5) i = nI (pr i)) : XI N b (aSetP a pr) μ0 μ' := by
  obtain ⟨⟨w1, w2, w3, w4, w5, w6, w7⟩, ⟨p1, p2, p3, p4, p5, p6⟩, hQ, hI⟩ := h
  have e : ∀ v, v ≠ 10 → μ'.1 v = μ.1 v := fun v h1 => he v h1
  have hx : ∀ t j, t < 3 → j < 22 → (t ≠ 0 ∨ j ≠ 5) → μ'.1 (vSt t j) = μ.1 (vSt t j) := fun t j _ _ _ => e _ (by show 5 + 22 * t + j ≠ 10; omega)
  refine ⟨⟨w1, w2, hz, w4, w5, w6, w7⟩, ⟨p1.of (fun j hj _ _ _ _ _ => hx 0 j (by omega) hj (by omega)), ⟨h5, ?_, fun d hd => ?_⟩, ⟨?_, fun k hk => ?_⟩, ⟨?_, fun k hk => ?_⟩, p5.of (by omega) (e _ (by decide)) (fun j hj => hx 1 j (by omega) hj (by omega)), p6.of (by omega) (e _ (by decide)) (fun j hj => hx 2 j (by omega) hj (by omega))⟩, hQ.of (hx 0 3 (by omega) (by omega) (by omega)) (fun v h1 h2 => e v (by omega)) (fun v _ _ => by rw [hl]) (by rw [hl]), hI.tr ⟨fun v hv => e v (by omega), fun v _ => by rw [hl]⟩⟩
  · rw [hx 0 2 (by omega) (by omega) (by omega)]; exact p2.2.1
  · rw [hx 0 6 (by omega) (by omega) (by omega)]; exact p2.2.2 d hd
  · rw [e _ (by decide)]; exact p3.1
  · rw [e _ (by decide)]; exact p3.2 k hk
  · rw [e _ (by decide)]; exact p4.1
  · rw [hl]; exact p4.2 k hk
theorem XI.text {N : Nat} {b : Nat × Nat} {a : Ab} {μ0 μ μ' : Mem} {t : List Nat} (h : XI N b a μ0 μ) (hz : t.length ≤ 80 ∧ ∀ b ∈ t, b < 256) (he : ∀ v, v ≠ v_x_text → v ≠ v_x_signs → μ'.1 v = μ.1 v) (hl : μ'.2 = μ.2) (ht : XT t μ') : XI N b (aSetT a t) μ0 μ' := by
  obtain ⟨⟨w1, w2, w3, w4, w5, w6, w7⟩, ⟨p1, p2, p3, p4, p5, p6⟩, hQ, hI⟩ := h
  have e : ∀ v, 2 ≤ v → μ'.1 v = μ.1 v := fun v h1 => he v (by show v ≠ 0; omega) (by show v ≠ 1; omega)
  have hx : ∀ t j, μ'.1 (vSt t j) = μ.1 (vSt t j) := fun t j => e _ (by show 2 ≤ 5 + 22 * t + j; omega)
  refine ⟨⟨w1, w2, w3, w4, hz, w6, w7⟩, ⟨p1.of (fun j hj _ _ _ _ _ => hx 0 j), ⟨fun i hi => ?_, ?_, fun d hd => ?_⟩, ht, ⟨?_, fun k hk => ?_⟩, p5.of (by omega) (e _ (by decide)) (fun j hj => hx 1 j), p6.of (by omega) (e _ (by decide)) (fun j hj => hx 2 j)⟩, hQ.of (hx 0 3) (fun v h1 h2 => e v (by omega)) (fun v _ _ => by rw [hl]) (by rw [hl]), hI.tr ⟨fun v hv => e v (by omega), fun v _ => by rw [hl]⟩⟩
  · rw [hx 0 5]; exact p2.1 i hi
  · rw [hx 0 2]; exact p2.2.1
  · rw [hx 0 6]; exact p2.2.2 d hd
  · rw [e _ (by decide)]; exact p4.1
  · rw [hl]; exact p4.2 k hk
/-- needs and loudness: the street's version goes up -/
theorem XI.street {N : Nat} {b : Nat × Nat} {a : Ab} {μ0 μ μ' : Mem} {S : SP} (h : XI N b a μ0 μ) (hb : b.2 < 60) (hp : S.1 = (aS a).1) (hz : SOk S ∧ zOut S.1 S.2.1) (he : ∀ v, v ≠ vSt 0 3 → v ≠ vSt 0 4 → (∀ i, i < 14 → v ≠ vSt 0 (8 + i)) → μ'.1 v = μ.1 v) (hl : μ'.2 = μ.2) (hv : μ'.1 (vSt 0 3) 0 = μ.1 (vSt 0 3) 0 + nI 1) (hB : XB S μ') : XI N (b.1, b.2 + 1) (aSetS a S) μ0 μ' := by
  obtain ⟨⟨w1, w2, w3, w4, w5, w6, w7⟩, ⟨p1, p2, p3, p4, p5, p6⟩, ⟨V, CL, e0, c1, c2, c3, ⟨KL, ⟨v1, v2, v3⟩, ⟨W, t1, t2, t3⟩, c5, c6, c7, c8⟩, hM⟩, hI⟩ := h
  have e : ∀ v, (v < 8 ∨ v = 10 ∨ v = 11 ∨ v = 12 ∨ 27 ≤ v) → μ'.1 v = μ.1 v := fun v h1 => he v (by show v ≠ 8; omega) (by show v ≠ 9; omega) (fun i hi => by show v ≠ 5 + 22 * 0 + (8 + i); omega)
  have hx : ∀ t j, t < 3 → j < 22 → t ≠ 0 → μ'.1 (vSt t j) = μ.1 (vSt t j) := fun t j _ _ _ => e _ (by right; right; right; right; show 27 ≤ 5 + 22 * t + j; omega)
  refine ⟨⟨hz.1, hz.2, fun i hi => w3 i (hp ▸ hi), ⟨w4.1, fun d hd => ?_⟩, w5, w6, fun s k hk => ?_⟩, ⟨hB, ⟨fun i hi => ?_, ?_, fun d hd => ?_⟩, ⟨?_, fun k hk => ?_⟩, ⟨?_, fun k hk => ?_⟩, p5.of (by omega) (e _ (by decide)) (fun j hj => hx 1 j (by omega) hj (by omega)), p6.of (by omega) (e _ (by decide)) (fun j hj => hx 2 j (by omega) hj (by omega))⟩, ⟨V + 1, CL, e0, by show V + 1 ≤ 1 + 60 * N + (b.2 + 1); omega, c2, ⟨c3.1, c3.2.1, hb⟩, ⟨KL, ⟨?_, by omega, by omega⟩, ⟨W, by omega, ?_, fun q => absurd q (by omega)⟩, ?_, ?_, ?_, fun s hs => ?_⟩, ?_⟩, hI.tr ⟨fun v hv => e v (by omega), fun v _ => by rw [hl]⟩⟩
  · show aZ a d < 2 ^ S.1; rw [hp]; exact w4.2 d hd
  · show KOk S.1 k; rw [hp]; exact w7 s k hk
  · rw [e _ (by decide)]; exact p2.1 i (hp ▸ hi)
  · rw [e _ (by decide)]; exact p2.2.1
  · rw [e _ (by decide)]; exact p2.2.2 d hd
  · rw [e _ (by decide)]; exact p3.1
  · rw [e _ (by decide)]; exact p3.2 k hk
  · rw [e _ (by decide)]; exact p4.1
  · rw [hl]; exact p4.2 k hk
  · rw [hv, v1, i_add]
  · rw [e _ (by decide)]; exact t2
  · rw [e _ (by decide)]; exact c5
  · show isP2 S.1 KL; rw [hp]; exact c6
  · unfold Bud; rw [hl]; exact c7
  · obtain ⟨w, u, q1, q2, q3, q4⟩ := c8 s hs
    exact ⟨w, u, by omega, q2, by rw [e _ (by decide)]; exact q3, fun q => absurd q (by omega)⟩
  · show MC S.1 CL b.1 μ'
    rw [hp]
    exact hM.fr (fun v h1 h2 => e v (by omega))
