/-! Class and reference on one memory: a call of the one leaves what is the other's. -/
theorem XR.low {N : Nat} {a : Ab} {μ μ' : Mem} (h : XR N a μ) (e : ∀ v, v < 133 → μ'.1 v = μ.1 v) (hl : ∀ v, v < 9 → μ'.2.1 v = μ.2.1 v) (hc : μ'.2.2 = μ.2.2) : XR N a μ' := by
  obtain ⟨hW, ⟨p1, p2, p3, p4, p5, p6⟩, V, CL, ee, h1, h2, h3, h4, h5⟩ := h
  have hx : ∀ t j, t < 3 → j < 22 → μ'.1 (vSt t j) = μ.1 (vSt t j) := fun t j _ _ => e _ (by show 5 + 22 * t + j < 133; omega)
  exact ⟨hW, ⟨p1.of (fun j hj _ _ _ _ _ => hx 0 j (by omega) hj), ⟨fun i hi => by rw [hx 0 5 (by omega) (by omega)]; exact p2.1 i hi, by rw [hx 0 2 (by omega) (by omega)]; exact p2.2.1, fun d hd => by rw [hx 0 6 (by omega) (by omega)]; exact p2.2.2 d hd⟩, ⟨by rw [e _ (by decide)]; exact p3.1, fun k hk => by rw [e _ (by decide)]; exact p3.2 k hk⟩, ⟨by rw [e _ (by decide)]; exact p4.1, fun k hk => by rw [hl _ (by decide)]; exact p4.2 k hk⟩, p5.of (by omega) (e _ (by decide)) (fun j hj => hx 1 j (by omega) hj), p6.of (by omega) (e _ (by decide)) (fun j hj => hx 2 j (by omega) hj)⟩, V, CL, ee, h1, h2, h3, h4.fr (hx 0 3 (by omega) (by omega)) (fun v _ _ => e v (by omega)) (fun v _ _ => hl v (by omega)) hc, h5.fr (fun v _ _ => e v (by omega))⟩
theorem MR.high {N : Nat} {a : Ab} {μ μ' : Mem} (h : MR N a μ) (e : ∀ v, 133 ≤ v → μ'.1 v = μ.1 v) (hl : μ'.2.1 9 = μ.2.1 9) : MR N a μ' := by
  obtain ⟨hW, ⟨p1, ⟨d1, d2, d3⟩, ⟨t1, t2⟩, ⟨r1, r2⟩, p5⟩, hN, Q, hQ, q1, q2, q3⟩ := h
  exact ⟨hW, ⟨p1.of (fun v hv => e v (by omega)), ⟨fun i hi => by rw [e _ (by decide)]; exact d1 i hi, by rw [e _ (by decide)]; exact d2, fun d hd => by rw [e _ (by decide)]; exact d3 d hd⟩, ⟨by rw [e _ (by decide)]; exact t1, fun k hk => by rw [e _ (by decide)]; exact t2 k hk⟩, ⟨by rw [e _ (by decide)]; exact r1, fun k hk => by show μ'.2.1 9 k = _; rw [hl]; exact r2 k hk⟩, p5.of rfl rfl (fun v hv => e v (by omega))⟩, hN, Q, hQ, by rw [e _ (by decide)]; exact q1, fun k hk => by rw [e _ (by decide)]; exact q2 k hk, fun k hk => by rw [e _ (by decide)]; exact q3 k hk⟩
theorem XU.low {U : Nat → List Nat} {μ μ' : Mem} (h : XU U μ) (hf : ∀ v, v < 133 → μ'.1 v = μ.1 v) : XU U μ' := by
  obtain ⟨hv, i0, i1, i2, hi, h0, h1, h2, h3, h4⟩ := h
  have e : ∀ i, i < 3 → μ'.1 (vRu i 0) = μ.1 (vRu i 0) ∧ μ'.1 (vRu i 2) = μ.1 (vRu i 2) := fun i hi => ⟨hf _ (by have : vRu i 0 = 81 + 4 * i := rfl; omega), hf _ (by have : vRu i 2 = 81 + 4 * i + 2 := rfl; omega)⟩
  exact ⟨hv, i0, i1, i2, hi, by rw [hf _ (by decide)]; exact h0, by rw [hf _ (by decide)]; exact h1, by rw [hf _ (by decide)]; exact h2, h3.of (e i0 hi.1).1 (e i0 hi.1).2, h4.of (e i1 hi.2.1).1 (e i1 hi.2.1).2⟩
/-- both stand behind N calls, at one state -/
def One (N : Nat) (a : Ab) (U : Nat → List Nat) (μ : Mem) : Prop := XR N a μ ∧ XU U μ ∧ MR N a μ ∧ MU U μ
/-- a throw makes a cell of at most six slots: the call that made it pays for it -/
theorem XR.thrown {N z : Nat} {a a' : Ab} {μ : Mem} (h : XR N a μ) (h' : XR (N + 1) a' μ) (hz : z ≤ 6) : XR (N + 1) a' (addC μ 1 z) := by
  obtain ⟨hW, -, V, CL, e, h1, h2, h3, ⟨KL, g1, g2, g3, g4, g5, g6⟩, h5⟩ := h
  obtain ⟨hW', hP', V', CL', e', h1', h2', h3', ⟨KL', g1', g2', g3', g4', g5', g6'⟩, h5'⟩ := h'
  have b14 : ∀ {p n : Nat}, p ≤ 14 → isP2 p n → n < 2 ^ 31 := fun {p n} hp h => by
    rcases h with rfl | ⟨q, hq, rfl⟩
    · decide
    · have : 2 ^ q ≤ 2 ^ 14 := Nat.pow_le_pow_right (by omega) (by omega)
      omega
  have eK : KL = KL' := nI_inj (b14 hW.1.1 g4) (b14 hW'.1.1 g4') (g3.symm.trans g3')
  have hC : CL ≤ 114688 := g5.2.2.1
  have hC' : CL' ≤ 114688 := g5'.2.2.1
  have eC : CL = CL' := nI_inj (by omega) (by omega) (h5.1.symm.trans h5'.1)
  subst eK; subst eC
  obtain ⟨c1, c2, c3, c4⟩ := g5
  refine ⟨hW', ⟨hP'.1, hP'.2.1, hP'.2.2.1, hP'.2.2.2.1, hP'.2.2.2.2.1, hP'.2.2.2.2.2⟩, V', CL, e + 1, h1', by omega, h3', ⟨KL, HCk.frB (e := e') (CL := CL) ⟨g1', g2', g3', g4', g5', g6'⟩ rfl (fun _ _ _ => rfl) (fun _ _ _ => rfl) ?_⟩, MC.fr h5' (fun _ _ _ => rfl)⟩
  refine ⟨?_, ?_, c3, by omega⟩
  · show μ.2.2.1 + 1 ≤ _
    omega
  · show μ.2.2.2 + z ≤ _
    omega
/-- the room that is left -/
theorem XR.room {N : Nat} {a : Ab} {μ : Mem} (h : XR N a μ) : μ.2.2.1 + 1 ≤ LIMc ∧ μ.2.2.2 + 6 ≤ LIMs := by
  obtain ⟨hW, -, V, CL, e, h1, h2, h3, ⟨KL, g1, g2, g3, g4, ⟨c1, c2, c3, c4⟩, g6⟩, h5⟩ := h
  have hK : KL ≤ 2 ^ 14 := by
    rcases g4 with rfl | ⟨q, hq, rfl⟩
    · decide
    · exact Nat.pow_le_pow_right (by omega) (Nat.le_trans hq hW.1.1)
  unfold C0n at c1
  unfold S0n at c2
  unfold LIMc LIMs
  omega
section STEP
variable {N : Nat} {a : Ab} {U : Nat → List Nat} {μ : Mem}
/-- the reference's call behind the class's -/
theorem One.ref {α : Type} {a' : Ab} {U' : Nat → List Nat} {μ1 : Mem} {fm : Mem → Option (α × Mem)} {P : α → Mem → Prop} (h : One N a U μ) (hx : XR (N + 1) a' μ1) (hu : XU U' μ1) (e : ∀ v, 133 ≤ v → μ1.1 v = μ.1 v) (hl : μ1.2.1 9 = μ.2.1 9)
    (k : ∀ ν, MR N a ν → MU U ν → ∃ ans ν', fm ν = some (ans, ν') ∧ MOr N a' U' ν ν' ∧ P ans ν') : ∃ ans μ2, fm μ1 = some (ans, μ2) ∧ One (N + 1) a' U' μ2 ∧ P ans μ2 ∧ ∀ v, v ≠ 9 → μ2.2.1 v = μ1.2.1 v := by
  obtain ⟨ans, μ2, k1, ⟨m1, m2, m3, m4, m5⟩, k3⟩ := k μ1 (h.2.2.1.high e hl) (h.2.2.2.of (fun v hv => e v (by omega)))
  exact ⟨ans, μ2, k1, ⟨hx.low m3 (fun v hv => m4 v (by omega)) m5, hu.low m3, m1, m2⟩, k3, m4⟩
theorem OpU.step {fx fm : Mem → Option (Int32 × Mem)} (o : OpU N a U fx fm) (h : One N a U μ) (hN : N < 600) : ∃ ans μ1 μ2 a' U', fx μ = some (ans, μ1) ∧ fm μ1 = some (ans, μ2) ∧ One (N + 1) a' U' μ2 := by
  obtain ⟨ans, a', U', g1, g2⟩ := o h.1.1 hN
  obtain ⟨μ1, x1, x2, x3, x4, x5⟩ := g1 μ h.1 h.2.1
  obtain ⟨ans', μ2, k1, k2, k3, -⟩ := h.ref x2 x3 x4 (x5 9 (by decide)) (P := fun v _ => v = ans) (fun ν n1 n2 => by
    obtain ⟨ν', q1, q2⟩ := g2 ν n1 n2
    exact ⟨ans, ν', q1, q2, rfl⟩)
  subst k3
  exact ⟨_, μ1, μ2, a', U', x1, k1, k2⟩
theorem OpLU.step {fx fm : Mem → Option (Int64 × Mem)} (o : OpLU N a U fx fm) (h : One N a U μ) (hN : N < 600) : ∃ ans μ1 μ2 a' U', fx μ = some (ans, μ1) ∧ fm μ1 = some (ans, μ2) ∧ One (N + 1) a' U' μ2 := by
  obtain ⟨ans, a', U', g1, g2⟩ := o h.1.1 hN
  obtain ⟨μ1, x1, x2, x3, x4, x5⟩ := g1 μ h.1 h.2.1
  obtain ⟨ans', μ2, k1, k2, k3, -⟩ := h.ref x2 x3 x4 (x5 9 (by decide)) (P := fun v _ => v = ans) (fun ν n1 n2 => by
    obtain ⟨ν', q1, q2⟩ := g2 ν n1 n2
    exact ⟨ans, ν', q1, q2, rfl⟩)
  subst k3
  exact ⟨_, μ1, μ2, a', U', x1, k1, k2⟩
/-- a call that may throw: it answers, and out's place 0 holds any w when the reference is asked; or it throws, with a cell of z slots more -/
theorem OpTU.step {α : Type} {fx : Mem → Option (α × Mem)} {ft : Mem → Option Mem} {fm : Mem → Option (α × Mem)} (o : OpTU N a U fx ft fm) (hft : ∀ μ μ', ft μ = some μ' → μ' = μ) (h : One N a U μ) (hN : N < 600) :
    (∃ ans μ1, fx μ = some (ans, μ1) ∧ ∀ w : Int64, ∃ μ2 a' U', fm (setL μ1 l_out 0 w) = some (ans, μ2) ∧ One (N + 1) a' U' μ2 ∧ μ2.1 v_m_thrown 0 = 0 ∧ μ2.2.1 l_out 0 = w) ∨
    (ft μ = some μ ∧ ∀ z, z ≤ 6 → ∃ ans μ2 a' U', fm (addC μ 1 z) = some (ans, μ2) ∧ One (N + 1) a' U' μ2 ∧ μ2.1 v_m_thrown 0 = 1) := by
  rcases o h.1.1 hN with ⟨ans, a', U', g1, g2⟩ | ⟨a', U', g1, g2⟩
  · left
    obtain ⟨μ1, x1, x2, x3, x4, x5⟩ := g1 μ h.1 h.2.1
    refine ⟨ans, μ1, x1, fun w => ?_⟩
    obtain ⟨ans', μ2, k1, k2, k3, k4⟩ := h.ref (μ1 := setL μ1 l_out 0 w) (x2.low (fun _ _ => rfl) (fun v hv => sL_v μ1 0 w (by show ¬ v = 10; omega)) rfl) (x3.low (fun _ _ => rfl)) x4 ((sL_v μ1 0 w (by decide)).trans (x5 9 (by decide))) (P := fun v ν' => v = ans ∧ ν'.1 v_m_thrown 0 = nI 0) (fun ν n1 n2 => by
      obtain ⟨ν', q1, q2, q3⟩ := g2 ν n1 n2
      exact ⟨ans, ν', q1, q2, rfl, q3⟩)
    obtain ⟨rfl, k3⟩ := k3
    exact ⟨μ2, a', U', k1, k2, k3, by rw [k4 l_out (by decide)]; simp [setL, vp_updL]⟩
  · right
    obtain ⟨μ', x1, x2, x3, x4, x5⟩ := g1 μ h.1 h.2.1
    cases hft _ _ x1
    refine ⟨x1, fun z hz => ?_⟩
    obtain ⟨ans', μ2, k1, k2, k3, -⟩ := h.ref (μ1 := addC μ 1 z) (h.1.thrown x2 hz) (x3.low (fun _ _ => rfl)) (fun _ _ => rfl) rfl (P := fun v ν' => ν'.1 v_m_thrown 0 = nI 1) (fun ν n1 n2 => g2 ν n1 n2)
    exact ⟨ans', μ2, a', U', k1, k2, k3⟩
end STEP
theorem has_same {x v : Int32} {μ μ1 : Mem} (h : f_st_has x μ = some (v, μ1)) : μ1 = μ := by
  unfold f_st_has at h
  simp only [bnd, chk] at h
  split at h
  · cases h; rfl
  · cases h
theorem isShop_same {x v : Int32} {μ μ1 : Mem} (h : f_x_isShop x μ = some (v, μ1)) : μ1 = μ := by
  unfold f_x_isShop at h
  simp only [bnd, chk] at h
  split at h
  · cases h; rfl
  · cases h
