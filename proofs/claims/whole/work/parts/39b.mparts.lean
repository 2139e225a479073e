/-! The parts of the reference's state that a call changes. -/
theorem MB.of {S : SP} {μ μ' : Mem} (h : MB S μ) (e : ∀ v, (v = 133 ∨ v = 134 ∨ v = 136 ∨ v = 137) → μ'.1 v = μ.1 v) : MB S μ' :=
  ⟨by rw [e _ (by decide)]; exact h.1, fun i j hi hj => by rw [e _ (by decide)]; exact h.2.1 i j hi hj, fun i hi => by rw [e _ (by decide)]; exact h.2.2.1 i hi, by rw [e _ (by decide)]; exact h.2.2.2.1, h.2.2.2.2⟩
theorem MDs.of {a : Ab} {μ μ' : Mem} (h : MDs a μ) (e : ∀ v, (v = 135 ∨ v = 138 ∨ v = 139) → μ'.1 v = μ.1 v) : MDs a μ' :=
  ⟨fun i hi => by rw [e _ (by decide)]; exact h.1 i hi, by rw [e _ (by decide)]; exact h.2.1, fun d hd => by rw [e _ (by decide)]; exact h.2.2 d hd⟩
theorem MT.of {t : List Nat} {μ μ' : Mem} (h : MT t μ) (e : ∀ v, (v = 140 ∨ v = 141) → μ'.1 v = μ.1 v) : MT t μ' :=
  ⟨by rw [e _ (by decide)]; exact h.1, fun k hk => by rw [e _ (by decide)]; exact h.2 k hk⟩
theorem MW.of {r : List Int64} {μ μ' : Mem} (h : MW r μ) (e : μ'.1 142 = μ.1 142) (hl : μ'.2.1 9 = μ.2.1 9) : MW r μ' :=
  ⟨by show μ'.1 142 0 = _; rw [e]; exact h.1, fun k hk => by show μ'.2.1 9 k = _; rw [hl]; exact h.2 k hk⟩
theorem MK1.of {T p s : Nat} {o : Option KP} {μ μ' : Mem} (h : MK1 T p o s μ) (e : ∀ v, (v = 169 ∨ v = 170 ∨ v = 171) → μ'.1 v = μ.1 v) : MK1 T p o s μ' := by
  cases o with
  | none => show μ'.1 v_m_isKept s = 0; rw [e _ (by decide)]; exact h
  | some k =>
    obtain ⟨h1, ⟨t, h2, h3, h4⟩, h5, h6, h7, h8⟩ := h
    exact ⟨by rw [e _ (by decide)]; exact h1, ⟨t, h2, by rw [e _ (by decide)]; exact h3, h4⟩, by rw [e _ (by decide)]; exact h5, fun d hd => by rw [e _ (by decide)]; exact h6 d hd, fun i j hi hj => by rw [e _ (by decide)]; exact h7 i j hi hj, fun i hi => by rw [e _ (by decide)]; exact h8 i hi⟩
theorem MKs.of {N : Nat} {a a' : Ab} {μ μ' : Mem} (h : MKs N a μ) (hp : (aS a').1 = (aS a).1) (hk : aK a' = aK a) (e : ∀ v, (v = 168 ∨ v = 169 ∨ v = 170 ∨ v = 171) → μ'.1 v = μ.1 v) : MKs N a' μ' := by
  obtain ⟨T, k1, k2, k3, k4⟩ := h
  refine ⟨T, k1, by rw [e _ (by decide)]; exact k2, ?_, ?_⟩
  · rw [hp, hk]; exact k3.of (fun v hv => e v (by omega))
  · rw [hp, hk]; exact k4.of (fun v hv => e v (by omega))
theorem MQn.of {Q : Nat} {μ μ' : Mem} (h : MQn Q μ) (e : ∀ v, (v = 151 ∨ v = 152 ∨ v = 160) → μ'.1 v = μ.1 v) : MQn Q μ' :=
  ⟨by rw [e _ (by decide)]; exact h.1, fun k hk => by rw [e _ (by decide)]; exact h.2.1 k hk, fun k hk => by rw [e _ (by decide)]; exact h.2.2 k hk⟩
theorem MI.days {N Q : Nat} {a : Ab} {μ0 μ μ' : Mem} {z : Nat × (Nat → Nat)} (h : MI N Q a μ0 μ) (hz : z.1 ≤ 200 ∧ ∀ d, d ≤ z.1 → z.2 d < 2 ^ (aS a).1) (e : ∀ v, v ≠ 138 → v ≠ 139 → μ'.1 v = μ.1 v) (hl : μ'.2 = μ.2) (h2 : μ'.1 v_m_days 0 = nI z.1) (h6 : ∀ d, d ≤ z.1 → μ'.1 v_m_states d = nI (z.2 d)) : MI N Q (aSetZ a z) μ0 μ' := by
  obtain ⟨⟨w1, w2, w3, w4, w5, w6, w7⟩, ⟨b, d, t, r, k⟩, q, h4, h5⟩ := h
  exact ⟨⟨w1, w2, w3, hz, w5, w6, w7⟩, ⟨b.of (fun v hv => e v (by omega) (by omega)), ⟨fun i hi => by rw [e _ (by decide) (by decide)]; exact d.1 i hi, h2, h6⟩, t.of (fun v hv => e v (by omega) (by omega)), r.of (e _ (by decide) (by decide)) (by rw [hl]), k.of rfl rfl (fun v hv => e v (by omega) (by omega))⟩, q.of (fun v hv => e v (by omega) (by omega)), h4, h5.tr ⟨fun v hv => e v (by omega) (by omega), fun v _ => by rw [hl], by rw [hl]⟩⟩
theorem MI.price {N Q : Nat} {a : Ab} {μ0 μ μ' : Mem} {pr : Nat → Nat} (h : MI N Q a μ0 μ) (hz : ∀ i, i < (aS a).1 → pr i ≤ 9) (e : ∀ v, v ≠ 135 → μ'.1 v = μ.1 v) (hl : μ'.2 = μ.2) (h5 : ∀ i, i < (aS a).1 → μ'.1 v_m_price i = nI (pr i)) : MI N Q (aSetP a pr) μ0 μ' := by
  obtain ⟨⟨w1, w2, w3, w4, w5, w6, w7⟩, ⟨b, d, t, r, k⟩, q, h4, h5'⟩ := h
  exact ⟨⟨w1, w2, hz, w4, w5, w6, w7⟩, ⟨b.of (fun v hv => e v (by omega)), ⟨h5, by rw [e _ (by decide)]; exact d.2.1, fun d' hd => by rw [e _ (by decide)]; exact d.2.2 d' hd⟩, t.of (fun v hv => e v (by omega)), r.of (e _ (by decide)) (by rw [hl]), k.of rfl rfl (fun v hv => e v (by omega))⟩, q.of (fun v hv => e v (by omega)), h4, h5'.tr ⟨fun v hv => e v (by omega), fun v _ => by rw [hl], by rw [hl]⟩⟩
theorem MI.text {N Q : Nat} {a : Ab} {μ0 μ μ' : Mem} {t : List Nat} (h : MI N Q a μ0 μ) (hz : t.length ≤ 80 ∧ ∀ b ∈ t, b < 256) (e : ∀ v, v ≠ 140 → v ≠ 141 → μ'.1 v = μ.1 v) (hl : μ'.2 = μ.2) (ht : MT t μ') : MI N Q (aSetT a t) μ0 μ' := by
  obtain ⟨⟨w1, w2, w3, w4, w5, w6, w7⟩, ⟨b, d, _, r, k⟩, q, h4, h5'⟩ := h
  exact ⟨⟨w1, w2, w3, w4, hz, w6, w7⟩, ⟨b.of (fun v hv => e v (by omega) (by omega)), MDs.of (a := a) d (fun v hv => e v (by omega) (by omega)), ht, r.of (e _ (by decide) (by decide)) (by rw [hl]), k.of rfl rfl (fun v hv => e v (by omega) (by omega))⟩, q.of (fun v hv => e v (by omega) (by omega)), h4, h5'.tr ⟨fun v hv => e v (by omega) (by omega), fun v _ => by rw [hl], by rw [hl]⟩⟩
theorem MI.street {N Q : Nat} {a : Ab} {μ0 μ μ' : Mem} {S : SP} (h : MI N Q a μ0 μ) (hp : S.1 = (aS a).1) (hz : SOk S ∧ zOut S.1 S.2.1) (e : ∀ v, v ≠ 134 → v ≠ 137 → μ'.1 v = μ.1 v) (hl : μ'.2 = μ.2) (hB : MB S μ') : MI N Q (aSetS a S) μ0 μ' := by
  obtain ⟨⟨w1, w2, w3, w4, w5, w6, w7⟩, ⟨b, d, t, r, k⟩, q, h4, h5'⟩ := h
  refine ⟨⟨hz.1, hz.2, fun i hi => w3 i (hp ▸ hi), ⟨w4.1, fun d hd => ?_⟩, w5, w6, fun s k hk => ?_⟩, ⟨hB, ⟨fun i hi => ?_, ?_, fun d' hd => ?_⟩, t.of (fun v hv => e v (by omega) (by omega)), r.of (e _ (by decide) (by decide)) (by rw [hl]), k.of hp rfl (fun v hv => e v (by omega) (by omega))⟩, q.of (fun v hv => e v (by omega) (by omega)), h4, h5'.tr ⟨fun v hv => e v (by omega) (by omega), fun v _ => by rw [hl], by rw [hl]⟩⟩
  · show aZ a d < 2 ^ S.1; rw [hp]; exact w4.2 d hd
  · show KOk S.1 k; rw [hp]; exact w7 s k hk
  · rw [e _ (by decide) (by decide)]; exact d.1 i (hp ▸ hi)
  · rw [e _ (by decide) (by decide)]; exact d.2.1
  · rw [e _ (by decide) (by decide)]; exact d.2.2 d' hd
/-- a function with one value changed -/
def fnu (f : Nat → Nat) (k x : Nat) : Nat → Nat := fun i => if i = k then x else f i
theorem fnu_eq (f : Nat → Nat) (k x : Nat) : fnu f k x k = x := if_pos rfl
theorem fnu_ne (f : Nat → Nat) {k i : Nat} (x : Nat) (h : i ≠ k) : fnu f k x i = f i := if_neg h
/-- a row of numbers in a variable, one changed -/
theorem sI_fnu {μ : Mem} {v p : Nat} {f : Nat → Nat} (h : ∀ i, i < p → μ.1 v i = nI (f i)) (k x : Nat) : ∀ i, i < p → (setI μ v k (nI x)).1 v i = nI (fnu f k x i) := fun i hi => by
  by_cases e : i = k
  · subst e; rw [sI_eq, fnu_eq]
  · rw [sI_i _ _ _ e, fnu_ne _ _ e]; exact h i hi
