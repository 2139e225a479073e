/-! What both sides hold: the public state, told once. -/
abbrev KP : Type := Nat × Nat × (Nat → Nat) × (Nat → Nat → Nat) × (Nat → Nat)
/-- street, prices, days and states, text, row, kept -/
abbrev Ab : Type := SP × (Nat → Nat) × (Nat × (Nat → Nat)) × List Nat × List Int64 × (Nat → Option KP)
abbrev aS (a : Ab) : SP := a.1
abbrev aPr (a : Ab) : Nat → Nat := a.2.1
abbrev aD (a : Ab) : Nat := a.2.2.1.1
abbrev aZ (a : Ab) : Nat → Nat := a.2.2.1.2
abbrev aT (a : Ab) : List Nat := a.2.2.2.1
abbrev aR (a : Ab) : List Int64 := a.2.2.2.2.1
abbrev aK (a : Ab) : Nat → Option KP := a.2.2.2.2.2
def zOut (p : Nat) (lo : Nat → Nat → Nat) : Prop := ∀ i j, (p ≤ i ∨ p ≤ j) → lo i j = 0
def KOk (p : Nat) (k : KP) : Prop := k.1 ≤ p ∧ k.2.1 ≤ 200 ∧ (∀ d, d ≤ k.2.1 → k.2.2.1 d < 2 ^ k.1) ∧ (∀ i j, k.2.2.2.1 i j ≤ 9) ∧ zOut k.1 k.2.2.2.1 ∧ ∀ i, i < k.1 → k.2.2.2.2 i ≤ 99
def WF (a : Ab) : Prop :=
  SOk (aS a) ∧ zOut (aS a).1 (aS a).2.1 ∧ (∀ i, i < (aS a).1 → aPr a i ≤ 9) ∧ (aD a ≤ 200 ∧ ∀ d, d ≤ aD a → aZ a d < 2 ^ (aS a).1) ∧ ((aT a).length ≤ 80 ∧ ∀ b ∈ aT a, b < 256) ∧ (aR a).length ≤ 16 ∧ ∀ s k, aK a s = some k → KOk (aS a).1 k
/-- prices, days, states -/
def XD (a : Ab) (μ : Mem) : Prop := (∀ i, i < (aS a).1 → μ.1 (vSt 0 5) i = nI (aPr a i)) ∧ μ.1 (vSt 0 2) 0 = nI (aD a) ∧ ∀ d, d ≤ aD a → μ.1 (vSt 0 6) d = nI (aZ a d)
def XT (t : List Nat) (μ : Mem) : Prop := μ.1 v_x_signs 0 = nI t.length ∧ ∀ k, k < t.length → μ.1 v_x_text k = nI (t.getD k 0)
def XW (r : List Int64) (μ : Mem) : Prop := μ.1 v_row_size 0 = nI r.length ∧ ∀ k, k < r.length → μ.2.1 l_row_numbers k = r.getD k 0
def XK1 (o : Option KP) (s : Nat) (μ : Mem) : Prop := match o with
  | none => μ.1 v_x_isKept s = 0
  | some k => μ.1 v_x_isKept s = 1 ∧ μ.1 (vSt (1 + s) 0) 0 = nI k.1 ∧ μ.1 (vSt (1 + s) 2) 0 = nI k.2.1 ∧ (∀ d, d ≤ k.2.1 → μ.1 (vSt (1 + s) 6) d = nI (k.2.2.1 d)) ∧ (∀ i j, i < 14 → j < 14 → μ.1 (vSt (1 + s) (8 + i)) j = nI (k.2.2.2.1 i j)) ∧ ∀ i, i < k.1 → μ.1 (vSt (1 + s) 4) i = nI (k.2.2.2.2 i)
def XP (a : Ab) (μ : Mem) : Prop := XB (aS a) μ ∧ XD a μ ∧ XT (aT a) μ ∧ XW (aR a) μ ∧ XK1 (aK a 0) 0 μ ∧ XK1 (aK a 1) 1 μ
/-- the memo: what it keeps is no younger than its stamp -/
def MC (p CL b : Nat) (μ : Mem) : Prop := μ.1 v_me_cellsLen 0 = nI CL ∧ (CL = 0 ∨ ∃ q, q ≤ p ∧ CL = 7 * 2 ^ q) ∧ ∃ ST, ST ≤ b ∧ μ.1 v_me_stamp 0 = nI ST ∧ ∀ k, k < CL → ∃ w u, w ≤ ST ∧ u < 32768 ∧ μ.1 v_me_cells k = nI (w * 32768 + u)
def XQ (N : Nat) (S : SP) (μ : Mem) : Prop := ∃ V CL e, V ≤ 1 + 60 * N ∧ e ≤ N ∧ N ≤ 600 ∧ HC S V CL e μ ∧ MC S.1 CL (4 * N) μ
/-- the class holds a, behind N calls -/
def XR (N : Nat) (a : Ab) (μ : Mem) : Prop := WF a ∧ XP a μ ∧ XQ N (aS a) μ
/-- variables that are nobody's: readers' places, hearings, the memo and all behind it; a rule's stack -/
def inn (v : Nat) : Prop := (71 ≤ v ∧ v ≤ 76) ∨ (78 ≤ v ∧ v ≤ 80) ∨ (93 ≤ v ∧ v ≤ 132) ∨ v = 82 ∨ v = 84 ∨ v = 86 ∨ v = 88 ∨ v = 90 ∨ v = 92
def IFr (μ μ' : Mem) : Prop := (∀ v, ¬ inn v → μ'.1 v = μ.1 v) ∧ ∀ v, (v = 0 ∨ 9 ≤ v) → μ'.2.1 v = μ.2.1 v
theorem IFr.rf (μ : Mem) : IFr μ μ := ⟨fun _ _ => rfl, fun _ _ => rfl⟩
theorem IFr.tr {a b c : Mem} (h : IFr a b) (k : IFr b c) : IFr a c := ⟨fun v hv => (k.1 v hv).trans (h.1 v hv), fun v hv => (k.2 v hv).trans (h.2 v hv)⟩
theorem AF.IFr {μ μ' : Mem} (h : AF μ μ') : IFr μ μ' := ⟨fun v hv => h.1 v (by unfold inn at hv; omega), fun v hv => h.2 v (by omega)⟩
theorem IFr.I (μ : Mem) {v : Nat} (i : Nat) (x : Int32) (hv : inn v) : IFr μ (setI μ v i x) := ⟨fun u hu => sI_v μ i x (fun q => hu (q ▸ hv)), fun _ _ => rfl⟩
theorem IFr.st {μ μ' : Mem} (h : IFr μ μ') {t j : Nat} (ht : t < 3) (hj : j < 22) : μ'.1 (vSt t j) = μ.1 (vSt t j) := h.1 _ (by show ¬ inn (5 + 22 * t + j); unfold inn; omega)
theorem IFr.lo {μ μ' : Mem} (h : IFr μ μ') {v : Nat} (hv : v ≤ 4) : μ'.1 v = μ.1 v := h.1 _ (by unfold inn; omega)
theorem IFr.XB {μ μ' : Mem} {S : SP} (h : IFr μ μ') (hB : XB S μ) : XB S μ' :=
  ⟨by rw [h.st (by omega) (by omega)]; exact hB.1, fun i j hi hj => by rw [h.st (by omega) (by omega)]; exact hB.2.1 i j hi hj, fun i hi => by rw [h.st (by omega) (by omega)]; exact hB.2.2.1 i hi, by rw [h.st (by omega) (by omega)]; exact hB.2.2.2.1, hB.2.2.2.2⟩
theorem IFr.kept1 {μ μ' : Mem} {o : Option KP} {s : Nat} (hs : s < 2) (h : IFr μ μ') (hK : XK1 o s μ) : XK1 o s μ' := by
  unfold XK1 at hK ⊢
  cases o with
  | none => show μ'.1 v_x_isKept s = 0; rw [h.lo (by decide)]; exact hK
  | some k =>
    have hk : μ.1 v_x_isKept s = 1 ∧ _ := hK
    show μ'.1 v_x_isKept s = 1 ∧ _
    rw [h.lo (by decide), h.st (by omega) (by omega), h.st (by omega) (by omega)]
    refine ⟨hk.1, hk.2.1, hk.2.2.1, fun d hd => by rw [h.st (by omega) (by omega)]; exact hk.2.2.2.1 d hd, fun i j hi hj => by rw [h.st (by omega) (by omega)]; exact hk.2.2.2.2.1 i j hi hj, fun i hi => by rw [h.st (by omega) (by omega)]; exact hk.2.2.2.2.2 i hi⟩
theorem IFr.XP {μ μ' : Mem} {a : Ab} (h : IFr μ μ') (hP : XP a μ) : XP a μ' := by
  obtain ⟨h1, h2, h3, h4, h5, h6⟩ := hP
  refine ⟨h.XB h1, ⟨fun i hi => by rw [h.st (by omega) (by omega)]; exact h2.1 i hi, by rw [h.st (by omega) (by omega)]; exact h2.2.1, fun d hd => by rw [h.st (by omega) (by omega)]; exact h2.2.2 d hd⟩, ⟨by rw [h.lo (by decide)]; exact h3.1, fun k hk => by rw [h.lo (by decide)]; exact h3.2 k hk⟩, ⟨by rw [h.lo (by decide)]; exact h4.1, fun k hk => by rw [h.2 _ (Or.inl rfl)]; exact h4.2 k hk⟩, h.kept1 (by omega) h5, h.kept1 (by omega) h6⟩
/-- what belongs to the rules and to the reference stays -/
def OFr (μ μ' : Mem) : Prop := (∀ v, (v = 3 ∨ v = 77 ∨ v = 81 ∨ v = 83 ∨ v = 85 ∨ v = 87 ∨ v = 89 ∨ v = 91 ∨ 133 ≤ v) → μ'.1 v = μ.1 v) ∧ ∀ v, 9 ≤ v → μ'.2.1 v = μ.2.1 v
theorem OFr.rf (μ : Mem) : OFr μ μ := ⟨fun _ _ => rfl, fun _ _ => rfl⟩
theorem OFr.tr {a b c : Mem} (h : OFr a b) (k : OFr b c) : OFr a c := ⟨fun v hv => (k.1 v hv).trans (h.1 v hv), fun v hv => (k.2 v hv).trans (h.2 v hv)⟩
theorem IFr.OFr {μ μ' : Mem} (h : IFr μ μ') : OFr μ μ' := ⟨fun v hv => h.1 v (by unfold inn; omega), fun v hv => h.2 v (by omega)⟩
theorem OFr.I (μ : Mem) {v : Nat} (i : Nat) (x : Int32) (hv : v < 133 ∧ v ≠ 3 ∧ v ≠ 77 ∧ v ≠ 81 ∧ v ≠ 83 ∧ v ≠ 85 ∧ v ≠ 87 ∧ v ≠ 89 ∧ v ≠ 91) : OFr μ (setI μ v i x) := ⟨fun u hu => sI_v μ i x (by omega), fun _ _ => rfl⟩
theorem OFr.L (μ : Mem) {v : Nat} (i : Nat) (x : Int64) (hv : v < 9) : OFr μ (setL μ v i x) := ⟨fun _ _ => rfl, fun u hu => sL_v μ i x (by omega)⟩
/-- what a call of the class did: an answer a', behind one call more -/
def XO (N : Nat) (a' : Ab) (μ μ' : Mem) : Prop := XR (N + 1) a' μ' ∧ OFr μ μ'
theorem MC.up {p CL b b' : Nat} {μ : Mem} (h : MC p CL b μ) (hb : b ≤ b') : MC p CL b' μ := by
  obtain ⟨h1, h2, ST, h3, h4, h5⟩ := h
  exact ⟨h1, h2, ST, by omega, h4, h5⟩
theorem XQ.up {N : Nat} {S : SP} {μ : Mem} (h : XQ N S μ) (hN : N < 600) : XQ (N + 1) S μ := by
  obtain ⟨V, CL, e, h1, h2, h3, h4, h5⟩ := h
  exact ⟨V, CL, e, by omega, by omega, by omega, h4, h5.up (by omega)⟩
theorem MC.fr {p CL N : Nat} {μ μ' : Mem} (h : MC p CL N μ) (he : ∀ v, 105 ≤ v → v ≤ 108 → μ'.1 v = μ.1 v) : MC p CL N μ' := by
  obtain ⟨h1, h2, ST, h3, h4, h5⟩ := h
  refine ⟨by rw [he _ (by decide) (by decide)]; exact h1, h2, ST, h3, by rw [he _ (by decide) (by decide)]; exact h4, fun k hk => ?_⟩
  rw [he _ (by decide) (by decide)]
  exact h5 k hk
/-- the hearing's own variables stay -/
theorem HCk.frB {S : SP} {V CL CL' e e' KL : Nat} {μ μ' : Mem} (h : HCk S V CL e KL μ) (hv : μ'.1 (vSt 0 3) = μ.1 (vSt 0 3)) (he : ∀ v, 93 ≤ v → v ≤ 98 → μ'.1 v = μ.1 v) (hl : ∀ v, 1 ≤ v → v ≤ 4 → μ'.2.1 v = μ.2.1 v) (hc : Bud KL CL' e' μ') : HCk S V CL' e' KL μ' := by
  obtain ⟨⟨h1, h2⟩, ⟨W, h3, h4, h5⟩, h6, h7, h8, h9⟩ := h
  have he' : ∀ j, j < 6 → μ'.1 (vHe 0 j) = μ.1 (vHe 0 j) := fun j hj => he _ (by show 93 ≤ 93 + 6 * 0 + j; omega) (by show 93 + 6 * 0 + j ≤ 98; omega)
  have hl' : ∀ j, j < 4 → μ'.2.1 (lHe 0 j) = μ.2.1 (lHe 0 j) := fun j hj => hl _ (by show 1 ≤ 1 + 4 * 0 + j; omega) (by show 1 + 4 * 0 + j ≤ 4; omega)
  refine ⟨⟨by rw [hv]; exact h1, h2⟩, ⟨W, h3, by rw [he' 1 (by omega)]; exact h4, fun q => ?_⟩, by rw [he' 2 (by omega)]; exact h6, h7, hc, fun s hs => by rw [he' 3 (by omega)]; exact h9 s hs⟩
  obtain ⟨t1, t2, t3, t4, t5⟩ := h5 q
  exact ⟨by rw [he' 0 (by omega)]; exact t1, by rw [hl' 0 (by omega)]; exact t2, by rw [hl' 1 (by omega)]; exact t3, fun j hj => by rw [hl' 2 (by omega), hl' 3 (by omega)]; exact t4 j hj, fun i hi => by rw [he' 4 (by omega), he' 5 (by omega)]; exact t5 i hi⟩
theorem HCk.fr {S : SP} {V CL e KL : Nat} {μ μ' : Mem} (h : HCk S V CL e KL μ) (hv : μ'.1 (vSt 0 3) = μ.1 (vSt 0 3)) (he : ∀ v, 93 ≤ v → v ≤ 98 → μ'.1 v = μ.1 v) (hl : ∀ v, 1 ≤ v → v ≤ 4 → μ'.2.1 v = μ.2.1 v) (hc : μ'.2.2 = μ.2.2) : HCk S V CL e KL μ' :=
  h.frB hv he hl (by unfold Bud; rw [hc]; exact h.2.2.2.2.1)
theorem HC.fr {S : SP} {V CL e : Nat} {μ μ' : Mem} (h : HC S V CL e μ) (hv : μ'.1 (vSt 0 3) = μ.1 (vSt 0 3)) (he : ∀ v, 93 ≤ v → v ≤ 98 → μ'.1 v = μ.1 v) (hl : ∀ v, 1 ≤ v → v ≤ 4 → μ'.2.1 v = μ.2.1 v) (hc : μ'.2.2 = μ.2.2) : HC S V CL e μ' := by
  obtain ⟨KL, h⟩ := h
  exact ⟨KL, h.fr hv he hl hc⟩
