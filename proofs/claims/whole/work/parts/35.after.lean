/-! after(): what is kept by STATE. -/
def C0n : Nat := 2000
def S0n : Nat := 1000000
/-- what has been made so far, against the lengths that stand -/
def Bud (KL CL e : Nat) (μ : Mem) : Prop := μ.2.2.1 ≤ C0n + KL + CL + e ∧ μ.2.2.2 ≤ S0n + 2 * KL + 2 * CL + 6 * e ∧ CL ≤ 114688 ∧ e ≤ 1000
def isP2 (p n : Nat) : Prop := n = 0 ∨ ∃ q, q ≤ p ∧ n = 2 ^ q
/-- the street's hearing: its version, its tables, what it keeps -/
def HCk (S : SP) (V CL e KL : Nat) (μ : Mem) : Prop :=
  (μ.1 (vSt 0 3) 0 = nI V ∧ 1 ≤ V ∧ V < 131072) ∧ (∃ W, W ≤ V ∧ μ.1 (vHe 0 1) 0 = nI W ∧ (W = V → HT S 0 μ)) ∧
  μ.1 (vHe 0 2) 0 = nI KL ∧ isP2 S.1 KL ∧ Bud KL CL e μ ∧ ∀ s, s < KL → ∃ w u, w ≤ V ∧ u < 16384 ∧ μ.1 (vHe 0 3) s = nI (w * 16384 + u) ∧ (w = V → u = nxt S s)
def HC (S : SP) (V CL e : Nat) (μ : Mem) : Prop := ∃ KL, HCk S V CL e KL μ
/-- only the street's hearing and what has been made has changed -/
def AF (μ μ' : Mem) : Prop := (∀ v, (v < 93 ∨ 99 ≤ v) → μ'.1 v = μ.1 v) ∧ (∀ v, (v = 0 ∨ 5 ≤ v) → μ'.2.1 v = μ.2.1 v)
theorem AF.rf (μ : Mem) : AF μ μ := ⟨fun _ _ => rfl, fun _ _ => rfl⟩
theorem AF.tr {a b c : Mem} (h : AF a b) (k : AF b c) : AF a c := ⟨fun v hv => (k.1 v hv).trans (h.1 v hv), fun v hv => (k.2 v hv).trans (h.2 v hv)⟩
theorem HFr.AF {μ μ' : Mem} (h : HFr 0 μ μ') : AF μ μ' :=
  ⟨fun v hv => h.1 v (by show v ≠ 93 + 6 * 0 + 0; omega) (by show v ≠ 93 + 6 * 0 + 1; omega) (by show v ≠ 93 + 6 * 0 + 4; omega) (by show v ≠ 93 + 6 * 0 + 5; omega),
   fun v hv => h.2.1 v (by show v ≠ 1 + 4 * 0 + 0; omega) (by show v ≠ 1 + 4 * 0 + 1; omega) (by show v ≠ 1 + 4 * 0 + 2; omega) (by show v ≠ 1 + 4 * 0 + 3; omega)⟩
theorem AF.st {μ μ' : Mem} (h : AF μ μ') {a : Nat} (ha : a < 22) : μ'.1 (vSt 0 a) = μ.1 (vSt 0 a) := h.1 _ (by show 5 + 22 * 0 + a < 93 ∨ _; omega)
theorem AF.XB {μ μ' : Mem} {S : SP} (h : AF μ μ') (hB : XB S μ) : XB S μ' :=
  ⟨by rw [h.st (by omega)]; exact hB.1, fun i j hi hj => by rw [h.st (by omega)]; exact hB.2.1 i j hi hj, fun i hi => by rw [h.st (by omega)]; exact hB.2.2.1 i hi, by rw [h.st (by omega)]; exact hB.2.2.2.1, hB.2.2.2.2⟩
section AT
variable {S : SP} {V CL e : Nat} {μ : Mem}
theorem st_everybody (h : XB S μ) : f_st_everybody μ = some (nI (2 ^ S.1 - 1), μ) := by
  unfold f_st_everybody
  rw [h.1, i_ev h.2.2.2.2.1]
theorem cell_ver {w u : Nat} (hw : w < 131072) (hu : u < 16384) : ((nI (w * 16384 + u)).toUInt32 >>> ((14 : Int32).toUInt32 &&& Int32.toUInt32 31)).toInt32 = nI w := by
  rw [pk_ushrN (by omega) (14 : Int32) 14 (by decide)]
  congr 1
  omega
theorem cell_val {w u : Nat} (hu : u < 16384) : nI (w * 16384 + u) &&& (16383 : Int32) = nI u := by
  rw [l_16383, i_and, show (16383 : Nat) = 2 ^ 14 - 1 from rfl, Nat.and_two_pow_sub_one_eq_mod]
  congr 1
  omega
theorem cell_mk {w u : Nat} (hw : w < 131072) (hu : u < 16384) : (nI w <<< ((14 : Int32) &&& 31)) ||| nI u = nI (w * 16384 + u) := by
  rw [show ((14 : Int32) &&& 31) = (nI 14 &&& 31) from rfl, i_shl (by omega) (by omega), i_or]
  congr 1
  have := Nat.two_pow_add_eq_or_of_lt (i := 14) (b := u) hu w
  rw [Nat.mul_comm w, ← this, Nat.mul_comm]
theorem p2_le {p n : Nat} (hp : p ≤ 14) (h : isP2 p n) : n ≤ 16384 := by
  rcases h with rfl | ⟨q, hq, rfl⟩
  · omega
  · exact Nat.le_trans (Nat.pow_le_pow_right (by omega) hq) (p2_14 hp)
/-- the tables stand, the row of what is kept is long enough -/
theorem after_48 (h : XB S μ) {KL : Nat} (hC : HCk S V CL e KL μ) (hv : μ.1 (vHe 0 1) 0 = nI V) {s : Nat} (hs : s < 2 ^ S.1) (hl : 2 ^ S.1 ≤ KL) :
    ∃ μ', f_he_after_b48 0 (nI s) μ = some (nI (nxt S s), μ') ∧ HCk S V CL e KL μ' ∧ AF μ μ' := by
  have hp := h.2.2.2.2.1
  have h14 := p2_14 hp
  obtain ⟨⟨hV, hV1, hV2⟩, ⟨W, hW, hWe, hWT⟩, hK', hP2, hBud, hcell⟩ := hC
  have hKlt := p2_le hp hP2
  have hWV : W = V := nI_inj (by omega) (by omega) (hWe.symm.trans hv)
  have hT := hWT hWV
  have hnx := nxt_lt S s
  obtain ⟨w, u, hw, hu, hc, hwu⟩ := hcell s (by omega)
  unfold f_he_after_b48
  rw [hK', cl_nI (by omega), inb_n (by omega) (by omega), chk_t, cl_nI (by omega), hc, bnd_s, cell_ver (by omega) hu, hv]
  by_cases e1 : w = V
  · rw [if_pos (by rw [e1]), cell_val hu, hwu e1]
    exact ⟨μ, rfl, ⟨⟨hV, hV1, hV2⟩, ⟨W, hW, hWe, hWT⟩, hK', hP2, hBud, hcell⟩, AF.rf μ⟩
  · rw [if_neg (fun q => e1 (nI_inj (by omega) (by omega) q)), he_next h hT hs, bd2_s, hK', cl_nI (by omega), inb_n (by omega) (by omega), chk_t, hv, cell_mk hV2 (by omega), bnd_s]
    have hfr : AF μ (setI μ (vHe 0 3) s (nI (V * 16384 + nxt S s))) := ⟨fun v hv => sI_v μ s _ (by show v ≠ 93 + 6 * 0 + 3; omega), fun _ _ => rfl⟩
    refine ⟨_, rfl, ⟨⟨?_, hV1, hV2⟩, ⟨W, hW, ?_, fun q => ?_⟩, ?_, hP2, hBud, fun a ha => ?_⟩, hfr⟩
    · rw [hfr.st (by omega)]; exact hV
    · rw [sI_v _ _ _ (he4ne 0 1 3 (by decide))]; exact hWe
    · have := hWT q
      refine ⟨?_, this.2.1, this.2.2.1, this.2.2.2.1, fun i hi => ?_⟩
      · rw [sI_v _ _ _ (he4ne 0 0 3 (by decide))]; exact this.1
      · rw [sI_v _ _ _ (he4ne 0 4 3 (by decide)), sI_v _ _ _ (he4ne 0 5 3 (by decide))]; exact this.2.2.2.2 i hi
    · rw [sI_v _ _ _ (he4ne 0 2 3 (by decide))]; exact hK'
    · by_cases ea : a = s
      · subst ea
        exact ⟨V, nxt S a, Nat.le_refl _, by omega, sI_eq _ _ _ _, fun _ => rfl⟩
      · obtain ⟨w', u', q1, q2, q3, q4⟩ := hcell a ha
        exact ⟨w', u', q1, q2, by rw [sI_i _ _ _ ea]; exact q3, q4⟩
theorem P2_half {p n : Nat} (h : isP2 p n) (hn : n < 2 ^ p) : 2 * n ≤ 2 ^ p := by
  rcases h with rfl | ⟨q, hq, rfl⟩
  · omega
  · have : q < p := by
      rcases Nat.lt_or_ge q p with h1 | h1
      · exact h1
      · exact absurd hn (Nat.not_lt.mpr (Nat.pow_le_pow_right (by omega) h1))
    calc 2 * 2 ^ q = 2 ^ (q + 1) := by rw [Nat.pow_succ, Nat.mul_comm]
      _ ≤ 2 ^ p := Nat.pow_le_pow_right (by omega) (by omega)
theorem after_18 (h : XB S μ) {KL : Nat} (hC : HCk S V CL e KL μ) (hv : μ.1 (vHe 0 1) 0 = nI V) {s : Nat} (hs : s < 2 ^ S.1) :
    ∃ μ', f_he_after_b18 0 (nI s) μ = some (nI (nxt S s), μ') ∧ HC S V CL e μ' ∧ AF μ μ' := by
  have hp := h.2.2.2.2.1
  have h14 := p2_14 hp
  have h1p := Nat.one_le_two_pow (n := S.1)
  obtain ⟨⟨hV, hV1, hV2⟩, ⟨W, hW, hWe, hWT⟩, hK', hP2, hBud, hcell⟩ := hC
  have hKlt := p2_le hp hP2
  unfold f_he_after_b18
  rw [st_everybody h, bd2_s, hK', cl_nI (by omega), show Int32.ofNat KL = nI KL from rfl]
  by_cases hl : 2 ^ S.1 ≤ KL
  · rw [if_pos ((i_ltN (by omega) (by omega)).mpr (by omega))]
    obtain ⟨μ', k1, k2, k3⟩ := after_48 h ⟨⟨hV, hV1, hV2⟩, ⟨W, hW, hWe, hWT⟩, hK', hP2, hBud, hcell⟩ hv hs hl
    exact ⟨μ', k1, ⟨KL, k2⟩, k3⟩
  · rw [if_neg (fun q => absurd ((i_ltN (by omega) (by omega)).mp q) (by omega)), st_everybody h, bd2_s, l_1, i_add, show 2 ^ S.1 - 1 + 1 = 2 ^ S.1 by omega]
    have hhalf := P2_half hP2 (by omega)
    obtain ⟨b1, b2, b3, b4⟩ := hBud
    have hok : nwOk μ (nI (2 ^ S.1)) = true := by
      refine decide_eq_true ⟨i_nlt0 (by omega), ?_, ?_, ?_⟩
      · rw [cl_nI (by omega)]; omega
      · unfold C0n at b1; unfold LIMc; omega
      · rw [cl_nI (by omega)]; unfold S0n at b2; unfold LIMs; omega
    rw [hok, chk_t, bnd_s]
    have hfr : AF μ (newHe 0 μ (nI (2 ^ S.1))) := by
      refine ⟨fun v hv => ?_, fun _ _ => rfl⟩
      show (setI (setA μ (vHe 0 3) (fun _ => 0)) (vHe 0 2) 0 (nI (2 ^ S.1))).1 v = μ.1 v
      rw [sI_v _ _ _ (by show v ≠ 93 + 6 * 0 + 2; omega), sA_v _ _ (by show v ≠ 93 + 6 * 0 + 3; omega)]
    have hI : ∀ a, a ≠ 2 → a ≠ 3 → (newHe 0 μ (nI (2 ^ S.1))).1 (vHe 0 a) = μ.1 (vHe 0 a) := fun a h2 h3 => by
      show (setI (setA μ (vHe 0 3) (fun _ => 0)) (vHe 0 2) 0 (nI (2 ^ S.1))).1 (vHe 0 a) = _
      rw [sI_v _ _ _ (he4ne 0 a 2 h2), sA_v _ _ (he4ne 0 a 3 h3)]
    have hC' : HCk S V CL e (2 ^ S.1) (newHe 0 μ (nI (2 ^ S.1))) := by
      refine ⟨⟨by rw [hfr.st (by omega)]; exact hV, hV1, hV2⟩, ⟨W, hW, by rw [hI 1 (by decide) (by decide)]; exact hWe, fun q => ?_⟩, ?_, Or.inr ⟨S.1, Nat.le_refl _, rfl⟩, ⟨?_, ?_, b3, b4⟩, fun a ha => ⟨0, 0, by omega, by omega, ?_, fun q => by omega⟩⟩
      · have := hWT q
        refine ⟨by rw [hI 0 (by decide) (by decide)]; exact this.1, this.2.1, this.2.2.1, this.2.2.2.1, fun i hi => ?_⟩
        rw [hI 4 (by decide) (by decide), hI 5 (by decide) (by decide)]
        exact this.2.2.2.2 i hi
      · show (setI (setA μ (vHe 0 3) (fun _ => 0)) (vHe 0 2) 0 (nI (2 ^ S.1))).1 (vHe 0 2) 0 = _
        rw [sI_eq]
      · show μ.2.2.1 + 1 ≤ _
        omega
      · show μ.2.2.2 + (nI (2 ^ S.1)).toNatClampNeg ≤ _
        rw [cl_nI (by omega)]
        omega
      · show (setI (setA μ (vHe 0 3) (fun _ => 0)) (vHe 0 2) 0 (nI (2 ^ S.1))).1 (vHe 0 3) a = _
        rw [sI_v _ _ _ (he4ne 0 3 2 (by decide)), sA_eq]
        rfl
    obtain ⟨μ', k1, k2, k3⟩ := after_48 (hfr.XB h) hC' (by rw [hI 1 (by decide) (by decide)]; exact hv) hs (Nat.le_refl _)
    exact ⟨μ', k1, ⟨_, k2⟩, hfr.tr k3⟩
/-- after(): the STATE behind -/
theorem he_after (h : XB S μ) (hC : HC S V CL e μ) {s : Nat} (hs : s < 2 ^ S.1) : ∃ μ', f_he_after 0 (nI s) μ = some (nI (nxt S s), μ') ∧ HC S V CL e μ' ∧ AF μ μ' := by
  obtain ⟨KL, hC⟩ := hC
  have hc0 := hC
  obtain ⟨⟨hV, hV1, hV2⟩, ⟨W, hW, hWe, hWT⟩, hK', hP2, hBud, hcell⟩ := hC
  unfold f_he_after
  rw [hWe, hV]
  by_cases hWV : W = V
  · rw [if_pos (by rw [hWV])]
    exact after_18 h hc0 (by rw [hWe, hWV]) hs
  · rw [if_neg (fun q => hWV (nI_inj (by omega) (by omega) q))]
    obtain ⟨μ1, l1, l2, l3, l4⟩ := he_learn (t := 0) h
    rw [l1, bd1_s]
    have hk : ∀ a, a ≠ 0 → a ≠ 1 → a ≠ 4 → a ≠ 5 → μ1.1 (vHe 0 a) = μ.1 (vHe 0 a) := fun a h0 h1 h4 h5 => l4.1 _ (he4ne 0 a 0 h0) (he4ne 0 a 1 h1) (he4ne 0 a 4 h4) (he4ne 0 a 5 h5)
    rw [hV] at l3
    have hC1 : HCk S V CL e KL μ1 := by
      refine ⟨⟨by rw [l4.AF.st (by omega)]; exact hV, hV1, hV2⟩, ⟨V, Nat.le_refl _, l3, fun _ => l2⟩, by rw [hk 2 (by decide) (by decide) (by decide) (by decide)]; exact hK', hP2, by unfold Bud; rw [l4.2.2]; exact hBud, fun a ha => ?_⟩
      rw [hk 3 (by decide) (by decide) (by decide) (by decide)]
      exact hcell a ha
    obtain ⟨μ', k1, k2, k3⟩ := after_18 (l4.XB h) hC1 l3 hs
    exact ⟨μ', k1, k2, l4.AF.tr k3⟩
end AT
