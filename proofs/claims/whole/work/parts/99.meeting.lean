/-! street: the reference reads a meeting. -/
/-- only its reading place, its fault and its lines have changed -/
def LF (μ μ' : Mem) : Prop := (∀ v, v ≠ 147 → v ≠ 148 → v ≠ 149 → μ'.1 v = μ.1 v) ∧ μ'.2 = μ.2
theorem LF.rf (μ : Mem) : LF μ μ := ⟨fun _ _ _ _ => rfl, rfl⟩
theorem LF.tr {a b c : Mem} (h : LF a b) (k : LF b c) : LF a c := ⟨fun v h1 h2 h3 => (k.1 v h1 h2 h3).trans (h.1 v h1 h2 h3), k.2.trans h.2⟩
theorem RF.LF {μ μ' : Mem} (h : RF μ μ') : LF μ μ' := ⟨fun v h1 h2 _ => h.1 v h1 h2, h.2⟩
/-- a line kept -/
def mL4 (μ : Mem) (j : Nat) (o w v b : Int32) : Mem := setI (setI (setI (setI μ v_m_line (4 * j) o) v_m_line (4 * j + 1) w) v_m_line (4 * j + 2) v) v_m_line (4 * j + 3) b
theorem mL4_v (μ : Mem) (j : Nat) (o w v b : Int32) {u : Nat} (hu : u ≠ 149) : (mL4 μ j o w v b).1 u = μ.1 u := by
  unfold mL4; rw [sI_v _ _ _ hu, sI_v _ _ _ hu, sI_v _ _ _ hu, sI_v _ _ _ hu]
theorem mL4_L (μ : Mem) (j : Nat) (o w v b : Int32) : LF μ (mL4 μ j o w v b) := ⟨fun u _ _ h => mL4_v _ _ _ _ _ _ h, rfl⟩
def LnK (q : List (Nat × Bool × Nat × Nat)) (μ : Mem) : Prop := ∀ j, j < q.length → μ.1 v_m_line (4 * j) = nI (q.getD j (0, false, 0, 0)).1 ∧ μ.1 v_m_line (4 * j + 1) = nI (q.getD j (0, false, 0, 0)).2.2.1 ∧ μ.1 v_m_line (4 * j + 2) = nI (q.getD j (0, false, 0, 0)).2.2.2 ∧ μ.1 v_m_line (4 * j + 3) = nI (bN (q.getD j (0, false, 0, 0)).2.1)
theorem LnK.of {q : List (Nat × Bool × Nat × Nat)} {μ μ' : Mem} (h : LnK q μ) (e : μ'.1 v_m_line = μ.1 v_m_line) : LnK q μ' := fun j hj => by rw [e]; exact h j hj
theorem LnK.app {q : List (Nat × Bool × Nat × Nat)} {μ : Mem} (h : LnK q μ) (o w v : Nat) (b : Bool) : LnK (q ++ [(o, b, w, v)]) (mL4 μ q.length (nI o) (nI w) (nI v) (nI (bN b))) := fun j hj => by
  rw [List.length_append, List.length_singleton] at hj
  by_cases c : j = q.length
  · subst c
    have e : (q ++ [(o, b, w, v)]).getD q.length (0, false, 0, 0) = (o, b, w, v) := by
      rw [List.getD_eq_getElem?_getD, List.getElem?_append_right (Nat.le_refl _), Nat.sub_self]; rfl
    rw [e]
    unfold mL4
    refine ⟨?_, ?_, ?_, ?_⟩
    · rw [sI_i _ _ _ (by omega), sI_i _ _ _ (by omega), sI_i _ _ _ (by omega), sI_eq]
    · rw [sI_i _ _ _ (by omega), sI_i _ _ _ (by omega), sI_eq]
    · rw [sI_i _ _ _ (by omega), sI_eq]
    · rw [sI_eq]
  · have hj' : j < q.length := by omega
    have e : (q ++ [(o, b, w, v)]).getD j (0, false, 0, 0) = q.getD j (0, false, 0, 0) := by
      rw [List.getD_eq_getElem?_getD, List.getD_eq_getElem?_getD, List.getElem?_append_left hj']
    rw [e]
    unfold mL4
    obtain ⟨h1, h2, h3, h4⟩ := h j hj'
    refine ⟨?_, ?_, ?_, ?_⟩
    · rw [sI_i _ _ _ (by omega), sI_i _ _ _ (by omega), sI_i _ _ _ (by omega), sI_i _ _ _ (by omega)]; exact h1
    · rw [sI_i _ _ _ (by omega), sI_i _ _ _ (by omega), sI_i _ _ _ (by omega), sI_i _ _ _ (by omega)]; exact h2
    · rw [sI_i _ _ _ (by omega), sI_i _ _ _ (by omega), sI_i _ _ _ (by omega), sI_i _ _ _ (by omega)]; exact h3
    · rw [sI_i _ _ _ (by omega), sI_i _ _ _ (by omega), sI_i _ _ _ (by omega), sI_i _ _ _ (by omega)]; exact h4
section RM8
variable {t : List Nat} {L sz : Nat} {μb μ : Mem}
theorem b63_end {j : Nat} (hj : j < 79) {x3 x4 x5 v19 : Int32} : (chk (inb (nI (4 * j)) 320) (bnd (setI μ v_m_line (nI (4 * j)).toNatClampNeg x3) fun μ21 => chk (inb (nI (4 * j) + (1 : Int32)) 320) (bnd (setI μ21 v_m_line (nI (4 * j) + (1 : Int32)).toNatClampNeg x5) fun μ24 => chk (inb (nI (4 * j) + (2 : Int32)) 320) (bnd (setI μ24 v_m_line (nI (4 * j) + (2 : Int32)).toNatClampNeg v19) fun μ27 => bnd (if x4 = 0 then (0 : Int32) else (1 : Int32)) fun v29 => chk (inb (nI (4 * j) + (3 : Int32)) 320) (bnd (setI μ27 v_m_line (nI (4 * j) + (3 : Int32)).toNatClampNeg v29) fun μ33 => some μ33))))) = some (mL4 μ j x3 x5 v19 (if x4 = 0 then (0 : Int32) else (1 : Int32))) := by
  rw [show nI (4 * j) + (1 : Int32) = nI (4 * j + 1) from i_add _ 1, show nI (4 * j) + (2 : Int32) = nI (4 * j + 2) from i_add _ 2, show nI (4 * j) + (3 : Int32) = nI (4 * j + 3) from i_add _ 3, inb_n (by omega) (by omega), chk_t, cl_nI (by omega), bnd_s, inb_n (by omega) (by omega), chk_t, cl_nI (by omega), bnd_s, inb_n (by omega) (by omega), chk_t, cl_nI (by omega), bnd_s, bnd_s, inb_n (by omega) (by omega), chk_t, cl_nI (by omega), bnd_s]
  rfl
theorem b63_bad {j w : Nat} (hj : j < 79) (hw : w < 2 ^ 31) (h : μ.1 v_m_wrong 0 = nI w) (x3 x4 x5 : Int32) : ∃ μ', f_m_readMeeting_b63 (nI (4 * j)) x3 x4 x5 μ = some μ' ∧ LF μ μ' ∧ μ'.1 v_m_wrong 0 = nI w := by
  unfold f_m_readMeeting_b63
  rw [m_needN hw h, bd1_s, m_numN hw h, bd2_s, b63_end hj]
  exact ⟨_, rfl, mL4_L _ _ _ _ _ _, by rw [mL4_v _ _ _ _ _ _ (by decide)]; exact h⟩
theorem b63_ok {j k o w : Nat} {b : Bool} {q : List (Nat × Bool × Nat × Nat)} (hq : q.length = j) (hj : j < 79) (hE : RE7 t L sz μ) (hk : k ≤ L) (hs : MSt k μ) (hQ : LnK q μ) : ∃ μ', f_m_readMeeting_b63 (nI (4 * j)) (nI o) (nI (bN b)) (nI w) μ = some μ' ∧ LF μ μ' ∧ (¬ cu t L k = 42 → μ'.1 v_m_wrong 0 = nI k) ∧ (cu t L k = 42 → (pNumL t L 1 (k + 1) 0).1 = k + 1 → μ'.1 v_m_wrong 0 = nI (k + 1)) ∧ (cu t L k = 42 → ¬ (pNumL t L 1 (k + 1) 0).1 = k + 1 → MSt (pNumL t L 1 (k + 1) 0).1 μ' ∧ LnK (q ++ [(o, b, w, (pNumL t L 1 (k + 1) 0).2)]) μ') := by
  have h76 := hE.L76
  obtain ⟨μ1, a1, a2, a3, a4⟩ := m_need7 hE hk hs (c := 42) (by omega)
  have eb : (if nI (bN b) = 0 then (0 : Int32) else 1) = nI (bN b) := by cases b <;> rfl
  unfold f_m_readMeeting_b63
  rw [show f_m_need (42 : Int32) μ = _ from a1, bd1_s]
  by_cases c : cu t L k = 42
  · have hkL : k < L := cu_L (t := t) (by omega)
    have hs1 := a3 c
    have hv : (pNumL t L 1 (k + 1) 0).2 < (0 + 1) * 10 ^ 1 := pNumL_v 1 (k + 1) 0
    obtain ⟨x, μ2, b1, b2, b3, b4, b5⟩ := m_num7 (hE.fr a2) (M := 1) (H := 10) (hi := 9) (by omega) (hi_n (H := 9) (by omega)) (show k + 1 ≤ L by omega) hs1
    rw [show f_m_number (1 : Int32) 0 9 μ1 = _ from b1, bd2_s, b63_end hj]
    refine ⟨_, rfl, (a2.tr b2).LF.tr (mL4_L _ _ _ _ _ _), fun q => absurd c q, fun _ d => ?_, fun _ d => ?_⟩
    · rw [mL4_v _ _ _ _ _ _ (by decide)]; exact b3 d
    · obtain ⟨e1, e2⟩ := b5 d (by omega)
      refine ⟨⟨by rw [mL4_v _ _ _ _ _ _ (by decide)]; exact e2.1, by rw [mL4_v _ _ _ _ _ _ (by decide)]; exact e2.2⟩, ?_⟩
      rw [e1, eb, ← hq]
      exact (hQ.of ((a2.tr b2).1 _ (by decide) (by decide))).app _ _ _ _
  · have hw := a4 c
    rw [m_numN (by omega) hw, bd2_s, b63_end hj]
    exact ⟨_, rfl, a2.LF.tr (mL4_L _ _ _ _ _ _), fun _ => by rw [mL4_v _ _ _ _ _ _ (by decide)]; exact hw, fun q => absurd q c, fun q => absurd q c⟩
/-- what reading a meeting owes -/
def RMo (t : List Nat) (L : Nat) (q : List (Nat × Bool × Nat × Nat)) (r : Nat × Option LN) (μ : Mem) (o : Option Mem) : Prop := ∃ μ', o = some μ' ∧ LF μ μ' ∧ match r.2 with
  | none => μ'.1 v_m_wrong 0 = nI r.1
  | some (Sum.inl _) => False
  | some (Sum.inr l) => MSt r.1 μ' ∧ LnK (q ++ [l]) μ'
theorem RMo.of {q : List (Nat × Bool × Nat × Nat)} {r : Nat × Option LN} {μ μ1 : Mem} {o : Option Mem} (h : RMo t L q r μ1 o) (hf : LF μ μ1) : RMo t L q r μ o := by
  obtain ⟨m, h1, h2, h3⟩ := h
  exact ⟨m, h1, hf.tr h2, h3⟩
theorem b29_bad {j w : Nat} (hj : j < 79) (hw : w < 2 ^ 31) (h : μ.1 v_m_wrong 0 = nI w) (x2 x3 x4 : Int32) : ∃ μ', f_m_readMeeting_b29 (nI (4 * j)) x2 x3 x4 μ = some μ' ∧ LF μ μ' ∧ μ'.1 v_m_wrong 0 = nI w := by
  unfold f_m_readMeeting_b29
  rw [m_numN hw h, bd2_s, m_fine0 hw h, bd2_s, if_pos rfl]
  exact b63_bad hj hw h _ _ _
theorem b29_ok {j k o th : Nat} {b : Bool} {q : List (Nat × Bool × Nat × Nat)} (hq : q.length = j) (hj : j < 79) (hE : RE7 t L sz μ) (hk : k ≤ L) (hs : MSt k μ) (hQ : LnK q μ) (hth : th ≤ 14) (ho : o < th) : RMo t L q (rdB t L th o k b) μ (f_m_readMeeting_b29 (nI (4 * j)) (nI th) (nI o) (nI (bN b)) μ) := by
  have h76 := hE.L76
  have hle := pNumL_le (t := t) 2 k 0 hk
  have hv : (pNumL t L 2 k 0).2 < (0 + 1) * 10 ^ 2 := pNumL_v 2 k 0
  obtain ⟨x, μ1, b1, b2, b3, b4, b5⟩ := m_num7 hE (M := 2) (H := th) (hi := nI th - 1) (by omega) (hi_th hth) hk hs
  unfold f_m_readMeeting_b29 rdB rdS
  rw [show f_m_number (2 : Int32) 0 (nI th - 1) μ = _ from b1, bd2_s]
  by_cases c : (pNumL t L 2 k 0).1 = k
  · have hw := b3 c
    obtain ⟨μ2, d1, d2, d3⟩ := b63_bad (j := j) hj (by omega) hw (nI o) (nI (bN b)) x
    rw [m_fine0 (by omega) hw, bd2_s, if_pos rfl, if_pos c]
    exact ⟨μ2, d1, b2.LF.tr d2, d3⟩
  · rw [if_neg c]
    by_cases d : th ≤ (pNumL t L 2 k 0).2
    · have hw := b4 c d
      obtain ⟨μ2, d1, d2, d3⟩ := b63_bad (j := j) hj (by omega) hw (nI o) (nI (bN b)) x
      rw [m_fine0 (by omega) hw, bd2_s, if_pos rfl, if_pos (show th ≤ (pNumL t L 2 k 0).2 ∨ some (pNumL t L 2 k 0).2 = some o from Or.inl d)]
      exact ⟨μ2, d1, b2.LF.tr d2, d3⟩
    · obtain ⟨e1, e2⟩ := b5 c (by omega)
      rw [m_fine1 e2.2, bd2_s, if_neg (show ¬ (1 : Int32) = 0 by decide), e1]
      by_cases e : (pNumL t L 2 k 0).2 = o
      · have hw : (setI μ1 v_m_wrong 0 (nI ((pNumL t L 2 k 0).1 - 1))).1 v_m_wrong 0 = nI ((pNumL t L 2 k 0).1 - 1) := sI_eq _ _ _ _
        obtain ⟨μ2, d1, d2, d3⟩ := b63_bad (j := j) hj (by omega) hw (nI o) (nI (bN b)) (nI (pNumL t L 2 k 0).2)
        rw [if_pos (show nI o = nI (pNumL t L 2 k 0).2 by rw [e]), e2.1, show nI (pNumL t L 2 k 0).1 - (1 : Int32) = nI ((pNumL t L 2 k 0).1 - 1) from i_sub (b := 1) (by omega), m_fault1 e2.2, bd1_s, if_pos (show th ≤ (pNumL t L 2 k 0).2 ∨ some (pNumL t L 2 k 0).2 = some o from Or.inr (by rw [e]))]
        exact ⟨μ2, d1, (b2.tr (RF.wr_ _ _)).LF.tr d2, d3⟩
      · obtain ⟨μ2, g1, g2, g3, g4, g5⟩ := b63_ok (o := o) (w := (pNumL t L 2 k 0).2) (b := b) hq hj (hE.fr b2) hle.2.1 e2 (hQ.of (b2.1 _ (by decide) (by decide)))
        rw [if_neg (show ¬ nI o = nI (pNumL t L 2 k 0).2 from fun z => e (nI_inj (by omega) (by omega) z.symm)), if_neg (show ¬ (th ≤ (pNumL t L 2 k 0).2 ∨ some (pNumL t L 2 k 0).2 = some o) from fun z => z.elim d (fun z => e (Option.some.inj z)))]
        show RMo t L q (if cu t L (pNumL t L 2 k 0).1 = 42 then (if (pNumL t L 1 ((pNumL t L 2 k 0).1 + 1) 0).1 = (pNumL t L 2 k 0).1 + 1 then ((pNumL t L 2 k 0).1 + 1, none) else ((pNumL t L 1 ((pNumL t L 2 k 0).1 + 1) 0).1, some (Sum.inr (o, b, (pNumL t L 2 k 0).2, (pNumL t L 1 ((pNumL t L 2 k 0).1 + 1) 0).2)))) else ((pNumL t L 2 k 0).1, none)) μ _
        by_cases z1 : cu t L (pNumL t L 2 k 0).1 = 42
        · by_cases z2 : (pNumL t L 1 ((pNumL t L 2 k 0).1 + 1) 0).1 = (pNumL t L 2 k 0).1 + 1
          · rw [if_pos z1, if_pos z2]; exact ⟨μ2, g1, b2.LF.tr g2, g4 z1 z2⟩
          · rw [if_pos z1, if_neg z2]; exact ⟨μ2, g1, b2.LF.tr g2, g5 z1 z2⟩
        · rw [if_neg z1]; exact ⟨μ2, g1, b2.LF.tr g2, g3 z1⟩
theorem m_meet {j k th : Nat} {q : List (Nat × Bool × Nat × Nat)} (hq : q.length = j) (hj : j < 79) (hE : RE7 t L sz μ) (hk : k ≤ L) (hs : MSt k μ) (hQ : LnK q μ) (hth : th ≤ 14) : RMo t L q (rdA t L th k) μ (f_m_readMeeting (nI (4 * j)) (nI th) μ) := by
  have h76 := hE.L76
  have hle := pNumL_le (t := t) 2 k 0 hk
  have hv : (pNumL t L 2 k 0).2 < (0 + 1) * 10 ^ 2 := pNumL_v 2 k 0
  obtain ⟨x, μ1, b1, b2, b3, b4, b5⟩ := m_num7 hE (M := 2) (H := th) (hi := nI th - 1) (by omega) (hi_th hth) hk hs
  have bad : ∀ w, w < 2 ^ 31 → μ1.1 v_m_wrong 0 = nI w → RMo t L q (w, none) μ (f_m_readMeeting (nI (4 * j)) (nI th) μ) := fun w hw h1 => by
    obtain ⟨μ2, d1, d2, d3⟩ := b29_bad (j := j) hj hw h1 (nI th) x 0
    refine ⟨μ2, ?_, b2.LF.tr d2, d3⟩
    unfold f_m_readMeeting
    rw [show f_m_number (2 : Int32) 0 (nI th - 1) μ = _ from b1, bd2_s, m_passN hw h1, bd2_s, if_pos rfl, m_needN hw h1, bd1_s, d1]
  unfold rdA rdS
  by_cases c : (pNumL t L 2 k 0).1 = k
  · rw [if_pos c]
    exact bad k (by omega) (b3 c)
  · rw [if_neg c]
    by_cases d : th ≤ (pNumL t L 2 k 0).2
    · rw [if_pos (show th ≤ (pNumL t L 2 k 0).2 ∨ some (pNumL t L 2 k 0).2 = none from Or.inl d)]
      exact bad _ (by omega) (b4 c d)
    · obtain ⟨e1, e2⟩ := b5 c (by omega)
      rw [if_neg (show ¬ (th ≤ (pNumL t L 2 k 0).2 ∨ some (pNumL t L 2 k 0).2 = none) from fun z => z.elim d (fun z => absurd z (by simp)))]
      show RMo t L q (if cu t L (pNumL t L 2 k 0).1 = 45 then rdB t L th (pNumL t L 2 k 0).2 ((pNumL t L 2 k 0).1 + 1) true else if cu t L (pNumL t L 2 k 0).1 = 62 then rdB t L th (pNumL t L 2 k 0).2 ((pNumL t L 2 k 0).1 + 1) false else ((pNumL t L 2 k 0).1, none)) μ _
      have hE1 := hE.fr b2
      obtain ⟨μ2, p1, p2, p3⟩ := m_pass7 hE1 hle.2.1 e2 (c := 45) (by omega)
      have hE2 := hE1.fr p2
      have hQ2 : LnK q μ2 := hQ.of ((b2.tr p2).1 _ (by decide) (by decide))
      by_cases z1 : cu t L (pNumL t L 2 k 0).1 = 45
      · have hkL : (pNumL t L 2 k 0).1 < L := cu_L (t := t) (by omega)
        rw [if_pos z1]
        rw [decide_eq_true z1] at p1 p3
        have := (b29_ok (b := true) hq hj hE2 (show (pNumL t L 2 k 0).1 + 1 ≤ L by omega) p3 hQ2 hth (show (pNumL t L 2 k 0).2 < th by omega)).of (b2.tr p2).LF
        unfold f_m_readMeeting
        rw [show f_m_number (2 : Int32) 0 (nI th - 1) μ = _ from b1, bd2_s, show f_m_passes (45 : Int32) μ1 = _ from p1, bd2_s, if_neg (show ¬ nI (bN true) = 0 by decide), e1]
        exact this
      · rw [if_neg z1]
        rw [decide_eq_false z1] at p1 p3
        have p3' : MSt (pNumL t L 2 k 0).1 μ2 := p3
        obtain ⟨μ3, n1, n2, n3, n4⟩ := m_need7 hE2 hle.2.1 p3' (c := 62) (by omega)
        have ef : f_m_readMeeting (nI (4 * j)) (nI th) μ = f_m_readMeeting_b29 (nI (4 * j)) (nI th) (nI (pNumL t L 2 k 0).2) (nI (bN false)) μ3 := by
          unfold f_m_readMeeting
          rw [show f_m_number (2 : Int32) 0 (nI th - 1) μ = _ from b1, bd2_s, show f_m_passes (45 : Int32) μ1 = _ from p1, bd2_s, if_pos (show nI (bN false) = 0 by decide), show f_m_need (62 : Int32) μ2 = _ from n1, bd1_s, e1]
        rw [ef]
        by_cases z2 : cu t L (pNumL t L 2 k 0).1 = 62
        · have hkL : (pNumL t L 2 k 0).1 < L := cu_L (t := t) (by omega)
          rw [if_pos z2]
          exact (b29_ok (b := false) hq hj (hE2.fr n2) (show (pNumL t L 2 k 0).1 + 1 ≤ L by omega) (n3 z2) (hQ2.of (n2.1 _ (by decide) (by decide))) hth (show (pNumL t L 2 k 0).2 < th by omega)).of ((b2.tr p2).tr n2).LF
        · rw [if_neg z2]
          obtain ⟨μ4, d1, d2, d3⟩ := b29_bad (j := j) hj (show (pNumL t L 2 k 0).1 < 2 ^ 31 by omega) (n4 z2) (nI th) (nI (pNumL t L 2 k 0).2) (nI (bN false))
          exact ⟨μ4, d1, ((b2.tr p2).tr n2).LF.tr d2, d3⟩
end RM8
