/-! street: the reference reads a person. -/
def NF (μ μ' : Mem) : Prop := (∀ v, v ≠ 134 → v ≠ 135 → v ≠ 147 → v ≠ 148 → v ≠ 149 → μ'.1 v = μ.1 v) ∧ μ'.2 = μ.2
theorem NF.rf (μ : Mem) : NF μ μ := ⟨fun _ _ _ _ _ _ => rfl, rfl⟩
theorem NF.tr {a b c : Mem} (h : NF a b) (k : NF b c) : NF a c := ⟨fun v h1 h2 h3 h4 h5 => (k.1 v h1 h2 h3 h4 h5).trans (h.1 v h1 h2 h3 h4 h5), k.2.trans h.2⟩
theorem LF.NF {μ μ' : Mem} (h : LF μ μ') : NF μ μ' := ⟨fun v _ _ h3 h4 h5 => h.1 v h3 h4 h5, h.2⟩
theorem RF.NF {μ μ' : Mem} (h : RF μ μ') : NF μ μ' := h.LF.NF
theorem NF.nd (μ : Mem) (i : Nat) (x : Int32) : NF μ (setI μ v_m_need i x) := ⟨fun v h _ _ _ _ => sI_v _ _ _ h, rfl⟩
theorem NF.pr (μ : Mem) (i : Nat) (x : Int32) : NF μ (setI μ v_m_price i x) := ⟨fun v _ h _ _ _ => sI_v _ _ _ h, rfl⟩
def MNP (a : Ab) (μ : Mem) : Prop := ∀ i, i < (aS a).1 → μ.1 v_m_need i = nI ((aS a).2.2.1 i) ∧ μ.1 v_m_price i = nI (aPr a i)
theorem MNP.of {a : Ab} {μ μ' : Mem} (h : MNP a μ) (e : ∀ v, (v = 134 ∨ v = 135) → μ'.1 v = μ.1 v) : MNP a μ' := fun i hi => by rw [e _ (by decide), e _ (by decide)]; exact h i hi
theorem MNP.lf {a : Ab} {μ μ' : Mem} (h : MNP a μ) (hf : LF μ μ') : MNP a μ' := h.of (fun v hv => hf.1 v (by omega) (by omega) (by omega))
theorem MNP.nd {a : Ab} {μ : Mem} (h : MNP a μ) (x : Int32) : MNP a (setI μ v_m_need (aS a).1 x) := fun i hi => by rw [sI_i _ _ _ (show i ≠ (aS a).1 by omega), sI_v _ _ _ (by decide)]; exact h i hi
theorem MNP.pr {a : Ab} {μ : Mem} (h : MNP a μ) (x : Int32) : MNP a (setI μ v_m_price (aS a).1 x) := fun i hi => by rw [sI_v _ _ _ (by decide), sI_i _ _ _ (show i ≠ (aS a).1 by omega)]; exact h i hi
section RM9
variable {t : List Nat} {L sz n : Nat} {μb μ : Mem} {a : Ab}
theorem b177_bad {w : Nat} (hw : w < 2 ^ 31) (h : μ.1 v_m_wrong 0 = nI w) (x1 x2 x3 x4 x5 : Int32) : f_m_street_b177 (f_m_street_b59 (n + 1)) x1 x2 x3 x4 x5 μ = some (-1 - nI w, μ) := by
  unfold f_m_street_b177
  rw [m_passN hw h, bd2_s, if_pos rfl]
  unfold f_m_street_b192
  exact m_bad59 hw h _ _ _ _ _
theorem pEnd_bad {w p : Nat} (hp : p < 14) (hw : w < 2 ^ 31) (h : μ.1 v_m_wrong 0 = nI w) (v84 v69 x2 x3 x4 x5 : Int32) : (chk (inb (nI p) 14) (bnd (setI μ v_m_price (nI p).toNatClampNeg v84) fun μ86 => if v69 = 0 then (f_m_street_b177 (f_m_street_b59 (n + 1)) (nI p) x2 x3 x4 x5 μ86) else (bnd (x2 ||| ((1 : Int32) <<< (nI p &&& 31))) fun v98 => f_m_street_b177 (f_m_street_b59 (n + 1)) (nI p) v98 x3 x4 x5 μ86))) = some (-1 - nI w, setI μ v_m_price p v84) := by
  have h1 : (setI μ v_m_price p v84).1 v_m_wrong 0 = nI w := by rw [sI_v _ _ _ (by decide)]; exact h
  rw [inb_n hp (by omega), chk_t, cl_nI (by omega), bnd_s, b177_bad hw h1, bnd_s, b177_bad hw h1]
  by_cases c : v69 = 0
  · rw [if_pos c]
  · rw [if_neg c]
theorem bit_if (x : Nat) {p : Nat} (hp : p < 14) (z : Bool) : nI (x ||| bN z * 2 ^ p) = if z = true then nI x ||| ((1 : Int32) <<< (nI p &&& 31)) else nI x := by
  cases z with
  | false => show nI (x ||| 0 * _) = nI x; rw [Nat.zero_mul, Nat.or_zero]
  | true => rw [if_pos rfl, i_one (by omega), i_or]; show nI (x ||| 1 * _) = _; rw [Nat.one_mul]
/-- what reading a line owes, within street's loop -/
def RLo (n : Nat) (a : Ab) (q : List (Nat × Bool × Nat × Nat)) (r : Nat × Option LN) (x4 : Int32) (μ : Mem) (o : Option (Int32 × Mem)) : Prop := match r.2 with
  | none => ∃ μ', o = some (-1 - nI r.1, μ') ∧ NF μ μ' ∧ MNP a μ'
  | some (Sum.inl l) => ∃ μ', o = f_m_street_b210 (f_m_street_b59 (n + 1)) (nI (aS (ap1 a (Sum.inl l))).1) (nI (aN (ap1 a (Sum.inl l)))) (nI (aS (ap1 a (Sum.inl l))).2.2.2) x4 (nI q.length) μ' ∧ NF μ μ' ∧ MSt r.1 μ' ∧ MNP (ap1 a (Sum.inl l)) μ' ∧ LnK q μ'
  | some (Sum.inr l) => ∃ μ', o = f_m_street_b210 (f_m_street_b59 (n + 1)) (nI (aS (ap1 a (Sum.inr l))).1) (nI (aN (ap1 a (Sum.inr l)))) (nI (aS (ap1 a (Sum.inr l))).2.2.2) x4 (nI (q ++ [l]).length) μ' ∧ NF μ μ' ∧ MSt r.1 μ' ∧ MNP (ap1 a (Sum.inr l)) μ' ∧ LnK (q ++ [l]) μ'
theorem m_person {k : Nat} {q : List (Nat × Bool × Nat × Nat)} (hE : RE7 t L sz μ) (hk : k < L) (hs : MSt k μ) (hp : (aS a).1 ≤ 14) (hM : MNP a μ) (hQ : LnK q μ) (x4 : Int32) : RLo n a q (rdP t L (aS a).1 k) x4 μ (f_m_street_b89 (f_m_street_b59 (n + 1)) (nI (aS a).1) (nI (aN a)) (nI (aS a).2.2.2) x4 (nI q.length) μ) := by
  have h76 := hE.L76
  have h256 := cu_256 (L := L) hE.1.2 k
  unfold rdP f_m_street_b89
  by_cases c0 : (aS a).1 < 14
  · rw [if_pos c0, if_neg (show ¬ nI (aS a).1 = (14 : Int32) from fun z => by have := nI_inj (b := 14) (by omega) (by omega) z; omega), m_here7 hE (by omega) hs.1, bd2_s, bnd_s, hs.1, bnd_s]
    have hs1 : MSt (k + 1) (setI μ v_m_at 0 (nI k + 1)) := hs.pass
    have f1 : RF μ (setI μ v_m_at 0 (nI k + 1)) := RF.at_ _ _
    have hn := pNumL_le (t := t) (L := L) 2 (k + 1) 0 (by omega)
    have hv : (pNumL t L 2 (k + 1) 0).2 < (0 + 1) * 10 ^ 2 := pNumL_v 2 (k + 1) 0
    obtain ⟨x, μ2, b1, b2, b3, b4, b5⟩ := m_num7 (hE.fr f1) (M := 2) (H := 100) (hi := 99) (by omega) (hi_n (H := 99) (by omega)) (show k + 1 ≤ L by omega) hs1
    have hpi : inb (nI (aS a).1) 14 = true := inb_n c0 (by omega)
    have hpc : (nI (aS a).1).toNatClampNeg = (aS a).1 := cl_nI (by omega)
    rw [show f_m_number (2 : Int32) 0 99 (setI μ v_m_at 0 (nI k + 1)) = _ from b1, bd2_s, hpi, chk_t, hpc, bnd_s]
    have hM2 : MNP a (setI μ2 v_m_need (aS a).1 x) := (hM.lf (f1.tr b2).LF).nd x
    have fN : NF μ (setI μ2 v_m_need (aS a).1 x) := (f1.tr b2).NF.tr (NF.nd _ _ _)
    by_cases c1 : (pNumL t L 2 (k + 1) 0).1 = k + 1
    · have hw : (setI μ2 v_m_need (aS a).1 x).1 v_m_wrong 0 = nI (k + 1) := by rw [sI_v _ _ _ (by decide)]; exact b3 c1
      rw [if_pos c1, m_needN (by omega) hw, bd1_s, m_numN (by omega) hw, bd2_s]
      refine ⟨_, ?_, fN.tr (NF.pr _ _ 0), hM2.pr 0⟩
      have := pEnd_bad (n := n) c0 (show k + 1 < 2 ^ 31 by omega) hw 0 (if hb (cu t L k) = 98 then (1 : Int32) else 0) (nI (aN a)) (nI (aS a).2.2.2) x4 (nI q.length)
      rw [hpi, chk_t, hpc] at this
      exact this
    · obtain ⟨e1, e2⟩ := b5 c1 (by omega)
      rw [if_neg c1]
      have hs2 : MSt (pNumL t L 2 (k + 1) 0).1 (setI μ2 v_m_need (aS a).1 x) := ⟨by rw [sI_v _ _ _ (by decide)]; exact e2.1, by rw [sI_v _ _ _ (by decide)]; exact e2.2⟩
      have hE2 : RE7 t L sz (setI μ2 v_m_need (aS a).1 x) := (hE.fr (f1.tr b2)).of (fun v hv => sI_v _ _ _ (show v ≠ 134 by omega))
      obtain ⟨μ3, n1, n2, n3, n4⟩ := m_need7 hE2 hn.2.1 hs2 (c := 44) (by omega)
      rw [show f_m_need (44 : Int32) (setI μ2 v_m_need (aS a).1 x) = _ from n1, bd1_s]
      have hM3 := hM2.lf n2.LF
      by_cases c2 : cu t L (pNumL t L 2 (k + 1) 0).1 = 44
      · have hkL : (pNumL t L 2 (k + 1) 0).1 < L := cu_L (t := t) (by omega)
        rw [if_pos c2]
        have hd := pNumL_le (t := t) (L := L) 1 ((pNumL t L 2 (k + 1) 0).1 + 1) 0 (by omega)
        have hdv : (pNumL t L 1 ((pNumL t L 2 (k + 1) 0).1 + 1) 0).2 < (0 + 1) * 10 ^ 1 := pNumL_v 1 _ 0
        obtain ⟨y, μ4, d1, d2, d3, d4, d5⟩ := m_num7 (hE2.fr n2) (M := 1) (H := 10) (hi := 9) (by omega) (hi_n (H := 9) (by omega)) (show (pNumL t L 2 (k + 1) 0).1 + 1 ≤ L by omega) (n3 c2)
        rw [show f_m_number (1 : Int32) 0 9 μ3 = _ from d1, bd2_s]
        have hM4 := hM3.lf d2.LF
        by_cases c3 : (pNumL t L 1 ((pNumL t L 2 (k + 1) 0).1 + 1) 0).1 = (pNumL t L 2 (k + 1) 0).1 + 1
        · have hw := d3 c3
          rw [if_pos c3]
          refine ⟨_, ?_, (fN.tr (n2.tr d2).NF).tr (NF.pr _ _ y), hM4.pr y⟩
          have := pEnd_bad (n := n) c0 (show (pNumL t L 2 (k + 1) 0).1 + 1 < 2 ^ 31 by omega) hw y (if hb (cu t L k) = 98 then (1 : Int32) else 0) (nI (aN a)) (nI (aS a).2.2.2) x4 (nI q.length)
          rw [hpi, chk_t, hpc] at this
          exact this
        · obtain ⟨g1, g2⟩ := d5 c3 (by omega)
          rw [if_neg c3, chk_t, bnd_s]
          have hs4 : MSt (pNumL t L 1 ((pNumL t L 2 (k + 1) 0).1 + 1) 0).1 (setI μ4 v_m_price (aS a).1 y) := ⟨by rw [sI_v _ _ _ (by decide)]; exact g2.1, by rw [sI_v _ _ _ (by decide)]; exact g2.2⟩
          have hE4 : RE7 t L sz (setI μ4 v_m_price (aS a).1 y) := (hE2.fr (n2.tr d2)).of (fun v hv => sI_v _ _ _ (show v ≠ 135 by omega))
          obtain ⟨μ5, p1, p2, p3⟩ := m_pass7 hE4 hd.2.1 hs4 (c := 33) (by omega)
          have hQ5 : LnK q μ5 := hQ.of (by rw [p2.1 _ (by decide) (by decide), sI_v _ _ _ (by decide), (n2.tr d2).1 _ (by decide) (by decide), sI_v _ _ _ (by decide), (f1.tr b2).1 _ (by decide) (by decide)])
          have h177 : ∀ x2, f_m_street_b177 (f_m_street_b59 (n + 1)) (nI (aS a).1) x2 (nI (aS a).2.2.2) x4 (nI q.length) (setI μ4 v_m_price (aS a).1 y) = f_m_street_b210 (f_m_street_b59 (n + 1)) (nI ((aS a).1 + 1)) x2 (nI ((aS a).2.2.2 ||| bN (decide (cu t L (pNumL t L 1 ((pNumL t L 2 (k + 1) 0).1 + 1) 0).1 = 33)) * 2 ^ (aS a).1)) x4 (nI q.length) μ5 := fun x2 => by
            unfold f_m_street_b177
            rw [show f_m_passes (33 : Int32) (setI μ4 v_m_price (aS a).1 y) = _ from p1, bd2_s, bit_if _ c0]
            unfold f_m_street_b192
            by_cases z : cu t L (pNumL t L 1 ((pNumL t L 2 (k + 1) 0).1 + 1) 0).1 = 33
            · rw [decide_eq_true z, if_neg (show ¬ nI (bN true) = 0 by decide), bnd_s, if_pos rfl, l_1, i_add]
            · rw [decide_eq_false z, if_pos (show nI (bN false) = 0 by decide), if_neg (by decide), l_1, i_add]
          refine ⟨μ5, ?_, (((fN.tr (n2.tr d2).NF).tr (NF.pr _ _ y))).tr p2.NF, p3, fun i hi => ?_, hQ5⟩
          · show _ = f_m_street_b210 (f_m_street_b59 (n + 1)) (nI ((aS a).1 + 1)) (nI (aN a ||| bN (decide (cu t L k = 98)) * 2 ^ (aS a).1)) (nI ((aS a).2.2.2 ||| bN (decide (cu t L (pNumL t L 1 ((pNumL t L 2 (k + 1) 0).1 + 1) 0).1 = 33)) * 2 ^ (aS a).1)) x4 (nI q.length) μ5
            rw [bit_if (aN a) c0]
            by_cases z : cu t L k = 98
            · rw [if_pos (show hb (cu t L k) = (98 : Int32) from (hb_eq (x := 98) h256 (by omega)).mpr z), if_neg (show ¬ (1 : Int32) = 0 by decide), bnd_s, h177, decide_eq_true z, if_pos rfl]
            · rw [if_neg (show ¬ hb (cu t L k) = (98 : Int32) from fun w => z ((hb_eq (x := 98) h256 (by omega)).mp w)), if_pos rfl, h177, decide_eq_false z, if_neg (by decide)]
          · have hi' : i < (aS a).1 + 1 := hi
            show μ5.1 v_m_need i = nI (fnu (aS a).2.2.1 (aS a).1 (pNumL t L 2 (k + 1) 0).2 i) ∧ μ5.1 v_m_price i = nI (fnu (aPr a) (aS a).1 (pNumL t L 1 ((pNumL t L 2 (k + 1) 0).1 + 1) 0).2 i)
            rw [p2.1 _ (by decide) (by decide), p2.1 _ (by decide) (by decide), sI_v _ _ _ (show v_m_need ≠ v_m_price by decide)]
            by_cases z : i = (aS a).1
            · rw [z, fnu_eq, fnu_eq, sI_eq, (n2.tr d2).1 _ (by decide) (by decide), sI_eq, e1, g1]
              exact ⟨rfl, rfl⟩
            · rw [fnu_ne _ _ z, fnu_ne _ _ z, sI_i _ _ _ z]
              exact hM4 i (by omega)
      · have hw := n4 c2
        rw [if_neg c2, m_numN (by omega) hw, bd2_s]
        refine ⟨_, ?_, (fN.tr n2.NF).tr (NF.pr _ _ 0), hM3.pr 0⟩
        have := pEnd_bad (n := n) c0 (show (pNumL t L 2 (k + 1) 0).1 < 2 ^ 31 by omega) hw 0 (if hb (cu t L k) = 98 then (1 : Int32) else 0) (nI (aN a)) (nI (aS a).2.2.2) x4 (nI q.length)
        rw [hpi, chk_t, hpc] at this
        exact this
  · rw [if_neg c0, if_pos (show nI (aS a).1 = (14 : Int32) by rw [show (aS a).1 = 14 by omega]; rfl), hs.1, m_fault1 hs.2, bd1_s, m_bad (w := k) (by omega) (sI_eq _ _ _ _)]
    exact ⟨_, rfl, (RF.wr_ _ _).NF, hM.lf (RF.wr_ _ _).LF⟩
end RM9
