/-! street: the reference's loop over the LINES. -/
def acq : List LN → List (Nat × Bool × Nat × Nat)
  | [] => []
  | Sum.inl _ :: r => acq r
  | Sum.inr l :: r => l :: acq r
section RMa
variable {t : List Nat} {L sz n : Nat} {μb μ : Mem} {a : Ab}
theorem MNP.back {l : LN} (h : MNP (ap1 a l) μ) : MNP a μ := fun i hi => by
  cases l with
  | inl x =>
    have := h i (show i < (aS a).1 + 1 by omega)
    have h1 : μ.1 v_m_need i = nI (fnu (aS a).2.2.1 (aS a).1 x.2.1 i) ∧ μ.1 v_m_price i = nI (fnu (aPr a) (aS a).1 x.2.2.1 i) := this
    rw [fnu_ne _ _ (show i ≠ (aS a).1 by omega), fnu_ne _ _ (show i ≠ (aS a).1 by omega)] at h1
    exact h1
  | inr x => exact h i hi
theorem m_line {k : Nat} {q : List (Nat × Bool × Nat × Nat)} (hE : RE7 t L sz μ) (hk : k ≤ L) (hs : MSt k μ) (hp : (aS a).1 ≤ 14) (hq : q.length < 79) (hM : MNP a μ) (hQ : LnK q μ) (x4 : Int32) : RLo n a q (rdL t L (aS a).1 k) x4 μ (bd2 (f_m_here μ) fun v63 μ61 => if v63 = (98 : Int32) then (f_m_street_b89 (f_m_street_b59 (n + 1)) (nI (aS a).1) (nI (aN a)) (nI (aS a).2.2.2) x4 (nI q.length) μ61) else (bd2 (f_m_here μ61) fun v105 μ103 => if v105 = (110 : Int32) then (f_m_street_b89 (f_m_street_b59 (n + 1)) (nI (aS a).1) (nI (aN a)) (nI (aS a).2.2.2) x4 (nI q.length) μ103) else (bd1 (f_m_readMeeting ((4 : Int32) * nI q.length) (nI (aS a).1) μ103) fun μ107 => f_m_street_b210 (f_m_street_b59 (n + 1)) (nI (aS a).1) (nI (aN a)) (nI (aS a).2.2.2) x4 (nI q.length + (1 : Int32)) μ107))) := by
  have h76 := hE.L76
  have h256 := cu_256 (L := L) hE.1.2 k
  have e98 : hb (cu t L k) = (98 : Int32) ↔ cu t L k = 98 := hb_eq (x := 98) h256 (by omega)
  have e110 : hb (cu t L k) = (110 : Int32) ↔ cu t L k = 110 := hb_eq (x := 110) h256 (by omega)
  rw [m_here7 hE hk hs.1, bd2_s]
  unfold rdL
  by_cases c1 : cu t L k = 98
  · have hkL : k < L := cu_L (t := t) (by omega)
    rw [if_pos (e98.mpr c1), if_pos (Or.inl c1)]
    exact m_person hE hkL hs hp hM hQ x4
  · rw [if_neg (fun z => c1 (e98.mp z)), m_here7 hE hk hs.1, bd2_s]
    by_cases c2 : cu t L k = 110
    · have hkL : k < L := cu_L (t := t) (by omega)
      rw [if_pos (e110.mpr c2), if_pos (Or.inr c2)]
      exact m_person hE hkL hs hp hM hQ x4
    · rw [if_neg (fun z => c2 (e110.mp z)), if_neg (show ¬ (cu t L k = 98 ∨ cu t L k = 110) from fun z => z.elim c1 c2), show (4 : Int32) * nI q.length = nI (4 * q.length) from i_mul 4 _]
      have hle := rdA_le (t := t) (L := L) (th := (aS a).1) hk hp
      obtain ⟨μ1, b1, b2, b3⟩ := m_meet (th := (aS a).1) rfl hq hE hk hs hQ hp
      rw [b1, bd1_s]
      cases hr : rdA t L (aS a).1 k with
      | mk k1 ol =>
        rw [hr] at b3 hle
        cases ol with
        | none =>
          have b3' : μ1.1 v_m_wrong 0 = nI k1 := b3
          have hle1 : k1 ≤ L := hle.1
          exact ⟨μ1, m_bad59 (by omega) b3' _ _ _ _ _, b2.NF, hM.lf b2⟩
        | some l =>
          cases l with
          | inl x => exact absurd b3 (fun z => z)
          | inr l =>
            have b3' : MSt k1 μ1 ∧ LnK (q ++ [l]) μ1 := b3
            refine ⟨μ1, ?_, b2.NF, b3'.1, hM.lf b2, b3'.2⟩
            rw [l_1, i_add, List.length_append]
            rfl
theorem NF.E7 {μ' : Mem} (h : NF μ μ') (hE : RE7 t L sz μ) : RE7 t L sz μ' := hE.of (fun v hv => h.1 v (by omega) (by omega) (by omega) (by omega) (by omega))
/-- the end of the LINES -/
def REo (n : Nat) (a : Ab) (q : List (Nat × Bool × Nat × Nat)) (r : Bool × Nat × List LN) (μ : Mem) (o : Option (Int32 × Mem)) : Prop := ∃ μ', NF μ μ' ∧ (r.1 = false → o = some (-1 - nI r.2.1, μ') ∧ MNP a μ') ∧ (r.1 = true → ∃ k, MSt k μ' ∧ o = f_m_street_b243 (nI (aS (r.2.2.foldl ap1 a)).1) (nI (aN (r.2.2.foldl ap1 a))) (nI (aS (r.2.2.foldl ap1 a)).2.2.2) (nI (n + r.2.2.length)) (nI (q ++ acq r.2.2).length) μ' ∧ MNP (r.2.2.foldl ap1 a) μ' ∧ LnK (q ++ acq r.2.2) μ')
theorem m_lines_lp : ∀ m n k a q g (μ : Mem), L ≤ k + m → m + 1 < g → RE7 t L sz μ → k ≤ L → MSt k μ → (aS a).1 ≤ 14 → q.length ≤ k → MNP a μ → LnK q μ → REo n a q (rdAll t L sz m (aS a).1 k) μ (f_m_street_b59 g (nI (aS a).1) (nI (aN a)) (nI (aS a).2.2.2) (nI n) (nI q.length) 1 μ) := by
  intro m
  induction m with
  | zero =>
    intro n k a q g μ hm hg hE hk hs hp hq hM hQ
    obtain ⟨g, rfl⟩ : ∃ z, g = z + 2 := ⟨g - 2, by omega⟩
    have h76 := hE.L76
    have hL := m_line (n := g) hE hk hs hp (show q.length < 79 by omega) hM hQ (nI n)
    have e : rdL t L (aS a).1 k = (k, none) := by
      have hcu : cu t L k = 256 := if_neg (by omega)
      unfold rdL rdA rdS
      have hn : (pNumL t L 2 k 0).1 = k := by
        rw [pNumL, hcu, if_neg (by omega)]
      rw [hcu, if_neg (by omega), if_pos hn]
    rw [e] at hL
    obtain ⟨μ', b1, b2, b3⟩ := hL
    refine ⟨μ', b2, fun _ => ⟨?_, b3⟩, fun z => absurd z (by simp [rdAll])⟩
    rw [f_m_street_b59, if_neg (show ¬ (1 : Int32) = 0 by decide), m_fine1 hs.2, bd2_s, if_neg (show ¬ (1 : Int32) = 0 by decide)]
    exact b1
  | succ m ih =>
    intro n k a q g μ hm hg hE hk hs hp hq hM hQ
    obtain ⟨g, rfl⟩ : ∃ z, g = z + 2 := ⟨g - 2, by omega⟩
    have h76 := hE.L76
    have hsz := hE.1.1
    have hle := rdL_le (t := t) hk hp
    have hL := m_line (n := g) hE hk hs hp (show q.length < 79 by omega) hM hQ (nI n)
    rw [f_m_street_b59, if_neg (show ¬ (1 : Int32) = 0 by decide), m_fine1 hs.2, bd2_s, if_neg (show ¬ (1 : Int32) = 0 by decide), rdAll]
    cases hr : rdL t L (aS a).1 k with
    | mk k1 ol =>
      rw [hr] at hL hle
      cases ol with
      | none =>
        obtain ⟨μ', b1, b2, b3⟩ := hL
        exact ⟨μ', b2, fun _ => ⟨b1, b3⟩, fun z => absurd z (by simp)⟩
      | some l =>
        obtain ⟨g1, g2⟩ := hle.2 l rfl
        have g1' : k + 4 ≤ k1 := g1
        have hl1 : k1 ≤ L := hle.1
        have hU : ∃ μ1, (bd2 (f_m_here μ) fun v63 μ61 => if v63 = (98 : Int32) then (f_m_street_b89 (f_m_street_b59 (g + 1)) (nI (aS a).1) (nI (aN a)) (nI (aS a).2.2.2) (nI n) (nI q.length) μ61) else (bd2 (f_m_here μ61) fun v105 μ103 => if v105 = (110 : Int32) then (f_m_street_b89 (f_m_street_b59 (g + 1)) (nI (aS a).1) (nI (aN a)) (nI (aS a).2.2.2) (nI n) (nI q.length) μ103) else (bd1 (f_m_readMeeting ((4 : Int32) * nI q.length) (nI (aS a).1) μ103) fun μ107 => f_m_street_b210 (f_m_street_b59 (g + 1)) (nI (aS a).1) (nI (aN a)) (nI (aS a).2.2.2) (nI n) (nI q.length + (1 : Int32)) μ107))) = f_m_street_b210 (f_m_street_b59 (g + 1)) (nI (aS (ap1 a l)).1) (nI (aN (ap1 a l))) (nI (aS (ap1 a l)).2.2.2) (nI n) (nI (q ++ acq [l]).length) μ1 ∧ NF μ μ1 ∧ MSt k1 μ1 ∧ MNP (ap1 a l) μ1 ∧ LnK (q ++ acq [l]) μ1 := by
          cases l with
          | inl x =>
            have : acq [(Sum.inl x : LN)] = [] := rfl
            rw [this, List.append_nil]
            exact hL
          | inr x => exact hL
        obtain ⟨μ1, b1, b2, b3, b4, b5⟩ := hU
        rw [b1]
        have hE1 := b2.E7 hE
        have hla : (q ++ acq [l]).length ≤ q.length + 1 := by
          rw [List.length_append]
          cases l with
          | inl x => show q.length + 0 ≤ _; omega
          | inr x => show q.length + 1 ≤ _; omega
        obtain ⟨μ2, p1, p2, p3⟩ := m_pass7 hE1 hl1 b3 (c := 59) (by omega)
        unfold f_m_street_b210
        rw [show f_m_passes (59 : Int32) μ1 = _ from p1, bd2_s, l_1, i_add]
        have hM2 := b4.lf p2.LF
        have hQ2 := b5.of (p2.1 _ (by decide) (by decide))
        have fin : ∀ o : Option (Int32 × Mem), o = f_m_street_b224 (nI (aS (ap1 a l)).1) (nI (aN (ap1 a l))) (nI (aS (ap1 a l)).2.2.2) (nI (n + 1)) (nI (q ++ acq [l]).length) μ2 → MSt k1 μ2 → REo n a q (if sz ≤ k1 then (true, k1, [l]) else (false, k1, [l])) μ o := fun o ho hs2 => by
          have hE2 := hE1.fr p2
          unfold f_m_street_b224 at ho
          rw [hE2.2.1, hs2.1] at ho
          by_cases c : sz ≤ k1
          · rw [if_pos ((i_leN (by omega) (by omega)).mpr c)] at ho
            rw [if_pos c]
            exact ⟨μ2, b2.tr p2.NF, fun z => absurd z (by simp), fun _ => ⟨k1, hs2, ho, hM2, hQ2⟩⟩
          · rw [if_neg (fun z => c ((i_leN (by omega) (by omega)).mp z)), m_fault1 hs2.2, bd1_s] at ho
            rw [if_neg c]
            have hw : (setI μ2 v_m_wrong 0 (nI k1)).1 v_m_wrong 0 = nI k1 := sI_eq _ _ _ _
            refine ⟨setI μ2 v_m_wrong 0 (nI k1), (b2.tr p2.NF).tr (RF.wr_ _ _).NF, fun _ => ⟨?_, (hM2.lf (RF.wr_ _ _).LF).back⟩, fun z => absurd z (by simp)⟩
            rw [ho]
            unfold f_m_street_b243
            rw [m_fine0 (by omega) hw, bd2_s, if_pos rfl, hw]
        show REo n a q (if k1 < L then (if cu t L k1 = 59 then ((rdAll t L sz m ((aS a).1 + isPn l) (k1 + 1)).1, (rdAll t L sz m ((aS a).1 + isPn l) (k1 + 1)).2.1, l :: (rdAll t L sz m ((aS a).1 + isPn l) (k1 + 1)).2.2) else (false, k1, [l])) else (if sz ≤ L then (true, k1, [l]) else (false, L, [l]))) μ _
        by_cases c1 : k1 < L
        · rw [if_pos c1]
          by_cases c2 : cu t L k1 = 59
          · rw [decide_eq_true c2] at p3 ⊢
            rw [if_pos c2]
            have := ih (n + 1) (k1 + 1) (ap1 a l) (q ++ acq [l]) (g + 1) μ2 (by omega) (by omega) (hE1.fr p2) (by omega) p3 (by rw [ap1_p]; exact g2) (by omega) hM2 hQ2
            rw [ap1_p] at this
            obtain ⟨μ', r1, r2, r3⟩ := this
            refine ⟨μ', (b2.tr p2.NF).tr r1, fun z => ⟨(r2 z).1 ▸ (by rw [ap1_p]; rfl), (r2 z).2.back⟩, fun z => ?_⟩
            obtain ⟨k', s1, s2, s3, s4⟩ := r3 z
            have eq : q ++ acq [l] ++ acq (rdAll t L sz m ((aS a).1 + isPn l) (k1 + 1)).2.2 = q ++ acq (l :: (rdAll t L sz m ((aS a).1 + isPn l) (k1 + 1)).2.2) := by
              rw [List.append_assoc]
              cases l with
              | inl x => rfl
              | inr x => rfl
            rw [eq] at s2 s4
            refine ⟨k', s1, ?_, s3, s4⟩
            rw [show n + (l :: (rdAll t L sz m ((aS a).1 + isPn l) (k1 + 1)).2.2).length = n + 1 + (rdAll t L sz m ((aS a).1 + isPn l) (k1 + 1)).2.2.length by rw [List.length_cons]; omega]
            refine Eq.trans ?_ s2
            rw [ap1_p]
            rfl
          · rw [decide_eq_false c2] at p3 ⊢
            rw [if_neg c2]
            have := fin _ (show f_m_street_b59 (g + 1) (nI (aS (ap1 a l)).1) (nI (aN (ap1 a l))) (nI (aS (ap1 a l)).2.2.2) (nI (n + 1)) (nI (q ++ acq [l]).length) (nI (bN false)) μ2 = _ by rw [f_m_street_b59, if_pos (show nI (bN false) = 0 by decide)]) p3
            rw [if_neg (show ¬ sz ≤ k1 by omega)] at this
            exact this
        · have e1 : k1 = L := by omega
          have c2 : ¬ cu t L k1 = 59 := by rw [show cu t L k1 = 256 from if_neg (by omega)]; omega
          rw [decide_eq_false c2] at p3 ⊢
          rw [if_neg c1]
          have := fin _ (show f_m_street_b59 (g + 1) (nI (aS (ap1 a l)).1) (nI (aN (ap1 a l))) (nI (aS (ap1 a l)).2.2.2) (nI (n + 1)) (nI (q ++ acq [l]).length) (nI (bN false)) μ2 = _ by rw [f_m_street_b59, if_pos (show nI (bN false) = 0 by decide)]) p3
          rw [e1] at this ⊢
          exact this
end RMa
