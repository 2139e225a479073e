/-! street: the class, whole. -/
def rdAns (n : Nat) (r : Bool × Nat × List LN) : Int32 := if r.1 then nI (n + r.2.2.length) else -1 - nI r.2.1
def apA (tl : Bool) (a : Ab) (ls : List LN) : Ab := if tl then ls.foldl ap1 a else a
theorem apA_nil (tl : Bool) (a : Ab) : apA tl a [] = a := by cases tl <;> rfl
theorem apA_cons (tl : Bool) (a : Ab) (l : LN) (ls : List LN) : apA tl a (l :: ls) = apA tl (apT tl a (some l)) ls := by cases tl <;> rfl
section OPS
variable {N : Nat} {a : Ab} {b : Nat × Nat} {μ0 μ : Mem} {Q : Nat} {S : SP} {U : Nat → List Nat} {t : List Nat} {L len th k : Nat} {tl : Bool}
theorem rdP_le (hk : k < L) : (rdP t L th k).1 ≤ L ∧ ∀ l, (rdP t L th k).2 = some l → k + 4 ≤ (rdP t L th k).1 ∧ th + isPn l ≤ 14 := by
  have hn := pNumL_le (t := t) (L := L) 2 (k + 1) 0 (by omega)
  unfold rdP
  by_cases c0 : th < 14
  · rw [if_pos c0]
    by_cases c1 : (pNumL t L 2 (k + 1) 0).1 = k + 1
    · rw [if_pos c1]; exact ⟨hk, fun l hl => absurd hl (by simp)⟩
    · rw [if_neg c1]
      by_cases c2 : cu t L (pNumL t L 2 (k + 1) 0).1 = 44
      · have hlt : (pNumL t L 2 (k + 1) 0).1 < L := cu_L (t := t) (by omega)
        have hd := pNumL_le (t := t) (L := L) 1 ((pNumL t L 2 (k + 1) 0).1 + 1) 0 (by omega)
        rw [if_pos c2]
        by_cases c3 : (pNumL t L 1 ((pNumL t L 2 (k + 1) 0).1 + 1) 0).1 = (pNumL t L 2 (k + 1) 0).1 + 1
        · rw [if_pos c3]; exact ⟨hlt, fun l hl => absurd hl (by simp)⟩
        · rw [if_neg c3]
          refine ⟨?_, fun l hl => ⟨?_, ?_⟩⟩
          · show (pNumL t L 1 ((pNumL t L 2 (k + 1) 0).1 + 1) 0).1 + bN _ ≤ L
            by_cases c4 : cu t L (pNumL t L 1 ((pNumL t L 2 (k + 1) 0).1 + 1) 0).1 = 33
            · have : (pNumL t L 1 ((pNumL t L 2 (k + 1) 0).1 + 1) 0).1 < L := cu_L (t := t) (by omega)
              rw [decide_eq_true c4]; show _ + 1 ≤ L; omega
            · rw [decide_eq_false c4]; show _ + 0 ≤ L; omega
          · show k + 4 ≤ (pNumL t L 1 ((pNumL t L 2 (k + 1) 0).1 + 1) 0).1 + bN _; omega
          · rw [← Option.some.inj hl]; show th + 1 ≤ 14; omega
      · rw [if_neg c2]; exact ⟨hn.2.1, fun l hl => absurd hl (by simp)⟩
  · rw [if_neg c0]; exact ⟨by show k ≤ L; omega, fun l hl => absurd hl (by simp)⟩
theorem rdB_le {o : Nat} {both : Bool} (hk : k ≤ L) (hth : th ≤ 14) : (rdB t L th o k both).1 ≤ L ∧ ∀ l, (rdB t L th o k both).2 = some l → k + 3 ≤ (rdB t L th o k both).1 ∧ th + isPn l ≤ 14 ∧ ∃ w v, l = Sum.inr (o, both, w, v) ∧ w < th ∧ w ≠ o ∧ v ≤ 9 := by
  have hle := rdS_le (t := t) (L := L) (th := th) (be := some o) hk
  unfold rdB
  cases hr : rdS t L th (some o) k with
  | mk k2 ow =>
    rw [hr] at hle
    cases ow with
    | none => exact ⟨hle.1, fun l hl => absurd hl (by simp)⟩
    | some w =>
      obtain ⟨hl1, hl2, hl3⟩ := hle.2 w rfl
      show (if cu t L k2 = 42 then (if (pNumL t L 1 (k2 + 1) 0).1 = k2 + 1 then (k2 + 1, none) else ((pNumL t L 1 (k2 + 1) 0).1, some (Sum.inr (o, both, w, (pNumL t L 1 (k2 + 1) 0).2)))) else (k2, (none : Option LN))).1 ≤ L ∧ ∀ l, (if cu t L k2 = 42 then (if (pNumL t L 1 (k2 + 1) 0).1 = k2 + 1 then (k2 + 1, none) else ((pNumL t L 1 (k2 + 1) 0).1, some (Sum.inr (o, both, w, (pNumL t L 1 (k2 + 1) 0).2)))) else (k2, (none : Option LN))).2 = some l → k + 3 ≤ (if cu t L k2 = 42 then (if (pNumL t L 1 (k2 + 1) 0).1 = k2 + 1 then (k2 + 1, none) else ((pNumL t L 1 (k2 + 1) 0).1, some (Sum.inr (o, both, w, (pNumL t L 1 (k2 + 1) 0).2)))) else (k2, (none : Option LN))).1 ∧ _
      by_cases c : cu t L k2 = 42
      · have hlt : k2 < L := cu_L (t := t) (by omega)
        have hd := pNumL_le (t := t) (L := L) 1 (k2 + 1) 0 (by omega)
        have hdv : (pNumL t L 1 (k2 + 1) 0).2 < 10 := pNumL_v 1 _ 0
        rw [if_pos c]
        by_cases c3 : (pNumL t L 1 (k2 + 1) 0).1 = k2 + 1
        · rw [if_pos c3]; exact ⟨hlt, fun l hl => absurd hl (by simp)⟩
        · rw [if_neg c3]
          have hl1' : k < k2 := hl1
          refine ⟨hd.2.1, fun l hl => ⟨by show k + 3 ≤ (pNumL t L 1 (k2 + 1) 0).1; omega, ?_, w, (pNumL t L 1 (k2 + 1) 0).2, (Option.some.inj hl).symm, hl2, fun q => hl3 (by rw [q]), by omega⟩⟩
          rw [← Option.some.inj hl]; exact hth
      · rw [if_neg c]; exact ⟨hle.1, fun l hl => absurd hl (by simp)⟩
theorem rdA_le (hk : k ≤ L) (hth : th ≤ 14) : (rdA t L th k).1 ≤ L ∧ ∀ l, (rdA t L th k).2 = some l → k + 4 ≤ (rdA t L th k).1 ∧ th + isPn l ≤ 14 ∧ ∃ o both w v, l = Sum.inr (o, both, w, v) ∧ o < th ∧ w < th ∧ w ≠ o ∧ v ≤ 9 := by
  have hle := rdS_le (t := t) (L := L) (th := th) (be := none) hk
  unfold rdA
  cases hr : rdS t L th none k with
  | mk k1 oo =>
    rw [hr] at hle
    cases oo with
    | none => exact ⟨hle.1, fun l hl => absurd hl (by simp)⟩
    | some o =>
      obtain ⟨hl1, hl2, _⟩ := hle.2 o rfl
      have hl1' : k < k1 := hl1
      have key : ∀ r : Nat × Option LN, r = (if cu t L k1 = 45 then rdB t L th o (k1 + 1) true else if cu t L k1 = 62 then rdB t L th o (k1 + 1) false else (k1, none)) → r.1 ≤ L ∧ ∀ l, r.2 = some l → k + 4 ≤ r.1 ∧ th + isPn l ≤ 14 ∧ ∃ o both w v, l = Sum.inr (o, both, w, v) ∧ o < th ∧ w < th ∧ w ≠ o ∧ v ≤ 9 := fun r hr => by
        by_cases c1 : cu t L k1 = 45
        · have hlt : k1 < L := cu_L (t := t) (by omega)
          rw [if_pos c1] at hr
          have := rdB_le (t := t) (o := o) (both := true) (show k1 + 1 ≤ L by omega) hth
          rw [← hr] at this
          refine ⟨this.1, fun l hl => ?_⟩
          obtain ⟨z1, z2, w, v, z3, z4, z5, z6⟩ := this.2 l hl
          exact ⟨by omega, z2, o, true, w, v, z3, hl2, z4, z5, z6⟩
        · rw [if_neg c1] at hr
          by_cases c2 : cu t L k1 = 62
          · have hlt : k1 < L := cu_L (t := t) (by omega)
            rw [if_pos c2] at hr
            have := rdB_le (t := t) (o := o) (both := false) (show k1 + 1 ≤ L by omega) hth
            rw [← hr] at this
            refine ⟨this.1, fun l hl => ?_⟩
            obtain ⟨z1, z2, w, v, z3, z4, z5, z6⟩ := this.2 l hl
            exact ⟨by omega, z2, o, false, w, v, z3, hl2, z4, z5, z6⟩
          · rw [if_neg c2] at hr
            rw [hr]; exact ⟨hle.1, fun l hl => absurd hl (by simp)⟩
      exact key _ rfl
theorem rdL_le (hk : k ≤ L) (hth : th ≤ 14) : (rdL t L th k).1 ≤ L ∧ ∀ l, (rdL t L th k).2 = some l → k + 4 ≤ (rdL t L th k).1 ∧ th + isPn l ≤ 14 := by
  unfold rdL
  by_cases c : cu t L k = 98 ∨ cu t L k = 110
  · have hlt : k < L := cu_L (t := t) (by omega)
    rw [if_pos c]; exact rdP_le hlt
  · rw [if_neg c]
    have := rdA_le (t := t) hk hth
    exact ⟨this.1, fun l hl => ⟨(this.2 l hl).1, (this.2 l hl).2.1⟩⟩
theorem ap1_p (l : LN) : (aS (ap1 a l)).1 = (aS a).1 + isPn l := by
  cases l with
  | inl x => rfl
  | inr x => rfl
theorem XI.up60 (h : XI N b a μ0 μ) (hb : b.2 ≤ 60) : XI N (b.1, if tl then 60 else b.2) a μ0 μ := by
  cases tl with
  | false => exact h
  | true => exact h.upb hb (Nat.le_refl _)
theorem XI.up61 (h : XI N (b.1, if tl then b.2 + 2 else b.2) a μ0 μ) (hb : (if tl then b.2 + 2 else b.2) ≤ 60) : XI N (b.1, if tl then 60 else b.2) a μ0 μ := by
  cases tl with
  | false => exact h
  | true => exact h.upb hb (Nat.le_refl _)
theorem sr_lines_lp : ∀ m n th k a b g (μ : Mem), m + n = L → m < g → XI N b a μ0 μ → SRs t L len th k tl μ → k ≤ L → th ≤ 14 → 5 * n ≤ k → (tl = true → b.2 = 2 * n ∧ th = (aS a).1) → b.2 ≤ 60 → ∃ μ', f_sr_readLines_b23 g (nI (n + 1)) μ = some (rdAns n (rdAll t L len m th k), μ') ∧ XI N (b.1, if tl then 60 else b.2) (apA tl a (rdAll t L len m th k).2.2) μ0 μ' ∧ ∃ th' k', SRs t L len th' k' tl μ' := by
  intro m
  induction m with
  | zero =>
    intro n th k a b g μ hm hg h hs hk hth h5 htl hb
    obtain ⟨g, rfl⟩ : ∃ z, g = z + 1 := ⟨g - 1, by omega⟩
    have h76 := hs.L76
    refine ⟨μ, ?_, ?_, _, _, hs⟩
    · rw [f_sr_readLines_b23, hs.2.2.1, if_pos ((i_ltN (by omega) (by omega)).mpr (by omega)), hs.2.2.2.2.2.1]
      rfl
    · show XI N (b.1, if tl then 60 else b.2) (apA tl a []) μ0 μ
      rw [apA_nil]; exact h.up60 hb
  | succ m ih =>
    intro n th k a b g μ hm hg h hs hk hth h5 htl hb
    obtain ⟨g, rfl⟩ : ∃ z, g = z + 1 := ⟨g - 1, by omega⟩
    have h76 := hs.L76
    have hle := rdL_le (t := t) hk hth
    obtain ⟨μ1, a1, a2, a3⟩ := sr_line h hs hk hth (fun q => by have := (htl q).1; omega) (fun q => (htl q).2)
    have hb1 : (if tl then b.2 + 2 else b.2) ≤ 60 := by
      cases tl with
      | false => exact hb
      | true => have := (htl rfl).1; show b.2 + 2 ≤ 60; omega
    have e1 : f_sr_readLines_b23 (g + 1) (nI (n + 1)) μ = (if nI (bN (rdL t L th k).2.isSome) = 0 then (some ((-1 : Int32) - (μ1.1 v_sr_at 0), μ1)) else (if (μ1.1 v_sr_at 0) < (μ1.1 v_sr_limit 0) then (bd2 (f_sr_take (59 : Int32) μ1) fun v16 μ14 => if v16 = 0 then (some ((-1 : Int32) - (μ14.1 v_sr_at 0), μ14)) else (f_sr_readLines_b23 g (nI (n + 1) + (1 : Int32)) μ14)) else (bnd (if (μ1.1 v_sr_length 0) ≤ (μ1.1 v_sr_limit 0) then nI (n + 1) else (-1 : Int32) - (μ1.1 v_sr_limit 0)) fun v18 => some (v18, μ1)))) := by
      rw [f_sr_readLines_b23, hs.2.2.1, if_neg (fun q => absurd ((i_ltN (by omega) (by omega)).mp q) (by omega)), a1, bd2_s]
    rw [rdAll]
    cases hr : rdL t L th k with
    | mk k1 ol =>
      rw [hr] at a2 a3 e1 hle
      rw [a3.2.2.2.2.2.1, a3.2.2.1, a3.2.2.2.1] at e1
      cases ol with
      | none =>
        refine ⟨μ1, ?_, ?_, _, _, a3⟩
        · rw [e1, if_pos (show nI (bN (none : Option LN).isSome) = 0 by decide)]; rfl
        · show XI N (b.1, if tl then 60 else b.2) (apA tl a []) μ0 μ1
          rw [apA_nil]; exact a2.up61 hb1
      | some l =>
        obtain ⟨g1, g2⟩ := hle.2 l rfl
        have g1' : k + 4 ≤ k1 := g1
        have hl1 : k1 ≤ L := hle.1
        have hlen := hs.1.1
        rw [if_neg (show ¬ nI (bN (some l).isSome) = 0 from (by decide : ¬ nI (bN true) = 0))] at e1
        show ∃ μ', f_sr_readLines_b23 (g + 1) (nI (n + 1)) μ = some (rdAns n (if k1 < L then (if cu t L k1 = 59 then ((rdAll t L len m (th + isPn l) (k1 + 1)).1, (rdAll t L len m (th + isPn l) (k1 + 1)).2.1, l :: (rdAll t L len m (th + isPn l) (k1 + 1)).2.2) else (false, k1, [l])) else (if len ≤ L then (true, k1, [l]) else (false, L, [l]))), μ') ∧ XI N (b.1, if tl then 60 else b.2) (apA tl a (if k1 < L then (if cu t L k1 = 59 then ((rdAll t L len m (th + isPn l) (k1 + 1)).1, (rdAll t L len m (th + isPn l) (k1 + 1)).2.1, l :: (rdAll t L len m (th + isPn l) (k1 + 1)).2.2) else (false, k1, [l])) else (if len ≤ L then (true, k1, [l]) else (false, L, [l]))).2.2) μ0 μ' ∧ ∃ th' k', SRs t L len th' k' tl μ'
        by_cases c1 : k1 < L
        · rw [if_pos ((i_ltN (by omega) (by omega)).mpr c1)] at e1
          rw [if_pos c1]
          obtain ⟨μ2, b1, b2, b3⟩ := sr_take a3 hl1 (c := 59) (by omega)
          rw [show f_sr_take (59 : Int32) μ1 = _ from b1, bd2_s] at e1
          by_cases c2 : cu t L k1 = 59
          · rw [decide_eq_true c2] at e1 b2
            rw [if_neg (show ¬ nI (bN true) = 0 by decide), l_1, i_add] at e1
            rw [if_pos c2]
            obtain ⟨μ', q1, q2, q3⟩ := ih (n + 1) (th + isPn l) (k1 + 1) (apT tl a (some l)) (b.1, if tl then b.2 + 2 else b.2) g μ2 (by omega) (by omega) (a2.fs b3) b2 (by omega) g2 (by omega) (fun q => by
              subst q
              refine ⟨?_, ?_⟩
              · have := (htl rfl).1; show b.2 + 2 = _; omega
              · show th + isPn l = (aS (ap1 a l)).1
                rw [ap1_p, (htl rfl).2]) hb1
            refine ⟨μ', ?_, ?_, q3⟩
            · rw [e1, q1]
              unfold rdAns
              show some (if (rdAll t L len m (th + isPn l) (k1 + 1)).1 = true then _ else _, μ') = some (if (rdAll t L len m (th + isPn l) (k1 + 1)).1 = true then nI (n + (l :: (rdAll t L len m (th + isPn l) (k1 + 1)).2.2).length) else _, μ')
              rw [List.length_cons, show n + ((rdAll t L len m (th + isPn l) (k1 + 1)).2.2.length + 1) = n + 1 + (rdAll t L len m (th + isPn l) (k1 + 1)).2.2.length by omega]
            · show XI N (b.1, if tl then 60 else b.2) (apA tl a (l :: _)) μ0 μ'
              rw [apA_cons]
              cases tl with
              | false => exact q2
              | true => exact q2
          · rw [decide_eq_false c2] at e1 b2
            have b2' : SRs t L len (th + pnO (some l)) k1 tl μ2 := b2
            rw [if_pos (show nI (bN false) = 0 by decide), b2'.2.2.2.2.2.1] at e1
            rw [if_neg c2]
            refine ⟨μ2, e1, ?_, _, _, b2'⟩
            show XI N (b.1, if tl then 60 else b.2) (apA tl a [l]) μ0 μ2
            rw [apA_cons, apA_nil]; exact (a2.fs b3).up61 hb1
        · rw [if_neg (fun q => c1 ((i_ltN (by omega) (by omega)).mp q)), bnd_s] at e1
          rw [if_neg c1]
          have hXl : XI N (b.1, if tl then 60 else b.2) (apA tl a [l]) μ0 μ1 := by
            rw [apA_cons, apA_nil]; exact a2.up61 hb1
          by_cases c3 : len ≤ L
          · rw [if_pos ((i_leN (by omega) (by omega)).mpr c3)] at e1
            rw [if_pos c3]
            exact ⟨μ1, e1, hXl, _, _, a3⟩
          · rw [if_neg (fun q => c3 ((i_leN (by omega) (by omega)).mp q))] at e1
            rw [if_neg c3]
            exact ⟨μ1, e1, hXl, _, _, a3⟩
/-- what street answers, and what is then -/
def stR (a : Ab) : Bool × Nat × List LN := rdAll (aT a) (min (aT a).length 76) (aT a).length (min (aT a).length 76) (aS a).1 0
def stA (a : Ab) : Int32 × Ab := if aT a = [] then (0, aSetT a []) else (rdAns 0 (stR a), if (stR a).1 then (stR a).2.2.foldl ap1 (aSetT a []) else aSetT a [])
/-- where the class reads from -/
def TXf (t : List Nat) (L len : Nat) (m : Mem) : Prop := ((L = min len 76 ∧ len ≤ 80) ∧ ∀ j, t.getD j 0 < 256) ∧ m.1 v_sr_text 0 = 1 ∧ m.1 v_sr_limit 0 = nI L ∧ m.1 v_sr_length 0 = nI len ∧ ∀ j, j < L → m.1 v_x_text j = nI (t.getD j 0)
theorem sr_lines (h : XI N b a μ0 μ) (hs : TXf t L len μ) (hb : tl = true → b.2 = 0) (hb6 : b.2 ≤ 60) : ∃ μ', f_sr_readLines (nI (bN tl)) μ = some (rdAns 0 (rdAll t L len L (aS a).1 0), μ') ∧ XI N (b.1, if tl then 60 else b.2) (apA tl a (rdAll t L len L (aS a).1 0).2.2) μ0 μ' ∧ TXf t L len μ' := by
  have hp := h.1.1.1
  have hs1 : SRs t L len (aS a).1 0 tl (setI (setI (setI μ v_sr_telling 0 (nI (bN tl))) v_sr_there 0 (nI (aS a).1)) v_sr_at 0 0) := by
    obtain ⟨h1, h2, h3, h4, h5⟩ := hs
    exact ⟨h1, by rw [sI_v _ _ _ (by decide), sI_v _ _ _ (by decide), sI_v _ _ _ (by decide)]; exact h2, by rw [sI_v _ _ _ (by decide), sI_v _ _ _ (by decide), sI_v _ _ _ (by decide)]; exact h3, by rw [sI_v _ _ _ (by decide), sI_v _ _ _ (by decide), sI_v _ _ _ (by decide)]; exact h4, fun j hj => by rw [sI_v _ _ _ (by decide), sI_v _ _ _ (by decide), sI_v _ _ _ (by decide)]; exact h5 j hj, by rw [sI_eq]; rfl, by rw [sI_v _ _ _ (by decide), sI_eq], by rw [sI_v _ _ _ (by decide), sI_v _ _ _ (by decide), sI_eq]⟩
  have hF : FS μ (setI (setI (setI μ v_sr_telling 0 (nI (bN tl))) v_sr_there 0 (nI (aS a).1)) v_sr_at 0 0) := ⟨fun v hv => by rw [sI_v _ _ _ (show v ≠ 74 by omega), sI_v _ _ _ (show v ≠ 75 by omega), sI_v _ _ _ (show v ≠ 76 by omega)], rfl⟩
  have h76 := hs1.L76
  obtain ⟨μ', q1, q2, th', k', q3⟩ := sr_lines_lp L 0 (aS a).1 0 a b FU _ (by omega) (by unfold FU; omega) (h.fs hF) hs1 (Nat.zero_le _) hp (by omega) (fun q => ⟨hb q, rfl⟩) hb6
  obtain ⟨z1, z2, z3, z4, z5, _⟩ := q3
  refine ⟨μ', ?_, q2, z1, z2, z3, z4, z5⟩
  unfold f_sr_readLines
  rw [zb_b, chk_t, bnd_s, sI_v _ _ _ (by decide), h.2.1.1.1, bnd_s, bnd_s]
  exact q1
theorem rdAns_neg {r : Bool × Nat × List LN} (h : r.1 = false) (hp : r.2.1 ≤ 100) : rdAns 0 r < 0 := by
  unfold rdAns
  rw [h, if_neg (by decide)]
  exact (by decide : ∀ z, z ≤ 100 → (-1 : Int32) - nI z < 0) _ hp
theorem rdAll_pos (hth : th ≤ 14) : ∀ m th k, th ≤ 14 → k ≤ L → (rdAll t L len m th k).2.1 ≤ L ∧ (rdAll t L len m th k).2.2.length ≤ m
  | 0, th, k, _, hk => ⟨hk, Nat.le_refl _⟩
  | m + 1, th, k, h14, hk => by
    have hle := rdL_le (t := t) hk h14
    rw [rdAll]
    cases hr : rdL t L th k with
    | mk k1 ol =>
      rw [hr] at hle
      cases ol with
      | none => exact ⟨hle.1, Nat.zero_le _⟩
      | some l =>
        obtain ⟨g1, g2⟩ := hle.2 l rfl
        have key : ∀ r : Bool × Nat × List LN, r = (if k1 < L then (if cu t L k1 = 59 then ((rdAll t L len m (th + isPn l) (k1 + 1)).1, (rdAll t L len m (th + isPn l) (k1 + 1)).2.1, l :: (rdAll t L len m (th + isPn l) (k1 + 1)).2.2) else (false, k1, [l])) else (if len ≤ L then (true, k1, [l]) else (false, L, [l]))) → r.2.1 ≤ L ∧ r.2.2.length ≤ m + 1 := fun r e => by
          by_cases c1 : k1 < L
          · rw [if_pos c1] at e
            by_cases c2 : cu t L k1 = 59
            · rw [if_pos c2] at e
              have := rdAll_pos hth m (th + isPn l) (k1 + 1) g2 (by omega)
              rw [e]
              exact ⟨this.1, by show (rdAll t L len m (th + isPn l) (k1 + 1)).2.2.length + 1 ≤ m + 1; omega⟩
            · rw [if_neg c2] at e
              rw [e]; exact ⟨hle.1, by show 1 ≤ m + 1; omega⟩
          · rw [if_neg c1] at e
            by_cases c3 : len ≤ L
            · rw [if_pos c3] at e
              rw [e]; exact ⟨hle.1, by show 1 ≤ m + 1; omega⟩
            · rw [if_neg c3] at e
              rw [e]; exact ⟨Nat.le_refl _, by show 1 ≤ m + 1; omega⟩
        exact key _ rfl
theorem x_street (hN : N < 600) (h : XR N a μ) : ∃ μ', f_x_street μ = some ((stA a).1, μ') ∧ XO N (stA a).2 μ μ' := by
  have hT := h.2.1.2.2.1
  have hlen := h.1.2.2.2.2.1.1
  have hbt := h.1.2.2.2.2.1.2
  have hp := h.1.1.1
  have hX0 : XI N (4 * N, 0) (aSetT a []) μ (setI μ v_x_signs 0 0) := h.XI.text ⟨by simp, by simp⟩ (fun v _ h2 => sI_v _ _ _ h2) rfl ⟨sI_eq _ _ _ _, fun k hk => absurd hk (by simp)⟩
  unfold f_x_street f_sr_read
  rw [bnd_s, hT.1]
  unfold stA
  by_cases c0 : aT a = []
  · rw [if_pos c0, c0, if_pos (show nI ([] : List Nat).length = 0 by decide)]
    exact ⟨_, by rw [bd2_s], hX0.done hN⟩
  · have hpos : 0 < (aT a).length := List.length_pos_iff.mpr c0
    have hmin : imin (nI (aT a).length) (76 : Int32) = nI (min (aT a).length 76) := by rw [l_76, imin_n (by omega) (by omega)]
    rw [if_neg c0, if_neg (show ¬ nI (aT a).length = 0 from nI_nz (by omega) (by omega)), bnd_s, bnd_s, hmin, bnd_s]
    generalize hμ5 : setI (setI (setI (setI μ v_x_signs 0 0) v_sr_text 0 1) v_sr_length 0 (nI (aT a).length)) v_sr_limit 0 (nI (min (aT a).length 76)) = μ5
    have hF : FS (setI μ v_x_signs 0 0) μ5 := ⟨fun v hv => by rw [← hμ5, sI_v _ _ _ (show v ≠ 73 by omega), sI_v _ _ _ (show v ≠ 72 by omega), sI_v _ _ _ (show v ≠ 71 by omega)], by rw [← hμ5]; rfl⟩
    have h5 := hX0.fs hF
    have h5f : TXf (aT a) (min (aT a).length 76) (aT a).length μ5 := ⟨⟨⟨rfl, hlen⟩, t_lt hbt⟩, by rw [← hμ5, sI_v _ _ _ (by decide), sI_v _ _ _ (by decide), sI_eq], by rw [← hμ5, sI_eq], by rw [← hμ5, sI_v _ _ _ (by decide), sI_eq], fun j hj => by rw [← hμ5, sI_v _ _ _ (by decide), sI_v _ _ _ (by decide), sI_v _ _ _ (by decide), sI_v _ _ _ (by decide)]; exact hT.2 j (by omega)⟩
    obtain ⟨μ6, q1, q2, q3⟩ := sr_lines (tl := false) h5 h5f (fun q => absurd q (by decide)) (Nat.zero_le _)
    have q1' : f_sr_readLines 0 μ5 = some (rdAns 0 (stR a), μ6) := q1
    have q2' : XI N (4 * N, 0) (aSetT a []) μ μ6 := q2
    rw [q1', bd2_s]
    have hps := rdAll_pos (t := aT a) (L := min (aT a).length 76) (len := (aT a).length) hp (min (aT a).length 76) (aS a).1 0 hp (Nat.zero_le _)
    have hp1 : (stR a).2.1 ≤ min (aT a).length 76 := hps.1
    have hp2 : (stR a).2.2.length ≤ min (aT a).length 76 := hps.2
    by_cases c : (stR a).1 = true
    · have hge : (0 : Int32) ≤ rdAns 0 (stR a) := by
        unfold rdAns
        rw [if_pos c]
        exact (i_leN (a := 0) (by omega) (by omega)).mpr (Nat.zero_le _)
      obtain ⟨μ7, r1, r2, r3⟩ := sr_lines (tl := true) q2' q3 (fun _ => rfl) (Nat.zero_le _)
      have r1' : f_sr_readLines 1 μ6 = some (rdAns 0 (stR a), μ7) := r1
      have r2' : XI N (4 * N, 60) ((stR a).2.2.foldl ap1 (aSetT a [])) μ μ7 := r2
      rw [if_pos hge, r1', bd2_s, bd2_s, if_pos c]
      exact ⟨μ7, rfl, r2'.done hN⟩
    · rw [if_neg (fun q => absurd (rdAns_neg (bF c) (by omega)) (by rw [i_lt]; rw [i_le] at q; omega)), bd2_s, if_neg c]
      exact ⟨μ6, rfl, q2'.done hN⟩
end OPS
