/-! street: what has been read is in bounds. -/
def VL (th : Nat) : LN → Prop
  | Sum.inl x => th < 14 ∧ x.2.1 ≤ 99 ∧ x.2.2.1 ≤ 9
  | Sum.inr x => x.1 < th ∧ x.2.2.1 < th ∧ x.2.2.2 ≤ 9
def VLs : Nat → List LN → Prop
  | _, [] => True
  | th, l :: r => VL th l ∧ VLs (th + isPn l) r
section RMb
variable {t : List Nat} {L sz th k : Nat} {a : Ab}
theorem rdP_ok (hk : k < L) {l : LN} (h : (rdP t L th k).2 = some l) : VL th l := by
  have hv : (pNumL t L 2 (k + 1) 0).2 < (0 + 1) * 10 ^ 2 := pNumL_v 2 (k + 1) 0
  have hdv : (pNumL t L 1 ((pNumL t L 2 (k + 1) 0).1 + 1) 0).2 < (0 + 1) * 10 ^ 1 := pNumL_v 1 _ 0
  unfold rdP at h
  by_cases c0 : th < 14
  · rw [if_pos c0] at h
    by_cases c1 : (pNumL t L 2 (k + 1) 0).1 = k + 1
    · rw [if_pos c1] at h; exact absurd h (by simp)
    · rw [if_neg c1] at h
      by_cases c2 : cu t L (pNumL t L 2 (k + 1) 0).1 = 44
      · rw [if_pos c2] at h
        by_cases c3 : (pNumL t L 1 ((pNumL t L 2 (k + 1) 0).1 + 1) 0).1 = (pNumL t L 2 (k + 1) 0).1 + 1
        · rw [if_pos c3] at h; exact absurd h (by simp)
        · rw [if_neg c3] at h
          rw [← Option.some.inj h]
          exact ⟨c0, by show (pNumL t L 2 (k + 1) 0).2 ≤ 99; omega, by show (pNumL t L 1 ((pNumL t L 2 (k + 1) 0).1 + 1) 0).2 ≤ 9; omega⟩
      · rw [if_neg c2] at h; exact absurd h (by simp)
  · rw [if_neg c0] at h; exact absurd h (by simp)
theorem rdL_ok (hk : k ≤ L) (hth : th ≤ 14) {l : LN} (h : (rdL t L th k).2 = some l) : VL th l := by
  unfold rdL at h
  by_cases c : cu t L k = 98 ∨ cu t L k = 110
  · have hlt : k < L := cu_L (t := t) (by omega)
    rw [if_pos c] at h; exact rdP_ok hlt h
  · rw [if_neg c] at h
    obtain ⟨_, _, o, both, w, v, e, h1, h2, h3, h4⟩ := (rdA_le (t := t) hk hth).2 l h
    rw [e]; exact ⟨h1, h2, h4⟩
theorem rdAll_ok : ∀ m th k, th ≤ 14 → k ≤ L → VLs th (rdAll t L sz m th k).2.2
  | 0, th, k, _, _ => trivial
  | m + 1, th, k, h14, hk => by
    have hle := rdL_le (t := t) hk h14
    have hok := fun l => rdL_ok (t := t) (l := l) hk h14
    rw [rdAll]
    cases hr : rdL t L th k with
    | mk k1 ol =>
      rw [hr] at hle hok
      cases ol with
      | none => exact trivial
      | some l =>
        obtain ⟨g1, g2⟩ := hle.2 l rfl
        have hv := hok l rfl
        show VLs th (if k1 < L then (if cu t L k1 = 59 then ((rdAll t L sz m (th + isPn l) (k1 + 1)).1, (rdAll t L sz m (th + isPn l) (k1 + 1)).2.1, l :: (rdAll t L sz m (th + isPn l) (k1 + 1)).2.2) else (false, k1, [l])) else (if sz ≤ L then (true, k1, [l]) else (false, L, [l]))).2.2
        by_cases c1 : k1 < L
        · rw [if_pos c1]
          by_cases c2 : cu t L k1 = 59
          · rw [if_pos c2]; exact ⟨hv, rdAll_ok m _ _ g2 (by omega)⟩
          · rw [if_neg c2]; exact ⟨hv, trivial⟩
        · rw [if_neg c1]
          by_cases c3 : sz ≤ L
          · rw [if_pos c3]; exact ⟨hv, trivial⟩
          · rw [if_neg c3]; exact ⟨hv, trivial⟩
theorem ap1_WF (hW : WF a) {l : LN} (h : VL (aS a).1 l) : WF (ap1 a l) := by
  have hnow := now_lt hW
  obtain ⟨⟨w1, w1b, w1c, w1d⟩, w2, w3, w4, w5, w6, w7⟩ := hW
  cases l with
  | inl x =>
    obtain ⟨bl, nd, pr, fi⟩ := x
    obtain ⟨h1, h2, h3⟩ := h
    have h1p := Nat.pow_lt_pow_right (a := 2) (by omega) (show (aS a).1 < (aS a).1 + 1 by omega)
    have hbit : ∀ z : Bool, bN z * 2 ^ (aS a).1 < 2 ^ ((aS a).1 + 1) := fun z => by
      cases z
      · show 0 * _ < _; rw [Nat.zero_mul]; exact Nat.two_pow_pos _
      · show 1 * _ < _; rw [Nat.one_mul]; exact h1p
    refine ⟨⟨h1, w1b, fun i hi => ?_, or_lt (Nat.lt_trans w1d h1p) (hbit fi)⟩, fun i j hij => w2 i j ?_, fun i hi => ?_, ⟨Nat.zero_le _, fun d hd => or_lt (Nat.lt_trans hnow h1p) (hbit bl)⟩, w5, w6, fun s k hk => ?_⟩
    · show fnu (aS a).2.2.1 (aS a).1 nd i ≤ 99
      have hi' : i < (aS a).1 + 1 := hi
      by_cases q : i = (aS a).1
      · rw [q, fnu_eq]; exact h2
      · rw [fnu_ne _ _ q]; exact w1c i (by omega)
    · have : (aS a).1 + 1 ≤ i ∨ (aS a).1 + 1 ≤ j := hij
      omega
    · show fnu (aPr a) (aS a).1 pr i ≤ 9
      have hi' : i < (aS a).1 + 1 := hi
      by_cases q : i = (aS a).1
      · rw [q, fnu_eq]; exact h3
      · rw [fnu_ne _ _ q]; exact w3 i (by omega)
    · obtain ⟨z1, z2, z3, z4, z5, z6⟩ := w7 s k hk
      exact ⟨by show k.1 ≤ (aS a).1 + 1; omega, z2, z3, z4, z5, z6⟩
  | inr x =>
    obtain ⟨o, both, w, v⟩ := x
    obtain ⟨h1, h2, h3⟩ := h
    have h1' : o < (aS a).1 := h1
    have h2' : w < (aS a).1 := h2
    have u9 : ∀ (lo : Nat → Nat → Nat) (p q : Nat), (∀ i j, lo i j ≤ 9) → ∀ i j, up2 lo p q v i j ≤ 9 := fun lo p q hlo i j => by
      by_cases c : i = p ∧ j = q
      · rw [c.1, c.2, up2_eq]; exact h3
      · rw [up2_ne _ _ c]; exact hlo i j
    have u0 : ∀ (lo : Nat → Nat → Nat) (p q : Nat), p < (aS a).1 → q < (aS a).1 → zOut (aS a).1 lo → zOut (aS a).1 (up2 lo p q v) := fun lo p q hp hq hlo i j hij => by
      rw [up2_ne _ _ (fun c => by omega)]; exact hlo i j hij
    cases both with
    | false => exact ⟨⟨w1, u9 _ _ _ w1b, w1c, w1d⟩, u0 _ _ _ h2' h1' w2, w3, w4, w5, w6, w7⟩
    | true => exact ⟨⟨w1, u9 _ _ _ (u9 _ _ _ w1b), w1c, w1d⟩, u0 _ _ _ h1' h2' (u0 _ _ _ h2' h1' w2), w3, w4, w5, w6, w7⟩
theorem foldl_WF : ∀ (ls : List LN) (a : Ab), WF a → VLs (aS a).1 ls → WF (ls.foldl ap1 a)
  | [], a, hW, _ => hW
  | l :: r, a, hW, h => foldl_WF r (ap1 a l) (ap1_WF hW h.1) (by rw [ap1_p]; exact h.2)
/-- loudnesses told, one by one -/
def qst (lo : Nat → Nat → Nat) (x : Nat × Bool × Nat × Nat) : Nat → Nat → Nat := if x.2.1 then up2 (up2 lo x.2.2.1 x.1 x.2.2.2) x.1 x.2.2.1 x.2.2.2 else up2 lo x.2.2.1 x.1 x.2.2.2
theorem foldl_lo : ∀ (ls : List LN) (a : Ab), (aS (ls.foldl ap1 a)).2.1 = (acq ls).foldl qst (aS a).2.1
  | [], a => rfl
  | Sum.inl x :: r, a => by
    show (aS (r.foldl ap1 (ap1 a (Sum.inl x)))).2.1 = (acq r).foldl qst (aS a).2.1
    rw [foldl_lo r]
    rfl
  | Sum.inr x :: r, a => by
    show (aS (r.foldl ap1 (ap1 a (Sum.inr x)))).2.1 = (acq r).foldl qst (qst (aS a).2.1 x)
    rw [foldl_lo r]
    rfl
theorem foldl_p : ∀ (ls : List LN) (a : Ab), (aS a).1 ≤ (aS (ls.foldl ap1 a)).1
  | [], a => Nat.le_refl _
  | l :: r, a => by
    have := foldl_p r (ap1 a l)
    rw [ap1_p] at this
    show (aS a).1 ≤ (aS (r.foldl ap1 (ap1 a l))).1
    omega
/-- nobody new: only loudnesses -/
theorem foldl_same : ∀ (ls : List LN) (a : Ab), (aS (ls.foldl ap1 a)).1 = (aS a).1 → ls.foldl ap1 a = aSetS a ((aS a).1, (aS (ls.foldl ap1 a)).2.1, (aS a).2.2.1, (aS a).2.2.2)
  | [], a, _ => rfl
  | Sum.inl x :: r, a, h => by
    have := foldl_p r (ap1 a (Sum.inl x))
    have h' : (aS (r.foldl ap1 (ap1 a (Sum.inl x)))).1 = (aS a).1 := h
    rw [h', ap1_p] at this
    exact absurd this (by show ¬ (aS a).1 + 1 ≤ (aS a).1; omega)
  | Sum.inr x :: r, a, h => by
    have h' : (aS (r.foldl ap1 (ap1 a (Sum.inr x)))).1 = (aS (ap1 a (Sum.inr x))).1 := h
    have := foldl_same r (ap1 a (Sum.inr x)) h'
    exact this
/-- somebody new: day 0 -/
theorem foldl_new : ∀ (ls : List LN) (a : Ab), (aS a).1 < (aS (ls.foldl ap1 a)).1 → aD (ls.foldl ap1 a) = 0
  | [], a, h => absurd h (by show ¬ (aS a).1 < (aS a).1; omega)
  | Sum.inl x :: r, a, h => by
    by_cases c : (aS (ap1 a (Sum.inl x))).1 < (aS (r.foldl ap1 (ap1 a (Sum.inl x)))).1
    · exact foldl_new r _ c
    · have hp := foldl_p r (ap1 a (Sum.inl x))
      have := foldl_same r (ap1 a (Sum.inl x)) (by omega)
      show aD (r.foldl ap1 (ap1 a (Sum.inl x))) = 0
      rw [this]
      rfl
  | Sum.inr x :: r, a, h => foldl_new r (ap1 a (Sum.inr x)) h
theorem foldl_rest : ∀ (ls : List LN) (a : Ab), (ls.foldl ap1 a).2.2.2 = a.2.2.2
  | [], a => rfl
  | Sum.inl x :: r, a => foldl_rest r (ap1 a (Sum.inl x))
  | Sum.inr x :: r, a => foldl_rest r (ap1 a (Sum.inr x))
theorem acq_ok : ∀ ls th p, th + 0 ≤ p → VLs th ls → (∀ x ∈ acq ls, x.1 < 14 ∧ x.2.2.1 < 14) ∨ 14 < th
  | [], th, p, _, _ => Or.inl (fun x hx => absurd hx (by simp [acq]))
  | Sum.inl x :: r, th, p, hp, h => by
    rcases acq_ok r (th + 1) (th + 1) (Nat.le_refl _) h.2 with q | q
    · exact Or.inl q
    · have := h.1.1; omega
  | Sum.inr x :: r, th, p, hp, h => by
    rcases acq_ok r (th + 0) (th + 0) (Nat.le_refl _) h.2 with q | q
    · by_cases c : 14 < th
      · exact Or.inr c
      · refine Or.inl (fun y hy => ?_)
        rcases List.mem_cons.mp hy with z | z
        · rw [z]; exact ⟨by have := h.1.1; omega, by have := h.1.2.1; omega⟩
        · exact q y z
    · exact Or.inr q
end RMb
