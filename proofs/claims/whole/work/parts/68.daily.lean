/-! daily, plan: what is reckoned. -/
def mnL (f : Nat → Nat) (P : Nat → Bool) : Nat → Nat → Nat
  | 0, x => x
  | k + 1, x => if P k then min (mnL f P k x) (f k) else mnL f P k x
theorem mnL_x (f : Nat → Nat) (P : Nat → Bool) (x : Nat) : ∀ k, mnL f P k x ≤ x
  | 0 => Nat.le_refl _
  | k + 1 => by
    have := mnL_x f P x k
    rw [mnL]
    split <;> omega
theorem mnL_f {f : Nat → Nat} {P : Nat → Bool} {x i : Nat} : ∀ k, i < k → P i = true → mnL f P k x ≤ f i
  | 0, h, _ => absurd h (by omega)
  | k + 1, h, hP => by
    rw [mnL]
    by_cases e : i = k
    · subst e; rw [if_pos hP]; omega
    · have := mnL_f (f := f) (x := x) k (by omega) hP
      split <;> omega
theorem mnL_ge {f : Nat → Nat} {P : Nat → Bool} {x y : Nat} : ∀ k, y ≤ x → (∀ i, i < k → P i = true → y ≤ f i) → y ≤ mnL f P k x
  | 0, h, _ => h
  | k + 1, h, hf => by
    have h1 := mnL_ge k h (fun i hi => hf i (by omega))
    rw [mnL]
    by_cases c : P k = true
    · rw [if_pos c]; have := hf k (by omega) c; omega
    · rw [if_neg c]; exact h1
theorem mnL_at (f : Nat → Nat) (P : Nat → Bool) (x : Nat) : ∀ k, mnL f P k x = x ∨ ∃ i, i < k ∧ P i = true ∧ mnL f P k x = f i
  | 0 => Or.inl rfl
  | k + 1 => by
    rw [mnL]
    have ih := mnL_at f P x k
    by_cases c : P k = true
    · rw [if_pos c]
      rcases Nat.lt_or_ge (f k) (mnL f P k x) with q | q
      · exact Or.inr ⟨k, by omega, c, by omega⟩
      · rcases ih with e | ⟨i, i1, i2, i3⟩
        · left; omega
        · exact Or.inr ⟨i, by omega, i2, by omega⟩
    · rw [if_neg c]
      rcases ih with e | ⟨i, i1, i2, i3⟩
      · exact Or.inl e
      · exact Or.inr ⟨i, by omega, i2, i3⟩
def opS (S : SP) (s i : Nat) : Bool := !S.2.2.2.testBit i && !s.testBit i
def lsD (S : SP) (pr : Nat → Nat) (w : Nat) : Nat → Nat → Nat
  | 0, s => if s &&& w = w then 0 else 1000
  | d + 1, s => mnL (fun i => pr i + lsD S pr w d (nxt S (s ||| 2 ^ i))) (opS S s) S.1 (lsD S pr w d (nxt S s))
def bmp (c v : Nat) : Nat := if v = 1000000 then 1000000 else v + 100 * c + 1
def sqD (S : SP) (pr : Nat → Nat) (w : Nat) : Nat → Nat → Nat
  | 0, s => if s &&& w = w then 0 else 1000000
  | l + 1, s => if s &&& w = w then 0 else mnL (fun i => bmp (pr i) (sqD S pr w l (nxt S (s ||| 2 ^ i)))) (opS S s) S.1 (bmp 0 (sqD S pr w l (nxt S s)))
section RL
variable {S : SP} {pr : Nat → Nat} {w : Nat}
theorem lsD_le : ∀ d s, lsD S pr w d s ≤ 1000
  | 0, s => by rw [lsD]; split <;> omega
  | d + 1, s => by
    rw [lsD]
    exact Nat.le_trans (mnL_x _ _ _ _) (lsD_le d _)
/-- talking round one, or nobody: the STATE behind it, and what it costs -/
def Opt (S : SP) (pr : Nat → Nat) (s n co : Nat) : Prop := (n = nxt S s ∧ co = 0) ∨ ∃ i, i < S.1 ∧ opS S s i = true ∧ n = nxt S (s ||| 2 ^ i) ∧ co = pr i
theorem Opt.lt {s n co : Nat} (h9 : ∀ i, i < S.1 → pr i ≤ 9) (h : Opt S pr s n co) : n < 2 ^ S.1 ∧ co ≤ 9 := by
  rcases h with ⟨h1, h2⟩ | ⟨i, h1, h2, h3, h4⟩
  · rw [h1, h2]; exact ⟨nxt_lt _ _, by omega⟩
  · rw [h3, h4]; exact ⟨nxt_lt _ _, h9 i h1⟩
theorem ls_le {s n co d : Nat} (h : Opt S pr s n co) : lsD S pr w (d + 1) s ≤ co + lsD S pr w d n := by
  rw [lsD]
  rcases h with ⟨h1, h2⟩ | ⟨i, h1, h2, h3, h4⟩
  · rw [h1, h2, Nat.zero_add]; exact mnL_x _ _ _ _
  · rw [h3, h4]; exact mnL_f (f := fun i => pr i + lsD S pr w d (nxt S (s ||| 2 ^ i))) S.1 h1 h2
theorem ls_ge {s d y : Nat} (h : ∀ n co, Opt S pr s n co → y ≤ co + lsD S pr w d n) : y ≤ lsD S pr w (d + 1) s := by
  rw [lsD]
  refine mnL_ge S.1 ?_ (fun i hi hp => h _ _ (Or.inr ⟨i, hi, hp, rfl, rfl⟩))
  have := h _ _ (Or.inl ⟨rfl, rfl⟩)
  omega
theorem sq_le {s n co l : Nat} (hs : ¬ s &&& w = w) (h : Opt S pr s n co) : sqD S pr w (l + 1) s ≤ bmp co (sqD S pr w l n) := by
  rw [sqD, if_neg hs]
  rcases h with ⟨h1, h2⟩ | ⟨i, h1, h2, h3, h4⟩
  · rw [h1, h2]; exact mnL_x _ _ _ _
  · rw [h3, h4]; exact mnL_f (f := fun i => bmp (pr i) (sqD S pr w l (nxt S (s ||| 2 ^ i)))) S.1 h1 h2
theorem sq_at {s l : Nat} (hs : ¬ s &&& w = w) : ∃ n co, Opt S pr s n co ∧ sqD S pr w (l + 1) s = bmp co (sqD S pr w l n) := by
  rw [sqD, if_neg hs]
  rcases mnL_at (fun i => bmp (pr i) (sqD S pr w l (nxt S (s ||| 2 ^ i)))) (opS S s) (bmp 0 (sqD S pr w l (nxt S s))) S.1 with e | ⟨i, h1, h2, h3⟩
  · exact ⟨_, _, Or.inl ⟨rfl, rfl⟩, e⟩
  · exact ⟨_, _, Or.inr ⟨i, h1, h2, rfl, rfl⟩, h3⟩
def Rl1 (S : SP) (pr : Nat → Nat) (w l s c d : Nat) : Prop := d ≤ l ∧ c ≤ 9 * l ∧ lsD S pr w d s = c ∧ (∀ d', d' ≤ l → c ≤ lsD S pr w d' s) ∧ (∀ d', d' < d → c < lsD S pr w d' s) ∧ sqD S pr w l s = 100 * c + d
def Rl0 (S : SP) (pr : Nat → Nat) (w l s : Nat) : Prop := sqD S pr w l s = 1000000 ∧ ∀ d, d ≤ l → lsD S pr w d s = 1000
theorem rl (h9 : ∀ i, i < S.1 → pr i ≤ 9) : ∀ l s, l ≤ 6 → s < 2 ^ S.1 → Rl0 S pr w l s ∨ ∃ c d, Rl1 S pr w l s c d
  | 0, s, _, _ => by
    by_cases c : s &&& w = w
    · have e1 : lsD S pr w 0 s = 0 := by rw [lsD, if_pos c]
      refine Or.inr ⟨0, 0, Nat.le_refl _, by omega, e1, fun d' _ => Nat.zero_le _, fun d' h => absurd h (by omega), by rw [sqD, if_pos c]⟩
    · refine Or.inl ⟨by rw [sqD, if_neg c], fun d hd => ?_⟩
      obtain rfl : d = 0 := by omega
      rw [lsD, if_neg c]
  | l + 1, s, hl, hs => by
    by_cases c : s &&& w = w
    · have e1 : lsD S pr w 0 s = 0 := by rw [lsD, if_pos c]
      refine Or.inr ⟨0, 0, by omega, by omega, e1, fun d' _ => Nat.zero_le _, fun d' h => absurd h (by omega), by rw [sqD, if_pos c]⟩
    · have ih : ∀ n co, Opt S pr s n co → Rl0 S pr w l n ∨ ∃ c d, Rl1 S pr w l n c d := fun n co h => rl h9 l n (by omega) (h.lt h9).1
      have e0 : lsD S pr w 0 s = 1000 := by rw [lsD, if_neg c]
      obtain ⟨n0, co0, hO, hm⟩ := sq_at (S := S) (pr := pr) (w := w) (l := l) c
      have hco0 := (hO.lt h9).2
      rcases ih n0 co0 hO with ⟨h1, h2⟩ | ⟨c0, d0, g1, g2, g3, g4, g5, g6⟩
      · left
        have hF : sqD S pr w (l + 1) s = 1000000 := by rw [hm, h1]; rfl
        refine ⟨hF, fun d hd => ?_⟩
        cases d with
        | zero => exact e0
        | succ d =>
          refine Nat.le_antisymm (lsD_le _ _) (ls_ge (fun n co h => ?_))
          have hle := sq_le (l := l) c h
          rcases ih n co h with ⟨_, k2⟩ | ⟨c1, d1, k1, k2, k3, k4, k5, k6⟩
          · have := k2 d (by omega); omega
          · have hco := (h.lt h9).2
            rw [hF, k6] at hle
            unfold bmp at hle
            rw [if_neg (by omega)] at hle
            omega
      · right
        have hv : sqD S pr w (l + 1) s = 100 * (c0 + co0) + (d0 + 1) := by
          rw [hm, g6]
          unfold bmp
          rw [if_neg (by omega)]
          omega
        have low : ∀ n co d', Opt S pr s n co → d' ≤ l → c0 + co0 ≤ co + lsD S pr w d' n ∧ (d' < d0 → c0 + co0 < co + lsD S pr w d' n) := fun n co d' h hd' => by
          have hle := sq_le (l := l) c h
          have hco := (h.lt h9).2
          rcases ih n co h with ⟨_, k2⟩ | ⟨c1, d1, k1, k2, k3, k4, k5, k6⟩
          · have := k2 d' hd'
            constructor
            · omega
            · intro _; omega
          · rw [hv, k6] at hle
            unfold bmp at hle
            rw [if_neg (by omega)] at hle
            have h4 := k4 d' hd'
            constructor
            · omega
            · intro hlt
              rcases Nat.lt_or_ge d' d1 with q | q
              · have := k5 d' q; omega
              · omega
        refine ⟨c0 + co0, d0 + 1, by omega, by omega, ?_, fun d' hd' => ?_, fun d' hd' => ?_, hv⟩
        · refine Nat.le_antisymm ?_ (ls_ge (fun n co h => (low n co d0 h g1).1))
          have := ls_le (w := w) (d := d0) hO
          omega
        · cases d' with
          | zero => rw [e0]; omega
          | succ d' => exact ls_ge (fun n co h => (low n co d' h (by omega)).1)
        · cases d' with
          | zero => rw [e0]; omega
          | succ d' =>
            have : c0 + co0 + 1 ≤ lsD S pr w (d' + 1) s := ls_ge (fun n co h => (low n co d' h (by omega)).2 (by omega))
            omega
theorem rl_far (h9 : ∀ i, i < S.1 → pr i ≤ 9) {l s : Nat} (hl : l ≤ 6) (hs : s < 2 ^ S.1) : sqD S pr w l s = 1000000 ∨ sqD S pr w l s ≤ 5500 := by
  rcases rl (w := w) h9 l s hl hs with h | ⟨c, d, h1, h2, h3, h4, h5, h6⟩
  · exact Or.inl h.1
  · right; omega
/-- which choice is as good as can be -/
theorem rl_pick (h9 : ∀ i, i < S.1 → pr i ≤ 9) {l s c d n co : Nat} (hl : l + 1 ≤ 6) (hu : ¬ s &&& w = w) (h : Rl1 S pr w (l + 1) s c d) (hO : Opt S pr s n co) : (bmp co (sqD S pr w l n) = 100 * c + d ↔ co + lsD S pr w (d - 1) n = c) ∧ (co + lsD S pr w (d - 1) n = c → Rl1 S pr w l n (c - co) (d - 1)) := by
  obtain ⟨h1, h2, h3, h4, h5, h6⟩ := h
  have hd : 1 ≤ d := by
    rcases Nat.eq_zero_or_pos d with q | q
    · subst q
      rw [lsD, if_neg hu] at h3
      omega
    · exact q
  obtain ⟨hn, hco⟩ := hO.lt h9
  have hle := sq_le (l := l) hu hO
  rw [h6] at hle
  rcases rl (w := w) h9 l n (by omega) hn with ⟨k1, k2⟩ | ⟨c1, d1, k1, k2, k3, k4, k5, k6⟩
  · have e := k2 (d - 1) (by omega)
    refine ⟨⟨fun q => ?_, fun q => ?_⟩, fun q => ?_⟩
    · rw [k1] at q
      have : bmp co 1000000 = 1000000 := rfl
      omega
    · omega
    · omega
  · have hb : bmp co (sqD S pr w l n) = 100 * c1 + d1 + 100 * co + 1 := by
      rw [k6]; unfold bmp; rw [if_neg (by omega)]
    rw [hb] at hle
    have key : co + lsD S pr w (d - 1) n = c → c1 + co = c ∧ d1 = d - 1 := fun q => by
      have e4 := k4 (d - 1) (by omega)
      have e1 : c1 + co = c := by omega
      refine ⟨e1, ?_⟩
      rcases Nat.lt_or_ge (d - 1) d1 with z | z
      · have := k5 (d - 1) z; omega
      · omega
    refine ⟨⟨fun q => ?_, fun q => ?_⟩, fun q => ?_⟩
    · rw [hb] at q
      have e1 : c1 + co = c := by omega
      have e2 : d1 = d - 1 := by omega
      rw [← e2, k3]; omega
    · obtain ⟨e1, e2⟩ := key q
      rw [hb]; omega
    · obtain ⟨e1, e2⟩ := key q
      rw [← e2, show c - co = c1 by omega]
      exact ⟨k1, k2, k3, k4, k5, k6⟩
/-- the first of i .. that P takes -/
def fsI (P : Nat → Bool) : Nat → Nat → Option Nat
  | 0, _ => none
  | m + 1, i => if P i then some i else fsI P m (i + 1)
theorem fsI_lt {P : Nat → Bool} : ∀ m i v, fsI P m i = some v → i ≤ v ∧ v < i + m ∧ P v = true
  | 0, _, _, h => absurd h (by simp [fsI])
  | m + 1, i, v, h => by
    rw [fsI] at h
    by_cases c : P i = true
    · rw [if_pos c] at h
      have := Option.some.inj h
      subst this
      exact ⟨Nat.le_refl _, by omega, c⟩
    · rw [if_neg c] at h
      have := fsI_lt m (i + 1) v h
      exact ⟨by omega, by omega, this.2.2⟩
theorem fsI_some {P : Nat → Bool} : ∀ m i, (∃ j, i ≤ j ∧ j < i + m ∧ P j = true) → fsI P m i ≠ none
  | 0, _, h => by obtain ⟨j, h1, h2, _⟩ := h; omega
  | m + 1, i, h => by
    rw [fsI]
    by_cases c : P i = true
    · rw [if_pos c]; simp
    · rw [if_neg c]
      refine fsI_some m (i + 1) ?_
      obtain ⟨j, h1, h2, h3⟩ := h
      by_cases e : j = i
      · subst e; exact absurd h3 c
      · exact ⟨j, by omega, by omega, h3⟩
def pkD (S : SP) (pr : Nat → Nat) (w d c s i : Nat) : Bool := opS S s i && decide (pr i + lsD S pr w (d - 1) (nxt S (s ||| 2 ^ i)) = c)
/-- whom first -/
def whD (S : SP) (pr : Nat → Nat) (w d c s : Nat) : Option Nat := if lsD S pr w (d - 1) (nxt S s) = c then none else fsI (pkD S pr w d c s) S.1 0
/-- the STATE behind talking round one, and what is left to pay -/
def stO (S : SP) (s : Nat) (o : Option Nat) : Nat := match o with
  | none => nxt S s
  | some i => nxt S (s ||| 2 ^ i)
def coO (pr : Nat → Nat) (o : Option Nat) : Nat := match o with
  | none => 0
  | some i => pr i
theorem whD_lt {d c s v : Nat} (h : whD S pr w d c s = some v) : v < S.1 ∧ pr v ≤ c := by
  unfold whD at h
  by_cases q : lsD S pr w (d - 1) (nxt S s) = c
  · rw [if_pos q] at h; exact absurd h (by simp)
  · rw [if_neg q] at h
    obtain ⟨h1, h2, h3⟩ := fsI_lt _ _ _ h
    unfold pkD at h3
    rw [Bool.and_eq_true, decide_eq_true_iff] at h3
    exact ⟨by omega, by omega⟩
/-- the choice is one, and goes on as good -/
theorem whD_ok (h9 : ∀ i, i < S.1 → pr i ≤ 9) {l s c d : Nat} (hl : l + 1 ≤ 6) (hu : ¬ s &&& w = w) (h : Rl1 S pr w (l + 1) s c d) : Rl1 S pr w l (stO S s (whD S pr w d c s)) (c - coO pr (whD S pr w d c s)) (d - 1) := by
  unfold whD
  by_cases q : lsD S pr w (d - 1) (nxt S s) = c
  · rw [if_pos q]
    exact (rl_pick h9 hl hu h (Or.inl ⟨rfl, rfl⟩)).2 (by rw [Nat.zero_add]; exact q)
  · rw [if_neg q]
    obtain ⟨n, co, hO, hm⟩ := sq_at (S := S) (pr := pr) (w := w) (l := l) hu
    rw [h.2.2.2.2.2] at hm
    have hp := (rl_pick h9 hl hu h hO).1.mp hm.symm
    have hex : fsI (pkD S pr w d c s) S.1 0 ≠ none := by
      rcases hO with ⟨e1, e2⟩ | ⟨i, e1, e2, e3, e4⟩
      · rw [e1, e2, Nat.zero_add] at hp
        exact absurd hp q
      · refine fsI_some _ _ ⟨i, by omega, by omega, ?_⟩
        unfold pkD
        rw [e2, decide_eq_true (show pr i + lsD S pr w (d - 1) (nxt S (s ||| 2 ^ i)) = c by rw [← e3, ← e4]; exact hp)]
        rfl
    cases e : fsI (pkD S pr w d c s) S.1 0 with
    | none => exact absurd e hex
    | some v =>
      obtain ⟨h1, h2, h3⟩ := fsI_lt _ _ _ e
      unfold pkD at h3
      rw [Bool.and_eq_true, decide_eq_true_iff] at h3
      exact (rl_pick h9 hl hu h (Or.inr ⟨v, by omega, h3.1, rfl, rfl⟩)).2 h3.2
/-- whom, DAY by DAY -/
def plR (S : SP) (pr : Nat → Nat) (w : Nat) : Nat → Nat → Nat → List (Option Nat)
  | 0, _, _ => []
  | d + 1, c, s => whD S pr w (d + 1) c s :: plR S pr w d (c - coO pr (whD S pr w (d + 1) c s)) (stO S s (whD S pr w (d + 1) c s))
theorem plR_len : ∀ d c s, (plR S pr w d c s).length = d
  | 0, _, _ => rfl
  | d + 1, c, s => by rw [plR, List.length_cons, plR_len d]
theorem stO_lt (s : Nat) (o : Option Nat) : stO S s o < 2 ^ S.1 := by
  cases o with
  | none => exact nxt_lt _ _
  | some i => exact nxt_lt _ _
end RL
