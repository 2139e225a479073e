/-! What a RULE says: read once, with its codes and its value. -/
abbrev PR : Type := Bool × Nat × List Nat × Int32
def opR (c : Nat) (x y : Int32) : Int32 := if c = 42 then x * y else if c = 43 then x + y else if c = 45 then x - y else if c = 47 then (if y = 0 then 0 else x / y) else if c = 60 then (if y ≤ x then 0 else 1) else if c = 62 then (if x ≤ y then 0 else 1) else if x = y then 1 else 0
/-- the letters' places -/
def ltI (c : Nat) : Option Nat := if c = 105 then some 0 else if c = 110 then some 1 else if c = 112 then some 2 else if c = 97 then some 3 else if c = 115 then some 4 else if c = 111 then some 5 else if c = 100 then some 6 else none
def cu (t : List Nat) (L k : Nat) : Nat := if k < L then t.getD k 0 else 256
def failP (k : Nat) : PR := (false, k, [], 0)
def pNumL (t : List Nat) (L : Nat) : Nat → Nat → Nat → Nat × Nat
  | 0, k, v => (k, v)
  | m + 1, k, v => if 48 ≤ cu t L k ∧ cu t L k ≤ 57 then pNumL t L m (k + 1) (v * 10 + cu t L k - 48) else (k, v)
def pNum (t : List Nat) (L k : Nat) : PR := if (pNumL t L 3 k 0).1 = k then failP k else (true, (pNumL t L 3 k 0).1, [(pNumL t L 3 k 0).2], nI (pNumL t L 3 k 0).2)
def mnC (t : List Nat) (L : Nat) : Nat → Nat → Nat
  | 0, _ => 0
  | m + 1, k => if cu t L k = 45 then mnC t L m (k + 1) + 1 else 0
def sgn (c : Nat) (r : PR) : PR := if r.1 then (true, r.2.1, if c % 2 = 1 then r.2.2.1 ++ [2126] else r.2.2.1, if c % 2 = 1 then -r.2.2.2 else r.2.2.2) else failP r.2.1
def pSg (t : List Nat) (L : Nat) (R : Nat → PR) (k : Nat) : PR := sgn (mnC t L 41 k) (R (k + mnC t L 41 k))
def jn (c : Nat) (r q : PR) : PR := if q.1 then (true, q.2.1, r.2.2.1 ++ q.2.2.1 ++ [2000 + c], opR c r.2.2.2 q.2.2.2) else failP q.2.1
def pLp (t : List Nat) (L : Nat) (is : Nat → Bool) (F : Nat → PR) : Nat → PR → PR
  | 0, r => r
  | m + 1, r => if is (cu t L r.2.1) then (if (F (r.2.1 + 1)).1 then pLp t L is F m (jn (cu t L r.2.1) r (F (r.2.1 + 1))) else failP (F (r.2.1 + 1)).2.1) else r
def pCh (t : List Nat) (L : Nat) (is : Nat → Bool) (F : Nat → PR) (k : Nat) : PR := if (F k).1 then pLp t L is F 41 (F k) else failP (F k).2.1
def isPd (c : Nat) : Bool := decide (c = 42) || decide (c = 47)
def isSm (c : Nat) : Bool := decide (c = 43) || decide (c = 45)
def isEx (c : Nat) : Bool := decide (c = 60) || decide (c = 62) || decide (c = 61)
def pPd (t : List Nat) (L : Nat) (R : Nat → PR) : Nat → PR := pCh t L isPd (pSg t L R)
def pSm (t : List Nat) (L : Nat) (R : Nat → PR) : Nat → PR := pCh t L isSm (pPd t L R)
def pEx (t : List Nat) (L : Nat) (R : Nat → PR) (k : Nat) : PR := if (pSm t L R k).1 then (if isEx (cu t L (pSm t L R k).2.1) then jn (cu t L (pSm t L R k).2.1) (pSm t L R k) (pSm t L R ((pSm t L R k).2.1 + 1)) else pSm t L R k) else failP (pSm t L R k).2.1
def nst (t : List Nat) (L : Nat) (r : PR) : PR := if r.1 then (if cu t L r.2.1 = 41 then (true, r.2.1 + 1, r.2.2) else failP r.2.1) else failP r.2.1
def pTh (t : List Nat) (L : Nat) (lv : Nat → Int32) : Nat → Nat → Nat → PR
  | 0, _, k => failP k
  | n + 1, dep, k => match ltI (cu t L k) with
    | some i => (true, k + 1, [1000 + i], lv i)
    | none => if cu t L k = 40 then (if dep < 4 then nst t L (pEx t L (pTh t L lv n (dep + 1)) (k + 1)) else failP k) else pNum t L k
/-! reckoning the codes -/
def stC (lv : Nat → Int32) (s : List Int32) (c : Nat) : List Int32 := if c < 1000 then nI c :: s else if c < 2000 then lv (c - 1000) :: s else if c = 2126 then (-(s.headD 0)) :: s.tail else opR (c - 2000) (s.tail.headD 0) (s.headD 0) :: s.tail.tail
def Evl (lv : Nat → Int32) (cs : List Nat) (v : Int32) : Prop := ∀ s, cs.foldl (stC lv) s = v :: s
def okC (c : Nat) : Prop := c < 1007 ∨ (2000 ≤ c ∧ c ≤ 2256)
section GR
variable {t : List Nat} {L : Nat} {lv : Nat → Int32}
theorem cu_L {k : Nat} (h : ¬ cu t L k = 256) : k < L := by
  rcases Nat.lt_or_ge k L with q | q
  · exact q
  · exact absurd (if_neg (by omega)) h
/-- what a reading gives: it goes on, its codes are no more than the signs, and they reckon its value -/
def Gd (L : Nat) (lv : Nat → Int32) (F : Nat → PR) : Prop := ∀ k, k ≤ L → k ≤ (F k).2.1 ∧ (F k).2.1 ≤ L ∧ ((F k).1 = true → k < (F k).2.1 ∧ 1 ≤ (F k).2.2.1.length ∧ k + (F k).2.2.1.length ≤ (F k).2.1 ∧ Evl lv (F k).2.2.1 (F k).2.2.2 ∧ ∀ c ∈ (F k).2.2.1, okC c)
theorem Evl.app {c1 c2 : List Nat} {x y : Int32} {c : Nat} (h1 : Evl lv c1 x) (h2 : Evl lv c2 y) (hc : 2000 ≤ c) (hn : c ≠ 2126) : Evl lv (c1 ++ c2 ++ [c]) (opR (c - 2000) x y) := fun s => by
  rw [List.foldl_append, List.foldl_append, h1 s, h2 (x :: s)]
  show stC lv (y :: x :: s) c = _
  unfold stC
  rw [if_neg (by omega), if_neg (by omega), if_neg hn]
  rfl
theorem Evl.neg {c1 : List Nat} {x : Int32} (h1 : Evl lv c1 x) : Evl lv (c1 ++ [2126]) (-x) := fun s => by
  rw [List.foldl_append, h1 s]
  rfl
theorem pNumL_p : ∀ m k v, k ≤ L → v < 10 ^ (3 - m) → m ≤ 3 → k ≤ (pNumL t L m k v).1 ∧ (pNumL t L m k v).1 ≤ L ∧ (pNumL t L m k v).2 < 1000
  | 0, k, v, hk, hv, _ => ⟨Nat.le_refl _, hk, by have : (10 : Nat) ^ (3 - 0) = 1000 := rfl; show v < 1000; omega⟩
  | m + 1, k, v, hk, hv, hm => by
    rw [pNumL]
    by_cases c : 48 ≤ cu t L k ∧ cu t L k ≤ 57
    · rw [if_pos c]
      have hkL := cu_L (t := t) (L := L) (k := k) (by omega)
      have e : 10 ^ (3 - m) = 10 ^ (3 - (m + 1)) * 10 := by rw [← Nat.pow_succ]; congr 1; omega
      have := pNumL_p m (k + 1) (v * 10 + cu t L k - 48) (by omega) (by rw [e]; omega) (by omega)
      exact ⟨by omega, this.2⟩
    · rw [if_neg c]
      refine ⟨Nat.le_refl _, hk, ?_⟩
      have : 10 ^ (3 - (m + 1)) ≤ 10 ^ 3 := Nat.pow_le_pow_right (by omega) (by omega)
      show v < 1000
      omega
theorem pNum_gd : Gd L lv (pNum t L) := fun k hk => by
  have h := pNumL_p (t := t) (L := L) 3 k 0 hk (by decide) (by omega)
  unfold pNum
  by_cases c : (pNumL t L 3 k 0).1 = k
  · rw [if_pos c]
    exact ⟨Nat.le_refl _, hk, fun q => absurd q (by simp [failP])⟩
  · rw [if_neg c]
    refine ⟨h.1, h.2.1, fun _ => ⟨by show k < (pNumL t L 3 k 0).1; omega, Nat.le_refl _, by show k + 1 ≤ (pNumL t L 3 k 0).1; omega, fun s => ?_, fun c hc => ?_⟩⟩
    · show stC lv s (pNumL t L 3 k 0).2 = _
      unfold stC
      rw [if_pos h.2.2]
    · have : c = (pNumL t L 3 k 0).2 := List.mem_singleton.mp hc
      exact Or.inl (by omega)
theorem mnC_p : ∀ m k, k ≤ L → k + mnC t L m k ≤ L ∧ (L < k + m → ¬ cu t L (k + mnC t L m k) = 45)
  | 0, k, hk => ⟨hk, fun q => by omega⟩
  | m + 1, k, hk => by
    rw [mnC]
    by_cases c : cu t L k = 45
    · rw [if_pos c]
      have hkL := cu_L (t := t) (L := L) (k := k) (by omega)
      have := mnC_p m (k + 1) (by omega)
      refine ⟨by omega, fun q => ?_⟩
      have h2 := this.2 (by omega)
      rw [show k + (mnC t L m (k + 1) + 1) = k + 1 + mnC t L m (k + 1) by omega]
      exact h2
    · rw [if_neg c]
      exact ⟨by omega, fun _ => c⟩
theorem pSg_gd {R : Nat → PR} (hR : Gd L lv R) : Gd L lv (pSg t L R) := fun k hk => by
  have hm := (mnC_p (t := t) (L := L) 41 k hk).1
  obtain ⟨r1, r2, r3⟩ := hR (k + mnC t L 41 k) hm
  unfold pSg sgn
  by_cases c : (R (k + mnC t L 41 k)).1 = true
  · rw [if_pos c]
    obtain ⟨q1, q2, q3, q4, q5⟩ := r3 c
    refine ⟨by show k ≤ (R _).2.1; omega, r2, fun _ => ?_⟩
    by_cases d : mnC t L 41 k % 2 = 1
    · rw [if_pos d, if_pos d]
      refine ⟨by show k < (R _).2.1; omega, ?_, ?_, q4.neg, fun c hc => ?_⟩
      · show 1 ≤ (_ ++ [2126]).length
        rw [List.length_append]; omega
      · show k + (_ ++ [2126]).length ≤ (R _).2.1
        rw [List.length_append, List.length_singleton]; omega
      · rcases List.mem_append.mp hc with z | z
        · exact q5 c z
        · rw [List.mem_singleton.mp z]; exact Or.inr (by omega)
    · rw [if_neg d, if_neg d]
      exact ⟨by show k < (R _).2.1; omega, q2, Nat.le_trans (Nat.add_le_add_right (Nat.le_add_right _ _) _) q3, q4, q5⟩
  · rw [if_neg c]
    exact ⟨by show k ≤ (R _).2.1; omega, r2, fun q => absurd q (by simp [failP])⟩
/-- what stands for itself within a reading from k0 -/
def Gr (L : Nat) (lv : Nat → Int32) (k0 : Nat) (r : PR) : Prop := r.1 = true → k0 < r.2.1 ∧ 1 ≤ r.2.2.1.length ∧ k0 + r.2.2.1.length ≤ r.2.1 ∧ Evl lv r.2.2.1 r.2.2.2 ∧ ∀ c ∈ r.2.2.1, okC c
theorem jn_gd {c k0 : Nat} {r q : PR} (hc : 42 ≤ c ∧ c ≤ 62) (hr : r.1 = true) (h : Gr L lv k0 r) (hq : q.1 = true → r.2.1 + 1 < q.2.1 ∧ 1 ≤ q.2.2.1.length ∧ r.2.1 + 1 + q.2.2.1.length ≤ q.2.1 ∧ Evl lv q.2.2.1 q.2.2.2 ∧ ∀ c ∈ q.2.2.1, okC c) : Gr L lv k0 (jn c r q) := by
  unfold jn
  by_cases d : q.1 = true
  · rw [if_pos d]
    obtain ⟨a1, a2, a3, a4, a5⟩ := h hr
    obtain ⟨b1, b2, b3, b4, b5⟩ := hq d
    refine fun _ => ⟨by show k0 < q.2.1; omega, ?_, ?_, ?_, fun x hx => ?_⟩
    · show 1 ≤ (_ ++ _ ++ [2000 + c]).length
      rw [List.length_append]; simp
    · show k0 + (_ ++ _ ++ [2000 + c]).length ≤ q.2.1
      rw [List.length_append, List.length_append, List.length_singleton]; omega
    · have := Evl.app (c := 2000 + c) a4 b4 (by omega) (by omega)
      rw [show 2000 + c - 2000 = c by omega] at this
      exact this
    · rcases List.mem_append.mp hx with z | z
      · rcases List.mem_append.mp z with z | z
        · exact a5 x z
        · exact b5 x z
      · rw [List.mem_singleton.mp z]; exact Or.inr (by omega)
  · rw [if_neg d]
    exact fun z => absurd z (by simp [failP])
theorem pLp_gd {is : Nat → Bool} {F : Nat → PR} {k0 : Nat} (his : ∀ c, is c = true → 42 ≤ c ∧ c ≤ 62) (hF : Gd L lv F) : ∀ m r, r.1 = true → k0 ≤ r.2.1 → r.2.1 ≤ L → Gr L lv k0 r → k0 ≤ (pLp t L is F m r).2.1 ∧ (pLp t L is F m r).2.1 ≤ L ∧ Gr L lv k0 (pLp t L is F m r)
  | 0, r, _, h1, h2, h3 => ⟨h1, h2, h3⟩
  | m + 1, r, h0, h1, h2, h3 => by
    rw [pLp]
    by_cases c : is (cu t L r.2.1) = true
    · have hc := his _ c
      have hkL := cu_L (t := t) (L := L) (k := r.2.1) (by omega)
      obtain ⟨b1, b2, b3⟩ := hF (r.2.1 + 1) (by omega)
      rw [if_pos c]
      by_cases d : (F (r.2.1 + 1)).1 = true
      · rw [if_pos d]
        have e1 : (jn (cu t L r.2.1) r (F (r.2.1 + 1))).1 = true := by unfold jn; rw [if_pos d]
        have e2 : (jn (cu t L r.2.1) r (F (r.2.1 + 1))).2.1 = (F (r.2.1 + 1)).2.1 := by unfold jn; rw [if_pos d]
        exact pLp_gd his hF m _ e1 (by rw [e2]; omega) (by rw [e2]; exact b2) (jn_gd hc h0 h3 b3)
      · rw [if_neg d]
        exact ⟨by show k0 ≤ (F _).2.1; omega, b2, fun z => absurd z (by simp [failP])⟩
    · rw [if_neg c]
      exact ⟨h1, h2, h3⟩
theorem pCh_gd {is : Nat → Bool} {F : Nat → PR} (his : ∀ c, is c = true → 42 ≤ c ∧ c ≤ 62) (hF : Gd L lv F) : Gd L lv (pCh t L is F) := fun k hk => by
  obtain ⟨b1, b2, b3⟩ := hF k hk
  unfold pCh
  by_cases d : (F k).1 = true
  · rw [if_pos d]
    exact pLp_gd his hF 41 (F k) d b1 b2 b3
  · rw [if_neg d]
    exact ⟨b1, b2, fun z => absurd z (by simp [failP])⟩
theorem isPd_c : ∀ c, isPd c = true → 42 ≤ c ∧ c ≤ 62 := fun c h => by
  unfold isPd at h
  rw [Bool.or_eq_true, decide_eq_true_iff, decide_eq_true_iff] at h
  omega
theorem isSm_c : ∀ c, isSm c = true → 42 ≤ c ∧ c ≤ 62 := fun c h => by
  unfold isSm at h
  rw [Bool.or_eq_true, decide_eq_true_iff, decide_eq_true_iff] at h
  omega
theorem isEx_c : ∀ c, isEx c = true → 42 ≤ c ∧ c ≤ 62 := fun c h => by
  unfold isEx at h
  rw [Bool.or_eq_true, Bool.or_eq_true, decide_eq_true_iff, decide_eq_true_iff, decide_eq_true_iff] at h
  omega
theorem pPd_gd {R : Nat → PR} (hR : Gd L lv R) : Gd L lv (pPd t L R) := pCh_gd isPd_c (pSg_gd hR)
theorem pSm_gd {R : Nat → PR} (hR : Gd L lv R) : Gd L lv (pSm t L R) := pCh_gd isSm_c (pPd_gd hR)
theorem pEx_gd {R : Nat → PR} (hR : Gd L lv R) : Gd L lv (pEx t L R) := fun k hk => by
  obtain ⟨b1, b2, b3⟩ := pSm_gd (t := t) hR k hk
  unfold pEx
  by_cases d : (pSm t L R k).1 = true
  · rw [if_pos d]
    by_cases c : isEx (cu t L (pSm t L R k).2.1) = true
    · rw [if_pos c]
      have hc := isEx_c _ c
      have hkL := cu_L (t := t) (L := L) (k := (pSm t L R k).2.1) (by omega)
      obtain ⟨e1, e2, e3⟩ := pSm_gd (t := t) hR ((pSm t L R k).2.1 + 1) (by omega)
      have hj := jn_gd (L := L) hc d b3 e3
      have e4 : (jn (cu t L (pSm t L R k).2.1) (pSm t L R k) (pSm t L R ((pSm t L R k).2.1 + 1))).2.1 = (pSm t L R ((pSm t L R k).2.1 + 1)).2.1 := by unfold jn; split <;> rfl
      exact ⟨by rw [e4]; omega, by rw [e4]; exact e2, hj⟩
    · rw [if_neg c]
      exact ⟨b1, b2, b3⟩
  · rw [if_neg d]
    exact ⟨b1, b2, fun z => absurd z (by simp [failP])⟩
theorem ltI_lt {c i : Nat} (h : ltI c = some i) : i < 7 ∧ c ≤ 115 := by
  unfold ltI at h
  repeat' split at h
  all_goals (first | (have := Option.some.inj h; omega) | exact absurd h (by simp))
theorem pTh_gd : ∀ n dep, Gd L lv (pTh t L lv n dep)
  | 0, dep => fun k hk => ⟨Nat.le_refl _, hk, fun q => absurd q (by simp [pTh, failP])⟩
  | n + 1, dep => fun k hk => by
    rw [pTh]
    cases e : ltI (cu t L k) with
    | some i =>
      obtain ⟨i1, i2⟩ := ltI_lt e
      have hkL := cu_L (t := t) (L := L) (k := k) (by omega)
      refine ⟨by show k ≤ k + 1; omega, by show k + 1 ≤ L; omega, fun _ => ⟨by show k < k + 1; omega, Nat.le_refl _, Nat.le_refl _, fun s => ?_, fun c hc => ?_⟩⟩
      · show stC lv s (1000 + i) = _
        unfold stC
        rw [if_neg (by omega), if_pos (by omega), Nat.add_sub_cancel_left]
      · rw [List.mem_singleton.mp hc]; exact Or.inl (by omega)
    | none =>
      by_cases c : cu t L k = 40
      · show k ≤ (if cu t L k = 40 then _ else _ : PR).2.1 ∧ _
        rw [if_pos c]
        have hkL := cu_L (t := t) (L := L) (k := k) (by omega)
        by_cases d : dep < 4
        · rw [if_pos d]
          obtain ⟨b1, b2, b3⟩ := pEx_gd (t := t) (pTh_gd n (dep + 1)) (k + 1) (by omega)
          unfold nst
          by_cases f : (pEx t L (pTh t L lv n (dep + 1)) (k + 1)).1 = true
          · rw [if_pos f]
            obtain ⟨q1, q2, q3, q4, q5⟩ := b3 f
            by_cases g : cu t L (pEx t L (pTh t L lv n (dep + 1)) (k + 1)).2.1 = 41
            · rw [if_pos g]
              have hL2 := cu_L (t := t) (L := L) (k := (pEx t L (pTh t L lv n (dep + 1)) (k + 1)).2.1) (by omega)
              exact ⟨by show k ≤ _ + 1; omega, hL2, fun _ => ⟨by show k < _ + 1; omega, q2, Nat.le_trans (Nat.add_le_add_right (Nat.le_succ _) _) (Nat.le_succ_of_le q3), q4, q5⟩⟩
            · rw [if_neg g]
              exact ⟨by show k ≤ (pEx _ _ _ _).2.1; omega, b2, fun z => absurd z (by simp [failP])⟩
          · rw [if_neg f]
            exact ⟨by show k ≤ (pEx _ _ _ _).2.1; omega, b2, fun z => absurd z (by simp [failP])⟩
        · rw [if_neg d]
          exact ⟨Nat.le_refl _, hk, fun z => absurd z (by simp [failP])⟩
      · show k ≤ (if cu t L k = 40 then _ else _ : PR).2.1 ∧ _
        rw [if_neg c]
        exact pNum_gd k hk
end GR
