/-! level. -/
section OPS
variable {N : Nat} {a : Ab} {b : Nat × Nat} {μ0 μ : Mem} {Q : Nat} {S S1 : SP}
/-- the hearing on trial has changed -/
theorem XI.trial {μ' : Mem} (h : XI N b a μ0 μ) (hf : HFr 1 μ μ') : XI N b a μ0 μ' := by
  have e : ∀ v, (v < 99 ∨ 105 ≤ v) → μ'.1 v = μ.1 v := fun v hv => hf.1 v (by show v ≠ 99; omega) (by show v ≠ 100; omega) (by show v ≠ 103; omega) (by show v ≠ 104; omega)
  have l : ∀ v, (v < 5 ∨ 9 ≤ v) → μ'.2.1 v = μ.2.1 v := fun v hv => hf.2.1 v (by show v ≠ 5; omega) (by show v ≠ 6; omega) (by show v ≠ 7; omega) (by show v ≠ 8; omega)
  have hi : IFr μ μ' := ⟨fun v hv => e v (by unfold inn at hv; omega), fun v hv => l v (by omega)⟩
  obtain ⟨hW, hP, ⟨V, CL, e0, k1, k2, k3, k4, k5⟩, hI⟩ := h
  exact ⟨hW, hi.XP hP, ⟨V, CL, e0, k1, k2, k3, k4.fr (e _ (by decide)) (fun v h1 h2 => e v (by omega)) (fun v h1 h2 => l v (by omega)) hf.2.2, k5.fr (fun v h1 h2 => e v (by omega))⟩, hI.tr hi.OFr⟩
/-- a street that may be tried: as many people, the same firm ones -/
def Tr (S0 S1 : SP) : Prop := S1.1 = S0.1 ∧ S1.2.2.2 = S0.2.2.2 ∧ SOk S1
theorem x_dayT_lp (hT : HT S1 1 μ) (hp : μ.1 (vSt 0 0) 0 = nI S1.1) (hO : SOk S1) {n : Nat} (hev : f_st_everybody μ = some (nI (2 ^ S1.1 - 1), μ)) (hn : n < 19000) : ∀ m d g s, d + m = n + 1 → m < g → s < 2 ^ S1.1 → f_ac_dayOfAll_b10 g (nI n) (nI s) (nI d) μ = some (oI (doN S1 (2 ^ S1.1 - 1) m d s), μ) := by
  have h14 := p2_14 hO.1
  intro m
  induction m with
  | zero =>
    intro d g s hd hg hs
    obtain ⟨g, rfl⟩ : ∃ z, g = z + 1 := ⟨g - 1, by omega⟩
    rw [f_ac_dayOfAll_b10, if_pos ((i_ltN (by omega) (by omega)).mpr (by omega))]
    rfl
  | succ m ih =>
    intro d g s hd hg hs
    obtain ⟨g, rfl⟩ : ∃ z, g = z + 1 := ⟨g - 1, by omega⟩
    have hsw : s &&& (2 ^ S1.1 - 1) = s := by rw [Nat.and_two_pow_sub_one_eq_mod, Nat.mod_eq_of_lt hs]
    rw [f_ac_dayOfAll_b10, if_neg (fun q => absurd ((i_ltN (by omega) (by omega)).mp q) (by omega)), hev, bd2_s, doN, hsw]
    by_cases c : s = 2 ^ S1.1 - 1
    · rw [if_pos (by rw [c]), if_pos c]
      rfl
    · have hx := nxt_lt S1 s
      have c' : ¬ s &&& (2 ^ S1.1 - 1) = 2 ^ S1.1 - 1 := by rw [hsw]; exact c
      rw [if_neg (fun q => c (nI_inj (by omega) (by omega) q)), if_neg c, he_nextP hp hO hT hs, bd2_s]
      by_cases e : nxt S1 s = s
      · rw [if_pos (by rw [e]), e, doN_fix e c']
        rfl
      · rw [if_neg (fun q => e (nI_inj (by omega) (by omega) q)), show nI d + 1 = nI (d + 1) from i_add d 1]
        exact ih (d + 1) g (nxt S1 s) (by omega) (by omega) hx
/-- the first DAY on which all believe, on trial -/
theorem x_dayT (h : XI N b a μ0 μ) (hS : Tr (aS a) S1) (hT : HT S1 1 μ) {n : Nat} (hn : n < 19000) : f_ac_dayOfAll (nI n) μ = some (oI (dyF S1 (2 ^ (aS a).1 - 1) n (aN a)), μ) := by
  have hnow := now_lt h.1
  have e1 := hS.1
  unfold f_ac_dayOfAll
  rw [st_now h.1 h.2.1, bd2_s, l_0, x_dayT_lp hT (by rw [e1]; exact h.2.1.1.1) hS.2.2 (by rw [e1]; exact st_everybody h.2.1.1) hn (n + 1) 0 FU (aN a) (by omega) (by unfold FU; omega) (by rw [e1]; exact hnow), e1]
  rfl
/-- all have the need v -/
def nAll (S : SP) (v : Nat) : SP := (S.1, S.2.1, fun _ => v, S.2.2.2)
theorem nAll_ok (h : SOk S) {v : Nat} (hv : v ≤ 99) : SOk (nAll S v) := ⟨h.1, h.2.1, fun _ _ => hv, h.2.2.2⟩
def nMx (S : SP) (v k : Nat) : SP := (S.1, S.2.1, fun i => if i < k then v else S.2.2.1 i, S.2.2.2)
/-- two streets alike for those who are there have the same tables -/
theorem HT.need_congr {S : SP} {t : Nat} {ne : Nat → Nat} (h : HT S t μ) (he : ∀ i, i < S.1 → ne i = S.2.2.1 i) : HT (S.1, S.2.1, ne, S.2.2.2) t μ := by
  obtain ⟨h1, h2, h3, h4, h5⟩ := h
  have hall : ∀ k, allS (S.1, S.2.1, ne, S.2.2.2) k = allS S k := fun k => rfl
  have hbar : ∀ k, k < S.1 → barN (S.1, S.2.1, ne, S.2.2.2) k = barN S k := fun k hk => by
    unfold barN
    rw [hall]
    show 127 - ne k * _ / 100 = _
    rw [he k hk]
  refine ⟨h1, ?_, ?_, h4, fun i hi => ⟨(h5 i hi).1, by show _ = nI (ne i); rw [he i hi]; exact (h5 i hi).2⟩⟩
  · rw [h2]
    congr 1
    refine ln_congr 8 (fun k _ => ?_)
    unfold loB
    show (if k < S.1 then _ else _) = (if k < S.1 then _ else _)
    by_cases c : k < S.1
    · rw [if_pos c, if_pos c, hbar k c]
    · rw [if_neg c, if_neg c]
  · rw [h3]
    congr 1
    refine ln_congr 8 (fun k _ => ?_)
    unfold hiB
    show (if k + 8 < S.1 then _ else _) = (if k + 8 < S.1 then _ else _)
    by_cases c : k + 8 < S.1
    · rw [if_pos c, if_pos c, hbar _ c]
    · rw [if_neg c, if_neg c]
theorem x_needAll_lp {v : Nat} (hv : v ≤ 99) : ∀ m k g ne (μ : Mem), k + m = (aS a).1 → m < g → XI N b a μ0 μ → (∀ i, i < (aS a).1 → ne i ≤ 99) → HT ((aS a).1, (aS a).2.1, ne, (aS a).2.2.2) 1 μ → (∀ i, i < k → ne i = v) → ∃ μ', f_he_needAll_b2 1 g (nI v) (nI k) μ = some μ' ∧ XI N b a μ0 μ' ∧ HT (nAll (aS a) v) 1 μ' := by
  intro m
  induction m with
  | zero =>
    intro k g ne μ hk hg h hne hT hv'
    obtain ⟨g, rfl⟩ : ∃ z, g = z + 1 := ⟨g - 1, by omega⟩
    have hp := h.1.1.1
    obtain rfl : k = (aS a).1 := by omega
    refine ⟨μ, ?_, h, ?_⟩
    · rw [f_he_needAll_b2, h.2.1.1.1, if_pos ((i_leN (by omega) (by omega)).mpr (Nat.le_refl _))]
    · exact HT.need_congr (S := ((aS a).1, (aS a).2.1, ne, (aS a).2.2.2)) hT (ne := fun _ => v) (fun i hi => (hv' i hi).symm)
  | succ m ih =>
    intro k g ne μ hk hg h hne hT hv'
    obtain ⟨g, rfl⟩ : ∃ z, g = z + 1 := ⟨g - 1, by omega⟩
    have hp := h.1.1.1
    have hO := h.1.1
    have h1 : HFr 1 μ (setI μ (vHe 1 5) k (nI v)) := HFr.I μ k _ (Or.inr (Or.inr (Or.inr rfl)))
    have hX1 := h.trial h1
    have hm := HTm.need (v := v) (hT.m (fun _ => false)) (show k < (aS a).1 by omega)
    have hO2 : SOk ((aS a).1, (aS a).2.1, fnu ne k v, (aS a).2.2.2) := ⟨hO.1, hO.2.1, fun i hi => by
      show fnu ne k v i ≤ 99
      by_cases e : i = k
      · subst e; rw [fnu_eq]; exact hv
      · rw [fnu_ne _ _ e]; exact hne i hi, hO.2.2.2⟩
    obtain ⟨μ2, c1, c2, c3⟩ := HTm.bar (S := ((aS a).1, (aS a).2.1, fnu ne k v, (aS a).2.2.2)) (i := k) hX1.2.1.1 rfl hO2 hm (by show k < (aS a).1; omega)
    have hT2 := c2.ok (fun i => by by_cases e : i = k <;> simp [e])
    obtain ⟨μ', k1, k2⟩ := ih (k + 1) g (fnu ne k v) μ2 (by omega) (by omega) (hX1.trial c3) hO2.2.2.1 hT2 (fun i hi => by
      by_cases e : i = k
      · subst e; rw [fnu_eq]
      · rw [fnu_ne _ _ e]; exact hv' i (by omega))
    refine ⟨μ', ?_, k2⟩
    rw [f_he_needAll_b2, h.2.1.1.1, if_neg (fun q => absurd ((i_leN (by omega) (by omega)).mp q) (by omega)), inb_n (by omega) (by omega), chk_t, cl_nI (by omega), bnd_s, c1, bd1_s, l_1, i_add]
    exact k1
/-- on trial: which need, and whether all believe by it -/
def okL (a : Ab) (n v : Nat) : Option Nat := dyF (nAll (aS a) v) (2 ^ (aS a).1 - 1) n (aN a)
theorem nxt_need {v v' s s' : Nat} (hv : v' ≤ v) (hs : sub s s') (i : Nat) (h : (nxt (nAll S v) s).testBit i = true) : (nxt (nAll S v') s').testBit i = true := by
  rw [nxt_tb2, Bool.and_eq_true] at h ⊢
  refine ⟨h.1, ?_⟩
  have h2 := wld_mono hs h.2
  unfold wld at h2 ⊢
  have e1 : mvd (nAll S v') i = mvd (nAll S v) i := rfl
  rw [e1]
  by_cases c : mvd (nAll S v) i = true
  · rw [if_pos c, decide_eq_true_iff] at h2 ⊢
    have e2 : allS (nAll S v') i = allS (nAll S v) i := rfl
    have e3 : hrd (nAll S v') i s' = hrd (nAll S v) i s' := rfl
    rw [e2, e3]
    have e4 : v' * allS (nAll S v) i ≤ v * allS (nAll S v) i := Nat.mul_le_mul_right _ hv
    have h3 : v * allS (nAll S v) i < 100 * hrd (nAll S v) i s' := h2
    show v' * allS (nAll S v) i < _
    omega
  · rw [if_neg c] at h2 ⊢; exact h2
theorem doN_mono {v v' w : Nat} (hv : v' ≤ v) : ∀ m d d' s s', sub s s' → doN (nAll S v') w m d' s' = none → doN (nAll S v) w m d s = none
  | 0, _, _, _, _, _, _ => rfl
  | m + 1, d, d', s, s', hs, h => by
    rw [doN] at h ⊢
    by_cases c : s' &&& w = w
    · rw [if_pos c] at h; exact absurd h (by simp)
    · rw [if_neg c] at h
      rw [if_neg (fun q => c (nat_ext fun j => ?_))]
      · exact doN_mono hv m (d + 1) (d' + 1) _ _ (fun j hj => nxt_need hv hs j hj) h
      · have := congrArg (fun z => z.testBit j) q
        simp only [Nat.testBit_and] at this
        rw [Nat.testBit_and]
        cases e : w.testBit j with
        | false => rw [Bool.and_false]
        | true =>
          rw [e, Bool.and_true] at this
          rw [hs j this]; rfl
theorem okL_mono {n v v' : Nat} (hv : v' ≤ v) (h : okL a n v ≠ none) : okL a n v' ≠ none := fun q => h (doN_mono hv (n + 1) 0 0 _ _ (sub_rf _) q)
/-- how many needs let all believe -/
def tpL (a : Ab) (n : Nat) : Nat → Nat
  | 0 => 0
  | k + 1 => if (okL a n k).isSome then k + 1 else tpL a n k
theorem tpL_le (n : Nat) : ∀ k, tpL a n k ≤ k
  | 0 => Nat.le_refl _
  | k + 1 => by have := tpL_le n k; rw [tpL]; split <;> omega
theorem tpL_iff (n : Nat) : ∀ k v, v < k → (okL a n v ≠ none ↔ v < tpL a n k)
  | 0, _, h => absurd h (by omega)
  | k + 1, v, h => by
    rw [tpL]
    by_cases c : (okL a n k).isSome = true
    · rw [if_pos c]
      exact ⟨fun _ => h, fun _ => okL_mono (by omega) (Option.isSome_iff_ne_none.mp c)⟩
    · rw [if_neg c]
      by_cases e : v = k
      · subst e
        have := tpL_le (a := a) n v
        exact ⟨fun q => absurd (Option.isSome_iff_ne_none.mpr q) c, fun q => by omega⟩
      · exact tpL_iff n k v (by omega)
def lvA (a : Ab) (n : Nat) : Int32 × Ab := if tpL a n 100 = 0 then (-2, a) else (nI (tpL a n 100 - 1), aSetR a [(oI (okL a n (tpL a n 100 - 1))).toInt64])
theorem m1_add (n : Nat) : nI n + (-1 : Int32) + 1 = nI n := by
  rw [Int32.add_assoc]
  show nI n + nI 0 = nI n
  rw [i_add]
  rfl
theorem m1_n {c st : Nat} (h : 1 ≤ st) : nI c + (-1 : Int32) + nI st = nI (c + st - 1) := by
  obtain ⟨st, rfl⟩ : ∃ z, st = z + 1 := ⟨st - 1, by omega⟩
  rw [← i_add st 1, Int32.add_comm (nI st), ← Int32.add_assoc]
  show nI c + (-1 : Int32) + 1 + nI st = _
  rw [m1_add, i_add]
  rfl
theorem x_lv_lp (hN : N < 600) {n : Nat} (hn : n < 19000) : ∀ j c st g x3 (μ : Mem), st = 2 ^ j → j ≤ 6 → j + 1 < g → c ≤ tpL a n 100 → tpL a n 100 < c + 2 * st → (1 ≤ c → x3 = oI (okL a n (c - 1))) → XI N b a μ0 μ → (∃ ne : Nat → Nat, (∀ i, i < (aS a).1 → ne i ≤ 99) ∧ HT ((aS a).1, (aS a).2.1, ne, (aS a).2.2.2) 1 μ) → ∃ μ', f_ac_highestNeed_b15 g (nI n) (nI c + (-1 : Int32)) x3 (nI st) μ = some ((lvA a n).1, μ') ∧ XO N (lvA a n).2 μ0 μ' := by
  have hT100 := tpL_le (a := a) n 100
  intro j
  have last : ∀ c g x3 (μ : Mem), 0 < g → c = tpL a n 100 → (1 ≤ c → x3 = oI (okL a n (c - 1))) → XI N b a μ0 μ → ∃ μ', f_ac_highestNeed_b15 g (nI n) (nI c + (-1 : Int32)) x3 (nI 0) μ = some ((lvA a n).1, μ') ∧ XO N (lvA a n).2 μ0 μ' := fun c g x3 μ hg hc hx h => by
    obtain ⟨g, rfl⟩ : ∃ z, g = z + 1 := ⟨g - 1, by omega⟩
    unfold lvA
    rw [f_ac_highestNeed_b15, if_pos (show nI 0 ≤ 0 by decide), ← hc]
    by_cases c0 : c = 0
    · subst c0
      rw [if_pos (show nI 0 + (-1 : Int32) = -1 from rfl), if_pos rfl]
      exact ⟨μ, rfl, h.done hN⟩
    · rw [i_dec (by omega), if_neg (nI_ne_m1 (by omega)), if_neg c0, hx (by omega)]
      obtain ⟨μ1, a1, a2, a3⟩ := rw_only (oI (okL a n (c - 1))).toInt64 μ
      exact ⟨μ1, by rw [a1, bd1_s], h.told hN (by simp) a2 a3⟩
  have step : ∀ c st g x3 (μ : Mem), 1 ≤ st → st ≤ 64 → c ≤ tpL a n 100 → tpL a n 100 < c + 2 * st → (1 ≤ c → x3 = oI (okL a n (c - 1))) → XI N b a μ0 μ → (∃ ne : Nat → Nat, (∀ i, i < (aS a).1 → ne i ≤ 99) ∧ HT ((aS a).1, (aS a).2.1, ne, (aS a).2.2.2) 1 μ) → ∃ c' x3' μ', f_ac_highestNeed_b15 (g + 1) (nI n) (nI c + (-1 : Int32)) x3 (nI st) μ = f_ac_highestNeed_b15 g (nI n) (nI c' + (-1 : Int32)) x3' (nI (st / 2)) μ' ∧ c' ≤ tpL a n 100 ∧ tpL a n 100 < c' + st ∧ (1 ≤ c' → x3' = oI (okL a n (c' - 1))) ∧ XI N b a μ0 μ' ∧ (∃ ne : Nat → Nat, (∀ i, i < (aS a).1 → ne i ≤ 99) ∧ HT ((aS a).1, (aS a).2.1, ne, (aS a).2.2.2) 1 μ') := fun c st g x3 μ h1 h64 hc1 hc2 hx h hne => by
    have hdiv : nI st / (2 : Int32) = nI (st / 2) := by rw [l_2, pk_div (by omega) (by omega) (by omega)]
    rw [f_ac_highestNeed_b15, if_neg (show ¬ nI st ≤ 0 from fun q => absurd ((i_leN (b := 0) (by omega) (by omega)).mp q) (by omega)), m1_n h1, l_99]
    by_cases c1 : 99 < c + st - 1
    · refine ⟨c, x3, μ, ?_, hc1, by omega, hx, h, hne⟩
      unfold f_ac_highestNeed_b75
      rw [if_pos ((i_ltN (by omega) (by omega)).mpr c1), hdiv]
    · obtain ⟨ne, hne1, hT⟩ := hne
      have hp := h.1.1.1
      obtain ⟨μ1, b1, b2, b3⟩ := x_needAll_lp (v := c + st - 1) (by omega) (aS a).1 0 FU ne μ (by omega) (by unfold FU; omega) h hne1 hT (fun i hi => absurd hi (by omega))
      have hd := x_dayT b2 (S1 := nAll (aS a) (c + st - 1)) ⟨rfl, rfl, nAll_ok h.1.1 (by omega)⟩ b3 hn
      have hiff := tpL_iff (a := a) n 100 (c + st - 1) (by omega)
      have hd' : f_ac_dayOfAll (nI n) μ1 = some (oI (okL a n (c + st - 1)), μ1) := hd
      have b1' : f_he_needAll 1 (nI (c + st - 1)) μ = some μ1 := b1
      rw [if_neg (fun q => c1 ((i_ltN (by omega) (by omega)).mp q)), b1', bd1_s, hd', bd2_s]
      unfold f_ac_highestNeed_b75
      by_cases c2 : okL a n (c + st - 1) = none
      · refine ⟨c, x3, μ1, ?_, hc1, ?_, hx, b2, _, fun _ _ => (show c + st - 1 ≤ 99 by omega), b3⟩
        · rw [c2, if_pos (show oI none = -1 from rfl), if_pos (show oI none = -1 from rfl), bnd_s, bnd_s, hdiv]
        · have : ¬ c + st - 1 < tpL a n 100 := fun q => hiff.mpr q c2
          omega
      · have hlt := hiff.mp c2
        have hne : ¬ oI (okL a n (c + st - 1)) = -1 := fun q => c2 ((dyF_ne hn).mp q)
        refine ⟨c + st, oI (okL a n (c + st - 1)), μ1, ?_, by omega, by omega, fun _ => rfl, b2, _, fun _ _ => (show c + st - 1 ≤ 99 by omega), b3⟩
        rw [if_neg hne, if_neg hne, bnd_s, bnd_s, hdiv, i_dec (show 1 ≤ c + st by omega)]
  induction j with
  | zero =>
    intro c st g x3 μ hst hj hg hc1 hc2 hx h hne
    obtain ⟨g, rfl⟩ : ∃ z, g = z + 1 := ⟨g - 1, by omega⟩
    have hst' : st = 1 := hst
    subst hst'
    obtain ⟨c', x3', μ1, e1, e2, e3, e4, e5, e6⟩ := step c 1 g x3 μ (by omega) (by omega) hc1 hc2 hx h hne
    rw [e1]
    exact last c' g x3' μ1 (by omega) (by omega) e4 e5
  | succ j ih =>
    intro c st g x3 μ hst hj hg hc1 hc2 hx h hne
    obtain ⟨g, rfl⟩ : ∃ z, g = z + 1 := ⟨g - 1, by omega⟩
    have h2 : st = 2 * 2 ^ j := by rw [hst, Nat.pow_succ, Nat.mul_comm]
    have hpos := Nat.two_pow_pos j
    have hle : 2 ^ j ≤ 2 ^ 5 := Nat.pow_le_pow_right (by omega) (by omega)
    obtain ⟨c', x3', μ1, e1, e2, e3, e4, e5, e6⟩ := step c st g x3 μ (by omega) (by omega) hc1 hc2 hx h hne
    rw [e1]
    exact ih c' (st / 2) g x3' μ1 (by omega) (by omega) (by omega) e2 (by omega) e4 e5 e6
theorem x_level (hN : N < 600) {n : Nat} (hn : n < 19000) (h : XR N a μ) : ∃ μ', f_ac_highestNeed (nI n) μ = some ((lvA a n).1, μ') ∧ XO N (lvA a n).2 μ μ' := by
  have hT := tpL_le (a := a) n 100
  obtain ⟨μ1, l1, l2, l3, l4⟩ := he_learn (t := 1) h.2.1.1
  have hX := h.XI.trial l4
  unfold f_ac_highestNeed
  rw [l1, bd1_s]
  exact x_lv_lp hN hn 6 0 64 FU (-1) μ1 rfl (by omega) (by unfold FU; omega) (by omega) (by omega) (fun q => absurd q (by omega)) hX ⟨(aS a).2.2.1, h.1.1.2.2.1, l2⟩
end OPS
