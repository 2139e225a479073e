/-! keep, again. -/
section OPS
variable {N : Nat} {a : Ab} {b : Nat × Nat} {μ0 μ : Mem} {Q : Nat} {S : SP}
theorem vSt_ne {t j t' j' : Nat} (hj : j < 22) (hj' : j' < 22) (h : t ≠ t' ∨ j ≠ j') : vSt t j ≠ vSt t' j' := by
  show 5 + 22 * t + j ≠ 5 + 22 * t' + j'
  omega
theorem cp_ok {n : Nat} (h : n ≤ 201) : cpOk (0 : Int32) (0 : Int32) (nI n) n n = true := by
  unfold cpOk
  rw [cl_nI (by omega)]
  exact decide_eq_true ⟨by decide, by decide, i_nlt0 (by omega), by show 0 + n ≤ n; omega, by show 0 + n ≤ n; omega⟩
theorem x_take_lp {t u : Nat} (htu : t ≠ u) : ∀ m i n (μ : Mem), i + m = 14 → m < n → ∃ μ', f_st_takeDays_b41 t u n (nI i) μ = some μ' ∧ (∀ v, v ≠ vSt t 3 → (∀ k, i ≤ k → k < 14 → v ≠ vSt t (8 + k)) → μ'.1 v = μ.1 v) ∧ μ'.2 = μ.2 ∧ μ'.1 (vSt t 3) 0 = μ.1 (vSt t 3) 0 + nI 1 ∧ ∀ k j, i ≤ k → k < 14 → j < 14 → μ'.1 (vSt t (8 + k)) j = μ.1 (vSt u (8 + k)) j := by
  intro m
  induction m with
  | zero =>
    intro i n μ hi hn
    obtain ⟨n, rfl⟩ : ∃ z, n = z + 1 := ⟨n - 1, by omega⟩
    obtain rfl : i = 14 := by omega
    refine ⟨setI μ (vSt t 3) 0 (μ.1 (vSt t 3) 0 + nI 1), by simp (disch := omega) only [l_0, l_1, l_2, l_3, l_4, l_5, l_6, l_7, l_8, l_9, l_10, l_14, l_15, l_16, l_20, l_31, l_40, l_48, l_50, l_57, l_60, l_64, l_76, l_80, l_99, l_100, l_127, l_196, l_200, l_201, l_202, l_255, l_412, l_999, l_1000, l_16000, l_1000000, i_add, i_mul, i_sub, i_leN, i_ltN, i_eqN, i_nleG, i_nltG, inb_n, cl_nI, chk_q, bnd_q, bd1_q, bd2_q, i_bitQ, i_oneQ, i_woQ, i_or, i_and, i_xor, zb_q0, zb_q1, zb_b, b_0Q, if_true, if_false, reduceCtorEq, if_pos, if_neg, f_st_takeDays_b41], fun v h1 _ => sI_v _ _ _ h1, rfl, sI_eq _ _ _ _, fun k j h1 h2 _ => absurd h2 (by omega)⟩
  | succ m ih =>
    intro i n μ hi hn
    obtain ⟨n, rfl⟩ : ∃ z, n = z + 1 := ⟨n - 1, by omega⟩
    obtain ⟨μ', k1, k2, k3, k4, k5⟩ := ih (i + 1) n (setA μ (vSt t (8 + i)) (va_cpy (μ.1 (vSt u (8 + i))) (μ.1 (vSt t (8 + i))) 0 0 14)) (by omega) (by omega)
    refine ⟨μ', ?_, fun v h1 h2 => ?_, k3, ?_, fun k j h1 h2 h3 => ?_⟩
    · rw [← k1, f_st_takeDays_b41, l_14, if_neg (fun q => absurd ((i_leN (by omega) (by omega)).mp q) (by omega)), inb_n (by omega) (by omega), chk_t, chk_t, cp_ok (by omega), chk_t, cl_nI (by omega), cl_nI (by omega), bnd_s, l_1, i_add]
      rfl
    · rw [k2 v h1 (fun k q1 q2 => h2 k (by omega) q2), sA_v _ _ (h2 i (Nat.le_refl _) (by omega))]
    · rw [k4, sA_v _ _ (vSt_ne (by omega) (by omega) (by omega))]
    · by_cases e : k = i
      · subst e
        have hk := k2 (vSt t (8 + k)) (vSt_ne (by omega) (by omega) (by omega)) (fun q q1 q2 => vSt_ne (by omega) (by omega) (by omega))
        rw [hk, sA_eq, sb_cpy0 h3]
      · rw [k5 k j (by omega) h2 h3, sA_v _ _ (vSt_ne (by omega) (by omega) (by omega))]
theorem x_take {t u : Nat} (htu : t ≠ u) (μ : Mem) : ∃ μ', f_st_takeDays t u μ = some μ' ∧ (∀ v, v ≠ vSt t 2 → v ≠ vSt t 3 → v ≠ vSt t 4 → v ≠ vSt t 6 → (∀ k, k < 14 → v ≠ vSt t (8 + k)) → μ'.1 v = μ.1 v) ∧ μ'.2 = μ.2 ∧ μ'.1 (vSt t 3) 0 = μ.1 (vSt t 3) 0 + nI 1 ∧ μ'.1 (vSt t 2) 0 = μ.1 (vSt u 2) 0 ∧ (∀ d, d < 201 → μ'.1 (vSt t 6) d = μ.1 (vSt u 6) d) ∧ (∀ i, i < 14 → μ'.1 (vSt t 4) i = μ.1 (vSt u 4) i) ∧ ∀ k j, k < 14 → j < 14 → μ'.1 (vSt t (8 + k)) j = μ.1 (vSt u (8 + k)) j := by
  have ne : ∀ {j j' : Nat}, j < 22 → j' < 22 → vSt u j ≠ vSt t j' := fun h1 h2 => vSt_ne h1 h2 (Or.inl (fun q => htu q.symm))
  have ne' : ∀ {j j' : Nat}, j < 22 → j' < 22 → j ≠ j' → vSt t j ≠ vSt t j' := fun h1 h2 h3 => vSt_ne h1 h2 (Or.inr h3)
  obtain ⟨μ', k1, k2, k3, k4, k5⟩ := x_take_lp htu 14 0 FU (setA (setA (setI μ (vSt t 2) 0 (μ.1 (vSt u 2) 0)) (vSt t 6) (va_cpy (μ.1 (vSt u 6)) (μ.1 (vSt t 6)) 0 0 201)) (vSt t 4) (va_cpy (μ.1 (vSt u 4)) (μ.1 (vSt t 4)) 0 0 14)) (by omega) (by unfold FU; omega)
  have row : ∀ j, j < 8 → ∀ k, 0 ≤ k → k < 14 → vSt t j ≠ vSt t (8 + k) := fun j hj k _ hk => ne' (by omega) (by omega) (by omega)
  refine ⟨μ', ?_, fun v h2 h3 h4 h6 h8 => ?_, k3, ?_, ?_, fun d hd => ?_, fun i hi => ?_, fun k j hk hj => ?_⟩
  · rw [← k1]
    unfold f_st_takeDays
    rw [bnd_s, l_201, cp_ok (by omega), chk_t, bnd_s, l_14, cp_ok (by omega), chk_t, bnd_s, cl_nI (by omega), cl_nI (by omega)]
    rw [sI_v _ _ _ (ne (by omega) (by omega)), sI_v _ _ _ (ne' (j := 6) (j' := 2) (by omega) (by omega) (by omega)), sA_v _ _ (ne (by omega) (by omega)), sA_v _ _ (ne' (j := 4) (j' := 6) (by omega) (by omega) (by omega)), sI_v _ _ _ (ne (by omega) (by omega)), sI_v _ _ _ (ne' (j := 4) (j' := 2) (by omega) (by omega) (by omega))]
    rfl
  · rw [k2 v h3 (fun k _ hk => h8 k hk), sA_v _ _ h4, sA_v _ _ h6, sI_v _ _ _ h2]
  · rw [k4, sA_v _ _ (ne' (by omega) (by omega) (by omega)), sA_v _ _ (ne' (by omega) (by omega) (by omega)), sI_v _ _ _ (ne' (by omega) (by omega) (by omega))]
  · rw [k2 _ (ne' (by omega) (by omega) (by omega)) (row 2 (by omega)), sA_v _ _ (ne' (by omega) (by omega) (by omega)), sA_v _ _ (ne' (by omega) (by omega) (by omega)), sI_eq]
  · rw [k2 _ (ne' (by omega) (by omega) (by omega)) (row 6 (by omega)), sA_v _ _ (ne' (by omega) (by omega) (by omega)), sA_eq, sb_cpy0 hd]
  · rw [k2 _ (ne' (by omega) (by omega) (by omega)) (row 4 (by omega)), sA_eq, sb_cpy0 hi]
  · rw [k5 k j (by omega) hk hj, sA_v _ _ (ne (by omega) (by omega)), sA_v _ _ (ne (by omega) (by omega)), sI_v _ _ _ (ne (by omega) (by omega))]
/-- what is kept now -/
def kNow (a : Ab) : KP := ((aS a).1, aD a, aZ a, (aS a).2.1, (aS a).2.2.1)
abbrev aKp (a : Ab) (s : Nat) : Ab := (a.1, a.2.1, a.2.2.1, a.2.2.2.1, a.2.2.2.2.1, fun s' => if s' = s then some (kNow a) else a.2.2.2.2.2 s')
theorem kNow_ok (hW : WF a) : KOk (aS a).1 (kNow a) := ⟨Nat.le_refl _, hW.2.2.2.1.1, hW.2.2.2.1.2, hW.1.2.1, hW.2.1, hW.1.2.2.1⟩
theorem aKp_wf (hW : WF a) (s : Nat) : WF (aKp a s) := by
  obtain ⟨w1, w2, w3, w4, w5, w6, w7⟩ := hW
  refine ⟨w1, w2, w3, w4, w5, w6, fun s' k hk => ?_⟩
  have hk : (if s' = s then some (kNow a) else aK a s') = some k := hk
  by_cases e : s' = s
  · rw [if_pos e] at hk
    cases hk
    exact kNow_ok (a := a) ⟨w1, w2, w3, w4, w5, w6, w7⟩
  · rw [if_neg e] at hk
    exact w7 s' k hk
theorem x_keep {s : Nat} (hs : s < 2) (h : XR N a μ) (hN : N < 600) : ∃ μ1, f_st_takeDays (1 + s) 0 (setI μ (vSt (1 + s) 0) 0 (μ.1 (vSt 0 0) 0)) = some μ1 ∧ XO N (aKp a s) μ (setI μ1 v_x_isKept s (nI 1)) := by
  obtain ⟨hW, ⟨p1, p2, p3, p4, p5, p6⟩, hQ⟩ := h
  obtain ⟨μ1, k1, k2, k3, _, k4, k5, k6, k7⟩ := x_take (t := 1 + s) (u := 0) (by omega) (setI μ (vSt (1 + s) 0) 0 (μ.1 (vSt 0 0) 0))
  refine ⟨μ1, k1, ?_⟩
  -- what is not the kept street's
  have e : ∀ v, v ≠ 2 → (v < 5 + 22 * (1 + s) ∨ 5 + 22 * (1 + s) + 22 ≤ v) → (setI μ1 v_x_isKept s (nI 1)).1 v = μ.1 v := fun v h2 hv => by
    rw [sI_v _ _ _ h2, k2 v (by show v ≠ 5 + 22 * (1 + s) + 2; omega) (by show v ≠ 5 + 22 * (1 + s) + 3; omega) (by show v ≠ 5 + 22 * (1 + s) + 4; omega) (by show v ≠ 5 + 22 * (1 + s) + 6; omega) (fun k hk => by show v ≠ 5 + 22 * (1 + s) + (8 + k); omega), sI_v _ _ _ (by show v ≠ 5 + 22 * (1 + s) + 0; omega)]
  have hl : (setI μ1 v_x_isKept s (nI 1)).2 = μ.2 := by rw [sI_2, k3]; rfl
  have e0 : ∀ j, j < 22 → (setI μ1 v_x_isKept s (nI 1)).1 (vSt 0 j) = μ.1 (vSt 0 j) := fun j hj => e _ (by show 5 + 22 * 0 + j ≠ 2; omega) (by show 5 + 22 * 0 + j < _ ∨ _; omega)
  have ek : ∀ j, j < 22 → (setI μ1 v_x_isKept s (nI 1)).1 (vSt (1 + s) j) = μ1.1 (vSt (1 + s) j) := fun j hj => sI_v _ _ _ (by show 5 + 22 * (1 + s) + j ≠ 2; omega)
  have u0 : ∀ j, j < 22 → (setI μ (vSt (1 + s) 0) 0 (μ.1 (vSt 0 0) 0)).1 (vSt 0 j) = μ.1 (vSt 0 j) := fun j hj => sI_v _ _ _ (by show 5 + 22 * 0 + j ≠ 5 + 22 * (1 + s) + 0; omega)
  have hnew : XK1 (some (kNow a)) s (setI μ1 v_x_isKept s (nI 1)) := by
    refine ⟨sI_eq _ _ _ _, ?_, ?_, fun d hd => ?_, fun i j hi hj => ?_, fun i hi => ?_⟩
    · rw [ek 0 (by omega), k2 _ (vSt_ne (by omega) (by omega) (by omega)) (vSt_ne (by omega) (by omega) (by omega)) (vSt_ne (by omega) (by omega) (by omega)) (vSt_ne (by omega) (by omega) (by omega)) (fun k hk => vSt_ne (by omega) (by omega) (by omega)), sI_eq]
      exact p1.1
    · rw [ek 2 (by omega), k4, u0 2 (by omega)]; exact p2.2.1
    · rw [ek 6 (by omega), k5 d (by have := hW.2.2.2.1.1; have : d ≤ aD a := hd; omega), u0 6 (by omega)]; exact p2.2.2 d hd
    · rw [ek (8 + i) (by omega), k7 i j hi hj, u0 (8 + i) (by omega)]; exact p1.2.1 i j hi hj
    · have hi' : i < (aS a).1 := hi
      rw [ek 4 (by omega), k6 i (by have := hW.1.1; omega), u0 4 (by omega)]; exact p1.2.2.1 i hi
  have hold : ∀ s', s' < 2 → s' ≠ s → XK1 (aK a s') s' μ → XK1 (aK a s') s' (setI μ1 v_x_isKept s (nI 1)) := by
    intro s' hs' hne hk
    have ev : ∀ j, j < 22 → (setI μ1 v_x_isKept s (nI 1)).1 (vSt (1 + s') j) = μ.1 (vSt (1 + s') j) := fun j hj => e _ (by show 5 + 22 * (1 + s') + j ≠ 2; omega) (by show 5 + 22 * (1 + s') + j < _ ∨ _ ≤ 5 + 22 * (1 + s') + j; omega)
    have e2 : (setI μ1 v_x_isKept s (nI 1)).1 2 s' = μ.1 2 s' := by
      have q1 := k2 2 (by show 2 ≠ 5 + 22 * (1 + s) + 2; omega) (by show 2 ≠ 5 + 22 * (1 + s) + 3; omega) (by show 2 ≠ 5 + 22 * (1 + s) + 4; omega) (by show 2 ≠ 5 + 22 * (1 + s) + 6; omega) (fun k hk => by show 2 ≠ 5 + 22 * (1 + s) + (8 + k); omega)
      rw [show (setI μ1 v_x_isKept s (nI 1)).1 2 s' = μ1.1 2 s' from sI_i _ _ _ hne, q1, sI_v _ _ _ (by show 2 ≠ 5 + 22 * (1 + s) + 0; omega)]
    cases ho : aK a s' with
    | none =>
      rw [ho] at hk
      show (setI μ1 v_x_isKept s (nI 1)).1 2 s' = 0
      rw [e2]; exact hk
    | some k =>
      rw [ho] at hk
      obtain ⟨h1, h2, h3, h4, h5, h6⟩ := hk
      exact ⟨e2.trans h1, by rw [ev 0 (by omega)]; exact h2, by rw [ev 2 (by omega)]; exact h3, fun d hd => by rw [ev 6 (by omega)]; exact h4 d hd, fun i j hi hj => by rw [ev (8 + i) (by omega)]; exact h5 i j hi hj, fun i hi => by rw [ev 4 (by omega)]; exact h6 i hi⟩
  have hall : ∀ s', s' < 2 → XK1 (aK a s') s' μ → XK1 (aK (aKp a s) s') s' (setI μ1 v_x_isKept s (nI 1)) := by
    intro s' hs' hk
    by_cases q : s' = s
    · subst q
      rw [show aK (aKp a s') s' = some (kNow a) from if_pos rfl]
      exact hnew
    · rw [show aK (aKp a s) s' = aK a s' from if_neg q]
      exact hold s' hs' q hk
  obtain ⟨V, CL, e9, c1, c2, c3, c4, c5⟩ := hQ
  have esm : ∀ v, (v = 0 ∨ v = 1 ∨ v = 3 ∨ v = 4 ∨ 71 ≤ v) → (setI μ1 v_x_isKept s (nI 1)).1 v = μ.1 v := fun v hv => e v (by omega) (by omega)
  refine ⟨⟨aKp_wf hW s, ⟨p1.of (fun j hj _ _ _ _ _ => e0 j hj), ⟨fun i hi => ?_, ?_, fun d hd => ?_⟩, ⟨?_, fun k hk => ?_⟩, ⟨?_, fun k hk => ?_⟩, hall 0 (by omega) p5, hall 1 (by omega) p6⟩, ⟨V, CL, e9, by omega, by omega, by omega, c4.fr (e0 3 (by omega)) (fun v h1 h2 => esm v (by omega)) (fun v _ _ => by rw [hl]) (by rw [hl]), (c5.fr (fun v h1 h2 => esm v (by omega))).up (by omega)⟩⟩, ⟨fun v hv => esm v (by omega), fun v _ => by rw [hl]⟩⟩
  · rw [e0 5 (by omega)]; exact p2.1 i hi
  · rw [e0 2 (by omega)]; exact p2.2.1
  · rw [e0 6 (by omega)]; exact p2.2.2 d hd
  · rw [esm _ (by decide)]; exact p3.1
  · rw [esm _ (by decide)]; exact p3.2 k hk
  · rw [esm _ (by decide)]; exact p4.1
  · rw [hl]; exact p4.2 k hk
end OPS
