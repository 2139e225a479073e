/-! The hearing on trial. -/
section HNP
variable {S : SP} {μ : Mem} {t : Nat}
theorem he_nextP_loop (h1 : μ.1 (vSt 0 0) 0 = nI S.1) (hO : SOk S) (hT : HT S t μ) {s : Nat} (hs : s < 2 ^ S.1) : ∀ (m i n : Nat), i + m = S.1 → m < n → f_he_next_b14 t n (nI s) (lN (ln (loF S s i) 8)) (lN (ln (hiF S s i) 8)) (nI i) μ = some (nI (nxt S s), μ) := by
  have hp := hO.1
  have hs9 := p2_31 hp hs
  intro m
  induction m with
  | zero =>
    intro i n hi hn
    obtain ⟨n, rfl⟩ : ∃ z, n = z + 1 := ⟨n - 1, by omega⟩
    obtain rfl : i = S.1 := by omega
    rw [f_he_next_b14, h1, if_pos ((i_leN (by omega) (by omega)).mpr (by omega)), highest_ln (fun k _ => loF_lt hO s hp k), bd2_s, highest_ln (fun k _ => hiF_lt hO s hp k), bd2_s, hT.1]
    have hA := bs_lt (fun k => decide (128 ≤ loF S s S.1 k)) 8
    have hB := bs_lt (fun k => decide (128 ≤ hiF S s S.1 k)) 8
    rw [show ((8 : Int32) &&& 31) = (nI 8 &&& 31) from rfl, i_shl (by omega) (by omega), i_or, bnd_s, i_and, i_wo, i_or]
    congr 3
    apply nat_ext
    intro q
    unfold nxt
    rw [Nat.testBit_or, Nat.testBit_and, Nat.testBit_or, wo_tb, bs_tb, bs_tb, bs_tb, Nat.testBit_mul_two_pow, bs_tb]
    by_cases hq : q < S.1
    · unfold wld
      cases hm : mvd S q with
      | false => simp [hq]
      | true =>
        have hd : decide (S.2.2.1 q * allS S q < 100 * hrd S q s) = decide (128 ≤ barN S q + hrd S q s) := decide_eq_decide.mpr (bar_iff hO hq s).symm
        rw [hd]
        by_cases h8 : q < 8
        · have : loF S s S.1 q = barN S q + hrd S q s := by unfold loF; rw [if_pos hq]; rfl
          rw [this]
          have : ¬ 8 ≤ q := by omega
          simp [hq, h8, this]
        · have : hiF S s S.1 (q - 8) = barN S q + hrd S q s := by
            unfold hiF
            rw [if_pos (by omega), show q - 8 + 8 = q by omega]
            rfl
          rw [this]
          have h9 : 8 ≤ q := by omega
          have h10 : q - 8 < 8 := by omega
          simp [hq, h8, h9, h10]
    · have : s.testBit q = false := tb_lt hs (by omega)
      simp [hq, this]
  | succ m ih =>
    intro i n hi hn
    obtain ⟨n, rfl⟩ : ∃ z, n = z + 1 := ⟨n - 1, by omega⟩
    have key := ih (i + 1) n (by omega) (by omega)
    have hstep : ∀ k, hrP S k s (i + 1) = hrP S k s i + bN (s.testBit i) * S.2.1 k i := fun k => rfl
    rw [f_he_next_b14, h1, if_neg (fun q => absurd ((i_leN (by omega) (by omega)).mp q) (by omega))]
    cases hb : s.testBit i with
    | false =>
      rw [if_pos ((i_bit0 hs9 (by omega)).mpr hb), l_1, i_add]
      have e1 : loF S s (i + 1) = loF S s i := by
        funext k
        unfold loF
        rw [hstep, hb]
        simp [bN]
      have e2 : hiF S s (i + 1) = hiF S s i := by
        funext k
        unfold hiF
        rw [hstep, hb]
        simp [bN]
      rw [e1, e2] at key
      exact key
    | true =>
      rw [if_neg (fun q => by rw [i_bit0 hs9 (by omega), hb] at q; cases q), inb_n (by omega) (by omega), chk_t, cl_nI (by omega), (hT.2.2.2.1 i (by omega)).1, (hT.2.2.2.1 i (by omega)).2, lN_add, lN_add, bnd_s, chk_t, bnd_s, l_1, i_add, ln_add, ln_add]
      have e1 : loF S s (i + 1) = fun k => loF S s i k + loL S i k := by
        funext k
        unfold loF loL
        rw [hstep, hb]
        by_cases hk : k < S.1
        · simp [hk, bN]; omega
        · simp [hk]
      have e2 : hiF S s (i + 1) = fun k => hiF S s i k + hiL S i k := by
        funext k
        unfold hiF hiL
        rw [hstep, hb]
        by_cases hk : k + 8 < S.1
        · simp [hk, bN]; omega
        · simp [hk]
      rw [e1, e2] at key
      exact key
theorem he_nextP (h1 : μ.1 (vSt 0 0) 0 = nI S.1) (hO : SOk S) (hT : HT S t μ) {s : Nat} (hs : s < 2 ^ S.1) : f_he_next t (nI s) μ = some (nI (nxt S s), μ) := by
  unfold f_he_next
  rw [hT.2.1, hT.2.2.1]
  have e1 : loB S = loF S s 0 := by funext k; unfold loB loF hrP; rw [sm]; rfl
  have e2 : hiB S = hiF S s 0 := by funext k; unfold hiB hiF hrP; rw [sm]; rfl
  rw [e1, e2]
  exact he_nextP_loop h1 hO hT hs S.1 0 FU (by omega) (by have := hO.1; unfold FU; omega)
end HNP
/-- one loudness changed -/
def up2 (lo : Nat → Nat → Nat) (i j x : Nat) : Nat → Nat → Nat := fun k l => if k = i ∧ l = j then x else lo k l
theorem up2_eq (lo : Nat → Nat → Nat) (i j x : Nat) : up2 lo i j x i j = x := if_pos ⟨rfl, rfl⟩
theorem up2_ne (lo : Nat → Nat → Nat) {i j k l : Nat} (x : Nat) (h : ¬ (k = i ∧ l = j)) : up2 lo i j x k l = lo k l := if_neg h
theorem up2_back (lo : Nat → Nat → Nat) (i j x : Nat) : up2 (up2 lo i j x) i j (lo i j) = lo := by
  funext k l
  unfold up2
  by_cases h : k = i ∧ l = j
  · rw [if_pos h, h.1, h.2]
  · rw [if_neg h, if_neg h]
theorem up2_com (lo : Nat → Nat → Nat) {i j k l : Nat} (x y : Nat) (h : ¬ (k = i ∧ l = j)) : up2 (up2 lo i j x) k l y = up2 (up2 lo k l y) i j x := by
  funext u v
  unfold up2
  by_cases h1 : u = k ∧ v = l
  · rw [if_pos h1, if_pos h1, if_neg (fun q => h ⟨by omega, by omega⟩)]
  · rw [if_neg h1, if_neg h1]
/-- the tables are those of S but for the bars of some -/
def HTm (S : SP) (t : Nat) (bad : Nat → Bool) (μ : Mem) : Prop := ∃ (m : Nat) (f g : Nat → Nat), μ.1 (vHe t 0) 0 = nI m ∧ (∀ k, k < S.1 → bad k = false → m.testBit k = mvd S k) ∧ (∀ k, S.1 ≤ k → m.testBit k = false) ∧ μ.2.1 (lHe t 0) 0 = lN (ln f 8) ∧ μ.2.1 (lHe t 1) 0 = lN (ln g 8) ∧ (∀ k, k < 8 → f k < 256 ∧ (bad k = false → f k = loB S k)) ∧ (∀ k, k < 8 → g k < 256 ∧ (bad (k + 8) = false → g k = hiB S k)) ∧
  (∀ j, j < S.1 → μ.2.1 (lHe t 2) j = lN (ln (loL S j) 8) ∧ μ.2.1 (lHe t 3) j = lN (ln (hiL S j) 8)) ∧ ∀ i, i < S.1 → μ.1 (vHe t 4) i = nI (allS S i) ∧ μ.1 (vHe t 5) i = nI (S.2.2.1 i)
theorem loB_lt (S : SP) (k : Nat) : loB S k < 256 := by have := bar_le S k; unfold loB; split <;> omega
theorem hiB_lt (S : SP) (k : Nat) : hiB S k < 256 := by have := bar_le S (k + 8); unfold hiB; split <;> omega
theorem HT.m {S : SP} {t : Nat} {μ : Mem} (h : HT S t μ) (bad : Nat → Bool) : HTm S t bad μ := by
  obtain ⟨h1, h2, h3, h4, h5⟩ := h
  exact ⟨_, _, _, h1, fun k hk _ => by rw [bs_tb, decide_eq_true hk, Bool.true_and], fun k hk => by rw [bs_tb, decide_eq_false (by omega), Bool.false_and], h2, h3, fun k _ => ⟨loB_lt S k, fun _ => rfl⟩, fun k _ => ⟨hiB_lt S k, fun _ => rfl⟩, h4, h5⟩
theorem HTm.ok {S : SP} {t : Nat} {μ : Mem} {bad : Nat → Bool} (h : HTm S t bad μ) (hb : ∀ k, bad k = false) : HT S t μ := by
  obtain ⟨m, f, g, h1, h2, h3, h4, h5, h6, h7, h8, h9⟩ := h
  refine ⟨?_, ?_, ?_, h8, h9⟩
  · rw [h1]
    congr 1
    refine nat_ext fun k => ?_
    rw [bs_tb]
    rcases Nat.lt_or_ge k S.1 with q | q
    · rw [h2 k q (hb k), decide_eq_true q, Bool.true_and]
    · rw [h3 k q, decide_eq_false (by omega), Bool.false_and]
  · rw [h4, ln_congr 8 (fun k hk => (h6 k hk).2 (hb k))]
  · rw [h5, ln_congr 8 (fun k hk => (h7 k hk).2 (hb (k + 8)))]
/-- S and S' are the same but for the rows that are bad -/
theorem HTm.need {S : SP} {t i v : Nat} {μ : Mem} {bad : Nat → Bool} (h : HTm S t bad μ) (hi : i < S.1) : HTm (S.1, S.2.1, fnu S.2.2.1 i v, S.2.2.2) t (fun k => bad k || decide (k = i)) (setI μ (vHe t 5) i (nI v)) := by
  obtain ⟨m, f, g, h1, h2, h3, h4, h5, h6, h7, h8, h9⟩ := h
  have hall : ∀ k, allS (S.1, S.2.1, fnu S.2.2.1 i v, S.2.2.2) k = allS S k := fun k => rfl
  have hbar : ∀ k, k ≠ i → barN (S.1, S.2.1, fnu S.2.2.1 i v, S.2.2.2) k = barN S k := fun k hk => by
    unfold barN
    rw [hall]
    show 127 - fnu S.2.2.1 i v k * _ / 100 = _
    rw [fnu_ne _ _ hk]
  refine ⟨m, f, g, by rw [sI_v _ _ _ (he4ne t 0 5 (by decide))]; exact h1, fun k hk hb => ?_, h3, h4, h5, fun k hk => ⟨(h6 k hk).1, fun hb => ?_⟩, fun k hk => ⟨(h7 k hk).1, fun hb => ?_⟩, h8, fun k hk => ⟨by rw [sI_v _ _ _ (he4ne t 4 5 (by decide))]; exact (h9 k hk).1, ?_⟩⟩
  · rw [Bool.or_eq_false_iff] at hb
    exact h2 k hk hb.1
  · rw [Bool.or_eq_false_iff, decide_eq_false_iff_not] at hb
    rw [(h6 k hk).2 hb.1]
    unfold loB
    rw [hbar k hb.2]
  · rw [Bool.or_eq_false_iff, decide_eq_false_iff_not] at hb
    rw [(h7 k hk).2 hb.1]
    unfold hiB
    rw [hbar (k + 8) hb.2]
  · by_cases e : k = i
    · subst e; rw [sI_eq]; show _ = nI (fnu _ _ _ _); rw [fnu_eq]
    · rw [sI_i _ _ _ e]; show _ = nI (fnu _ _ _ _); rw [fnu_ne _ _ e]; exact (h9 k hk).2
theorem lt_add : ∀ n, n < 10 → ∀ o, o < 10 → ∀ q, q < 8 → (nI n - nI o).toInt64 <<< ((nI (8 * q)).toInt64 &&& 63) + lN (o * 256 ^ q) = lN (n * 256 ^ q) := by decide +kernel
theorem it_add : ∀ n, n < 10 → ∀ o, o < 10 → (nI n - nI o) + nI o = nI n := by decide +kernel
theorem lane_add {f g : Nat → Nat} {n q : Nat} (hq : q < 8) (hn : n < 10) (ho : f q < 10) (hg : g q = n) (h : ∀ k, k ≠ q → g k = f k) : lN (ln f 8) + (nI n - nI (f q)).toInt64 <<< ((nI (8 * q)).toInt64 &&& 63) = lN (ln g 8) := by
  have e1 : ln f 8 = ln (fun k => if k = q then 0 else f k) 8 + f q * 256 ^ q := ln_up 8 hq (by rw [if_pos rfl]; omega) (fun k hk => by rw [if_neg hk])
  have e2 : ln g 8 = ln (fun k => if k = q then 0 else f k) 8 + n * 256 ^ q := ln_up 8 hq (by rw [if_pos rfl, hg]; omega) (fun k hk => by rw [if_neg hk, h k hk])
  have e3 := lt_add n hn (f q) ho q hq
  rw [e1, e2, ← lN_add, ← lN_add, ← e3, Int64.add_assoc, Int64.add_comm (lN (f q * 256 ^ q))]
theorem HTm.add {S : SP} {t i j n : Nat} {μ : Mem} {bad : Nat → Bool} (hO : SOk S) (h : HTm S t bad μ) (hi : i < S.1) (hj : j < S.1) (hn : n ≤ 9) (hb : bad i = true) : HTm (S.1, up2 S.2.1 i j n, S.2.2.1, S.2.2.2) t bad (addM t i j (nI n - nI (S.2.1 i j)) μ) := by
  have hp := hO.1
  have h9' := hO.2.1 i j
  obtain ⟨m, f, g, h1, h2, h3, h4, h5, h6, h7, h8, h9⟩ := h
  have hfr := addM_fr t i j (nI n - nI (S.2.1 i j)) μ
  have hall : ∀ k, k ≠ i → allS (S.1, up2 S.2.1 i j n, S.2.2.1, S.2.2.2) k = allS S k := fun k hk => sm_congr _ (fun o _ => up2_ne _ _ (fun q => hk q.1))
  have halli : allS (S.1, up2 S.2.1 i j n, S.2.2.1, S.2.2.2) i + S.2.1 i j = allS S i + n := by
    have e1 : allS S i = sm (fun o => if o = j then 0 else S.2.1 i o) S.1 + S.2.1 i j := sm_step S.1 hj (by rw [if_pos rfl]; omega) (fun k hk => by rw [if_neg hk])
    have e2 : allS (S.1, up2 S.2.1 i j n, S.2.2.1, S.2.2.2) i = sm (fun o => if o = j then 0 else S.2.1 i o) S.1 + n := sm_step S.1 hj (by rw [if_pos rfl]; show up2 S.2.1 i j n i j = _; rw [up2_eq]; omega) (fun k hk => by rw [if_neg hk]; exact up2_ne _ _ (fun q => hk q.2))
    omega
  have hbar : ∀ k, k ≠ i → barN (S.1, up2 S.2.1 i j n, S.2.2.1, S.2.2.2) k = barN S k := fun k hk => by unfold barN; rw [hall k hk]
  have hnb : ∀ k, bad k = false → k ≠ i := fun k hk e => by rw [e, hb] at hk; exact absurd hk (by decide)
  refine ⟨m, f, g, ?_, fun k hk hb' => ?_, h3, ?_, ?_, fun k hk => ⟨(h6 k hk).1, fun hb' => ?_⟩, fun k hk => ⟨(h7 k hk).1, fun hb' => ?_⟩, fun b hb' => ?_, fun k hk => ?_⟩
  · rw [← h1]
    unfold addM
    split <;> exact congrFun (sI_v μ i _ (he4ne t 0 4 (by decide))) 0
  · rw [h2 k hk hb']
    unfold mvd
    rw [hall k (hnb k hb')]
  · rw [← h4]
    unfold addM
    split
    · exact congrFun (sL_v _ j _ (le4ne t 0 2 (by decide))) 0
    · exact congrFun (sL_v _ j _ (le4ne t 0 3 (by decide))) 0
  · rw [← h5]
    unfold addM
    split
    · exact congrFun (sL_v _ j _ (le4ne t 1 2 (by decide))) 0
    · exact congrFun (sL_v _ j _ (le4ne t 1 3 (by decide))) 0
  · rw [(h6 k hk).2 hb']
    unfold loB
    rw [hbar k (hnb k hb')]
  · rw [(h7 k hk).2 hb']
    unfold hiB
    rw [hbar (k + 8) (hnb _ hb')]
  · obtain ⟨q1, q2⟩ := h8 b hb'
    have hloL : ∀ k, ¬ (k = i ∧ b = j) → loL (S.1, up2 S.2.1 i j n, S.2.2.1, S.2.2.2) b k = loL S b k := fun k hk => by
      unfold loL
      show (if k < S.1 then up2 S.2.1 i j n k b else 0) = _
      rw [up2_ne _ _ hk]
    have hhiL : ∀ k, ¬ (k + 8 = i ∧ b = j) → hiL (S.1, up2 S.2.1 i j n, S.2.2.1, S.2.2.2) b k = hiL S b k := fun k hk => by
      unfold hiL
      show (if k + 8 < S.1 then up2 S.2.1 i j n (k + 8) b else 0) = _
      rw [up2_ne _ _ hk]
    by_cases h8' : i < 8
    · have e0 : addM t i j (nI n - nI (S.2.1 i j)) μ = setL (setI μ (vHe t 4) i (μ.1 (vHe t 4) i + (nI n - nI (S.2.1 i j)))) (lHe t 2) j (μ.2.1 (lHe t 2) j + (nI n - nI (S.2.1 i j)).toInt64 <<< ((nI (8 * i)).toInt64 &&& 63)) := if_pos h8'
      rw [e0]
      constructor
      · by_cases hbj : b = j
        · subst hbj
          have ef : loL S b i = S.2.1 i b := if_pos hi
          rw [sL_eq, q1, ← ef]
          refine lane_add h8' (by omega) (by rw [ef]; omega) ?_ (fun k hk => hloL k (fun q => hk q.1))
          show (if i < S.1 then up2 S.2.1 i b n i b else 0) = n
          rw [if_pos hi, up2_eq]
        · rw [sL_i _ _ _ hbj]
          refine q1.trans ?_
          congr 1
          exact ln_congr 8 (fun k _ => (hloL k (fun q => hbj q.2)).symm)
      · rw [sL_v _ j _ (le4ne t 3 2 (by decide))]
        refine q2.trans ?_
        congr 1
        exact ln_congr 8 (fun k _ => (hhiL k (fun q => by omega)).symm)
    · have e0 : addM t i j (nI n - nI (S.2.1 i j)) μ = setL (setI μ (vHe t 4) i (μ.1 (vHe t 4) i + (nI n - nI (S.2.1 i j)))) (lHe t 3) j (μ.2.1 (lHe t 3) j + (nI n - nI (S.2.1 i j)).toInt64 <<< ((nI (8 * (i - 8))).toInt64 &&& 63)) := if_neg h8'
      rw [e0]
      constructor
      · rw [sL_v _ j _ (le4ne t 2 3 (by decide))]
        refine q1.trans ?_
        congr 1
        exact ln_congr 8 (fun k hk => (hloL k (fun q => by omega)).symm)
      · by_cases hbj : b = j
        · subst hbj
          have ei : i - 8 + 8 = i := by omega
          have ef : hiL S b (i - 8) = S.2.1 i b := by unfold hiL; rw [ei, if_pos hi]
          rw [sL_eq, q2, ← ef]
          refine lane_add (q := i - 8) (by omega) (by omega) (by rw [ef]; omega) ?_ (fun k hk => hhiL k (fun q => hk (by omega)))
          show (if i - 8 + 8 < S.1 then up2 S.2.1 i b n (i - 8 + 8) b else 0) = n
          rw [ei, if_pos hi, up2_eq]
        · rw [sL_i _ _ _ hbj]
          refine q2.trans ?_
          congr 1
          exact ln_congr 8 (fun k _ => (hhiL k (fun q => hbj q.2)).symm)
  · obtain ⟨q1, q2⟩ := h9 k hk
    have e4 : (addM t i j (nI n - nI (S.2.1 i j)) μ).1 = (setI μ (vHe t 4) i (μ.1 (vHe t 4) i + (nI n - nI (S.2.1 i j)))).1 := by
      unfold addM
      split <;> rfl
    rw [e4]
    constructor
    · by_cases e : k = i
      · subst e
        have e5 := it_add n (by omega) (S.2.1 k j) (by omega)
        have hge : S.2.1 k j ≤ allS S k := by
          have e1 : allS S k = sm (fun o => if o = j then 0 else S.2.1 k o) S.1 + S.2.1 k j := sm_step S.1 hj (by rw [if_pos rfl]; omega) (fun l hl => by rw [if_neg hl])
          omega
        rw [sI_eq, q1, show allS S k = (allS S k - S.2.1 k j) + S.2.1 k j by omega, ← i_add, Int32.add_assoc, Int32.add_comm (nI (S.2.1 k j)), e5, i_add]
        congr 1
        omega
      · rw [sI_i _ _ _ e, q1, hall k e]
    · rw [sI_v μ i _ (he4ne t 5 4 (by decide))]
      exact q2
/-- a bar raised anew -/
theorem HTm.bar {S S0 : SP} {t i : Nat} {μ : Mem} {bad : Nat → Bool} (hB : XB S0 μ) (hf : S0.2.2.2 = S.2.2.2) (hO : SOk S) (h : HTm S t bad μ) (hi : i < S.1) : ∃ μ', f_he_raiseBar t (nI i) μ = some μ' ∧ HTm S t (fun k => bad k && !decide (k = i)) μ' ∧ HFr t μ μ' := by
  have hp := hO.1
  obtain ⟨m, f, g, h1, h2, h3, h4, h5, h6, h7, h8, h9⟩ := h
  have key := he_raiseBar hB t (i := i) (by omega) (allS_le hO i) (hO.2.2.1 i hi) (h9 i hi).1 (h9 i hi).2 h1 h4 h5 (fun k hk => (h6 k hk).1) (fun k hk => (h7 k hk).1)
  rw [hf] at key
  have hbi := bar_le S i
  have hfr : HFr t μ (setI (if i < 8 then setL μ (lHe t 0) 0 (lN (ln (fun k => if k = i then 127 - S.2.2.1 i * allS S i / 100 else f k) 8)) else setL μ (lHe t 1) 0 (lN (ln (fun k => if k + 8 = i then 127 - S.2.2.1 i * allS S i / 100 else g k) 8))) (vHe t 0) 0 (nI (if 0 < allS S i ∧ S.2.2.2.testBit i = false then m ||| 2 ^ i else wo m (2 ^ i)))) := by
    refine HFr.tr ?_ (HFr.I _ 0 _ (Or.inl rfl))
    split
    · exact HFr.L μ 0 _ (Or.inl rfl)
    · exact HFr.L μ 0 _ (Or.inr (Or.inl rfl))
  have hm : ∀ k, (if 0 < allS S i ∧ S.2.2.2.testBit i = false then m ||| 2 ^ i else wo m (2 ^ i)).testBit k = if k = i then mvd S i else m.testBit k := fun k => by
    have hmv : mvd S i = decide (0 < allS S i ∧ S.2.2.2.testBit i = false) := by
      unfold mvd
      cases S.2.2.2.testBit i <;> simp
    by_cases c : 0 < allS S i ∧ S.2.2.2.testBit i = false
    · rw [if_pos c, Nat.testBit_or, tb_p2]
      by_cases e : k = i
      · rw [if_pos e, hmv, decide_eq_true c, decide_eq_true e.symm, Bool.or_true]
      · rw [if_neg e, decide_eq_false (fun q => e q.symm), Bool.or_false]
    · rw [if_neg c, wo_tb, tb_p2]
      by_cases e : k = i
      · rw [if_pos e, hmv, decide_eq_false c, decide_eq_true e.symm]; simp
      · rw [if_neg e, decide_eq_false (fun q => e q.symm)]; simp
  have hnb : ∀ k, k ≠ i → (bad k && !decide (k = i)) = false → bad k = false := fun k e q => by
    rw [decide_eq_false e] at q
    simpa using q
  refine ⟨_, key, ⟨_, (fun k => if k = i then barN S i else f k), (fun k => if k + 8 = i then barN S i else g k), sI_eq _ _ _ _, fun k hk hb => ?_, fun k hk => ?_, ?_, ?_, fun k hk => ?_, fun k hk => ?_, fun j hj => ?_, fun k hk => ?_⟩, hfr⟩
  · rw [hm]
    by_cases e : k = i
    · rw [if_pos e, e]
    · rw [if_neg e]; exact h2 k hk (hnb k e hb)
  · rw [hm, if_neg (by omega)]; exact h3 k hk
  · show (if i < 8 then setL μ (lHe t 0) 0 _ else setL μ (lHe t 1) 0 _).2.1 (lHe t 0) 0 = _
    by_cases c : i < 8
    · rw [if_pos c, sL_eq]; rfl
    · rw [if_neg c, sL_v _ 0 _ (le4ne t 0 1 (by decide)), h4]
      congr 1
      exact ln_congr 8 (fun k hk => by rw [if_neg (by omega)])
  · show (if i < 8 then setL μ (lHe t 0) 0 _ else setL μ (lHe t 1) 0 _).2.1 (lHe t 1) 0 = _
    by_cases c : i < 8
    · rw [if_pos c, sL_v _ 0 _ (le4ne t 1 0 (by decide)), h5]
      congr 1
      exact ln_congr 8 (fun k hk => by rw [if_neg (by omega)])
    · rw [if_neg c, sL_eq]; rfl
  · constructor
    · have := (h6 k hk).1
      show (if k = i then barN S i else f k) < 256
      split <;> omega
    · intro hb
      show (if k = i then barN S i else f k) = _
      by_cases e : k = i
      · rw [if_pos e]; unfold loB; rw [if_pos (by omega), e]
      · rw [if_neg e]; exact (h6 k hk).2 (hnb k e hb)
  · constructor
    · have := (h7 k hk).1
      show (if k + 8 = i then barN S i else g k) < 256
      split <;> omega
    · intro hb
      show (if k + 8 = i then barN S i else g k) = _
      by_cases e : k + 8 = i
      · rw [if_pos e]; unfold hiB; rw [if_pos (by omega), e]
      · rw [if_neg e]; exact (h7 k hk).2 (hnb (k + 8) e hb)
  · obtain ⟨q1, q2⟩ := h8 j hj
    have e : ∀ (u : Nat) (x y : Int64), u ≠ lHe t 0 → u ≠ lHe t 1 → (if i < 8 then setL μ (lHe t 0) 0 x else setL μ (lHe t 1) 0 y).2.1 u = μ.2.1 u := fun u x y g1 g2 => by
      split
      · exact sL_v _ 0 _ g1
      · exact sL_v _ 0 _ g2
    constructor
    · rw [sI_2, e _ _ _ (le4ne t 2 0 (by decide)) (le4ne t 2 1 (by decide))]; exact q1
    · rw [sI_2, e _ _ _ (le4ne t 3 0 (by decide)) (le4ne t 3 1 (by decide))]; exact q2
  · obtain ⟨q1, q2⟩ := h9 k hk
    have e1 : ∀ (x y : Int64), (if i < 8 then setL μ (lHe t 0) 0 x else setL μ (lHe t 1) 0 y).1 = μ.1 := fun x y => by split <;> rfl
    constructor
    · rw [sI_v _ 0 _ (he4ne t 4 0 (by decide)), e1]; exact q1
    · rw [sI_v _ 0 _ (he4ne t 5 0 (by decide)), e1]; exact q2
