/-! A hearing learns its tables anew. -/
def HFr (t : Nat) (μ μ' : Mem) : Prop := (∀ v, v ≠ vHe t 0 → v ≠ vHe t 1 → v ≠ vHe t 4 → v ≠ vHe t 5 → μ'.1 v = μ.1 v) ∧ (∀ v, v ≠ lHe t 0 → v ≠ lHe t 1 → v ≠ lHe t 2 → v ≠ lHe t 3 → μ'.2.1 v = μ.2.1 v) ∧ μ'.2.2 = μ.2.2
theorem HFr.rf (t : Nat) (μ : Mem) : HFr t μ μ := ⟨fun _ _ _ _ _ => rfl, fun _ _ _ _ _ => rfl, rfl⟩
theorem HFr.tr {t : Nat} {a b c : Mem} (h : HFr t a b) (k : HFr t b c) : HFr t a c := ⟨fun v h0 h1 h2 h3 => (k.1 v h0 h1 h2 h3).trans (h.1 v h0 h1 h2 h3), fun v h0 h1 h2 h3 => (k.2.1 v h0 h1 h2 h3).trans (h.2.1 v h0 h1 h2 h3), k.2.2.trans h.2.2⟩
theorem HFr.I {t : Nat} (μ : Mem) {v : Nat} (i : Nat) (x : Int32) (hv : v = vHe t 0 ∨ v = vHe t 1 ∨ v = vHe t 4 ∨ v = vHe t 5) : HFr t μ (setI μ v i x) := by
  refine ⟨fun u h0 h1 h2 h3 => sI_v μ i x ?_, fun _ _ _ _ _ => rfl, rfl⟩
  rcases hv with rfl | rfl | rfl | rfl <;> assumption
theorem HFr.L {t : Nat} (μ : Mem) {v : Nat} (i : Nat) (x : Int64) (hv : v = lHe t 0 ∨ v = lHe t 1 ∨ v = lHe t 2 ∨ v = lHe t 3) : HFr t μ (setL μ v i x) := by
  refine ⟨fun _ _ _ _ _ => rfl, fun u h0 h1 h2 h3 => sL_v μ i x ?_, rfl⟩
  rcases hv with rfl | rfl | rfl | rfl <;> assumption
theorem vSt_He {a : Nat} (ha : a < 22) (t j : Nat) : vSt 0 a ≠ vHe t j := by show 5 + 22 * 0 + a ≠ 93 + 6 * t + j; omega
theorem HFr.XB {t : Nat} {μ μ' : Mem} {S : SP} (h : HFr t μ μ') (hB : XB S μ) : XB S μ' := by
  have e : ∀ a, a < 22 → μ'.1 (vSt 0 a) = μ.1 (vSt 0 a) := fun a ha => h.1 _ (vSt_He ha t 0) (vSt_He ha t 1) (vSt_He ha t 4) (vSt_He ha t 5)
  refine ⟨by rw [e 0 (by omega)]; exact hB.1, fun i j hi hj => by rw [e _ (by omega)]; exact hB.2.1 i j hi hj, fun i hi => by rw [e 4 (by omega)]; exact hB.2.2.1 i hi, by rw [e 1 (by omega)]; exact hB.2.2.2.1, hB.2.2.2.2⟩
theorem st_isFirm {S : SP} {μ : Mem} (h : XB S μ) {i : Nat} (hi : i < 14) : f_st_isFirm (nI i) μ = some (nI (bN (S.2.2.2.testBit i)), μ) := by
  have hf := p2_31 h.2.2.2.2.1 h.2.2.2.2.2.2.2
  unfold f_st_isFirm
  rw [h.2.2.2.1]
  have e : decide (((nI S.2.2.2 >>> (nI i &&& 31)) &&& (1 : Int32)) = 0) = !S.2.2.2.testBit i := by
    have := i_bit0 hf (show i < 32 by omega)
    cases hb : S.2.2.2.testBit i <;> simp [this, hb]
  rw [b_ifn, bnd_s, zb_b, chk_t]
  congr 3
  rw [decide_not, e, Bool.not_not]
/-- the effect of addLoud -/
def addM (t i j : Nat) (v : Int32) (μ : Mem) : Mem :=
  if i < 8 then setL (setI μ (vHe t 4) i (μ.1 (vHe t 4) i + v)) (lHe t 2) j (μ.2.1 (lHe t 2) j + v.toInt64 <<< ((nI (8 * i)).toInt64 &&& 63))
  else setL (setI μ (vHe t 4) i (μ.1 (vHe t 4) i + v)) (lHe t 3) j (μ.2.1 (lHe t 3) j + v.toInt64 <<< ((nI (8 * (i - 8))).toInt64 &&& 63))
theorem he_addLoud (t : Nat) {i j : Nat} (hi : i < 14) (hj : j < 14) (v : Int32) (μ : Mem) : f_he_addLoud t (nI i) (nI j) v μ = some (addM t i j v μ) := by
  unfold f_he_addLoud addM
  rw [inb_n hi (by omega), chk_t, chk_t, bnd_s, inb_n hj (by omega), cl_nI (by omega), cl_nI (by omega)]
  by_cases h : i < 8
  · rw [if_neg (show ¬ (8 : Int32) ≤ nI i from fun q => absurd ((i_leN (a := 8) (by omega) (by omega)).mp q) (by omega)), if_pos h, chk_t, chk_t, bnd_s, sI_2, l_8, i_mul, Nat.mul_comm i 8]
  · rw [if_pos (show (8 : Int32) ≤ nI i from (i_leN (a := 8) (by omega) (by omega)).mpr (by omega)), if_neg h, chk_t, chk_t, bnd_s, sI_2, l_8, i_sub (by omega), i_mul, Nat.mul_comm (i - 8) 8]
theorem he_raiseBar {S : SP} {μ : Mem} (h : XB S μ) (t : Nat) {i A N m : Nat} {f g : Nat → Nat} (hi : i < 14) (hA : A ≤ 126) (hN : N ≤ 99) (h4 : μ.1 (vHe t 4) i = nI A) (h5 : μ.1 (vHe t 5) i = nI N) (h0 : μ.1 (vHe t 0) 0 = nI m)
    (hl : μ.2.1 (lHe t 0) 0 = lN (ln f 8)) (hh : μ.2.1 (lHe t 1) 0 = lN (ln g 8)) (hf : ∀ k, k < 8 → f k < 256) (hg : ∀ k, k < 8 → g k < 256) :
    f_he_raiseBar t (nI i) μ = some (setI (if i < 8 then setL μ (lHe t 0) 0 (lN (ln (fun k => if k = i then 127 - N * A / 100 else f k) 8)) else setL μ (lHe t 1) 0 (lN (ln (fun k => if k + 8 = i then 127 - N * A / 100 else g k) 8))) (vHe t 0) 0 (nI (if 0 < A ∧ S.2.2.2.testBit i = false then m ||| 2 ^ i else wo m (2 ^ i)))) := by
  have hNA : N * A ≤ 99 * 126 := Nat.mul_le_mul hN hA
  have hbar : (127 : Int32) - nI N * nI A / (100 : Int32) = nI (127 - N * A / 100) := by
    rw [i_mul, l_100, pk_div (by omega) (by omega) (by omega), l_127, i_sub (by omega)]
  have hfin : ∀ ν : Mem, XB S ν → ν.1 (vHe t 4) i = nI A → ν.1 (vHe t 0) 0 = nI m → f_he_raiseBar_b93 t (nI i) ν = some (setI ν (vHe t 0) 0 (nI (if 0 < A ∧ S.2.2.2.testBit i = false then m ||| 2 ^ i else wo m (2 ^ i)))) := by
    intro ν hν e4 e0
    unfold f_he_raiseBar_b93
    rw [inb_n hi (by omega), chk_t, cl_nI (by omega), e4]
    have hfr := p2_31 hν.2.2.2.2.1 hν.2.2.2.2.2.2.2
    by_cases hA0 : 0 < A
    · rw [if_neg (show ¬ nI A ≤ 0 from fun q => absurd ((i_leN (b := 0) (by omega) (by omega)).mp q) (by omega)), hν.2.2.2.1, bnd_s, bnd_s, bnd_s, e0, i_one (by omega), i_wo, i_or]
      have hz := i_bit0 hfr (show i < 32 by omega)
      cases hb : S.2.2.2.testBit i with
      | true =>
        have hz' : ¬ (nI S.2.2.2 >>> (nI i &&& 31)) &&& (1 : Int32) = 0 := fun q => by rw [hz, hb] at q; cases q
        rw [if_neg hz', if_pos rfl, if_neg (fun q => by cases q.2)]
      | false =>
        have hz' : (nI S.2.2.2 >>> (nI i &&& 31)) &&& (1 : Int32) = 0 := hz.mpr hb
        rw [if_pos hz', if_neg (by decide), if_pos ⟨hA0, rfl⟩]
    · rw [if_pos (show nI A ≤ 0 from (i_leN (b := 0) (by omega) (by omega)).mpr (by omega)), bnd_s, if_pos rfl, bnd_s, bnd_s, e0, i_one (by omega), i_wo, if_neg (fun q => hA0 q.1)]
  unfold f_he_raiseBar
  rw [inb_n hi (by omega), chk_t, chk_t, cl_nI (by omega), h4, h5, hbar, bnd_s, nI_l (by omega)]
  have hset : ∀ (q : Nat) (u w : Nat → Nat), q < 8 → (∀ k, k < 8 → u k < 256) → (∀ k, k < 8 → w k < 256) → (∀ k, k ≠ q → w k = u k) → w q = 127 - N * A / 100 → (lN (ln u 8) &&& ((255 : Int64) <<< ((nI (8 * q)).toInt64 &&& 63) ^^^ (-1 : Int64))) ||| lN (127 - N * A / 100) <<< ((nI (8 * q)).toInt64 &&& 63) = lN (ln w 8) := by
    intro q u w hq hu hw h1 h2
    rw [show (255 : Int64) = lN 255 from rfl, wb_shl _ (by omega), wb_shl _ (by omega), L_wo, L_or, ← h2, ln_set 8 hq hu hw h1]
  by_cases h8 : i < 8
  · rw [if_neg (show ¬ (8 : Int32) ≤ nI i from fun q => absurd ((i_leN (a := 8) (by omega) (by omega)).mp q) (by omega)), l_8, i_mul, Nat.mul_comm i 8, hl, hset i f (fun k => if k = i then 127 - N * A / 100 else f k) h8 hf (fun k hk => by have := hf k hk; show (if k = i then 127 - N * A / 100 else f k) < 256; split <;> omega) (fun k hk => if_neg hk) (if_pos rfl), bnd_s, if_pos h8]
    exact hfin _ ((HFr.L (t := t) μ 0 _ (Or.inl rfl)).XB h) h4 h0
  · rw [if_pos (show (8 : Int32) ≤ nI i from (i_leN (a := 8) (by omega) (by omega)).mpr (by omega)), l_8, i_sub (by omega), i_mul, Nat.mul_comm (i - 8) 8, bnd_s, hh, hset (i - 8) g (fun k => if k + 8 = i then 127 - N * A / 100 else g k) (by omega) hg (fun k hk => by have := hg k hk; show (if k + 8 = i then 127 - N * A / 100 else g k) < 256; split <;> omega) (fun k hk => if_neg (by omega)) (if_pos (by omega)), bnd_s, if_neg h8]
    exact hfin _ ((HFr.L (t := t) μ 0 _ (Or.inr (Or.inl rfl))).XB h) h4 h0

/-- rows ahead of i, and of row i the places ahead of j -/
def loR (S : SP) (i j a b : Nat) : Nat := if a < i ∨ (a = i ∧ b < j) then S.2.1 a b else 0
/-- the tables as far as rows i, j are through -/
def PT (S : SP) (t i j : Nat) (μ : Mem) : Prop :=
  XB S μ ∧ μ.1 (vHe t 0) 0 = nI (bs (mvd S) i) ∧ μ.2.1 (lHe t 0) 0 = lN (ln (fun k => if k < i then barN S k else 0) 8) ∧ μ.2.1 (lHe t 1) 0 = lN (ln (fun k => if k + 8 < i then barN S (k + 8) else 0) 8) ∧
  (∀ b, b < S.1 → μ.2.1 (lHe t 2) b = lN (ln (fun a => if a < S.1 then loR S i j a b else 0) 8) ∧ μ.2.1 (lHe t 3) b = lN (ln (fun a => if a + 8 < S.1 then loR S i j (a + 8) b else 0) 8)) ∧
  ∀ a, a < S.1 → μ.1 (vHe t 4) a = nI (sm (loR S i j a) S.1) ∧ μ.1 (vHe t 5) a = nI (S.2.2.1 a)
theorem sm_step {f g : Nat → Nat} {j v : Nat} : ∀ n, j < n → g j = f j + v → (∀ k, k ≠ j → g k = f k) → sm g n = sm f n + v
  | 0, h, _, _ => absurd h (by omega)
  | n + 1, h, h1, h2 => by
    by_cases e : j = n
    · subst e
      rw [sm, sm, sm_congr j (fun k hk => h2 k (by omega)), h1]
      omega
    · rw [sm, sm, sm_step n (by omega) h1 h2, h2 n (fun z => e z.symm)]
      omega
theorem loR_step (S : SP) (i j a b : Nat) : loR S i (j + 1) a b = loR S i j a b + (if a = i ∧ b = j then S.2.1 i j else 0) := by
  unfold loR
  by_cases ha : a = i
  · subst ha
    by_cases hb : b = j
    · subst hb
      simp
    · by_cases hlt : b < j
      · have : b < j + 1 := by omega
        simp [hb, hlt, this]
      · have : ¬ b < j + 1 := by omega
        simp [hb, hlt, this]
  · simp [ha]
theorem he4ne (t a b : Nat) (h : a ≠ b) : vHe t a ≠ vHe t b := by show 93 + 6 * t + a ≠ 93 + 6 * t + b; omega
theorem le4ne (t a b : Nat) (h : a ≠ b) : lHe t a ≠ lHe t b := by show 1 + 4 * t + a ≠ 1 + 4 * t + b; omega
theorem addM_fr (t i j : Nat) (v : Int32) (μ : Mem) : HFr t μ (addM t i j v μ) := by
  unfold addM
  split
  · exact (HFr.I μ i _ (Or.inr (Or.inr (Or.inl rfl)))).tr (HFr.L _ j _ (Or.inr (Or.inr (Or.inl rfl))))
  · exact (HFr.I μ i _ (Or.inr (Or.inr (Or.inl rfl)))).tr (HFr.L _ j _ (Or.inr (Or.inr (Or.inr rfl))))
theorem p256 (i : Nat) : 2 ^ (8 * i) = 256 ^ i := by rw [show (256 : Nat) = 2 ^ 8 from rfl, ← Nat.pow_mul]
theorem PT.add {S : SP} {t i j : Nat} {μ : Mem} (h : PT S t i j μ) (hi : i < S.1) (hj : j < S.1) : PT S t i (j + 1) (addM t i j (nI (S.2.1 i j)) μ) := by
  have hp := h.1.2.2.2.2.1
  have h9 := h.1.2.2.2.2.2.1 i j
  have hfr := addM_fr t i j (nI (S.2.1 i j)) μ
  refine ⟨hfr.XB h.1, ?_, ?_, ?_, fun b hb => ?_, fun a ha => ?_⟩
  · rw [← h.2.1]
    unfold addM
    split <;> exact congrFun (sI_v μ i _ (he4ne t 0 4 (by decide))) 0
  · rw [← h.2.2.1]
    unfold addM
    split
    · exact congrFun (sL_v _ j _ (le4ne t 0 2 (by decide))) 0
    · exact congrFun (sL_v _ j _ (le4ne t 0 3 (by decide))) 0
  · rw [← h.2.2.2.1]
    unfold addM
    split
    · exact congrFun (sL_v _ j _ (le4ne t 1 2 (by decide))) 0
    · exact congrFun (sL_v _ j _ (le4ne t 1 3 (by decide))) 0
  · obtain ⟨q1, q2⟩ := h.2.2.2.2.1 b hb
    by_cases h8 : i < 8
    · have e0 : addM t i j (nI (S.2.1 i j)) μ = setL (setI μ (vHe t 4) i (μ.1 (vHe t 4) i + nI (S.2.1 i j))) (lHe t 2) j (μ.2.1 (lHe t 2) j + (nI (S.2.1 i j)).toInt64 <<< ((nI (8 * i)).toInt64 &&& 63)) := if_pos h8
      rw [e0]
      constructor
      · by_cases hbj : b = j
        · subst hbj
          rw [sL_eq, q1, nI_l (by omega), wb_shl _ (by omega), lN_add, p256]
          congr 1
          refine (ln_up 8 h8 ?_ (fun a ha => ?_)).symm
          · rw [loR_step]; simp [hi]
          · rw [loR_step]; simp [ha]
        · rw [sL_i _ _ _ hbj]
          refine q1.trans ?_
          congr 1
          refine ln_congr 8 (fun a _ => ?_)
          rw [loR_step]
          simp [hbj]
      · rw [sL_v _ j _ (le4ne t 3 2 (by decide))]
        refine q2.trans ?_
        congr 1
        refine ln_congr 8 (fun a _ => ?_)
        rw [loR_step]
        have : ¬ a + 8 = i := by omega
        simp [this]
    · have e0 : addM t i j (nI (S.2.1 i j)) μ = setL (setI μ (vHe t 4) i (μ.1 (vHe t 4) i + nI (S.2.1 i j))) (lHe t 3) j (μ.2.1 (lHe t 3) j + (nI (S.2.1 i j)).toInt64 <<< ((nI (8 * (i - 8))).toInt64 &&& 63)) := if_neg h8
      rw [e0]
      constructor
      · rw [sL_v _ j _ (le4ne t 2 3 (by decide))]
        refine q1.trans ?_
        congr 1
        refine ln_congr 8 (fun a ha => ?_)
        rw [loR_step]
        have : ¬ a = i := by omega
        simp [this]
      · by_cases hbj : b = j
        · subst hbj
          rw [sL_eq, q2, nI_l (by omega), wb_shl _ (by omega), lN_add, p256]
          congr 1
          refine (ln_up (i := i - 8) 8 (by omega) ?_ (fun a ha => ?_)).symm
          · rw [loR_step, show i - 8 + 8 = i by omega]; simp [hi]
          · rw [loR_step]
            have : ¬ a + 8 = i := by omega
            simp [this]
        · rw [sL_i _ _ _ hbj]
          refine q2.trans ?_
          congr 1
          refine ln_congr 8 (fun a _ => ?_)
          rw [loR_step]
          simp [hbj]
  · obtain ⟨q1, q2⟩ := h.2.2.2.2.2 a ha
    have e4 : (addM t i j (nI (S.2.1 i j)) μ).1 = (setI μ (vHe t 4) i (μ.1 (vHe t 4) i + nI (S.2.1 i j))).1 := by
      unfold addM
      split <;> rfl
    rw [e4]
    constructor
    · by_cases hai : a = i
      · subst hai
        rw [sI_eq, q1, i_add]
        congr 1
        refine (sm_step (j := j) S.1 hj ?_ (fun b hb => ?_)).symm
        · rw [loR_step]; simp
        · rw [loR_step]; simp [hb]
      · rw [sI_i _ _ _ hai, q1]
        congr 1
        refine sm_congr S.1 (fun b _ => ?_)
        rw [loR_step]
        simp [hai]
    · rw [sI_v μ i _ (he4ne t 5 4 (by decide))]
      exact q2
theorem PT.row {S : SP} {t i : Nat} {μ : Mem} (h : PT S t i S.1 μ) (hi : i < S.1) : ∃ μ', f_he_raiseBar t (nI i) μ = some μ' ∧ PT S t (i + 1) 0 μ' ∧ HFr t μ μ' := by
  have hp := h.1.2.2.2.2.1
  have hO := h.1.2.2.2.2
  have hsum : sm (loR S i S.1 i) S.1 = allS S i := sm_congr S.1 (fun b hb => by unfold loR; simp [hb])
  have hb1 : ∀ k, (if k < i then barN S k else 0) < 256 := fun k => by have := bar_le S k; split <;> omega
  have hb2 : ∀ k, (if k + 8 < i then barN S (k + 8) else 0) < 256 := fun k => by have := bar_le S (k + 8); split <;> omega
  have h4 := (h.2.2.2.2.2 i hi).1
  rw [hsum] at h4
  have key := he_raiseBar h.1 t (i := i) (by omega) (allS_le hO i) (hO.2.2.1 i hi) h4 (h.2.2.2.2.2 i hi).2 h.2.1 h.2.2.1 h.2.2.2.1 (fun k _ => hb1 k) (fun k _ => hb2 k)
  refine ⟨_, key, ?_, ?_⟩
  · have hfr : HFr t μ (setI (if i < 8 then setL μ (lHe t 0) 0 (lN (ln (fun k => if k = i then 127 - S.2.2.1 i * allS S i / 100 else if k < i then barN S k else 0) 8)) else setL μ (lHe t 1) 0 (lN (ln (fun k => if k + 8 = i then 127 - S.2.2.1 i * allS S i / 100 else if k + 8 < i then barN S (k + 8) else 0) 8))) (vHe t 0) 0 (nI (if 0 < allS S i ∧ S.2.2.2.testBit i = false then bs (mvd S) i ||| 2 ^ i else wo (bs (mvd S) i) (2 ^ i)))) := by
      refine HFr.tr ?_ (HFr.I _ 0 _ (Or.inl rfl))
      split
      · exact HFr.L μ 0 _ (Or.inl rfl)
      · exact HFr.L μ 0 _ (Or.inr (Or.inl rfl))
    have hloR : ∀ a b, b < S.1 → loR S (i + 1) 0 a b = loR S i S.1 a b := fun a b hb => by
      unfold loR
      have : (a < i + 1 ∨ a = i + 1 ∧ b < 0) ↔ (a < i ∨ a = i ∧ b < S.1) := by omega
      simp only [this]
    refine ⟨hfr.XB h.1, ?_, ?_, ?_, fun b hb => ?_, fun a ha => ?_⟩
    · rw [sI_eq]
      congr 1
      rw [bs]
      unfold mvd
      by_cases hA : 0 < allS S i
      · cases hb : S.2.2.2.testBit i with
        | true =>
          rw [if_neg (fun q => by cases q.2)]
          apply nat_ext
          intro q
          have := bs_tb (mvd S) i q
          unfold mvd at this
          rw [wo_tb, tb_p2, Nat.testBit_or, this]
          by_cases hq : q < i
          · have : ¬ i = q := by omega
            simp [hq, this]
          · simp [hq]
        | false => rw [if_pos ⟨hA, rfl⟩]; simp [hA]
      · rw [if_neg (fun q => hA q.1)]
        apply nat_ext
        intro q
        have := bs_tb (mvd S) i q
        unfold mvd at this
        rw [wo_tb, tb_p2, Nat.testBit_or, this]
        by_cases hq : q < i
        · have h1 : ¬ i = q := by omega
          simp [hq, h1, hA]
        · simp [hq, hA]
    · show (if i < 8 then setL μ (lHe t 0) 0 _ else setL μ (lHe t 1) 0 _).2.1 (lHe t 0) 0 = _
      by_cases h8 : i < 8
      · rw [if_pos h8, sL_eq]
        congr 1
        refine ln_congr 8 (fun k _ => ?_)
        by_cases hk : k = i
        · subst hk; simp [barN]
        · by_cases hk2 : k < i
          · have : k < i + 1 := by omega
            simp [hk, hk2, this]
          · have : ¬ k < i + 1 := by omega
            simp [hk, hk2, this]
      · rw [if_neg h8, sL_v _ 0 _ (le4ne t 0 1 (by decide)), h.2.2.1]
        congr 1
        refine ln_congr 8 (fun k hk => ?_)
        have h1 : k < i := by omega
        have h2 : k < i + 1 := by omega
        simp [h1, h2]
    · show (if i < 8 then setL μ (lHe t 0) 0 _ else setL μ (lHe t 1) 0 _).2.1 (lHe t 1) 0 = _
      by_cases h8 : i < 8
      · rw [if_pos h8, sL_v _ 0 _ (le4ne t 1 0 (by decide)), h.2.2.2.1]
        congr 1
        refine ln_congr 8 (fun k hk => ?_)
        have h1 : ¬ k + 8 < i := by omega
        have h2 : ¬ k + 8 < i + 1 := by omega
        simp [h1, h2]
      · rw [if_neg h8, sL_eq]
        congr 1
        refine ln_congr 8 (fun k _ => ?_)
        by_cases hk : k + 8 = i
        · subst hk; simp [barN]
        · by_cases hk2 : k + 8 < i
          · have : k + 8 < i + 1 := by omega
            simp [hk, hk2, this]
          · have : ¬ k + 8 < i + 1 := by omega
            simp [hk, hk2, this]
    · obtain ⟨q1, q2⟩ := h.2.2.2.2.1 b hb
      constructor
      · show (if i < 8 then setL μ (lHe t 0) 0 _ else setL μ (lHe t 1) 0 _).2.1 (lHe t 2) b = _
        have : (if i < 8 then setL μ (lHe t 0) 0 (lN (ln (fun k => if k = i then 127 - S.2.2.1 i * allS S i / 100 else if k < i then barN S k else 0) 8)) else setL μ (lHe t 1) 0 (lN (ln (fun k => if k + 8 = i then 127 - S.2.2.1 i * allS S i / 100 else if k + 8 < i then barN S (k + 8) else 0) 8))).2.1 (lHe t 2) b = μ.2.1 (lHe t 2) b := by
          split
          · rw [sL_v _ 0 _ (le4ne t 2 0 (by decide))]
          · rw [sL_v _ 0 _ (le4ne t 2 1 (by decide))]
        rw [this, q1]
        congr 1
        refine ln_congr 8 (fun a _ => ?_)
        rw [hloR _ _ hb]
      · show (if i < 8 then setL μ (lHe t 0) 0 _ else setL μ (lHe t 1) 0 _).2.1 (lHe t 3) b = _
        have : (if i < 8 then setL μ (lHe t 0) 0 (lN (ln (fun k => if k = i then 127 - S.2.2.1 i * allS S i / 100 else if k < i then barN S k else 0) 8)) else setL μ (lHe t 1) 0 (lN (ln (fun k => if k + 8 = i then 127 - S.2.2.1 i * allS S i / 100 else if k + 8 < i then barN S (k + 8) else 0) 8))).2.1 (lHe t 3) b = μ.2.1 (lHe t 3) b := by
          split
          · rw [sL_v _ 0 _ (le4ne t 3 0 (by decide))]
          · rw [sL_v _ 0 _ (le4ne t 3 1 (by decide))]
        rw [this, q2]
        congr 1
        refine ln_congr 8 (fun a _ => ?_)
        rw [hloR _ _ hb]
    · obtain ⟨q1, q2⟩ := h.2.2.2.2.2 a ha
      have e1 : ∀ (c : Prop) [Decidable c] (x y : Mem), x.1 = μ.1 → y.1 = μ.1 → (if c then x else y).1 = μ.1 := fun c _ x y hx hy => by split <;> assumption
      constructor
      · rw [sI_v _ 0 _ (he4ne t 4 0 (by decide))]
        refine (congrFun (congrFun (e1 (i < 8) _ _ (by rfl) (by rfl)) (vHe t 4)) a).trans (q1.trans ?_)
        congr 1
        exact sm_congr S.1 (fun b hb => (hloR a b hb).symm)
      · rw [sI_v _ 0 _ (he4ne t 5 0 (by decide))]
        exact (congrFun (congrFun (e1 (i < 8) _ _ (by rfl) (by rfl)) (vHe t 5)) a).trans q2
  · refine HFr.tr ?_ (HFr.I _ 0 _ (Or.inl rfl))
    split
    · exact HFr.L μ 0 _ (Or.inl rfl)
    · exact HFr.L μ 0 _ (Or.inr (Or.inl rfl))

section LR
variable {S : SP} {t : Nat}
theorem learn_in (k72 : Int32 → Mem → Option Mem) {i : Nat} (hi : i < S.1) : ∀ (m j n : Nat) (μ : Mem), j + m = S.1 → m < n → PT S t i j μ → ∃ μ', f_he_learn_b85 t k72 n (nI i) (nI j) μ = k72 (nI (i + 1)) μ' ∧ PT S t (i + 1) 0 μ' ∧ HFr t μ μ' := by
  intro m
  induction m with
  | zero =>
    intro j n μ hj hn h
    have hp := h.1.2.2.2.2.1
    obtain ⟨n, rfl⟩ : ∃ z, n = z + 1 := ⟨n - 1, by omega⟩
    obtain rfl : j = S.1 := by omega
    obtain ⟨μ', h1, h2, h3⟩ := h.row hi
    refine ⟨μ', ?_, h2, h3⟩
    rw [f_he_learn_b85, h.1.1, if_pos ((i_leN (by omega) (by omega)).mpr (by omega)), h1, bd1_s, l_1, i_add]
  | succ m ih =>
    intro j n μ hj hn h
    have hp := h.1.2.2.2.2.1
    obtain ⟨n, rfl⟩ : ∃ z, n = z + 1 := ⟨n - 1, by omega⟩
    obtain ⟨μ', h1, h2, h3⟩ := ih (j + 1) n _ (by omega) (by omega) (h.add hi (by omega))
    refine ⟨μ', ?_, h2, (addM_fr _ _ _ _ _).tr h3⟩
    rw [f_he_learn_b85, h.1.1, if_neg (fun q => absurd ((i_leN (by omega) (by omega)).mp q) (by omega)), inb_n (by omega) (by omega), chk_t, inb_n (by omega) (by omega), chk_t, cl_nI (by omega), cl_nI (by omega), h.1.2.1 i j (by omega) (by omega), he_addLoud t (by omega) (by omega), bd1_s, l_1, i_add]
    exact h1
theorem learn_out : ∀ (m i n : Nat) (μ : Mem), i + m = S.1 → m < n → PT S t i 0 μ → ∃ μ', f_he_learn_b72 t n (nI i) μ = some (setI μ' (vHe t 1) 0 (μ.1 (vSt 0 3) 0)) ∧ PT S t S.1 0 μ' ∧ HFr t μ μ' := by
  intro m
  induction m with
  | zero =>
    intro i n μ hi hn h
    have hp := h.1.2.2.2.2.1
    obtain ⟨n, rfl⟩ : ∃ z, n = z + 1 := ⟨n - 1, by omega⟩
    obtain rfl : i = S.1 := by omega
    refine ⟨μ, ?_, h, HFr.rf _ _⟩
    rw [f_he_learn_b72, h.1.1, if_pos ((i_leN (by omega) (by omega)).mpr (by omega)), bnd_s]
  | succ m ih =>
    intro i n μ hi hn h
    have hp := h.1.2.2.2.2.1
    obtain ⟨n, rfl⟩ : ∃ z, n = z + 1 := ⟨n - 1, by omega⟩
    obtain ⟨μ1, h1, h2, h3⟩ := learn_in (S := S) (t := t) (f_he_learn_b72 t n) (show i < S.1 by omega) S.1 0 FU μ (by omega) (by unfold FU; omega) h
    obtain ⟨μ2, k1, k2, k3⟩ := ih (i + 1) n μ1 (by omega) (by omega) h2
    refine ⟨μ2, ?_, k2, h3.tr k3⟩
    rw [f_he_learn_b72, h.1.1, if_neg (fun q => absurd ((i_leN (by omega) (by omega)).mp q) (by omega)), l_0, h1, k1, h3.1 _ (vSt_He (by omega) t 0) (vSt_He (by omega) t 1) (vSt_He (by omega) t 4) (vSt_He (by omega) t 5)]
/-- the tables wiped as far as i -/
def PZ (S : SP) (t i : Nat) (μ : Mem) : Prop :=
  XB S μ ∧ μ.1 (vHe t 0) 0 = 0 ∧ μ.2.1 (lHe t 0) 0 = 0 ∧ μ.2.1 (lHe t 1) 0 = 0 ∧ ∀ a, a < i → μ.2.1 (lHe t 2) a = 0 ∧ μ.2.1 (lHe t 3) a = 0 ∧ μ.1 (vHe t 4) a = 0 ∧ μ.1 (vHe t 5) a = nI (S.2.2.1 a)
theorem ln_0 (k : Nat) : ln (fun _ => 0) k = 0 := by
  induction k with
  | zero => rfl
  | succ k ih => show ln (fun _ => 0) k + 0 * 256 ^ k = 0; rw [ih]; simp
theorem sm_0 (k : Nat) : sm (fun _ => 0) k = 0 := by
  induction k with
  | zero => rfl
  | succ k ih => rw [sm, ih]
theorem PZ.PT {μ : Mem} (h : PZ S t S.1 μ) : PT S t 0 0 μ := by
  have hz : ∀ a b, loR S 0 0 a b = 0 := fun a b => by unfold loR; simp
  refine ⟨h.1, ?_, ?_, ?_, fun b hb => ?_, fun a ha => ?_⟩
  · rw [h.2.1]; rfl
  · rw [h.2.2.1, show (fun k => if k < 0 then barN S k else 0) = fun _ => 0 from funext fun k => if_neg (by omega), ln_0]; rfl
  · rw [h.2.2.2.1, show (fun k => if k + 8 < 0 then barN S (k + 8) else 0) = fun _ => 0 from funext fun k => if_neg (by omega), ln_0]; rfl
  · obtain ⟨q1, q2, -, -⟩ := h.2.2.2.2 b hb
    rw [q1, q2, show (fun a => if a < S.1 then loR S 0 0 a b else 0) = fun _ => 0 from funext fun a => by rw [hz]; simp, show (fun a => if a + 8 < S.1 then loR S 0 0 (a + 8) b else 0) = fun _ => 0 from funext fun a => by rw [hz]; simp, ln_0]
    exact ⟨rfl, rfl⟩
  · obtain ⟨-, -, q3, q4⟩ := h.2.2.2.2 a ha
    rw [q3, show loR S 0 0 a = fun _ => 0 from funext fun b => hz a b, sm_0]
    exact ⟨rfl, q4⟩
theorem learn_z : ∀ (m i n : Nat) (μ : Mem), i + m = S.1 → m < n → PZ S t i μ → ∃ μ', f_he_learn_b17 t n (nI i) μ = f_he_learn_b72 t FU 0 μ' ∧ PZ S t S.1 μ' ∧ HFr t μ μ' := by
  intro m
  induction m with
  | zero =>
    intro i n μ hi hn h
    have hp := h.1.2.2.2.2.1
    obtain ⟨n, rfl⟩ : ∃ z, n = z + 1 := ⟨n - 1, by omega⟩
    obtain rfl : i = S.1 := by omega
    refine ⟨μ, ?_, h, HFr.rf _ _⟩
    rw [f_he_learn_b17, h.1.1, if_pos ((i_leN (by omega) (by omega)).mpr (by omega))]
  | succ m ih =>
    intro i n μ hi hn h
    have hp := h.1.2.2.2.2.1
    obtain ⟨n, rfl⟩ : ∃ z, n = z + 1 := ⟨n - 1, by omega⟩
    have f1 := HFr.L (t := t) μ i (0 : Int64) (Or.inr (Or.inr (Or.inl rfl)))
    have f2 := f1.tr (HFr.L (t := t) (setL μ (lHe t 2) i 0) i (0 : Int64) (Or.inr (Or.inr (Or.inr rfl))))
    have f3 := f2.tr (HFr.I (t := t) (setL (setL μ (lHe t 2) i 0) (lHe t 3) i 0) i (0 : Int32) (Or.inr (Or.inr (Or.inl rfl))))
    have f4 := f3.tr (HFr.I (t := t) (setI (setL (setL μ (lHe t 2) i 0) (lHe t 3) i 0) (vHe t 4) i 0) i (nI (S.2.2.1 i)) (Or.inr (Or.inr (Or.inr rfl))))
    have hz : PZ S t (i + 1) (setI (setI (setL (setL μ (lHe t 2) i 0) (lHe t 3) i 0) (vHe t 4) i 0) (vHe t 5) i (nI (S.2.2.1 i))) := by
      refine ⟨f4.XB h.1, ?_, ?_, ?_, fun a ha => ?_⟩
      · rw [sI_v _ i _ (he4ne t 0 5 (by decide)), sI_v _ i _ (he4ne t 0 4 (by decide))]
        exact h.2.1
      · show (setL (setL μ (lHe t 2) i 0) (lHe t 3) i 0).2.1 (lHe t 0) 0 = 0
        rw [sL_v _ i _ (le4ne t 0 3 (by decide)), sL_v _ i _ (le4ne t 0 2 (by decide))]
        exact h.2.2.1
      · show (setL (setL μ (lHe t 2) i 0) (lHe t 3) i 0).2.1 (lHe t 1) 0 = 0
        rw [sL_v _ i _ (le4ne t 1 3 (by decide)), sL_v _ i _ (le4ne t 1 2 (by decide))]
        exact h.2.2.2.1
      · show (setL (setL μ (lHe t 2) i 0) (lHe t 3) i 0).2.1 (lHe t 2) a = 0 ∧ (setL (setL μ (lHe t 2) i 0) (lHe t 3) i 0).2.1 (lHe t 3) a = 0 ∧ _
        rw [sL_v _ i _ (le4ne t 2 3 (by decide)), sI_v _ i _ (he4ne t 4 5 (by decide))]
        by_cases e : a = i
        · subst e
          rw [sL_eq, sL_eq, sI_eq, sI_eq]
          exact ⟨rfl, rfl, rfl, rfl⟩
        · obtain ⟨q1, q2, q3, q4⟩ := h.2.2.2.2 a (by omega)
          rw [sL_i _ _ _ e, sL_i _ _ _ e, sI_i _ _ _ e, sI_i _ _ _ e, sL_v _ i _ (le4ne t 3 2 (by decide)), sI_v _ i _ (he4ne t 5 4 (by decide))]
          exact ⟨q1, q2, q3, q4⟩
    obtain ⟨μ', h1, h2, h3⟩ := ih (i + 1) n _ (by omega) (by omega) hz
    refine ⟨μ', ?_, h2, f4.tr h3⟩
    have hn4 := (f3.XB h.1).2.2.1 i (by omega)
    rw [f_he_learn_b17, h.1.1, if_neg (fun q => absurd ((i_leN (by omega) (by omega)).mp q) (by omega)), inb_n (by omega) (by omega), chk_t, cl_nI (by omega), bnd_s, chk_t, bnd_s, chk_t, bnd_s, chk_t, chk_t, hn4, bnd_s, l_1, i_add]
    exact h1
/-- learn(): the tables are the street's -/
theorem he_learn {μ : Mem} (h : XB S μ) : ∃ μ', f_he_learn t μ = some μ' ∧ HT S t μ' ∧ μ'.1 (vHe t 1) 0 = μ.1 (vSt 0 3) 0 ∧ HFr t μ μ' := by
  have hp := h.2.2.2.2.1
  have f1 := HFr.I (t := t) μ 0 (0 : Int32) (Or.inl rfl)
  have f2 := f1.tr (HFr.L (t := t) (setI μ (vHe t 0) 0 0) 0 (0 : Int64) (Or.inl rfl))
  have f3 := f2.tr (HFr.L (t := t) (setL (setI μ (vHe t 0) 0 0) (lHe t 0) 0 0) 0 (0 : Int64) (Or.inr (Or.inl rfl)))
  have hz : PZ S t 0 (setL (setL (setI μ (vHe t 0) 0 0) (lHe t 0) 0 0) (lHe t 1) 0 0) := by
    refine ⟨f3.XB h, ?_, ?_, ?_, fun a ha => absurd ha (by omega)⟩
    · show (setI μ (vHe t 0) 0 0).1 (vHe t 0) 0 = 0
      rw [sI_eq]
    · rw [sL_v _ 0 _ (le4ne t 0 1 (by decide)), sL_eq]
    · rw [sL_eq]
  obtain ⟨μ1, h1, h2, h3⟩ := learn_z S.1 0 FU _ (by omega) (by unfold FU; omega) hz
  obtain ⟨μ2, k1, k2, k3⟩ := learn_out (S := S) (t := t) S.1 0 FU μ1 (by omega) (by unfold FU; omega) h2.PT
  have f9 := (f3.tr h3).tr k3
  refine ⟨setI μ2 (vHe t 1) 0 (μ.1 (vSt 0 3) 0), ?_, ?_, sI_eq _ _ _ _, f9.tr (HFr.I μ2 0 _ (Or.inr (Or.inl rfl)))⟩
  · unfold f_he_learn
    rw [bnd_s, bnd_s, bnd_s]
    refine h1.trans (k1.trans ?_)
    rw [(f3.tr h3).1 _ (vSt_He (by omega) t 0) (vSt_He (by omega) t 1) (vSt_He (by omega) t 4) (vSt_He (by omega) t 5)]
  · have hR : ∀ a b, a < S.1 → loR S S.1 0 a b = S.2.1 a b := fun a b ha => by unfold loR; simp [ha]
    refine ⟨?_, k2.2.2.1, k2.2.2.2.1, fun j hj => ?_, fun i hi => ?_⟩
    · rw [sI_v _ 0 _ (he4ne t 0 1 (by decide))]
      exact k2.2.1
    · obtain ⟨q1, q2⟩ := k2.2.2.2.2.1 j hj
      refine ⟨q1.trans ?_, q2.trans ?_⟩
      · congr 1
        refine ln_congr 8 (fun a _ => ?_)
        unfold loL
        by_cases ha : a < S.1
        · rw [if_pos ha, if_pos ha, hR a j ha]
        · rw [if_neg ha, if_neg ha]
      · congr 1
        refine ln_congr 8 (fun a _ => ?_)
        unfold hiL
        by_cases ha : a + 8 < S.1
        · rw [if_pos ha, if_pos ha, hR _ j ha]
        · rw [if_neg ha, if_neg ha]
    · obtain ⟨q1, q2⟩ := k2.2.2.2.2.2 i hi
      rw [sI_v _ 0 _ (he4ne t 4 1 (by decide)), sI_v _ 0 _ (he4ne t 5 1 (by decide))]
      refine ⟨q1.trans ?_, q2⟩
      congr 1
      exact sm_congr S.1 (fun b _ => hR i b hi)
end LR
