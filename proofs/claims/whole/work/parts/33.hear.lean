/-! The class's DAY: the packed sums. -/
theorem sI_eq (μ : Mem) (v i : Nat) (x : Int32) : (setI μ v i x).1 v i = x := by unfold setI; simp [upd]
theorem sI_i (μ : Mem) (v : Nat) {i j : Nat} (x : Int32) (h : j ≠ i) : (setI μ v i x).1 v j = μ.1 v j := by unfold setI; simp [upd, h]
theorem sI_v (μ : Mem) {v u : Nat} (i : Nat) (x : Int32) (h : u ≠ v) : (setI μ v i x).1 u = μ.1 u := by unfold setI; simp [h]
theorem sI_2 (μ : Mem) (v i : Nat) (x : Int32) : (setI μ v i x).2 = μ.2 := rfl
theorem sL_1 (μ : Mem) (v i : Nat) (x : Int64) : (setL μ v i x).1 = μ.1 := rfl
theorem sL_c (μ : Mem) (v i : Nat) (x : Int64) : (setL μ v i x).2.2 = μ.2.2 := rfl
theorem sL_eq (μ : Mem) (v i : Nat) (x : Int64) : (setL μ v i x).2.1 v i = x := by unfold setL; simp [vp_updL]
theorem sL_i (μ : Mem) (v : Nat) {i j : Nat} (x : Int64) (h : j ≠ i) : (setL μ v i x).2.1 v j = μ.2.1 v j := by unfold setL; simp [vp_updL, h]
theorem sL_v (μ : Mem) {v u : Nat} (i : Nat) (x : Int64) (h : u ≠ v) : (setL μ v i x).2.1 u = μ.2.1 u := by unfold setL; simp [h]
theorem sA_eq (μ : Mem) (v : Nat) (f : Nat → Int32) : (setA μ v f).1 v = f := by unfold setA; simp
theorem sA_v (μ : Mem) {v u : Nat} (f : Nat → Int32) (h : u ≠ v) : (setA μ v f).1 u = μ.1 u := by unfold setA; simp [h]
/-- the class holds the street S -/
def XB (S : SP) (μ : Mem) : Prop :=
  μ.1 (vSt 0 0) 0 = nI S.1 ∧ (∀ i j, i < 14 → j < 14 → μ.1 (vSt 0 (8 + i)) j = nI (S.2.1 i j)) ∧ (∀ i, i < S.1 → μ.1 (vSt 0 4) i = nI (S.2.2.1 i)) ∧ μ.1 (vSt 0 1) 0 = nI S.2.2.2 ∧ SOk S
def barN (S : SP) (i : Nat) : Nat := 127 - S.2.2.1 i * allS S i / 100
def loB (S : SP) : Nat → Nat := fun i => if i < S.1 then barN S i else 0
def hiB (S : SP) : Nat → Nat := fun i => if i + 8 < S.1 then barN S (i + 8) else 0
def loL (S : SP) (j : Nat) : Nat → Nat := fun i => if i < S.1 then S.2.1 i j else 0
def hiL (S : SP) (j : Nat) : Nat → Nat := fun i => if i + 8 < S.1 then S.2.1 (i + 8) j else 0
/-- the tables of a hearing are those of the street S -/
def HT (S : SP) (t : Nat) (μ : Mem) : Prop :=
  μ.1 (vHe t 0) 0 = nI (bs (mvd S) S.1) ∧ μ.2.1 (lHe t 0) 0 = lN (ln (loB S) 8) ∧ μ.2.1 (lHe t 1) 0 = lN (ln (hiB S) 8) ∧
  (∀ j, j < S.1 → μ.2.1 (lHe t 2) j = lN (ln (loL S j) 8) ∧ μ.2.1 (lHe t 3) j = lN (ln (hiL S j) 8)) ∧ ∀ i, i < S.1 → μ.1 (vHe t 4) i = nI (allS S i) ∧ μ.1 (vHe t 5) i = nI (S.2.2.1 i)
/-- what is heard of the first i -/
def hrP (S : SP) (k s i : Nat) : Nat := sm (fun o => bN (s.testBit o) * S.2.1 k o) i
theorem hrP_le {S : SP} (h : SOk S) (k s : Nat) {i : Nat} (hi : i ≤ 14) : hrP S k s i ≤ 126 := by
  have : hrP S k s i ≤ i * 9 := sm_le i (fun o _ => by
    have := bN_lt (s.testBit o)
    have := h.2.1 k o
    calc bN (s.testBit o) * S.2.1 k o ≤ 1 * 9 := Nat.mul_le_mul (by omega) (by omega)
      _ = 9 := rfl)
  omega
def loF (S : SP) (s i : Nat) : Nat → Nat := fun k => if k < S.1 then barN S k + hrP S k s i else 0
def hiF (S : SP) (s i : Nat) : Nat → Nat := fun k => if k + 8 < S.1 then barN S (k + 8) + hrP S (k + 8) s i else 0
theorem bar_le (S : SP) (k : Nat) : barN S k ≤ 127 := by unfold barN; omega
theorem loF_lt {S : SP} (h : SOk S) (s : Nat) {i : Nat} (hi : i ≤ 14) (k : Nat) : loF S s i k < 256 := by
  have := bar_le S k
  have := hrP_le h k s hi
  unfold loF
  split <;> omega
theorem hiF_lt {S : SP} (h : SOk S) (s : Nat) {i : Nat} (hi : i ≤ 14) (k : Nat) : hiF S s i k < 256 := by
  have := bar_le S (k + 8)
  have := hrP_le h (k + 8) s hi
  unfold hiF
  split <;> omega
theorem bar_iff {S : SP} (h : SOk S) {i : Nat} (hi : i < S.1) (s : Nat) : 128 ≤ barN S i + hrd S i s ↔ S.2.2.1 i * allS S i < 100 * hrd S i s := by
  have h1 := h.2.2.1 i hi
  have h2 := allS_le h i
  have h3 : S.2.2.1 i * allS S i ≤ 99 * 126 := Nat.mul_le_mul h1 h2
  unfold barN
  omega
section HN
variable {S : SP} {μ : Mem} {t : Nat}
theorem he_next_loop (h : XB S μ) (hT : HT S t μ) {s : Nat} (hs : s < 2 ^ S.1) : ∀ (m i n : Nat), i + m = S.1 → m < n → f_he_next_b14 t n (nI s) (lN (ln (loF S s i) 8)) (lN (ln (hiF S s i) 8)) (nI i) μ = some (nI (nxt S s), μ) := by
  have hp := h.2.2.2.2.1
  have hs9 := p2_31 hp hs
  have hO := h.2.2.2.2
  intro m
  induction m with
  | zero =>
    intro i n hi hn
    obtain ⟨n, rfl⟩ : ∃ z, n = z + 1 := ⟨n - 1, by omega⟩
    obtain rfl : i = S.1 := by omega
    rw [f_he_next_b14, h.1, if_pos ((i_leN (by omega) (by omega)).mpr (by omega)), highest_ln (fun k _ => loF_lt hO s hp k), bd2_s, highest_ln (fun k _ => hiF_lt hO s hp k), bd2_s, hT.1]
    have hA := bs_lt (fun k => decide (128 ≤ loF S s S.1 k)) 8
    have hB := bs_lt (fun k => decide (128 ≤ hiF S s S.1 k)) 8
    rw [show ((8 : Int32) &&& 31) = (nI 8 &&& 31) from rfl, i_shl (by omega) (by omega), i_or, bnd_s, i_and, i_wo, i_or]
    congr 3
    apply nat_ext
    intro q
    unfold nxt
    rw [Nat.testBit_or, Nat.testBit_and, Nat.testBit_or, wo_tb, bs_tb, bs_tb, bs_tb, Nat.testBit_mul_two_pow, bs_tb]
    by_cases hq : q < S.1
    · unfold wld
      cases hm : mvd S q with
      | false => simp [hq]
      | true =>
        have hd : decide (S.2.2.1 q * allS S q < 100 * hrd S q s) = decide (128 ≤ barN S q + hrd S q s) := decide_eq_decide.mpr (bar_iff hO hq s).symm
        rw [hd]
        by_cases h8 : q < 8
        · have : loF S s S.1 q = barN S q + hrd S q s := by unfold loF; rw [if_pos hq]; rfl
          rw [this]
          have : ¬ 8 ≤ q := by omega
          simp [hq, h8, this]
        · have : hiF S s S.1 (q - 8) = barN S q + hrd S q s := by
            unfold hiF
            rw [if_pos (by omega), show q - 8 + 8 = q by omega]
            rfl
          rw [this]
          have h9 : 8 ≤ q := by omega
          have h10 : q - 8 < 8 := by omega
          simp [hq, h8, h9, h10]
    · have : s.testBit q = false := tb_lt hs (by omega)
      simp [hq, this]
  | succ m ih =>
    intro i n hi hn
    obtain ⟨n, rfl⟩ : ∃ z, n = z + 1 := ⟨n - 1, by omega⟩
    have key := ih (i + 1) n (by omega) (by omega)
    have hstep : ∀ k, hrP S k s (i + 1) = hrP S k s i + bN (s.testBit i) * S.2.1 k i := fun k => rfl
    rw [f_he_next_b14, h.1, if_neg (fun q => absurd ((i_leN (by omega) (by omega)).mp q) (by omega))]
    cases hb : s.testBit i with
    | false =>
      rw [if_pos ((i_bit0 hs9 (by omega)).mpr hb), l_1, i_add]
      have e1 : loF S s (i + 1) = loF S s i := by
        funext k
        unfold loF
        rw [hstep, hb]
        simp [bN]
      have e2 : hiF S s (i + 1) = hiF S s i := by
        funext k
        unfold hiF
        rw [hstep, hb]
        simp [bN]
      rw [e1, e2] at key
      exact key
    | true =>
      rw [if_neg (fun q => by rw [i_bit0 hs9 (by omega), hb] at q; cases q), inb_n (by omega) (by omega), chk_t, cl_nI (by omega), (hT.2.2.2.1 i (by omega)).1, (hT.2.2.2.1 i (by omega)).2, lN_add, lN_add, bnd_s, chk_t, bnd_s, l_1, i_add, ln_add, ln_add]
      have e1 : loF S s (i + 1) = fun k => loF S s i k + loL S i k := by
        funext k
        unfold loF loL
        rw [hstep, hb]
        by_cases hk : k < S.1
        · simp [hk, bN]; omega
        · simp [hk]
      have e2 : hiF S s (i + 1) = fun k => hiF S s i k + hiL S i k := by
        funext k
        unfold hiF hiL
        rw [hstep, hb]
        by_cases hk : k + 8 < S.1
        · simp [hk, bN]; omega
        · simp [hk]
      rw [e1, e2] at key
      exact key
theorem he_next (h : XB S μ) (hT : HT S t μ) {s : Nat} (hs : s < 2 ^ S.1) : f_he_next t (nI s) μ = some (nI (nxt S s), μ) := by
  unfold f_he_next
  rw [hT.2.1, hT.2.2.1]
  have e1 : loB S = loF S s 0 := by funext k; unfold loB loF hrP; rw [sm]; rfl
  have e2 : hiB S = hiF S s 0 := by funext k; unfold hiB hiF hrP; rw [sm]; rfl
  rw [e1, e2]
  exact he_next_loop h hT hs S.1 0 FU (by omega) (by have := h.2.2.2.2.1; unfold FU; omega)
end HN
