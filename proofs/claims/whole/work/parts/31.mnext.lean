/-! The reference's DAY: what its functions answer, over a street (people, how loud, needs, firm). -/
abbrev SP : Type := Nat × (Nat → Nat → Nat) × (Nat → Nat) × Nat
def SOk (S : SP) : Prop := S.1 ≤ 14 ∧ (∀ i j, S.2.1 i j ≤ 9) ∧ (∀ i, i < S.1 → S.2.2.1 i ≤ 99) ∧ S.2.2.2 < 2 ^ S.1
def allS (S : SP) (i : Nat) : Nat := sm (fun o => S.2.1 i o) S.1
def byS (S : SP) (i : Nat) : Nat := sm (fun o => S.2.1 o i) S.1
def hrd (S : SP) (i s : Nat) : Nat := sm (fun o => bN (s.testBit o) * S.2.1 i o) S.1
def mvd (S : SP) (i : Nat) : Bool := !S.2.2.2.testBit i && decide (0 < allS S i)
def wld (S : SP) (i s : Nat) : Bool := if mvd S i then decide (S.2.2.1 i * allS S i < 100 * hrd S i s) else s.testBit i
def nxt (S : SP) (s : Nat) : Nat := bs (fun i => wld S i s) S.1
theorem allS_le {S : SP} (h : SOk S) (i : Nat) : allS S i ≤ 126 := by
  have := sm_le (f := fun o => S.2.1 i o) (c := 9) S.1 (fun o _ => h.2.1 i o)
  have := h.1
  unfold allS
  omega
theorem byS_le {S : SP} (h : SOk S) (i : Nat) : byS S i ≤ 126 := by
  have := sm_le (f := fun o => S.2.1 o i) (c := 9) S.1 (fun o _ => h.2.1 o i)
  have := h.1
  unfold byS
  omega
theorem hrd_le {S : SP} (i s : Nat) : hrd S i s ≤ allS S i := by
  refine sm_mono _ (fun o _ => ?_)
  have := bN_lt (s.testBit o)
  calc bN (s.testBit o) * S.2.1 i o ≤ 1 * S.2.1 i o := Nat.mul_le_mul_right _ this
    _ = S.2.1 i o := Nat.one_mul _
theorem nxt_lt (S : SP) (s : Nat) : nxt S s < 2 ^ S.1 := bs_lt _ _
/-- the reference holds the street S -/
def MB (S : SP) (μ : Mem) : Prop :=
  μ.1 v_m_people 0 = nI S.1 ∧ (∀ i j, i < 14 → j < 14 → μ.1 v_m_loud (14 * i + j) = nI (S.2.1 i j)) ∧ (∀ i, i < S.1 → μ.1 v_m_need i = nI (S.2.2.1 i)) ∧ μ.1 v_m_firm 0 = nI S.2.2.2 ∧ SOk S
theorem m_in (v a b : Int32) (μ : Mem) : f_m_in v a b μ = some (if a ≤ v ∧ v ≤ b then 1 else 0, μ) := by
  unfold f_m_in
  by_cases h1 : v < a
  · rw [if_pos h1, if_neg (fun q => absurd q.1 (by rw [i_le]; rw [i_lt] at h1; omega)), bnd_s, zb_0, chk_t]
  · rw [if_neg h1]
    have h1' : a ≤ v := by rw [i_le]; rw [i_lt] at h1; omega
    by_cases h2 : b < v
    · rw [if_pos h2, if_neg (fun q => absurd q.2 (by rw [i_le]; rw [i_lt] at h2; omega)), bnd_s, zb_0, chk_t]
    · have h2' : v ≤ b := by rw [i_le]; rw [i_lt] at h2; omega
      rw [if_neg h2, if_pos ⟨h1', h2'⟩, bnd_s, zb_1, chk_t]
theorem m_has {s k : Nat} (hs : s < 2 ^ 31) (hk : k < 32) (μ : Mem) : f_m_has (nI s) (nI k) μ = some (nI (bN (s.testBit k)), μ) := by
  unfold f_m_has
  have e : decide (((nI s >>> (nI k &&& 31)) &&& (1 : Int32)) = (1 : Int32)) = s.testBit k := by
    rw [Bool.eq_iff_iff, decide_eq_true_iff]
    exact i_bit1 hs hk
  rw [b_if, bnd_s, e, zb_b, chk_t]
section MN
variable {S : SP} {μ : Mem}
theorem m_everybody (h : MB S μ) : f_m_everybody μ = some (nI (2 ^ S.1 - 1), μ) := by
  unfold f_m_everybody
  rw [h.1, i_ev h.2.2.2.2.1]
theorem m_allOf_loop (h : MB S μ) {i : Nat} (hi : i < 14) : ∀ (m o n : Nat), o + m = S.1 → m < n → f_m_allOf_b4 n (nI i) (nI (sm (fun o => S.2.1 i o) o)) (nI o) μ = some (nI (allS S i), μ) := by
  have hp := h.2.2.2.2.1
  intro m
  induction m with
  | zero =>
    intro o n ho hn
    obtain ⟨n, rfl⟩ : ∃ z, n = z + 1 := ⟨n - 1, by omega⟩
    rw [f_m_allOf_b4, h.1, if_pos ((i_leN (by omega) (by omega)).mpr (by omega))]
    rw [show o = S.1 by omega]
    rfl
  | succ m ih =>
    intro o n ho hn
    obtain ⟨n, rfl⟩ : ∃ z, n = z + 1 := ⟨n - 1, by omega⟩
    rw [f_m_allOf_b4, h.1, if_neg (fun q => absurd ((i_leN (by omega) (by omega)).mp q) (by omega)), l_14, i_mul, i_add, inb_n (by omega) (by omega), chk_t, cl_nI (by omega), h.2.1 i o (by omega) (by omega), i_add, bnd_s, l_1, i_add]
    exact ih (o + 1) n (by omega) (by omega)
theorem m_allOf (h : MB S μ) {i : Nat} (hi : i < 14) : f_m_allOf (nI i) μ = some (nI (allS S i), μ) :=
  m_allOf_loop h hi S.1 0 FU (by omega) (by have := h.2.2.2.2.1; unfold FU; omega)
theorem m_heardBy_loop (h : MB S μ) {i : Nat} (hi : i < 14) : ∀ (m o n : Nat), o + m = S.1 → m < n → f_m_heardBy_b4 n (nI i) (nI (sm (fun o => S.2.1 o i) o)) (nI o) μ = some (nI (byS S i), μ) := by
  have hp := h.2.2.2.2.1
  intro m
  induction m with
  | zero =>
    intro o n ho hn
    obtain ⟨n, rfl⟩ : ∃ z, n = z + 1 := ⟨n - 1, by omega⟩
    rw [f_m_heardBy_b4, h.1, if_pos ((i_leN (by omega) (by omega)).mpr (by omega))]
    rw [show o = S.1 by omega]
    rfl
  | succ m ih =>
    intro o n ho hn
    obtain ⟨n, rfl⟩ : ∃ z, n = z + 1 := ⟨n - 1, by omega⟩
    rw [f_m_heardBy_b4, h.1, if_neg (fun q => absurd ((i_leN (by omega) (by omega)).mp q) (by omega)), l_14, i_mul, i_add, inb_n (by omega) (by omega), chk_t, cl_nI (by omega), h.2.1 o i (by omega) (by omega), i_add, bnd_s, l_1, i_add]
    exact ih (o + 1) n (by omega) (by omega)
theorem m_heardBy (h : MB S μ) {i : Nat} (hi : i < 14) : f_m_heardBy (nI i) μ = some (nI (byS S i), μ) :=
  m_heardBy_loop h hi S.1 0 FU (by omega) (by have := h.2.2.2.2.1; unfold FU; omega)
theorem m_isMoved (h : MB S μ) {i : Nat} (hi : i < 14) : f_m_isMoved (nI i) μ = some (nI (bN (mvd S i)), μ) := by
  have hp := h.2.2.2.2.1
  have hf := h.2.2.2.2.2.2.2
  have ha := allS_le h.2.2.2.2 i
  unfold f_m_isMoved
  rw [h.2.2.2.1, m_has (p2_31 hp hf) (by omega), bd2_s]
  cases hb : S.2.2.2.testBit i with
  | true =>
    rw [if_neg (show ¬ nI (bN true) = 0 by decide), zb_0, chk_t]
    unfold mvd
    rw [hb]
    rfl
  | false =>
    rw [if_pos (show nI (bN false) = 0 by decide), m_allOf h hi, bd2_s, b_ifn, bnd_s, zb_b, chk_t]
    have e : decide (¬ nI (allS S i) ≤ 0) = decide (0 < allS S i) := by
      refine decide_eq_decide.mpr ?_
      rw [l_0, i_leN (by omega) (by omega), Nat.not_le]
    rw [e]
    unfold mvd
    rw [hb]
    rfl
theorem m_would_loop (h : MB S μ) {i s : Nat} (hi : i < S.1) (hs : s < 2 ^ 31) : ∀ (m o n : Nat), o + m = S.1 → m < n → f_m_wouldBelieve_b19 n (nI i) (nI s) (nI (sm (fun o => bN (s.testBit o) * S.2.1 i o) o)) (nI o) μ = some (nI (bN (decide (S.2.2.1 i * allS S i < 100 * hrd S i s))), μ) := by
  have hp := h.2.2.2.2.1
  have ha := allS_le h.2.2.2.2 i
  have hr := hrd_le (S := S) i s
  have hn9 := h.2.2.2.2.2.2.1 i hi
  intro m
  induction m with
  | zero =>
    intro o n ho hn
    obtain ⟨n, rfl⟩ : ∃ z, n = z + 1 := ⟨n - 1, by omega⟩
    rw [f_m_wouldBelieve_b19, h.1, if_pos ((i_leN (by omega) (by omega)).mpr (by omega)), inb_n (by omega) (by omega), chk_t, m_allOf h (by omega), bd2_s, cl_nI (by omega), h.2.2.1 i hi]
    rw [show o = S.1 by omega]
    have hm : S.2.2.1 i * allS S i ≤ 99 * 126 := Nat.mul_le_mul hn9 ha
    have e : decide (¬ (100 : Int32) * nI (sm (fun o => bN (s.testBit o) * S.2.1 i o) S.1) ≤ nI (S.2.2.1 i) * nI (allS S i)) = decide (S.2.2.1 i * allS S i < 100 * hrd S i s) := by
      refine decide_eq_decide.mpr ?_
      rw [l_100, i_mul, i_mul, i_leN (by unfold hrd at hr; omega) (by omega), Nat.not_le]
      exact Iff.rfl
    rw [b_ifn, bnd_s, zb_b, chk_t, e]
  | succ m ih =>
    intro o n ho hn
    obtain ⟨n, rfl⟩ : ∃ z, n = z + 1 := ⟨n - 1, by omega⟩
    rw [f_m_wouldBelieve_b19, h.1, if_neg (fun q => absurd ((i_leN (by omega) (by omega)).mp q) (by omega)), m_has hs (by omega), bd2_s]
    have hstep : ∀ q, f_m_wouldBelieve_b54 (f_m_wouldBelieve_b19 n) (nI i) (nI s) (nI o) (nI (sm (fun o => bN (s.testBit o) * S.2.1 i o) o)) (nI q) μ = f_m_wouldBelieve_b19 n (nI i) (nI s) (nI (sm (fun o => bN (s.testBit o) * S.2.1 i o) o + q)) (nI (o + 1)) μ := by
      intro q
      unfold f_m_wouldBelieve_b54
      rw [i_add, l_1, i_add]
    have key := ih (o + 1) n (by omega) (by omega)
    rw [sm] at key
    cases hb : s.testBit o with
    | true =>
      rw [if_neg (show ¬ nI (bN true) = 0 by decide), l_14, i_mul, i_add, inb_n (by omega) (by omega), chk_t, cl_nI (by omega), h.2.1 i o (by omega) (by omega), hstep]
      rw [hb, show bN true = 1 from rfl, Nat.one_mul] at key
      exact key
    | false =>
      rw [if_pos (show nI (bN false) = 0 by decide), l_0, hstep]
      rw [hb, show bN false = 0 from rfl, Nat.zero_mul] at key
      exact key
theorem m_would (h : MB S μ) {i s : Nat} (hi : i < S.1) (hs : s < 2 ^ S.1) : f_m_wouldBelieve (nI i) (nI s) μ = some (nI (bN (wld S i s)), μ) := by
  have hp := h.2.2.2.2.1
  have hs9 := p2_31 hp hs
  unfold f_m_wouldBelieve
  rw [m_isMoved h (by omega), bd2_s]
  unfold wld
  cases hb : mvd S i with
  | true =>
    rw [if_neg (show ¬ nI (bN true) = 0 by decide), if_pos rfl]
    exact m_would_loop h hi hs9 S.1 0 FU (by omega) (by unfold FU; omega)
  | false =>
    rw [if_pos (show nI (bN false) = 0 by decide), m_has hs9 (by omega), bd2_s, zb_b, chk_t, if_neg (by decide)]
theorem m_next_loop (h : MB S μ) {s : Nat} (hs : s < 2 ^ S.1) : ∀ (m i n : Nat), i + m = S.1 → m < n → f_m_next_b4 n (nI s) (nI (bs (fun i => wld S i s) i)) (nI i) μ = some (nI (nxt S s), μ) := by
  have hp := h.2.2.2.2.1
  intro m
  induction m with
  | zero =>
    intro i n hi hn
    obtain ⟨n, rfl⟩ : ∃ z, n = z + 1 := ⟨n - 1, by omega⟩
    rw [f_m_next_b4, h.1, if_pos ((i_leN (by omega) (by omega)).mpr (by omega)), show i = S.1 by omega]
    rfl
  | succ m ih =>
    intro i n hi hn
    obtain ⟨n, rfl⟩ : ∃ z, n = z + 1 := ⟨n - 1, by omega⟩
    rw [f_m_next_b4, h.1, if_neg (fun q => absurd ((i_leN (by omega) (by omega)).mp q) (by omega)), m_would h (by omega) hs, bd2_s]
    have key := ih (i + 1) n (by omega) (by omega)
    rw [bs] at key
    have e : (if nI (bN (wld S i s)) = 0 then (0 : Int32) else (1 : Int32) <<< (nI i &&& 31)) = nI (if wld S i s then 2 ^ i else 0) := by
      cases wld S i s with
      | true => rw [if_neg (by decide), i_one (by omega), if_pos rfl]
      | false => rw [if_pos (by decide)]; rfl
    rw [e, bnd_s, i_or, l_1, i_add]
    exact key
theorem m_next (h : MB S μ) {s : Nat} (hs : s < 2 ^ S.1) : f_m_next (nI s) μ = some (nI (nxt S s), μ) :=
  m_next_loop h hs S.1 0 FU (by omega) (by have := h.2.2.2.2.1; unfold FU; omega)
end MN
