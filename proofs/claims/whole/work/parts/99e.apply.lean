/-! street: the reference clears and tells. -/
def LO (lo : Nat → Nat → Nat) (μ : Mem) : Prop := ∀ i j, i < 14 → j < 14 → μ.1 v_m_loud (14 * i + j) = nI (lo i j)
def F37 (μ μ' : Mem) : Prop := (∀ v, v ≠ 137 → μ'.1 v = μ.1 v) ∧ μ'.2 = μ.2
theorem F37.rf (μ : Mem) : F37 μ μ := ⟨fun _ _ => rfl, rfl⟩
theorem F37.tr {a b c : Mem} (h : F37 a b) (k : F37 b c) : F37 a c := ⟨fun v hv => (k.1 v hv).trans (h.1 v hv), k.2.trans h.2⟩
theorem F37.I (μ : Mem) (i : Nat) (x : Int32) : F37 μ (setI μ v_m_loud i x) := ⟨fun v hv => sI_v _ _ _ hv, rfl⟩
section RMc
variable {μ : Mem} {lo : Nat → Nat → Nat}
theorem LO.up {i j v : Nat} (h : LO lo μ) (hi : i < 14) (hj : j < 14) : LO (up2 lo i j v) (setI μ v_m_loud (14 * i + j) (nI v)) := fun k l hk hl => by
  by_cases c : k = i ∧ l = j
  · rw [c.1, c.2, sI_eq, up2_eq]
  · rw [sI_i _ _ _ (show 14 * k + l ≠ 14 * i + j by omega), up2_ne _ _ c]; exact h k l hk hl
theorem LO.zero {i j : Nat} (h : LO lo μ) (hi : i < 14) (hj : j < 14) (hz : lo i j = 0) : LO lo (setI μ v_m_loud (14 * i + j) 0) := fun k l hk hl => by
  by_cases c : k = i ∧ l = j
  · rw [c.1, c.2, sI_eq, hz]; rfl
  · rw [sI_i _ _ _ (show 14 * k + l ≠ 14 * i + j by omega)]; exact h k l hk hl
theorem m_clr_in {p P i : Nat} (hP : P ≤ 14) (hi : i < P) (hz : zOut p lo) (K : Int32 → Int32 → Int32 → Int32 → Int32 → Int32 → Mem → Option (Int32 × Mem)) (x2 x3 x4 x5 : Int32) : ∀ m j g (μ : Mem), j + m = P → m < g → μ.1 v_m_people 0 = nI p → p ≤ 14 → LO lo μ → ∃ μ', f_m_street_b277 K g (nI P) x2 x3 x4 x5 (nI i) (nI j) μ = K (nI P) x2 x3 x4 x5 (nI (i + 1)) μ' ∧ LO lo μ' ∧ F37 μ μ'
  | 0, j, g + 1, μ, hj, _, hp, hp14, h => by
    refine ⟨μ, ?_, h, F37.rf _⟩
    rw [f_m_street_b277, if_pos ((i_leN (by omega) (by omega)).mpr (by omega)), l_1, i_add]
  | m + 1, j, g + 1, μ, hj, hg, hp, hp14, h => by
    have clr : (p ≤ i ∨ p ≤ j) → ∃ μ', f_m_street_b301 K (f_m_street_b277 K g) (nI P) x2 x3 x4 x5 (nI i) (nI j) μ = K (nI P) x2 x3 x4 x5 (nI (i + 1)) μ' ∧ LO lo μ' ∧ F37 μ μ' := fun hc => by
      have h1 := h.zero (i := i) (j := j) (by omega) (by omega) (hz i j hc)
      obtain ⟨μ', q1, q2, q3⟩ := m_clr_in hP hi hz K x2 x3 x4 x5 m (j + 1) g (setI μ v_m_loud (14 * i + j) 0) (by omega) (by omega) (by rw [sI_v _ _ _ (by decide)]; exact hp) hp14 h1
      refine ⟨μ', ?_, q2, (F37.I _ _ _).tr q3⟩
      unfold f_m_street_b301
      rw [show (14 : Int32) * nI i + nI j = nI (14 * i + j) by rw [show (14 : Int32) = nI 14 from rfl, i_mul, i_add], inb_n (by omega) (by omega), chk_t, cl_nI (by omega), bnd_s, l_1, i_add]
      exact q1
    rw [f_m_street_b277, if_neg (fun q => absurd ((i_leN (by omega) (by omega)).mp q) (by omega)), hp]
    by_cases c1 : p ≤ i
    · rw [if_pos ((i_leN (by omega) (by omega)).mpr c1)]
      exact clr (Or.inl c1)
    · rw [if_neg (fun q => c1 ((i_leN (by omega) (by omega)).mp q))]
      by_cases c2 : j < p
      · rw [if_pos ((i_ltN (by omega) (by omega)).mpr c2), l_1, i_add]
        exact m_clr_in hP hi hz K x2 x3 x4 x5 m (j + 1) g μ (by omega) (by omega) hp hp14 h
      · rw [if_neg (fun q => c2 ((i_ltN (by omega) (by omega)).mp q))]
        exact clr (Or.inr (by omega))
theorem m_clr {p P : Nat} (hP : P ≤ 14) (hz : zOut p lo) (x2 x3 x4 x5 : Int32) : ∀ m i g (μ : Mem), i + m = P → m < g → μ.1 v_m_people 0 = nI p → p ≤ 14 → LO lo μ → ∃ μ' g', f_m_street_b268 g (nI P) x2 x3 x4 x5 (nI i) μ = f_m_street_b268 (g' + 1) (nI P) x2 x3 x4 x5 (nI P) μ' ∧ LO lo μ' ∧ F37 μ μ'
  | 0, i, g + 1, μ, hi, _, hp, hp14, h => by
    refine ⟨μ, g, ?_, h, F37.rf _⟩
    rw [show i = P by omega]
  | m + 1, i, g + 1, μ, hi, hg, hp, hp14, h => by
    obtain ⟨μ1, a1, a2, a3⟩ := m_clr_in hP (show i < P by omega) hz (f_m_street_b268 g) x2 x3 x4 x5 P 0 FU μ (by omega) (by unfold FU; omega) hp hp14 h
    obtain ⟨μ', g', q1, q2, q3⟩ := m_clr hP hz x2 x3 x4 x5 m (i + 1) g μ1 (by omega) (by omega) (by rw [a3.1 _ (by decide)]; exact hp) hp14 a2
    refine ⟨μ', g', ?_, q2, a3.tr q3⟩
    rw [f_m_street_b268, if_neg (fun q => absurd ((i_leN (by omega) (by omega)).mp q) (by omega))]
    exact a1.trans q1
theorem m_apply {q : List (Nat × Bool × Nat × Nat)} (hq : q.length < 79) (hb : ∀ x ∈ q, x.1 < 14 ∧ x.2.2.1 < 14) (x4 : Int32) : ∀ m j g (lo : Nat → Nat → Nat) (μ : Mem), j + m = q.length → m < g → LnK q μ → LO lo μ → ∃ μ', f_m_street_b362 g x4 (nI q.length) (nI j) μ = some (x4, μ') ∧ LO ((q.drop j).foldl qst lo) μ' ∧ F37 μ μ'
  | 0, j, g + 1, lo, μ, hj, _, hQ, h => by
    have e : q.drop j = [] := List.drop_eq_nil_of_le (by omega)
    refine ⟨μ, ?_, by rw [e]; exact h, F37.rf _⟩
    rw [f_m_street_b362, if_pos ((i_leN (by omega) (by omega)).mpr (by omega))]
  | m + 1, j, g + 1, lo, μ, hj, hg, hQ, h => by
    have hjq : j < q.length := by omega
    have e : q.drop j = q.getD j (0, false, 0, 0) :: q.drop (j + 1) := by
      rw [List.drop_eq_getElem_cons hjq, List.getD_eq_getElem?_getD, List.getElem?_eq_getElem hjq]; rfl
    have hm : q.getD j (0, false, 0, 0) ∈ q := by
      rw [List.getD_eq_getElem?_getD, List.getElem?_eq_getElem hjq]; exact List.getElem_mem hjq
    obtain ⟨b1, b2⟩ := hb _ hm
    obtain ⟨l1, l2, l3, l4⟩ := hQ j hjq
    rw [e]
    generalize q.getD j (0, false, 0, 0) = y at *
    obtain ⟨o, bo, w, v⟩ := y
    have b1' : o < 14 := b1
    have b2' : w < 14 := b2
    have n1 : (setI μ v_m_loud (14 * w + o) (nI v)).1 v_m_line = μ.1 v_m_line := sI_v _ _ _ (by decide)
    have h1 := h.up (v := v) b2' b1'
    have e4 : ∀ z, (4 : Int32) * nI j = nI (4 * j) ∧ nI (4 * j) + nI z = nI (4 * j + z) := fun z => ⟨i_mul 4 j, i_add _ _⟩
    have e1 : f_m_street_b362 (g + 1) x4 (nI q.length) (nI j) μ = (if nI (bN bo) = (1 : Int32) then (bnd (setI (setI μ v_m_loud (14 * w + o) (nI v)) v_m_loud (14 * o + w) (nI v)) fun μ35 => f_m_street_b362 g x4 (nI q.length) (nI (j + 1)) μ35) else (f_m_street_b362 g x4 (nI q.length) (nI (j + 1)) (setI μ v_m_loud (14 * w + o) (nI v)))) := by
      rw [f_m_street_b362, if_neg (fun z => absurd ((i_leN (by omega) (by omega)).mp z) (by omega)), (e4 0).1, show nI (4 * j) + (1 : Int32) = nI (4 * j + 1) from i_add _ 1, show nI (4 * j) + (2 : Int32) = nI (4 * j + 2) from i_add _ 2, show nI (4 * j) + (3 : Int32) = nI (4 * j + 3) from i_add _ 3, inb_n (by omega) (by omega), chk_t, cl_nI (by omega), l1, bnd_s, inb_n (by omega) (by omega), chk_t, cl_nI (by omega), l2, bnd_s, inb_n (by omega) (by omega), chk_t, cl_nI (by omega), l3]
      rw [show (14 : Int32) * nI w + nI o = nI (14 * w + o) by rw [show (14 : Int32) = nI 14 from rfl, i_mul, i_add], inb_n (by omega) (by omega), chk_t, cl_nI (by omega), bnd_s, inb_n (by omega) (by omega), chk_t, cl_nI (by omega), n1, l4, l3, chk_t, show (14 : Int32) * nI o + nI w = nI (14 * o + w) by rw [show (14 : Int32) = nI 14 from rfl, i_mul, i_add], inb_n (by omega) (by omega), chk_t, cl_nI (by omega), l_1, i_add]
    rw [e1]
    cases bo with
    | false =>
      obtain ⟨μ', q1, q2, q3⟩ := m_apply hq hb x4 m (j + 1) g (up2 lo w o v) _ (by omega) (by omega) (hQ.of n1) h1
      refine ⟨μ', ?_, q2, (F37.I _ _ _).tr q3⟩
      rw [if_neg (show ¬ nI (bN false) = (1 : Int32) by decide), q1]
    | true =>
      have h2 := h1.up (v := v) b1' b2'
      have n2 : (setI (setI μ v_m_loud (14 * w + o) (nI v)) v_m_loud (14 * o + w) (nI v)).1 v_m_line = μ.1 v_m_line := (sI_v _ _ _ (by decide)).trans n1
      obtain ⟨μ', q1, q2, q3⟩ := m_apply hq hb x4 m (j + 1) g (up2 (up2 lo w o v) o w v) _ (by omega) (by omega) (hQ.of n2) h2
      refine ⟨μ', ?_, q2, ((F37.I _ _ _).tr (F37.I _ _ _)).tr q3⟩
      rw [if_pos (show nI (bN true) = (1 : Int32) by decide), bnd_s, q1]
end RMc
