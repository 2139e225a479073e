/-! What a rule object says of its facts. -/
def VF (t : Nat) (μ μ' : Mem) : Prop := (∀ v, v ≠ vRu t 1 → v ≠ vRu t 3 → μ'.1 v = μ.1 v) ∧ μ'.2 = μ.2
theorem VF.rf (t : Nat) (μ : Mem) : VF t μ μ := ⟨fun _ _ _ => rfl, rfl⟩
theorem VF.tr {t : Nat} {a b c : Mem} (h : VF t a b) (k : VF t b c) : VF t a c := ⟨fun v h1 h2 => (k.1 v h1 h2).trans (h.1 v h1 h2), k.2.trans h.2⟩
def Sk (t : Nat) : List Int32 → Mem → Prop
  | [], _ => True
  | v :: s, μ => μ.1 (vRu t 3) s.length = v ∧ Sk t s μ
def SK (t : Nat) (s : List Int32) (μ : Mem) : Prop := s.length ≤ 40 ∧ μ.1 (vRu t 1) 0 = nI s.length ∧ Sk t s μ
section RV
variable {t : Nat} {μ : Mem}
theorem Sk.of {μ' : Mem} (e : μ'.1 (vRu t 3) = μ.1 (vRu t 3)) : ∀ s, Sk t s μ → Sk t s μ'
  | [], _ => trivial
  | v :: s, h => ⟨by rw [e]; exact h.1, Sk.of e s h.2⟩
theorem Sk.set {k : Nat} (x : Int32) : ∀ s, Sk t s μ → s.length ≤ k → Sk t s (setI μ (vRu t 3) k x)
  | [], _, _ => trivial
  | v :: s, h, hk => by
    have hk' : s.length + 1 ≤ k := hk
    exact ⟨by rw [sI_i _ _ _ (show s.length ≠ k by omega)]; exact h.1, Sk.set x s h.2 (by omega)⟩
theorem v13 : vRu t 1 ≠ vRu t 3 := by show 81 + 4 * t + 1 ≠ 81 + 4 * t + 3; omega
theorem ru_push {s : List Int32} (h : SK t s μ) (hs : s.length < 40) (x : Int32) : ∃ μ', f_ru_push t x μ = some μ' ∧ SK t (x :: s) μ' ∧ VF t μ μ' := by
  refine ⟨setI (setI μ (vRu t 1) 0 (nI (s.length + 1))) (vRu t 3) s.length x, ?_, ⟨by show s.length + 1 ≤ 40; omega, ?_, ?_⟩, fun v h1 h2 => by rw [sI_v _ _ _ h2, sI_v _ _ _ h1], rfl⟩
  · unfold f_ru_push
    rw [h.2.1, if_neg (show ¬ (40 : Int32) ≤ nI s.length from fun q => absurd ((i_leN (a := 40) (by omega) (by omega)).mp q) (by omega)), bnd_s, l_1, i_add, inb_n hs (by omega), chk_t, cl_nI (by omega), bnd_s]
  · rw [sI_v _ _ _ v13, sI_eq]; rfl
  · exact ⟨sI_eq _ _ _ _, Sk.set x s (Sk.of (by rw [sI_v _ _ _ v13.symm]) s h.2.2) (Nat.le_refl _)⟩
theorem ru_pop {s : List Int32} (h : SK t s μ) : ∃ μ', f_ru_pop t μ = some (s.headD 0, μ') ∧ SK t s.tail μ' ∧ VF t μ μ' := by
  unfold f_ru_pop
  rw [h.2.1]
  cases s with
  | nil => exact ⟨μ, by rw [if_pos (show nI ([] : List Int32).length ≤ 0 by decide)]; rfl, h, VF.rf _ _⟩
  | cons v s =>
    have hl : s.length + 1 ≤ 40 := h.1
    have e : nI (v :: s).length - (1 : Int32) = nI s.length := by
      show nI (s.length + 1) - 1 = _
      rw [← i_add, show nI 1 = (1 : Int32) from rfl, Int32.add_sub_cancel]
    refine ⟨setI μ (vRu t 1) 0 (nI s.length), ?_, ⟨by show s.length ≤ 40; omega, sI_eq _ _ _ _, Sk.of (by rw [sI_v _ _ _ v13.symm]) s h.2.2.2⟩, fun v h1 h2 => sI_v _ _ _ h1, rfl⟩
    rw [if_neg (show ¬ nI (v :: s).length ≤ 0 from fun q => absurd ((i_leN (b := 0) (show s.length + 1 < 2 ^ 31 by omega) (by omega)).mp q) (by show ¬ s.length + 1 ≤ 0; omega)), bnd_s, e, inb_n (by omega) (by omega), chk_t, cl_nI (by omega), sI_v _ _ _ v13.symm, h.2.2.1]
    rfl
theorem ru_reckon {c : Nat} (hc : c < 1000) (x y : Int32) : f_ru_reckon (nI c) x y μ = some (opR c x y, μ) := by
  have e : ∀ n, n < 1000 → (nI c = nI n ↔ c = n) := fun n hn => i_eqN (by omega) (by omega)
  unfold f_ru_reckon opR
  by_cases c1 : c = 42
  · rw [if_pos c1, if_pos (show nI c = (42 : Int32) from (e 42 (by omega)).mpr c1)]
  rw [if_neg c1, if_neg (show ¬ nI c = (42 : Int32) from fun q => c1 ((e 42 (by omega)).mp q))]
  by_cases c2 : c = 43
  · rw [if_pos c2, if_pos (show nI c = (43 : Int32) from (e 43 (by omega)).mpr c2)]
  rw [if_neg c2, if_neg (show ¬ nI c = (43 : Int32) from fun q => c2 ((e 43 (by omega)).mp q))]
  by_cases c3 : c = 45
  · rw [if_pos c3, if_pos (show nI c = (45 : Int32) from (e 45 (by omega)).mpr c3)]
  rw [if_neg c3, if_neg (show ¬ nI c = (45 : Int32) from fun q => c3 ((e 45 (by omega)).mp q))]
  by_cases c4 : c = 47
  · rw [if_pos c4, if_pos (show nI c = (47 : Int32) from (e 47 (by omega)).mpr c4)]
    by_cases z : y = 0
    · rw [if_pos z, if_pos z]
    · rw [if_neg z, if_neg z, decide_eq_true z, chk_t]
  rw [if_neg c4, if_neg (show ¬ nI c = (47 : Int32) from fun q => c4 ((e 47 (by omega)).mp q))]
  by_cases c5 : c = 60
  · rw [if_pos c5, if_pos (show nI c = (60 : Int32) from (e 60 (by omega)).mpr c5), bnd_s]
  rw [if_neg c5, if_neg (show ¬ nI c = (60 : Int32) from fun q => c5 ((e 60 (by omega)).mp q))]
  by_cases c6 : c = 62
  · rw [if_pos c6, if_pos (show nI c = (62 : Int32) from (e 62 (by omega)).mpr c6), bnd_s]
  rw [if_neg c6, if_neg (show ¬ nI c = (62 : Int32) from fun q => c6 ((e 62 (by omega)).mp q)), bnd_s]
theorem i_subk {a b : Nat} (h : b ≤ a) : nI a - nI b = nI (a - b) := by
  have e : nI a = nI (a - b) + nI b := by rw [i_add]; congr 1; omega
  rw [e, Int32.add_sub_cancel]
def RVo (t i : Nat) (cs : List Nat) (lv : Nat → Int32) (μ : Mem) : Prop := μ.1 (vRu t 0) 0 = nI cs.length ∧ (∀ j, j < cs.length → μ.1 (vRu t 2) j = nI (cs.getD j 0)) ∧ ∀ j, j < 7 → μ.1 (vFa i) j = lv j
theorem RVo.of {i : Nat} {cs : List Nat} {lv : Nat → Int32} {μ' : Mem} (ht : t < 3) (h : RVo t i cs lv μ) (hf : VF t μ μ') : RVo t i cs lv μ' := by
  obtain ⟨h1, h2, h3⟩ := h
  exact ⟨by rw [hf.1 _ (by show 81 + 4 * t + 0 ≠ 81 + 4 * t + 1; omega) (by show 81 + 4 * t + 0 ≠ 81 + 4 * t + 3; omega)]; exact h1, fun j hj => by rw [hf.1 _ (by show 81 + 4 * t + 2 ≠ 81 + 4 * t + 1; omega) (by show 81 + 4 * t + 2 ≠ 81 + 4 * t + 3; omega)]; exact h2 j hj, fun j hj => by rw [hf.1 _ (by show 118 + i ≠ 81 + 4 * t + 1; omega) (by show 118 + i ≠ 81 + 4 * t + 3; omega)]; exact h3 j hj⟩
theorem stC_len (lv : Nat → Int32) (s : List Int32) (c : Nat) : (stC lv s c).length ≤ s.length + 1 := by
  unfold stC
  split
  · exact Nat.le_refl _
  · split
    · exact Nat.le_refl _
    · split
      · show s.tail.length + 1 ≤ _; rw [List.length_tail]; omega
      · show s.tail.tail.length + 1 ≤ _; rw [List.length_tail, List.length_tail]; omega
theorem ru_lp {i : Nat} {cs : List Nat} {lv : Nat → Int32} (ht : t < 3) (hcs : cs.length ≤ 40) (ok : ∀ c ∈ cs, okC c) : ∀ m k s g (μ : Mem), m + k = cs.length → m < g → s.length ≤ k → SK t s μ → RVo t i cs lv μ → ∃ μ', f_ru_value_b7 t i g (nI k) μ = some (((cs.drop k).foldl (stC lv) s).headD 0, μ') ∧ VF t μ μ'
  | 0, k, s, g + 1, μ, hm, _, hs, hS, hR => by
    have e : cs.drop k = [] := List.drop_eq_nil_of_le (by omega)
    obtain ⟨μ', k1, k2, k3⟩ := ru_pop hS
    refine ⟨μ', ?_, k3⟩
    rw [f_ru_value_b7, hR.1, if_pos ((i_leN (by omega) (by omega)).mpr (by omega)), k1, bd2_s, e]
    rfl
  | m + 1, k, s, g + 1, μ, hm, hg, hs, hS, hR => by
    have hk : k < cs.length := by omega
    have e : cs.drop k = cs.getD k 0 :: cs.drop (k + 1) := by
      rw [List.drop_eq_getElem_cons hk, List.getD_eq_getElem?_getD, List.getElem?_eq_getElem hk]; rfl
    have hc : okC (cs.getD k 0) := by
      rw [List.getD_eq_getElem?_getD, List.getElem?_eq_getElem hk]
      exact ok _ (List.getElem_mem hk)
    have hmem := hR.2.1 k hk
    have ind : ∀ s' μ1, s'.length ≤ k + 1 → SK t s' μ1 → VF t μ μ1 → stC lv s (cs.getD k 0) = s' → ∃ μ', f_ru_value_b7 t i g (nI (k + 1)) μ1 = some (((cs.drop k).foldl (stC lv) s).headD 0, μ') ∧ VF t μ μ' := fun s' μ1 h1 h2 h3 h4 => by
      obtain ⟨μ', q1, q2⟩ := ru_lp ht hcs ok m (k + 1) s' g μ1 (by omega) (by omega) h1 h2 (hR.of ht h3)
      refine ⟨μ', ?_, h3.tr q2⟩
      rw [q1, e, List.foldl_cons, h4]
    rw [f_ru_value_b7, hR.1, if_neg (fun q => absurd ((i_leN (by omega) (by omega)).mp q) (by omega)), inb_n (show k < 40 by omega) (by omega), chk_t, cl_nI (by omega), hmem, bnd_s]
    generalize cs.getD k 0 = c at hc ind
    have hc' : c < 2257 := by unfold okC at hc; omega
    have hst : stC lv s c = _ := rfl
    unfold stC at hst
    by_cases c1 : c < 1000
    · obtain ⟨μ1, k1, k2, k3⟩ := ru_push hS (by omega) (nI c)
      obtain ⟨μ', q1, q2⟩ := ind (nI c :: s) μ1 (by show s.length + 1 ≤ _; omega) k2 k3 (by unfold stC; rw [if_pos c1])
      refine ⟨μ', ?_, q2⟩
      rw [if_pos (show nI c < (2000 : Int32) from (i_ltN (b := 2000) (by omega) (by omega)).mpr (by omega)), if_pos (show nI c < (1000 : Int32) from (i_ltN (b := 1000) (by omega) (by omega)).mpr c1)]
      unfold f_ru_value_b88
      rw [k1, bd1_s, l_1, i_add, q1]
    · by_cases c2 : c < 2000
      · have c3 : c - 1000 < 7 := by unfold okC at hc; omega
        obtain ⟨μ1, k1, k2, k3⟩ := ru_push hS (by omega) (lv (c - 1000))
        obtain ⟨μ', q1, q2⟩ := ind (lv (c - 1000) :: s) μ1 (by show s.length + 1 ≤ _; omega) k2 k3 (by unfold stC; rw [if_neg c1, if_pos c2])
        refine ⟨μ', ?_, q2⟩
        rw [if_pos (show nI c < (2000 : Int32) from (i_ltN (b := 2000) (by omega) (by omega)).mpr (by omega)), if_neg (show ¬ nI c < (1000 : Int32) from fun q => c1 ((i_ltN (b := 1000) (by omega) (by omega)).mp q)), show (1000 : Int32) = nI 1000 from rfl, i_subk (by omega), inb_n c3 (by omega), chk_t, cl_nI (by omega), hR.2.2 _ c3]
        unfold f_ru_value_b88
        rw [k1, bd1_s, l_1, i_add, q1]
      · rw [if_neg (show ¬ nI c < (2000 : Int32) from fun q => c2 ((i_ltN (b := 2000) (by omega) (by omega)).mp q))]
        obtain ⟨μ1, k1, k2, k3⟩ := ru_pop hS
        rw [k1, bd2_s]
        have l1 : s.tail.length ≤ s.length := by rw [List.length_tail]; omega
        by_cases c4 : c = 2126
        · obtain ⟨μ2, p1, p2, p3⟩ := ru_push k2 (by omega) (-(s.headD 0))
          obtain ⟨μ', q1, q2⟩ := ind (-(s.headD 0) :: s.tail) μ2 (by show s.tail.length + 1 ≤ _; omega) p2 (k3.tr p3) (by unfold stC; rw [if_neg c1, if_neg c2, if_pos c4])
          refine ⟨μ', ?_, q2⟩
          rw [if_pos (show nI c = (2126 : Int32) from (i_eqN (b := 2126) (by omega) (by omega)).mpr c4)]
          unfold f_ru_value_b63
          rw [p1, bd1_s, l_1, i_add, q1]
        · obtain ⟨μ2, p1, p2, p3⟩ := ru_pop k2
          have l2 : s.tail.tail.length ≤ s.tail.length := by rw [List.length_tail]; omega
          obtain ⟨μ3, r1, r2, r3⟩ := ru_push p2 (by omega) (opR (c - 2000) (s.tail.headD 0) (s.headD 0))
          obtain ⟨μ', q1, q2⟩ := ind (opR (c - 2000) (s.tail.headD 0) (s.headD 0) :: s.tail.tail) μ3 (by show s.tail.tail.length + 1 ≤ _; omega) r2 ((k3.tr p3).tr r3) (by unfold stC; rw [if_neg c1, if_neg c2, if_neg c4])
          refine ⟨μ', ?_, q2⟩
          rw [if_neg (show ¬ nI c = (2126 : Int32) from fun q => c4 ((i_eqN (b := 2126) (by omega) (by omega)).mp q)), p1, bd2_s, show (2000 : Int32) = nI 2000 from rfl, i_subk (by omega), ru_reckon (by omega), bd2_s]
          unfold f_ru_value_b63
          rw [r1, bd1_s, l_1, i_add, q1]
/-- what a rule says of the letters' values -/
def rvU (lv : Nat → Int32) (u : List Nat) : Int32 := if u = [] then 0 else (prU lv u u.length).2.2.2
theorem ru_value {i : Nat} {u : List Nat} {lv : Nat → Int32} (ht : t < 3) (hV : VU u) (hR : RUo t u μ) (hF : ∀ j, j < 7 → μ.1 (vFa i) j = lv j) : ∃ μ', f_ru_value t i μ = some (rvU lv u, μ') ∧ VF t μ μ' := by
  have hl := cds_len hV
  have hfr : VF t μ (setI μ (vRu t 1) 0 0) := ⟨fun v h1 _ => sI_v _ _ _ h1, rfl⟩
  have hRV : RVo t i (cds u) lv μ := ⟨hR.1, hR.2, hF⟩
  have ok : ∀ c ∈ cds u, okC c := by
    unfold cds
    rcases hV with h | ⟨h1, h2, h3, h4⟩
    · rw [if_pos h]; intro c hc; exact absurd hc (by simp)
    · by_cases h : u = []
      · rw [if_pos h]; intro c hc; exact absurd hc (by simp)
      · rw [if_neg h]
        exact ((prU_gd lv0 u u.length).2.2 h3).2.2.2.2
  obtain ⟨μ', k1, k2⟩ := ru_lp ht hl.1 ok (cds u).length 0 [] FU (setI μ (vRu t 1) 0 0) (by omega) (by unfold FU; omega) (by simp) ⟨by simp, sI_eq _ _ _ _, trivial⟩ (hRV.of ht hfr)
  refine ⟨μ', ?_, hfr.tr k2⟩
  unfold f_ru_value
  rw [bnd_s, show (0 : Int32) = nI 0 from rfl]
  refine k1.trans ?_
  rw [List.drop_zero]
  congr 2
  unfold rvU cds
  by_cases h : u = []
  · rw [if_pos h, if_pos h]; rfl
  · rw [if_neg h, if_neg h]
    rcases hV with hh | ⟨h1, h2, h3, h4⟩
    · exact absurd hh h
    · obtain ⟨a1, a2, a3⟩ := prU_ag lv0 lv u u.length
      have := ((prU_gd lv u u.length).2.2 (a1 ▸ h3)).2.2.2.1 []
      rw [a3, this]
      rfl
end RV
