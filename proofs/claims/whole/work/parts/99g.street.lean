/-! street, whole. -/
section OPS
variable {N : Nat} {a : Ab} {μ0 μ : Mem} {Q : Nat}
theorem m_end (hN : N < 600) {ls : List LN} {k : Nat} (h : MI N Q a μ0 μ) (hv : VLs (aS a).1 ls) (hl : ls.length < 79) (hla : (acq ls).length < 79) {μ' : Mem} (hf : NF μ μ') (hs : MSt k μ') (hM : MNP (ls.foldl ap1 a) μ') (hM0 : MNP a μ') (hQ : LnK (acq ls) μ') (x4 : Int32) : ∃ ν, f_m_street_b243 (nI (aS (ls.foldl ap1 a)).1) (nI (aN (ls.foldl ap1 a))) (nI (aS (ls.foldl ap1 a)).2.2.2) x4 (nI (acq ls).length) μ' = some (x4, ν) ∧ MO N (ls.foldl ap1 a) μ0 ν := by
  have hW := foldl_WF ls a h.1 hv
  have h1 := h.nf hf hM0
  have hp := h.1.1.1
  have hP := hW.1.1
  have hpP := foldl_p ls a
  have hLO : LO (aS a).2.1 μ' := h1.2.1.1.2.1
  have hb : ∀ x ∈ acq ls, x.1 < 14 ∧ x.2.2.1 < 14 := by
    rcases acq_ok ls (aS a).1 (aS a).1 (Nat.le_refl _) hv with q | q
    · exact q
    · omega
  unfold f_m_street_b243
  rw [m_fine1 hs.2, bd2_s, if_neg (show ¬ (1 : Int32) = 0 by decide), h1.2.1.1.1]
  by_cases c : (aS (ls.foldl ap1 a)).1 ≤ (aS a).1
  · have hpe : (aS (ls.foldl ap1 a)).1 = (aS a).1 := by omega
    rw [if_pos ((i_leN (by omega) (by omega)).mpr c)]
    unfold f_m_street_b359
    obtain ⟨ν, q1, q2, q3⟩ := m_apply hla hb x4 (acq ls).length 0 FU (aS a).2.1 μ' (by omega) (by unfold FU; omega) hQ hLO
    refine ⟨ν, q1, ?_⟩
    rw [List.drop_zero, ← foldl_lo] at q2
    have hS := foldl_same ls a hpe
    rw [hS]
    have hSO : SOk ((aS a).1, (aS (ls.foldl ap1 a)).2.1, (aS a).2.2.1, (aS a).2.2.2) := ⟨hp, hW.1.2.1, h.1.1.2.2.1, h.1.1.2.2.2⟩
    have hz : zOut (aS a).1 (aS (ls.foldl ap1 a)).2.1 := by have := hW.2.1; rw [hpe] at this; exact this
    exact (h1.street (S := ((aS a).1, (aS (ls.foldl ap1 a)).2.1, (aS a).2.2.1, (aS a).2.2.2)) rfl ⟨hSO, hz⟩ (fun v _ h2 => q3.1 v h2) q3.2 ⟨by rw [q3.1 _ (by decide)]; exact h1.2.1.1.1, q2, fun i hi => by rw [q3.1 _ (by decide)]; exact h1.2.1.1.2.2.1 i hi, by rw [q3.1 _ (by decide)]; exact h1.2.1.1.2.2.2.1, hSO⟩).done hN
  · rw [if_neg (fun q => c ((i_leN (by omega) (by omega)).mp q))]
    obtain ⟨μ2, g', a1, a2, a3⟩ := m_clr (lo := (aS a).2.1) hP h.1.2.1 (nI (aN (ls.foldl ap1 a))) (nI (aS (ls.foldl ap1 a)).2.2.2) x4 (nI (acq ls).length) (aS (ls.foldl ap1 a)).1 0 FU μ' (by omega) (by unfold FU; omega) h1.2.1.1.1 hp hLO
    obtain ⟨hW1, ⟨b, d, t, r, T, k1, k2, k3, k4⟩, hq, h4, h5⟩ := h1
    have hT2 : μ2.1 v_m_peopleTold 0 = nI T := by rw [a3.1 _ (by decide)]; exact k2
    generalize hμ3 : setI (setI (setI (setI (setI μ2 v_m_people 0 (nI (aS (ls.foldl ap1 a)).1)) v_m_firm 0 (nI (aS (ls.foldl ap1 a)).2.2.2)) v_m_days 0 0) v_m_states 0 (nI (aN (ls.foldl ap1 a)))) v_m_peopleTold 0 (nI (T + 1)) = μ3
    have e3 : ∀ v, v ≠ 133 → v ≠ 136 → v ≠ 139 → v ≠ 138 → v ≠ 168 → μ3.1 v = μ2.1 v := fun v z1 z2 z3 z4 z5 => by rw [← hμ3, sI_v _ _ _ z5, sI_v _ _ _ z4, sI_v _ _ _ z3, sI_v _ _ _ z2, sI_v _ _ _ z1]
    have e3l : μ3.2 = μ2.2 := by rw [← hμ3]; rfl
    obtain ⟨ν, q1, q2, q3⟩ := m_apply hla hb x4 (acq ls).length 0 FU (aS a).2.1 μ3 (by omega) (by unfold FU; omega) (hQ.of (by rw [e3 _ (by decide) (by decide) (by decide) (by decide) (by decide), a3.1 _ (by decide)])) (fun i j hi hj => by rw [e3 _ (by decide) (by decide) (by decide) (by decide) (by decide)]; exact a2 i j hi hj)
    rw [List.drop_zero, ← foldl_lo] at q2
    refine ⟨ν, ?_, ?_⟩
    · refine a1.trans ?_
      rw [f_m_street_b268, if_pos ((i_leN (by omega) (by omega)).mpr (Nat.le_refl _)), bnd_s, bnd_s, bnd_s, show inb (0 : Int32) 201 = true by decide, chk_t, show (0 : Int32).toNatClampNeg = 0 from rfl, bnd_s, sI_v _ _ _ (by decide), sI_v _ _ _ (by decide), sI_v _ _ _ (by decide), sI_v _ _ _ (by decide), hT2, show nI T + (1 : Int32) = nI (T + 1) from i_add T 1, bnd_s, hμ3]
      exact q1
    · have ev : ∀ v, v ≠ 133 → v ≠ 136 → v ≠ 137 → v ≠ 138 → v ≠ 139 → v ≠ 168 → ν.1 v = μ'.1 v := fun v z1 z2 z3 z4 z5 z6 => by rw [q3.1 v z3, e3 v z1 z2 z5 z4 z6, a3.1 v z3]
      have el : ν.2 = μ'.2 := by rw [q3.2, e3l, a3.2]
      have hD0 : aD (ls.foldl ap1 a) = 0 := foldl_new ls a (by omega)
      have hR := foldl_rest ls a
      have hk1 : ∀ s o, aK a s = o → MK1 T (aS a).1 o s μ' → MK1 (T + 1) (aS (ls.foldl ap1 a)).1 o s ν := fun s o ho hk => by
        have hk' := hk.of (μ' := ν) (fun v hv => ev v (by omega) (by omega) (by omega) (by omega) (by omega) (by omega))
        cases o with
        | none => exact hk'
        | some kk =>
          obtain ⟨z1, ⟨tt, z2, z3, z4⟩, z5⟩ := hk'
          have hKO := h.1.2.2.2.2.2.2 s kk ho
          exact ⟨z1, ⟨tt, by omega, z3, ⟨fun z => by omega, fun z => by have := hKO.1; omega⟩⟩, z5⟩
      have hK : aK (ls.foldl ap1 a) = aK a := by show (ls.foldl ap1 a).2.2.2.2.2 = _; rw [hR]
      have hTt : aT (ls.foldl ap1 a) = aT a := by show (ls.foldl ap1 a).2.2.2.1 = _; rw [hR]
      have hRr : aR (ls.foldl ap1 a) = aR a := by show (ls.foldl ap1 a).2.2.2.2.1 = _; rw [hR]
      refine ⟨⟨hW, ⟨⟨?_, q2, fun i hi => ?_, ?_, hW.1⟩, ⟨fun i hi => ?_, ?_, fun d' hd => ?_⟩, ?_, ?_, T + 1, by omega, ?_, ?_, ?_⟩, by omega, Q, by omega, hq.of (fun v hv => ev v (by omega) (by omega) (by omega) (by omega) (by omega) (by omega))⟩, h5.tr ⟨fun v hv => ev v (by omega) (by omega) (by omega) (by omega) (by omega) (by omega), fun v _ => by rw [el], by rw [el]⟩⟩
      · rw [q3.1 _ (by decide), ← hμ3, sI_v _ _ _ (by decide), sI_v _ _ _ (by decide), sI_v _ _ _ (by decide), sI_v _ _ _ (by decide), sI_eq]
      · rw [ev _ (by decide) (by decide) (by decide) (by decide) (by decide) (by decide)]; exact (hM i hi).1
      · rw [q3.1 _ (by decide), ← hμ3, sI_v _ _ _ (by decide), sI_v _ _ _ (by decide), sI_v _ _ _ (by decide), sI_eq]
      · rw [ev _ (by decide) (by decide) (by decide) (by decide) (by decide) (by decide)]; exact (hM i hi).2
      · rw [q3.1 _ (by decide), ← hμ3, sI_v _ _ _ (by decide), sI_v _ _ _ (by decide), sI_eq, hD0]; rfl
      · have hd0 : d' = 0 := by rw [hD0] at hd; omega
        rw [hd0, q3.1 _ (by decide), ← hμ3, sI_v _ _ _ (by decide), sI_eq]
        show nI (aZ (ls.foldl ap1 a) (aD (ls.foldl ap1 a))) = _
        rw [hD0]
      · rw [hTt]; exact t.of (fun v hv => ev v (by omega) (by omega) (by omega) (by omega) (by omega) (by omega))
      · rw [hRr]; exact r.of (ev _ (by decide) (by decide) (by decide) (by decide) (by decide) (by decide)) (by rw [el])
      · rw [q3.1 _ (by decide), ← hμ3, sI_eq]
      · rw [hK]; exact hk1 0 _ rfl k3
      · rw [hK]; exact hk1 1 _ rfl k4
end OPS
