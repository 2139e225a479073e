/-! The class is told a STREET. -/
section OPS
variable {N : Nat} {a : Ab} {b : Nat × Nat} {μ0 μ : Mem} {Q : Nat} {S : SP} {U : Nat → List Nat} {t : List Nat} {L len th k : Nat} {tl : Bool}
theorem FS.IFr {μ' : Mem} (h : FS μ μ') : IFr μ μ' := ⟨fun v hv => h.1 v (fun q => hv (by unfold inn; omega)), fun v _ => by rw [h.2]⟩
theorem XI.fs {μ' : Mem} (h : XI N b a μ0 μ) (hf : FS μ μ') : XI N b a μ0 μ' := ⟨h.1, hf.IFr.XP h.2.1, h.2.2.1.of (hf.IFr.st (by omega) (by omega)) (fun v h1 h2 => hf.1 v (by omega)) (fun v _ _ => by rw [hf.2]) (by rw [hf.2]), h.2.2.2.tr hf.IFr.OFr⟩
theorem XI.upb {c : Nat} (h : XI N b a μ0 μ) (h1 : b.2 ≤ c) (h2 : c ≤ 60) : XI N (b.1, c) a μ0 μ := by
  obtain ⟨hW, hP, ⟨V, CL, e, k1, k2, k3, k4, k5⟩, hO⟩ := h
  exact ⟨hW, hP, ⟨V, CL, e, by show V ≤ 1 + 60 * N + c; omega, k2, ⟨k3.1, k3.2.1, h2⟩, k4, k5⟩, hO⟩
/-- one more lives in the street -/
theorem XI.grow {μ' : Mem} {nd pr st fm : Nat} (h : XI N b a μ0 μ) (hb : b.2 < 60) (hp : (aS a).1 < 14) (hn : nd ≤ 99) (hpr : pr ≤ 9) (hst : st < 2 ^ ((aS a).1 + 1)) (hfm : fm < 2 ^ ((aS a).1 + 1)) (he : ∀ v, (v < 5 ∨ 12 ≤ v) → μ'.1 v = μ.1 v) (hl : μ'.2 = μ.2) (h0 : μ'.1 (vSt 0 0) 0 = nI ((aS a).1 + 1)) (h1 : μ'.1 (vSt 0 1) 0 = nI fm) (h2 : μ'.1 (vSt 0 2) 0 = nI 0) (hv : μ'.1 (vSt 0 3) 0 = μ.1 (vSt 0 3) 0 + nI 1) (h4 : μ'.1 (vSt 0 4) = (setI μ (vSt 0 4) (aS a).1 (nI nd)).1 (vSt 0 4)) (h5 : μ'.1 (vSt 0 5) = (setI μ (vSt 0 5) (aS a).1 (nI pr)).1 (vSt 0 5)) (h6 : μ'.1 (vSt 0 6) 0 = nI st) : XI N (b.1, b.2 + 1) ((((aS a).1 + 1, (aS a).2.1, fnu (aS a).2.2.1 (aS a).1 nd, fm) : SP), fnu (aPr a) (aS a).1 pr, (0, fun _ => st), a.2.2.2) μ0 μ' := by
  obtain ⟨⟨⟨w1, w1b, w1c, w1d⟩, w2, w3, w4, w5, w6, w7⟩, ⟨⟨b1, b2, b3, b4, b5⟩, p2, p3, p4, p5, p6⟩, ⟨V, CL, e0, c1, c2, c3, ⟨KL, ⟨v1, v2, v3⟩, ⟨W, t1, t2, t3⟩, c5, c6, c7, c8⟩, hM⟩, hI⟩ := h
  have hx : ∀ t j, t < 3 → j < 22 → t ≠ 0 → μ'.1 (vSt t j) = μ.1 (vSt t j) := fun t j _ _ _ => he _ (by right; show 12 ≤ 5 + 22 * t + j; omega)
  have hxl : ∀ i, i < 14 → μ'.1 (vSt 0 (8 + i)) = μ.1 (vSt 0 (8 + i)) := fun i hi => he _ (by right; show 12 ≤ 5 + 22 * 0 + (8 + i); omega)
  have hSOk : SOk (((aS a).1 + 1, (aS a).2.1, fnu (aS a).2.2.1 (aS a).1 nd, fm) : SP) := ⟨by show (aS a).1 + 1 ≤ 14; omega, w1b, fun i hi => by
    show fnu (aS a).2.2.1 (aS a).1 nd i ≤ 99
    have hi' : i < (aS a).1 + 1 := hi
    by_cases q : i = (aS a).1
    · rw [q, fnu_eq]; exact hn
    · rw [fnu_ne _ _ q]; exact w1c i (by omega), hfm⟩
  refine ⟨⟨hSOk, fun i j hij => w2 i j ?_, fun i hi => ?_, ⟨Nat.zero_le _, fun d hd => hst⟩, w5, w6, fun s k hk => ?_⟩, ⟨⟨h0, fun i j hi hj => ?_, fun i hi => ?_, h1, hSOk⟩, ⟨fun i hi => ?_, h2, fun d hd => ?_⟩, ⟨?_, fun k hk => ?_⟩, ⟨?_, fun k hk => ?_⟩, p5.of (by omega) (he _ (by decide)) (fun j hj => hx 1 j (by omega) hj (by omega)), p6.of (by omega) (he _ (by decide)) (fun j hj => hx 2 j (by omega) hj (by omega))⟩, ⟨V + 1, CL, e0, by show V + 1 ≤ 1 + 60 * N + (b.2 + 1); omega, c2, ⟨c3.1, c3.2.1, hb⟩, ⟨KL, ⟨?_, by omega, by omega⟩, ⟨W, by omega, ?_, fun q => absurd q (by omega)⟩, ?_, ?_, ?_, fun s hs => ?_⟩, ?_⟩, hI.tr ⟨fun v hv => he v (by omega), fun v _ => by rw [hl]⟩⟩
  · have : (aS a).1 + 1 ≤ i ∨ (aS a).1 + 1 ≤ j := hij
    omega
  · show fnu (aPr a) (aS a).1 pr i ≤ 9
    have hi' : i < (aS a).1 + 1 := hi
    by_cases q : i = (aS a).1
    · rw [q, fnu_eq]; exact hpr
    · rw [fnu_ne _ _ q]; exact w3 i (by omega)
  · obtain ⟨z1, z2, z3, z4, z5, z6⟩ := w7 s k hk
    exact ⟨by show k.1 ≤ (aS a).1 + 1; omega, z2, z3, z4, z5, z6⟩
  · rw [hxl i hi]; exact b2 i j hi hj
  · rw [h4]
    have hi' : i < (aS a).1 + 1 := hi
    show (setI μ (vSt 0 4) (aS a).1 (nI nd)).1 (vSt 0 4) i = nI (fnu (aS a).2.2.1 (aS a).1 nd i)
    by_cases q : i = (aS a).1
    · rw [q, fnu_eq, sI_eq]
    · rw [fnu_ne _ _ q, sI_i _ _ _ q]; exact b3 i (by omega)
  · rw [h5]
    have hi' : i < (aS a).1 + 1 := hi
    show (setI μ (vSt 0 5) (aS a).1 (nI pr)).1 (vSt 0 5) i = nI (fnu (aPr a) (aS a).1 pr i)
    by_cases q : i = (aS a).1
    · rw [q, fnu_eq, sI_eq]
    · rw [fnu_ne _ _ q, sI_i _ _ _ q]; exact p2.1 i (by omega)
  · have : d = 0 := by have : d ≤ 0 := hd; omega
    rw [this]; exact h6
  · rw [he _ (by decide)]; exact p3.1
  · rw [he _ (by decide)]; exact p3.2 k hk
  · rw [he _ (by decide)]; exact p4.1
  · rw [hl]; exact p4.2 k hk
  · rw [hv, v1, i_add]
  · rw [he _ (by decide)]; exact t2
  · rw [he _ (by decide)]; exact c5
  · show isP2 ((aS a).1 + 1) KL
    unfold isP2 at c6 ⊢
    rcases c6 with q | ⟨q, q1, q2⟩
    · exact Or.inl q
    · exact Or.inr ⟨q, by omega, q2⟩
  · unfold Bud; rw [hl]; exact c7
  · obtain ⟨w, u, q1, q2, q3, q4⟩ := c8 s hs
    exact ⟨w, u, by omega, q2, by rw [he _ (by decide)]; exact q3, fun q => absurd q (by omega)⟩
  · have hM' := hM.fr (μ' := μ') (fun v h1 h2 => he v (by omega))
    obtain ⟨m1, m2, m3⟩ := hM'
    refine ⟨m1, ?_, m3⟩
    rcases m2 with q | ⟨q, q1, q2⟩
    · exact Or.inl q
    · exact Or.inr ⟨q, by show q ≤ (aS a).1 + 1; omega, q2⟩
theorem st_welcome (h : XI N b a μ0 μ) (hb : b.2 < 60) (hp : (aS a).1 < 14) {bl fi : Bool} {nd pr : Nat} (hn : nd ≤ 99) (hpr : pr ≤ 9) : ∃ μ', f_st_welcome (nI (bN bl)) (nI nd) (nI pr) (nI (bN fi)) μ = some μ' ∧ XI N (b.1, b.2 + 1) (ap1 a (Sum.inl (bl, nd, pr, fi))) μ0 μ' ∧ (∀ v, (v < 5 ∨ 12 ≤ v) → μ'.1 v = μ.1 v) ∧ μ'.2 = μ.2 := by
  have hnow := now_lt h.1
  have h1p := Nat.pow_lt_pow_right (a := 2) (by omega) (show (aS a).1 < (aS a).1 + 1 by omega)
  have hbit : ∀ z : Bool, bN z * 2 ^ (aS a).1 < 2 ^ ((aS a).1 + 1) := fun z => by
    cases z
    · show 0 * _ < _; rw [Nat.zero_mul]; exact Nat.two_pow_pos _
    · show 1 * _ < _; rw [Nat.one_mul]; exact h1p
  have hif : ∀ z : Bool, (if nI (bN z) = 0 then (0 : Int32) else (1 : Int32) <<< (nI (aS a).1 &&& 31)) = nI (bN z * 2 ^ (aS a).1) := fun z => by
    cases z
    · rw [if_pos (show nI (bN false) = 0 by decide)]; show _ = nI (0 * _); rw [Nat.zero_mul]; rfl
    · rw [if_neg (show ¬ nI (bN true) = 0 by decide), i_one (by omega)]; show _ = nI (1 * _); rw [Nat.one_mul]
  have e0 : inb 0 201 = true := by decide
  have t0 : (0 : Int32).toNatClampNeg = 0 := rfl
  have hpc : (nI (aS a).1).toNatClampNeg = (aS a).1 := cl_nI (by omega)
  have hpi : inb (nI (aS a).1) 14 = true := inb_n hp (by omega)
  have hp0 := h.2.1.1.1
  have hf0 := h.2.1.1.2.2.2.1
  refine ⟨setI (setI (setI (setI (setI (setI (setI μ (vSt 0 6) 0 (nI (aN a ||| bN bl * 2 ^ (aS a).1))) (vSt 0 2) 0 0) (vSt 0 4) (aS a).1 (nI nd)) (vSt 0 5) (aS a).1 (nI pr)) (vSt 0 1) 0 (nI ((aS a).2.2.2 ||| bN fi * 2 ^ (aS a).1))) (vSt 0 0) 0 (nI ((aS a).1 + 1))) (vSt 0 3) 0 (μ.1 (vSt 0 3) 0 + nI 1), ?_, ?_, fun v hv => ?_, rfl⟩
  · unfold f_st_welcome
    rw [hp0, if_pos (show nI (aS a).1 < (14 : Int32) from (i_ltN (b := 14) (by omega) (by omega)).mpr hp), st_now h.1 h.2.1, bd2_s, hp0, hif, bnd_s, e0, chk_t, t0, i_or, bnd_s, bnd_s]
    rw [sI_v _ _ _ (by decide), sI_v _ _ _ (by decide), hp0, hpi, chk_t, hpc, bnd_s]
    rw [sI_v _ _ _ (by decide), sI_v _ _ _ (by decide), sI_v _ _ _ (by decide), hp0, hpi, chk_t, hpc, bnd_s]
    rw [sI_v _ _ _ (by decide), sI_v _ _ _ (by decide), sI_v _ _ _ (by decide), sI_v _ _ _ (by decide), hp0, hif, bnd_s]
    rw [sI_v _ _ _ (by decide), sI_v _ _ _ (by decide), sI_v _ _ _ (by decide), sI_v _ _ _ (by decide), hf0, i_or, bnd_s]
    rw [sI_v _ _ _ (by decide), sI_v _ _ _ (by decide), sI_v _ _ _ (by decide), sI_v _ _ _ (by decide), sI_v _ _ _ (by decide), hp0, l_1, i_add, bnd_s]
    rw [sI_v _ _ _ (by decide), sI_v _ _ _ (by decide), sI_v _ _ _ (by decide), sI_v _ _ _ (by decide), sI_v _ _ _ (by decide), sI_v _ _ _ (by decide), bnd_s]
  · refine h.grow hb hp hn hpr (or_lt (Nat.lt_trans hnow h1p) (hbit bl)) (or_lt (Nat.lt_trans h.1.1.2.2.2 h1p) (hbit fi)) (fun v hv => ?_) rfl ?_ ?_ ?_ ?_ ?_ ?_ ?_
    · rw [sI_v _ _ _ (show v ≠ 8 by omega), sI_v _ _ _ (show v ≠ 5 by omega), sI_v _ _ _ (show v ≠ 6 by omega), sI_v _ _ _ (show v ≠ 10 by omega), sI_v _ _ _ (show v ≠ 9 by omega), sI_v _ _ _ (show v ≠ 7 by omega), sI_v _ _ _ (show v ≠ 11 by omega)]
    · rw [sI_v _ _ _ (by decide), sI_eq]
    · rw [sI_v _ _ _ (by decide), sI_v _ _ _ (by decide), sI_eq]
    · rw [sI_v _ _ _ (by decide), sI_v _ _ _ (by decide), sI_v _ _ _ (by decide), sI_v _ _ _ (by decide), sI_v _ _ _ (by decide), sI_eq]; rfl
    · rw [sI_eq]
    · rw [sI_v _ _ _ (by decide), sI_v _ _ _ (by decide), sI_v _ _ _ (by decide), sI_v _ _ _ (by decide)]
      funext i
      by_cases q : i = (aS a).1
      · rw [q, sI_eq, sI_eq]
      · rw [sI_i _ _ _ q, sI_i _ _ _ q, sI_v _ _ _ (by decide), sI_v _ _ _ (by decide)]
    · rw [sI_v _ _ _ (by decide), sI_v _ _ _ (by decide), sI_v _ _ _ (by decide)]
      funext i
      by_cases q : i = (aS a).1
      · rw [q, sI_eq, sI_eq]
      · rw [sI_i _ _ _ q, sI_i _ _ _ q, sI_v _ _ _ (by decide), sI_v _ _ _ (by decide), sI_v _ _ _ (by decide)]
    · rw [sI_v _ _ _ (by decide), sI_v _ _ _ (by decide), sI_v _ _ _ (by decide), sI_v _ _ _ (by decide), sI_v _ _ _ (by decide), sI_v _ _ _ (by decide), sI_eq]
  · rw [sI_v _ _ _ (show v ≠ 8 by omega), sI_v _ _ _ (show v ≠ 5 by omega), sI_v _ _ _ (show v ≠ 6 by omega), sI_v _ _ _ (show v ≠ 10 by omega), sI_v _ _ _ (show v ≠ 9 by omega), sI_v _ _ _ (show v ≠ 7 by omega), sI_v _ _ _ (show v ≠ 11 by omega)]
theorem st_putLoudL (h : XI N b a μ0 μ) (hb : b.2 < 60) {w o v : Nat} (hw : w < (aS a).1) (ho : o < (aS a).1) (hv : v ≤ 9) : ∃ μ', f_st_putLoud (nI w) (nI o) (nI v) μ = some μ' ∧ XI N (b.1, b.2 + 1) (aSetS a ((aS a).1, up2 (aS a).2.1 w o v, (aS a).2.2.1, (aS a).2.2.2)) μ0 μ' ∧ (∀ u, (u < 5 ∨ 27 ≤ u) → μ'.1 u = μ.1 u) ∧ μ'.2 = μ.2 := by
  have hp := h.1.1.1
  have hB := h.2.1.1
  have hw14 : vSt 0 (8 + w) = 13 + w := by show 5 + 22 * 0 + (8 + w) = 13 + w; omega
  refine ⟨setI (setI μ (vSt 0 (8 + w)) o (nI v)) (vSt 0 3) 0 (μ.1 (vSt 0 3) 0 + nI 1), ?_, ?_, fun u hu => ?_, rfl⟩
  · unfold f_st_putLoud
    rw [inb_n (show w < 14 by omega) (by omega), chk_t, inb_n (show o < 14 by omega) (by omega), chk_t, cl_nI (show w < 2 ^ 31 by omega), cl_nI (show o < 2 ^ 31 by omega), bnd_s, sI_v _ _ _ (show vSt 0 3 ≠ vSt 0 (8 + w) by rw [hw14]; show 5 + 22 * 0 + 3 ≠ _; omega), bnd_s]
    rfl
  · refine h.street hb rfl ⟨⟨hp, fun i j => ?_, h.1.1.2.2.1, h.1.1.2.2.2⟩, fun i j hij => ?_⟩ (fun u h1 h2 h3 => ?_) rfl ?_ ⟨?_, fun i j hi hj => ?_, fun i hi => ?_, ?_, ⟨hp, fun i j => ?_, h.1.1.2.2.1, h.1.1.2.2.2⟩⟩
    · show up2 (aS a).2.1 w o v i j ≤ 9
      by_cases q : i = w ∧ j = o
      · rw [q.1, q.2, up2_eq]; exact hv
      · rw [up2_ne _ _ q]; exact h.1.1.2.1 i j
    · show up2 (aS a).2.1 w o v i j = 0
      have hij' : (aS a).1 ≤ i ∨ (aS a).1 ≤ j := hij
      rw [up2_ne _ _ (fun q => by omega)]
      exact h.1.2.1 i j hij
    · rw [sI_v _ _ _ h1, sI_v _ _ _ (h3 w (by omega))]
    · rw [sI_eq]
    · rw [sI_v _ _ _ (by decide), sI_v _ _ _ (show vSt 0 0 ≠ vSt 0 (8 + w) by rw [hw14]; show 5 + 22 * 0 + 0 ≠ _; omega)]; exact hB.1
    · have hi14 : vSt 0 (8 + i) = 13 + i := by show 5 + 22 * 0 + (8 + i) = 13 + i; omega
      rw [sI_v _ _ _ (show vSt 0 (8 + i) ≠ vSt 0 3 by rw [hi14]; show _ ≠ 5 + 22 * 0 + 3; omega)]
      show _ = nI (up2 (aS a).2.1 w o v i j)
      by_cases q : i = w
      · subst q
        by_cases q2 : j = o
        · rw [q2, sI_eq, up2_eq]
        · rw [sI_i _ _ _ q2, up2_ne _ _ (fun z => q2 z.2)]; exact hB.2.1 i j hi hj
      · rw [sI_v _ _ _ (show vSt 0 (8 + i) ≠ vSt 0 (8 + w) by rw [hi14, hw14]; omega), up2_ne _ _ (fun z => q z.1)]; exact hB.2.1 i j hi hj
    · rw [sI_v _ _ _ (by decide), sI_v _ _ _ (show vSt 0 4 ≠ vSt 0 (8 + w) by rw [hw14]; show 5 + 22 * 0 + 4 ≠ _; omega)]; exact hB.2.2.1 i hi
    · rw [sI_v _ _ _ (by decide), sI_v _ _ _ (show vSt 0 1 ≠ vSt 0 (8 + w) by rw [hw14]; show 5 + 22 * 0 + 1 ≠ _; omega)]; exact hB.2.2.2.1
    · show up2 (aS a).2.1 w o v i j ≤ 9
      by_cases q : i = w ∧ j = o
      · rw [q.1, q.2, up2_eq]; exact hv
      · rw [up2_ne _ _ q]; exact h.1.1.2.1 i j
  · rw [sI_v _ _ _ (show u ≠ vSt 0 3 by show u ≠ 5 + 22 * 0 + 3; omega), sI_v _ _ _ (show u ≠ vSt 0 (8 + w) by rw [hw14]; omega)]
end OPS
