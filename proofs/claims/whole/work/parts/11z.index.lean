/-! String.indexOf of the eight texts. -/
def ixF2 (s : Nat) (x : Int32) : Nat → Nat → Int32
  | _, 0 => -1
  | k, m + 1 => if (sBy.getD s []).getD k 0 = x then nI k else ixF2 s x (k + 1) m
theorem ix_loop (s : Nat) (x : Int32) (μ : Mem) (hL : sLn.getD s 0 < 2 ^ 30) : ∀ (m n k : Nat), k + m = sLn.getD s 0 → m < n → f_jd_indexOfChar_J1_4cfef_b7 s n (nI (sLn.getD s 0)) x (nI k) μ = some (ixF2 s x k m, μ) := by
  intro m
  induction m with
  | zero =>
    intro n k hk hn
    obtain ⟨n, rfl⟩ : ∃ z, n = z + 1 := ⟨n - 1, by omega⟩
    rw [f_jd_indexOfChar_J1_4cfef_b7, if_pos ((nI_leI (by omega) (by omega)).mpr (by omega))]
    rfl
  | succ m ih =>
    intro n k hk hn
    obtain ⟨n, rfl⟩ : ∃ z, n = z + 1 := ⟨n - 1, by omega⟩
    rw [f_jd_indexOfChar_J1_4cfef_b7, if_neg (fun q => absurd ((nI_leI (by omega) (by omega)).mp q) (by omega)), inb_n (by omega) (by omega), chk_t, cl_nI (by omega)]
    rw [ixF2]
    by_cases h : (sBy.getD s []).getD k 0 = x
    · rw [if_pos h, if_pos h]
    · rw [if_neg h, if_neg h, nI_1]
      exact ih n (k + 1) (by omega) (by omega)
theorem by_small : ∀ s, s < 8 → (∀ b ∈ sBy.getD s [], ∃ j : Fin 128, b = nI j.val) ∧ (sBy.getD s []).length = sLn.getD s 0 ∧ sLn.getD s 0 < 100 := by decide +kernel
theorem by_eq : ∀ j : Fin 128, ∀ c : Fin 256, (nI j.val = (nI c.val).toInt8.toInt32 ↔ nI j.val = nI c.val) := by decide +kernel
theorem ix_eq (c : Int32) (x : Int32) : ∀ (l : List Int32) (k : Nat), (∀ b ∈ l, b = x ↔ b = c) → ∀ (s m : Nat), (∀ i, i < m → (sBy.getD s []).getD (k + i) 0 = l.getD i 0) → l.length = m → ixF2 s x k m = sIdxF c l (nI k) := by
  intro l
  induction l with
  | nil => intro k _ s m _ hl; subst hl; rfl
  | cons b l ih =>
    intro k h s m hm hl
    subst hl
    have h0 := hm 0 (by simp)
    have hb := h b List.mem_cons_self
    rw [List.length_cons, ixF2, sIdxF]
    rw [show k + 0 = k from rfl] at h0
    rw [h0]
    show (if b = x then _ else _) = _
    by_cases e : b = x
    · rw [if_pos e, if_pos (hb.mp e)]
    · rw [if_neg e, if_neg (fun q => e (hb.mpr q)), nI_1]
      refine ih (k + 1) (fun b' hb' => h b' (List.mem_cons_of_mem _ hb')) s l.length (fun i hi => ?_) rfl
      have := hm (i + 1) (by simp; omega)
      rw [show k + (i + 1) = k + 1 + i by omega] at this
      rw [this]
      rfl
theorem ix_none (c : Int32) : ∀ (l : List Int32) (k : Int32), (∀ b ∈ l, ¬ b = c) → sIdxF c l k = -1 := by
  intro l
  induction l with
  | nil => intro k _; rfl
  | cons b l ih =>
    intro k h
    rw [sIdxF, if_neg (h b List.mem_cons_self)]
    exact ih _ (fun b' hb' => h b' (List.mem_cons_of_mem _ hb'))
theorem f_indexOf {s : Nat} (hs : s < 8) {c : Int32} (hc : chr16 c = true) (μ : Mem) : f_jd_indexOf_J0_0f7a4 s c μ = some (sIdx s c, μ) := by
  obtain ⟨h1, h2, h3⟩ := by_small s hs
  obtain ⟨c0, c1⟩ := of_decide_eq_true hc
  obtain ⟨j, hj, rfl⟩ := nI_of2 (x := c) (M := 65535) (n := 65535) rfl (fun q => absurd c0 (by rw [i_le]; rw [i_lt] at q; omega)) c1
  have hlen : f_jd_length_J0_8abf5 s μ = some (nI (sLn.getD s 0), μ) := by
    unfold f_jd_length_J0_8abf5 f_jd_coder
    rw [if_neg (by decide), bnd_s, zb_0, chk_t, bd2_s]
    rw [show ((0 : Int32) &&& 31) = 0 from rfl]
    have : Int32.ofNat (sLn.getD s 0) >>> (0 : Int32) = nI (sLn.getD s 0) := by
      have := pk_shrN (n := sLn.getD s 0) (by omega) (0 : Int32) 0 (by decide)
      rw [show nI (sLn.getD s 0) = Int32.ofNat (sLn.getD s 0) from rfl] at *
      rw [this]
      simp [nI]
    rw [this]
  have hlat : f_jd_isLatin1_J0_aae02 s μ = some (1, μ) := by
    unfold f_jd_isLatin1_J0_aae02
    rw [if_neg (by decide), if_pos rfl, bnd_s, zb_1, chk_t]
  unfold f_jd_indexOf_J0_0f7a4 f_jd_indexOf_J0_7cf53
  rw [hlat, bd2_s, if_neg (by decide), hlen, bd2_s]
  unfold f_jd_indexOf_J1_4cfef f_jd_canEncode_J1_9a6ad
  by_cases hb : j < 256
  · rw [if_neg (i_nlt0 (by omega)), if_neg (show ¬ (255 : Int32) < nI j from fun q => absurd ((nI_ltI (a := 255) (b := j) (by omega) (by omega)).mp q) (by omega)), bnd_s, zb_1, chk_t, bd2_s, if_neg (by decide), bnd_s]
    have e1 : imin (nI (sLn.getD s 0)) (Int32.ofNat (sLn.getD s 0)) = nI (sLn.getD s 0) := by
      unfold imin
      split <;> rfl
    have e2 : imax (0 : Int32) (0 : Int32) = nI 0 := rfl
    rw [e1, e2]
    by_cases h0 : 0 < sLn.getD s 0
    · rw [if_pos ((nI_ltI (by omega) (by omega)).mpr h0)]
      unfold f_jd_indexOfChar_J1_4cfef
      rw [ix_loop s _ μ (by omega) (sLn.getD s 0) FU 0 (by omega) (by unfold FU; omega), bd2_s, bd2_s, bd2_s]
      unfold sIdx
      rw [ix_eq (nI j) _ (sBy.getD s []) 0 (fun b hb' => ?_) s (sLn.getD s 0) (fun i hi => by rw [Nat.zero_add]) h2]
      · rfl
      · obtain ⟨q, rfl⟩ := h1 b hb'
        exact by_eq q ⟨j, hb⟩
    · rw [if_neg (fun q => h0 ((nI_ltI (by omega) (by omega)).mp q)), bd2_s, bd2_s]
      unfold sIdx
      have : sBy.getD s [] = [] := List.length_eq_zero_iff.mp (by omega)
      rw [this]
      rfl
  · rw [if_neg (i_nlt0 (by omega)), if_pos (show (255 : Int32) < nI j from (nI_ltI (a := 255) (b := j) (by omega) (by omega)).mpr (by omega)), bnd_s, zb_0, chk_t, bd2_s, if_pos rfl, bd2_s, bd2_s]
    unfold sIdx
    rw [ix_none (nI j) (sBy.getD s []) 0 (fun b hb' => ?_)]
    obtain ⟨q, rfl⟩ := h1 b hb'
    intro e
    have := (nI_eq (by have := q.isLt; omega) (by omega)).mp e
    have := q.isLt
    omega
section IP
variable {M : MD} {d : Nat} {X : Cx} {pc : Nat} {ls : List (Nat × Value)} {st : List Value} {μ μ1 : Mem} {dy : Nat → Nat}
theorem r_indexOf (hX : Ok M (d + 8) X) {idx s : Nat} {c v : Int32} (hs : s < 8) (hw : CV M.2.2.2.2 idx M_jd_indexOf_J0_0f7a4 1) (hc : chr16 c = true) (he : v = sIdx s c) (hroom : Nat.ble ((st.map fun v => v.category).sum) 8 = true) (hd : decode M.2.1 pc = .ok (.invokevirtual idx, 3)) (kk : ∀ dy, AW X (pc + 3) ls (.int v :: st) μ dy) : AW X pc ls (.int c :: .ref (gK (xG X) s) :: st) μ dy := by
  subst he
  exact r_callVSI (Ok.le hX (by omega)) hs (c_jd_indexOf_J0_0f7a4 (d := d) hs (f_indexOf hs hc μ)) hw rfl (st := st) rfl rfl hroom hd kk
end IP
