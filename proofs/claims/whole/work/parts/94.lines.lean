/-! A STREET's LINES: read once. The class reads. -/
abbrev LN : Type := Sum (Bool × Nat × Nat × Bool) (Nat × Bool × Nat × Nat)
section RD
variable (t : List Nat) (L : Nat)
def rdP (th k : Nat) : Nat × Option LN :=
  if th < 14 then (if (pNumL t L 2 (k + 1) 0).1 = k + 1 then (k + 1, none)
    else if cu t L (pNumL t L 2 (k + 1) 0).1 = 44 then
      (if (pNumL t L 1 ((pNumL t L 2 (k + 1) 0).1 + 1) 0).1 = (pNumL t L 2 (k + 1) 0).1 + 1 then ((pNumL t L 2 (k + 1) 0).1 + 1, none)
        else ((pNumL t L 1 ((pNumL t L 2 (k + 1) 0).1 + 1) 0).1 + bN (decide (cu t L (pNumL t L 1 ((pNumL t L 2 (k + 1) 0).1 + 1) 0).1 = 33)), some (Sum.inl (decide (cu t L k = 98), (pNumL t L 2 (k + 1) 0).2, (pNumL t L 1 ((pNumL t L 2 (k + 1) 0).1 + 1) 0).2, decide (cu t L (pNumL t L 1 ((pNumL t L 2 (k + 1) 0).1 + 1) 0).1 = 33)))))
    else ((pNumL t L 2 (k + 1) 0).1, none))
  else (k, none)
def rdS (th : Nat) (be : Option Nat) (k : Nat) : Nat × Option Nat :=
  if (pNumL t L 2 k 0).1 = k then (k, none) else if th ≤ (pNumL t L 2 k 0).2 ∨ some (pNumL t L 2 k 0).2 = be then ((pNumL t L 2 k 0).1 - 1, none) else ((pNumL t L 2 k 0).1, some (pNumL t L 2 k 0).2)
def rdB (th o k : Nat) (both : Bool) : Nat × Option LN := match rdS t L th (some o) k with
  | (k2, none) => (k2, none)
  | (k2, some w) => if cu t L k2 = 42 then (if (pNumL t L 1 (k2 + 1) 0).1 = k2 + 1 then (k2 + 1, none) else ((pNumL t L 1 (k2 + 1) 0).1, some (Sum.inr (o, both, w, (pNumL t L 1 (k2 + 1) 0).2)))) else (k2, none)
def rdA (th k : Nat) : Nat × Option LN := match rdS t L th none k with
  | (k1, none) => (k1, none)
  | (k1, some o) => if cu t L k1 = 45 then rdB t L th o (k1 + 1) true else if cu t L k1 = 62 then rdB t L th o (k1 + 1) false else (k1, none)
def rdL (th k : Nat) : Nat × Option LN := if cu t L k = 98 ∨ cu t L k = 110 then rdP t L th k else rdA t L th k
end RD
def isPn : LN → Nat
  | Sum.inl _ => 1
  | Sum.inr _ => 0
/-- all LINES: was it well, where, which -/
def rdAll (t : List Nat) (L len : Nat) : Nat → Nat → Nat → Bool × Nat × List LN
  | 0, _, k => (false, k, [])
  | m + 1, th, k => match rdL t L th k with
    | (k1, none) => (false, k1, [])
    | (k1, some l) => if k1 < L then (if cu t L k1 = 59 then ((rdAll t L len m (th + isPn l) (k1 + 1)).1, (rdAll t L len m (th + isPn l) (k1 + 1)).2.1, l :: (rdAll t L len m (th + isPn l) (k1 + 1)).2.2) else (false, k1, [l])) else (if len ≤ L then (true, k1, [l]) else (false, L, [l]))
/-- a LINE told -/
def ap1 (a : Ab) : LN → Ab
  | Sum.inl (bl, nd, pr, fi) => ((((aS a).1 + 1, (aS a).2.1, fnu (aS a).2.2.1 (aS a).1 nd, (aS a).2.2.2 ||| (bN fi * 2 ^ (aS a).1)) : SP), fnu (aPr a) (aS a).1 pr, (0, fun _ => aN a ||| (bN bl * 2 ^ (aS a).1)), a.2.2.2)
  | Sum.inr (o, both, w, v) => aSetS a ((aS a).1, (if both then up2 (up2 (aS a).2.1 w o v) o w v else up2 (aS a).2.1 w o v), (aS a).2.2.1, (aS a).2.2.2)
section SRD
variable {t : List Nat} {L len th k : Nat} {tl : Bool} {μ : Mem}
theorem pNumL_le : ∀ m k v, k ≤ L → k ≤ (pNumL t L m k v).1 ∧ (pNumL t L m k v).1 ≤ L ∧ (pNumL t L m k v).1 ≤ k + m
  | 0, k, v, h => ⟨Nat.le_refl _, h, Nat.le_refl _⟩
  | m + 1, k, v, h => by
    rw [pNumL]
    by_cases c : 48 ≤ cu t L k ∧ cu t L k ≤ 57
    · rw [if_pos c]
      have hk : k < L := cu_L (t := t) (by omega)
      have := pNumL_le m (k + 1) (v * 10 + cu t L k - 48) (by omega)
      omega
    · rw [if_neg c]; exact ⟨Nat.le_refl _, h, by show k ≤ k + (m + 1); omega⟩
theorem pNumL_v : ∀ m k v, (pNumL t L m k v).2 < (v + 1) * 10 ^ m
  | 0, k, v => by rw [pNumL]; show v < (v + 1) * 1; omega
  | m + 1, k, v => by
    rw [pNumL]
    by_cases c : 48 ≤ cu t L k ∧ cu t L k ≤ 57
    · rw [if_pos c]
      have := pNumL_v m (k + 1) (v * 10 + cu t L k - 48)
      have h2 : (v * 10 + cu t L k - 48 + 1) * 10 ^ m ≤ (v + 1) * 10 * 10 ^ m := Nat.mul_le_mul_right _ (by omega)
      rw [Nat.pow_succ, Nat.mul_comm (10 ^ m) 10, ← Nat.mul_assoc]
      exact Nat.lt_of_lt_of_le this h2
    · rw [if_neg c]
      show v < (v + 1) * 10 ^ (m + 1)
      have := Nat.one_le_two_pow (n := 0)
      have h3 : 1 ≤ 10 ^ (m + 1) := Nat.one_le_pow _ _ (by omega)
      exact Nat.lt_of_lt_of_le (Nat.lt_succ_self v) (Nat.le_mul_of_pos_right _ h3)
def FS (μ μ' : Mem) : Prop := (∀ v, ¬ (71 ≤ v ∧ v ≤ 76) → μ'.1 v = μ.1 v) ∧ μ'.2 = μ.2
theorem FS.rf (μ : Mem) : FS μ μ := ⟨fun _ _ => rfl, rfl⟩
theorem FS.tr {a b c : Mem} (h : FS a b) (k : FS b c) : FS a c := ⟨fun v hv => (k.1 v hv).trans (h.1 v hv), k.2.trans h.2⟩
def SRs (t : List Nat) (L len th k : Nat) (tl : Bool) (μ : Mem) : Prop := ((L = min len 76 ∧ len ≤ 80) ∧ ∀ j, t.getD j 0 < 256) ∧ μ.1 v_sr_text 0 = 1 ∧ μ.1 v_sr_limit 0 = nI L ∧ μ.1 v_sr_length 0 = nI len ∧ (∀ j, j < L → μ.1 v_x_text j = nI (t.getD j 0)) ∧ μ.1 v_sr_at 0 = nI k ∧ μ.1 v_sr_there 0 = nI th ∧ μ.1 v_sr_telling 0 = nI (bN tl)
theorem SRs.at_ (h : SRs t L len th k tl μ) (k' : Nat) : SRs t L len th k' tl (setI μ v_sr_at 0 (nI k')) := by
  obtain ⟨h1, h2, h3, h4, h5, h6, h7, h8⟩ := h
  exact ⟨h1, by rw [sI_v _ _ _ (by decide)]; exact h2, by rw [sI_v _ _ _ (by decide)]; exact h3, by rw [sI_v _ _ _ (by decide)]; exact h4, fun j hj => by rw [sI_v _ _ _ (by decide)]; exact h5 j hj, sI_eq _ _ _ _, by rw [sI_v _ _ _ (by decide)]; exact h7, by rw [sI_v _ _ _ (by decide)]; exact h8⟩
theorem SRs.th_ (h : SRs t L len th k tl μ) (th' : Nat) : SRs t L len th' k tl (setI μ v_sr_there 0 (nI th')) := by
  obtain ⟨h1, h2, h3, h4, h5, h6, h7, h8⟩ := h
  exact ⟨h1, by rw [sI_v _ _ _ (by decide)]; exact h2, by rw [sI_v _ _ _ (by decide)]; exact h3, by rw [sI_v _ _ _ (by decide)]; exact h4, fun j hj => by rw [sI_v _ _ _ (by decide)]; exact h5 j hj, by rw [sI_v _ _ _ (by decide)]; exact h6, sI_eq _ _ _ _, by rw [sI_v _ _ _ (by decide)]; exact h8⟩
theorem SRs.of {μ' : Mem} (h : SRs t L len th k tl μ) (e : ∀ v, (v = v_x_text ∨ (71 ≤ v ∧ v ≤ 76)) → μ'.1 v = μ.1 v) : SRs t L len th k tl μ' := by
  obtain ⟨h1, h2, h3, h4, h5, h6, h7, h8⟩ := h
  exact ⟨h1, by rw [e _ (by decide)]; exact h2, by rw [e _ (by decide)]; exact h3, by rw [e _ (by decide)]; exact h4, fun j hj => by rw [e _ (by decide)]; exact h5 j hj, by rw [e _ (by decide)]; exact h6, by rw [e _ (by decide)]; exact h7, by rw [e _ (by decide)]; exact h8⟩
theorem FS.at_ (μ : Mem) (x : Int32) : FS μ (setI μ v_sr_at 0 x) := ⟨fun v hv => sI_v _ _ _ (fun q => hv (by rw [q]; decide)), rfl⟩
theorem FS.th_ (μ : Mem) (x : Int32) : FS μ (setI μ v_sr_there 0 x) := ⟨fun v hv => sI_v _ _ _ (fun q => hv (by rw [q]; decide)), rfl⟩
theorem SRs.L76 (h : SRs t L len th k tl μ) : L ≤ 76 := by have := h.1.1; omega
theorem sr_next (h : SRs t L len th k tl μ) (hk : k ≤ L) {c : Nat} (hc : c < 256) : f_sr_isNext (nI c) μ = some (nI (bN (decide (cu t L k = c))), μ) := by
  have h76 := h.L76
  obtain ⟨h1, h2, h3, h4, h5, h6, h7, h8⟩ := h
  unfold f_sr_isNext
  rw [h3, h6]
  by_cases d : k < L
  · have hcu : cu t L k = t.getD k 0 := if_pos d
    rw [if_neg (fun q => absurd ((i_leN (by omega) (by omega)).mp q) (by omega)), h2, if_pos rfl, inb_n (by omega) (by omega), chk_t, cl_nI (by omega), h5 k d, hcu]
    by_cases e : t.getD k 0 = c
    · rw [if_pos (by rw [e]), bnd_s, zb_1, chk_t, decide_eq_true e]; rfl
    · rw [if_neg (fun q => e (nI_inj (by have := h1.2 k; omega) (by omega) q)), bnd_s, zb_0, chk_t, decide_eq_false e]; rfl
  · have hcu : cu t L k = 256 := if_neg d
    rw [if_pos ((i_leN (by omega) (by omega)).mpr (by omega)), zb_0, chk_t, hcu, decide_eq_false (by omega)]
    rfl
theorem sr_take (h : SRs t L len th k tl μ) (hk : k ≤ L) {c : Nat} (hc : c < 256) : ∃ μ', f_sr_take (nI c) μ = some (nI (bN (decide (cu t L k = c))), μ') ∧ SRs t L len th (k + bN (decide (cu t L k = c))) tl μ' ∧ FS μ μ' := by
  unfold f_sr_take
  rw [sr_next h hk hc, bd2_s]
  by_cases d : cu t L k = c
  · rw [decide_eq_true d, if_neg (show ¬ nI (bN true) = 0 by decide), h.2.2.2.2.2.1, l_1, i_add, bnd_s]
    exact ⟨_, by rw [show nI 1 = (1 : Int32) from rfl, zb_1, chk_t]; rfl, h.at_ (k + 1), FS.at_ _ _⟩
  · rw [decide_eq_false d, if_pos (show nI (bN false) = 0 by decide)]
    exact ⟨μ, by rw [zb_0, chk_t]; rfl, h, FS.rf _⟩
theorem sr_digit (h : SRs t L len th k tl μ) (hk : k ≤ L) : ∃ μ', f_sr_digit μ = some (if 48 ≤ cu t L k ∧ cu t L k ≤ 57 then nI (cu t L k - 48) else -1, μ') ∧ SRs t L len th (if 48 ≤ cu t L k ∧ cu t L k ≤ 57 then k + 1 else k) tl μ' ∧ FS μ μ' := by
  have hs := h
  have h76 := h.L76
  obtain ⟨h1, h2, h3, h4, h5, h6, h7, h8⟩ := h
  have hlt := h1.2 k
  unfold f_sr_digit
  rw [h3, h6]
  by_cases d : k < L
  · have hcu : cu t L k = t.getD k 0 := if_pos d
    rw [if_neg (fun q => absurd ((i_leN (by omega) (by omega)).mp q) (by omega)), h2, if_pos rfl, inb_n (by omega) (by omega), chk_t, cl_nI (by omega), h5 k d, hcu]
    by_cases e : 48 ≤ t.getD k 0
    · rw [if_neg (show ¬ nI (t.getD k 0) < (48 : Int32) from fun q => absurd ((i_ltN (b := 48) (by omega) (by omega)).mp q) (by omega)), if_pos rfl, chk_t]
      by_cases g : t.getD k 0 ≤ 57
      · refine ⟨_, ?_, by rw [if_pos ⟨e, g⟩]; exact hs.at_ (k + 1), FS.at_ _ _⟩
        rw [if_pos (show nI (t.getD k 0) ≤ (57 : Int32) from (i_leN (b := 57) (by omega) (by omega)).mpr g), if_pos rfl, l_1, i_add, bnd_s, chk_t, sI_v _ _ _ (by decide), h5 k d, if_pos ⟨e, g⟩, show (48 : Int32) = nI 48 from rfl, i_sub e]
      · refine ⟨μ, ?_, by rw [if_neg (fun q => g q.2)]; exact hs, FS.rf _⟩
        rw [if_neg (show ¬ nI (t.getD k 0) ≤ (57 : Int32) from fun q => g ((i_leN (b := 57) (by omega) (by omega)).mp q)), if_neg (fun q => g q.2)]
    · refine ⟨μ, ?_, by rw [if_neg (fun q => e q.1)]; exact hs, FS.rf _⟩
      rw [if_pos (show nI (t.getD k 0) < (48 : Int32) from (i_ltN (b := 48) (by omega) (by omega)).mpr (by omega)), if_neg (fun q => e q.1)]
  · have hcu : cu t L k = 256 := if_neg d
    refine ⟨μ, ?_, by rw [hcu, if_neg (by omega)]; exact hs, FS.rf _⟩
    rw [if_pos ((i_leN (by omega) (by omega)).mpr (by omega)), hcu, if_neg (by omega)]
theorem sr_dig1 (h : SRs t L len th k tl μ) (hk : k ≤ L) : ∃ μ', f_sr_digit μ = some (if (pNumL t L 1 k 0).1 = k then -1 else nI (pNumL t L 1 k 0).2, μ') ∧ SRs t L len th (pNumL t L 1 k 0).1 tl μ' ∧ FS μ μ' := by
  obtain ⟨μ', k1, k2, k3⟩ := sr_digit h hk
  have e : pNumL t L 1 k 0 = if 48 ≤ cu t L k ∧ cu t L k ≤ 57 then (k + 1, 0 * 10 + cu t L k - 48) else (k, 0) := by
    rw [pNumL, pNumL]
  refine ⟨μ', ?_, ?_, k3⟩
  · rw [k1, e]
    by_cases c : 48 ≤ cu t L k ∧ cu t L k ≤ 57
    · rw [if_pos c, if_pos c, if_neg (show ¬ k + 1 = k by omega), show 0 * 10 + cu t L k - 48 = cu t L k - 48 by omega]
    · rw [if_neg c, if_neg c, if_pos rfl]
  · rw [e]
    by_cases c : 48 ≤ cu t L k ∧ cu t L k ≤ 57
    · rw [if_pos c] at k2 ⊢; exact k2
    · rw [if_neg c] at k2 ⊢; exact k2
theorem sr_number (h : SRs t L len th k tl μ) (hk : k ≤ L) : ∃ μ', f_sr_number μ = some (if (pNumL t L 2 k 0).1 = k then -1 else nI (pNumL t L 2 k 0).2, μ') ∧ SRs t L len th (pNumL t L 2 k 0).1 tl μ' ∧ FS μ μ' := by
  obtain ⟨μ1, k1, k2, k3⟩ := sr_digit h hk
  have e : pNumL t L 2 k 0 = if 48 ≤ cu t L k ∧ cu t L k ≤ 57 then (if 48 ≤ cu t L (k + 1) ∧ cu t L (k + 1) ≤ 57 then (k + 1 + 1, (0 * 10 + cu t L k - 48) * 10 + cu t L (k + 1) - 48) else (k + 1, 0 * 10 + cu t L k - 48)) else (k, 0) := by
    rw [pNumL, pNumL, pNumL]
  unfold f_sr_number
  rw [k1, bd2_s, e]
  by_cases c : 48 ≤ cu t L k ∧ cu t L k ≤ 57
  · have hk1 : k < L := cu_L (t := t) (by omega)
    rw [if_pos c, if_pos c] 
    rw [if_pos c] at k2
    obtain ⟨μ2, q1, q2, q3⟩ := sr_digit k2 (by omega)
    rw [if_pos (show (0 : Int32) ≤ nI (cu t L k - 48) from (i_leN (a := 0) (by omega) (by omega)).mpr (Nat.zero_le _)), q1, bd2_s]
    unfold f_sr_number_b17
    by_cases d : 48 ≤ cu t L (k + 1) ∧ cu t L (k + 1) ≤ 57
    · rw [if_pos d] at q2
      rw [if_pos d, if_pos d, if_pos (show (0 : Int32) ≤ nI (cu t L (k + 1) - 48) from (i_leN (a := 0) (by omega) (by omega)).mpr (Nat.zero_le _)), bnd_s]
      refine ⟨μ2, ?_, q2, k3.tr q3⟩
      rw [if_neg (show ¬ k + 1 + 1 = k by omega), show (10 : Int32) = nI 10 from rfl, i_mul, i_add]
      congr 3
      omega
    · rw [if_neg d] at q2
      rw [if_neg d, if_neg d, if_neg (by decide), bnd_s]
      refine ⟨μ2, ?_, q2, k3.tr q3⟩
      rw [if_neg (show ¬ k + 1 = k by omega), show 0 * 10 + cu t L k - 48 = cu t L k - 48 by omega]
  · rw [if_neg c, if_neg c, if_neg (by decide)]
    rw [if_neg c] at k2
    unfold f_sr_number_b17
    rw [if_neg (by decide), bnd_s]
    exact ⟨μ1, by rw [if_pos rfl], k2, k3⟩
def bI (o : Option Nat) : Int32 := oI o
theorem sr_some (h : SRs t L len th k tl μ) (hk : k ≤ L) (hth : th ≤ 14) {be : Option Nat} (hbe : ∀ x, be = some x → x < 14) : ∃ μ', f_sr_someoneBut (oI be) μ = some (oI (rdS t L th be k).2, μ') ∧ SRs t L len th (rdS t L th be k).1 tl μ' ∧ FS μ μ' := by
  obtain ⟨μ1, k1, k2, k3⟩ := sr_number h hk
  have h76 := h.L76
  have hv : (pNumL t L 2 k 0).2 < 100 := pNumL_v 2 k 0
  have hp := pNumL_le (t := t) 2 k 0 hk
  unfold f_sr_someoneBut
  rw [k1, bd2_s, k2.2.2.2.2.2.2.1]
  unfold rdS
  by_cases c : (pNumL t L 2 k 0).1 = k
  · rw [if_pos c, if_pos c, if_neg (nI_nle_m1 (by omega)), if_pos (by decide)]
    rw [c] at k2
    exact ⟨μ1, rfl, k2, k3⟩
  · rw [if_neg c, if_neg c]
    have back : ∃ μ', f_sr_someoneBut_b22 μ1 = some (oI none, μ') ∧ SRs t L len th ((pNumL t L 2 k 0).1 - 1) tl μ' ∧ FS μ μ' := by
      unfold f_sr_someoneBut_b22
      rw [k2.2.2.2.2.2.1, show nI (pNumL t L 2 k 0).1 - (1 : Int32) = nI ((pNumL t L 2 k 0).1 - 1) from i_sub (b := 1) (by omega), bnd_s]
      exact ⟨_, rfl, k2.at_ _, k3.tr (FS.at_ _ _)⟩
    by_cases d : th ≤ (pNumL t L 2 k 0).2
    · rw [if_pos ((i_leN (by omega) (by omega)).mpr d), if_pos (Or.inl d)]
      exact back
    · rw [if_neg (fun q => d ((i_leN (by omega) (by omega)).mp q)), if_neg (i_nlt0 (by omega))]
      by_cases e : some (pNumL t L 2 k 0).2 = be
      · rw [if_pos (show nI (pNumL t L 2 k 0).2 = oI be by rw [← e]; rfl), if_pos (Or.inr e)]
        exact back
      · have hne : ¬ nI (pNumL t L 2 k 0).2 = oI be := fun q => by
          cases hb : be with
          | none => rw [hb] at q; exact nI_ne_m1 (by omega) q
          | some x =>
            rw [hb] at q e
            have := hbe x hb
            exact e (congrArg some (nI_inj (by omega) (by omega) q))
        rw [if_neg hne, if_neg (fun q => by rcases q with q | q; exact d q; exact e q)]
        exact ⟨μ1, rfl, k2, k3⟩
end SRD
