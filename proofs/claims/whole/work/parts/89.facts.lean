/-! What the shops know of each one; their rates. -/
theorem i_xor_and (x y z : Int32) : (x ^^^ y) &&& z = (x &&& z) ^^^ (y &&& z) := by
  apply Int32.toBitVec_inj.1
  rw [Int32.toBitVec_and, Int32.toBitVec_xor, Int32.toBitVec_xor, Int32.toBitVec_and, Int32.toBitVec_and]
  apply BitVec.eq_of_getLsbD_eq
  intro i hi
  rw [BitVec.getLsbD_and, BitVec.getLsbD_xor, BitVec.getLsbD_xor, BitVec.getLsbD_and, BitVec.getLsbD_and]
  cases x.toBitVec.getLsbD i <;> cases y.toBitVec.getLsbD i <;> cases z.toBitVec.getLsbD i <;> rfl
theorem m1_shr : ∀ k, k < 31 → (-1 : Int32) >>> (nI k &&& 31) = -1 := by decide
theorem i_nbit {s k : Nat} (hs : s < 2 ^ 31) (hk : k < 31) : (((nI s ^^^ (-1 : Int32)) >>> (nI k &&& 31)) &&& (1 : Int32)) = nI (bN (!s.testBit k)) := by
  rw [Int32.shiftRight_xor, m1_shr k hk, i_xor_and, i_bit hs (by omega)]
  cases s.testBit k <;> rfl
/-- is o on the shop's side -/
def onS (sh s o : Nat) : Bool := if sh = 1 then s.testBit o else !s.testBit o
def sdS (S : SP) (sh s i : Nat) : Nat := sm (fun o => bN (onS sh s o) * S.2.1 i o) S.1
def dN (S : SP) (i : Nat) : Nat := sm (fun o => bN (decide (0 < S.2.1 o i))) S.1
/-- the letters -/
def lvF (a : Ab) (sh s i : Nat) (j : Nat) : Int32 := if j = 0 then nI i else if j = 1 then nI ((aS a).2.2.1 i) else if j = 2 then nI (aPr a i) else if j = 3 then nI (allS (aS a) i) else if j = 4 then nI (sdS (aS a) sh s i) else if j = 5 then nI (byS (aS a) i) else nI (dN (aS a) i)
def FX (a : Ab) (μ : Mem) : Prop := ∀ i, i < (aS a).1 → ∀ j, j < 7 → j ≠ 4 → μ.1 (vFa i) j = lvF a 0 0 i j
def rIn (v : Nat) : Prop := (v = 82 ∨ v = 84 ∨ v = 86 ∨ v = 88 ∨ v = 90 ∨ v = 92) ∨ (118 ≤ v ∧ v ≤ 131)
def RG (μ μ' : Mem) : Prop := (∀ v, ¬ rIn v → μ'.1 v = μ.1 v) ∧ μ'.2 = μ.2
theorem RG.rf (μ : Mem) : RG μ μ := ⟨fun _ _ => rfl, rfl⟩
theorem RG.tr {a b c : Mem} (h : RG a b) (k : RG b c) : RG a c := ⟨fun v hv => (k.1 v hv).trans (h.1 v hv), k.2.trans h.2⟩
theorem RG.F (μ : Mem) {i : Nat} (hi : i < 14) (j : Nat) (x : Int32) : RG μ (setI μ (vFa i) j x) := ⟨fun v hv => sI_v _ _ _ (fun q => hv (by unfold rIn; rw [q]; have : vFa i = 118 + i := rfl; omega)), rfl⟩
theorem VF.RG {t : Nat} (ht : t < 3) {μ μ' : Mem} (h : VF t μ μ') : RG μ μ' := ⟨fun v hv => h.1 v (fun q => hv (by unfold rIn; rw [q]; have : vRu t 1 = 81 + 4 * t + 1 := rfl; omega)) (fun q => hv (by unfold rIn; rw [q]; have : vRu t 3 = 81 + 4 * t + 3 := rfl; omega)), h.2⟩
theorem sm_ext {f : Nat → Nat} {p : Nat} (h : ∀ j, p ≤ j → f j = 0) : ∀ n, p ≤ n → sm f n = sm f p
  | 0, hn => by rw [show p = 0 by omega]
  | n + 1, hn => by
    by_cases e : p = n + 1
    · rw [e]
    · rw [show sm f (n + 1) = sm f n + f n from rfl, h n (by omega), sm_ext h n (by omega)]; rfl
theorem dN_pc {S : SP} (hp : S.1 ≤ 14) {i : Nat} (hi : i < S.1) : pcN (hrs S (2 ^ i)) = dN S i := by
  unfold pcN dN
  rw [sm_ext (p := S.1) (fun j hj => by rw [tb_lt (hrs_lt S _) hj]; rfl) 14 hp]
  apply sm_congr
  intro o ho
  congr 1
  rw [Bool.eq_iff_iff, hrs_tb, decide_eq_true_iff]
  constructor
  · rintro ⟨_, j, h1, h2, h3⟩
    rw [Nat.testBit_two_pow, decide_eq_true_iff] at h3
    rw [h3]; exact h2
  · exact fun q => ⟨ho, i, hi, q, by rw [Nat.testBit_two_pow, decide_eq_true rfl]⟩
theorem lvF_4 (a : Ab) (sh s i : Nat) {j : Nat} (h : j ≠ 4) : lvF a sh s i j = lvF a 0 0 i j := by
  unfold lvF
  rw [if_neg h, if_neg h]
section OPS
variable {N : Nat} {a : Ab} {b : Nat × Nat} {μ0 μ : Mem} {Q : Nat} {S : SP} {U : Nat → List Nat}
theorem RG.IFr {μ' : Mem} (h : RG μ μ') : IFr μ μ' := ⟨fun v hv => h.1 v (fun q => hv (by unfold rIn at q; unfold inn; omega)), fun v _ => by rw [h.2]⟩
theorem XI.rg {μ' : Mem} (h : XI N b a μ0 μ) (hf : RG μ μ') : XI N b a μ0 μ' := ⟨h.1, hf.IFr.XP h.2.1, h.2.2.1.of (hf.IFr.st (by omega) (by omega)) (fun v h1 h2 => hf.1 v (by unfold rIn; omega)) (fun v _ _ => by rw [hf.2]) (by rw [hf.2]), h.2.2.2.tr hf.IFr.OFr⟩
theorem fa_ne {i j : Nat} (h : i ≠ j) : vFa i ≠ vFa j := by show 118 + i ≠ 118 + j; omega
/-- one's facts, told -/
def fa6 (μ : Mem) (i : Nat) (x0 x1 x2 x3 x5 x6 : Int32) : Mem := setI (setI (setI (setI (setI (setI μ (vFa i) 0 x0) (vFa i) 1 x1) (vFa i) 2 x2) (vFa i) 3 x3) (vFa i) 5 x5) (vFa i) 6 x6
theorem x_learn_st (h : XI N b a μ0 μ) {i g : Nat} (hi : i < (aS a).1) : ∃ μ', f_sh_learn_b2 (g + 1) (nI i) μ = f_sh_learn_b2 g (nI (i + 1)) μ' ∧ RG μ μ' ∧ (∀ k, k ≠ i → μ'.1 (vFa k) = μ.1 (vFa k)) ∧ ∀ j, j < 7 → j ≠ 4 → μ'.1 (vFa i) j = lvF a 0 0 i j := by
  have hp := h.2.1.1.2.2.2.2.1
  have r0 := RG.F μ (show i < 14 by omega) 0 (nI i)
  have g1 := h.rg r0
  have r1 := RG.F (setI μ (vFa i) 0 (nI i)) (show i < 14 by omega) 1 (nI ((aS a).2.2.1 i))
  have g2 := g1.rg r1
  have r2 := RG.F (setI (setI μ (vFa i) 0 (nI i)) (vFa i) 1 (nI ((aS a).2.2.1 i))) (show i < 14 by omega) 2 (nI (aPr a i))
  have g3 := g2.rg r2
  have r3 := RG.F (setI (setI (setI μ (vFa i) 0 (nI i)) (vFa i) 1 (nI ((aS a).2.2.1 i))) (vFa i) 2 (nI (aPr a i))) (show i < 14 by omega) 3 (nI (allS (aS a) i))
  have g4 := g3.rg r3
  have r5 := RG.F (setI (setI (setI (setI μ (vFa i) 0 (nI i)) (vFa i) 1 (nI ((aS a).2.2.1 i))) (vFa i) 2 (nI (aPr a i))) (vFa i) 3 (nI (allS (aS a) i))) (show i < 14 by omega) 5 (nI (byS (aS a) i))
  have g5 := g4.rg r5
  have r6 := RG.F (setI (setI (setI (setI (setI μ (vFa i) 0 (nI i)) (vFa i) 1 (nI ((aS a).2.2.1 i))) (vFa i) 2 (nI (aPr a i))) (vFa i) 3 (nI (allS (aS a) i))) (vFa i) 5 (nI (byS (aS a) i))) (show i < 14 by omega) 6 (nI (dN (aS a) i))
  have k0 : inb 0 7 = true := by decide
  have k1 : inb 1 7 = true := by decide
  have k2 : inb 2 7 = true := by decide
  have k3 : inb 3 7 = true := by decide
  have k5 : inb 5 7 = true := by decide
  have k6 : inb 6 7 = true := by decide
  have c0 : (0 : Int32).toNatClampNeg = 0 := rfl
  have c1 : (1 : Int32).toNatClampNeg = 1 := rfl
  have c2 : (2 : Int32).toNatClampNeg = 2 := rfl
  have c3 : (3 : Int32).toNatClampNeg = 3 := rfl
  have c5 : (5 : Int32).toNatClampNeg = 5 := rfl
  have c6 : (6 : Int32).toNatClampNeg = 6 := rfl
  have ki : inb (nI i) 14 = true := inb_n (by omega) (by omega)
  have ci : (nI i).toNatClampNeg = i := cl_nI (by omega)
  have hh : hrs (aS a) (2 ^ i) < 16384 := Nat.lt_of_lt_of_le (hrs_lt _ _) (Nat.pow_le_pow_right (by omega) hp)
  refine ⟨_, ?_, ((((r0.tr r1).tr r2).tr r3).tr r5).tr r6, fun k hk => ?_, fun j hj h4 => ?_⟩
  · rw [f_sh_learn_b2, h.2.1.1.1, if_neg (fun q => absurd ((i_leN (by omega) (by omega)).mp q) (by omega)), ki, chk_t, k0, chk_t, ci, c0, bnd_s, chk_t, chk_t, k1, chk_t, c1, g1.2.1.1.2.2.1 i hi, bnd_s, chk_t, chk_t, k2, chk_t, c2, g2.2.1.2.1.1 i hi, bnd_s, chk_t, st_allOf g3.2.1.1 (by omega), bd2_s, k3, chk_t, c3, bnd_s, chk_t, st_loudness g4.2.1.1 (by omega), bd2_s, k5, chk_t, c5, bnd_s, chk_t, i_one (by omega), st_hrs g5.2.1.1 (Nat.pow_lt_pow_right (by omega) hi), bd2_s, jd_bc hh, bd2_s, k6, chk_t, c6, bnd_s, dN_pc hp hi, l_1, i_add]
  · rw [sI_v _ _ _ (fa_ne hk), sI_v _ _ _ (fa_ne hk), sI_v _ _ _ (fa_ne hk), sI_v _ _ _ (fa_ne hk), sI_v _ _ _ (fa_ne hk), sI_v _ _ _ (fa_ne hk)]
  · have : j = 0 ∨ j = 1 ∨ j = 2 ∨ j = 3 ∨ j = 5 ∨ j = 6 := by omega
    rcases this with q | q | q | q | q | q
    · subst q; rw [sI_i _ _ _ (by decide), sI_i _ _ _ (by decide), sI_i _ _ _ (by decide), sI_i _ _ _ (by decide), sI_i _ _ _ (by decide), sI_eq]; rfl
    · subst q; rw [sI_i _ _ _ (by decide), sI_i _ _ _ (by decide), sI_i _ _ _ (by decide), sI_i _ _ _ (by decide), sI_eq]; rfl
    · subst q; rw [sI_i _ _ _ (by decide), sI_i _ _ _ (by decide), sI_i _ _ _ (by decide), sI_eq]; rfl
    · subst q; rw [sI_i _ _ _ (by decide), sI_i _ _ _ (by decide), sI_eq]; rfl
    · subst q; rw [sI_i _ _ _ (by decide), sI_eq]; rfl
    · subst q; rw [sI_eq]; rfl
theorem x_learn_lp : ∀ m i g (μ : Mem), XI N b a μ0 μ → i + m = (aS a).1 → m < g → (∀ k, k < i → ∀ j, j < 7 → j ≠ 4 → μ.1 (vFa k) j = lvF a 0 0 k j) → ∃ μ', f_sh_learn_b2 g (nI i) μ = some μ' ∧ RG μ μ' ∧ FX a μ'
  | 0, i, g + 1, μ, h, hi, _, hk => by
    have hp := h.2.1.1.2.2.2.2.1
    refine ⟨μ, ?_, RG.rf _, fun k hk' => hk k (by omega)⟩
    rw [f_sh_learn_b2, h.2.1.1.1, if_pos ((i_leN (by omega) (by omega)).mpr (by omega))]
  | m + 1, i, g + 1, μ, h, hi, hg, hk => by
    obtain ⟨μ1, k1, k2, k3, k4⟩ := x_learn_st (g := g) h (show i < (aS a).1 by omega)
    obtain ⟨μ', q1, q2, q3⟩ := x_learn_lp m (i + 1) g μ1 (h.rg k2) (by omega) (by omega) (fun k hk' j hj h4 => by
      by_cases e : k = i
      · rw [e]; exact k4 j hj h4
      · rw [k3 k e]; exact hk k (by omega) j hj h4)
    exact ⟨μ', by rw [k1, q1], k2.tr q2, q3⟩
theorem x_learn (h : XI N b a μ0 μ) : ∃ μ', f_sh_learn μ = some μ' ∧ RG μ μ' ∧ FX a μ' := x_learn_lp (aS a).1 0 FU μ h (by omega) (by have := h.2.1.1.2.2.2.2.1; unfold FU; omega) (fun k hk => absurd hk (by omega))
theorem st_side_lp (h : XB S μ) {k : Nat} {x : Int32} {g : Nat → Bool} (hk : k < 14) (hx : ∀ o, o < 14 → ((x >>> (nI o &&& 31)) &&& (1 : Int32)) = nI (bN (g o))) : ∀ m i n, i + m = S.1 → m < n → f_st_sumHeard_b5 n (nI k) x (nI (sm (fun i => bN (g i) * S.2.1 k i) i)) (nI i) μ = some (nI (sm (fun i => bN (g i) * S.2.1 k i) S.1), μ)
  | 0, i, n + 1, hi, _ => by
    have hp := h.2.2.2.2.1
    have e : i = S.1 := by omega
    subst e
    rw [f_st_sumHeard_b5, h.1, if_pos ((i_leN (by omega) (by omega)).mpr (Nat.le_refl _))]
  | m + 1, i, n + 1, hi, hn => by
    have hp := h.2.2.2.2.1
    rw [f_st_sumHeard_b5, h.1, if_neg (fun q => absurd ((i_leN (by omega) (by omega)).mp q) (by omega)), inb_n hk (by omega), chk_t, inb_n (show i < 14 by omega) (by omega), chk_t, cl_nI (show k < 2 ^ 31 by omega), cl_nI (show i < 2 ^ 31 by omega), hx i (by omega), h.2.1 k i hk (by omega), i_mul, i_add, bnd_s, l_1, i_add]
    exact st_side_lp h hk hx m (i + 1) n (by omega) (by omega)
theorem st_side (h : XB S μ) {k sh s : Nat} (hk : k < 14) (hsh : sh < 2) (hs : s < 2 ^ S.1) : f_st_sumHeard (nI k) (if nI sh = (1 : Int32) then nI s else nI s ^^^ (-1 : Int32)) μ = some (nI (sdS S sh s k), μ) := by
  have hp := h.2.2.2.2.1
  have hs' : s < 16384 := Nat.lt_of_lt_of_le hs (Nat.pow_le_pow_right (by omega) hp)
  refine st_side_lp (g := onS sh s) h hk (fun o ho => ?_) S.1 0 FU (by omega) (by unfold FU; omega)
  have : sh = 0 ∨ sh = 1 := by omega
  rcases this with q | q
  · subst q
    rw [if_neg (show ¬ nI 0 = (1 : Int32) by decide), i_nbit (by omega) (by omega)]
    rfl
  · subst q
    rw [if_pos (show nI 1 = (1 : Int32) from rfl), i_bit (by omega) (by omega)]
    rfl
/-- what a shop's rule says of one -/
def rtF (a : Ab) (U : Nat → List Nat) (sh s i : Nat) : Int32 := rvU (lvF a sh s i) (U sh)
theorem x_rate (h : XI N b a μ0 μ) (hU : XU U μ0) (hF : FX a μ) {sh s i : Nat} (hsh : sh < 2) (hi : i < (aS a).1) (hs : s < 2 ^ (aS a).1) : ∃ μ', f_sh_rate (nI sh) (nI i) (nI s) μ = some (rtF a U sh s i, μ') ∧ RG μ μ' ∧ FX a μ' := by
  have hp := h.2.1.1.2.2.2.2.1
  have r1 := RG.F μ (show i < 14 by omega) 4 (nI (sdS (aS a) sh s i))
  have h1 := h.rg r1
  obtain ⟨t, t1, t2, t3, t4⟩ := (hU.of h1.2.2.2).ix hsh
  have hf4 : ∀ j, j < 7 → (setI μ (vFa i) 4 (nI (sdS (aS a) sh s i))).1 (vFa i) j = lvF a sh s i j := fun j hj => by
    by_cases e : j = 4
    · rw [e, sI_eq]; rfl
    · rw [sI_i _ _ _ e, hF i hi j hj e, lvF_4 a sh s i e]
  obtain ⟨μ', k1, k2⟩ := ru_value (i := i) (lv := lvF a sh s i) t1 t4 t3 hf4
  refine ⟨μ', ?_, r1.tr (k2.RG t1), fun k hk j hj h4 => ?_⟩
  · unfold f_sh_rate
    have k4 : inb 4 7 = true := by decide
    have c4 : (4 : Int32).toNatClampNeg = 4 := rfl
    rw [inb_n (show i < 14 by omega) (by omega), chk_t, bnd_s, st_side h.2.1.1 (by omega) hsh hs, bd2_s, k4, chk_t, c4, cl_nI (show i < 2 ^ 31 by omega), bnd_s, inb_n hsh (by omega), chk_t, cl_nI (show sh < 2 ^ 31 by omega), t2, cl_nI (show t < 2 ^ 31 by omega), decide_eq_true t1, chk_t, chk_t, k1, bd2_s]
    rfl
  · rw [k2.1 (vFa k) (by show 118 + k ≠ 81 + 4 * t + 1; omega) (by show 118 + k ≠ 81 + 4 * t + 3; omega)]
    by_cases e : k = i
    · rw [e, sI_i _ _ _ h4]; exact hF i hi j hj h4
    · rw [sI_v _ _ _ (fa_ne e)]; exact hF k hk j hj h4
end OPS
