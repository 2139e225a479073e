/-! The law's own rows: its script, its locals, its numbers. -/
abbrev lwLs (X : Cx) (b : Nat) (i : Int32) : List (Nat × Value) := [(4, .int i), (3, .ref (gA (xG X) 134)), (2, .ref (gA (xG X) 111)), (1, .ref (gA (xG X) 0)), (0, .ref b)]
/-- the script, as the law's frame sees it -/
def Scr (X : Cx) (b L : Nat) (ys : Nat → Int32) : Prop := va_X b L ys (xs X) (xs X).heap ∧ b < (xs X).heap.size ∧ ¬ xA X b
section LR
variable {M : MD} {d : Nat} {X : Cx} {pc : Nat} {ls : List (Nat × Value)} {st : List Value} {μ : Mem} {dy : Nat → Nat} {b L : Nat} {ys : Nat → Int32}
theorem r_sld (hX : Ok M d X) (hq : Scr X b L ys) {i : Int32} (hin : vp_in i L) (hd : decode M.2.1 pc = .ok (.iaload, 1)) (k : AW X (pc + 1) ls (.int (ys i.toNatClampNeg) :: st) μ dy) : AW X pc ls (.int i :: .ref b :: st) μ dy :=
  fun H locs la hP hD hS hB h => va_sld hX.1 hX.2.1 hq.1 hq.2.1 hq.2.2 hS hin hd (k H locs la hP hD hS hB h)
theorem r_slen (hX : Ok M d X) (hq : Scr X b L ys) (hd : decode M.2.1 pc = .ok (.arraylength, 1)) (k : AW X (pc + 1) ls (.int (Int32.ofNat L) :: st) μ dy) : AW X pc ls (.ref b :: st) μ dy :=
  fun H locs la hP hD hS hB h => va_slen hX.1 hX.2.1 hq.1 hq.2.1 hq.2.2 hS hd (k H locs la hP hD hS hB h)
end LR
theorem lw_in {n L k : Nat} (h : n + k < L) (hL : L ≤ 2560) : vp_in (nI n + nI k) L := by
  rw [i_add]
  apply inb_in
  exact inb_n (by omega) (by omega)
theorem lw_gt {n L : Nat} (hn : n < 2 ^ 31) (hL : L ≤ 2560) (h : ¬ Int32.ofNat L - 5 < nI n) : n + 5 ≤ L := by
  by_cases h5 : 5 ≤ L
  · have e : Int32.ofNat L - 5 = nI (L - 5) := i_sub (a := L) (b := 5) h5
    rw [e, i_ltN (by omega) hn] at h
    omega
  · exfalso
    apply h
    have hk : ∀ k : Nat, k < 5 → Int32.ofNat k - 5 < 0 := by decide
    have h0 : (0 : Int32) ≤ nI n := (i_leN (a := 0) (b := n) (by omega) hn).mpr (Nat.zero_le _)
    exact Int32.lt_of_lt_of_le (hk L (by omega)) h0
theorem lg_self (x : Int64) : lg_cmp x x = 0 := (lg_cmp_eq x x).mpr rfl
