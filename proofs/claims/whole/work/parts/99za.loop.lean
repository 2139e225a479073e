/-! The law's loop. (printed by law_z.py) -/
section LL
variable {X : Cx} {b L : Nat} {ys : Nat → Int32}
set_option maxHeartbeats 1000000 in
theorem law_disp {j N : Nat} {a : Ab} {U : Nat → List Nat} {μ : Mem} (hX : Ok M_lw_law 2047 X) (hE : EXT (xA X) (xs X) (xs X).heap) (hfl : (xl X).flags = flags0) (hq : Scr X b L ys) (i0 : vp_in (nI (5 * j)) L) (i1 : vp_in (nI (5 * j) + 1) L) (i2 : vp_in (nI (5 * j) + 2) L) (i3 : vp_in (nI (5 * j) + 3) L) (i4 : vp_in (nI (5 * j) + 4) L) (h1 : One N a U μ) (hN : N < 600)
    (kk : ∀ N' a' U' μ' dy', N' ≤ N + 1 → One N' a' U' μ' → AW X 1569 (lwLs X b (nI (5 * j))) [] μ' dy') (dy : Nat → Nat) : AW X 32 (lwLs X b (nI (5 * j))) [] μ dy := by
  have hk : ∀ a' U' μ' dy', One (N + 1) a' U' μ' → AW X 1569 (lwLs X b (nI (5 * j))) [] μ' dy' := fun a' U' μ' dy' h => kk (N + 1) a' U' μ' dy' (Nat.le_refl _) h
  refine r_aload_n hX dL_32 4 rfl ?_
  refine r_iload hX dL_33 0 rfl ?_
  refine r_sld hX hq i0 dL_35 ?_
  refine r_bipush hX (63 : Int32) dL_36 rfl ?_
  refine r_iand hX dL_38 ?_
  generalize ys (nI (5 * j)).toNatClampNeg &&& 63 = x
  by_cases h9 : x.toInt < 0 ∨ 46 < x.toInt
  · exact r_tabOut hX 1569 dL_39 h9 rfl (kk N a U μ dy (by omega) h1)
  have hx : ∃ z : Nat, z < 47 ∧ x.toInt = (z : Int) := ⟨x.toInt.toNat, by omega, by omega⟩
  obtain ⟨z, hz, hx⟩ := hx
  match z, hz, hx with
  | 0, _, hx => exact r_tabIn hX 240 dL_39 (by rw [hx]; decide) (by rw [hx]; decide) (by rw [hx]; rfl) rfl (law_c0 hX hE hfl hq i1 i2 i3 i4 h1 hN hk dy)
  | 1, _, hx => exact r_tabIn hX 265 dL_39 (by rw [hx]; decide) (by rw [hx]; decide) (by rw [hx]; rfl) rfl (law_c1 hX hE hfl hq i1 i2 i3 i4 h1 hN hk dy)
  | 2, _, hx => exact r_tabIn hX 290 dL_39 (by rw [hx]; decide) (by rw [hx]; decide) (by rw [hx]; rfl) rfl (law_c2 hX hE hfl hq i1 i2 i3 i4 h1 hN hk dy)
  | 3, _, hx => exact r_tabIn hX 303 dL_39 (by rw [hx]; decide) (by rw [hx]; decide) (by rw [hx]; rfl) rfl (law_c3 hX hE hfl hq i1 i2 i3 i4 h1 hN hk dy)
  | 4, _, hx => exact r_tabIn hX 371 dL_39 (by rw [hx]; decide) (by rw [hx]; decide) (by rw [hx]; rfl) rfl (law_c4 hX hE hfl hq i1 i2 i3 i4 h1 hN hk dy)
  | 5, _, hx => exact r_tabIn hX 420 dL_39 (by rw [hx]; decide) (by rw [hx]; decide) (by rw [hx]; rfl) rfl (law_c5 hX hE hfl hq i1 i2 i3 i4 h1 hN hk dy)
  | 6, _, hx => exact r_tabIn hX 457 dL_39 (by rw [hx]; decide) (by rw [hx]; decide) (by rw [hx]; rfl) rfl (law_c6 hX hE hfl hq i1 i2 i3 i4 h1 hN hk dy)
  | 7, _, hx => exact r_tabIn hX 518 dL_39 (by rw [hx]; decide) (by rw [hx]; decide) (by rw [hx]; rfl) rfl (law_c7 hX hE hfl hq i1 i2 i3 i4 h1 hN hk dy)
  | 8, _, hx => exact r_tabIn hX 531 dL_39 (by rw [hx]; decide) (by rw [hx]; decide) (by rw [hx]; rfl) rfl (law_c8 hX hE hfl hq i1 i2 i3 i4 h1 hN hk dy)
  | 9, _, hx => exact r_tabIn hX 556 dL_39 (by rw [hx]; decide) (by rw [hx]; decide) (by rw [hx]; rfl) rfl (law_c9 hX hE hfl hq i1 i2 i3 i4 h1 hN hk dy)
  | 10, _, hx => exact r_tabIn hX 581 dL_39 (by rw [hx]; decide) (by rw [hx]; decide) (by rw [hx]; rfl) rfl (law_c10 hX hE hfl hq i1 i2 i3 i4 h1 hN hk dy)
  | 11, _, hx => exact r_tabIn hX 606 dL_39 (by rw [hx]; decide) (by rw [hx]; decide) (by rw [hx]; rfl) rfl (law_c11 hX hE hfl hq i1 i2 i3 i4 h1 hN hk dy)
  | 12, _, hx => exact r_tabIn hX 631 dL_39 (by rw [hx]; decide) (by rw [hx]; decide) (by rw [hx]; rfl) rfl (law_c12 hX hE hfl hq i1 i2 i3 i4 h1 hN hk dy)
  | 13, _, hx => exact r_tabIn hX 644 dL_39 (by rw [hx]; decide) (by rw [hx]; decide) (by rw [hx]; rfl) rfl (law_c13 hX hE hfl hq i1 i2 i3 i4 h1 hN hk dy)
  | 14, _, hx => exact r_tabIn hX 670 dL_39 (by rw [hx]; decide) (by rw [hx]; decide) (by rw [hx]; rfl) rfl (law_c14 hX hE hfl hq i1 i2 i3 i4 h1 hN hk dy)
  | 15, _, hx => exact r_tabIn hX 684 dL_39 (by rw [hx]; decide) (by rw [hx]; decide) (by rw [hx]; rfl) rfl (law_c15 hX hE hfl hq i1 i2 i3 i4 h1 hN hk dy)
  | 16, _, hx => exact r_tabIn hX 697 dL_39 (by rw [hx]; decide) (by rw [hx]; decide) (by rw [hx]; rfl) rfl (law_c16 hX hE hfl hq i1 i2 i3 i4 h1 hN hk dy)
  | 17, _, hx => exact r_tabIn hX 734 dL_39 (by rw [hx]; decide) (by rw [hx]; decide) (by rw [hx]; rfl) rfl (law_c17 hX hE hfl hq i1 i2 i3 i4 h1 hN hk dy)
  | 18, _, hx => exact r_tabIn hX 747 dL_39 (by rw [hx]; decide) (by rw [hx]; decide) (by rw [hx]; rfl) rfl (law_c18 hX hE hfl hq i1 i2 i3 i4 h1 hN hk dy)
  | 19, _, hx => exact r_tabIn hX 772 dL_39 (by rw [hx]; decide) (by rw [hx]; decide) (by rw [hx]; rfl) rfl (law_c19 hX hE hfl hq i1 i2 i3 i4 h1 hN hk dy)
  | 20, _, hx => exact r_tabIn hX 809 dL_39 (by rw [hx]; decide) (by rw [hx]; decide) (by rw [hx]; rfl) rfl (law_c20 hX hE hfl hq i1 i2 i3 i4 h1 hN hk dy)
  | 21, _, hx => exact r_tabIn hX 834 dL_39 (by rw [hx]; decide) (by rw [hx]; decide) (by rw [hx]; rfl) rfl (law_c21 hX hE hfl hq i1 i2 i3 i4 h1 hN hk dy)
  | 22, _, hx => exact r_tabIn hX 859 dL_39 (by rw [hx]; decide) (by rw [hx]; decide) (by rw [hx]; rfl) rfl (law_c22 hX hE hfl hq i1 i2 i3 i4 h1 hN hk dy)
  | 23, _, hx => exact r_tabIn hX 884 dL_39 (by rw [hx]; decide) (by rw [hx]; decide) (by rw [hx]; rfl) rfl (law_c23 hX hE hfl hq i1 i2 i3 i4 h1 hN hk dy)
  | 24, _, hx => exact r_tabIn hX 897 dL_39 (by rw [hx]; decide) (by rw [hx]; decide) (by rw [hx]; rfl) rfl (law_c24 hX hE hfl hq i1 i2 i3 i4 h1 hN hk dy)
  | 25, _, hx => exact r_tabIn hX 910 dL_39 (by rw [hx]; decide) (by rw [hx]; decide) (by rw [hx]; rfl) rfl (law_c25 hX hE hfl hq i1 i2 i3 i4 h1 hN hk dy)
  | 26, _, hx => exact r_tabIn hX 923 dL_39 (by rw [hx]; decide) (by rw [hx]; decide) (by rw [hx]; rfl) rfl (law_c26 hX hE hfl hq i1 i2 i3 i4 h1 hN hk dy)
  | 27, _, hx => exact r_tabIn hX 960 dL_39 (by rw [hx]; decide) (by rw [hx]; decide) (by rw [hx]; rfl) rfl (law_c27 hX hE hfl hq i1 i2 i3 i4 h1 hN hk dy)
  | 28, _, hx => exact r_tabIn hX 997 dL_39 (by rw [hx]; decide) (by rw [hx]; decide) (by rw [hx]; rfl) rfl (law_c28 hX hE hfl hq i1 i2 i3 i4 h1 hN hk dy)
  | 29, _, hx => exact r_tabIn hX 1034 dL_39 (by rw [hx]; decide) (by rw [hx]; decide) (by rw [hx]; rfl) rfl (law_c29 hX hE hfl hq i1 i2 i3 i4 h1 hN hk dy)
  | 30, _, hx => exact r_tabIn hX 1071 dL_39 (by rw [hx]; decide) (by rw [hx]; decide) (by rw [hx]; rfl) rfl (law_c30 hX hE hfl hq i1 i2 i3 i4 h1 hN hk dy)
  | 31, _, hx => exact r_tabIn hX 1096 dL_39 (by rw [hx]; decide) (by rw [hx]; decide) (by rw [hx]; rfl) rfl (law_c31 hX hE hfl hq i1 i2 i3 i4 h1 hN hk dy)
  | 32, _, hx => exact r_tabIn hX 1109 dL_39 (by rw [hx]; decide) (by rw [hx]; decide) (by rw [hx]; rfl) rfl (law_c32 hX hE hfl hq i1 i2 i3 i4 h1 hN hk dy)
  | 33, _, hx => exact r_tabIn hX 1134 dL_39 (by rw [hx]; decide) (by rw [hx]; decide) (by rw [hx]; rfl) rfl (law_c33 hX hE hfl hq i1 i2 i3 i4 h1 hN hk dy)
  | 34, _, hx => exact r_tabIn hX 1147 dL_39 (by rw [hx]; decide) (by rw [hx]; decide) (by rw [hx]; rfl) rfl (law_c34 hX hE hfl hq i1 i2 i3 i4 h1 hN hk dy)
  | 35, _, hx => exact r_tabIn hX 1172 dL_39 (by rw [hx]; decide) (by rw [hx]; decide) (by rw [hx]; rfl) rfl (law_c35 hX hE hfl hq i1 i2 i3 i4 h1 hN hk dy)
  | 36, _, hx => exact r_tabIn hX 1240 dL_39 (by rw [hx]; decide) (by rw [hx]; decide) (by rw [hx]; rfl) rfl (law_c36 hX hE hfl hq i1 i2 i3 i4 h1 hN hk dy)
  | 37, _, hx => exact r_tabIn hX 1265 dL_39 (by rw [hx]; decide) (by rw [hx]; decide) (by rw [hx]; rfl) rfl (law_c37 hX hE hfl hq i1 i2 i3 i4 h1 hN hk dy)
  | 38, _, hx => exact r_tabIn hX 1290 dL_39 (by rw [hx]; decide) (by rw [hx]; decide) (by rw [hx]; rfl) rfl (law_c38 hX hE hfl hq i1 i2 i3 i4 h1 hN hk dy)
  | 39, _, hx => exact r_tabIn hX 1315 dL_39 (by rw [hx]; decide) (by rw [hx]; decide) (by rw [hx]; rfl) rfl (law_c39 hX hE hfl hq i1 i2 i3 i4 h1 hN hk dy)
  | 40, _, hx => exact r_tabIn hX 1340 dL_39 (by rw [hx]; decide) (by rw [hx]; decide) (by rw [hx]; rfl) rfl (law_c40 hX hE hfl hq i1 i2 i3 i4 h1 hN hk dy)
  | 41, _, hx => exact r_tabIn hX 1365 dL_39 (by rw [hx]; decide) (by rw [hx]; decide) (by rw [hx]; rfl) rfl (law_c41 hX hE hfl hq i1 i2 i3 i4 h1 hN hk dy)
  | 42, _, hx => exact r_tabIn hX 1390 dL_39 (by rw [hx]; decide) (by rw [hx]; decide) (by rw [hx]; rfl) rfl (law_c42 hX hE hfl hq i1 i2 i3 i4 h1 hN hk dy)
  | 43, _, hx => exact r_tabIn hX 1439 dL_39 (by rw [hx]; decide) (by rw [hx]; decide) (by rw [hx]; rfl) rfl (law_c43 hX hE hfl hq i1 i2 i3 i4 h1 hN hk dy)
  | 44, _, hx => exact r_tabIn hX 1464 dL_39 (by rw [hx]; decide) (by rw [hx]; decide) (by rw [hx]; rfl) rfl (law_c44 hX hE hfl hq i1 i2 i3 i4 h1 hN hk dy)
  | 45, _, hx => exact r_tabIn hX 1489 dL_39 (by rw [hx]; decide) (by rw [hx]; decide) (by rw [hx]; rfl) rfl (law_c45 hX hE hfl hq i1 i2 i3 i4 h1 hN hk dy)
  | 46, _, hx => exact r_tabIn hX 1514 dL_39 (by rw [hx]; decide) (by rw [hx]; decide) (by rw [hx]; rfl) rfl (law_c46 hX hE hfl hq i1 i2 i3 i4 h1 hN hk dy)
  | z + 47, hz, _ => omega
theorem law_step {j N : Nat} {a : Ab} {U : Nat → List Nat} {μ : Mem} (hX : Ok M_lw_law 2047 X) (hE : EXT (xA X) (xs X) (xs X).heap) (hfl : (xl X).flags = flags0) (hq : Scr X b L ys) (hL : L ≤ 2560) (hret : ∀ (pc : Nat) (ls : List (Nat × Value)) (μ : Mem) (dy : Nat → Nat), decode cL_law pc = .ok (.ireturn, 1) → AW X pc ls [.int 1] μ dy) (h1 : One N a U μ) (hj : j ≤ 600) (hN : N ≤ j)
    (ih : j < 512 → ∀ N' a' U' μ' dy', N' ≤ N + 1 → One N' a' U' μ' → AW X 23 (lwLs X b (nI (5 * (j + 1)))) [] μ' dy') (dy : Nat → Nat) : AW X 23 (lwLs X b (nI (5 * j))) [] μ dy := by
  refine r_iload hX dL_23 0 rfl ?_
  refine r_aload_n hX dL_25 4 rfl ?_
  refine r_slen hX hq dL_26 ?_
  refine r_iconst hX (5 : Int32) dL_27 rfl ?_
  refine r_isub hX dL_28 ?_
  refine r_icmp_gt hX 1575 dL_29 rfl (fun _ => ?_) (fun hc => ?_)
  · refine r_iconst hX (1 : Int32) dL_1575 rfl ?_
    exact hret _ _ _ _ dL_1576
  · have h5 := lw_gt (n := 5 * j) (by omega) hL hc
    have hi : ∀ k, k < 5 → vp_in (nI (5 * j) + nI k) L := fun k hk => lw_in (by omega) hL
    have hi0 : vp_in (nI (5 * j)) L := by
      have := hi 0 (by omega)
      rw [i_add] at this
      exact this
    refine law_disp hX hE hfl hq hi0 (hi 1 (by omega)) (hi 2 (by omega)) (hi 3 (by omega)) (hi 4 (by omega)) h1 (by omega) (fun N' a' U' μ' dy' hN' h' => ?_) dy
    refine r_iinc (ls' := lwLs X b (nI (5 * (j + 1)))) hX (nI (5 * (j + 1))) dL_1569 0 rfl (by show nI (5 * j) + nI 5 = _; rw [i_add]; rfl) rfl rfl ?_
    refine r_goto hX 23 dL_1572 rfl ?_
    exact ih (by omega) N' a' U' μ' dy' hN' h'
theorem law_loop (hX : Ok M_lw_law 2047 X) (hE : EXT (xA X) (xs X) (xs X).heap) (hfl : (xl X).flags = flags0) (hq : Scr X b L ys) (hL : L ≤ 2560) (hret : ∀ (pc : Nat) (ls : List (Nat × Value)) (μ : Mem) (dy : Nat → Nat), decode cL_law pc = .ok (.ireturn, 1) → AW X pc ls [.int 1] μ dy) :
    ∀ (n j N : Nat) (a : Ab) (U : Nat → List Nat) (μ : Mem) (dy : Nat → Nat), j + n = 513 → N ≤ j → One N a U μ → AW X 23 (lwLs X b (nI (5 * j))) [] μ dy
  | 0, j, N, a, U, μ, dy, hj, hN, h1 => law_step hX hE hfl hq hL hret h1 (by omega) hN (fun h => by omega) dy
  | n + 1, j, N, a, U, μ, dy, hj, hN, h1 => law_step hX hE hfl hq hL hret h1 (by omega) hN (fun _ N' a' U' μ' dy' hN' h' => law_loop hX hE hfl hq hL hret n (j + 1) N' a' U' μ' dy' (by omega) (by omega) h') dy
end LL
