theorem dX7_playRule_0 : decode cX7_playRule 0 = .ok (.aload_n 0, 1) := by decide +kernel
theorem dX7_playRule_1 : decode cX7_playRule 1 = .ok (.invokevirtual 91, 3) := by decide +kernel
theorem dX7_playRule_4 : decode cX7_playRule 4 = .ok (.aload_n 0, 1) := by decide +kernel
theorem dX7_playRule_5 : decode cX7_playRule 5 = .ok (.getfield 28, 3) := by decide +kernel
theorem dX7_playRule_8 : decode cX7_playRule 8 = .ok (.aload_n 0, 1) := by decide +kernel
theorem dX7_playRule_9 : decode cX7_playRule 9 = .ok (.getfield 20, 3) := by decide +kernel
theorem dX7_playRule_12 : decode cX7_playRule 12 = .ok (.getfield 40, 3) := by decide +kernel
theorem dX7_playRule_15 : decode cX7_playRule 15 = .ok (.invokevirtual 123, 3) := by decide +kernel
theorem dX7_playRule_18 : decode cX7_playRule 18 = .ok (.aload_n 0, 1) := by decide +kernel
theorem dX7_playRule_19 : decode cX7_playRule 19 = .ok (.getfield 20, 3) := by decide +kernel
theorem dX7_playRule_22 : decode cX7_playRule 22 = .ok (.invokevirtual 100, 3) := by decide +kernel
theorem dX7_playRule_25 : decode cX7_playRule 25 = .ok (.istore_n 2, 1) := by decide +kernel
theorem dX7_playRule_26 : decode cX7_playRule 26 = .ok (.aload_n 0, 1) := by decide +kernel
theorem dX7_playRule_27 : decode cX7_playRule 27 = .ok (.iload_n 2, 1) := by decide +kernel
theorem dX7_playRule_28 : decode cX7_playRule 28 = .ok (.iload_n 1, 1) := by decide +kernel
theorem dX7_playRule_29 : decode cX7_playRule 29 = .ok (.invokevirtual 150, 3) := by decide +kernel
theorem dX7_playRule_32 : decode cX7_playRule 32 = .ok (.istore_n 3, 1) := by decide +kernel
theorem dX7_playRule_33 : decode cX7_playRule 33 = .ok (.iconst (-1), 1) := by decide +kernel
theorem dX7_playRule_34 : decode cX7_playRule 34 = .ok (.istore 4, 2) := by decide +kernel
theorem dX7_playRule_36 : decode cX7_playRule 36 = .ok (.iload_n 1, 1) := by decide +kernel
theorem dX7_playRule_37 : decode cX7_playRule 37 = .ok (.ifCond .le 101, 3) := by decide +kernel
theorem dX7_playRule_40 : decode cX7_playRule 40 = .ok (.aload_n 0, 1) := by decide +kernel
theorem dX7_playRule_41 : decode cX7_playRule 41 = .ok (.aload_n 0, 1) := by decide +kernel
theorem dX7_playRule_42 : decode cX7_playRule 42 = .ok (.iload_n 2, 1) := by decide +kernel
theorem dX7_playRule_43 : decode cX7_playRule 43 = .ok (.invokevirtual 153, 3) := by decide +kernel
theorem dX7_playRule_46 : decode cX7_playRule 46 = .ok (.iload_n 1, 1) := by decide +kernel
theorem dX7_playRule_47 : decode cX7_playRule 47 = .ok (.iconst 1, 1) := by decide +kernel
theorem dX7_playRule_48 : decode cX7_playRule 48 = .ok (.isub, 1) := by decide +kernel
theorem dX7_playRule_49 : decode cX7_playRule 49 = .ok (.invokevirtual 150, 3) := by decide +kernel
theorem dX7_playRule_52 : decode cX7_playRule 52 = .ok (.iload_n 3, 1) := by decide +kernel
theorem dX7_playRule_53 : decode cX7_playRule 53 = .ok (.if_icmp .eq 85, 3) := by decide +kernel
theorem dX7_playRule_56 : decode cX7_playRule 56 = .ok (.aload_n 0, 1) := by decide +kernel
theorem dX7_playRule_57 : decode cX7_playRule 57 = .ok (.iconst 1, 1) := by decide +kernel
theorem dX7_playRule_58 : decode cX7_playRule 58 = .ok (.iload_n 2, 1) := by decide +kernel
theorem dX7_playRule_59 : decode cX7_playRule 59 = .ok (.invokevirtual 84, 3) := by decide +kernel
theorem dX7_playRule_62 : decode cX7_playRule 62 = .ok (.istore 5, 2) := by decide +kernel
theorem dX7_playRule_64 : decode cX7_playRule 64 = .ok (.aload_n 0, 1) := by decide +kernel
theorem dX7_playRule_65 : decode cX7_playRule 65 = .ok (.getfield 20, 3) := by decide +kernel
theorem dX7_playRule_68 : decode cX7_playRule 68 = .ok (.getfield 40, 3) := by decide +kernel
theorem dX7_playRule_71 : decode cX7_playRule 71 = .ok (.iconst 1, 1) := by decide +kernel
theorem dX7_playRule_72 : decode cX7_playRule 72 = .ok (.isub, 1) := by decide +kernel
theorem dX7_playRule_73 : decode cX7_playRule 73 = .ok (.istore 6, 2) := by decide +kernel
theorem dX7_playRule_75 : decode cX7_playRule 75 = .ok (.iload 6, 2) := by decide +kernel
theorem dX7_playRule_77 : decode cX7_playRule 77 = .ok (.ifCond .lt 61, 3) := by decide +kernel
theorem dX7_playRule_80 : decode cX7_playRule 80 = .ok (.iload 5, 2) := by decide +kernel
theorem dX7_playRule_82 : decode cX7_playRule 82 = .ok (.iload 6, 2) := by decide +kernel
theorem dX7_playRule_84 : decode cX7_playRule 84 = .ok (.ishr, 1) := by decide +kernel
theorem dX7_playRule_85 : decode cX7_playRule 85 = .ok (.iconst 1, 1) := by decide +kernel
theorem dX7_playRule_86 : decode cX7_playRule 86 = .ok (.iand, 1) := by decide +kernel
theorem dX7_playRule_87 : decode cX7_playRule 87 = .ok (.ifCond .eq 28, 3) := by decide +kernel
theorem dX7_playRule_90 : decode cX7_playRule 90 = .ok (.aload_n 0, 1) := by decide +kernel
theorem dX7_playRule_91 : decode cX7_playRule 91 = .ok (.aload_n 0, 1) := by decide +kernel
theorem dX7_playRule_92 : decode cX7_playRule 92 = .ok (.iload_n 2, 1) := by decide +kernel
theorem dX7_playRule_93 : decode cX7_playRule 93 = .ok (.iconst 1, 1) := by decide +kernel
theorem dX7_playRule_94 : decode cX7_playRule 94 = .ok (.iload 6, 2) := by decide +kernel
theorem dX7_playRule_96 : decode cX7_playRule 96 = .ok (.ishl, 1) := by decide +kernel
theorem dX7_playRule_97 : decode cX7_playRule 97 = .ok (.ior, 1) := by decide +kernel
theorem dX7_playRule_98 : decode cX7_playRule 98 = .ok (.invokevirtual 153, 3) := by decide +kernel
theorem dX7_playRule_101 : decode cX7_playRule 101 = .ok (.iload_n 1, 1) := by decide +kernel
theorem dX7_playRule_102 : decode cX7_playRule 102 = .ok (.iconst 1, 1) := by decide +kernel
theorem dX7_playRule_103 : decode cX7_playRule 103 = .ok (.isub, 1) := by decide +kernel
theorem dX7_playRule_104 : decode cX7_playRule 104 = .ok (.invokevirtual 150, 3) := by decide +kernel
theorem dX7_playRule_107 : decode cX7_playRule 107 = .ok (.iload_n 3, 1) := by decide +kernel
theorem dX7_playRule_108 : decode cX7_playRule 108 = .ok (.if_icmp .ne 7, 3) := by decide +kernel
theorem dX7_playRule_111 : decode cX7_playRule 111 = .ok (.iconst 1, 1) := by decide +kernel
theorem dX7_playRule_112 : decode cX7_playRule 112 = .ok (.goto 4, 3) := by decide +kernel
theorem dX7_playRule_115 : decode cX7_playRule 115 = .ok (.iconst 0, 1) := by decide +kernel
theorem dX7_playRule_116 : decode cX7_playRule 116 = .ok (.istore 7, 2) := by decide +kernel
theorem dX7_playRule_118 : decode cX7_playRule 118 = .ok (.iload 7, 2) := by decide +kernel
theorem dX7_playRule_120 : decode cX7_playRule 120 = .ok (.ifCond .eq 8, 3) := by decide +kernel
theorem dX7_playRule_123 : decode cX7_playRule 123 = .ok (.iload 6, 2) := by decide +kernel
theorem dX7_playRule_125 : decode cX7_playRule 125 = .ok (.goto 5, 3) := by decide +kernel
theorem dX7_playRule_128 : decode cX7_playRule 128 = .ok (.iload 4, 2) := by decide +kernel
theorem dX7_playRule_130 : decode cX7_playRule 130 = .ok (.istore 4, 2) := by decide +kernel
theorem dX7_playRule_132 : decode cX7_playRule 132 = .ok (.iinc 6 (-1), 3) := by decide +kernel
theorem dX7_playRule_135 : decode cX7_playRule 135 = .ok (.goto (-60), 3) := by decide +kernel
theorem dX7_playRule_138 : decode cX7_playRule 138 = .ok (.aload_n 0, 1) := by decide +kernel
theorem dX7_playRule_139 : decode cX7_playRule 139 = .ok (.getfield 36, 3) := by decide +kernel
theorem dX7_playRule_142 : decode cX7_playRule 142 = .ok (.iload 4, 2) := by decide +kernel
theorem dX7_playRule_144 : decode cX7_playRule 144 = .ok (.i2l, 1) := by decide +kernel
theorem dX7_playRule_145 : decode cX7_playRule 145 = .ok (.invokevirtual 111, 3) := by decide +kernel
theorem dX7_playRule_148 : decode cX7_playRule 148 = .ok (.iload_n 3, 1) := by decide +kernel
theorem dX7_playRule_149 : decode cX7_playRule 149 = .ok (.ireturn, 1) := by decide +kernel
set_option maxHeartbeats 4000000 in
set_option maxRecDepth 20000 in
theorem b_sh_playRule_b138 {X : Cx} {d : Nat} (hX : Ok M_sh_playRule (d + 17) X) {r : Int32 × Mem} (hr : RetI M_sh_playRule X r.1 r.2) (x3 : Int32) (x4 : Int32) (μ : Mem) (dy : Nat → Nat) (hf : f_sh_playRule_b138 x3 x4 μ = some r) : AW X 138 [(0, .ref (gA (xG X) 93)), (3, .int x3), (4, .int x4)] [] μ dy := by
  unfold f_sh_playRule_b138 at hf
  refine r_aload_n hX dX7_playRule_138 0 rfl ?_
  refine r_get hX fl_X7_36 (w_93 _ _ _) rfl dX7_playRule_139 ?_
  refine r_iload hX dX7_playRule_142 2 rfl ?_
  refine r_i2l hX dX7_playRule_144 ?_
  obtain ⟨μ12, h13, hf⟩ := bd1_eq hf
  refine r_callVV (Ok.le hX (by omega)) (c_rw_only (d := d)  h13) cv_X7_111 (w_2 _ _ _) rfl rfl (st := []) rfl rfl rfl dX7_playRule_145 (fun dy => ?_)
  refine r_iload_n hX dX7_playRule_148 1 rfl ?_
  exact fin_I hf hr _ _ _ dX7_playRule_149
set_option maxHeartbeats 4000000 in
set_option maxRecDepth 20000 in
theorem b_sh_playRule_b116 {X : Cx} {d : Nat} (hX : Ok M_sh_playRule (d + 17) X) {r : Int32 × Mem} (hr : RetI M_sh_playRule X r.1 r.2) {k75 : Int32 → Int32 → Int32 → Int32 → Int32 → Int32 → Mem → Option (Int32 × Mem)} (hk75 : ∀ (x1 : Int32) (x2 : Int32) (x3 : Int32) (x4 : Int32) (x5 : Int32) (x6 : Int32) (μ : Mem) (dy : Nat → Nat), k75 x1 x2 x3 x4 x5 x6 μ = some r → AW X 75 [(0, .ref (gA (xG X) 93)), (1, .int x1), (2, .int x2), (3, .int x3), (4, .int x4), (5, .int x5), (6, .int x6)] [] μ dy) (x1 : Int32) (x2 : Int32) (x3 : Int32) (x4 : Int32) (x5 : Int32) (x6 : Int32) (s0 : Int32) (μ : Mem) (dy : Nat → Nat) (hf : f_sh_playRule_b116 k75 x1 x2 x3 x4 x5 x6 s0 μ = some r) : AW X 116 [(0, .ref (gA (xG X) 93)), (1, .int x1), (2, .int x2), (3, .int x3), (4, .int x4), (5, .int x5), (6, .int x6)] [.int s0] μ dy := by
  unfold f_sh_playRule_b116 at hf
  refine r_istore hX dX7_playRule_116 rfl (ls' := [(7, .int s0), (0, .ref (gA (xG X) 93)), (1, .int x1), (2, .int x2), (3, .int x3), (4, .int x4), (5, .int x5), (6, .int x6)]) rfl ?_
  refine r_iload hX dX7_playRule_118 0 rfl ?_
  obtain ⟨v28, e29, hf⟩ := bnd_eq hf
  have J30 : AW X 130 [(7, .int s0), (0, .ref (gA (xG X) 93)), (1, .int x1), (2, .int x2), (3, .int x3), (4, .int x4), (5, .int x5), (6, .int x6)] [.int v28] μ dy := by
    refine r_istore hX dX7_playRule_130 rfl (ls' := [(4, .int v28), (7, .int s0), (0, .ref (gA (xG X) 93)), (1, .int x1), (2, .int x2), (3, .int x3), (5, .int x5), (6, .int x6)]) rfl ?_
    refine r_iinc hX (x6 + (-1 : Int32)) dX7_playRule_132 7 rfl rfl rfl (ls' := [(6, .int (x6 + (-1 : Int32))), (4, .int v28), (7, .int s0), (0, .ref (gA (xG X) 93)), (1, .int x1), (2, .int x2), (3, .int x3), (5, .int x5)]) rfl ?_
    refine r_goto hX 75 dX7_playRule_135 rfl ?_
    refine r_weak [3, 4, 5, 6, 1, 7, 0] rfl ?_
    exact hk75 _ _ _ _ _ _ _ _ hf
  refine r_if_eq hX 128 dX7_playRule_120 rfl (fun hc31 => ?_) (fun hc31 => ?_)
  · refine r_iload hX dX7_playRule_128 5 rfl ?_
    exact r_topI (e29.trans (by rw [if_pos hc31])) J30
  · refine r_iload hX dX7_playRule_123 7 rfl ?_
    refine r_goto hX 130 dX7_playRule_125 rfl ?_
    exact r_topI (e29.trans (by rw [if_neg hc31])) J30
set_option maxHeartbeats 4000000 in
set_option maxRecDepth 20000 in
theorem b_sh_playRule_b115 {X : Cx} {d : Nat} (hX : Ok M_sh_playRule (d + 17) X) {r : Int32 × Mem} (hr : RetI M_sh_playRule X r.1 r.2) {k75 : Int32 → Int32 → Int32 → Int32 → Int32 → Int32 → Mem → Option (Int32 × Mem)} (hk75 : ∀ (x1 : Int32) (x2 : Int32) (x3 : Int32) (x4 : Int32) (x5 : Int32) (x6 : Int32) (μ : Mem) (dy : Nat → Nat), k75 x1 x2 x3 x4 x5 x6 μ = some r → AW X 75 [(0, .ref (gA (xG X) 93)), (1, .int x1), (2, .int x2), (3, .int x3), (4, .int x4), (5, .int x5), (6, .int x6)] [] μ dy) (x1 : Int32) (x2 : Int32) (x3 : Int32) (x4 : Int32) (x5 : Int32) (x6 : Int32) (μ : Mem) (dy : Nat → Nat) (hf : f_sh_playRule_b115 k75 x1 x2 x3 x4 x5 x6 μ = some r) : AW X 115 [(0, .ref (gA (xG X) 93)), (1, .int x1), (2, .int x2), (3, .int x3), (4, .int x4), (5, .int x5), (6, .int x6)] [] μ dy := by
  unfold f_sh_playRule_b115 at hf
  refine r_iconst hX (0 : Int32) dX7_playRule_115 rfl ?_
  refine r_weak [0, 1, 2, 3, 4, 5, 6] rfl ?_
  exact b_sh_playRule_b116 hX hr hk75 _ _ _ _ _ _ _ _ _ hf
set_option maxHeartbeats 4000000 in
set_option maxRecDepth 20000 in
theorem b_sh_playRule_b75 {X : Cx} {d : Nat} (hX : Ok M_sh_playRule (d + 17) X) {r : Int32 × Mem} (hr : RetI M_sh_playRule X r.1 r.2) : ∀ (n : Nat) (x1 : Int32) (x2 : Int32) (x3 : Int32) (x4 : Int32) (x5 : Int32) (x6 : Int32) (μ : Mem) (dy : Nat → Nat), f_sh_playRule_b75 n x1 x2 x3 x4 x5 x6 μ = some r → AW X 75 [(0, .ref (gA (xG X) 93)), (1, .int x1), (2, .int x2), (3, .int x3), (4, .int x4), (5, .int x5), (6, .int x6)] [] μ dy := by
  intro n
  induction n with
  | zero => intro x1 x2 x3 x4 x5 x6 μ dy hf; exact nomatch hf
  | succ n ih =>
    intro x1 x2 x3 x4 x5 x6 μ dy hf
    rw [f_sh_playRule_b75] at hf
    refine r_iload hX dX7_playRule_75 6 rfl ?_
    refine r_if_lt hX 138 dX7_playRule_77 rfl (fun hc26 => ?_) (fun hc26 => ?_)
    · rw [if_pos hc26] at hf
      refine r_weak [0, 3, 4] rfl ?_
      exact b_sh_playRule_b138 hX hr _ _ _ _ hf
    · rw [if_neg hc26] at hf
      refine r_iload hX dX7_playRule_80 5 rfl ?_
      refine r_iload hX dX7_playRule_82 6 rfl ?_
      refine r_ishr hX dX7_playRule_84 ?_
      refine r_iconst hX (1 : Int32) dX7_playRule_85 rfl ?_
      refine r_iand hX dX7_playRule_86 ?_
      refine r_if_eq hX 115 dX7_playRule_87 rfl (fun hc27 => ?_) (fun hc27 => ?_)
      · rw [if_pos hc27] at hf
        refine r_weak [0, 1, 2, 3, 4, 5, 6] rfl ?_
        exact b_sh_playRule_b115 hX hr ih _ _ _ _ _ _ _ _ hf
      · rw [if_neg hc27] at hf
        refine r_aload_n hX dX7_playRule_90 0 rfl ?_
        refine r_aload_n hX dX7_playRule_91 0 rfl ?_
        refine r_iload_n hX dX7_playRule_92 2 rfl ?_
        refine r_iconst hX (1 : Int32) dX7_playRule_93 rfl ?_
        refine r_iload hX dX7_playRule_94 6 rfl ?_
        refine r_ishl hX dX7_playRule_96 ?_
        refine r_ior hX dX7_playRule_97 ?_
        obtain ⟨v34, μ32, h33, hf⟩ := bd2_eq hf
        refine r_callVI (Ok.le hX (by omega)) (c_sh_behindReply (d := d)  h33) cv_X7_153 (w_93 _ _ _) rfl rfl (st := [.ref (gA (xG X) 93)]) rfl rfl rfl dX7_playRule_98 (fun dy => ?_)
        refine r_iload_n hX dX7_playRule_101 1 rfl ?_
        refine r_iconst hX (1 : Int32) dX7_playRule_102 rfl ?_
        refine r_isub hX dX7_playRule_103 ?_
        obtain ⟨v37, μ35, h36, hf⟩ := bd2_eq hf
        refine r_callVI (Ok.le hX (by omega)) (c_sh_bestAgainstRule (d := d) 8 h36) cv_X7_150 (w_93 _ _ _) rfl rfl (st := []) rfl rfl rfl dX7_playRule_104 (fun dy => ?_)
        refine r_iload_n hX dX7_playRule_107 3 rfl ?_
        obtain ⟨v38, e39, hf⟩ := bnd_eq hf
        have J40 : AW X 116 [(0, .ref (gA (xG X) 93)), (1, .int x1), (2, .int x2), (3, .int x3), (4, .int x4), (5, .int x5), (6, .int x6)] [.int v38] μ35 dy := by
          refine r_istore hX dX7_playRule_116 rfl (ls' := [(7, .int v38), (0, .ref (gA (xG X) 93)), (1, .int x1), (2, .int x2), (3, .int x3), (4, .int x4), (5, .int x5), (6, .int x6)]) rfl ?_
          refine r_iload hX dX7_playRule_118 0 rfl ?_
          obtain ⟨v41, e42, hf⟩ := bnd_eq hf
          have J43 : AW X 130 [(7, .int v38), (0, .ref (gA (xG X) 93)), (1, .int x1), (2, .int x2), (3, .int x3), (4, .int x4), (5, .int x5), (6, .int x6)] [.int v41] μ35 dy := by
            refine r_istore hX dX7_playRule_130 rfl (ls' := [(4, .int v41), (7, .int v38), (0, .ref (gA (xG X) 93)), (1, .int x1), (2, .int x2), (3, .int x3), (5, .int x5), (6, .int x6)]) rfl ?_
            refine r_iinc hX (x6 + (-1 : Int32)) dX7_playRule_132 7 rfl rfl rfl (ls' := [(6, .int (x6 + (-1 : Int32))), (4, .int v41), (7, .int v38), (0, .ref (gA (xG X) 93)), (1, .int x1), (2, .int x2), (3, .int x3), (5, .int x5)]) rfl ?_
            refine r_goto hX 75 dX7_playRule_135 rfl ?_
            refine r_weak [3, 4, 5, 6, 1, 7, 0] rfl ?_
            exact ih _ _ _ _ _ _ _ _ hf
          refine r_if_eq hX 128 dX7_playRule_120 rfl (fun hc44 => ?_) (fun hc44 => ?_)
          · refine r_iload hX dX7_playRule_128 5 rfl ?_
            exact r_topI (e42.trans (by rw [if_pos hc44])) J43
          · refine r_iload hX dX7_playRule_123 7 rfl ?_
            refine r_goto hX 130 dX7_playRule_125 rfl ?_
            exact r_topI (e42.trans (by rw [if_neg hc44])) J43
        refine r_icmp_ne hX 115 dX7_playRule_108 rfl (fun hc45 => ?_) (fun hc45 => ?_)
        · refine r_iconst hX (0 : Int32) dX7_playRule_115 rfl ?_
          exact r_topI (e39.trans (by rw [if_neg hc45])) J40
        · refine r_iconst hX (1 : Int32) dX7_playRule_111 rfl ?_
          refine r_goto hX 116 dX7_playRule_112 rfl ?_
          exact r_topI (e39.trans (by rw [if_pos hc45])) J40
set_option maxHeartbeats 4000000 in
set_option maxRecDepth 20000 in
theorem c_sh_playRule {G : Gx} {d : Nat} {x1 : Int32} {μ : Mem} {r : Int32 × Mem} (hf : f_sh_playRule x1 μ = some r) : Con G M_sh_playRule (d + 17) [.ref (gA G 93), .int x1] μ (some (.int r.1), r.2) := by
  refine Con.ofI ⟨rfl, rfl, Nat.le_of_ble_eq_true rfl⟩ rfl rfl (fun X hG hX hr dy => ?_)
  subst hG
  show AW X 0 [(0, .ref (gA (xG X) 93)), (1, .int x1)] [] μ dy
  unfold f_sh_playRule at hf
  refine r_aload_n hX dX7_playRule_0 0 rfl ?_
  obtain ⟨μ1, h2, hf⟩ := bd1_eq hf
  refine r_callVV (Ok.le hX (by omega)) (c_sh_learn (d := d)  h2) cv_X7_91 (w_93 _ _ _) rfl rfl (st := []) rfl rfl rfl dX7_playRule_1 (fun dy => ?_)
  refine r_aload_n hX dX7_playRule_4 0 rfl ?_
  refine r_get hX fl_X7_28 (w_93 _ _ _) rfl dX7_playRule_5 ?_
  refine r_aload_n hX dX7_playRule_8 0 rfl ?_
  refine r_get hX fl_X7_20 (w_93 _ _ _) rfl dX7_playRule_9 ?_
  refine r_getN hX fl_X7_40 (w_4 _ _ _) rfl dX7_playRule_12 ?_
  obtain ⟨μ3, h4, hf⟩ := bd1_eq hf
  refine r_callVV (Ok.le hX (by omega)) (c_me_begin (d := d)  h4) cv_X7_123 (w_90 _ _ _) rfl rfl (st := []) rfl rfl rfl dX7_playRule_15 (fun dy => ?_)
  refine r_aload_n hX dX7_playRule_18 0 rfl ?_
  refine r_get hX fl_X7_20 (w_93 _ _ _) rfl dX7_playRule_19 ?_
  obtain ⟨v7, μ5, h6, hf⟩ := bd2_eq hf
  refine r_callVI (Ok.le hX (by omega)) (c_st_now (d := d)  h6) cv_X7_100 (w_4 _ _ _) rfl rfl (st := []) rfl rfl rfl dX7_playRule_22 (fun dy => ?_)
  refine r_istore_n hX dX7_playRule_25 rfl (ls' := [(2, .int v7), (0, .ref (gA (xG X) 93)), (1, .int x1)]) rfl ?_
  refine r_aload_n hX dX7_playRule_26 1 rfl ?_
  refine r_iload_n hX dX7_playRule_27 0 rfl ?_
  refine r_iload_n hX dX7_playRule_28 2 rfl ?_
  obtain ⟨v10, μ8, h9, hf⟩ := bd2_eq hf
  refine r_callVI (Ok.le hX (by omega)) (c_sh_bestAgainstRule (d := d) 8 h9) cv_X7_150 (w_93 _ _ _) rfl rfl (st := []) rfl rfl rfl dX7_playRule_29 (fun dy => ?_)
  refine r_istore_n hX dX7_playRule_32 rfl (ls' := [(3, .int v10), (2, .int v7), (0, .ref (gA (xG X) 93)), (1, .int x1)]) rfl ?_
  refine r_iconst hX (-1 : Int32) dX7_playRule_33 rfl ?_
  refine r_istore hX dX7_playRule_34 rfl (ls' := [(4, .int (-1 : Int32)), (3, .int v10), (2, .int v7), (0, .ref (gA (xG X) 93)), (1, .int x1)]) rfl ?_
  refine r_iload_n hX dX7_playRule_36 4 rfl ?_
  refine r_if_le hX 138 dX7_playRule_37 rfl (fun hc11 => ?_) (fun hc11 => ?_)
  · rw [if_pos hc11] at hf
    refine r_weak [3, 1, 0] rfl ?_
    exact b_sh_playRule_b138 hX hr _ _ _ _ hf
  · rw [if_neg hc11] at hf
    refine r_aload_n hX dX7_playRule_40 3 rfl ?_
    refine r_aload_n hX dX7_playRule_41 3 rfl ?_
    refine r_iload_n hX dX7_playRule_42 2 rfl ?_
    obtain ⟨v16, μ14, h15, hf⟩ := bd2_eq hf
    refine r_callVI (Ok.le hX (by omega)) (c_sh_behindReply (d := d)  h15) cv_X7_153 (w_93 _ _ _) rfl rfl (st := [.ref (gA (xG X) 93)]) rfl rfl rfl dX7_playRule_43 (fun dy => ?_)
    refine r_iload_n hX dX7_playRule_46 4 rfl ?_
    refine r_iconst hX (1 : Int32) dX7_playRule_47 rfl ?_
    refine r_isub hX dX7_playRule_48 ?_
    obtain ⟨v19, μ17, h18, hf⟩ := bd2_eq hf
    refine r_callVI (Ok.le hX (by omega)) (c_sh_bestAgainstRule (d := d) 8 h18) cv_X7_150 (w_93 _ _ _) rfl rfl (st := []) rfl rfl rfl dX7_playRule_49 (fun dy => ?_)
    refine r_iload_n hX dX7_playRule_52 1 rfl ?_
    refine r_icmp_eq hX 138 dX7_playRule_53 rfl (fun hc20 => ?_) (fun hc20 => ?_)
    · rw [if_pos hc20] at hf
      refine r_weak [3, 1, 0] rfl ?_
      exact b_sh_playRule_b138 hX hr _ _ _ _ hf
    · rw [if_neg hc20] at hf
      refine r_aload_n hX dX7_playRule_56 3 rfl ?_
      refine r_iconst hX (1 : Int32) dX7_playRule_57 rfl ?_
      refine r_iload_n hX dX7_playRule_58 2 rfl ?_
      obtain ⟨v23, μ21, h22, hf⟩ := bd2_eq hf
      refine r_callVI (Ok.le hX (by omega)) (c_sh_open (d := d)  h22) cv_X7_84 (w_93 _ _ _) rfl rfl (st := []) rfl rfl rfl dX7_playRule_59 (fun dy => ?_)
      refine r_istore hX dX7_playRule_62 rfl (ls' := [(5, .int v23), (4, .int (-1 : Int32)), (3, .int v10), (2, .int v7), (0, .ref (gA (xG X) 93)), (1, .int x1)]) rfl ?_
      refine r_aload_n hX dX7_playRule_64 4 rfl ?_
      refine r_get hX fl_X7_20 (w_93 _ _ _) rfl dX7_playRule_65 ?_
      refine r_getN hX fl_X7_40 (w_4 _ _ _) rfl dX7_playRule_68 ?_
      refine r_iconst hX (1 : Int32) dX7_playRule_71 rfl ?_
      refine r_isub hX dX7_playRule_72 ?_
      obtain ⟨v24, e25, hf⟩ := bnd_eq hf
      refine r_topI e25 ?_
      refine r_istore hX dX7_playRule_73 rfl (ls' := [(6, .int v24), (5, .int v23), (4, .int (-1 : Int32)), (3, .int v10), (2, .int v7), (0, .ref (gA (xG X) 93)), (1, .int x1)]) rfl ?_
      refine r_weak [5, 6, 4, 3, 2, 1, 0] rfl ?_
      exact b_sh_playRule_b75 hX hr FU _ _ _ _ _ _ _ _ hf
theorem dX8_has_0 : decode cX8_has 0 = .ok (.iload_n 1, 1) := by decide +kernel
theorem dX8_has_1 : decode cX8_has 1 = .ok (.ifCond .lt 15, 3) := by decide +kernel
theorem dX8_has_4 : decode cX8_has 4 = .ok (.iload_n 1, 1) := by decide +kernel
theorem dX8_has_5 : decode cX8_has 5 = .ok (.aload_n 0, 1) := by decide +kernel
theorem dX8_has_6 : decode cX8_has 6 = .ok (.getfield 36, 3) := by decide +kernel
theorem dX8_has_9 : decode cX8_has 9 = .ok (.if_icmp .ge 7, 3) := by decide +kernel
theorem dX8_has_12 : decode cX8_has 12 = .ok (.iconst 1, 1) := by decide +kernel
theorem dX8_has_13 : decode cX8_has 13 = .ok (.goto 4, 3) := by decide +kernel
theorem dX8_has_16 : decode cX8_has 16 = .ok (.iconst 0, 1) := by decide +kernel
theorem dX8_has_17 : decode cX8_has 17 = .ok (.ireturn, 1) := by decide +kernel
set_option maxHeartbeats 4000000 in
set_option maxRecDepth 20000 in
theorem c_st_has {G : Gx} {d : Nat} {x1 : Int32} {μ : Mem} {r : Int32 × Mem} (hf : f_st_has x1 μ = some r) : Con G M_st_has (d + 0) [.ref (gA G 4), .int x1] μ (some (.int r.1), r.2) := by
  refine Con.ofZ ⟨rfl, rfl, Nat.le_of_ble_eq_true rfl⟩ rfl (fun X hG hX hr dy => ?_)
  subst hG
  show AW X 0 [(0, .ref (gA (xG X) 4)), (1, .int x1)] [] μ dy
  unfold f_st_has at hf
  refine r_iload_n hX dX8_has_0 1 rfl ?_
  obtain ⟨v1, e2, hf⟩ := bnd_eq hf
  have J3 : AW X 17 [(0, .ref (gA (xG X) 4)), (1, .int x1)] [.int v1] μ dy := by
    obtain ⟨b4, hf⟩ := chk_eq hf
    exact fin_Z hf hr _ _ _ (zb_nar b4) dX8_has_17
  refine r_if_lt hX 16 dX8_has_1 rfl (fun hc5 => ?_) (fun hc5 => ?_)
  · refine r_iconst hX (0 : Int32) dX8_has_16 rfl ?_
    exact r_topI (e2.trans (by rw [if_pos hc5])) J3
  · refine r_iload_n hX dX8_has_4 1 rfl ?_
    refine r_aload_n hX dX8_has_5 0 rfl ?_
    refine r_get hX fl_X8_36 (w_4 _ _ _) rfl dX8_has_6 ?_
    refine r_icmp_ge hX 16 dX8_has_9 rfl (fun hc6 => ?_) (fun hc6 => ?_)
    · refine r_iconst hX (0 : Int32) dX8_has_16 rfl ?_
      exact r_topI (e2.trans (by rw [if_neg hc5, if_pos hc6])) J3
    · refine r_iconst hX (1 : Int32) dX8_has_12 rfl ?_
      refine r_goto hX 17 dX8_has_13 rfl ?_
      exact r_topI (e2.trans (by rw [if_neg hc5, if_neg hc6])) J3
theorem dX8_hasAll_0 : decode cX8_hasAll 0 = .ok (.iload_n 1, 1) := by decide +kernel
theorem dX8_hasAll_1 : decode cX8_hasAll 1 = .ok (.ifCond .lt 15, 3) := by decide +kernel
theorem dX8_hasAll_4 : decode cX8_hasAll 4 = .ok (.iload_n 1, 1) := by decide +kernel
theorem dX8_hasAll_5 : decode cX8_hasAll 5 = .ok (.aload_n 0, 1) := by decide +kernel
theorem dX8_hasAll_6 : decode cX8_hasAll 6 = .ok (.invokevirtual 39, 3) := by decide +kernel
theorem dX8_hasAll_9 : decode cX8_hasAll 9 = .ok (.if_icmp .gt 7, 3) := by decide +kernel
theorem dX8_hasAll_12 : decode cX8_hasAll 12 = .ok (.iconst 1, 1) := by decide +kernel
theorem dX8_hasAll_13 : decode cX8_hasAll 13 = .ok (.goto 4, 3) := by decide +kernel
theorem dX8_hasAll_16 : decode cX8_hasAll 16 = .ok (.iconst 0, 1) := by decide +kernel
theorem dX8_hasAll_17 : decode cX8_hasAll 17 = .ok (.ireturn, 1) := by decide +kernel
set_option maxHeartbeats 4000000 in
set_option maxRecDepth 20000 in
theorem c_st_hasAll {G : Gx} {d : Nat} {x1 : Int32} {μ : Mem} {r : Int32 × Mem} (hf : f_st_hasAll x1 μ = some r) : Con G M_st_hasAll (d + 1) [.ref (gA G 4), .int x1] μ (some (.int r.1), r.2) := by
  refine Con.ofZ ⟨rfl, rfl, Nat.le_of_ble_eq_true rfl⟩ rfl (fun X hG hX hr dy => ?_)
  subst hG
  show AW X 0 [(0, .ref (gA (xG X) 4)), (1, .int x1)] [] μ dy
  unfold f_st_hasAll at hf
  refine r_iload_n hX dX8_hasAll_0 1 rfl ?_
  refine r_if_lt hX 16 dX8_hasAll_1 rfl (fun hc1 => ?_) (fun hc1 => ?_)
  · rw [if_pos hc1] at hf
    refine r_iconst hX (0 : Int32) dX8_hasAll_16 rfl ?_
    obtain ⟨b2, hf⟩ := chk_eq hf
    exact fin_Z hf hr _ _ _ (zb_nar b2) dX8_hasAll_17
  · rw [if_neg hc1] at hf
    refine r_iload_n hX dX8_hasAll_4 1 rfl ?_
    refine r_aload_n hX dX8_hasAll_5 0 rfl ?_
    obtain ⟨v5, μ3, h4, hf⟩ := bd2_eq hf
    refine r_callVI (Ok.le hX (by omega)) (c_st_everybody (d := d)  h4) cv_X8_39 (w_4 _ _ _) rfl rfl (st := [.int x1]) rfl rfl rfl dX8_hasAll_6 (fun dy => ?_)
    obtain ⟨v6, e7, hf⟩ := bnd_eq hf
    have J8 : AW X 17 [(0, .ref (gA (xG X) 4)), (1, .int x1)] [.int v6] μ3 dy := by
      obtain ⟨b9, hf⟩ := chk_eq hf
      exact fin_Z hf hr _ _ _ (zb_nar b9) dX8_hasAll_17
    refine r_icmp_gt hX 16 dX8_hasAll_9 rfl (fun hc10 => ?_) (fun hc10 => ?_)
    · refine r_iconst hX (0 : Int32) dX8_hasAll_16 rfl ?_
      exact r_topI (e7.trans (by rw [if_pos hc10])) J8
    · refine r_iconst hX (1 : Int32) dX8_hasAll_12 rfl ?_
      refine r_goto hX 17 dX8_hasAll_13 rfl ?_
      exact r_topI (e7.trans (by rw [if_neg hc10])) J8
theorem dX8_isFirm_0 : decode cX8_isFirm 0 = .ok (.aload_n 0, 1) := by decide +kernel
theorem dX8_isFirm_1 : decode cX8_isFirm 1 = .ok (.getfield 43, 3) := by decide +kernel
theorem dX8_isFirm_4 : decode cX8_isFirm 4 = .ok (.iload_n 1, 1) := by decide +kernel
theorem dX8_isFirm_5 : decode cX8_isFirm 5 = .ok (.ishr, 1) := by decide +kernel
theorem dX8_isFirm_6 : decode cX8_isFirm 6 = .ok (.iconst 1, 1) := by decide +kernel
theorem dX8_isFirm_7 : decode cX8_isFirm 7 = .ok (.iand, 1) := by decide +kernel
theorem dX8_isFirm_8 : decode cX8_isFirm 8 = .ok (.ifCond .eq 7, 3) := by decide +kernel
theorem dX8_isFirm_11 : decode cX8_isFirm 11 = .ok (.iconst 1, 1) := by decide +kernel
theorem dX8_isFirm_12 : decode cX8_isFirm 12 = .ok (.goto 4, 3) := by decide +kernel
theorem dX8_isFirm_15 : decode cX8_isFirm 15 = .ok (.iconst 0, 1) := by decide +kernel
theorem dX8_isFirm_16 : decode cX8_isFirm 16 = .ok (.ireturn, 1) := by decide +kernel
set_option maxHeartbeats 4000000 in
set_option maxRecDepth 20000 in
theorem c_st_isFirm {G : Gx} {d : Nat} {x1 : Int32} {μ : Mem} {r : Int32 × Mem} (hf : f_st_isFirm x1 μ = some r) : Con G M_st_isFirm (d + 0) [.ref (gA G 4), .int x1] μ (some (.int r.1), r.2) := by
  refine Con.ofZ ⟨rfl, rfl, Nat.le_of_ble_eq_true rfl⟩ rfl (fun X hG hX hr dy => ?_)
  subst hG
  show AW X 0 [(0, .ref (gA (xG X) 4)), (1, .int x1)] [] μ dy
  unfold f_st_isFirm at hf
  refine r_aload_n hX dX8_isFirm_0 0 rfl ?_
  refine r_get hX fl_X8_43 (w_4 _ _ _) rfl dX8_isFirm_1 ?_
  refine r_iload_n hX dX8_isFirm_4 1 rfl ?_
  refine r_ishr hX dX8_isFirm_5 ?_
  refine r_iconst hX (1 : Int32) dX8_isFirm_6 rfl ?_
  refine r_iand hX dX8_isFirm_7 ?_
  obtain ⟨v1, e2, hf⟩ := bnd_eq hf
  have J3 : AW X 16 [(0, .ref (gA (xG X) 4)), (1, .int x1)] [.int v1] μ dy := by
    obtain ⟨b4, hf⟩ := chk_eq hf
    exact fin_Z hf hr _ _ _ (zb_nar b4) dX8_isFirm_16
  refine r_if_eq hX 15 dX8_isFirm_8 rfl (fun hc5 => ?_) (fun hc5 => ?_)
  · refine r_iconst hX (0 : Int32) dX8_isFirm_15 rfl ?_
    exact r_topI (e2.trans (by rw [if_pos hc5])) J3
  · refine r_iconst hX (1 : Int32) dX8_isFirm_11 rfl ?_
    refine r_goto hX 16 dX8_isFirm_12 rfl ?_
    exact r_topI (e2.trans (by rw [if_neg hc5])) J3
theorem dX8_openToTalk_0 : decode cX8_openToTalk 0 = .ok (.aload_n 0, 1) := by decide +kernel
theorem dX8_openToTalk_1 : decode cX8_openToTalk 1 = .ok (.invokevirtual 39, 3) := by decide +kernel
theorem dX8_openToTalk_4 : decode cX8_openToTalk 4 = .ok (.aload_n 0, 1) := by decide +kernel
theorem dX8_openToTalk_5 : decode cX8_openToTalk 5 = .ok (.getfield 43, 3) := by decide +kernel
theorem dX8_openToTalk_8 : decode cX8_openToTalk 8 = .ok (.iconst (-1), 1) := by decide +kernel
theorem dX8_openToTalk_9 : decode cX8_openToTalk 9 = .ok (.ixor, 1) := by decide +kernel
theorem dX8_openToTalk_10 : decode cX8_openToTalk 10 = .ok (.iand, 1) := by decide +kernel
theorem dX8_openToTalk_11 : decode cX8_openToTalk 11 = .ok (.aload_n 0, 1) := by decide +kernel
theorem dX8_openToTalk_12 : decode cX8_openToTalk 12 = .ok (.invokevirtual 46, 3) := by decide +kernel
theorem dX8_openToTalk_15 : decode cX8_openToTalk 15 = .ok (.iconst (-1), 1) := by decide +kernel
theorem dX8_openToTalk_16 : decode cX8_openToTalk 16 = .ok (.ixor, 1) := by decide +kernel
theorem dX8_openToTalk_17 : decode cX8_openToTalk 17 = .ok (.iand, 1) := by decide +kernel
theorem dX8_openToTalk_18 : decode cX8_openToTalk 18 = .ok (.ireturn, 1) := by decide +kernel
set_option maxHeartbeats 4000000 in
set_option maxRecDepth 20000 in
theorem c_st_openToTalk {G : Gx} {d : Nat}  {μ : Mem} {r : Int32 × Mem} (hf : f_st_openToTalk  μ = some r) : Con G M_st_openToTalk (d + 1) [.ref (gA G 4)] μ (some (.int r.1), r.2) := by
  refine Con.ofI ⟨rfl, rfl, Nat.le_of_ble_eq_true rfl⟩ rfl rfl (fun X hG hX hr dy => ?_)
  subst hG
  show AW X 0 [(0, .ref (gA (xG X) 4))] [] μ dy
  unfold f_st_openToTalk at hf
  refine r_aload_n hX dX8_openToTalk_0 0 rfl ?_
  obtain ⟨v3, μ1, h2, hf⟩ := bd2_eq hf
  refine r_callVI (Ok.le hX (by omega)) (c_st_everybody (d := d)  h2) cv_X8_39 (w_4 _ _ _) rfl rfl (st := []) rfl rfl rfl dX8_openToTalk_1 (fun dy => ?_)
  refine r_aload_n hX dX8_openToTalk_4 0 rfl ?_
  refine r_get hX fl_X8_43 (w_4 _ _ _) rfl dX8_openToTalk_5 ?_
  refine r_iconst hX (-1 : Int32) dX8_openToTalk_8 rfl ?_
  refine r_ixor hX dX8_openToTalk_9 ?_
  refine r_iand hX dX8_openToTalk_10 ?_
  refine r_aload_n hX dX8_openToTalk_11 0 rfl ?_
  obtain ⟨v6, μ4, h5, hf⟩ := bd2_eq hf
  refine r_callVI (Ok.le hX (by omega)) (c_st_now (d := d)  h5) cv_X8_46 (w_4 _ _ _) rfl rfl (st := [.int (v3 &&& ((μ1.1 (vSt 0 1) 0) ^^^ (-1 : Int32)))]) rfl rfl rfl dX8_openToTalk_12 (fun dy => ?_)
  refine r_iconst hX (-1 : Int32) dX8_openToTalk_15 rfl ?_
  refine r_ixor hX dX8_openToTalk_16 ?_
  refine r_iand hX dX8_openToTalk_17 ?_
  exact fin_I hf hr _ _ _ dX8_openToTalk_18
theorem dX8_priceOf_0 : decode cX8_priceOf 0 = .ok (.iconst 0, 1) := by decide +kernel
theorem dX8_priceOf_1 : decode cX8_priceOf 1 = .ok (.istore_n 2, 1) := by decide +kernel
theorem dX8_priceOf_2 : decode cX8_priceOf 2 = .ok (.iconst 0, 1) := by decide +kernel
theorem dX8_priceOf_3 : decode cX8_priceOf 3 = .ok (.istore_n 3, 1) := by decide +kernel
theorem dX8_priceOf_4 : decode cX8_priceOf 4 = .ok (.iload_n 3, 1) := by decide +kernel
theorem dX8_priceOf_5 : decode cX8_priceOf 5 = .ok (.aload_n 0, 1) := by decide +kernel
theorem dX8_priceOf_6 : decode cX8_priceOf 6 = .ok (.getfield 36, 3) := by decide +kernel
theorem dX8_priceOf_9 : decode cX8_priceOf 9 = .ok (.if_icmp .ge 24, 3) := by decide +kernel
theorem dX8_priceOf_12 : decode cX8_priceOf 12 = .ok (.iload_n 2, 1) := by decide +kernel
theorem dX8_priceOf_13 : decode cX8_priceOf 13 = .ok (.iload_n 1, 1) := by decide +kernel
theorem dX8_priceOf_14 : decode cX8_priceOf 14 = .ok (.iload_n 3, 1) := by decide +kernel
theorem dX8_priceOf_15 : decode cX8_priceOf 15 = .ok (.ishr, 1) := by decide +kernel
theorem dX8_priceOf_16 : decode cX8_priceOf 16 = .ok (.iconst 1, 1) := by decide +kernel
theorem dX8_priceOf_17 : decode cX8_priceOf 17 = .ok (.iand, 1) := by decide +kernel
theorem dX8_priceOf_18 : decode cX8_priceOf 18 = .ok (.aload_n 0, 1) := by decide +kernel
theorem dX8_priceOf_19 : decode cX8_priceOf 19 = .ok (.getfield 15, 3) := by decide +kernel
theorem dX8_priceOf_22 : decode cX8_priceOf 22 = .ok (.iload_n 3, 1) := by decide +kernel
theorem dX8_priceOf_23 : decode cX8_priceOf 23 = .ok (.iaload, 1) := by decide +kernel
theorem dX8_priceOf_24 : decode cX8_priceOf 24 = .ok (.imul, 1) := by decide +kernel
theorem dX8_priceOf_25 : decode cX8_priceOf 25 = .ok (.iadd, 1) := by decide +kernel
theorem dX8_priceOf_26 : decode cX8_priceOf 26 = .ok (.istore_n 2, 1) := by decide +kernel
theorem dX8_priceOf_27 : decode cX8_priceOf 27 = .ok (.iinc 3 1, 3) := by decide +kernel
theorem dX8_priceOf_30 : decode cX8_priceOf 30 = .ok (.goto (-26), 3) := by decide +kernel
theorem dX8_priceOf_33 : decode cX8_priceOf 33 = .ok (.iload_n 2, 1) := by decide +kernel
theorem dX8_priceOf_34 : decode cX8_priceOf 34 = .ok (.ireturn, 1) := by decide +kernel
set_option maxHeartbeats 4000000 in
set_option maxRecDepth 20000 in
theorem b_st_priceOf_b4 {X : Cx} {d : Nat} (hX : Ok M_st_priceOf (d + 0) X) {r : Int32 × Mem} (hr : RetI M_st_priceOf X r.1 r.2) : ∀ (n : Nat) (x1 : Int32) (x2 : Int32) (x3 : Int32) (μ : Mem) (dy : Nat → Nat), f_st_priceOf_b4 n x1 x2 x3 μ = some r → AW X 4 [(0, .ref (gA (xG X) 4)), (1, .int x1), (2, .int x2), (3, .int x3)] [] μ dy := by
  intro n
  induction n with
  | zero => intro x1 x2 x3 μ dy hf; exact nomatch hf
  | succ n ih =>
    intro x1 x2 x3 μ dy hf
    rw [f_st_priceOf_b4] at hf
    refine r_iload_n hX dX8_priceOf_4 3 rfl ?_
    refine r_aload_n hX dX8_priceOf_5 0 rfl ?_
    refine r_get hX fl_X8_36 (w_4 _ _ _) rfl dX8_priceOf_6 ?_
    refine r_icmp_ge hX 33 dX8_priceOf_9 rfl (fun hc1 => ?_) (fun hc1 => ?_)
    · rw [if_pos hc1] at hf
      refine r_iload_n hX dX8_priceOf_33 2 rfl ?_
      exact fin_I hf hr _ _ _ dX8_priceOf_34
    · rw [if_neg hc1] at hf
      refine r_iload_n hX dX8_priceOf_12 2 rfl ?_
      refine r_iload_n hX dX8_priceOf_13 1 rfl ?_
      refine r_iload_n hX dX8_priceOf_14 3 rfl ?_
      refine r_ishr hX dX8_priceOf_15 ?_
      refine r_iconst hX (1 : Int32) dX8_priceOf_16 rfl ?_
      refine r_iand hX dX8_priceOf_17 ?_
      refine r_aload_n hX dX8_priceOf_18 0 rfl ?_
      refine r_get hX fl_X8_15 (w_4 _ _ _) rfl dX8_priceOf_19 ?_
      refine r_iload_n hX dX8_priceOf_22 3 rfl ?_
      obtain ⟨b2, hf⟩ := chk_eq hf
      refine r_iald hX (w_6 _ _ _) (inb_in b2) dX8_priceOf_23 ?_
      refine r_imul hX dX8_priceOf_24 ?_
      refine r_iadd hX dX8_priceOf_25 ?_
      obtain ⟨v3, e4, hf⟩ := bnd_eq hf
      refine r_topI e4 ?_
      refine r_istore_n hX dX8_priceOf_26 rfl (ls' := [(2, .int v3), (0, .ref (gA (xG X) 4)), (1, .int x1), (3, .int x3)]) rfl ?_
      refine r_iinc hX (x3 + (1 : Int32)) dX8_priceOf_27 3 rfl rfl rfl (ls' := [(3, .int (x3 + (1 : Int32))), (2, .int v3), (0, .ref (gA (xG X) 4)), (1, .int x1)]) rfl ?_
      refine r_goto hX 4 dX8_priceOf_30 rfl ?_
      refine r_weak [2, 3, 1, 0] rfl ?_
      exact ih _ _ _ _ _ hf
set_option maxHeartbeats 4000000 in
set_option maxRecDepth 20000 in
theorem c_st_priceOf {G : Gx} {d : Nat} {x1 : Int32} {μ : Mem} {r : Int32 × Mem} (hf : f_st_priceOf x1 μ = some r) : Con G M_st_priceOf (d + 0) [.ref (gA G 4), .int x1] μ (some (.int r.1), r.2) := by
  refine Con.ofI ⟨rfl, rfl, Nat.le_of_ble_eq_true rfl⟩ rfl rfl (fun X hG hX hr dy => ?_)
  subst hG
  show AW X 0 [(0, .ref (gA (xG X) 4)), (1, .int x1)] [] μ dy
  unfold f_st_priceOf at hf
  refine r_iconst hX (0 : Int32) dX8_priceOf_0 rfl ?_
  refine r_istore_n hX dX8_priceOf_1 rfl (ls' := [(2, .int (0 : Int32)), (0, .ref (gA (xG X) 4)), (1, .int x1)]) rfl ?_
  refine r_iconst hX (0 : Int32) dX8_priceOf_2 rfl ?_
  refine r_istore_n hX dX8_priceOf_3 rfl (ls' := [(3, .int (0 : Int32)), (2, .int (0 : Int32)), (0, .ref (gA (xG X) 4)), (1, .int x1)]) rfl ?_
  refine r_weak [2, 3, 1, 0] rfl ?_
  exact b_st_priceOf_b4 hX hr FU _ _ _ _ _ hf
theorem dX8_heardByAny_0 : decode cX8_heardByAny 0 = .ok (.iconst 0, 1) := by decide +kernel
theorem dX8_heardByAny_1 : decode cX8_heardByAny 1 = .ok (.istore_n 2, 1) := by decide +kernel
theorem dX8_heardByAny_2 : decode cX8_heardByAny 2 = .ok (.iconst 0, 1) := by decide +kernel
theorem dX8_heardByAny_3 : decode cX8_heardByAny 3 = .ok (.istore_n 3, 1) := by decide +kernel
theorem dX8_heardByAny_4 : decode cX8_heardByAny 4 = .ok (.iload_n 3, 1) := by decide +kernel
theorem dX8_heardByAny_5 : decode cX8_heardByAny 5 = .ok (.aload_n 0, 1) := by decide +kernel
theorem dX8_heardByAny_6 : decode cX8_heardByAny 6 = .ok (.getfield 36, 3) := by decide +kernel
theorem dX8_heardByAny_9 : decode cX8_heardByAny 9 = .ok (.if_icmp .ge 29, 3) := by decide +kernel
theorem dX8_heardByAny_12 : decode cX8_heardByAny 12 = .ok (.iload_n 2, 1) := by decide +kernel
theorem dX8_heardByAny_13 : decode cX8_heardByAny 13 = .ok (.iload_n 1, 1) := by decide +kernel
theorem dX8_heardByAny_14 : decode cX8_heardByAny 14 = .ok (.iload_n 3, 1) := by decide +kernel
theorem dX8_heardByAny_15 : decode cX8_heardByAny 15 = .ok (.ishr, 1) := by decide +kernel
theorem dX8_heardByAny_16 : decode cX8_heardByAny 16 = .ok (.iconst 1, 1) := by decide +kernel
theorem dX8_heardByAny_17 : decode cX8_heardByAny 17 = .ok (.iand, 1) := by decide +kernel
theorem dX8_heardByAny_18 : decode cX8_heardByAny 18 = .ok (.ifCond .eq 11, 3) := by decide +kernel
theorem dX8_heardByAny_21 : decode cX8_heardByAny 21 = .ok (.aload_n 0, 1) := by decide +kernel
theorem dX8_heardByAny_22 : decode cX8_heardByAny 22 = .ok (.iload_n 3, 1) := by decide +kernel
theorem dX8_heardByAny_23 : decode cX8_heardByAny 23 = .ok (.invokevirtual 53, 3) := by decide +kernel
theorem dX8_heardByAny_26 : decode cX8_heardByAny 26 = .ok (.goto 4, 3) := by decide +kernel
theorem dX8_heardByAny_29 : decode cX8_heardByAny 29 = .ok (.iconst 0, 1) := by decide +kernel
theorem dX8_heardByAny_30 : decode cX8_heardByAny 30 = .ok (.ior, 1) := by decide +kernel
theorem dX8_heardByAny_31 : decode cX8_heardByAny 31 = .ok (.istore_n 2, 1) := by decide +kernel
theorem dX8_heardByAny_32 : decode cX8_heardByAny 32 = .ok (.iinc 3 1, 3) := by decide +kernel
theorem dX8_heardByAny_35 : decode cX8_heardByAny 35 = .ok (.goto (-31), 3) := by decide +kernel
theorem dX8_heardByAny_38 : decode cX8_heardByAny 38 = .ok (.iload_n 2, 1) := by decide +kernel
theorem dX8_heardByAny_39 : decode cX8_heardByAny 39 = .ok (.ireturn, 1) := by decide +kernel
set_option maxHeartbeats 4000000 in
set_option maxRecDepth 20000 in
theorem b_st_heardByAny_b30 {X : Cx} {d : Nat} (hX : Ok M_st_heardByAny (d + 1) X) {r : Int32 × Mem} (hr : RetI M_st_heardByAny X r.1 r.2) {k4 : Int32 → Int32 → Int32 → Mem → Option (Int32 × Mem)} (hk4 : ∀ (x1 : Int32) (x2 : Int32) (x3 : Int32) (μ : Mem) (dy : Nat → Nat), k4 x1 x2 x3 μ = some r → AW X 4 [(0, .ref (gA (xG X) 4)), (1, .int x1), (2, .int x2), (3, .int x3)] [] μ dy) (x1 : Int32) (x3 : Int32) (s0 : Int32) (s1 : Int32) (μ : Mem) (dy : Nat → Nat) (hf : f_st_heardByAny_b30 k4 x1 x3 s0 s1 μ = some r) : AW X 30 [(0, .ref (gA (xG X) 4)), (1, .int x1), (3, .int x3)] [.int s1, .int s0] μ dy := by
  unfold f_st_heardByAny_b30 at hf
  refine r_ior hX dX8_heardByAny_30 ?_
  refine r_istore_n hX dX8_heardByAny_31 rfl (ls' := [(2, .int (s0 ||| s1)), (0, .ref (gA (xG X) 4)), (1, .int x1), (3, .int x3)]) rfl ?_
  refine r_iinc hX (x3 + (1 : Int32)) dX8_heardByAny_32 3 rfl rfl rfl (ls' := [(3, .int (x3 + (1 : Int32))), (2, .int (s0 ||| s1)), (0, .ref (gA (xG X) 4)), (1, .int x1)]) rfl ?_
  refine r_goto hX 4 dX8_heardByAny_35 rfl ?_
  refine r_weak [2, 3, 1, 0] rfl ?_
  exact hk4 _ _ _ _ _ hf
set_option maxHeartbeats 4000000 in
set_option maxRecDepth 20000 in
theorem b_st_heardByAny_b4 {X : Cx} {d : Nat} (hX : Ok M_st_heardByAny (d + 1) X) {r : Int32 × Mem} (hr : RetI M_st_heardByAny X r.1 r.2) : ∀ (n : Nat) (x1 : Int32) (x2 : Int32) (x3 : Int32) (μ : Mem) (dy : Nat → Nat), f_st_heardByAny_b4 n x1 x2 x3 μ = some r → AW X 4 [(0, .ref (gA (xG X) 4)), (1, .int x1), (2, .int x2), (3, .int x3)] [] μ dy := by
  intro n
  induction n with
  | zero => intro x1 x2 x3 μ dy hf; exact nomatch hf
  | succ n ih =>
    intro x1 x2 x3 μ dy hf
    rw [f_st_heardByAny_b4] at hf
    refine r_iload_n hX dX8_heardByAny_4 3 rfl ?_
    refine r_aload_n hX dX8_heardByAny_5 0 rfl ?_
    refine r_get hX fl_X8_36 (w_4 _ _ _) rfl dX8_heardByAny_6 ?_
    refine r_icmp_ge hX 38 dX8_heardByAny_9 rfl (fun hc1 => ?_) (fun hc1 => ?_)
    · rw [if_pos hc1] at hf
      refine r_iload_n hX dX8_heardByAny_38 2 rfl ?_
      exact fin_I hf hr _ _ _ dX8_heardByAny_39
    · rw [if_neg hc1] at hf
      refine r_iload_n hX dX8_heardByAny_12 2 rfl ?_
      refine r_iload_n hX dX8_heardByAny_13 1 rfl ?_
      refine r_iload_n hX dX8_heardByAny_14 3 rfl ?_
      refine r_ishr hX dX8_heardByAny_15 ?_
      refine r_iconst hX (1 : Int32) dX8_heardByAny_16 rfl ?_
      refine r_iand hX dX8_heardByAny_17 ?_
      refine r_if_eq hX 29 dX8_heardByAny_18 rfl (fun hc2 => ?_) (fun hc2 => ?_)
      · rw [if_pos hc2] at hf
        refine r_iconst hX (0 : Int32) dX8_heardByAny_29 rfl ?_
        refine r_weak [0, 1, 3] rfl ?_
        exact b_st_heardByAny_b30 hX hr ih _ _ _ _ _ _ hf
      · rw [if_neg hc2] at hf
        refine r_aload_n hX dX8_heardByAny_21 0 rfl ?_
        refine r_iload_n hX dX8_heardByAny_22 3 rfl ?_
        obtain ⟨v5, μ3, h4, hf⟩ := bd2_eq hf
        refine r_callVI (Ok.le hX (by omega)) (c_st_heardByOne (d := d)  h4) cv_X8_53 (w_4 _ _ _) rfl rfl (st := [.int x2]) rfl rfl rfl dX8_heardByAny_23 (fun dy => ?_)
        refine r_goto hX 30 dX8_heardByAny_26 rfl ?_
        refine r_weak [0, 1, 3] rfl ?_
        exact b_st_heardByAny_b30 hX hr ih _ _ _ _ _ _ hf
set_option maxHeartbeats 4000000 in
set_option maxRecDepth 20000 in
theorem c_st_heardByAny {G : Gx} {d : Nat} {x1 : Int32} {μ : Mem} {r : Int32 × Mem} (hf : f_st_heardByAny x1 μ = some r) : Con G M_st_heardByAny (d + 1) [.ref (gA G 4), .int x1] μ (some (.int r.1), r.2) := by
  refine Con.ofI ⟨rfl, rfl, Nat.le_of_ble_eq_true rfl⟩ rfl rfl (fun X hG hX hr dy => ?_)
  subst hG
  show AW X 0 [(0, .ref (gA (xG X) 4)), (1, .int x1)] [] μ dy
  unfold f_st_heardByAny at hf
  refine r_iconst hX (0 : Int32) dX8_heardByAny_0 rfl ?_
  refine r_istore_n hX dX8_heardByAny_1 rfl (ls' := [(2, .int (0 : Int32)), (0, .ref (gA (xG X) 4)), (1, .int x1)]) rfl ?_
  refine r_iconst hX (0 : Int32) dX8_heardByAny_2 rfl ?_
  refine r_istore_n hX dX8_heardByAny_3 rfl (ls' := [(3, .int (0 : Int32)), (2, .int (0 : Int32)), (0, .ref (gA (xG X) 4)), (1, .int x1)]) rfl ?_
  refine r_weak [2, 3, 1, 0] rfl ?_
  exact b_st_heardByAny_b4 hX hr FU _ _ _ _ _ hf
theorem dX8_pairs_0 : decode cX8_pairs 0 = .ok (.iconst 0, 1) := by decide +kernel
theorem dX8_pairs_1 : decode cX8_pairs 1 = .ok (.istore_n 1, 1) := by decide +kernel
theorem dX8_pairs_2 : decode cX8_pairs 2 = .ok (.iconst 0, 1) := by decide +kernel
theorem dX8_pairs_3 : decode cX8_pairs 3 = .ok (.istore_n 2, 1) := by decide +kernel
theorem dX8_pairs_4 : decode cX8_pairs 4 = .ok (.iload_n 2, 1) := by decide +kernel
theorem dX8_pairs_5 : decode cX8_pairs 5 = .ok (.aload_n 0, 1) := by decide +kernel
theorem dX8_pairs_6 : decode cX8_pairs 6 = .ok (.getfield 36, 3) := by decide +kernel
theorem dX8_pairs_9 : decode cX8_pairs 9 = .ok (.if_icmp .ge 39, 3) := by decide +kernel
theorem dX8_pairs_12 : decode cX8_pairs 12 = .ok (.iconst 0, 1) := by decide +kernel
theorem dX8_pairs_13 : decode cX8_pairs 13 = .ok (.istore_n 3, 1) := by decide +kernel
theorem dX8_pairs_14 : decode cX8_pairs 14 = .ok (.iload_n 3, 1) := by decide +kernel
theorem dX8_pairs_15 : decode cX8_pairs 15 = .ok (.iload_n 2, 1) := by decide +kernel
theorem dX8_pairs_16 : decode cX8_pairs 16 = .ok (.if_icmp .ge 26, 3) := by decide +kernel
theorem dX8_pairs_19 : decode cX8_pairs 19 = .ok (.iload_n 1, 1) := by decide +kernel
theorem dX8_pairs_20 : decode cX8_pairs 20 = .ok (.aload_n 0, 1) := by decide +kernel
theorem dX8_pairs_21 : decode cX8_pairs 21 = .ok (.iload_n 2, 1) := by decide +kernel
theorem dX8_pairs_22 : decode cX8_pairs 22 = .ok (.iload_n 3, 1) := by decide +kernel
theorem dX8_pairs_23 : decode cX8_pairs 23 = .ok (.invokevirtual 57, 3) := by decide +kernel
theorem dX8_pairs_26 : decode cX8_pairs 26 = .ok (.ifCond .eq 7, 3) := by decide +kernel
theorem dX8_pairs_29 : decode cX8_pairs 29 = .ok (.iconst 1, 1) := by decide +kernel
theorem dX8_pairs_30 : decode cX8_pairs 30 = .ok (.goto 4, 3) := by decide +kernel
theorem dX8_pairs_33 : decode cX8_pairs 33 = .ok (.iconst 0, 1) := by decide +kernel
theorem dX8_pairs_34 : decode cX8_pairs 34 = .ok (.iadd, 1) := by decide +kernel
theorem dX8_pairs_35 : decode cX8_pairs 35 = .ok (.istore_n 1, 1) := by decide +kernel
theorem dX8_pairs_36 : decode cX8_pairs 36 = .ok (.iinc 3 1, 3) := by decide +kernel
theorem dX8_pairs_39 : decode cX8_pairs 39 = .ok (.goto (-25), 3) := by decide +kernel
theorem dX8_pairs_42 : decode cX8_pairs 42 = .ok (.iinc 2 1, 3) := by decide +kernel
theorem dX8_pairs_45 : decode cX8_pairs 45 = .ok (.goto (-41), 3) := by decide +kernel
theorem dX8_pairs_48 : decode cX8_pairs 48 = .ok (.iload_n 1, 1) := by decide +kernel
theorem dX8_pairs_49 : decode cX8_pairs 49 = .ok (.ireturn, 1) := by decide +kernel
set_option maxHeartbeats 4000000 in
set_option maxRecDepth 20000 in
theorem b_st_pairs_b14 {X : Cx} {d : Nat} (hX : Ok M_st_pairs (d + 1) X) {r : Int32 × Mem} (hr : RetI M_st_pairs X r.1 r.2) {k4 : Int32 → Int32 → Mem → Option (Int32 × Mem)} (hk4 : ∀ (x1 : Int32) (x2 : Int32) (μ : Mem) (dy : Nat → Nat), k4 x1 x2 μ = some r → AW X 4 [(0, .ref (gA (xG X) 4)), (1, .int x1), (2, .int x2)] [] μ dy) : ∀ (n : Nat) (x1 : Int32) (x2 : Int32) (x3 : Int32) (μ : Mem) (dy : Nat → Nat), f_st_pairs_b14 k4 n x1 x2 x3 μ = some r → AW X 14 [(0, .ref (gA (xG X) 4)), (1, .int x1), (2, .int x2), (3, .int x3)] [] μ dy := by
  intro n
  induction n with
  | zero => intro x1 x2 x3 μ dy hf; exact nomatch hf
  | succ n ih =>
    intro x1 x2 x3 μ dy hf
    rw [f_st_pairs_b14] at hf
    refine r_iload_n hX dX8_pairs_14 3 rfl ?_
    refine r_iload_n hX dX8_pairs_15 2 rfl ?_
    refine r_icmp_ge hX 42 dX8_pairs_16 rfl (fun hc2 => ?_) (fun hc2 => ?_)
    · rw [if_pos hc2] at hf
      refine r_iinc hX (x2 + (1 : Int32)) dX8_pairs_42 2 rfl rfl rfl (ls' := [(2, .int (x2 + (1 : Int32))), (0, .ref (gA (xG X) 4)), (1, .int x1), (3, .int x3)]) rfl ?_
      refine r_goto hX 4 dX8_pairs_45 rfl ?_
      refine r_weak [1, 2, 0] rfl ?_
      exact hk4 _ _ _ _ hf
    · rw [if_neg hc2] at hf
      refine r_iload_n hX dX8_pairs_19 1 rfl ?_
      refine r_aload_n hX dX8_pairs_20 0 rfl ?_
      refine r_iload_n hX dX8_pairs_21 2 rfl ?_
      refine r_iload_n hX dX8_pairs_22 3 rfl ?_
      obtain ⟨v5, μ3, h4, hf⟩ := bd2_eq hf
      refine r_callVI (Ok.le hX (by omega)) (c_st_isPair (d := d)  h4) cv_X8_57 (w_4 _ _ _) rfl rfl (st := [.int x1]) rfl rfl rfl dX8_pairs_23 (fun dy => ?_)
      obtain ⟨v6, e7, hf⟩ := bnd_eq hf
      have J8 : AW X 34 [(0, .ref (gA (xG X) 4)), (1, .int x1), (2, .int x2), (3, .int x3)] [.int v6, .int x1] μ3 dy := by
        refine r_iadd hX dX8_pairs_34 ?_
        refine r_istore_n hX dX8_pairs_35 rfl (ls' := [(1, .int (x1 + v6)), (0, .ref (gA (xG X) 4)), (2, .int x2), (3, .int x3)]) rfl ?_
        refine r_iinc hX (x3 + (1 : Int32)) dX8_pairs_36 3 rfl rfl rfl (ls' := [(3, .int (x3 + (1 : Int32))), (1, .int (x1 + v6)), (0, .ref (gA (xG X) 4)), (2, .int x2)]) rfl ?_
        refine r_goto hX 14 dX8_pairs_39 rfl ?_
        refine r_weak [2, 1, 3, 0] rfl ?_
        exact ih _ _ _ _ _ hf
      refine r_if_eq hX 33 dX8_pairs_26 rfl (fun hc9 => ?_) (fun hc9 => ?_)
      · refine r_iconst hX (0 : Int32) dX8_pairs_33 rfl ?_
        exact r_topI (e7.trans (by rw [if_pos hc9])) J8
      · refine r_iconst hX (1 : Int32) dX8_pairs_29 rfl ?_
        refine r_goto hX 34 dX8_pairs_30 rfl ?_
        exact r_topI (e7.trans (by rw [if_neg hc9])) J8
set_option maxHeartbeats 4000000 in
set_option maxRecDepth 20000 in
theorem b_st_pairs_b4 {X : Cx} {d : Nat} (hX : Ok M_st_pairs (d + 1) X) {r : Int32 × Mem} (hr : RetI M_st_pairs X r.1 r.2) : ∀ (n : Nat) (x1 : Int32) (x2 : Int32) (μ : Mem) (dy : Nat → Nat), f_st_pairs_b4 n x1 x2 μ = some r → AW X 4 [(0, .ref (gA (xG X) 4)), (1, .int x1), (2, .int x2)] [] μ dy := by
  intro n
  induction n with
  | zero => intro x1 x2 μ dy hf; exact nomatch hf
  | succ n ih =>
    intro x1 x2 μ dy hf
    rw [f_st_pairs_b4] at hf
    refine r_iload_n hX dX8_pairs_4 2 rfl ?_
    refine r_aload_n hX dX8_pairs_5 0 rfl ?_
    refine r_get hX fl_X8_36 (w_4 _ _ _) rfl dX8_pairs_6 ?_
    refine r_icmp_ge hX 48 dX8_pairs_9 rfl (fun hc1 => ?_) (fun hc1 => ?_)
    · rw [if_pos hc1] at hf
      refine r_iload_n hX dX8_pairs_48 1 rfl ?_
      exact fin_I hf hr _ _ _ dX8_pairs_49
    · rw [if_neg hc1] at hf
      refine r_iconst hX (0 : Int32) dX8_pairs_12 rfl ?_
      refine r_istore_n hX dX8_pairs_13 rfl (ls' := [(3, .int (0 : Int32)), (0, .ref (gA (xG X) 4)), (1, .int x1), (2, .int x2)]) rfl ?_
      refine r_weak [1, 2, 3, 0] rfl ?_
      exact b_st_pairs_b14 hX hr ih FU _ _ _ _ _ hf
set_option maxHeartbeats 4000000 in
set_option maxRecDepth 20000 in
theorem c_st_pairs {G : Gx} {d : Nat}  {μ : Mem} {r : Int32 × Mem} (hf : f_st_pairs  μ = some r) : Con G M_st_pairs (d + 1) [.ref (gA G 4)] μ (some (.int r.1), r.2) := by
  refine Con.ofI ⟨rfl, rfl, Nat.le_of_ble_eq_true rfl⟩ rfl rfl (fun X hG hX hr dy => ?_)
  subst hG
  show AW X 0 [(0, .ref (gA (xG X) 4))] [] μ dy
  unfold f_st_pairs at hf
  refine r_iconst hX (0 : Int32) dX8_pairs_0 rfl ?_
  refine r_istore_n hX dX8_pairs_1 rfl (ls' := [(1, .int (0 : Int32)), (0, .ref (gA (xG X) 4))]) rfl ?_
  refine r_iconst hX (0 : Int32) dX8_pairs_2 rfl ?_
  refine r_istore_n hX dX8_pairs_3 rfl (ls' := [(2, .int (0 : Int32)), (1, .int (0 : Int32)), (0, .ref (gA (xG X) 4))]) rfl ?_
  refine r_weak [2, 1, 0] rfl ?_
  exact b_st_pairs_b4 hX hr FU _ _ _ _ hf
theorem dX8_partOf_0 : decode cX8_partOf 0 = .ok (.iconst 1, 1) := by decide +kernel
theorem dX8_partOf_1 : decode cX8_partOf 1 = .ok (.iload_n 1, 1) := by decide +kernel
theorem dX8_partOf_2 : decode cX8_partOf 2 = .ok (.ishl, 1) := by decide +kernel
theorem dX8_partOf_3 : decode cX8_partOf 3 = .ok (.istore_n 2, 1) := by decide +kernel
theorem dX8_partOf_4 : decode cX8_partOf 4 = .ok (.iconst 0, 1) := by decide +kernel
theorem dX8_partOf_5 : decode cX8_partOf 5 = .ok (.istore_n 3, 1) := by decide +kernel
theorem dX8_partOf_6 : decode cX8_partOf 6 = .ok (.iload_n 3, 1) := by decide +kernel
theorem dX8_partOf_7 : decode cX8_partOf 7 = .ok (.aload_n 0, 1) := by decide +kernel
theorem dX8_partOf_8 : decode cX8_partOf 8 = .ok (.getfield 36, 3) := by decide +kernel
theorem dX8_partOf_11 : decode cX8_partOf 11 = .ok (.if_icmp .ge 23, 3) := by decide +kernel
theorem dX8_partOf_14 : decode cX8_partOf 14 = .ok (.iload_n 2, 1) := by decide +kernel
theorem dX8_partOf_15 : decode cX8_partOf 15 = .ok (.aload_n 0, 1) := by decide +kernel
theorem dX8_partOf_16 : decode cX8_partOf 16 = .ok (.iload_n 2, 1) := by decide +kernel
theorem dX8_partOf_17 : decode cX8_partOf 17 = .ok (.invokevirtual 61, 3) := by decide +kernel
theorem dX8_partOf_20 : decode cX8_partOf 20 = .ok (.aload_n 0, 1) := by decide +kernel
theorem dX8_partOf_21 : decode cX8_partOf 21 = .ok (.iload_n 2, 1) := by decide +kernel
theorem dX8_partOf_22 : decode cX8_partOf 22 = .ok (.invokevirtual 64, 3) := by decide +kernel
theorem dX8_partOf_25 : decode cX8_partOf 25 = .ok (.ior, 1) := by decide +kernel
theorem dX8_partOf_26 : decode cX8_partOf 26 = .ok (.ior, 1) := by decide +kernel
theorem dX8_partOf_27 : decode cX8_partOf 27 = .ok (.istore_n 2, 1) := by decide +kernel
theorem dX8_partOf_28 : decode cX8_partOf 28 = .ok (.iinc 3 1, 3) := by decide +kernel
theorem dX8_partOf_31 : decode cX8_partOf 31 = .ok (.goto (-25), 3) := by decide +kernel
theorem dX8_partOf_34 : decode cX8_partOf 34 = .ok (.iload_n 2, 1) := by decide +kernel
theorem dX8_partOf_35 : decode cX8_partOf 35 = .ok (.ireturn, 1) := by decide +kernel
set_option maxHeartbeats 4000000 in
set_option maxRecDepth 20000 in
theorem b_st_partOf_b6 {X : Cx} {d : Nat} (hX : Ok M_st_partOf (d + 2) X) {r : Int32 × Mem} (hr : RetI M_st_partOf X r.1 r.2) : ∀ (n : Nat) (x2 : Int32) (x3 : Int32) (μ : Mem) (dy : Nat → Nat), f_st_partOf_b6 n x2 x3 μ = some r → AW X 6 [(0, .ref (gA (xG X) 4)), (2, .int x2), (3, .int x3)] [] μ dy := by
  intro n
  induction n with
  | zero => intro x2 x3 μ dy hf; exact nomatch hf
  | succ n ih =>
    intro x2 x3 μ dy hf
    rw [f_st_partOf_b6] at hf
    refine r_iload_n hX dX8_partOf_6 2 rfl ?_
    refine r_aload_n hX dX8_partOf_7 0 rfl ?_
    refine r_get hX fl_X8_36 (w_4 _ _ _) rfl dX8_partOf_8 ?_
    refine r_icmp_ge hX 34 dX8_partOf_11 rfl (fun hc1 => ?_) (fun hc1 => ?_)
    · rw [if_pos hc1] at hf
      refine r_iload_n hX dX8_partOf_34 1 rfl ?_
      exact fin_I hf hr _ _ _ dX8_partOf_35
    · rw [if_neg hc1] at hf
      refine r_iload_n hX dX8_partOf_14 1 rfl ?_
      refine r_aload_n hX dX8_partOf_15 0 rfl ?_
      refine r_iload_n hX dX8_partOf_16 1 rfl ?_
      obtain ⟨v4, μ2, h3, hf⟩ := bd2_eq hf
      refine r_callVI (Ok.le hX (by omega)) (c_st_hearersOfAny (d := d)  h3) cv_X8_61 (w_4 _ _ _) rfl rfl (st := [.int x2]) rfl rfl rfl dX8_partOf_17 (fun dy => ?_)
      refine r_aload_n hX dX8_partOf_20 0 rfl ?_
      refine r_iload_n hX dX8_partOf_21 1 rfl ?_
      obtain ⟨v7, μ5, h6, hf⟩ := bd2_eq hf
      refine r_callVI (Ok.le hX (by omega)) (c_st_heardByAny (d := d)  h6) cv_X8_64 (w_4 _ _ _) rfl rfl (st := [.int v4, .int x2]) rfl rfl rfl dX8_partOf_22 (fun dy => ?_)
      refine r_ior hX dX8_partOf_25 ?_
      refine r_ior hX dX8_partOf_26 ?_
      refine r_istore_n hX dX8_partOf_27 rfl (ls' := [(2, .int (x2 ||| (v4 ||| v7))), (0, .ref (gA (xG X) 4)), (3, .int x3)]) rfl ?_
      refine r_iinc hX (x3 + (1 : Int32)) dX8_partOf_28 2 rfl rfl rfl (ls' := [(3, .int (x3 + (1 : Int32))), (2, .int (x2 ||| (v4 ||| v7))), (0, .ref (gA (xG X) 4))]) rfl ?_
      refine r_goto hX 6 dX8_partOf_31 rfl ?_
      refine r_weak [2, 1, 0] rfl ?_
      exact ih _ _ _ _ hf
set_option maxHeartbeats 4000000 in
set_option maxRecDepth 20000 in
theorem c_st_partOf {G : Gx} {d : Nat} {x1 : Int32} {μ : Mem} {r : Int32 × Mem} (hf : f_st_partOf x1 μ = some r) : Con G M_st_partOf (d + 2) [.ref (gA G 4), .int x1] μ (some (.int r.1), r.2) := by
  refine Con.ofI ⟨rfl, rfl, Nat.le_of_ble_eq_true rfl⟩ rfl rfl (fun X hG hX hr dy => ?_)
  subst hG
  show AW X 0 [(0, .ref (gA (xG X) 4)), (1, .int x1)] [] μ dy
  unfold f_st_partOf at hf
  refine r_iconst hX (1 : Int32) dX8_partOf_0 rfl ?_
  refine r_iload_n hX dX8_partOf_1 1 rfl ?_
  refine r_ishl hX dX8_partOf_2 ?_
  refine r_istore_n hX dX8_partOf_3 rfl (ls' := [(2, .int ((1 : Int32) <<< (x1 &&& 31))), (0, .ref (gA (xG X) 4)), (1, .int x1)]) rfl ?_
  refine r_iconst hX (0 : Int32) dX8_partOf_4 rfl ?_
  refine r_istore_n hX dX8_partOf_5 rfl (ls' := [(3, .int (0 : Int32)), (2, .int ((1 : Int32) <<< (x1 &&& 31))), (0, .ref (gA (xG X) 4)), (1, .int x1)]) rfl ?_
  refine r_weak [2, 1, 0] rfl ?_
  exact b_st_partOf_b6 hX hr FU _ _ _ _ hf
theorem dJ6_numberOfTrailingZeros_0f7a4_0 : decode cJ6_numberOfTrailingZeros_0f7a4 0 = .ok (.iload_n 0, 1) := by decide +kernel
theorem dJ6_numberOfTrailingZeros_0f7a4_1 : decode cJ6_numberOfTrailingZeros_0f7a4 1 = .ok (.iconst (-1), 1) := by decide +kernel
theorem dJ6_numberOfTrailingZeros_0f7a4_2 : decode cJ6_numberOfTrailingZeros_0f7a4 2 = .ok (.ixor, 1) := by decide +kernel
theorem dJ6_numberOfTrailingZeros_0f7a4_3 : decode cJ6_numberOfTrailingZeros_0f7a4 3 = .ok (.iload_n 0, 1) := by decide +kernel
theorem dJ6_numberOfTrailingZeros_0f7a4_4 : decode cJ6_numberOfTrailingZeros_0f7a4 4 = .ok (.iconst 1, 1) := by decide +kernel
theorem dJ6_numberOfTrailingZeros_0f7a4_5 : decode cJ6_numberOfTrailingZeros_0f7a4 5 = .ok (.isub, 1) := by decide +kernel
theorem dJ6_numberOfTrailingZeros_0f7a4_6 : decode cJ6_numberOfTrailingZeros_0f7a4 6 = .ok (.iand, 1) := by decide +kernel
theorem dJ6_numberOfTrailingZeros_0f7a4_7 : decode cJ6_numberOfTrailingZeros_0f7a4 7 = .ok (.istore_n 0, 1) := by decide +kernel
theorem dJ6_numberOfTrailingZeros_0f7a4_8 : decode cJ6_numberOfTrailingZeros_0f7a4 8 = .ok (.iload_n 0, 1) := by decide +kernel
theorem dJ6_numberOfTrailingZeros_0f7a4_9 : decode cJ6_numberOfTrailingZeros_0f7a4 9 = .ok (.ifCond .gt 8, 3) := by decide +kernel
theorem dJ6_numberOfTrailingZeros_0f7a4_12 : decode cJ6_numberOfTrailingZeros_0f7a4 12 = .ok (.iload_n 0, 1) := by decide +kernel
theorem dJ6_numberOfTrailingZeros_0f7a4_13 : decode cJ6_numberOfTrailingZeros_0f7a4 13 = .ok (.bipush 32, 2) := by decide +kernel
theorem dJ6_numberOfTrailingZeros_0f7a4_15 : decode cJ6_numberOfTrailingZeros_0f7a4 15 = .ok (.iand, 1) := by decide +kernel
theorem dJ6_numberOfTrailingZeros_0f7a4_16 : decode cJ6_numberOfTrailingZeros_0f7a4 16 = .ok (.ireturn, 1) := by decide +kernel
theorem dJ6_numberOfTrailingZeros_0f7a4_17 : decode cJ6_numberOfTrailingZeros_0f7a4 17 = .ok (.iconst 1, 1) := by decide +kernel
theorem dJ6_numberOfTrailingZeros_0f7a4_18 : decode cJ6_numberOfTrailingZeros_0f7a4 18 = .ok (.istore_n 1, 1) := by decide +kernel
theorem dJ6_numberOfTrailingZeros_0f7a4_19 : decode cJ6_numberOfTrailingZeros_0f7a4 19 = .ok (.iload_n 0, 1) := by decide +kernel
theorem dJ6_numberOfTrailingZeros_0f7a4_20 : decode cJ6_numberOfTrailingZeros_0f7a4 20 = .ok (.ldc_w 264, 3) := by decide +kernel
theorem dJ6_numberOfTrailingZeros_0f7a4_23 : decode cJ6_numberOfTrailingZeros_0f7a4 23 = .ok (.if_icmp .le 11, 3) := by decide +kernel
theorem dJ6_numberOfTrailingZeros_0f7a4_26 : decode cJ6_numberOfTrailingZeros_0f7a4 26 = .ok (.iinc 1 16, 3) := by decide +kernel
theorem dJ6_numberOfTrailingZeros_0f7a4_29 : decode cJ6_numberOfTrailingZeros_0f7a4 29 = .ok (.iload_n 0, 1) := by decide +kernel
theorem dJ6_numberOfTrailingZeros_0f7a4_30 : decode cJ6_numberOfTrailingZeros_0f7a4 30 = .ok (.bipush 16, 2) := by decide +kernel
theorem dJ6_numberOfTrailingZeros_0f7a4_32 : decode cJ6_numberOfTrailingZeros_0f7a4 32 = .ok (.iushr, 1) := by decide +kernel
theorem dJ6_numberOfTrailingZeros_0f7a4_33 : decode cJ6_numberOfTrailingZeros_0f7a4 33 = .ok (.istore_n 0, 1) := by decide +kernel
theorem dJ6_numberOfTrailingZeros_0f7a4_34 : decode cJ6_numberOfTrailingZeros_0f7a4 34 = .ok (.iload_n 0, 1) := by decide +kernel
theorem dJ6_numberOfTrailingZeros_0f7a4_35 : decode cJ6_numberOfTrailingZeros_0f7a4 35 = .ok (.sipush 256, 3) := by decide +kernel
theorem dJ6_numberOfTrailingZeros_0f7a4_38 : decode cJ6_numberOfTrailingZeros_0f7a4 38 = .ok (.if_icmp .le 11, 3) := by decide +kernel
theorem dJ6_numberOfTrailingZeros_0f7a4_41 : decode cJ6_numberOfTrailingZeros_0f7a4 41 = .ok (.iinc 1 8, 3) := by decide +kernel
theorem dJ6_numberOfTrailingZeros_0f7a4_44 : decode cJ6_numberOfTrailingZeros_0f7a4 44 = .ok (.iload_n 0, 1) := by decide +kernel
theorem dJ6_numberOfTrailingZeros_0f7a4_45 : decode cJ6_numberOfTrailingZeros_0f7a4 45 = .ok (.bipush 8, 2) := by decide +kernel
theorem dJ6_numberOfTrailingZeros_0f7a4_47 : decode cJ6_numberOfTrailingZeros_0f7a4 47 = .ok (.iushr, 1) := by decide +kernel
theorem dJ6_numberOfTrailingZeros_0f7a4_48 : decode cJ6_numberOfTrailingZeros_0f7a4 48 = .ok (.istore_n 0, 1) := by decide +kernel
theorem dJ6_numberOfTrailingZeros_0f7a4_49 : decode cJ6_numberOfTrailingZeros_0f7a4 49 = .ok (.iload_n 0, 1) := by decide +kernel
theorem dJ6_numberOfTrailingZeros_0f7a4_50 : decode cJ6_numberOfTrailingZeros_0f7a4 50 = .ok (.bipush 16, 2) := by decide +kernel
theorem dJ6_numberOfTrailingZeros_0f7a4_52 : decode cJ6_numberOfTrailingZeros_0f7a4 52 = .ok (.if_icmp .le 10, 3) := by decide +kernel
theorem dJ6_numberOfTrailingZeros_0f7a4_55 : decode cJ6_numberOfTrailingZeros_0f7a4 55 = .ok (.iinc 1 4, 3) := by decide +kernel
theorem dJ6_numberOfTrailingZeros_0f7a4_58 : decode cJ6_numberOfTrailingZeros_0f7a4 58 = .ok (.iload_n 0, 1) := by decide +kernel
theorem dJ6_numberOfTrailingZeros_0f7a4_59 : decode cJ6_numberOfTrailingZeros_0f7a4 59 = .ok (.iconst 4, 1) := by decide +kernel
theorem dJ6_numberOfTrailingZeros_0f7a4_60 : decode cJ6_numberOfTrailingZeros_0f7a4 60 = .ok (.iushr, 1) := by decide +kernel
theorem dJ6_numberOfTrailingZeros_0f7a4_61 : decode cJ6_numberOfTrailingZeros_0f7a4 61 = .ok (.istore_n 0, 1) := by decide +kernel
theorem dJ6_numberOfTrailingZeros_0f7a4_62 : decode cJ6_numberOfTrailingZeros_0f7a4 62 = .ok (.iload_n 0, 1) := by decide +kernel
theorem dJ6_numberOfTrailingZeros_0f7a4_63 : decode cJ6_numberOfTrailingZeros_0f7a4 63 = .ok (.iconst 4, 1) := by decide +kernel
theorem dJ6_numberOfTrailingZeros_0f7a4_64 : decode cJ6_numberOfTrailingZeros_0f7a4 64 = .ok (.if_icmp .le 10, 3) := by decide +kernel
theorem dJ6_numberOfTrailingZeros_0f7a4_67 : decode cJ6_numberOfTrailingZeros_0f7a4 67 = .ok (.iinc 1 2, 3) := by decide +kernel
theorem dJ6_numberOfTrailingZeros_0f7a4_70 : decode cJ6_numberOfTrailingZeros_0f7a4 70 = .ok (.iload_n 0, 1) := by decide +kernel
theorem dJ6_numberOfTrailingZeros_0f7a4_71 : decode cJ6_numberOfTrailingZeros_0f7a4 71 = .ok (.iconst 2, 1) := by decide +kernel
theorem dJ6_numberOfTrailingZeros_0f7a4_72 : decode cJ6_numberOfTrailingZeros_0f7a4 72 = .ok (.iushr, 1) := by decide +kernel
theorem dJ6_numberOfTrailingZeros_0f7a4_73 : decode cJ6_numberOfTrailingZeros_0f7a4 73 = .ok (.istore_n 0, 1) := by decide +kernel
theorem dJ6_numberOfTrailingZeros_0f7a4_74 : decode cJ6_numberOfTrailingZeros_0f7a4 74 = .ok (.iload_n 1, 1) := by decide +kernel
theorem dJ6_numberOfTrailingZeros_0f7a4_75 : decode cJ6_numberOfTrailingZeros_0f7a4 75 = .ok (.iload_n 0, 1) := by decide +kernel
theorem dJ6_numberOfTrailingZeros_0f7a4_76 : decode cJ6_numberOfTrailingZeros_0f7a4 76 = .ok (.iconst 1, 1) := by decide +kernel
theorem dJ6_numberOfTrailingZeros_0f7a4_77 : decode cJ6_numberOfTrailingZeros_0f7a4 77 = .ok (.iushr, 1) := by decide +kernel
theorem dJ6_numberOfTrailingZeros_0f7a4_78 : decode cJ6_numberOfTrailingZeros_0f7a4 78 = .ok (.iadd, 1) := by decide +kernel
theorem dJ6_numberOfTrailingZeros_0f7a4_79 : decode cJ6_numberOfTrailingZeros_0f7a4 79 = .ok (.ireturn, 1) := by decide +kernel
set_option maxHeartbeats 4000000 in
set_option maxRecDepth 20000 in
theorem b_jd_numberOfTrailingZeros_b74 {X : Cx} {d : Nat} (hX : Ok M_jd_numberOfTrailingZeros (d + 0) X) {r : Int32 × Mem} (hr : RetI M_jd_numberOfTrailingZeros X r.1 r.2) (x0 : Int32) (x1 : Int32) (μ : Mem) (dy : Nat → Nat) (hf : f_jd_numberOfTrailingZeros_b74 x0 x1 μ = some r) : AW X 74 [(0, .int x0), (1, .int x1)] [] μ dy := by
  unfold f_jd_numberOfTrailingZeros_b74 at hf
  refine r_iload_n hX dJ6_numberOfTrailingZeros_0f7a4_74 1 rfl ?_
  refine r_iload_n hX dJ6_numberOfTrailingZeros_0f7a4_75 0 rfl ?_
  refine r_iconst hX (1 : Int32) dJ6_numberOfTrailingZeros_0f7a4_76 rfl ?_
  refine r_iushr hX dJ6_numberOfTrailingZeros_0f7a4_77 ?_
  refine r_iadd hX dJ6_numberOfTrailingZeros_0f7a4_78 ?_
  exact fin_I hf hr _ _ _ dJ6_numberOfTrailingZeros_0f7a4_79
set_option maxHeartbeats 4000000 in
set_option maxRecDepth 20000 in
theorem b_jd_numberOfTrailingZeros_b62 {X : Cx} {d : Nat} (hX : Ok M_jd_numberOfTrailingZeros (d + 0) X) {r : Int32 × Mem} (hr : RetI M_jd_numberOfTrailingZeros X r.1 r.2) (x0 : Int32) (x1 : Int32) (μ : Mem) (dy : Nat → Nat) (hf : f_jd_numberOfTrailingZeros_b62 x0 x1 μ = some r) : AW X 62 [(0, .int x0), (1, .int x1)] [] μ dy := by
  unfold f_jd_numberOfTrailingZeros_b62 at hf
  refine r_iload_n hX dJ6_numberOfTrailingZeros_0f7a4_62 0 rfl ?_
  refine r_iconst hX (4 : Int32) dJ6_numberOfTrailingZeros_0f7a4_63 rfl ?_
  refine r_icmp_le hX 74 dJ6_numberOfTrailingZeros_0f7a4_64 rfl (fun hc7 => ?_) (fun hc7 => ?_)
  · rw [if_pos hc7] at hf
    refine r_weak [0, 1] rfl ?_
    exact b_jd_numberOfTrailingZeros_b74 hX hr _ _ _ _ hf
  · rw [if_neg hc7] at hf
    refine r_iinc hX (x1 + (2 : Int32)) dJ6_numberOfTrailingZeros_0f7a4_67 1 rfl rfl rfl (ls' := [(1, .int (x1 + (2 : Int32))), (0, .int x0)]) rfl ?_
    refine r_iload_n hX dJ6_numberOfTrailingZeros_0f7a4_70 1 rfl ?_
    refine r_iconst hX (2 : Int32) dJ6_numberOfTrailingZeros_0f7a4_71 rfl ?_
    refine r_iushr hX dJ6_numberOfTrailingZeros_0f7a4_72 ?_
    obtain ⟨v8, e9, hf⟩ := bnd_eq hf
    refine r_topI e9 ?_
    refine r_istore_n hX dJ6_numberOfTrailingZeros_0f7a4_73 rfl (ls' := [(0, .int v8), (1, .int (x1 + (2 : Int32)))]) rfl ?_
    refine r_weak [0, 1] rfl ?_
    exact b_jd_numberOfTrailingZeros_b74 hX hr _ _ _ _ hf
set_option maxHeartbeats 4000000 in
set_option maxRecDepth 20000 in
theorem b_jd_numberOfTrailingZeros_b49 {X : Cx} {d : Nat} (hX : Ok M_jd_numberOfTrailingZeros (d + 0) X) {r : Int32 × Mem} (hr : RetI M_jd_numberOfTrailingZeros X r.1 r.2) (x0 : Int32) (x1 : Int32) (μ : Mem) (dy : Nat → Nat) (hf : f_jd_numberOfTrailingZeros_b49 x0 x1 μ = some r) : AW X 49 [(0, .int x0), (1, .int x1)] [] μ dy := by
  unfold f_jd_numberOfTrailingZeros_b49 at hf
  refine r_iload_n hX dJ6_numberOfTrailingZeros_0f7a4_49 0 rfl ?_
  refine r_bipush hX (16 : Int32) dJ6_numberOfTrailingZeros_0f7a4_50 rfl ?_
  refine r_icmp_le hX 62 dJ6_numberOfTrailingZeros_0f7a4_52 rfl (fun hc6 => ?_) (fun hc6 => ?_)
  · rw [if_pos hc6] at hf
    refine r_weak [0, 1] rfl ?_
    exact b_jd_numberOfTrailingZeros_b62 hX hr _ _ _ _ hf
  · rw [if_neg hc6] at hf
    refine r_iinc hX (x1 + (4 : Int32)) dJ6_numberOfTrailingZeros_0f7a4_55 1 rfl rfl rfl (ls' := [(1, .int (x1 + (4 : Int32))), (0, .int x0)]) rfl ?_
    refine r_iload_n hX dJ6_numberOfTrailingZeros_0f7a4_58 1 rfl ?_
    refine r_iconst hX (4 : Int32) dJ6_numberOfTrailingZeros_0f7a4_59 rfl ?_
    refine r_iushr hX dJ6_numberOfTrailingZeros_0f7a4_60 ?_
    obtain ⟨v10, e11, hf⟩ := bnd_eq hf
    refine r_topI e11 ?_
    refine r_istore_n hX dJ6_numberOfTrailingZeros_0f7a4_61 rfl (ls' := [(0, .int v10), (1, .int (x1 + (4 : Int32)))]) rfl ?_
    refine r_weak [0, 1] rfl ?_
    exact b_jd_numberOfTrailingZeros_b62 hX hr _ _ _ _ hf
set_option maxHeartbeats 4000000 in
set_option maxRecDepth 20000 in
theorem b_jd_numberOfTrailingZeros_b34 {X : Cx} {d : Nat} (hX : Ok M_jd_numberOfTrailingZeros (d + 0) X) {r : Int32 × Mem} (hr : RetI M_jd_numberOfTrailingZeros X r.1 r.2) (x0 : Int32) (x1 : Int32) (μ : Mem) (dy : Nat → Nat) (hf : f_jd_numberOfTrailingZeros_b34 x0 x1 μ = some r) : AW X 34 [(0, .int x0), (1, .int x1)] [] μ dy := by
  unfold f_jd_numberOfTrailingZeros_b34 at hf
  refine r_iload_n hX dJ6_numberOfTrailingZeros_0f7a4_34 0 rfl ?_
  refine r_sipush hX (256 : Int32) dJ6_numberOfTrailingZeros_0f7a4_35 rfl ?_
  refine r_icmp_le hX 49 dJ6_numberOfTrailingZeros_0f7a4_38 rfl (fun hc5 => ?_) (fun hc5 => ?_)
  · rw [if_pos hc5] at hf
    refine r_weak [0, 1] rfl ?_
    exact b_jd_numberOfTrailingZeros_b49 hX hr _ _ _ _ hf
  · rw [if_neg hc5] at hf
    refine r_iinc hX (x1 + (8 : Int32)) dJ6_numberOfTrailingZeros_0f7a4_41 1 rfl rfl rfl (ls' := [(1, .int (x1 + (8 : Int32))), (0, .int x0)]) rfl ?_
    refine r_iload_n hX dJ6_numberOfTrailingZeros_0f7a4_44 1 rfl ?_
    refine r_bipush hX (8 : Int32) dJ6_numberOfTrailingZeros_0f7a4_45 rfl ?_
    refine r_iushr hX dJ6_numberOfTrailingZeros_0f7a4_47 ?_
    obtain ⟨v12, e13, hf⟩ := bnd_eq hf
    refine r_topI e13 ?_
    refine r_istore_n hX dJ6_numberOfTrailingZeros_0f7a4_48 rfl (ls' := [(0, .int v12), (1, .int (x1 + (8 : Int32)))]) rfl ?_
    refine r_weak [0, 1] rfl ?_
    exact b_jd_numberOfTrailingZeros_b49 hX hr _ _ _ _ hf
set_option maxHeartbeats 4000000 in
set_option maxRecDepth 20000 in
theorem c_jd_numberOfTrailingZeros {G : Gx} {d : Nat} {x0 : Int32} {μ : Mem} {r : Int32 × Mem} (hf : f_jd_numberOfTrailingZeros x0 μ = some r) : Con G M_jd_numberOfTrailingZeros (d + 0) [.int x0] μ (some (.int r.1), r.2) := by
  refine Con.ofI ⟨rfl, rfl, Nat.le_of_ble_eq_true rfl⟩ rfl rfl (fun X hG hX hr dy => ?_)
  subst hG
  show AW X 0 [(0, .int x0)] [] μ dy
  unfold f_jd_numberOfTrailingZeros at hf
  refine r_iload_n hX dJ6_numberOfTrailingZeros_0f7a4_0 0 rfl ?_
  refine r_iconst hX (-1 : Int32) dJ6_numberOfTrailingZeros_0f7a4_1 rfl ?_
  refine r_ixor hX dJ6_numberOfTrailingZeros_0f7a4_2 ?_
  refine r_iload_n hX dJ6_numberOfTrailingZeros_0f7a4_3 0 rfl ?_
  refine r_iconst hX (1 : Int32) dJ6_numberOfTrailingZeros_0f7a4_4 rfl ?_
  refine r_isub hX dJ6_numberOfTrailingZeros_0f7a4_5 ?_
  refine r_iand hX dJ6_numberOfTrailingZeros_0f7a4_6 ?_
  obtain ⟨v1, e2, hf⟩ := bnd_eq hf
  refine r_topI e2 ?_
  refine r_istore_n hX dJ6_numberOfTrailingZeros_0f7a4_7 rfl (ls' := [(0, .int v1)]) rfl ?_
  refine r_iload_n hX dJ6_numberOfTrailingZeros_0f7a4_8 0 rfl ?_
  refine r_if_gt hX 17 dJ6_numberOfTrailingZeros_0f7a4_9 rfl (fun hc3 => ?_) (fun hc3 => ?_)
  · rw [if_pos hc3] at hf
    refine r_iconst hX (1 : Int32) dJ6_numberOfTrailingZeros_0f7a4_17 rfl ?_
    refine r_istore_n hX dJ6_numberOfTrailingZeros_0f7a4_18 rfl (ls' := [(1, .int (1 : Int32)), (0, .int v1)]) rfl ?_
    refine r_iload_n hX dJ6_numberOfTrailingZeros_0f7a4_19 1 rfl ?_
    refine r_ldcw hX dJ6_numberOfTrailingZeros_0f7a4_20 kc_J6_264 ?_
    refine r_icmp_le hX 34 dJ6_numberOfTrailingZeros_0f7a4_23 rfl (fun hc4 => ?_) (fun hc4 => ?_)
    · rw [if_pos hc4] at hf
      refine r_weak [1, 0] rfl ?_
      exact b_jd_numberOfTrailingZeros_b34 hX hr _ _ _ _ hf
    · rw [if_neg hc4] at hf
      refine r_iinc hX ((1 : Int32) + (16 : Int32)) dJ6_numberOfTrailingZeros_0f7a4_26 0 rfl rfl rfl (ls' := [(1, .int ((1 : Int32) + (16 : Int32))), (0, .int v1)]) rfl ?_
      refine r_iload_n hX dJ6_numberOfTrailingZeros_0f7a4_29 1 rfl ?_
      refine r_bipush hX (16 : Int32) dJ6_numberOfTrailingZeros_0f7a4_30 rfl ?_
      refine r_iushr hX dJ6_numberOfTrailingZeros_0f7a4_32 ?_
      obtain ⟨v14, e15, hf⟩ := bnd_eq hf
      refine r_topI e15 ?_
      refine r_istore_n hX dJ6_numberOfTrailingZeros_0f7a4_33 rfl (ls' := [(0, .int v14), (1, .int ((1 : Int32) + (16 : Int32)))]) rfl ?_
      refine r_weak [0, 1] rfl ?_
      exact b_jd_numberOfTrailingZeros_b34 hX hr _ _ _ _ hf
  · rw [if_neg hc3] at hf
    refine r_iload_n hX dJ6_numberOfTrailingZeros_0f7a4_12 0 rfl ?_
    refine r_bipush hX (32 : Int32) dJ6_numberOfTrailingZeros_0f7a4_13 rfl ?_
    refine r_iand hX dJ6_numberOfTrailingZeros_0f7a4_15 ?_
    exact fin_I hf hr _ _ _ dJ6_numberOfTrailingZeros_0f7a4_16
theorem dX8_passOn_0 : decode cX8_passOn 0 = .ok (.iconst 1, 1) := by decide +kernel
theorem dX8_passOn_1 : decode cX8_passOn 1 = .ok (.iload_n 2, 1) := by decide +kernel
theorem dX8_passOn_2 : decode cX8_passOn 2 = .ok (.ishl, 1) := by decide +kernel
theorem dX8_passOn_3 : decode cX8_passOn 3 = .ok (.istore 4, 2) := by decide +kernel
theorem dX8_passOn_5 : decode cX8_passOn 5 = .ok (.aload_n 0, 1) := by decide +kernel
theorem dX8_passOn_6 : decode cX8_passOn 6 = .ok (.getfield 26, 3) := by decide +kernel
theorem dX8_passOn_9 : decode cX8_passOn 9 = .ok (.iconst 0, 1) := by decide +kernel
theorem dX8_passOn_10 : decode cX8_passOn 10 = .ok (.iload 4, 2) := by decide +kernel
theorem dX8_passOn_12 : decode cX8_passOn 12 = .ok (.iastore, 1) := by decide +kernel
theorem dX8_passOn_13 : decode cX8_passOn 13 = .ok (.iconst 0, 1) := by decide +kernel
theorem dX8_passOn_14 : decode cX8_passOn 14 = .ok (.istore 5, 2) := by decide +kernel
theorem dX8_passOn_16 : decode cX8_passOn 16 = .ok (.iload 5, 2) := by decide +kernel
theorem dX8_passOn_18 : decode cX8_passOn 18 = .ok (.bipush 14, 2) := by decide +kernel
theorem dX8_passOn_20 : decode cX8_passOn 20 = .ok (.if_icmp .ge 60, 3) := by decide +kernel
theorem dX8_passOn_23 : decode cX8_passOn 23 = .ok (.aload_n 0, 1) := by decide +kernel
theorem dX8_passOn_24 : decode cX8_passOn 24 = .ok (.getfield 26, 3) := by decide +kernel
theorem dX8_passOn_27 : decode cX8_passOn 27 = .ok (.iload 5, 2) := by decide +kernel
theorem dX8_passOn_29 : decode cX8_passOn 29 = .ok (.iaload, 1) := by decide +kernel
theorem dX8_passOn_30 : decode cX8_passOn 30 = .ok (.iload_n 1, 1) := by decide +kernel
theorem dX8_passOn_31 : decode cX8_passOn 31 = .ok (.ishr, 1) := by decide +kernel
theorem dX8_passOn_32 : decode cX8_passOn 32 = .ok (.iconst 1, 1) := by decide +kernel
theorem dX8_passOn_33 : decode cX8_passOn 33 = .ok (.iand, 1) := by decide +kernel
theorem dX8_passOn_34 : decode cX8_passOn 34 = .ok (.ifCond .ne 46, 3) := by decide +kernel
theorem dX8_passOn_37 : decode cX8_passOn 37 = .ok (.aload_n 0, 1) := by decide +kernel
theorem dX8_passOn_38 : decode cX8_passOn 38 = .ok (.getfield 26, 3) := by decide +kernel
theorem dX8_passOn_41 : decode cX8_passOn 41 = .ok (.iload 5, 2) := by decide +kernel
theorem dX8_passOn_43 : decode cX8_passOn 43 = .ok (.iconst 1, 1) := by decide +kernel
theorem dX8_passOn_44 : decode cX8_passOn 44 = .ok (.iadd, 1) := by decide +kernel
theorem dX8_passOn_45 : decode cX8_passOn 45 = .ok (.aload_n 0, 1) := by decide +kernel
theorem dX8_passOn_46 : decode cX8_passOn 46 = .ok (.aload_n 0, 1) := by decide +kernel
theorem dX8_passOn_47 : decode cX8_passOn 47 = .ok (.getfield 26, 3) := by decide +kernel
theorem dX8_passOn_50 : decode cX8_passOn 50 = .ok (.iload 5, 2) := by decide +kernel
theorem dX8_passOn_52 : decode cX8_passOn 52 = .ok (.iaload, 1) := by decide +kernel
theorem dX8_passOn_53 : decode cX8_passOn 53 = .ok (.invokevirtual 64, 3) := by decide +kernel
theorem dX8_passOn_56 : decode cX8_passOn 56 = .ok (.iload 4, 2) := by decide +kernel
theorem dX8_passOn_58 : decode cX8_passOn 58 = .ok (.iconst (-1), 1) := by decide +kernel
theorem dX8_passOn_59 : decode cX8_passOn 59 = .ok (.ixor, 1) := by decide +kernel
theorem dX8_passOn_60 : decode cX8_passOn 60 = .ok (.iand, 1) := by decide +kernel
theorem dX8_passOn_61 : decode cX8_passOn 61 = .ok (.iastore, 1) := by decide +kernel
theorem dX8_passOn_62 : decode cX8_passOn 62 = .ok (.iload 4, 2) := by decide +kernel
theorem dX8_passOn_64 : decode cX8_passOn 64 = .ok (.aload_n 0, 1) := by decide +kernel
theorem dX8_passOn_65 : decode cX8_passOn 65 = .ok (.getfield 26, 3) := by decide +kernel
theorem dX8_passOn_68 : decode cX8_passOn 68 = .ok (.iinc 5 1, 3) := by decide +kernel
theorem dX8_passOn_71 : decode cX8_passOn 71 = .ok (.iload 5, 2) := by decide +kernel
theorem dX8_passOn_73 : decode cX8_passOn 73 = .ok (.iaload, 1) := by decide +kernel
theorem dX8_passOn_74 : decode cX8_passOn 74 = .ok (.ior, 1) := by decide +kernel
theorem dX8_passOn_75 : decode cX8_passOn 75 = .ok (.istore 4, 2) := by decide +kernel
theorem dX8_passOn_77 : decode cX8_passOn 77 = .ok (.goto (-61), 3) := by decide +kernel
theorem dX8_passOn_80 : decode cX8_passOn 80 = .ok (.aload_n 0, 1) := by decide +kernel
theorem dX8_passOn_81 : decode cX8_passOn 81 = .ok (.getfield 26, 3) := by decide +kernel
theorem dX8_passOn_84 : decode cX8_passOn 84 = .ok (.iload 5, 2) := by decide +kernel
theorem dX8_passOn_86 : decode cX8_passOn 86 = .ok (.iaload, 1) := by decide +kernel
theorem dX8_passOn_87 : decode cX8_passOn 87 = .ok (.iload_n 1, 1) := by decide +kernel
theorem dX8_passOn_88 : decode cX8_passOn 88 = .ok (.ishr, 1) := by decide +kernel
theorem dX8_passOn_89 : decode cX8_passOn 89 = .ok (.iconst 1, 1) := by decide +kernel
theorem dX8_passOn_90 : decode cX8_passOn 90 = .ok (.iand, 1) := by decide +kernel
theorem dX8_passOn_91 : decode cX8_passOn 91 = .ok (.ifCond .ne 6, 3) := by decide +kernel
theorem dX8_passOn_94 : decode cX8_passOn 94 = .ok (.bipush (-2), 2) := by decide +kernel
theorem dX8_passOn_96 : decode cX8_passOn 96 = .ok (.ireturn, 1) := by decide +kernel
theorem dX8_passOn_97 : decode cX8_passOn 97 = .ok (.aload_n 3, 1) := by decide +kernel
theorem dX8_passOn_98 : decode cX8_passOn 98 = .ok (.invokevirtual 67, 3) := by decide +kernel
theorem dX8_passOn_101 : decode cX8_passOn 101 = .ok (.iload_n 1, 1) := by decide +kernel
theorem dX8_passOn_102 : decode cX8_passOn 102 = .ok (.istore 6, 2) := by decide +kernel
theorem dX8_passOn_104 : decode cX8_passOn 104 = .ok (.iload 5, 2) := by decide +kernel
theorem dX8_passOn_106 : decode cX8_passOn 106 = .ok (.iconst 1, 1) := by decide +kernel
theorem dX8_passOn_107 : decode cX8_passOn 107 = .ok (.isub, 1) := by decide +kernel
theorem dX8_passOn_108 : decode cX8_passOn 108 = .ok (.istore 7, 2) := by decide +kernel
theorem dX8_passOn_110 : decode cX8_passOn 110 = .ok (.iload 7, 2) := by decide +kernel
theorem dX8_passOn_112 : decode cX8_passOn 112 = .ok (.ifCond .le 37, 3) := by decide +kernel
theorem dX8_passOn_115 : decode cX8_passOn 115 = .ok (.aload_n 0, 1) := by decide +kernel
theorem dX8_passOn_116 : decode cX8_passOn 116 = .ok (.iconst 1, 1) := by decide +kernel
theorem dX8_passOn_117 : decode cX8_passOn 117 = .ok (.iload 6, 2) := by decide +kernel
theorem dX8_passOn_119 : decode cX8_passOn 119 = .ok (.ishl, 1) := by decide +kernel
theorem dX8_passOn_120 : decode cX8_passOn 120 = .ok (.invokevirtual 61, 3) := by decide +kernel
theorem dX8_passOn_123 : decode cX8_passOn 123 = .ok (.aload_n 0, 1) := by decide +kernel
theorem dX8_passOn_124 : decode cX8_passOn 124 = .ok (.getfield 26, 3) := by decide +kernel
theorem dX8_passOn_127 : decode cX8_passOn 127 = .ok (.iload 7, 2) := by decide +kernel
theorem dX8_passOn_129 : decode cX8_passOn 129 = .ok (.iaload, 1) := by decide +kernel
theorem dX8_passOn_130 : decode cX8_passOn 130 = .ok (.iand, 1) := by decide +kernel
theorem dX8_passOn_131 : decode cX8_passOn 131 = .ok (.invokestatic 72, 3) := by decide +kernel
theorem dX8_passOn_134 : decode cX8_passOn 134 = .ok (.istore 6, 2) := by decide +kernel
theorem dX8_passOn_136 : decode cX8_passOn 136 = .ok (.aload_n 3, 1) := by decide +kernel
theorem dX8_passOn_137 : decode cX8_passOn 137 = .ok (.iload 6, 2) := by decide +kernel
theorem dX8_passOn_139 : decode cX8_passOn 139 = .ok (.i2l, 1) := by decide +kernel
theorem dX8_passOn_140 : decode cX8_passOn 140 = .ok (.invokevirtual 77, 3) := by decide +kernel
theorem dX8_passOn_143 : decode cX8_passOn 143 = .ok (.iinc 7 (-1), 3) := by decide +kernel
theorem dX8_passOn_146 : decode cX8_passOn 146 = .ok (.goto (-36), 3) := by decide +kernel
theorem dX8_passOn_149 : decode cX8_passOn 149 = .ok (.iload 5, 2) := by decide +kernel
theorem dX8_passOn_151 : decode cX8_passOn 151 = .ok (.ireturn, 1) := by decide +kernel
set_option maxHeartbeats 4000000 in
set_option maxRecDepth 20000 in
theorem b_st_passOn_b110 {X : Cx} {d : Nat} (hX : Ok M_st_passOn (d + 2) X) {r : Int32 × Mem} (hr : RetI M_st_passOn X r.1 r.2) : ∀ (n : Nat) (x5 : Int32) (x6 : Int32) (x7 : Int32) (μ : Mem) (dy : Nat → Nat), f_st_passOn_b110 n x5 x6 x7 μ = some r → AW X 110 [(0, .ref (gA (xG X) 4)), (3, .ref (gA (xG X) 2)), (5, .int x5), (6, .int x6), (7, .int x7)] [] μ dy := by
  intro n
  induction n with
  | zero => intro x5 x6 x7 μ dy hf; exact nomatch hf
  | succ n ih =>
    intro x5 x6 x7 μ dy hf
    rw [f_st_passOn_b110] at hf
    refine r_iload hX dX8_passOn_110 4 rfl ?_
    refine r_if_le hX 149 dX8_passOn_112 rfl (fun hc9 => ?_) (fun hc9 => ?_)
    · rw [if_pos hc9] at hf
      refine r_iload hX dX8_passOn_149 2 rfl ?_
      exact fin_I hf hr _ _ _ dX8_passOn_151
    · rw [if_neg hc9] at hf
      refine r_aload_n hX dX8_passOn_115 0 rfl ?_
      refine r_iconst hX (1 : Int32) dX8_passOn_116 rfl ?_
      refine r_iload hX dX8_passOn_117 3 rfl ?_
      refine r_ishl hX dX8_passOn_119 ?_
      obtain ⟨v12, μ10, h11, hf⟩ := bd2_eq hf
      refine r_callVI (Ok.le hX (by omega)) (c_st_hearersOfAny (d := d)  h11) cv_X8_61 (w_4 _ _ _) rfl rfl (st := []) rfl rfl rfl dX8_passOn_120 (fun dy => ?_)
      refine r_aload_n hX dX8_passOn_123 0 rfl ?_
      refine r_get hX fl_X8_26 (w_4 _ _ _) rfl dX8_passOn_124 ?_
      refine r_iload hX dX8_passOn_127 4 rfl ?_
      obtain ⟨b13, hf⟩ := chk_eq hf
      refine r_iald hX (w_23 _ _ _) (inb_in b13) dX8_passOn_129 ?_
      refine r_iand hX dX8_passOn_130 ?_
      obtain ⟨v16, μ14, h15, hf⟩ := bd2_eq hf
      refine r_callSI (Ok.le hX (by omega)) (c_jd_numberOfTrailingZeros (d := d)  h15) cs_X8_72 (st := []) rfl rfl rfl dX8_passOn_131 (fun dy => ?_)
      refine r_istore hX dX8_passOn_134 rfl (ls' := [(6, .int v16), (0, .ref (gA (xG X) 4)), (3, .ref (gA (xG X) 2)), (5, .int x5), (7, .int x7)]) rfl ?_
      refine r_aload_n hX dX8_passOn_136 2 rfl ?_
      refine r_iload hX dX8_passOn_137 0 rfl ?_
      refine r_i2l hX dX8_passOn_139 ?_
      obtain ⟨μ17, h18, hf⟩ := bd1_eq hf
      refine r_callVV (Ok.le hX (by omega)) (c_rw_add (d := d)  h18) cv_X8_77 (w_2 _ _ _) rfl rfl (st := []) rfl rfl rfl dX8_passOn_140 (fun dy => ?_)
      refine r_iinc hX (x7 + (-1 : Int32)) dX8_passOn_143 4 rfl rfl rfl (ls' := [(7, .int (x7 + (-1 : Int32))), (6, .int v16), (0, .ref (gA (xG X) 4)), (3, .ref (gA (xG X) 2)), (5, .int x5)]) rfl ?_
      refine r_goto hX 110 dX8_passOn_146 rfl ?_
      refine r_weak [2, 3, 4, 1, 0] rfl ?_
      exact ih _ _ _ _ _ hf
set_option maxHeartbeats 4000000 in
set_option maxRecDepth 20000 in
theorem b_st_passOn_b80 {X : Cx} {d : Nat} (hX : Ok M_st_passOn (d + 2) X) {r : Int32 × Mem} (hr : RetI M_st_passOn X r.1 r.2) (x1 : Int32) (x5 : Int32) (μ : Mem) (dy : Nat → Nat) (hf : f_st_passOn_b80 x1 x5 μ = some r) : AW X 80 [(0, .ref (gA (xG X) 4)), (1, .int x1), (3, .ref (gA (xG X) 2)), (5, .int x5)] [] μ dy := by
  unfold f_st_passOn_b80 at hf
  refine r_aload_n hX dX8_passOn_80 0 rfl ?_
  refine r_get hX fl_X8_26 (w_4 _ _ _) rfl dX8_passOn_81 ?_
  refine r_iload hX dX8_passOn_84 3 rfl ?_
  obtain ⟨b5, hf⟩ := chk_eq hf
  refine r_iald hX (w_23 _ _ _) (inb_in b5) dX8_passOn_86 ?_
  refine r_iload_n hX dX8_passOn_87 1 rfl ?_
  refine r_ishr hX dX8_passOn_88 ?_
  refine r_iconst hX (1 : Int32) dX8_passOn_89 rfl ?_
  refine r_iand hX dX8_passOn_90 ?_
  refine r_if_ne hX 97 dX8_passOn_91 rfl (fun hc6 => ?_) (fun hc6 => ?_)
  · rw [if_neg hc6] at hf
    refine r_aload_n hX dX8_passOn_97 2 rfl ?_
    obtain ⟨μ7, h8, hf⟩ := bd1_eq hf
    refine r_callVV (Ok.le hX (by omega)) (c_rw_clear (d := d)  h8) cv_X8_67 (w_2 _ _ _) rfl rfl (st := []) rfl rfl rfl dX8_passOn_98 (fun dy => ?_)
    refine r_iload_n hX dX8_passOn_101 1 rfl ?_
    refine r_istore hX dX8_passOn_102 rfl (ls' := [(6, .int x1), (0, .ref (gA (xG X) 4)), (1, .int x1), (3, .ref (gA (xG X) 2)), (5, .int x5)]) rfl ?_
    refine r_iload hX dX8_passOn_104 4 rfl ?_
    refine r_iconst hX (1 : Int32) dX8_passOn_106 rfl ?_
    refine r_isub hX dX8_passOn_107 ?_
    refine r_istore hX dX8_passOn_108 rfl (ls' := [(7, .int (x5 - (1 : Int32))), (6, .int x1), (0, .ref (gA (xG X) 4)), (1, .int x1), (3, .ref (gA (xG X) 2)), (5, .int x5)]) rfl ?_
    refine r_weak [2, 4, 5, 1, 0] rfl ?_
    exact b_st_passOn_b110 hX hr FU _ _ _ _ _ hf
  · rw [if_pos hc6] at hf
    refine r_bipush hX (-2 : Int32) dX8_passOn_94 rfl ?_
    exact fin_I hf hr _ _ _ dX8_passOn_96
set_option maxHeartbeats 4000000 in
set_option maxRecDepth 20000 in
theorem b_st_passOn_b16 {X : Cx} {d : Nat} (hX : Ok M_st_passOn (d + 2) X) {r : Int32 × Mem} (hr : RetI M_st_passOn X r.1 r.2) : ∀ (n : Nat) (x1 : Int32) (x4 : Int32) (x5 : Int32) (μ : Mem) (dy : Nat → Nat), f_st_passOn_b16 n x1 x4 x5 μ = some r → AW X 16 [(0, .ref (gA (xG X) 4)), (1, .int x1), (3, .ref (gA (xG X) 2)), (4, .int x4), (5, .int x5)] [] μ dy := by
  intro n
  induction n with
  | zero => intro x1 x4 x5 μ dy hf; exact nomatch hf
  | succ n ih =>
    intro x1 x4 x5 μ dy hf
    rw [f_st_passOn_b16] at hf
    refine r_iload hX dX8_passOn_16 4 rfl ?_
    refine r_bipush hX (14 : Int32) dX8_passOn_18 rfl ?_
    refine r_icmp_ge hX 80 dX8_passOn_20 rfl (fun hc4 => ?_) (fun hc4 => ?_)
    · rw [if_pos hc4] at hf
      refine r_weak [0, 1, 2, 4] rfl ?_
      exact b_st_passOn_b80 hX hr _ _ _ _ hf
    · rw [if_neg hc4] at hf
      refine r_aload_n hX dX8_passOn_23 0 rfl ?_
      refine r_get hX fl_X8_26 (w_4 _ _ _) rfl dX8_passOn_24 ?_
      refine r_iload hX dX8_passOn_27 4 rfl ?_
      obtain ⟨b19, hf⟩ := chk_eq hf
      refine r_iald hX (w_23 _ _ _) (inb_in b19) dX8_passOn_29 ?_
      refine r_iload_n hX dX8_passOn_30 1 rfl ?_
      refine r_ishr hX dX8_passOn_31 ?_
      refine r_iconst hX (1 : Int32) dX8_passOn_32 rfl ?_
      refine r_iand hX dX8_passOn_33 ?_
      refine r_if_ne hX 80 dX8_passOn_34 rfl (fun hc20 => ?_) (fun hc20 => ?_)
      · rw [if_neg hc20] at hf
        refine r_weak [0, 1, 2, 4] rfl ?_
        exact b_st_passOn_b80 hX hr _ _ _ _ hf
      · rw [if_pos hc20] at hf
        refine r_aload_n hX dX8_passOn_37 0 rfl ?_
        refine r_get hX fl_X8_26 (w_4 _ _ _) rfl dX8_passOn_38 ?_
        refine r_iload hX dX8_passOn_41 4 rfl ?_
        refine r_iconst hX (1 : Int32) dX8_passOn_43 rfl ?_
        refine r_iadd hX dX8_passOn_44 ?_
        refine r_aload_n hX dX8_passOn_45 0 rfl ?_
        refine r_aload_n hX dX8_passOn_46 0 rfl ?_
        refine r_get hX fl_X8_26 (w_4 _ _ _) rfl dX8_passOn_47 ?_
        refine r_iload hX dX8_passOn_50 4 rfl ?_
        obtain ⟨b21, hf⟩ := chk_eq hf
        refine r_iald hX (w_23 _ _ _) (inb_in b21) dX8_passOn_52 ?_
        obtain ⟨v24, μ22, h23, hf⟩ := bd2_eq hf
        refine r_callVI (Ok.le hX (by omega)) (c_st_heardByAny (d := d)  h23) cv_X8_64 (w_4 _ _ _) rfl rfl (st := [.int (x5 + (1 : Int32)), .ref (gA (xG X) 23)]) rfl rfl rfl dX8_passOn_53 (fun dy => ?_)
        refine r_iload hX dX8_passOn_56 3 rfl ?_
        refine r_iconst hX (-1 : Int32) dX8_passOn_58 rfl ?_
        refine r_ixor hX dX8_passOn_59 ?_
        refine r_iand hX dX8_passOn_60 ?_
        obtain ⟨b25, hf⟩ := chk_eq hf
        obtain ⟨μ26, e27, hf⟩ := bnd_eq hf
        refine r_iast hX (w_23 _ _ _) (inb_in b25) (s_23 _ _ _ _ _) e27 rfl dX8_passOn_61 ?_
        refine r_iload hX dX8_passOn_62 3 rfl ?_
        refine r_aload_n hX dX8_passOn_64 0 rfl ?_
        refine r_get hX fl_X8_26 (w_4 _ _ _) rfl dX8_passOn_65 ?_
        refine r_iinc hX (x5 + (1 : Int32)) dX8_passOn_68 4 rfl rfl rfl (ls' := [(5, .int (x5 + (1 : Int32))), (0, .ref (gA (xG X) 4)), (1, .int x1), (3, .ref (gA (xG X) 2)), (4, .int x4)]) rfl ?_
        refine r_iload hX dX8_passOn_71 0 rfl ?_
        obtain ⟨b28, hf⟩ := chk_eq hf
        refine r_iald hX (w_23 _ _ _) (inb_in b28) dX8_passOn_73 ?_
        refine r_ior hX dX8_passOn_74 ?_
        obtain ⟨v29, e30, hf⟩ := bnd_eq hf
        refine r_topI e30 ?_
        refine r_istore hX dX8_passOn_75 rfl (ls' := [(4, .int v29), (5, .int (x5 + (1 : Int32))), (0, .ref (gA (xG X) 4)), (1, .int x1), (3, .ref (gA (xG X) 2))]) rfl ?_
        refine r_goto hX 16 dX8_passOn_77 rfl ?_
        refine r_weak [2, 3, 4, 0, 1] rfl ?_
        exact ih _ _ _ _ _ hf
set_option maxHeartbeats 4000000 in
set_option maxRecDepth 20000 in
theorem c_st_passOn {G : Gx} {d : Nat} {x1 : Int32} {x2 : Int32} {μ : Mem} {r : Int32 × Mem} (hf : f_st_passOn x1 x2 μ = some r) : Con G M_st_passOn (d + 2) [.ref (gA G 4), .int x1, .int x2, .ref (gA G 2)] μ (some (.int r.1), r.2) := by
  refine Con.ofI ⟨rfl, rfl, Nat.le_of_ble_eq_true rfl⟩ rfl rfl (fun X hG hX hr dy => ?_)
  subst hG
  show AW X 0 [(0, .ref (gA (xG X) 4)), (1, .int x1), (2, .int x2), (3, .ref (gA (xG X) 2))] [] μ dy
  unfold f_st_passOn at hf
  refine r_iconst hX (1 : Int32) dX8_passOn_0 rfl ?_
  refine r_iload_n hX dX8_passOn_1 2 rfl ?_
  refine r_ishl hX dX8_passOn_2 ?_
  refine r_istore hX dX8_passOn_3 rfl (ls' := [(4, .int ((1 : Int32) <<< (x2 &&& 31))), (0, .ref (gA (xG X) 4)), (1, .int x1), (2, .int x2), (3, .ref (gA (xG X) 2))]) rfl ?_
  refine r_aload_n hX dX8_passOn_5 1 rfl ?_
  refine r_get hX fl_X8_26 (w_4 _ _ _) rfl dX8_passOn_6 ?_
  refine r_iconst hX (0 : Int32) dX8_passOn_9 rfl ?_
  refine r_iload hX dX8_passOn_10 0 rfl ?_
  obtain ⟨b1, hf⟩ := chk_eq hf
  obtain ⟨μ2, e3, hf⟩ := bnd_eq hf
  refine r_iast hX (w_23 _ _ _) (inb_in b1) (s_23 _ _ _ _ _) e3 rfl dX8_passOn_12 ?_
  refine r_iconst hX (0 : Int32) dX8_passOn_13 rfl ?_
  refine r_istore hX dX8_passOn_14 rfl (ls' := [(5, .int (0 : Int32)), (4, .int ((1 : Int32) <<< (x2 &&& 31))), (0, .ref (gA (xG X) 4)), (1, .int x1), (2, .int x2), (3, .ref (gA (xG X) 2))]) rfl ?_
  refine r_weak [2, 3, 5, 1, 0] rfl ?_
  exact b_st_passOn_b16 hX hr FU _ _ _ _ _ hf
theorem dX8_fallOf_0 : decode cX8_fallOf 0 = .ok (.aload_n 0, 1) := by decide +kernel
theorem dX8_fallOf_1 : decode cX8_fallOf 1 = .ok (.getfield 23, 3) := by decide +kernel
theorem dX8_fallOf_4 : decode cX8_fallOf 4 = .ok (.iload_n 1, 1) := by decide +kernel
theorem dX8_fallOf_5 : decode cX8_fallOf 5 = .ok (.iaload, 1) := by decide +kernel
theorem dX8_fallOf_6 : decode cX8_fallOf 6 = .ok (.istore_n 2, 1) := by decide +kernel
theorem dX8_fallOf_7 : decode cX8_fallOf 7 = .ok (.aload_n 0, 1) := by decide +kernel
theorem dX8_fallOf_8 : decode cX8_fallOf 8 = .ok (.getfield 23, 3) := by decide +kernel
theorem dX8_fallOf_11 : decode cX8_fallOf 11 = .ok (.iload_n 1, 1) := by decide +kernel
theorem dX8_fallOf_12 : decode cX8_fallOf 12 = .ok (.iconst 1, 1) := by decide +kernel
theorem dX8_fallOf_13 : decode cX8_fallOf 13 = .ok (.isub, 1) := by decide +kernel
theorem dX8_fallOf_14 : decode cX8_fallOf 14 = .ok (.iaload, 1) := by decide +kernel
theorem dX8_fallOf_15 : decode cX8_fallOf 15 = .ok (.istore_n 3, 1) := by decide +kernel
theorem dX8_fallOf_16 : decode cX8_fallOf 16 = .ok (.lconst 0, 1) := by decide +kernel
theorem dX8_fallOf_17 : decode cX8_fallOf 17 = .ok (.lstore 4, 2) := by decide +kernel
theorem dX8_fallOf_19 : decode cX8_fallOf 19 = .ok (.iconst 0, 1) := by decide +kernel
theorem dX8_fallOf_20 : decode cX8_fallOf 20 = .ok (.istore 6, 2) := by decide +kernel
theorem dX8_fallOf_22 : decode cX8_fallOf 22 = .ok (.iload 6, 2) := by decide +kernel
theorem dX8_fallOf_24 : decode cX8_fallOf 24 = .ok (.aload_n 0, 1) := by decide +kernel
theorem dX8_fallOf_25 : decode cX8_fallOf 25 = .ok (.getfield 36, 3) := by decide +kernel
theorem dX8_fallOf_28 : decode cX8_fallOf 28 = .ok (.if_icmp .ge 99, 3) := by decide +kernel
theorem dX8_fallOf_31 : decode cX8_fallOf 31 = .ok (.aload_n 0, 1) := by decide +kernel
theorem dX8_fallOf_32 : decode cX8_fallOf 32 = .ok (.iload 6, 2) := by decide +kernel
theorem dX8_fallOf_34 : decode cX8_fallOf 34 = .ok (.invokevirtual 81, 3) := by decide +kernel
theorem dX8_fallOf_37 : decode cX8_fallOf 37 = .ok (.istore 7, 2) := by decide +kernel
theorem dX8_fallOf_39 : decode cX8_fallOf 39 = .ok (.iload_n 2, 1) := by decide +kernel
theorem dX8_fallOf_40 : decode cX8_fallOf 40 = .ok (.iload 6, 2) := by decide +kernel
theorem dX8_fallOf_42 : decode cX8_fallOf 42 = .ok (.ishr, 1) := by decide +kernel
theorem dX8_fallOf_43 : decode cX8_fallOf 43 = .ok (.iconst 1, 1) := by decide +kernel
theorem dX8_fallOf_44 : decode cX8_fallOf 44 = .ok (.iand, 1) := by decide +kernel
theorem dX8_fallOf_45 : decode cX8_fallOf 45 = .ok (.iload_n 3, 1) := by decide +kernel
theorem dX8_fallOf_46 : decode cX8_fallOf 46 = .ok (.iload 6, 2) := by decide +kernel
theorem dX8_fallOf_48 : decode cX8_fallOf 48 = .ok (.ishr, 1) := by decide +kernel
theorem dX8_fallOf_49 : decode cX8_fallOf 49 = .ok (.iconst 1, 1) := by decide +kernel
theorem dX8_fallOf_50 : decode cX8_fallOf 50 = .ok (.iand, 1) := by decide +kernel
theorem dX8_fallOf_51 : decode cX8_fallOf 51 = .ok (.iadd, 1) := by decide +kernel
theorem dX8_fallOf_52 : decode cX8_fallOf 52 = .ok (.istore 8, 2) := by decide +kernel
theorem dX8_fallOf_54 : decode cX8_fallOf 54 = .ok (.aload_n 0, 1) := by decide +kernel
theorem dX8_fallOf_55 : decode cX8_fallOf 55 = .ok (.iload 6, 2) := by decide +kernel
theorem dX8_fallOf_57 : decode cX8_fallOf 57 = .ok (.invokevirtual 84, 3) := by decide +kernel
theorem dX8_fallOf_60 : decode cX8_fallOf 60 = .ok (.ifCond .ne 35, 3) := by decide +kernel
theorem dX8_fallOf_63 : decode cX8_fallOf 63 = .ok (.iload 7, 2) := by decide +kernel
theorem dX8_fallOf_65 : decode cX8_fallOf 65 = .ok (.ifCond .le 30, 3) := by decide +kernel
theorem dX8_fallOf_68 : decode cX8_fallOf 68 = .ok (.lload 4, 2) := by decide +kernel
theorem dX8_fallOf_70 : decode cX8_fallOf 70 = .ok (.iload 8, 2) := by decide +kernel
theorem dX8_fallOf_72 : decode cX8_fallOf 72 = .ok (.i2l, 1) := by decide +kernel
theorem dX8_fallOf_73 : decode cX8_fallOf 73 = .ok (.ldc2_w 88, 3) := by decide +kernel
theorem dX8_fallOf_76 : decode cX8_fallOf 76 = .ok (.aload_n 0, 1) := by decide +kernel
theorem dX8_fallOf_77 : decode cX8_fallOf 77 = .ok (.getfield 9, 3) := by decide +kernel
theorem dX8_fallOf_80 : decode cX8_fallOf 80 = .ok (.iload 6, 2) := by decide +kernel
theorem dX8_fallOf_82 : decode cX8_fallOf 82 = .ok (.iaload, 1) := by decide +kernel
theorem dX8_fallOf_83 : decode cX8_fallOf 83 = .ok (.i2l, 1) := by decide +kernel
theorem dX8_fallOf_84 : decode cX8_fallOf 84 = .ok (.lmul, 1) := by decide +kernel
theorem dX8_fallOf_85 : decode cX8_fallOf 85 = .ok (.iload 7, 2) := by decide +kernel
theorem dX8_fallOf_87 : decode cX8_fallOf 87 = .ok (.i2l, 1) := by decide +kernel
theorem dX8_fallOf_88 : decode cX8_fallOf 88 = .ok (.lmul, 1) := by decide +kernel
theorem dX8_fallOf_89 : decode cX8_fallOf 89 = .ok (.lconst 1, 1) := by decide +kernel
theorem dX8_fallOf_90 : decode cX8_fallOf 90 = .ok (.ladd, 1) := by decide +kernel
theorem dX8_fallOf_91 : decode cX8_fallOf 91 = .ok (.lmul, 1) := by decide +kernel
theorem dX8_fallOf_92 : decode cX8_fallOf 92 = .ok (.ladd, 1) := by decide +kernel
theorem dX8_fallOf_93 : decode cX8_fallOf 93 = .ok (.lstore 4, 2) := by decide +kernel
theorem dX8_fallOf_95 : decode cX8_fallOf 95 = .ok (.iload_n 2, 1) := by decide +kernel
theorem dX8_fallOf_96 : decode cX8_fallOf 96 = .ok (.iload 6, 2) := by decide +kernel
theorem dX8_fallOf_98 : decode cX8_fallOf 98 = .ok (.ishr, 1) := by decide +kernel
theorem dX8_fallOf_99 : decode cX8_fallOf 99 = .ok (.iconst 1, 1) := by decide +kernel
theorem dX8_fallOf_100 : decode cX8_fallOf 100 = .ok (.iand, 1) := by decide +kernel
theorem dX8_fallOf_101 : decode cX8_fallOf 101 = .ok (.ifCond .eq 20, 3) := by decide +kernel
theorem dX8_fallOf_104 : decode cX8_fallOf 104 = .ok (.lload 4, 2) := by decide +kernel
theorem dX8_fallOf_106 : decode cX8_fallOf 106 = .ok (.ldc2_w 90, 3) := by decide +kernel
theorem dX8_fallOf_109 : decode cX8_fallOf 109 = .ok (.aload_n 0, 1) := by decide +kernel
theorem dX8_fallOf_110 : decode cX8_fallOf 110 = .ok (.iload 6, 2) := by decide +kernel
theorem dX8_fallOf_112 : decode cX8_fallOf 112 = .ok (.iload_n 3, 1) := by decide +kernel
theorem dX8_fallOf_113 : decode cX8_fallOf 113 = .ok (.invokevirtual 49, 3) := by decide +kernel
theorem dX8_fallOf_116 : decode cX8_fallOf 116 = .ok (.i2l, 1) := by decide +kernel
theorem dX8_fallOf_117 : decode cX8_fallOf 117 = .ok (.lmul, 1) := by decide +kernel
theorem dX8_fallOf_118 : decode cX8_fallOf 118 = .ok (.lsub, 1) := by decide +kernel
theorem dX8_fallOf_119 : decode cX8_fallOf 119 = .ok (.lstore 4, 2) := by decide +kernel
theorem dX8_fallOf_121 : decode cX8_fallOf 121 = .ok (.iinc 6 1, 3) := by decide +kernel
theorem dX8_fallOf_124 : decode cX8_fallOf 124 = .ok (.goto (-102), 3) := by decide +kernel
theorem dX8_fallOf_127 : decode cX8_fallOf 127 = .ok (.lload 4, 2) := by decide +kernel
theorem dX8_fallOf_129 : decode cX8_fallOf 129 = .ok (.lreturn, 1) := by decide +kernel
set_option maxHeartbeats 4000000 in
set_option maxRecDepth 20000 in
theorem b_st_fallOf_b95 {X : Cx} {d : Nat} (hX : Ok M_st_fallOf (d + 2) X) {r : Int64 × Mem} (hr : RetL M_st_fallOf X r.1 r.2) {k22 : Int32 → Int32 → Int64 → Int32 → Mem → Option (Int64 × Mem)} (hk22 : ∀ (x2 : Int32) (x3 : Int32) (y4 : Int64) (x6 : Int32) (μ : Mem) (dy : Nat → Nat), k22 x2 x3 y4 x6 μ = some r → AW X 22 [(0, .ref (gA (xG X) 4)), (2, .int x2), (3, .int x3), (4, .long y4), (6, .int x6)] [] μ dy) (x2 : Int32) (x3 : Int32) (y4 : Int64) (x6 : Int32) (μ : Mem) (dy : Nat → Nat) (hf : f_st_fallOf_b95 k22 x2 x3 y4 x6 μ = some r) : AW X 95 [(0, .ref (gA (xG X) 4)), (2, .int x2), (3, .int x3), (4, .long y4), (6, .int x6)] [] μ dy := by
  unfold f_st_fallOf_b95 at hf
  refine r_iload_n hX dX8_fallOf_95 1 rfl ?_
  refine r_iload hX dX8_fallOf_96 4 rfl ?_
  refine r_ishr hX dX8_fallOf_98 ?_
  refine r_iconst hX (1 : Int32) dX8_fallOf_99 rfl ?_
  refine r_iand hX dX8_fallOf_100 ?_
  refine r_if_eq hX 121 dX8_fallOf_101 rfl (fun hc17 => ?_) (fun hc17 => ?_)
  · rw [if_pos hc17] at hf
    refine r_iinc hX (x6 + (1 : Int32)) dX8_fallOf_121 4 rfl rfl rfl (ls' := [(6, .int (x6 + (1 : Int32))), (0, .ref (gA (xG X) 4)), (2, .int x2), (3, .int x3), (4, .long y4)]) rfl ?_
    refine r_goto hX 22 dX8_fallOf_124 rfl ?_
    refine r_weak [1, 2, 3, 4, 0] rfl ?_
    exact hk22 _ _ _ _ _ _ hf
  · rw [if_neg hc17] at hf
    refine r_lload hX dX8_fallOf_104 3 rfl ?_
    refine r_ldc2 hX dX8_fallOf_106 kc_X8_90 ?_
    refine r_aload_n hX dX8_fallOf_109 0 rfl ?_
    refine r_iload hX dX8_fallOf_110 4 rfl ?_
    refine r_iload_n hX dX8_fallOf_112 2 rfl ?_
    obtain ⟨v20, μ18, h19, hf⟩ := bd2_eq hf
    refine r_callVI (Ok.le hX (by omega)) (c_st_sumHeard (d := d)  h19) cv_X8_49 (w_4 _ _ _) rfl rfl (st := [.long (200 : Int64), .long y4]) rfl rfl rfl dX8_fallOf_113 (fun dy => ?_)
    refine r_i2l hX dX8_fallOf_116 ?_
    refine r_lmul hX dX8_fallOf_117 ?_
    refine r_lsub hX dX8_fallOf_118 ?_
    obtain ⟨v21, e22, hf⟩ := bnd_eq hf
    refine r_topL e22 ?_
    refine r_lstore hX dX8_fallOf_119 rfl (ls' := [(4, .long v21), (0, .ref (gA (xG X) 4)), (2, .int x2), (3, .int x3), (6, .int x6)]) rfl ?_
    refine r_iinc hX (x6 + (1 : Int32)) dX8_fallOf_121 4 rfl rfl rfl (ls' := [(6, .int (x6 + (1 : Int32))), (4, .long v21), (0, .ref (gA (xG X) 4)), (2, .int x2), (3, .int x3)]) rfl ?_
    refine r_goto hX 22 dX8_fallOf_124 rfl ?_
    refine r_weak [2, 3, 4, 1, 0] rfl ?_
    exact hk22 _ _ _ _ _ _ hf
set_option maxHeartbeats 4000000 in
set_option maxRecDepth 20000 in
theorem b_st_fallOf_b22 {X : Cx} {d : Nat} (hX : Ok M_st_fallOf (d + 2) X) {r : Int64 × Mem} (hr : RetL M_st_fallOf X r.1 r.2) : ∀ (n : Nat) (x2 : Int32) (x3 : Int32) (y4 : Int64) (x6 : Int32) (μ : Mem) (dy : Nat → Nat), f_st_fallOf_b22 n x2 x3 y4 x6 μ = some r → AW X 22 [(0, .ref (gA (xG X) 4)), (2, .int x2), (3, .int x3), (4, .long y4), (6, .int x6)] [] μ dy := by
  intro n
  induction n with
  | zero => intro x2 x3 y4 x6 μ dy hf; exact nomatch hf
  | succ n ih =>
    intro x2 x3 y4 x6 μ dy hf
    rw [f_st_fallOf_b22] at hf
    refine r_iload hX dX8_fallOf_22 4 rfl ?_
    refine r_aload_n hX dX8_fallOf_24 0 rfl ?_
    refine r_get hX fl_X8_36 (w_4 _ _ _) rfl dX8_fallOf_25 ?_
    refine r_icmp_ge hX 127 dX8_fallOf_28 rfl (fun hc7 => ?_) (fun hc7 => ?_)
    · rw [if_pos hc7] at hf
      refine r_lload hX dX8_fallOf_127 3 rfl ?_
      exact fin_L hf hr _ _ _ dX8_fallOf_129
    · rw [if_neg hc7] at hf
      refine r_aload_n hX dX8_fallOf_31 0 rfl ?_
      refine r_iload hX dX8_fallOf_32 4 rfl ?_
      obtain ⟨v10, μ8, h9, hf⟩ := bd2_eq hf
      refine r_callVI (Ok.le hX (by omega)) (c_st_allOf (d := d)  h9) cv_X8_81 (w_4 _ _ _) rfl rfl (st := []) rfl rfl rfl dX8_fallOf_34 (fun dy => ?_)
      refine r_istore hX dX8_fallOf_37 rfl (ls' := [(7, .int v10), (0, .ref (gA (xG X) 4)), (2, .int x2), (3, .int x3), (4, .long y4), (6, .int x6)]) rfl ?_
      refine r_iload_n hX dX8_fallOf_39 2 rfl ?_
      refine r_iload hX dX8_fallOf_40 5 rfl ?_
      refine r_ishr hX dX8_fallOf_42 ?_
      refine r_iconst hX (1 : Int32) dX8_fallOf_43 rfl ?_
      refine r_iand hX dX8_fallOf_44 ?_
      refine r_iload_n hX dX8_fallOf_45 3 rfl ?_
      refine r_iload hX dX8_fallOf_46 5 rfl ?_
      refine r_ishr hX dX8_fallOf_48 ?_
      refine r_iconst hX (1 : Int32) dX8_fallOf_49 rfl ?_
      refine r_iand hX dX8_fallOf_50 ?_
      refine r_iadd hX dX8_fallOf_51 ?_
      obtain ⟨v11, e12, hf⟩ := bnd_eq hf
      refine r_topI e12 ?_
      refine r_istore hX dX8_fallOf_52 rfl (ls' := [(8, .int v11), (7, .int v10), (0, .ref (gA (xG X) 4)), (2, .int x2), (3, .int x3), (4, .long y4), (6, .int x6)]) rfl ?_
      refine r_aload_n hX dX8_fallOf_54 2 rfl ?_
      refine r_iload hX dX8_fallOf_55 6 rfl ?_
      obtain ⟨v15, μ13, h14, hf⟩ := bd2_eq hf
      refine r_callVI (Ok.le hX (by omega)) (c_st_isFirm (d := d)  h14) cv_X8_84 (w_4 _ _ _) rfl rfl (st := []) rfl rfl rfl dX8_fallOf_57 (fun dy => ?_)
      refine r_if_ne hX 95 dX8_fallOf_60 rfl (fun hc16 => ?_) (fun hc16 => ?_)
      · rw [if_neg hc16] at hf
        refine r_weak [2, 3, 4, 5, 6] rfl ?_
        exact b_st_fallOf_b95 hX hr ih _ _ _ _ _ _ hf
      · rw [if_pos hc16] at hf
        refine r_iload hX dX8_fallOf_63 1 rfl ?_
        refine r_if_le hX 95 dX8_fallOf_65 rfl (fun hc23 => ?_) (fun hc23 => ?_)
        · rw [if_pos hc23] at hf
          refine r_weak [2, 3, 4, 5, 6] rfl ?_
          exact b_st_fallOf_b95 hX hr ih _ _ _ _ _ _ hf
        · rw [if_neg hc23] at hf
          refine r_lload hX dX8_fallOf_68 5 rfl ?_
          refine r_iload hX dX8_fallOf_70 0 rfl ?_
          refine r_i2l hX dX8_fallOf_72 ?_
          refine r_ldc2 hX dX8_fallOf_73 kc_X8_88 ?_
          refine r_aload_n hX dX8_fallOf_76 2 rfl ?_
          refine r_get hX fl_X8_9 (w_4 _ _ _) rfl dX8_fallOf_77 ?_
          refine r_iload hX dX8_fallOf_80 6 rfl ?_
          obtain ⟨b24, hf⟩ := chk_eq hf
          refine r_iald hX (w_5 _ _ _) (inb_in b24) dX8_fallOf_82 ?_
          refine r_i2l hX dX8_fallOf_83 ?_
          refine r_lmul hX dX8_fallOf_84 ?_
          refine r_iload hX dX8_fallOf_85 1 rfl ?_
          refine r_i2l hX dX8_fallOf_87 ?_
          refine r_lmul hX dX8_fallOf_88 ?_
          refine r_lconst hX (1 : Int64) dX8_fallOf_89 rfl ?_
          refine r_ladd hX dX8_fallOf_90 ?_
          refine r_lmul hX dX8_fallOf_91 ?_
          refine r_ladd hX dX8_fallOf_92 ?_
          obtain ⟨v25, e26, hf⟩ := bnd_eq hf
          refine r_topL e26 ?_
          refine r_lstore hX dX8_fallOf_93 rfl (ls' := [(4, .long v25), (8, .int v11), (7, .int v10), (0, .ref (gA (xG X) 4)), (2, .int x2), (3, .int x3), (6, .int x6)]) rfl ?_
          refine r_weak [3, 4, 5, 0, 6] rfl ?_
          exact b_st_fallOf_b95 hX hr ih _ _ _ _ _ _ hf
set_option maxHeartbeats 4000000 in
set_option maxRecDepth 20000 in
theorem c_st_fallOf {G : Gx} {d : Nat} {x1 : Int32} {μ : Mem} {r : Int64 × Mem} (hf : f_st_fallOf x1 μ = some r) : Con G M_st_fallOf (d + 2) [.ref (gA G 4), .int x1] μ (some (.long r.1), r.2) := by
  refine Con.ofL ⟨rfl, rfl, Nat.le_of_ble_eq_true rfl⟩ rfl (fun X hG hX hr dy => ?_)
  subst hG
  show AW X 0 [(0, .ref (gA (xG X) 4)), (1, .int x1)] [] μ dy
  unfold f_st_fallOf at hf
  refine r_aload_n hX dX8_fallOf_0 0 rfl ?_
  refine r_get hX fl_X8_23 (w_4 _ _ _) rfl dX8_fallOf_1 ?_
  refine r_iload_n hX dX8_fallOf_4 1 rfl ?_
  obtain ⟨b1, hf⟩ := chk_eq hf
  refine r_iald hX (w_22 _ _ _) (inb_in b1) dX8_fallOf_5 ?_
  obtain ⟨v2, e3, hf⟩ := bnd_eq hf
  refine r_topI e3 ?_
  refine r_istore_n hX dX8_fallOf_6 rfl (ls' := [(2, .int v2), (0, .ref (gA (xG X) 4)), (1, .int x1)]) rfl ?_
  refine r_aload_n hX dX8_fallOf_7 1 rfl ?_
  refine r_get hX fl_X8_23 (w_4 _ _ _) rfl dX8_fallOf_8 ?_
  refine r_iload_n hX dX8_fallOf_11 2 rfl ?_
  refine r_iconst hX (1 : Int32) dX8_fallOf_12 rfl ?_
  refine r_isub hX dX8_fallOf_13 ?_
  obtain ⟨b4, hf⟩ := chk_eq hf
  refine r_iald hX (w_22 _ _ _) (inb_in b4) dX8_fallOf_14 ?_
  obtain ⟨v5, e6, hf⟩ := bnd_eq hf
  refine r_topI e6 ?_
  refine r_istore_n hX dX8_fallOf_15 rfl (ls' := [(3, .int v5), (2, .int v2), (0, .ref (gA (xG X) 4)), (1, .int x1)]) rfl ?_
  refine r_lconst hX (0 : Int64) dX8_fallOf_16 rfl ?_
  refine r_lstore hX dX8_fallOf_17 rfl (ls' := [(4, .long (0 : Int64)), (3, .int v5), (2, .int v2), (0, .ref (gA (xG X) 4)), (1, .int x1)]) rfl ?_
  refine r_iconst hX (0 : Int32) dX8_fallOf_19 rfl ?_
  refine r_istore hX dX8_fallOf_20 rfl (ls' := [(6, .int (0 : Int32)), (4, .long (0 : Int64)), (3, .int v5), (2, .int v2), (0, .ref (gA (xG X) 4)), (1, .int x1)]) rfl ?_
  refine r_weak [4, 3, 2, 1, 0] rfl ?_
  exact b_st_fallOf_b22 hX hr FU _ _ _ _ _ _ hf
theorem dX8_putNeed_0 : decode cX8_putNeed 0 = .ok (.aload_n 0, 1) := by decide +kernel
theorem dX8_putNeed_1 : decode cX8_putNeed 1 = .ok (.getfield 9, 3) := by decide +kernel
theorem dX8_putNeed_4 : decode cX8_putNeed 4 = .ok (.iload_n 1, 1) := by decide +kernel
theorem dX8_putNeed_5 : decode cX8_putNeed 5 = .ok (.iload_n 2, 1) := by decide +kernel
theorem dX8_putNeed_6 : decode cX8_putNeed 6 = .ok (.iastore, 1) := by decide +kernel
theorem dX8_putNeed_7 : decode cX8_putNeed 7 = .ok (.aload_n 0, 1) := by decide +kernel
theorem dX8_putNeed_8 : decode cX8_putNeed 8 = .ok (.dup, 1) := by decide +kernel
theorem dX8_putNeed_9 : decode cX8_putNeed 9 = .ok (.getfield 29, 3) := by decide +kernel
theorem dX8_putNeed_12 : decode cX8_putNeed 12 = .ok (.iconst 1, 1) := by decide +kernel
theorem dX8_putNeed_13 : decode cX8_putNeed 13 = .ok (.iadd, 1) := by decide +kernel
theorem dX8_putNeed_14 : decode cX8_putNeed 14 = .ok (.putfield 29, 3) := by decide +kernel
theorem dX8_putNeed_17 : decode cX8_putNeed 17 = .ok (.return_, 1) := by decide +kernel
set_option maxHeartbeats 4000000 in
set_option maxRecDepth 20000 in
theorem c_st_putNeed {G : Gx} {d : Nat} {x1 : Int32} {x2 : Int32} {μ : Mem} {r : Mem} (hf : f_st_putNeed x1 x2 μ = some r) : Con G M_st_putNeed (d + 0) [.ref (gA G 4), .int x1, .int x2] μ (none, r) := by
  refine Con.ofV ⟨rfl, rfl, Nat.le_of_ble_eq_true rfl⟩ rfl (fun X hG hX hr dy => ?_)
  subst hG
  show AW X 0 [(0, .ref (gA (xG X) 4)), (1, .int x1), (2, .int x2)] [] μ dy
  unfold f_st_putNeed at hf
  refine r_aload_n hX dX8_putNeed_0 0 rfl ?_
  refine r_get hX fl_X8_9 (w_4 _ _ _) rfl dX8_putNeed_1 ?_
  refine r_iload_n hX dX8_putNeed_4 1 rfl ?_
  refine r_iload_n hX dX8_putNeed_5 2 rfl ?_
  obtain ⟨b1, hf⟩ := chk_eq hf
  obtain ⟨μ2, e3, hf⟩ := bnd_eq hf
  refine r_iast hX (w_5 _ _ _) (inb_in b1) (s_5 _ _ _ _ _) e3 rfl dX8_putNeed_6 ?_
  refine r_aload_n hX dX8_putNeed_7 0 rfl ?_
  refine r_dup hX dX8_putNeed_8 rfl ?_
  refine r_get hX fl_X8_29 (w_4 _ _ _) rfl dX8_putNeed_9 ?_
  refine r_iconst hX (1 : Int32) dX8_putNeed_12 rfl ?_
  refine r_iadd hX dX8_putNeed_13 ?_
  obtain ⟨μ4, e5, hf⟩ := bnd_eq hf
  refine r_put hX fl_X8_29 ft_X8_8 (w_4 _ _ _) rfl rfl rfl (s_4_8 _ _ _ _) e5 rfl dX8_putNeed_14 ?_
  exact fin_V hf hr _ _ _ dX8_putNeed_17
theorem dX8_putLoud_0 : decode cX8_putLoud 0 = .ok (.aload_n 0, 1) := by decide +kernel
theorem dX8_putLoud_1 : decode cX8_putLoud 1 = .ok (.getfield 20, 3) := by decide +kernel
theorem dX8_putLoud_4 : decode cX8_putLoud 4 = .ok (.iload_n 1, 1) := by decide +kernel
theorem dX8_putLoud_5 : decode cX8_putLoud 5 = .ok (.aaload, 1) := by decide +kernel
theorem dX8_putLoud_6 : decode cX8_putLoud 6 = .ok (.iload_n 2, 1) := by decide +kernel
theorem dX8_putLoud_7 : decode cX8_putLoud 7 = .ok (.iload_n 3, 1) := by decide +kernel
theorem dX8_putLoud_8 : decode cX8_putLoud 8 = .ok (.iastore, 1) := by decide +kernel
theorem dX8_putLoud_9 : decode cX8_putLoud 9 = .ok (.aload_n 0, 1) := by decide +kernel
theorem dX8_putLoud_10 : decode cX8_putLoud 10 = .ok (.dup, 1) := by decide +kernel
theorem dX8_putLoud_11 : decode cX8_putLoud 11 = .ok (.getfield 29, 3) := by decide +kernel
theorem dX8_putLoud_14 : decode cX8_putLoud 14 = .ok (.iconst 1, 1) := by decide +kernel
theorem dX8_putLoud_15 : decode cX8_putLoud 15 = .ok (.iadd, 1) := by decide +kernel
theorem dX8_putLoud_16 : decode cX8_putLoud 16 = .ok (.putfield 29, 3) := by decide +kernel
theorem dX8_putLoud_19 : decode cX8_putLoud 19 = .ok (.return_, 1) := by decide +kernel
set_option maxHeartbeats 4000000 in
set_option maxRecDepth 20000 in
theorem c_st_putLoud {G : Gx} {d : Nat} {x1 : Int32} {x2 : Int32} {x3 : Int32} {μ : Mem} {r : Mem} (hf : f_st_putLoud x1 x2 x3 μ = some r) : Con G M_st_putLoud (d + 0) [.ref (gA G 4), .int x1, .int x2, .int x3] μ (none, r) := by
  refine Con.ofV ⟨rfl, rfl, Nat.le_of_ble_eq_true rfl⟩ rfl (fun X hG hX hr dy => ?_)
  subst hG
  show AW X 0 [(0, .ref (gA (xG X) 4)), (1, .int x1), (2, .int x2), (3, .int x3)] [] μ dy
  unfold f_st_putLoud at hf
  refine r_aload_n hX dX8_putLoud_0 0 rfl ?_
  refine r_get hX fl_X8_20 (w_4 _ _ _) rfl dX8_putLoud_1 ?_
  refine r_iload_n hX dX8_putLoud_4 1 rfl ?_
  obtain ⟨b1, hf⟩ := chk_eq hf
  refine r_aald hX (w_7 _ _ _) (b := gA (xG X) (8 + x1.toNatClampNeg)) rfl rfl (inb_in b1) (if_pos (inb_lt b1)) dX8_putLoud_5 ?_
  refine r_iload_n hX dX8_putLoud_6 2 rfl ?_
  refine r_iload_n hX dX8_putLoud_7 3 rfl ?_
  obtain ⟨b2, hf⟩ := chk_eq hf
  obtain ⟨μ3, e4, hf⟩ := bnd_eq hf
  refine r_iast hX (wLo (inb_lt b1)) (inb_in b2) (sLo (inb_lt b1) _ _) e4 rfl dX8_putLoud_8 ?_
  refine r_aload_n hX dX8_putLoud_9 0 rfl ?_
  refine r_dup hX dX8_putLoud_10 rfl ?_
  refine r_get hX fl_X8_29 (w_4 _ _ _) rfl dX8_putLoud_11 ?_
  refine r_iconst hX (1 : Int32) dX8_putLoud_14 rfl ?_
  refine r_iadd hX dX8_putLoud_15 ?_
  obtain ⟨μ5, e6, hf⟩ := bnd_eq hf
  refine r_put hX fl_X8_29 ft_X8_8 (w_4 _ _ _) rfl rfl rfl (s_4_8 _ _ _ _) e6 rfl dX8_putLoud_16 ?_
  exact fin_V hf hr _ _ _ dX8_putLoud_19
theorem dX8_passDay_0 : decode cX8_passDay 0 = .ok (.aload_n 0, 1) := by decide +kernel
theorem dX8_passDay_1 : decode cX8_passDay 1 = .ok (.getfield 33, 3) := by decide +kernel
theorem dX8_passDay_4 : decode cX8_passDay 4 = .ok (.sipush 200, 3) := by decide +kernel
theorem dX8_passDay_7 : decode cX8_passDay 7 = .ok (.if_icmp .ge 20, 3) := by decide +kernel
theorem dX8_passDay_10 : decode cX8_passDay 10 = .ok (.aload_n 0, 1) := by decide +kernel
theorem dX8_passDay_11 : decode cX8_passDay 11 = .ok (.getfield 23, 3) := by decide +kernel
theorem dX8_passDay_14 : decode cX8_passDay 14 = .ok (.aload_n 0, 1) := by decide +kernel
theorem dX8_passDay_15 : decode cX8_passDay 15 = .ok (.dup, 1) := by decide +kernel
theorem dX8_passDay_16 : decode cX8_passDay 16 = .ok (.getfield 33, 3) := by decide +kernel
theorem dX8_passDay_19 : decode cX8_passDay 19 = .ok (.iconst 1, 1) := by decide +kernel
theorem dX8_passDay_20 : decode cX8_passDay 20 = .ok (.iadd, 1) := by decide +kernel
theorem dX8_passDay_21 : decode cX8_passDay 21 = .ok (.dup_x1, 1) := by decide +kernel
theorem dX8_passDay_22 : decode cX8_passDay 22 = .ok (.putfield 33, 3) := by decide +kernel
theorem dX8_passDay_25 : decode cX8_passDay 25 = .ok (.iload_n 1, 1) := by decide +kernel
theorem dX8_passDay_26 : decode cX8_passDay 26 = .ok (.iastore, 1) := by decide +kernel
theorem dX8_passDay_27 : decode cX8_passDay 27 = .ok (.return_, 1) := by decide +kernel
set_option maxHeartbeats 4000000 in
set_option maxRecDepth 20000 in
theorem c_st_passDay {G : Gx} {d : Nat} {x1 : Int32} {μ : Mem} {r : Mem} (hf : f_st_passDay x1 μ = some r) : Con G M_st_passDay (d + 0) [.ref (gA G 4), .int x1] μ (none, r) := by
  refine Con.ofV ⟨rfl, rfl, Nat.le_of_ble_eq_true rfl⟩ rfl (fun X hG hX hr dy => ?_)
  subst hG
  show AW X 0 [(0, .ref (gA (xG X) 4)), (1, .int x1)] [] μ dy
  unfold f_st_passDay at hf
  refine r_aload_n hX dX8_passDay_0 0 rfl ?_
  refine r_get hX fl_X8_33 (w_4 _ _ _) rfl dX8_passDay_1 ?_
  refine r_sipush hX (200 : Int32) dX8_passDay_4 rfl ?_
  refine r_icmp_ge hX 27 dX8_passDay_7 rfl (fun hc1 => ?_) (fun hc1 => ?_)
  · rw [if_pos hc1] at hf
    exact fin_V hf hr _ _ _ dX8_passDay_27
  · rw [if_neg hc1] at hf
    refine r_aload_n hX dX8_passDay_10 0 rfl ?_
    refine r_get hX fl_X8_23 (w_4 _ _ _) rfl dX8_passDay_11 ?_
    refine r_aload_n hX dX8_passDay_14 0 rfl ?_
    refine r_dup hX dX8_passDay_15 rfl ?_
    refine r_get hX fl_X8_33 (w_4 _ _ _) rfl dX8_passDay_16 ?_
    refine r_iconst hX (1 : Int32) dX8_passDay_19 rfl ?_
    refine r_iadd hX dX8_passDay_20 ?_
    refine r_dup_x1 hX dX8_passDay_21 rfl rfl ?_
    obtain ⟨μ2, e3, hf⟩ := bnd_eq hf
    refine r_put hX fl_X8_33 ft_X8_7 (w_4 _ _ _) rfl rfl rfl (s_4_7 _ _ _ _) e3 rfl dX8_passDay_22 ?_
    refine r_iload_n hX dX8_passDay_25 1 rfl ?_
    obtain ⟨b4, hf⟩ := chk_eq hf
    obtain ⟨μ5, e6, hf⟩ := bnd_eq hf
    refine r_iast hX (w_22 _ _ _) (inb_in b4) (s_22 _ _ _ _ _) e6 rfl dX8_passDay_26 ?_
    exact fin_V hf hr _ _ _ dX8_passDay_27
theorem dX8_welcome_0 : decode cX8_welcome 0 = .ok (.aload_n 0, 1) := by decide +kernel
theorem dX8_welcome_1 : decode cX8_welcome 1 = .ok (.getfield 36, 3) := by decide +kernel
theorem dX8_welcome_4 : decode cX8_welcome 4 = .ok (.bipush 14, 2) := by decide +kernel
theorem dX8_welcome_6 : decode cX8_welcome 6 = .ok (.if_icmp .lt 4, 3) := by decide +kernel
theorem dX8_welcome_9 : decode cX8_welcome 9 = .ok (.return_, 1) := by decide +kernel
theorem dX8_welcome_10 : decode cX8_welcome 10 = .ok (.aload_n 0, 1) := by decide +kernel
theorem dX8_welcome_11 : decode cX8_welcome 11 = .ok (.getfield 23, 3) := by decide +kernel
theorem dX8_welcome_14 : decode cX8_welcome 14 = .ok (.iconst 0, 1) := by decide +kernel
theorem dX8_welcome_15 : decode cX8_welcome 15 = .ok (.aload_n 0, 1) := by decide +kernel
theorem dX8_welcome_16 : decode cX8_welcome 16 = .ok (.invokevirtual 46, 3) := by decide +kernel
theorem dX8_welcome_19 : decode cX8_welcome 19 = .ok (.iload_n 1, 1) := by decide +kernel
theorem dX8_welcome_20 : decode cX8_welcome 20 = .ok (.ifCond .eq 12, 3) := by decide +kernel
theorem dX8_welcome_23 : decode cX8_welcome 23 = .ok (.iconst 1, 1) := by decide +kernel
theorem dX8_welcome_24 : decode cX8_welcome 24 = .ok (.aload_n 0, 1) := by decide +kernel
theorem dX8_welcome_25 : decode cX8_welcome 25 = .ok (.getfield 36, 3) := by decide +kernel
theorem dX8_welcome_28 : decode cX8_welcome 28 = .ok (.ishl, 1) := by decide +kernel
theorem dX8_welcome_29 : decode cX8_welcome 29 = .ok (.goto 4, 3) := by decide +kernel
theorem dX8_welcome_32 : decode cX8_welcome 32 = .ok (.iconst 0, 1) := by decide +kernel
theorem dX8_welcome_33 : decode cX8_welcome 33 = .ok (.ior, 1) := by decide +kernel
theorem dX8_welcome_34 : decode cX8_welcome 34 = .ok (.iastore, 1) := by decide +kernel
theorem dX8_welcome_35 : decode cX8_welcome 35 = .ok (.aload_n 0, 1) := by decide +kernel
theorem dX8_welcome_36 : decode cX8_welcome 36 = .ok (.iconst 0, 1) := by decide +kernel
theorem dX8_welcome_37 : decode cX8_welcome 37 = .ok (.putfield 33, 3) := by decide +kernel
theorem dX8_welcome_40 : decode cX8_welcome 40 = .ok (.aload_n 0, 1) := by decide +kernel
theorem dX8_welcome_41 : decode cX8_welcome 41 = .ok (.getfield 9, 3) := by decide +kernel
theorem dX8_welcome_44 : decode cX8_welcome 44 = .ok (.aload_n 0, 1) := by decide +kernel
theorem dX8_welcome_45 : decode cX8_welcome 45 = .ok (.getfield 36, 3) := by decide +kernel
theorem dX8_welcome_48 : decode cX8_welcome 48 = .ok (.iload_n 2, 1) := by decide +kernel
theorem dX8_welcome_49 : decode cX8_welcome 49 = .ok (.iastore, 1) := by decide +kernel
theorem dX8_welcome_50 : decode cX8_welcome 50 = .ok (.aload_n 0, 1) := by decide +kernel
theorem dX8_welcome_51 : decode cX8_welcome 51 = .ok (.getfield 15, 3) := by decide +kernel
theorem dX8_welcome_54 : decode cX8_welcome 54 = .ok (.aload_n 0, 1) := by decide +kernel
theorem dX8_welcome_55 : decode cX8_welcome 55 = .ok (.getfield 36, 3) := by decide +kernel
theorem dX8_welcome_58 : decode cX8_welcome 58 = .ok (.iload_n 3, 1) := by decide +kernel
theorem dX8_welcome_59 : decode cX8_welcome 59 = .ok (.iastore, 1) := by decide +kernel
theorem dX8_welcome_60 : decode cX8_welcome 60 = .ok (.aload_n 0, 1) := by decide +kernel
theorem dX8_welcome_61 : decode cX8_welcome 61 = .ok (.dup, 1) := by decide +kernel
theorem dX8_welcome_62 : decode cX8_welcome 62 = .ok (.getfield 43, 3) := by decide +kernel
theorem dX8_welcome_65 : decode cX8_welcome 65 = .ok (.iload 4, 2) := by decide +kernel
theorem dX8_welcome_67 : decode cX8_welcome 67 = .ok (.ifCond .eq 12, 3) := by decide +kernel
theorem dX8_welcome_70 : decode cX8_welcome 70 = .ok (.iconst 1, 1) := by decide +kernel
theorem dX8_welcome_71 : decode cX8_welcome 71 = .ok (.aload_n 0, 1) := by decide +kernel
theorem dX8_welcome_72 : decode cX8_welcome 72 = .ok (.getfield 36, 3) := by decide +kernel
theorem dX8_welcome_75 : decode cX8_welcome 75 = .ok (.ishl, 1) := by decide +kernel
theorem dX8_welcome_76 : decode cX8_welcome 76 = .ok (.goto 4, 3) := by decide +kernel
theorem dX8_welcome_79 : decode cX8_welcome 79 = .ok (.iconst 0, 1) := by decide +kernel
theorem dX8_welcome_80 : decode cX8_welcome 80 = .ok (.ior, 1) := by decide +kernel
theorem dX8_welcome_81 : decode cX8_welcome 81 = .ok (.putfield 43, 3) := by decide +kernel
theorem dX8_welcome_84 : decode cX8_welcome 84 = .ok (.aload_n 0, 1) := by decide +kernel
theorem dX8_welcome_85 : decode cX8_welcome 85 = .ok (.dup, 1) := by decide +kernel
theorem dX8_welcome_86 : decode cX8_welcome 86 = .ok (.getfield 36, 3) := by decide +kernel
theorem dX8_welcome_89 : decode cX8_welcome 89 = .ok (.iconst 1, 1) := by decide +kernel
theorem dX8_welcome_90 : decode cX8_welcome 90 = .ok (.iadd, 1) := by decide +kernel
theorem dX8_welcome_91 : decode cX8_welcome 91 = .ok (.putfield 36, 3) := by decide +kernel
theorem dX8_welcome_94 : decode cX8_welcome 94 = .ok (.aload_n 0, 1) := by decide +kernel
theorem dX8_welcome_95 : decode cX8_welcome 95 = .ok (.dup, 1) := by decide +kernel
theorem dX8_welcome_96 : decode cX8_welcome 96 = .ok (.getfield 29, 3) := by decide +kernel
theorem dX8_welcome_99 : decode cX8_welcome 99 = .ok (.iconst 1, 1) := by decide +kernel
theorem dX8_welcome_100 : decode cX8_welcome 100 = .ok (.iadd, 1) := by decide +kernel
theorem dX8_welcome_101 : decode cX8_welcome 101 = .ok (.putfield 29, 3) := by decide +kernel
theorem dX8_welcome_104 : decode cX8_welcome 104 = .ok (.return_, 1) := by decide +kernel
set_option maxHeartbeats 4000000 in
set_option maxRecDepth 20000 in
theorem c_st_welcome {G : Gx} {d : Nat} {x1 : Int32} {x2 : Int32} {x3 : Int32} {x4 : Int32} {μ : Mem} {r : Mem} (hf : f_st_welcome x1 x2 x3 x4 μ = some r) : Con G M_st_welcome (d + 1) [.ref (gA G 4), .int x1, .int x2, .int x3, .int x4] μ (none, r) := by
  refine Con.ofV ⟨rfl, rfl, Nat.le_of_ble_eq_true rfl⟩ rfl (fun X hG hX hr dy => ?_)
  subst hG
  show AW X 0 [(0, .ref (gA (xG X) 4)), (1, .int x1), (2, .int x2), (3, .int x3), (4, .int x4)] [] μ dy
  unfold f_st_welcome at hf
  refine r_aload_n hX dX8_welcome_0 0 rfl ?_
  refine r_get hX fl_X8_36 (w_4 _ _ _) rfl dX8_welcome_1 ?_
  refine r_bipush hX (14 : Int32) dX8_welcome_4 rfl ?_
  refine r_icmp_lt hX 10 dX8_welcome_6 rfl (fun hc1 => ?_) (fun hc1 => ?_)
  · rw [if_pos hc1] at hf
    refine r_aload_n hX dX8_welcome_10 0 rfl ?_
    refine r_get hX fl_X8_23 (w_4 _ _ _) rfl dX8_welcome_11 ?_
    refine r_iconst hX (0 : Int32) dX8_welcome_14 rfl ?_
    refine r_aload_n hX dX8_welcome_15 0 rfl ?_
    obtain ⟨v4, μ2, h3, hf⟩ := bd2_eq hf
    refine r_callVI (Ok.le hX (by omega)) (c_st_now (d := d)  h3) cv_X8_46 (w_4 _ _ _) rfl rfl (st := [.int (0 : Int32), .ref (gA (xG X) 22)]) rfl rfl rfl dX8_welcome_16 (fun dy => ?_)
    refine r_iload_n hX dX8_welcome_19 1 rfl ?_
    obtain ⟨v5, e6, hf⟩ := bnd_eq hf
    have J7 : AW X 33 [(0, .ref (gA (xG X) 4)), (1, .int x1), (2, .int x2), (3, .int x3), (4, .int x4)] [.int v5, .int v4, .int (0 : Int32), .ref (gA (xG X) 22)] μ2 dy := by
      refine r_ior hX dX8_welcome_33 ?_
      obtain ⟨b8, hf⟩ := chk_eq hf
      obtain ⟨μ9, e10, hf⟩ := bnd_eq hf
      refine r_iast hX (w_22 _ _ _) (inb_in b8) (s_22 _ _ _ _ _) e10 rfl dX8_welcome_34 ?_
      refine r_aload_n hX dX8_welcome_35 0 rfl ?_
      refine r_iconst hX (0 : Int32) dX8_welcome_36 rfl ?_
      obtain ⟨μ11, e12, hf⟩ := bnd_eq hf
      refine r_put hX fl_X8_33 ft_X8_7 (w_4 _ _ _) rfl rfl rfl (s_4_7 _ _ _ _) e12 rfl dX8_welcome_37 ?_
      refine r_aload_n hX dX8_welcome_40 0 rfl ?_
      refine r_get hX fl_X8_9 (w_4 _ _ _) rfl dX8_welcome_41 ?_
      refine r_aload_n hX dX8_welcome_44 0 rfl ?_
      refine r_get hX fl_X8_36 (w_4 _ _ _) rfl dX8_welcome_45 ?_
      refine r_iload_n hX dX8_welcome_48 2 rfl ?_
      obtain ⟨b13, hf⟩ := chk_eq hf
      obtain ⟨μ14, e15, hf⟩ := bnd_eq hf
      refine r_iast hX (w_5 _ _ _) (inb_in b13) (s_5 _ _ _ _ _) e15 rfl dX8_welcome_49 ?_
      refine r_aload_n hX dX8_welcome_50 0 rfl ?_
      refine r_get hX fl_X8_15 (w_4 _ _ _) rfl dX8_welcome_51 ?_
      refine r_aload_n hX dX8_welcome_54 0 rfl ?_
      refine r_get hX fl_X8_36 (w_4 _ _ _) rfl dX8_welcome_55 ?_
      refine r_iload_n hX dX8_welcome_58 3 rfl ?_
      obtain ⟨b16, hf⟩ := chk_eq hf
      obtain ⟨μ17, e18, hf⟩ := bnd_eq hf
      refine r_iast hX (w_6 _ _ _) (inb_in b16) (s_6 _ _ _ _ _) e18 rfl dX8_welcome_59 ?_
      refine r_aload_n hX dX8_welcome_60 0 rfl ?_
      refine r_dup hX dX8_welcome_61 rfl ?_
      refine r_get hX fl_X8_43 (w_4 _ _ _) rfl dX8_welcome_62 ?_
      refine r_iload hX dX8_welcome_65 4 rfl ?_
      obtain ⟨v19, e20, hf⟩ := bnd_eq hf
      have J21 : AW X 80 [(0, .ref (gA (xG X) 4)), (1, .int x1), (2, .int x2), (3, .int x3), (4, .int x4)] [.int v19, .int (μ17.1 (vSt 0 1) 0), .ref (gA (xG X) 4)] μ17 dy := by
        refine r_ior hX dX8_welcome_80 ?_
        obtain ⟨μ22, e23, hf⟩ := bnd_eq hf
        refine r_put hX fl_X8_43 ft_X8_6 (w_4 _ _ _) rfl rfl rfl (s_4_6 _ _ _ _) e23 rfl dX8_welcome_81 ?_
        refine r_aload_n hX dX8_welcome_84 0 rfl ?_
        refine r_dup hX dX8_welcome_85 rfl ?_
        refine r_get hX fl_X8_36 (w_4 _ _ _) rfl dX8_welcome_86 ?_
        refine r_iconst hX (1 : Int32) dX8_welcome_89 rfl ?_
        refine r_iadd hX dX8_welcome_90 ?_
        obtain ⟨μ24, e25, hf⟩ := bnd_eq hf
        refine r_put hX fl_X8_36 ft_X8_5 (w_4 _ _ _) rfl rfl rfl (s_4_5 _ _ _ _) e25 rfl dX8_welcome_91 ?_
        refine r_aload_n hX dX8_welcome_94 0 rfl ?_
        refine r_dup hX dX8_welcome_95 rfl ?_
        refine r_get hX fl_X8_29 (w_4 _ _ _) rfl dX8_welcome_96 ?_
        refine r_iconst hX (1 : Int32) dX8_welcome_99 rfl ?_
        refine r_iadd hX dX8_welcome_100 ?_
        obtain ⟨μ26, e27, hf⟩ := bnd_eq hf
        refine r_put hX fl_X8_29 ft_X8_8 (w_4 _ _ _) rfl rfl rfl (s_4_8 _ _ _ _) e27 rfl dX8_welcome_101 ?_
        exact fin_V hf hr _ _ _ dX8_welcome_104
      refine r_if_eq hX 79 dX8_welcome_67 rfl (fun hc28 => ?_) (fun hc28 => ?_)
      · refine r_iconst hX (0 : Int32) dX8_welcome_79 rfl ?_
        exact r_topI (e20.trans (by rw [if_pos hc28])) J21
      · refine r_iconst hX (1 : Int32) dX8_welcome_70 rfl ?_
        refine r_aload_n hX dX8_welcome_71 0 rfl ?_
        refine r_get hX fl_X8_36 (w_4 _ _ _) rfl dX8_welcome_72 ?_
        refine r_ishl hX dX8_welcome_75 ?_
        refine r_goto hX 80 dX8_welcome_76 rfl ?_
        exact r_topI (e20.trans (by rw [if_neg hc28])) J21
    refine r_if_eq hX 32 dX8_welcome_20 rfl (fun hc29 => ?_) (fun hc29 => ?_)
    · refine r_iconst hX (0 : Int32) dX8_welcome_32 rfl ?_
      exact r_topI (e6.trans (by rw [if_pos hc29])) J7
    · refine r_iconst hX (1 : Int32) dX8_welcome_23 rfl ?_
      refine r_aload_n hX dX8_welcome_24 0 rfl ?_
      refine r_get hX fl_X8_36 (w_4 _ _ _) rfl dX8_welcome_25 ?_
      refine r_ishl hX dX8_welcome_28 ?_
      refine r_goto hX 33 dX8_welcome_29 rfl ?_
      exact r_topI (e6.trans (by rw [if_neg hc29])) J7
  · rw [if_neg hc1] at hf
    exact fin_V hf hr _ _ _ dX8_welcome_9
theorem dX8_takeDays_0 : decode cX8_takeDays 0 = .ok (.aload_n 0, 1) := by decide +kernel
theorem dX8_takeDays_1 : decode cX8_takeDays 1 = .ok (.aload_n 1, 1) := by decide +kernel
theorem dX8_takeDays_2 : decode cX8_takeDays 2 = .ok (.getfield 33, 3) := by decide +kernel
theorem dX8_takeDays_5 : decode cX8_takeDays 5 = .ok (.putfield 33, 3) := by decide +kernel
theorem dX8_takeDays_8 : decode cX8_takeDays 8 = .ok (.aload_n 1, 1) := by decide +kernel
theorem dX8_takeDays_9 : decode cX8_takeDays 9 = .ok (.getfield 23, 3) := by decide +kernel
theorem dX8_takeDays_12 : decode cX8_takeDays 12 = .ok (.iconst 0, 1) := by decide +kernel
theorem dX8_takeDays_13 : decode cX8_takeDays 13 = .ok (.aload_n 0, 1) := by decide +kernel
theorem dX8_takeDays_14 : decode cX8_takeDays 14 = .ok (.getfield 23, 3) := by decide +kernel
theorem dX8_takeDays_17 : decode cX8_takeDays 17 = .ok (.iconst 0, 1) := by decide +kernel
theorem dX8_takeDays_18 : decode cX8_takeDays 18 = .ok (.sipush 201, 3) := by decide +kernel
theorem dX8_takeDays_21 : decode cX8_takeDays 21 = .ok (.invokestatic 92, 3) := by decide +kernel
theorem dX8_takeDays_24 : decode cX8_takeDays 24 = .ok (.aload_n 1, 1) := by decide +kernel
theorem dX8_takeDays_25 : decode cX8_takeDays 25 = .ok (.getfield 9, 3) := by decide +kernel
theorem dX8_takeDays_28 : decode cX8_takeDays 28 = .ok (.iconst 0, 1) := by decide +kernel
theorem dX8_takeDays_29 : decode cX8_takeDays 29 = .ok (.aload_n 0, 1) := by decide +kernel
theorem dX8_takeDays_30 : decode cX8_takeDays 30 = .ok (.getfield 9, 3) := by decide +kernel
theorem dX8_takeDays_33 : decode cX8_takeDays 33 = .ok (.iconst 0, 1) := by decide +kernel
theorem dX8_takeDays_34 : decode cX8_takeDays 34 = .ok (.bipush 14, 2) := by decide +kernel
theorem dX8_takeDays_36 : decode cX8_takeDays 36 = .ok (.invokestatic 92, 3) := by decide +kernel
theorem dX8_takeDays_39 : decode cX8_takeDays 39 = .ok (.iconst 0, 1) := by decide +kernel
theorem dX8_takeDays_40 : decode cX8_takeDays 40 = .ok (.istore_n 2, 1) := by decide +kernel
theorem dX8_takeDays_41 : decode cX8_takeDays 41 = .ok (.iload_n 2, 1) := by decide +kernel
theorem dX8_takeDays_42 : decode cX8_takeDays 42 = .ok (.bipush 14, 2) := by decide +kernel
theorem dX8_takeDays_44 : decode cX8_takeDays 44 = .ok (.if_icmp .ge 28, 3) := by decide +kernel
theorem dX8_takeDays_47 : decode cX8_takeDays 47 = .ok (.aload_n 1, 1) := by decide +kernel
theorem dX8_takeDays_48 : decode cX8_takeDays 48 = .ok (.getfield 20, 3) := by decide +kernel
theorem dX8_takeDays_51 : decode cX8_takeDays 51 = .ok (.iload_n 2, 1) := by decide +kernel
theorem dX8_takeDays_52 : decode cX8_takeDays 52 = .ok (.aaload, 1) := by decide +kernel
theorem dX8_takeDays_53 : decode cX8_takeDays 53 = .ok (.iconst 0, 1) := by decide +kernel
theorem dX8_takeDays_54 : decode cX8_takeDays 54 = .ok (.aload_n 0, 1) := by decide +kernel
theorem dX8_takeDays_55 : decode cX8_takeDays 55 = .ok (.getfield 20, 3) := by decide +kernel
theorem dX8_takeDays_58 : decode cX8_takeDays 58 = .ok (.iload_n 2, 1) := by decide +kernel
theorem dX8_takeDays_59 : decode cX8_takeDays 59 = .ok (.aaload, 1) := by decide +kernel
theorem dX8_takeDays_60 : decode cX8_takeDays 60 = .ok (.iconst 0, 1) := by decide +kernel
theorem dX8_takeDays_61 : decode cX8_takeDays 61 = .ok (.bipush 14, 2) := by decide +kernel
theorem dX8_takeDays_63 : decode cX8_takeDays 63 = .ok (.invokestatic 92, 3) := by decide +kernel
theorem dX8_takeDays_66 : decode cX8_takeDays 66 = .ok (.iinc 2 1, 3) := by decide +kernel
theorem dX8_takeDays_69 : decode cX8_takeDays 69 = .ok (.goto (-28), 3) := by decide +kernel
theorem dX8_takeDays_72 : decode cX8_takeDays 72 = .ok (.aload_n 0, 1) := by decide +kernel
theorem dX8_takeDays_73 : decode cX8_takeDays 73 = .ok (.dup, 1) := by decide +kernel
theorem dX8_takeDays_74 : decode cX8_takeDays 74 = .ok (.getfield 29, 3) := by decide +kernel
theorem dX8_takeDays_77 : decode cX8_takeDays 77 = .ok (.iconst 1, 1) := by decide +kernel
theorem dX8_takeDays_78 : decode cX8_takeDays 78 = .ok (.iadd, 1) := by decide +kernel
theorem dX8_takeDays_79 : decode cX8_takeDays 79 = .ok (.putfield 29, 3) := by decide +kernel
theorem dX8_takeDays_82 : decode cX8_takeDays 82 = .ok (.return_, 1) := by decide +kernel
set_option maxHeartbeats 4000000 in
set_option maxRecDepth 20000 in
theorem b_st_takeDays_b41 {X : Cx} {d : Nat} {t : Nat} {u : Nat} (ht : t < 3) (hu : u < 3) (hX : Ok M_st_takeDays (d + 1) X) {r : Mem} (hr : RetV M_st_takeDays X r) : ∀ (n : Nat) (x2 : Int32) (μ : Mem) (dy : Nat → Nat), f_st_takeDays_b41 t u n x2 μ = some r → AW X 41 [(0, .ref (gA (xG X) (4 + 20 * t))), (1, .ref (gA (xG X) (4 + 20 * u))), (2, .int x2)] [] μ dy := by
  intro n
  induction n with
  | zero => intro x2 μ dy hf; exact nomatch hf
  | succ n ih =>
    intro x2 μ dy hf
    rw [f_st_takeDays_b41] at hf
    refine r_iload_n hX dX8_takeDays_41 2 rfl ?_
    refine r_bipush hX (14 : Int32) dX8_takeDays_42 rfl ?_
    refine r_icmp_ge hX 72 dX8_takeDays_44 rfl (fun hc9 => ?_) (fun hc9 => ?_)
    · rw [if_pos hc9] at hf
      refine r_aload_n hX dX8_takeDays_72 0 rfl ?_
      refine r_dup hX dX8_takeDays_73 rfl ?_
      refine r_get hX fl_X8_29 (wSt_o ht) rfl dX8_takeDays_74 ?_
      refine r_iconst hX (1 : Int32) dX8_takeDays_77 rfl ?_
      refine r_iadd hX dX8_takeDays_78 ?_
      obtain ⟨μ10, e11, hf⟩ := bnd_eq hf
      refine r_put hX fl_X8_29 ft_X8_8 (wSt_o ht) rfl rfl rfl (sSt_version ht _) e11 rfl dX8_takeDays_79 ?_
      exact fin_V hf hr _ _ _ dX8_takeDays_82
    · rw [if_neg hc9] at hf
      refine r_aload_n hX dX8_takeDays_47 1 rfl ?_
      refine r_get hX fl_X8_20 (wSt_o hu) rfl dX8_takeDays_48 ?_
      refine r_iload_n hX dX8_takeDays_51 2 rfl ?_
      obtain ⟨b12, hf⟩ := chk_eq hf
      refine r_aald hX (wSt_loud hu) (b := gA (xG X) (4 + 20 * u + 4 + x2.toNatClampNeg)) rfl rfl (inb_in b12) (if_pos (inb_lt b12)) dX8_takeDays_52 ?_
      refine r_iconst hX (0 : Int32) dX8_takeDays_53 rfl ?_
      refine r_aload_n hX dX8_takeDays_54 0 rfl ?_
      refine r_get hX fl_X8_20 (wSt_o ht) rfl dX8_takeDays_55 ?_
      refine r_iload_n hX dX8_takeDays_58 2 rfl ?_
      obtain ⟨b13, hf⟩ := chk_eq hf
      refine r_aald hX (wSt_loud ht) (b := gA (xG X) (4 + 20 * t + 4 + x2.toNatClampNeg)) rfl rfl (inb_in b13) (if_pos (inb_lt b13)) dX8_takeDays_59 ?_
      refine r_iconst hX (0 : Int32) dX8_takeDays_60 rfl ?_
      refine r_bipush hX (14 : Int32) dX8_takeDays_61 rfl ?_
      obtain ⟨b14, hf⟩ := chk_eq hf
      obtain ⟨μ15, e16, hf⟩ := bnd_eq hf
      refine r_copy (d := d + 0) (Ok.le hX (by omega)) (wSt_row hu (inb_lt b12)) (wSt_row ht (inb_lt b13)) b14 (aSt_row ht (inb_lt b13) _) e16 rfl kwCopy_X8_92 dX8_takeDays_63 ?_
      refine r_iinc hX (x2 + (1 : Int32)) dX8_takeDays_66 2 rfl rfl rfl (ls' := [(2, .int (x2 + (1 : Int32))), (0, .ref (gA (xG X) (4 + 20 * t))), (1, .ref (gA (xG X) (4 + 20 * u)))]) rfl ?_
      refine r_goto hX 41 dX8_takeDays_69 rfl ?_
      refine r_weak [1, 2, 0] rfl ?_
      exact ih _ _ _ hf
set_option maxHeartbeats 4000000 in
set_option maxRecDepth 20000 in
theorem c_st_takeDays {G : Gx} {d : Nat} {t : Nat} {u : Nat} (ht : t < 3) (hu : u < 3)  {μ : Mem} {r : Mem} (hf : f_st_takeDays t u  μ = some r) : Con G M_st_takeDays (d + 1) [.ref (gA G (4 + 20 * t)), .ref (gA G (4 + 20 * u))] μ (none, r) := by
  refine Con.ofV ⟨rfl, rfl, Nat.le_of_ble_eq_true rfl⟩ rfl (fun X hG hX hr dy => ?_)
  subst hG
  show AW X 0 [(0, .ref (gA (xG X) (4 + 20 * t))), (1, .ref (gA (xG X) (4 + 20 * u)))] [] μ dy
  unfold f_st_takeDays at hf
  refine r_aload_n hX dX8_takeDays_0 0 rfl ?_
  refine r_aload_n hX dX8_takeDays_1 1 rfl ?_
  refine r_get hX fl_X8_33 (wSt_o hu) rfl dX8_takeDays_2 ?_
  obtain ⟨μ1, e2, hf⟩ := bnd_eq hf
  refine r_put hX fl_X8_33 ft_X8_7 (wSt_o ht) rfl rfl rfl (sSt_days ht _) e2 rfl dX8_takeDays_5 ?_
  refine r_aload_n hX dX8_takeDays_8 1 rfl ?_
  refine r_get hX fl_X8_23 (wSt_o hu) rfl dX8_takeDays_9 ?_
  refine r_iconst hX (0 : Int32) dX8_takeDays_12 rfl ?_
  refine r_aload_n hX dX8_takeDays_13 0 rfl ?_
  refine r_get hX fl_X8_23 (wSt_o ht) rfl dX8_takeDays_14 ?_
  refine r_iconst hX (0 : Int32) dX8_takeDays_17 rfl ?_
  refine r_sipush hX (201 : Int32) dX8_takeDays_18 rfl ?_
  obtain ⟨b3, hf⟩ := chk_eq hf
  obtain ⟨μ4, e5, hf⟩ := bnd_eq hf
  refine r_copy (d := d + 0) (Ok.le hX (by omega)) (wSt_states hu) (wSt_states ht) b3 (aSt_states ht _) e5 rfl kwCopy_X8_92 dX8_takeDays_21 ?_
  refine r_aload_n hX dX8_takeDays_24 1 rfl ?_
  refine r_get hX fl_X8_9 (wSt_o hu) rfl dX8_takeDays_25 ?_
  refine r_iconst hX (0 : Int32) dX8_takeDays_28 rfl ?_
  refine r_aload_n hX dX8_takeDays_29 0 rfl ?_
  refine r_get hX fl_X8_9 (wSt_o ht) rfl dX8_takeDays_30 ?_
  refine r_iconst hX (0 : Int32) dX8_takeDays_33 rfl ?_
  refine r_bipush hX (14 : Int32) dX8_takeDays_34 rfl ?_
  obtain ⟨b6, hf⟩ := chk_eq hf
  obtain ⟨μ7, e8, hf⟩ := bnd_eq hf
  refine r_copy (d := d + 0) (Ok.le hX (by omega)) (wSt_need hu) (wSt_need ht) b6 (aSt_need ht _) e8 rfl kwCopy_X8_92 dX8_takeDays_36 ?_
  refine r_iconst hX (0 : Int32) dX8_takeDays_39 rfl ?_
  refine r_istore_n hX dX8_takeDays_40 rfl (ls' := [(2, .int (0 : Int32)), (0, .ref (gA (xG X) (4 + 20 * t))), (1, .ref (gA (xG X) (4 + 20 * u)))]) rfl ?_
  refine r_weak [1, 2, 0] rfl ?_
  exact b_st_takeDays_b41 ht hu hX hr FU _ _ _ hf
theorem dX9_isNext_0 : decode cX9_isNext 0 = .ok (.aload_n 0, 1) := by decide +kernel
theorem dX9_isNext_1 : decode cX9_isNext 1 = .ok (.getfield 48, 3) := by decide +kernel
theorem dX9_isNext_4 : decode cX9_isNext 4 = .ok (.aload_n 0, 1) := by decide +kernel
theorem dX9_isNext_5 : decode cX9_isNext 5 = .ok (.getfield 29, 3) := by decide +kernel
theorem dX9_isNext_8 : decode cX9_isNext 8 = .ok (.if_icmp .ge 20, 3) := by decide +kernel
theorem dX9_isNext_11 : decode cX9_isNext 11 = .ok (.aload_n 0, 1) := by decide +kernel
theorem dX9_isNext_12 : decode cX9_isNext 12 = .ok (.getfield 15, 3) := by decide +kernel
theorem dX9_isNext_15 : decode cX9_isNext 15 = .ok (.aload_n 0, 1) := by decide +kernel
theorem dX9_isNext_16 : decode cX9_isNext 16 = .ok (.getfield 48, 3) := by decide +kernel
theorem dX9_isNext_19 : decode cX9_isNext 19 = .ok (.iaload, 1) := by decide +kernel
theorem dX9_isNext_20 : decode cX9_isNext 20 = .ok (.iload_n 1, 1) := by decide +kernel
theorem dX9_isNext_21 : decode cX9_isNext 21 = .ok (.if_icmp .ne 7, 3) := by decide +kernel
theorem dX9_isNext_24 : decode cX9_isNext 24 = .ok (.iconst 1, 1) := by decide +kernel
theorem dX9_isNext_25 : decode cX9_isNext 25 = .ok (.goto 4, 3) := by decide +kernel
theorem dX9_isNext_28 : decode cX9_isNext 28 = .ok (.iconst 0, 1) := by decide +kernel
theorem dX9_isNext_29 : decode cX9_isNext 29 = .ok (.ireturn, 1) := by decide +kernel
set_option maxHeartbeats 4000000 in
set_option maxRecDepth 20000 in
theorem c_sr_isNext {G : Gx} {d : Nat} {x1 : Int32} {μ : Mem} {r : Int32 × Mem} (hf : f_sr_isNext x1 μ = some r) : Con G M_sr_isNext (d + 0) [.ref (gA G 76), .int x1] μ (some (.int r.1), r.2) := by
  refine Con.ofZ ⟨rfl, rfl, Nat.le_of_ble_eq_true rfl⟩ rfl (fun X hG hX hr dy => ?_)
  subst hG
  show AW X 0 [(0, .ref (gA (xG X) 76)), (1, .int x1)] [] μ dy
  unfold f_sr_isNext at hf
  refine r_aload_n hX dX9_isNext_0 0 rfl ?_
  refine r_get hX fl_X9_48 (w_76 _ _ _) rfl dX9_isNext_1 ?_
  refine r_aload_n hX dX9_isNext_4 0 rfl ?_
  refine r_get hX fl_X9_29 (w_76 _ _ _) rfl dX9_isNext_5 ?_
  refine r_icmp_ge hX 28 dX9_isNext_8 rfl (fun hc1 => ?_) (fun hc1 => ?_)
  · rw [if_pos hc1] at hf
    refine r_iconst hX (0 : Int32) dX9_isNext_28 rfl ?_
    obtain ⟨b2, hf⟩ := chk_eq hf
    exact fin_Z hf hr _ _ _ (zb_nar b2) dX9_isNext_29
  · rw [if_neg hc1] at hf
    refine r_aload_n hX dX9_isNext_11 0 rfl ?_
    by_cases hc3 : μ.1 v_sr_text 0 = 1
    · rw [if_pos hc3] at hf
      refine r_get hX fl_X9_15 (w_76 _ _ _) (v := .ref (gA (xG X) 1)) (dynT hc3) dX9_isNext_12 ?_
      refine r_aload_n hX dX9_isNext_15 0 rfl ?_
      refine r_get hX fl_X9_48 (w_76 _ _ _) rfl dX9_isNext_16 ?_
      obtain ⟨b4, hf⟩ := chk_eq hf
      refine r_iald hX (w_1 _ _ _) (inb_in b4) dX9_isNext_19 ?_
      refine r_iload_n hX dX9_isNext_20 1 rfl ?_
      obtain ⟨v5, e6, hf⟩ := bnd_eq hf
      have J7 : AW X 29 [(0, .ref (gA (xG X) 76)), (1, .int x1)] [.int v5] μ dy := by
        obtain ⟨b8, hf⟩ := chk_eq hf
        exact fin_Z hf hr _ _ _ (zb_nar b8) dX9_isNext_29
      refine r_icmp_ne hX 28 dX9_isNext_21 rfl (fun hc9 => ?_) (fun hc9 => ?_)
      · refine r_iconst hX (0 : Int32) dX9_isNext_28 rfl ?_
        exact r_topI (e6.trans (by rw [if_neg hc9])) J7
      · refine r_iconst hX (1 : Int32) dX9_isNext_24 rfl ?_
        refine r_goto hX 29 dX9_isNext_25 rfl ?_
        exact r_topI (e6.trans (by rw [if_pos hc9])) J7
    · rw [if_neg hc3] at hf
      exact nomatch hf
theorem dX9_digit_0 : decode cX9_digit 0 = .ok (.aload_n 0, 1) := by decide +kernel
theorem dX9_digit_1 : decode cX9_digit 1 = .ok (.getfield 48, 3) := by decide +kernel
theorem dX9_digit_4 : decode cX9_digit 4 = .ok (.aload_n 0, 1) := by decide +kernel
theorem dX9_digit_5 : decode cX9_digit 5 = .ok (.getfield 29, 3) := by decide +kernel
theorem dX9_digit_8 : decode cX9_digit 8 = .ok (.if_icmp .ge 31, 3) := by decide +kernel
theorem dX9_digit_11 : decode cX9_digit 11 = .ok (.aload_n 0, 1) := by decide +kernel
theorem dX9_digit_12 : decode cX9_digit 12 = .ok (.getfield 15, 3) := by decide +kernel
theorem dX9_digit_15 : decode cX9_digit 15 = .ok (.aload_n 0, 1) := by decide +kernel
theorem dX9_digit_16 : decode cX9_digit 16 = .ok (.getfield 48, 3) := by decide +kernel
theorem dX9_digit_19 : decode cX9_digit 19 = .ok (.iaload, 1) := by decide +kernel
theorem dX9_digit_20 : decode cX9_digit 20 = .ok (.bipush 48, 2) := by decide +kernel
theorem dX9_digit_22 : decode cX9_digit 22 = .ok (.if_icmp .lt 17, 3) := by decide +kernel
theorem dX9_digit_25 : decode cX9_digit 25 = .ok (.aload_n 0, 1) := by decide +kernel
theorem dX9_digit_26 : decode cX9_digit 26 = .ok (.getfield 15, 3) := by decide +kernel
theorem dX9_digit_29 : decode cX9_digit 29 = .ok (.aload_n 0, 1) := by decide +kernel
theorem dX9_digit_30 : decode cX9_digit 30 = .ok (.getfield 48, 3) := by decide +kernel
theorem dX9_digit_33 : decode cX9_digit 33 = .ok (.iaload, 1) := by decide +kernel
theorem dX9_digit_34 : decode cX9_digit 34 = .ok (.bipush 57, 2) := by decide +kernel
theorem dX9_digit_36 : decode cX9_digit 36 = .ok (.if_icmp .le 5, 3) := by decide +kernel
theorem dX9_digit_39 : decode cX9_digit 39 = .ok (.iconst (-1), 1) := by decide +kernel
theorem dX9_digit_40 : decode cX9_digit 40 = .ok (.ireturn, 1) := by decide +kernel
theorem dX9_digit_41 : decode cX9_digit 41 = .ok (.aload_n 0, 1) := by decide +kernel
theorem dX9_digit_42 : decode cX9_digit 42 = .ok (.getfield 15, 3) := by decide +kernel
theorem dX9_digit_45 : decode cX9_digit 45 = .ok (.aload_n 0, 1) := by decide +kernel
theorem dX9_digit_46 : decode cX9_digit 46 = .ok (.dup, 1) := by decide +kernel
theorem dX9_digit_47 : decode cX9_digit 47 = .ok (.getfield 48, 3) := by decide +kernel
theorem dX9_digit_50 : decode cX9_digit 50 = .ok (.dup_x1, 1) := by decide +kernel
theorem dX9_digit_51 : decode cX9_digit 51 = .ok (.iconst 1, 1) := by decide +kernel
theorem dX9_digit_52 : decode cX9_digit 52 = .ok (.iadd, 1) := by decide +kernel
theorem dX9_digit_53 : decode cX9_digit 53 = .ok (.putfield 48, 3) := by decide +kernel
theorem dX9_digit_56 : decode cX9_digit 56 = .ok (.iaload, 1) := by decide +kernel
theorem dX9_digit_57 : decode cX9_digit 57 = .ok (.bipush 48, 2) := by decide +kernel
theorem dX9_digit_59 : decode cX9_digit 59 = .ok (.isub, 1) := by decide +kernel
theorem dX9_digit_60 : decode cX9_digit 60 = .ok (.ireturn, 1) := by decide +kernel
set_option maxHeartbeats 4000000 in
set_option maxRecDepth 20000 in
theorem c_sr_digit {G : Gx} {d : Nat}  {μ : Mem} {r : Int32 × Mem} (hf : f_sr_digit  μ = some r) : Con G M_sr_digit (d + 0) [.ref (gA G 76)] μ (some (.int r.1), r.2) := by
  refine Con.ofI ⟨rfl, rfl, Nat.le_of_ble_eq_true rfl⟩ rfl rfl (fun X hG hX hr dy => ?_)
  subst hG
  show AW X 0 [(0, .ref (gA (xG X) 76))] [] μ dy
  unfold f_sr_digit at hf
  refine r_aload_n hX dX9_digit_0 0 rfl ?_
  refine r_get hX fl_X9_48 (w_76 _ _ _) rfl dX9_digit_1 ?_
  refine r_aload_n hX dX9_digit_4 0 rfl ?_
  refine r_get hX fl_X9_29 (w_76 _ _ _) rfl dX9_digit_5 ?_
  refine r_icmp_ge hX 39 dX9_digit_8 rfl (fun hc1 => ?_) (fun hc1 => ?_)
  · rw [if_pos hc1] at hf
    refine r_iconst hX (-1 : Int32) dX9_digit_39 rfl ?_
    exact fin_I hf hr _ _ _ dX9_digit_40
  · rw [if_neg hc1] at hf
    refine r_aload_n hX dX9_digit_11 0 rfl ?_
    by_cases hc2 : μ.1 v_sr_text 0 = 1
    · rw [if_pos hc2] at hf
      refine r_get hX fl_X9_15 (w_76 _ _ _) (v := .ref (gA (xG X) 1)) (dynT hc2) dX9_digit_12 ?_
      refine r_aload_n hX dX9_digit_15 0 rfl ?_
      refine r_get hX fl_X9_48 (w_76 _ _ _) rfl dX9_digit_16 ?_
      obtain ⟨b3, hf⟩ := chk_eq hf
      refine r_iald hX (w_1 _ _ _) (inb_in b3) dX9_digit_19 ?_
      refine r_bipush hX (48 : Int32) dX9_digit_20 rfl ?_
      refine r_icmp_lt hX 39 dX9_digit_22 rfl (fun hc4 => ?_) (fun hc4 => ?_)
      · rw [if_pos hc4] at hf
        refine r_iconst hX (-1 : Int32) dX9_digit_39 rfl ?_
        exact fin_I hf hr _ _ _ dX9_digit_40
      · rw [if_neg hc4] at hf
        refine r_aload_n hX dX9_digit_25 0 rfl ?_
        by_cases hc5 : μ.1 v_sr_text 0 = 1
        · rw [if_pos hc5] at hf
          refine r_get hX fl_X9_15 (w_76 _ _ _) (v := .ref (gA (xG X) 1)) (dynT hc5) dX9_digit_26 ?_
          refine r_aload_n hX dX9_digit_29 0 rfl ?_
          refine r_get hX fl_X9_48 (w_76 _ _ _) rfl dX9_digit_30 ?_
          obtain ⟨b6, hf⟩ := chk_eq hf
          refine r_iald hX (w_1 _ _ _) (inb_in b6) dX9_digit_33 ?_
          refine r_bipush hX (57 : Int32) dX9_digit_34 rfl ?_
          refine r_icmp_le hX 41 dX9_digit_36 rfl (fun hc7 => ?_) (fun hc7 => ?_)
          · rw [if_pos hc7] at hf
            refine r_aload_n hX dX9_digit_41 0 rfl ?_
            by_cases hc8 : μ.1 v_sr_text 0 = 1
            · rw [if_pos hc8] at hf
              refine r_get hX fl_X9_15 (w_76 _ _ _) (v := .ref (gA (xG X) 1)) (dynT hc8) dX9_digit_42 ?_
              refine r_aload_n hX dX9_digit_45 0 rfl ?_
              refine r_dup hX dX9_digit_46 rfl ?_
              refine r_get hX fl_X9_48 (w_76 _ _ _) rfl dX9_digit_47 ?_
              refine r_dup_x1 hX dX9_digit_50 rfl rfl ?_
              refine r_iconst hX (1 : Int32) dX9_digit_51 rfl ?_
              refine r_iadd hX dX9_digit_52 ?_
              obtain ⟨μ9, e10, hf⟩ := bnd_eq hf
              refine r_put hX fl_X9_48 ft_X9_4 (w_76 _ _ _) rfl rfl rfl (s_76_4 _ _ _ _) e10 rfl dX9_digit_53 ?_
              obtain ⟨b11, hf⟩ := chk_eq hf
              refine r_iald hX (w_1 _ _ _) (inb_in b11) dX9_digit_56 ?_
              refine r_bipush hX (48 : Int32) dX9_digit_57 rfl ?_
              refine r_isub hX dX9_digit_59 ?_
              exact fin_I hf hr _ _ _ dX9_digit_60
            · rw [if_neg hc8] at hf
              exact nomatch hf
          · rw [if_neg hc7] at hf
            refine r_iconst hX (-1 : Int32) dX9_digit_39 rfl ?_
            exact fin_I hf hr _ _ _ dX9_digit_40
        · rw [if_neg hc5] at hf
          exact nomatch hf
    · rw [if_neg hc2] at hf
      exact nomatch hf
theorem dX9_number_0 : decode cX9_number 0 = .ok (.aload_n 0, 1) := by decide +kernel
theorem dX9_number_1 : decode cX9_number 1 = .ok (.invokevirtual 72, 3) := by decide +kernel
theorem dX9_number_4 : decode cX9_number 4 = .ok (.istore_n 1, 1) := by decide +kernel
theorem dX9_number_5 : decode cX9_number 5 = .ok (.iload_n 1, 1) := by decide +kernel
theorem dX9_number_6 : decode cX9_number 6 = .ok (.ifCond .ge 7, 3) := by decide +kernel
theorem dX9_number_9 : decode cX9_number 9 = .ok (.iconst (-1), 1) := by decide +kernel
theorem dX9_number_10 : decode cX9_number 10 = .ok (.goto 7, 3) := by decide +kernel
theorem dX9_number_13 : decode cX9_number 13 = .ok (.aload_n 0, 1) := by decide +kernel
theorem dX9_number_14 : decode cX9_number 14 = .ok (.invokevirtual 72, 3) := by decide +kernel
theorem dX9_number_17 : decode cX9_number 17 = .ok (.istore_n 2, 1) := by decide +kernel
theorem dX9_number_18 : decode cX9_number 18 = .ok (.iload_n 2, 1) := by decide +kernel
theorem dX9_number_19 : decode cX9_number 19 = .ok (.ifCond .ge 7, 3) := by decide +kernel
theorem dX9_number_22 : decode cX9_number 22 = .ok (.iload_n 1, 1) := by decide +kernel
theorem dX9_number_23 : decode cX9_number 23 = .ok (.goto 9, 3) := by decide +kernel
theorem dX9_number_26 : decode cX9_number 26 = .ok (.iload_n 1, 1) := by decide +kernel
theorem dX9_number_27 : decode cX9_number 27 = .ok (.bipush 10, 2) := by decide +kernel
theorem dX9_number_29 : decode cX9_number 29 = .ok (.imul, 1) := by decide +kernel
theorem dX9_number_30 : decode cX9_number 30 = .ok (.iload_n 2, 1) := by decide +kernel
theorem dX9_number_31 : decode cX9_number 31 = .ok (.iadd, 1) := by decide +kernel
theorem dX9_number_32 : decode cX9_number 32 = .ok (.ireturn, 1) := by decide +kernel
set_option maxHeartbeats 4000000 in
set_option maxRecDepth 20000 in
theorem b_sr_number_b17 {X : Cx} {d : Nat} (hX : Ok M_sr_number (d + 1) X) {r : Int32 × Mem} (hr : RetI M_sr_number X r.1 r.2) (x1 : Int32) (s0 : Int32) (μ : Mem) (dy : Nat → Nat) (hf : f_sr_number_b17 x1 s0 μ = some r) : AW X 17 [(1, .int x1)] [.int s0] μ dy := by
  unfold f_sr_number_b17 at hf
  refine r_istore_n hX dX9_number_17 rfl (ls' := [(2, .int s0), (1, .int x1)]) rfl ?_
  refine r_iload_n hX dX9_number_18 0 rfl ?_
  obtain ⟨v8, e9, hf⟩ := bnd_eq hf
  have J10 : AW X 32 [(2, .int s0), (1, .int x1)] [.int v8] μ dy := by
    exact fin_I hf hr _ _ _ dX9_number_32
  refine r_if_ge hX 26 dX9_number_19 rfl (fun hc11 => ?_) (fun hc11 => ?_)
  · refine r_iload_n hX dX9_number_26 1 rfl ?_
    refine r_bipush hX (10 : Int32) dX9_number_27 rfl ?_
    refine r_imul hX dX9_number_29 ?_
    refine r_iload_n hX dX9_number_30 0 rfl ?_
    refine r_iadd hX dX9_number_31 ?_
    exact r_topI (e9.trans (by rw [if_pos hc11])) J10
  · refine r_iload_n hX dX9_number_22 1 rfl ?_
    refine r_goto hX 32 dX9_number_23 rfl ?_
    exact r_topI (e9.trans (by rw [if_neg hc11])) J10
set_option maxHeartbeats 4000000 in
set_option maxRecDepth 20000 in
theorem c_sr_number {G : Gx} {d : Nat}  {μ : Mem} {r : Int32 × Mem} (hf : f_sr_number  μ = some r) : Con G M_sr_number (d + 1) [.ref (gA G 76)] μ (some (.int r.1), r.2) := by
  refine Con.ofI ⟨rfl, rfl, Nat.le_of_ble_eq_true rfl⟩ rfl rfl (fun X hG hX hr dy => ?_)
  subst hG
  show AW X 0 [(0, .ref (gA (xG X) 76))] [] μ dy
  unfold f_sr_number at hf
  refine r_aload_n hX dX9_number_0 0 rfl ?_
  obtain ⟨v3, μ1, h2, hf⟩ := bd2_eq hf
  refine r_callVI (Ok.le hX (by omega)) (c_sr_digit (d := d)  h2) cv_X9_72 (w_76 _ _ _) rfl rfl (st := []) rfl rfl rfl dX9_number_1 (fun dy => ?_)
  refine r_istore_n hX dX9_number_4 rfl (ls' := [(1, .int v3), (0, .ref (gA (xG X) 76))]) rfl ?_
  refine r_iload_n hX dX9_number_5 0 rfl ?_
  refine r_if_ge hX 13 dX9_number_6 rfl (fun hc4 => ?_) (fun hc4 => ?_)
  · rw [if_pos hc4] at hf
    refine r_aload_n hX dX9_number_13 1 rfl ?_
    obtain ⟨v7, μ5, h6, hf⟩ := bd2_eq hf
    refine r_callVI (Ok.le hX (by omega)) (c_sr_digit (d := d)  h6) cv_X9_72 (w_76 _ _ _) rfl rfl (st := []) rfl rfl rfl dX9_number_14 (fun dy => ?_)
    refine r_weak [0] rfl ?_
    exact b_sr_number_b17 hX hr _ _ _ _ hf
  · rw [if_neg hc4] at hf
    refine r_iconst hX (-1 : Int32) dX9_number_9 rfl ?_
    refine r_goto hX 17 dX9_number_10 rfl ?_
    refine r_weak [0] rfl ?_
    exact b_sr_number_b17 hX hr _ _ _ _ hf
theorem dX9_take_0 : decode cX9_take 0 = .ok (.aload_n 0, 1) := by decide +kernel
theorem dX9_take_1 : decode cX9_take 1 = .ok (.iload_n 1, 1) := by decide +kernel
theorem dX9_take_2 : decode cX9_take 2 = .ok (.invokevirtual 59, 3) := by decide +kernel
theorem dX9_take_5 : decode cX9_take 5 = .ok (.ifCond .ne 5, 3) := by decide +kernel
theorem dX9_take_8 : decode cX9_take 8 = .ok (.iconst 0, 1) := by decide +kernel
theorem dX9_take_9 : decode cX9_take 9 = .ok (.ireturn, 1) := by decide +kernel
theorem dX9_take_10 : decode cX9_take 10 = .ok (.aload_n 0, 1) := by decide +kernel
theorem dX9_take_11 : decode cX9_take 11 = .ok (.dup, 1) := by decide +kernel
theorem dX9_take_12 : decode cX9_take 12 = .ok (.getfield 48, 3) := by decide +kernel
theorem dX9_take_15 : decode cX9_take 15 = .ok (.iconst 1, 1) := by decide +kernel
theorem dX9_take_16 : decode cX9_take 16 = .ok (.iadd, 1) := by decide +kernel
theorem dX9_take_17 : decode cX9_take 17 = .ok (.putfield 48, 3) := by decide +kernel
theorem dX9_take_20 : decode cX9_take 20 = .ok (.iconst 1, 1) := by decide +kernel
theorem dX9_take_21 : decode cX9_take 21 = .ok (.ireturn, 1) := by decide +kernel
set_option maxHeartbeats 4000000 in
set_option maxRecDepth 20000 in
theorem c_sr_take {G : Gx} {d : Nat} {x1 : Int32} {μ : Mem} {r : Int32 × Mem} (hf : f_sr_take x1 μ = some r) : Con G M_sr_take (d + 1) [.ref (gA G 76), .int x1] μ (some (.int r.1), r.2) := by
  refine Con.ofZ ⟨rfl, rfl, Nat.le_of_ble_eq_true rfl⟩ rfl (fun X hG hX hr dy => ?_)
  subst hG
  show AW X 0 [(0, .ref (gA (xG X) 76)), (1, .int x1)] [] μ dy
  unfold f_sr_take at hf
  refine r_aload_n hX dX9_take_0 0 rfl ?_
  refine r_iload_n hX dX9_take_1 1 rfl ?_
  obtain ⟨v3, μ1, h2, hf⟩ := bd2_eq hf
  refine r_callVI (Ok.le hX (by omega)) (c_sr_isNext (d := d)  h2) cv_X9_59 (w_76 _ _ _) rfl rfl (st := []) rfl rfl rfl dX9_take_2 (fun dy => ?_)
  refine r_if_ne hX 10 dX9_take_5 rfl (fun hc4 => ?_) (fun hc4 => ?_)
  · rw [if_neg hc4] at hf
    refine r_aload_n hX dX9_take_10 0 rfl ?_
    refine r_dup hX dX9_take_11 rfl ?_
    refine r_get hX fl_X9_48 (w_76 _ _ _) rfl dX9_take_12 ?_
    refine r_iconst hX (1 : Int32) dX9_take_15 rfl ?_
    refine r_iadd hX dX9_take_16 ?_
    obtain ⟨μ5, e6, hf⟩ := bnd_eq hf
    refine r_put hX fl_X9_48 ft_X9_4 (w_76 _ _ _) rfl rfl rfl (s_76_4 _ _ _ _) e6 rfl dX9_take_17 ?_
    refine r_iconst hX (1 : Int32) dX9_take_20 rfl ?_
    obtain ⟨b7, hf⟩ := chk_eq hf
    exact fin_Z hf hr _ _ _ (zb_nar b7) dX9_take_21
  · rw [if_pos hc4] at hf
    refine r_iconst hX (0 : Int32) dX9_take_8 rfl ?_
    obtain ⟨b8, hf⟩ := chk_eq hf
    exact fin_Z hf hr _ _ _ (zb_nar b8) dX9_take_9
theorem dX9_readPerson_0 : decode cX9_readPerson 0 = .ok (.aload_n 0, 1) := by decide +kernel
theorem dX9_readPerson_1 : decode cX9_readPerson 1 = .ok (.getfield 45, 3) := by decide +kernel
theorem dX9_readPerson_4 : decode cX9_readPerson 4 = .ok (.bipush 14, 2) := by decide +kernel
theorem dX9_readPerson_6 : decode cX9_readPerson 6 = .ok (.if_icmp .lt 5, 3) := by decide +kernel
theorem dX9_readPerson_9 : decode cX9_readPerson 9 = .ok (.iconst 0, 1) := by decide +kernel
theorem dX9_readPerson_10 : decode cX9_readPerson 10 = .ok (.ireturn, 1) := by decide +kernel
theorem dX9_readPerson_11 : decode cX9_readPerson 11 = .ok (.aload_n 0, 1) := by decide +kernel
theorem dX9_readPerson_12 : decode cX9_readPerson 12 = .ok (.bipush 98, 2) := by decide +kernel
theorem dX9_readPerson_14 : decode cX9_readPerson 14 = .ok (.invokevirtual 59, 3) := by decide +kernel
theorem dX9_readPerson_17 : decode cX9_readPerson 17 = .ok (.istore_n 1, 1) := by decide +kernel
theorem dX9_readPerson_18 : decode cX9_readPerson 18 = .ok (.aload_n 0, 1) := by decide +kernel
theorem dX9_readPerson_19 : decode cX9_readPerson 19 = .ok (.dup, 1) := by decide +kernel
theorem dX9_readPerson_20 : decode cX9_readPerson 20 = .ok (.getfield 48, 3) := by decide +kernel
theorem dX9_readPerson_23 : decode cX9_readPerson 23 = .ok (.iconst 1, 1) := by decide +kernel
theorem dX9_readPerson_24 : decode cX9_readPerson 24 = .ok (.iadd, 1) := by decide +kernel
theorem dX9_readPerson_25 : decode cX9_readPerson 25 = .ok (.putfield 48, 3) := by decide +kernel
theorem dX9_readPerson_28 : decode cX9_readPerson 28 = .ok (.aload_n 0, 1) := by decide +kernel
theorem dX9_readPerson_29 : decode cX9_readPerson 29 = .ok (.invokevirtual 68, 3) := by decide +kernel
theorem dX9_readPerson_32 : decode cX9_readPerson 32 = .ok (.istore_n 2, 1) := by decide +kernel
theorem dX9_readPerson_33 : decode cX9_readPerson 33 = .ok (.iload_n 2, 1) := by decide +kernel
theorem dX9_readPerson_34 : decode cX9_readPerson 34 = .ok (.ifCond .lt 12, 3) := by decide +kernel
theorem dX9_readPerson_37 : decode cX9_readPerson 37 = .ok (.aload_n 0, 1) := by decide +kernel
theorem dX9_readPerson_38 : decode cX9_readPerson 38 = .ok (.bipush 44, 2) := by decide +kernel
theorem dX9_readPerson_40 : decode cX9_readPerson 40 = .ok (.invokevirtual 55, 3) := by decide +kernel
theorem dX9_readPerson_43 : decode cX9_readPerson 43 = .ok (.ifCond .ne 5, 3) := by decide +kernel
theorem dX9_readPerson_46 : decode cX9_readPerson 46 = .ok (.iconst 0, 1) := by decide +kernel
theorem dX9_readPerson_47 : decode cX9_readPerson 47 = .ok (.ireturn, 1) := by decide +kernel
theorem dX9_readPerson_48 : decode cX9_readPerson 48 = .ok (.aload_n 0, 1) := by decide +kernel
theorem dX9_readPerson_49 : decode cX9_readPerson 49 = .ok (.invokevirtual 72, 3) := by decide +kernel
theorem dX9_readPerson_52 : decode cX9_readPerson 52 = .ok (.istore_n 3, 1) := by decide +kernel
theorem dX9_readPerson_53 : decode cX9_readPerson 53 = .ok (.iload_n 3, 1) := by decide +kernel
theorem dX9_readPerson_54 : decode cX9_readPerson 54 = .ok (.ifCond .ge 5, 3) := by decide +kernel
theorem dX9_readPerson_57 : decode cX9_readPerson 57 = .ok (.iconst 0, 1) := by decide +kernel
theorem dX9_readPerson_58 : decode cX9_readPerson 58 = .ok (.ireturn, 1) := by decide +kernel
theorem dX9_readPerson_59 : decode cX9_readPerson 59 = .ok (.aload_n 0, 1) := by decide +kernel
theorem dX9_readPerson_60 : decode cX9_readPerson 60 = .ok (.bipush 33, 2) := by decide +kernel
theorem dX9_readPerson_62 : decode cX9_readPerson 62 = .ok (.invokevirtual 55, 3) := by decide +kernel
theorem dX9_readPerson_65 : decode cX9_readPerson 65 = .ok (.istore 4, 2) := by decide +kernel
theorem dX9_readPerson_67 : decode cX9_readPerson 67 = .ok (.aload_n 0, 1) := by decide +kernel
theorem dX9_readPerson_68 : decode cX9_readPerson 68 = .ok (.dup, 1) := by decide +kernel
theorem dX9_readPerson_69 : decode cX9_readPerson 69 = .ok (.getfield 45, 3) := by decide +kernel
theorem dX9_readPerson_72 : decode cX9_readPerson 72 = .ok (.iconst 1, 1) := by decide +kernel
theorem dX9_readPerson_73 : decode cX9_readPerson 73 = .ok (.iadd, 1) := by decide +kernel
theorem dX9_readPerson_74 : decode cX9_readPerson 74 = .ok (.putfield 45, 3) := by decide +kernel
theorem dX9_readPerson_77 : decode cX9_readPerson 77 = .ok (.aload_n 0, 1) := by decide +kernel
theorem dX9_readPerson_78 : decode cX9_readPerson 78 = .ok (.getfield 36, 3) := by decide +kernel
theorem dX9_readPerson_81 : decode cX9_readPerson 81 = .ok (.ifCond .eq 15, 3) := by decide +kernel
theorem dX9_readPerson_84 : decode cX9_readPerson 84 = .ok (.aload_n 0, 1) := by decide +kernel
theorem dX9_readPerson_85 : decode cX9_readPerson 85 = .ok (.getfield 9, 3) := by decide +kernel
theorem dX9_readPerson_88 : decode cX9_readPerson 88 = .ok (.iload_n 1, 1) := by decide +kernel
theorem dX9_readPerson_89 : decode cX9_readPerson 89 = .ok (.iload_n 2, 1) := by decide +kernel
theorem dX9_readPerson_90 : decode cX9_readPerson 90 = .ok (.iload_n 3, 1) := by decide +kernel
theorem dX9_readPerson_91 : decode cX9_readPerson 91 = .ok (.iload 4, 2) := by decide +kernel
theorem dX9_readPerson_93 : decode cX9_readPerson 93 = .ok (.invokevirtual 75, 3) := by decide +kernel
theorem dX9_readPerson_96 : decode cX9_readPerson 96 = .ok (.iconst 1, 1) := by decide +kernel
theorem dX9_readPerson_97 : decode cX9_readPerson 97 = .ok (.ireturn, 1) := by decide +kernel
set_option maxHeartbeats 4000000 in
set_option maxRecDepth 20000 in
theorem c_sr_readPerson {G : Gx} {d : Nat}  {μ : Mem} {r : Int32 × Mem} (hf : f_sr_readPerson  μ = some r) : Con G M_sr_readPerson (d + 2) [.ref (gA G 76)] μ (some (.int r.1), r.2) := by
  refine Con.ofZ ⟨rfl, rfl, Nat.le_of_ble_eq_true rfl⟩ rfl (fun X hG hX hr dy => ?_)
  subst hG
  show AW X 0 [(0, .ref (gA (xG X) 76))] [] μ dy
  unfold f_sr_readPerson at hf
  refine r_aload_n hX dX9_readPerson_0 0 rfl ?_
  refine r_get hX fl_X9_45 (w_76 _ _ _) rfl dX9_readPerson_1 ?_
  refine r_bipush hX (14 : Int32) dX9_readPerson_4 rfl ?_
  refine r_icmp_lt hX 11 dX9_readPerson_6 rfl (fun hc1 => ?_) (fun hc1 => ?_)
  · rw [if_pos hc1] at hf
    refine r_aload_n hX dX9_readPerson_11 0 rfl ?_
    refine r_bipush hX (98 : Int32) dX9_readPerson_12 rfl ?_
    obtain ⟨v4, μ2, h3, hf⟩ := bd2_eq hf
    refine r_callVI (Ok.le hX (by omega)) (c_sr_isNext (d := d)  h3) cv_X9_59 (w_76 _ _ _) rfl rfl (st := []) rfl rfl rfl dX9_readPerson_14 (fun dy => ?_)
    refine r_istore_n hX dX9_readPerson_17 rfl (ls' := [(1, .int v4), (0, .ref (gA (xG X) 76))]) rfl ?_
    refine r_aload_n hX dX9_readPerson_18 1 rfl ?_
    refine r_dup hX dX9_readPerson_19 rfl ?_
    refine r_get hX fl_X9_48 (w_76 _ _ _) rfl dX9_readPerson_20 ?_
    refine r_iconst hX (1 : Int32) dX9_readPerson_23 rfl ?_
    refine r_iadd hX dX9_readPerson_24 ?_
    obtain ⟨μ5, e6, hf⟩ := bnd_eq hf
    refine r_put hX fl_X9_48 ft_X9_4 (w_76 _ _ _) rfl rfl rfl (s_76_4 _ _ _ _) e6 rfl dX9_readPerson_25 ?_
    refine r_aload_n hX dX9_readPerson_28 1 rfl ?_
    obtain ⟨v9, μ7, h8, hf⟩ := bd2_eq hf
    refine r_callVI (Ok.le hX (by omega)) (c_sr_number (d := d)  h8) cv_X9_68 (w_76 _ _ _) rfl rfl (st := []) rfl rfl rfl dX9_readPerson_29 (fun dy => ?_)
    refine r_istore_n hX dX9_readPerson_32 rfl (ls' := [(2, .int v9), (1, .int v4), (0, .ref (gA (xG X) 76))]) rfl ?_
    refine r_iload_n hX dX9_readPerson_33 0 rfl ?_
    refine r_if_lt hX 46 dX9_readPerson_34 rfl (fun hc10 => ?_) (fun hc10 => ?_)
    · rw [if_pos hc10] at hf
      refine r_iconst hX (0 : Int32) dX9_readPerson_46 rfl ?_
      obtain ⟨b11, hf⟩ := chk_eq hf
      exact fin_Z hf hr _ _ _ (zb_nar b11) dX9_readPerson_47
    · rw [if_neg hc10] at hf
      refine r_aload_n hX dX9_readPerson_37 2 rfl ?_
      refine r_bipush hX (44 : Int32) dX9_readPerson_38 rfl ?_
      obtain ⟨v14, μ12, h13, hf⟩ := bd2_eq hf
      refine r_callVI (Ok.le hX (by omega)) (c_sr_take (d := d)  h13) cv_X9_55 (w_76 _ _ _) rfl rfl (st := []) rfl rfl rfl dX9_readPerson_40 (fun dy => ?_)
      refine r_if_ne hX 48 dX9_readPerson_43 rfl (fun hc15 => ?_) (fun hc15 => ?_)
      · rw [if_neg hc15] at hf
        refine r_aload_n hX dX9_readPerson_48 2 rfl ?_
        obtain ⟨v18, μ16, h17, hf⟩ := bd2_eq hf
        refine r_callVI (Ok.le hX (by omega)) (c_sr_digit (d := d)  h17) cv_X9_72 (w_76 _ _ _) rfl rfl (st := []) rfl rfl rfl dX9_readPerson_49 (fun dy => ?_)
        refine r_istore_n hX dX9_readPerson_52 rfl (ls' := [(3, .int v18), (2, .int v9), (1, .int v4), (0, .ref (gA (xG X) 76))]) rfl ?_
        refine r_iload_n hX dX9_readPerson_53 0 rfl ?_
        refine r_if_ge hX 59 dX9_readPerson_54 rfl (fun hc19 => ?_) (fun hc19 => ?_)
        · rw [if_pos hc19] at hf
          refine r_aload_n hX dX9_readPerson_59 3 rfl ?_
          refine r_bipush hX (33 : Int32) dX9_readPerson_60 rfl ?_
          obtain ⟨v22, μ20, h21, hf⟩ := bd2_eq hf
          refine r_callVI (Ok.le hX (by omega)) (c_sr_take (d := d)  h21) cv_X9_55 (w_76 _ _ _) rfl rfl (st := []) rfl rfl rfl dX9_readPerson_62 (fun dy => ?_)
          refine r_istore hX dX9_readPerson_65 rfl (ls' := [(4, .int v22), (3, .int v18), (2, .int v9), (1, .int v4), (0, .ref (gA (xG X) 76))]) rfl ?_
          refine r_aload_n hX dX9_readPerson_67 4 rfl ?_
          refine r_dup hX dX9_readPerson_68 rfl ?_
          refine r_get hX fl_X9_45 (w_76 _ _ _) rfl dX9_readPerson_69 ?_
          refine r_iconst hX (1 : Int32) dX9_readPerson_72 rfl ?_
          refine r_iadd hX dX9_readPerson_73 ?_
          obtain ⟨μ23, e24, hf⟩ := bnd_eq hf
          refine r_put hX fl_X9_45 ft_X9_5 (w_76 _ _ _) rfl rfl rfl (s_76_5 _ _ _ _) e24 rfl dX9_readPerson_74 ?_
          refine r_aload_n hX dX9_readPerson_77 4 rfl ?_
          refine r_get hX fl_X9_36 (w_76 _ _ _) rfl dX9_readPerson_78 ?_
          refine r_if_eq hX 96 dX9_readPerson_81 rfl (fun hc25 => ?_) (fun hc25 => ?_)
          · rw [if_pos hc25] at hf
            refine r_iconst hX (1 : Int32) dX9_readPerson_96 rfl ?_
            obtain ⟨b26, hf⟩ := chk_eq hf
            exact fin_Z hf hr _ _ _ (zb_nar b26) dX9_readPerson_97
          · rw [if_neg hc25] at hf
            refine r_aload_n hX dX9_readPerson_84 4 rfl ?_
            refine r_get hX fl_X9_9 (w_76 _ _ _) rfl dX9_readPerson_85 ?_
            refine r_iload_n hX dX9_readPerson_88 3 rfl ?_
            refine r_iload_n hX dX9_readPerson_89 2 rfl ?_
            refine r_iload_n hX dX9_readPerson_90 1 rfl ?_
            refine r_iload hX dX9_readPerson_91 0 rfl ?_
            obtain ⟨μ27, h28, hf⟩ := bd1_eq hf
            refine r_callVV (Ok.le hX (by omega)) (c_st_welcome (d := d)  h28) cv_X9_75 (w_4 _ _ _) rfl rfl (st := []) rfl rfl rfl dX9_readPerson_93 (fun dy => ?_)
            refine r_iconst hX (1 : Int32) dX9_readPerson_96 rfl ?_
            obtain ⟨b29, hf⟩ := chk_eq hf
            exact fin_Z hf hr _ _ _ (zb_nar b29) dX9_readPerson_97
        · rw [if_neg hc19] at hf
          refine r_iconst hX (0 : Int32) dX9_readPerson_57 rfl ?_
          obtain ⟨b30, hf⟩ := chk_eq hf
          exact fin_Z hf hr _ _ _ (zb_nar b30) dX9_readPerson_58
      · rw [if_pos hc15] at hf
        refine r_iconst hX (0 : Int32) dX9_readPerson_46 rfl ?_
        obtain ⟨b31, hf⟩ := chk_eq hf
        exact fin_Z hf hr _ _ _ (zb_nar b31) dX9_readPerson_47
  · rw [if_neg hc1] at hf
    refine r_iconst hX (0 : Int32) dX9_readPerson_9 rfl ?_
    obtain ⟨b32, hf⟩ := chk_eq hf
    exact fin_Z hf hr _ _ _ (zb_nar b32) dX9_readPerson_10
theorem dX9_someoneBut_0 : decode cX9_someoneBut 0 = .ok (.aload_n 0, 1) := by decide +kernel
theorem dX9_someoneBut_1 : decode cX9_someoneBut 1 = .ok (.invokevirtual 68, 3) := by decide +kernel
theorem dX9_someoneBut_4 : decode cX9_someoneBut 4 = .ok (.istore_n 2, 1) := by decide +kernel
theorem dX9_someoneBut_5 : decode cX9_someoneBut 5 = .ok (.iload_n 2, 1) := by decide +kernel
theorem dX9_someoneBut_6 : decode cX9_someoneBut 6 = .ok (.aload_n 0, 1) := by decide +kernel
theorem dX9_someoneBut_7 : decode cX9_someoneBut 7 = .ok (.getfield 45, 3) := by decide +kernel
theorem dX9_someoneBut_10 : decode cX9_someoneBut 10 = .ok (.if_icmp .ge 12, 3) := by decide +kernel
theorem dX9_someoneBut_13 : decode cX9_someoneBut 13 = .ok (.iload_n 2, 1) := by decide +kernel
theorem dX9_someoneBut_14 : decode cX9_someoneBut 14 = .ok (.ifCond .lt 20, 3) := by decide +kernel
theorem dX9_someoneBut_17 : decode cX9_someoneBut 17 = .ok (.iload_n 2, 1) := by decide +kernel
theorem dX9_someoneBut_18 : decode cX9_someoneBut 18 = .ok (.iload_n 1, 1) := by decide +kernel
theorem dX9_someoneBut_19 : decode cX9_someoneBut 19 = .ok (.if_icmp .ne 15, 3) := by decide +kernel
theorem dX9_someoneBut_22 : decode cX9_someoneBut 22 = .ok (.aload_n 0, 1) := by decide +kernel
theorem dX9_someoneBut_23 : decode cX9_someoneBut 23 = .ok (.dup, 1) := by decide +kernel
theorem dX9_someoneBut_24 : decode cX9_someoneBut 24 = .ok (.getfield 48, 3) := by decide +kernel
theorem dX9_someoneBut_27 : decode cX9_someoneBut 27 = .ok (.iconst 1, 1) := by decide +kernel
theorem dX9_someoneBut_28 : decode cX9_someoneBut 28 = .ok (.isub, 1) := by decide +kernel
theorem dX9_someoneBut_29 : decode cX9_someoneBut 29 = .ok (.putfield 48, 3) := by decide +kernel
theorem dX9_someoneBut_32 : decode cX9_someoneBut 32 = .ok (.iconst (-1), 1) := by decide +kernel
theorem dX9_someoneBut_33 : decode cX9_someoneBut 33 = .ok (.ireturn, 1) := by decide +kernel
theorem dX9_someoneBut_34 : decode cX9_someoneBut 34 = .ok (.iload_n 2, 1) := by decide +kernel
theorem dX9_someoneBut_35 : decode cX9_someoneBut 35 = .ok (.ireturn, 1) := by decide +kernel
set_option maxHeartbeats 4000000 in
set_option maxRecDepth 20000 in
theorem b_sr_someoneBut_b22 {X : Cx} {d : Nat} (hX : Ok M_sr_someoneBut (d + 2) X) {r : Int32 × Mem} (hr : RetI M_sr_someoneBut X r.1 r.2)  (μ : Mem) (dy : Nat → Nat) (hf : f_sr_someoneBut_b22  μ = some r) : AW X 22 [(0, .ref (gA (xG X) 76))] [] μ dy := by
  unfold f_sr_someoneBut_b22 at hf
  refine r_aload_n hX dX9_someoneBut_22 0 rfl ?_
  refine r_dup hX dX9_someoneBut_23 rfl ?_
  refine r_get hX fl_X9_48 (w_76 _ _ _) rfl dX9_someoneBut_24 ?_
  refine r_iconst hX (1 : Int32) dX9_someoneBut_27 rfl ?_
  refine r_isub hX dX9_someoneBut_28 ?_
  obtain ⟨μ5, e6, hf⟩ := bnd_eq hf
  refine r_put hX fl_X9_48 ft_X9_4 (w_76 _ _ _) rfl rfl rfl (s_76_4 _ _ _ _) e6 rfl dX9_someoneBut_29 ?_
  refine r_iconst hX (-1 : Int32) dX9_someoneBut_32 rfl ?_
  exact fin_I hf hr _ _ _ dX9_someoneBut_33
set_option maxHeartbeats 4000000 in
set_option maxRecDepth 20000 in
theorem c_sr_someoneBut {G : Gx} {d : Nat} {x1 : Int32} {μ : Mem} {r : Int32 × Mem} (hf : f_sr_someoneBut x1 μ = some r) : Con G M_sr_someoneBut (d + 2) [.ref (gA G 76), .int x1] μ (some (.int r.1), r.2) := by
  refine Con.ofI ⟨rfl, rfl, Nat.le_of_ble_eq_true rfl⟩ rfl rfl (fun X hG hX hr dy => ?_)
  subst hG
  show AW X 0 [(0, .ref (gA (xG X) 76)), (1, .int x1)] [] μ dy
  unfold f_sr_someoneBut at hf
  refine r_aload_n hX dX9_someoneBut_0 0 rfl ?_
  obtain ⟨v3, μ1, h2, hf⟩ := bd2_eq hf
  refine r_callVI (Ok.le hX (by omega)) (c_sr_number (d := d)  h2) cv_X9_68 (w_76 _ _ _) rfl rfl (st := []) rfl rfl rfl dX9_someoneBut_1 (fun dy => ?_)
  refine r_istore_n hX dX9_someoneBut_4 rfl (ls' := [(2, .int v3), (0, .ref (gA (xG X) 76)), (1, .int x1)]) rfl ?_
  refine r_iload_n hX dX9_someoneBut_5 0 rfl ?_
  refine r_aload_n hX dX9_someoneBut_6 1 rfl ?_
  refine r_get hX fl_X9_45 (w_76 _ _ _) rfl dX9_someoneBut_7 ?_
  refine r_icmp_ge hX 22 dX9_someoneBut_10 rfl (fun hc4 => ?_) (fun hc4 => ?_)
  · rw [if_pos hc4] at hf
    refine r_weak [1] rfl ?_
    exact b_sr_someoneBut_b22 hX hr _ _ hf
  · rw [if_neg hc4] at hf
    refine r_iload_n hX dX9_someoneBut_13 0 rfl ?_
    refine r_if_lt hX 34 dX9_someoneBut_14 rfl (fun hc7 => ?_) (fun hc7 => ?_)
    · rw [if_pos hc7] at hf
      refine r_iload_n hX dX9_someoneBut_34 0 rfl ?_
      exact fin_I hf hr _ _ _ dX9_someoneBut_35
    · rw [if_neg hc7] at hf
      refine r_iload_n hX dX9_someoneBut_17 0 rfl ?_
      refine r_iload_n hX dX9_someoneBut_18 2 rfl ?_
      refine r_icmp_ne hX 34 dX9_someoneBut_19 rfl (fun hc8 => ?_) (fun hc8 => ?_)
      · rw [if_neg hc8] at hf
        refine r_iload_n hX dX9_someoneBut_34 0 rfl ?_
        exact fin_I hf hr _ _ _ dX9_someoneBut_35
      · rw [if_pos hc8] at hf
        refine r_weak [1] rfl ?_
        exact b_sr_someoneBut_b22 hX hr _ _ hf
theorem dX9_readAcquaintance_0 : decode cX9_readAcquaintance 0 = .ok (.aload_n 0, 1) := by decide +kernel
theorem dX9_readAcquaintance_1 : decode cX9_readAcquaintance 1 = .ok (.iconst (-1), 1) := by decide +kernel
theorem dX9_readAcquaintance_2 : decode cX9_readAcquaintance 2 = .ok (.invokevirtual 79, 3) := by decide +kernel
theorem dX9_readAcquaintance_5 : decode cX9_readAcquaintance 5 = .ok (.istore_n 1, 1) := by decide +kernel
theorem dX9_readAcquaintance_6 : decode cX9_readAcquaintance 6 = .ok (.iload_n 1, 1) := by decide +kernel
theorem dX9_readAcquaintance_7 : decode cX9_readAcquaintance 7 = .ok (.ifCond .ge 5, 3) := by decide +kernel
theorem dX9_readAcquaintance_10 : decode cX9_readAcquaintance 10 = .ok (.iconst 0, 1) := by decide +kernel
theorem dX9_readAcquaintance_11 : decode cX9_readAcquaintance 11 = .ok (.ireturn, 1) := by decide +kernel
theorem dX9_readAcquaintance_12 : decode cX9_readAcquaintance 12 = .ok (.aload_n 0, 1) := by decide +kernel
theorem dX9_readAcquaintance_13 : decode cX9_readAcquaintance 13 = .ok (.bipush 45, 2) := by decide +kernel
theorem dX9_readAcquaintance_15 : decode cX9_readAcquaintance 15 = .ok (.invokevirtual 55, 3) := by decide +kernel
theorem dX9_readAcquaintance_18 : decode cX9_readAcquaintance 18 = .ok (.istore_n 2, 1) := by decide +kernel
theorem dX9_readAcquaintance_19 : decode cX9_readAcquaintance 19 = .ok (.iload_n 2, 1) := by decide +kernel
theorem dX9_readAcquaintance_20 : decode cX9_readAcquaintance 20 = .ok (.ifCond .ne 14, 3) := by decide +kernel
theorem dX9_readAcquaintance_23 : decode cX9_readAcquaintance 23 = .ok (.aload_n 0, 1) := by decide +kernel
theorem dX9_readAcquaintance_24 : decode cX9_readAcquaintance 24 = .ok (.bipush 62, 2) := by decide +kernel
theorem dX9_readAcquaintance_26 : decode cX9_readAcquaintance 26 = .ok (.invokevirtual 55, 3) := by decide +kernel
theorem dX9_readAcquaintance_29 : decode cX9_readAcquaintance 29 = .ok (.ifCond .ne 5, 3) := by decide +kernel
theorem dX9_readAcquaintance_32 : decode cX9_readAcquaintance 32 = .ok (.iconst 0, 1) := by decide +kernel
theorem dX9_readAcquaintance_33 : decode cX9_readAcquaintance 33 = .ok (.ireturn, 1) := by decide +kernel
theorem dX9_readAcquaintance_34 : decode cX9_readAcquaintance 34 = .ok (.aload_n 0, 1) := by decide +kernel
theorem dX9_readAcquaintance_35 : decode cX9_readAcquaintance 35 = .ok (.iload_n 1, 1) := by decide +kernel
theorem dX9_readAcquaintance_36 : decode cX9_readAcquaintance 36 = .ok (.invokevirtual 79, 3) := by decide +kernel
theorem dX9_readAcquaintance_39 : decode cX9_readAcquaintance 39 = .ok (.istore_n 3, 1) := by decide +kernel
theorem dX9_readAcquaintance_40 : decode cX9_readAcquaintance 40 = .ok (.iload_n 3, 1) := by decide +kernel
theorem dX9_readAcquaintance_41 : decode cX9_readAcquaintance 41 = .ok (.ifCond .lt 12, 3) := by decide +kernel
theorem dX9_readAcquaintance_44 : decode cX9_readAcquaintance 44 = .ok (.aload_n 0, 1) := by decide +kernel
theorem dX9_readAcquaintance_45 : decode cX9_readAcquaintance 45 = .ok (.bipush 42, 2) := by decide +kernel
theorem dX9_readAcquaintance_47 : decode cX9_readAcquaintance 47 = .ok (.invokevirtual 55, 3) := by decide +kernel
theorem dX9_readAcquaintance_50 : decode cX9_readAcquaintance 50 = .ok (.ifCond .ne 5, 3) := by decide +kernel
theorem dX9_readAcquaintance_53 : decode cX9_readAcquaintance 53 = .ok (.iconst 0, 1) := by decide +kernel
theorem dX9_readAcquaintance_54 : decode cX9_readAcquaintance 54 = .ok (.ireturn, 1) := by decide +kernel
theorem dX9_readAcquaintance_55 : decode cX9_readAcquaintance 55 = .ok (.aload_n 0, 1) := by decide +kernel
theorem dX9_readAcquaintance_56 : decode cX9_readAcquaintance 56 = .ok (.invokevirtual 72, 3) := by decide +kernel
theorem dX9_readAcquaintance_59 : decode cX9_readAcquaintance 59 = .ok (.istore 4, 2) := by decide +kernel
theorem dX9_readAcquaintance_61 : decode cX9_readAcquaintance 61 = .ok (.iload 4, 2) := by decide +kernel
theorem dX9_readAcquaintance_63 : decode cX9_readAcquaintance 63 = .ok (.ifCond .ge 5, 3) := by decide +kernel
theorem dX9_readAcquaintance_66 : decode cX9_readAcquaintance 66 = .ok (.iconst 0, 1) := by decide +kernel
theorem dX9_readAcquaintance_67 : decode cX9_readAcquaintance 67 = .ok (.ireturn, 1) := by decide +kernel
theorem dX9_readAcquaintance_68 : decode cX9_readAcquaintance 68 = .ok (.aload_n 0, 1) := by decide +kernel
theorem dX9_readAcquaintance_69 : decode cX9_readAcquaintance 69 = .ok (.getfield 36, 3) := by decide +kernel
theorem dX9_readAcquaintance_72 : decode cX9_readAcquaintance 72 = .ok (.ifCond .eq 29, 3) := by decide +kernel
theorem dX9_readAcquaintance_75 : decode cX9_readAcquaintance 75 = .ok (.aload_n 0, 1) := by decide +kernel
theorem dX9_readAcquaintance_76 : decode cX9_readAcquaintance 76 = .ok (.getfield 9, 3) := by decide +kernel
theorem dX9_readAcquaintance_79 : decode cX9_readAcquaintance 79 = .ok (.iload_n 3, 1) := by decide +kernel
theorem dX9_readAcquaintance_80 : decode cX9_readAcquaintance 80 = .ok (.iload_n 1, 1) := by decide +kernel
theorem dX9_readAcquaintance_81 : decode cX9_readAcquaintance 81 = .ok (.iload 4, 2) := by decide +kernel
theorem dX9_readAcquaintance_83 : decode cX9_readAcquaintance 83 = .ok (.invokevirtual 83, 3) := by decide +kernel
theorem dX9_readAcquaintance_86 : decode cX9_readAcquaintance 86 = .ok (.iload_n 2, 1) := by decide +kernel
theorem dX9_readAcquaintance_87 : decode cX9_readAcquaintance 87 = .ok (.ifCond .eq 14, 3) := by decide +kernel
theorem dX9_readAcquaintance_90 : decode cX9_readAcquaintance 90 = .ok (.aload_n 0, 1) := by decide +kernel
theorem dX9_readAcquaintance_91 : decode cX9_readAcquaintance 91 = .ok (.getfield 9, 3) := by decide +kernel
theorem dX9_readAcquaintance_94 : decode cX9_readAcquaintance 94 = .ok (.iload_n 1, 1) := by decide +kernel
theorem dX9_readAcquaintance_95 : decode cX9_readAcquaintance 95 = .ok (.iload_n 3, 1) := by decide +kernel
theorem dX9_readAcquaintance_96 : decode cX9_readAcquaintance 96 = .ok (.iload 4, 2) := by decide +kernel
theorem dX9_readAcquaintance_98 : decode cX9_readAcquaintance 98 = .ok (.invokevirtual 83, 3) := by decide +kernel
theorem dX9_readAcquaintance_101 : decode cX9_readAcquaintance 101 = .ok (.iconst 1, 1) := by decide +kernel
theorem dX9_readAcquaintance_102 : decode cX9_readAcquaintance 102 = .ok (.ireturn, 1) := by decide +kernel
set_option maxHeartbeats 4000000 in
set_option maxRecDepth 20000 in
theorem b_sr_readAcquaintance_b34 {X : Cx} {d : Nat} (hX : Ok M_sr_readAcquaintance (d + 3) X) {r : Int32 × Mem} (hr : RetZ M_sr_readAcquaintance X r.1 r.2) (x1 : Int32) (x2 : Int32) (μ : Mem) (dy : Nat → Nat) (hf : f_sr_readAcquaintance_b34 x1 x2 μ = some r) : AW X 34 [(0, .ref (gA (xG X) 76)), (1, .int x1), (2, .int x2)] [] μ dy := by
  unfold f_sr_readAcquaintance_b34 at hf
  refine r_aload_n hX dX9_readAcquaintance_34 0 rfl ?_
  refine r_iload_n hX dX9_readAcquaintance_35 1 rfl ?_
  obtain ⟨v11, μ9, h10, hf⟩ := bd2_eq hf
  refine r_callVI (Ok.le hX (by omega)) (c_sr_someoneBut (d := d)  h10) cv_X9_79 (w_76 _ _ _) rfl rfl (st := []) rfl rfl rfl dX9_readAcquaintance_36 (fun dy => ?_)
  refine r_istore_n hX dX9_readAcquaintance_39 rfl (ls' := [(3, .int v11), (0, .ref (gA (xG X) 76)), (1, .int x1), (2, .int x2)]) rfl ?_
  refine r_iload_n hX dX9_readAcquaintance_40 0 rfl ?_
  refine r_if_lt hX 53 dX9_readAcquaintance_41 rfl (fun hc12 => ?_) (fun hc12 => ?_)
  · rw [if_pos hc12] at hf
    refine r_iconst hX (0 : Int32) dX9_readAcquaintance_53 rfl ?_
    obtain ⟨b13, hf⟩ := chk_eq hf
    exact fin_Z hf hr _ _ _ (zb_nar b13) dX9_readAcquaintance_54
  · rw [if_neg hc12] at hf
    refine r_aload_n hX dX9_readAcquaintance_44 1 rfl ?_
    refine r_bipush hX (42 : Int32) dX9_readAcquaintance_45 rfl ?_
    obtain ⟨v16, μ14, h15, hf⟩ := bd2_eq hf
    refine r_callVI (Ok.le hX (by omega)) (c_sr_take (d := d)  h15) cv_X9_55 (w_76 _ _ _) rfl rfl (st := []) rfl rfl rfl dX9_readAcquaintance_47 (fun dy => ?_)
    refine r_if_ne hX 55 dX9_readAcquaintance_50 rfl (fun hc17 => ?_) (fun hc17 => ?_)
    · rw [if_neg hc17] at hf
      refine r_aload_n hX dX9_readAcquaintance_55 1 rfl ?_
      obtain ⟨v20, μ18, h19, hf⟩ := bd2_eq hf
      refine r_callVI (Ok.le hX (by omega)) (c_sr_digit (d := d)  h19) cv_X9_72 (w_76 _ _ _) rfl rfl (st := []) rfl rfl rfl dX9_readAcquaintance_56 (fun dy => ?_)
      refine r_istore hX dX9_readAcquaintance_59 rfl (ls' := [(4, .int v20), (3, .int v11), (0, .ref (gA (xG X) 76)), (1, .int x1), (2, .int x2)]) rfl ?_
      refine r_iload hX dX9_readAcquaintance_61 0 rfl ?_
      refine r_if_ge hX 68 dX9_readAcquaintance_63 rfl (fun hc21 => ?_) (fun hc21 => ?_)
      · rw [if_pos hc21] at hf
        refine r_aload_n hX dX9_readAcquaintance_68 2 rfl ?_
        refine r_get hX fl_X9_36 (w_76 _ _ _) rfl dX9_readAcquaintance_69 ?_
        refine r_if_eq hX 101 dX9_readAcquaintance_72 rfl (fun hc22 => ?_) (fun hc22 => ?_)
        · rw [if_pos hc22] at hf
          refine r_iconst hX (1 : Int32) dX9_readAcquaintance_101 rfl ?_
          obtain ⟨b23, hf⟩ := chk_eq hf
          exact fin_Z hf hr _ _ _ (zb_nar b23) dX9_readAcquaintance_102
        · rw [if_neg hc22] at hf
          refine r_aload_n hX dX9_readAcquaintance_75 2 rfl ?_
          refine r_get hX fl_X9_9 (w_76 _ _ _) rfl dX9_readAcquaintance_76 ?_
          refine r_iload_n hX dX9_readAcquaintance_79 1 rfl ?_
          refine r_iload_n hX dX9_readAcquaintance_80 3 rfl ?_
          refine r_iload hX dX9_readAcquaintance_81 0 rfl ?_
          obtain ⟨μ24, h25, hf⟩ := bd1_eq hf
          refine r_callVV (Ok.le hX (by omega)) (c_st_putLoud (d := d)  h25) cv_X9_83 (w_4 _ _ _) rfl rfl (st := []) rfl rfl rfl dX9_readAcquaintance_83 (fun dy => ?_)
          refine r_iload_n hX dX9_readAcquaintance_86 4 rfl ?_
          refine r_if_eq hX 101 dX9_readAcquaintance_87 rfl (fun hc26 => ?_) (fun hc26 => ?_)
          · rw [if_pos hc26] at hf
            refine r_iconst hX (1 : Int32) dX9_readAcquaintance_101 rfl ?_
            obtain ⟨b27, hf⟩ := chk_eq hf
            exact fin_Z hf hr _ _ _ (zb_nar b27) dX9_readAcquaintance_102
          · rw [if_neg hc26] at hf
            refine r_aload_n hX dX9_readAcquaintance_90 2 rfl ?_
            refine r_get hX fl_X9_9 (w_76 _ _ _) rfl dX9_readAcquaintance_91 ?_
            refine r_iload_n hX dX9_readAcquaintance_94 3 rfl ?_
            refine r_iload_n hX dX9_readAcquaintance_95 1 rfl ?_
            refine r_iload hX dX9_readAcquaintance_96 0 rfl ?_
            obtain ⟨μ28, h29, hf⟩ := bd1_eq hf
            refine r_callVV (Ok.le hX (by omega)) (c_st_putLoud (d := d)  h29) cv_X9_83 (w_4 _ _ _) rfl rfl (st := []) rfl rfl rfl dX9_readAcquaintance_98 (fun dy => ?_)
            refine r_iconst hX (1 : Int32) dX9_readAcquaintance_101 rfl ?_
            obtain ⟨b30, hf⟩ := chk_eq hf
            exact fin_Z hf hr _ _ _ (zb_nar b30) dX9_readAcquaintance_102
      · rw [if_neg hc21] at hf
        refine r_iconst hX (0 : Int32) dX9_readAcquaintance_66 rfl ?_
        obtain ⟨b31, hf⟩ := chk_eq hf
        exact fin_Z hf hr _ _ _ (zb_nar b31) dX9_readAcquaintance_67
    · rw [if_pos hc17] at hf
      refine r_iconst hX (0 : Int32) dX9_readAcquaintance_53 rfl ?_
      obtain ⟨b32, hf⟩ := chk_eq hf
      exact fin_Z hf hr _ _ _ (zb_nar b32) dX9_readAcquaintance_54
set_option maxHeartbeats 4000000 in
set_option maxRecDepth 20000 in
theorem c_sr_readAcquaintance {G : Gx} {d : Nat}  {μ : Mem} {r : Int32 × Mem} (hf : f_sr_readAcquaintance  μ = some r) : Con G M_sr_readAcquaintance (d + 3) [.ref (gA G 76)] μ (some (.int r.1), r.2) := by
  refine Con.ofZ ⟨rfl, rfl, Nat.le_of_ble_eq_true rfl⟩ rfl (fun X hG hX hr dy => ?_)
  subst hG
  show AW X 0 [(0, .ref (gA (xG X) 76))] [] μ dy
  unfold f_sr_readAcquaintance at hf
  refine r_aload_n hX dX9_readAcquaintance_0 0 rfl ?_
  refine r_iconst hX (-1 : Int32) dX9_readAcquaintance_1 rfl ?_
  obtain ⟨v3, μ1, h2, hf⟩ := bd2_eq hf
  refine r_callVI (Ok.le hX (by omega)) (c_sr_someoneBut (d := d)  h2) cv_X9_79 (w_76 _ _ _) rfl rfl (st := []) rfl rfl rfl dX9_readAcquaintance_2 (fun dy => ?_)
  refine r_istore_n hX dX9_readAcquaintance_5 rfl (ls' := [(1, .int v3), (0, .ref (gA (xG X) 76))]) rfl ?_
  refine r_iload_n hX dX9_readAcquaintance_6 0 rfl ?_
  refine r_if_ge hX 12 dX9_readAcquaintance_7 rfl (fun hc4 => ?_) (fun hc4 => ?_)
  · rw [if_pos hc4] at hf
    refine r_aload_n hX dX9_readAcquaintance_12 1 rfl ?_
    refine r_bipush hX (45 : Int32) dX9_readAcquaintance_13 rfl ?_
    obtain ⟨v7, μ5, h6, hf⟩ := bd2_eq hf
    refine r_callVI (Ok.le hX (by omega)) (c_sr_take (d := d)  h6) cv_X9_55 (w_76 _ _ _) rfl rfl (st := []) rfl rfl rfl dX9_readAcquaintance_15 (fun dy => ?_)
    refine r_istore_n hX dX9_readAcquaintance_18 rfl (ls' := [(2, .int v7), (1, .int v3), (0, .ref (gA (xG X) 76))]) rfl ?_
    refine r_iload_n hX dX9_readAcquaintance_19 0 rfl ?_
    refine r_if_ne hX 34 dX9_readAcquaintance_20 rfl (fun hc8 => ?_) (fun hc8 => ?_)
    · rw [if_neg hc8] at hf
      refine r_weak [2, 1, 0] rfl ?_
      exact b_sr_readAcquaintance_b34 hX hr _ _ _ _ hf
    · rw [if_pos hc8] at hf
      refine r_aload_n hX dX9_readAcquaintance_23 2 rfl ?_
      refine r_bipush hX (62 : Int32) dX9_readAcquaintance_24 rfl ?_
      obtain ⟨v35, μ33, h34, hf⟩ := bd2_eq hf
      refine r_callVI (Ok.le hX (by omega)) (c_sr_take (d := d)  h34) cv_X9_55 (w_76 _ _ _) rfl rfl (st := []) rfl rfl rfl dX9_readAcquaintance_26 (fun dy => ?_)
      refine r_if_ne hX 34 dX9_readAcquaintance_29 rfl (fun hc36 => ?_) (fun hc36 => ?_)
      · rw [if_neg hc36] at hf
        refine r_weak [2, 1, 0] rfl ?_
        exact b_sr_readAcquaintance_b34 hX hr _ _ _ _ hf
      · rw [if_pos hc36] at hf
        refine r_iconst hX (0 : Int32) dX9_readAcquaintance_32 rfl ?_
        obtain ⟨b37, hf⟩ := chk_eq hf
        exact fin_Z hf hr _ _ _ (zb_nar b37) dX9_readAcquaintance_33
  · rw [if_neg hc4] at hf
    refine r_iconst hX (0 : Int32) dX9_readAcquaintance_10 rfl ?_
    obtain ⟨b38, hf⟩ := chk_eq hf
    exact fin_Z hf hr _ _ _ (zb_nar b38) dX9_readAcquaintance_11
theorem dX9_readLine_0 : decode cX9_readLine 0 = .ok (.aload_n 0, 1) := by decide +kernel
theorem dX9_readLine_1 : decode cX9_readLine 1 = .ok (.bipush 98, 2) := by decide +kernel
theorem dX9_readLine_3 : decode cX9_readLine 3 = .ok (.invokevirtual 59, 3) := by decide +kernel
theorem dX9_readLine_6 : decode cX9_readLine 6 = .ok (.ifCond .ne 12, 3) := by decide +kernel
theorem dX9_readLine_9 : decode cX9_readLine 9 = .ok (.aload_n 0, 1) := by decide +kernel
theorem dX9_readLine_10 : decode cX9_readLine 10 = .ok (.bipush 110, 2) := by decide +kernel
theorem dX9_readLine_12 : decode cX9_readLine 12 = .ok (.invokevirtual 59, 3) := by decide +kernel
theorem dX9_readLine_15 : decode cX9_readLine 15 = .ok (.ifCond .eq 8, 3) := by decide +kernel
theorem dX9_readLine_18 : decode cX9_readLine 18 = .ok (.aload_n 0, 1) := by decide +kernel
theorem dX9_readLine_19 : decode cX9_readLine 19 = .ok (.invokevirtual 62, 3) := by decide +kernel
theorem dX9_readLine_22 : decode cX9_readLine 22 = .ok (.ireturn, 1) := by decide +kernel
theorem dX9_readLine_23 : decode cX9_readLine 23 = .ok (.aload_n 0, 1) := by decide +kernel
theorem dX9_readLine_24 : decode cX9_readLine 24 = .ok (.invokevirtual 65, 3) := by decide +kernel
theorem dX9_readLine_27 : decode cX9_readLine 27 = .ok (.ireturn, 1) := by decide +kernel
set_option maxHeartbeats 4000000 in
set_option maxRecDepth 20000 in
theorem b_sr_readLine_b18 {X : Cx} {d : Nat} (hX : Ok M_sr_readLine (d + 4) X) {r : Int32 × Mem} (hr : RetZ M_sr_readLine X r.1 r.2)  (μ : Mem) (dy : Nat → Nat) (hf : f_sr_readLine_b18  μ = some r) : AW X 18 [(0, .ref (gA (xG X) 76))] [] μ dy := by
  unfold f_sr_readLine_b18 at hf
  refine r_aload_n hX dX9_readLine_18 0 rfl ?_
  obtain ⟨v7, μ5, h6, hf⟩ := bd2_eq hf
  refine r_callVI (Ok.le hX (by omega)) (c_sr_readPerson (d := d)  h6) cv_X9_62 (w_76 _ _ _) rfl rfl (st := []) rfl rfl rfl dX9_readLine_19 (fun dy => ?_)
  obtain ⟨b8, hf⟩ := chk_eq hf
  exact fin_Z hf hr _ _ _ (zb_nar b8) dX9_readLine_22
set_option maxHeartbeats 4000000 in
set_option maxRecDepth 20000 in
theorem c_sr_readLine {G : Gx} {d : Nat}  {μ : Mem} {r : Int32 × Mem} (hf : f_sr_readLine  μ = some r) : Con G M_sr_readLine (d + 4) [.ref (gA G 76)] μ (some (.int r.1), r.2) := by
  refine Con.ofZ ⟨rfl, rfl, Nat.le_of_ble_eq_true rfl⟩ rfl (fun X hG hX hr dy => ?_)
  subst hG
  show AW X 0 [(0, .ref (gA (xG X) 76))] [] μ dy
  unfold f_sr_readLine at hf
  refine r_aload_n hX dX9_readLine_0 0 rfl ?_
  refine r_bipush hX (98 : Int32) dX9_readLine_1 rfl ?_
  obtain ⟨v3, μ1, h2, hf⟩ := bd2_eq hf
  refine r_callVI (Ok.le hX (by omega)) (c_sr_isNext (d := d)  h2) cv_X9_59 (w_76 _ _ _) rfl rfl (st := []) rfl rfl rfl dX9_readLine_3 (fun dy => ?_)
  refine r_if_ne hX 18 dX9_readLine_6 rfl (fun hc4 => ?_) (fun hc4 => ?_)
  · rw [if_neg hc4] at hf
    refine r_weak [0] rfl ?_
    exact b_sr_readLine_b18 hX hr _ _ hf
  · rw [if_pos hc4] at hf
    refine r_aload_n hX dX9_readLine_9 0 rfl ?_
    refine r_bipush hX (110 : Int32) dX9_readLine_10 rfl ?_
    obtain ⟨v11, μ9, h10, hf⟩ := bd2_eq hf
    refine r_callVI (Ok.le hX (by omega)) (c_sr_isNext (d := d)  h10) cv_X9_59 (w_76 _ _ _) rfl rfl (st := []) rfl rfl rfl dX9_readLine_12 (fun dy => ?_)
    refine r_if_eq hX 23 dX9_readLine_15 rfl (fun hc12 => ?_) (fun hc12 => ?_)
    · rw [if_pos hc12] at hf
      refine r_aload_n hX dX9_readLine_23 0 rfl ?_
      obtain ⟨v15, μ13, h14, hf⟩ := bd2_eq hf
      refine r_callVI (Ok.le hX (by omega)) (c_sr_readAcquaintance (d := d)  h14) cv_X9_65 (w_76 _ _ _) rfl rfl (st := []) rfl rfl rfl dX9_readLine_24 (fun dy => ?_)
      obtain ⟨b16, hf⟩ := chk_eq hf
      exact fin_Z hf hr _ _ _ (zb_nar b16) dX9_readLine_27
    · rw [if_neg hc12] at hf
      refine r_weak [0] rfl ?_
      exact b_sr_readLine_b18 hX hr _ _ hf
theorem dX9_readLines_0 : decode cX9_readLines 0 = .ok (.aload_n 0, 1) := by decide +kernel
theorem dX9_readLines_1 : decode cX9_readLines 1 = .ok (.iload_n 1, 1) := by decide +kernel
theorem dX9_readLines_2 : decode cX9_readLines 2 = .ok (.putfield 36, 3) := by decide +kernel
theorem dX9_readLines_5 : decode cX9_readLines 5 = .ok (.aload_n 0, 1) := by decide +kernel
theorem dX9_readLines_6 : decode cX9_readLines 6 = .ok (.aload_n 0, 1) := by decide +kernel
theorem dX9_readLines_7 : decode cX9_readLines 7 = .ok (.getfield 9, 3) := by decide +kernel
theorem dX9_readLines_10 : decode cX9_readLines 10 = .ok (.getfield 40, 3) := by decide +kernel
theorem dX9_readLines_13 : decode cX9_readLines 13 = .ok (.putfield 45, 3) := by decide +kernel
theorem dX9_readLines_16 : decode cX9_readLines 16 = .ok (.aload_n 0, 1) := by decide +kernel
theorem dX9_readLines_17 : decode cX9_readLines 17 = .ok (.iconst 0, 1) := by decide +kernel
theorem dX9_readLines_18 : decode cX9_readLines 18 = .ok (.putfield 48, 3) := by decide +kernel
theorem dX9_readLines_21 : decode cX9_readLines 21 = .ok (.iconst 1, 1) := by decide +kernel
theorem dX9_readLines_22 : decode cX9_readLines 22 = .ok (.istore_n 2, 1) := by decide +kernel
theorem dX9_readLines_23 : decode cX9_readLines 23 = .ok (.iload_n 2, 1) := by decide +kernel
theorem dX9_readLines_24 : decode cX9_readLines 24 = .ok (.aload_n 0, 1) := by decide +kernel
theorem dX9_readLines_25 : decode cX9_readLines 25 = .ok (.getfield 29, 3) := by decide +kernel
theorem dX9_readLines_28 : decode cX9_readLines 28 = .ok (.if_icmp .gt 72, 3) := by decide +kernel
theorem dX9_readLines_31 : decode cX9_readLines 31 = .ok (.aload_n 0, 1) := by decide +kernel
theorem dX9_readLines_32 : decode cX9_readLines 32 = .ok (.invokevirtual 51, 3) := by decide +kernel
theorem dX9_readLines_35 : decode cX9_readLines 35 = .ok (.ifCond .ne 10, 3) := by decide +kernel
theorem dX9_readLines_38 : decode cX9_readLines 38 = .ok (.iconst (-1), 1) := by decide +kernel
theorem dX9_readLines_39 : decode cX9_readLines 39 = .ok (.aload_n 0, 1) := by decide +kernel
theorem dX9_readLines_40 : decode cX9_readLines 40 = .ok (.getfield 48, 3) := by decide +kernel
theorem dX9_readLines_43 : decode cX9_readLines 43 = .ok (.isub, 1) := by decide +kernel
theorem dX9_readLines_44 : decode cX9_readLines 44 = .ok (.ireturn, 1) := by decide +kernel
theorem dX9_readLines_45 : decode cX9_readLines 45 = .ok (.aload_n 0, 1) := by decide +kernel
theorem dX9_readLines_46 : decode cX9_readLines 46 = .ok (.getfield 48, 3) := by decide +kernel
theorem dX9_readLines_49 : decode cX9_readLines 49 = .ok (.aload_n 0, 1) := by decide +kernel
theorem dX9_readLines_50 : decode cX9_readLines 50 = .ok (.getfield 29, 3) := by decide +kernel
theorem dX9_readLines_53 : decode cX9_readLines 53 = .ok (.if_icmp .lt 25, 3) := by decide +kernel
theorem dX9_readLines_56 : decode cX9_readLines 56 = .ok (.aload_n 0, 1) := by decide +kernel
theorem dX9_readLines_57 : decode cX9_readLines 57 = .ok (.getfield 19, 3) := by decide +kernel
theorem dX9_readLines_60 : decode cX9_readLines 60 = .ok (.aload_n 0, 1) := by decide +kernel
theorem dX9_readLines_61 : decode cX9_readLines 61 = .ok (.getfield 29, 3) := by decide +kernel
theorem dX9_readLines_64 : decode cX9_readLines 64 = .ok (.if_icmp .le 12, 3) := by decide +kernel
theorem dX9_readLines_67 : decode cX9_readLines 67 = .ok (.iconst (-1), 1) := by decide +kernel
theorem dX9_readLines_68 : decode cX9_readLines 68 = .ok (.aload_n 0, 1) := by decide +kernel
theorem dX9_readLines_69 : decode cX9_readLines 69 = .ok (.getfield 29, 3) := by decide +kernel
theorem dX9_readLines_72 : decode cX9_readLines 72 = .ok (.isub, 1) := by decide +kernel
theorem dX9_readLines_73 : decode cX9_readLines 73 = .ok (.goto 4, 3) := by decide +kernel
theorem dX9_readLines_76 : decode cX9_readLines 76 = .ok (.iload_n 2, 1) := by decide +kernel
theorem dX9_readLines_77 : decode cX9_readLines 77 = .ok (.ireturn, 1) := by decide +kernel
theorem dX9_readLines_78 : decode cX9_readLines 78 = .ok (.aload_n 0, 1) := by decide +kernel
theorem dX9_readLines_79 : decode cX9_readLines 79 = .ok (.bipush 59, 2) := by decide +kernel
theorem dX9_readLines_81 : decode cX9_readLines 81 = .ok (.invokevirtual 55, 3) := by decide +kernel
theorem dX9_readLines_84 : decode cX9_readLines 84 = .ok (.ifCond .ne 10, 3) := by decide +kernel
theorem dX9_readLines_87 : decode cX9_readLines 87 = .ok (.iconst (-1), 1) := by decide +kernel
theorem dX9_readLines_88 : decode cX9_readLines 88 = .ok (.aload_n 0, 1) := by decide +kernel
theorem dX9_readLines_89 : decode cX9_readLines 89 = .ok (.getfield 48, 3) := by decide +kernel
theorem dX9_readLines_92 : decode cX9_readLines 92 = .ok (.isub, 1) := by decide +kernel
theorem dX9_readLines_93 : decode cX9_readLines 93 = .ok (.ireturn, 1) := by decide +kernel
theorem dX9_readLines_94 : decode cX9_readLines 94 = .ok (.iinc 2 1, 3) := by decide +kernel
theorem dX9_readLines_97 : decode cX9_readLines 97 = .ok (.goto (-74), 3) := by decide +kernel
theorem dX9_readLines_100 : decode cX9_readLines 100 = .ok (.iconst (-1), 1) := by decide +kernel
theorem dX9_readLines_101 : decode cX9_readLines 101 = .ok (.aload_n 0, 1) := by decide +kernel
theorem dX9_readLines_102 : decode cX9_readLines 102 = .ok (.getfield 48, 3) := by decide +kernel
theorem dX9_readLines_105 : decode cX9_readLines 105 = .ok (.isub, 1) := by decide +kernel
theorem dX9_readLines_106 : decode cX9_readLines 106 = .ok (.ireturn, 1) := by decide +kernel
set_option maxHeartbeats 4000000 in
set_option maxRecDepth 20000 in
theorem b_sr_readLines_b23 {X : Cx} {d : Nat} (hX : Ok M_sr_readLines (d + 5) X) {r : Int32 × Mem} (hr : RetI M_sr_readLines X r.1 r.2) : ∀ (n : Nat) (x2 : Int32) (μ : Mem) (dy : Nat → Nat), f_sr_readLines_b23 n x2 μ = some r → AW X 23 [(0, .ref (gA (xG X) 76)), (2, .int x2)] [] μ dy := by
  intro n
  induction n with
  | zero => intro x2 μ dy hf; exact nomatch hf
  | succ n ih =>
    intro x2 μ dy hf
    rw [f_sr_readLines_b23] at hf
    refine r_iload_n hX dX9_readLines_23 1 rfl ?_
    refine r_aload_n hX dX9_readLines_24 0 rfl ?_
    refine r_get hX fl_X9_29 (w_76 _ _ _) rfl dX9_readLines_25 ?_
    refine r_icmp_gt hX 100 dX9_readLines_28 rfl (fun hc8 => ?_) (fun hc8 => ?_)
    · rw [if_pos hc8] at hf
      refine r_iconst hX (-1 : Int32) dX9_readLines_100 rfl ?_
      refine r_aload_n hX dX9_readLines_101 0 rfl ?_
      refine r_get hX fl_X9_48 (w_76 _ _ _) rfl dX9_readLines_102 ?_
      refine r_isub hX dX9_readLines_105 ?_
      exact fin_I hf hr _ _ _ dX9_readLines_106
    · rw [if_neg hc8] at hf
      refine r_aload_n hX dX9_readLines_31 0 rfl ?_
      obtain ⟨v11, μ9, h10, hf⟩ := bd2_eq hf
      refine r_callVI (Ok.le hX (by omega)) (c_sr_readLine (d := d)  h10) cv_X9_51 (w_76 _ _ _) rfl rfl (st := []) rfl rfl rfl dX9_readLines_32 (fun dy => ?_)
      refine r_if_ne hX 45 dX9_readLines_35 rfl (fun hc12 => ?_) (fun hc12 => ?_)
      · rw [if_neg hc12] at hf
        refine r_aload_n hX dX9_readLines_45 0 rfl ?_
        refine r_get hX fl_X9_48 (w_76 _ _ _) rfl dX9_readLines_46 ?_
        refine r_aload_n hX dX9_readLines_49 0 rfl ?_
        refine r_get hX fl_X9_29 (w_76 _ _ _) rfl dX9_readLines_50 ?_
        refine r_icmp_lt hX 78 dX9_readLines_53 rfl (fun hc13 => ?_) (fun hc13 => ?_)
        · rw [if_pos hc13] at hf
          refine r_aload_n hX dX9_readLines_78 0 rfl ?_
          refine r_bipush hX (59 : Int32) dX9_readLines_79 rfl ?_
          obtain ⟨v16, μ14, h15, hf⟩ := bd2_eq hf
          refine r_callVI (Ok.le hX (by omega)) (c_sr_take (d := d)  h15) cv_X9_55 (w_76 _ _ _) rfl rfl (st := []) rfl rfl rfl dX9_readLines_81 (fun dy => ?_)
          refine r_if_ne hX 94 dX9_readLines_84 rfl (fun hc17 => ?_) (fun hc17 => ?_)
          · rw [if_neg hc17] at hf
            refine r_iinc hX (x2 + (1 : Int32)) dX9_readLines_94 1 rfl rfl rfl (ls' := [(2, .int (x2 + (1 : Int32))), (0, .ref (gA (xG X) 76))]) rfl ?_
            refine r_goto hX 23 dX9_readLines_97 rfl ?_
            refine r_weak [1, 0] rfl ?_
            exact ih _ _ _ hf
          · rw [if_pos hc17] at hf
            refine r_iconst hX (-1 : Int32) dX9_readLines_87 rfl ?_
            refine r_aload_n hX dX9_readLines_88 0 rfl ?_
            refine r_get hX fl_X9_48 (w_76 _ _ _) rfl dX9_readLines_89 ?_
            refine r_isub hX dX9_readLines_92 ?_
            exact fin_I hf hr _ _ _ dX9_readLines_93
        · rw [if_neg hc13] at hf
          refine r_aload_n hX dX9_readLines_56 0 rfl ?_
          refine r_get hX fl_X9_19 (w_76 _ _ _) rfl dX9_readLines_57 ?_
          refine r_aload_n hX dX9_readLines_60 0 rfl ?_
          refine r_get hX fl_X9_29 (w_76 _ _ _) rfl dX9_readLines_61 ?_
          obtain ⟨v18, e19, hf⟩ := bnd_eq hf
          have J20 : AW X 77 [(0, .ref (gA (xG X) 76)), (2, .int x2)] [.int v18] μ9 dy := by
            exact fin_I hf hr _ _ _ dX9_readLines_77
          refine r_icmp_le hX 76 dX9_readLines_64 rfl (fun hc21 => ?_) (fun hc21 => ?_)
          · refine r_iload_n hX dX9_readLines_76 1 rfl ?_
            exact r_topI (e19.trans (by rw [if_pos hc21])) J20
          · refine r_iconst hX (-1 : Int32) dX9_readLines_67 rfl ?_
            refine r_aload_n hX dX9_readLines_68 0 rfl ?_
            refine r_get hX fl_X9_29 (w_76 _ _ _) rfl dX9_readLines_69 ?_
            refine r_isub hX dX9_readLines_72 ?_
            refine r_goto hX 77 dX9_readLines_73 rfl ?_
            exact r_topI (e19.trans (by rw [if_neg hc21])) J20
      · rw [if_pos hc12] at hf
        refine r_iconst hX (-1 : Int32) dX9_readLines_38 rfl ?_
        refine r_aload_n hX dX9_readLines_39 0 rfl ?_
        refine r_get hX fl_X9_48 (w_76 _ _ _) rfl dX9_readLines_40 ?_
        refine r_isub hX dX9_readLines_43 ?_
        exact fin_I hf hr _ _ _ dX9_readLines_44
set_option maxHeartbeats 4000000 in
set_option maxRecDepth 20000 in
theorem c_sr_readLines {G : Gx} {d : Nat} {x1 : Int32} {μ : Mem} {r : Int32 × Mem} (hf : f_sr_readLines x1 μ = some r) : Con G M_sr_readLines (d + 5) [.ref (gA G 76), .int x1] μ (some (.int r.1), r.2) := by
  refine Con.ofI ⟨rfl, rfl, Nat.le_of_ble_eq_true rfl⟩ rfl rfl (fun X hG hX hr dy => ?_)
  subst hG
  show AW X 0 [(0, .ref (gA (xG X) 76)), (1, .int x1)] [] μ dy
  unfold f_sr_readLines at hf
  refine r_aload_n hX dX9_readLines_0 0 rfl ?_
  refine r_iload_n hX dX9_readLines_1 1 rfl ?_
  obtain ⟨b3, hf⟩ := chk_eq hf
  obtain ⟨μ1, e2, hf⟩ := bnd_eq hf
  refine r_put hX fl_X9_36 ft_X9_6 (w_76 _ _ _) rfl (zb_nar b3) (zb_fit b3) (s_76_6 _ _ _ _) e2 rfl dX9_readLines_2 ?_
  refine r_aload_n hX dX9_readLines_5 0 rfl ?_
  refine r_aload_n hX dX9_readLines_6 0 rfl ?_
  refine r_get hX fl_X9_9 (w_76 _ _ _) rfl dX9_readLines_7 ?_
  refine r_getN hX fl_X9_40 (w_4 _ _ _) rfl dX9_readLines_10 ?_
  obtain ⟨μ4, e5, hf⟩ := bnd_eq hf
  refine r_put hX fl_X9_45 ft_X9_5 (w_76 _ _ _) rfl rfl rfl (s_76_5 _ _ _ _) e5 rfl dX9_readLines_13 ?_
  refine r_aload_n hX dX9_readLines_16 0 rfl ?_
  refine r_iconst hX (0 : Int32) dX9_readLines_17 rfl ?_
  obtain ⟨μ6, e7, hf⟩ := bnd_eq hf
  refine r_put hX fl_X9_48 ft_X9_4 (w_76 _ _ _) rfl rfl rfl (s_76_4 _ _ _ _) e7 rfl dX9_readLines_18 ?_
  refine r_iconst hX (1 : Int32) dX9_readLines_21 rfl ?_
  refine r_istore_n hX dX9_readLines_22 rfl (ls' := [(2, .int (1 : Int32)), (0, .ref (gA (xG X) 76)), (1, .int x1)]) rfl ?_
  refine r_weak [1, 0] rfl ?_
  exact b_sr_readLines_b23 hX hr FU _ _ _ hf
