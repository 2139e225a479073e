theorem dX12_hops_0 : decode cX12_hops 0 = .ok (.aload_n 0, 1) := by decide +kernel
theorem dX12_hops_1 : decode cX12_hops 1 = .ok (.iconst 0, 1) := by decide +kernel
theorem dX12_hops_2 : decode cX12_hops 2 = .ok (.putfield 80, 3) := by decide +kernel
theorem dX12_hops_5 : decode cX12_hops 5 = .ok (.aload_n 0, 1) := by decide +kernel
theorem dX12_hops_6 : decode cX12_hops 6 = .ok (.iload_n 1, 1) := by decide +kernel
theorem dX12_hops_7 : decode cX12_hops 7 = .ok (.invokevirtual 157, 3) := by decide +kernel
theorem dX12_hops_10 : decode cX12_hops 10 = .ok (.ifCond .eq 11, 3) := by decide +kernel
theorem dX12_hops_13 : decode cX12_hops 13 = .ok (.aload_n 0, 1) := by decide +kernel
theorem dX12_hops_14 : decode cX12_hops 14 = .ok (.iload_n 2, 1) := by decide +kernel
theorem dX12_hops_15 : decode cX12_hops 15 = .ok (.invokevirtual 157, 3) := by decide +kernel
theorem dX12_hops_18 : decode cX12_hops 18 = .ok (.ifCond .ne 5, 3) := by decide +kernel
theorem dX12_hops_21 : decode cX12_hops 21 = .ok (.iconst (-1), 1) := by decide +kernel
theorem dX12_hops_22 : decode cX12_hops 22 = .ok (.ireturn, 1) := by decide +kernel
theorem dX12_hops_23 : decode cX12_hops 23 = .ok (.iconst 0, 1) := by decide +kernel
theorem dX12_hops_24 : decode cX12_hops 24 = .ok (.istore_n 3, 1) := by decide +kernel
theorem dX12_hops_25 : decode cX12_hops 25 = .ok (.iload_n 3, 1) := by decide +kernel
theorem dX12_hops_26 : decode cX12_hops 26 = .ok (.aload_n 0, 1) := by decide +kernel
theorem dX12_hops_27 : decode cX12_hops 27 = .ok (.getfield 86, 3) := by decide +kernel
theorem dX12_hops_30 : decode cX12_hops 30 = .ok (.if_icmp .ge 26, 3) := by decide +kernel
theorem dX12_hops_33 : decode cX12_hops 33 = .ok (.aload_n 0, 1) := by decide +kernel
theorem dX12_hops_34 : decode cX12_hops 34 = .ok (.getfield 42, 3) := by decide +kernel
theorem dX12_hops_37 : decode cX12_hops 37 = .ok (.iload_n 3, 1) := by decide +kernel
theorem dX12_hops_38 : decode cX12_hops 38 = .ok (.iload_n 3, 1) := by decide +kernel
theorem dX12_hops_39 : decode cX12_hops 39 = .ok (.iload_n 2, 1) := by decide +kernel
theorem dX12_hops_40 : decode cX12_hops 40 = .ok (.if_icmp .ne 7, 3) := by decide +kernel
theorem dX12_hops_43 : decode cX12_hops 43 = .ok (.iconst 0, 1) := by decide +kernel
theorem dX12_hops_44 : decode cX12_hops 44 = .ok (.goto 5, 3) := by decide +kernel
theorem dX12_hops_47 : decode cX12_hops 47 = .ok (.ldc 237, 2) := by decide +kernel
theorem dX12_hops_49 : decode cX12_hops 49 = .ok (.iastore, 1) := by decide +kernel
theorem dX12_hops_50 : decode cX12_hops 50 = .ok (.iinc 3 1, 3) := by decide +kernel
theorem dX12_hops_53 : decode cX12_hops 53 = .ok (.goto (-28), 3) := by decide +kernel
theorem dX12_hops_56 : decode cX12_hops 56 = .ok (.iconst 0, 1) := by decide +kernel
theorem dX12_hops_57 : decode cX12_hops 57 = .ok (.istore_n 3, 1) := by decide +kernel
theorem dX12_hops_58 : decode cX12_hops 58 = .ok (.iload_n 3, 1) := by decide +kernel
theorem dX12_hops_59 : decode cX12_hops 59 = .ok (.aload_n 0, 1) := by decide +kernel
theorem dX12_hops_60 : decode cX12_hops 60 = .ok (.getfield 86, 3) := by decide +kernel
theorem dX12_hops_63 : decode cX12_hops 63 = .ok (.if_icmp .ge 87, 3) := by decide +kernel
theorem dX12_hops_66 : decode cX12_hops 66 = .ok (.iconst 0, 1) := by decide +kernel
theorem dX12_hops_67 : decode cX12_hops 67 = .ok (.istore 4, 2) := by decide +kernel
theorem dX12_hops_69 : decode cX12_hops 69 = .ok (.iload 4, 2) := by decide +kernel
theorem dX12_hops_71 : decode cX12_hops 71 = .ok (.aload_n 0, 1) := by decide +kernel
theorem dX12_hops_72 : decode cX12_hops 72 = .ok (.getfield 86, 3) := by decide +kernel
theorem dX12_hops_75 : decode cX12_hops 75 = .ok (.if_icmp .ge 69, 3) := by decide +kernel
theorem dX12_hops_78 : decode cX12_hops 78 = .ok (.iconst 0, 1) := by decide +kernel
theorem dX12_hops_79 : decode cX12_hops 79 = .ok (.istore 5, 2) := by decide +kernel
theorem dX12_hops_81 : decode cX12_hops 81 = .ok (.iload 5, 2) := by decide +kernel
theorem dX12_hops_83 : decode cX12_hops 83 = .ok (.aload_n 0, 1) := by decide +kernel
theorem dX12_hops_84 : decode cX12_hops 84 = .ok (.getfield 86, 3) := by decide +kernel
theorem dX12_hops_87 : decode cX12_hops 87 = .ok (.if_icmp .ge 51, 3) := by decide +kernel
theorem dX12_hops_90 : decode cX12_hops 90 = .ok (.aload_n 0, 1) := by decide +kernel
theorem dX12_hops_91 : decode cX12_hops 91 = .ok (.getfield 16, 3) := by decide +kernel
theorem dX12_hops_94 : decode cX12_hops 94 = .ok (.bipush 14, 2) := by decide +kernel
theorem dX12_hops_96 : decode cX12_hops 96 = .ok (.iload 5, 2) := by decide +kernel
theorem dX12_hops_98 : decode cX12_hops 98 = .ok (.imul, 1) := by decide +kernel
theorem dX12_hops_99 : decode cX12_hops 99 = .ok (.iload 4, 2) := by decide +kernel
theorem dX12_hops_101 : decode cX12_hops 101 = .ok (.iadd, 1) := by decide +kernel
theorem dX12_hops_102 : decode cX12_hops 102 = .ok (.iaload, 1) := by decide +kernel
theorem dX12_hops_103 : decode cX12_hops 103 = .ok (.ifCond .le 29, 3) := by decide +kernel
theorem dX12_hops_106 : decode cX12_hops 106 = .ok (.aload_n 0, 1) := by decide +kernel
theorem dX12_hops_107 : decode cX12_hops 107 = .ok (.getfield 42, 3) := by decide +kernel
theorem dX12_hops_110 : decode cX12_hops 110 = .ok (.iload 4, 2) := by decide +kernel
theorem dX12_hops_112 : decode cX12_hops 112 = .ok (.aload_n 0, 1) := by decide +kernel
theorem dX12_hops_113 : decode cX12_hops 113 = .ok (.getfield 42, 3) := by decide +kernel
theorem dX12_hops_116 : decode cX12_hops 116 = .ok (.iload 4, 2) := by decide +kernel
theorem dX12_hops_118 : decode cX12_hops 118 = .ok (.iaload, 1) := by decide +kernel
theorem dX12_hops_119 : decode cX12_hops 119 = .ok (.aload_n 0, 1) := by decide +kernel
theorem dX12_hops_120 : decode cX12_hops 120 = .ok (.getfield 42, 3) := by decide +kernel
theorem dX12_hops_123 : decode cX12_hops 123 = .ok (.iload 5, 2) := by decide +kernel
theorem dX12_hops_125 : decode cX12_hops 125 = .ok (.iaload, 1) := by decide +kernel
theorem dX12_hops_126 : decode cX12_hops 126 = .ok (.iconst 1, 1) := by decide +kernel
theorem dX12_hops_127 : decode cX12_hops 127 = .ok (.iadd, 1) := by decide +kernel
theorem dX12_hops_128 : decode cX12_hops 128 = .ok (.invokestatic 175, 3) := by decide +kernel
theorem dX12_hops_131 : decode cX12_hops 131 = .ok (.iastore, 1) := by decide +kernel
theorem dX12_hops_132 : decode cX12_hops 132 = .ok (.iinc 5 1, 3) := by decide +kernel
theorem dX12_hops_135 : decode cX12_hops 135 = .ok (.goto (-54), 3) := by decide +kernel
theorem dX12_hops_138 : decode cX12_hops 138 = .ok (.iinc 4 1, 3) := by decide +kernel
theorem dX12_hops_141 : decode cX12_hops 141 = .ok (.goto (-72), 3) := by decide +kernel
theorem dX12_hops_144 : decode cX12_hops 144 = .ok (.iinc 3 1, 3) := by decide +kernel
theorem dX12_hops_147 : decode cX12_hops 147 = .ok (.goto (-89), 3) := by decide +kernel
theorem dX12_hops_150 : decode cX12_hops 150 = .ok (.aload_n 0, 1) := by decide +kernel
theorem dX12_hops_151 : decode cX12_hops 151 = .ok (.getfield 42, 3) := by decide +kernel
theorem dX12_hops_154 : decode cX12_hops 154 = .ok (.iload_n 1, 1) := by decide +kernel
theorem dX12_hops_155 : decode cX12_hops 155 = .ok (.iaload, 1) := by decide +kernel
theorem dX12_hops_156 : decode cX12_hops 156 = .ok (.ldc 237, 2) := by decide +kernel
theorem dX12_hops_158 : decode cX12_hops 158 = .ok (.if_icmp .lt 6, 3) := by decide +kernel
theorem dX12_hops_161 : decode cX12_hops 161 = .ok (.bipush (-2), 2) := by decide +kernel
theorem dX12_hops_163 : decode cX12_hops 163 = .ok (.ireturn, 1) := by decide +kernel
theorem dX12_hops_164 : decode cX12_hops 164 = .ok (.aload_n 0, 1) := by decide +kernel
theorem dX12_hops_165 : decode cX12_hops 165 = .ok (.iconst 0, 1) := by decide +kernel
theorem dX12_hops_166 : decode cX12_hops 166 = .ok (.putfield 83, 3) := by decide +kernel
theorem dX12_hops_169 : decode cX12_hops 169 = .ok (.iload_n 1, 1) := by decide +kernel
theorem dX12_hops_170 : decode cX12_hops 170 = .ok (.istore_n 3, 1) := by decide +kernel
theorem dX12_hops_171 : decode cX12_hops 171 = .ok (.iconst 1, 1) := by decide +kernel
theorem dX12_hops_172 : decode cX12_hops 172 = .ok (.istore 4, 2) := by decide +kernel
theorem dX12_hops_174 : decode cX12_hops 174 = .ok (.iload 4, 2) := by decide +kernel
theorem dX12_hops_176 : decode cX12_hops 176 = .ok (.aload_n 0, 1) := by decide +kernel
theorem dX12_hops_177 : decode cX12_hops 177 = .ok (.getfield 42, 3) := by decide +kernel
theorem dX12_hops_180 : decode cX12_hops 180 = .ok (.iload_n 1, 1) := by decide +kernel
theorem dX12_hops_181 : decode cX12_hops 181 = .ok (.iaload, 1) := by decide +kernel
theorem dX12_hops_182 : decode cX12_hops 182 = .ok (.if_icmp .ge 61, 3) := by decide +kernel
theorem dX12_hops_185 : decode cX12_hops 185 = .ok (.iconst 0, 1) := by decide +kernel
theorem dX12_hops_186 : decode cX12_hops 186 = .ok (.istore 5, 2) := by decide +kernel
theorem dX12_hops_188 : decode cX12_hops 188 = .ok (.aload_n 0, 1) := by decide +kernel
theorem dX12_hops_189 : decode cX12_hops 189 = .ok (.getfield 16, 3) := by decide +kernel
theorem dX12_hops_192 : decode cX12_hops 192 = .ok (.bipush 14, 2) := by decide +kernel
theorem dX12_hops_194 : decode cX12_hops 194 = .ok (.iload 5, 2) := by decide +kernel
theorem dX12_hops_196 : decode cX12_hops 196 = .ok (.imul, 1) := by decide +kernel
theorem dX12_hops_197 : decode cX12_hops 197 = .ok (.iload_n 3, 1) := by decide +kernel
theorem dX12_hops_198 : decode cX12_hops 198 = .ok (.iadd, 1) := by decide +kernel
theorem dX12_hops_199 : decode cX12_hops 199 = .ok (.iaload, 1) := by decide +kernel
theorem dX12_hops_200 : decode cX12_hops 200 = .ok (.ifCond .eq 21, 3) := by decide +kernel
theorem dX12_hops_203 : decode cX12_hops 203 = .ok (.aload_n 0, 1) := by decide +kernel
theorem dX12_hops_204 : decode cX12_hops 204 = .ok (.getfield 42, 3) := by decide +kernel
theorem dX12_hops_207 : decode cX12_hops 207 = .ok (.iload 5, 2) := by decide +kernel
theorem dX12_hops_209 : decode cX12_hops 209 = .ok (.iaload, 1) := by decide +kernel
theorem dX12_hops_210 : decode cX12_hops 210 = .ok (.aload_n 0, 1) := by decide +kernel
theorem dX12_hops_211 : decode cX12_hops 211 = .ok (.getfield 42, 3) := by decide +kernel
theorem dX12_hops_214 : decode cX12_hops 214 = .ok (.iload_n 3, 1) := by decide +kernel
theorem dX12_hops_215 : decode cX12_hops 215 = .ok (.iaload, 1) := by decide +kernel
theorem dX12_hops_216 : decode cX12_hops 216 = .ok (.iconst 1, 1) := by decide +kernel
theorem dX12_hops_217 : decode cX12_hops 217 = .ok (.isub, 1) := by decide +kernel
theorem dX12_hops_218 : decode cX12_hops 218 = .ok (.if_icmp .eq 9, 3) := by decide +kernel
theorem dX12_hops_221 : decode cX12_hops 221 = .ok (.iinc 5 1, 3) := by decide +kernel
theorem dX12_hops_224 : decode cX12_hops 224 = .ok (.goto (-36), 3) := by decide +kernel
theorem dX12_hops_227 : decode cX12_hops 227 = .ok (.aload_n 0, 1) := by decide +kernel
theorem dX12_hops_228 : decode cX12_hops 228 = .ok (.iload 5, 2) := by decide +kernel
theorem dX12_hops_230 : decode cX12_hops 230 = .ok (.i2l, 1) := by decide +kernel
theorem dX12_hops_231 : decode cX12_hops 231 = .ok (.invokevirtual 217, 3) := by decide +kernel
theorem dX12_hops_234 : decode cX12_hops 234 = .ok (.iload 5, 2) := by decide +kernel
theorem dX12_hops_236 : decode cX12_hops 236 = .ok (.istore_n 3, 1) := by decide +kernel
theorem dX12_hops_237 : decode cX12_hops 237 = .ok (.iinc 4 1, 3) := by decide +kernel
theorem dX12_hops_240 : decode cX12_hops 240 = .ok (.goto (-66), 3) := by decide +kernel
theorem dX12_hops_243 : decode cX12_hops 243 = .ok (.aload_n 0, 1) := by decide +kernel
theorem dX12_hops_244 : decode cX12_hops 244 = .ok (.getfield 42, 3) := by decide +kernel
theorem dX12_hops_247 : decode cX12_hops 247 = .ok (.iload_n 1, 1) := by decide +kernel
theorem dX12_hops_248 : decode cX12_hops 248 = .ok (.iaload, 1) := by decide +kernel
theorem dX12_hops_249 : decode cX12_hops 249 = .ok (.ireturn, 1) := by decide +kernel
set_option maxHeartbeats 4000000 in
set_option maxRecDepth 20000 in
theorem b_m_hops_b188 {X : Cx} {d : Nat} (hX : Ok M_m_hops (d + 2) X) {r : Int32 × Mem} (hr : RetI M_m_hops X r.1 r.2) {k174 : Int32 → Int32 → Int32 → Mem → Option (Int32 × Mem)} (hk174 : ∀ (x1 : Int32) (x3 : Int32) (x4 : Int32) (μ : Mem) (dy : Nat → Nat), k174 x1 x3 x4 μ = some r → AW X 174 [(0, .ref (gA (xG X) 111)), (1, .int x1), (3, .int x3), (4, .int x4)] [] μ dy) : ∀ (n : Nat) (x1 : Int32) (x3 : Int32) (x4 : Int32) (x5 : Int32) (μ : Mem) (dy : Nat → Nat), f_m_hops_b188 k174 n x1 x3 x4 x5 μ = some r → AW X 188 [(0, .ref (gA (xG X) 111)), (1, .int x1), (3, .int x3), (4, .int x4), (5, .int x5)] [] μ dy := by
  intro n
  induction n with
  | zero => intro x1 x3 x4 x5 μ dy hf; exact nomatch hf
  | succ n ih =>
    intro x1 x3 x4 x5 μ dy hf
    rw [f_m_hops_b188] at hf
    refine r_aload_n hX dX12_hops_188 0 rfl ?_
    refine r_get hX fl_X12_16 (w_111 _ _ _) rfl dX12_hops_189 ?_
    refine r_bipush hX (14 : Int32) dX12_hops_192 rfl ?_
    refine r_iload hX dX12_hops_194 4 rfl ?_
    refine r_imul hX dX12_hops_196 ?_
    refine r_iload_n hX dX12_hops_197 2 rfl ?_
    refine r_iadd hX dX12_hops_198 ?_
    obtain ⟨b20, hf⟩ := chk_eq hf
    refine r_iald hX (w_114 _ _ _) (inb_in b20) dX12_hops_199 ?_
    refine r_if_eq hX 221 dX12_hops_200 rfl (fun hc21 => ?_) (fun hc21 => ?_)
    · rw [if_pos hc21] at hf
      refine r_iinc hX (x5 + (1 : Int32)) dX12_hops_221 4 rfl rfl rfl (ls' := [(5, .int (x5 + (1 : Int32))), (0, .ref (gA (xG X) 111)), (1, .int x1), (3, .int x3), (4, .int x4)]) rfl ?_
      refine r_goto hX 188 dX12_hops_224 rfl ?_
      refine r_weak [1, 2, 3, 4, 0] rfl ?_
      exact ih _ _ _ _ _ _ hf
    · rw [if_neg hc21] at hf
      refine r_aload_n hX dX12_hops_203 0 rfl ?_
      refine r_get hX fl_X12_42 (w_111 _ _ _) rfl dX12_hops_204 ?_
      refine r_iload hX dX12_hops_207 4 rfl ?_
      obtain ⟨b22, hf⟩ := chk_eq hf
      refine r_iald hX (w_122 _ _ _) (inb_in b22) dX12_hops_209 ?_
      refine r_aload_n hX dX12_hops_210 0 rfl ?_
      refine r_get hX fl_X12_42 (w_111 _ _ _) rfl dX12_hops_211 ?_
      refine r_iload_n hX dX12_hops_214 2 rfl ?_
      obtain ⟨b23, hf⟩ := chk_eq hf
      refine r_iald hX (w_122 _ _ _) (inb_in b23) dX12_hops_215 ?_
      refine r_iconst hX (1 : Int32) dX12_hops_216 rfl ?_
      refine r_isub hX dX12_hops_217 ?_
      refine r_icmp_eq hX 227 dX12_hops_218 rfl (fun hc24 => ?_) (fun hc24 => ?_)
      · rw [if_pos hc24] at hf
        refine r_aload_n hX dX12_hops_227 0 rfl ?_
        refine r_iload hX dX12_hops_228 4 rfl ?_
        refine r_i2l hX dX12_hops_230 ?_
        obtain ⟨μ25, h26, hf⟩ := bd1_eq hf
        refine r_callVV (Ok.le hX (by omega)) (c_m_tell (d := d)  h26) cv_X12_217 (w_111 _ _ _) rfl rfl (st := []) rfl rfl rfl dX12_hops_231 (fun dy => ?_)
        refine r_iload hX dX12_hops_234 4 rfl ?_
        refine r_istore_n hX dX12_hops_236 rfl (ls' := [(3, .int x5), (0, .ref (gA (xG X) 111)), (1, .int x1), (4, .int x4), (5, .int x5)]) rfl ?_
        refine r_iinc hX (x4 + (1 : Int32)) dX12_hops_237 3 rfl rfl rfl (ls' := [(4, .int (x4 + (1 : Int32))), (3, .int x5), (0, .ref (gA (xG X) 111)), (1, .int x1), (5, .int x5)]) rfl ?_
        refine r_goto hX 174 dX12_hops_240 rfl ?_
        refine r_weak [2, 3, 1, 0] rfl ?_
        exact hk174 _ _ _ _ _ hf
      · rw [if_neg hc24] at hf
        refine r_iinc hX (x5 + (1 : Int32)) dX12_hops_221 4 rfl rfl rfl (ls' := [(5, .int (x5 + (1 : Int32))), (0, .ref (gA (xG X) 111)), (1, .int x1), (3, .int x3), (4, .int x4)]) rfl ?_
        refine r_goto hX 188 dX12_hops_224 rfl ?_
        refine r_weak [1, 2, 3, 4, 0] rfl ?_
        exact ih _ _ _ _ _ _ hf
set_option maxHeartbeats 4000000 in
set_option maxRecDepth 20000 in
theorem b_m_hops_b174 {X : Cx} {d : Nat} (hX : Ok M_m_hops (d + 2) X) {r : Int32 × Mem} (hr : RetI M_m_hops X r.1 r.2) : ∀ (n : Nat) (x1 : Int32) (x3 : Int32) (x4 : Int32) (μ : Mem) (dy : Nat → Nat), f_m_hops_b174 n x1 x3 x4 μ = some r → AW X 174 [(0, .ref (gA (xG X) 111)), (1, .int x1), (3, .int x3), (4, .int x4)] [] μ dy := by
  intro n
  induction n with
  | zero => intro x1 x3 x4 μ dy hf; exact nomatch hf
  | succ n ih =>
    intro x1 x3 x4 μ dy hf
    rw [f_m_hops_b174] at hf
    refine r_iload hX dX12_hops_174 3 rfl ?_
    refine r_aload_n hX dX12_hops_176 0 rfl ?_
    refine r_get hX fl_X12_42 (w_111 _ _ _) rfl dX12_hops_177 ?_
    refine r_iload_n hX dX12_hops_180 1 rfl ?_
    obtain ⟨b17, hf⟩ := chk_eq hf
    refine r_iald hX (w_122 _ _ _) (inb_in b17) dX12_hops_181 ?_
    refine r_icmp_ge hX 243 dX12_hops_182 rfl (fun hc18 => ?_) (fun hc18 => ?_)
    · rw [if_pos hc18] at hf
      refine r_aload_n hX dX12_hops_243 0 rfl ?_
      refine r_get hX fl_X12_42 (w_111 _ _ _) rfl dX12_hops_244 ?_
      refine r_iload_n hX dX12_hops_247 1 rfl ?_
      obtain ⟨b19, hf⟩ := chk_eq hf
      refine r_iald hX (w_122 _ _ _) (inb_in b19) dX12_hops_248 ?_
      exact fin_I hf hr _ _ _ dX12_hops_249
    · rw [if_neg hc18] at hf
      refine r_iconst hX (0 : Int32) dX12_hops_185 rfl ?_
      refine r_istore hX dX12_hops_186 rfl (ls' := [(5, .int (0 : Int32)), (0, .ref (gA (xG X) 111)), (1, .int x1), (3, .int x3), (4, .int x4)]) rfl ?_
      refine r_weak [1, 2, 3, 4, 0] rfl ?_
      exact b_m_hops_b188 hX hr ih FU _ _ _ _ _ _ hf
set_option maxHeartbeats 4000000 in
set_option maxRecDepth 20000 in
theorem b_m_hops_b81 {X : Cx} {d : Nat} (hX : Ok M_m_hops (d + 2) X) {r : Int32 × Mem} (hr : RetI M_m_hops X r.1 r.2) {k58 : Int32 → Int32 → Mem → Option (Int32 × Mem)} (hk58 : ∀ (x1 : Int32) (x3 : Int32) (μ : Mem) (dy : Nat → Nat), k58 x1 x3 μ = some r → AW X 58 [(0, .ref (gA (xG X) 111)), (1, .int x1), (3, .int x3)] [] μ dy) {k69 : Int32 → Int32 → Int32 → Mem → Option (Int32 × Mem)} (hk69 : ∀ (x1 : Int32) (x3 : Int32) (x4 : Int32) (μ : Mem) (dy : Nat → Nat), k69 x1 x3 x4 μ = some r → AW X 69 [(0, .ref (gA (xG X) 111)), (1, .int x1), (3, .int x3), (4, .int x4)] [] μ dy) : ∀ (n : Nat) (x1 : Int32) (x3 : Int32) (x4 : Int32) (x5 : Int32) (μ : Mem) (dy : Nat → Nat), f_m_hops_b81 k58 k69 n x1 x3 x4 x5 μ = some r → AW X 81 [(0, .ref (gA (xG X) 111)), (1, .int x1), (3, .int x3), (4, .int x4), (5, .int x5)] [] μ dy := by
  intro n
  induction n with
  | zero => intro x1 x3 x4 x5 μ dy hf; exact nomatch hf
  | succ n ih =>
    intro x1 x3 x4 x5 μ dy hf
    rw [f_m_hops_b81] at hf
    refine r_iload hX dX12_hops_81 4 rfl ?_
    refine r_aload_n hX dX12_hops_83 0 rfl ?_
    refine r_get hX fl_X12_86 (w_111 _ _ _) rfl dX12_hops_84 ?_
    refine r_icmp_ge hX 138 dX12_hops_87 rfl (fun hc28 => ?_) (fun hc28 => ?_)
    · rw [if_pos hc28] at hf
      refine r_iinc hX (x4 + (1 : Int32)) dX12_hops_138 3 rfl rfl rfl (ls' := [(4, .int (x4 + (1 : Int32))), (0, .ref (gA (xG X) 111)), (1, .int x1), (3, .int x3), (5, .int x5)]) rfl ?_
      refine r_goto hX 69 dX12_hops_141 rfl ?_
      refine r_weak [1, 2, 3, 0] rfl ?_
      exact hk69 _ _ _ _ _ hf
    · rw [if_neg hc28] at hf
      refine r_aload_n hX dX12_hops_90 0 rfl ?_
      refine r_get hX fl_X12_16 (w_111 _ _ _) rfl dX12_hops_91 ?_
      refine r_bipush hX (14 : Int32) dX12_hops_94 rfl ?_
      refine r_iload hX dX12_hops_96 4 rfl ?_
      refine r_imul hX dX12_hops_98 ?_
      refine r_iload hX dX12_hops_99 3 rfl ?_
      refine r_iadd hX dX12_hops_101 ?_
      obtain ⟨b29, hf⟩ := chk_eq hf
      refine r_iald hX (w_114 _ _ _) (inb_in b29) dX12_hops_102 ?_
      refine r_if_le hX 132 dX12_hops_103 rfl (fun hc30 => ?_) (fun hc30 => ?_)
      · rw [if_pos hc30] at hf
        refine r_iinc hX (x5 + (1 : Int32)) dX12_hops_132 4 rfl rfl rfl (ls' := [(5, .int (x5 + (1 : Int32))), (0, .ref (gA (xG X) 111)), (1, .int x1), (3, .int x3), (4, .int x4)]) rfl ?_
        refine r_goto hX 81 dX12_hops_135 rfl ?_
        refine r_weak [1, 2, 3, 4, 0] rfl ?_
        exact ih _ _ _ _ _ _ hf
      · rw [if_neg hc30] at hf
        refine r_aload_n hX dX12_hops_106 0 rfl ?_
        refine r_get hX fl_X12_42 (w_111 _ _ _) rfl dX12_hops_107 ?_
        refine r_iload hX dX12_hops_110 3 rfl ?_
        refine r_aload_n hX dX12_hops_112 0 rfl ?_
        refine r_get hX fl_X12_42 (w_111 _ _ _) rfl dX12_hops_113 ?_
        refine r_iload hX dX12_hops_116 3 rfl ?_
        obtain ⟨b31, hf⟩ := chk_eq hf
        refine r_iald hX (w_122 _ _ _) (inb_in b31) dX12_hops_118 ?_
        refine r_aload_n hX dX12_hops_119 0 rfl ?_
        refine r_get hX fl_X12_42 (w_111 _ _ _) rfl dX12_hops_120 ?_
        refine r_iload hX dX12_hops_123 4 rfl ?_
        obtain ⟨b32, hf⟩ := chk_eq hf
        refine r_iald hX (w_122 _ _ _) (inb_in b32) dX12_hops_125 ?_
        refine r_iconst hX (1 : Int32) dX12_hops_126 rfl ?_
        refine r_iadd hX dX12_hops_127 ?_
        refine r_min (d := d + 1) (Ok.le hX (by omega)) cs_X12_175 rfl dX12_hops_128 ?_
        obtain ⟨b33, hf⟩ := chk_eq hf
        obtain ⟨μ34, e35, hf⟩ := bnd_eq hf
        refine r_iast hX (w_122 _ _ _) (inb_in b33) (s_122 _ _ _ _ _) e35 rfl dX12_hops_131 ?_
        refine r_iinc hX (x5 + (1 : Int32)) dX12_hops_132 4 rfl rfl rfl (ls' := [(5, .int (x5 + (1 : Int32))), (0, .ref (gA (xG X) 111)), (1, .int x1), (3, .int x3), (4, .int x4)]) rfl ?_
        refine r_goto hX 81 dX12_hops_135 rfl ?_
        refine r_weak [1, 2, 3, 4, 0] rfl ?_
        exact ih _ _ _ _ _ _ hf
set_option maxHeartbeats 4000000 in
set_option maxRecDepth 20000 in
theorem b_m_hops_b69 {X : Cx} {d : Nat} (hX : Ok M_m_hops (d + 2) X) {r : Int32 × Mem} (hr : RetI M_m_hops X r.1 r.2) {k58 : Int32 → Int32 → Mem → Option (Int32 × Mem)} (hk58 : ∀ (x1 : Int32) (x3 : Int32) (μ : Mem) (dy : Nat → Nat), k58 x1 x3 μ = some r → AW X 58 [(0, .ref (gA (xG X) 111)), (1, .int x1), (3, .int x3)] [] μ dy) : ∀ (n : Nat) (x1 : Int32) (x3 : Int32) (x4 : Int32) (μ : Mem) (dy : Nat → Nat), f_m_hops_b69 k58 n x1 x3 x4 μ = some r → AW X 69 [(0, .ref (gA (xG X) 111)), (1, .int x1), (3, .int x3), (4, .int x4)] [] μ dy := by
  intro n
  induction n with
  | zero => intro x1 x3 x4 μ dy hf; exact nomatch hf
  | succ n ih =>
    intro x1 x3 x4 μ dy hf
    rw [f_m_hops_b69] at hf
    refine r_iload hX dX12_hops_69 3 rfl ?_
    refine r_aload_n hX dX12_hops_71 0 rfl ?_
    refine r_get hX fl_X12_86 (w_111 _ _ _) rfl dX12_hops_72 ?_
    refine r_icmp_ge hX 144 dX12_hops_75 rfl (fun hc27 => ?_) (fun hc27 => ?_)
    · rw [if_pos hc27] at hf
      refine r_iinc hX (x3 + (1 : Int32)) dX12_hops_144 2 rfl rfl rfl (ls' := [(3, .int (x3 + (1 : Int32))), (0, .ref (gA (xG X) 111)), (1, .int x1), (4, .int x4)]) rfl ?_
      refine r_goto hX 58 dX12_hops_147 rfl ?_
      refine r_weak [1, 2, 0] rfl ?_
      exact hk58 _ _ _ _ hf
    · rw [if_neg hc27] at hf
      refine r_iconst hX (0 : Int32) dX12_hops_78 rfl ?_
      refine r_istore hX dX12_hops_79 rfl (ls' := [(5, .int (0 : Int32)), (0, .ref (gA (xG X) 111)), (1, .int x1), (3, .int x3), (4, .int x4)]) rfl ?_
      refine r_weak [1, 2, 3, 4, 0] rfl ?_
      exact b_m_hops_b81 hX hr hk58 ih FU _ _ _ _ _ _ hf
set_option maxHeartbeats 4000000 in
set_option maxRecDepth 20000 in
theorem b_m_hops_b58 {X : Cx} {d : Nat} (hX : Ok M_m_hops (d + 2) X) {r : Int32 × Mem} (hr : RetI M_m_hops X r.1 r.2) : ∀ (n : Nat) (x1 : Int32) (x3 : Int32) (μ : Mem) (dy : Nat → Nat), f_m_hops_b58 n x1 x3 μ = some r → AW X 58 [(0, .ref (gA (xG X) 111)), (1, .int x1), (3, .int x3)] [] μ dy := by
  intro n
  induction n with
  | zero => intro x1 x3 μ dy hf; exact nomatch hf
  | succ n ih =>
    intro x1 x3 μ dy hf
    rw [f_m_hops_b58] at hf
    refine r_iload_n hX dX12_hops_58 2 rfl ?_
    refine r_aload_n hX dX12_hops_59 0 rfl ?_
    refine r_get hX fl_X12_86 (w_111 _ _ _) rfl dX12_hops_60 ?_
    refine r_icmp_ge hX 150 dX12_hops_63 rfl (fun hc12 => ?_) (fun hc12 => ?_)
    · rw [if_pos hc12] at hf
      refine r_aload_n hX dX12_hops_150 0 rfl ?_
      refine r_get hX fl_X12_42 (w_111 _ _ _) rfl dX12_hops_151 ?_
      refine r_iload_n hX dX12_hops_154 1 rfl ?_
      obtain ⟨b13, hf⟩ := chk_eq hf
      refine r_iald hX (w_122 _ _ _) (inb_in b13) dX12_hops_155 ?_
      refine r_ldc hX dX12_hops_156 kc_X12_237 ?_
      refine r_icmp_lt hX 164 dX12_hops_158 rfl (fun hc14 => ?_) (fun hc14 => ?_)
      · rw [if_pos hc14] at hf
        refine r_aload_n hX dX12_hops_164 0 rfl ?_
        refine r_iconst hX (0 : Int32) dX12_hops_165 rfl ?_
        obtain ⟨μ15, e16, hf⟩ := bnd_eq hf
        refine r_put hX fl_X12_83 ft_X12_10 (w_111 _ _ _) rfl rfl rfl (s_111_10 _ _ _ _) e16 rfl dX12_hops_166 ?_
        refine r_iload_n hX dX12_hops_169 1 rfl ?_
        refine r_istore_n hX dX12_hops_170 rfl (ls' := [(3, .int x1), (0, .ref (gA (xG X) 111)), (1, .int x1)]) rfl ?_
        refine r_iconst hX (1 : Int32) dX12_hops_171 rfl ?_
        refine r_istore hX dX12_hops_172 rfl (ls' := [(4, .int (1 : Int32)), (3, .int x1), (0, .ref (gA (xG X) 111)), (1, .int x1)]) rfl ?_
        refine r_weak [2, 3, 1, 0] rfl ?_
        exact b_m_hops_b174 hX hr FU _ _ _ _ _ hf
      · rw [if_neg hc14] at hf
        refine r_bipush hX (-2 : Int32) dX12_hops_161 rfl ?_
        exact fin_I hf hr _ _ _ dX12_hops_163
    · rw [if_neg hc12] at hf
      refine r_iconst hX (0 : Int32) dX12_hops_66 rfl ?_
      refine r_istore hX dX12_hops_67 rfl (ls' := [(4, .int (0 : Int32)), (0, .ref (gA (xG X) 111)), (1, .int x1), (3, .int x3)]) rfl ?_
      refine r_weak [1, 2, 3, 0] rfl ?_
      exact b_m_hops_b69 hX hr ih FU _ _ _ _ _ hf
set_option maxHeartbeats 4000000 in
set_option maxRecDepth 20000 in
theorem b_m_hops_b25 {X : Cx} {d : Nat} (hX : Ok M_m_hops (d + 2) X) {r : Int32 × Mem} (hr : RetI M_m_hops X r.1 r.2) : ∀ (n : Nat) (x1 : Int32) (x2 : Int32) (x3 : Int32) (μ : Mem) (dy : Nat → Nat), f_m_hops_b25 n x1 x2 x3 μ = some r → AW X 25 [(0, .ref (gA (xG X) 111)), (1, .int x1), (2, .int x2), (3, .int x3)] [] μ dy := by
  intro n
  induction n with
  | zero => intro x1 x2 x3 μ dy hf; exact nomatch hf
  | succ n ih =>
    intro x1 x2 x3 μ dy hf
    rw [f_m_hops_b25] at hf
    refine r_iload_n hX dX12_hops_25 3 rfl ?_
    refine r_aload_n hX dX12_hops_26 0 rfl ?_
    refine r_get hX fl_X12_86 (w_111 _ _ _) rfl dX12_hops_27 ?_
    refine r_icmp_ge hX 56 dX12_hops_30 rfl (fun hc11 => ?_) (fun hc11 => ?_)
    · rw [if_pos hc11] at hf
      refine r_iconst hX (0 : Int32) dX12_hops_56 rfl ?_
      refine r_istore_n hX dX12_hops_57 rfl (ls' := [(3, .int (0 : Int32)), (0, .ref (gA (xG X) 111)), (1, .int x1), (2, .int x2)]) rfl ?_
      refine r_weak [1, 2, 0] rfl ?_
      exact b_m_hops_b58 hX hr FU _ _ _ _ hf
    · rw [if_neg hc11] at hf
      refine r_aload_n hX dX12_hops_33 0 rfl ?_
      refine r_get hX fl_X12_42 (w_111 _ _ _) rfl dX12_hops_34 ?_
      refine r_iload_n hX dX12_hops_37 3 rfl ?_
      refine r_iload_n hX dX12_hops_38 3 rfl ?_
      refine r_iload_n hX dX12_hops_39 2 rfl ?_
      obtain ⟨v36, e37, hf⟩ := bnd_eq hf
      have J38 : AW X 49 [(0, .ref (gA (xG X) 111)), (1, .int x1), (2, .int x2), (3, .int x3)] [.int v36, .int x3, .ref (gA (xG X) 122)] μ dy := by
        obtain ⟨b39, hf⟩ := chk_eq hf
        obtain ⟨μ40, e41, hf⟩ := bnd_eq hf
        refine r_iast hX (w_122 _ _ _) (inb_in b39) (s_122 _ _ _ _ _) e41 rfl dX12_hops_49 ?_
        refine r_iinc hX (x3 + (1 : Int32)) dX12_hops_50 3 rfl rfl rfl (ls' := [(3, .int (x3 + (1 : Int32))), (0, .ref (gA (xG X) 111)), (1, .int x1), (2, .int x2)]) rfl ?_
        refine r_goto hX 25 dX12_hops_53 rfl ?_
        refine r_weak [1, 2, 3, 0] rfl ?_
        exact ih _ _ _ _ _ hf
      refine r_icmp_ne hX 47 dX12_hops_40 rfl (fun hc42 => ?_) (fun hc42 => ?_)
      · refine r_ldc hX dX12_hops_47 kc_X12_237 ?_
        exact r_topI (e37.trans (by rw [if_neg hc42])) J38
      · refine r_iconst hX (0 : Int32) dX12_hops_43 rfl ?_
        refine r_goto hX 49 dX12_hops_44 rfl ?_
        exact r_topI (e37.trans (by rw [if_pos hc42])) J38
set_option maxHeartbeats 4000000 in
set_option maxRecDepth 20000 in
theorem c_m_hops {G : Gx} {d : Nat} {x1 : Int32} {x2 : Int32} {μ : Mem} {r : Int32 × Mem} (hf : f_m_hops x1 x2 μ = some r) : Con G M_m_hops (d + 2) [.ref (gA G 111), .int x1, .int x2] μ (some (.int r.1), r.2) := by
  refine Con.ofI ⟨rfl, rfl, Nat.le_of_ble_eq_true rfl⟩ rfl rfl (fun X hG hX hr dy => ?_)
  subst hG
  show AW X 0 [(0, .ref (gA (xG X) 111)), (1, .int x1), (2, .int x2)] [] μ dy
  unfold f_m_hops at hf
  refine r_aload_n hX dX12_hops_0 0 rfl ?_
  refine r_iconst hX (0 : Int32) dX12_hops_1 rfl ?_
  obtain ⟨μ1, e2, hf⟩ := bnd_eq hf
  refine r_put hX fl_X12_80 ft_X12_11 (w_111 _ _ _) rfl rfl rfl (s_111_11 _ _ _ _) e2 rfl dX12_hops_2 ?_
  refine r_aload_n hX dX12_hops_5 0 rfl ?_
  refine r_iload_n hX dX12_hops_6 1 rfl ?_
  obtain ⟨v5, μ3, h4, hf⟩ := bd2_eq hf
  refine r_callVI (Ok.le hX (by omega)) (c_m_isOne (d := d)  h4) cv_X12_157 (w_111 _ _ _) rfl rfl (st := []) rfl rfl rfl dX12_hops_7 (fun dy => ?_)
  refine r_if_eq hX 21 dX12_hops_10 rfl (fun hc6 => ?_) (fun hc6 => ?_)
  · rw [if_pos hc6] at hf
    refine r_iconst hX (-1 : Int32) dX12_hops_21 rfl ?_
    exact fin_I hf hr _ _ _ dX12_hops_22
  · rw [if_neg hc6] at hf
    refine r_aload_n hX dX12_hops_13 0 rfl ?_
    refine r_iload_n hX dX12_hops_14 2 rfl ?_
    obtain ⟨v9, μ7, h8, hf⟩ := bd2_eq hf
    refine r_callVI (Ok.le hX (by omega)) (c_m_isOne (d := d)  h8) cv_X12_157 (w_111 _ _ _) rfl rfl (st := []) rfl rfl rfl dX12_hops_15 (fun dy => ?_)
    refine r_if_ne hX 23 dX12_hops_18 rfl (fun hc10 => ?_) (fun hc10 => ?_)
    · rw [if_neg hc10] at hf
      refine r_iconst hX (0 : Int32) dX12_hops_23 rfl ?_
      refine r_istore_n hX dX12_hops_24 rfl (ls' := [(3, .int (0 : Int32)), (0, .ref (gA (xG X) 111)), (1, .int x1), (2, .int x2)]) rfl ?_
      refine r_weak [1, 2, 3, 0] rfl ?_
      exact b_m_hops_b25 hX hr FU _ _ _ _ _ hf
    · rw [if_pos hc10] at hf
      refine r_iconst hX (-1 : Int32) dX12_hops_21 rfl ?_
      exact fin_I hf hr _ _ _ dX12_hops_22
theorem dX12_partOf_0 : decode cX12_partOf 0 = .ok (.iconst 1, 1) := by decide +kernel
theorem dX12_partOf_1 : decode cX12_partOf 1 = .ok (.iload_n 1, 1) := by decide +kernel
theorem dX12_partOf_2 : decode cX12_partOf 2 = .ok (.ishl, 1) := by decide +kernel
theorem dX12_partOf_3 : decode cX12_partOf 3 = .ok (.istore_n 2, 1) := by decide +kernel
theorem dX12_partOf_4 : decode cX12_partOf 4 = .ok (.iconst 0, 1) := by decide +kernel
theorem dX12_partOf_5 : decode cX12_partOf 5 = .ok (.istore_n 3, 1) := by decide +kernel
theorem dX12_partOf_6 : decode cX12_partOf 6 = .ok (.iload_n 2, 1) := by decide +kernel
theorem dX12_partOf_7 : decode cX12_partOf 7 = .ok (.iload_n 3, 1) := by decide +kernel
theorem dX12_partOf_8 : decode cX12_partOf 8 = .ok (.if_icmp .eq 90, 3) := by decide +kernel
theorem dX12_partOf_11 : decode cX12_partOf 11 = .ok (.iload_n 2, 1) := by decide +kernel
theorem dX12_partOf_12 : decode cX12_partOf 12 = .ok (.istore_n 3, 1) := by decide +kernel
theorem dX12_partOf_13 : decode cX12_partOf 13 = .ok (.iconst 0, 1) := by decide +kernel
theorem dX12_partOf_14 : decode cX12_partOf 14 = .ok (.istore 4, 2) := by decide +kernel
theorem dX12_partOf_16 : decode cX12_partOf 16 = .ok (.iload 4, 2) := by decide +kernel
theorem dX12_partOf_18 : decode cX12_partOf 18 = .ok (.aload_n 0, 1) := by decide +kernel
theorem dX12_partOf_19 : decode cX12_partOf 19 = .ok (.getfield 86, 3) := by decide +kernel
theorem dX12_partOf_22 : decode cX12_partOf 22 = .ok (.if_icmp .ge 73, 3) := by decide +kernel
theorem dX12_partOf_25 : decode cX12_partOf 25 = .ok (.iconst 0, 1) := by decide +kernel
theorem dX12_partOf_26 : decode cX12_partOf 26 = .ok (.istore 5, 2) := by decide +kernel
theorem dX12_partOf_28 : decode cX12_partOf 28 = .ok (.iload 5, 2) := by decide +kernel
theorem dX12_partOf_30 : decode cX12_partOf 30 = .ok (.aload_n 0, 1) := by decide +kernel
theorem dX12_partOf_31 : decode cX12_partOf 31 = .ok (.getfield 86, 3) := by decide +kernel
theorem dX12_partOf_34 : decode cX12_partOf 34 = .ok (.if_icmp .ge 55, 3) := by decide +kernel
theorem dX12_partOf_37 : decode cX12_partOf 37 = .ok (.iload_n 2, 1) := by decide +kernel
theorem dX12_partOf_38 : decode cX12_partOf 38 = .ok (.iload 4, 2) := by decide +kernel
theorem dX12_partOf_40 : decode cX12_partOf 40 = .ok (.invokestatic 164, 3) := by decide +kernel
theorem dX12_partOf_43 : decode cX12_partOf 43 = .ok (.ifCond .eq 40, 3) := by decide +kernel
theorem dX12_partOf_46 : decode cX12_partOf 46 = .ok (.aload_n 0, 1) := by decide +kernel
theorem dX12_partOf_47 : decode cX12_partOf 47 = .ok (.getfield 16, 3) := by decide +kernel
theorem dX12_partOf_50 : decode cX12_partOf 50 = .ok (.bipush 14, 2) := by decide +kernel
theorem dX12_partOf_52 : decode cX12_partOf 52 = .ok (.iload 4, 2) := by decide +kernel
theorem dX12_partOf_54 : decode cX12_partOf 54 = .ok (.imul, 1) := by decide +kernel
theorem dX12_partOf_55 : decode cX12_partOf 55 = .ok (.iload 5, 2) := by decide +kernel
theorem dX12_partOf_57 : decode cX12_partOf 57 = .ok (.iadd, 1) := by decide +kernel
theorem dX12_partOf_58 : decode cX12_partOf 58 = .ok (.iaload, 1) := by decide +kernel
theorem dX12_partOf_59 : decode cX12_partOf 59 = .ok (.aload_n 0, 1) := by decide +kernel
theorem dX12_partOf_60 : decode cX12_partOf 60 = .ok (.getfield 16, 3) := by decide +kernel
theorem dX12_partOf_63 : decode cX12_partOf 63 = .ok (.bipush 14, 2) := by decide +kernel
theorem dX12_partOf_65 : decode cX12_partOf 65 = .ok (.iload 5, 2) := by decide +kernel
theorem dX12_partOf_67 : decode cX12_partOf 67 = .ok (.imul, 1) := by decide +kernel
theorem dX12_partOf_68 : decode cX12_partOf 68 = .ok (.iload 4, 2) := by decide +kernel
theorem dX12_partOf_70 : decode cX12_partOf 70 = .ok (.iadd, 1) := by decide +kernel
theorem dX12_partOf_71 : decode cX12_partOf 71 = .ok (.iaload, 1) := by decide +kernel
theorem dX12_partOf_72 : decode cX12_partOf 72 = .ok (.iadd, 1) := by decide +kernel
theorem dX12_partOf_73 : decode cX12_partOf 73 = .ok (.ifCond .le 10, 3) := by decide +kernel
theorem dX12_partOf_76 : decode cX12_partOf 76 = .ok (.iload_n 2, 1) := by decide +kernel
theorem dX12_partOf_77 : decode cX12_partOf 77 = .ok (.iconst 1, 1) := by decide +kernel
theorem dX12_partOf_78 : decode cX12_partOf 78 = .ok (.iload 5, 2) := by decide +kernel
theorem dX12_partOf_80 : decode cX12_partOf 80 = .ok (.ishl, 1) := by decide +kernel
theorem dX12_partOf_81 : decode cX12_partOf 81 = .ok (.ior, 1) := by decide +kernel
theorem dX12_partOf_82 : decode cX12_partOf 82 = .ok (.istore_n 2, 1) := by decide +kernel
theorem dX12_partOf_83 : decode cX12_partOf 83 = .ok (.iinc 5 1, 3) := by decide +kernel
theorem dX12_partOf_86 : decode cX12_partOf 86 = .ok (.goto (-58), 3) := by decide +kernel
theorem dX12_partOf_89 : decode cX12_partOf 89 = .ok (.iinc 4 1, 3) := by decide +kernel
theorem dX12_partOf_92 : decode cX12_partOf 92 = .ok (.goto (-76), 3) := by decide +kernel
theorem dX12_partOf_95 : decode cX12_partOf 95 = .ok (.goto (-89), 3) := by decide +kernel
theorem dX12_partOf_98 : decode cX12_partOf 98 = .ok (.iload_n 2, 1) := by decide +kernel
theorem dX12_partOf_99 : decode cX12_partOf 99 = .ok (.ireturn, 1) := by decide +kernel
set_option maxHeartbeats 4000000 in
set_option maxRecDepth 20000 in
theorem b_m_partOf_b28 {X : Cx} {d : Nat} (hX : Ok M_m_partOf (d + 1) X) {r : Int32 × Mem} (hr : RetI M_m_partOf X r.1 r.2) {k6 : Int32 → Int32 → Mem → Option (Int32 × Mem)} (hk6 : ∀ (x2 : Int32) (x3 : Int32) (μ : Mem) (dy : Nat → Nat), k6 x2 x3 μ = some r → AW X 6 [(0, .ref (gA (xG X) 111)), (2, .int x2), (3, .int x3)] [] μ dy) {k16 : Int32 → Int32 → Int32 → Mem → Option (Int32 × Mem)} (hk16 : ∀ (x2 : Int32) (x3 : Int32) (x4 : Int32) (μ : Mem) (dy : Nat → Nat), k16 x2 x3 x4 μ = some r → AW X 16 [(0, .ref (gA (xG X) 111)), (2, .int x2), (3, .int x3), (4, .int x4)] [] μ dy) : ∀ (n : Nat) (x2 : Int32) (x3 : Int32) (x4 : Int32) (x5 : Int32) (μ : Mem) (dy : Nat → Nat), f_m_partOf_b28 k6 k16 n x2 x3 x4 x5 μ = some r → AW X 28 [(0, .ref (gA (xG X) 111)), (2, .int x2), (3, .int x3), (4, .int x4), (5, .int x5)] [] μ dy := by
  intro n
  induction n with
  | zero => intro x2 x3 x4 x5 μ dy hf; exact nomatch hf
  | succ n ih =>
    intro x2 x3 x4 x5 μ dy hf
    rw [f_m_partOf_b28] at hf
    refine r_iload hX dX12_partOf_28 4 rfl ?_
    refine r_aload_n hX dX12_partOf_30 0 rfl ?_
    refine r_get hX fl_X12_86 (w_111 _ _ _) rfl dX12_partOf_31 ?_
    refine r_icmp_ge hX 89 dX12_partOf_34 rfl (fun hc3 => ?_) (fun hc3 => ?_)
    · rw [if_pos hc3] at hf
      refine r_iinc hX (x4 + (1 : Int32)) dX12_partOf_89 3 rfl rfl rfl (ls' := [(4, .int (x4 + (1 : Int32))), (0, .ref (gA (xG X) 111)), (2, .int x2), (3, .int x3), (5, .int x5)]) rfl ?_
      refine r_goto hX 16 dX12_partOf_92 rfl ?_
      refine r_weak [1, 2, 3, 0] rfl ?_
      exact hk16 _ _ _ _ _ hf
    · rw [if_neg hc3] at hf
      refine r_iload_n hX dX12_partOf_37 1 rfl ?_
      refine r_iload hX dX12_partOf_38 3 rfl ?_
      obtain ⟨v6, μ4, h5, hf⟩ := bd2_eq hf
      refine r_callSI (Ok.le hX (by omega)) (c_m_has (d := d)  h5) cs_X12_164 (st := []) rfl rfl rfl dX12_partOf_40 (fun dy => ?_)
      refine r_if_eq hX 83 dX12_partOf_43 rfl (fun hc7 => ?_) (fun hc7 => ?_)
      · rw [if_pos hc7] at hf
        refine r_iinc hX (x5 + (1 : Int32)) dX12_partOf_83 4 rfl rfl rfl (ls' := [(5, .int (x5 + (1 : Int32))), (0, .ref (gA (xG X) 111)), (2, .int x2), (3, .int x3), (4, .int x4)]) rfl ?_
        refine r_goto hX 28 dX12_partOf_86 rfl ?_
        refine r_weak [1, 2, 3, 4, 0] rfl ?_
        exact ih _ _ _ _ _ _ hf
      · rw [if_neg hc7] at hf
        refine r_aload_n hX dX12_partOf_46 0 rfl ?_
        refine r_get hX fl_X12_16 (w_111 _ _ _) rfl dX12_partOf_47 ?_
        refine r_bipush hX (14 : Int32) dX12_partOf_50 rfl ?_
        refine r_iload hX dX12_partOf_52 3 rfl ?_
        refine r_imul hX dX12_partOf_54 ?_
        refine r_iload hX dX12_partOf_55 4 rfl ?_
        refine r_iadd hX dX12_partOf_57 ?_
        obtain ⟨b8, hf⟩ := chk_eq hf
        refine r_iald hX (w_114 _ _ _) (inb_in b8) dX12_partOf_58 ?_
        refine r_aload_n hX dX12_partOf_59 0 rfl ?_
        refine r_get hX fl_X12_16 (w_111 _ _ _) rfl dX12_partOf_60 ?_
        refine r_bipush hX (14 : Int32) dX12_partOf_63 rfl ?_
        refine r_iload hX dX12_partOf_65 4 rfl ?_
        refine r_imul hX dX12_partOf_67 ?_
        refine r_iload hX dX12_partOf_68 3 rfl ?_
        refine r_iadd hX dX12_partOf_70 ?_
        obtain ⟨b9, hf⟩ := chk_eq hf
        refine r_iald hX (w_114 _ _ _) (inb_in b9) dX12_partOf_71 ?_
        refine r_iadd hX dX12_partOf_72 ?_
        refine r_if_le hX 83 dX12_partOf_73 rfl (fun hc10 => ?_) (fun hc10 => ?_)
        · rw [if_pos hc10] at hf
          refine r_iinc hX (x5 + (1 : Int32)) dX12_partOf_83 4 rfl rfl rfl (ls' := [(5, .int (x5 + (1 : Int32))), (0, .ref (gA (xG X) 111)), (2, .int x2), (3, .int x3), (4, .int x4)]) rfl ?_
          refine r_goto hX 28 dX12_partOf_86 rfl ?_
          refine r_weak [1, 2, 3, 4, 0] rfl ?_
          exact ih _ _ _ _ _ _ hf
        · rw [if_neg hc10] at hf
          refine r_iload_n hX dX12_partOf_76 1 rfl ?_
          refine r_iconst hX (1 : Int32) dX12_partOf_77 rfl ?_
          refine r_iload hX dX12_partOf_78 4 rfl ?_
          refine r_ishl hX dX12_partOf_80 ?_
          refine r_ior hX dX12_partOf_81 ?_
          obtain ⟨v11, e12, hf⟩ := bnd_eq hf
          refine r_topI e12 ?_
          refine r_istore_n hX dX12_partOf_82 rfl (ls' := [(2, .int v11), (0, .ref (gA (xG X) 111)), (3, .int x3), (4, .int x4), (5, .int x5)]) rfl ?_
          refine r_iinc hX (x5 + (1 : Int32)) dX12_partOf_83 4 rfl rfl rfl (ls' := [(5, .int (x5 + (1 : Int32))), (2, .int v11), (0, .ref (gA (xG X) 111)), (3, .int x3), (4, .int x4)]) rfl ?_
          refine r_goto hX 28 dX12_partOf_86 rfl ?_
          refine r_weak [2, 1, 3, 4, 0] rfl ?_
          exact ih _ _ _ _ _ _ hf
set_option maxHeartbeats 4000000 in
set_option maxRecDepth 20000 in
theorem b_m_partOf_b16 {X : Cx} {d : Nat} (hX : Ok M_m_partOf (d + 1) X) {r : Int32 × Mem} (hr : RetI M_m_partOf X r.1 r.2) {k6 : Int32 → Int32 → Mem → Option (Int32 × Mem)} (hk6 : ∀ (x2 : Int32) (x3 : Int32) (μ : Mem) (dy : Nat → Nat), k6 x2 x3 μ = some r → AW X 6 [(0, .ref (gA (xG X) 111)), (2, .int x2), (3, .int x3)] [] μ dy) : ∀ (n : Nat) (x2 : Int32) (x3 : Int32) (x4 : Int32) (μ : Mem) (dy : Nat → Nat), f_m_partOf_b16 k6 n x2 x3 x4 μ = some r → AW X 16 [(0, .ref (gA (xG X) 111)), (2, .int x2), (3, .int x3), (4, .int x4)] [] μ dy := by
  intro n
  induction n with
  | zero => intro x2 x3 x4 μ dy hf; exact nomatch hf
  | succ n ih =>
    intro x2 x3 x4 μ dy hf
    rw [f_m_partOf_b16] at hf
    refine r_iload hX dX12_partOf_16 3 rfl ?_
    refine r_aload_n hX dX12_partOf_18 0 rfl ?_
    refine r_get hX fl_X12_86 (w_111 _ _ _) rfl dX12_partOf_19 ?_
    refine r_icmp_ge hX 95 dX12_partOf_22 rfl (fun hc2 => ?_) (fun hc2 => ?_)
    · rw [if_pos hc2] at hf
      refine r_goto hX 6 dX12_partOf_95 rfl ?_
      refine r_weak [0, 1, 2] rfl ?_
      exact hk6 _ _ _ _ hf
    · rw [if_neg hc2] at hf
      refine r_iconst hX (0 : Int32) dX12_partOf_25 rfl ?_
      refine r_istore hX dX12_partOf_26 rfl (ls' := [(5, .int (0 : Int32)), (0, .ref (gA (xG X) 111)), (2, .int x2), (3, .int x3), (4, .int x4)]) rfl ?_
      refine r_weak [1, 2, 3, 4, 0] rfl ?_
      exact b_m_partOf_b28 hX hr hk6 ih FU _ _ _ _ _ _ hf
set_option maxHeartbeats 4000000 in
set_option maxRecDepth 20000 in
theorem b_m_partOf_b6 {X : Cx} {d : Nat} (hX : Ok M_m_partOf (d + 1) X) {r : Int32 × Mem} (hr : RetI M_m_partOf X r.1 r.2) : ∀ (n : Nat) (x2 : Int32) (x3 : Int32) (μ : Mem) (dy : Nat → Nat), f_m_partOf_b6 n x2 x3 μ = some r → AW X 6 [(0, .ref (gA (xG X) 111)), (2, .int x2), (3, .int x3)] [] μ dy := by
  intro n
  induction n with
  | zero => intro x2 x3 μ dy hf; exact nomatch hf
  | succ n ih =>
    intro x2 x3 μ dy hf
    rw [f_m_partOf_b6] at hf
    refine r_iload_n hX dX12_partOf_6 1 rfl ?_
    refine r_iload_n hX dX12_partOf_7 2 rfl ?_
    refine r_icmp_eq hX 98 dX12_partOf_8 rfl (fun hc1 => ?_) (fun hc1 => ?_)
    · rw [if_pos hc1] at hf
      refine r_iload_n hX dX12_partOf_98 1 rfl ?_
      exact fin_I hf hr _ _ _ dX12_partOf_99
    · rw [if_neg hc1] at hf
      refine r_iload_n hX dX12_partOf_11 1 rfl ?_
      refine r_istore_n hX dX12_partOf_12 rfl (ls' := [(3, .int x2), (0, .ref (gA (xG X) 111)), (2, .int x2)]) rfl ?_
      refine r_iconst hX (0 : Int32) dX12_partOf_13 rfl ?_
      refine r_istore hX dX12_partOf_14 rfl (ls' := [(4, .int (0 : Int32)), (3, .int x2), (0, .ref (gA (xG X) 111)), (2, .int x2)]) rfl ?_
      refine r_weak [2, 3, 1, 0] rfl ?_
      exact b_m_partOf_b16 hX hr ih FU _ _ _ _ _ hf
set_option maxHeartbeats 4000000 in
set_option maxRecDepth 20000 in
theorem c_m_partOf {G : Gx} {d : Nat} {x1 : Int32} {μ : Mem} {r : Int32 × Mem} (hf : f_m_partOf x1 μ = some r) : Con G M_m_partOf (d + 1) [.ref (gA G 111), .int x1] μ (some (.int r.1), r.2) := by
  refine Con.ofI ⟨rfl, rfl, Nat.le_of_ble_eq_true rfl⟩ rfl rfl (fun X hG hX hr dy => ?_)
  subst hG
  show AW X 0 [(0, .ref (gA (xG X) 111)), (1, .int x1)] [] μ dy
  unfold f_m_partOf at hf
  refine r_iconst hX (1 : Int32) dX12_partOf_0 rfl ?_
  refine r_iload_n hX dX12_partOf_1 1 rfl ?_
  refine r_ishl hX dX12_partOf_2 ?_
  refine r_istore_n hX dX12_partOf_3 rfl (ls' := [(2, .int ((1 : Int32) <<< (x1 &&& 31))), (0, .ref (gA (xG X) 111)), (1, .int x1)]) rfl ?_
  refine r_iconst hX (0 : Int32) dX12_partOf_4 rfl ?_
  refine r_istore_n hX dX12_partOf_5 rfl (ls' := [(3, .int (0 : Int32)), (2, .int ((1 : Int32) <<< (x1 &&& 31))), (0, .ref (gA (xG X) 111)), (1, .int x1)]) rfl ?_
  refine r_weak [2, 1, 0] rfl ?_
  exact b_m_partOf_b6 hX hr FU _ _ _ _ hf
theorem dX12_part_0 : decode cX12_part 0 = .ok (.aload_n 0, 1) := by decide +kernel
theorem dX12_part_1 : decode cX12_part 1 = .ok (.iconst 0, 1) := by decide +kernel
theorem dX12_part_2 : decode cX12_part 2 = .ok (.putfield 80, 3) := by decide +kernel
theorem dX12_part_5 : decode cX12_part 5 = .ok (.aload_n 0, 1) := by decide +kernel
theorem dX12_part_6 : decode cX12_part 6 = .ok (.iload_n 1, 1) := by decide +kernel
theorem dX12_part_7 : decode cX12_part 7 = .ok (.invokevirtual 157, 3) := by decide +kernel
theorem dX12_part_10 : decode cX12_part 10 = .ok (.ifCond .ne 5, 3) := by decide +kernel
theorem dX12_part_13 : decode cX12_part 13 = .ok (.iconst (-1), 1) := by decide +kernel
theorem dX12_part_14 : decode cX12_part 14 = .ok (.ireturn, 1) := by decide +kernel
theorem dX12_part_15 : decode cX12_part 15 = .ok (.iconst 0, 1) := by decide +kernel
theorem dX12_part_16 : decode cX12_part 16 = .ok (.istore_n 2, 1) := by decide +kernel
theorem dX12_part_17 : decode cX12_part 17 = .ok (.iconst 0, 1) := by decide +kernel
theorem dX12_part_18 : decode cX12_part 18 = .ok (.istore_n 3, 1) := by decide +kernel
theorem dX12_part_19 : decode cX12_part 19 = .ok (.iconst 0, 1) := by decide +kernel
theorem dX12_part_20 : decode cX12_part 20 = .ok (.istore 4, 2) := by decide +kernel
theorem dX12_part_22 : decode cX12_part 22 = .ok (.iload 4, 2) := by decide +kernel
theorem dX12_part_24 : decode cX12_part 24 = .ok (.aload_n 0, 1) := by decide +kernel
theorem dX12_part_25 : decode cX12_part 25 = .ok (.getfield 86, 3) := by decide +kernel
theorem dX12_part_28 : decode cX12_part 28 = .ok (.if_icmp .ge 33, 3) := by decide +kernel
theorem dX12_part_31 : decode cX12_part 31 = .ok (.iload_n 3, 1) := by decide +kernel
theorem dX12_part_32 : decode cX12_part 32 = .ok (.iload 4, 2) := by decide +kernel
theorem dX12_part_34 : decode cX12_part 34 = .ok (.invokestatic 164, 3) := by decide +kernel
theorem dX12_part_37 : decode cX12_part 37 = .ok (.ifCond .eq 6, 3) := by decide +kernel
theorem dX12_part_40 : decode cX12_part 40 = .ok (.goto 15, 3) := by decide +kernel
theorem dX12_part_43 : decode cX12_part 43 = .ok (.iload_n 3, 1) := by decide +kernel
theorem dX12_part_44 : decode cX12_part 44 = .ok (.aload_n 0, 1) := by decide +kernel
theorem dX12_part_45 : decode cX12_part 45 = .ok (.iload 4, 2) := by decide +kernel
theorem dX12_part_47 : decode cX12_part 47 = .ok (.invokevirtual 238, 3) := by decide +kernel
theorem dX12_part_50 : decode cX12_part 50 = .ok (.ior, 1) := by decide +kernel
theorem dX12_part_51 : decode cX12_part 51 = .ok (.istore_n 3, 1) := by decide +kernel
theorem dX12_part_52 : decode cX12_part 52 = .ok (.iinc 2 1, 3) := by decide +kernel
theorem dX12_part_55 : decode cX12_part 55 = .ok (.iinc 4 1, 3) := by decide +kernel
theorem dX12_part_58 : decode cX12_part 58 = .ok (.goto (-36), 3) := by decide +kernel
theorem dX12_part_61 : decode cX12_part 61 = .ok (.aload_n 0, 1) := by decide +kernel
theorem dX12_part_62 : decode cX12_part 62 = .ok (.iconst 0, 1) := by decide +kernel
theorem dX12_part_63 : decode cX12_part 63 = .ok (.putfield 83, 3) := by decide +kernel
theorem dX12_part_66 : decode cX12_part 66 = .ok (.aload_n 0, 1) := by decide +kernel
theorem dX12_part_67 : decode cX12_part 67 = .ok (.iload_n 2, 1) := by decide +kernel
theorem dX12_part_68 : decode cX12_part 68 = .ok (.i2l, 1) := by decide +kernel
theorem dX12_part_69 : decode cX12_part 69 = .ok (.invokevirtual 217, 3) := by decide +kernel
theorem dX12_part_72 : decode cX12_part 72 = .ok (.aload_n 0, 1) := by decide +kernel
theorem dX12_part_73 : decode cX12_part 73 = .ok (.iload_n 1, 1) := by decide +kernel
theorem dX12_part_74 : decode cX12_part 74 = .ok (.invokevirtual 238, 3) := by decide +kernel
theorem dX12_part_77 : decode cX12_part 77 = .ok (.ireturn, 1) := by decide +kernel
set_option maxHeartbeats 4000000 in
set_option maxRecDepth 20000 in
theorem b_m_part_b22 {X : Cx} {d : Nat} (hX : Ok M_m_part (d + 2) X) {r : Int32 × Mem} (hr : RetI M_m_part X r.1 r.2) : ∀ (n : Nat) (x1 : Int32) (x2 : Int32) (x3 : Int32) (x4 : Int32) (μ : Mem) (dy : Nat → Nat), f_m_part_b22 n x1 x2 x3 x4 μ = some r → AW X 22 [(0, .ref (gA (xG X) 111)), (1, .int x1), (2, .int x2), (3, .int x3), (4, .int x4)] [] μ dy := by
  intro n
  induction n with
  | zero => intro x1 x2 x3 x4 μ dy hf; exact nomatch hf
  | succ n ih =>
    intro x1 x2 x3 x4 μ dy hf
    rw [f_m_part_b22] at hf
    refine r_iload hX dX12_part_22 4 rfl ?_
    refine r_aload_n hX dX12_part_24 0 rfl ?_
    refine r_get hX fl_X12_86 (w_111 _ _ _) rfl dX12_part_25 ?_
    refine r_icmp_ge hX 61 dX12_part_28 rfl (fun hc7 => ?_) (fun hc7 => ?_)
    · rw [if_pos hc7] at hf
      refine r_aload_n hX dX12_part_61 0 rfl ?_
      refine r_iconst hX (0 : Int32) dX12_part_62 rfl ?_
      obtain ⟨μ8, e9, hf⟩ := bnd_eq hf
      refine r_put hX fl_X12_83 ft_X12_10 (w_111 _ _ _) rfl rfl rfl (s_111_10 _ _ _ _) e9 rfl dX12_part_63 ?_
      refine r_aload_n hX dX12_part_66 0 rfl ?_
      refine r_iload_n hX dX12_part_67 2 rfl ?_
      refine r_i2l hX dX12_part_68 ?_
      obtain ⟨μ10, h11, hf⟩ := bd1_eq hf
      refine r_callVV (Ok.le hX (by omega)) (c_m_tell (d := d)  h11) cv_X12_217 (w_111 _ _ _) rfl rfl (st := []) rfl rfl rfl dX12_part_69 (fun dy => ?_)
      refine r_aload_n hX dX12_part_72 0 rfl ?_
      refine r_iload_n hX dX12_part_73 1 rfl ?_
      obtain ⟨v14, μ12, h13, hf⟩ := bd2_eq hf
      refine r_callVI (Ok.le hX (by omega)) (c_m_partOf (d := d)  h13) cv_X12_238 (w_111 _ _ _) rfl rfl (st := []) rfl rfl rfl dX12_part_74 (fun dy => ?_)
      exact fin_I hf hr _ _ _ dX12_part_77
    · rw [if_neg hc7] at hf
      refine r_iload_n hX dX12_part_31 3 rfl ?_
      refine r_iload hX dX12_part_32 4 rfl ?_
      obtain ⟨v17, μ15, h16, hf⟩ := bd2_eq hf
      refine r_callSI (Ok.le hX (by omega)) (c_m_has (d := d)  h16) cs_X12_164 (st := []) rfl rfl rfl dX12_part_34 (fun dy => ?_)
      refine r_if_eq hX 43 dX12_part_37 rfl (fun hc18 => ?_) (fun hc18 => ?_)
      · rw [if_pos hc18] at hf
        refine r_iload_n hX dX12_part_43 3 rfl ?_
        refine r_aload_n hX dX12_part_44 0 rfl ?_
        refine r_iload hX dX12_part_45 4 rfl ?_
        obtain ⟨v21, μ19, h20, hf⟩ := bd2_eq hf
        refine r_callVI (Ok.le hX (by omega)) (c_m_partOf (d := d)  h20) cv_X12_238 (w_111 _ _ _) rfl rfl (st := [.int x3]) rfl rfl rfl dX12_part_47 (fun dy => ?_)
        refine r_ior hX dX12_part_50 ?_
        refine r_istore_n hX dX12_part_51 rfl (ls' := [(3, .int (x3 ||| v21)), (0, .ref (gA (xG X) 111)), (1, .int x1), (2, .int x2), (4, .int x4)]) rfl ?_
        refine r_iinc hX (x2 + (1 : Int32)) dX12_part_52 3 rfl rfl rfl (ls' := [(2, .int (x2 + (1 : Int32))), (3, .int (x3 ||| v21)), (0, .ref (gA (xG X) 111)), (1, .int x1), (4, .int x4)]) rfl ?_
        refine r_iinc hX (x4 + (1 : Int32)) dX12_part_55 4 rfl rfl rfl (ls' := [(4, .int (x4 + (1 : Int32))), (2, .int (x2 + (1 : Int32))), (3, .int (x3 ||| v21)), (0, .ref (gA (xG X) 111)), (1, .int x1)]) rfl ?_
        refine r_goto hX 22 dX12_part_58 rfl ?_
        refine r_weak [3, 4, 1, 2, 0] rfl ?_
        exact ih _ _ _ _ _ _ hf
      · rw [if_neg hc18] at hf
        refine r_goto hX 55 dX12_part_40 rfl ?_
        refine r_iinc hX (x4 + (1 : Int32)) dX12_part_55 4 rfl rfl rfl (ls' := [(4, .int (x4 + (1 : Int32))), (0, .ref (gA (xG X) 111)), (1, .int x1), (2, .int x2), (3, .int x3)]) rfl ?_
        refine r_goto hX 22 dX12_part_58 rfl ?_
        refine r_weak [1, 2, 3, 4, 0] rfl ?_
        exact ih _ _ _ _ _ _ hf
set_option maxHeartbeats 4000000 in
set_option maxRecDepth 20000 in
theorem c_m_part {G : Gx} {d : Nat} {x1 : Int32} {μ : Mem} {r : Int32 × Mem} (hf : f_m_part x1 μ = some r) : Con G M_m_part (d + 2) [.ref (gA G 111), .int x1] μ (some (.int r.1), r.2) := by
  refine Con.ofI ⟨rfl, rfl, Nat.le_of_ble_eq_true rfl⟩ rfl rfl (fun X hG hX hr dy => ?_)
  subst hG
  show AW X 0 [(0, .ref (gA (xG X) 111)), (1, .int x1)] [] μ dy
  unfold f_m_part at hf
  refine r_aload_n hX dX12_part_0 0 rfl ?_
  refine r_iconst hX (0 : Int32) dX12_part_1 rfl ?_
  obtain ⟨μ1, e2, hf⟩ := bnd_eq hf
  refine r_put hX fl_X12_80 ft_X12_11 (w_111 _ _ _) rfl rfl rfl (s_111_11 _ _ _ _) e2 rfl dX12_part_2 ?_
  refine r_aload_n hX dX12_part_5 0 rfl ?_
  refine r_iload_n hX dX12_part_6 1 rfl ?_
  obtain ⟨v5, μ3, h4, hf⟩ := bd2_eq hf
  refine r_callVI (Ok.le hX (by omega)) (c_m_isOne (d := d)  h4) cv_X12_157 (w_111 _ _ _) rfl rfl (st := []) rfl rfl rfl dX12_part_7 (fun dy => ?_)
  refine r_if_ne hX 15 dX12_part_10 rfl (fun hc6 => ?_) (fun hc6 => ?_)
  · rw [if_neg hc6] at hf
    refine r_iconst hX (0 : Int32) dX12_part_15 rfl ?_
    refine r_istore_n hX dX12_part_16 rfl (ls' := [(2, .int (0 : Int32)), (0, .ref (gA (xG X) 111)), (1, .int x1)]) rfl ?_
    refine r_iconst hX (0 : Int32) dX12_part_17 rfl ?_
    refine r_istore_n hX dX12_part_18 rfl (ls' := [(3, .int (0 : Int32)), (2, .int (0 : Int32)), (0, .ref (gA (xG X) 111)), (1, .int x1)]) rfl ?_
    refine r_iconst hX (0 : Int32) dX12_part_19 rfl ?_
    refine r_istore hX dX12_part_20 rfl (ls' := [(4, .int (0 : Int32)), (3, .int (0 : Int32)), (2, .int (0 : Int32)), (0, .ref (gA (xG X) 111)), (1, .int x1)]) rfl ?_
    refine r_weak [3, 4, 2, 1, 0] rfl ?_
    exact b_m_part_b22 hX hr FU _ _ _ _ _ _ hf
  · rw [if_pos hc6] at hf
    refine r_iconst hX (-1 : Int32) dX12_part_13 rfl ?_
    exact fin_I hf hr _ _ _ dX12_part_14
theorem dX12_isFirmAs_0 : decode cX12_isFirmAs 0 = .ok (.iload_n 1, 1) := by decide +kernel
theorem dX12_isFirmAs_1 : decode cX12_isFirmAs 1 = .ok (.iload_n 2, 1) := by decide +kernel
theorem dX12_isFirmAs_2 : decode cX12_isFirmAs 2 = .ok (.ixor, 1) := by decide +kernel
theorem dX12_isFirmAs_3 : decode cX12_isFirmAs 3 = .ok (.aload_n 0, 1) := by decide +kernel
theorem dX12_isFirmAs_4 : decode cX12_isFirmAs 4 = .ok (.getfield 140, 3) := by decide +kernel
theorem dX12_isFirmAs_7 : decode cX12_isFirmAs 7 = .ok (.iand, 1) := by decide +kernel
theorem dX12_isFirmAs_8 : decode cX12_isFirmAs 8 = .ok (.ifCond .ne 7, 3) := by decide +kernel
theorem dX12_isFirmAs_11 : decode cX12_isFirmAs 11 = .ok (.iconst 1, 1) := by decide +kernel
theorem dX12_isFirmAs_12 : decode cX12_isFirmAs 12 = .ok (.goto 4, 3) := by decide +kernel
theorem dX12_isFirmAs_15 : decode cX12_isFirmAs 15 = .ok (.iconst 0, 1) := by decide +kernel
theorem dX12_isFirmAs_16 : decode cX12_isFirmAs 16 = .ok (.ireturn, 1) := by decide +kernel
set_option maxHeartbeats 4000000 in
set_option maxRecDepth 20000 in
theorem c_m_isFirmAs {G : Gx} {d : Nat} {x1 : Int32} {x2 : Int32} {μ : Mem} {r : Int32 × Mem} (hf : f_m_isFirmAs x1 x2 μ = some r) : Con G M_m_isFirmAs (d + 0) [.ref (gA G 111), .int x1, .int x2] μ (some (.int r.1), r.2) := by
  refine Con.ofZ ⟨rfl, rfl, Nat.le_of_ble_eq_true rfl⟩ rfl (fun X hG hX hr dy => ?_)
  subst hG
  show AW X 0 [(0, .ref (gA (xG X) 111)), (1, .int x1), (2, .int x2)] [] μ dy
  unfold f_m_isFirmAs at hf
  refine r_iload_n hX dX12_isFirmAs_0 1 rfl ?_
  refine r_iload_n hX dX12_isFirmAs_1 2 rfl ?_
  refine r_ixor hX dX12_isFirmAs_2 ?_
  refine r_aload_n hX dX12_isFirmAs_3 0 rfl ?_
  refine r_get hX fl_X12_140 (w_111 _ _ _) rfl dX12_isFirmAs_4 ?_
  refine r_iand hX dX12_isFirmAs_7 ?_
  obtain ⟨v1, e2, hf⟩ := bnd_eq hf
  have J3 : AW X 16 [(0, .ref (gA (xG X) 111)), (1, .int x1), (2, .int x2)] [.int v1] μ dy := by
    obtain ⟨b4, hf⟩ := chk_eq hf
    exact fin_Z hf hr _ _ _ (zb_nar b4) dX12_isFirmAs_16
  refine r_if_ne hX 15 dX12_isFirmAs_8 rfl (fun hc5 => ?_) (fun hc5 => ?_)
  · refine r_iconst hX (0 : Int32) dX12_isFirmAs_15 rfl ?_
    exact r_topI (e2.trans (by rw [if_neg hc5])) J3
  · refine r_iconst hX (1 : Int32) dX12_isFirmAs_11 rfl ?_
    refine r_goto hX 16 dX12_isFirmAs_12 rfl ?_
    exact r_topI (e2.trans (by rw [if_pos hc5])) J3
theorem dX12_ahead_0 : decode cX12_ahead 0 = .ok (.aload_n 0, 1) := by decide +kernel
theorem dX12_ahead_1 : decode cX12_ahead 1 = .ok (.iconst 0, 1) := by decide +kernel
theorem dX12_ahead_2 : decode cX12_ahead 2 = .ok (.putfield 80, 3) := by decide +kernel
theorem dX12_ahead_5 : decode cX12_ahead 5 = .ok (.iload_n 1, 1) := by decide +kernel
theorem dX12_ahead_6 : decode cX12_ahead 6 = .ok (.iconst 1, 1) := by decide +kernel
theorem dX12_ahead_7 : decode cX12_ahead 7 = .ok (.iconst 3, 1) := by decide +kernel
theorem dX12_ahead_8 : decode cX12_ahead 8 = .ok (.invokestatic 89, 3) := by decide +kernel
theorem dX12_ahead_11 : decode cX12_ahead 11 = .ok (.ifCond .ne 5, 3) := by decide +kernel
theorem dX12_ahead_14 : decode cX12_ahead 14 = .ok (.iconst (-1), 1) := by decide +kernel
theorem dX12_ahead_15 : decode cX12_ahead 15 = .ok (.ireturn, 1) := by decide +kernel
theorem dX12_ahead_16 : decode cX12_ahead 16 = .ok (.iconst 0, 1) := by decide +kernel
theorem dX12_ahead_17 : decode cX12_ahead 17 = .ok (.istore_n 2, 1) := by decide +kernel
theorem dX12_ahead_18 : decode cX12_ahead 18 = .ok (.iconst (-1), 1) := by decide +kernel
theorem dX12_ahead_19 : decode cX12_ahead 19 = .ok (.istore_n 3, 1) := by decide +kernel
theorem dX12_ahead_20 : decode cX12_ahead 20 = .ok (.aload_n 0, 1) := by decide +kernel
theorem dX12_ahead_21 : decode cX12_ahead 21 = .ok (.invokevirtual 93, 3) := by decide +kernel
theorem dX12_ahead_24 : decode cX12_ahead 24 = .ok (.istore 4, 2) := by decide +kernel
theorem dX12_ahead_26 : decode cX12_ahead 26 = .ok (.iload 4, 2) := by decide +kernel
theorem dX12_ahead_28 : decode cX12_ahead 28 = .ok (.ifCond .lt 45, 3) := by decide +kernel
theorem dX12_ahead_31 : decode cX12_ahead 31 = .ok (.aload_n 0, 1) := by decide +kernel
theorem dX12_ahead_32 : decode cX12_ahead 32 = .ok (.iload 4, 2) := by decide +kernel
theorem dX12_ahead_34 : decode cX12_ahead 34 = .ok (.aload_n 0, 1) := by decide +kernel
theorem dX12_ahead_35 : decode cX12_ahead 35 = .ok (.invokevirtual 137, 3) := by decide +kernel
theorem dX12_ahead_38 : decode cX12_ahead 38 = .ok (.invokevirtual 241, 3) := by decide +kernel
theorem dX12_ahead_41 : decode cX12_ahead 41 = .ok (.ifCond .eq 26, 3) := by decide +kernel
theorem dX12_ahead_44 : decode cX12_ahead 44 = .ok (.aload_n 0, 1) := by decide +kernel
theorem dX12_ahead_45 : decode cX12_ahead 45 = .ok (.iload 4, 2) := by decide +kernel
theorem dX12_ahead_47 : decode cX12_ahead 47 = .ok (.iload_n 1, 1) := by decide +kernel
theorem dX12_ahead_48 : decode cX12_ahead 48 = .ok (.invokevirtual 231, 3) := by decide +kernel
theorem dX12_ahead_51 : decode cX12_ahead 51 = .ok (.aload_n 0, 1) := by decide +kernel
theorem dX12_ahead_52 : decode cX12_ahead 52 = .ok (.invokevirtual 137, 3) := by decide +kernel
theorem dX12_ahead_55 : decode cX12_ahead 55 = .ok (.if_icmp .eq 6, 3) := by decide +kernel
theorem dX12_ahead_58 : decode cX12_ahead 58 = .ok (.goto 9, 3) := by decide +kernel
theorem dX12_ahead_61 : decode cX12_ahead 61 = .ok (.iinc 2 1, 3) := by decide +kernel
theorem dX12_ahead_64 : decode cX12_ahead 64 = .ok (.iload 4, 2) := by decide +kernel
theorem dX12_ahead_66 : decode cX12_ahead 66 = .ok (.istore_n 3, 1) := by decide +kernel
theorem dX12_ahead_67 : decode cX12_ahead 67 = .ok (.iinc 4 (-1), 3) := by decide +kernel
theorem dX12_ahead_70 : decode cX12_ahead 70 = .ok (.goto (-44), 3) := by decide +kernel
theorem dX12_ahead_73 : decode cX12_ahead 73 = .ok (.aload_n 0, 1) := by decide +kernel
theorem dX12_ahead_74 : decode cX12_ahead 74 = .ok (.iconst 0, 1) := by decide +kernel
theorem dX12_ahead_75 : decode cX12_ahead 75 = .ok (.putfield 83, 3) := by decide +kernel
theorem dX12_ahead_78 : decode cX12_ahead 78 = .ok (.iload_n 2, 1) := by decide +kernel
theorem dX12_ahead_79 : decode cX12_ahead 79 = .ok (.ifCond .le 9, 3) := by decide +kernel
theorem dX12_ahead_82 : decode cX12_ahead 82 = .ok (.aload_n 0, 1) := by decide +kernel
theorem dX12_ahead_83 : decode cX12_ahead 83 = .ok (.iload_n 3, 1) := by decide +kernel
theorem dX12_ahead_84 : decode cX12_ahead 84 = .ok (.i2l, 1) := by decide +kernel
theorem dX12_ahead_85 : decode cX12_ahead 85 = .ok (.invokevirtual 217, 3) := by decide +kernel
theorem dX12_ahead_88 : decode cX12_ahead 88 = .ok (.iload_n 2, 1) := by decide +kernel
theorem dX12_ahead_89 : decode cX12_ahead 89 = .ok (.ireturn, 1) := by decide +kernel
set_option maxHeartbeats 4000000 in
set_option maxRecDepth 20000 in
theorem b_m_ahead_b26 {X : Cx} {d : Nat} (hX : Ok M_m_ahead (d + 5) X) {r : Int32 × Mem} (hr : RetI M_m_ahead X r.1 r.2) : ∀ (n : Nat) (x1 : Int32) (x2 : Int32) (x3 : Int32) (x4 : Int32) (μ : Mem) (dy : Nat → Nat), f_m_ahead_b26 n x1 x2 x3 x4 μ = some r → AW X 26 [(0, .ref (gA (xG X) 111)), (1, .int x1), (2, .int x2), (3, .int x3), (4, .int x4)] [] μ dy := by
  intro n
  induction n with
  | zero => intro x1 x2 x3 x4 μ dy hf; exact nomatch hf
  | succ n ih =>
    intro x1 x2 x3 x4 μ dy hf
    rw [f_m_ahead_b26] at hf
    refine r_iload hX dX12_ahead_26 4 rfl ?_
    refine r_if_lt hX 73 dX12_ahead_28 rfl (fun hc10 => ?_) (fun hc10 => ?_)
    · rw [if_pos hc10] at hf
      refine r_aload_n hX dX12_ahead_73 0 rfl ?_
      refine r_iconst hX (0 : Int32) dX12_ahead_74 rfl ?_
      obtain ⟨μ11, e12, hf⟩ := bnd_eq hf
      refine r_put hX fl_X12_83 ft_X12_10 (w_111 _ _ _) rfl rfl rfl (s_111_10 _ _ _ _) e12 rfl dX12_ahead_75 ?_
      refine r_iload_n hX dX12_ahead_78 2 rfl ?_
      refine r_if_le hX 88 dX12_ahead_79 rfl (fun hc13 => ?_) (fun hc13 => ?_)
      · rw [if_pos hc13] at hf
        refine r_iload_n hX dX12_ahead_88 2 rfl ?_
        exact fin_I hf hr _ _ _ dX12_ahead_89
      · rw [if_neg hc13] at hf
        refine r_aload_n hX dX12_ahead_82 0 rfl ?_
        refine r_iload_n hX dX12_ahead_83 3 rfl ?_
        refine r_i2l hX dX12_ahead_84 ?_
        obtain ⟨μ14, h15, hf⟩ := bd1_eq hf
        refine r_callVV (Ok.le hX (by omega)) (c_m_tell (d := d)  h15) cv_X12_217 (w_111 _ _ _) rfl rfl (st := []) rfl rfl rfl dX12_ahead_85 (fun dy => ?_)
        refine r_iload_n hX dX12_ahead_88 2 rfl ?_
        exact fin_I hf hr _ _ _ dX12_ahead_89
    · rw [if_neg hc10] at hf
      refine r_aload_n hX dX12_ahead_31 0 rfl ?_
      refine r_iload hX dX12_ahead_32 4 rfl ?_
      refine r_aload_n hX dX12_ahead_34 0 rfl ?_
      obtain ⟨v18, μ16, h17, hf⟩ := bd2_eq hf
      refine r_callVI (Ok.le hX (by omega)) (c_m_now (d := d)  h17) cv_X12_137 (w_111 _ _ _) rfl rfl (st := [.int x4, .ref (gA (xG X) 111)]) rfl rfl rfl dX12_ahead_35 (fun dy => ?_)
      obtain ⟨v21, μ19, h20, hf⟩ := bd2_eq hf
      refine r_callVI (Ok.le hX (by omega)) (c_m_isFirmAs (d := d)  h20) cv_X12_241 (w_111 _ _ _) rfl rfl (st := []) rfl rfl rfl dX12_ahead_38 (fun dy => ?_)
      refine r_if_eq hX 67 dX12_ahead_41 rfl (fun hc22 => ?_) (fun hc22 => ?_)
      · rw [if_pos hc22] at hf
        refine r_iinc hX (x4 + (-1 : Int32)) dX12_ahead_67 4 rfl rfl rfl (ls' := [(4, .int (x4 + (-1 : Int32))), (0, .ref (gA (xG X) 111)), (1, .int x1), (2, .int x2), (3, .int x3)]) rfl ?_
        refine r_goto hX 26 dX12_ahead_70 rfl ?_
        refine r_weak [1, 2, 3, 4, 0] rfl ?_
        exact ih _ _ _ _ _ _ hf
      · rw [if_neg hc22] at hf
        refine r_aload_n hX dX12_ahead_44 0 rfl ?_
        refine r_iload hX dX12_ahead_45 4 rfl ?_
        refine r_iload_n hX dX12_ahead_47 1 rfl ?_
        obtain ⟨v25, μ23, h24, hf⟩ := bd2_eq hf
        refine r_callVI (Ok.le hX (by omega)) (c_m_after (d := d)  h24) cv_X12_231 (w_111 _ _ _) rfl rfl (st := []) rfl rfl rfl dX12_ahead_48 (fun dy => ?_)
        refine r_aload_n hX dX12_ahead_51 0 rfl ?_
        obtain ⟨v28, μ26, h27, hf⟩ := bd2_eq hf
        refine r_callVI (Ok.le hX (by omega)) (c_m_now (d := d)  h27) cv_X12_137 (w_111 _ _ _) rfl rfl (st := [.int v25]) rfl rfl rfl dX12_ahead_52 (fun dy => ?_)
        refine r_icmp_eq hX 61 dX12_ahead_55 rfl (fun hc29 => ?_) (fun hc29 => ?_)
        · rw [if_pos hc29] at hf
          refine r_iinc hX (x2 + (1 : Int32)) dX12_ahead_61 2 rfl rfl rfl (ls' := [(2, .int (x2 + (1 : Int32))), (0, .ref (gA (xG X) 111)), (1, .int x1), (3, .int x3), (4, .int x4)]) rfl ?_
          refine r_iload hX dX12_ahead_64 4 rfl ?_
          refine r_istore_n hX dX12_ahead_66 rfl (ls' := [(3, .int x4), (2, .int (x2 + (1 : Int32))), (0, .ref (gA (xG X) 111)), (1, .int x1), (4, .int x4)]) rfl ?_
          refine r_iinc hX (x4 + (-1 : Int32)) dX12_ahead_67 4 rfl rfl rfl (ls' := [(4, .int (x4 + (-1 : Int32))), (3, .int x4), (2, .int (x2 + (1 : Int32))), (0, .ref (gA (xG X) 111)), (1, .int x1)]) rfl ?_
          refine r_goto hX 26 dX12_ahead_70 rfl ?_
          refine r_weak [3, 4, 2, 1, 0] rfl ?_
          exact ih _ _ _ _ _ _ hf
        · rw [if_neg hc29] at hf
          refine r_goto hX 67 dX12_ahead_58 rfl ?_
          refine r_iinc hX (x4 + (-1 : Int32)) dX12_ahead_67 4 rfl rfl rfl (ls' := [(4, .int (x4 + (-1 : Int32))), (0, .ref (gA (xG X) 111)), (1, .int x1), (2, .int x2), (3, .int x3)]) rfl ?_
          refine r_goto hX 26 dX12_ahead_70 rfl ?_
          refine r_weak [1, 2, 3, 4, 0] rfl ?_
          exact ih _ _ _ _ _ _ hf
set_option maxHeartbeats 4000000 in
set_option maxRecDepth 20000 in
theorem c_m_ahead {G : Gx} {d : Nat} {x1 : Int32} {μ : Mem} {r : Int32 × Mem} (hf : f_m_ahead x1 μ = some r) : Con G M_m_ahead (d + 5) [.ref (gA G 111), .int x1] μ (some (.int r.1), r.2) := by
  refine Con.ofI ⟨rfl, rfl, Nat.le_of_ble_eq_true rfl⟩ rfl rfl (fun X hG hX hr dy => ?_)
  subst hG
  show AW X 0 [(0, .ref (gA (xG X) 111)), (1, .int x1)] [] μ dy
  unfold f_m_ahead at hf
  refine r_aload_n hX dX12_ahead_0 0 rfl ?_
  refine r_iconst hX (0 : Int32) dX12_ahead_1 rfl ?_
  obtain ⟨μ1, e2, hf⟩ := bnd_eq hf
  refine r_put hX fl_X12_80 ft_X12_11 (w_111 _ _ _) rfl rfl rfl (s_111_11 _ _ _ _) e2 rfl dX12_ahead_2 ?_
  refine r_iload_n hX dX12_ahead_5 1 rfl ?_
  refine r_iconst hX (1 : Int32) dX12_ahead_6 rfl ?_
  refine r_iconst hX (3 : Int32) dX12_ahead_7 rfl ?_
  obtain ⟨v5, μ3, h4, hf⟩ := bd2_eq hf
  refine r_callSI (Ok.le hX (by omega)) (c_m_in (d := d)  h4) cs_X12_89 (st := []) rfl rfl rfl dX12_ahead_8 (fun dy => ?_)
  refine r_if_ne hX 16 dX12_ahead_11 rfl (fun hc6 => ?_) (fun hc6 => ?_)
  · rw [if_neg hc6] at hf
    refine r_iconst hX (0 : Int32) dX12_ahead_16 rfl ?_
    refine r_istore_n hX dX12_ahead_17 rfl (ls' := [(2, .int (0 : Int32)), (0, .ref (gA (xG X) 111)), (1, .int x1)]) rfl ?_
    refine r_iconst hX (-1 : Int32) dX12_ahead_18 rfl ?_
    refine r_istore_n hX dX12_ahead_19 rfl (ls' := [(3, .int (-1 : Int32)), (2, .int (0 : Int32)), (0, .ref (gA (xG X) 111)), (1, .int x1)]) rfl ?_
    refine r_aload_n hX dX12_ahead_20 2 rfl ?_
    obtain ⟨v9, μ7, h8, hf⟩ := bd2_eq hf
    refine r_callVI (Ok.le hX (by omega)) (c_m_everybody (d := d)  h8) cv_X12_93 (w_111 _ _ _) rfl rfl (st := []) rfl rfl rfl dX12_ahead_21 (fun dy => ?_)
    refine r_istore hX dX12_ahead_24 rfl (ls' := [(4, .int v9), (3, .int (-1 : Int32)), (2, .int (0 : Int32)), (0, .ref (gA (xG X) 111)), (1, .int x1)]) rfl ?_
    refine r_weak [3, 4, 2, 1, 0] rfl ?_
    exact b_m_ahead_b26 hX hr FU _ _ _ _ _ _ hf
  · rw [if_pos hc6] at hf
    refine r_iconst hX (-1 : Int32) dX12_ahead_14 rfl ?_
    exact fin_I hf hr _ _ _ dX12_ahead_15
theorem dX12_twins_0 : decode cX12_twins 0 = .ok (.aload_n 0, 1) := by decide +kernel
theorem dX12_twins_1 : decode cX12_twins 1 = .ok (.iconst 0, 1) := by decide +kernel
theorem dX12_twins_2 : decode cX12_twins 2 = .ok (.putfield 80, 3) := by decide +kernel
theorem dX12_twins_5 : decode cX12_twins 5 = .ok (.aload_n 0, 1) := by decide +kernel
theorem dX12_twins_6 : decode cX12_twins 6 = .ok (.iload_n 1, 1) := by decide +kernel
theorem dX12_twins_7 : decode cX12_twins 7 = .ok (.invokevirtual 193, 3) := by decide +kernel
theorem dX12_twins_10 : decode cX12_twins 10 = .ok (.ifCond .ne 5, 3) := by decide +kernel
theorem dX12_twins_13 : decode cX12_twins 13 = .ok (.iconst (-1), 1) := by decide +kernel
theorem dX12_twins_14 : decode cX12_twins 14 = .ok (.ireturn, 1) := by decide +kernel
theorem dX12_twins_15 : decode cX12_twins 15 = .ok (.aload_n 0, 1) := by decide +kernel
theorem dX12_twins_16 : decode cX12_twins 16 = .ok (.iload_n 1, 1) := by decide +kernel
theorem dX12_twins_17 : decode cX12_twins 17 = .ok (.invokevirtual 190, 3) := by decide +kernel
theorem dX12_twins_20 : decode cX12_twins 20 = .ok (.istore_n 2, 1) := by decide +kernel
theorem dX12_twins_21 : decode cX12_twins 21 = .ok (.iconst 0, 1) := by decide +kernel
theorem dX12_twins_22 : decode cX12_twins 22 = .ok (.istore_n 3, 1) := by decide +kernel
theorem dX12_twins_23 : decode cX12_twins 23 = .ok (.iconst (-1), 1) := by decide +kernel
theorem dX12_twins_24 : decode cX12_twins 24 = .ok (.istore 4, 2) := by decide +kernel
theorem dX12_twins_26 : decode cX12_twins 26 = .ok (.iconst 0, 1) := by decide +kernel
theorem dX12_twins_27 : decode cX12_twins 27 = .ok (.istore 5, 2) := by decide +kernel
theorem dX12_twins_29 : decode cX12_twins 29 = .ok (.iconst 0, 1) := by decide +kernel
theorem dX12_twins_30 : decode cX12_twins 30 = .ok (.istore 6, 2) := by decide +kernel
theorem dX12_twins_32 : decode cX12_twins 32 = .ok (.iload 6, 2) := by decide +kernel
theorem dX12_twins_34 : decode cX12_twins 34 = .ok (.aload_n 0, 1) := by decide +kernel
theorem dX12_twins_35 : decode cX12_twins 35 = .ok (.invokevirtual 93, 3) := by decide +kernel
theorem dX12_twins_38 : decode cX12_twins 38 = .ok (.if_icmp .gt 74, 3) := by decide +kernel
theorem dX12_twins_41 : decode cX12_twins 41 = .ok (.iload 6, 2) := by decide +kernel
theorem dX12_twins_43 : decode cX12_twins 43 = .ok (.iload_n 1, 1) := by decide +kernel
theorem dX12_twins_44 : decode cX12_twins 44 = .ok (.if_icmp .eq 62, 3) := by decide +kernel
theorem dX12_twins_47 : decode cX12_twins 47 = .ok (.aload_n 0, 1) := by decide +kernel
theorem dX12_twins_48 : decode cX12_twins 48 = .ok (.iload 6, 2) := by decide +kernel
theorem dX12_twins_50 : decode cX12_twins 50 = .ok (.iload_n 1, 1) := by decide +kernel
theorem dX12_twins_51 : decode cX12_twins 51 = .ok (.invokevirtual 241, 3) := by decide +kernel
theorem dX12_twins_54 : decode cX12_twins 54 = .ok (.ifCond .eq 52, 3) := by decide +kernel
theorem dX12_twins_57 : decode cX12_twins 57 = .ok (.aload_n 0, 1) := by decide +kernel
theorem dX12_twins_58 : decode cX12_twins 58 = .ok (.iload 6, 2) := by decide +kernel
theorem dX12_twins_60 : decode cX12_twins 60 = .ok (.invokevirtual 190, 3) := by decide +kernel
theorem dX12_twins_63 : decode cX12_twins 63 = .ok (.iload_n 2, 1) := by decide +kernel
theorem dX12_twins_64 : decode cX12_twins 64 = .ok (.if_icmp .eq 6, 3) := by decide +kernel
theorem dX12_twins_67 : decode cX12_twins 67 = .ok (.goto 39, 3) := by decide +kernel
theorem dX12_twins_70 : decode cX12_twins 70 = .ok (.iinc 3 1, 3) := by decide +kernel
theorem dX12_twins_73 : decode cX12_twins 73 = .ok (.iload 6, 2) := by decide +kernel
theorem dX12_twins_75 : decode cX12_twins 75 = .ok (.iload_n 1, 1) := by decide +kernel
theorem dX12_twins_76 : decode cX12_twins 76 = .ok (.ixor, 1) := by decide +kernel
theorem dX12_twins_77 : decode cX12_twins 77 = .ok (.invokestatic 244, 3) := by decide +kernel
theorem dX12_twins_80 : decode cX12_twins 80 = .ok (.istore 7, 2) := by decide +kernel
theorem dX12_twins_82 : decode cX12_twins 82 = .ok (.iload 4, 2) := by decide +kernel
theorem dX12_twins_84 : decode cX12_twins 84 = .ok (.iconst (-1), 1) := by decide +kernel
theorem dX12_twins_85 : decode cX12_twins 85 = .ok (.if_icmp .eq 13, 3) := by decide +kernel
theorem dX12_twins_88 : decode cX12_twins 88 = .ok (.iload 7, 2) := by decide +kernel
theorem dX12_twins_90 : decode cX12_twins 90 = .ok (.iload 5, 2) := by decide +kernel
theorem dX12_twins_92 : decode cX12_twins 92 = .ok (.if_icmp .lt 6, 3) := by decide +kernel
theorem dX12_twins_95 : decode cX12_twins 95 = .ok (.goto 11, 3) := by decide +kernel
theorem dX12_twins_98 : decode cX12_twins 98 = .ok (.iload 6, 2) := by decide +kernel
theorem dX12_twins_100 : decode cX12_twins 100 = .ok (.istore 4, 2) := by decide +kernel
theorem dX12_twins_102 : decode cX12_twins 102 = .ok (.iload 7, 2) := by decide +kernel
theorem dX12_twins_104 : decode cX12_twins 104 = .ok (.istore 5, 2) := by decide +kernel
theorem dX12_twins_106 : decode cX12_twins 106 = .ok (.iinc 6 1, 3) := by decide +kernel
theorem dX12_twins_109 : decode cX12_twins 109 = .ok (.goto (-77), 3) := by decide +kernel
theorem dX12_twins_112 : decode cX12_twins 112 = .ok (.aload_n 0, 1) := by decide +kernel
theorem dX12_twins_113 : decode cX12_twins 113 = .ok (.iconst 0, 1) := by decide +kernel
theorem dX12_twins_114 : decode cX12_twins 114 = .ok (.putfield 83, 3) := by decide +kernel
theorem dX12_twins_117 : decode cX12_twins 117 = .ok (.iload_n 3, 1) := by decide +kernel
theorem dX12_twins_118 : decode cX12_twins 118 = .ok (.ifCond .le 17, 3) := by decide +kernel
theorem dX12_twins_121 : decode cX12_twins 121 = .ok (.aload_n 0, 1) := by decide +kernel
theorem dX12_twins_122 : decode cX12_twins 122 = .ok (.iload 4, 2) := by decide +kernel
theorem dX12_twins_124 : decode cX12_twins 124 = .ok (.i2l, 1) := by decide +kernel
theorem dX12_twins_125 : decode cX12_twins 125 = .ok (.invokevirtual 217, 3) := by decide +kernel
theorem dX12_twins_128 : decode cX12_twins 128 = .ok (.aload_n 0, 1) := by decide +kernel
theorem dX12_twins_129 : decode cX12_twins 129 = .ok (.iload 5, 2) := by decide +kernel
theorem dX12_twins_131 : decode cX12_twins 131 = .ok (.i2l, 1) := by decide +kernel
theorem dX12_twins_132 : decode cX12_twins 132 = .ok (.invokevirtual 217, 3) := by decide +kernel
theorem dX12_twins_135 : decode cX12_twins 135 = .ok (.iload_n 3, 1) := by decide +kernel
theorem dX12_twins_136 : decode cX12_twins 136 = .ok (.ireturn, 1) := by decide +kernel
set_option maxHeartbeats 4000000 in
set_option maxRecDepth 20000 in
theorem b_m_twins_b98 {X : Cx} {d : Nat} (hX : Ok M_m_twins (d + 4) X) {r : Int32 × Mem} (hr : RetI M_m_twins X r.1 r.2) {k32 : Int32 → Int32 → Int32 → Int32 → Int32 → Int32 → Mem → Option (Int32 × Mem)} (hk32 : ∀ (x1 : Int32) (x2 : Int32) (x3 : Int32) (x4 : Int32) (x5 : Int32) (x6 : Int32) (μ : Mem) (dy : Nat → Nat), k32 x1 x2 x3 x4 x5 x6 μ = some r → AW X 32 [(0, .ref (gA (xG X) 111)), (1, .int x1), (2, .int x2), (3, .int x3), (4, .int x4), (5, .int x5), (6, .int x6)] [] μ dy) (x1 : Int32) (x2 : Int32) (x3 : Int32) (x6 : Int32) (x7 : Int32) (μ : Mem) (dy : Nat → Nat) (hf : f_m_twins_b98 k32 x1 x2 x3 x6 x7 μ = some r) : AW X 98 [(0, .ref (gA (xG X) 111)), (1, .int x1), (2, .int x2), (3, .int x3), (6, .int x6), (7, .int x7)] [] μ dy := by
  unfold f_m_twins_b98 at hf
  refine r_iload hX dX12_twins_98 4 rfl ?_
  refine r_istore hX dX12_twins_100 rfl (ls' := [(4, .int x6), (0, .ref (gA (xG X) 111)), (1, .int x1), (2, .int x2), (3, .int x3), (6, .int x6), (7, .int x7)]) rfl ?_
  refine r_iload hX dX12_twins_102 6 rfl ?_
  refine r_istore hX dX12_twins_104 rfl (ls' := [(5, .int x7), (4, .int x6), (0, .ref (gA (xG X) 111)), (1, .int x1), (2, .int x2), (3, .int x3), (6, .int x6), (7, .int x7)]) rfl ?_
  refine r_iinc hX (x6 + (1 : Int32)) dX12_twins_106 6 rfl rfl rfl (ls' := [(6, .int (x6 + (1 : Int32))), (5, .int x7), (4, .int x6), (0, .ref (gA (xG X) 111)), (1, .int x1), (2, .int x2), (3, .int x3), (7, .int x7)]) rfl ?_
  refine r_goto hX 32 dX12_twins_109 rfl ?_
  refine r_weak [3, 4, 5, 6, 2, 1, 0] rfl ?_
  exact hk32 _ _ _ _ _ _ _ _ hf
set_option maxHeartbeats 4000000 in
set_option maxRecDepth 20000 in
theorem b_m_twins_b32 {X : Cx} {d : Nat} (hX : Ok M_m_twins (d + 4) X) {r : Int32 × Mem} (hr : RetI M_m_twins X r.1 r.2) : ∀ (n : Nat) (x1 : Int32) (x2 : Int32) (x3 : Int32) (x4 : Int32) (x5 : Int32) (x6 : Int32) (μ : Mem) (dy : Nat → Nat), f_m_twins_b32 n x1 x2 x3 x4 x5 x6 μ = some r → AW X 32 [(0, .ref (gA (xG X) 111)), (1, .int x1), (2, .int x2), (3, .int x3), (4, .int x4), (5, .int x5), (6, .int x6)] [] μ dy := by
  intro n
  induction n with
  | zero => intro x1 x2 x3 x4 x5 x6 μ dy hf; exact nomatch hf
  | succ n ih =>
    intro x1 x2 x3 x4 x5 x6 μ dy hf
    rw [f_m_twins_b32] at hf
    refine r_iload hX dX12_twins_32 6 rfl ?_
    refine r_aload_n hX dX12_twins_34 0 rfl ?_
    obtain ⟨v12, μ10, h11, hf⟩ := bd2_eq hf
    refine r_callVI (Ok.le hX (by omega)) (c_m_everybody (d := d)  h11) cv_X12_93 (w_111 _ _ _) rfl rfl (st := [.int x6]) rfl rfl rfl dX12_twins_35 (fun dy => ?_)
    refine r_icmp_gt hX 112 dX12_twins_38 rfl (fun hc13 => ?_) (fun hc13 => ?_)
    · rw [if_pos hc13] at hf
      refine r_aload_n hX dX12_twins_112 0 rfl ?_
      refine r_iconst hX (0 : Int32) dX12_twins_113 rfl ?_
      obtain ⟨μ14, e15, hf⟩ := bnd_eq hf
      refine r_put hX fl_X12_83 ft_X12_10 (w_111 _ _ _) rfl rfl rfl (s_111_10 _ _ _ _) e15 rfl dX12_twins_114 ?_
      refine r_iload_n hX dX12_twins_117 3 rfl ?_
      refine r_if_le hX 135 dX12_twins_118 rfl (fun hc16 => ?_) (fun hc16 => ?_)
      · rw [if_pos hc16] at hf
        refine r_iload_n hX dX12_twins_135 3 rfl ?_
        exact fin_I hf hr _ _ _ dX12_twins_136
      · rw [if_neg hc16] at hf
        refine r_aload_n hX dX12_twins_121 0 rfl ?_
        refine r_iload hX dX12_twins_122 4 rfl ?_
        refine r_i2l hX dX12_twins_124 ?_
        obtain ⟨μ17, h18, hf⟩ := bd1_eq hf
        refine r_callVV (Ok.le hX (by omega)) (c_m_tell (d := d)  h18) cv_X12_217 (w_111 _ _ _) rfl rfl (st := []) rfl rfl rfl dX12_twins_125 (fun dy => ?_)
        refine r_aload_n hX dX12_twins_128 0 rfl ?_
        refine r_iload hX dX12_twins_129 5 rfl ?_
        refine r_i2l hX dX12_twins_131 ?_
        obtain ⟨μ19, h20, hf⟩ := bd1_eq hf
        refine r_callVV (Ok.le hX (by omega)) (c_m_tell (d := d)  h20) cv_X12_217 (w_111 _ _ _) rfl rfl (st := []) rfl rfl rfl dX12_twins_132 (fun dy => ?_)
        refine r_iload_n hX dX12_twins_135 3 rfl ?_
        exact fin_I hf hr _ _ _ dX12_twins_136
    · rw [if_neg hc13] at hf
      refine r_iload hX dX12_twins_41 6 rfl ?_
      refine r_iload_n hX dX12_twins_43 1 rfl ?_
      refine r_icmp_eq hX 106 dX12_twins_44 rfl (fun hc21 => ?_) (fun hc21 => ?_)
      · rw [if_pos hc21] at hf
        refine r_iinc hX (x6 + (1 : Int32)) dX12_twins_106 6 rfl rfl rfl (ls' := [(6, .int (x6 + (1 : Int32))), (0, .ref (gA (xG X) 111)), (1, .int x1), (2, .int x2), (3, .int x3), (4, .int x4), (5, .int x5)]) rfl ?_
        refine r_goto hX 32 dX12_twins_109 rfl ?_
        refine r_weak [1, 2, 3, 4, 5, 6, 0] rfl ?_
        exact ih _ _ _ _ _ _ _ _ hf
      · rw [if_neg hc21] at hf
        refine r_aload_n hX dX12_twins_47 0 rfl ?_
        refine r_iload hX dX12_twins_48 6 rfl ?_
        refine r_iload_n hX dX12_twins_50 1 rfl ?_
        obtain ⟨v24, μ22, h23, hf⟩ := bd2_eq hf
        refine r_callVI (Ok.le hX (by omega)) (c_m_isFirmAs (d := d)  h23) cv_X12_241 (w_111 _ _ _) rfl rfl (st := []) rfl rfl rfl dX12_twins_51 (fun dy => ?_)
        refine r_if_eq hX 106 dX12_twins_54 rfl (fun hc25 => ?_) (fun hc25 => ?_)
        · rw [if_pos hc25] at hf
          refine r_iinc hX (x6 + (1 : Int32)) dX12_twins_106 6 rfl rfl rfl (ls' := [(6, .int (x6 + (1 : Int32))), (0, .ref (gA (xG X) 111)), (1, .int x1), (2, .int x2), (3, .int x3), (4, .int x4), (5, .int x5)]) rfl ?_
          refine r_goto hX 32 dX12_twins_109 rfl ?_
          refine r_weak [1, 2, 3, 4, 5, 6, 0] rfl ?_
          exact ih _ _ _ _ _ _ _ _ hf
        · rw [if_neg hc25] at hf
          refine r_aload_n hX dX12_twins_57 0 rfl ?_
          refine r_iload hX dX12_twins_58 6 rfl ?_
          obtain ⟨v28, μ26, h27, hf⟩ := bd2_eq hf
          refine r_callVI (Ok.le hX (by omega)) (c_m_next (d := d)  h27) cv_X12_190 (w_111 _ _ _) rfl rfl (st := []) rfl rfl rfl dX12_twins_60 (fun dy => ?_)
          refine r_iload_n hX dX12_twins_63 2 rfl ?_
          refine r_icmp_eq hX 70 dX12_twins_64 rfl (fun hc29 => ?_) (fun hc29 => ?_)
          · rw [if_pos hc29] at hf
            refine r_iinc hX (x3 + (1 : Int32)) dX12_twins_70 3 rfl rfl rfl (ls' := [(3, .int (x3 + (1 : Int32))), (0, .ref (gA (xG X) 111)), (1, .int x1), (2, .int x2), (4, .int x4), (5, .int x5), (6, .int x6)]) rfl ?_
            refine r_iload hX dX12_twins_73 6 rfl ?_
            refine r_iload_n hX dX12_twins_75 2 rfl ?_
            refine r_ixor hX dX12_twins_76 ?_
            obtain ⟨v32, μ30, h31, hf⟩ := bd2_eq hf
            refine r_callSI (Ok.le hX (by omega)) (c_jd_bitCount (d := d)  h31) cs_X12_244 (st := []) rfl rfl rfl dX12_twins_77 (fun dy => ?_)
            refine r_istore hX dX12_twins_80 rfl (ls' := [(7, .int v32), (3, .int (x3 + (1 : Int32))), (0, .ref (gA (xG X) 111)), (1, .int x1), (2, .int x2), (4, .int x4), (5, .int x5), (6, .int x6)]) rfl ?_
            refine r_iload hX dX12_twins_82 5 rfl ?_
            refine r_iconst hX (-1 : Int32) dX12_twins_84 rfl ?_
            refine r_icmp_eq hX 98 dX12_twins_85 rfl (fun hc33 => ?_) (fun hc33 => ?_)
            · rw [if_pos hc33] at hf
              refine r_weak [2, 3, 4, 1, 7, 0] rfl ?_
              exact b_m_twins_b98 hX hr ih _ _ _ _ _ _ _ hf
            · rw [if_neg hc33] at hf
              refine r_iload hX dX12_twins_88 0 rfl ?_
              refine r_iload hX dX12_twins_90 6 rfl ?_
              refine r_icmp_lt hX 98 dX12_twins_92 rfl (fun hc34 => ?_) (fun hc34 => ?_)
              · rw [if_pos hc34] at hf
                refine r_weak [2, 3, 4, 1, 7, 0] rfl ?_
                exact b_m_twins_b98 hX hr ih _ _ _ _ _ _ _ hf
              · rw [if_neg hc34] at hf
                refine r_goto hX 106 dX12_twins_95 rfl ?_
                refine r_iinc hX (x6 + (1 : Int32)) dX12_twins_106 7 rfl rfl rfl (ls' := [(6, .int (x6 + (1 : Int32))), (7, .int v32), (3, .int (x3 + (1 : Int32))), (0, .ref (gA (xG X) 111)), (1, .int x1), (2, .int x2), (4, .int x4), (5, .int x5)]) rfl ?_
                refine r_goto hX 32 dX12_twins_109 rfl ?_
                refine r_weak [3, 4, 5, 2, 6, 7, 0] rfl ?_
                exact ih _ _ _ _ _ _ _ _ hf
          · rw [if_neg hc29] at hf
            refine r_goto hX 106 dX12_twins_67 rfl ?_
            refine r_iinc hX (x6 + (1 : Int32)) dX12_twins_106 6 rfl rfl rfl (ls' := [(6, .int (x6 + (1 : Int32))), (0, .ref (gA (xG X) 111)), (1, .int x1), (2, .int x2), (3, .int x3), (4, .int x4), (5, .int x5)]) rfl ?_
            refine r_goto hX 32 dX12_twins_109 rfl ?_
            refine r_weak [1, 2, 3, 4, 5, 6, 0] rfl ?_
            exact ih _ _ _ _ _ _ _ _ hf
set_option maxHeartbeats 4000000 in
set_option maxRecDepth 20000 in
theorem c_m_twins {G : Gx} {d : Nat} {x1 : Int32} {μ : Mem} {r : Int32 × Mem} (hf : f_m_twins x1 μ = some r) : Con G M_m_twins (d + 4) [.ref (gA G 111), .int x1] μ (some (.int r.1), r.2) := by
  refine Con.ofI ⟨rfl, rfl, Nat.le_of_ble_eq_true rfl⟩ rfl rfl (fun X hG hX hr dy => ?_)
  subst hG
  show AW X 0 [(0, .ref (gA (xG X) 111)), (1, .int x1)] [] μ dy
  unfold f_m_twins at hf
  refine r_aload_n hX dX12_twins_0 0 rfl ?_
  refine r_iconst hX (0 : Int32) dX12_twins_1 rfl ?_
  obtain ⟨μ1, e2, hf⟩ := bnd_eq hf
  refine r_put hX fl_X12_80 ft_X12_11 (w_111 _ _ _) rfl rfl rfl (s_111_11 _ _ _ _) e2 rfl dX12_twins_2 ?_
  refine r_aload_n hX dX12_twins_5 0 rfl ?_
  refine r_iload_n hX dX12_twins_6 1 rfl ?_
  obtain ⟨v5, μ3, h4, hf⟩ := bd2_eq hf
  refine r_callVI (Ok.le hX (by omega)) (c_m_areSome (d := d)  h4) cv_X12_193 (w_111 _ _ _) rfl rfl (st := []) rfl rfl rfl dX12_twins_7 (fun dy => ?_)
  refine r_if_ne hX 15 dX12_twins_10 rfl (fun hc6 => ?_) (fun hc6 => ?_)
  · rw [if_neg hc6] at hf
    refine r_aload_n hX dX12_twins_15 0 rfl ?_
    refine r_iload_n hX dX12_twins_16 1 rfl ?_
    obtain ⟨v9, μ7, h8, hf⟩ := bd2_eq hf
    refine r_callVI (Ok.le hX (by omega)) (c_m_next (d := d)  h8) cv_X12_190 (w_111 _ _ _) rfl rfl (st := []) rfl rfl rfl dX12_twins_17 (fun dy => ?_)
    refine r_istore_n hX dX12_twins_20 rfl (ls' := [(2, .int v9), (0, .ref (gA (xG X) 111)), (1, .int x1)]) rfl ?_
    refine r_iconst hX (0 : Int32) dX12_twins_21 rfl ?_
    refine r_istore_n hX dX12_twins_22 rfl (ls' := [(3, .int (0 : Int32)), (2, .int v9), (0, .ref (gA (xG X) 111)), (1, .int x1)]) rfl ?_
    refine r_iconst hX (-1 : Int32) dX12_twins_23 rfl ?_
    refine r_istore hX dX12_twins_24 rfl (ls' := [(4, .int (-1 : Int32)), (3, .int (0 : Int32)), (2, .int v9), (0, .ref (gA (xG X) 111)), (1, .int x1)]) rfl ?_
    refine r_iconst hX (0 : Int32) dX12_twins_26 rfl ?_
    refine r_istore hX dX12_twins_27 rfl (ls' := [(5, .int (0 : Int32)), (4, .int (-1 : Int32)), (3, .int (0 : Int32)), (2, .int v9), (0, .ref (gA (xG X) 111)), (1, .int x1)]) rfl ?_
    refine r_iconst hX (0 : Int32) dX12_twins_29 rfl ?_
    refine r_istore hX dX12_twins_30 rfl (ls' := [(6, .int (0 : Int32)), (5, .int (0 : Int32)), (4, .int (-1 : Int32)), (3, .int (0 : Int32)), (2, .int v9), (0, .ref (gA (xG X) 111)), (1, .int x1)]) rfl ?_
    refine r_weak [5, 6, 4, 3, 2, 1, 0] rfl ?_
    exact b_m_twins_b32 hX hr FU _ _ _ _ _ _ _ _ hf
  · rw [if_pos hc6] at hf
    refine r_iconst hX (-1 : Int32) dX12_twins_13 rfl ?_
    exact fin_I hf hr _ _ _ dX12_twins_14
theorem dX12_first_0 : decode cX12_first 0 = .ok (.aload_n 0, 1) := by decide +kernel
theorem dX12_first_1 : decode cX12_first 1 = .ok (.iconst 0, 1) := by decide +kernel
theorem dX12_first_2 : decode cX12_first 2 = .ok (.putfield 80, 3) := by decide +kernel
theorem dX12_first_5 : decode cX12_first 5 = .ok (.aload_n 0, 1) := by decide +kernel
theorem dX12_first_6 : decode cX12_first 6 = .ok (.dup, 1) := by decide +kernel
theorem dX12_first_7 : decode cX12_first 7 = .ok (.getfield 202, 3) := by decide +kernel
theorem dX12_first_10 : decode cX12_first 10 = .ok (.iconst 1, 1) := by decide +kernel
theorem dX12_first_11 : decode cX12_first 11 = .ok (.iadd, 1) := by decide +kernel
theorem dX12_first_12 : decode cX12_first 12 = .ok (.putfield 202, 3) := by decide +kernel
theorem dX12_first_15 : decode cX12_first 15 = .ok (.iconst 0, 1) := by decide +kernel
theorem dX12_first_16 : decode cX12_first 16 = .ok (.istore_n 1, 1) := by decide +kernel
theorem dX12_first_17 : decode cX12_first 17 = .ok (.iload_n 1, 1) := by decide +kernel
theorem dX12_first_18 : decode cX12_first 18 = .ok (.aload_n 0, 1) := by decide +kernel
theorem dX12_first_19 : decode cX12_first 19 = .ok (.invokevirtual 93, 3) := by decide +kernel
theorem dX12_first_22 : decode cX12_first 22 = .ok (.if_icmp .gt 35, 3) := by decide +kernel
theorem dX12_first_25 : decode cX12_first 25 = .ok (.aload_n 0, 1) := by decide +kernel
theorem dX12_first_26 : decode cX12_first 26 = .ok (.iload_n 1, 1) := by decide +kernel
theorem dX12_first_27 : decode cX12_first 27 = .ok (.aload_n 0, 1) := by decide +kernel
theorem dX12_first_28 : decode cX12_first 28 = .ok (.invokevirtual 137, 3) := by decide +kernel
theorem dX12_first_31 : decode cX12_first 31 = .ok (.invokevirtual 241, 3) := by decide +kernel
theorem dX12_first_34 : decode cX12_first 34 = .ok (.ifCond .eq 17, 3) := by decide +kernel
theorem dX12_first_37 : decode cX12_first 37 = .ok (.aload_n 0, 1) := by decide +kernel
theorem dX12_first_38 : decode cX12_first 38 = .ok (.getfield 36, 3) := by decide +kernel
theorem dX12_first_41 : decode cX12_first 41 = .ok (.aload_n 0, 1) := by decide +kernel
theorem dX12_first_42 : decode cX12_first 42 = .ok (.iload_n 1, 1) := by decide +kernel
theorem dX12_first_43 : decode cX12_first 43 = .ok (.invokevirtual 190, 3) := by decide +kernel
theorem dX12_first_46 : decode cX12_first 46 = .ok (.aload_n 0, 1) := by decide +kernel
theorem dX12_first_47 : decode cX12_first 47 = .ok (.getfield 202, 3) := by decide +kernel
theorem dX12_first_50 : decode cX12_first 50 = .ok (.iastore, 1) := by decide +kernel
theorem dX12_first_51 : decode cX12_first 51 = .ok (.iinc 1 1, 3) := by decide +kernel
theorem dX12_first_54 : decode cX12_first 54 = .ok (.goto (-37), 3) := by decide +kernel
theorem dX12_first_57 : decode cX12_first 57 = .ok (.iconst 0, 1) := by decide +kernel
theorem dX12_first_58 : decode cX12_first 58 = .ok (.istore_n 1, 1) := by decide +kernel
theorem dX12_first_59 : decode cX12_first 59 = .ok (.iconst (-1), 1) := by decide +kernel
theorem dX12_first_60 : decode cX12_first 60 = .ok (.istore_n 2, 1) := by decide +kernel
theorem dX12_first_61 : decode cX12_first 61 = .ok (.aload_n 0, 1) := by decide +kernel
theorem dX12_first_62 : decode cX12_first 62 = .ok (.invokevirtual 93, 3) := by decide +kernel
theorem dX12_first_65 : decode cX12_first 65 = .ok (.istore_n 3, 1) := by decide +kernel
theorem dX12_first_66 : decode cX12_first 66 = .ok (.iload_n 3, 1) := by decide +kernel
theorem dX12_first_67 : decode cX12_first 67 = .ok (.ifCond .lt 42, 3) := by decide +kernel
theorem dX12_first_70 : decode cX12_first 70 = .ok (.aload_n 0, 1) := by decide +kernel
theorem dX12_first_71 : decode cX12_first 71 = .ok (.iload_n 3, 1) := by decide +kernel
theorem dX12_first_72 : decode cX12_first 72 = .ok (.aload_n 0, 1) := by decide +kernel
theorem dX12_first_73 : decode cX12_first 73 = .ok (.invokevirtual 137, 3) := by decide +kernel
theorem dX12_first_76 : decode cX12_first 76 = .ok (.invokevirtual 241, 3) := by decide +kernel
theorem dX12_first_79 : decode cX12_first 79 = .ok (.ifCond .eq 24, 3) := by decide +kernel
theorem dX12_first_82 : decode cX12_first 82 = .ok (.aload_n 0, 1) := by decide +kernel
theorem dX12_first_83 : decode cX12_first 83 = .ok (.getfield 36, 3) := by decide +kernel
theorem dX12_first_86 : decode cX12_first 86 = .ok (.iload_n 3, 1) := by decide +kernel
theorem dX12_first_87 : decode cX12_first 87 = .ok (.iaload, 1) := by decide +kernel
theorem dX12_first_88 : decode cX12_first 88 = .ok (.aload_n 0, 1) := by decide +kernel
theorem dX12_first_89 : decode cX12_first 89 = .ok (.getfield 202, 3) := by decide +kernel
theorem dX12_first_92 : decode cX12_first 92 = .ok (.if_icmp .ne 6, 3) := by decide +kernel
theorem dX12_first_95 : decode cX12_first 95 = .ok (.goto 8, 3) := by decide +kernel
theorem dX12_first_98 : decode cX12_first 98 = .ok (.iinc 1 1, 3) := by decide +kernel
theorem dX12_first_101 : decode cX12_first 101 = .ok (.iload_n 3, 1) := by decide +kernel
theorem dX12_first_102 : decode cX12_first 102 = .ok (.istore_n 2, 1) := by decide +kernel
theorem dX12_first_103 : decode cX12_first 103 = .ok (.iinc 3 (-1), 3) := by decide +kernel
theorem dX12_first_106 : decode cX12_first 106 = .ok (.goto (-40), 3) := by decide +kernel
theorem dX12_first_109 : decode cX12_first 109 = .ok (.aload_n 0, 1) := by decide +kernel
theorem dX12_first_110 : decode cX12_first 110 = .ok (.iconst 0, 1) := by decide +kernel
theorem dX12_first_111 : decode cX12_first 111 = .ok (.putfield 83, 3) := by decide +kernel
theorem dX12_first_114 : decode cX12_first 114 = .ok (.iload_n 1, 1) := by decide +kernel
theorem dX12_first_115 : decode cX12_first 115 = .ok (.ifCond .le 9, 3) := by decide +kernel
theorem dX12_first_118 : decode cX12_first 118 = .ok (.aload_n 0, 1) := by decide +kernel
theorem dX12_first_119 : decode cX12_first 119 = .ok (.iload_n 2, 1) := by decide +kernel
theorem dX12_first_120 : decode cX12_first 120 = .ok (.i2l, 1) := by decide +kernel
theorem dX12_first_121 : decode cX12_first 121 = .ok (.invokevirtual 217, 3) := by decide +kernel
theorem dX12_first_124 : decode cX12_first 124 = .ok (.iload_n 1, 1) := by decide +kernel
theorem dX12_first_125 : decode cX12_first 125 = .ok (.ireturn, 1) := by decide +kernel
set_option maxHeartbeats 4000000 in
set_option maxRecDepth 20000 in
theorem b_m_first_b66 {X : Cx} {d : Nat} (hX : Ok M_m_first (d + 4) X) {r : Int32 × Mem} (hr : RetI M_m_first X r.1 r.2) : ∀ (n : Nat) (x1 : Int32) (x2 : Int32) (x3 : Int32) (μ : Mem) (dy : Nat → Nat), f_m_first_b66 n x1 x2 x3 μ = some r → AW X 66 [(0, .ref (gA (xG X) 111)), (1, .int x1), (2, .int x2), (3, .int x3)] [] μ dy := by
  intro n
  induction n with
  | zero => intro x1 x2 x3 μ dy hf; exact nomatch hf
  | succ n ih =>
    intro x1 x2 x3 μ dy hf
    rw [f_m_first_b66] at hf
    refine r_iload_n hX dX12_first_66 3 rfl ?_
    refine r_if_lt hX 109 dX12_first_67 rfl (fun hc12 => ?_) (fun hc12 => ?_)
    · rw [if_pos hc12] at hf
      refine r_aload_n hX dX12_first_109 0 rfl ?_
      refine r_iconst hX (0 : Int32) dX12_first_110 rfl ?_
      obtain ⟨μ13, e14, hf⟩ := bnd_eq hf
      refine r_put hX fl_X12_83 ft_X12_10 (w_111 _ _ _) rfl rfl rfl (s_111_10 _ _ _ _) e14 rfl dX12_first_111 ?_
      refine r_iload_n hX dX12_first_114 1 rfl ?_
      refine r_if_le hX 124 dX12_first_115 rfl (fun hc15 => ?_) (fun hc15 => ?_)
      · rw [if_pos hc15] at hf
        refine r_iload_n hX dX12_first_124 1 rfl ?_
        exact fin_I hf hr _ _ _ dX12_first_125
      · rw [if_neg hc15] at hf
        refine r_aload_n hX dX12_first_118 0 rfl ?_
        refine r_iload_n hX dX12_first_119 2 rfl ?_
        refine r_i2l hX dX12_first_120 ?_
        obtain ⟨μ16, h17, hf⟩ := bd1_eq hf
        refine r_callVV (Ok.le hX (by omega)) (c_m_tell (d := d)  h17) cv_X12_217 (w_111 _ _ _) rfl rfl (st := []) rfl rfl rfl dX12_first_121 (fun dy => ?_)
        refine r_iload_n hX dX12_first_124 1 rfl ?_
        exact fin_I hf hr _ _ _ dX12_first_125
    · rw [if_neg hc12] at hf
      refine r_aload_n hX dX12_first_70 0 rfl ?_
      refine r_iload_n hX dX12_first_71 3 rfl ?_
      refine r_aload_n hX dX12_first_72 0 rfl ?_
      obtain ⟨v20, μ18, h19, hf⟩ := bd2_eq hf
      refine r_callVI (Ok.le hX (by omega)) (c_m_now (d := d)  h19) cv_X12_137 (w_111 _ _ _) rfl rfl (st := [.int x3, .ref (gA (xG X) 111)]) rfl rfl rfl dX12_first_73 (fun dy => ?_)
      obtain ⟨v23, μ21, h22, hf⟩ := bd2_eq hf
      refine r_callVI (Ok.le hX (by omega)) (c_m_isFirmAs (d := d)  h22) cv_X12_241 (w_111 _ _ _) rfl rfl (st := []) rfl rfl rfl dX12_first_76 (fun dy => ?_)
      refine r_if_eq hX 103 dX12_first_79 rfl (fun hc24 => ?_) (fun hc24 => ?_)
      · rw [if_pos hc24] at hf
        refine r_iinc hX (x3 + (-1 : Int32)) dX12_first_103 3 rfl rfl rfl (ls' := [(3, .int (x3 + (-1 : Int32))), (0, .ref (gA (xG X) 111)), (1, .int x1), (2, .int x2)]) rfl ?_
        refine r_goto hX 66 dX12_first_106 rfl ?_
        refine r_weak [1, 2, 3, 0] rfl ?_
        exact ih _ _ _ _ _ hf
      · rw [if_neg hc24] at hf
        refine r_aload_n hX dX12_first_82 0 rfl ?_
        refine r_get hX fl_X12_36 (w_111 _ _ _) rfl dX12_first_83 ?_
        refine r_iload_n hX dX12_first_86 3 rfl ?_
        obtain ⟨b25, hf⟩ := chk_eq hf
        refine r_iald hX (w_120 _ _ _) (inb_in b25) dX12_first_87 ?_
        refine r_aload_n hX dX12_first_88 0 rfl ?_
        refine r_get hX fl_X12_202 (w_111 _ _ _) rfl dX12_first_89 ?_
        refine r_icmp_ne hX 98 dX12_first_92 rfl (fun hc26 => ?_) (fun hc26 => ?_)
        · rw [if_neg hc26] at hf
          refine r_iinc hX (x1 + (1 : Int32)) dX12_first_98 1 rfl rfl rfl (ls' := [(1, .int (x1 + (1 : Int32))), (0, .ref (gA (xG X) 111)), (2, .int x2), (3, .int x3)]) rfl ?_
          refine r_iload_n hX dX12_first_101 3 rfl ?_
          refine r_istore_n hX dX12_first_102 rfl (ls' := [(2, .int x3), (1, .int (x1 + (1 : Int32))), (0, .ref (gA (xG X) 111)), (3, .int x3)]) rfl ?_
          refine r_iinc hX (x3 + (-1 : Int32)) dX12_first_103 3 rfl rfl rfl (ls' := [(3, .int (x3 + (-1 : Int32))), (2, .int x3), (1, .int (x1 + (1 : Int32))), (0, .ref (gA (xG X) 111))]) rfl ?_
          refine r_goto hX 66 dX12_first_106 rfl ?_
          refine r_weak [3, 2, 1, 0] rfl ?_
          exact ih _ _ _ _ _ hf
        · rw [if_pos hc26] at hf
          refine r_goto hX 103 dX12_first_95 rfl ?_
          refine r_iinc hX (x3 + (-1 : Int32)) dX12_first_103 3 rfl rfl rfl (ls' := [(3, .int (x3 + (-1 : Int32))), (0, .ref (gA (xG X) 111)), (1, .int x1), (2, .int x2)]) rfl ?_
          refine r_goto hX 66 dX12_first_106 rfl ?_
          refine r_weak [1, 2, 3, 0] rfl ?_
          exact ih _ _ _ _ _ hf
set_option maxHeartbeats 4000000 in
set_option maxRecDepth 20000 in
theorem b_m_first_b17 {X : Cx} {d : Nat} (hX : Ok M_m_first (d + 4) X) {r : Int32 × Mem} (hr : RetI M_m_first X r.1 r.2) : ∀ (n : Nat) (x1 : Int32) (μ : Mem) (dy : Nat → Nat), f_m_first_b17 n x1 μ = some r → AW X 17 [(0, .ref (gA (xG X) 111)), (1, .int x1)] [] μ dy := by
  intro n
  induction n with
  | zero => intro x1 μ dy hf; exact nomatch hf
  | succ n ih =>
    intro x1 μ dy hf
    rw [f_m_first_b17] at hf
    refine r_iload_n hX dX12_first_17 1 rfl ?_
    refine r_aload_n hX dX12_first_18 0 rfl ?_
    obtain ⟨v7, μ5, h6, hf⟩ := bd2_eq hf
    refine r_callVI (Ok.le hX (by omega)) (c_m_everybody (d := d)  h6) cv_X12_93 (w_111 _ _ _) rfl rfl (st := [.int x1]) rfl rfl rfl dX12_first_19 (fun dy => ?_)
    refine r_icmp_gt hX 57 dX12_first_22 rfl (fun hc8 => ?_) (fun hc8 => ?_)
    · rw [if_pos hc8] at hf
      refine r_iconst hX (0 : Int32) dX12_first_57 rfl ?_
      refine r_istore_n hX dX12_first_58 rfl (ls' := [(1, .int (0 : Int32)), (0, .ref (gA (xG X) 111))]) rfl ?_
      refine r_iconst hX (-1 : Int32) dX12_first_59 rfl ?_
      refine r_istore_n hX dX12_first_60 rfl (ls' := [(2, .int (-1 : Int32)), (1, .int (0 : Int32)), (0, .ref (gA (xG X) 111))]) rfl ?_
      refine r_aload_n hX dX12_first_61 2 rfl ?_
      obtain ⟨v11, μ9, h10, hf⟩ := bd2_eq hf
      refine r_callVI (Ok.le hX (by omega)) (c_m_everybody (d := d)  h10) cv_X12_93 (w_111 _ _ _) rfl rfl (st := []) rfl rfl rfl dX12_first_62 (fun dy => ?_)
      refine r_istore_n hX dX12_first_65 rfl (ls' := [(3, .int v11), (2, .int (-1 : Int32)), (1, .int (0 : Int32)), (0, .ref (gA (xG X) 111))]) rfl ?_
      refine r_weak [3, 2, 1, 0] rfl ?_
      exact b_m_first_b66 hX hr FU _ _ _ _ _ hf
    · rw [if_neg hc8] at hf
      refine r_aload_n hX dX12_first_25 0 rfl ?_
      refine r_iload_n hX dX12_first_26 1 rfl ?_
      refine r_aload_n hX dX12_first_27 0 rfl ?_
      obtain ⟨v29, μ27, h28, hf⟩ := bd2_eq hf
      refine r_callVI (Ok.le hX (by omega)) (c_m_now (d := d)  h28) cv_X12_137 (w_111 _ _ _) rfl rfl (st := [.int x1, .ref (gA (xG X) 111)]) rfl rfl rfl dX12_first_28 (fun dy => ?_)
      obtain ⟨v32, μ30, h31, hf⟩ := bd2_eq hf
      refine r_callVI (Ok.le hX (by omega)) (c_m_isFirmAs (d := d)  h31) cv_X12_241 (w_111 _ _ _) rfl rfl (st := []) rfl rfl rfl dX12_first_31 (fun dy => ?_)
      refine r_if_eq hX 51 dX12_first_34 rfl (fun hc33 => ?_) (fun hc33 => ?_)
      · rw [if_pos hc33] at hf
        refine r_iinc hX (x1 + (1 : Int32)) dX12_first_51 1 rfl rfl rfl (ls' := [(1, .int (x1 + (1 : Int32))), (0, .ref (gA (xG X) 111))]) rfl ?_
        refine r_goto hX 17 dX12_first_54 rfl ?_
        refine r_weak [1, 0] rfl ?_
        exact ih _ _ _ hf
      · rw [if_neg hc33] at hf
        refine r_aload_n hX dX12_first_37 0 rfl ?_
        refine r_get hX fl_X12_36 (w_111 _ _ _) rfl dX12_first_38 ?_
        refine r_aload_n hX dX12_first_41 0 rfl ?_
        refine r_iload_n hX dX12_first_42 1 rfl ?_
        obtain ⟨v36, μ34, h35, hf⟩ := bd2_eq hf
        refine r_callVI (Ok.le hX (by omega)) (c_m_next (d := d)  h35) cv_X12_190 (w_111 _ _ _) rfl rfl (st := [.ref (gA (xG X) 120)]) rfl rfl rfl dX12_first_43 (fun dy => ?_)
        refine r_aload_n hX dX12_first_46 0 rfl ?_
        refine r_get hX fl_X12_202 (w_111 _ _ _) rfl dX12_first_47 ?_
        obtain ⟨b37, hf⟩ := chk_eq hf
        obtain ⟨μ38, e39, hf⟩ := bnd_eq hf
        refine r_iast hX (w_120 _ _ _) (inb_in b37) (s_120 _ _ _ _ _) e39 rfl dX12_first_50 ?_
        refine r_iinc hX (x1 + (1 : Int32)) dX12_first_51 1 rfl rfl rfl (ls' := [(1, .int (x1 + (1 : Int32))), (0, .ref (gA (xG X) 111))]) rfl ?_
        refine r_goto hX 17 dX12_first_54 rfl ?_
        refine r_weak [1, 0] rfl ?_
        exact ih _ _ _ hf
set_option maxHeartbeats 4000000 in
set_option maxRecDepth 20000 in
theorem c_m_first {G : Gx} {d : Nat}  {μ : Mem} {r : Int32 × Mem} (hf : f_m_first  μ = some r) : Con G M_m_first (d + 4) [.ref (gA G 111)] μ (some (.int r.1), r.2) := by
  refine Con.ofI ⟨rfl, rfl, Nat.le_of_ble_eq_true rfl⟩ rfl rfl (fun X hG hX hr dy => ?_)
  subst hG
  show AW X 0 [(0, .ref (gA (xG X) 111))] [] μ dy
  unfold f_m_first at hf
  refine r_aload_n hX dX12_first_0 0 rfl ?_
  refine r_iconst hX (0 : Int32) dX12_first_1 rfl ?_
  obtain ⟨μ1, e2, hf⟩ := bnd_eq hf
  refine r_put hX fl_X12_80 ft_X12_11 (w_111 _ _ _) rfl rfl rfl (s_111_11 _ _ _ _) e2 rfl dX12_first_2 ?_
  refine r_aload_n hX dX12_first_5 0 rfl ?_
  refine r_dup hX dX12_first_6 rfl ?_
  refine r_get hX fl_X12_202 (w_111 _ _ _) rfl dX12_first_7 ?_
  refine r_iconst hX (1 : Int32) dX12_first_10 rfl ?_
  refine r_iadd hX dX12_first_11 ?_
  obtain ⟨μ3, e4, hf⟩ := bnd_eq hf
  refine r_put hX fl_X12_202 ft_X12_20 (w_111 _ _ _) rfl rfl rfl (s_111_20 _ _ _ _) e4 rfl dX12_first_12 ?_
  refine r_iconst hX (0 : Int32) dX12_first_15 rfl ?_
  refine r_istore_n hX dX12_first_16 rfl (ls' := [(1, .int (0 : Int32)), (0, .ref (gA (xG X) 111))]) rfl ?_
  refine r_weak [1, 0] rfl ?_
  exact b_m_first_b17 hX hr FU _ _ _ hf
theorem dX12_last_0 : decode cX12_last 0 = .ok (.aload_n 0, 1) := by decide +kernel
theorem dX12_last_1 : decode cX12_last 1 = .ok (.iconst 0, 1) := by decide +kernel
theorem dX12_last_2 : decode cX12_last 2 = .ok (.putfield 80, 3) := by decide +kernel
theorem dX12_last_5 : decode cX12_last 5 = .ok (.iconst 0, 1) := by decide +kernel
theorem dX12_last_6 : decode cX12_last 6 = .ok (.istore_n 1, 1) := by decide +kernel
theorem dX12_last_7 : decode cX12_last 7 = .ok (.iload_n 1, 1) := by decide +kernel
theorem dX12_last_8 : decode cX12_last 8 = .ok (.aload_n 0, 1) := by decide +kernel
theorem dX12_last_9 : decode cX12_last 9 = .ok (.invokevirtual 93, 3) := by decide +kernel
theorem dX12_last_12 : decode cX12_last 12 = .ok (.if_icmp .gt 16, 3) := by decide +kernel
theorem dX12_last_15 : decode cX12_last 15 = .ok (.aload_n 0, 1) := by decide +kernel
theorem dX12_last_16 : decode cX12_last 16 = .ok (.getfield 45, 3) := by decide +kernel
theorem dX12_last_19 : decode cX12_last 19 = .ok (.iload_n 1, 1) := by decide +kernel
theorem dX12_last_20 : decode cX12_last 20 = .ok (.iconst 0, 1) := by decide +kernel
theorem dX12_last_21 : decode cX12_last 21 = .ok (.bastore, 1) := by decide +kernel
theorem dX12_last_22 : decode cX12_last 22 = .ok (.iinc 1 1, 3) := by decide +kernel
theorem dX12_last_25 : decode cX12_last 25 = .ok (.goto (-18), 3) := by decide +kernel
theorem dX12_last_28 : decode cX12_last 28 = .ok (.iconst 0, 1) := by decide +kernel
theorem dX12_last_29 : decode cX12_last 29 = .ok (.istore_n 1, 1) := by decide +kernel
theorem dX12_last_30 : decode cX12_last 30 = .ok (.iconst 0, 1) := by decide +kernel
theorem dX12_last_31 : decode cX12_last 31 = .ok (.istore_n 2, 1) := by decide +kernel
theorem dX12_last_32 : decode cX12_last 32 = .ok (.iconst 0, 1) := by decide +kernel
theorem dX12_last_33 : decode cX12_last 33 = .ok (.istore_n 3, 1) := by decide +kernel
theorem dX12_last_34 : decode cX12_last 34 = .ok (.iconst 0, 1) := by decide +kernel
theorem dX12_last_35 : decode cX12_last 35 = .ok (.istore 4, 2) := by decide +kernel
theorem dX12_last_37 : decode cX12_last 37 = .ok (.iload 4, 2) := by decide +kernel
theorem dX12_last_39 : decode cX12_last 39 = .ok (.aload_n 0, 1) := by decide +kernel
theorem dX12_last_40 : decode cX12_last 40 = .ok (.invokevirtual 93, 3) := by decide +kernel
theorem dX12_last_43 : decode cX12_last 43 = .ok (.if_icmp .gt 118, 3) := by decide +kernel
theorem dX12_last_46 : decode cX12_last 46 = .ok (.aload_n 0, 1) := by decide +kernel
theorem dX12_last_47 : decode cX12_last 47 = .ok (.iload 4, 2) := by decide +kernel
theorem dX12_last_49 : decode cX12_last 49 = .ok (.aload_n 0, 1) := by decide +kernel
theorem dX12_last_50 : decode cX12_last 50 = .ok (.invokevirtual 137, 3) := by decide +kernel
theorem dX12_last_53 : decode cX12_last 53 = .ok (.invokevirtual 241, 3) := by decide +kernel
theorem dX12_last_56 : decode cX12_last 56 = .ok (.ifCond .ne 6, 3) := by decide +kernel
theorem dX12_last_59 : decode cX12_last 59 = .ok (.goto 96, 3) := by decide +kernel
theorem dX12_last_62 : decode cX12_last 62 = .ok (.aload_n 0, 1) := by decide +kernel
theorem dX12_last_63 : decode cX12_last 63 = .ok (.iload 4, 2) := by decide +kernel
theorem dX12_last_65 : decode cX12_last 65 = .ok (.invokevirtual 214, 3) := by decide +kernel
theorem dX12_last_68 : decode cX12_last 68 = .ok (.iload_n 3, 1) := by decide +kernel
theorem dX12_last_69 : decode cX12_last 69 = .ok (.aload_n 0, 1) := by decide +kernel
theorem dX12_last_70 : decode cX12_last 70 = .ok (.getfield 208, 3) := by decide +kernel
theorem dX12_last_73 : decode cX12_last 73 = .ok (.invokestatic 181, 3) := by decide +kernel
theorem dX12_last_76 : decode cX12_last 76 = .ok (.istore_n 3, 1) := by decide +kernel
theorem dX12_last_77 : decode cX12_last 77 = .ok (.aload_n 0, 1) := by decide +kernel
theorem dX12_last_78 : decode cX12_last 78 = .ok (.getfield 45, 3) := by decide +kernel
theorem dX12_last_81 : decode cX12_last 81 = .ok (.aload_n 0, 1) := by decide +kernel
theorem dX12_last_82 : decode cX12_last 82 = .ok (.getfield 211, 3) := by decide +kernel
theorem dX12_last_85 : decode cX12_last 85 = .ok (.baload, 1) := by decide +kernel
theorem dX12_last_86 : decode cX12_last 86 = .ok (.ifCond .eq 6, 3) := by decide +kernel
theorem dX12_last_89 : decode cX12_last 89 = .ok (.goto 66, 3) := by decide +kernel
theorem dX12_last_92 : decode cX12_last 92 = .ok (.iload_n 2, 1) := by decide +kernel
theorem dX12_last_93 : decode cX12_last 93 = .ok (.aload_n 0, 1) := by decide +kernel
theorem dX12_last_94 : decode cX12_last 94 = .ok (.getfield 208, 3) := by decide +kernel
theorem dX12_last_97 : decode cX12_last 97 = .ok (.iconst 1, 1) := by decide +kernel
theorem dX12_last_98 : decode cX12_last 98 = .ok (.if_icmp .ne 7, 3) := by decide +kernel
theorem dX12_last_101 : decode cX12_last 101 = .ok (.iconst 1, 1) := by decide +kernel
theorem dX12_last_102 : decode cX12_last 102 = .ok (.goto 4, 3) := by decide +kernel
theorem dX12_last_105 : decode cX12_last 105 = .ok (.iconst 0, 1) := by decide +kernel
theorem dX12_last_106 : decode cX12_last 106 = .ok (.iadd, 1) := by decide +kernel
theorem dX12_last_107 : decode cX12_last 107 = .ok (.istore_n 2, 1) := by decide +kernel
theorem dX12_last_108 : decode cX12_last 108 = .ok (.iload_n 1, 1) := by decide +kernel
theorem dX12_last_109 : decode cX12_last 109 = .ok (.aload_n 0, 1) := by decide +kernel
theorem dX12_last_110 : decode cX12_last 110 = .ok (.getfield 208, 3) := by decide +kernel
theorem dX12_last_113 : decode cX12_last 113 = .ok (.iadd, 1) := by decide +kernel
theorem dX12_last_114 : decode cX12_last 114 = .ok (.istore_n 1, 1) := by decide +kernel
theorem dX12_last_115 : decode cX12_last 115 = .ok (.aload_n 0, 1) := by decide +kernel
theorem dX12_last_116 : decode cX12_last 116 = .ok (.getfield 211, 3) := by decide +kernel
theorem dX12_last_119 : decode cX12_last 119 = .ok (.istore 5, 2) := by decide +kernel
theorem dX12_last_121 : decode cX12_last 121 = .ok (.iconst 0, 1) := by decide +kernel
theorem dX12_last_122 : decode cX12_last 122 = .ok (.istore 6, 2) := by decide +kernel
theorem dX12_last_124 : decode cX12_last 124 = .ok (.iload 6, 2) := by decide +kernel
theorem dX12_last_126 : decode cX12_last 126 = .ok (.aload_n 0, 1) := by decide +kernel
theorem dX12_last_127 : decode cX12_last 127 = .ok (.getfield 208, 3) := by decide +kernel
theorem dX12_last_130 : decode cX12_last 130 = .ok (.if_icmp .ge 25, 3) := by decide +kernel
theorem dX12_last_133 : decode cX12_last 133 = .ok (.aload_n 0, 1) := by decide +kernel
theorem dX12_last_134 : decode cX12_last 134 = .ok (.getfield 45, 3) := by decide +kernel
theorem dX12_last_137 : decode cX12_last 137 = .ok (.iload 5, 2) := by decide +kernel
theorem dX12_last_139 : decode cX12_last 139 = .ok (.iconst 1, 1) := by decide +kernel
theorem dX12_last_140 : decode cX12_last 140 = .ok (.bastore, 1) := by decide +kernel
theorem dX12_last_141 : decode cX12_last 141 = .ok (.aload_n 0, 1) := by decide +kernel
theorem dX12_last_142 : decode cX12_last 142 = .ok (.iload 5, 2) := by decide +kernel
theorem dX12_last_144 : decode cX12_last 144 = .ok (.invokevirtual 190, 3) := by decide +kernel
theorem dX12_last_147 : decode cX12_last 147 = .ok (.istore 5, 2) := by decide +kernel
theorem dX12_last_149 : decode cX12_last 149 = .ok (.iinc 6 1, 3) := by decide +kernel
theorem dX12_last_152 : decode cX12_last 152 = .ok (.goto (-28), 3) := by decide +kernel
theorem dX12_last_155 : decode cX12_last 155 = .ok (.iinc 4 1, 3) := by decide +kernel
theorem dX12_last_158 : decode cX12_last 158 = .ok (.goto (-121), 3) := by decide +kernel
theorem dX12_last_161 : decode cX12_last 161 = .ok (.aload_n 0, 1) := by decide +kernel
theorem dX12_last_162 : decode cX12_last 162 = .ok (.iconst 0, 1) := by decide +kernel
theorem dX12_last_163 : decode cX12_last 163 = .ok (.putfield 83, 3) := by decide +kernel
theorem dX12_last_166 : decode cX12_last 166 = .ok (.aload_n 0, 1) := by decide +kernel
theorem dX12_last_167 : decode cX12_last 167 = .ok (.iload_n 2, 1) := by decide +kernel
theorem dX12_last_168 : decode cX12_last 168 = .ok (.i2l, 1) := by decide +kernel
theorem dX12_last_169 : decode cX12_last 169 = .ok (.invokevirtual 217, 3) := by decide +kernel
theorem dX12_last_172 : decode cX12_last 172 = .ok (.aload_n 0, 1) := by decide +kernel
theorem dX12_last_173 : decode cX12_last 173 = .ok (.iload_n 3, 1) := by decide +kernel
theorem dX12_last_174 : decode cX12_last 174 = .ok (.i2l, 1) := by decide +kernel
theorem dX12_last_175 : decode cX12_last 175 = .ok (.invokevirtual 217, 3) := by decide +kernel
theorem dX12_last_178 : decode cX12_last 178 = .ok (.iload_n 1, 1) := by decide +kernel
theorem dX12_last_179 : decode cX12_last 179 = .ok (.ireturn, 1) := by decide +kernel
set_option maxHeartbeats 4000000 in
set_option maxRecDepth 20000 in
theorem b_m_last_b124 {X : Cx} {d : Nat} (hX : Ok M_m_last (d + 5) X) {r : Int32 × Mem} (hr : RetI M_m_last X r.1 r.2) {k37 : Int32 → Int32 → Int32 → Int32 → Mem → Option (Int32 × Mem)} (hk37 : ∀ (x1 : Int32) (x2 : Int32) (x3 : Int32) (x4 : Int32) (μ : Mem) (dy : Nat → Nat), k37 x1 x2 x3 x4 μ = some r → AW X 37 [(0, .ref (gA (xG X) 111)), (1, .int x1), (2, .int x2), (3, .int x3), (4, .int x4)] [] μ dy) : ∀ (n : Nat) (x1 : Int32) (x2 : Int32) (x3 : Int32) (x4 : Int32) (x5 : Int32) (x6 : Int32) (μ : Mem) (dy : Nat → Nat), f_m_last_b124 k37 n x1 x2 x3 x4 x5 x6 μ = some r → AW X 124 [(0, .ref (gA (xG X) 111)), (1, .int x1), (2, .int x2), (3, .int x3), (4, .int x4), (5, .int x5), (6, .int x6)] [] μ dy := by
  intro n
  induction n with
  | zero => intro x1 x2 x3 x4 x5 x6 μ dy hf; exact nomatch hf
  | succ n ih =>
    intro x1 x2 x3 x4 x5 x6 μ dy hf
    rw [f_m_last_b124] at hf
    refine r_iload hX dX12_last_124 6 rfl ?_
    refine r_aload_n hX dX12_last_126 0 rfl ?_
    refine r_get hX fl_X12_208 (w_111 _ _ _) rfl dX12_last_127 ?_
    refine r_icmp_ge hX 155 dX12_last_130 rfl (fun hc33 => ?_) (fun hc33 => ?_)
    · rw [if_pos hc33] at hf
      refine r_iinc hX (x4 + (1 : Int32)) dX12_last_155 4 rfl rfl rfl (ls' := [(4, .int (x4 + (1 : Int32))), (0, .ref (gA (xG X) 111)), (1, .int x1), (2, .int x2), (3, .int x3), (5, .int x5), (6, .int x6)]) rfl ?_
      refine r_goto hX 37 dX12_last_158 rfl ?_
      refine r_weak [1, 2, 3, 4, 0] rfl ?_
      exact hk37 _ _ _ _ _ _ hf
    · rw [if_neg hc33] at hf
      refine r_aload_n hX dX12_last_133 0 rfl ?_
      refine r_get hX fl_X12_45 (w_111 _ _ _) rfl dX12_last_134 ?_
      refine r_iload hX dX12_last_137 5 rfl ?_
      refine r_iconst hX (1 : Int32) dX12_last_139 rfl ?_
      obtain ⟨b34, hf⟩ := chk_eq hf
      obtain ⟨μ35, e36, hf⟩ := bnd_eq hf
      refine r_zast hX (w_123 _ _ _) (inb_in b34) (s_123 _ _ _ _ _) e36 rfl dX12_last_140 ?_
      refine r_aload_n hX dX12_last_141 0 rfl ?_
      refine r_iload hX dX12_last_142 5 rfl ?_
      obtain ⟨v39, μ37, h38, hf⟩ := bd2_eq hf
      refine r_callVI (Ok.le hX (by omega)) (c_m_next (d := d)  h38) cv_X12_190 (w_111 _ _ _) rfl rfl (st := []) rfl rfl rfl dX12_last_144 (fun dy => ?_)
      refine r_istore hX dX12_last_147 rfl (ls' := [(5, .int v39), (0, .ref (gA (xG X) 111)), (1, .int x1), (2, .int x2), (3, .int x3), (4, .int x4), (6, .int x6)]) rfl ?_
      refine r_iinc hX (x6 + (1 : Int32)) dX12_last_149 6 rfl rfl rfl (ls' := [(6, .int (x6 + (1 : Int32))), (5, .int v39), (0, .ref (gA (xG X) 111)), (1, .int x1), (2, .int x2), (3, .int x3), (4, .int x4)]) rfl ?_
      refine r_goto hX 124 dX12_last_152 rfl ?_
      refine r_weak [2, 3, 4, 5, 6, 1, 0] rfl ?_
      exact ih _ _ _ _ _ _ _ _ hf
set_option maxHeartbeats 4000000 in
set_option maxRecDepth 20000 in
theorem b_m_last_b37 {X : Cx} {d : Nat} (hX : Ok M_m_last (d + 5) X) {r : Int32 × Mem} (hr : RetI M_m_last X r.1 r.2) : ∀ (n : Nat) (x1 : Int32) (x2 : Int32) (x3 : Int32) (x4 : Int32) (μ : Mem) (dy : Nat → Nat), f_m_last_b37 n x1 x2 x3 x4 μ = some r → AW X 37 [(0, .ref (gA (xG X) 111)), (1, .int x1), (2, .int x2), (3, .int x3), (4, .int x4)] [] μ dy := by
  intro n
  induction n with
  | zero => intro x1 x2 x3 x4 μ dy hf; exact nomatch hf
  | succ n ih =>
    intro x1 x2 x3 x4 μ dy hf
    rw [f_m_last_b37] at hf
    refine r_iload hX dX12_last_37 4 rfl ?_
    refine r_aload_n hX dX12_last_39 0 rfl ?_
    obtain ⟨v9, μ7, h8, hf⟩ := bd2_eq hf
    refine r_callVI (Ok.le hX (by omega)) (c_m_everybody (d := d)  h8) cv_X12_93 (w_111 _ _ _) rfl rfl (st := [.int x4]) rfl rfl rfl dX12_last_40 (fun dy => ?_)
    refine r_icmp_gt hX 161 dX12_last_43 rfl (fun hc10 => ?_) (fun hc10 => ?_)
    · rw [if_pos hc10] at hf
      refine r_aload_n hX dX12_last_161 0 rfl ?_
      refine r_iconst hX (0 : Int32) dX12_last_162 rfl ?_
      obtain ⟨μ11, e12, hf⟩ := bnd_eq hf
      refine r_put hX fl_X12_83 ft_X12_10 (w_111 _ _ _) rfl rfl rfl (s_111_10 _ _ _ _) e12 rfl dX12_last_163 ?_
      refine r_aload_n hX dX12_last_166 0 rfl ?_
      refine r_iload_n hX dX12_last_167 2 rfl ?_
      refine r_i2l hX dX12_last_168 ?_
      obtain ⟨μ13, h14, hf⟩ := bd1_eq hf
      refine r_callVV (Ok.le hX (by omega)) (c_m_tell (d := d)  h14) cv_X12_217 (w_111 _ _ _) rfl rfl (st := []) rfl rfl rfl dX12_last_169 (fun dy => ?_)
      refine r_aload_n hX dX12_last_172 0 rfl ?_
      refine r_iload_n hX dX12_last_173 3 rfl ?_
      refine r_i2l hX dX12_last_174 ?_
      obtain ⟨μ15, h16, hf⟩ := bd1_eq hf
      refine r_callVV (Ok.le hX (by omega)) (c_m_tell (d := d)  h16) cv_X12_217 (w_111 _ _ _) rfl rfl (st := []) rfl rfl rfl dX12_last_175 (fun dy => ?_)
      refine r_iload_n hX dX12_last_178 1 rfl ?_
      exact fin_I hf hr _ _ _ dX12_last_179
    · rw [if_neg hc10] at hf
      refine r_aload_n hX dX12_last_46 0 rfl ?_
      refine r_iload hX dX12_last_47 4 rfl ?_
      refine r_aload_n hX dX12_last_49 0 rfl ?_
      obtain ⟨v19, μ17, h18, hf⟩ := bd2_eq hf
      refine r_callVI (Ok.le hX (by omega)) (c_m_now (d := d)  h18) cv_X12_137 (w_111 _ _ _) rfl rfl (st := [.int x4, .ref (gA (xG X) 111)]) rfl rfl rfl dX12_last_50 (fun dy => ?_)
      obtain ⟨v22, μ20, h21, hf⟩ := bd2_eq hf
      refine r_callVI (Ok.le hX (by omega)) (c_m_isFirmAs (d := d)  h21) cv_X12_241 (w_111 _ _ _) rfl rfl (st := []) rfl rfl rfl dX12_last_53 (fun dy => ?_)
      refine r_if_ne hX 62 dX12_last_56 rfl (fun hc23 => ?_) (fun hc23 => ?_)
      · rw [if_neg hc23] at hf
        refine r_aload_n hX dX12_last_62 0 rfl ?_
        refine r_iload hX dX12_last_63 4 rfl ?_
        obtain ⟨μ24, h25, hf⟩ := bd1_eq hf
        refine r_callVV (Ok.le hX (by omega)) (c_m_findRest (d := d)  h25) cv_X12_214 (w_111 _ _ _) rfl rfl (st := []) rfl rfl rfl dX12_last_65 (fun dy => ?_)
        refine r_iload_n hX dX12_last_68 3 rfl ?_
        refine r_aload_n hX dX12_last_69 0 rfl ?_
        refine r_get hX fl_X12_208 (w_111 _ _ _) rfl dX12_last_70 ?_
        refine r_max (d := d + 4) (Ok.le hX (by omega)) cs_X12_181 rfl dX12_last_73 ?_
        obtain ⟨v26, e27, hf⟩ := bnd_eq hf
        refine r_topI e27 ?_
        refine r_istore_n hX dX12_last_76 rfl (ls' := [(3, .int v26), (0, .ref (gA (xG X) 111)), (1, .int x1), (2, .int x2), (4, .int x4)]) rfl ?_
        refine r_aload_n hX dX12_last_77 1 rfl ?_
        refine r_get hX fl_X12_45 (w_111 _ _ _) rfl dX12_last_78 ?_
        refine r_aload_n hX dX12_last_81 1 rfl ?_
        refine r_get hX fl_X12_211 (w_111 _ _ _) rfl dX12_last_82 ?_
        obtain ⟨b28, hf⟩ := chk_eq hf
        refine r_zald hX (w_123 _ _ _) (inb_in b28) dX12_last_85 ?_
        refine r_if_eq hX 92 dX12_last_86 rfl (fun hc29 => ?_) (fun hc29 => ?_)
        · rw [if_pos hc29] at hf
          refine r_iload_n hX dX12_last_92 3 rfl ?_
          refine r_aload_n hX dX12_last_93 1 rfl ?_
          refine r_get hX fl_X12_208 (w_111 _ _ _) rfl dX12_last_94 ?_
          refine r_iconst hX (1 : Int32) dX12_last_97 rfl ?_
          obtain ⟨v30, e31, hf⟩ := bnd_eq hf
          have J32 : AW X 106 [(3, .int v26), (0, .ref (gA (xG X) 111)), (1, .int x1), (2, .int x2), (4, .int x4)] [.int v30, .int x2] μ24 dy := by
            refine r_iadd hX dX12_last_106 ?_
            refine r_istore_n hX dX12_last_107 rfl (ls' := [(2, .int (x2 + v30)), (3, .int v26), (0, .ref (gA (xG X) 111)), (1, .int x1), (4, .int x4)]) rfl ?_
            refine r_iload_n hX dX12_last_108 3 rfl ?_
            refine r_aload_n hX dX12_last_109 2 rfl ?_
            refine r_get hX fl_X12_208 (w_111 _ _ _) rfl dX12_last_110 ?_
            refine r_iadd hX dX12_last_113 ?_
            refine r_istore_n hX dX12_last_114 rfl (ls' := [(1, .int (x1 + (μ24.1 v_m_restRound 0))), (2, .int (x2 + v30)), (3, .int v26), (0, .ref (gA (xG X) 111)), (4, .int x4)]) rfl ?_
            refine r_aload_n hX dX12_last_115 3 rfl ?_
            refine r_get hX fl_X12_211 (w_111 _ _ _) rfl dX12_last_116 ?_
            refine r_istore hX dX12_last_119 rfl (ls' := [(5, .int (μ24.1 v_m_restState 0)), (1, .int (x1 + (μ24.1 v_m_restRound 0))), (2, .int (x2 + v30)), (3, .int v26), (0, .ref (gA (xG X) 111)), (4, .int x4)]) rfl ?_
            refine r_iconst hX (0 : Int32) dX12_last_121 rfl ?_
            refine r_istore hX dX12_last_122 rfl (ls' := [(6, .int (0 : Int32)), (5, .int (μ24.1 v_m_restState 0)), (1, .int (x1 + (μ24.1 v_m_restRound 0))), (2, .int (x2 + v30)), (3, .int v26), (0, .ref (gA (xG X) 111)), (4, .int x4)]) rfl ?_
            refine r_weak [5, 2, 3, 4, 6, 1, 0] rfl ?_
            exact b_m_last_b124 hX hr ih FU _ _ _ _ _ _ _ _ hf
          refine r_icmp_ne hX 105 dX12_last_98 rfl (fun hc40 => ?_) (fun hc40 => ?_)
          · refine r_iconst hX (0 : Int32) dX12_last_105 rfl ?_
            exact r_topI (e31.trans (by rw [if_neg hc40])) J32
          · refine r_iconst hX (1 : Int32) dX12_last_101 rfl ?_
            refine r_goto hX 106 dX12_last_102 rfl ?_
            exact r_topI (e31.trans (by rw [if_pos hc40])) J32
        · rw [if_neg hc29] at hf
          refine r_goto hX 155 dX12_last_89 rfl ?_
          refine r_iinc hX (x4 + (1 : Int32)) dX12_last_155 4 rfl rfl rfl (ls' := [(4, .int (x4 + (1 : Int32))), (3, .int v26), (0, .ref (gA (xG X) 111)), (1, .int x1), (2, .int x2)]) rfl ?_
          refine r_goto hX 37 dX12_last_158 rfl ?_
          refine r_weak [2, 3, 4, 1, 0] rfl ?_
          exact ih _ _ _ _ _ _ hf
      · rw [if_pos hc23] at hf
        refine r_goto hX 155 dX12_last_59 rfl ?_
        refine r_iinc hX (x4 + (1 : Int32)) dX12_last_155 4 rfl rfl rfl (ls' := [(4, .int (x4 + (1 : Int32))), (0, .ref (gA (xG X) 111)), (1, .int x1), (2, .int x2), (3, .int x3)]) rfl ?_
        refine r_goto hX 37 dX12_last_158 rfl ?_
        refine r_weak [1, 2, 3, 4, 0] rfl ?_
        exact ih _ _ _ _ _ _ hf
set_option maxHeartbeats 4000000 in
set_option maxRecDepth 20000 in
theorem b_m_last_b7 {X : Cx} {d : Nat} (hX : Ok M_m_last (d + 5) X) {r : Int32 × Mem} (hr : RetI M_m_last X r.1 r.2) : ∀ (n : Nat) (x1 : Int32) (μ : Mem) (dy : Nat → Nat), f_m_last_b7 n x1 μ = some r → AW X 7 [(0, .ref (gA (xG X) 111)), (1, .int x1)] [] μ dy := by
  intro n
  induction n with
  | zero => intro x1 μ dy hf; exact nomatch hf
  | succ n ih =>
    intro x1 μ dy hf
    rw [f_m_last_b7] at hf
    refine r_iload_n hX dX12_last_7 1 rfl ?_
    refine r_aload_n hX dX12_last_8 0 rfl ?_
    obtain ⟨v5, μ3, h4, hf⟩ := bd2_eq hf
    refine r_callVI (Ok.le hX (by omega)) (c_m_everybody (d := d)  h4) cv_X12_93 (w_111 _ _ _) rfl rfl (st := [.int x1]) rfl rfl rfl dX12_last_9 (fun dy => ?_)
    refine r_icmp_gt hX 28 dX12_last_12 rfl (fun hc6 => ?_) (fun hc6 => ?_)
    · rw [if_pos hc6] at hf
      refine r_iconst hX (0 : Int32) dX12_last_28 rfl ?_
      refine r_istore_n hX dX12_last_29 rfl (ls' := [(1, .int (0 : Int32)), (0, .ref (gA (xG X) 111))]) rfl ?_
      refine r_iconst hX (0 : Int32) dX12_last_30 rfl ?_
      refine r_istore_n hX dX12_last_31 rfl (ls' := [(2, .int (0 : Int32)), (1, .int (0 : Int32)), (0, .ref (gA (xG X) 111))]) rfl ?_
      refine r_iconst hX (0 : Int32) dX12_last_32 rfl ?_
      refine r_istore_n hX dX12_last_33 rfl (ls' := [(3, .int (0 : Int32)), (2, .int (0 : Int32)), (1, .int (0 : Int32)), (0, .ref (gA (xG X) 111))]) rfl ?_
      refine r_iconst hX (0 : Int32) dX12_last_34 rfl ?_
      refine r_istore hX dX12_last_35 rfl (ls' := [(4, .int (0 : Int32)), (3, .int (0 : Int32)), (2, .int (0 : Int32)), (1, .int (0 : Int32)), (0, .ref (gA (xG X) 111))]) rfl ?_
      refine r_weak [4, 3, 2, 1, 0] rfl ?_
      exact b_m_last_b37 hX hr FU _ _ _ _ _ _ hf
    · rw [if_neg hc6] at hf
      refine r_aload_n hX dX12_last_15 0 rfl ?_
      refine r_get hX fl_X12_45 (w_111 _ _ _) rfl dX12_last_16 ?_
      refine r_iload_n hX dX12_last_19 1 rfl ?_
      refine r_iconst hX (0 : Int32) dX12_last_20 rfl ?_
      obtain ⟨b41, hf⟩ := chk_eq hf
      obtain ⟨μ42, e43, hf⟩ := bnd_eq hf
      refine r_zast hX (w_123 _ _ _) (inb_in b41) (s_123 _ _ _ _ _) e43 rfl dX12_last_21 ?_
      refine r_iinc hX (x1 + (1 : Int32)) dX12_last_22 1 rfl rfl rfl (ls' := [(1, .int (x1 + (1 : Int32))), (0, .ref (gA (xG X) 111))]) rfl ?_
      refine r_goto hX 7 dX12_last_25 rfl ?_
      refine r_weak [1, 0] rfl ?_
      exact ih _ _ _ hf
set_option maxHeartbeats 4000000 in
set_option maxRecDepth 20000 in
theorem c_m_last {G : Gx} {d : Nat}  {μ : Mem} {r : Int32 × Mem} (hf : f_m_last  μ = some r) : Con G M_m_last (d + 5) [.ref (gA G 111)] μ (some (.int r.1), r.2) := by
  refine Con.ofI ⟨rfl, rfl, Nat.le_of_ble_eq_true rfl⟩ rfl rfl (fun X hG hX hr dy => ?_)
  subst hG
  show AW X 0 [(0, .ref (gA (xG X) 111))] [] μ dy
  unfold f_m_last at hf
  refine r_aload_n hX dX12_last_0 0 rfl ?_
  refine r_iconst hX (0 : Int32) dX12_last_1 rfl ?_
  obtain ⟨μ1, e2, hf⟩ := bnd_eq hf
  refine r_put hX fl_X12_80 ft_X12_11 (w_111 _ _ _) rfl rfl rfl (s_111_11 _ _ _ _) e2 rfl dX12_last_2 ?_
  refine r_iconst hX (0 : Int32) dX12_last_5 rfl ?_
  refine r_istore_n hX dX12_last_6 rfl (ls' := [(1, .int (0 : Int32)), (0, .ref (gA (xG X) 111))]) rfl ?_
  refine r_weak [1, 0] rfl ?_
  exact b_m_last_b7 hX hr FU _ _ _ hf
theorem dX12_fates_0 : decode cX12_fates 0 = .ok (.aload_n 0, 1) := by decide +kernel
theorem dX12_fates_1 : decode cX12_fates 1 = .ok (.iconst 0, 1) := by decide +kernel
theorem dX12_fates_2 : decode cX12_fates 2 = .ok (.putfield 80, 3) := by decide +kernel
theorem dX12_fates_5 : decode cX12_fates 5 = .ok (.iconst 0, 1) := by decide +kernel
theorem dX12_fates_6 : decode cX12_fates 6 = .ok (.istore_n 1, 1) := by decide +kernel
theorem dX12_fates_7 : decode cX12_fates 7 = .ok (.iconst 0, 1) := by decide +kernel
theorem dX12_fates_8 : decode cX12_fates 8 = .ok (.istore_n 2, 1) := by decide +kernel
theorem dX12_fates_9 : decode cX12_fates 9 = .ok (.iconst 0, 1) := by decide +kernel
theorem dX12_fates_10 : decode cX12_fates 10 = .ok (.istore_n 3, 1) := by decide +kernel
theorem dX12_fates_11 : decode cX12_fates 11 = .ok (.iload_n 3, 1) := by decide +kernel
theorem dX12_fates_12 : decode cX12_fates 12 = .ok (.aload_n 0, 1) := by decide +kernel
theorem dX12_fates_13 : decode cX12_fates 13 = .ok (.invokevirtual 93, 3) := by decide +kernel
theorem dX12_fates_16 : decode cX12_fates 16 = .ok (.if_icmp .gt 133, 3) := by decide +kernel
theorem dX12_fates_19 : decode cX12_fates 19 = .ok (.aload_n 0, 1) := by decide +kernel
theorem dX12_fates_20 : decode cX12_fates 20 = .ok (.iload_n 3, 1) := by decide +kernel
theorem dX12_fates_21 : decode cX12_fates 21 = .ok (.aload_n 0, 1) := by decide +kernel
theorem dX12_fates_22 : decode cX12_fates 22 = .ok (.invokevirtual 137, 3) := by decide +kernel
theorem dX12_fates_25 : decode cX12_fates 25 = .ok (.invokevirtual 241, 3) := by decide +kernel
theorem dX12_fates_28 : decode cX12_fates 28 = .ok (.ifCond .ne 6, 3) := by decide +kernel
theorem dX12_fates_31 : decode cX12_fates 31 = .ok (.goto 112, 3) := by decide +kernel
theorem dX12_fates_34 : decode cX12_fates 34 = .ok (.aload_n 0, 1) := by decide +kernel
theorem dX12_fates_35 : decode cX12_fates 35 = .ok (.iload_n 3, 1) := by decide +kernel
theorem dX12_fates_36 : decode cX12_fates 36 = .ok (.invokevirtual 214, 3) := by decide +kernel
theorem dX12_fates_39 : decode cX12_fates 39 = .ok (.iconst 0, 1) := by decide +kernel
theorem dX12_fates_40 : decode cX12_fates 40 = .ok (.istore 4, 2) := by decide +kernel
theorem dX12_fates_42 : decode cX12_fates 42 = .ok (.iconst 0, 1) := by decide +kernel
theorem dX12_fates_43 : decode cX12_fates 43 = .ok (.istore 5, 2) := by decide +kernel
theorem dX12_fates_45 : decode cX12_fates 45 = .ok (.iload_n 3, 1) := by decide +kernel
theorem dX12_fates_46 : decode cX12_fates 46 = .ok (.istore 6, 2) := by decide +kernel
theorem dX12_fates_48 : decode cX12_fates 48 = .ok (.iconst 0, 1) := by decide +kernel
theorem dX12_fates_49 : decode cX12_fates 49 = .ok (.istore 7, 2) := by decide +kernel
theorem dX12_fates_51 : decode cX12_fates 51 = .ok (.iload 7, 2) := by decide +kernel
theorem dX12_fates_53 : decode cX12_fates 53 = .ok (.aload_n 0, 1) := by decide +kernel
theorem dX12_fates_54 : decode cX12_fates 54 = .ok (.getfield 205, 3) := by decide +kernel
theorem dX12_fates_57 : decode cX12_fates 57 = .ok (.aload_n 0, 1) := by decide +kernel
theorem dX12_fates_58 : decode cX12_fates 58 = .ok (.getfield 208, 3) := by decide +kernel
theorem dX12_fates_61 : decode cX12_fates 61 = .ok (.iadd, 1) := by decide +kernel
theorem dX12_fates_62 : decode cX12_fates 62 = .ok (.if_icmp .ge 55, 3) := by decide +kernel
theorem dX12_fates_65 : decode cX12_fates 65 = .ok (.iload 4, 2) := by decide +kernel
theorem dX12_fates_67 : decode cX12_fates 67 = .ok (.ifCond .ne 12, 3) := by decide +kernel
theorem dX12_fates_70 : decode cX12_fates 70 = .ok (.iload 6, 2) := by decide +kernel
theorem dX12_fates_72 : decode cX12_fates 72 = .ok (.aload_n 0, 1) := by decide +kernel
theorem dX12_fates_73 : decode cX12_fates 73 = .ok (.invokevirtual 93, 3) := by decide +kernel
theorem dX12_fates_76 : decode cX12_fates 76 = .ok (.if_icmp .ne 7, 3) := by decide +kernel
theorem dX12_fates_79 : decode cX12_fates 79 = .ok (.iconst 1, 1) := by decide +kernel
theorem dX12_fates_80 : decode cX12_fates 80 = .ok (.goto 4, 3) := by decide +kernel
theorem dX12_fates_83 : decode cX12_fates 83 = .ok (.iconst 0, 1) := by decide +kernel
theorem dX12_fates_84 : decode cX12_fates 84 = .ok (.istore 4, 2) := by decide +kernel
theorem dX12_fates_86 : decode cX12_fates 86 = .ok (.iload 5, 2) := by decide +kernel
theorem dX12_fates_88 : decode cX12_fates 88 = .ok (.ifCond .ne 8, 3) := by decide +kernel
theorem dX12_fates_91 : decode cX12_fates 91 = .ok (.iload 6, 2) := by decide +kernel
theorem dX12_fates_93 : decode cX12_fates 93 = .ok (.ifCond .ne 7, 3) := by decide +kernel
theorem dX12_fates_96 : decode cX12_fates 96 = .ok (.iconst 1, 1) := by decide +kernel
theorem dX12_fates_97 : decode cX12_fates 97 = .ok (.goto 4, 3) := by decide +kernel
theorem dX12_fates_100 : decode cX12_fates 100 = .ok (.iconst 0, 1) := by decide +kernel
theorem dX12_fates_101 : decode cX12_fates 101 = .ok (.istore 5, 2) := by decide +kernel
theorem dX12_fates_103 : decode cX12_fates 103 = .ok (.aload_n 0, 1) := by decide +kernel
theorem dX12_fates_104 : decode cX12_fates 104 = .ok (.iload 6, 2) := by decide +kernel
theorem dX12_fates_106 : decode cX12_fates 106 = .ok (.invokevirtual 190, 3) := by decide +kernel
theorem dX12_fates_109 : decode cX12_fates 109 = .ok (.istore 6, 2) := by decide +kernel
theorem dX12_fates_111 : decode cX12_fates 111 = .ok (.iinc 7 1, 3) := by decide +kernel
theorem dX12_fates_114 : decode cX12_fates 114 = .ok (.goto (-63), 3) := by decide +kernel
theorem dX12_fates_117 : decode cX12_fates 117 = .ok (.iload_n 1, 1) := by decide +kernel
theorem dX12_fates_118 : decode cX12_fates 118 = .ok (.iload 4, 2) := by decide +kernel
theorem dX12_fates_120 : decode cX12_fates 120 = .ok (.ifCond .eq 7, 3) := by decide +kernel
theorem dX12_fates_123 : decode cX12_fates 123 = .ok (.iconst 1, 1) := by decide +kernel
theorem dX12_fates_124 : decode cX12_fates 124 = .ok (.goto 4, 3) := by decide +kernel
theorem dX12_fates_127 : decode cX12_fates 127 = .ok (.iconst 0, 1) := by decide +kernel
theorem dX12_fates_128 : decode cX12_fates 128 = .ok (.iadd, 1) := by decide +kernel
theorem dX12_fates_129 : decode cX12_fates 129 = .ok (.istore_n 1, 1) := by decide +kernel
theorem dX12_fates_130 : decode cX12_fates 130 = .ok (.iload_n 2, 1) := by decide +kernel
theorem dX12_fates_131 : decode cX12_fates 131 = .ok (.iload 5, 2) := by decide +kernel
theorem dX12_fates_133 : decode cX12_fates 133 = .ok (.ifCond .eq 7, 3) := by decide +kernel
theorem dX12_fates_136 : decode cX12_fates 136 = .ok (.iconst 1, 1) := by decide +kernel
theorem dX12_fates_137 : decode cX12_fates 137 = .ok (.goto 4, 3) := by decide +kernel
theorem dX12_fates_140 : decode cX12_fates 140 = .ok (.iconst 0, 1) := by decide +kernel
theorem dX12_fates_141 : decode cX12_fates 141 = .ok (.iadd, 1) := by decide +kernel
theorem dX12_fates_142 : decode cX12_fates 142 = .ok (.istore_n 2, 1) := by decide +kernel
theorem dX12_fates_143 : decode cX12_fates 143 = .ok (.iinc 3 1, 3) := by decide +kernel
theorem dX12_fates_146 : decode cX12_fates 146 = .ok (.goto (-135), 3) := by decide +kernel
theorem dX12_fates_149 : decode cX12_fates 149 = .ok (.aload_n 0, 1) := by decide +kernel
theorem dX12_fates_150 : decode cX12_fates 150 = .ok (.iconst 0, 1) := by decide +kernel
theorem dX12_fates_151 : decode cX12_fates 151 = .ok (.putfield 83, 3) := by decide +kernel
theorem dX12_fates_154 : decode cX12_fates 154 = .ok (.aload_n 0, 1) := by decide +kernel
theorem dX12_fates_155 : decode cX12_fates 155 = .ok (.iload_n 2, 1) := by decide +kernel
theorem dX12_fates_156 : decode cX12_fates 156 = .ok (.i2l, 1) := by decide +kernel
theorem dX12_fates_157 : decode cX12_fates 157 = .ok (.invokevirtual 217, 3) := by decide +kernel
theorem dX12_fates_160 : decode cX12_fates 160 = .ok (.iload_n 1, 1) := by decide +kernel
theorem dX12_fates_161 : decode cX12_fates 161 = .ok (.ireturn, 1) := by decide +kernel
set_option maxHeartbeats 4000000 in
set_option maxRecDepth 20000 in
theorem b_m_fates_b84 {X : Cx} {d : Nat} (hX : Ok M_m_fates (d + 5) X) {r : Int32 × Mem} (hr : RetI M_m_fates X r.1 r.2) {k11 : Int32 → Int32 → Int32 → Mem → Option (Int32 × Mem)} (hk11 : ∀ (x1 : Int32) (x2 : Int32) (x3 : Int32) (μ : Mem) (dy : Nat → Nat), k11 x1 x2 x3 μ = some r → AW X 11 [(0, .ref (gA (xG X) 111)), (1, .int x1), (2, .int x2), (3, .int x3)] [] μ dy) {k51 : Int32 → Int32 → Int32 → Int32 → Int32 → Int32 → Int32 → Mem → Option (Int32 × Mem)} (hk51 : ∀ (x1 : Int32) (x2 : Int32) (x3 : Int32) (x4 : Int32) (x5 : Int32) (x6 : Int32) (x7 : Int32) (μ : Mem) (dy : Nat → Nat), k51 x1 x2 x3 x4 x5 x6 x7 μ = some r → AW X 51 [(0, .ref (gA (xG X) 111)), (1, .int x1), (2, .int x2), (3, .int x3), (4, .int x4), (5, .int x5), (6, .int x6), (7, .int x7)] [] μ dy) (x1 : Int32) (x2 : Int32) (x3 : Int32) (x5 : Int32) (x6 : Int32) (x7 : Int32) (s0 : Int32) (μ : Mem) (dy : Nat → Nat) (hf : f_m_fates_b84 k11 k51 x1 x2 x3 x5 x6 x7 s0 μ = some r) : AW X 84 [(0, .ref (gA (xG X) 111)), (1, .int x1), (2, .int x2), (3, .int x3), (5, .int x5), (6, .int x6), (7, .int x7)] [.int s0] μ dy := by
  unfold f_m_fates_b84 at hf
  refine r_istore hX dX12_fates_84 rfl (ls' := [(4, .int s0), (0, .ref (gA (xG X) 111)), (1, .int x1), (2, .int x2), (3, .int x3), (5, .int x5), (6, .int x6), (7, .int x7)]) rfl ?_
  refine r_iload hX dX12_fates_86 5 rfl ?_
  obtain ⟨v30, e31, hf⟩ := bnd_eq hf
  have J32 : AW X 101 [(4, .int s0), (0, .ref (gA (xG X) 111)), (1, .int x1), (2, .int x2), (3, .int x3), (5, .int x5), (6, .int x6), (7, .int x7)] [.int v30] μ dy := by
    refine r_istore hX dX12_fates_101 rfl (ls' := [(5, .int v30), (4, .int s0), (0, .ref (gA (xG X) 111)), (1, .int x1), (2, .int x2), (3, .int x3), (6, .int x6), (7, .int x7)]) rfl ?_
    refine r_aload_n hX dX12_fates_103 2 rfl ?_
    refine r_iload hX dX12_fates_104 6 rfl ?_
    obtain ⟨v35, μ33, h34, hf⟩ := bd2_eq hf
    refine r_callVI (Ok.le hX (by omega)) (c_m_next (d := d)  h34) cv_X12_190 (w_111 _ _ _) rfl rfl (st := []) rfl rfl rfl dX12_fates_106 (fun dy => ?_)
    refine r_istore hX dX12_fates_109 rfl (ls' := [(6, .int v35), (5, .int v30), (4, .int s0), (0, .ref (gA (xG X) 111)), (1, .int x1), (2, .int x2), (3, .int x3), (7, .int x7)]) rfl ?_
    refine r_iinc hX (x7 + (1 : Int32)) dX12_fates_111 7 rfl rfl rfl (ls' := [(7, .int (x7 + (1 : Int32))), (6, .int v35), (5, .int v30), (4, .int s0), (0, .ref (gA (xG X) 111)), (1, .int x1), (2, .int x2), (3, .int x3)]) rfl ?_
    refine r_goto hX 51 dX12_fates_114 rfl ?_
    refine r_weak [4, 5, 6, 7, 3, 2, 1, 0] rfl ?_
    exact hk51 _ _ _ _ _ _ _ _ _ hf
  refine r_if_ne hX 96 dX12_fates_88 rfl (fun hc36 => ?_) (fun hc36 => ?_)
  · refine r_iconst hX (1 : Int32) dX12_fates_96 rfl ?_
    refine r_goto hX 101 dX12_fates_97 rfl ?_
    exact r_topI (e31.trans (by rw [if_neg hc36])) J32
  · refine r_iload hX dX12_fates_91 6 rfl ?_
    refine r_if_ne hX 100 dX12_fates_93 rfl (fun hc37 => ?_) (fun hc37 => ?_)
    · refine r_iconst hX (0 : Int32) dX12_fates_100 rfl ?_
      exact r_topI (e31.trans (by rw [if_pos hc36, if_neg hc37])) J32
    · refine r_iconst hX (1 : Int32) dX12_fates_96 rfl ?_
      refine r_goto hX 101 dX12_fates_97 rfl ?_
      exact r_topI (e31.trans (by rw [if_pos hc36, if_pos hc37])) J32
set_option maxHeartbeats 4000000 in
set_option maxRecDepth 20000 in
theorem b_m_fates_b79 {X : Cx} {d : Nat} (hX : Ok M_m_fates (d + 5) X) {r : Int32 × Mem} (hr : RetI M_m_fates X r.1 r.2) {k11 : Int32 → Int32 → Int32 → Mem → Option (Int32 × Mem)} (hk11 : ∀ (x1 : Int32) (x2 : Int32) (x3 : Int32) (μ : Mem) (dy : Nat → Nat), k11 x1 x2 x3 μ = some r → AW X 11 [(0, .ref (gA (xG X) 111)), (1, .int x1), (2, .int x2), (3, .int x3)] [] μ dy) {k51 : Int32 → Int32 → Int32 → Int32 → Int32 → Int32 → Int32 → Mem → Option (Int32 × Mem)} (hk51 : ∀ (x1 : Int32) (x2 : Int32) (x3 : Int32) (x4 : Int32) (x5 : Int32) (x6 : Int32) (x7 : Int32) (μ : Mem) (dy : Nat → Nat), k51 x1 x2 x3 x4 x5 x6 x7 μ = some r → AW X 51 [(0, .ref (gA (xG X) 111)), (1, .int x1), (2, .int x2), (3, .int x3), (4, .int x4), (5, .int x5), (6, .int x6), (7, .int x7)] [] μ dy) (x1 : Int32) (x2 : Int32) (x3 : Int32) (x5 : Int32) (x6 : Int32) (x7 : Int32) (μ : Mem) (dy : Nat → Nat) (hf : f_m_fates_b79 k11 k51 x1 x2 x3 x5 x6 x7 μ = some r) : AW X 79 [(0, .ref (gA (xG X) 111)), (1, .int x1), (2, .int x2), (3, .int x3), (5, .int x5), (6, .int x6), (7, .int x7)] [] μ dy := by
  unfold f_m_fates_b79 at hf
  refine r_iconst hX (1 : Int32) dX12_fates_79 rfl ?_
  refine r_goto hX 84 dX12_fates_80 rfl ?_
  refine r_weak [0, 1, 2, 3, 4, 5, 6] rfl ?_
  exact b_m_fates_b84 hX hr hk11 hk51 _ _ _ _ _ _ _ _ _ hf
set_option maxHeartbeats 4000000 in
set_option maxRecDepth 20000 in
theorem b_m_fates_b51 {X : Cx} {d : Nat} (hX : Ok M_m_fates (d + 5) X) {r : Int32 × Mem} (hr : RetI M_m_fates X r.1 r.2) {k11 : Int32 → Int32 → Int32 → Mem → Option (Int32 × Mem)} (hk11 : ∀ (x1 : Int32) (x2 : Int32) (x3 : Int32) (μ : Mem) (dy : Nat → Nat), k11 x1 x2 x3 μ = some r → AW X 11 [(0, .ref (gA (xG X) 111)), (1, .int x1), (2, .int x2), (3, .int x3)] [] μ dy) : ∀ (n : Nat) (x1 : Int32) (x2 : Int32) (x3 : Int32) (x4 : Int32) (x5 : Int32) (x6 : Int32) (x7 : Int32) (μ : Mem) (dy : Nat → Nat), f_m_fates_b51 k11 n x1 x2 x3 x4 x5 x6 x7 μ = some r → AW X 51 [(0, .ref (gA (xG X) 111)), (1, .int x1), (2, .int x2), (3, .int x3), (4, .int x4), (5, .int x5), (6, .int x6), (7, .int x7)] [] μ dy := by
  intro n
  induction n with
  | zero => intro x1 x2 x3 x4 x5 x6 x7 μ dy hf; exact nomatch hf
  | succ n ih =>
    intro x1 x2 x3 x4 x5 x6 x7 μ dy hf
    rw [f_m_fates_b51] at hf
    refine r_iload hX dX12_fates_51 7 rfl ?_
    refine r_aload_n hX dX12_fates_53 0 rfl ?_
    refine r_get hX fl_X12_205 (w_111 _ _ _) rfl dX12_fates_54 ?_
    refine r_aload_n hX dX12_fates_57 0 rfl ?_
    refine r_get hX fl_X12_208 (w_111 _ _ _) rfl dX12_fates_58 ?_
    refine r_iadd hX dX12_fates_61 ?_
    refine r_icmp_ge hX 117 dX12_fates_62 rfl (fun hc20 => ?_) (fun hc20 => ?_)
    · rw [if_pos hc20] at hf
      refine r_iload_n hX dX12_fates_117 1 rfl ?_
      refine r_iload hX dX12_fates_118 4 rfl ?_
      obtain ⟨v21, e22, hf⟩ := bnd_eq hf
      have J23 : AW X 128 [(0, .ref (gA (xG X) 111)), (1, .int x1), (2, .int x2), (3, .int x3), (4, .int x4), (5, .int x5), (6, .int x6), (7, .int x7)] [.int v21, .int x1] μ dy := by
        refine r_iadd hX dX12_fates_128 ?_
        refine r_istore_n hX dX12_fates_129 rfl (ls' := [(1, .int (x1 + v21)), (0, .ref (gA (xG X) 111)), (2, .int x2), (3, .int x3), (4, .int x4), (5, .int x5), (6, .int x6), (7, .int x7)]) rfl ?_
        refine r_iload_n hX dX12_fates_130 2 rfl ?_
        refine r_iload hX dX12_fates_131 5 rfl ?_
        obtain ⟨v24, e25, hf⟩ := bnd_eq hf
        have J26 : AW X 141 [(1, .int (x1 + v21)), (0, .ref (gA (xG X) 111)), (2, .int x2), (3, .int x3), (4, .int x4), (5, .int x5), (6, .int x6), (7, .int x7)] [.int v24, .int x2] μ dy := by
          refine r_iadd hX dX12_fates_141 ?_
          refine r_istore_n hX dX12_fates_142 rfl (ls' := [(2, .int (x2 + v24)), (1, .int (x1 + v21)), (0, .ref (gA (xG X) 111)), (3, .int x3), (4, .int x4), (5, .int x5), (6, .int x6), (7, .int x7)]) rfl ?_
          refine r_iinc hX (x3 + (1 : Int32)) dX12_fates_143 3 rfl rfl rfl (ls' := [(3, .int (x3 + (1 : Int32))), (2, .int (x2 + v24)), (1, .int (x1 + v21)), (0, .ref (gA (xG X) 111)), (4, .int x4), (5, .int x5), (6, .int x6), (7, .int x7)]) rfl ?_
          refine r_goto hX 11 dX12_fates_146 rfl ?_
          refine r_weak [3, 2, 1, 0] rfl ?_
          exact hk11 _ _ _ _ _ hf
        refine r_if_eq hX 140 dX12_fates_133 rfl (fun hc27 => ?_) (fun hc27 => ?_)
        · refine r_iconst hX (0 : Int32) dX12_fates_140 rfl ?_
          exact r_topI (e25.trans (by rw [if_pos hc27])) J26
        · refine r_iconst hX (1 : Int32) dX12_fates_136 rfl ?_
          refine r_goto hX 141 dX12_fates_137 rfl ?_
          exact r_topI (e25.trans (by rw [if_neg hc27])) J26
      refine r_if_eq hX 127 dX12_fates_120 rfl (fun hc28 => ?_) (fun hc28 => ?_)
      · refine r_iconst hX (0 : Int32) dX12_fates_127 rfl ?_
        exact r_topI (e22.trans (by rw [if_pos hc28])) J23
      · refine r_iconst hX (1 : Int32) dX12_fates_123 rfl ?_
        refine r_goto hX 128 dX12_fates_124 rfl ?_
        exact r_topI (e22.trans (by rw [if_neg hc28])) J23
    · rw [if_neg hc20] at hf
      refine r_iload hX dX12_fates_65 4 rfl ?_
      refine r_if_ne hX 79 dX12_fates_67 rfl (fun hc29 => ?_) (fun hc29 => ?_)
      · rw [if_neg hc29] at hf
        refine r_weak [0, 1, 2, 3, 5, 6, 7] rfl ?_
        exact b_m_fates_b79 hX hr hk11 ih _ _ _ _ _ _ _ _ hf
      · rw [if_pos hc29] at hf
        refine r_iload hX dX12_fates_70 6 rfl ?_
        refine r_aload_n hX dX12_fates_72 0 rfl ?_
        obtain ⟨v40, μ38, h39, hf⟩ := bd2_eq hf
        refine r_callVI (Ok.le hX (by omega)) (c_m_everybody (d := d)  h39) cv_X12_93 (w_111 _ _ _) rfl rfl (st := [.int x6]) rfl rfl rfl dX12_fates_73 (fun dy => ?_)
        obtain ⟨v41, e42, hf⟩ := bnd_eq hf
        have J43 : AW X 84 [(0, .ref (gA (xG X) 111)), (1, .int x1), (2, .int x2), (3, .int x3), (4, .int x4), (5, .int x5), (6, .int x6), (7, .int x7)] [.int v41] μ38 dy := by
          refine r_istore hX dX12_fates_84 rfl (ls' := [(4, .int v41), (0, .ref (gA (xG X) 111)), (1, .int x1), (2, .int x2), (3, .int x3), (5, .int x5), (6, .int x6), (7, .int x7)]) rfl ?_
          refine r_iload hX dX12_fates_86 5 rfl ?_
          obtain ⟨v44, e45, hf⟩ := bnd_eq hf
          have J46 : AW X 101 [(4, .int v41), (0, .ref (gA (xG X) 111)), (1, .int x1), (2, .int x2), (3, .int x3), (5, .int x5), (6, .int x6), (7, .int x7)] [.int v44] μ38 dy := by
            refine r_istore hX dX12_fates_101 rfl (ls' := [(5, .int v44), (4, .int v41), (0, .ref (gA (xG X) 111)), (1, .int x1), (2, .int x2), (3, .int x3), (6, .int x6), (7, .int x7)]) rfl ?_
            refine r_aload_n hX dX12_fates_103 2 rfl ?_
            refine r_iload hX dX12_fates_104 6 rfl ?_
            obtain ⟨v49, μ47, h48, hf⟩ := bd2_eq hf
            refine r_callVI (Ok.le hX (by omega)) (c_m_next (d := d)  h48) cv_X12_190 (w_111 _ _ _) rfl rfl (st := []) rfl rfl rfl dX12_fates_106 (fun dy => ?_)
            refine r_istore hX dX12_fates_109 rfl (ls' := [(6, .int v49), (5, .int v44), (4, .int v41), (0, .ref (gA (xG X) 111)), (1, .int x1), (2, .int x2), (3, .int x3), (7, .int x7)]) rfl ?_
            refine r_iinc hX (x7 + (1 : Int32)) dX12_fates_111 7 rfl rfl rfl (ls' := [(7, .int (x7 + (1 : Int32))), (6, .int v49), (5, .int v44), (4, .int v41), (0, .ref (gA (xG X) 111)), (1, .int x1), (2, .int x2), (3, .int x3)]) rfl ?_
            refine r_goto hX 51 dX12_fates_114 rfl ?_
            refine r_weak [4, 5, 6, 7, 3, 2, 1, 0] rfl ?_
            exact ih _ _ _ _ _ _ _ _ _ hf
          refine r_if_ne hX 96 dX12_fates_88 rfl (fun hc50 => ?_) (fun hc50 => ?_)
          · refine r_iconst hX (1 : Int32) dX12_fates_96 rfl ?_
            refine r_goto hX 101 dX12_fates_97 rfl ?_
            exact r_topI (e45.trans (by rw [if_neg hc50])) J46
          · refine r_iload hX dX12_fates_91 6 rfl ?_
            refine r_if_ne hX 100 dX12_fates_93 rfl (fun hc51 => ?_) (fun hc51 => ?_)
            · refine r_iconst hX (0 : Int32) dX12_fates_100 rfl ?_
              exact r_topI (e45.trans (by rw [if_pos hc50, if_neg hc51])) J46
            · refine r_iconst hX (1 : Int32) dX12_fates_96 rfl ?_
              refine r_goto hX 101 dX12_fates_97 rfl ?_
              exact r_topI (e45.trans (by rw [if_pos hc50, if_pos hc51])) J46
        refine r_icmp_ne hX 83 dX12_fates_76 rfl (fun hc52 => ?_) (fun hc52 => ?_)
        · refine r_iconst hX (0 : Int32) dX12_fates_83 rfl ?_
          exact r_topI (e42.trans (by rw [if_neg hc52])) J43
        · refine r_iconst hX (1 : Int32) dX12_fates_79 rfl ?_
          refine r_goto hX 84 dX12_fates_80 rfl ?_
          exact r_topI (e42.trans (by rw [if_pos hc52])) J43
set_option maxHeartbeats 4000000 in
set_option maxRecDepth 20000 in
theorem b_m_fates_b11 {X : Cx} {d : Nat} (hX : Ok M_m_fates (d + 5) X) {r : Int32 × Mem} (hr : RetI M_m_fates X r.1 r.2) : ∀ (n : Nat) (x1 : Int32) (x2 : Int32) (x3 : Int32) (μ : Mem) (dy : Nat → Nat), f_m_fates_b11 n x1 x2 x3 μ = some r → AW X 11 [(0, .ref (gA (xG X) 111)), (1, .int x1), (2, .int x2), (3, .int x3)] [] μ dy := by
  intro n
  induction n with
  | zero => intro x1 x2 x3 μ dy hf; exact nomatch hf
  | succ n ih =>
    intro x1 x2 x3 μ dy hf
    rw [f_m_fates_b11] at hf
    refine r_iload_n hX dX12_fates_11 3 rfl ?_
    refine r_aload_n hX dX12_fates_12 0 rfl ?_
    obtain ⟨v5, μ3, h4, hf⟩ := bd2_eq hf
    refine r_callVI (Ok.le hX (by omega)) (c_m_everybody (d := d)  h4) cv_X12_93 (w_111 _ _ _) rfl rfl (st := [.int x3]) rfl rfl rfl dX12_fates_13 (fun dy => ?_)
    refine r_icmp_gt hX 149 dX12_fates_16 rfl (fun hc6 => ?_) (fun hc6 => ?_)
    · rw [if_pos hc6] at hf
      refine r_aload_n hX dX12_fates_149 0 rfl ?_
      refine r_iconst hX (0 : Int32) dX12_fates_150 rfl ?_
      obtain ⟨μ7, e8, hf⟩ := bnd_eq hf
      refine r_put hX fl_X12_83 ft_X12_10 (w_111 _ _ _) rfl rfl rfl (s_111_10 _ _ _ _) e8 rfl dX12_fates_151 ?_
      refine r_aload_n hX dX12_fates_154 0 rfl ?_
      refine r_iload_n hX dX12_fates_155 2 rfl ?_
      refine r_i2l hX dX12_fates_156 ?_
      obtain ⟨μ9, h10, hf⟩ := bd1_eq hf
      refine r_callVV (Ok.le hX (by omega)) (c_m_tell (d := d)  h10) cv_X12_217 (w_111 _ _ _) rfl rfl (st := []) rfl rfl rfl dX12_fates_157 (fun dy => ?_)
      refine r_iload_n hX dX12_fates_160 1 rfl ?_
      exact fin_I hf hr _ _ _ dX12_fates_161
    · rw [if_neg hc6] at hf
      refine r_aload_n hX dX12_fates_19 0 rfl ?_
      refine r_iload_n hX dX12_fates_20 3 rfl ?_
      refine r_aload_n hX dX12_fates_21 0 rfl ?_
      obtain ⟨v13, μ11, h12, hf⟩ := bd2_eq hf
      refine r_callVI (Ok.le hX (by omega)) (c_m_now (d := d)  h12) cv_X12_137 (w_111 _ _ _) rfl rfl (st := [.int x3, .ref (gA (xG X) 111)]) rfl rfl rfl dX12_fates_22 (fun dy => ?_)
      obtain ⟨v16, μ14, h15, hf⟩ := bd2_eq hf
      refine r_callVI (Ok.le hX (by omega)) (c_m_isFirmAs (d := d)  h15) cv_X12_241 (w_111 _ _ _) rfl rfl (st := []) rfl rfl rfl dX12_fates_25 (fun dy => ?_)
      refine r_if_ne hX 34 dX12_fates_28 rfl (fun hc17 => ?_) (fun hc17 => ?_)
      · rw [if_neg hc17] at hf
        refine r_aload_n hX dX12_fates_34 0 rfl ?_
        refine r_iload_n hX dX12_fates_35 3 rfl ?_
        obtain ⟨μ18, h19, hf⟩ := bd1_eq hf
        refine r_callVV (Ok.le hX (by omega)) (c_m_findRest (d := d)  h19) cv_X12_214 (w_111 _ _ _) rfl rfl (st := []) rfl rfl rfl dX12_fates_36 (fun dy => ?_)
        refine r_iconst hX (0 : Int32) dX12_fates_39 rfl ?_
        refine r_istore hX dX12_fates_40 rfl (ls' := [(4, .int (0 : Int32)), (0, .ref (gA (xG X) 111)), (1, .int x1), (2, .int x2), (3, .int x3)]) rfl ?_
        refine r_iconst hX (0 : Int32) dX12_fates_42 rfl ?_
        refine r_istore hX dX12_fates_43 rfl (ls' := [(5, .int (0 : Int32)), (4, .int (0 : Int32)), (0, .ref (gA (xG X) 111)), (1, .int x1), (2, .int x2), (3, .int x3)]) rfl ?_
        refine r_iload_n hX dX12_fates_45 5 rfl ?_
        refine r_istore hX dX12_fates_46 rfl (ls' := [(6, .int x3), (5, .int (0 : Int32)), (4, .int (0 : Int32)), (0, .ref (gA (xG X) 111)), (1, .int x1), (2, .int x2), (3, .int x3)]) rfl ?_
        refine r_iconst hX (0 : Int32) dX12_fates_48 rfl ?_
        refine r_istore hX dX12_fates_49 rfl (ls' := [(7, .int (0 : Int32)), (6, .int x3), (5, .int (0 : Int32)), (4, .int (0 : Int32)), (0, .ref (gA (xG X) 111)), (1, .int x1), (2, .int x2), (3, .int x3)]) rfl ?_
        refine r_weak [4, 5, 6, 7, 3, 2, 1, 0] rfl ?_
        exact b_m_fates_b51 hX hr ih FU _ _ _ _ _ _ _ _ _ hf
      · rw [if_pos hc17] at hf
        refine r_goto hX 143 dX12_fates_31 rfl ?_
        refine r_iinc hX (x3 + (1 : Int32)) dX12_fates_143 3 rfl rfl rfl (ls' := [(3, .int (x3 + (1 : Int32))), (0, .ref (gA (xG X) 111)), (1, .int x1), (2, .int x2)]) rfl ?_
        refine r_goto hX 11 dX12_fates_146 rfl ?_
        refine r_weak [1, 2, 3, 0] rfl ?_
        exact ih _ _ _ _ _ hf
set_option maxHeartbeats 4000000 in
set_option maxRecDepth 20000 in
theorem c_m_fates {G : Gx} {d : Nat}  {μ : Mem} {r : Int32 × Mem} (hf : f_m_fates  μ = some r) : Con G M_m_fates (d + 5) [.ref (gA G 111)] μ (some (.int r.1), r.2) := by
  refine Con.ofI ⟨rfl, rfl, Nat.le_of_ble_eq_true rfl⟩ rfl rfl (fun X hG hX hr dy => ?_)
  subst hG
  show AW X 0 [(0, .ref (gA (xG X) 111))] [] μ dy
  unfold f_m_fates at hf
  refine r_aload_n hX dX12_fates_0 0 rfl ?_
  refine r_iconst hX (0 : Int32) dX12_fates_1 rfl ?_
  obtain ⟨μ1, e2, hf⟩ := bnd_eq hf
  refine r_put hX fl_X12_80 ft_X12_11 (w_111 _ _ _) rfl rfl rfl (s_111_11 _ _ _ _) e2 rfl dX12_fates_2 ?_
  refine r_iconst hX (0 : Int32) dX12_fates_5 rfl ?_
  refine r_istore_n hX dX12_fates_6 rfl (ls' := [(1, .int (0 : Int32)), (0, .ref (gA (xG X) 111))]) rfl ?_
  refine r_iconst hX (0 : Int32) dX12_fates_7 rfl ?_
  refine r_istore_n hX dX12_fates_8 rfl (ls' := [(2, .int (0 : Int32)), (1, .int (0 : Int32)), (0, .ref (gA (xG X) 111))]) rfl ?_
  refine r_iconst hX (0 : Int32) dX12_fates_9 rfl ?_
  refine r_istore_n hX dX12_fates_10 rfl (ls' := [(3, .int (0 : Int32)), (2, .int (0 : Int32)), (1, .int (0 : Int32)), (0, .ref (gA (xG X) 111))]) rfl ?_
  refine r_weak [3, 2, 1, 0] rfl ?_
  exact b_m_fates_b11 hX hr FU _ _ _ _ _ hf
theorem dX12_isDays_0 : decode cX12_isDays 0 = .ok (.iload_n 0, 1) := by decide +kernel
theorem dX12_isDays_1 : decode cX12_isDays 1 = .ok (.iconst 0, 1) := by decide +kernel
theorem dX12_isDays_2 : decode cX12_isDays 2 = .ok (.iload_n 1, 1) := by decide +kernel
theorem dX12_isDays_3 : decode cX12_isDays 3 = .ok (.invokestatic 89, 3) := by decide +kernel
theorem dX12_isDays_6 : decode cX12_isDays 6 = .ok (.ireturn, 1) := by decide +kernel
set_option maxHeartbeats 4000000 in
set_option maxRecDepth 20000 in
theorem c_m_isDays {G : Gx} {d : Nat} {x0 : Int32} {x1 : Int32} {μ : Mem} {r : Int32 × Mem} (hf : f_m_isDays x0 x1 μ = some r) : Con G M_m_isDays (d + 1) [.int x0, .int x1] μ (some (.int r.1), r.2) := by
  refine Con.ofZ ⟨rfl, rfl, Nat.le_of_ble_eq_true rfl⟩ rfl (fun X hG hX hr dy => ?_)
  subst hG
  show AW X 0 [(0, .int x0), (1, .int x1)] [] μ dy
  unfold f_m_isDays at hf
  refine r_iload_n hX dX12_isDays_0 0 rfl ?_
  refine r_iconst hX (0 : Int32) dX12_isDays_1 rfl ?_
  refine r_iload_n hX dX12_isDays_2 1 rfl ?_
  obtain ⟨v3, μ1, h2, hf⟩ := bd2_eq hf
  refine r_callSI (Ok.le hX (by omega)) (c_m_in (d := d)  h2) cs_X12_89 (st := []) rfl rfl rfl dX12_isDays_3 (fun dy => ?_)
  obtain ⟨b4, hf⟩ := chk_eq hf
  exact fin_Z hf hr _ _ _ (zb_nar b4) dX12_isDays_6
theorem dX12_isLess_0 : decode cX12_isLess 0 = .ok (.iload_n 3, 1) := by decide +kernel
theorem dX12_isLess_1 : decode cX12_isLess 1 = .ok (.ifCond .eq 35, 3) := by decide +kernel
theorem dX12_isLess_4 : decode cX12_isLess 4 = .ok (.aload_n 0, 1) := by decide +kernel
theorem dX12_isLess_5 : decode cX12_isLess 5 = .ok (.iload_n 1, 1) := by decide +kernel
theorem dX12_isLess_6 : decode cX12_isLess 6 = .ok (.invokevirtual 199, 3) := by decide +kernel
theorem dX12_isLess_9 : decode cX12_isLess 9 = .ok (.aload_n 0, 1) := by decide +kernel
theorem dX12_isLess_10 : decode cX12_isLess 10 = .ok (.iload_n 2, 1) := by decide +kernel
theorem dX12_isLess_11 : decode cX12_isLess 11 = .ok (.invokevirtual 199, 3) := by decide +kernel
theorem dX12_isLess_14 : decode cX12_isLess 14 = .ok (.if_icmp .eq 22, 3) := by decide +kernel
theorem dX12_isLess_17 : decode cX12_isLess 17 = .ok (.aload_n 0, 1) := by decide +kernel
theorem dX12_isLess_18 : decode cX12_isLess 18 = .ok (.iload_n 1, 1) := by decide +kernel
theorem dX12_isLess_19 : decode cX12_isLess 19 = .ok (.invokevirtual 199, 3) := by decide +kernel
theorem dX12_isLess_22 : decode cX12_isLess 22 = .ok (.aload_n 0, 1) := by decide +kernel
theorem dX12_isLess_23 : decode cX12_isLess 23 = .ok (.iload_n 2, 1) := by decide +kernel
theorem dX12_isLess_24 : decode cX12_isLess 24 = .ok (.invokevirtual 199, 3) := by decide +kernel
theorem dX12_isLess_27 : decode cX12_isLess 27 = .ok (.if_icmp .ge 7, 3) := by decide +kernel
theorem dX12_isLess_30 : decode cX12_isLess 30 = .ok (.iconst 1, 1) := by decide +kernel
theorem dX12_isLess_31 : decode cX12_isLess 31 = .ok (.goto 4, 3) := by decide +kernel
theorem dX12_isLess_34 : decode cX12_isLess 34 = .ok (.iconst 0, 1) := by decide +kernel
theorem dX12_isLess_35 : decode cX12_isLess 35 = .ok (.ireturn, 1) := by decide +kernel
theorem dX12_isLess_36 : decode cX12_isLess 36 = .ok (.iload_n 1, 1) := by decide +kernel
theorem dX12_isLess_37 : decode cX12_isLess 37 = .ok (.invokestatic 244, 3) := by decide +kernel
theorem dX12_isLess_40 : decode cX12_isLess 40 = .ok (.iload_n 2, 1) := by decide +kernel
theorem dX12_isLess_41 : decode cX12_isLess 41 = .ok (.invokestatic 244, 3) := by decide +kernel
theorem dX12_isLess_44 : decode cX12_isLess 44 = .ok (.if_icmp .ge 7, 3) := by decide +kernel
theorem dX12_isLess_47 : decode cX12_isLess 47 = .ok (.iconst 1, 1) := by decide +kernel
theorem dX12_isLess_48 : decode cX12_isLess 48 = .ok (.goto 4, 3) := by decide +kernel
theorem dX12_isLess_51 : decode cX12_isLess 51 = .ok (.iconst 0, 1) := by decide +kernel
theorem dX12_isLess_52 : decode cX12_isLess 52 = .ok (.ireturn, 1) := by decide +kernel
set_option maxHeartbeats 4000000 in
set_option maxRecDepth 20000 in
theorem b_m_isLess_b36 {X : Cx} {d : Nat} (hX : Ok M_m_isLess (d + 2) X) {r : Int32 × Mem} (hr : RetZ M_m_isLess X r.1 r.2) (x1 : Int32) (x2 : Int32) (μ : Mem) (dy : Nat → Nat) (hf : f_m_isLess_b36 x1 x2 μ = some r) : AW X 36 [(1, .int x1), (2, .int x2)] [] μ dy := by
  unfold f_m_isLess_b36 at hf
  refine r_iload_n hX dX12_isLess_36 0 rfl ?_
  obtain ⟨v4, μ2, h3, hf⟩ := bd2_eq hf
  refine r_callSI (Ok.le hX (by omega)) (c_jd_bitCount (d := d)  h3) cs_X12_244 (st := []) rfl rfl rfl dX12_isLess_37 (fun dy => ?_)
  refine r_iload_n hX dX12_isLess_40 1 rfl ?_
  obtain ⟨v7, μ5, h6, hf⟩ := bd2_eq hf
  refine r_callSI (Ok.le hX (by omega)) (c_jd_bitCount (d := d)  h6) cs_X12_244 (st := [.int v4]) rfl rfl rfl dX12_isLess_41 (fun dy => ?_)
  obtain ⟨v8, e9, hf⟩ := bnd_eq hf
  have J10 : AW X 52 [(1, .int x1), (2, .int x2)] [.int v8] μ5 dy := by
    obtain ⟨b11, hf⟩ := chk_eq hf
    exact fin_Z hf hr _ _ _ (zb_nar b11) dX12_isLess_52
  refine r_icmp_ge hX 51 dX12_isLess_44 rfl (fun hc12 => ?_) (fun hc12 => ?_)
  · refine r_iconst hX (0 : Int32) dX12_isLess_51 rfl ?_
    exact r_topI (e9.trans (by rw [if_pos hc12])) J10
  · refine r_iconst hX (1 : Int32) dX12_isLess_47 rfl ?_
    refine r_goto hX 52 dX12_isLess_48 rfl ?_
    exact r_topI (e9.trans (by rw [if_neg hc12])) J10
set_option maxHeartbeats 4000000 in
set_option maxRecDepth 20000 in
theorem c_m_isLess {G : Gx} {d : Nat} {x1 : Int32} {x2 : Int32} {x3 : Int32} {μ : Mem} {r : Int32 × Mem} (hf : f_m_isLess x1 x2 x3 μ = some r) : Con G M_m_isLess (d + 2) [.ref (gA G 111), .int x1, .int x2, .int x3] μ (some (.int r.1), r.2) := by
  refine Con.ofZ ⟨rfl, rfl, Nat.le_of_ble_eq_true rfl⟩ rfl (fun X hG hX hr dy => ?_)
  subst hG
  show AW X 0 [(0, .ref (gA (xG X) 111)), (1, .int x1), (2, .int x2), (3, .int x3)] [] μ dy
  unfold f_m_isLess at hf
  refine r_iload_n hX dX12_isLess_0 3 rfl ?_
  refine r_if_eq hX 36 dX12_isLess_1 rfl (fun hc1 => ?_) (fun hc1 => ?_)
  · rw [if_pos hc1] at hf
    refine r_weak [1, 2] rfl ?_
    exact b_m_isLess_b36 hX hr _ _ _ _ hf
  · rw [if_neg hc1] at hf
    refine r_aload_n hX dX12_isLess_4 0 rfl ?_
    refine r_iload_n hX dX12_isLess_5 1 rfl ?_
    obtain ⟨v15, μ13, h14, hf⟩ := bd2_eq hf
    refine r_callVI (Ok.le hX (by omega)) (c_m_priceOf (d := d)  h14) cv_X12_199 (w_111 _ _ _) rfl rfl (st := []) rfl rfl rfl dX12_isLess_6 (fun dy => ?_)
    refine r_aload_n hX dX12_isLess_9 0 rfl ?_
    refine r_iload_n hX dX12_isLess_10 2 rfl ?_
    obtain ⟨v18, μ16, h17, hf⟩ := bd2_eq hf
    refine r_callVI (Ok.le hX (by omega)) (c_m_priceOf (d := d)  h17) cv_X12_199 (w_111 _ _ _) rfl rfl (st := [.int v15]) rfl rfl rfl dX12_isLess_11 (fun dy => ?_)
    refine r_icmp_eq hX 36 dX12_isLess_14 rfl (fun hc19 => ?_) (fun hc19 => ?_)
    · rw [if_pos hc19] at hf
      refine r_weak [1, 2] rfl ?_
      exact b_m_isLess_b36 hX hr _ _ _ _ hf
    · rw [if_neg hc19] at hf
      refine r_aload_n hX dX12_isLess_17 0 rfl ?_
      refine r_iload_n hX dX12_isLess_18 1 rfl ?_
      obtain ⟨v22, μ20, h21, hf⟩ := bd2_eq hf
      refine r_callVI (Ok.le hX (by omega)) (c_m_priceOf (d := d)  h21) cv_X12_199 (w_111 _ _ _) rfl rfl (st := []) rfl rfl rfl dX12_isLess_19 (fun dy => ?_)
      refine r_aload_n hX dX12_isLess_22 0 rfl ?_
      refine r_iload_n hX dX12_isLess_23 2 rfl ?_
      obtain ⟨v25, μ23, h24, hf⟩ := bd2_eq hf
      refine r_callVI (Ok.le hX (by omega)) (c_m_priceOf (d := d)  h24) cv_X12_199 (w_111 _ _ _) rfl rfl (st := [.int v22]) rfl rfl rfl dX12_isLess_24 (fun dy => ?_)
      obtain ⟨v26, e27, hf⟩ := bnd_eq hf
      have J28 : AW X 35 [(0, .ref (gA (xG X) 111)), (1, .int x1), (2, .int x2), (3, .int x3)] [.int v26] μ23 dy := by
        obtain ⟨b29, hf⟩ := chk_eq hf
        exact fin_Z hf hr _ _ _ (zb_nar b29) dX12_isLess_35
      refine r_icmp_ge hX 34 dX12_isLess_27 rfl (fun hc30 => ?_) (fun hc30 => ?_)
      · refine r_iconst hX (0 : Int32) dX12_isLess_34 rfl ?_
        exact r_topI (e27.trans (by rw [if_pos hc30])) J28
      · refine r_iconst hX (1 : Int32) dX12_isLess_30 rfl ?_
        refine r_goto hX 35 dX12_isLess_31 rfl ?_
        exact r_topI (e27.trans (by rw [if_neg hc30])) J28
theorem dX12_findTalked_0 : decode cX12_findTalked 0 = .ok (.iconst (-1), 1) := by decide +kernel
theorem dX12_findTalked_1 : decode cX12_findTalked 1 = .ok (.istore 4, 2) := by decide +kernel
theorem dX12_findTalked_3 : decode cX12_findTalked 3 = .ok (.iconst 0, 1) := by decide +kernel
theorem dX12_findTalked_4 : decode cX12_findTalked 4 = .ok (.istore 5, 2) := by decide +kernel
theorem dX12_findTalked_6 : decode cX12_findTalked 6 = .ok (.iload 5, 2) := by decide +kernel
theorem dX12_findTalked_8 : decode cX12_findTalked 8 = .ok (.aload_n 0, 1) := by decide +kernel
theorem dX12_findTalked_9 : decode cX12_findTalked 9 = .ok (.invokevirtual 93, 3) := by decide +kernel
theorem dX12_findTalked_12 : decode cX12_findTalked 12 = .ok (.if_icmp .gt 66, 3) := by decide +kernel
theorem dX12_findTalked_15 : decode cX12_findTalked 15 = .ok (.iload 5, 2) := by decide +kernel
theorem dX12_findTalked_17 : decode cX12_findTalked 17 = .ok (.aload_n 0, 1) := by decide +kernel
theorem dX12_findTalked_18 : decode cX12_findTalked 18 = .ok (.invokevirtual 196, 3) := by decide +kernel
theorem dX12_findTalked_21 : decode cX12_findTalked 21 = .ok (.iconst (-1), 1) := by decide +kernel
theorem dX12_findTalked_22 : decode cX12_findTalked 22 = .ok (.ixor, 1) := by decide +kernel
theorem dX12_findTalked_23 : decode cX12_findTalked 23 = .ok (.iand, 1) := by decide +kernel
theorem dX12_findTalked_24 : decode cX12_findTalked 24 = .ok (.ifCond .eq 6, 3) := by decide +kernel
theorem dX12_findTalked_27 : decode cX12_findTalked 27 = .ok (.goto 45, 3) := by decide +kernel
theorem dX12_findTalked_30 : decode cX12_findTalked 30 = .ok (.iload 4, 2) := by decide +kernel
theorem dX12_findTalked_32 : decode cX12_findTalked 32 = .ok (.iconst (-1), 1) := by decide +kernel
theorem dX12_findTalked_33 : decode cX12_findTalked 33 = .ok (.if_icmp .eq 18, 3) := by decide +kernel
theorem dX12_findTalked_36 : decode cX12_findTalked 36 = .ok (.aload_n 0, 1) := by decide +kernel
theorem dX12_findTalked_37 : decode cX12_findTalked 37 = .ok (.iload 5, 2) := by decide +kernel
theorem dX12_findTalked_39 : decode cX12_findTalked 39 = .ok (.iload 4, 2) := by decide +kernel
theorem dX12_findTalked_41 : decode cX12_findTalked 41 = .ok (.iload_n 3, 1) := by decide +kernel
theorem dX12_findTalked_42 : decode cX12_findTalked 42 = .ok (.invokevirtual 249, 3) := by decide +kernel
theorem dX12_findTalked_45 : decode cX12_findTalked 45 = .ok (.ifCond .ne 6, 3) := by decide +kernel
theorem dX12_findTalked_48 : decode cX12_findTalked 48 = .ok (.goto 24, 3) := by decide +kernel
theorem dX12_findTalked_51 : decode cX12_findTalked 51 = .ok (.aload_n 0, 1) := by decide +kernel
theorem dX12_findTalked_52 : decode cX12_findTalked 52 = .ok (.iload_n 1, 1) := by decide +kernel
theorem dX12_findTalked_53 : decode cX12_findTalked 53 = .ok (.aload_n 0, 1) := by decide +kernel
theorem dX12_findTalked_54 : decode cX12_findTalked 54 = .ok (.invokevirtual 137, 3) := by decide +kernel
theorem dX12_findTalked_57 : decode cX12_findTalked 57 = .ok (.iload 5, 2) := by decide +kernel
theorem dX12_findTalked_59 : decode cX12_findTalked 59 = .ok (.ior, 1) := by decide +kernel
theorem dX12_findTalked_60 : decode cX12_findTalked 60 = .ok (.iload_n 2, 1) := by decide +kernel
theorem dX12_findTalked_61 : decode cX12_findTalked 61 = .ok (.invokevirtual 234, 3) := by decide +kernel
theorem dX12_findTalked_64 : decode cX12_findTalked 64 = .ok (.iconst (-1), 1) := by decide +kernel
theorem dX12_findTalked_65 : decode cX12_findTalked 65 = .ok (.if_icmp .eq 7, 3) := by decide +kernel
theorem dX12_findTalked_68 : decode cX12_findTalked 68 = .ok (.iload 5, 2) := by decide +kernel
theorem dX12_findTalked_70 : decode cX12_findTalked 70 = .ok (.istore 4, 2) := by decide +kernel
theorem dX12_findTalked_72 : decode cX12_findTalked 72 = .ok (.iinc 5 1, 3) := by decide +kernel
theorem dX12_findTalked_75 : decode cX12_findTalked 75 = .ok (.goto (-69), 3) := by decide +kernel
theorem dX12_findTalked_78 : decode cX12_findTalked 78 = .ok (.iload 4, 2) := by decide +kernel
theorem dX12_findTalked_80 : decode cX12_findTalked 80 = .ok (.ireturn, 1) := by decide +kernel
set_option maxHeartbeats 4000000 in
set_option maxRecDepth 20000 in
theorem b_m_findTalked_b51 {X : Cx} {d : Nat} (hX : Ok M_m_findTalked (d + 5) X) {r : Int32 × Mem} (hr : RetI M_m_findTalked X r.1 r.2) {k6 : Int32 → Int32 → Int32 → Int32 → Int32 → Mem → Option (Int32 × Mem)} (hk6 : ∀ (x1 : Int32) (x2 : Int32) (x3 : Int32) (x4 : Int32) (x5 : Int32) (μ : Mem) (dy : Nat → Nat), k6 x1 x2 x3 x4 x5 μ = some r → AW X 6 [(0, .ref (gA (xG X) 111)), (1, .int x1), (2, .int x2), (3, .int x3), (4, .int x4), (5, .int x5)] [] μ dy) (x1 : Int32) (x2 : Int32) (x3 : Int32) (x4 : Int32) (x5 : Int32) (μ : Mem) (dy : Nat → Nat) (hf : f_m_findTalked_b51 k6 x1 x2 x3 x4 x5 μ = some r) : AW X 51 [(0, .ref (gA (xG X) 111)), (1, .int x1), (2, .int x2), (3, .int x3), (4, .int x4), (5, .int x5)] [] μ dy := by
  unfold f_m_findTalked_b51 at hf
  refine r_aload_n hX dX12_findTalked_51 0 rfl ?_
  refine r_iload_n hX dX12_findTalked_52 1 rfl ?_
  refine r_aload_n hX dX12_findTalked_53 0 rfl ?_
  obtain ⟨v12, μ10, h11, hf⟩ := bd2_eq hf
  refine r_callVI (Ok.le hX (by omega)) (c_m_now (d := d)  h11) cv_X12_137 (w_111 _ _ _) rfl rfl (st := [.int x1, .ref (gA (xG X) 111)]) rfl rfl rfl dX12_findTalked_54 (fun dy => ?_)
  refine r_iload hX dX12_findTalked_57 5 rfl ?_
  refine r_ior hX dX12_findTalked_59 ?_
  refine r_iload_n hX dX12_findTalked_60 2 rfl ?_
  obtain ⟨v15, μ13, h14, hf⟩ := bd2_eq hf
  refine r_callVI (Ok.le hX (by omega)) (c_m_dayOf (d := d)  h14) cv_X12_234 (w_111 _ _ _) rfl rfl (st := []) rfl rfl rfl dX12_findTalked_61 (fun dy => ?_)
  refine r_iconst hX (-1 : Int32) dX12_findTalked_64 rfl ?_
  refine r_icmp_eq hX 72 dX12_findTalked_65 rfl (fun hc16 => ?_) (fun hc16 => ?_)
  · rw [if_pos hc16] at hf
    refine r_iinc hX (x5 + (1 : Int32)) dX12_findTalked_72 5 rfl rfl rfl (ls' := [(5, .int (x5 + (1 : Int32))), (0, .ref (gA (xG X) 111)), (1, .int x1), (2, .int x2), (3, .int x3), (4, .int x4)]) rfl ?_
    refine r_goto hX 6 dX12_findTalked_75 rfl ?_
    refine r_weak [1, 2, 3, 4, 5, 0] rfl ?_
    exact hk6 _ _ _ _ _ _ _ hf
  · rw [if_neg hc16] at hf
    refine r_iload hX dX12_findTalked_68 5 rfl ?_
    refine r_istore hX dX12_findTalked_70 rfl (ls' := [(4, .int x5), (0, .ref (gA (xG X) 111)), (1, .int x1), (2, .int x2), (3, .int x3), (5, .int x5)]) rfl ?_
    refine r_iinc hX (x5 + (1 : Int32)) dX12_findTalked_72 5 rfl rfl rfl (ls' := [(5, .int (x5 + (1 : Int32))), (4, .int x5), (0, .ref (gA (xG X) 111)), (1, .int x1), (2, .int x2), (3, .int x3)]) rfl ?_
    refine r_goto hX 6 dX12_findTalked_75 rfl ?_
    refine r_weak [2, 3, 4, 5, 1, 0] rfl ?_
    exact hk6 _ _ _ _ _ _ _ hf
set_option maxHeartbeats 4000000 in
set_option maxRecDepth 20000 in
theorem b_m_findTalked_b6 {X : Cx} {d : Nat} (hX : Ok M_m_findTalked (d + 5) X) {r : Int32 × Mem} (hr : RetI M_m_findTalked X r.1 r.2) : ∀ (n : Nat) (x1 : Int32) (x2 : Int32) (x3 : Int32) (x4 : Int32) (x5 : Int32) (μ : Mem) (dy : Nat → Nat), f_m_findTalked_b6 n x1 x2 x3 x4 x5 μ = some r → AW X 6 [(0, .ref (gA (xG X) 111)), (1, .int x1), (2, .int x2), (3, .int x3), (4, .int x4), (5, .int x5)] [] μ dy := by
  intro n
  induction n with
  | zero => intro x1 x2 x3 x4 x5 μ dy hf; exact nomatch hf
  | succ n ih =>
    intro x1 x2 x3 x4 x5 μ dy hf
    rw [f_m_findTalked_b6] at hf
    refine r_iload hX dX12_findTalked_6 5 rfl ?_
    refine r_aload_n hX dX12_findTalked_8 0 rfl ?_
    obtain ⟨v3, μ1, h2, hf⟩ := bd2_eq hf
    refine r_callVI (Ok.le hX (by omega)) (c_m_everybody (d := d)  h2) cv_X12_93 (w_111 _ _ _) rfl rfl (st := [.int x5]) rfl rfl rfl dX12_findTalked_9 (fun dy => ?_)
    refine r_icmp_gt hX 78 dX12_findTalked_12 rfl (fun hc4 => ?_) (fun hc4 => ?_)
    · rw [if_pos hc4] at hf
      refine r_iload hX dX12_findTalked_78 4 rfl ?_
      exact fin_I hf hr _ _ _ dX12_findTalked_80
    · rw [if_neg hc4] at hf
      refine r_iload hX dX12_findTalked_15 5 rfl ?_
      refine r_aload_n hX dX12_findTalked_17 0 rfl ?_
      obtain ⟨v7, μ5, h6, hf⟩ := bd2_eq hf
      refine r_callVI (Ok.le hX (by omega)) (c_m_open (d := d)  h6) cv_X12_196 (w_111 _ _ _) rfl rfl (st := [.int x5]) rfl rfl rfl dX12_findTalked_18 (fun dy => ?_)
      refine r_iconst hX (-1 : Int32) dX12_findTalked_21 rfl ?_
      refine r_ixor hX dX12_findTalked_22 ?_
      refine r_iand hX dX12_findTalked_23 ?_
      refine r_if_eq hX 30 dX12_findTalked_24 rfl (fun hc8 => ?_) (fun hc8 => ?_)
      · rw [if_pos hc8] at hf
        refine r_iload hX dX12_findTalked_30 4 rfl ?_
        refine r_iconst hX (-1 : Int32) dX12_findTalked_32 rfl ?_
        refine r_icmp_eq hX 51 dX12_findTalked_33 rfl (fun hc9 => ?_) (fun hc9 => ?_)
        · rw [if_pos hc9] at hf
          refine r_weak [0, 1, 2, 3, 4, 5] rfl ?_
          exact b_m_findTalked_b51 hX hr ih _ _ _ _ _ _ _ hf
        · rw [if_neg hc9] at hf
          refine r_aload_n hX dX12_findTalked_36 0 rfl ?_
          refine r_iload hX dX12_findTalked_37 5 rfl ?_
          refine r_iload hX dX12_findTalked_39 4 rfl ?_
          refine r_iload_n hX dX12_findTalked_41 3 rfl ?_
          obtain ⟨v19, μ17, h18, hf⟩ := bd2_eq hf
          refine r_callVI (Ok.le hX (by omega)) (c_m_isLess (d := d)  h18) cv_X12_249 (w_111 _ _ _) rfl rfl (st := []) rfl rfl rfl dX12_findTalked_42 (fun dy => ?_)
          refine r_if_ne hX 51 dX12_findTalked_45 rfl (fun hc20 => ?_) (fun hc20 => ?_)
          · rw [if_neg hc20] at hf
            refine r_weak [0, 1, 2, 3, 4, 5] rfl ?_
            exact b_m_findTalked_b51 hX hr ih _ _ _ _ _ _ _ hf
          · rw [if_pos hc20] at hf
            refine r_goto hX 72 dX12_findTalked_48 rfl ?_
            refine r_iinc hX (x5 + (1 : Int32)) dX12_findTalked_72 5 rfl rfl rfl (ls' := [(5, .int (x5 + (1 : Int32))), (0, .ref (gA (xG X) 111)), (1, .int x1), (2, .int x2), (3, .int x3), (4, .int x4)]) rfl ?_
            refine r_goto hX 6 dX12_findTalked_75 rfl ?_
            refine r_weak [1, 2, 3, 4, 5, 0] rfl ?_
            exact ih _ _ _ _ _ _ _ hf
      · rw [if_neg hc8] at hf
        refine r_goto hX 72 dX12_findTalked_27 rfl ?_
        refine r_iinc hX (x5 + (1 : Int32)) dX12_findTalked_72 5 rfl rfl rfl (ls' := [(5, .int (x5 + (1 : Int32))), (0, .ref (gA (xG X) 111)), (1, .int x1), (2, .int x2), (3, .int x3), (4, .int x4)]) rfl ?_
        refine r_goto hX 6 dX12_findTalked_75 rfl ?_
        refine r_weak [1, 2, 3, 4, 5, 0] rfl ?_
        exact ih _ _ _ _ _ _ _ hf
set_option maxHeartbeats 4000000 in
set_option maxRecDepth 20000 in
theorem c_m_findTalked {G : Gx} {d : Nat} {x1 : Int32} {x2 : Int32} {x3 : Int32} {μ : Mem} {r : Int32 × Mem} (hf : f_m_findTalked x1 x2 x3 μ = some r) : Con G M_m_findTalked (d + 5) [.ref (gA G 111), .int x1, .int x2, .int x3] μ (some (.int r.1), r.2) := by
  refine Con.ofI ⟨rfl, rfl, Nat.le_of_ble_eq_true rfl⟩ rfl rfl (fun X hG hX hr dy => ?_)
  subst hG
  show AW X 0 [(0, .ref (gA (xG X) 111)), (1, .int x1), (2, .int x2), (3, .int x3)] [] μ dy
  unfold f_m_findTalked at hf
  refine r_iconst hX (-1 : Int32) dX12_findTalked_0 rfl ?_
  refine r_istore hX dX12_findTalked_1 rfl (ls' := [(4, .int (-1 : Int32)), (0, .ref (gA (xG X) 111)), (1, .int x1), (2, .int x2), (3, .int x3)]) rfl ?_
  refine r_iconst hX (0 : Int32) dX12_findTalked_3 rfl ?_
  refine r_istore hX dX12_findTalked_4 rfl (ls' := [(5, .int (0 : Int32)), (4, .int (-1 : Int32)), (0, .ref (gA (xG X) 111)), (1, .int x1), (2, .int x2), (3, .int x3)]) rfl ?_
  refine r_weak [2, 3, 4, 5, 1, 0] rfl ?_
  exact b_m_findTalked_b6 hX hr FU _ _ _ _ _ _ _ hf
theorem dX12_fewest_0 : decode cX12_fewest 0 = .ok (.aload_n 0, 1) := by decide +kernel
theorem dX12_fewest_1 : decode cX12_fewest 1 = .ok (.iconst 0, 1) := by decide +kernel
theorem dX12_fewest_2 : decode cX12_fewest 2 = .ok (.putfield 80, 3) := by decide +kernel
theorem dX12_fewest_5 : decode cX12_fewest 5 = .ok (.aload_n 0, 1) := by decide +kernel
theorem dX12_fewest_6 : decode cX12_fewest 6 = .ok (.iload_n 1, 1) := by decide +kernel
theorem dX12_fewest_7 : decode cX12_fewest 7 = .ok (.invokevirtual 193, 3) := by decide +kernel
theorem dX12_fewest_10 : decode cX12_fewest 10 = .ok (.ifCond .eq 12, 3) := by decide +kernel
theorem dX12_fewest_13 : decode cX12_fewest 13 = .ok (.iload_n 2, 1) := by decide +kernel
theorem dX12_fewest_14 : decode cX12_fewest 14 = .ok (.bipush 20, 2) := by decide +kernel
theorem dX12_fewest_16 : decode cX12_fewest 16 = .ok (.invokestatic 253, 3) := by decide +kernel
theorem dX12_fewest_19 : decode cX12_fewest 19 = .ok (.ifCond .ne 5, 3) := by decide +kernel
theorem dX12_fewest_22 : decode cX12_fewest 22 = .ok (.iconst (-1), 1) := by decide +kernel
theorem dX12_fewest_23 : decode cX12_fewest 23 = .ok (.ireturn, 1) := by decide +kernel
theorem dX12_fewest_24 : decode cX12_fewest 24 = .ok (.aload_n 0, 1) := by decide +kernel
theorem dX12_fewest_25 : decode cX12_fewest 25 = .ok (.iload_n 1, 1) := by decide +kernel
theorem dX12_fewest_26 : decode cX12_fewest 26 = .ok (.iload_n 2, 1) := by decide +kernel
theorem dX12_fewest_27 : decode cX12_fewest 27 = .ok (.iconst 0, 1) := by decide +kernel
theorem dX12_fewest_28 : decode cX12_fewest 28 = .ok (.invokevirtual 256, 3) := by decide +kernel
theorem dX12_fewest_31 : decode cX12_fewest 31 = .ok (.istore_n 3, 1) := by decide +kernel
theorem dX12_fewest_32 : decode cX12_fewest 32 = .ok (.iload_n 3, 1) := by decide +kernel
theorem dX12_fewest_33 : decode cX12_fewest 33 = .ok (.iconst (-1), 1) := by decide +kernel
theorem dX12_fewest_34 : decode cX12_fewest 34 = .ok (.if_icmp .ne 6, 3) := by decide +kernel
theorem dX12_fewest_37 : decode cX12_fewest 37 = .ok (.bipush (-2), 2) := by decide +kernel
theorem dX12_fewest_39 : decode cX12_fewest 39 = .ok (.ireturn, 1) := by decide +kernel
theorem dX12_fewest_40 : decode cX12_fewest 40 = .ok (.aload_n 0, 1) := by decide +kernel
theorem dX12_fewest_41 : decode cX12_fewest 41 = .ok (.iconst 0, 1) := by decide +kernel
theorem dX12_fewest_42 : decode cX12_fewest 42 = .ok (.putfield 83, 3) := by decide +kernel
theorem dX12_fewest_45 : decode cX12_fewest 45 = .ok (.aload_n 0, 1) := by decide +kernel
theorem dX12_fewest_46 : decode cX12_fewest 46 = .ok (.iload_n 3, 1) := by decide +kernel
theorem dX12_fewest_47 : decode cX12_fewest 47 = .ok (.i2l, 1) := by decide +kernel
theorem dX12_fewest_48 : decode cX12_fewest 48 = .ok (.invokevirtual 217, 3) := by decide +kernel
theorem dX12_fewest_51 : decode cX12_fewest 51 = .ok (.iload_n 3, 1) := by decide +kernel
theorem dX12_fewest_52 : decode cX12_fewest 52 = .ok (.invokestatic 244, 3) := by decide +kernel
theorem dX12_fewest_55 : decode cX12_fewest 55 = .ok (.ireturn, 1) := by decide +kernel
set_option maxHeartbeats 4000000 in
set_option maxRecDepth 20000 in
theorem c_m_fewest {G : Gx} {d : Nat} {x1 : Int32} {x2 : Int32} {μ : Mem} {r : Int32 × Mem} (hf : f_m_fewest x1 x2 μ = some r) : Con G M_m_fewest (d + 6) [.ref (gA G 111), .int x1, .int x2] μ (some (.int r.1), r.2) := by
  refine Con.ofI ⟨rfl, rfl, Nat.le_of_ble_eq_true rfl⟩ rfl rfl (fun X hG hX hr dy => ?_)
  subst hG
  show AW X 0 [(0, .ref (gA (xG X) 111)), (1, .int x1), (2, .int x2)] [] μ dy
  unfold f_m_fewest at hf
  refine r_aload_n hX dX12_fewest_0 0 rfl ?_
  refine r_iconst hX (0 : Int32) dX12_fewest_1 rfl ?_
  obtain ⟨μ1, e2, hf⟩ := bnd_eq hf
  refine r_put hX fl_X12_80 ft_X12_11 (w_111 _ _ _) rfl rfl rfl (s_111_11 _ _ _ _) e2 rfl dX12_fewest_2 ?_
  refine r_aload_n hX dX12_fewest_5 0 rfl ?_
  refine r_iload_n hX dX12_fewest_6 1 rfl ?_
  obtain ⟨v5, μ3, h4, hf⟩ := bd2_eq hf
  refine r_callVI (Ok.le hX (by omega)) (c_m_areSome (d := d)  h4) cv_X12_193 (w_111 _ _ _) rfl rfl (st := []) rfl rfl rfl dX12_fewest_7 (fun dy => ?_)
  refine r_if_eq hX 22 dX12_fewest_10 rfl (fun hc6 => ?_) (fun hc6 => ?_)
  · rw [if_pos hc6] at hf
    refine r_iconst hX (-1 : Int32) dX12_fewest_22 rfl ?_
    exact fin_I hf hr _ _ _ dX12_fewest_23
  · rw [if_neg hc6] at hf
    refine r_iload_n hX dX12_fewest_13 2 rfl ?_
    refine r_bipush hX (20 : Int32) dX12_fewest_14 rfl ?_
    obtain ⟨v9, μ7, h8, hf⟩ := bd2_eq hf
    refine r_callSI (Ok.le hX (by omega)) (c_m_isDays (d := d)  h8) cs_X12_253 (st := []) rfl rfl rfl dX12_fewest_16 (fun dy => ?_)
    refine r_if_ne hX 24 dX12_fewest_19 rfl (fun hc10 => ?_) (fun hc10 => ?_)
    · rw [if_neg hc10] at hf
      refine r_aload_n hX dX12_fewest_24 0 rfl ?_
      refine r_iload_n hX dX12_fewest_25 1 rfl ?_
      refine r_iload_n hX dX12_fewest_26 2 rfl ?_
      refine r_iconst hX (0 : Int32) dX12_fewest_27 rfl ?_
      obtain ⟨v13, μ11, h12, hf⟩ := bd2_eq hf
      refine r_callVI (Ok.le hX (by omega)) (c_m_findTalked (d := d)  h12) cv_X12_256 (w_111 _ _ _) rfl rfl (st := []) rfl rfl rfl dX12_fewest_28 (fun dy => ?_)
      refine r_istore_n hX dX12_fewest_31 rfl (ls' := [(3, .int v13), (0, .ref (gA (xG X) 111)), (1, .int x1), (2, .int x2)]) rfl ?_
      refine r_iload_n hX dX12_fewest_32 0 rfl ?_
      refine r_iconst hX (-1 : Int32) dX12_fewest_33 rfl ?_
      refine r_icmp_ne hX 40 dX12_fewest_34 rfl (fun hc14 => ?_) (fun hc14 => ?_)
      · rw [if_neg hc14] at hf
        refine r_aload_n hX dX12_fewest_40 1 rfl ?_
        refine r_iconst hX (0 : Int32) dX12_fewest_41 rfl ?_
        obtain ⟨μ15, e16, hf⟩ := bnd_eq hf
        refine r_put hX fl_X12_83 ft_X12_10 (w_111 _ _ _) rfl rfl rfl (s_111_10 _ _ _ _) e16 rfl dX12_fewest_42 ?_
        refine r_aload_n hX dX12_fewest_45 1 rfl ?_
        refine r_iload_n hX dX12_fewest_46 0 rfl ?_
        refine r_i2l hX dX12_fewest_47 ?_
        obtain ⟨μ17, h18, hf⟩ := bd1_eq hf
        refine r_callVV (Ok.le hX (by omega)) (c_m_tell (d := d)  h18) cv_X12_217 (w_111 _ _ _) rfl rfl (st := []) rfl rfl rfl dX12_fewest_48 (fun dy => ?_)
        refine r_iload_n hX dX12_fewest_51 0 rfl ?_
        obtain ⟨v21, μ19, h20, hf⟩ := bd2_eq hf
        refine r_callSI (Ok.le hX (by omega)) (c_jd_bitCount (d := d)  h20) cs_X12_244 (st := []) rfl rfl rfl dX12_fewest_52 (fun dy => ?_)
        exact fin_I hf hr _ _ _ dX12_fewest_55
      · rw [if_pos hc14] at hf
        refine r_bipush hX (-2 : Int32) dX12_fewest_37 rfl ?_
        exact fin_I hf hr _ _ _ dX12_fewest_39
    · rw [if_pos hc10] at hf
      refine r_iconst hX (-1 : Int32) dX12_fewest_22 rfl ?_
      exact fin_I hf hr _ _ _ dX12_fewest_23
theorem dX12_cheapest_0 : decode cX12_cheapest 0 = .ok (.aload_n 0, 1) := by decide +kernel
theorem dX12_cheapest_1 : decode cX12_cheapest 1 = .ok (.iconst 0, 1) := by decide +kernel
theorem dX12_cheapest_2 : decode cX12_cheapest 2 = .ok (.putfield 80, 3) := by decide +kernel
theorem dX12_cheapest_5 : decode cX12_cheapest 5 = .ok (.aload_n 0, 1) := by decide +kernel
theorem dX12_cheapest_6 : decode cX12_cheapest 6 = .ok (.iload_n 1, 1) := by decide +kernel
theorem dX12_cheapest_7 : decode cX12_cheapest 7 = .ok (.invokevirtual 193, 3) := by decide +kernel
theorem dX12_cheapest_10 : decode cX12_cheapest 10 = .ok (.ifCond .eq 12, 3) := by decide +kernel
theorem dX12_cheapest_13 : decode cX12_cheapest 13 = .ok (.iload_n 2, 1) := by decide +kernel
theorem dX12_cheapest_14 : decode cX12_cheapest 14 = .ok (.bipush 20, 2) := by decide +kernel
theorem dX12_cheapest_16 : decode cX12_cheapest 16 = .ok (.invokestatic 253, 3) := by decide +kernel
theorem dX12_cheapest_19 : decode cX12_cheapest 19 = .ok (.ifCond .ne 5, 3) := by decide +kernel
theorem dX12_cheapest_22 : decode cX12_cheapest 22 = .ok (.iconst (-1), 1) := by decide +kernel
theorem dX12_cheapest_23 : decode cX12_cheapest 23 = .ok (.ireturn, 1) := by decide +kernel
theorem dX12_cheapest_24 : decode cX12_cheapest 24 = .ok (.aload_n 0, 1) := by decide +kernel
theorem dX12_cheapest_25 : decode cX12_cheapest 25 = .ok (.iload_n 1, 1) := by decide +kernel
theorem dX12_cheapest_26 : decode cX12_cheapest 26 = .ok (.iload_n 2, 1) := by decide +kernel
theorem dX12_cheapest_27 : decode cX12_cheapest 27 = .ok (.iconst 1, 1) := by decide +kernel
theorem dX12_cheapest_28 : decode cX12_cheapest 28 = .ok (.invokevirtual 256, 3) := by decide +kernel
theorem dX12_cheapest_31 : decode cX12_cheapest 31 = .ok (.istore_n 3, 1) := by decide +kernel
theorem dX12_cheapest_32 : decode cX12_cheapest 32 = .ok (.iload_n 3, 1) := by decide +kernel
theorem dX12_cheapest_33 : decode cX12_cheapest 33 = .ok (.iconst (-1), 1) := by decide +kernel
theorem dX12_cheapest_34 : decode cX12_cheapest 34 = .ok (.if_icmp .ne 6, 3) := by decide +kernel
theorem dX12_cheapest_37 : decode cX12_cheapest 37 = .ok (.bipush (-2), 2) := by decide +kernel
theorem dX12_cheapest_39 : decode cX12_cheapest 39 = .ok (.ireturn, 1) := by decide +kernel
theorem dX12_cheapest_40 : decode cX12_cheapest 40 = .ok (.aload_n 0, 1) := by decide +kernel
theorem dX12_cheapest_41 : decode cX12_cheapest 41 = .ok (.iconst 0, 1) := by decide +kernel
theorem dX12_cheapest_42 : decode cX12_cheapest 42 = .ok (.putfield 83, 3) := by decide +kernel
theorem dX12_cheapest_45 : decode cX12_cheapest 45 = .ok (.aload_n 0, 1) := by decide +kernel
theorem dX12_cheapest_46 : decode cX12_cheapest 46 = .ok (.iload_n 3, 1) := by decide +kernel
theorem dX12_cheapest_47 : decode cX12_cheapest 47 = .ok (.i2l, 1) := by decide +kernel
theorem dX12_cheapest_48 : decode cX12_cheapest 48 = .ok (.invokevirtual 217, 3) := by decide +kernel
theorem dX12_cheapest_51 : decode cX12_cheapest 51 = .ok (.aload_n 0, 1) := by decide +kernel
theorem dX12_cheapest_52 : decode cX12_cheapest 52 = .ok (.iload_n 3, 1) := by decide +kernel
theorem dX12_cheapest_53 : decode cX12_cheapest 53 = .ok (.invokevirtual 199, 3) := by decide +kernel
theorem dX12_cheapest_56 : decode cX12_cheapest 56 = .ok (.ireturn, 1) := by decide +kernel
set_option maxHeartbeats 4000000 in
set_option maxRecDepth 20000 in
theorem c_m_cheapest {G : Gx} {d : Nat} {x1 : Int32} {x2 : Int32} {μ : Mem} {r : Int32 × Mem} (hf : f_m_cheapest x1 x2 μ = some r) : Con G M_m_cheapest (d + 6) [.ref (gA G 111), .int x1, .int x2] μ (some (.int r.1), r.2) := by
  refine Con.ofI ⟨rfl, rfl, Nat.le_of_ble_eq_true rfl⟩ rfl rfl (fun X hG hX hr dy => ?_)
  subst hG
  show AW X 0 [(0, .ref (gA (xG X) 111)), (1, .int x1), (2, .int x2)] [] μ dy
  unfold f_m_cheapest at hf
  refine r_aload_n hX dX12_cheapest_0 0 rfl ?_
  refine r_iconst hX (0 : Int32) dX12_cheapest_1 rfl ?_
  obtain ⟨μ1, e2, hf⟩ := bnd_eq hf
  refine r_put hX fl_X12_80 ft_X12_11 (w_111 _ _ _) rfl rfl rfl (s_111_11 _ _ _ _) e2 rfl dX12_cheapest_2 ?_
  refine r_aload_n hX dX12_cheapest_5 0 rfl ?_
  refine r_iload_n hX dX12_cheapest_6 1 rfl ?_
  obtain ⟨v5, μ3, h4, hf⟩ := bd2_eq hf
  refine r_callVI (Ok.le hX (by omega)) (c_m_areSome (d := d)  h4) cv_X12_193 (w_111 _ _ _) rfl rfl (st := []) rfl rfl rfl dX12_cheapest_7 (fun dy => ?_)
  refine r_if_eq hX 22 dX12_cheapest_10 rfl (fun hc6 => ?_) (fun hc6 => ?_)
  · rw [if_pos hc6] at hf
    refine r_iconst hX (-1 : Int32) dX12_cheapest_22 rfl ?_
    exact fin_I hf hr _ _ _ dX12_cheapest_23
  · rw [if_neg hc6] at hf
    refine r_iload_n hX dX12_cheapest_13 2 rfl ?_
    refine r_bipush hX (20 : Int32) dX12_cheapest_14 rfl ?_
    obtain ⟨v9, μ7, h8, hf⟩ := bd2_eq hf
    refine r_callSI (Ok.le hX (by omega)) (c_m_isDays (d := d)  h8) cs_X12_253 (st := []) rfl rfl rfl dX12_cheapest_16 (fun dy => ?_)
    refine r_if_ne hX 24 dX12_cheapest_19 rfl (fun hc10 => ?_) (fun hc10 => ?_)
    · rw [if_neg hc10] at hf
      refine r_aload_n hX dX12_cheapest_24 0 rfl ?_
      refine r_iload_n hX dX12_cheapest_25 1 rfl ?_
      refine r_iload_n hX dX12_cheapest_26 2 rfl ?_
      refine r_iconst hX (1 : Int32) dX12_cheapest_27 rfl ?_
      obtain ⟨v13, μ11, h12, hf⟩ := bd2_eq hf
      refine r_callVI (Ok.le hX (by omega)) (c_m_findTalked (d := d)  h12) cv_X12_256 (w_111 _ _ _) rfl rfl (st := []) rfl rfl rfl dX12_cheapest_28 (fun dy => ?_)
      refine r_istore_n hX dX12_cheapest_31 rfl (ls' := [(3, .int v13), (0, .ref (gA (xG X) 111)), (1, .int x1), (2, .int x2)]) rfl ?_
      refine r_iload_n hX dX12_cheapest_32 0 rfl ?_
      refine r_iconst hX (-1 : Int32) dX12_cheapest_33 rfl ?_
      refine r_icmp_ne hX 40 dX12_cheapest_34 rfl (fun hc14 => ?_) (fun hc14 => ?_)
      · rw [if_neg hc14] at hf
        refine r_aload_n hX dX12_cheapest_40 1 rfl ?_
        refine r_iconst hX (0 : Int32) dX12_cheapest_41 rfl ?_
        obtain ⟨μ15, e16, hf⟩ := bnd_eq hf
        refine r_put hX fl_X12_83 ft_X12_10 (w_111 _ _ _) rfl rfl rfl (s_111_10 _ _ _ _) e16 rfl dX12_cheapest_42 ?_
        refine r_aload_n hX dX12_cheapest_45 1 rfl ?_
        refine r_iload_n hX dX12_cheapest_46 0 rfl ?_
        refine r_i2l hX dX12_cheapest_47 ?_
        obtain ⟨μ17, h18, hf⟩ := bd1_eq hf
        refine r_callVV (Ok.le hX (by omega)) (c_m_tell (d := d)  h18) cv_X12_217 (w_111 _ _ _) rfl rfl (st := []) rfl rfl rfl dX12_cheapest_48 (fun dy => ?_)
        refine r_aload_n hX dX12_cheapest_51 1 rfl ?_
        refine r_iload_n hX dX12_cheapest_52 0 rfl ?_
        obtain ⟨v21, μ19, h20, hf⟩ := bd2_eq hf
        refine r_callVI (Ok.le hX (by omega)) (c_m_priceOf (d := d)  h20) cv_X12_199 (w_111 _ _ _) rfl rfl (st := []) rfl rfl rfl dX12_cheapest_53 (fun dy => ?_)
        exact fin_I hf hr _ _ _ dX12_cheapest_56
      · rw [if_pos hc14] at hf
        refine r_bipush hX (-2 : Int32) dX12_cheapest_37 rfl ?_
        exact fin_I hf hr _ _ _ dX12_cheapest_39
    · rw [if_pos hc10] at hf
      refine r_iconst hX (-1 : Int32) dX12_cheapest_22 rfl ?_
      exact fin_I hf hr _ _ _ dX12_cheapest_23
theorem dX12_canTalk_0 : decode cX12_canTalk 0 = .ok (.iload_n 1, 1) := by decide +kernel
theorem dX12_canTalk_1 : decode cX12_canTalk 1 = .ok (.iconst (-1), 1) := by decide +kernel
theorem dX12_canTalk_2 : decode cX12_canTalk 2 = .ok (.if_icmp .eq 22, 3) := by decide +kernel
theorem dX12_canTalk_5 : decode cX12_canTalk 5 = .ok (.aload_n 0, 1) := by decide +kernel
theorem dX12_canTalk_6 : decode cX12_canTalk 6 = .ok (.getfield 140, 3) := by decide +kernel
theorem dX12_canTalk_9 : decode cX12_canTalk 9 = .ok (.iload_n 1, 1) := by decide +kernel
theorem dX12_canTalk_10 : decode cX12_canTalk 10 = .ok (.invokestatic 164, 3) := by decide +kernel
theorem dX12_canTalk_13 : decode cX12_canTalk 13 = .ok (.ifCond .ne 15, 3) := by decide +kernel
theorem dX12_canTalk_16 : decode cX12_canTalk 16 = .ok (.iload_n 2, 1) := by decide +kernel
theorem dX12_canTalk_17 : decode cX12_canTalk 17 = .ok (.iload_n 1, 1) := by decide +kernel
theorem dX12_canTalk_18 : decode cX12_canTalk 18 = .ok (.invokestatic 164, 3) := by decide +kernel
theorem dX12_canTalk_21 : decode cX12_canTalk 21 = .ok (.ifCond .ne 7, 3) := by decide +kernel
theorem dX12_canTalk_24 : decode cX12_canTalk 24 = .ok (.iconst 1, 1) := by decide +kernel
theorem dX12_canTalk_25 : decode cX12_canTalk 25 = .ok (.goto 4, 3) := by decide +kernel
theorem dX12_canTalk_28 : decode cX12_canTalk 28 = .ok (.iconst 0, 1) := by decide +kernel
theorem dX12_canTalk_29 : decode cX12_canTalk 29 = .ok (.ireturn, 1) := by decide +kernel
set_option maxHeartbeats 4000000 in
set_option maxRecDepth 20000 in
theorem b_m_canTalk_b24 {X : Cx} {d : Nat} (hX : Ok M_m_canTalk (d + 1) X) {r : Int32 × Mem} (hr : RetZ M_m_canTalk X r.1 r.2)  (μ : Mem) (dy : Nat → Nat) (hf : f_m_canTalk_b24  μ = some r) : AW X 24 [] [] μ dy := by
  unfold f_m_canTalk_b24 at hf
  refine r_iconst hX (1 : Int32) dX12_canTalk_24 rfl ?_
  refine r_goto hX 29 dX12_canTalk_25 rfl ?_
  obtain ⟨b2, hf⟩ := chk_eq hf
  exact fin_Z hf hr _ _ _ (zb_nar b2) dX12_canTalk_29
set_option maxHeartbeats 4000000 in
set_option maxRecDepth 20000 in
theorem c_m_canTalk {G : Gx} {d : Nat} {x1 : Int32} {x2 : Int32} {μ : Mem} {r : Int32 × Mem} (hf : f_m_canTalk x1 x2 μ = some r) : Con G M_m_canTalk (d + 1) [.ref (gA G 111), .int x1, .int x2] μ (some (.int r.1), r.2) := by
  refine Con.ofZ ⟨rfl, rfl, Nat.le_of_ble_eq_true rfl⟩ rfl (fun X hG hX hr dy => ?_)
  subst hG
  show AW X 0 [(0, .ref (gA (xG X) 111)), (1, .int x1), (2, .int x2)] [] μ dy
  unfold f_m_canTalk at hf
  refine r_iload_n hX dX12_canTalk_0 1 rfl ?_
  refine r_iconst hX (-1 : Int32) dX12_canTalk_1 rfl ?_
  refine r_icmp_eq hX 24 dX12_canTalk_2 rfl (fun hc1 => ?_) (fun hc1 => ?_)
  · rw [if_pos hc1] at hf
    refine r_weak [] rfl ?_
    exact b_m_canTalk_b24 hX hr _ _ hf
  · rw [if_neg hc1] at hf
    refine r_aload_n hX dX12_canTalk_5 0 rfl ?_
    refine r_get hX fl_X12_140 (w_111 _ _ _) rfl dX12_canTalk_6 ?_
    refine r_iload_n hX dX12_canTalk_9 1 rfl ?_
    obtain ⟨v5, μ3, h4, hf⟩ := bd2_eq hf
    refine r_callSI (Ok.le hX (by omega)) (c_m_has (d := d)  h4) cs_X12_164 (st := []) rfl rfl rfl dX12_canTalk_10 (fun dy => ?_)
    refine r_if_ne hX 28 dX12_canTalk_13 rfl (fun hc6 => ?_) (fun hc6 => ?_)
    · rw [if_neg hc6] at hf
      refine r_iconst hX (0 : Int32) dX12_canTalk_28 rfl ?_
      obtain ⟨b7, hf⟩ := chk_eq hf
      exact fin_Z hf hr _ _ _ (zb_nar b7) dX12_canTalk_29
    · rw [if_pos hc6] at hf
      refine r_iload_n hX dX12_canTalk_16 2 rfl ?_
      refine r_iload_n hX dX12_canTalk_17 1 rfl ?_
      obtain ⟨v10, μ8, h9, hf⟩ := bd2_eq hf
      refine r_callSI (Ok.le hX (by omega)) (c_m_has (d := d)  h9) cs_X12_164 (st := []) rfl rfl rfl dX12_canTalk_18 (fun dy => ?_)
      obtain ⟨v11, e12, hf⟩ := bnd_eq hf
      have J13 : AW X 29 [(0, .ref (gA (xG X) 111)), (1, .int x1), (2, .int x2)] [.int v11] μ8 dy := by
        obtain ⟨b14, hf⟩ := chk_eq hf
        exact fin_Z hf hr _ _ _ (zb_nar b14) dX12_canTalk_29
      refine r_if_ne hX 28 dX12_canTalk_21 rfl (fun hc15 => ?_) (fun hc15 => ?_)
      · refine r_iconst hX (0 : Int32) dX12_canTalk_28 rfl ?_
        exact r_topI (e12.trans (by rw [if_neg hc15])) J13
      · refine r_iconst hX (1 : Int32) dX12_canTalk_24 rfl ?_
        refine r_goto hX 29 dX12_canTalk_25 rfl ?_
        exact r_topI (e12.trans (by rw [if_pos hc15])) J13
theorem dX12_sumBy_0 : decode cX12_sumBy 0 = .ok (.aload_n 0, 1) := by decide +kernel
theorem dX12_sumBy_1 : decode cX12_sumBy 1 = .ok (.iload_n 1, 1) := by decide +kernel
theorem dX12_sumBy_2 : decode cX12_sumBy 2 = .ok (.aload_n 0, 1) := by decide +kernel
theorem dX12_sumBy_3 : decode cX12_sumBy 3 = .ok (.iload 4, 2) := by decide +kernel
theorem dX12_sumBy_5 : decode cX12_sumBy 5 = .ok (.iconst (-1), 1) := by decide +kernel
theorem dX12_sumBy_6 : decode cX12_sumBy 6 = .ok (.if_icmp .ne 7, 3) := by decide +kernel
theorem dX12_sumBy_9 : decode cX12_sumBy 9 = .ok (.iload_n 2, 1) := by decide +kernel
theorem dX12_sumBy_10 : decode cX12_sumBy 10 = .ok (.goto 9, 3) := by decide +kernel
theorem dX12_sumBy_13 : decode cX12_sumBy 13 = .ok (.iload_n 2, 1) := by decide +kernel
theorem dX12_sumBy_14 : decode cX12_sumBy 14 = .ok (.iconst 1, 1) := by decide +kernel
theorem dX12_sumBy_15 : decode cX12_sumBy 15 = .ok (.iload 4, 2) := by decide +kernel
theorem dX12_sumBy_17 : decode cX12_sumBy 17 = .ok (.ishl, 1) := by decide +kernel
theorem dX12_sumBy_18 : decode cX12_sumBy 18 = .ok (.ior, 1) := by decide +kernel
theorem dX12_sumBy_19 : decode cX12_sumBy 19 = .ok (.invokevirtual 190, 3) := by decide +kernel
theorem dX12_sumBy_22 : decode cX12_sumBy 22 = .ok (.iload_n 3, 1) := by decide +kernel
theorem dX12_sumBy_23 : decode cX12_sumBy 23 = .ok (.iconst 1, 1) := by decide +kernel
theorem dX12_sumBy_24 : decode cX12_sumBy 24 = .ok (.isub, 1) := by decide +kernel
theorem dX12_sumBy_25 : decode cX12_sumBy 25 = .ok (.invokevirtual 267, 3) := by decide +kernel
theorem dX12_sumBy_28 : decode cX12_sumBy 28 = .ok (.istore 5, 2) := by decide +kernel
theorem dX12_sumBy_30 : decode cX12_sumBy 30 = .ok (.iload 5, 2) := by decide +kernel
theorem dX12_sumBy_32 : decode cX12_sumBy 32 = .ok (.ldc 237, 2) := by decide +kernel
theorem dX12_sumBy_34 : decode cX12_sumBy 34 = .ok (.if_icmp .ne 8, 3) := by decide +kernel
theorem dX12_sumBy_37 : decode cX12_sumBy 37 = .ok (.ldc 237, 2) := by decide +kernel
theorem dX12_sumBy_39 : decode cX12_sumBy 39 = .ok (.goto 28, 3) := by decide +kernel
theorem dX12_sumBy_42 : decode cX12_sumBy 42 = .ok (.iload 5, 2) := by decide +kernel
theorem dX12_sumBy_44 : decode cX12_sumBy 44 = .ok (.bipush 100, 2) := by decide +kernel
theorem dX12_sumBy_46 : decode cX12_sumBy 46 = .ok (.iload 4, 2) := by decide +kernel
theorem dX12_sumBy_48 : decode cX12_sumBy 48 = .ok (.iconst (-1), 1) := by decide +kernel
theorem dX12_sumBy_49 : decode cX12_sumBy 49 = .ok (.if_icmp .ne 7, 3) := by decide +kernel
theorem dX12_sumBy_52 : decode cX12_sumBy 52 = .ok (.iconst 0, 1) := by decide +kernel
theorem dX12_sumBy_53 : decode cX12_sumBy 53 = .ok (.goto 10, 3) := by decide +kernel
theorem dX12_sumBy_56 : decode cX12_sumBy 56 = .ok (.aload_n 0, 1) := by decide +kernel
theorem dX12_sumBy_57 : decode cX12_sumBy 57 = .ok (.getfield 13, 3) := by decide +kernel
theorem dX12_sumBy_60 : decode cX12_sumBy 60 = .ok (.iload 4, 2) := by decide +kernel
theorem dX12_sumBy_62 : decode cX12_sumBy 62 = .ok (.iaload, 1) := by decide +kernel
theorem dX12_sumBy_63 : decode cX12_sumBy 63 = .ok (.imul, 1) := by decide +kernel
theorem dX12_sumBy_64 : decode cX12_sumBy 64 = .ok (.iadd, 1) := by decide +kernel
theorem dX12_sumBy_65 : decode cX12_sumBy 65 = .ok (.iconst 1, 1) := by decide +kernel
theorem dX12_sumBy_66 : decode cX12_sumBy 66 = .ok (.iadd, 1) := by decide +kernel
theorem dX12_sumBy_67 : decode cX12_sumBy 67 = .ok (.ireturn, 1) := by decide +kernel
set_option maxHeartbeats 4000000 in
set_option maxRecDepth 20000 in
theorem b_m_sumBy_b63 {X : Cx} {d : Nat} {R : Int32 → Int32 → Int32 → Mem → Option (Int32 × Mem)} (hR : ∀ (x1 : Int32) (x2 : Int32) (x3 : Int32) (μ : Mem) (r : Int32 × Mem), R x1 x2 x3 μ = some r → Con (xG X) M_m_sumOf (d + 8) [.ref (gA (xG X) 111), .int x1, .int x2, .int x3] μ (some (.int r.1), r.2)) (hX : Ok M_m_sumBy (d + 9) X) {r : Int32 × Mem} (hr : RetI M_m_sumBy X r.1 r.2) (s0 : Int32) (s1 : Int32) (s2 : Int32) (μ : Mem) (dy : Nat → Nat) (hf : f_m_sumBy_b63 R s0 s1 s2 μ = some r) : AW X 63 [] [.int s2, .int s1, .int s0] μ dy := by
  unfold f_m_sumBy_b63 at hf
  refine r_imul hX dX12_sumBy_63 ?_
  refine r_iadd hX dX12_sumBy_64 ?_
  refine r_iconst hX (1 : Int32) dX12_sumBy_65 rfl ?_
  refine r_iadd hX dX12_sumBy_66 ?_
  exact fin_I hf hr _ _ _ dX12_sumBy_67
set_option maxHeartbeats 4000000 in
set_option maxRecDepth 20000 in
theorem c_m_sumBy {G : Gx} {d : Nat} {R : Int32 → Int32 → Int32 → Mem → Option (Int32 × Mem)} (hR : ∀ (x1 : Int32) (x2 : Int32) (x3 : Int32) (μ : Mem) (r : Int32 × Mem), R x1 x2 x3 μ = some r → Con G M_m_sumOf (d + 8) [.ref (gA G 111), .int x1, .int x2, .int x3] μ (some (.int r.1), r.2)) {x1 : Int32} {x2 : Int32} {x3 : Int32} {x4 : Int32} {μ : Mem} {r : Int32 × Mem} (hf : f_m_sumBy R x1 x2 x3 x4 μ = some r) : Con G M_m_sumBy (d + 9) [.ref (gA G 111), .int x1, .int x2, .int x3, .int x4] μ (some (.int r.1), r.2) := by
  refine Con.ofI ⟨rfl, rfl, Nat.le_of_ble_eq_true rfl⟩ rfl rfl (fun X hG hX hr dy => ?_)
  subst hG
  show AW X 0 [(0, .ref (gA (xG X) 111)), (1, .int x1), (2, .int x2), (3, .int x3), (4, .int x4)] [] μ dy
  unfold f_m_sumBy at hf
  refine r_aload_n hX dX12_sumBy_0 0 rfl ?_
  refine r_iload_n hX dX12_sumBy_1 1 rfl ?_
  refine r_aload_n hX dX12_sumBy_2 0 rfl ?_
  refine r_iload hX dX12_sumBy_3 4 rfl ?_
  refine r_iconst hX (-1 : Int32) dX12_sumBy_5 rfl ?_
  obtain ⟨v1, e2, hf⟩ := bnd_eq hf
  have J3 : AW X 19 [(0, .ref (gA (xG X) 111)), (1, .int x1), (2, .int x2), (3, .int x3), (4, .int x4)] [.int v1, .ref (gA (xG X) 111), .int x1, .ref (gA (xG X) 111)] μ dy := by
    obtain ⟨v6, μ4, h5, hf⟩ := bd2_eq hf
    refine r_callVI (Ok.le hX (by omega)) (c_m_next (d := d)  h5) cv_X12_190 (w_111 _ _ _) rfl rfl (st := [.int x1, .ref (gA (xG X) 111)]) rfl rfl rfl dX12_sumBy_19 (fun dy => ?_)
    refine r_iload_n hX dX12_sumBy_22 3 rfl ?_
    refine r_iconst hX (1 : Int32) dX12_sumBy_23 rfl ?_
    refine r_isub hX dX12_sumBy_24 ?_
    obtain ⟨v9, μ7, h8, hf⟩ := bd2_eq hf
    refine r_callVI (Ok.le hX (by omega)) (hR _ _ _ _ _ h8) cv_X12_267 (w_111 _ _ _) rfl rfl (st := []) rfl rfl rfl dX12_sumBy_25 (fun dy => ?_)
    refine r_istore hX dX12_sumBy_28 rfl (ls' := [(5, .int v9), (0, .ref (gA (xG X) 111)), (1, .int x1), (2, .int x2), (3, .int x3), (4, .int x4)]) rfl ?_
    refine r_iload hX dX12_sumBy_30 0 rfl ?_
    refine r_ldc hX dX12_sumBy_32 kc_X12_237 ?_
    refine r_icmp_ne hX 42 dX12_sumBy_34 rfl (fun hc10 => ?_) (fun hc10 => ?_)
    · rw [if_neg hc10] at hf
      refine r_iload hX dX12_sumBy_42 0 rfl ?_
      refine r_bipush hX (100 : Int32) dX12_sumBy_44 rfl ?_
      refine r_iload hX dX12_sumBy_46 5 rfl ?_
      refine r_iconst hX (-1 : Int32) dX12_sumBy_48 rfl ?_
      refine r_icmp_ne hX 56 dX12_sumBy_49 rfl (fun hc11 => ?_) (fun hc11 => ?_)
      · rw [if_neg hc11] at hf
        refine r_aload_n hX dX12_sumBy_56 1 rfl ?_
        refine r_get hX fl_X12_13 (w_111 _ _ _) rfl dX12_sumBy_57 ?_
        refine r_iload hX dX12_sumBy_60 5 rfl ?_
        obtain ⟨b12, hf⟩ := chk_eq hf
        refine r_iald hX (w_113 _ _ _) (inb_in b12) dX12_sumBy_62 ?_
        refine r_weak [] rfl ?_
        exact b_m_sumBy_b63 hR hX hr _ _ _ _ _ hf
      · rw [if_pos hc11] at hf
        refine r_iconst hX (0 : Int32) dX12_sumBy_52 rfl ?_
        refine r_goto hX 63 dX12_sumBy_53 rfl ?_
        refine r_weak [] rfl ?_
        exact b_m_sumBy_b63 hR hX hr _ _ _ _ _ hf
    · rw [if_pos hc10] at hf
      refine r_ldc hX dX12_sumBy_37 kc_X12_237 ?_
      refine r_goto hX 67 dX12_sumBy_39 rfl ?_
      exact fin_I hf hr _ _ _ dX12_sumBy_67
  refine r_icmp_ne hX 13 dX12_sumBy_6 rfl (fun hc13 => ?_) (fun hc13 => ?_)
  · refine r_iload_n hX dX12_sumBy_13 2 rfl ?_
    refine r_iconst hX (1 : Int32) dX12_sumBy_14 rfl ?_
    refine r_iload hX dX12_sumBy_15 4 rfl ?_
    refine r_ishl hX dX12_sumBy_17 ?_
    refine r_ior hX dX12_sumBy_18 ?_
    exact r_topI (e2.trans (by rw [if_neg hc13])) J3
  · refine r_iload_n hX dX12_sumBy_9 2 rfl ?_
    refine r_goto hX 19 dX12_sumBy_10 rfl ?_
    exact r_topI (e2.trans (by rw [if_pos hc13])) J3
