theorem kwCopy_X8_92 : CY RX8 92 := ⟨mG (tt6 (List.mem_of_getElem? (i := 16) rfl)) rfl, mG (tt6 (List.mem_of_getElem? (i := 18) rfl)) rfl, mG (tt6 (List.mem_of_getElem? (i := 17) rfl)) rfl, mG (tt1 (List.mem_of_getElem? (i := 26) rfl)) rfl⟩
section IO
variable {M : MD} {d : Nat} {X : Cx} {pc : Nat} {ls : List (Nat × Value)} {st : List Value} {μ μ1 : Mem} {dy : Nat → Nat}
theorem r_indexOf (hX : Ok M (d + 8) X) {idx s : Nat} {c v : Int32} (hs : s < 8) (he : v = sIdx s c) (hd : decode M.2.1 pc = .ok (.invokevirtual idx, 3)) (kk : ∀ dy, AW X (pc + 3) ls (.int v :: st) μ dy) : AW X pc ls (.int c :: .ref (gK (xG X) s) :: st) μ dy := by
  sorry
theorem c_rr_isOneOf {G : Gx} {d s : Nat} (hs : s < 8) {μ : Mem} {r : Int32 × Mem} (hf : f_rr_isOneOf s μ = some r) : Con G M_rr_isOneOf (d + 9) [.ref (gA G 78), .ref (gK G s)] μ (some (.int r.1), r.2) := by
  sorry
end IO
