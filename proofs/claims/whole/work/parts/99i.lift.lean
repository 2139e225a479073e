/-! Calls that answer a long, with the rules. -/
def OpLU (N : Nat) (a : Ab) (U : Nat → List Nat) (fx fm : Mem → Option (Int64 × Mem)) : Prop := WF a → N < 600 → ∃ ans a' U', (∀ μ, XR N a μ → XU U μ → ∃ μ', fx μ = some (ans, μ') ∧ XOr N a' U' μ μ') ∧ ∀ ν, MR N a ν → MU U ν → ∃ ν', fm ν = some (ans, ν') ∧ MOr N a' U' ν ν'
theorem OpL.u {N : Nat} {a : Ab} {U : Nat → List Nat} {fx fm : Mem → Option (Int64 × Mem)} (h : OpL N a fx fm) : OpLU N a U fx fm := fun hW hN => by
  obtain ⟨ans, a', h1, h2⟩ := h hW hN
  exact ⟨ans, a', U, fun μ hμ hU => by
    obtain ⟨μ', k1, k2⟩ := h1 μ hμ
    exact ⟨μ', k1, k2.r hU⟩, fun ν hν hU => by
    obtain ⟨ν', k1, k2⟩ := h2 ν hν
    exact ⟨ν', k1, k2.r hU⟩⟩
