/-! Both sides at their beginning. -/
def ab0 : Ab := ((0, fun _ _ => 0, fun _ => 0, 0), fun _ => 0, (0, fun _ => 0), [], [], fun _ => none)
def us0 : Nat → List Nat := fun _ => []
theorem mu0_0 (v i : Nat) (h1 : v ≠ 3) (h2 : v ≠ 8) (h3 : v ≠ 30) (h4 : v ≠ 52) (h5 : v ≠ 77) (h6 : v ≠ 165) : mu0.1 v i = nI 0 := by
  show (if v = 3 then Int32.ofNat i else if v = 8 then 1 else if v = 30 then 1 else if v = 52 then 1 else if v = 77 then 2 else if v = 165 then -1 else 0) = nI 0
  rw [if_neg h1, if_neg h2, if_neg h3, if_neg h4, if_neg h5, if_neg h6]
  rfl
theorem ab0_ok : SOk (aS ab0) := ⟨Nat.zero_le _, fun _ _ => Nat.zero_le _, fun _ _ => Nat.zero_le _, Nat.one_pos⟩
theorem ab0_wf : WF ab0 := ⟨ab0_ok, fun _ _ _ => rfl, fun _ _ => Nat.zero_le _, ⟨Nat.zero_le _, fun _ _ => Nat.one_pos⟩, ⟨Nat.zero_le _, fun _ h => absurd h List.not_mem_nil⟩, Nat.zero_le _, fun _ _ h => by cases h⟩
theorem cds_0 : cds [] = [] := if_pos rfl
theorem one0 : One 0 ab0 us0 mu0 := by
  refine ⟨⟨ab0_wf, ⟨⟨mu0_0 _ _ (by decide) (by decide) (by decide) (by decide) (by decide) (by decide), fun i j hi hj => ?_, fun _ h => absurd h (Nat.not_lt_zero _), mu0_0 _ _ (by decide) (by decide) (by decide) (by decide) (by decide) (by decide), ab0_ok⟩, ⟨fun _ h => absurd h (Nat.not_lt_zero _), mu0_0 _ _ (by decide) (by decide) (by decide) (by decide) (by decide) (by decide), fun d _ => mu0_0 _ _ (by decide) (by decide) (by decide) (by decide) (by decide) (by decide)⟩, ⟨mu0_0 _ _ (by decide) (by decide) (by decide) (by decide) (by decide) (by decide), fun _ h => absurd h (Nat.not_lt_zero _)⟩, ⟨mu0_0 _ _ (by decide) (by decide) (by decide) (by decide) (by decide) (by decide), fun _ h => absurd h (Nat.not_lt_zero _)⟩, ?_, ?_⟩, ?_⟩, ?_, ⟨ab0_wf, ⟨⟨?_, ?_, ?_, ?_, ab0_ok⟩, ⟨?_, ?_, ?_⟩, ⟨?_, ?_⟩, ⟨?_, ?_⟩, ?_⟩, by decide, 0, Nat.le_refl _, ?_, ?_, ?_⟩, ?_⟩
  · have e : vSt 0 (8 + i) = 13 + i := by show 5 + 22 * 0 + (8 + i) = _; omega
    rw [e]
    exact mu0_0 _ _ (by omega) (by omega) (by omega) (by omega) (by omega) (by omega)
  · show mu0.1 v_x_isKept 0 = 0
    exact mu0_0 _ _ (by decide) (by decide) (by decide) (by decide) (by decide) (by decide)
  · show mu0.1 v_x_isKept 1 = 0
    exact mu0_0 _ _ (by decide) (by decide) (by decide) (by decide) (by decide) (by decide)
  · refine ⟨1, 0, 0, Nat.le_refl _, Nat.le_refl _, by decide, ⟨0, ⟨rfl, Nat.le_refl _, by decide⟩, ⟨0, by decide, mu0_0 _ _ (by decide) (by decide) (by decide) (by decide) (by decide) (by decide), fun h => absurd h (by decide)⟩, mu0_0 _ _ (by decide) (by decide) (by decide) (by decide) (by decide) (by decide), Or.inl rfl, ⟨by show 138 ≤ _; unfold C0n; omega, by show 282595 ≤ _; unfold S0n; omega, by omega, by omega⟩, fun _ h => absurd h (Nat.not_lt_zero _)⟩, ⟨mu0_0 _ _ (by decide) (by decide) (by decide) (by decide) (by decide) (by decide), Or.inl rfl, 0, Nat.le_refl _, mu0_0 _ _ (by decide) (by decide) (by decide) (by decide) (by decide) (by decide), fun _ h => absurd h (Nat.not_lt_zero _)⟩⟩
  · refine ⟨⟨Or.inl rfl, Or.inl rfl⟩, 0, 1, 2, ⟨by decide, by decide, by decide, by decide, by decide, by decide⟩, rfl, rfl, rfl, ?_, ?_⟩
    · show RUo 0 [] mu0
      unfold RUo
      rw [cds_0]
      exact ⟨mu0_0 _ _ (by decide) (by decide) (by decide) (by decide) (by decide) (by decide), fun _ h => absurd h (Nat.not_lt_zero _)⟩
    · show RUo 1 [] mu0
      unfold RUo
      rw [cds_0]
      exact ⟨mu0_0 _ _ (by decide) (by decide) (by decide) (by decide) (by decide) (by decide), fun _ h => absurd h (Nat.not_lt_zero _)⟩
  · exact mu0_0 _ _ (by decide) (by decide) (by decide) (by decide) (by decide) (by decide)
  · exact fun i j _ _ => mu0_0 _ _ (by decide) (by decide) (by decide) (by decide) (by decide) (by decide)
  · exact fun _ h => absurd h (Nat.not_lt_zero _)
  · exact mu0_0 _ _ (by decide) (by decide) (by decide) (by decide) (by decide) (by decide)
  · exact fun _ h => absurd h (Nat.not_lt_zero _)
  · exact mu0_0 _ _ (by decide) (by decide) (by decide) (by decide) (by decide) (by decide)
  · exact fun d _ => mu0_0 _ _ (by decide) (by decide) (by decide) (by decide) (by decide) (by decide)
  · exact mu0_0 _ _ (by decide) (by decide) (by decide) (by decide) (by decide) (by decide)
  · exact fun _ h => absurd h (Nat.not_lt_zero _)
  · exact mu0_0 _ _ (by decide) (by decide) (by decide) (by decide) (by decide) (by decide)
  · exact fun _ h => absurd h (Nat.not_lt_zero _)
  · exact ⟨0, Nat.le_refl _, mu0_0 _ _ (by decide) (by decide) (by decide) (by decide) (by decide) (by decide), mu0_0 _ _ (by decide) (by decide) (by decide) (by decide) (by decide) (by decide), mu0_0 _ _ (by decide) (by decide) (by decide) (by decide) (by decide) (by decide)⟩
  · exact mu0_0 _ _ (by decide) (by decide) (by decide) (by decide) (by decide) (by decide)
  · exact fun k _ => ⟨0, Nat.le_refl _, mu0_0 _ _ (by decide) (by decide) (by decide) (by decide) (by decide) (by decide)⟩
  · exact fun k _ => ⟨0, Nat.le_refl _, mu0_0 _ _ (by decide) (by decide) (by decide) (by decide) (by decide) (by decide)⟩
  · exact ⟨⟨Or.inl rfl, Or.inl rfl⟩, mu0_0 _ _ (by decide) (by decide) (by decide) (by decide) (by decide) (by decide), mu0_0 _ _ (by decide) (by decide) (by decide) (by decide) (by decide) (by decide), fun _ h => absurd h (Nat.not_lt_zero _), fun _ h => absurd h (Nat.not_lt_zero _)⟩
