/-! What the entry gives for throws. -/
theorem wT_in : ∀ w ∈ wThT, w ∈ lw_tbl := by decide +kernel
theorem st_u : (Cond.isRef (.static Bundle.tN "UNASSIGNED_STACK" Bundle.steD)) ∈ stFl ∧ (Cond.isRef (.static Bundle.tN "SUPPRESSED_SENTINEL" Bundle.listD)) ∈ stFl := by decide +kernel
theorem st_EXT {a : Array Value} {s : State} (hts : ∀ w ∈ lw_tbl, w.before a s = true) (hg : (Jvm.Cond.and given_1 narrow_1).before a s = true) : EXT (fun q => s.heap.size ≤ q) s s.heap := by
  have hs := flat_of_before _ hg
  have hA : ∀ a : Nat, a < s.heap.size → ¬ (fun q : Nat => s.heap.size ≤ q) a := fun a h => Nat.not_le.mpr h
  exact ⟨fun w hw => tabs_use (wT_tabs w hw) (State.WarmedH.refl s) (hts w (wT_in w hw)), ZS.of (hts _ (tt6 (List.mem_of_getElem? (i := 55) rfl))) (hs _ st_u.1) hA, ZS.of (hts _ (tt6 (List.mem_of_getElem? (i := 57) rfl))) (hs _ st_u.2) hA⟩
theorem fm_of {α β : Type} {f : α → Option β} : ∀ {l : List α} {r : List β}, l.map f = r.map some → l.filterMap f = r
  | [], [], _ => rfl
  | a :: l, b :: r, h => by
    simp only [List.map_cons, List.cons.injEq] at h
    rw [List.filterMap_cons_some h.1, fm_of h.2]
  | [], b :: r, h => by simp at h
  | a :: l, [], h => by simp at h
