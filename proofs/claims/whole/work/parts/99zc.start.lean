/-! The law from its entry to its end. -/
theorem law_mid {p : Program} {e : Env} {s : State} {m : MethodId} {below : List Frame} {meth : Method} {c : Code} {l : Launch} {b L : Nat} {ys : Nat → Int32} {G : Gx} {bx : Nat} {u : Nw} {bm : Nat} {v : Nw} {o : Nat} (hfl : l.flags = flags0) (hL : L ≤ 2560) (C0 : lw_At p s m meth c b L ys)
    (hX : Ok M_lw_law 2047 (p, l, e, room_1, s, m, #[Value.ref b], below, meth, c, (fun q => s.heap.size ≤ q), lw_Z below #[Value.ref b] s, gL G bx u bm v o, 0, 0)) (hT : EXT (fun q => s.heap.size ≤ q) s s.heap) (dy : Nat → Nat) :
    AW (p, l, e, room_1, s, m, #[Value.ref b], below, meth, c, (fun q => s.heap.size ≤ q), lw_Z below #[Value.ref b] s, gL G bx u bm v o, 0, 0) 20 [(3, .ref o), (2, .ref bm), (1, .ref bx), (0, .ref b)] [] mu0 dy := by
  obtain ⟨hx, hb, hr, hml, hown, hts, hsc, hbl, hlk, hgv⟩ := C0
  refine r_iconst hX (0 : Int32) dL_20 rfl ?_
  refine r_istore (ls' := lwLs (p, l, e, room_1, s, m, #[Value.ref b], below, meth, c, (fun q => s.heap.size ≤ q), lw_Z below #[Value.ref b] s, gL G bx u bm v o, 0, 0) b (nI (5 * 0))) hX dL_21 rfl rfl ?_
  refine law_loop (L := L) (ys := ys) hX hT hfl ⟨hsc, hbl, Nat.not_le.mpr hbl⟩ hL (fun pc ls μ dy hd H locs la hP hD hS hB h => ?_) 513 0 0 ab0 us0 mu0 dy rfl (Nat.le_refl _) one0
  exact va_forget (fun q hq => hS.2.2 q hq) (W.widen (Nat.le_trans (Nat.sub_le _ _) hB.1.2) (Nat.le_trans (Nat.sub_le _ _) hB.2.2) (lw_ret hx hb hr hlk hd))
/-- from the entry, for every script of at most 2560 ints, the law comes to its end with true -/
theorem whole_start {p : Program} {e : Env} {s : State} {m : MethodId} {below : List Frame} {meth : Method} {c : Code} (l : Launch) {b L : Nat} {ys : Nat → Int32} (hfl : l.flags = flags0) (hnm : meth.name = "law") (hL : L ≤ 2560) (C0 : lw_At p s m meth c b L ys) : W p l e room_1 s m #[Value.ref b] below meth c s.heap [] 0 0 (lw_Z below #[Value.ref b] s) (entryFrame m ([Value.ref b] : List Value).toArray 8) := by
  obtain ⟨hx, hb, hr, hml, hown, hts, hsc, hbl, hlk, hgv⟩ := id C0
  have htG : ∀ w ∈ tbG, w.before #[Value.ref b] s = true := fun w hw => hts w (List.mem_filter.mp hw).1
  have hEB := st_EB hts
  obtain ⟨D, C, hK⟩ := st_K htG hEB
  obtain ⟨K, V, hEX⟩ := st_EX hts hgv
  have hT := st_EXT hts hgv
  have hX : BOk M_lw_law 2047 (p, l, e, room_1, s, m, #[Value.ref b], below, meth, c, (fun q => s.heap.size ≤ q), lw_Z below #[Value.ref b] s, (D.1, D.2, fun _ => 0, C, K, V), 0, 0) :=
    ⟨hx, hb, hml, hown, htG, hK _ K V, ⟨by show 2047 ≤ 2048; decide, by show 40 * 2047 ≤ 84000; decide⟩, fun q h => h, hEB, hnm⟩
  have key := law_begin (b := b) hX rfl (fun bx u bm v o H locs la hP hD hS h => by
    have e1 := wL_eq (D.1, D.2, fun _ => 0, C, K, V) bx u bm v o
    have hP' := hP.sub pL (fm_of e1)
    have hD' := hD.sub pL (by decide) e1
    have hX' : Ok M_lw_law 2047 (p, l, e, room_1, s, m, #[Value.ref b], below, meth, c, (fun q => s.heap.size ≤ q), lw_Z below #[Value.ref b] s, gL (D.1, D.2, fun _ => 0, C, K, V) bx u bm v o, 0, 0) :=
      ⟨hx, hb, hml, hown, htG, hK _ K V, ⟨by show 2047 ≤ 2048; decide, by show 40 * 2047 ≤ 84000; decide⟩, ⟨rfl, rfl⟩, fun q h => h, hEX D _ C⟩
    exact law_mid hfl hL C0 hX' hT (dL0 u) H locs la hP' hD' hS ⟨⟨Nat.zero_le _, by show 138 ≤ 601024; decide⟩, Nat.zero_le _, by show 282595 ≤ 7293034; decide⟩ h)
  have hl := lv_entry [Value.ref b] (n := 8) (Nat.le_of_ble_eq_true rfl)
  rw [lg_entry_eq]
  exact key s.heap [] _ (fun k q hk => by simp at hk) ⟨fun i j p q hi => by simp at hi, fun k q hk => by simp at hk⟩ va_S.rf (by
    show lv_has _ c.maxLocals _
    rw [hml]
    exact hl)
