/-! The three calls that throw. (printed by law_t.py from 99t.head.txt, the rows of 23.w12, 99t.tail.txt) -/
def RetN (M : MD) (X : Cx) (μ : Mem) : Prop := ∀ (pc : Nat) (ls : List (Nat × Value)) (dy : Nat → Nat), decode M.2.1 pc = .ok (.new 120, 3) → decode M.2.1 (pc + 3) = .ok (.dup, 1) → decode M.2.1 (pc + 4) = .ok (.invokespecial 122, 3) → decode M.2.1 (pc + 7) = .ok (.athrow, 1) → AW X pc ls [] μ dy
theorem fin_N {M : MD} {X : Cx} {μ r : Mem} (hf : some μ = some r) (hr : RetN M X r) : RetN M X μ := by cases hf; exact hr
/-- the throw: a new NoSuchElementException, made and thrown; nothing caught here -/
theorem aw_throw {M : MD} {d : Nat} {X : Cx} {μ : Mem} (hX : Ok M d X) (hown : M.2.2.2.2 = "MoreThanHalf") (hd : 8 ≤ d) (hE : EXT (xA X) (xs X) (xs X).heap) (htr : (xe X).platform.stackTraces = false) (hlk : (xh X).locks = false) (hno : (xk X).exceptionTable.isEmpty = true) (hr : μ.2.2.1 + 1 ≤ LIMc ∧ μ.2.2.2 + 6 ≤ LIMs)
    (hQ : ∀ (t : State) (x : Addr) (ce : Cell) (dy : Nat → Nat) (L : List Loc), t.status = .running → Ended t (xb X) (.threw x) → t.heap[x]? = some ce → ce.vm = .none → (xs X).vm.findClass nsE = some ce.cls → va_P (gD (xG X)) cls (wsOf (xG X) μ dy) t.heap → va_D (xA X) (wsOf (xG X) μ dy) → va_S (xA X) (xs X).heap t.heap L → (xs X).WarmedH t.vm →
      (xs X).sameButNew ({ t with vm := (xs X).vm } : State) L (μ.2.2.1 - xc X + 1) (μ.2.2.2 - xz X + 6) → xQ X t) : RetN M X μ := by
  intro pc ls dy h1 h2 h3 h4 H locs la hP hD hS hB h T hT0 XS
  have hrm := hX.2.2.2.2.2.2.2.1
  have hfr := hX.2.2.2.2.2.2.1
  have hc1 : μ.2.2.1 - xc X + 1 ≤ (xR X).cells := by have := hB.1.1; have := hr.1; omega
  have hc2 : μ.2.2.2 - xz X + 6 ≤ (xR X).slots := by have := hB.2.1; have := hr.2; omega
  have Y := stand_again XS (by omega) (by omega)
  have hW : (xs X).WarmedH T.vm := XS.warmed
  have hE2 : EXT (xA X) (T.setFrames (.invoking (xm X) (xa X) :: xb X)) (T.setFrames (.invoking (xm X) (xa X) :: xb X)).heap := by
    have h9 := hE.kept (H1 := H) hS.2.1
    rw [← hT0] at h9
    exact h9.warm (U := T.setFrames (.invoking (xm X) (xa X) :: xb X)) hW
  have hw := hE2.words (args := xa X)
  have ho : (T.setFrames (.invoking (xm X) (xa X) :: xb X)).vm.findClass "MoreThanHalf" = some (xm X).cls := by
    show T.vm.findClass "MoreThanHalf" = _
    rw [hW.alike.findClass, ← hown]
    exact hX.2.2.2.1
  obtain ⟨vm₁, cX, kX, hfX, hkX, -, hn6, Y₁, st1⟩ := Y.newCold hX.1 (own := "MoreThanHalf") (C := nsE) (index := 120) (n := 6) ho (hE2.word (List.mem_cons_self ..)) (hw (.instantiable nsE 6) (by decide +kernel)) (hE2.word (List.mem_cons_of_mem _ (List.mem_cons_self ..))) (g := F0 (xm X) pc la []) rfl (by rw [hX.2.1]; exact h1) (by show 0 + 1 ≤ (xR X).cells - _; omega) (by show 0 + 6 ≤ (xR X).slots - _; omega)
  generalize hT1 : (T.setVm vm₁).pushCell { cls := cX, slots := kX.instanceTypes.map defaultValue, vm := .none } = T1 at Y₁ st1
  have hcA : T1.heap[T.heap.size]? = some (freshCell cX kX) := by rw [← hT1]; exact State.heap_pushCell_size (T.setVm vm₁) _
  obtain ⟨U, hsteps, hrun, hend, hWU, hsame, ce, hce, K⟩ := Y₁.ctorThrow0 hX.1 htr (own := "MoreThanHalf") (cls := nsE) (names := nsUp) (ic := 122) ho (by decide +kernel) (by decide +kernel) hw (fun y hy => by cases hy) hfX hkX hcA (Nat.le_refl _)
    (g := F0 (xm X) (pc + 4) la [.ref T.heap.size, .ref T.heap.size]) rfl h.1 rfl rfl (rest := []) rfl (by rw [hX.2.1]; exact h3) (by rw [hX.2.1]; exact h4) (covers_of_empty hno _) (by show 2 + 3 < (xR X).frames; omega) (by show 2 * 0 + 1 + (13 * (2 + 1) + 41) ≤ (xR X).locals; omega) hlk
  have hkeep : ∀ (q : Nat) (cc : Cell), H[q]? = some cc → U.heap[q]? = some cc := fun q cc hq => State.sameButNew.old_cell hsame (by show T.heap[q]? = _; rw [hT0]; exact hq)
  have hsz : H.size ≤ U.heap.size := by rw [← hT0]; exact hsame.2.1
  refine ⟨U, st1 _ ?_, hQ U T.heap.size ce dy locs hrun hend hce K.vm ?_ (hP.kept (fun k q hk => ?_)) hD ⟨Nat.le_trans hS.1 hsz, fun q h1 h2 => ?_, hS.2.2⟩ (State.WarmedH.trans hW hWU) (same_again XS hsame)⟩
  · show Steps _ _ _ (T1.setTop (F0 (xm X) (pc + 3) la [.ref T.heap.size])) U
    jvm_step Y₁.here [Y₁.here.top, hX.1, hX.2.1, h2, Value.category]
    exact hsteps
  · have h9 := K.cls
    rw [← h9]
    show _ = T.vm.findClass nsE
    rw [hW.alike.findClass]
  · have h9 := hP k q hk
    have h8 : ∃ cc, H[q.1]? = some cc := by
      unfold va_at at h9
      split at h9
      · exact ⟨_, h9⟩
      · obtain ⟨r, -, cell, hc, -⟩ := h9
        exact ⟨_, hc⟩
    obtain ⟨cc, h8⟩ := h8
    rw [h8, hkeep _ _ h8]
  · have h8 : q < H.size := Nat.lt_of_lt_of_le h1 hS.1
    have h7 : H[q]? = some H[q] := Array.getElem?_eq_getElem h8
    rw [hkeep q _ h7, ← h7]
    exact hS.2.1 q h1 h2
def PcE (G : Gx) (av : List Value) (μ : Mem) (dy : Nat → Nat) (sz : Nat) : Array Value → State → Prop := fun v U => PcOf G av μ dy sz v U ∧ EXT (va_A (wsOf G μ dy) sz) U U.heap
def QcT (G : Gx) (μ : Mem) (dy : Nat → Nat) (sz : Nat) : Array Value → State → Outcome → State → Prop := fun _ st oc t =>
  (∃ (x : Addr) (ce : Cell), oc = .threw x ∧ t.heap[x]? = some ce ∧ ce.vm = .none ∧ st.vm.findClass nsE = some ce.cls) ∧ (∃ dy1 : Nat → Nat, va_P (gD G) cls (wsOf G μ dy1) t.heap ∧ va_D (va_A (wsOf G μ dy) sz) (wsOf G μ dy1)) ∧ va_F (va_A (wsOf G μ dy) sz) st t ∧
    ∃ L : List Loc, st.WarmedH t.vm ∧ st.sameButNew ({ t with vm := st.vm } : State) L 1 6 ∧ ∀ q ∈ L, va_A (wsOf G μ dy) sz q.base
/-- from the memory μ the method throws: one cell of six slots more -/
def ConT (G : Gx) (M : MD) (d : Nat) (av : List Value) (μ : Mem) : Prop :=
  ∀ (l : Launch), l.flags = flags0 → ∀ (dy : Nat → Nat) (sz : Nat), MetFree l M.1 (headSpec (mdWs M) (rmOf d μ)) (PcE G av μ dy sz) (fun _ _ _ _ _ => True) (QcT G μ dy sz)
theorem ConT.of {M : MD} {d : Nat} {G : Gx} {av : List Value} {μ : Mem} (hM : MOk M av) (hown : M.2.2.2.2 = "MoreThanHalf") (hd : 8 ≤ d) (hr : μ.2.2.1 + 1 ≤ LIMc ∧ μ.2.2.2 + 6 ≤ LIMs)
    (hb : ∀ (X : Cx), xG X = G → Ok M d X → RetN M X μ → ∀ dy, AW X 0 (lv_args 0 av) [] μ dy) : ConT G M d av μ := by
  intro l hl dy sz
  refine MetFree.of_bodyS (code := M.2.1) (maxLocals := M.2.2.1) (ret := M.2.2.2.1) hM.1 ?_ ?_
  · intro args s m h hn
    obtain ⟨meth, c, h1, h2, h3, h4, h5, h6, -, -⟩ := Cond.code_spec hn (atoms_spec (ws := mdWs M) h _ List.mem_cons_self)
    exact ⟨meth, c, h1, h2, h3, h4, h5, h6⟩
  · intro p e s m args below meth c s₁ B hml hv _
    obtain ⟨⟨rfl, hsz, hP, hK, hD0, ⟨hb1, hb2⟩, hE⟩, hT⟩ := hv
    have hts := atoms_spec (ws := mdWs M) B.pre
    have hown' : s.vm.findClass M.2.2.2.2 = some m.cls := by rw [hM.2.1]; exact findClass_of_methodNamed B.named
    have htr : e.platform.stackTraces = false := Launch.traces_off hl (Stand.of_body B).admits
    have hno : c.exceptionTable.isEmpty = true := B.noHandlers (hts _ List.mem_cons_self)
    subst hsz
    have hD := hD0.self (sz := s.heap.size)
    have hX : Ok M d (p, l, e, (headSpec (mdWs M) (rmOf d μ)).room, s, m, av.toArray, below, meth, c, va_A (wsOf G μ dy) s.heap.size, (fun t => ∃ o, t.status = .running ∧ Ended t below o ∧ QcT G μ dy s.heap.size av.toArray s o t), G, μ.2.2.1, μ.2.2.2) :=
      ⟨B.exec, B.bytes, hml, hown', fun w hw => hts w (List.mem_cons_of_mem _ hw), hK, ⟨Nat.le_refl _, Nat.le_refl _⟩, ⟨Nat.sub_add_cancel hb1, Nat.sub_add_cancel hb2⟩, fun q h => Or.inr h, hE⟩
    have key := hb _ rfl hX (aw_throw hX hown hd hT htr B.notSynchronized hno hr (fun t x ce dy1 L h1 h2 h3 h4 h5 h6 h7 h8 h9 h10 => by
      refine ⟨.threw x, h1, h2, ⟨x, ce, rfl, h3, h4, h5⟩, ⟨dy1, h6, h7⟩, ⟨h8.1, h8.2.1⟩, L, h9, ?_, h8.2.2⟩
      have h11 := h10
      dsimp only [xs, xc, xz] at h11
      rw [Nat.sub_self, Nat.sub_self] at h11
      exact h11)) dy
    have hl := lv_entry av (n := M.2.2.1) hM.2.2
    have hh0 : s₁.heap = s.heap := by rw [B.state]; rfl
    have k1 := key s.heap [] _ hP hD va_S.rf ⟨⟨Nat.le_refl _, hb1⟩, Nat.le_refl _, hb2⟩ (by
      show lv_has _ c.maxLocals _
      rw [hml]
      exact hl)
    dsimp only [xp, xl, xe, xR, xs, xm, xa, xb, xh, xk, xQ, xc, xz] at k1
    rw [Nat.sub_self, Nat.sub_self] at k1
    rw [lg_entry_eq]
    obtain ⟨t, a1, o, b1, b2, b3⟩ := k1 s₁ hh0 (Stand.of_body B)
    exact ⟨t, o, a1, b1, b2, b3⟩
set_option maxHeartbeats 4000000 in
set_option maxRecDepth 20000 in
theorem n_x_person_thr_b20 {X : Cx} {d : Nat} (hX : Ok M_x_person (d + 2) X) {r : Mem} (hr : RetN M_x_person X r)  (μ : Mem) (dy : Nat → Nat) (hf : f_x_person_thr_b20  μ = some r) : AW X 20 [] [] μ dy := by
  unfold f_x_person_thr_b20 at hf
  exact fin_N hf hr _ _ _ dX11_person_20 dX11_person_23 dX11_person_24 dX11_person_27
set_option maxHeartbeats 4000000 in
set_option maxRecDepth 20000 in
theorem n_x_person_thr {X : Cx} {d : Nat} (hX : Ok M_x_person (d + 2) X) {r : Mem} (hr : RetN M_x_person X r) (x1 : Int32) (x2 : Int32) (μ : Mem) (dy : Nat → Nat) (hf : f_x_person_thr x1 x2 μ = some r) : AW X 0 [(0, .ref (gA (xG X) 0)), (1, .int x1), (2, .int x2)] [] μ dy := by
  unfold f_x_person_thr at hf
  refine r_aload_n hX dX11_person_0 0 rfl ?_
  refine r_get hX fl_X11_23 (w_0 _ _ _) rfl dX11_person_1 ?_
  refine r_iload_n hX dX11_person_4 1 rfl ?_
  obtain ⟨v3, μ1, h2, hf⟩ := bd2_eq hf
  refine r_callVI (Ok.le hX (by omega)) (c_st_has (d := d)  h2) cv_X11_116 (w_4 _ _ _) rfl rfl (st := []) rfl rfl rfl dX11_person_5 (fun dy => ?_)
  refine r_if_eq hX 20 dX11_person_8 rfl (fun hc4 => ?_) (fun hc4 => ?_)
  · rw [if_pos hc4] at hf
    refine r_weak [] rfl ?_
    exact n_x_person_thr_b20 hX hr _ _ hf
  · rw [if_neg hc4] at hf
    refine r_iload_n hX dX11_person_11 2 rfl ?_
    refine r_if_lt hX 20 dX11_person_12 rfl (fun hc5 => ?_) (fun hc5 => ?_)
    · rw [if_pos hc5] at hf
      refine r_weak [] rfl ?_
      exact n_x_person_thr_b20 hX hr _ _ hf
    · rw [if_neg hc5] at hf
      refine r_iload_n hX dX11_person_15 2 rfl ?_
      refine r_iconst hX (5 : Int32) dX11_person_16 rfl ?_
      refine r_icmp_le hX 28 dX11_person_17 rfl (fun hc6 => ?_) (fun hc6 => ?_)
      · rw [if_pos hc6] at hf
        refine r_iload_n hX dX11_person_28 2 rfl ?_
        by_cases hc7 : x2 = 0
        · rw [if_pos hc7] at hf
          refine r_tabIn hX (off := 35) 64 dX11_person_29 (by rw [hc7]; decide) (by rw [hc7]; decide) (by rw [hc7]; rfl) rfl ?_
          refine r_aload_n hX dX11_person_64 0 rfl ?_
          refine r_get hX fl_X11_23 (w_0 _ _ _) rfl dX11_person_65 ?_
          obtain ⟨v10, μ8, h9, hf⟩ := bd2_eq hf
          refine r_callVI (Ok.le hX (by omega)) (c_st_now (d := d)  h9) cv_X11_123 (w_4 _ _ _) rfl rfl (st := []) rfl rfl rfl dX11_person_68 (fun dy => ?_)
          refine r_iload_n hX dX11_person_71 1 rfl ?_
          refine r_ishr hX dX11_person_72 ?_
          refine r_iconst hX (1 : Int32) dX11_person_73 rfl ?_
          refine r_iand hX dX11_person_74 ?_
          exact nomatch hf
        · rw [if_neg hc7] at hf
          by_cases hc11 : x2 = 1
          · rw [if_pos hc11] at hf
            refine r_tabIn hX (off := 47) 76 dX11_person_29 (by rw [hc11]; decide) (by rw [hc11]; decide) (by rw [hc11]; rfl) rfl ?_
            refine r_aload_n hX dX11_person_76 0 rfl ?_
            refine r_get hX fl_X11_23 (w_0 _ _ _) rfl dX11_person_77 ?_
            refine r_getN hX fl_X11_127 (w_4 _ _ _) rfl dX11_person_80 ?_
            refine r_iload_n hX dX11_person_83 1 rfl ?_
            obtain ⟨b12, hf⟩ := chk_eq hf
            refine r_iald hX (w_5 _ _ _) (inb_in b12) dX11_person_84 ?_
            exact nomatch hf
          · rw [if_neg hc11] at hf
            by_cases hc13 : x2 = 2
            · rw [if_pos hc13] at hf
              refine r_tabIn hX (off := 57) 86 dX11_person_29 (by rw [hc13]; decide) (by rw [hc13]; decide) (by rw [hc13]; rfl) rfl ?_
              refine r_aload_n hX dX11_person_86 0 rfl ?_
              refine r_get hX fl_X11_23 (w_0 _ _ _) rfl dX11_person_87 ?_
              refine r_getN hX fl_X11_130 (w_4 _ _ _) rfl dX11_person_90 ?_
              refine r_iload_n hX dX11_person_93 1 rfl ?_
              obtain ⟨b14, hf⟩ := chk_eq hf
              refine r_iald hX (w_6 _ _ _) (inb_in b14) dX11_person_94 ?_
              exact nomatch hf
            · rw [if_neg hc13] at hf
              by_cases hc15 : x2 = 3
              · rw [if_pos hc15] at hf
                refine r_tabIn hX (off := 67) 96 dX11_person_29 (by rw [hc15]; decide) (by rw [hc15]; decide) (by rw [hc15]; rfl) rfl ?_
                refine r_aload_n hX dX11_person_96 0 rfl ?_
                refine r_get hX fl_X11_23 (w_0 _ _ _) rfl dX11_person_97 ?_
                refine r_getN hX fl_X11_133 (w_4 _ _ _) rfl dX11_person_100 ?_
                refine r_iload_n hX dX11_person_103 1 rfl ?_
                refine r_ishr hX dX11_person_104 ?_
                refine r_iconst hX (1 : Int32) dX11_person_105 rfl ?_
                refine r_iand hX dX11_person_106 ?_
                exact nomatch hf
              · rw [if_neg hc15] at hf
                by_cases hc16 : x2 = 4
                · rw [if_pos hc16] at hf
                  refine r_tabIn hX (off := 79) 108 dX11_person_29 (by rw [hc16]; decide) (by rw [hc16]; decide) (by rw [hc16]; rfl) rfl ?_
                  refine r_aload_n hX dX11_person_108 0 rfl ?_
                  refine r_get hX fl_X11_23 (w_0 _ _ _) rfl dX11_person_109 ?_
                  refine r_iload_n hX dX11_person_112 1 rfl ?_
                  obtain ⟨v19, μ17, h18, hf⟩ := bd2_eq hf
                  refine r_callVI (Ok.le hX (by omega)) (c_st_allOf (d := d)  h18) cv_X11_136 (w_4 _ _ _) rfl rfl (st := []) rfl rfl rfl dX11_person_113 (fun dy => ?_)
                  exact nomatch hf
                · rw [if_neg hc16] at hf
                  have J20 : AW X 117 [(0, .ref (gA (xG X) 0)), (1, .int x1), (2, .int x2)] [] μ1 dy := by
                    refine r_aload_n hX dX11_person_117 0 rfl ?_
                    refine r_get hX fl_X11_23 (w_0 _ _ _) rfl dX11_person_118 ?_
                    refine r_iload_n hX dX11_person_121 1 rfl ?_
                    obtain ⟨v23, μ21, h22, hf⟩ := bd2_eq hf
                    refine r_callVI (Ok.le hX (by omega)) (c_st_loudnessOf (d := d)  h22) cv_X11_140 (w_4 _ _ _) rfl rfl (st := []) rfl rfl rfl dX11_person_122 (fun dy => ?_)
                    exact nomatch hf
                  by_cases hc24 : x2.toInt < 0
                  · exact r_tabOut hX 117 dX11_person_29 (Or.inl hc24) rfl J20
                  by_cases hc25 : 4 < x2.toInt
                  · exact r_tabOut hX 117 dX11_person_29 (Or.inr hc25) rfl J20
                  have q26 : x2.toInt = 0 ∨ x2.toInt = 1 ∨ x2.toInt = 2 ∨ x2.toInt = 3 ∨ x2.toInt = 4 := by omega
                  rcases q26 with q26 | q26 | q26 | q26 | q26
                  · exact absurd (i32_eq (y := 0) q26 rfl) hc7
                  · exact absurd (i32_eq (y := 1) q26 rfl) hc11
                  · exact absurd (i32_eq (y := 2) q26 rfl) hc13
                  · exact absurd (i32_eq (y := 3) q26 rfl) hc15
                  · exact absurd (i32_eq (y := 4) q26 rfl) hc16
      · rw [if_neg hc6] at hf
        refine r_weak [] rfl ?_
        exact n_x_person_thr_b20 hX hr _ _ hf
set_option maxHeartbeats 4000000 in
set_option maxRecDepth 20000 in
theorem n_x_rates_thr_b18 {X : Cx} {d : Nat} (hX : Ok M_x_rates (d + 3) X) {r : Mem} (hr : RetN M_x_rates X r)  (μ : Mem) (dy : Nat → Nat) (hf : f_x_rates_thr_b18  μ = some r) : AW X 18 [] [] μ dy := by
  unfold f_x_rates_thr_b18 at hf
  exact fin_N hf hr _ _ _ dX11_rates_18 dX11_rates_21 dX11_rates_22 dX11_rates_25
set_option maxHeartbeats 4000000 in
set_option maxRecDepth 20000 in
theorem n_x_rates_thr {X : Cx} {d : Nat} (hX : Ok M_x_rates (d + 3) X) {r : Mem} (hr : RetN M_x_rates X r) (x1 : Int32) (x2 : Int32) (μ : Mem) (dy : Nat → Nat) (hf : f_x_rates_thr x1 x2 μ = some r) : AW X 0 [(0, .ref (gA (xG X) 0)), (1, .int x1), (2, .int x2)] [] μ dy := by
  unfold f_x_rates_thr at hf
  refine r_iload_n hX dX11_rates_0 1 rfl ?_
  obtain ⟨v3, μ1, h2, hf⟩ := bd2_eq hf
  refine r_callSI (Ok.le hX (by omega)) (c_x_isShop (d := d)  h2) cs_X11_292 (st := []) rfl rfl rfl dX11_rates_1 (fun dy => ?_)
  refine r_if_eq hX 18 dX11_rates_4 rfl (fun hc4 => ?_) (fun hc4 => ?_)
  · rw [if_pos hc4] at hf
    refine r_weak [] rfl ?_
    exact n_x_rates_thr_b18 hX hr _ _ hf
  · rw [if_neg hc4] at hf
    refine r_aload_n hX dX11_rates_7 0 rfl ?_
    refine r_get hX fl_X11_23 (w_0 _ _ _) rfl dX11_rates_8 ?_
    refine r_iload_n hX dX11_rates_11 2 rfl ?_
    obtain ⟨v7, μ5, h6, hf⟩ := bd2_eq hf
    refine r_callVI (Ok.le hX (by omega)) (c_st_has (d := d)  h6) cv_X11_116 (w_4 _ _ _) rfl rfl (st := []) rfl rfl rfl dX11_rates_12 (fun dy => ?_)
    refine r_if_ne hX 26 dX11_rates_15 rfl (fun hc8 => ?_) (fun hc8 => ?_)
    · rw [if_neg hc8] at hf
      refine r_aload_n hX dX11_rates_26 0 rfl ?_
      refine r_get hX fl_X11_95 (w_0 _ _ _) rfl dX11_rates_27 ?_
      obtain ⟨μ9, h10, hf⟩ := bd1_eq hf
      refine r_callVV (Ok.le hX (by omega)) (c_sh_learn (d := d)  h10) cv_X11_298 (w_93 _ _ _) rfl rfl (st := []) rfl rfl rfl dX11_rates_30 (fun dy => ?_)
      refine r_aload_n hX dX11_rates_33 0 rfl ?_
      refine r_get hX fl_X11_95 (w_0 _ _ _) rfl dX11_rates_34 ?_
      refine r_iload_n hX dX11_rates_37 1 rfl ?_
      refine r_iload_n hX dX11_rates_38 2 rfl ?_
      refine r_aload_n hX dX11_rates_39 0 rfl ?_
      refine r_get hX fl_X11_23 (w_0 _ _ _) rfl dX11_rates_40 ?_
      obtain ⟨v13, μ11, h12, hf⟩ := bd2_eq hf
      refine r_callVI (Ok.le hX (by omega)) (c_st_now (d := d)  h12) cv_X11_123 (w_4 _ _ _) rfl rfl (st := [.int x2, .int x1, .ref (gA (xG X) 93)]) rfl rfl rfl dX11_rates_43 (fun dy => ?_)
      obtain ⟨v16, μ14, h15, hf⟩ := bd2_eq hf
      refine r_callVI (Ok.le hX (by omega)) (c_sh_rate (d := d)  h15) cv_X11_301 (w_93 _ _ _) rfl rfl (st := []) rfl rfl rfl dX11_rates_46 (fun dy => ?_)
      exact nomatch hf
    · rw [if_pos hc8] at hf
      refine r_weak [] rfl ?_
      exact n_x_rates_thr_b18 hX hr _ _ hf
set_option maxHeartbeats 4000000 in
set_option maxRecDepth 20000 in
theorem n_x_row_thr_b15 {X : Cx} {d : Nat} (hX : Ok M_x_row (d + 0) X) {r : Mem} (hr : RetN M_x_row X r)  (μ : Mem) (dy : Nat → Nat) (hf : f_x_row_thr_b15  μ = some r) : AW X 15 [] [] μ dy := by
  unfold f_x_row_thr_b15 at hf
  exact fin_N hf hr _ _ _ dX11_row_15 dX11_row_18 dX11_row_19 dX11_row_22
set_option maxHeartbeats 4000000 in
set_option maxRecDepth 20000 in
theorem n_x_row_thr {X : Cx} {d : Nat} (hX : Ok M_x_row (d + 0) X) {r : Mem} (hr : RetN M_x_row X r) (x1 : Int32) (μ : Mem) (dy : Nat → Nat) (hf : f_x_row_thr x1 μ = some r) : AW X 0 [(0, .ref (gA (xG X) 0)), (1, .int x1)] [] μ dy := by
  unfold f_x_row_thr at hf
  refine r_iload_n hX dX11_row_0 1 rfl ?_
  refine r_if_lt hX 15 dX11_row_1 rfl (fun hc1 => ?_) (fun hc1 => ?_)
  · rw [if_pos hc1] at hf
    refine r_weak [] rfl ?_
    exact n_x_row_thr_b15 hX hr _ _ hf
  · rw [if_neg hc1] at hf
    refine r_iload_n hX dX11_row_4 1 rfl ?_
    refine r_aload_n hX dX11_row_5 0 rfl ?_
    refine r_get hX fl_X11_16 (w_0 _ _ _) rfl dX11_row_6 ?_
    refine r_getN hX fl_X11_334 (w_2 _ _ _) rfl dX11_row_9 ?_
    refine r_icmp_lt hX 23 dX11_row_12 rfl (fun hc2 => ?_) (fun hc2 => ?_)
    · rw [if_pos hc2] at hf
      refine r_aload_n hX dX11_row_23 0 rfl ?_
      refine r_get hX fl_X11_16 (w_0 _ _ _) rfl dX11_row_24 ?_
      refine r_getN hX fl_X11_340 (w_2 _ _ _) rfl dX11_row_27 ?_
      refine r_iload_n hX dX11_row_30 1 rfl ?_
      obtain ⟨b3, hf⟩ := chk_eq hf
      refine r_lald hX (w_3 _ _ _) (inb_in b3) dX11_row_31 ?_
      exact nomatch hf
    · rw [if_neg hc2] at hf
      refine r_weak [] rfl ?_
      exact n_x_row_thr_b15 hX hr _ _ hf

theorem t_x_person {G : Gx} {d : Nat} (hd : 8 ≤ d) {x1 x2 : Int32} {μ : Mem} (hr : μ.2.2.1 + 1 ≤ LIMc ∧ μ.2.2.2 + 6 ≤ LIMs) (hf : f_x_person_thr x1 x2 μ = some μ) : ConT G M_x_person d [.ref (gA G 0), .int x1, .int x2] μ := by
  refine ConT.of ⟨rfl, rfl, Nat.le_of_ble_eq_true rfl⟩ rfl hd hr (fun X hG hX hR dy => ?_)
  subst hG
  exact n_x_person_thr (d := d - 2) (Ok.le hX (by omega)) hR x1 x2 μ dy hf
theorem t_x_rates {G : Gx} {d : Nat} (hd : 8 ≤ d) {x1 x2 : Int32} {μ : Mem} (hr : μ.2.2.1 + 1 ≤ LIMc ∧ μ.2.2.2 + 6 ≤ LIMs) (hf : f_x_rates_thr x1 x2 μ = some μ) : ConT G M_x_rates d [.ref (gA G 0), .int x1, .int x2] μ := by
  refine ConT.of ⟨rfl, rfl, Nat.le_of_ble_eq_true rfl⟩ rfl hd hr (fun X hG hX hR dy => ?_)
  subst hG
  exact n_x_rates_thr (d := d - 3) (Ok.le hX (by omega)) hR x1 x2 μ dy hf
theorem t_x_row {G : Gx} {d : Nat} (hd : 8 ≤ d) {x1 : Int32} {μ : Mem} (hr : μ.2.2.1 + 1 ≤ LIMc ∧ μ.2.2.2 + 6 ≤ LIMs) (hf : f_x_row_thr x1 μ = some μ) : ConT G M_x_row d [.ref (gA G 0), .int x1] μ := by
  refine ConT.of ⟨rfl, rfl, Nat.le_of_ble_eq_true rfl⟩ rfl hd hr (fun X hG hX hR dy => ?_)
  subst hG
  exact n_x_row_thr (d := d) hX hR x1 μ dy hf
