/-! The two RULES; rule. -/
section AG
variable {t : List Nat} {L : Nat} {lv lv' : Nat → Int32}
def Ag3 (r q : PR) : Prop := r.1 = q.1 ∧ r.2.1 = q.2.1 ∧ r.2.2.1 = q.2.2.1
theorem sgn_ag {c : Nat} {r q : PR} (h : Ag3 r q) : Ag3 (sgn c r) (sgn c q) := by
  obtain ⟨h1, h2, h3⟩ := h
  unfold sgn
  rw [h1]
  by_cases d : q.1 = true
  · rw [if_pos d, if_pos d]
    refine ⟨rfl, h2, ?_⟩
    show (if c % 2 = 1 then _ else _) = (if c % 2 = 1 then _ else _)
    rw [h3]
  · rw [if_neg d, if_neg d, h2]
    exact ⟨rfl, rfl, rfl⟩
theorem jn_ag {c : Nat} {r q r' q' : PR} (h : Ag3 r r') (k : Ag3 q q') : Ag3 (jn c r q) (jn c r' q') := by
  obtain ⟨h1, h2, h3⟩ := h
  obtain ⟨k1, k2, k3⟩ := k
  unfold jn
  rw [k1]
  by_cases d : q'.1 = true
  · rw [if_pos d, if_pos d]
    exact ⟨rfl, k2, by show _ ++ _ ++ _ = _ ++ _ ++ _; rw [h3, k3]⟩
  · rw [if_neg d, if_neg d, k2]
    exact ⟨rfl, rfl, rfl⟩
theorem pSg_ag {F G : Nat → PR} (h : ∀ k, Ag3 (F k) (G k)) (k : Nat) : Ag3 (pSg t L F k) (pSg t L G k) := sgn_ag (h _)
theorem pLp_ag {is : Nat → Bool} {F G : Nat → PR} (h : ∀ k, Ag3 (F k) (G k)) : ∀ m r q, Ag3 r q → Ag3 (pLp t L is F m r) (pLp t L is G m q)
  | 0, _, _, hr => hr
  | m + 1, r, q, hr => by
    rw [pLp, pLp, hr.2.1]
    by_cases c : is (cu t L q.2.1) = true
    · rw [if_pos c, if_pos c, (h (q.2.1 + 1)).1]
      by_cases d : (G (q.2.1 + 1)).1 = true
      · rw [if_pos d, if_pos d]
        exact pLp_ag h m _ _ (jn_ag hr (h _))
      · rw [if_neg d, if_neg d, (h (q.2.1 + 1)).2.1]
        exact ⟨rfl, rfl, rfl⟩
    · rw [if_neg c, if_neg c]
      exact hr
theorem pCh_ag {is : Nat → Bool} {F G : Nat → PR} (h : ∀ k, Ag3 (F k) (G k)) (k : Nat) : Ag3 (pCh t L is F k) (pCh t L is G k) := by
  unfold pCh
  rw [(h k).1]
  by_cases d : (G k).1 = true
  · rw [if_pos d, if_pos d]
    exact pLp_ag h 41 _ _ (h k)
  · rw [if_neg d, if_neg d, (h k).2.1]
    exact ⟨rfl, rfl, rfl⟩
theorem pEx_ag {F G : Nat → PR} (h : ∀ k, Ag3 (F k) (G k)) (k : Nat) : Ag3 (pEx t L F k) (pEx t L G k) := by
  have hs : ∀ k, Ag3 (pSm t L F k) (pSm t L G k) := pCh_ag (pCh_ag (pSg_ag h))
  unfold pEx
  rw [(hs k).1, (hs k).2.1]
  by_cases d : (pSm t L G k).1 = true
  · rw [if_pos d, if_pos d]
    by_cases c : isEx (cu t L (pSm t L G k).2.1) = true
    · rw [if_pos c, if_pos c]
      exact jn_ag (hs k) (hs _)
    · rw [if_neg c, if_neg c]
      exact hs k
  · rw [if_neg d, if_neg d]
    exact ⟨rfl, rfl, rfl⟩
theorem pTh_ag : ∀ n dep k, Ag3 (pTh t L lv n dep k) (pTh t L lv' n dep k)
  | 0, _, _ => ⟨rfl, rfl, rfl⟩
  | n + 1, dep, k => by
    rw [pTh, pTh]
    cases ltI (cu t L k) with
    | some i => exact ⟨rfl, rfl, rfl⟩
    | none =>
      show Ag3 (if cu t L k = 40 then _ else _) (if cu t L k = 40 then _ else _)
      by_cases c : cu t L k = 40
      · rw [if_pos c, if_pos c]
        by_cases d : dep < 4
        · rw [if_pos d, if_pos d]
          obtain ⟨h1, h2, h3⟩ := pEx_ag (t := t) (L := L) (F := pTh t L lv n (dep + 1)) (G := pTh t L lv' n (dep + 1)) (fun k => pTh_ag n (dep + 1) k) (k + 1)
          unfold nst
          rw [h1, h2]
          by_cases f : (pEx t L (pTh t L lv' n (dep + 1)) (k + 1)).1 = true
          · rw [if_pos f, if_pos f]
            by_cases g : cu t L (pEx t L (pTh t L lv' n (dep + 1)) (k + 1)).2.1 = 41
            · rw [if_pos g, if_pos g]
              exact ⟨rfl, rfl, h3⟩
            · rw [if_neg g, if_neg g]
              exact ⟨rfl, rfl, rfl⟩
          · rw [if_neg f, if_neg f]
            exact ⟨rfl, rfl, rfl⟩
        · rw [if_neg d, if_neg d]
          exact ⟨rfl, rfl, rfl⟩
      · rw [if_neg c, if_neg c]
        exact ⟨rfl, rfl, rfl⟩
end AG
/-- a RULE's text, read -/
def prU (lv : Nat → Int32) (t : List Nat) (L : Nat) : PR := pEx t L (pTh t L lv 6 0) 0
def lv0 : Nat → Int32 := fun _ => 0
theorem prU_ag (lv lv' : Nat → Int32) (t : List Nat) (L : Nat) : Ag3 (prU lv t L) (prU lv' t L) := pEx_ag (fun k => pTh_ag 6 0 k) 0
theorem prU_gd (lv : Nat → Int32) (t : List Nat) (L : Nat) : 0 ≤ (prU lv t L).2.1 ∧ (prU lv t L).2.1 ≤ L ∧ ((prU lv t L).1 = true → 0 < (prU lv t L).2.1 ∧ 1 ≤ (prU lv t L).2.2.1.length ∧ 0 + (prU lv t L).2.2.1.length ≤ (prU lv t L).2.1 ∧ Evl lv (prU lv t L).2.2.1 (prU lv t L).2.2.2 ∧ ∀ c ∈ (prU lv t L).2.2.1, okC c) := pEx_gd (t := t) (pTh_gd (t := t) (L := L) (lv := lv) 6 0) 0 (Nat.zero_le _)
def VU (u : List Nat) : Prop := u = [] ∨ (u.length ≤ 40 ∧ (∀ c ∈ u, c < 256) ∧ (prU lv0 u u.length).1 = true ∧ (prU lv0 u u.length).2.1 = u.length)
def cds (u : List Nat) : List Nat := if u = [] then [] else (prU lv0 u u.length).2.2.1
/-- a rule object holds the codes of u -/
def RUo (i : Nat) (u : List Nat) (μ : Mem) : Prop := μ.1 (vRu i 0) 0 = nI (cds u).length ∧ ∀ j, j < (cds u).length → μ.1 (vRu i 2) j = nI ((cds u).getD j 0)
def XU (U : Nat → List Nat) (μ : Mem) : Prop := (VU (U 0) ∧ VU (U 1)) ∧ ∃ i0 i1 i2, (i0 < 3 ∧ i1 < 3 ∧ i2 < 3 ∧ i0 ≠ i1 ∧ i0 ≠ i2 ∧ i1 ≠ i2) ∧ μ.1 v_x_rules 0 = nI i0 ∧ μ.1 v_x_rules 1 = nI i1 ∧ μ.1 v_rr_spare 0 = nI i2 ∧ RUo i0 (U 0) μ ∧ RUo i1 (U 1) μ
def MU (U : Nat → List Nat) (μ : Mem) : Prop := (VU (U 0) ∧ VU (U 1)) ∧ μ.1 v_m_ruleSize 0 = nI (U 0).length ∧ μ.1 v_m_ruleSize 1 = nI (U 1).length ∧ (∀ j, j < (U 0).length → μ.1 v_m_rules0 j = hb ((U 0).getD j 0)) ∧ ∀ j, j < (U 1).length → μ.1 v_m_rules1 j = hb ((U 1).getD j 0)
theorem RUo.of {i : Nat} {u : List Nat} {μ μ' : Mem} (h : RUo i u μ) (h0 : μ'.1 (vRu i 0) = μ.1 (vRu i 0)) (h2 : μ'.1 (vRu i 2) = μ.1 (vRu i 2)) : RUo i u μ' := ⟨by rw [h0]; exact h.1, fun j hj => by rw [h2]; exact h.2 j hj⟩
theorem XU.of {U : Nat → List Nat} {μ μ' : Mem} (h : XU U μ) (hf : OFr μ μ') : XU U μ' := by
  obtain ⟨hv, i0, i1, i2, hi, h0, h1, h2, h3, h4⟩ := h
  have e : ∀ i, i < 3 → μ'.1 (vRu i 0) = μ.1 (vRu i 0) ∧ μ'.1 (vRu i 2) = μ.1 (vRu i 2) := fun i hi => ⟨hf.1 _ (by have : vRu i 0 = 81 + 4 * i := rfl; omega), hf.1 _ (by have : vRu i 2 = 81 + 4 * i + 2 := rfl; omega)⟩
  exact ⟨hv, i0, i1, i2, hi, by rw [hf.1 _ (by decide)]; exact h0, by rw [hf.1 _ (by decide)]; exact h1, by rw [hf.1 _ (by decide)]; exact h2, h3.of (e i0 hi.1).1 (e i0 hi.1).2, h4.of (e i1 hi.2.1).1 (e i1 hi.2.1).2⟩
theorem MU.of {U : Nat → List Nat} {μ μ' : Mem} (h : MU U μ) (hf : ∀ v, v = 161 ∨ v = 162 ∨ v = 163 → μ'.1 v = μ.1 v) : MU U μ' := by
  obtain ⟨hv, h1, h2, h3, h4⟩ := h
  exact ⟨hv, by rw [hf _ (by decide)]; exact h1, by rw [hf _ (by decide)]; exact h2, fun j hj => by rw [hf _ (by decide)]; exact h3 j hj, fun j hj => by rw [hf _ (by decide)]; exact h4 j hj⟩
/-- what a call did, with the rules -/
def XOr (N : Nat) (a' : Ab) (U' : Nat → List Nat) (μ μ' : Mem) : Prop := XR (N + 1) a' μ' ∧ XU U' μ' ∧ (∀ v, 133 ≤ v → μ'.1 v = μ.1 v) ∧ ∀ v, 9 ≤ v → μ'.2.1 v = μ.2.1 v
def MOr (N : Nat) (a' : Ab) (U' : Nat → List Nat) (μ μ' : Mem) : Prop := MR (N + 1) a' μ' ∧ MU U' μ' ∧ (∀ v, v < 133 → μ'.1 v = μ.1 v) ∧ (∀ v, v ≠ 9 → μ'.2.1 v = μ.2.1 v) ∧ μ'.2.2 = μ.2.2
theorem XO.r {N : Nat} {a' : Ab} {U : Nat → List Nat} {μ μ' : Mem} (h : XO N a' μ μ') (hU : XU U μ) : XOr N a' U μ μ' := ⟨h.1, hU.of h.2, fun v hv => h.2.1 v (by omega), fun v hv => h.2.2 v hv⟩
theorem MO.r {N : Nat} {a' : Ab} {U : Nat → List Nat} {μ μ' : Mem} (h : MO N a' μ μ') (hU : MU U μ) : MOr N a' U μ μ' := ⟨h.1, hU.of (fun v hv => h.2.1 v (by omega)), fun v hv => h.2.1 v (by omega), fun v hv => h.2.2.1 v hv, h.2.2.2⟩
def OpU (N : Nat) (a : Ab) (U : Nat → List Nat) (fx fm : Mem → Option (Int32 × Mem)) : Prop := WF a → N < 600 → ∃ ans a' U', (∀ μ, XR N a μ → XU U μ → ∃ μ', fx μ = some (ans, μ') ∧ XOr N a' U' μ μ') ∧ ∀ ν, MR N a ν → MU U ν → ∃ ν', fm ν = some (ans, ν') ∧ MOr N a' U' ν ν'
theorem OpI.u {N : Nat} {a : Ab} {U : Nat → List Nat} {fx fm : Mem → Option (Int32 × Mem)} (h : OpI N a fx fm) : OpU N a U fx fm := fun hW hN => by
  obtain ⟨ans, a', h1, h2⟩ := h hW hN
  exact ⟨ans, a', U, fun μ hμ hU => by
    obtain ⟨μ', k1, k2⟩ := h1 μ hμ
    exact ⟨μ', k1, k2.r hU⟩, fun ν hν hU => by
    obtain ⟨ν', k1, k2⟩ := h2 ν hν
    exact ⟨ν', k1, k2.r hU⟩⟩
section OPS
variable {N : Nat} {a : Ab} {b : Nat × Nat} {μ0 μ : Mem} {Q : Nat} {S : SP} {U : Nat → List Nat}
/-- only what belongs to rules and their reader has changed -/
theorem XI.rules {μ' : Mem} (h : XI N b a μ0 μ) (hN : N < 600) (e : ∀ v, (v ≤ 2 ∨ (4 ≤ v ∧ v ≤ 70) ∨ 93 ≤ v) → μ'.1 v = μ.1 v) (hl : μ'.2 = μ.2) : XR (N + 1) a μ' := by
  obtain ⟨hW, ⟨p1, p2, p3, p4, p5, p6⟩, hQ, hI⟩ := h
  have hx : ∀ t j, t < 3 → j < 22 → μ'.1 (vSt t j) = μ.1 (vSt t j) := fun t j _ _ => e _ (by show 5 + 22 * t + j ≤ 2 ∨ (4 ≤ 5 + 22 * t + j ∧ 5 + 22 * t + j ≤ 70) ∨ _; omega)
  refine ⟨hW, ⟨p1.of (fun j hj _ _ _ _ _ => hx 0 j (by omega) hj), ⟨fun i hi => by rw [hx 0 5 (by omega) (by omega)]; exact p2.1 i hi, by rw [hx 0 2 (by omega) (by omega)]; exact p2.2.1, fun d hd => by rw [hx 0 6 (by omega) (by omega)]; exact p2.2.2 d hd⟩, ⟨by rw [e _ (by decide)]; exact p3.1, fun k hk => by rw [e _ (by decide)]; exact p3.2 k hk⟩, ⟨by rw [e _ (by decide)]; exact p4.1, fun k hk => by rw [hl]; exact p4.2 k hk⟩, p5.of (by omega) (e _ (by decide)) (fun j hj => hx 1 j (by omega) hj), p6.of (by omega) (e _ (by decide)) (fun j hj => hx 2 j (by omega) hj)⟩, (hQ.of (hx 0 3 (by omega) (by omega)) (fun v h1 h2 => e v (by omega)) (fun v _ _ => by rw [hl]) (by rw [hl])).XQ hN⟩
/-- what rule answers, and the rules then -/
def rlA (t : List Nat) (s : Nat) (U : Nat → List Nat) : Int32 × (Nat → List Nat) :=
  if t = [] then (0, fun i => if i = s then [] else U i)
  else if (prU lv0 t (min t.length 40)).1 = true ∧ (prU lv0 t (min t.length 40)).2.1 = t.length then (0, fun i => if i = s then t else U i)
  else (-1 - nI (prU lv0 t (min t.length 40)).2.1, U)
theorem x_isShop {x : Int32} : f_x_isShop x μ = some (nI (bN (decide (x = 0 ∨ x = 1))), μ) := by
  unfold f_x_isShop
  rcases i_casesQ x with hx | ⟨n, hn, rfl⟩
  · have hx' : x < 0 := hx
    have h0 : ¬ (x = 0 ∨ x = 1) := fun q => by
      rcases q with q | q
      · rw [q] at hx'; exact absurd hx' (by decide)
      · rw [q] at hx'; exact absurd hx' (by decide)
    rw [if_pos hx', bnd_s, zb_0, chk_t, decide_eq_false h0]; rfl
  · rw [if_neg (i_nlt0 hn)]
    by_cases c : 2 ≤ n
    · have h0 : ¬ (nI n = 0 ∨ nI n = 1) := fun q => by
        rcases q with q | q
        · have := nI_inj (b := 0) hn (by omega) q; omega
        · have := nI_inj (b := 1) hn (by omega) q; omega
      rw [if_pos (show (2 : Int32) ≤ nI n from (i_leN (a := 2) (by omega) hn).mpr c), bnd_s, zb_0, chk_t, decide_eq_false h0]; rfl
    · have h0 : nI n = 0 ∨ nI n = 1 := by
        have : n = 0 ∨ n = 1 := by omega
        rcases this with q | q
        · left; rw [q]; rfl
        · right; rw [q]; rfl
      rw [if_neg (show ¬ (2 : Int32) ≤ nI n from fun q => c ((i_leN (a := 2) (by omega) hn).mp q)), bnd_s, zb_1, chk_t, decide_eq_true h0]; rfl
theorem shop_n {x : Int32} (h : x = 0 ∨ x = 1) : ∃ s, s < 2 ∧ x = nI s := by
  rcases h with h | h
  · exact ⟨0, by omega, h⟩
  · exact ⟨1, by omega, h⟩
theorem m_isShop {x : Int32} : f_m_in x 0 1 μ = some (nI (bN (decide (x = 0 ∨ x = 1))), μ) := by
  rw [m_in, b_if]
  have : decide ((0 : Int32) ≤ x ∧ x ≤ 1) = decide (x = 0 ∨ x = 1) := decide_eq_decide.mpr ⟨fun q => by
    rcases i_cases x with hx | ⟨n, hn, rfl⟩
    · have := q.1; rw [i_le] at this; rw [i_lt] at hx; omega
    · have := (i_leN (b := 1) hn (by omega)).mp q.2
      have : n = 0 ∨ n = 1 := by omega
      rcases this with z | z
      · left; rw [z]; rfl
      · right; rw [z]; rfl, fun q => by
    rcases q with q | q
    · rw [q]; decide
    · rw [q]; decide⟩
  rw [this]
theorem CF.out {sp : Nat} {μ μ' : Mem} (h : CF sp μ μ') (hs : sp < 3) : ∀ v, (v ≤ 79 ∨ 93 ≤ v) → μ'.1 v = μ.1 v := fun v hv => h.1 v (by omega) (by show v ≠ 81 + 4 * sp + 0; omega) (by show v ≠ 81 + 4 * sp + 2; omega)
theorem CF.ru {sp i : Nat} {μ μ' : Mem} (h : CF sp μ μ') (hi : i ≠ sp) : μ'.1 (vRu i 0) = μ.1 (vRu i 0) ∧ μ'.1 (vRu i 2) = μ.1 (vRu i 2) := ⟨h.1 _ (by show 81 + 4 * i + 0 ≠ 80; omega) (by show 81 + 4 * i + 0 ≠ 81 + 4 * sp + 0; omega) (by show 81 + 4 * i + 0 ≠ 81 + 4 * sp + 2; omega), h.1 _ (by show 81 + 4 * i + 2 ≠ 80; omega) (by show 81 + 4 * i + 2 ≠ 81 + 4 * sp + 0; omega) (by show 81 + 4 * i + 2 ≠ 81 + 4 * sp + 2; omega)⟩
theorem rlA_VU {t : List Nat} {s : Nat} (hs : s < 2) (hb : ∀ c ∈ t, c < 256) (hU : VU (U 0) ∧ VU (U 1)) (hz : (prU lv0 t (min t.length 40)).1 = true) (he : (prU lv0 t (min t.length 40)).2.1 = t.length) : VU t := by
  obtain ⟨_, h2, _⟩ := prU_gd lv0 t (min t.length 40)
  have h2' : (prU lv0 t (min t.length 40)).2.1 ≤ min t.length 40 := h2
  have hm : min t.length 40 = t.length := by omega
  rw [hm] at hz he
  exact Or.inr ⟨by omega, hb, hz, he⟩
theorem t_lt {t : List Nat} (hb : ∀ c ∈ t, c < 256) (j : Nat) : t.getD j 0 < 256 := by
  rw [List.getD_eq_getElem?_getD]
  cases e : t[j]? with
  | none => show (0 : Nat) < 256; omega
  | some v => exact hb v (List.mem_of_getElem? e)
theorem x_rule (hN : N < 600) {s : Nat} (hs : s < 2) (h : XR N a μ) (hU : XU U μ) : ∃ μ', f_x_rule (nI s) μ = some ((rlA (aT a) s U).1, μ') ∧ XOr N (aSetT a []) (rlA (aT a) s U).2 μ μ' := by
  have hT := h.2.1.2.2.1
  have hlen := h.1.2.2.2.2.1.1
  have hbt := h.1.2.2.2.2.1.2
  have hX0 : XI N (4 * N, 0) (aSetT a []) μ (setI μ v_x_signs 0 0) := h.XI.text ⟨by simp, by simp⟩ (fun v _ h2 => sI_v _ _ _ h2) rfl ⟨sI_eq _ _ _ _, fun k hk => absurd hk (by simp)⟩
  obtain ⟨hv, i0, i1, i2, hi, r0, r1, r2, u0, u1⟩ := hU
  have hmin : imin (nI (aT a).length) (40 : Int32) = nI (min (aT a).length 40) := by rw [l_40, imin_n (by omega) (by omega)]
  -- the reader set up
  have hsh : decide (nI s = (0 : Int32) ∨ nI s = 1) = true := decide_eq_true (by
    have : s = 0 ∨ s = 1 := by omega
    rcases this with q | q
    · left; rw [q]; rfl
    · right; rw [q]; rfl)
  unfold f_x_rule
  rw [bnd_s, x_isShop, bd2_s, hsh, if_neg (show ¬ nI (bN true) = 0 by decide), hT.1]
  unfold f_rr_read
  rw [bnd_s, hmin, bnd_s, bnd_s]
  have n0 : ∀ i, vRu i 0 ≠ 78 ∧ vRu i 0 ≠ 79 ∧ vRu i 0 ≠ 80 ∧ vRu i 0 ≠ 1 ∧ vRu i 2 ≠ 78 ∧ vRu i 2 ≠ 79 ∧ vRu i 2 ≠ 80 ∧ vRu i 2 ≠ 1 := fun i => by
    show 81 + 4 * i + 0 ≠ 78 ∧ 81 + 4 * i + 0 ≠ 79 ∧ 81 + 4 * i + 0 ≠ 80 ∧ 81 + 4 * i + 0 ≠ 1 ∧ 81 + 4 * i + 2 ≠ 78 ∧ 81 + 4 * i + 2 ≠ 79 ∧ 81 + 4 * i + 2 ≠ 80 ∧ 81 + 4 * i + 2 ≠ 1
    omega
  generalize hμ5 : setI (setI (setI (setI μ v_x_signs 0 0) v_rr_text 0 1) v_rr_limit 0 (nI (min (aT a).length 40))) v_rr_at 0 0 = μ5
  have e5 : ∀ v, v ≠ 1 → v ≠ 78 → v ≠ 79 → v ≠ 80 → μ5.1 v = μ.1 v := fun v g1 g2 g3 g4 => by rw [← hμ5, sI_v _ _ _ g4, sI_v _ _ _ g3, sI_v _ _ _ g2, sI_v _ _ _ g1]
  have hsp : μ5.1 v_rr_spare 0 = nI i2 := by rw [e5 _ (by decide) (by decide) (by decide) (by decide)]; exact r2
  have hsc : (nI i2).toNatClampNeg = i2 := cl_nI (by omega)
  unfold f_ru_clear
  rw [hsp, hsc, decide_eq_true hi.2.2.1, chk_t, bnd_s, bd1_s]
  have ng : ∀ v, (v < 81 ∨ 93 ≤ v) → v ≠ vRu i2 0 := fun v hv => by show v ≠ 81 + 4 * i2 + 0; omega
  have hCR : CR (aT a) (min (aT a).length 40) i2 0 [] (setI μ5 (vRu i2 0) 0 0) := by
    refine ⟨⟨by omega, hi.2.2.1, t_lt hbt⟩, ⟨?_, ?_, ?_, ?_⟩, fun j hj => ?_, sI_eq _ _ _ _, fun j hj => absurd hj (by simp)⟩
    · rw [sI_v _ _ _ (ng _ (by decide)), ← hμ5, sI_v _ _ _ (by decide), sI_v _ _ _ (by decide), sI_eq]
    · rw [sI_v _ _ _ (ng _ (by decide)), ← hμ5, sI_v _ _ _ (by decide), sI_eq]
    · rw [sI_v _ _ _ (ng _ (by decide)), ← hμ5, sI_eq]; rfl
    · rw [sI_v _ _ _ (ng _ (by decide))]; exact hsp
    · rw [sI_v _ _ _ (ng _ (by decide)), e5 _ (by decide) (by decide) (by decide) (by decide)]; exact hT.2 j (by omega)
  -- how it ends when nothing is taken
  have lose : ∀ μ', (∀ v, (v ≤ 79 ∨ 93 ≤ v) → μ'.1 v = (setI μ5 (vRu i2 0) 0 0).1 v) → μ'.2 = μ.2 → (∀ i, i ≠ i2 → μ'.1 (vRu i 0) = μ.1 (vRu i 0) ∧ μ'.1 (vRu i 2) = μ.1 (vRu i 2)) → XOr N (aSetT a []) U μ μ' := fun μ' g1 g2 g3 => by
    have ee : ∀ v, (v ≤ 77 ∨ 93 ≤ v) → v ≠ 1 → μ'.1 v = μ.1 v := fun v hv h1 => by rw [g1 v (by omega), sI_v _ _ _ (ng v (by omega)), e5 v h1 (by omega) (by omega) (by omega)]
    have e1 : μ'.1 v_x_signs 0 = 0 := by rw [g1 _ (by decide), sI_v _ _ _ (ng _ (by decide)), ← hμ5, sI_v _ _ _ (by decide), sI_v _ _ _ (by decide), sI_v _ _ _ (by decide), sI_eq]
    refine ⟨hX0.rules hN (fun v hv => ?_) (by rw [g2]; rfl), ⟨hv, i0, i1, i2, hi, by rw [ee _ (by decide) (by decide)]; exact r0, by rw [ee _ (by decide) (by decide)]; exact r1, by rw [ee _ (by decide) (by decide)]; exact r2, u0.of (g3 i0 (by omega)).1 (g3 i0 (by omega)).2, u1.of (g3 i1 (by omega)).1 (g3 i1 (by omega)).2⟩, fun v hv => ee v (by omega) (by omega), fun v _ => by rw [g2]⟩
    by_cases q : v = 1
    · rw [q]
      funext j
      rw [show μ'.1 1 = (setI μ5 (vRu i2 0) 0 0).1 1 from g1 1 (by omega), sI_v _ _ _ (ng _ (by decide)), ← hμ5, sI_v _ _ _ (by decide), sI_v _ _ _ (by decide), sI_v _ _ _ (by decide)]
    · rw [ee v (by omega) q, sI_v _ _ _ q]
  have rule8 : ∀ i, i ≠ i2 → (setI μ5 (vRu i2 0) 0 0).1 (vRu i 0) = μ.1 (vRu i 0) ∧ (setI μ5 (vRu i2 0) 0 0).1 (vRu i 2) = μ.1 (vRu i 2) := fun i hne => by
    obtain ⟨m1, m2, m3, m4, m5, m6, m7, m8⟩ := n0 i
    exact ⟨by rw [sI_v _ _ _ (show vRu i 0 ≠ vRu i2 0 by show 81 + 4 * i + 0 ≠ 81 + 4 * i2 + 0; omega), e5 _ m4 m1 m2 m3], by rw [sI_v _ _ _ (show vRu i 2 ≠ vRu i2 0 by show 81 + 4 * i + 2 ≠ 81 + 4 * i2 + 0; omega), e5 _ m8 m5 m6 m7]⟩
  have l5 : (setI μ5 (vRu i2 0) 0 0).2 = μ.2 := by rw [sI_2, ← hμ5]; rfl
  -- how it ends when the rule is taken
  have win : ∀ t' μ', (∀ v, (v ≤ 79 ∨ 93 ≤ v) → μ'.1 v = (setI μ5 (vRu i2 0) 0 0).1 v) → μ'.2 = μ.2 → (∀ i, i ≠ i2 → μ'.1 (vRu i 0) = μ.1 (vRu i 0) ∧ μ'.1 (vRu i 2) = μ.1 (vRu i 2)) → VU t' → RUo i2 t' μ' → μ'.1 v_rr_limit 0 = nI (min (aT a).length 40) → (aT a).length ≤ 40 → ∃ μ'', f_rr_read_b57 (nI (aT a).length) (nI s) μ' = some (0, μ'') ∧ XOr N (aSetT a []) (fun i => if i = s then t' else U i) μ μ'' := fun t' μ' g1 g2 g3 g4 g5 g6 g7 => by
    have ee : ∀ v, (v ≤ 77 ∨ 93 ≤ v) → v ≠ 1 → μ'.1 v = μ.1 v := fun v hv h1 => by rw [g1 v (by omega), sI_v _ _ _ (ng v (by omega)), e5 v h1 (by omega) (by omega) (by omega)]
    have q0 : μ'.1 v_x_rules 0 = nI i0 := by rw [ee _ (by decide) (by decide)]; exact r0
    have q1 : μ'.1 v_x_rules 1 = nI i1 := by rw [ee _ (by decide) (by decide)]; exact r1
    have q2 : μ'.1 v_rr_spare 0 = nI i2 := by rw [ee _ (by decide) (by decide)]; exact r2
    have hrs : ∃ is, is < 3 ∧ μ'.1 v_x_rules s = nI is := by
      have : s = 0 ∨ s = 1 := by omega
      rcases this with q | q
      · rw [q]; exact ⟨i0, hi.1, q0⟩
      · rw [q]; exact ⟨i1, hi.2.1, q1⟩
    obtain ⟨is, his, hq⟩ := hrs
    have hcs : (nI is).toNatClampNeg = is := cl_nI (by omega)
    refine ⟨setI (setI μ' v_x_rules s (nI i2)) v_rr_spare 0 (nI is), ?_, ?_⟩
    · unfold f_rr_read_b57
      rw [g6, if_pos ((i_leN (by omega) (by omega)).mpr (by omega)), inb_n hs (by omega), chk_t, cl_nI (show s < 2 ^ 31 by omega), hq, hcs, decide_eq_true his, chk_t, q2, hsc, decide_eq_true hi.2.2.1, chk_t, chk_t, bnd_s, bnd_s]
    · have ef : ∀ v, v ≠ 3 → v ≠ 77 → (setI (setI μ' v_x_rules s (nI i2)) v_rr_spare 0 (nI is)).1 v = μ'.1 v := fun v h1 h2 => by rw [sI_v _ _ _ h2, sI_v _ _ _ h1]
      have eru : ∀ i, (setI (setI μ' v_x_rules s (nI i2)) v_rr_spare 0 (nI is)).1 (vRu i 0) = μ'.1 (vRu i 0) ∧ (setI (setI μ' v_x_rules s (nI i2)) v_rr_spare 0 (nI is)).1 (vRu i 2) = μ'.1 (vRu i 2) := fun i => ⟨ef _ (by show 81 + 4 * i + 0 ≠ 3; omega) (by show 81 + 4 * i + 0 ≠ 77; omega), ef _ (by show 81 + 4 * i + 2 ≠ 3; omega) (by show 81 + 4 * i + 2 ≠ 77; omega)⟩
      have eru2 : ∀ i u, i ≠ i2 → RUo i u μ → RUo i u (setI (setI μ' v_x_rules s (nI i2)) v_rr_spare 0 (nI is)) := fun i u hne hr => hr.of (by rw [(eru i).1, (g3 i hne).1]) (by rw [(eru i).2, (g3 i hne).2])
      have eru3 : RUo i2 t' (setI (setI μ' v_x_rules s (nI i2)) v_rr_spare 0 (nI is)) := g5.of (eru i2).1 (eru i2).2
      refine ⟨hX0.rules hN (fun v hv => ?_) (by show μ'.2 = _; rw [g2]; rfl), ?_, fun v hv => by rw [ef v (by omega) (by omega)]; exact ee v (by omega) (by omega), fun v _ => by show μ'.2.1 v = _; rw [g2]⟩
      · rw [ef v (by omega) (by omega)]
        by_cases q : v = 1
        · rw [q]
          funext j
          rw [show μ'.1 1 = (setI μ5 (vRu i2 0) 0 0).1 1 from g1 1 (by omega), sI_v _ _ _ (ng _ (by decide)), ← hμ5, sI_v _ _ _ (by decide), sI_v _ _ _ (by decide), sI_v _ _ _ (by decide)]
        · rw [ee v (by omega) q, sI_v _ _ _ q]
      · have : s = 0 ∨ s = 1 := by omega
        rcases this with q | q
        · subst q
          have e9 : is = i0 := nI_inj (by omega) (by omega) (hq.symm.trans q0)
          subst e9
          refine ⟨⟨by show VU (if 0 = 0 then t' else _); rw [if_pos rfl]; exact g4, by show VU (if 1 = 0 then t' else _); rw [if_neg (by decide)]; exact hv.2⟩, i2, i1, is, by omega, ?_, ?_, ?_, ?_, ?_⟩
          · rw [sI_v _ _ _ (by decide), sI_eq]
          · rw [sI_v _ _ _ (by decide), sI_i _ _ _ (by decide)]; exact q1
          · rw [sI_eq]
          · show RUo i2 (if 0 = 0 then t' else _) _; rw [if_pos rfl]; exact eru3
          · show RUo i1 (if 1 = 0 then t' else _) _; rw [if_neg (by decide)]; exact eru2 i1 _ (by omega) u1
        · subst q
          have e9 : is = i1 := nI_inj (by omega) (by omega) (hq.symm.trans q1)
          subst e9
          refine ⟨⟨by show VU (if 0 = 1 then t' else _); rw [if_neg (by decide)]; exact hv.1, by show VU (if 1 = 1 then t' else _); rw [if_pos rfl]; exact g4⟩, i0, i2, is, by omega, ?_, ?_, ?_, ?_, ?_⟩
          · rw [sI_v _ _ _ (by decide), sI_i _ _ _ (by decide)]; exact q0
          · rw [sI_v _ _ _ (by decide), sI_eq]
          · rw [sI_eq]
          · show RUo i0 (if 0 = 1 then t' else _) _; rw [if_neg (by decide)]; exact eru2 i0 _ (by omega) u0
          · show RUo i2 (if 1 = 1 then t' else _) _; rw [if_pos rfl]; exact eru3
  unfold rlA
  by_cases c0 : aT a = []
  · rw [if_pos c0, c0]
    rw [c0] at win hCR
    have := win [] _ (fun _ _ => rfl) l5 rule8 (Or.inl rfl) ⟨hCR.2.2.2.1, hCR.2.2.2.2⟩ hCR.2.1.2.1 (by simp)
    obtain ⟨μ'', k1, k2⟩ := this
    refine ⟨μ'', ?_, k2⟩
    rw [if_pos (show nI ([] : List Nat).length ≤ 0 by decide), k1, bd2_s]
  · have hpos : 0 < (aT a).length := List.length_pos_iff.mpr c0
    have hF := x_ex (x_th (t := aT a) (L := min (aT a).length 40) (sp := i2) (lv := lv0) 6 0 rfl (by omega)) (pTh_gd (lv := lv0) 6 0)
    obtain ⟨cs', μ1, q1, q2, q3, q4, q5⟩ := hF 0 [] _ (Nat.zero_le _) (by simp) hCR
    obtain ⟨_, b2, b3⟩ := prU_gd lv0 (aT a) (min (aT a).length 40)
    have b2' : (prU lv0 (aT a) (min (aT a).length 40)).2.1 ≤ min (aT a).length 40 := b2
    have q1' : f_rr_readExpression (f_rr_readThing 6) 0 (setI μ5 (vRu i2 0) 0 0) = some (nI (bN (prU lv0 (aT a) (min (aT a).length 40)).1), μ1) := q1
    have hat : μ1.1 v_rr_at 0 = nI (prU lv0 (aT a) (min (aT a).length 40)).2.1 := q2.2.1.2.2.1
    have hli : μ1.1 v_rr_limit 0 = nI (min (aT a).length 40) := q2.2.1.2.1
    have hl1 : μ1.2 = μ.2 := by rw [q3.2, l5]
    have hru1 : ∀ i, i ≠ i2 → μ1.1 (vRu i 0) = μ.1 (vRu i 0) ∧ μ1.1 (vRu i 2) = μ.1 (vRu i 2) := fun i hne => ⟨by rw [(q3.ru hne).1, (rule8 i hne).1], by rw [(q3.ru hne).2, (rule8 i hne).2]⟩
    have hlo := lose μ1 (q3.out hi.2.2.1) hl1 hru1
    rw [if_neg c0, if_neg (show ¬ nI (aT a).length ≤ 0 from fun q => absurd ((i_leN (b := 0) (by omega) (by omega)).mp q) (by omega)), q1', bd2_s]
    by_cases d : (prU lv0 (aT a) (min (aT a).length 40)).1 = true
    · rw [d, if_neg (show ¬ nI (bN true) = 0 by decide), hli, hat]
      by_cases e : (prU lv0 (aT a) (min (aT a).length 40)).2.1 = (aT a).length
      · have hm : min (aT a).length 40 = (aT a).length := by omega
        rw [if_pos ((i_leN (by omega) (by omega)).mpr (by omega)), if_pos ⟨rfl, e⟩]
        have hVU := rlA_VU hs hbt hv d e
        have hcd : cds (aT a) = cs' := by
          unfold cds
          rw [if_neg c0, q5 d, hm]
          rfl
        have := win (aT a) μ1 (q3.out hi.2.2.1) hl1 hru1 hVU ⟨by rw [hcd]; exact q2.2.2.2.1, fun j hj => by rw [hcd] at hj ⊢; exact q2.2.2.2.2 j hj⟩ hli (by omega)
        obtain ⟨μ'', k1, k2⟩ := this
        exact ⟨μ'', by rw [k1, bd2_s], k2⟩
      · rw [if_neg (show ¬ (true = true ∧ (prU lv0 (aT a) (min (aT a).length 40)).2.1 = (aT a).length) from fun q => e q.2)]
        by_cases f : min (aT a).length 40 ≤ (prU lv0 (aT a) (min (aT a).length 40)).2.1
        · rw [if_pos ((i_leN (by omega) (by omega)).mpr f)]
          refine ⟨μ1, ?_, hlo⟩
          unfold f_rr_read_b57
          rw [hli, if_neg (fun q => absurd ((i_leN (by omega) (by omega)).mp q) (by omega)), bd2_s, show (prU lv0 (aT a) (min (aT a).length 40)).2.1 = min (aT a).length 40 by omega]
        · rw [if_neg (fun q => f ((i_leN (by omega) (by omega)).mp q))]
          exact ⟨μ1, by rw [bd2_s], hlo⟩
    · rw [bF d, if_pos (show nI (bN false) = 0 by decide), hat, if_neg (fun q => absurd q.1 (by decide))]
      exact ⟨μ1, by rw [bd2_s], hlo⟩
end OPS
