/-! street: the class. -/
def apT (tl : Bool) (a : Ab) : Option LN → Ab
  | none => a
  | some l => if tl then ap1 a l else a
def pnO : Option LN → Nat
  | none => 0
  | some l => isPn l
section OPS
variable {N : Nat} {a : Ab} {b : Nat × Nat} {μ0 μ : Mem} {Q : Nat} {S : SP} {U : Nat → List Nat} {t : List Nat} {L len th k : Nat} {tl : Bool}
theorem apT_0 (o : Option LN) : apT false a o = a := by cases o <;> rfl
/-- the class has read a LINE -/
def SLn (N : Nat) (b : Nat × Nat) (a : Ab) (μ0 : Mem) (t : List Nat) (L len th : Nat) (tl : Bool) (r : Nat × Option LN) (f : Mem → Option (Int32 × Mem)) (μ : Mem) : Prop := ∃ μ', f μ = some (nI (bN r.2.isSome), μ') ∧ XI N (b.1, if tl then b.2 + 2 else b.2) (apT tl a r.2) μ0 μ' ∧ SRs t L len (th + pnO r.2) r.1 tl μ'
theorem up2b (h : XI N b a μ0 μ) (hb : tl = true → b.2 + 2 ≤ 60) : XI N (b.1, if tl then b.2 + 2 else b.2) a μ0 μ := by
  cases tl with
  | false => exact h
  | true => exact h.upb (by show b.2 ≤ b.2 + 2; omega) (hb rfl)
theorem sln_no {k' : Nat} {μ' : Mem} {f : Mem → Option (Int32 × Mem)} (h : XI N b a μ0 μ') (hb : tl = true → b.2 + 2 ≤ 60) (hs : SRs t L len th k' tl μ') (e : f μ = some (0, μ')) : SLn N b a μ0 t L len th tl (k', none) f μ := ⟨μ', e, up2b h hb, hs⟩
theorem sr_person (h : XI N b a μ0 μ) (hs : SRs t L len th k tl μ) (hk : k < L) (hth : th ≤ 14) (hb : tl = true → b.2 + 2 ≤ 60) (hp : tl = true → th = (aS a).1) : SLn N b a μ0 t L len th tl (rdP t L th k) f_sr_readPerson μ := by
  have h76 := hs.L76
  unfold rdP
  by_cases c0 : th < 14
  · rw [if_pos c0]
    have hs1 := hs.at_ (k + 1)
    have f1 := FS.at_ μ (nI (k + 1))
    obtain ⟨μ2, a1, a2, a3⟩ := sr_number hs1 (show k + 1 ≤ L by omega)
    have hn := pNumL_le (t := t) 2 (k + 1) 0 (show k + 1 ≤ L by omega)
    have hv : (pNumL t L 2 (k + 1) 0).2 < 100 := pNumL_v 2 (k + 1) 0
    have e0 : f_sr_readPerson μ = (if (if (pNumL t L 2 (k + 1) 0).1 = k + 1 then (-1 : Int32) else nI (pNumL t L 2 (k + 1) 0).2) < 0 then (chk (zb (0 : Int32)) (some ((0 : Int32), μ2))) else (bd2 (f_sr_take (44 : Int32) μ2) fun v14 μ12 => if v14 = 0 then (chk (zb (0 : Int32)) (some ((0 : Int32), μ12))) else (bd2 (f_sr_digit μ12) fun v18 μ16 => if 0 ≤ v18 then (bd2 (f_sr_take (33 : Int32) μ16) fun v22 μ20 => bnd (setI μ20 v_sr_there 0 ((μ20.1 v_sr_there 0) + (1 : Int32))) fun μ23 => if (μ23.1 v_sr_telling 0) = 0 then (chk (zb (1 : Int32)) (some ((1 : Int32), μ23))) else (bd1 (f_st_welcome (nI (bN (decide (cu t L k = 98)))) (if (pNumL t L 2 (k + 1) 0).1 = k + 1 then (-1 : Int32) else nI (pNumL t L 2 (k + 1) 0).2) v18 v22 μ23) fun μ27 => chk (zb (1 : Int32)) (some ((1 : Int32), μ27)))) else (chk (zb (0 : Int32)) (some ((0 : Int32), μ16)))))) := by
      unfold f_sr_readPerson
      rw [hs.2.2.2.2.2.2.1, if_pos (show nI th < (14 : Int32) from (i_ltN (b := 14) (by omega) (by omega)).mpr c0), show f_sr_isNext (98 : Int32) μ = _ from sr_next hs (by omega) (c := 98) (by omega), bd2_s, hs.2.2.2.2.2.1, l_1, i_add, bnd_s, a1, bd2_s]
      rfl
    by_cases c1 : (pNumL t L 2 (k + 1) 0).1 = k + 1
    · rw [if_pos c1]
      rw [c1] at a2
      exact sln_no (h.fs (f1.tr a3)) hb a2 (by rw [e0, if_pos c1, if_pos (by decide), zb_0, chk_t])
    · rw [if_neg c1]
      obtain ⟨μ3, b1, b2, b3⟩ := sr_take a2 hn.2.1 (c := 44) (by omega)
      rw [if_neg c1, if_neg (i_nlt0 (by omega)), show f_sr_take (44 : Int32) μ2 = _ from b1, bd2_s] at e0
      by_cases c2 : cu t L (pNumL t L 2 (k + 1) 0).1 = 44
      · have hlt : (pNumL t L 2 (k + 1) 0).1 < L := cu_L (t := t) (by omega)
        rw [if_pos c2]
        rw [decide_eq_true c2] at b2 e0
        rw [if_neg (show ¬ nI (bN true) = 0 by decide)] at e0
        have b2' : SRs t L len th ((pNumL t L 2 (k + 1) 0).1 + 1) tl μ3 := b2
        obtain ⟨μ4, d1, d2, d3⟩ := sr_dig1 b2' (by omega)
        have hd := pNumL_le (t := t) (L := L) 1 ((pNumL t L 2 (k + 1) 0).1 + 1) 0 (by omega)
        have hdv : (pNumL t L 1 ((pNumL t L 2 (k + 1) 0).1 + 1) 0).2 < 10 := pNumL_v 1 _ 0
        rw [d1, bd2_s] at e0
        by_cases c3 : (pNumL t L 1 ((pNumL t L 2 (k + 1) 0).1 + 1) 0).1 = (pNumL t L 2 (k + 1) 0).1 + 1
        · rw [if_pos c3]
          rw [c3] at d2
          exact sln_no (h.fs (((f1.tr a3).tr b3).tr d3)) hb d2 (by rw [e0, if_pos c3, if_neg (by decide), zb_0, chk_t])
        · rw [if_neg c3]
          obtain ⟨μ5, g1, g2, g3⟩ := sr_take d2 hd.2.1 (c := 33) (by omega)
          rw [if_neg c3, if_pos (show (0 : Int32) ≤ nI (pNumL t L 1 ((pNumL t L 2 (k + 1) 0).1 + 1) 0).2 from (i_leN (a := 0) (by omega) (by omega)).mpr (Nat.zero_le _)), show f_sr_take (33 : Int32) μ4 = _ from g1, bd2_s, g2.2.2.2.2.2.2.1, l_1, i_add, bnd_s, sI_v _ _ _ (by decide), g2.2.2.2.2.2.2.2] at e0
          have g4 := g2.th_ (th + 1)
          have fF : FS μ (setI μ5 v_sr_there 0 (nI (th + 1))) := ((((f1.tr a3).tr b3).tr d3).tr g3).tr (FS.th_ _ _)
          have hX := h.fs fF
          cases tl with
          | false =>
            refine ⟨_, ?_, hX, g4⟩
            rw [e0, if_pos (show nI (bN false) = 0 by decide), show nI 1 = (1 : Int32) from rfl, zb_1, chk_t]
            rfl
          | true =>
            have hb2 := hb rfl
            have hp2 := hp rfl
            obtain ⟨μ6, w1, w2, w3, w4⟩ := st_welcome hX (by omega) (show (aS a).1 < 14 by omega) (bl := decide (cu t L k = 98)) (fi := decide (cu t L (pNumL t L 1 ((pNumL t L 2 (k + 1) 0).1 + 1) 0).1 = 33)) (nd := (pNumL t L 2 (k + 1) 0).2) (pr := (pNumL t L 1 ((pNumL t L 2 (k + 1) 0).1 + 1) 0).2) (by omega) (by omega)
            refine ⟨μ6, ?_, w2.upb (c := b.2 + 2) (by show b.2 + 1 ≤ b.2 + 2; omega) hb2, g4.of (fun v hv => w3 v (by
              rcases hv with q | q
              · left; rw [q]; decide
              · right; omega))⟩
            rw [e0, if_neg (show ¬ nI (bN true) = 0 by decide), w1, bd1_s, show nI 1 = (1 : Int32) from rfl, zb_1, chk_t]
            rfl
      · rw [if_neg c2]
        rw [decide_eq_false c2] at b2 e0
        have b2' : SRs t L len th (pNumL t L 2 (k + 1) 0).1 tl μ3 := b2
        exact sln_no (h.fs ((f1.tr a3).tr b3)) hb b2' (by rw [e0, if_pos (show nI (bN false) = 0 by decide), zb_0, chk_t])
  · rw [if_neg c0]
    refine sln_no h hb hs ?_
    unfold f_sr_readPerson
    rw [hs.2.2.2.2.2.2.1, if_neg (show ¬ nI th < (14 : Int32) from fun q => c0 ((i_ltN (b := 14) (by omega) (by omega)).mp q)), zb_0, chk_t]
theorem rdS_le {be : Option Nat} (hk : k ≤ L) : (rdS t L th be k).1 ≤ L ∧ ∀ w, (rdS t L th be k).2 = some w → k < (rdS t L th be k).1 ∧ w < th ∧ some w ≠ be := by
  have hn := pNumL_le (t := t) 2 k 0 hk
  unfold rdS
  by_cases c : (pNumL t L 2 k 0).1 = k
  · rw [if_pos c]; exact ⟨hk, fun w hw => absurd hw (by simp)⟩
  · rw [if_neg c]
    by_cases d : th ≤ (pNumL t L 2 k 0).2 ∨ some (pNumL t L 2 k 0).2 = be
    · rw [if_pos d]; exact ⟨by show (pNumL t L 2 k 0).1 - 1 ≤ L; omega, fun w hw => absurd hw (by simp)⟩
    · rw [if_neg d]
      refine ⟨hn.2.1, fun w hw => ?_⟩
      have e : (pNumL t L 2 k 0).2 = w := Option.some.inj hw
      rw [← e]
      exact ⟨by show k < (pNumL t L 2 k 0).1; omega, by omega, fun q => d (Or.inr q)⟩
theorem sr_both {o : Nat} {both : Bool} (h : XI N b a μ0 μ) (hs : SRs t L len th k tl μ) (hk : k ≤ L) (hth : th ≤ 14) (ho : o < th) (hb : tl = true → b.2 + 2 ≤ 60) (hp : tl = true → th = (aS a).1) : SLn N b a μ0 t L len th tl (rdB t L th o k both) (f_sr_readAcquaintance_b34 (nI o) (nI (bN both))) μ := by
  have h76 := hs.L76
  obtain ⟨μ1, a1, a2, a3⟩ := sr_some hs hk hth (be := some o) (fun x hx => by rw [← Option.some.inj hx]; omega)
  have hle := rdS_le (t := t) (L := L) (th := th) (be := some o) hk
  have e0 : f_sr_readAcquaintance_b34 (nI o) (nI (bN both)) μ = _ := rfl
  unfold f_sr_readAcquaintance_b34 at e0
  rw [show f_sr_someoneBut (nI o) μ = _ from a1, bd2_s] at e0
  unfold rdB
  cases hr : rdS t L th (some o) k with
  | mk k2 ow =>
    rw [hr] at a2 e0 hle
    cases ow with
    | none =>
      refine sln_no (h.fs a3) hb a2 ?_
      unfold f_sr_readAcquaintance_b34
      rw [show f_sr_someoneBut (nI o) μ = _ from a1, bd2_s, hr, if_pos (show oI none < (0 : Int32) by decide), zb_0, chk_t]
    | some w =>
      obtain ⟨hl1, hl2, hl3⟩ := hle.2 w rfl
      have hw : w < 14 := by omega
      obtain ⟨μ2, b1, b2, b3⟩ := sr_take a2 hle.1 (c := 42) (by omega)
      have e1 : f_sr_readAcquaintance_b34 (nI o) (nI (bN both)) μ = (if nI (bN (decide (cu t L k2 = 42))) = 0 then (chk (zb (0 : Int32)) (some ((0 : Int32), μ2))) else (bd2 (f_sr_digit μ2) fun v20 μ18 => if 0 ≤ v20 then (if (μ18.1 v_sr_telling 0) = 0 then (chk (zb (1 : Int32)) (some ((1 : Int32), μ18))) else (bd1 (f_st_putLoud (nI w) (nI o) v20 μ18) fun μ24 => if nI (bN both) = 0 then (chk (zb (1 : Int32)) (some ((1 : Int32), μ24))) else (bd1 (f_st_putLoud (nI o) (nI w) v20 μ24) fun μ28 => chk (zb (1 : Int32)) (some ((1 : Int32), μ28))))) else (chk (zb (0 : Int32)) (some ((0 : Int32), μ18))))) := by
        unfold f_sr_readAcquaintance_b34
        rw [show f_sr_someoneBut (nI o) μ = _ from a1, bd2_s, hr, if_neg (show ¬ oI (some w) < (0 : Int32) from i_nlt0 (show w < 2 ^ 31 by omega)), show f_sr_take (42 : Int32) μ1 = _ from b1, bd2_s]
        rfl
      show SLn N b a μ0 t L len th tl (if cu t L k2 = 42 then (if (pNumL t L 1 (k2 + 1) 0).1 = k2 + 1 then (k2 + 1, none) else ((pNumL t L 1 (k2 + 1) 0).1, some (Sum.inr (o, both, w, (pNumL t L 1 (k2 + 1) 0).2)))) else (k2, none)) _ μ
      by_cases c : cu t L k2 = 42
      · have hlt : k2 < L := cu_L (t := t) (by omega)
        rw [if_pos c]
        rw [decide_eq_true c] at b2 e1
        have b2' : SRs t L len th (k2 + 1) tl μ2 := b2
        obtain ⟨μ3, d1, d2, d3⟩ := sr_dig1 b2' (by omega)
        have hd := pNumL_le (t := t) (L := L) 1 (k2 + 1) 0 (by omega)
        have hdv : (pNumL t L 1 (k2 + 1) 0).2 < 10 := pNumL_v 1 _ 0
        rw [if_neg (show ¬ nI (bN true) = 0 by decide), d1, bd2_s] at e1
        have hX := h.fs ((a3.tr b3).tr d3)
        by_cases c3 : (pNumL t L 1 (k2 + 1) 0).1 = k2 + 1
        · rw [if_pos c3]
          rw [c3] at d2
          exact sln_no hX hb d2 (by rw [e1, if_pos c3, if_neg (by decide), zb_0, chk_t])
        · rw [if_neg c3]
          rw [if_neg c3, if_pos (show (0 : Int32) ≤ nI (pNumL t L 1 (k2 + 1) 0).2 from (i_leN (a := 0) (by omega) (by omega)).mpr (Nat.zero_le _)), d2.2.2.2.2.2.2.2] at e1
          cases tl with
          | false =>
            refine ⟨μ3, ?_, hX, d2⟩
            rw [e1, if_pos (show nI (bN false) = 0 by decide), zb_1, chk_t]
            rfl
          | true =>
            have hb2 := hb rfl
            have hp2 := hp rfl
            obtain ⟨μ4, w1, w2, w3, w4⟩ := st_putLoudL hX (by omega) (w := w) (o := o) (v := (pNumL t L 1 (k2 + 1) 0).2) (by omega) (by omega) (by omega)
            have fr : ∀ μ' : Mem, (∀ u, (u < 5 ∨ 27 ≤ u) → μ'.1 u = μ3.1 u) → SRs t L len (th + 0) (pNumL t L 1 (k2 + 1) 0).1 true μ' := fun μ' hh => d2.of (fun v hv => hh v (by
              rcases hv with q | q
              · left; rw [q]; decide
              · right; omega))
            rw [if_neg (show ¬ nI (bN true) = 0 by decide), w1, bd1_s] at e1
            cases both with
            | false =>
              refine ⟨μ4, ?_, w2.upb (c := b.2 + 2) (by show b.2 + 1 ≤ b.2 + 2; omega) hb2, fr μ4 w3⟩
              rw [e1, if_pos (show nI (bN false) = 0 by decide), zb_1, chk_t]
              rfl
            | true =>
              obtain ⟨μ5, y1, y2, y3, y4⟩ := st_putLoudL w2 (by show b.2 + 1 < 60; omega) (w := o) (o := w) (v := (pNumL t L 1 (k2 + 1) 0).2) (by show o < (aS a).1; omega) (by show w < (aS a).1; omega) (by omega)
              refine ⟨μ5, ?_, y2, fr μ5 (fun u hu => (y3 u hu).trans (w3 u hu))⟩
              rw [e1, if_neg (show ¬ nI (bN true) = 0 by decide), y1, bd1_s, zb_1, chk_t]
              rfl
      · rw [if_neg c]
        rw [decide_eq_false c] at b2 e1
        have b2' : SRs t L len th k2 tl μ2 := b2
        exact sln_no (h.fs (a3.tr b3)) hb b2' (by rw [e1, if_pos (show nI (bN false) = 0 by decide), zb_0, chk_t])
theorem SLn.of {r : Nat × Option LN} {f g : Mem → Option (Int32 × Mem)} {μ μ' : Mem} (h : SLn N b a μ0 t L len th tl r f μ') (e : g μ = f μ') : SLn N b a μ0 t L len th tl r g μ := by
  obtain ⟨m, h1, h2⟩ := h
  exact ⟨m, e.trans h1, h2⟩
theorem sr_acq (h : XI N b a μ0 μ) (hs : SRs t L len th k tl μ) (hk : k ≤ L) (hth : th ≤ 14) (hb : tl = true → b.2 + 2 ≤ 60) (hp : tl = true → th = (aS a).1) : SLn N b a μ0 t L len th tl (rdA t L th k) f_sr_readAcquaintance μ := by
  have h76 := hs.L76
  obtain ⟨μ1, a1, a2, a3⟩ := sr_some hs hk hth (be := none) (fun x hx => absurd hx (by simp))
  have hle := rdS_le (t := t) (L := L) (th := th) (be := none) hk
  unfold rdA
  cases hr : rdS t L th none k with
  | mk k1 oo =>
    rw [hr] at a1 a2 hle
    cases oo with
    | none =>
      refine sln_no (h.fs a3) hb a2 ?_
      unfold f_sr_readAcquaintance
      rw [show f_sr_someoneBut (-1 : Int32) μ = _ from a1, bd2_s, if_neg (show ¬ (0 : Int32) ≤ oI none by decide), zb_0, chk_t]
    | some o =>
      obtain ⟨hl1, hl2, _⟩ := hle.2 o rfl
      have hge : (0 : Int32) ≤ oI (some o) := (i_leN (a := 0) (by omega) (show o < 2 ^ 31 by omega)).mpr (Nat.zero_le _)
      show SLn N b a μ0 t L len th tl (if cu t L k1 = 45 then rdB t L th o (k1 + 1) true else if cu t L k1 = 62 then rdB t L th o (k1 + 1) false else (k1, none)) _ μ
      obtain ⟨μ2, b1, b2, b3⟩ := sr_take a2 hle.1 (c := 45) (by omega)
      by_cases c1 : cu t L k1 = 45
      · have hlt : k1 < L := cu_L (t := t) (by omega)
        rw [if_pos c1]
        rw [decide_eq_true c1] at b1 b2
        refine (sr_both (h.fs (a3.tr b3)) b2 (show k1 + 1 ≤ L by omega) hth hl2 hb hp).of ?_
        unfold f_sr_readAcquaintance
        rw [show f_sr_someoneBut (-1 : Int32) μ = _ from a1, bd2_s, if_pos hge, show f_sr_take (45 : Int32) μ1 = _ from b1, bd2_s, if_neg (show ¬ nI (bN true) = 0 by decide)]
        rfl
      · rw [if_neg c1]
        rw [decide_eq_false c1] at b1 b2
        have b2' : SRs t L len th k1 tl μ2 := b2
        obtain ⟨μ3, d1, d2, d3⟩ := sr_take b2' hle.1 (c := 62) (by omega)
        have e0 : f_sr_readAcquaintance μ = (if nI (bN (decide (cu t L k1 = 62))) = 0 then (chk (zb (0 : Int32)) (some ((0 : Int32), μ3))) else (f_sr_readAcquaintance_b34 (nI o) (nI (bN false)) μ3)) := by
          unfold f_sr_readAcquaintance
          rw [show f_sr_someoneBut (-1 : Int32) μ = _ from a1, bd2_s, if_pos hge, show f_sr_take (45 : Int32) μ1 = _ from b1, bd2_s, if_pos (show nI (bN false) = 0 by decide), show f_sr_take (62 : Int32) μ2 = _ from d1, bd2_s]
          rfl
        by_cases c2 : cu t L k1 = 62
        · have hlt : k1 < L := cu_L (t := t) (by omega)
          rw [if_pos c2]
          rw [decide_eq_true c2] at d2 e0
          refine (sr_both (h.fs ((a3.tr b3).tr d3)) d2 (show k1 + 1 ≤ L by omega) hth hl2 hb hp).of ?_
          rw [e0, if_neg (show ¬ nI (bN true) = 0 by decide)]
        · rw [if_neg c2]
          rw [decide_eq_false c2] at d2 e0
          have d2' : SRs t L len th k1 tl μ3 := d2
          exact sln_no (h.fs ((a3.tr b3).tr d3)) hb d2' (by rw [e0, if_pos (show nI (bN false) = 0 by decide), zb_0, chk_t])
theorem sr_line (h : XI N b a μ0 μ) (hs : SRs t L len th k tl μ) (hk : k ≤ L) (hth : th ≤ 14) (hb : tl = true → b.2 + 2 ≤ 60) (hp : tl = true → th = (aS a).1) : SLn N b a μ0 t L len th tl (rdL t L th k) f_sr_readLine μ := by
  unfold rdL
  have zz : ∀ r f, SLn N b a μ0 t L len th tl r f μ → SLn N b a μ0 t L len th tl r (fun m => bd2 (f m) fun v7 μ5 => chk (zb v7) (some (v7, μ5))) μ := fun r f hh => by
    obtain ⟨m, h1, h2⟩ := hh
    refine ⟨m, ?_, h2⟩
    show (bd2 (f μ) _) = _
    rw [h1, bd2_s, zb_b, chk_t]
  by_cases c1 : cu t L k = 98
  · have hlt : k < L := cu_L (t := t) (by omega)
    rw [if_pos (Or.inl c1)]
    refine (zz _ _ (sr_person h hs hlt hth hb hp)).of ?_
    unfold f_sr_readLine f_sr_readLine_b18
    rw [show f_sr_isNext (98 : Int32) μ = _ from sr_next hs hk (c := 98) (by omega), bd2_s, decide_eq_true c1, if_neg (show ¬ nI (bN true) = 0 by decide)]
  · by_cases c2 : cu t L k = 110
    · have hlt : k < L := cu_L (t := t) (by omega)
      rw [if_pos (Or.inr c2)]
      refine (zz _ _ (sr_person h hs hlt hth hb hp)).of ?_
      unfold f_sr_readLine f_sr_readLine_b18
      rw [show f_sr_isNext (98 : Int32) μ = _ from sr_next hs hk (c := 98) (by omega), bd2_s, decide_eq_false c1, if_pos (show nI (bN false) = 0 by decide), show f_sr_isNext (110 : Int32) μ = _ from sr_next hs hk (c := 110) (by omega), bd2_s, decide_eq_true c2, if_neg (show ¬ nI (bN true) = 0 by decide)]
    · rw [if_neg (fun q => by rcases q with q | q; exact c1 q; exact c2 q)]
      refine (zz _ _ (sr_acq h hs hk hth hb hp)).of ?_
      unfold f_sr_readLine
      rw [show f_sr_isNext (98 : Int32) μ = _ from sr_next hs hk (c := 98) (by omega), bd2_s, decide_eq_false c1, if_pos (show nI (bN false) = 0 by decide), show f_sr_isNext (110 : Int32) μ = _ from sr_next hs hk (c := 110) (by omega), bd2_s, decide_eq_false c2, if_pos (show nI (bN false) = 0 by decide)]
end OPS
