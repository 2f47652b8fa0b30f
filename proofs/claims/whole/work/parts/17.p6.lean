/-! pure rows: whistle, net, join, month -/
/-- a month goes by: HERDS below k -/
def moP (t mon : Int32) (mt hd md : Nat → Int32) : Nat → (Nat → Int32) × (Nat → Int32)
  | 0 => (hd, md)
  | k + 1 => if thr t k = true then ((if (moP t mon mt hd md k).1 k < 2 ∨ mt k = mon - mon / 12 * 12 then (moP t mon mt hd md k).1 else upd (moP t mon mt hd md k).1 k (c99 ((moP t mon mt hd md k).1 k + 1))), upd (moP t mon mt hd md k).2 k (ch ((moP t mon mt hd md k).2 k + 2))) else moP t mon mt hd md k
theorem moP_bnd {t mon : Int32} {mt hd md : Nat → Int32} (hh : bnd 6 hd 0 99) (hm : bnd 6 md 0 9) : ∀ k, k ≤ 6 → bnd 6 (moP t mon mt hd md k).1 0 99 ∧ bnd 6 (moP t mon mt hd md k).2 0 9 := by
  intro k
  induction k with
  | zero => intro _; exact ⟨hh, hm⟩
  | succ k ih =>
    intro hk
    obtain ⟨i1, i2⟩ := ih (by omega)
    obtain ⟨jh, _, hjh, ejh⟩ := i1 k (by omega)
    obtain ⟨jm, _, hjm, ejm⟩ := i2 k (by omega)
    rw [moP]
    split
    · refine ⟨?_, ?_⟩
      · show bnd 6 (if _ then _ else _) 0 99
        split
        · exact i1
        · rw [ejh, nI_1]
          unfold c99
          by_cases h : nI (jh + 1) < 99
          · rw [if_pos h]
            have := (nI_ltI (show jh + 1 < 2 ^ 31 by omega) (show 99 < 2 ^ 31 by decide)).mp h
            exact i1.upd k (jh + 1) (Nat.zero_le _) (by omega)
          · rw [if_neg h]
            exact i1.upd k 99 (Nat.zero_le _) (Nat.le_refl _)
      · obtain ⟨i, i0, hi, ei⟩ := ch_bnd hjm (show 2 ≤ 3 by decide)
        show bnd 6 (upd _ k _) 0 9
        rw [ejm, show ch (nI jm + 2) = nI i from ei]
        exact i2.upd k i i0 hi
    · exact ⟨i1, i2⟩
theorem passMonth_ev (t mon : Int32) (hd md mt : Nat → Int32) : f_Sea_passMonth t mon hd md mt = some (mon + 1, (moP t mon mt hd md 6).1, (moP t mon mt hd md 6).2) := by
  unfold f_Sea_passMonth
  rw [ev_cnt (s0 := ((0 : Int32), hd, md)) (fun k => (nI k, (moP t mon mt hd md k).1, (moP t mon mt hd md k).2)) 6 (r := ((moP t mon mt hd md 6).1, (moP t mon mt hd md 6).2)) rfl (fun k hk => by
    show b_Sea_passMonth_1 mon t mt (nI k) (moP t mon mt hd md k).1 (moP t mon mt hd md k).2 = _
    unfold b_Sea_passMonth_1
    rw [if_neg (lge (L := 6) rfl hk (by decide)), there_thr t hk, cheer_ev t _ hk, moP]
    simp only [ix_t hk (by decide), if_true, cl_n (show k < 2 ^ 31 by omega), nI_1, Option.bind_some]
    by_cases c1 : thr t k = true
    · simp only [c1, if_true, one_ne, if_false]
      by_cases c2 : (moP t mon mt hd md k).1 k < 2
      · simp [c2]
      · by_cases c3 : mt k = mon - mon / 12 * 12
        · simp [c2, c3]
        · simp [c2, c3, c99]
    · simp [c1]) (by
    show b_Sea_passMonth_1 mon t mt (nI 6) _ _ = _
    unfold b_Sea_passMonth_1
    rw [if_pos (lle (L := 6) (N := 6) rfl)])]
  rfl
theorem mmonth_ev {t mon lost : Int32} {hd sd md mt mt2 now : Nat → Int32} (hr : rSea t mon lost hd sd md now) (hm : eqn 6 mt mt2) (hh : bnd 6 hd 0 99) (hmd : bnd 6 md 0 9) : ∃ now', f_Model_endMonth now mt2 = (if mon = 999 then some (6, now) else some (0, now')) ∧ rSea t (mon + 1) lost (moP t mon mt hd md 6).1 sd (moP t mon mt hd md 6).2 now' := by
  unfold f_Model_endMonth
  rw [show ((20 : Int32).toNatClampNeg) = 20 from rfl, hr.2.2.2]
  have key : ∀ d k now, k + d = 6 → rSea t mon lost (moP t mon mt hd md k).1 sd (moP t mon mt hd md k).2 now → ∃ now', ev (fun s : Int32 × (Nat → Int32) => b_Model_endMonth_1 mt2 s.1 s.2) (nI k, now) = some now' ∧ rSea t mon lost (moP t mon mt hd md 6).1 sd (moP t mon mt hd md 6).2 now' := by
    intro d
    induction d with
    | zero =>
      intro k now hk hr
      have : k = 6 := by omega
      subst this
      refine ⟨now, ev_inr ?_, hr⟩
      show b_Model_endMonth_1 mt2 (nI 6) now = _
      unfold b_Model_endMonth_1
      rw [if_pos (lle (L := 6) (N := 6) rfl)]
    | succ d ih =>
      intro k now hk hr
      have hk6 : k < 6 := by omega
      have hstep : ∃ now1, b_Model_endMonth_1 mt2 (nI k) now = some (.inl (nI (k + 1), now1)) ∧ rSea t mon lost (moP t mon mt hd md (k + 1)).1 sd (moP t mon mt hd md (k + 1)).2 now1 := by
        unfold b_Model_endMonth_1
        rw [if_neg (lge (L := 6) (N := 6) rfl hk6 (by decide)), mst hr hk6, mcheer hr hk6, moP]
        obtain ⟨i1, i2⟩ := moP_bnd (t := t) (mon := mon) (mt := mt) hh hmd k (by omega)
        obtain ⟨jh, _, hjh, ejh⟩ := i1 k (by omega)
        obtain ⟨a1, a2, a3⟩ := hr.1 k hk6
        have hr2 := hr.m hk6 (ch ((moP t mon mt hd md k).2 k + 2))
        simp only [ix_t (show k < 21 by omega) (by decide), ix_t hk6 (by decide), if_true, cl_n (show k < 2 ^ 31 by omega), nI_1, Option.bind_some, up_n (show k ≠ 12 + k by omega), up_n (show 20 ≠ 12 + k by omega), show ((20 : Int32).toNatClampNeg) = 20 from rfl, a1, hr.2.2.2, ← hm k hk6, ejh]
        by_cases c1 : thr t k = true
        · simp only [c1, if_true, one_ne, if_false]
          have hself : rSea t mon lost (moP t mon mt hd md k).1 sd (upd (moP t mon mt hd md k).2 k (ch ((moP t mon mt hd md k).2 k + 2))) (upd (upd now (12 + k) (ch ((moP t mon mt hd md k).2 k + 2))) k (nI jh + 0)) := by
            have q := hr2.h hk6 (nI jh)
            rw [← ejh, up_self, ejh] at q
            rw [show nI jh + 0 = nI jh from Int32.add_zero _]
            exact q
          by_cases c2 : jh ≤ 1
          · have g1 : nI jh ≤ 1 := nI_le (b := 1) c2 (by decide)
            have g2 : nI jh < 2 := nI_lt (b := 2) (by omega) (by decide)
            simp only [g1, g2, if_true, true_or]
            exact ⟨_, rfl, hself⟩
          · have g1 : ¬ nI jh ≤ 1 := nI_ge (a := 1) (by omega) (by omega)
            have g2 : ¬ nI jh < 2 := nI_nlt (b := 2) (by omega) (by omega)
            by_cases c3 : jh = 99
            · have g3 : (99 : Int32) ≤ nI jh := nI_le (a := 99) (by omega) (by omega)
              simp only [g1, g2, g3, if_true, if_false, false_or]
              refine ⟨_, rfl, ?_⟩
              split
              · exact hself
              · have e : c99 (nI (jh + 1)) = nI jh := by subst c3; rfl
                rw [e, ← ejh, up_self, ejh]
                exact hself
            · have g3 : ¬ (99 : Int32) ≤ nI jh := nI_ge (b := 99) (by omega) (by decide)
              by_cases c4 : mt k = mon - mon / 12 * 12
              · simp only [g1, g2, g3, c4, if_true, if_false, or_true]
                exact ⟨_, rfl, hself⟩
              · have c4' : ¬ mon - mon / 12 * 12 = mt k := fun z => c4 z.symm
                simp only [g1, g2, g3, c4, c4', if_true, if_false, or_self]
                refine ⟨_, rfl, ?_⟩
                have e : c99 (nI (jh + 1)) = nI (jh + 1) := by
                  unfold c99
                  by_cases h9 : nI (jh + 1) < 99
                  · rw [if_pos h9]
                  · rw [if_neg h9]
                    have h10 : ¬ jh + 1 < 99 := fun z => h9 (nI_lt (b := 99) z (by decide))
                    have : jh + 1 = 99 := by omega
                    rw [this]
                    rfl
                rw [e]
                exact hr2.h hk6 _
        · simp only [c1, if_true, if_false]
          exact ⟨_, rfl, hr⟩
      obtain ⟨now1, g1, g2⟩ := hstep
      rw [ev_inl (t := (nI (k + 1), now1)) g1]
      exact ih (k + 1) now1 (by omega) g2
  obtain ⟨now', g1, g2⟩ := key 6 0 now rfl hr
  refine ⟨upd now' 20 (mon + 1), ?_, g2.o _⟩
  have g1' : ev (fun s : Int32 × (Nat → Int32) => b_Model_endMonth_1 mt2 s.1 s.2) ((0 : Int32), now) = some now' := g1
  by_cases h0 : mon = 999
  · rw [if_pos h0, if_pos h0]
  · rw [if_neg h0, if_neg h0, g1']
    show some (0, upd now' 20 (now' 20 + 1)) = _
    rw [g2.2.2.2]
/-- what ACTS change: HERDS there, the month, LOST HEADS, HEADS, SIDES, MOODS -/
abbrev SS : Type := Int32 × Int32 × Int32 × (Nat → Int32) × (Nat → Int32) × (Nat → Int32)
def rS (z : SS) (now : Nat → Int32) : Prop := rSea z.1 z.2.1 z.2.2.1 z.2.2.2.1 z.2.2.2.2.1 z.2.2.2.2.2 now
def iS (z : SS) (mt : Nat → Int32) : Prop := iSea z.1 z.2.1 z.2.2.2.1 z.2.2.2.2.1 z.2.2.2.2.2 mt
/-- who SIGNS -/
def sgS (z : SS) (mt : Nat → Int32) (w : Int32) : Nat → Bool := sg z.1 z.2.1 z.2.2.2.1 z.2.2.2.2.2 mt w
/-- why an ACT can not be (0: it can); ACTS by a number and two names -/
def whyS (z : SS) (mt wd : Nat → Int32) (k o p : Nat) : Int32 :=
  if k = 0 then (if orS (sgS z mt (wd o)) 6 = 0 then 2 else 0)
  else if k = 1 then (if thr z.1 o = true then (if z.2.2.2.2.2 o < 9 then 0 else 3) else 1)
  else if k = 2 then (if thr z.1 o = true then (if 5 ≤ z.2.2.2.1 o then 0 else 4) else 1)
  else if k = 3 then (if thr z.1 o = true then (if thr z.1 p = true then (if o = p then 5 else if z.2.2.2.2.1 o = z.2.2.2.2.1 p then 0 else 5) else 1) else 1)
  else (if z.2.1 < 999 then 0 else 6)
def perS (z : SS) (mt wd : Nat → Int32) (k o p : Nat) : SS :=
  if k = 0 then (z.1, z.2.1, z.2.2.1, z.2.2.2.1, (rdP (sgS z mt (wd o)) z.1 (wd o) z.2.2.2.2.1 z.2.2.2.2.2 6).1, (rdP (sgS z mt (wd o)) z.1 (wd o) z.2.2.2.2.1 z.2.2.2.2.2 6).2)
  else if k = 1 then (z.1, z.2.1, z.2.2.1, z.2.2.2.1, z.2.2.2.2.1, upd z.2.2.2.2.2 o (ch (z.2.2.2.2.2 o + 3)))
  else if k = 2 then (z.1, z.2.1, z.2.2.1 + 5, upd z.2.2.2.1 o (z.2.2.2.1 o - 5), z.2.2.2.2.1, z.2.2.2.2.2)
  else if k = 3 then (z.1 &&& ((1 : Int32) <<< (nI p &&& 31) ^^^ -1), z.2.1, z.2.2.1, upd z.2.2.2.1 o (c99 (z.2.2.2.1 o + z.2.2.2.1 p)), z.2.2.2.2.1, z.2.2.2.2.2)
  else (z.1, z.2.1 + 1, z.2.2.1, (moP z.1 z.2.1 mt z.2.2.2.1 z.2.2.2.2.2 6).1, z.2.2.2.2.1, (moP z.1 z.2.1 mt z.2.2.2.1 z.2.2.2.2.2 6).2)
/-- an ACT's names are as they should be -/
def okA (k o p : Nat) : Prop := (k = 0 ∧ o < 10) ∨ (k = 1 ∧ o < 6) ∨ (k = 2 ∧ o < 6) ∨ (k = 3 ∧ o < 6 ∧ p < 6) ∨ k = 4
/-- an ACT as the class holds it -/
def repA (k o p : Nat) (kind one other : Int32) : Prop := okA k o p ∧ kind = nI k ∧ (k ≠ 4 → one = nI o) ∧ (k = 3 → other = nI p)
theorem wordsOf_ev (wd : Nat → Int32) {c : Nat} (hc : c < 10) : f_Treaty_wordsOf wd (nI c) = some (wd c) := by
  unfold f_Treaty_wordsOf
  rw [show f_Strait_within (nI c) 0 9 = 1 from win1 (a := 0) (b := 9) (Nat.zero_le _) (by omega) (by decide), if_neg one_ne, if_pos (ix_t hc (by decide)), cl_n (by omega)]
theorem why_ev (z : SS) (mt wd : Nat → Int32) {k o p : Nat} {kind one other : Int32} (h : repA k o p kind one other) : f_Sea_whyNot z.1 z.2.1 z.2.2.2.1 z.2.2.2.2.1 z.2.2.2.2.2 mt kind one other wd = some (whyS z mt wd k o p) := by
  obtain ⟨ok, rfl, h1, h3⟩ := h
  unfold f_Sea_whyNot whyS
  have n01 : ¬ nI 1 = 0 := by decide
  have n20 : ¬ nI 2 = 0 := by decide
  have n21 : ¬ nI 2 = 1 := by decide
  have n30 : ¬ nI 3 = 0 := by decide
  have n31 : ¬ nI 3 = 1 := by decide
  have n32 : ¬ nI 3 = 2 := by decide
  have n40 : ¬ nI 4 = 0 := by decide
  have n41 : ¬ nI 4 = 1 := by decide
  have n42 : ¬ nI 4 = 2 := by decide
  have n43 : ¬ nI 4 = 3 := by decide
  rcases ok with ⟨rfl, ho⟩ | ⟨rfl, ho⟩ | ⟨rfl, ho⟩ | ⟨rfl, ho, hp⟩ | rfl
  · rw [h1 (by decide), if_pos (show nI 0 = 0 from rfl), wordsOf_ev wd ho]
    simp only [Option.bind_some, signers_ev, sgS, if_true]
    by_cases hz : orS (sg z.1 z.2.1 z.2.2.2.1 z.2.2.2.2.2 mt (wd o)) 6 = 0 <;> simp [hz]
  · rw [h1 (by decide)]
    unfold f_Sea_whyNoWhistle
    rw [there_thr _ ho]
    simp only [n01, if_false, show nI 1 = 1 from rfl, if_true, ix_t ho (by decide), cl_n (show o < 2 ^ 31 by omega)]
    by_cases c1 : thr z.1 o = true
    · by_cases c2 : z.2.2.2.2.2 o < 9 <;> simp [c1, c2]
    · simp [c1]
  · rw [h1 (by decide)]
    unfold f_Sea_whyNoNet
    rw [there_thr _ ho]
    simp only [n20, n21, if_false, show nI 2 = 2 from rfl, if_true, ix_t ho (by decide), cl_n (show o < 2 ^ 31 by omega)]
    by_cases c1 : thr z.1 o = true
    · by_cases c2 : 5 ≤ z.2.2.2.1 o <;> simp [c1, c2]
    · simp [c1]
  · rw [h1 (by decide), h3 rfl]
    unfold f_Sea_whyNoJoining
    rw [there_thr _ ho, there_thr _ hp]
    simp only [n30, n31, n32, if_false, show nI 3 = 3 from rfl, if_true, ix_t ho (by decide), ix_t hp (by decide), cl_n (show o < 2 ^ 31 by omega), cl_n (show p < 2 ^ 31 by omega), nI_eq (show o < 2 ^ 31 by omega) (show p < 2 ^ 31 by omega)]
    by_cases c1 : thr z.1 o = true
    · by_cases c2 : thr z.1 p = true
      · by_cases c3 : o = p
        · simp [c1, c2, c3]
        · by_cases c4 : z.2.2.2.2.1 o = z.2.2.2.2.1 p <;> simp [c1, c2, c3, c4]
      · simp [c1, c2]
    · simp [c1]
  · simp only [n40, n41, n42, n43, if_false]
    by_cases c : z.2.1 < 999 <;> simp [c]
theorem per_ev (z : SS) (mt wd : Nat → Int32) {k o p : Nat} {kind one other : Int32} (h : repA k o p kind one other) (hw : whyS z mt wd k o p = 0) : f_Sea_perform z.1 z.2.1 z.2.2.1 z.2.2.2.1 z.2.2.2.2.1 z.2.2.2.2.2 mt kind one other wd = some (perS z mt wd k o p) := by
  obtain ⟨ok, rfl, h1, h3⟩ := h
  unfold f_Sea_perform perS
  unfold whyS at hw
  have n01 : ¬ nI 1 = 0 := by decide
  have n20 : ¬ nI 2 = 0 := by decide
  have n21 : ¬ nI 2 = 1 := by decide
  have n30 : ¬ nI 3 = 0 := by decide
  have n31 : ¬ nI 3 = 1 := by decide
  have n32 : ¬ nI 3 = 2 := by decide
  have n40 : ¬ nI 4 = 0 := by decide
  have n41 : ¬ nI 4 = 1 := by decide
  have n42 : ¬ nI 4 = 2 := by decide
  have n43 : ¬ nI 4 = 3 := by decide
  rcases ok with ⟨rfl, ho⟩ | ⟨rfl, ho⟩ | ⟨rfl, ho⟩ | ⟨rfl, ho, hp⟩ | rfl
  · rw [h1 (by decide), if_pos (show nI 0 = 0 from rfl), wordsOf_ev wd ho]
    simp only [Option.bind_some, readAloud_ev, sgS, if_true]
  · rw [h1 (by decide), cheer_ev _ _ ho]
    by_cases c1 : thr z.1 o = true
    · simp [n01, show nI 1 = 1 from rfl, c1]
    · simp [c1] at hw
  · rw [h1 (by decide)]
    unfold f_Sea_takeNet
    rw [there_thr _ ho]
    by_cases c1 : thr z.1 o = true
    · simp [n20, n21, show nI 2 = 2 from rfl, c1, ix_t ho, cl_n (show o < 2 ^ 31 by omega)]
    · simp [c1] at hw
  · rw [h1 (by decide), h3 rfl]
    unfold f_Sea_joinTo
    rw [there_thr _ ho, there_thr _ hp]
    by_cases c1 : thr z.1 o = true
    · by_cases c2 : thr z.1 p = true
      · simp [n30, n31, n32, show nI 3 = 3 from rfl, c1, c2, ix_t ho, ix_t hp, cl_n (show o < 2 ^ 31 by omega), cl_n (show p < 2 ^ 31 by omega), c99]
      · simp [c1, c2] at hw
    · simp [c1] at hw
  · simp only [n40, n41, n42, n43, if_false, passMonth_ev, Option.bind_some]
    rfl
