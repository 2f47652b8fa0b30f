/-! pure rows: the reference's acts, bounds behind an act -/
theorem per_i {z : SS} {mt wd : Nat → Int32} {k o p : Nat} (ok : okA k o p) (hi : iS z mt) (hwd : bnd 10 wd 1 9) (hw : whyS z mt wd k o p = 0) : iS (perS z mt wd k o p) mt := by
  obtain ⟨⟨tn, ht, et⟩, ⟨mn, hmn, em⟩, i3, i4, i5, i6⟩ := hi
  unfold perS
  unfold whyS at hw
  rcases ok with ⟨rfl, ho⟩ | ⟨rfl, ho⟩ | ⟨rfl, ho⟩ | ⟨rfl, ho, hp⟩ | rfl
  · obtain ⟨wn, hw1, hw9, ew⟩ := hwd o ho
    have hb := rdP_bnd (b := sgS z mt (wd o)) (t := z.1) (wn := wn) i4 i5 (fun k hk hb => by
      unfold sgS sg at hb
      simp only [Bool.and_eq_true, decide_eq_true_eq] at hb
      rw [← ew]; exact hb.2) (by omega) 6 (Nat.le_refl 6)
    rw [← ew] at hb
    exact ⟨⟨tn, ht, et⟩, ⟨mn, hmn, em⟩, i3, hb.1, hb.2, i6⟩
  · obtain ⟨jm, _, hjm, ejm⟩ := i5 o ho
    obtain ⟨i, i0, hi, ei⟩ := ch_bnd hjm (show 3 ≤ 3 by decide)
    refine ⟨⟨tn, ht, et⟩, ⟨mn, hmn, em⟩, i3, i4, ?_, i6⟩
    show bnd 6 (upd _ o _) 0 9
    rw [ejm, show ch (nI jm + 3) = nI i from ei]
    exact i5.upd o i i0 hi
  · obtain ⟨jh, _, hjh, ejh⟩ := i3 o ho
    refine ⟨⟨tn, ht, et⟩, ⟨mn, hmn, em⟩, ?_, i4, i5, i6⟩
    show bnd 6 (upd _ o _) 0 99
    by_cases c1 : thr z.1 o = true
    · by_cases c2 : 5 ≤ z.2.2.2.1 o
      · rw [ejh] at c2 ⊢
        have c3 := (nI_leI (show 5 < 2 ^ 31 by decide) (by omega)).mp c2
        rw [show nI jh - 5 = nI (jh - 5) from pk_sub (b := 5) c3]
        exact i3.upd o (jh - 5) (Nat.zero_le _) (by omega)
      · simp [c1, c2] at hw
    · simp [c1] at hw
  · obtain ⟨jh, _, hjh, ejh⟩ := i3 o ho
    obtain ⟨jp, _, hjp, ejp⟩ := i3 p hp
    obtain ⟨j, _, hj, ej⟩ := and_bnd (v := tn) (B := 63) (by omega) (by decide) ((1 : Int32) <<< (nI p &&& 31) ^^^ -1)
    refine ⟨⟨j, by omega, ?_⟩, ⟨mn, hmn, em⟩, ?_, i4, i5, i6⟩
    · show z.1 &&& _ = _
      rw [et, ej]
    · show bnd 6 (upd _ o _) 0 99
      rw [ejh, ejp, nI_add]
      unfold c99
      by_cases h : nI (jh + jp) < 99
      · rw [if_pos h]
        have := (nI_ltI (show jh + jp < 2 ^ 31 by omega) (show 99 < 2 ^ 31 by decide)).mp h
        exact i3.upd o (jh + jp) (Nat.zero_le _) (by omega)
      · rw [if_neg h]
        exact i3.upd o 99 (Nat.zero_le _) (Nat.le_refl _)
  · have hb := moP_bnd (t := z.1) (mon := z.2.1) (mt := mt) i3 i5 6 (Nat.le_refl 6)
    refine ⟨⟨tn, ht, et⟩, ⟨mn + 1, ?_, ?_⟩, hb.1, i4, hb.2, i6⟩
    · by_cases c : z.2.1 < 999
      · rw [em] at c
        have := (nI_ltI (show mn < 2 ^ 31 by omega) (show 999 < 2 ^ 31 by decide)).mp c
        omega
      · simp [c] at hw
    · show z.2.1 + 1 = _
      rw [em, nI_1]
theorem mwhistle_ev {z : SS} {mt wd now : Nat → Int32} {o : Nat} (p : Nat) (ho : o < 6) (hr : rS z now) (hi : iS z mt) : f_Model_whistle now (nI o) = some (if whyS z mt wd 1 o p = 0 then (0, upd now (12 + o) (ch (z.2.2.2.2.2 o + 3))) else (whyS z mt wd 1 o p, now)) := by
  unfold f_Model_whistle whyS
  obtain ⟨jm, _, hjm, ejm⟩ := hi.2.2.2.2.1 o ho
  rw [mst hr ho, mcheer hr ho, show (12 : Int32) + nI o = nI (12 + o) from nI_add 12 o, cl_n (by omega), (hr.1 o ho).2.2, ejm]
  simp only [ix_t (show 12 + o < 21 by omega) (by decide), if_true]
  have e9 : nI jm = 9 ↔ ¬ nI jm < 9 := by
    rw [show (9 : Int32) = nI 9 from rfl, nI_eq (by omega) (by decide), nI_ltI (by omega) (by decide)]
    omega
  by_cases c1 : thr z.1 o = true
  · by_cases c2 : nI jm < 9
    · have c3 : ¬ nI jm = 9 := fun h => (e9.mp h) c2
      simp [c1, c2, c3]
    · have c3 : nI jm = 9 := e9.mpr c2
      simp [c1, c3]
  · simp [c1]
theorem mnet_ev {z : SS} {mt wd now : Nat → Int32} {o : Nat} (p : Nat) (ho : o < 6) (hr : rS z now) : f_Model_net now (nI o) = some (if whyS z mt wd 2 o p = 0 then (0, upd (upd now o (z.2.2.2.1 o - 5)) 19 (z.2.2.1 + 5)) else (whyS z mt wd 2 o p, now)) := by
  unfold f_Model_net whyS
  rw [mst hr ho, cl_n (by omega), (hr.1 o ho).1, show ((19 : Int32).toNatClampNeg) = 19 from rfl, up_n (show 19 ≠ o by omega), hr.2.2.1]
  simp only [ix_t (show o < 21 by omega) (by decide), if_true]
  by_cases c1 : thr z.1 o = true
  · by_cases c2 : 5 ≤ z.2.2.2.1 o <;> simp [c1, c2]
  · simp [c1]
theorem c99_le (y : Int32) : (if y ≤ 99 then y else 99) = c99 y := by
  unfold c99
  by_cases h : y < 99
  · rw [if_pos h, if_pos]; rw [i_lt] at h; rw [i_le]; omega
  · rw [if_neg h]
    by_cases h2 : y ≤ 99
    · rw [if_pos h2, i_eq]; rw [i_lt] at h; rw [i_le] at h2; omega
    · rw [if_neg h2]
theorem mjoin_ev {z : SS} {mt wd now : Nat → Int32} {o p : Nat} (ho : o < 6) (hp : p < 6) (hr : rS z now) : f_Model_join now (nI o) (nI p) = some (if whyS z mt wd 3 o p = 0 then (0, upd (upd now o (c99 (z.2.2.2.1 o + z.2.2.2.1 p))) 18 (z.1 &&& ((1 : Int32) <<< (nI p &&& 31) ^^^ -1))) else (whyS z mt wd 3 o p, now)) := by
  unfold f_Model_join whyS
  rw [mst hr ho, mst hr hp, show (6 : Int32) + nI o = nI (6 + o) from nI_add 6 o, show (6 : Int32) + nI p = nI (6 + p) from nI_add 6 p]
  simp only [cl_n (show o < 2 ^ 31 by omega), cl_n (show p < 2 ^ 31 by omega), cl_n (show 6 + o < 2 ^ 31 by omega), cl_n (show 6 + p < 2 ^ 31 by omega), (hr.1 o ho).1, (hr.1 p hp).1, (hr.1 o ho).2.1, (hr.1 p hp).2.1, show ((18 : Int32).toNatClampNeg) = 18 from rfl, up_n (show 18 ≠ o by omega), hr.2.1, nI_eq (show o < 2 ^ 31 by omega) (show p < 2 ^ 31 by omega), ix_t (show o < 21 by omega) (by decide), ix_t (show p < 21 by omega) (by decide), ix_t (show 6 + o < 21 by omega) (by decide), ix_t (show 6 + p < 21 by omega) (by decide), if_true, ← c99_le]
  by_cases c1 : thr z.1 o = true
  · by_cases c2 : thr z.1 p = true
    · by_cases c3 : o = p
      · simp [c1, c2, c3]
      · by_cases c4 : z.2.2.2.2.1 o = z.2.2.2.2.1 p
        · by_cases c5 : z.2.2.2.1 o + z.2.2.2.1 p ≤ 99 <;> simp [c1, c2, c3, c4, c5]
        · simp [c1, c2, c3, c4]
    · simp [c1, c2]
  · simp [c1]
/-- the reference's ACT: its answer; now, how many were read, who signed all behind it -/
noncomputable def mAct (now mt wd : Nat → Int32) (rm sa : Int32) (k o p : Nat) : Option (Int32 × (Nat → Int32) × Int32 × Int32) :=
  if k = 0 then f_Model_read now mt wd rm sa (nI o)
  else if k = 1 then (f_Model_whistle now (nI o)).map (fun x => (x.1, x.2, rm, sa))
  else if k = 2 then (f_Model_net now (nI o)).map (fun x => (x.1, x.2, rm, sa))
  else if k = 3 then (f_Model_join now (nI o) (nI p)).map (fun x => (x.1, x.2, rm, sa))
  else (f_Model_endMonth now mt).map (fun x => (x.1, x.2, rm, sa))
theorem mAct_ev {z : SS} {mt mt2 wd wd2 now : Nat → Int32} {k o p : Nat} (ok : okA k o p) (hr : rS z now) (hi : iS z mt) (hm : eqn 6 mt mt2) (hw : eqn 10 wd wd2) (rm sa : Int32) : ∃ now', mAct now mt2 wd2 rm sa k o p = some (if whyS z mt wd k o p = 0 then (0, now', (if k = 0 then rm + 1 else rm), (if k = 0 then sa &&& orS (sgS z mt (wd o)) 6 else sa)) else (whyS z mt wd k o p, now, rm, sa)) ∧ (whyS z mt wd k o p = 0 → rS (perS z mt wd k o p) now') := by
  unfold mAct perS
  rcases ok with ⟨rfl, ho⟩ | ⟨rfl, ho⟩ | ⟨rfl, ho⟩ | ⟨rfl, ho, hp⟩ | rfl
  · obtain ⟨now', e1, e2⟩ := mread_ev hr hm hw ho rm sa
    refine ⟨now', ?_, fun _ => e2⟩
    rw [if_pos rfl, e1]
    unfold whyS
    show _ = some (if (if orS (sgS z mt (wd o)) 6 = 0 then (2 : Int32) else 0) = 0 then _ else _)
    unfold sgS
    by_cases h0 : orS (sg z.1 z.2.1 z.2.2.2.1 z.2.2.2.2.2 mt (wd o)) 6 = 0 <;> simp [h0]
  · refine ⟨upd now (12 + o) (ch (z.2.2.2.2.2 o + 3)), ?_, fun _ => hr.m ho _⟩
    rw [if_neg (by decide), if_pos rfl, mwhistle_ev (wd := wd) p ho hr hi]
    by_cases h0 : whyS z mt wd 1 o p = 0 <;> simp [h0]
  · refine ⟨upd (upd now o (z.2.2.2.1 o - 5)) 19 (z.2.2.1 + 5), ?_, fun _ => rSea.l (rSea.h hr ho _) _⟩
    rw [if_neg (by decide), if_neg (by decide), if_pos rfl, mnet_ev (mt := mt) (wd := wd) p ho hr]
    by_cases h0 : whyS z mt wd 2 o p = 0 <;> simp [h0]
  · refine ⟨upd (upd now o (c99 (z.2.2.2.1 o + z.2.2.2.1 p))) 18 (z.1 &&& ((1 : Int32) <<< (nI p &&& 31) ^^^ -1)), ?_, fun _ => rSea.t (rSea.h hr ho _) _⟩
    rw [if_neg (by decide), if_neg (by decide), if_neg (by decide), if_pos rfl, mjoin_ev (mt := mt) (wd := wd) ho hp hr]
    by_cases h0 : whyS z mt wd 3 o p = 0 <;> simp [h0]
  · obtain ⟨now', e1, e2⟩ := mmonth_ev (mt := mt) hr hm hi.2.2.1 hi.2.2.2.2.1
    refine ⟨now', ?_, fun _ => e2⟩
    rw [if_neg (by decide), if_neg (by decide), if_neg (by decide), if_neg (by decide), e1]
    obtain ⟨mn, hmn, em⟩ := hi.2.1
    unfold whyS
    rw [em]
    have e9 : nI mn = 999 ↔ ¬ nI mn < 999 := by
      rw [show (999 : Int32) = nI 999 from rfl, nI_eq (by omega) (by decide), nI_ltI (by omega) (by decide)]
      omega
    by_cases c2 : nI mn < 999
    · have c3 : ¬ nI mn = 999 := fun h => (e9.mp h) c2
      simp [c2, c3]
    · have c3 : nI mn = 999 := e9.mpr c2
      simp [c3]
