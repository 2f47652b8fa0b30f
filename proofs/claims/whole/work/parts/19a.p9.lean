/-! pure rows: the runs -/
theorem note_ev (z : SS) (mt wd : Nat → Int32) {k o p : Nat} {kind one other : Int32} (h : repA k o p kind one other) (rm sa : Int32) : f_Trial_noteReading z.1 z.2.1 z.2.2.2.1 z.2.2.2.2.2 mt kind one rm sa wd = some ((if k = 0 then rm + 1 else rm), (if k = 0 then sa &&& orS (sgS z mt (wd o)) 6 else sa)) := by
  obtain ⟨ok, rfl, h1, h3⟩ := h
  unfold f_Trial_noteReading
  rcases ok with ⟨rfl, ho⟩ | ⟨rfl, ho⟩ | ⟨rfl, ho⟩ | ⟨rfl, ho, hp⟩ | rfl
  · rw [h1 (by decide), if_pos (show nI 0 = 0 from rfl), wordsOf_ev wd ho]
    simp only [Option.bind_some, signers_ev, sgS, if_true]
  · rw [if_neg (show ¬ nI 1 = 0 by decide)]; rfl
  · rw [if_neg (show ¬ nI 2 = 0 by decide)]; rfl
  · rw [if_neg (show ¬ nI 3 = 0 by decide)]; rfl
  · rw [if_neg (show ¬ nI 4 = 0 by decide)]; rfl
theorem run_i {f mt wd : Nat → Int32} {n : Nat} (hn : n ≤ 60) (hwd : bnd 10 wd 1 9) : ∀ e i z a rm sa, i ≤ n → fS f (n - i) i 0 = -6 → iS z mt → iS (runS f mt wd n e i z a rm sa).1 mt := by
  intro e
  induction e with
  | zero => intro i z a rm sa _ _ hi; exact hi
  | succ e ih =>
    intro i z a rm sa hin hS hi
    rw [runS]
    by_cases h1 : n ≤ i
    · rw [if_pos h1]; exact hi
    · rw [if_neg h1]
      obtain ⟨⟨ok, l1, l2, l3⟩, -⟩ := take_ev f hn (show i < n by omega) hS 0 0 0
      by_cases h2 : whyS z mt wd (actAt (f i) (f (i + 1)) (f (i + 2))).2.1 (actAt (f i) (f (i + 1)) (f (i + 2))).2.2.1 (actAt (f i) (f (i + 1)) (f (i + 2))).2.2.2 = 0
      · rw [if_pos h2]
        exact ih _ _ _ _ _ l2 l3 (per_i ok hi hwd h2)
      · rw [if_neg h2]; exact hi
theorem run_sa {f mt wd : Nat → Int32} {n : Nat} (x : Int32) : ∀ e i z a rm sa, runS f mt wd n e i z a rm (x &&& sa) = ((runS f mt wd n e i z a rm sa).1, (runS f mt wd n e i z a rm sa).2.1, (runS f mt wd n e i z a rm sa).2.2.1, (runS f mt wd n e i z a rm sa).2.2.2.1, x &&& (runS f mt wd n e i z a rm sa).2.2.2.2) := by
  intro e
  induction e with
  | zero => intro i z a rm sa; rfl
  | succ e ih =>
    intro i z a rm sa
    rw [runS, runS]
    by_cases h1 : n ≤ i
    · rw [if_pos h1, if_pos h1]
    · rw [if_neg h1, if_neg h1]
      by_cases h2 : whyS z mt wd (actAt (f i) (f (i + 1)) (f (i + 2))).2.1 (actAt (f i) (f (i + 1)) (f (i + 2))).2.2.1 (actAt (f i) (f (i + 1)) (f (i + 2))).2.2.2 = 0
      · rw [if_pos h2, if_pos h2]
        by_cases h3 : (actAt (f i) (f (i + 1)) (f (i + 2))).2.1 = 0
        · rw [if_pos h3, if_pos h3, if_pos h3, Int32.and_assoc]
          exact ih _ _ _ _ _
        · rw [if_neg h3, if_neg h3, if_neg h3]
          exact ih _ _ _ _ _
      · rw [if_neg h2, if_neg h2]
/-- the class's block, with what it holds as one -/
noncomputable abbrev xB (f mt wd : Nat → Int32) (N fl : Int32) := fun s : Int32 × Int32 × Int32 × Int32 × Int32 × (Nat → Int32) × (Nat → Int32) × (Nat → Int32) × Int32 × Int32 × Int32 × Int32 × Int32 × Int32 × Int32 => b_Trial_run_1 mt fl f N wd s.1 s.2.1 s.2.2.1 s.2.2.2.1 s.2.2.2.2.1 s.2.2.2.2.2.1 s.2.2.2.2.2.2.1 s.2.2.2.2.2.2.2.1 s.2.2.2.2.2.2.2.2.1 s.2.2.2.2.2.2.2.2.2.1 s.2.2.2.2.2.2.2.2.2.2.1 s.2.2.2.2.2.2.2.2.2.2.2.1 s.2.2.2.2.2.2.2.2.2.2.2.2.1 s.2.2.2.2.2.2.2.2.2.2.2.2.2.1 s.2.2.2.2.2.2.2.2.2.2.2.2.2.2
theorem xrun {f mt wd : Nat → Int32} {n : Nat} (hn : n ≤ 60) (hwd : bnd 10 wd 1 9) : ∀ e i x (z : SS) a rm sa kd on ot, x + e = 60 → x ≤ i → i ≤ n → fS f (n - i) i 0 = -6 → iS z mt → ∃ kd' on' ot', ev (xB f mt wd (nI n) 0) (nI i, nI x, z.1, z.2.1, z.2.2.1, z.2.2.2.1, z.2.2.2.2.1, z.2.2.2.2.2, kd, on, ot, nI a, 0, rm, sa) = some ((runS f mt wd n e i z a rm sa).1.1, (runS f mt wd n e i z a rm sa).1.2.1, (runS f mt wd n e i z a rm sa).1.2.2.1, (runS f mt wd n e i z a rm sa).1.2.2.2.1, (runS f mt wd n e i z a rm sa).1.2.2.2.2.1, (runS f mt wd n e i z a rm sa).1.2.2.2.2.2, mt, kd', on', ot', 0, nI (runS f mt wd n e i z a rm sa).2.1, (runS f mt wd n e i z a rm sa).2.2.1, (runS f mt wd n e i z a rm sa).2.2.2.1, (runS f mt wd n e i z a rm sa).2.2.2.2) := by
  intro e
  induction e with
  | zero =>
    intro i x z a rm sa kd on ot h1 h2 h3 hS hi
    have : x = 60 := by omega
    subst this
    refine ⟨kd, on, ot, ev_inr ?_⟩
    show b_Trial_run_1 mt 0 f (nI n) wd (nI i) (nI 60) _ _ _ _ _ _ _ _ _ _ _ _ _ = _
    unfold b_Trial_run_1
    rw [if_pos (lle (L := 60) (N := 60) rfl)]
    rfl
  | succ e ih =>
    intro i x z a rm sa kd on ot h1 h2 h3 hS hi
    rw [runS]
    by_cases hge : n ≤ i
    · rw [if_pos hge]
      refine ⟨kd, on, ot, ev_inr ?_⟩
      show b_Trial_run_1 mt 0 f (nI n) wd (nI i) (nI x) _ _ _ _ _ _ _ _ _ _ _ _ _ = _
      unfold b_Trial_run_1
      rw [if_neg (lge (L := 60) (N := 60) rfl (by omega) (by decide)), if_pos (nI_le hge (by omega))]
    · rw [if_neg hge]
      obtain ⟨⟨ok, l1, l2, l3⟩, kd1, on1, ot1, e1, e2⟩ := take_ev f hn (show i < n by omega) hS kd on ot
      generalize hA : actAt (f i) (f (i + 1)) (f (i + 2)) = A at ok l1 l2 l3 e1 e2 ⊢
      obtain ⟨ln, k, o, p⟩ := A
      have hb : b_Trial_run_1 mt 0 f (nI n) wd (nI i) (nI x) z.1 z.2.1 z.2.2.1 z.2.2.2.1 z.2.2.2.2.1 z.2.2.2.2.2 kd on ot (nI a) 0 rm sa = if whyS z mt wd k o p = 0 then some (.inl (nI (i + ln), nI (x + 1), (perS z mt wd k o p).1, (perS z mt wd k o p).2.1, (perS z mt wd k o p).2.2.1, (perS z mt wd k o p).2.2.2.1, (perS z mt wd k o p).2.2.2.2.1, (perS z mt wd k o p).2.2.2.2.2, kd1, on1, ot1, nI (a + 1), 0, (if k = 0 then rm + 1 else rm), (if k = 0 then sa &&& orS (sgS z mt (wd o)) 6 else sa))) else some (.inr (z.1, z.2.1, z.2.2.1, z.2.2.2.1, z.2.2.2.2.1, z.2.2.2.2.2, mt, kd1, on1, ot1, 0, nI a, whyS z mt wd k o p, rm, sa)) := by
        unfold b_Trial_run_1
        rw [if_neg (lge (L := 60) (N := 60) rfl (by omega) (by decide)), if_neg (nI_ge (show i < n by omega) (by omega)), if_pos rfl, e1]
        simp only [Option.bind_some, why_ev z mt wd e2]
        by_cases hw : whyS z mt wd k o p = 0
        · rw [if_pos hw, if_pos hw, note_ev z mt wd e2, per_ev z mt wd e2 hw, hw]
          simp only [Option.bind_some, nI_1, nI_add]
        · rw [if_neg hw, if_neg hw]
      dsimp only at l1 l2 l3 ⊢
      by_cases hw : whyS z mt wd k o p = 0
      · rw [if_pos hw] at hb ⊢
        obtain ⟨kd', on', ot', g⟩ := ih (i + ln) (x + 1) (perS z mt wd k o p) (a + 1) (if k = 0 then rm + 1 else rm) (if k = 0 then sa &&& orS (sgS z mt (wd o)) 6 else sa) kd1 on1 ot1 (by omega) (by omega) l2 l3 (per_i ok hi hwd hw)
        exact ⟨kd', on', ot', (ev_inl hb).trans g⟩
      · rw [if_neg hw] at hb ⊢
        exact ⟨kd1, on1, ot1, ev_inr hb⟩
theorem why_le (z : SS) (mt wd : Nat → Int32) (k o p : Nat) : whyS z mt wd k o p ≤ 0 ↔ whyS z mt wd k o p = 0 := by
  unfold whyS
  repeat' split
  all_goals decide
theorem herdAct_ev (now mt wd : Nat → Int32) (rm sa : Int32) {k o p : Nat} (y : Int32) (h : (k = 1 ∧ y = 63) ∨ (k = 2 ∧ y = 33) ∨ (k = 3 ∧ y = 38)) (q : Int32) (hq : k = 3 → q = nI p) : (f_Model_herdAct now (nI o) y q).map (fun x => (x.1, x.2, rm, sa)) = mAct now mt wd rm sa k o p := by
  unfold f_Model_herdAct mAct
  rcases h with ⟨rfl, rfl⟩ | ⟨rfl, rfl⟩ | ⟨rfl, rfl⟩
  · rw [if_pos rfl, if_neg (by decide), if_pos rfl]
    cases f_Model_whistle now (nI o) <;> rfl
  · rw [if_neg (by decide), if_pos rfl, if_neg (by decide), if_neg (by decide), if_pos rfl]
    cases f_Model_net now (nI o) <;> rfl
  · rw [if_neg (by decide), if_neg (by decide), if_neg (by decide), if_neg (by decide), if_neg (by decide), if_pos rfl, hq rfl]
    cases f_Model_join now (nI o) (nI p) <;> rfl
theorem go_step {f g now mt wd : Nat → Int32} {n i : Nat} (hn : n ≤ 60) (hi : i < n) (hS : fS f (n - i) i 0 = -6) (he : eqn 60 f g) (rm sa re : Int32) (a : Nat) : b_Model_goSeasons_1 mt wd (nI n) g (nI i) now rm sa re (nI a) = (mAct now mt wd rm sa (actAt (f i) (f (i + 1)) (f (i + 2))).2.1 (actAt (f i) (f (i + 1)) (f (i + 2))).2.2.1 (actAt (f i) (f (i + 1)) (f (i + 2))).2.2.2).bind (fun x => if x.1 ≤ 0 then some (.inl (nI (i + (actAt (f i) (f (i + 1)) (f (i + 2))).1), x.2.1, x.2.2.1, x.2.2.2, x.1, nI (a + 1))) else some (.inr (nI a, x.2.1, x.2.2.1, x.2.2.2, x.1, nI a))) := by
  obtain ⟨d, hd⟩ : ∃ d, n - i = d + 1 := ⟨n - i - 1, by omega⟩
  rw [hd] at hS
  have e1 : nI i + 1 = nI (i + 1) := nI_1 i
  have e2 : nI i + 2 = nI (i + 2) := nI_add i 2
  have e3 : nI i + 3 = nI (i + 3) := nI_add i 3
  unfold b_Model_goSeasons_1
  rw [if_neg (nI_ge hi (by omega)), if_pos (ix_t (show i < 60 by omega) (by decide)), in_within, e1, e2, e3, cl_n (show i < 2 ^ 31 by omega), cl_n (show i + 1 < 2 ^ 31 by omega), cl_n (show i + 2 < 2 ^ 31 by omega), ← he i (by omega), nI_1]
  rcases parse f (by omega) hS with ⟨k, hk, ek, hh, hd1, hy⟩ | ⟨hh, e46, -⟩ | ⟨k, hk, hh, ek, -⟩
  · have hh' : ¬ f_Strait_within (f i) 65 70 = 0 := by rw [hh]; exact one_ne
    have s65 : nI (65 + k) - 65 = nI k := by
      rw [show (65 : Int32) = nI 65 from rfl, pk_sub (by omega)]; congr 1; omega
    have cl65 : (nI (65 + k)).toNatClampNeg - 65 = k := by rw [cl_n (by omega)]; omega
    have hi1 : i + 1 < 60 := by clear hy; omega
    rw [if_neg hh', if_pos (ix_t hi1 (by decide)), ← he (i + 1) hi1]
    rcases hy with ⟨q, hq, hd2, e38, eq, -⟩ | ⟨n38, hy, -⟩
    · have s65q : nI (65 + q) - 65 = nI q := by
        rw [show (65 : Int32) = nI 65 from rfl, pk_sub (by omega)]; congr 1; omega
      have cl65q : (nI (65 + q)).toNatClampNeg - 65 = q := by rw [cl_n (by omega)]; omega
      have hA : actAt (f i) (f (i + 1)) (f (i + 2)) = (3, 3, k, q) := by
        unfold actAt
        rw [if_neg hh', if_pos e38, ek, eq, cl65, cl65q]
      rw [hA, if_pos e38, if_pos (ix_t (show i + 2 < 60 by omega) (by decide)), ← he (i + 2) (by omega), ek, eq, s65, s65q, e38]
      rw [← herdAct_ev now mt wd rm sa (k := 3) (o := k) (p := q) 38 (Or.inr (Or.inr ⟨rfl, rfl⟩)) (nI q) (fun _ => rfl)]
      cases f_Model_herdAct now (nI k) 38 (nI q) with
      | none => rfl
      | some x => rfl
    · rcases hy with e63 | e33
      · have hA : actAt (f i) (f (i + 1)) (f (i + 2)) = (2, 1, k, 0) := by
          unfold actAt
          rw [if_neg hh', if_neg n38, if_pos e63, ek, cl65]
        rw [hA, if_neg n38, ek, s65, e63]
        rw [← herdAct_ev now mt wd rm sa (k := 1) (o := k) (p := 0) 63 (Or.inl ⟨rfl, rfl⟩) 0 (fun h => by cases h)]
        cases f_Model_herdAct now (nI k) 63 0 with
        | none => rfl
        | some x => rfl
      · have n63 : ¬ f (i + 1) = 63 := by rw [e33]; decide
        have hA : actAt (f i) (f (i + 1)) (f (i + 2)) = (2, 2, k, 0) := by
          unfold actAt
          rw [if_neg hh', if_neg n38, if_neg n63, ek, cl65]
        rw [hA, if_neg n38, ek, s65, e33]
        rw [← herdAct_ev now mt wd rm sa (k := 2) (o := k) (p := 0) 33 (Or.inr (Or.inl ⟨rfl, rfl⟩)) 0 (fun h => by cases h)]
        cases f_Model_herdAct now (nI k) 33 0 with
        | none => rfl
        | some x => rfl
  · have hA : actAt (f i) (f (i + 1)) (f (i + 2)) = (1, 4, 0, 0) := by
      unfold actAt
      rw [if_pos hh, if_pos e46]
    rw [hA, if_pos hh, if_pos e46]
    unfold mAct
    simp only [show ¬ (4 : Nat) = 0 by decide, show ¬ (4 : Nat) = 1 by decide, show ¬ (4 : Nat) = 2 by decide, show ¬ (4 : Nat) = 3 by decide, if_false]
    cases f_Model_endMonth now mt with
    | none => rfl
    | some x => simp only [Option.bind_some, Option.map_some, nI_1]
  · have s97 : nI (97 + k) - 97 = nI k := by
      rw [show (97 : Int32) = nI 97 from rfl, pk_sub (by omega)]; congr 1; omega
    have n46 : ¬ nI (97 + k) = 46 := by
      rw [show (46 : Int32) = nI 46 from rfl, nI_eq (by omega) (by decide)]; omega
    have hA : actAt (f i) (f (i + 1)) (f (i + 2)) = (1, 0, k, 0) := by
      unfold actAt
      rw [if_pos hh, ek, if_neg n46, cl_n (by omega)]
      congr 3
      omega
    rw [hA, if_pos hh, ek, if_neg n46, s97]
    unfold mAct
    simp only [if_true]
theorem mrun {f g mt mt2 wd wd2 : Nat → Int32} {n : Nat} (hn : n ≤ 60) (hwd : bnd 10 wd 1 9) (he : eqn 60 f g) (hm : eqn 6 mt mt2) (hw : eqn 10 wd wd2) : ∀ e i (z : SS) now a rm sa re, n ≤ i + e → i ≤ n → fS f (n - i) i 0 = -6 → rS z now → iS z mt → ∃ now' re', ev (fun s : Int32 × (Nat → Int32) × Int32 × Int32 × Int32 × Int32 => b_Model_goSeasons_1 mt2 wd2 (nI n) g s.1 s.2.1 s.2.2.1 s.2.2.2.1 s.2.2.2.2.1 s.2.2.2.2.2) (nI i, now, rm, sa, re, nI a) = some ((if (runS f mt wd n e i z a rm sa).2.2.1 = 0 then -6 else nI (runS f mt wd n e i z a rm sa).2.1), now', (runS f mt wd n e i z a rm sa).2.2.2.1, (runS f mt wd n e i z a rm sa).2.2.2.2, re', nI (runS f mt wd n e i z a rm sa).2.1) ∧ rS (runS f mt wd n e i z a rm sa).1 now' ∧ (¬ (runS f mt wd n e i z a rm sa).2.2.1 = 0 → re' = (runS f mt wd n e i z a rm sa).2.2.1) := by
  intro e
  have hend : ∀ i now rm sa re a, n ≤ i → i ≤ n → ev (fun s : Int32 × (Nat → Int32) × Int32 × Int32 × Int32 × Int32 => b_Model_goSeasons_1 mt2 wd2 (nI n) g s.1 s.2.1 s.2.2.1 s.2.2.2.1 s.2.2.2.2.1 s.2.2.2.2.2) (nI i, now, rm, sa, re, nI a) = some (-6, now, rm, sa, re, nI a) := by
    intro i now rm sa re a h1 h2
    refine ev_inr ?_
    show b_Model_goSeasons_1 mt2 wd2 (nI n) g (nI i) now rm sa re (nI a) = _
    unfold b_Model_goSeasons_1
    rw [if_pos (nI_le h1 (by omega))]
  induction e with
  | zero =>
    intro i z now a rm sa re h1 h2 hS hr hi
    refine ⟨now, re, ?_, hr, fun h => absurd rfl h⟩
    rw [hend i now rm sa re a (by omega) h2]
    rfl
  | succ e ih =>
    intro i z now a rm sa re h1 h2 hS hr hi
    rw [runS]
    by_cases hge : n ≤ i
    · rw [if_pos hge]
      refine ⟨now, re, ?_, hr, fun h => absurd rfl h⟩
      rw [hend i now rm sa re a hge h2]
      rfl
    · rw [if_neg hge]
      obtain ⟨⟨ok, l1, l2, l3⟩, -⟩ := take_ev f hn (show i < n by omega) hS 0 0 0
      have hb := go_step (now := now) (mt := mt2) (wd := wd2) hn (show i < n by omega) hS he rm sa re a
      generalize hA : actAt (f i) (f (i + 1)) (f (i + 2)) = A at ok l1 l2 l3 hb ⊢
      obtain ⟨ln, k, o, p⟩ := A
      obtain ⟨now1, g1, g2⟩ := mAct_ev (k := k) (o := o) (p := p) ok hr hi hm hw rm sa
      dsimp only at l1 l2 l3 hb ⊢
      rw [g1] at hb
      by_cases hw0 : whyS z mt wd k o p = 0
      · rw [if_pos hw0] at hb ⊢
        rw [Option.bind_some, if_pos (show (0 : Int32) ≤ 0 by decide)] at hb
        obtain ⟨now', re', q1, q2, q3⟩ := ih (i + ln) (perS z mt wd k o p) now1 (a + 1) (if k = 0 then rm + 1 else rm) (if k = 0 then sa &&& orS (sgS z mt (wd o)) 6 else sa) 0 (by omega) l2 l3 (g2 hw0) (per_i ok hi hwd hw0)
        exact ⟨now', re', (ev_inl hb).trans q1, q2, q3⟩
      · rw [if_neg hw0] at hb ⊢
        rw [Option.bind_some, if_neg (show ¬ whyS z mt wd k o p ≤ 0 from fun h => hw0 ((why_le _ _ _ _ _ _).mp h))] at hb
        refine ⟨now, whyS z mt wd k o p, ?_, hr, fun _ => rfl⟩
        rw [if_neg hw0]
        exact ev_inr hb
