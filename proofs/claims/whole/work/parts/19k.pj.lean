/-! pure rows: turning -/
theorem or_thr : ∀ y : Nat, y < 1024 → ∀ k : Nat, k < 10 → (thr (nI y) k = true ↔ y ||| 2 ^ k = y) := by decide +kernel
theorem sub_sub3 (a b c : Int32) : a - b - c = a - (b + c) := by
  rw [Int32.sub_eq_add_neg, Int32.sub_eq_add_neg, Int32.sub_eq_add_neg, Int32.neg_add, Int32.sub_eq_add_neg, Int32.add_assoc]
def wA (wd : Nat → Int32) (s : Int32) : Nat → Int32
  | 0 => 0
  | k + 1 => if thr s k = true then wA wd s k + wd k else wA wd s k
theorem wordsAll_ev (wd : Nat → Int32) (s : Int32) : f_Treaty_wordsOfAll wd s = some (wA wd s 10) := by
  unfold f_Treaty_wordsOfAll
  rw [ev_cnt (s0 := ((0 : Int32), (0 : Int32))) (fun k => (wA wd s k, nI k)) 10 (r := wA wd s 10) rfl (fun k hk => by
    show b_Treaty_wordsOfAll_1 s wd (wA wd s k) (nI k) = _
    unfold b_Treaty_wordsOfAll_1
    rw [if_neg (lge (L := 10) rfl hk (by decide)), has_thr, wA, nI_1]
    by_cases h1 : thr s k = true
    · simp [h1, ix_t hk, cl_n (show k < 2 ^ 31 by omega)]
    · simp [h1]) (by
    show b_Treaty_wordsOfAll_1 s wd _ (nI 10) = _
    unfold b_Treaty_wordsOfAll_1
    rw [if_pos (lle (L := 10) (N := 10) rfl)])]
  rfl
theorem mleft_ev {wd wd2 : Nat → Int32} (hw : eqn 10 wd wd2) (p s : Int32) : ev (fun z : Int32 × Int32 => b_Model_turning_2 s wd2 z.1 z.2) (p, (0 : Int32)) = some (p - wA wd s 10) := by
  refine ev_cnt (fun k => (p - wA wd s k, nI k)) 10 (by show (p, (0 : Int32)) = (p - 0, nI 0); rw [Int32.sub_zero]; rfl) (fun k hk => ?_) ?_
  · show b_Model_turning_2 s wd2 (p - wA wd s k) (nI k) = _
    unfold b_Model_turning_2
    rw [if_neg (lge (L := 10) rfl hk (by decide)), has_has, has_thr, if_pos (ix_t hk (by decide)), cl_n (by omega), wA, nI_1, ← hw k hk, Int32.sub_zero, sub_sub3]
    by_cases h1 : thr s k = true
    · rw [if_pos h1, if_neg one_ne, if_pos h1]
    · rw [if_neg h1, if_pos rfl, if_neg h1]
  · show b_Model_turning_2 s wd2 _ (nI 10) = _
    unfold b_Model_turning_2
    rw [if_pos (lle (L := 10) (N := 10) rfl)]
/-- a CLAUSE that wins -/
abbrev wP (wd wins : Nat → Int32) (y : Nat) (l : Int32) (k : Nat) : Prop := ¬ thr (nI y) k = true ∧ ¬ l < wd k ∧ wins (y ||| 2 ^ k) = 0
noncomputable def wF (wd wins : Nat → Int32) (y : Nat) (l : Int32) : Nat → Nat → Int32
  | 0, _ => -6
  | d + 1, k => if wP wd wins y l k then nI k else wF wd wins y l d (k + 1)
theorem wF_cases (wd wins : Nat → Int32) (y : Nat) (l : Int32) : ∀ d k, k + d = 10 → wF wd wins y l d k = -6 ∨ ∃ j, j < 10 ∧ wF wd wins y l d k = nI j := by
  intro d
  induction d with
  | zero => intro k _; exact Or.inl rfl
  | succ d ih =>
    intro k hk
    rw [wF]
    split
    · exact Or.inr ⟨k, by omega, rfl⟩
    · exact ih (k + 1) (by omega)
theorem or_nI {y k : Nat} (hy : y < 1024) (hk : k < 10) : nI y ||| ((1 : Int32) <<< (nI k &&& 31)) = nI (y ||| 2 ^ k) ∧ y ||| 2 ^ k < 1024 ∧ (¬ thr (nI y) k = true → y < y ||| 2 ^ k) := by
  have h2 : 2 ^ k < 2 ^ 10 := Nat.pow_lt_pow_right (by decide) hk
  refine ⟨by rw [shl1 k (by omega), fa_or], Nat.or_lt_two_pow (n := 10) hy h2, fun h => ?_⟩
  have h1 := (or_thr y hy k hk)
  have h3 := @Nat.left_le_or y (2 ^ k)
  have h4 : ¬ y ||| 2 ^ k = y := fun z => h (h1.mpr z)
  omega
theorem next_win {wd wins : Nat → Int32} {y : Nat} (hy : y < 1024) (l : Int32) : ∀ d k, k + d = 10 → ev (fun s : Int32 => b_Game_winningNext_1 (nI y) l wins wd s) (nI k) = some (wF wd wins y l d k) := by
  intro d
  induction d with
  | zero =>
    intro k hk
    have : k = 10 := by omega
    subst this
    refine ev_inr ?_
    show b_Game_winningNext_1 (nI y) l wins wd (nI 10) = _
    unfold b_Game_winningNext_1
    rw [if_pos (lle (L := 10) (N := 10) rfl)]
    rfl
  | succ d ih =>
    intro k hk
    have hk10 : k < 10 := by omega
    have hI := ih (k + 1) (by omega)
    obtain ⟨o1, o2, o3⟩ := or_nI hy hk10
    have hstep : b_Game_winningNext_1 (nI y) l wins wd (nI k) = (if wP wd wins y l k then some (.inr (nI k)) else some (.inl (nI (k + 1)))) := by
      unfold b_Game_winningNext_1 wP
      rw [if_neg (lge (L := 10) rfl hk10 (by decide)), o1, nI_1]
      by_cases h1 : thr (nI y) k = true
      · rw [if_pos (by rw [(or_thr y hy k hk10).mp h1]), if_neg (fun z => z.1 h1)]
      · have h4 : ¬ nI (y ||| 2 ^ k) = nI y := fun z => by
          have := (nI_eq (by omega) (by omega)).mp z
          have := o3 h1
          omega
        rw [if_neg h4, if_neg (lge (L := 1024) (N := 1024) rfl o2 (by decide)), wordsOf_ev wd hk10, Option.bind_some, if_pos (ix_t o2 (by decide)), cl_n (by omega)]
        by_cases h2 : l < wd k
        · rw [if_pos h2, if_neg (fun z => z.2.1 h2)]
        · rw [if_neg h2]
          by_cases h3 : wins (y ||| 2 ^ k) = 0
          · rw [if_pos h3, if_pos ⟨h1, h2, h3⟩]
          · rw [if_neg h3, if_neg (fun z => h3 z.2.2)]
    rw [wF]
    by_cases h : wP wd wins y l k
    · rw [if_pos h] at hstep ⊢
      exact ev_inr hstep
    · rw [if_neg h] at hstep ⊢
      rw [← hI]
      exact ev_inl hstep
theorem mnext_win {wd wd2 wins wins2 : Nat → Int32} {y : Nat} (hy : y < 1024) (hw : eqn 10 wd wd2) (hz : ∀ z, y < z → z < 1024 → wins z = wins2 z) (l : Int32) : ∀ k, k ≤ 10 → ev (fun s : Int32 × Int32 => b_Model_turning_3 (nI y) l wins2 wd2 s.1 s.2) (wF wd wins y l (10 - k) k, nI k + -1) = some (wF wd wins y l 10 0) := by
  intro k
  induction k with
  | zero =>
    intro _
    refine ev_inr ?_
    show b_Model_turning_3 (nI y) l wins2 wd2 _ (nI 0 + -1) = _
    unfold b_Model_turning_3
    rw [if_pos (by decide)]
  | succ k ih =>
    intro hk
    have hk10 : k < 10 := by omega
    rw [← ih (by omega), pk_m1]
    obtain ⟨o1, o2, o3⟩ := or_nI hy hk10
    refine ev_inl ?_
    show b_Model_turning_3 (nI y) l wins2 wd2 (wF wd wins y l (10 - (k + 1)) (k + 1)) (nI k) = some (Sum.inl (wF wd wins y l (10 - k) k, nI k + -1))
    rw [show 10 - k = (10 - (k + 1)) + 1 by omega, wF]
    unfold b_Model_turning_3
    rw [if_neg (nI_pos (by omega)), has_has, has_thr, if_pos (ix_t hk10 (by decide)), cl_n (show k < 2 ^ 31 by omega), o1, if_pos (ix_t o2 (by decide)), cl_n (show y ||| 2 ^ k < 2 ^ 31 by omega), ← hw k hk10]
    by_cases h1 : thr (nI y) k = true
    · rw [if_pos h1, if_neg one_ne, if_neg (show ¬ wP wd wins y l k from fun z => z.1 h1)]
    · rw [if_neg h1, if_pos rfl, ← hz _ (o3 h1) o2]
      by_cases h2 : l < wd k
      · rw [if_pos h2, if_neg (show ¬ wP wd wins y l k from fun z => z.2.1 h2)]
      · rw [if_neg h2]
        by_cases h3 : wins (y ||| 2 ^ k) = 0
        · rw [if_pos h3, if_pos (show wP wd wins y l k from ⟨h1, h2, h3⟩)]
        · rw [if_neg h3, if_neg (show ¬ wP wd wins y l k from fun z => h3 z.2.2)]
theorem first_win {wd wd2 : Nat → Int32} (hw : eqn 10 wd wd2) (p : Int32) : ∀ y r wins wins2, y ≤ 1024 → (∀ z, y ≤ z → z < 1024 → wins z = wins2 z) → (y = 0 → wins2 0 = if r = -6 then 0 else 1) → ∃ r' wins' wins2', ev (fun s : Int32 × Int32 × (Nat → Int32) => b_Game_winningFirst_1 p wd s.1 s.2.1 s.2.2) (r, nI y + -1, wins) = some (r', wins') ∧ ev (fun s : Int32 × Int32 × (Nat → Int32) => b_Model_turning_1 p wd2 s.1 s.2.1 s.2.2) (r, nI y + -1, wins2) = some (r', wins2') ∧ wins2' 0 = if r' = -6 then 0 else 1 := by
  intro y
  induction y with
  | zero =>
    intro r wins wins2 _ _ h0
    refine ⟨r, wins, wins2, ev_inr ?_, ev_inr ?_, h0 rfl⟩
    · show b_Game_winningFirst_1 p wd r (nI 0 + -1) wins = _
      unfold b_Game_winningFirst_1
      rw [if_pos (by decide)]
    · show b_Model_turning_1 p wd2 r (nI 0 + -1) wins2 = _
      unfold b_Model_turning_1
      rw [if_pos (by decide)]
  | succ y ih =>
    intro r wins wins2 hy hz _
    rw [pk_m1]
    have hy4 : y < 1024 := by omega
    have x1 : f_Game_winningNext wins wd (nI y) (p - wA wd (nI y) 10) = some (wF wd wins y (p - wA wd (nI y) 10) 10 0) := next_win hy4 _ 10 0 (by omega)
    have y1 : ev (fun s : Int32 × Int32 => b_Model_turning_3 (nI y) (p - wA wd (nI y) 10) wins2 wd2 s.1 s.2) ((-6 : Int32), (9 : Int32)) = some (wF wd wins y (p - wA wd (nI y) 10) 10 0) := mnext_win hy4 hw (fun z h1 h2 => hz z (by omega) h2) (p - wA wd (nI y) 10) 10 (Nat.le_refl _)
    have hc := wF_cases wd wins y (p - wA wd (nI y) 10) 10 0 (by omega)
    generalize wF wd wins y (p - wA wd (nI y) 10) 10 0 = q at x1 y1 hc
    obtain ⟨r', w', w2', g1, g2, g3⟩ := ih q (upd wins y (if q = -6 then 0 else 1)) (upd wins2 y (if q = -6 then 0 else 1)) (by omega) (fun z h1 h2 => by
      by_cases hzy : z = y
      · subst hzy; rw [up_s, up_s]
      · rw [up_n hzy, up_n hzy]; exact hz z (by omega) h2) (fun h0 => by subst h0; rw [up_s])
    refine ⟨r', w', w2', ?_, ?_, g3⟩
    · rw [← g1]
      refine ev_inl ?_
      show b_Game_winningFirst_1 p wd r (nI y) wins = _
      unfold b_Game_winningFirst_1
      rw [if_neg (nI_pos (by omega)), wordsAll_ev, Option.bind_some, x1, Option.bind_some, if_pos (ix_t hy4 (by decide)), if_pos (ix_t hy4 (by decide)), cl_n (by omega)]
      by_cases h : q = -6
      · rw [if_pos h, if_pos h]; rfl
      · rw [if_neg h, if_neg h]; rfl
    · rw [← g2]
      refine ev_inl ?_
      show b_Model_turning_1 p wd2 r (nI y) wins2 = _
      unfold b_Model_turning_1
      rw [if_neg (nI_pos (by omega)), mleft_ev hw, Option.bind_some, y1, Option.bind_some, if_pos (ix_t hy4 (by decide)), if_pos (ix_t hy4 (by decide)), cl_n (by omega)]
      rcases hc with rfl | ⟨j, hj, rfl⟩
      · rw [if_neg n6_le, if_pos rfl]
      · rw [if_pos (nI_pos' (by omega)), if_neg (nI_n6 (by omega))]
theorem e_turning {wd wd2 : Nat → Int32} (hw : eqn 10 wd wd2) (wins wins2 : Nat → Int32) (p1 p2 : Int32) : ∃ r x x2, f_Strait_turning wd wins p1 p2 = some (r, x) ∧ f_Model_turning wd2 wins2 p1 p2 = some (r, x2) := by
  unfold f_Strait_turning f_Model_turning
  rw [in_within]
  by_cases c1 : f_Strait_within p1 0 30 = 0
  · rw [if_pos c1, if_pos c1]; exact ⟨_, _, _, rfl, rfl⟩
  rw [if_neg c1, if_neg c1]
  by_cases c2 : f_Strait_within p2 0 1 = 0
  · rw [if_pos c2, if_pos c2]; exact ⟨_, _, _, rfl, rfl⟩
  rw [if_neg c2, if_neg c2]
  obtain ⟨r, w', w2', g1, g2, g3⟩ := first_win hw p1 1024 (-6) wins wins2 (Nat.le_refl _) (fun z h1 h2 => by omega) (fun h => by omega)
  have g1' : f_Game_winningFirst wins wd p1 = some (r, w') := by
    unfold f_Game_winningFirst
    have : ev (fun s : Int32 × Int32 × (Nat → Int32) => b_Game_winningFirst_1 p1 wd s.1 s.2.1 s.2.2) ((-6 : Int32), (1023 : Int32), wins) = some (r, w') := g1
    rw [this]; rfl
  have g2' : ev (fun s : Int32 × Int32 × (Nat → Int32) => b_Model_turning_1 p1 wd2 s.1 s.2.1 s.2.2) ((-6 : Int32), (1023 : Int32), wins2) = some (r, w2') := g2
  rw [g1', g2', Option.bind_some, Option.bind_some]
  show ∃ r_1 x x2, (if p2 = 1 then _ else if r = -6 then _ else _) = _ ∧ (if p2 = 1 then _ else some (w2' 0, w2')) = _
  by_cases h : p2 = 1
  · rw [if_pos h, if_pos h]; exact ⟨_, _, _, rfl, rfl⟩
  · rw [if_neg h, if_neg h, g3]
    by_cases h2 : r = -6
    · rw [if_pos h2, if_pos h2]; exact ⟨_, _, _, rfl, rfl⟩
    · rw [if_neg h2, if_neg h2]; exact ⟨_, _, _, rfl, rfl⟩
