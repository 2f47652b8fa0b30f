/-! pure rows: year -/
theorem rem_n {a d : Nat} {D : Int32} (hD : D = nI d) (ha : a < 2 ^ 31) (h0 : 0 < d) (hd : d < 2 ^ 31) : nI a - nI a / D * D = nI (a % d) := by
  subst hD
  rw [pk_div ha h0 hd, pk_mul, i_eq]
  have h1 := Nat.div_mul_le_self a d
  have h2 : a % d = a - a / d * d := by
    have := Nat.mod_add_div a d
    rw [Nat.mul_comm d] at this
    omega
  rw [i_sub, nI_toInt ha, nI_toInt (by omega), nI_toInt (by omega)]
  · omega
  · rw [nI_toInt ha, nI_toInt (by omega)]; omega
  · rw [nI_toInt ha, nI_toInt (by omega)]; omega
theorem div_n {a d : Nat} {D : Int32} (hD : D = nI d) (ha : a < 2 ^ 31) (h0 : 0 < d) (hd : d < 2 ^ 31) : nI a / D = nI (a / d) := by
  subst hD; exact pk_div ha h0 hd
/-- the ACT that a number draws -/
def drA (y : Nat) : Nat × Nat × Nat :=
  if y % 8 = 4 then (1, y / 8 % 6, 0) else if y % 8 = 5 then (2, y / 8 % 6, 0) else if y % 8 = 6 then (3, y / 8 % 6, y / 8 / 6 % 6) else if y % 8 = 7 then (4, 0, 0) else (0, y / 8 % 10, 0)
theorem drA_ok (y : Nat) : okA (drA y).1 (drA y).2.1 (drA y).2.2 := by
  unfold drA okA
  by_cases h4 : y % 8 = 4
  · rw [if_pos h4]; exact Or.inr (Or.inl ⟨rfl, Nat.mod_lt _ (by decide)⟩)
  by_cases h5 : y % 8 = 5
  · rw [if_neg h4, if_pos h5]; exact Or.inr (Or.inr (Or.inl ⟨rfl, Nat.mod_lt _ (by decide)⟩))
  by_cases h6 : y % 8 = 6
  · rw [if_neg h4, if_neg h5, if_pos h6]; exact Or.inr (Or.inr (Or.inr (Or.inl ⟨rfl, Nat.mod_lt _ (by decide), Nat.mod_lt _ (by decide)⟩)))
  by_cases h7 : y % 8 = 7
  · rw [if_neg h4, if_neg h5, if_neg h6, if_pos h7]; exact Or.inr (Or.inr (Or.inr (Or.inr rfl)))
  · rw [if_neg h4, if_neg h5, if_neg h6, if_neg h7]; exact Or.inl ⟨rfl, Nat.mod_lt _ (by decide)⟩
theorem draw_ev {y : Nat} (hy : y < 2 ^ 31) (a b c : Int32) : f_Act_draw a b c (nI y) = some (nI (drA y).1, nI (drA y).2.1, nI (drA y).2.2) := by
  have hd : y / 8 < 2 ^ 31 := Nat.lt_of_le_of_lt (Nat.div_le_self _ _) hy
  have hd2 : y / 8 / 6 < 2 ^ 31 := Nat.lt_of_le_of_lt (Nat.div_le_self _ _) hd
  have hm : y % 8 < 8 := Nat.mod_lt _ (by decide)
  unfold f_Act_draw f_Act_set drA
  simp only [Option.bind_some]
  rw [rem_n (D := 8) (d := 8) rfl hy (by decide) (by decide), div_n (D := 8) (d := 8) rfl hy (by decide) (by decide), rem_n (D := 6) (d := 6) rfl hd (by decide) (by decide), div_n (D := 6) (d := 6) rfl hd (by decide) (by decide), rem_n (D := 6) (d := 6) rfl hd2 (by decide) (by decide), rem_n (D := 10) (d := 10) rfl hd (by decide) (by decide)]
  have e : ∀ j : Nat, j < 2 ^ 31 → (nI (y % 8) = nI j ↔ y % 8 = j) := fun j hj => nI_eq (by omega) hj
  have e4 : (nI (y % 8) = 4 ↔ y % 8 = 4) := e 4 (by decide)
  have e5 : (nI (y % 8) = 5 ↔ y % 8 = 5) := e 5 (by decide)
  have e6 : (nI (y % 8) = 6 ↔ y % 8 = 6) := e 6 (by decide)
  have e7 : (nI (y % 8) = 7 ↔ y % 8 = 7) := e 7 (by decide)
  simp only [e4, e5, e6, e7]
  by_cases h4 : y % 8 = 4
  · simp only [h4, if_true]; rfl
  by_cases h5 : y % 8 = 5
  · simp only [h5, if_true]; rfl
  by_cases h6 : y % 8 = 6
  · simp only [h6, if_true]; rfl
  by_cases h7 : y % 8 = 7
  · simp only [h7, if_true]; rfl
  · simp only [h4, h5, h6, h7, if_false]; rfl
def nxt (y : Nat) : Nat := (75 * y + 74) % 65537
theorem nxt_lt (y : Nat) : nxt y < 65537 := Nat.mod_lt _ (by decide)
theorem nxt_ev {y : Nat} (hy : y < 65537) : (75 : Int32) * nI y + 74 - ((75 : Int32) * nI y + 74) / 65537 * 65537 = nI (nxt y) := by
  rw [show (75 : Int32) * nI y + 74 = nI (75 * y + 74) by rw [show (75 : Int32) = nI 75 from rfl, show (74 : Int32) = nI 74 from rfl, pk_mul, nI_add]]
  exact rem_n (D := 65537) (d := 65537) rfl (by omega) (by decide) (by decide)
/-- a year of d ACTS drawn behind y -/
noncomputable def yrS (mt wd : Nat → Int32) : Nat → Nat → SS → SS
  | 0, _, z => z
  | d + 1, y, z => yrS mt wd d (nxt y) (if whyS z mt wd (drA (nxt y)).1 (drA (nxt y)).2.1 (drA (nxt y)).2.2 = 0 then perS z mt wd (drA (nxt y)).1 (drA (nxt y)).2.1 (drA (nxt y)).2.2 else z)
theorem yr_ev {mt wd : Nat → Int32} {m : Nat} (hm : m ≤ 99) : ∀ d i y (z : SS) kd on ot, i + d = m → y < 65537 → ∃ kd' on' ot', ev (fun s : Int32 × Int32 × Int32 × Int32 × Int32 × (Nat → Int32) × (Nat → Int32) × (Nat → Int32) × Int32 × Int32 × Int32 => b_Trial_runYear_1 (nI m) mt wd s.1 s.2.1 s.2.2.1 s.2.2.2.1 s.2.2.2.2.1 s.2.2.2.2.2.1 s.2.2.2.2.2.2.1 s.2.2.2.2.2.2.2.1 s.2.2.2.2.2.2.2.2.1 s.2.2.2.2.2.2.2.2.2.1 s.2.2.2.2.2.2.2.2.2.2) (nI y, nI i, z.1, z.2.1, z.2.2.1, z.2.2.2.1, z.2.2.2.2.1, z.2.2.2.2.2, kd, on, ot) = some ((yrS mt wd d y z).1, (yrS mt wd d y z).2.1, (yrS mt wd d y z).2.2.1, (yrS mt wd d y z).2.2.2.1, (yrS mt wd d y z).2.2.2.2.1, (yrS mt wd d y z).2.2.2.2.2, kd', on', ot') := by
  intro d
  induction d with
  | zero =>
    intro i y z kd on ot h1 hy
    have : i = m := by omega
    subst this
    refine ⟨kd, on, ot, ev_inr ?_⟩
    show b_Trial_runYear_1 (nI i) mt wd (nI y) (nI i) _ _ _ _ _ _ _ _ _ = _
    unfold b_Trial_runYear_1
    rw [if_pos (nI_le (Nat.le_refl _) (by omega))]
    rfl
  | succ d ih =>
    intro i y z kd on ot h1 hy
    have hrep : repA (drA (nxt y)).1 (drA (nxt y)).2.1 (drA (nxt y)).2.2 (nI (drA (nxt y)).1) (nI (drA (nxt y)).2.1) (nI (drA (nxt y)).2.2) := ⟨drA_ok _, rfl, fun _ => rfl, fun _ => rfl⟩
    rw [yrS]
    by_cases h2 : whyS z mt wd (drA (nxt y)).1 (drA (nxt y)).2.1 (drA (nxt y)).2.2 = 0
    · rw [if_pos h2]
      obtain ⟨kd', on', ot', hx⟩ := ih (i + 1) (nxt y) (perS z mt wd (drA (nxt y)).1 (drA (nxt y)).2.1 (drA (nxt y)).2.2) (nI (drA (nxt y)).1) (nI (drA (nxt y)).2.1) (nI (drA (nxt y)).2.2) (by omega) (nxt_lt y)
      refine ⟨kd', on', ot', ?_⟩
      rw [← hx]
      refine ev_inl ?_
      show b_Trial_runYear_1 (nI m) mt wd (nI y) (nI i) _ _ _ _ _ _ _ _ _ = _
      unfold b_Trial_runYear_1
      rw [if_neg (nI_ge (by omega) (by omega)), nxt_ev hy]
      simp only [draw_ev (Nat.lt_trans (nxt_lt y) (by decide : 65537 < 2 ^ 31)), Option.bind_some, why_ev z mt wd hrep, if_pos h2, per_ev z mt wd hrep h2, nI_1]
    · rw [if_neg h2]
      obtain ⟨kd', on', ot', hx⟩ := ih (i + 1) (nxt y) z (nI (drA (nxt y)).1) (nI (drA (nxt y)).2.1) (nI (drA (nxt y)).2.2) (by omega) (nxt_lt y)
      refine ⟨kd', on', ot', ?_⟩
      rw [← hx]
      refine ev_inl ?_
      show b_Trial_runYear_1 (nI m) mt wd (nI y) (nI i) _ _ _ _ _ _ _ _ _ = _
      unfold b_Trial_runYear_1
      rw [if_neg (nI_ge (by omega) (by omega)), nxt_ev hy]
      simp only [draw_ev (Nat.lt_trans (nxt_lt y) (by decide : 65537 < 2 ^ 31)), Option.bind_some, why_ev z mt wd hrep, if_neg h2, nI_1]
/-- one ACT of the reference's year -/
theorem myear_step (now mt wd : Nat → Int32) {m i y : Nat} (hm : m ≤ 99) (hi : i < m) (hy : y < 65537) (rm sa re : Int32) : b_Model_year_1 (nI m) mt wd (nI y) (nI i) now rm sa re = (mAct now mt wd rm sa (drA (nxt y)).1 (drA (nxt y)).2.1 (drA (nxt y)).2.2).bind (fun x => some (.inl (nI (nxt y), nI (i + 1), x.2.1, x.2.2.1, x.2.2.2, x.1))) := by
  unfold b_Model_year_1
  rw [if_neg (nI_ge hi (by omega)), nxt_ev hy, nI_1]
  have hn := nxt_lt y
  generalize nxt y = q at hn
  have hq : q < 2 ^ 31 := by omega
  have hd : q / 8 < 2 ^ 31 := Nat.lt_of_le_of_lt (Nat.div_le_self _ _) hq
  have hd2 : q / 8 / 6 < 2 ^ 31 := Nat.lt_of_le_of_lt (Nat.div_le_self _ _) hd
  have h8 : q % 8 < 8 := Nat.mod_lt _ (by decide)
  rw [rem_n (D := 8) (d := 8) rfl hq (by decide) (by decide), div_n (D := 8) (d := 8) rfl hq (by decide) (by decide), rem_n (D := 6) (d := 6) rfl hd (by decide) (by decide), div_n (D := 6) (d := 6) rfl hd (by decide) (by decide), rem_n (D := 6) (d := 6) rfl hd2 (by decide) (by decide), rem_n (D := 10) (d := 10) rfl hd (by decide) (by decide)]
  have e : ∀ j : Nat, j < 2 ^ 31 → (nI (q % 8) = nI j ↔ q % 8 = j) := fun j hj => nI_eq (by omega) hj
  have e4 : (nI (q % 8) = 4 ↔ q % 8 = 4) := e 4 (by decide)
  have e5 : (nI (q % 8) = 5 ↔ q % 8 = 5) := e 5 (by decide)
  have e6 : (nI (q % 8) = 6 ↔ q % 8 = 6) := e 6 (by decide)
  have el : ((4 : Int32) ≤ nI (q % 8) ↔ 4 ≤ q % 8) := nI_leI (a := 4) (by decide) (by omega)
  simp only [e4, e5, e6, el]
  unfold drA mAct
  by_cases h4 : q % 8 = 4
  · simp only [h4, if_true, show (4 ≤ 4) = True from eq_true (by decide), if_neg (show ¬ (1 : Nat) = 0 by decide), Option.bind_map]; rfl
  by_cases h5 : q % 8 = 5
  · simp only [h5, if_true, show (4 ≤ 5) = True from eq_true (by decide), if_neg (show ¬ (5 : Nat) = 4 by decide), if_neg (show ¬ (2 : Nat) = 0 by decide), if_neg (show ¬ (2 : Nat) = 1 by decide), Option.bind_map]; rfl
  by_cases h6 : q % 8 = 6
  · simp only [h6, if_true, show (4 ≤ 6) = True from eq_true (by decide), if_neg (show ¬ (6 : Nat) = 4 by decide), if_neg (show ¬ (6 : Nat) = 5 by decide), if_neg (show ¬ (3 : Nat) = 0 by decide), if_neg (show ¬ (3 : Nat) = 1 by decide), if_neg (show ¬ (3 : Nat) = 2 by decide), Option.bind_map]; rfl
  by_cases h7 : q % 8 = 7
  · simp only [h7, if_true, show (4 ≤ 7) = True from eq_true (by decide), if_neg (show ¬ (7 : Nat) = 4 by decide), if_neg (show ¬ (7 : Nat) = 5 by decide), if_neg (show ¬ (7 : Nat) = 6 by decide), if_neg (show ¬ (4 : Nat) = 0 by decide), if_neg (show ¬ (4 : Nat) = 1 by decide), if_neg (show ¬ (4 : Nat) = 2 by decide), if_neg (show ¬ (4 : Nat) = 3 by decide), Option.bind_map]; rfl
  · simp only [h4, h5, h6, h7, if_false, show (4 ≤ q % 8) = False from eq_false (by omega), if_true]
theorem myr_ev {mt mt2 wd wd2 : Nat → Int32} {m : Nat} (hm9 : m ≤ 99) (hwd : bnd 10 wd 1 9) (hm : eqn 6 mt mt2) (hw : eqn 10 wd wd2) : ∀ d i y (z : SS) now rm sa re, i + d = m → y < 65537 → rS z now → iS z mt → ∃ now' rm' sa' re', ev (fun s : Int32 × Int32 × (Nat → Int32) × Int32 × Int32 × Int32 => b_Model_year_1 (nI m) mt2 wd2 s.1 s.2.1 s.2.2.1 s.2.2.2.1 s.2.2.2.2.1 s.2.2.2.2.2) (nI y, nI i, now, rm, sa, re) = some (now', rm', sa', re') ∧ rS (yrS mt wd d y z) now' := by
  intro d
  induction d with
  | zero =>
    intro i y z now rm sa re h1 hy hr hi
    have : i = m := by omega
    subst this
    refine ⟨now, rm, sa, re, ev_inr ?_, hr⟩
    show b_Model_year_1 (nI i) mt2 wd2 (nI y) (nI i) _ _ _ _ = _
    unfold b_Model_year_1
    rw [if_pos (nI_le (Nat.le_refl _) (by omega))]
  | succ d ih =>
    intro i y z now rm sa re h1 hy hr hi
    have ok := drA_ok (nxt y)
    obtain ⟨now1, x1, x2⟩ := mAct_ev (wd := wd) (wd2 := wd2) ok hr hi hm hw rm sa
    have hs := myear_step now mt2 wd2 hm9 (show i < m by omega) hy rm sa re
    rw [x1, Option.bind_some] at hs
    rw [yrS]
    by_cases h2 : whyS z mt wd (drA (nxt y)).1 (drA (nxt y)).2.1 (drA (nxt y)).2.2 = 0
    · rw [if_pos h2]
      rw [if_pos h2] at hs
      obtain ⟨now', rm', sa', re', g1, g2⟩ := ih (i + 1) (nxt y) _ now1 _ _ 0 (by omega) (nxt_lt y) (x2 h2) (per_i ok hi hwd h2)
      refine ⟨now', rm', sa', re', ?_, g2⟩
      rw [← g1]
      exact ev_inl hs
    · rw [if_neg h2]
      rw [if_neg h2] at hs
      obtain ⟨now', rm', sa', re', g1, g2⟩ := ih (i + 1) (nxt y) z now rm sa _ (by omega) (nxt_lt y) hr hi
      refine ⟨now', rm', sa', re', ?_, g2⟩
      rw [← g1]
      exact ev_inl hs
def moS (t : Int32) (md : Nat → Int32) : Nat → Int32
  | 0 => 0
  | k + 1 => if thr t k = true then moS t md k + md k else moS t md k
theorem mo_ev (t : Int32) (md : Nat → Int32) : f_Sea_allMoods t md = some (moS t md 6) := by
  unfold f_Sea_allMoods
  rw [ev_cnt (s0 := ((0 : Int32), (0 : Int32))) (fun k => (moS t md k, nI k)) 6 (r := moS t md 6) rfl (fun k hk => by
    show b_Sea_allMoods_1 t md (moS t md k) (nI k) = _
    unfold b_Sea_allMoods_1
    rw [if_neg (lge (L := 6) rfl hk (by decide)), there_thr t hk]
    simp only [ix_t hk (by decide), if_true, cl_n (show k < 2 ^ 31 by omega), nI_1, ite10, moS]
    by_cases h1 : thr t k = true
    · simp [h1]
    · simp [h1]) (by
    show b_Sea_allMoods_1 t md _ (nI 6) = _
    unfold b_Sea_allMoods_1
    rw [if_pos (lle (L := 6) (N := 6) rfl)])]
  rfl
theorem mmo_ev {t mon lost : Int32} {hd sd md now : Nat → Int32} (hr : rSea t mon lost hd sd md now) : ev (fun s : Int32 × Int32 => b_Model_year_2 now s.1 s.2) ((0 : Int32), (0 : Int32)) = some (moS t md 6) := by
  refine ev_cnt (fun k => (moS t md k, nI k)) 6 rfl (fun k hk => ?_) ?_
  · show b_Model_year_2 now (moS t md k) (nI k) = _
    obtain ⟨g1, g2, g3⟩ := hr.1 k hk
    unfold b_Model_year_2
    rw [if_neg (lge (L := 6) rfl hk (by decide)), mst hr hk, show (12 : Int32) + nI k = nI (12 + k) from nI_add 12 k]
    simp only [ix_t (show 12 + k < 21 by omega) (by decide), if_true, cl_n (show 12 + k < 2 ^ 31 by omega), nI_1, ite10, moS, add0, g3]
    by_cases h1 : thr t k = true
    · simp [h1]
    · simp [h1]
  · show b_Model_year_2 now _ (nI 6) = _
    unfold b_Model_year_2
    rw [if_pos (lle (L := 6) (N := 6) rfl)]
theorem e_year {t mon lost : Int32} {hd sd md mt mt2 wd wd2 book : Nat → Int32} (hwd : bnd 10 wd 1 9) (hr : rSea t mon lost hd sd md book) (hi : iSea t mon hd sd md mt) (hm : eqn 6 mt mt2) (hw : eqn 10 wd wd2) (t0 mon0 lost0 : Int32) (hd0 sd0 md0 mt0 : Nat → Int32) (kd on ot : Int32) (now : Nat → Int32) (a1 a2 a3 : Int32) (p1 p2 p3 : Int32) : ∃ r x now' b1 b2 b3, f_Strait_year t mon lost hd sd md mt wd t0 mon0 lost0 hd0 sd0 md0 mt0 kd on ot p1 p2 p3 = some (r, x) ∧ f_Model_year book now mt2 wd2 a1 a2 a3 p1 p2 p3 = some (r, now', b1, b2, b3) := by
  have c1 := win p1 (A := 0) (B := 9999) 0 9999 rfl rfl (by decide) (by decide)
  have c2 := win p2 (A := 1) (B := 99) 1 99 rfl rfl (by decide) (by decide)
  have c3 := win p3 (A := 0) (B := 2) 0 2 rfl rfl (by decide) (by decide)
  unfold f_Strait_year f_Model_year
  rw [in_within]
  rcases c1 with c1 | ⟨c1, y, hy0, hy, rfl⟩
  · exact ⟨_, _, _, _, _, _, if_pos c1, if_pos c1⟩
  have nc1 : ¬ f_Strait_within (nI y) 0 9999 = 0 := by rw [c1]; exact one_ne
  rw [if_neg nc1, if_neg nc1]
  rcases c2 with c2 | ⟨c2, m, hm0, hm1, rfl⟩
  · exact ⟨_, _, _, _, _, _, if_pos c2, if_pos c2⟩
  have nc2 : ¬ f_Strait_within (nI m) 1 99 = 0 := by rw [c2]; exact one_ne
  rw [if_neg nc2, if_neg nc2]
  rcases c3 with c3 | ⟨c3, q, hq0, hq, rfl⟩
  · exact ⟨_, _, _, _, _, _, if_pos c3, if_pos c3⟩
  have nc3 : ¬ f_Strait_within (nI q) 0 2 = 0 := by rw [c3]; exact one_ne
  rw [if_neg nc3, if_neg nc3]
  have hi' := hi.cp hd0 sd0 md0 mt0
  have hr' := hr.cp hd0 sd0 md0
  have hm' : eqn 6 (cp 6 mt mt0) mt2 := fun k hk => by rw [cp_lt _ _ hk]; exact hm k hk
  obtain ⟨now1, e1, e2⟩ := asNow_ev book now a1 a2
  obtain ⟨kd', on', ot', x1⟩ := yr_ev (mt := cp 6 mt mt0) (wd := wd) hm1 m 0 y (t, mon, lost, cp 6 hd hd0, cp 6 sd sd0, cp 6 md md0) kd on ot (by omega) (by omega)
  obtain ⟨now', rm', sa', re', y1, y2⟩ := myr_ev (mt := cp 6 mt mt0) (mt2 := mt2) (wd := wd) (wd2 := wd2) hm1 hwd hm' hw m 0 y (t, mon, lost, cp 6 hd hd0, cp 6 sd sd0, cp 6 md md0) now1 0 63 a3 (by omega) (by omega) (hr'.of e2) hi'
  generalize yrS (cp 6 mt mt0) wd m y (t, mon, lost, cp 6 hd hd0, cp 6 sd sd0, cp 6 md md0) = z at x1 y2
  have x2 : f_Trial_runYear t0 mon0 lost0 hd0 sd0 md0 mt0 kd on ot t mon lost hd sd md mt wd (nI y) (nI m) = some (z.1, z.2.1, z.2.2.1, z.2.2.2.1, z.2.2.2.2.1, z.2.2.2.2.2, cp 6 mt mt0, kd', on', ot') := by
    unfold f_Trial_runYear
    rw [copy_ev, Option.bind_some]
    show (ev _ (nI y, nI 0, _)).bind _ = _
    rw [x1]
    rfl
  have y3 : ev (fun s : Int32 × Int32 × (Nat → Int32) × Int32 × Int32 × Int32 => b_Model_year_1 (nI m) mt2 wd2 s.1 s.2.1 s.2.2.1 s.2.2.2.1 s.2.2.2.2.1 s.2.2.2.2.2) (nI y, (0 : Int32), now1, 0, 63, a3) = some (now', rm', sa', re') := y1
  simp only [x2, e1, Option.bind_some, y3, hs_ev, mo_ev, mhs_ev y2, mmo_ev y2]
  rcases (show q = 0 ∨ q = 1 ∨ q = 2 by omega) with rfl | rfl | rfl
  · rw [if_pos (by decide : nI 0 = 0), if_pos (by decide : nI 0 = 0)]
    exact ⟨_, _, _, _, _, _, rfl, rfl⟩
  · rw [if_neg (by decide : ¬ nI 1 = 0), if_neg (by decide : ¬ nI 1 = 0), if_pos (by decide : nI 1 = 1), if_pos (by decide : nI 1 = 1), show ((19 : Int32)).toNatClampNeg = 19 from rfl, y2.2.2.1]
    exact ⟨_, _, _, _, _, _, rfl, rfl⟩
  · rw [if_neg (by decide : ¬ nI 2 = 0), if_neg (by decide : ¬ nI 2 = 0), if_neg (by decide : ¬ nI 2 = 1), if_neg (by decide : ¬ nI 2 = 1)]
    exact ⟨_, _, _, _, _, _, rfl, rfl⟩
