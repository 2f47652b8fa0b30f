/-! pure rows: bring, the search -/
theorem search_ev {t mon lost : Int32} {hd sd md mt mt2 wd wd2 now : Nat → Int32} (hr : rSea t mon lost hd sd md now) (hm : eqn 6 mt mt2) (hw : eqn 10 wd wd2) (hwd : bnd 10 wd 1 9) {h1 h3 : Nat} (k1 : h1 < 6) (k3 : h3 < 6) (T1 : thr t h1 = true) (T3 : thr t h3 = true) (p2 p4 p5 : Int32) (a b : Int32) : ∀ d i st fi qu re qu2 n, i + d = 400 → bI st fi qu re qu2 i n → ∃ st' fi' qu' n' fe fc re' qu2', ev (fun z : Int32 × (Nat → Int32) × (Nat → Int32) × (Nat → Int32) × Int32 => b_Bringing_search_1 p2 p4 (-6) (-6) (if lis t mon hd mt h1 = true then 1 else 0) (if lis t mon hd mt h3 = true then 1 else 0) wd z.1 z.2.1 z.2.2.1 z.2.2.2.1 z.2.2.2.2) (nI i, st, fi, qu, nI n) = some (st', fi', qu', n', fe, fc) ∧ ev (fun z : Int32 × Int32 × (Nat → Int32) × (Nat → Int32) => b_Model_bring_2 (nI h1) p2 (nI h3) p4 p5 now a b mt2 wd2 z.1 z.2.1 z.2.2.1 z.2.2.2) (nI n, nI i, re, qu2) = some ((if p5 = 0 then fe else fc), now, a, b, re', qu2') := by
  intro d
  induction d with
  | zero =>
    intro i st fi qu re qu2 n hi hI
    have h4 : i = 400 := by omega
    have hn : n ≤ i := by rw [h4, ← hI.2.2]; exact cN_le _ 400
    refine ⟨st, fi, qu, nI n, -6, -6, re, qu2, ev_inr ?_, ev_inr ?_⟩
    · show b_Bringing_search_1 p2 p4 _ _ _ _ wd (nI i) st fi qu (nI n) = _
      unfold b_Bringing_search_1
      rw [if_pos (nI_le hn (by omega))]
    · show b_Model_bring_2 _ p2 _ p4 p5 now a b mt2 wd2 (nI n) (nI i) re qu2 = _
      unfold b_Model_bring_2
      rw [if_pos (nI_le hn (by omega))]
      split <;> rfl
  | succ d ih =>
    intro i st fi qu re qu2 n hi hI
    have hi4 : i < 400 := by omega
    have hn4 : n ≤ 400 := by rw [← hI.2.2]; exact cN_le _ 400
    by_cases hn : n ≤ i
    · refine ⟨st, fi, qu, nI n, -6, -6, re, qu2, ev_inr ?_, ev_inr ?_⟩
      · show b_Bringing_search_1 p2 p4 _ _ _ _ wd (nI i) st fi qu (nI n) = _
        unfold b_Bringing_search_1
        rw [if_pos (nI_le hn (by omega))]
      · show b_Model_bring_2 _ p2 _ p4 p5 now a b mt2 wd2 (nI n) (nI i) re qu2 = _
        unfold b_Model_bring_2
        rw [if_pos (nI_le hn (by omega))]
        split <;> rfl
    · obtain ⟨q, q1, q2, q3, q4⟩ := hI.2.1 i (by omega)
      have hI' : bI st fi qu re qu2 (i + 1) n := ⟨fun p hp => (hI.1 p hp).up, hI.2⟩
      obtain ⟨s, s1, s2, s3⟩ : ∃ s, s ≤ i ∧ st q = nI s ∧ bS s (fi q) (re q) := by
        rcases hI.1 q q1 with z | ⟨s, z1, z2, z3⟩
        · exact absurd z.1 q4
        · exact ⟨s, z1, z2, z3⟩
      have d20 : nI q / 20 = nI (q / 20) := div_n (D := 20) (d := 20) rfl (by omega) (by decide) (by decide)
      have m20 : nI q - nI q / 20 * 20 = nI (q % 20) := rem_n (D := 20) (d := 20) rfl (by omega) (by decide) (by decide)
      have d200 : nI q / 200 = nI (q / 200) := div_n (D := 200) (d := 200) rfl (by omega) (by decide) (by decide)
      have d10 : nI (q / 20) / 10 = nI (q / 200) := by
        rw [div_n (D := 10) (d := 10) rfl (by omega) (by decide) (by decide), Nat.div_div_eq_div_mul]
      have d10' : nI (q % 20) / 10 = nI (q % 20 / 10) := div_n (D := 10) (d := 10) rfl (by omega) (by decide) (by decide)
      have hin : f_Strait_within (nI q) 0 399 = 1 := win1 (a := 0) (b := 399) (by omega) (by omega) (by decide)
      have iq := ix_t q1 (show 400 < 2 ^ 31 by decide)
      have cq := cl_n (show q < 2 ^ 31 by omega)
      have hX : b_Bringing_search_1 p2 p4 (-6) (-6) (if lis t mon hd mt h1 = true then 1 else 0) (if lis t mon hd mt h3 = true then 1 else 0) wd (nI i) st fi qu (nI n) = (if nI (q / 200) = p2 ∧ nI (q % 20 / 10) = p4 then some (.inr (st, fi, qu, nI n, st q, fi q)) else (f_Bringing_goOnFrom st fi qu (nI n) (if lis t mon hd mt h1 = true then 1 else 0) (if lis t mon hd mt h3 = true then 1 else 0) wd (nI q) (nI (s + 1)) (fi q)).bind (fun u => some (.inl (nI (i + 1), u.1, u.2.1, u.2.2.1, u.2.2.2)))) := by
        unfold b_Bringing_search_1
        rw [if_neg (nI_ge (by omega) (by omega)), if_neg (lge (L := 400) (N := 400) rfl hi4 (by decide)), if_pos (ix_t hi4 (by decide)), cl_n (show i < 2 ^ 31 by omega), q2, hin, if_neg one_ne, m20, d20, d10, d10', if_pos iq, if_pos iq, if_pos iq, if_pos iq, cq, s2, nI_1, nI_1]
        by_cases c1 : nI (q / 200) = p2
        · rw [if_pos c1]
          by_cases c2 : nI (q % 20 / 10) = p4
          · rw [if_pos c2, if_pos (show nI (q / 200) = p2 ∧ nI (q % 20 / 10) = p4 from ⟨c1, c2⟩)]
          · rw [if_neg c2, if_neg (show ¬ (nI (q / 200) = p2 ∧ nI (q % 20 / 10) = p4) from fun z => c2 z.2)]
        · rw [if_neg c1, if_neg (show ¬ (nI (q / 200) = p2 ∧ nI (q % 20 / 10) = p4) from fun z => c1 z.1)]
      have hY : b_Model_bring_2 (nI h1) p2 (nI h3) p4 p5 now a b mt2 wd2 (nI n) (nI i) re qu2 = (if nI (q / 200) = p2 ∧ nI (q % 20 / 10) = p4 then (if p5 = 0 then some (.inr (re q / 10, now, a, b, re, qu2)) else if (10 : Int32) ≤ re q then some (.inr (re q - re q / 10 * 10, now, a, b, re, qu2)) else some (.inr (-6, now, a, b, re, qu2))) else (ev (fun z : Int32 × Int32 × (Nat → Int32) × (Nat → Int32) => b_Model_bring_3 (nI h1) (nI h3) (nI q) (re q) now mt2 wd2 z.1 z.2.1 z.2.2.1 z.2.2.2) (nI n, (0 : Int32), re, qu2)).bind (fun u => some (.inl (u.1, nI (i + 1), u.2.1, u.2.2)))) := by
        unfold b_Model_bring_2
        rw [if_neg (nI_ge (by omega) (by omega)), if_pos (ix_t hi4 (by decide)), cl_n (show i < 2 ^ 31 by omega), q3, if_pos iq, m20, d200, d10', cq, nI_1]
        by_cases c1 : nI (q / 200) = p2
        · rw [if_pos c1]
          by_cases c2 : nI (q % 20 / 10) = p4
          · rw [if_pos c2, if_pos (show nI (q / 200) = p2 ∧ nI (q % 20 / 10) = p4 from ⟨c1, c2⟩)]
          · rw [if_neg c2, if_neg (show ¬ (nI (q / 200) = p2 ∧ nI (q % 20 / 10) = p4) from fun z => c2 z.2)]
        · rw [if_neg c1, if_neg (show ¬ (nI (q / 200) = p2 ∧ nI (q % 20 / 10) = p4) from fun z => c1 z.1)]
      by_cases hit : nI (q / 200) = p2 ∧ nI (q % 20 / 10) = p4
      · rw [if_pos hit] at hX hY
        refine ⟨st, fi, qu, nI n, st q, fi q, re, qu2, ev_inr hX, ev_inr ?_⟩
        show b_Model_bring_2 (nI h1) p2 (nI h3) p4 p5 now a b mt2 wd2 (nI n) (nI i) re qu2 = _
        rw [hY]
        rcases s3 with ⟨z1, z2, z3⟩ | ⟨z1, f, f1, z2, z3⟩
        · subst z1
          rw [s2, z2, z3]
          by_cases h5 : p5 = 0
          · rw [if_pos h5, if_pos h5]; rfl
          · rw [if_neg h5, if_neg h5, if_neg (by decide)]
        · rw [s2, z2, z3]
          by_cases h5 : p5 = 0
          · rw [if_pos h5, if_pos h5, div_n (D := 10) (d := 10) rfl (by omega) (by decide) (by decide), show (10 * s + f) / 10 = s by omega]
          · rw [if_neg h5, if_neg h5, if_pos (show (10 : Int32) ≤ nI (10 * s + f) from nI_le (a := 10) (by omega) (by omega)), rem_n (D := 10) (d := 10) rfl (by omega) (by decide) (by decide), show (10 * s + f) % 10 = f by omega]
      · rw [if_neg hit] at hX hY
        obtain ⟨st', fi', qu', re', qu2', n', i1, i2, i3⟩ := go_ev hr hm hw hwd k1 k3 T1 T3 q1 (show i + 1 ≤ 1000 by omega) (show s + 1 ≤ i + 1 by omega) s3 10 0 st fi qu re qu2 n (by omega) hI'
        have i1' : f_Bringing_goOnFrom st fi qu (nI n) (if lis t mon hd mt h1 = true then 1 else 0) (if lis t mon hd mt h3 = true then 1 else 0) wd (nI q) (nI (s + 1)) (fi q) = some (st', fi', qu', nI n') := by
          unfold f_Bringing_goOnFrom
          have : ev (fun z : Int32 × (Nat → Int32) × (Nat → Int32) × (Nat → Int32) × Int32 => b_Bringing_goOnFrom_1 (nI q) (nI (s + 1)) (fi q) (if lis t mon hd mt h1 = true then 1 else 0) (if lis t mon hd mt h3 = true then 1 else 0) wd z.1 z.2.1 z.2.2.1 z.2.2.2.1 z.2.2.2.2) ((0 : Int32), st, fi, qu, nI n) = some (st', fi', qu', nI n') := i1
          rw [this]; rfl
        have i2' : ev (fun z : Int32 × Int32 × (Nat → Int32) × (Nat → Int32) => b_Model_bring_3 (nI h1) (nI h3) (nI q) (re q) now mt2 wd2 z.1 z.2.1 z.2.2.1 z.2.2.2) (nI n, (0 : Int32), re, qu2) = some (nI n', re', qu2') := i2
        rw [i1'] at hX
        rw [i2'] at hY
        obtain ⟨st2, fi2, qu3, n2, fe, fc, re2, qu4, j1, j2⟩ := ih (i + 1) st' fi' qu' re' qu2' n' (by omega) i3
        refine ⟨st2, fi2, qu3, n2, fe, fc, re2, qu4, ?_, ?_⟩
        · rw [← j1]; exact ev_inl hX
        · rw [← j2]; exact ev_inl hY
theorem mfill_ev (re : Nat → Int32) : ev (fun s : Int32 × (Nat → Int32) => b_Model_bring_1 s.1 s.2) ((0 : Int32), re) = some (cp 400 (fun _ => -1) re) := by
  refine ev_cnt (fun k => (nI k, cp k (fun _ => -1) re)) 400 (by simp only [cp_0]; rfl) (fun k hk => ?_) ?_
  · show b_Model_bring_1 (nI k) (cp k (fun _ => -1) re) = _
    unfold b_Model_bring_1
    rw [if_neg (lge (L := 400) rfl hk (by decide)), if_pos (ix_t hk (by decide)), cl_n (by omega), nI_1]
    exact congrArg (fun g => some (Sum.inl (nI (k + 1), g))) (cp_up (n := 0) (fun _ => (-1 : Int32)) re)
  · show b_Model_bring_1 (nI 400) _ = _
    unfold b_Model_bring_1
    rw [if_pos (lle (L := 400) (N := 400) rfl)]
theorem cN_none {F : Nat → Bool} : ∀ K, (∀ j, j < K → F j = false) → cN F K = 0 := by
  intro K
  induction K with
  | zero => intro _; rfl
  | succ K ih => intro h; rw [cN, if_neg (by rw [h K (by omega)]; decide), ih (fun j hj => h j (by omega))]
theorem place_ev {t mon : Int32} {hd sd md mt : Nat → Int32} (hi : iSea t mon hd sd md mt) {h : Nat} (hh : h < 6) (hT : thr t h = true) : ∃ v, v < 20 ∧ f_Bringing_placeOf t sd md (nI h) = some (nI v) ∧ (10 : Int32) * sd h + md h = nI v := by
  obtain ⟨x, _, x1, x2⟩ := hi.2.2.2.1 h hh
  obtain ⟨y, _, y1, y2⟩ := hi.2.2.2.2.1 h hh
  refine ⟨10 * x + y, by omega, ?_, ?_⟩
  · unfold f_Bringing_placeOf
    rw [there_thr t hh, if_pos hT, if_neg one_ne, if_pos (ix_t hh (by decide)), if_pos (ix_t hh (by decide)), cl_n (by omega), x2, y2, show (10 : Int32) = nI 10 from rfl, pk_mul, nI_add, Nat.mul_comm]
  · rw [x2, y2, show (10 : Int32) = nI 10 from rfl, pk_mul, nI_add]
theorem there_in {t p : Int32} (h : ¬ f_Sea_isThere t p = 0) : ∃ k, k < 6 ∧ p = nI k ∧ thr t k = true := by
  rcases win p (A := 0) (B := 5) 0 5 rfl rfl (by decide) (by decide) with c | ⟨c, k, _, hk, rfl⟩
  · exact absurd (there_out c) h
  · refine ⟨k, by omega, rfl, ?_⟩
    rw [there_thr t (show k < 6 by omega)] at h
    by_cases hT : thr t k = true
    · exact hT
    · exact absurd (if_neg hT) h
theorem e_bring {t mon lost : Int32} {hd sd md mt mt2 wd wd2 book : Nat → Int32} (hwd : bnd 10 wd 1 9) (hr : rSea t mon lost hd sd md book) (hi : iSea t mon hd sd md mt) (hm : eqn 6 mt mt2) (hw : eqn 10 wd wd2) (st0 fi0 qu0 : Nat → Int32) (sz ol tl fe0 fc0 : Int32) (now re0 qu20 : Nat → Int32) (a1 a2 : Int32) (p1 p2 p3 p4 p5 : Int32) : ∃ r x now' b1 b2 re' qu', f_Strait_bring t mon hd sd md mt wd st0 fi0 qu0 sz ol tl fe0 fc0 p1 p2 p3 p4 p5 = some (r, x) ∧ f_Model_bring book now mt2 wd2 a1 a2 re0 qu20 p1 p2 p3 p4 p5 = some (r, now', b1, b2, re', qu') := by
  unfold f_Strait_bring f_Model_bring
  rw [mthere, mthere, hr.2.1, in_within]
  by_cases hT1 : f_Sea_isThere t p1 = 0
  · rw [if_pos hT1, if_pos hT1]; exact ⟨_, _, _, _, _, _, _, rfl, rfl⟩
  rw [if_neg hT1, if_neg hT1]
  by_cases hT3 : f_Sea_isThere t p3 = 0
  · rw [if_pos hT3, if_pos hT3]; exact ⟨_, _, _, _, _, _, _, rfl, rfl⟩
  rw [if_neg hT3, if_neg hT3]
  by_cases h13 : p1 = p3
  · rw [if_pos h13, if_pos h13]; exact ⟨_, _, _, _, _, _, _, rfl, rfl⟩
  rw [if_neg h13, if_neg h13]
  by_cases c2 : f_Strait_within p2 0 1 = 0
  · rw [if_pos c2, if_pos c2]; exact ⟨_, _, _, _, _, _, _, rfl, rfl⟩
  rw [if_neg c2, if_neg c2]
  by_cases c4 : f_Strait_within p4 0 1 = 0
  · rw [if_pos c4, if_pos c4]; exact ⟨_, _, _, _, _, _, _, rfl, rfl⟩
  rw [if_neg c4, if_neg c4]
  by_cases c5 : f_Strait_within p5 0 1 = 0
  · rw [if_pos c5, if_pos c5]; exact ⟨_, _, _, _, _, _, _, rfl, rfl⟩
  rw [if_neg c5, if_neg c5]
  obtain ⟨h1, k1, rfl, T1⟩ := there_in hT1
  obtain ⟨h3, k3, rfl, T3⟩ := there_in hT3
  obtain ⟨now', e1, e2⟩ := asNow_ev book now a1 a2
  have hr' := hr.of e2
  obtain ⟨v1, l1, pv1, pw1⟩ := place_ev hi k1 T1
  obtain ⟨v3, l3, pv3, pw3⟩ := place_ev hi k3 T3
  have hpl : nI v1 * 20 + nI v3 = nI (20 * v1 + v3) := by rw [show (20 : Int32) = nI 20 from rfl, pk_mul, nI_add, Nat.mul_comm]
  have hpl2 : (20 : Int32) * nI v1 + nI v3 = nI (20 * v1 + v3) := by rw [show (20 : Int32) = nI 20 from rfl, pk_mul, nI_add]
  have hp4 : 20 * v1 + v3 < 400 := by omega
  have hb : f_Bringing_begin st0 fi0 qu0 sz ol tl t mon hd sd md mt (nI h1) (nI h3) = some (upd (cp 400 (fun _ => -6) st0) (20 * v1 + v3) 0, upd fi0 (20 * v1 + v3) (-6), upd qu0 0 (nI (20 * v1 + v3)), 1, (if lis t mon hd mt h1 = true then 1 else 0), (if lis t mon hd mt h3 = true then 1 else 0)) := by
    unfold f_Bringing_begin f_Bringing_reach
    rw [fill_ev (by decide), Option.bind_some, listens_lis t mon hd mt k1, Option.bind_some, listens_lis t mon hd mt k3, Option.bind_some, pv1, Option.bind_some, pv3, Option.bind_some, hpl, show f_Strait_within (nI (20 * v1 + v3)) 0 399 = 1 from win1 (a := 0) (b := 399) (by omega) (by omega) (by decide), if_neg one_ne, if_neg (by decide : ¬ (400 : Int32) ≤ 0), if_pos (ix_t hp4 (by decide)), if_pos (ix_t hp4 (by decide)), if_pos (ix_t hp4 (by decide)), cl_n (show 20 * v1 + v3 < 2 ^ 31 by omega), if_pos (cp_lt _ _ hp4), if_pos (by decide : ix 0 400 = true)]
    rfl
  have hI : bI (upd (cp 400 (fun _ => -6) st0) (20 * v1 + v3) 0) (upd fi0 (20 * v1 + v3) (-6)) (upd qu0 0 (nI (20 * v1 + v3))) (upd (cp 400 (fun _ => -1) re0) (20 * v1 + v3) 0) (upd qu20 0 (nI (20 * v1 + v3))) 0 1 := by
    refine ⟨fun p hp => ?_, fun j hj => ?_, ?_⟩
    · by_cases hpp : p = 20 * v1 + v3
      · subst hpp
        exact Or.inr ⟨0, Nat.le_refl _, by rw [up_s]; rfl, Or.inl ⟨rfl, by rw [up_s], by rw [up_s]⟩⟩
      · refine Or.inl ⟨?_, ?_⟩
        · rw [up_n hpp, cp_lt _ _ hp]
        · rw [up_n hpp, cp_lt _ _ hp]
    · have : j = 0 := by omega
      subst this
      exact ⟨20 * v1 + v3, hp4, by rw [up_s], by rw [up_s], by rw [up_s]; decide⟩
    · rw [cN_one (F := fun p => !decide (cp 400 (fun _ => (-6 : Int32)) st0 p = -6)) (p := 20 * v1 + v3) (by rw [cp_lt _ _ hp4]; decide) (by rw [up_s]; decide) (fun j hj => by rw [up_n hj]) 400 hp4, cN_none 400 (fun j hj => by rw [cp_lt _ _ hj]; decide)]
  obtain ⟨st', fi', qu', n', fe, fc, re', qu2', x1, x2⟩ := search_ev hr' hm hw hwd k1 k3 T1 T3 p2 p4 p5 0 63 400 0 _ _ _ _ _ 1 (by omega) hI
  have hX : f_Bringing_search (upd (cp 400 (fun _ => -6) st0) (20 * v1 + v3) 0) (upd fi0 (20 * v1 + v3) (-6)) (upd qu0 0 (nI (20 * v1 + v3))) 1 (if lis t mon hd mt h1 = true then 1 else 0) (if lis t mon hd mt h3 = true then 1 else 0) fe0 fc0 wd p2 p4 = some (st', fi', qu', n', fe, fc) := x1
  have hY : ev (fun z : Int32 × Int32 × (Nat → Int32) × (Nat → Int32) => b_Model_bring_2 (nI h1) p2 (nI h3) p4 p5 now' 0 63 mt2 wd2 z.1 z.2.1 z.2.2.1 z.2.2.2) ((1 : Int32), (0 : Int32), upd (cp 400 (fun _ => -1) re0) (20 * v1 + v3) 0, upd qu20 0 (nI (20 * v1 + v3))) = some ((if p5 = 0 then fe else fc), now', 0, 63, re', qu2') := x2
  obtain ⟨g1, g2, g3⟩ := hr'.1 h1 k1
  obtain ⟨g4, g5, g6⟩ := hr'.1 h3 k3
  have s6 : ∀ h : Nat, (6 : Int32) + nI h = nI (6 + h) := fun h => nI_add 6 h
  have s12 : ∀ h : Nat, (12 : Int32) + nI h = nI (12 + h) := fun h => nI_add 12 h
  simp only [hb, Option.bind_some, hX, e1, mfill_ev]
  simp only [s6, s12, ix_t (show 6 + h1 < 21 by omega) (by decide), ix_t (show 12 + h1 < 21 by omega) (by decide), ix_t (show 6 + h3 < 21 by omega) (by decide), ix_t (show 12 + h3 < 21 by omega) (by decide), if_true, cl_n (show 6 + h1 < 2 ^ 31 by omega), cl_n (show 12 + h1 < 2 ^ 31 by omega), cl_n (show 6 + h3 < 2 ^ 31 by omega), cl_n (show 12 + h3 < 2 ^ 31 by omega), g2, g3, g5, g6, pw1, Int32.add_assoc, pw3, hpl2, ix_t hp4 (by decide), cl_n (show 20 * v1 + v3 < 2 ^ 31 by omega), show ((0 : Int32)).toNatClampNeg = 0 from rfl, hY]
  by_cases h5 : p5 = 0
  · rw [if_pos h5, if_pos h5]; exact ⟨_, _, _, _, _, _, _, rfl, rfl⟩
  · rw [if_neg h5, if_neg h5]; exact ⟨_, _, _, _, _, _, _, rfl, rfl⟩
