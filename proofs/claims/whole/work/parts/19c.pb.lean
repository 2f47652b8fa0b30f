/-! pure rows: judge, done, behind, then -/
theorem n6_lt : (-6 : Int32) < 0 := by decide
theorem n6_le : ¬ (0 : Int32) ≤ -6 := by decide
theorem e_judge {t mon lost : Int32} {hd sd md mt mt2 f g wd wd2 book : Nat → Int32} {n : Nat} (hn : n ≤ 60) (hwd : bnd 10 wd 1 9) (hr : rSea t mon lost hd sd md book) (hi : iSea t mon hd sd md mt) (he : eqn 60 f g) (hm : eqn 6 mt mt2) (hw : eqn 10 wd wd2) (t0 mon0 lost0 : Int32) (hd0 sd0 md0 mt0 : Nat → Int32) (kd on ot fl ac wy rm sa : Int32) (now : Nat → Int32) (a1 a2 a3 a4 : Int32) (p1 : Int32) : ∃ r x now' b1 b2 b3 b4, f_Strait_judge t mon lost hd sd md mt wd f (nI n) t0 mon0 lost0 hd0 sd0 md0 mt0 kd on ot fl ac wy rm sa p1 = some (r, x) ∧ f_Model_judge book now mt2 wd2 (nI n) g a1 a2 a3 a4 p1 = some (r, now', b1, b2, b3, b4) := by
  have c1 := win p1 (A := 0) (B := 1) 0 1 rfl rfl (by decide) (by decide)
  unfold f_Strait_judge f_Model_judge
  rw [in_within]
  rcases c1 with c1 | ⟨c1, k, hk0, hk, rfl⟩
  · exact ⟨_, _, _, _, _, _, _, if_pos c1, if_pos c1⟩
  · rw [if_neg (by rw [c1]; exact one_ne), if_neg (by rw [c1]; exact one_ne), faultM hn he, Option.bind_some]
    by_cases hS : fS f n 0 0 = -6
    · obtain ⟨z, mt', kd', on', ot', a, wy', rm', sa', now', re', x1, x2, x3, x4, x5, x6, x7⟩ := xT hn hS hwd hr hi he hm hw t0 mon0 lost0 hd0 sd0 md0 mt0 kd on ot fl ac wy rm sa now a1 a2 a3 a4
      rw [x1, Option.bind_some, hS, if_pos n6_lt, x2, Option.bind_some]
      by_cases h1 : wy' = 0
      · simp only [h1, if_true, n6_lt]
        exact ⟨_, _, _, _, _, _, _, rfl, rfl⟩
      · simp only [h1, if_false, if_true, nI_pos (show a < 2 ^ 31 by omega), x5 h1]
        by_cases h2 : nI k = 0
        · simp only [h2, if_true]
          exact ⟨_, _, _, _, _, _, _, rfl, rfl⟩
        · simp only [h2, if_false]
          exact ⟨_, _, _, _, _, _, _, rfl, rfl⟩
    · obtain ⟨t', mon', lost', hd', sd', md', mt', kd', on', ot', ac', wy', rm', sa', x1⟩ := xT_bad (t := t) (mon := mon) (lost := lost) (hd := hd) (sd := sd) (md := md) (mt := mt) (wd := wd) hn hS t0 mon0 lost0 hd0 sd0 md0 mt0 kd on ot fl ac wy rm sa
      rcases fS_cases f n 0 0 with h | ⟨j, h1, h2⟩
      · exact absurd h hS
      · rw [x1, Option.bind_some, h2, if_neg (nI_pos (by omega))]
        exact ⟨_, _, _, _, _, _, _, rfl, rfl⟩
/-- what both sides know when a text has been tried: it can all be, or it can't -/
theorem xB2 {t mon lost : Int32} {hd sd md mt mt2 f g wd wd2 book : Nat → Int32} {n : Nat} (hn : n ≤ 60) (hwd : bnd 10 wd 1 9) (hr : rSea t mon lost hd sd md book) (hi : iSea t mon hd sd md mt) (he : eqn 60 f g) (hm : eqn 6 mt mt2) (hw : eqn 10 wd wd2) (t0 mon0 lost0 : Int32) (hd0 sd0 md0 mt0 : Nat → Int32) (kd on ot fl ac wy rm sa : Int32) (now : Nat → Int32) (a1 a2 a3 a4 : Int32) : ∃ z : SS, ∃ mt' kd' on' ot' fl' ac' wy' rm' sa' s2 r now' b3 b4, f_Trial_run t0 mon0 lost0 hd0 sd0 md0 mt0 kd on ot fl ac wy rm sa f (nI n) t mon lost hd sd md mt wd = some (z.1, z.2.1, z.2.2.1, z.2.2.2.1, z.2.2.2.2.1, z.2.2.2.2.2, mt', kd', on', ot', fl', ac', wy', rm', sa') ∧ (∃ b1, f_Model_barOfSeasons book now mt2 wd2 (nI n) g a1 a2 a3 a4 = some (r, now', b1, s2, b3, b4) ∧ ((f_Trial_allCanBe fl' wy' = 0 ∧ r = -5) ∨ (f_Trial_allCanBe fl' wy' = 1 ∧ r = 0 ∧ rS z now' ∧ iS z mt' ∧ eqn 6 mt' mt2 ∧ b4 = ac' ∧ b1 = rm' ∧ sa' = t &&& s2))) := by
  unfold f_Model_barOfSeasons
  simp only [faultM hn he, Option.bind_some]
  by_cases hS : fS f n 0 0 = -6
  · obtain ⟨z, mt', kd', on', ot', a, wy', rm', sa', now', re', x1, x2, x3, x4, x5, x6, x7⟩ := xT hn hS hwd hr hi he hm hw t0 mon0 lost0 hd0 sd0 md0 mt0 kd on ot fl ac wy rm sa now a1 a2 a3 a4
    rw [hS, if_neg n6_le, x2, Option.bind_some]
    by_cases h1 : wy' = 0
    · subst h1
      exact ⟨z, mt', kd', on', ot', 0, nI a, 0, rm', t &&& sa', sa', 0, now', re', nI a, x1, rm', rfl, Or.inr ⟨rfl, rfl, x3, x4, x6, rfl, rfl, rfl⟩⟩
    · refine ⟨z, mt', kd', on', ot', 0, nI a, wy', rm', t &&& sa', sa', -5, now', re', nI a, x1, rm', ?_, Or.inl ⟨?_, rfl⟩⟩
      · simp only [if_neg h1, nI_pos (show a < 2 ^ 31 by omega), if_false]
      · unfold f_Trial_allCanBe; rw [if_pos rfl, if_neg h1]
  · obtain ⟨t', mon', lost', hd', sd', md', mt', kd', on', ot', ac', wy', rm', sa', x1⟩ := xT_bad (t := t) (mon := mon) (lost := lost) (hd := hd) (sd := sd) (md := md) (mt := mt) (wd := wd) hn hS t0 mon0 lost0 hd0 sd0 md0 mt0 kd on ot fl ac wy rm sa
    rcases fS_cases f n 0 0 with h | ⟨j, h1, h2⟩
    · exact absurd h hS
    · rw [h2, if_pos (nI_pos' (by omega))]
      exact ⟨(t', mon', lost', hd', sd', md'), mt', kd', on', ot', 1, ac', wy', rm', sa', a2, -5, now, a3, a4, x1, a1, rfl, Or.inl ⟨rfl, rfl⟩⟩
theorem mdone_ev (book now : Nat → Int32) : ev (fun s : Int32 × (Nat → Int32) => b_Model_done_1 now s.1 s.2) ((0 : Int32), book) = some (cp 21 now book) := by
  refine ev_cnt (fun k => (nI k, cp k now book)) 21 (by simp only [cp_0]; rfl) (fun k hk => ?_) ?_
  · show b_Model_done_1 now (nI k) (cp k now book) = _
    unfold b_Model_done_1
    rw [if_neg (lge (L := 21) rfl hk (by decide))]
    simp only [ix_t hk (by decide), if_true, cl_n (show k < 2 ^ 31 by omega), nI_1, cp_up (n := 0)]
  · show b_Model_done_1 now (nI 21) _ = _
    unfold b_Model_done_1
    rw [if_pos (lle (L := 21) (N := 21) rfl)]
theorem e_done {t mon lost : Int32} {hd sd md mt mt2 f g wd wd2 book : Nat → Int32} {n : Nat} (hn : n ≤ 60) (hwd : bnd 10 wd 1 9) (hr : rSea t mon lost hd sd md book) (hi : iSea t mon hd sd md mt) (he : eqn 60 f g) (hm : eqn 6 mt mt2) (hw : eqn 10 wd wd2) (t0 mon0 lost0 : Int32) (hd0 sd0 md0 mt0 : Nat → Int32) (kd on ot fl ac wy rm sa : Int32) (now : Nat → Int32) (a1 a2 a3 a4 : Int32) : ∃ r t' mon' lost' hd' sd' md' mt' n' x book' now' b1 b2 b3 b4, n' ≤ 60 ∧ f_Strait_done t mon lost hd sd md mt wd f (nI n) t0 mon0 lost0 hd0 sd0 md0 mt0 kd on ot fl ac wy rm sa = some (r, t', mon', lost', hd', sd', md', mt', nI n', x) ∧ f_Model_done book now mt2 wd2 (nI n) g a1 a2 a3 a4 = some (r, book', now', nI n', b1, b2, b3, b4) ∧ rSea t' mon' lost' hd' sd' md' book' ∧ iSea t' mon' hd' sd' md' mt' ∧ eqn 6 mt' mt2 := by
  obtain ⟨z, mt', kd', on', ot', fl', ac', wy', rm', sa', s2, r, now', b3, b4, x1, b1, x2, x3⟩ := xB2 hn hwd hr hi he hm hw t0 mon0 lost0 hd0 sd0 md0 mt0 kd on ot fl ac wy rm sa now a1 a2 a3 a4
  unfold f_Strait_done f_Model_done
  simp only [x1, x2, Option.bind_some, copy_ev, mdone_ev]
  rcases x3 with ⟨y1, y2⟩ | ⟨y1, y2, y3, y4, y5, y6, y7, y8⟩
  · rw [if_pos y1, y2, if_neg (by decide : ¬ (0 : Int32) ≤ -5)]
    exact ⟨_, _, _, _, _, _, _, _, n, _, _, _, _, _, _, _, hn, rfl, rfl, hr, hi, hm⟩
  · rw [if_neg (by rw [y1]; exact one_ne), y2, if_pos (by decide : (0 : Int32) ≤ 0), y6]
    refine ⟨_, _, _, _, _, _, _, _, 0, _, _, _, _, _, _, _, by decide, rfl, rfl, ?_, y4.cp _ _ _ _, ?_⟩
    · exact (rSea.cp y3 _ _ _).of (fun k hk => cp_lt _ _ hk)
    · intro k hk; rw [cp_lt _ _ hk]; exact y5 k hk
theorem e_behind {t mon lost : Int32} {hd sd md mt mt2 f g wd wd2 book : Nat → Int32} {n : Nat} (hn : n ≤ 60) (hwd : bnd 10 wd 1 9) (hr : rSea t mon lost hd sd md book) (hi : iSea t mon hd sd md mt) (he : eqn 60 f g) (hm : eqn 6 mt mt2) (hw : eqn 10 wd wd2) (t0 mon0 lost0 : Int32) (hd0 sd0 md0 mt0 : Nat → Int32) (kd on ot fl ac wy rm sa : Int32) (now : Nat → Int32) (a1 a2 a3 a4 : Int32) (p1 p2 : Int32) : ∃ r x now' b1 b2 b3 b4, f_Strait_behind t mon lost hd sd md mt wd f (nI n) t0 mon0 lost0 hd0 sd0 md0 mt0 kd on ot fl ac wy rm sa p1 p2 = some (r, x) ∧ f_Model_behind book now mt2 wd2 (nI n) g a1 a2 a3 a4 p1 p2 = some (r, now', b1, b2, b3, b4) := by
  unfold f_Strait_behind f_Model_behind
  rw [mthere, hr.2.1, in_within]
  by_cases hT : f_Sea_isThere t p1 = 0
  · exact ⟨_, _, _, _, _, _, _, if_pos hT, if_pos hT⟩
  · rw [if_neg hT, if_neg hT]
    have c2 := win p2 (A := 0) (B := 2) 0 2 rfl rfl (by decide) (by decide)
    rcases c2 with c2 | ⟨c2, q, hq0, hq, rfl⟩
    · exact ⟨_, _, _, _, _, _, _, if_pos c2, if_pos c2⟩
    · have c1 := win p1 (A := 0) (B := 5) 0 5 rfl rfl (by decide) (by decide)
      rcases c1 with c1 | ⟨c1, h, hh0, hh, rfl⟩
      · exact absurd (there_out c1) hT
      · obtain ⟨z, mt', kd', on', ot', fl', ac', wy', rm', sa', s2, r, now', b3, b4, x1, b1, x2, x3⟩ := xB2 hn hwd hr hi he hm hw t0 mon0 lost0 hd0 sd0 md0 mt0 kd on ot fl ac wy rm sa now a1 a2 a3 a4
        rw [if_neg (by rw [c2]; exact one_ne), if_neg (by rw [c2]; exact one_ne)]
        simp only [x1, x2, Option.bind_some]
        rcases x3 with ⟨y1, y2⟩ | ⟨y1, y2, y3, y4, y5, y6, y7, y8⟩
        · rw [if_pos y1, y2, if_neg (by decide : ¬ (0 : Int32) ≤ -5)]
          exact ⟨_, _, _, _, _, _, _, rfl, rfl⟩
        · rw [if_neg (by rw [y1]; exact one_ne), y2, if_pos (by decide : (0 : Int32) ≤ 0), mstands, y3.2.1]
          by_cases hU : f_Sea_isThere z.1 (nI h) = 0
          · rw [if_pos hU, if_pos hU]
            exact ⟨_, _, _, _, _, _, _, rfl, rfl⟩
          · rw [if_neg hU, if_neg hU]
            have e6 : (6 : Int32) * nI q + nI h = nI (6 * q + h) := by rw [show (6 : Int32) = nI 6 from rfl, pk_mul, nI_add]
            rw [e6, if_pos (ix_t (show 6 * q + h < 21 by omega) (by decide)), cl_n (show 6 * q + h < 2 ^ 31 by omega)]
            unfold f_Sea_traitOf
            rw [if_neg hU]
            obtain ⟨g1, g2, g3⟩ := y3.1 h (by omega)
            have i6 := ix_t (show h < 6 by omega) (by decide)
            have cl := cl_n (show h < 2 ^ 31 by omega)
            rcases (show q = 0 ∨ q = 1 ∨ q = 2 by omega) with rfl | rfl | rfl
            · rw [if_pos (by decide : nI 0 = 0), if_pos i6, cl, Option.bind_some, show 6 * 0 + h = h by omega, g1]
              exact ⟨_, _, _, _, _, _, _, rfl, rfl⟩
            · rw [if_neg (by decide : ¬ nI 1 = 0), if_pos (by decide : nI 1 = 1), if_pos i6, cl, Option.bind_some, show 6 * 1 + h = 6 + h by omega, g2]
              exact ⟨_, _, _, _, _, _, _, rfl, rfl⟩
            · rw [if_neg (by decide : ¬ nI 2 = 0), if_neg (by decide : ¬ nI 2 = 1), if_pos (by decide : nI 2 = 2), if_pos i6, cl, Option.bind_some, show 6 * 2 + h = 12 + h by omega, g3]
              exact ⟨_, _, _, _, _, _, _, rfl, rfl⟩
/-- HEADS of those there on SIDE 1 -/
def hsS (t : Int32) (hd sd : Nat → Int32) : Nat → Int32
  | 0 => 0
  | k + 1 => if thr t k = true ∧ sd k = 1 then hsS t hd sd k + hd k else hsS t hd sd k
theorem ite10 (b : Bool) : ((if b = true then (1 : Int32) else 0) = 0) ↔ b = false := by cases b <;> decide
theorem hs_ev (t : Int32) (hd sd : Nat → Int32) : f_Sea_headsOnSideOne t hd sd = some (hsS t hd sd 6) := by
  unfold f_Sea_headsOnSideOne
  rw [ev_cnt (s0 := ((0 : Int32), (0 : Int32))) (fun k => (hsS t hd sd k, nI k)) 6 (r := hsS t hd sd 6) rfl (fun k hk => by
    show b_Sea_headsOnSideOne_1 t hd sd (hsS t hd sd k) (nI k) = _
    unfold b_Sea_headsOnSideOne_1
    rw [if_neg (lge (L := 6) rfl hk (by decide)), there_thr t hk]
    simp only [ix_t hk (by decide), if_true, cl_n (show k < 2 ^ 31 by omega), nI_1, ite10, hsS]
    by_cases h1 : thr t k = true
    · by_cases h2 : sd k = 1
      · simp [h1, h2]
      · simp [h1, h2]
    · simp [h1]) (by
    show b_Sea_headsOnSideOne_1 t hd sd _ (nI 6) = _
    unfold b_Sea_headsOnSideOne_1
    rw [if_pos (lle (L := 6) (N := 6) rfl)])]
  rfl
theorem add0 (x : Int32) : x + 0 = x := by simp
theorem mhs_ev {t mon lost : Int32} {hd sd md now : Nat → Int32} (hr : rSea t mon lost hd sd md now) : f_Model_headsBeyond now = some (hsS t hd sd 6) := by
  unfold f_Model_headsBeyond
  rw [ev_cnt (s0 := ((0 : Int32), (0 : Int32))) (fun k => (hsS t hd sd k, nI k)) 6 (r := hsS t hd sd 6) rfl (fun k hk => by
    show b_Model_headsBeyond_1 now (hsS t hd sd k) (nI k) = _
    obtain ⟨g1, g2, g3⟩ := hr.1 k hk
    unfold b_Model_headsBeyond_1
    rw [if_neg (lge (L := 6) rfl hk (by decide)), mst hr hk, show (6 : Int32) + nI k = nI (6 + k) from nI_add 6 k]
    simp only [ix_t (show k < 21 by omega) (by decide), ix_t (show 6 + k < 21 by omega) (by decide), if_true, cl_n (show k < 2 ^ 31 by omega), cl_n (show 6 + k < 2 ^ 31 by omega), nI_1, ite10, hsS, add0, g1, g2]
    by_cases h1 : thr t k = true
    · by_cases h2 : sd k = 1
      · simp [h1, h2]
      · simp [h1, h2]
    · simp [h1]) (by
    show b_Model_headsBeyond_1 now _ (nI 6) = _
    unfold b_Model_headsBeyond_1
    rw [if_pos (lle (L := 6) (N := 6) rfl)])]
  rfl
theorem e_then {t mon lost : Int32} {hd sd md mt mt2 f g wd wd2 book : Nat → Int32} {n : Nat} (hn : n ≤ 60) (hwd : bnd 10 wd 1 9) (hr : rSea t mon lost hd sd md book) (hi : iSea t mon hd sd md mt) (he : eqn 60 f g) (hm : eqn 6 mt mt2) (hw : eqn 10 wd wd2) (t0 mon0 lost0 : Int32) (hd0 sd0 md0 mt0 : Nat → Int32) (kd on ot fl ac wy rm sa : Int32) (now : Nat → Int32) (a1 a2 a3 a4 : Int32) (p1 : Int32) : ∃ r x now' b1 b2 b3 b4, f_Strait_then t mon lost hd sd md mt wd f (nI n) t0 mon0 lost0 hd0 sd0 md0 mt0 kd on ot fl ac wy rm sa p1 = some (r, x) ∧ f_Model_then book now mt2 wd2 (nI n) g a1 a2 a3 a4 p1 = some (r, now', b1, b2, b3, b4) := by
  have c1 := win p1 (A := 0) (B := 4) 0 4 rfl rfl (by decide) (by decide)
  unfold f_Strait_then f_Model_then
  rw [in_within]
  rcases c1 with c1 | ⟨c1, k, hk0, hk, rfl⟩
  · exact ⟨_, _, _, _, _, _, _, if_pos c1, if_pos c1⟩
  · obtain ⟨z, mt', kd', on', ot', fl', ac', wy', rm', sa', s2, r, now', b3, b4, x1, b1, x2, x3⟩ := xB2 hn hwd hr hi he hm hw t0 mon0 lost0 hd0 sd0 md0 mt0 kd on ot fl ac wy rm sa now a1 a2 a3 a4
    rw [if_neg (by rw [c1]; exact one_ne), if_neg (by rw [c1]; exact one_ne)]
    simp only [x1, x2, Option.bind_some]
    rcases x3 with ⟨y1, y2⟩ | ⟨y1, y2, y3, y4, y5, y6, y7, y8⟩
    · rw [if_pos y1, y2, if_neg (by decide : ¬ (0 : Int32) ≤ -5)]
      exact ⟨_, _, _, _, _, _, _, rfl, rfl⟩
    · rw [if_neg (by rw [y1]; exact one_ne), y2, if_pos (by decide : (0 : Int32) ≤ 0), hs_ev, mhs_ev y3, y7, y8, show ((18 : Int32)).toNatClampNeg = 18 from rfl, hr.2.1]
      rcases (show k = 0 ∨ k = 1 ∨ k = 2 ∨ k = 3 ∨ k = 4 by omega) with rfl | rfl | rfl | rfl | rfl
      · rw [if_pos (by decide : nI 0 = 0), if_pos (by decide : nI 0 = 0)]
        exact ⟨_, _, _, _, _, _, _, rfl, rfl⟩
      · rw [if_neg (by decide : ¬ nI 1 = 0), if_neg (by decide : ¬ nI 1 = 0), if_pos (by decide : nI 1 = 1), if_neg (by decide : ¬ (3 : Int32) ≤ nI 1), if_pos (by decide : ix (18 + nI 1) 21 = true), show (18 + nI 1).toNatClampNeg = 19 from rfl, y3.2.2.1]
        exact ⟨_, _, _, _, _, _, _, rfl, rfl⟩
      · rw [if_neg (by decide : ¬ nI 2 = 0), if_neg (by decide : ¬ nI 2 = 0), if_neg (by decide : ¬ nI 2 = 1), if_pos (by decide : nI 2 = 2), if_neg (by decide : ¬ (3 : Int32) ≤ nI 2), if_pos (by decide : ix (18 + nI 2) 21 = true), show (18 + nI 2).toNatClampNeg = 20 from rfl, y3.2.2.2]
        exact ⟨_, _, _, _, _, _, _, rfl, rfl⟩
      · rw [if_neg (by decide : ¬ nI 3 = 0), if_neg (by decide : ¬ nI 3 = 0), if_neg (by decide : ¬ nI 3 = 1), if_neg (by decide : ¬ nI 3 = 2), if_pos (by decide : nI 3 = 3), if_pos (by decide : (3 : Int32) ≤ nI 3), if_pos (by decide : nI 3 = 3)]
        exact ⟨_, _, _, _, _, _, _, rfl, rfl⟩
      · rw [if_neg (by decide : ¬ nI 4 = 0), if_neg (by decide : ¬ nI 4 = 0), if_neg (by decide : ¬ nI 4 = 1), if_neg (by decide : ¬ nI 4 = 2), if_neg (by decide : ¬ nI 4 = 3), if_pos (by decide : (3 : Int32) ≤ nI 4), if_neg (by decide : ¬ nI 4 = 3), Int32.and_comm s2 t]
        exact ⟨_, _, _, _, _, _, _, rfl, rfl⟩
