/-! pure rows: a text tried on a copy of the sea -/
/-- below n as f, from n on as g -/
def cp (n : Nat) (f g : Nat → Int32) : Nat → Int32 := fun j => if j < n then f j else g j
theorem cp_lt {n j : Nat} (f g : Nat → Int32) (h : j < n) : cp n f g j = f j := if_pos h
theorem cp_up {n k : Nat} (f g : Nat → Int32) : upd (cp k f g) k (f k) = cp (k + 1) f g := by
  funext j
  rw [up_a]
  unfold cp
  by_cases h1 : j = k
  · subst h1; simp
  · by_cases h2 : j < k
    · simp [h1, h2, show j < k + 1 by omega]
    · simp [h1, h2, show ¬ j < k + 1 by omega]
theorem cp_0 (f g : Nat → Int32) : cp 0 f g = g := by funext j; simp [cp]
theorem copy_ev (t mon lost : Int32) (hd sd md mt : Nat → Int32) (t2 mon2 lost2 : Int32) (hd2 sd2 md2 mt2 : Nat → Int32) : f_Sea_copyFrom t mon lost hd sd md mt t2 mon2 lost2 hd2 sd2 md2 mt2 = some (t2, mon2, lost2, cp 6 hd2 hd, cp 6 sd2 sd, cp 6 md2 md, cp 6 mt2 mt) := by
  unfold f_Sea_copyFrom
  rw [ev_cnt (s0 := ((0 : Int32), hd, sd, md, mt)) (fun k => (nI k, cp k hd2 hd, cp k sd2 sd, cp k md2 md, cp k mt2 mt)) 6 (r := (cp 6 hd2 hd, cp 6 sd2 sd, cp 6 md2 md, cp 6 mt2 mt)) (by simp only [cp_0]; rfl) (fun k hk => by
    show b_Sea_copyFrom_1 hd2 sd2 md2 mt2 (nI k) (cp k hd2 hd) (cp k sd2 sd) (cp k md2 md) (cp k mt2 mt) = _
    unfold b_Sea_copyFrom_1
    rw [if_neg (lge (L := 6) rfl hk (by decide))]
    simp only [ix_t hk (by decide), if_true, cl_n (show k < 2 ^ 31 by omega), nI_1, cp_up (n := 0)]) (by
    show b_Sea_copyFrom_1 hd2 sd2 md2 mt2 (nI 6) _ _ _ _ = _
    unfold b_Sea_copyFrom_1
    rw [if_pos (lle (L := 6) (N := 6) rfl)])]
  rfl
theorem bnd.cp {n : Nat} {f : Nat → Int32} {a b : Nat} (h : bnd n f a b) (g : Nat → Int32) : bnd n (cp n f g) a b := by
  intro k hk
  rw [cp_lt f g hk]; exact h k hk
theorem iSea.cp {t mon : Int32} {hd sd md mt : Nat → Int32} (h : iSea t mon hd sd md mt) (hd0 sd0 md0 mt0 : Nat → Int32) : iSea t mon (cp 6 hd hd0) (cp 6 sd sd0) (cp 6 md md0) (cp 6 mt mt0) :=
  ⟨h.1, h.2.1, h.2.2.1.cp _, h.2.2.2.1.cp _, h.2.2.2.2.1.cp _, h.2.2.2.2.2.cp _⟩
theorem rSea.cp {t mon lost : Int32} {hd sd md book : Nat → Int32} (h : rSea t mon lost hd sd md book) (hd0 sd0 md0 : Nat → Int32) : rSea t mon lost (cp 6 hd hd0) (cp 6 sd sd0) (cp 6 md md0) book := by
  refine ⟨fun j hj => ?_, h.2⟩
  rw [cp_lt _ _ hj, cp_lt _ _ hj, cp_lt _ _ hj]
  exact h.1 j hj
theorem fS_cases (f : Nat → Int32) : ∀ d i s, fS f d i s = -6 ∨ ∃ k, k ≤ i + d ∧ fS f d i s = nI k := by
  intro d
  induction d with
  | zero =>
    intro i s
    rw [fS]
    by_cases h : s = 0
    · rw [if_pos h]; exact Or.inl rfl
    · rw [if_neg h]; exact Or.inr ⟨i, by omega, rfl⟩
  | succ d ih =>
    intro i s
    rw [fS]
    by_cases h : f_Pad_awaitedBehind s (f i) = 3
    · rw [if_pos h]; exact Or.inr ⟨i, by omega, rfl⟩
    · rw [if_neg h]
      rcases ih (i + 1) (f_Pad_awaitedBehind s (f i)) with h2 | ⟨k, h2, h3⟩
      · exact Or.inl h2
      · exact Or.inr ⟨k, by omega, h3⟩
theorem run_a {f mt wd : Nat → Int32} {n : Nat} : ∀ e i z a rm sa, (runS f mt wd n e i z a rm sa).2.1 ≤ a + e := by
  intro e
  induction e with
  | zero => intro i z a rm sa; exact Nat.le_refl _
  | succ e ih =>
    intro i z a rm sa
    rw [runS]
    by_cases h1 : n ≤ i
    · rw [if_pos h1]; exact Nat.le_add_right _ _
    · rw [if_neg h1]
      by_cases h2 : whyS z mt wd (actAt (f i) (f (i + 1)) (f (i + 2))).2.1 (actAt (f i) (f (i + 1)) (f (i + 2))).2.2.1 (actAt (f i) (f (i + 1)) (f (i + 2))).2.2.2 = 0
      · rw [if_pos h2]
        refine Nat.le_trans (ih _ _ _ _ _) (by omega)
      · rw [if_neg h2]; exact Nat.le_add_right _ _
theorem t_and {t : Int32} (h : ∃ n, n < 64 ∧ t = nI n) : t &&& 63 = t := by
  obtain ⟨n, hn, rfl⟩ := h
  have : ∀ n : Nat, n < 64 → nI n &&& 63 = nI n := by decide +kernel
  exact this n hn
/-- a FAULTY text: nothing is tried -/
theorem xT_bad {t mon lost : Int32} {hd sd md mt f wd : Nat → Int32} {n : Nat} (hn : n ≤ 60) (hS : ¬ fS f n 0 0 = -6) (t0 mon0 lost0 : Int32) (hd0 sd0 md0 mt0 : Nat → Int32) (kd on ot fl ac wy rm sa : Int32) : ∃ t' mon' lost' hd' sd' md' mt' kd' on' ot' ac' wy' rm' sa', f_Trial_run t0 mon0 lost0 hd0 sd0 md0 mt0 kd on ot fl ac wy rm sa f (nI n) t mon lost hd sd md mt wd = some (t', mon', lost', hd', sd', md', mt', kd', on', ot', 1, ac', wy', rm', sa') := by
  unfold f_Trial_run f_Trial_begin
  simp only [copy_ev, Option.bind_some, faultX f hn, if_neg hS]
  refine ⟨t, mon, lost, cp 6 hd hd0, cp 6 sd sd0, cp 6 md md0, cp 6 mt mt0, kd, on, ot, 0, 0, 0, t, ev_inr ?_⟩
  show b_Trial_run_1 _ 1 f (nI n) wd 0 0 _ _ _ _ _ _ _ _ _ _ _ _ _ = _
  unfold b_Trial_run_1
  rw [if_neg (by decide : ¬ (60 : Int32) ≤ 0)]
  by_cases h : nI n ≤ 0
  · rw [if_pos h]
  · rw [if_neg h, if_neg one_ne]
/-- a text without FAULT: class and reference try the same -/
theorem xT {t mon lost : Int32} {hd sd md mt mt2 f g wd wd2 book : Nat → Int32} {n : Nat} (hn : n ≤ 60) (hS : fS f n 0 0 = -6) (hwd : bnd 10 wd 1 9) (hr : rSea t mon lost hd sd md book) (hi : iSea t mon hd sd md mt) (he : eqn 60 f g) (hm : eqn 6 mt mt2) (hw : eqn 10 wd wd2) (t0 mon0 lost0 : Int32) (hd0 sd0 md0 mt0 : Nat → Int32) (kd on ot fl ac wy rm sa : Int32) (now : Nat → Int32) (a1 a2 a3 a4 : Int32) : ∃ z : SS, ∃ mt' kd' on' ot' a wy' rm' sa' now' re', f_Trial_run t0 mon0 lost0 hd0 sd0 md0 mt0 kd on ot fl ac wy rm sa f (nI n) t mon lost hd sd md mt wd = some (z.1, z.2.1, z.2.2.1, z.2.2.2.1, z.2.2.2.2.1, z.2.2.2.2.2, mt', kd', on', ot', 0, nI a, wy', rm', t &&& sa') ∧ f_Model_goSeasons book now mt2 wd2 (nI n) g a1 a2 a3 a4 = some ((if wy' = 0 then -6 else nI a), now', rm', sa', re', nI a) ∧ rS z now' ∧ iS z mt' ∧ (¬ wy' = 0 → re' = wy') ∧ eqn 6 mt' mt2 ∧ a ≤ 60 := by
  have hi' := hi.cp hd0 sd0 md0 mt0
  have hr' := hr.cp hd0 sd0 md0
  have hm' : eqn 6 (cp 6 mt mt0) mt2 := fun k hk => by rw [cp_lt _ _ hk]; exact hm k hk
  obtain ⟨kd', on', ot', x1⟩ := xrun (f := f) (mt := cp 6 mt mt0) (wd := wd) hn hwd 60 0 0 (t, mon, lost, cp 6 hd hd0, cp 6 sd sd0, cp 6 md md0) 0 0 t kd on ot rfl (Nat.le_refl _) (Nat.zero_le _) hS hi'
  obtain ⟨now1, e1, e2⟩ := asNow_ev book now a1 a2
  obtain ⟨now', re', y1, y2, y3⟩ := mrun (f := f) (g := g) (mt := cp 6 mt mt0) (mt2 := mt2) (wd := wd) (wd2 := wd2) hn hwd he hm' hw 60 0 (t, mon, lost, cp 6 hd hd0, cp 6 sd sd0, cp 6 md md0) now1 0 0 63 a3 (by omega) (Nat.zero_le _) hS (hr'.of e2) hi'
  have hsa := run_sa (f := f) (mt := cp 6 mt mt0) (wd := wd) (n := n) t 60 0 (t, mon, lost, cp 6 hd hd0, cp 6 sd sd0, cp 6 md md0) 0 0 63
  rw [t_and hi.1] at hsa
  have hri := run_i (f := f) (mt := cp 6 mt mt0) (wd := wd) hn hwd 60 0 (t, mon, lost, cp 6 hd hd0, cp 6 sd sd0, cp 6 md md0) 0 0 63 (Nat.zero_le _) hS hi'
  have hra := run_a (f := f) (mt := cp 6 mt mt0) (wd := wd) (n := n) 60 0 (t, mon, lost, cp 6 hd hd0, cp 6 sd sd0, cp 6 md md0) 0 0 63
  rw [hsa] at x1
  generalize runS f (cp 6 mt mt0) wd n 60 0 (t, mon, lost, cp 6 hd hd0, cp 6 sd sd0, cp 6 md md0) 0 0 63 = R at x1 y1 y2 y3 hri hra
  refine ⟨R.1, cp 6 mt mt0, kd', on', ot', R.2.1, R.2.2.1, R.2.2.2.1, R.2.2.2.2, now', re', ?_, ?_, y2, hri, y3, hm', by omega⟩
  · unfold f_Trial_run f_Trial_begin
    simp only [copy_ev, Option.bind_some, faultX f hn, if_pos hS]
    exact x1
  · unfold f_Model_goSeasons
    rw [e1, Option.bind_some]
    exact y1
