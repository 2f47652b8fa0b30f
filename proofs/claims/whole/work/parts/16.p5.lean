/-! pure rows: acts -/
theorem up_self (f : Nat → Int32) (k : Nat) : upd f k (f k) = f := by
  funext j
  rw [up_a]
  by_cases h : j = k
  · rw [if_pos h, h]
  · rw [if_neg h]
theorem orS_cong {b c : Nat → Bool} : ∀ k, (∀ j, j < k → b j = c j) → orS b k = orS c k := by
  intro k
  induction k with
  | zero => intro _; rfl
  | succ k ih => intro h; rw [orS, orS, ih (fun j hj => h j (by omega)), h k (by omega)]
theorem orS_bits : ∀ b0 b1 b2 b3 b4 b5 : Bool, ∀ h : Nat, h < 6 → thr (orS (fun k => [b0, b1, b2, b3, b4, b5].getD k false) 6) h = [b0, b1, b2, b3, b4, b5].getD h false := by decide +kernel
theorem thr_orS (b : Nat → Bool) {h : Nat} (hh : h < 6) : thr (orS b 6) h = b h := by
  have e : ∀ j, j < 6 → b j = [b 0, b 1, b 2, b 3, b 4, b 5].getD j false := by
    intro j hj
    rcases (show j = 0 ∨ j = 1 ∨ j = 2 ∨ j = 3 ∨ j = 4 ∨ j = 5 by omega) with rfl | rfl | rfl | rfl | rfl | rfl <;> rfl
  rw [orS_cong 6 e, orS_bits _ _ _ _ _ _ h hh, ← e h hh]
theorem orS_small (b : Nat → Bool) : ∃ n, n < 64 ∧ orS b 6 = nI n := by
  have e : ∀ j, j < 6 → b j = [b 0, b 1, b 2, b 3, b 4, b 5].getD j false := by
    intro j hj
    rcases (show j = 0 ∨ j = 1 ∨ j = 2 ∨ j = 3 ∨ j = 4 ∨ j = 5 by omega) with rfl | rfl | rfl | rfl | rfl | rfl <;> rfl
  rw [orS_cong 6 e]
  have key : ∀ b0 b1 b2 b3 b4 b5 : Bool, (orS (fun k => [b0, b1, b2, b3, b4, b5].getD k false) 6).toBitVec.toNat < 64 := by decide +kernel
  exact ⟨_, key _ _ _ _ _ _, (nI_bv _).symm⟩
def ch (y : Int32) : Int32 := if y < 9 then y else 9
def c99 (y : Int32) : Int32 := if y < 99 then y else 99
theorem ch_le (y : Int32) : (if y ≤ 9 then y else 9) = ch y := by
  unfold ch
  by_cases h : y < 9
  · rw [if_pos h, if_pos]; rw [i_lt] at h; rw [i_le]; omega
  · rw [if_neg h]
    by_cases h2 : y ≤ 9
    · rw [if_pos h2, i_eq]; rw [i_lt] at h; rw [i_le] at h2; omega
    · rw [if_neg h2]
theorem ch_bnd {j x : Nat} (hj : j ≤ 9) (hx : x ≤ 3) : ∃ i, 0 ≤ i ∧ i ≤ 9 ∧ ch (nI j + nI x) = nI i := by
  rw [nI_add]
  unfold ch
  by_cases h : nI (j + x) < 9
  · rw [if_pos h]
    have := (nI_ltI (show j + x < 2 ^ 31 by omega) (show 9 < 2 ^ 31 by decide)).mp h
    exact ⟨j + x, Nat.zero_le _, by omega, rfl⟩
  · rw [if_neg h]; exact ⟨9, by decide, by decide, rfl⟩
theorem cheer_ev (t : Int32) (md : Nat → Int32) {h : Nat} (hh : h < 6) (x : Int32) : f_Sea_cheer t md (nI h) x = some (if thr t h = true then upd md h (ch (md h + x)) else md) := by
  unfold f_Sea_cheer ch
  rw [there_thr _ hh]
  by_cases c : thr t h = true
  · simp only [c, if_true, one_ne, if_false, ix_t hh (by decide), cl_n (show h < 2 ^ 31 by omega)]
  · simp [c]
theorem rSea.m {t mon lost : Int32} {hd sd md now : Nat → Int32} (hr : rSea t mon lost hd sd md now) {h : Nat} (hh : h < 6) (x : Int32) : rSea t mon lost hd sd (upd md h x) (upd now (12 + h) x) := by
  obtain ⟨r1, r2, r3, r4⟩ := hr
  refine ⟨fun j hj => ?_, by rw [up_n (by omega)]; exact r2, by rw [up_n (by omega)]; exact r3, by rw [up_n (by omega)]; exact r4⟩
  obtain ⟨a1, a2, a3⟩ := r1 j hj
  refine ⟨by rw [up_n (by omega)]; exact a1, by rw [up_n (by omega)]; exact a2, ?_⟩
  rw [up_a, up_a, a3]
  by_cases hj2 : j = h
  · simp [hj2]
  · simp [hj2]
theorem rSea.s {t mon lost : Int32} {hd sd md now : Nat → Int32} (hr : rSea t mon lost hd sd md now) {h : Nat} (hh : h < 6) (x : Int32) : rSea t mon lost hd (upd sd h x) md (upd now (6 + h) x) := by
  obtain ⟨r1, r2, r3, r4⟩ := hr
  refine ⟨fun j hj => ?_, by rw [up_n (by omega)]; exact r2, by rw [up_n (by omega)]; exact r3, by rw [up_n (by omega)]; exact r4⟩
  obtain ⟨a1, a2, a3⟩ := r1 j hj
  refine ⟨by rw [up_n (by omega)]; exact a1, ?_, by rw [up_n (by omega)]; exact a3⟩
  rw [up_a, up_a, a2]
  by_cases hj2 : j = h
  · simp [hj2]
  · simp [hj2]
theorem rSea.h {t mon lost : Int32} {hd sd md now : Nat → Int32} (hr : rSea t mon lost hd sd md now) {h : Nat} (hh : h < 6) (x : Int32) : rSea t mon lost (upd hd h x) sd md (upd now h x) := by
  obtain ⟨r1, r2, r3, r4⟩ := hr
  refine ⟨fun j hj => ?_, by rw [up_n (by omega)]; exact r2, by rw [up_n (by omega)]; exact r3, by rw [up_n (by omega)]; exact r4⟩
  obtain ⟨a1, a2, a3⟩ := r1 j hj
  refine ⟨?_, by rw [up_n (by omega)]; exact a2, by rw [up_n (by omega)]; exact a3⟩
  rw [up_a, up_a, a1]
theorem rSea.t {t mon lost : Int32} {hd sd md now : Nat → Int32} (hr : rSea t mon lost hd sd md now) (x : Int32) : rSea x mon lost hd sd md (upd now 18 x) := by
  obtain ⟨r1, r2, r3, r4⟩ := hr
  refine ⟨fun j hj => ?_, up_s _ _ _, by rw [up_n (by omega)]; exact r3, by rw [up_n (by omega)]; exact r4⟩
  rw [up_n (by omega), up_n (by omega), up_n (by omega)]
  exact r1 j hj
theorem rSea.l {t mon lost : Int32} {hd sd md now : Nat → Int32} (hr : rSea t mon lost hd sd md now) (x : Int32) : rSea t mon x hd sd md (upd now 19 x) := by
  obtain ⟨r1, r2, r3, r4⟩ := hr
  refine ⟨fun j hj => ?_, by rw [up_n (by omega)]; exact r2, up_s _ _ _, by rw [up_n (by omega)]; exact r4⟩
  rw [up_n (by omega), up_n (by omega), up_n (by omega)]
  exact r1 j hj
theorem rSea.o {t mon lost : Int32} {hd sd md now : Nat → Int32} (hr : rSea t mon lost hd sd md now) (x : Int32) : rSea t x lost hd sd md (upd now 20 x) := by
  obtain ⟨r1, r2, r3, r4⟩ := hr
  refine ⟨fun j hj => ?_, by rw [up_n (by omega)]; exact r2, by rw [up_n (by omega)]; exact r3, up_s _ _ _⟩
  rw [up_n (by omega), up_n (by omega), up_n (by omega)]
  exact r1 j hj
theorem mcheer {t mon lost : Int32} {hd sd md now : Nat → Int32} (hr : rSea t mon lost hd sd md now) {h : Nat} (hh : h < 6) (x : Int32) : f_Model_cheer now (nI h) x = some (upd now (12 + h) (ch (md h + x))) := by
  unfold f_Model_cheer
  rw [show (12 : Int32) + nI h = nI (12 + h) from nI_add 12 h, cl_n (by omega), (hr.1 h hh).2.2]
  simp only [ix_t (show 12 + h < 21 by omega) (by decide), if_true, ← ch_le]
  by_cases c : md h + x ≤ 9 <;> simp [c]
theorem mst {t mon lost : Int32} {hd sd md now : Nat → Int32} (hr : rSea t mon lost hd sd md now) {h : Nat} (hh : h < 6) : f_Model_stands now (nI h) = if thr t h = true then 1 else 0 := by
  rw [mstands, hr.2.1, there_thr _ hh]
/-- a CLAUSE is read: HERDS below k have heard it -/
def rdP (b : Nat → Bool) (t w : Int32) (sd md : Nat → Int32) : Nat → (Nat → Int32) × (Nat → Int32)
  | 0 => (sd, md)
  | k + 1 => if b k = true then (upd (rdP b t w sd md k).1 k (1 - (rdP b t w sd md k).1 k), upd (rdP b t w sd md k).2 k ((rdP b t w sd md k).2 k - w))
    else if thr t k = true then ((rdP b t w sd md k).1, upd (rdP b t w sd md k).2 k (ch ((rdP b t w sd md k).2 k + 1))) else rdP b t w sd md k
theorem rdP_hi (b : Nat → Bool) (t w : Int32) (sd md : Nat → Int32) : ∀ k j, k ≤ j → (rdP b t w sd md k).1 j = sd j ∧ (rdP b t w sd md k).2 j = md j := by
  intro k
  induction k with
  | zero => intro j _; exact ⟨rfl, rfl⟩
  | succ k ih =>
    intro j hj
    have h := ih j (by omega)
    rw [rdP]
    split
    · exact ⟨(up_n (show j ≠ k by omega)).trans h.1, (up_n (show j ≠ k by omega)).trans h.2⟩
    · split
      · exact ⟨h.1, (up_n (show j ≠ k by omega)).trans h.2⟩
      · exact h
theorem rdP_bnd {b : Nat → Bool} {t : Int32} {wn : Nat} {sd md : Nat → Int32} (hs : bnd 6 sd 0 1) (hm : bnd 6 md 0 9) (hb : ∀ k, k < 6 → b k = true → nI wn ≤ md k) (hw : wn ≤ 9) : ∀ k, k ≤ 6 → bnd 6 (rdP b t (nI wn) sd md k).1 0 1 ∧ bnd 6 (rdP b t (nI wn) sd md k).2 0 9 := by
  intro k
  induction k with
  | zero => intro _; exact ⟨hs, hm⟩
  | succ k ih =>
    intro hk
    obtain ⟨i1, i2⟩ := ih (by omega)
    obtain ⟨h1, h2⟩ := rdP_hi b t (nI wn) sd md k k (Nat.le_refl k)
    obtain ⟨js, _, hjs, ejs⟩ := hs k (by omega)
    obtain ⟨jm, _, hjm, ejm⟩ := hm k (by omega)
    rw [rdP]
    split
    · rename_i hbk
      have hle := hb k (by omega) hbk
      rw [ejm] at hle
      have hle2 := (nI_leI (by omega) (by omega)).mp hle
      refine ⟨?_, ?_⟩
      · rw [h1, ejs, show (1 : Int32) - nI js = nI (1 - js) from pk_sub (a := 1) hjs]
        exact i1.upd k (1 - js) (Nat.zero_le _) (by omega)
      · rw [h2, ejm, pk_sub hle2]
        exact i2.upd k (jm - wn) (Nat.zero_le _) (by omega)
    · split
      · obtain ⟨i, i0, hi, ei⟩ := ch_bnd hjm (show 1 ≤ 3 by decide)
        refine ⟨i1, ?_⟩
        rw [h2, ejm, show ch (nI jm + 1) = nI i from ei]
        exact i2.upd k i i0 hi
      · exact ⟨i1, i2⟩
theorem readAloud_ev (t mon : Int32) (hd sd md mt : Nat → Int32) (w : Int32) : f_Sea_readAloud t mon hd sd md mt w = some (rdP (sg t mon hd md mt w) t w sd md 6) := by
  unfold f_Sea_readAloud
  rw [signers_ev]
  generalize hb : sg t mon hd md mt w = b
  simp only [Option.bind_some]
  rw [ev_cnt (s0 := ((0 : Int32), sd, md)) (fun k => (nI k, (rdP b t w sd md k).1, (rdP b t w sd md k).2)) 6 (r := ((rdP b t w sd md 6).1, (rdP b t w sd md 6).2)) rfl (fun k hk => by
    show b_Sea_readAloud_1 w (orS b 6) t (nI k) (rdP b t w sd md k).1 (rdP b t w sd md k).2 = _
    unfold b_Sea_readAloud_1
    rw [if_neg (lge (L := 6) rfl hk (by decide)), has_thr, thr_orS b hk, cheer_ev t _ hk, rdP]
    simp only [ix_t hk (by decide), if_true, cl_n (show k < 2 ^ 31 by omega), nI_1, Option.bind_some]
    by_cases c1 : b k = true
    · simp [c1]
    · by_cases c2 : thr t k = true <;> simp [c1, c2]) (by
    show b_Sea_readAloud_1 w (orS b 6) t (nI 6) _ _ = _
    unfold b_Sea_readAloud_1
    rw [if_pos (lle (L := 6) (N := 6) rfl)])]
  rfl
theorem mread_ev {t mon lost : Int32} {hd sd md mt mt2 wd wd2 now : Nat → Int32} (hr : rSea t mon lost hd sd md now) (hm : eqn 6 mt mt2) (hw : eqn 10 wd wd2) {c : Nat} (hc : c < 10) (rm sa : Int32) : ∃ now', f_Model_read now mt2 wd2 rm sa (nI c) = (if orS (sg t mon hd md mt (wd c)) 6 = 0 then some (2, now, rm, sa) else some (0, now', rm + 1, sa &&& orS (sg t mon hd md mt (wd c)) 6)) ∧ rSea t mon lost hd (rdP (sg t mon hd md mt (wd c)) t (wd c) sd md 6).1 (rdP (sg t mon hd md mt (wd c)) t (wd c) sd md 6).2 now' := by
  unfold f_Model_read
  rw [msigners hr hm hw hc]
  generalize hb : sg t mon hd md mt (wd c) = b
  have key : ∀ d k now, k + d = 6 → rSea t mon lost hd (rdP b t (wd c) sd md k).1 (rdP b t (wd c) sd md k).2 now → ∃ now', ev (fun s : Int32 × (Nat → Int32) => b_Model_read_1 (nI c) (orS b 6) wd2 s.1 s.2) (nI k, now) = some now' ∧ rSea t mon lost hd (rdP b t (wd c) sd md 6).1 (rdP b t (wd c) sd md 6).2 now' := by
    intro d
    induction d with
    | zero =>
      intro k now hk hr
      have : k = 6 := by omega
      subst this
      refine ⟨now, ev_inr ?_, hr⟩
      show b_Model_read_1 (nI c) (orS b 6) wd2 (nI 6) now = _
      unfold b_Model_read_1
      rw [if_pos (lle (L := 6) (N := 6) rfl)]
    | succ d ih =>
      intro k now hk hr
      have hk6 : k < 6 := by omega
      have e6 : (6 : Int32) + nI k = nI (6 + k) := nI_add 6 k
      have e12 : (12 : Int32) + nI k = nI (12 + k) := nI_add 12 k
      have hstep : ∃ now1, b_Model_read_1 (nI c) (orS b 6) wd2 (nI k) now = some (.inl (nI (k + 1), now1)) ∧ rSea t mon lost hd (rdP b t (wd c) sd md (k + 1)).1 (rdP b t (wd c) sd md (k + 1)).2 now1 := by
        unfold b_Model_read_1
        rw [if_neg (lge (L := 6) (N := 6) rfl hk6 (by decide)), has_has, has_thr, thr_orS b hk6, mst hr hk6, mcheer hr hk6, e6, e12, rdP]
        obtain ⟨a1, a2, a3⟩ := hr.1 k hk6
        simp only [ix_t (show 6 + k < 21 by omega) (by decide), ix_t (show 12 + k < 21 by omega) (by decide), ix_t hc (by decide), if_true, cl_n (show 6 + k < 2 ^ 31 by omega), cl_n (show 12 + k < 2 ^ 31 by omega), cl_n (show c < 2 ^ 31 by omega), nI_1, Option.bind_some, up_n (show 12 + k ≠ 6 + k by omega), a2, a3, ← hw c hc]
        by_cases c1 : b k = true
        · simp only [c1, if_true, one_ne, if_false]
          exact ⟨_, rfl, (hr.s hk6 _).m hk6 _⟩
        · by_cases c2 : thr t k = true
          · simp only [c1, c2, if_true, one_ne, if_false]
            exact ⟨_, rfl, hr.m hk6 _⟩
          · simp only [c1, c2, if_true, if_false]
            exact ⟨_, rfl, hr⟩
      obtain ⟨now1, g1, g2⟩ := hstep
      rw [ev_inl (t := (nI (k + 1), now1)) g1]
      exact ih (k + 1) now1 (by omega) g2
  obtain ⟨now', g1, g2⟩ := key 6 0 now rfl hr
  refine ⟨now', ?_, g2⟩
  have g1' : ev (fun s : Int32 × (Nat → Int32) => b_Model_read_1 (nI c) (orS b 6) wd2 s.1 s.2) ((0 : Int32), now) = some now' := g1
  simp only [Option.bind_some]
  by_cases h0 : orS b 6 = 0
  · rw [if_pos h0, if_pos h0]
  · rw [if_neg h0, if_neg h0, g1']
    rfl
