/-! pure rows: ask -/
/-- how many below k fit and have v WANTING -/
def cv (F : Nat → Bool) (w : Nat → Nat) (v : Nat) : Nat → Nat
  | 0 => 0
  | k + 1 => if F k = true ∧ w k = v then cv F w v k + 1 else cv F w v k
theorem cv_le (F : Nat → Bool) (w : Nat → Nat) (v : Nat) : ∀ k, cv F w v k ≤ k := by
  intro k
  induction k with
  | zero => exact Nat.le_refl _
  | succ k ih => rw [cv]; split <;> omega
theorem cv_mono (F : Nat → Bool) (w : Nat → Nat) (v k : Nat) : ∀ d, cv F w v k ≤ cv F w v (k + d) := by
  intro d
  induction d with
  | zero => exact Nat.le_refl _
  | succ d ih => rw [← Nat.add_assoc, cv]; split <;> omega
/-- the class's greatest tally; the reference's -/
def mx (F : Nat → Bool) (w : Nat → Nat) : Nat → Nat
  | 0 => 0
  | k + 1 => if F k = true then max (mx F w k) (cv F w (w k) (k + 1)) else mx F w k
def m2 (F : Nat → Bool) (w : Nat → Nat) : Nat → Nat
  | 0 => 0
  | k + 1 => max (m2 F w k) (if F k = true then cv F w (w k) 64 else 0)
theorem mx_le_m2 (F : Nat → Bool) (w : Nat → Nat) : ∀ k, k ≤ 64 → mx F w k ≤ m2 F w k := by
  intro k
  induction k with
  | zero => intro _; exact Nat.le_refl _
  | succ k ih =>
    intro hk
    have h1 := ih (by omega)
    rw [mx, m2]
    by_cases h : F k = true
    · rw [if_pos h, if_pos h]
      have h2 := cv_mono F w (w k) (k + 1) (64 - (k + 1))
      rw [show k + 1 + (64 - (k + 1)) = 64 by omega] at h2
      omega
    · rw [if_neg h, if_neg h]; omega
theorem cv_le_mx (F : Nat → Bool) (w : Nat → Nat) (v : Nat) : ∀ k, cv F w v k ≤ mx F w k := by
  intro k
  induction k with
  | zero => exact Nat.le_refl _
  | succ k ih =>
    rw [mx]
    by_cases h : F k = true
    · rw [if_pos h]
      by_cases h2 : w k = v
      · subst h2; omega
      · rw [show cv F w v (k + 1) = cv F w v k by rw [cv, if_neg (fun z => h2 z.2)]]; omega
    · rw [if_neg h, show cv F w v (k + 1) = cv F w v k by rw [cv, if_neg (fun z => h z.1)]]; exact ih
theorem m2_le (F : Nat → Bool) (w : Nat → Nat) : ∀ k, m2 F w k ≤ mx F w 64 := by
  intro k
  induction k with
  | zero => exact Nat.zero_le _
  | succ k ih =>
    rw [m2]
    have := cv_le_mx F w (w k) 64
    split <;> omega
theorem mx_m2 (F : Nat → Bool) (w : Nat → Nat) : m2 F w 64 = mx F w 64 := Nat.le_antisymm (m2_le F w 64) (mx_le_m2 F w 64 (Nat.le_refl _))
theorem mx_64 (F : Nat → Bool) (w : Nat → Nat) : ∀ k, mx F w k ≤ k := by
  intro k
  induction k with
  | zero => exact Nat.le_refl _
  | succ k ih =>
    rw [mx]
    have := cv_le F w (w k) (k + 1)
    split <;> omega
theorem mx_pos {F : Nat → Bool} (w : Nat → Nat) {k : Nat} (h : 0 < cN F k) : 0 < mx F w k := by
  induction k with
  | zero => exact absurd h (by simp [cN])
  | succ k ih =>
    rw [cN] at h
    rw [mx]
    by_cases hF : F k = true
    · rw [if_pos hF]
      have : cv F w (w k) (k + 1) = cv F w (w k) k + 1 := by rw [cv, if_pos ⟨hF, rfl⟩]
      omega
    · rw [if_neg hF]; rw [if_neg hF] at h; exact ih h
theorem mx_zero {F : Nat → Bool} (w : Nat → Nat) {k : Nat} (h : cN F k = 0) : mx F w k = 0 := by
  induction k with
  | zero => rfl
  | succ k ih =>
    rw [cN] at h
    rw [mx]
    by_cases hF : F k = true
    · rw [if_pos hF] at h; omega
    · rw [if_neg hF]; rw [if_neg hF] at h; exact ih h
theorem alike_ev {t : Int32} {hd sn sets : Nat → Int32} (hb : bnd 6 hd 0 99) {F : Nat → Bool} (hs : ∀ y, y < 64 → F y = true → sets (cN F y) = nI y) {r : Nat} (hr : r < 6) : ∀ d k tl, k + d = 64 → (∀ v, v < 595 → tl v = nI (cv F (fun y => wN t hd (sn r &&& nI y) 6) v k)) → ∃ tl', ev (fun s : Int32 × Int32 × (Nat → Int32) => b_Guess_mostAlike_1 (nI r) (nI (cN F 64)) sets sn t hd s.1 s.2.1 s.2.2) (nI (mx F (fun y => wN t hd (sn r &&& nI y) 6) k), nI (cN F k), tl) = some (nI (mx F (fun y => wN t hd (sn r &&& nI y) 6) 64), tl') := by
  intro d
  induction d with
  | zero =>
    intro k tl hk hI
    have : k = 64 := by omega
    subst this
    have := cN_le F 64
    refine ⟨tl, ev_inr ?_⟩
    show b_Guess_mostAlike_1 (nI r) (nI (cN F 64)) sets sn t hd _ (nI (cN F 64)) tl = _
    unfold b_Guess_mostAlike_1
    rw [if_pos (nI_le (Nat.le_refl _) (by omega))]
  | succ d ih =>
    intro k tl hk hI
    have hck := cN_le F k
    by_cases hF : F k = true
    · have hcN : cN F (k + 1) = cN F k + 1 := by rw [cN, if_pos hF]
      have hm := cN_mono F (k + 1) (64 - (k + 1))
      rw [show k + 1 + (64 - (k + 1)) = 64 by omega, hcN] at hm
      have h64 := cN_le F 64
      have hw := wN_le (t := t) (x := sn r &&& nI k) hb 6 (Nat.le_refl _)
      have hcv : cv F (fun y => wN t hd (sn r &&& nI y) 6) (wN t hd (sn r &&& nI k) 6) (k + 1) = cv F (fun y => wN t hd (sn r &&& nI y) 6) (wN t hd (sn r &&& nI k) 6) k + 1 := by rw [cv, if_pos ⟨hF, rfl⟩]
      have hcl := cv_le F (fun y => wN t hd (sn r &&& nI y) 6) (wN t hd (sn r &&& nI k) 6) k
      have hmx := mx_64 F (fun y => wN t hd (sn r &&& nI y) 6) k
      obtain ⟨tl', e1⟩ := ih (k + 1) (upd tl (wN t hd (sn r &&& nI k) 6) (nI (cv F (fun y => wN t hd (sn r &&& nI y) 6) (wN t hd (sn r &&& nI k) 6) (k + 1)))) (by omega) (fun v hv => by
        by_cases hvk : v = wN t hd (sn r &&& nI k) 6
        · subst hvk; rw [up_s]
        · rw [up_n hvk, hI v hv]
          rw [cv, if_neg (fun z => hvk z.2.symm)])
      refine ⟨tl', ?_⟩
      rw [← e1, hcN]
      refine ev_inl ?_
      show b_Guess_mostAlike_1 (nI r) (nI (cN F 64)) sets sn t hd (nI (mx F (fun y => wN t hd (sn r &&& nI y) 6) k)) (nI (cN F k)) tl = _
      unfold b_Guess_mostAlike_1
      have i595 := ix_t (show wN t hd (sn r &&& nI k) 6 < 595 by omega) (by decide)
      rw [if_neg (nI_ge (by omega) (by omega)), if_neg (lge (L := 64) (N := 64) rfl (by omega) (by decide)), if_pos (ix_t (by omega) (by decide)), cl_n (by omega), hs k (by omega) hF, want_ev hb hr, Option.bind_some, if_neg (nI_pos (by omega)), if_neg (lge (L := 595) (N := 595) rfl (by omega) (by decide)), if_pos i595, if_pos i595, if_pos i595, cl_n (by omega), up_s, hI _ (by omega), nI_1, nI_1, ← hcv]
      have hmm : mx F (fun y => wN t hd (sn r &&& nI y) 6) (k + 1) = max (mx F (fun y => wN t hd (sn r &&& nI y) 6) k) (cv F (fun y => wN t hd (sn r &&& nI y) 6) (wN t hd (sn r &&& nI k) 6) (k + 1)) := by rw [mx, if_pos hF]
      rw [hmm]
      by_cases hlt : mx F (fun y => wN t hd (sn r &&& nI y) 6) k < cv F (fun y => wN t hd (sn r &&& nI y) 6) (wN t hd (sn r &&& nI k) 6) (k + 1)
      · rw [if_pos (nI_lt hlt (by omega)), Nat.max_eq_right (by omega)]
      · rw [if_neg (nI_nlt (by omega) (by omega)), Nat.max_eq_left (by omega)]
    · have hcN : cN F (k + 1) = cN F k := by rw [cN, if_neg hF]
      have hmx : mx F (fun y => wN t hd (sn r &&& nI y) 6) (k + 1) = mx F (fun y => wN t hd (sn r &&& nI y) 6) k := by rw [mx, if_neg hF]
      obtain ⟨tl', e1⟩ := ih (k + 1) tl (by omega) (fun v hv => by rw [hI v hv, cv, if_neg (fun z => hF z.1)])
      rw [hcN, hmx] at e1
      exact ⟨tl', e1⟩
theorem most_ev {t : Int32} {hd sn sets : Nat → Int32} (hb : bnd 6 hd 0 99) {F : Nat → Bool} (hs : ∀ y, y < 64 → F y = true → sets (cN F y) = nI y) {r : Nat} (hr : r < 6) (tl : Nat → Int32) : ∃ tl', f_Guess_mostAlike (nI (cN F 64)) sets tl sn t hd (nI r) = some (nI (mx F (fun y => wN t hd (sn r &&& nI y) 6) 64), tl') := by
  obtain ⟨tl', e⟩ := alike_ev (t := t) (sn := sn) hb hs hr 64 0 (cp 595 (fun _ => 0) tl) (by omega) (fun v hv => by rw [cp_lt _ _ hv]; rfl)
  refine ⟨tl', ?_⟩
  unfold f_Guess_mostAlike
  have e' : ev (fun s : Int32 × Int32 × (Nat → Int32) => b_Guess_mostAlike_1 (nI r) (nI (cN F 64)) sets sn t hd s.1 s.2.1 s.2.2) ((0 : Int32), (0 : Int32), cp 595 (fun _ => 0) tl) = some (nI (mx F (fun y => wN t hd (sn r &&& nI y) 6) 64), tl') := e
  rw [fill_ev (by decide), Option.bind_some, e']; rfl
/-- the rock to be asked about, and what is left at most, behind k rocks -/
def aR (M : Nat → Nat) : Nat → Nat × Nat
  | 0 => (0, M 0)
  | k + 1 => if (aR M k).2 ≤ M (k + 1) then aR M k else (k + 1, M (k + 1))
theorem aR_b {M : Nat → Nat} (hM : ∀ r, r < 6 → M r ≤ 64) : ∀ k, k < 6 → (aR M k).1 ≤ k ∧ (aR M k).2 ≤ 64 := by
  intro k
  induction k with
  | zero => intro h; exact ⟨Nat.le_refl _, hM 0 h⟩
  | succ k ih =>
    intro h
    have := ih (by omega)
    rw [aR]
    split
    · omega
    · exact ⟨Nat.le_refl _, hM (k + 1) h⟩
theorem next_rock {t : Int32} {hd sn sets : Nat → Int32} (hb : bnd 6 hd 0 99) {F : Nat → Bool} (hs : ∀ y, y < 64 → F y = true → sets (cN F y) = nI y) {M : Nat → Nat} (hM : ∀ r, r < 6 → M r = mx F (fun y => wN t hd (sn r &&& nI y) 6) 64) : ∀ d k tl, k + 1 + d = 6 → ∃ tl', ev (fun s : Int32 × Int32 × Int32 × (Nat → Int32) => b_Guess_findNextRock_1 (nI (cN F 64)) sets sn t hd s.1 s.2.1 s.2.2.1 s.2.2.2) (nI (k + 1), nI (aR M k).1, nI (aR M k).2, tl) = some (nI (aR M 5).1, nI (aR M 5).2, tl') := by
  have hM64 : ∀ r, r < 6 → M r ≤ 64 := fun r hr => by rw [hM r hr]; exact mx_64 F _ 64
  intro d
  induction d with
  | zero =>
    intro k tl hk
    have : k = 5 := by omega
    subst this
    refine ⟨tl, ev_inr ?_⟩
    show b_Guess_findNextRock_1 (nI (cN F 64)) sets sn t hd (nI 6) _ _ tl = _
    unfold b_Guess_findNextRock_1
    rw [if_pos (lle (L := 6) (N := 6) rfl)]
  | succ d ih =>
    intro k tl hk
    have hk6 : k + 1 < 6 := by omega
    obtain ⟨tl1, e1⟩ := most_ev (t := t) (sn := sn) hb hs hk6 tl
    rw [← hM (k + 1) hk6] at e1
    obtain ⟨b1, b2⟩ := aR_b hM64 k (by omega)
    have b3 := hM64 (k + 1) hk6
    obtain ⟨tl', e2⟩ := ih (k + 1) tl1 (by omega)
    refine ⟨tl', ?_⟩
    rw [← e2]
    refine ev_inl ?_
    show b_Guess_findNextRock_1 (nI (cN F 64)) sets sn t hd (nI (k + 1)) (nI (aR M k).1) (nI (aR M k).2) tl = _
    unfold b_Guess_findNextRock_1
    rw [if_neg (lge (L := 6) rfl hk6 (by decide)), e1, Option.bind_some]
    show (if nI (aR M k).1 = -6 then _ else _) = _
    rw [if_neg (nI_n6 (by omega)), nI_1, aR]
    by_cases h : (aR M k).2 ≤ M (k + 1)
    · rw [if_pos (nI_le h (by omega)), if_pos h]
    · rw [if_neg (nI_ge (by omega) (by omega)), if_neg h]
theorem ask3_ev {t mon lost : Int32} {hd sd md book sn rk count : Nat → Int32} {c : Int32} {F : Nat → Bool} (hF : ∀ y, f_Model_isFit book rk c count (nI y) = some (if F y = true then 1 else 0)) (hr : rSea t mon lost hd sd md book) (hb : bnd 6 hd 0 99) (he : eqn 6 sn rk) {r : Nat} (hr6 : r < 6) (hsub : ∀ y, F y = true → ∀ k, k < 6 → thr (sn r &&& nI y) k = true → thr t k = true) (x : Nat) : ev (fun s : Int32 × Int32 => b_Model_ask_3 (nI r) (nI x) book rk c count s.1 s.2) ((0 : Int32), (0 : Int32)) = some (nI (if F x = true then cv F (fun y => wN t hd (sn r &&& nI y) 6) (wN t hd (sn r &&& nI x) 6) 64 else 0)) := by
  by_cases hx : F x = true
  · rw [if_pos hx]
    refine ev_cnt (fun k => (nI (cv F (fun y => wN t hd (sn r &&& nI y) 6) (wN t hd (sn r &&& nI x) 6) k), nI k)) 64 rfl (fun k hk => ?_) ?_
    · show b_Model_ask_3 (nI r) (nI x) book rk c count (nI (cv F (fun y => wN t hd (sn r &&& nI y) 6) (wN t hd (sn r &&& nI x) 6) k)) (nI k) = _
      unfold b_Model_ask_3
      rw [if_neg (lge (L := 64) (N := 64) rfl (by omega) (by decide)), hF x, Option.bind_some, if_pos hx, if_neg one_ne, hF k, Option.bind_some, cv, nI_1, nI_1, add0]
      by_cases hk2 : F k = true
      · have w1 := wN_le (t := t) (x := sn r &&& nI k) hb 6 (Nat.le_refl _)
        have w2 := wN_le (t := t) (x := sn r &&& nI x) hb 6 (Nat.le_refl _)
        rw [if_pos hk2, if_neg one_ne, mwant_ev hr hb he hr6 (hsub k hk2), mwant_ev hr hb he hr6 (hsub x hx), Option.bind_some, Option.bind_some]
        by_cases h : wN t hd (sn r &&& nI k) 6 = wN t hd (sn r &&& nI x) 6
        · rw [if_pos (by rw [h]), if_pos ⟨hk2, h⟩]
        · rw [if_neg (fun z => h ((nI_eq (by omega) (by omega)).mp z)), if_neg (fun z => h z.2)]
      · rw [if_neg hk2, if_pos rfl, if_neg (fun z => hk2 z.1)]
    · show b_Model_ask_3 (nI r) (nI x) book rk c count _ (nI 64) = _
      unfold b_Model_ask_3
      rw [if_pos (lle (L := 64) (N := 64) rfl)]
  · rw [if_neg hx]
    refine ev_inr ?_
    show b_Model_ask_3 (nI r) (nI x) book rk c count 0 0 = _
    unfold b_Model_ask_3
    rw [if_neg (by decide), hF x, Option.bind_some, if_neg hx, if_pos rfl]
    rfl
theorem ask2_ev {t mon lost : Int32} {hd sd md book sn rk count : Nat → Int32} {c : Int32} {F : Nat → Bool} (hF : ∀ y, f_Model_isFit book rk c count (nI y) = some (if F y = true then 1 else 0)) (hr : rSea t mon lost hd sd md book) (hb : bnd 6 hd 0 99) (he : eqn 6 sn rk) {r : Nat} (hr6 : r < 6) (hsub : ∀ y, F y = true → ∀ k, k < 6 → thr (sn r &&& nI y) k = true → thr t k = true) : ev (fun s : Int32 × Int32 => b_Model_ask_2 (nI r) book rk c count s.1 s.2) ((0 : Int32), (0 : Int32)) = some (nI (mx F (fun y => wN t hd (sn r &&& nI y) 6) 64)) := by
  rw [← mx_m2]
  have hm2 : ∀ k, m2 F (fun y => wN t hd (sn r &&& nI y) 6) k ≤ 64 := fun k => Nat.le_trans (m2_le F _ k) (mx_64 F _ 64)
  refine ev_cnt (fun k => (nI (m2 F (fun y => wN t hd (sn r &&& nI y) 6) k), nI k)) 64 rfl (fun k hk => ?_) ?_
  · show b_Model_ask_2 (nI r) book rk c count (nI (m2 F (fun y => wN t hd (sn r &&& nI y) 6) k)) (nI k) = _
    have h1 := hm2 k
    have h2 : (if F k = true then cv F (fun y => wN t hd (sn r &&& nI y) 6) (wN t hd (sn r &&& nI k) 6) 64 else 0) ≤ 64 := by
      have := cv_le F (fun y => wN t hd (sn r &&& nI y) 6) (wN t hd (sn r &&& nI k) 6) 64
      split <;> omega
    unfold b_Model_ask_2
    rw [if_neg (lge (L := 64) (N := 64) rfl (by omega) (by decide)), ask3_ev hF hr hb he hr6 hsub k, Option.bind_some, nI_1]
    show _ = some (Sum.inl (nI (max (m2 F (fun y => wN t hd (sn r &&& nI y) 6) k) (if F k = true then cv F (fun y => wN t hd (sn r &&& nI y) 6) (wN t hd (sn r &&& nI k) 6) 64 else 0)), nI (k + 1)))
    generalize (if F k = true then cv F (fun y => wN t hd (sn r &&& nI y) 6) (wN t hd (sn r &&& nI k) 6) 64 else 0) = q at h2
    by_cases h : q ≤ m2 F (fun y => wN t hd (sn r &&& nI y) 6) k
    · rw [if_pos (nI_le h (by omega)), Nat.max_eq_left h]
    · rw [if_neg (nI_ge (by omega) (by omega)), Nat.max_eq_right (by omega)]
  · show b_Model_ask_2 (nI r) book rk c count _ (nI 64) = _
    unfold b_Model_ask_2
    rw [if_pos (lle (L := 64) (N := 64) rfl)]
theorem e_ask {t mon lost : Int32} {hd sd md mt book sn rk cr cw count : Nat → Int32} (hr : rSea t mon lost hd sd md book) (hi : iSea t mon hd sd md mt) (he : eqn 6 sn rk) (hsn : bnd 6 sn 0 63) (hc : bnd 8 cr 0 5) (hk : rCnt cr cw count) {n : Nat} (hn : n ≤ 8) (sz : Int32) (sets : Nat → Int32) (nr lm : Int32) (tl : Nat → Int32) (p1 : Int32) : ∃ r x, f_Strait_ask t hd sn (nI n) cr cw sz sets nr lm tl p1 = some (r, x) ∧ f_Model_ask book rk (nI n) count p1 = some r := by
  have hb := hi.2.2.1
  have hF := isFit_ev hr hi.1 hb he hsn hc hk hn
  have hsub : ∀ r, r < 6 → ∀ y, fF t hd sn cr cw n y = true → ∀ k, k < 6 → thr (sn r &&& nI y) k = true → thr t k = true := by
    intro r hr6 y hy
    unfold fF at hy
    rw [Bool.and_eq_true, decide_eq_true_iff] at hy
    exact sub_ok hi.1 hsn hr6 hy.1
  obtain ⟨s', e1, e2⟩ := findSets_ev (t := t) (hd := hd) (sn := sn) (cr := cr) (cw := cw) hb hc hn sz sets
  unfold f_Strait_ask f_Model_ask
  rw [in_within]
  rcases win p1 (A := 0) (B := 1) 0 1 rfl rfl (by decide) (by decide) with c1 | ⟨c1, q, hq0, hq, rfl⟩
  · rw [if_pos c1, if_pos c1]; exact ⟨_, _, rfl, rfl⟩
  have n1 : ¬ f_Strait_within (nI q) 0 1 = 0 := by rw [c1]; exact one_ne
  rw [if_neg n1, if_neg n1, e1, Option.bind_some]
  generalize fF t hd sn cr cw n = F at hF hsub e2
  have h64 := cN_le F 64
  have hstep : ∀ r, r < 6 → ∀ a b : Int32, b_Model_ask_1 book rk (nI n) count a b (nI r) = (if nI (mx F (fun y => wN t hd (sn r &&& nI y) 6) 64) ≤ 0 then some (.inl (a, b, nI (r + 1))) else if b ≤ nI (mx F (fun y => wN t hd (sn r &&& nI y) 6) 64) then some (.inl (a, b, nI (r + 1))) else some (.inl (nI r, nI (mx F (fun y => wN t hd (sn r &&& nI y) 6) 64), nI (r + 1)))) := by
    intro r hr6 a b
    unfold b_Model_ask_1
    rw [if_neg (lge (L := 6) rfl hr6 (by decide)), ask2_ev hF hr hb he hr6 (hsub r hr6), Option.bind_some, nI_1, if_pos rfl, if_pos rfl, if_neg one_ne, if_neg one_ne]
  have hend : ∀ a b : Int32, b_Model_ask_1 book rk (nI n) count a b (nI 6) = some (.inr (a, b)) := by
    intro a b
    unfold b_Model_ask_1
    rw [if_pos (lle (L := 6) (N := 6) rfl)]
  by_cases h0 : cN F 64 = 0
  · have m1 : ev (fun s : Int32 × Int32 × Int32 => b_Model_ask_1 book rk (nI n) count s.1 s.2.1 s.2.2) ((-6 : Int32), (1000000 : Int32), (0 : Int32)) = some (-6, 1000000) := by
      refine ev_cnt (fun k => (-6, 1000000, nI k)) 6 rfl (fun k hk6 => ?_) (hend _ _)
      show b_Model_ask_1 book rk (nI n) count (-6) 1000000 (nI k) = _
      rw [hstep k hk6, mx_zero _ h0, if_pos (by decide)]
    rw [h0, m1, Option.bind_some]
    exact ⟨_, _, rfl, rfl⟩
  · have hM64 : ∀ r, r < 6 → mx F (fun y => wN t hd (sn r &&& nI y) 6) 64 ≤ 64 := fun r _ => mx_64 F _ 64
    have hM0 : ∀ r, 0 < mx F (fun y => wN t hd (sn r &&& nI y) 6) 64 := fun r => mx_pos _ (by omega)
    obtain ⟨tl1, k1⟩ := most_ev (t := t) (sn := sn) hb e2 (show 0 < 6 by decide) tl
    obtain ⟨tl2, k2⟩ := next_rock (t := t) (sn := sn) hb e2 (M := fun r => mx F (fun y => wN t hd (sn r &&& nI y) 6) 64) (fun r _ => rfl) 5 0 tl1 (by omega)
    have hx : f_Guess_findNextRock (nI (cN F 64)) s' nr lm tl sn t hd = some (nI (aR (fun r => mx F (fun y => wN t hd (sn r &&& nI y) 6) 64) 5).1, nI (aR (fun r => mx F (fun y => wN t hd (sn r &&& nI y) 6) 64) 5).2, tl2) := by
      unfold f_Guess_findNextRock
      have hev : ev (fun s : Int32 × Int32 × Int32 × (Nat → Int32) => b_Guess_findNextRock_1 (nI (cN F 64)) s' sn t hd s.1 s.2.1 s.2.2.1 s.2.2.2) ((0 : Int32), (-6 : Int32), (-6 : Int32), tl) = some (nI (aR (fun r => mx F (fun y => wN t hd (sn r &&& nI y) 6) 64) 5).1, nI (aR (fun r => mx F (fun y => wN t hd (sn r &&& nI y) 6) 64) 5).2, tl2) := by
        rw [← k2]
        refine ev_inl ?_
        show b_Guess_findNextRock_1 (nI (cN F 64)) s' sn t hd (nI 0) (-6) (-6) tl = _
        unfold b_Guess_findNextRock_1
        rw [if_neg (by decide), k1, Option.bind_some, nI_1]
        rfl
      rw [hev]; rfl
    have m1 : ev (fun s : Int32 × Int32 × Int32 => b_Model_ask_1 book rk (nI n) count s.1 s.2.1 s.2.2) ((-6 : Int32), (1000000 : Int32), (0 : Int32)) = some (nI (aR (fun r => mx F (fun y => wN t hd (sn r &&& nI y) 6) 64) 5).1, nI (aR (fun r => mx F (fun y => wN t hd (sn r &&& nI y) 6) 64) 5).2) := by
      have s0 : b_Model_ask_1 book rk (nI n) count (-6) 1000000 (nI 0) = some (.inl (nI 0, nI (mx F (fun y => wN t hd (sn 0 &&& nI y) 6) 64), nI 1)) := by
        have hz := hM64 0 (by decide)
        rw [hstep 0 (by decide), if_neg (nI_nle (hM0 0) (by omega)), if_neg (lge (L := 1000000) (N := 1000000) rfl (by omega) (by decide))]
      have : ∀ d k, k + 1 + d = 6 → ev (fun s : Int32 × Int32 × Int32 => b_Model_ask_1 book rk (nI n) count s.1 s.2.1 s.2.2) (nI (aR (fun r => mx F (fun y => wN t hd (sn r &&& nI y) 6) 64) k).1, nI (aR (fun r => mx F (fun y => wN t hd (sn r &&& nI y) 6) 64) k).2, nI (k + 1)) = some (nI (aR (fun r => mx F (fun y => wN t hd (sn r &&& nI y) 6) 64) 5).1, nI (aR (fun r => mx F (fun y => wN t hd (sn r &&& nI y) 6) 64) 5).2) := by
        intro d
        induction d with
        | zero =>
          intro k hk
          have : k = 5 := by omega
          subst this
          exact ev_inr (hend _ _)
        | succ d ih =>
          intro k hk
          have hk6 : k + 1 < 6 := by omega
          rw [← ih (k + 1) (by omega)]
          refine ev_inl ?_
          show b_Model_ask_1 book rk (nI n) count _ _ (nI (k + 1)) = _
          have hb3 := hM64 (k + 1) hk6
          have hb4 := (aR_b hM64 k (by omega)).2
          rw [hstep (k + 1) hk6, if_neg (nI_nle (hM0 (k + 1)) (by omega))]
          show _ = some (Sum.inl (nI (aR (fun r => mx F (fun y => wN t hd (sn r &&& nI y) 6) 64) (k + 1)).1, nI (aR (fun r => mx F (fun y => wN t hd (sn r &&& nI y) 6) 64) (k + 1)).2, nI (k + 1 + 1)))
          rw [aR]
          by_cases h : (aR (fun r => mx F (fun y => wN t hd (sn r &&& nI y) 6) 64) k).2 ≤ mx F (fun y => wN t hd (sn (k + 1) &&& nI y) 6) 64
          · rw [if_pos (nI_le h (by omega)), if_pos h]
          · rw [if_neg (nI_ge (by omega) (by omega)), if_neg h]
      have h5 := this 5 0 (by omega)
      rw [← h5]
      exact ev_inl s0
    have hne : ¬ nI (cN F 64) = 0 := nI_ne0 (by omega) (by omega)
    have hb5 := aR_b hM64 5 (by decide)
    rw [m1, Option.bind_some]
    show ∃ r x, (if nI (cN F 64) = 0 then _ else (f_Guess_findNextRock (nI (cN F 64)) s' nr lm tl sn t hd).bind _) = _ ∧ (if nI _ < 0 then _ else _) = _
    rw [if_neg hne, hx, Option.bind_some, if_neg (nI_pos (by omega))]
    rcases (show q = 0 ∨ q = 1 by omega) with rfl | rfl
    · exact ⟨_, _, rfl, rfl⟩
    · exact ⟨_, _, rfl, rfl⟩
