/-! pure rows: what WANTS off a rock; sets that fit; went -/
theorem sub_thr : ∀ a : Nat, a < 64 → ∀ n : Nat, n < 64 → ∀ k : Nat, k < 6 → nI a &&& (nI n ^^^ -1) = 0 → thr (nI a) k = true → thr (nI n) k = true := by decide +kernel
def wN (t : Int32) (hd : Nat → Int32) (x : Int32) : Nat → Nat
  | 0 => 0
  | k + 1 => if thr x k = true ∧ thr t k = true then wN t hd x k + (hd k).toNatClampNeg else wN t hd x k
theorem wN_le {t x : Int32} {hd : Nat → Int32} (h : bnd 6 hd 0 99) : ∀ k, k ≤ 6 → wN t hd x k ≤ 99 * k := by
  intro k
  induction k with
  | zero => intro _; exact Nat.le_refl _
  | succ k ih =>
    intro hk
    have h1 := ih (by omega)
    have h2 := (bnd_cl (by decide) h (show k < 6 by omega)).2
    rw [wN]
    by_cases h3 : thr x k = true ∧ thr t k = true
    · rw [if_pos h3]; omega
    · rw [if_neg h3]; omega
theorem headsOf_ev {t : Int32} {hd : Nat → Int32} (hb : bnd 6 hd 0 99) (x : Int32) : f_Sea_headsOf t hd x = some (nI (wN t hd x 6)) := by
  unfold f_Sea_headsOf
  rw [ev_cnt (s0 := ((0 : Int32), (0 : Int32))) (fun k => (nI (wN t hd x k), nI k)) 6 (r := nI (wN t hd x 6)) rfl (fun k hk => by
    show b_Sea_headsOf_1 x t hd (nI (wN t hd x k)) (nI k) = _
    have h2 := (bnd_cl (by decide) hb hk).1
    have h4 : nI (wN t hd x k) + hd k = nI (wN t hd x k + (hd k).toNatClampNeg) := by rw [← nI_add, ← h2]
    unfold b_Sea_headsOf_1
    rw [if_neg (lge (L := 6) rfl hk (by decide)), has_thr, there_thr t hk, if_pos (ix_t hk (by decide)), cl_n (by omega), nI_1, h4, wN]
    by_cases h1 : thr x k = true
    · rw [if_pos h1, if_neg one_ne]
      by_cases h3 : thr t k = true
      · rw [if_pos h3, if_neg one_ne, if_pos ⟨h1, h3⟩]
      · rw [if_neg h3, if_pos rfl, if_neg (fun z => h3 z.2)]
    · rw [if_neg h1, if_pos rfl, if_neg (fun z => h1 z.1)]) (by
    show b_Sea_headsOf_1 x t hd _ (nI 6) = _
    unfold b_Sea_headsOf_1
    rw [if_pos (lle (L := 6) (N := 6) rfl)])]
  rfl
theorem want_ev {t : Int32} {hd sn : Nat → Int32} (hb : bnd 6 hd 0 99) {r : Nat} (hr : r < 6) (s : Int32) : f_Lookout_wantingOff sn t hd (nI r) s = some (nI (wN t hd (sn r &&& s) 6)) := by
  unfold f_Lookout_wantingOff
  rw [show f_Strait_within (nI r) 0 5 = 1 from win1 (a := 0) (b := 5) (by omega) (by omega) (by decide), if_neg one_ne, if_pos (ix_t hr (by decide)), cl_n (by omega), headsOf_ev hb]
  rfl
theorem mwant_ev {t mon lost : Int32} {hd sd md book sn rk : Nat → Int32} (hr : rSea t mon lost hd sd md book) (hb : bnd 6 hd 0 99) (he : eqn 6 sn rk) {r : Nat} (hr6 : r < 6) {s : Int32} (hs : ∀ k, k < 6 → thr (sn r &&& s) k = true → thr t k = true) : f_Model_wantingOff book rk (nI r) s = some (nI (wN t hd (sn r &&& s) 6)) := by
  unfold f_Model_wantingOff
  rw [ev_cnt (s0 := ((0 : Int32), (0 : Int32))) (fun k => (nI (wN t hd (sn r &&& s) k), nI k)) 6 (r := nI (wN t hd (sn r &&& s) 6)) rfl (fun k hk => by
    show b_Model_wantingOff_1 (nI r) s book rk (nI (wN t hd (sn r &&& s) k)) (nI k) = _
    have h2 := (bnd_cl (by decide) hb hk).1
    have h4 : nI (wN t hd (sn r &&& s) k) + hd k = nI (wN t hd (sn r &&& s) k + (hd k).toNatClampNeg) := by rw [← nI_add, ← h2]
    have h5 : s &&& rk r = sn r &&& s := by rw [Int32.and_comm, he r hr6]
    unfold b_Model_wantingOff_1
    rw [if_neg (lge (L := 6) rfl hk (by decide)), if_pos (ix_t hr6 (by decide)), cl_n (show r < 2 ^ 31 by omega), h5, has_has, has_thr, if_pos (ix_t (show k < 21 by omega) (by decide)), cl_n (show k < 2 ^ 31 by omega), (hr.1 k hk).1, nI_1, h4, add0, wN]
    by_cases h1 : thr (sn r &&& s) k = true
    · rw [if_pos h1, if_neg one_ne, if_pos ⟨h1, hs k hk h1⟩]
    · rw [if_neg h1, if_pos rfl, if_neg (fun z => h1 z.1)]) (by
    show b_Model_wantingOff_1 (nI r) s book rk _ (nI 6) = _
    unfold b_Model_wantingOff_1
    rw [if_pos (lle (L := 6) (N := 6) rfl)])]
  rfl
theorem sub_ok {t : Int32} {sn : Nat → Int32} (ht : ∃ n, n < 64 ∧ t = nI n) (hs : bnd 6 sn 0 63) {r y : Nat} (hr : r < 6) (hy : nI y &&& (t ^^^ -1) = 0) : ∀ k, k < 6 → thr (sn r &&& nI y) k = true → thr t k = true := by
  intro k hk h
  obtain ⟨n, hn, rfl⟩ := ht
  obtain ⟨v, _, hv, hv2⟩ := hs r hr
  obtain ⟨j, _, hj, hj2⟩ := and_bnd (v := v) hv (by decide) (nI y)
  have h0 : nI j &&& (nI n ^^^ -1) = 0 := by rw [← hj2, Int32.and_assoc, hy]; exact Int32.and_zero
  rw [hv2, hj2] at h
  exact sub_thr j (by omega) n hn k hk h0 h
/-- d COUNTS from i on fit the set y -/
def ftS (t : Int32) (hd sn cr cw : Nat → Int32) (y : Nat) : Nat → Nat → Bool
  | 0, _ => true
  | d + 1, i => decide (nI (wN t hd (sn (cr i).toNatClampNeg &&& nI y) 6) = cw i) && ftS t hd sn cr cw y d (i + 1)
theorem fit_ev {t : Int32} {hd sn cr cw : Nat → Int32} (hb : bnd 6 hd 0 99) (hc : bnd 8 cr 0 5) {n : Nat} (hn : n ≤ 8) (y : Nat) : ∀ d i, i + d = n → ev (fun s : Int32 => b_Lookout_allCountsFit_1 (nI y) sn (nI n) cr cw t hd s) (nI i) = some (if ftS t hd sn cr cw y d i = true then 1 else 0) := by
  intro d
  induction d with
  | zero =>
    intro i hi
    have : i = n := by omega
    subst this
    refine ev_inr ?_
    show b_Lookout_allCountsFit_1 (nI y) sn (nI i) cr cw t hd (nI i) = _
    unfold b_Lookout_allCountsFit_1
    rw [if_pos (nI_le (Nat.le_refl _) (by omega))]
    rfl
  | succ d ih =>
    intro i hi
    have hi8 : i < 8 := by omega
    have hI := ih (i + 1) (by omega)
    obtain ⟨e1, e2⟩ := bnd_cl (by decide) hc hi8
    have hw : f_Lookout_wantingOff sn t hd (cr i) (nI y) = some (nI (wN t hd (sn (cr i).toNatClampNeg &&& nI y) 6)) := by
      have := want_ev (t := t) (sn := sn) hb (show (cr i).toNatClampNeg < 6 by omega) (nI y)
      rw [← e1] at this; exact this
    rw [ftS]
    by_cases h : nI (wN t hd (sn (cr i).toNatClampNeg &&& nI y) 6) = cw i
    · rw [show decide (nI (wN t hd (sn (cr i).toNatClampNeg &&& nI y) 6) = cw i) = true from decide_eq_true h, Bool.true_and, ← hI]
      refine ev_inl ?_
      show b_Lookout_allCountsFit_1 (nI y) sn (nI n) cr cw t hd (nI i) = _
      unfold b_Lookout_allCountsFit_1
      rw [if_neg (nI_ge (by omega) (by omega)), if_neg (lge (L := 8) rfl hi8 (by decide)), if_pos (ix_t hi8 (by decide)), cl_n (by omega), hw, Option.bind_some, if_pos (ix_t hi8 (by decide)), if_pos h, nI_1]
    · rw [show decide (nI (wN t hd (sn (cr i).toNatClampNeg &&& nI y) 6) = cw i) = false from decide_eq_false h, Bool.false_and]
      refine ev_inr ?_
      show b_Lookout_allCountsFit_1 (nI y) sn (nI n) cr cw t hd (nI i) = _
      unfold b_Lookout_allCountsFit_1
      rw [if_neg (nI_ge (by omega) (by omega)), if_neg (lge (L := 8) rfl hi8 (by decide)), if_pos (ix_t hi8 (by decide)), cl_n (by omega), hw, Option.bind_some, if_pos (ix_t hi8 (by decide)), if_neg h]
      rfl
theorem mfit0 (book rk count : Nat → Int32) (x c : Int32) (k : Int32) : ev (fun s : Int32 × Int32 => b_Model_isFit_1 x book rk c count s.1 s.2) ((0 : Int32), k) = some 0 := by
  refine ev_inr ?_
  show b_Model_isFit_1 x book rk c count 0 k = _
  unfold b_Model_isFit_1
  by_cases h : c ≤ k
  · rw [if_pos h]
  · rw [if_neg h, if_pos rfl]
theorem mfit_ev {t mon lost : Int32} {hd sd md book sn rk cr cw count : Nat → Int32} (hr : rSea t mon lost hd sd md book) (hb : bnd 6 hd 0 99) (he : eqn 6 sn rk) (hc : bnd 8 cr 0 5) (hk : rCnt cr cw count) {n : Nat} (hn : n ≤ 8) {y : Nat} (hs : ∀ r, r < 6 → ∀ k, k < 6 → thr (sn r &&& nI y) k = true → thr t k = true) : ∀ d i, i + d = n → ev (fun s : Int32 × Int32 => b_Model_isFit_1 (nI y) book rk (nI n) count s.1 s.2) ((1 : Int32), nI i) = some (if ftS t hd sn cr cw y d i = true then 1 else 0) := by
  intro d
  induction d with
  | zero =>
    intro i hi
    have : i = n := by omega
    subst this
    refine ev_inr ?_
    show b_Model_isFit_1 (nI y) book rk (nI i) count 1 (nI i) = _
    unfold b_Model_isFit_1
    rw [if_pos (nI_le (Nat.le_refl _) (by omega))]
    rfl
  | succ d ih =>
    intro i hi
    have hi8 : i < 8 := by omega
    have hI := ih (i + 1) (by omega)
    obtain ⟨e1, e2⟩ := bnd_cl (by decide) hc hi8
    obtain ⟨k1, k2⟩ := hk i hi8
    have hw : f_Model_wantingOff book rk (count (2 * i)) (nI y) = some (nI (wN t hd (sn (cr i).toNatClampNeg &&& nI y) 6)) := by
      have := mwant_ev hr hb he (show (cr i).toNatClampNeg < 6 by omega) (s := nI y) (hs _ (by omega))
      rw [← e1, k1] at this; rw [k1]; exact this
    have m2 : (2 : Int32) * nI i = nI (2 * i) := by rw [show (2 : Int32) = nI 2 from rfl, pk_mul]
    rw [ftS]
    by_cases h : nI (wN t hd (sn (cr i).toNatClampNeg &&& nI y) 6) = cw i
    · rw [show decide (nI (wN t hd (sn (cr i).toNatClampNeg &&& nI y) 6) = cw i) = true from decide_eq_true h, Bool.true_and, ← hI]
      refine ev_inl ?_
      show b_Model_isFit_1 (nI y) book rk (nI n) count 1 (nI i) = _
      unfold b_Model_isFit_1
      rw [if_neg (nI_ge (by omega) (by omega)), if_neg one_ne, m2, nI_1, nI_1, if_pos (ix_t (show 2 * i < 16 by omega) (by decide)), cl_n (show 2 * i < 2 ^ 31 by omega), hw, Option.bind_some, if_pos (ix_t (show 2 * i + 1 < 16 by omega) (by decide)), cl_n (show 2 * i + 1 < 2 ^ 31 by omega), ← k2, if_pos h]
    · rw [show decide (nI (wN t hd (sn (cr i).toNatClampNeg &&& nI y) 6) = cw i) = false from decide_eq_false h, Bool.false_and]
      refine Eq.trans (ev_inl ?_) (mfit0 book rk count (nI y) (nI n) (nI (i + 1)))
      show b_Model_isFit_1 (nI y) book rk (nI n) count 1 (nI i) = _
      unfold b_Model_isFit_1
      rw [if_neg (nI_ge (by omega) (by omega)), if_neg one_ne, m2, nI_1, nI_1, if_pos (ix_t (show 2 * i < 16 by omega) (by decide)), cl_n (show 2 * i < 2 ^ 31 by omega), hw, Option.bind_some, if_pos (ix_t (show 2 * i + 1 < 16 by omega) (by decide)), cl_n (show 2 * i + 1 < 2 ^ 31 by omega), ← k2, if_neg h]
/-- the set y fits -/
def fF (t : Int32) (hd sn cr cw : Nat → Int32) (n y : Nat) : Bool := decide (nI y &&& (t ^^^ -1) = 0) && ftS t hd sn cr cw y n 0
theorem isFit_ev {t mon lost : Int32} {hd sd md book sn rk cr cw count : Nat → Int32} (hr : rSea t mon lost hd sd md book) (ht : ∃ n, n < 64 ∧ t = nI n) (hb : bnd 6 hd 0 99) (he : eqn 6 sn rk) (hsn : bnd 6 sn 0 63) (hc : bnd 8 cr 0 5) (hk : rCnt cr cw count) {n : Nat} (hn : n ≤ 8) (y : Nat) : f_Model_isFit book rk (nI n) count (nI y) = some (if fF t hd sn cr cw n y = true then 1 else 0) := by
  unfold f_Model_isFit fF
  rw [show ((18 : Int32)).toNatClampNeg = 18 from rfl, hr.2.1]
  by_cases h : nI y &&& (t ^^^ -1) = 0
  · have e := mfit_ev hr hb he hc hk hn (y := y) (fun r hr6 => sub_ok ht hsn hr6 h) n 0 (by omega)
    have e' : ev (fun s : Int32 × Int32 => b_Model_isFit_1 (nI y) book rk (nI n) count s.1 s.2) ((1 : Int32), (0 : Int32)) = some (if ftS t hd sn cr cw y n 0 = true then 1 else 0) := e
    rw [if_pos h, e', Option.bind_some, show decide (nI y &&& (t ^^^ -1) = 0) = true from decide_eq_true h, Bool.true_and]
    by_cases h2 : ftS t hd sn cr cw y n 0 = true
    · rw [if_pos h2, if_pos (Or.inr rfl)]
    · rw [if_neg h2, if_pos (Or.inl rfl)]
  · rw [if_neg h, mfit0, Option.bind_some, if_pos (Or.inl rfl), show decide (nI y &&& (t ^^^ -1) = 0) = false from decide_eq_false h, Bool.false_and]
    rfl
/-- how many fit below k -/
def cN (F : Nat → Bool) : Nat → Nat
  | 0 => 0
  | k + 1 => if F k = true then cN F k + 1 else cN F k
theorem cN_le (F : Nat → Bool) : ∀ k, cN F k ≤ k := by
  intro k
  induction k with
  | zero => exact Nat.le_refl _
  | succ k ih => rw [cN]; split <;> omega
theorem cN_mono (F : Nat → Bool) (k : Nat) : ∀ d, cN F k ≤ cN F (k + d) := by
  intro d
  induction d with
  | zero => exact Nat.le_refl _
  | succ d ih => rw [← Nat.add_assoc, cN]; split <;> omega
theorem find_ev {t : Int32} {hd sn cr cw : Nat → Int32} (hb : bnd 6 hd 0 99) (hc : bnd 8 cr 0 5) {n : Nat} (hn : n ≤ 8) : ∀ d k sets, k + d = 64 → (∀ y, y < k → fF t hd sn cr cw n y = true → sets (cN (fF t hd sn cr cw n) y) = nI y) → ∃ sets', ev (fun s : Int32 × Int32 × (Nat → Int32) => b_Guess_findSets_1 sn (nI n) cr cw t hd s.1 s.2.1 s.2.2) (nI k, nI (cN (fF t hd sn cr cw n) k), sets) = some (nI (cN (fF t hd sn cr cw n) 64), sets') ∧ (∀ y, y < 64 → fF t hd sn cr cw n y = true → sets' (cN (fF t hd sn cr cw n) y) = nI y) := by
  intro d
  induction d with
  | zero =>
    intro k sets hk hI
    have : k = 64 := by omega
    subst this
    refine ⟨sets, ev_inr ?_, hI⟩
    show b_Guess_findSets_1 sn (nI n) cr cw t hd (nI 64) _ sets = _
    unfold b_Guess_findSets_1
    rw [if_pos (by decide)]
  | succ d ih =>
    intro k sets hk hI
    have hle := cN_le (fF t hd sn cr cw n) k
    have hfit : f_Lookout_allCountsFit sn (nI n) cr cw t hd (nI k) = some (if ftS t hd sn cr cw k n 0 = true then 1 else 0) := fit_ev hb hc hn k n 0 (by omega)
    have h63 : ¬ (63 : Int32) < nI k := by rw [i_lt, show (63 : Int32) = nI 63 from rfl, nI_toInt (by decide), nI_toInt (by omega)]; omega
    by_cases hF : fF t hd sn cr cw n k = true
    · have hF2 := hF
      unfold fF at hF2
      rw [Bool.and_eq_true, decide_eq_true_iff] at hF2
      have hcN : cN (fF t hd sn cr cw n) (k + 1) = cN (fF t hd sn cr cw n) k + 1 := by rw [cN, if_pos hF]
      obtain ⟨sets', e1, e2⟩ := ih (k + 1) (upd sets (cN (fF t hd sn cr cw n) k) (nI k)) (by omega) (fun y hy hy2 => by
        by_cases hyk : y = k
        · subst hyk; rw [up_s]
        · have hm := cN_mono (fF t hd sn cr cw n) (y + 1) (k - (y + 1))
          rw [show y + 1 + (k - (y + 1)) = k by omega, cN, if_pos hy2] at hm
          rw [up_n (by omega)]
          exact hI y (by omega) hy2)
      refine ⟨sets', ?_, e2⟩
      rw [← e1, hcN]
      refine ev_inl ?_
      show b_Guess_findSets_1 sn (nI n) cr cw t hd (nI k) (nI (cN (fF t hd sn cr cw n) k)) sets = _
      unfold b_Guess_findSets_1
      rw [if_neg h63, if_pos hF2.1, if_neg one_ne, if_neg (lge (L := 64) (N := 64) rfl (by omega) (by decide)), hfit, Option.bind_some, if_pos hF2.2, if_neg one_ne, if_pos (ix_t (by omega) (by decide)), cl_n (by omega), nI_1, nI_1]
    · have hcN : cN (fF t hd sn cr cw n) (k + 1) = cN (fF t hd sn cr cw n) k := by rw [cN, if_neg hF]
      obtain ⟨sets', e1, e2⟩ := ih (k + 1) sets (by omega) (fun y hy hy2 => by
        by_cases hyk : y = k
        · subst hyk; exact absurd hy2 hF
        · exact hI y (by omega) hy2)
      refine ⟨sets', ?_, e2⟩
      rw [← e1, hcN]
      refine ev_inl ?_
      show b_Guess_findSets_1 sn (nI n) cr cw t hd (nI k) (nI (cN (fF t hd sn cr cw n) k)) sets = _
      unfold b_Guess_findSets_1
      unfold fF at hF
      rw [Bool.and_eq_true, decide_eq_true_iff] at hF
      rw [if_neg h63, nI_1]
      by_cases h1 : nI k &&& (t ^^^ -1) = 0
      · rw [if_pos h1, if_neg one_ne, if_neg (lge (L := 64) (N := 64) rfl (by omega) (by decide)), hfit, Option.bind_some, if_neg (fun z => hF ⟨h1, z⟩), if_pos rfl]
      · rw [if_neg h1, if_pos rfl]
/-- the reference's went, a set asked for by its place -/
theorem mwent_ev {book rk count : Nat → Int32} {F : Nat → Bool} {c : Int32} (hF : ∀ y, f_Model_isFit book rk c count (nI y) = some (if F y = true then 1 else 0)) {m : Nat} (hm : m < 2 ^ 31) : ∀ d k, k + d = 64 → cN F k ≤ m → ∃ r, ev (fun s : Int32 × Int32 => b_Model_went_1 (nI m) book rk c count s.1 s.2) (nI (cN F k), nI k) = some r ∧ ((m < cN F 64 ∧ ∃ y, y < 64 ∧ F y = true ∧ cN F y = m ∧ r = nI y) ∨ (cN F 64 ≤ m ∧ r = -6)) := by
  intro d
  induction d with
  | zero =>
    intro k hk hle
    have : k = 64 := by omega
    subst this
    refine ⟨-6, ev_inr ?_, Or.inr ⟨hle, rfl⟩⟩
    show b_Model_went_1 (nI m) book rk c count _ (nI 64) = _
    unfold b_Model_went_1
    rw [if_pos (lle (L := 64) (N := 64) rfl), if_neg (fun z => by
      have h := congrArg Int32.toInt z
      rw [nI_toInt hm, show ((-1 : Int32)).toInt = -1 from rfl] at h
      omega)]
  | succ d ih =>
    intro k hk hle
    have hck := cN_le F k
    by_cases hk2 : F k = true
    · have hcN : cN F (k + 1) = cN F k + 1 := by rw [cN, if_pos hk2]
      by_cases h : cN F k = m
      · refine ⟨nI k, ev_inr ?_, Or.inl ⟨?_, k, by omega, hk2, h, rfl⟩⟩
        · show b_Model_went_1 (nI m) book rk c count (nI (cN F k)) (nI k) = _
          unfold b_Model_went_1
          rw [if_neg (lge (L := 64) (N := 64) rfl (by omega) (by decide)), hF k, Option.bind_some, if_pos hk2, if_neg one_ne, h, if_pos rfl]
        · have := cN_mono F (k + 1) (64 - (k + 1))
          rw [show k + 1 + (64 - (k + 1)) = 64 by omega, hcN] at this
          omega
      · obtain ⟨r, e1, e2⟩ := ih (k + 1) (by omega) (by omega)
        refine ⟨r, ?_, e2⟩
        rw [← e1, hcN]
        refine ev_inl ?_
        show b_Model_went_1 (nI m) book rk c count (nI (cN F k)) (nI k) = _
        unfold b_Model_went_1
        rw [if_neg (lge (L := 64) (N := 64) rfl (by omega) (by decide)), hF k, Option.bind_some, if_pos hk2, if_neg one_ne, if_neg (fun z => h ((nI_eq (by omega) hm).mp z)), nI_1, nI_1]
    · have hcN : cN F (k + 1) = cN F k := by rw [cN, if_neg hk2]
      obtain ⟨r, e1, e2⟩ := ih (k + 1) (by omega) (by omega)
      refine ⟨r, ?_, e2⟩
      rw [← e1, hcN]
      refine ev_inl ?_
      show b_Model_went_1 (nI m) book rk c count (nI (cN F k)) (nI k) = _
      unfold b_Model_went_1
      rw [if_neg (lge (L := 64) (N := 64) rfl (by omega) (by decide)), hF k, Option.bind_some, if_neg hk2, if_pos rfl, nI_1]
theorem mwentN_ev {book rk count : Nat → Int32} {F : Nat → Bool} {c : Int32} (hF : ∀ y, f_Model_isFit book rk c count (nI y) = some (if F y = true then 1 else 0)) {p : Int32} (hp : p < 0) : ∀ d k, k + d = 64 → ev (fun s : Int32 × Int32 => b_Model_went_1 p book rk c count s.1 s.2) (nI (cN F k), nI k) = some (if p = -1 then nI (cN F 64) else -6) := by
  intro d
  induction d with
  | zero =>
    intro k hk
    have : k = 64 := by omega
    subst this
    refine ev_inr ?_
    show b_Model_went_1 p book rk c count _ (nI 64) = _
    unfold b_Model_went_1
    rw [if_pos (lle (L := 64) (N := 64) rfl)]
    by_cases h : p = -1
    · rw [if_pos h, if_pos h]
    · rw [if_neg h, if_neg h]
  | succ d ih =>
    intro k hk
    have hck := cN_le F k
    by_cases hk2 : F k = true
    · have hcN : cN F (k + 1) = cN F k + 1 := by rw [cN, if_pos hk2]
      have e1 := ih (k + 1) (by omega)
      rw [← e1, hcN]
      refine ev_inl ?_
      show b_Model_went_1 p book rk c count (nI (cN F k)) (nI k) = _
      unfold b_Model_went_1
      rw [if_neg (lge (L := 64) (N := 64) rfl (by omega) (by decide)), hF k, Option.bind_some, if_pos hk2, if_neg one_ne, if_neg (fun z => by rw [← z] at hp; exact nI_pos (by omega) hp), nI_1, nI_1]
    · have hcN : cN F (k + 1) = cN F k := by rw [cN, if_neg hk2]
      have e1 := ih (k + 1) (by omega)
      rw [← e1, hcN]
      refine ev_inl ?_
      show b_Model_went_1 p book rk c count (nI (cN F k)) (nI k) = _
      unfold b_Model_went_1
      rw [if_neg (lge (L := 64) (N := 64) rfl (by omega) (by decide)), hF k, Option.bind_some, if_neg hk2, if_pos rfl, nI_1]
theorem findSets_ev {t : Int32} {hd sn cr cw : Nat → Int32} (hb : bnd 6 hd 0 99) (hc : bnd 8 cr 0 5) {n : Nat} (hn : n ≤ 8) (sz : Int32) (sets : Nat → Int32) : ∃ sets', f_Guess_findSets sz sets sn (nI n) cr cw t hd = some (nI (cN (fF t hd sn cr cw n) 64), sets') ∧ (∀ y, y < 64 → fF t hd sn cr cw n y = true → sets' (cN (fF t hd sn cr cw n) y) = nI y) := by
  obtain ⟨s', e1, e2⟩ := find_ev (t := t) (hd := hd) (sn := sn) (cr := cr) (cw := cw) hb hc hn 64 0 sets (by omega) (fun y hy => by omega)
  refine ⟨s', ?_, e2⟩
  unfold f_Guess_findSets
  have e1' : ev (fun s : Int32 × Int32 × (Nat → Int32) => b_Guess_findSets_1 sn (nI n) cr cw t hd s.1 s.2.1 s.2.2) ((0 : Int32), (0 : Int32), sets) = some (nI (cN (fF t hd sn cr cw n) 64), s') := e1
  rw [e1']; rfl
theorem e_went {t mon lost : Int32} {hd sd md mt book sn rk cr cw count : Nat → Int32} (hr : rSea t mon lost hd sd md book) (hi : iSea t mon hd sd md mt) (he : eqn 6 sn rk) (hsn : bnd 6 sn 0 63) (hc : bnd 8 cr 0 5) (hk : rCnt cr cw count) {n : Nat} (hn : n ≤ 8) (sz : Int32) (sets : Nat → Int32) (p1 : Int32) : ∃ r x, f_Strait_went t hd sn (nI n) cr cw sz sets p1 = some (r, x) ∧ f_Model_went book rk (nI n) count p1 = some r := by
  have hb := hi.2.2.1
  have hF := isFit_ev hr hi.1 hb he hsn hc hk hn
  obtain ⟨s', e1, e2⟩ := findSets_ev (t := t) (hd := hd) (sn := sn) (cr := cr) (cw := cw) hb hc hn sz sets
  have h64 := cN_le (fF t hd sn cr cw n) 64
  unfold f_Strait_went f_Model_went
  by_cases hp : p1 < 0
  · have m1 : ev (fun s : Int32 × Int32 => b_Model_went_1 p1 book rk (nI n) count s.1 s.2) ((0 : Int32), (0 : Int32)) = some (if p1 = -1 then nI (cN (fF t hd sn cr cw n) 64) else -6) := mwentN_ev hF hp 64 0 (by omega)
    rw [m1]
    by_cases h1 : p1 = -1
    · subst h1
      rw [if_pos (by decide), e1, Option.bind_some, if_pos rfl]
      exact ⟨_, _, rfl, rfl⟩
    · have h2 : ¬ (-1 : Int32) ≤ p1 := by
        intro z
        rw [i_le, show ((-1 : Int32)).toInt = -1 from rfl] at z
        rw [i_lt, show ((0 : Int32)).toInt = 0 from rfl] at hp
        exact h1 ((i_eq _ _).mpr (by rw [show ((-1 : Int32)).toInt = -1 from rfl]; omega))
      rw [if_neg h2, if_neg h1]
      exact ⟨_, _, rfl, rfl⟩
  · obtain ⟨m, hm, rfl⟩ := nI_of hp
    obtain ⟨r, m1, m2⟩ := mwent_ev hF hm 64 0 (by omega) (Nat.zero_le _)
    have m1' : ev (fun s : Int32 × Int32 => b_Model_went_1 (nI m) book rk (nI n) count s.1 s.2) ((0 : Int32), (0 : Int32)) = some r := m1
    have g1 : (-1 : Int32) ≤ nI m := by rw [i_le, nI_toInt hm, show ((-1 : Int32)).toInt = -1 from rfl]; omega
    have g2 : ¬ nI m = -1 := fun z => by
      have h := congrArg Int32.toInt z
      rw [nI_toInt hm, show ((-1 : Int32)).toInt = -1 from rfl] at h
      omega
    rw [m1', if_pos g1, e1, Option.bind_some]
    show ∃ r_1 x, (if nI m = -1 then _ else (f_Guess_setAt _ s' (nI m)).bind _) = _ ∧ _
    rw [if_neg g2]
    unfold f_Guess_setAt
    rw [if_neg (nI_pos hm)]
    rcases m2 with ⟨h1, y, y1, y2, y3, rfl⟩ | ⟨h1, rfl⟩
    · rw [if_neg (nI_ge h1 (by omega)), if_neg (lge (L := 64) (N := 64) rfl (by omega) (by decide)), if_pos (ix_t (by omega) (by decide)), cl_n hm, ← y3, e2 y y1 y2, Option.bind_some]
      exact ⟨_, _, rfl, rfl⟩
    · rw [if_pos (nI_le h1 hm), Option.bind_some]
      exact ⟨_, _, rfl, rfl⟩
