/-! pure rows: bits, herds there, who listens and signs -/
theorem bitsL : ∀ t : Nat, t < 64 → ∀ k : Nat, k < 6 → nI t ||| ((1 : Int32) <<< (nI k &&& 31)) = nI (t ||| 2 ^ k) ∧ t ||| 2 ^ k < 64 := by decide +kernel
def bitsS (x : Int32) : Nat → Int32
  | 0 => 0
  | k + 1 => bitsS x k + ((x >>> (nI k &&& 31)) &&& 1)
theorem bits_ev (x : Int32) : f_Model_bits x = some (bitsS x 10) := by
  unfold f_Model_bits
  rw [ev_cnt (s0 := ((0 : Int32), (0 : Int32))) (fun k => (bitsS x k, nI k)) 10 (r := bitsS x 10) rfl (fun k hk => by
    show b_Model_bits_1 x (bitsS x k) (nI k) = _
    unfold b_Model_bits_1
    rw [if_neg (lge (L := 10) rfl hk (by decide)), nI_1]
    rfl) (by
    show b_Model_bits_1 x (bitsS x 10) (nI 10) = _
    unfold b_Model_bits_1
    rw [if_pos (lle (L := 10) (N := 10) rfl)])]
  rfl
theorem bc_eq : ∀ n : Nat, n < 1024 → f_Integer_bitCount (nI n) = bitsS (nI n) 10 := by decide +kernel
def thr (t : Int32) (h : Nat) : Bool := decide (((t >>> (nI h &&& 31)) &&& 1) = 1)
theorem there_thr (t : Int32) {h : Nat} (hh : h < 6) : f_Sea_isThere t (nI h) = if thr t h = true then 1 else 0 := by
  unfold f_Sea_isThere thr
  rw [if_neg (nI_pos (by omega)), if_neg (lge (L := 6) rfl hh (by decide))]
  simp
theorem there_out {t p : Int32} (h : f_Strait_within p 0 5 = 0) : f_Sea_isThere t p = 0 := by
  unfold f_Strait_within at h
  unfold f_Sea_isThere
  by_cases h1 : p < 0
  · rw [if_pos h1]
  · rw [if_neg h1] at h ⊢
    by_cases h2 : 5 < p
    · rw [if_pos]
      rw [i_lt] at h2
      rw [i_le]
      have e5 : (5 : Int32).toInt = 5 := rfl
      have e6 : (6 : Int32).toInt = 6 := rfl
      omega
    · rw [if_neg h2] at h
      cases h
theorem has_thr (t : Int32) (h : Nat) : f_Strait_has t (nI h) = if thr t h = true then 1 else 0 := by
  unfold f_Strait_has thr
  simp
theorem mthere {book : Nat → Int32} (p : Int32) : f_Model_isThere book p = f_Sea_isThere (book 18) p := by
  unfold f_Model_isThere
  rw [in_within, has_has]
  rcases win p (A := 0) (B := 5) 0 5 rfl rfl (by decide) (by decide) with c | ⟨c, k, h0, hk, rfl⟩
  · rw [if_pos c, there_out c]
  · rw [if_neg (by rw [c]; exact one_ne), show ((18 : Int32).toNatClampNeg) = 18 from rfl, has_thr, there_thr _ (by omega)]
    by_cases ht : thr (book 18) k = true <;> simp [ht]
theorem mstands {now : Nat → Int32} (p : Int32) : f_Model_stands now p = f_Sea_isThere (now 18) p := mthere p
def lis (t mon : Int32) (hd mt : Nat → Int32) (h : Nat) : Bool := thr t h && (decide (0 < hd h) && !decide (mt h = mon - mon / 12 * 12))
def sg (t mon : Int32) (hd md mt : Nat → Int32) (w : Int32) (h : Nat) : Bool := lis t mon hd mt h && decide (w ≤ md h)
def orS (b : Nat → Bool) : Nat → Int32
  | 0 => 0
  | k + 1 => if b k = true then orS b k ||| ((1 : Int32) <<< (nI k &&& 31)) else orS b k
theorem nle0 (x : Int32) : ¬ x ≤ 0 ↔ 0 < x := by rw [i_le, i_lt]; omega
theorem nlt_le (x y : Int32) : ¬ x < y ↔ y ≤ x := by rw [i_le, i_lt]; omega
theorem listens_lis (t mon : Int32) (hd mt : Nat → Int32) {h : Nat} (hh : h < 6) : f_Sea_listens t mon hd mt (nI h) = some (if lis t mon hd mt h = true then 1 else 0) := by
  unfold f_Sea_listens lis
  rw [there_thr _ hh]
  by_cases c1 : thr t h = true
  · simp only [c1, if_true, one_ne, if_false, ix_t hh (by decide), cl_n (show h < 2 ^ 31 by omega)]
    by_cases c2 : hd h ≤ 0
    · simp [c2, show ¬ 0 < hd h by rw [← nle0]; exact fun z => z c2]
    · by_cases c3 : mt h = mon - mon / 12 * 12
      · simp [c2, c3]
      · simp [c2, c3, (nle0 _).mp c2]
  · simp [c1]
theorem signers_ev (t mon : Int32) (hd md mt : Nat → Int32) (w : Int32) : f_Sea_signers t mon hd md mt w = some (orS (sg t mon hd md mt w) 6) := by
  unfold f_Sea_signers
  rw [ev_cnt (s0 := ((0 : Int32), (0 : Int32))) (fun k => (orS (sg t mon hd md mt w) k, nI k)) 6 (r := orS (sg t mon hd md mt w) 6) rfl (fun k hk => by
    show b_Sea_signers_1 w t mon hd md mt (orS (sg t mon hd md mt w) k) (nI k) = _
    unfold b_Sea_signers_1
    rw [if_neg (lge (L := 6) rfl hk (by decide)), listens_lis _ _ _ _ hk]
    simp only [Option.bind_some, ix_t hk (by decide), if_true, cl_n (show k < 2 ^ 31 by omega), nI_1, orS, sg]
    by_cases c1 : lis t mon hd mt k = true
    · by_cases c2 : md k < w
      · simp [c1, c2, show ¬ w ≤ md k by rw [← nlt_le]; exact fun z => z c2]
      · simp [c1, c2, (nlt_le _ _).mp c2]
    · simp [c1]) (by
    show b_Sea_signers_1 w t mon hd md mt (orS (sg t mon hd md mt w) 6) (nI 6) = _
    unfold b_Sea_signers_1
    rw [if_pos (lle (L := 6) (N := 6) rfl)])]
  rfl
/-- HERDS in both forms -/
def rSea (t mon lost : Int32) (hd sd md : Nat → Int32) (book : Nat → Int32) : Prop := (∀ h, h < 6 → book h = hd h ∧ book (6 + h) = sd h ∧ book (12 + h) = md h) ∧ book 18 = t ∧ book 19 = lost ∧ book 20 = mon
theorem wouldSign_sg {t mon lost : Int32} {hd sd md mt mt2 wd wd2 : Nat → Int32} {now : Nat → Int32} (hr : rSea t mon lost hd sd md now) (hm : eqn 6 mt mt2) (hw : eqn 10 wd wd2) {h c : Nat} (hh : h < 6) (hc : c < 10) : f_Model_wouldSign now mt2 wd2 (nI h) (nI c) = some (if sg t mon hd md mt (wd c) h = true then 1 else 0) := by
  unfold f_Model_wouldSign sg lis
  obtain ⟨r1, r2, r3, r4⟩ := hr
  obtain ⟨a1, a2, a3⟩ := r1 h hh
  have e12 : (12 : Int32) + nI h = nI (12 + h) := nI_add 12 h
  rw [mstands, r2, there_thr _ hh, show ((20 : Int32).toNatClampNeg) = 20 from rfl, r4, e12]
  simp only [ix_t (show h < 6 by omega) (by decide), ix_t (show h < 21 by omega) (by decide), ix_t (show 12 + h < 21 by omega) (by decide), ix_t (show c < 10 by omega) (by decide), if_true, cl_n (show h < 2 ^ 31 by omega), cl_n (show c < 2 ^ 31 by omega), cl_n (show 12 + h < 2 ^ 31 by omega), a1, a3, ← hm h hh, ← hw c hc]
  by_cases c1 : thr t h = true
  · by_cases c2 : mt h = mon - mon / 12 * 12
    · simp [c1, c2]
    · have c2' : ¬ mon - mon / 12 * 12 = mt h := fun z => c2 z.symm
      by_cases c3 : hd h ≤ 0
      · simp [c1, c2, c2', c3, show ¬ 0 < hd h by rw [← nle0]; exact fun z => z c3]
      · by_cases c4 : md h < wd c
        · simp [c1, c2, c2', c3, c4, (nle0 _).mp c3, show ¬ wd c ≤ md h by rw [← nlt_le]; exact fun z => z c4]
        · simp [c1, c2, c2', c3, c4, (nle0 _).mp c3, (nlt_le _ _).mp c4]
  · simp [c1]
theorem msigners {t mon lost : Int32} {hd sd md mt mt2 wd wd2 : Nat → Int32} {now : Nat → Int32} (hr : rSea t mon lost hd sd md now) (hm : eqn 6 mt mt2) (hw : eqn 10 wd wd2) {c : Nat} (hc : c < 10) : f_Model_signers now mt2 wd2 (nI c) = some (orS (sg t mon hd md mt (wd c)) 6) := by
  unfold f_Model_signers
  rw [ev_cnt (s0 := ((0 : Int32), (0 : Int32))) (fun k => (orS (sg t mon hd md mt (wd c)) k, nI k)) 6 (r := orS (sg t mon hd md mt (wd c)) 6) rfl (fun k hk => by
    show b_Model_signers_1 (nI c) now mt2 wd2 (orS (sg t mon hd md mt (wd c)) k) (nI k) = _
    unfold b_Model_signers_1
    rw [if_neg (lge (L := 6) rfl hk (by decide)), wouldSign_sg hr hm hw hk hc]
    simp only [Option.bind_some, nI_1, orS]
    by_cases c1 : sg t mon hd md mt (wd c) k = true <;> simp [c1]) (by
    show b_Model_signers_1 (nI c) now mt2 wd2 (orS (sg t mon hd md mt (wd c)) 6) (nI 6) = _
    unfold b_Model_signers_1
    rw [if_pos (lle (L := 6) (N := 6) rfl)])]
  rfl
theorem asNow_ev (book now : Nat → Int32) (a b : Int32) : ∃ now', f_Model_asNow book now a b = some (now', 0, 63) ∧ ∀ k, k < 21 → now' k = book k := by
  unfold f_Model_asNow
  refine ⟨fun j => if j < 21 then book j else now j, ?_, fun k hk => by simp [hk]⟩
  rw [ev_cnt (s0 := ((0 : Int32), now)) (fun k => (nI k, fun j => if j < k then book j else now j)) 21 (r := fun j => if j < 21 then book j else now j) (by simp; rfl) (fun k hk => by
    show b_Model_asNow_1 book (nI k) (fun j => if j < k then book j else now j) = _
    unfold b_Model_asNow_1
    rw [if_neg (lge (L := 21) rfl hk (by decide))]
    simp only [ix_t hk (by decide), if_true, cl_n (show k < 2 ^ 31 by omega), nI_1]
    congr 3
    funext j
    rw [up_a]
    by_cases h1 : j = k
    · subst h1; simp
    · by_cases h2 : j < k
      · simp [h1, h2, show j < k + 1 by omega]
      · simp [h1, h2, show ¬ j < k + 1 by omega]) (by
    show b_Model_asNow_1 book (nI 21) _ = _
    unfold b_Model_asNow_1
    rw [if_pos (lle (L := 21) (N := 21) rfl)])]
  rfl
theorem rSea.of {t mon lost : Int32} {hd sd md book now : Nat → Int32} (h : rSea t mon lost hd sd md book) (hn : ∀ k, k < 21 → now k = book k) : rSea t mon lost hd sd md now := by
  obtain ⟨r1, r2, r3, r4⟩ := h
  refine ⟨fun h hh => ?_, by rw [hn 18 (by decide)]; exact r2, by rw [hn 19 (by decide)]; exact r3, by rw [hn 20 (by decide)]; exact r4⟩
  rw [hn h (by omega), hn (6 + h) (by omega), hn (12 + h) (by omega)]
  exact r1 h hh
theorem e_who {t mon lost : Int32} {hd sd md mt mt2 wd wd2 book now : Nat → Int32} {a b : Int32} (hr : rSea t mon lost hd sd md book) (hm : eqn 6 mt mt2) (hw : eqn 10 wd wd2) (p1 : Int32) : ∃ r now' a' b', f_Strait_who t mon hd md mt wd p1 = some r ∧ f_Model_who book now mt2 wd2 a b p1 = some (r, now', a', b') := by
  obtain ⟨now', e1, e2⟩ := asNow_ev book now a b
  have c1 := win p1 (A := 0) (B := 9) 0 9 rfl rfl (by decide) (by decide)
  unfold f_Strait_who f_Model_who f_Model_isClause
  rw [in_within, e1]
  rcases c1 with c1 | ⟨c1, k, hk0, hk, rfl⟩
  · exact ⟨-1, now', 0, 63, by simp [c1], by simp [c1]⟩
  · refine ⟨orS (sg t mon hd md mt (wd k)) 6, now', 0, 63, ?_, ?_⟩
    · simp [c1, ix_t (show k < 10 by omega), cl_n (show k < 2 ^ 31 by omega), signers_ev]
    · simp [c1, msigners (hr.of e2) hm hw (show k < 10 by omega)]
