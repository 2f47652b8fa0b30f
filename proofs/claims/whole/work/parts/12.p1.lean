/-! pure rows: the small methods -/
/-- f and g agree below n -/
def eqn (n : Nat) (f g : Nat → Int32) : Prop := ∀ k, k < n → f k = g k
theorem eqn.upd {n : Nat} {f g : Nat → Int32} (h : eqn n f g) (i : Nat) (x : Int32) : eqn n (upd f i x) (upd g i x) := by
  intro k hk
  rw [up_a, up_a, h k hk]
/-- values between two naturals -/
def bnd (n : Nat) (f : Nat → Int32) (a b : Nat) : Prop := ∀ k, k < n → ∃ j, a ≤ j ∧ j ≤ b ∧ f k = nI j
theorem bnd.upd {n : Nat} {f : Nat → Int32} {a b : Nat} (h : bnd n f a b) (i j : Nat) (h1 : a ≤ j) (h2 : j ≤ b) : bnd n (upd f i (nI j)) a b := by
  intro k hk
  by_cases hi : k = i
  · exact ⟨j, h1, h2, by rw [hi, up_s]⟩
  · rw [up_n hi]; exact h k hk
theorem e_clause {w w2 : Nat → Int32} (p1 p2 : Int32) (he : eqn 10 w w2) (hb : bnd 10 w 1 9) : ∃ r w' w2', f_Strait_clause w p1 p2 = some (r, w') ∧ f_Model_clause w2 p1 p2 = some (r, w2') ∧ eqn 10 w' w2' ∧ bnd 10 w' 1 9 := by
  have c1 := win p1 (A := 0) (B := 9) 0 9 rfl rfl (by decide) (by decide)
  have c2 := win p2 (A := 1) (B := 9) 1 9 rfl rfl (by decide) (by decide)
  unfold f_Strait_clause f_Model_clause f_Model_isClause
  rw [in_within]
  rcases c1 with c1 | ⟨c1, k, hk0, hk, rfl⟩
  · exact ⟨_, _, _, if_pos c1, if_pos c1, he, hb⟩
  · rcases c2 with c2 | ⟨c2, j, hj0, hj, rfl⟩
    · exact ⟨-2, w, w2, by simp [c1, c2], by simp [c1, c2], he, hb⟩
    · refine ⟨w k, upd w k (nI j), upd w2 k (nI j), ?_, ?_, he.upd _ _, hb.upd _ _ hj0 hj⟩
      · simp [c1, c2, ix_t (show k < 10 by omega), cl_n (show k < 2 ^ 31 by omega)]
      · simp [c1, c2, ix_t (show k < 10 by omega), cl_n (show k < 2 ^ 31 by omega), he k (by omega)]
theorem e_rock {w w2 : Nat → Int32} (p1 p2 : Int32) (he : eqn 6 w w2) (hb : bnd 6 w 0 63) : ∃ r w' w2', f_Strait_rock w p1 p2 = some (r, w') ∧ f_Model_rock w2 p1 p2 = some (r, w2') ∧ eqn 6 w' w2' ∧ bnd 6 w' 0 63 := by
  have c1 := win p1 (A := 0) (B := 5) 0 5 rfl rfl (by decide) (by decide)
  have c2 := win p2 (A := 0) (B := 63) 0 63 rfl rfl (by decide) (by decide)
  unfold f_Strait_rock f_Model_rock
  rw [in_within]
  rcases c1 with c1 | ⟨c1, k, hk0, hk, rfl⟩
  · exact ⟨_, _, _, if_pos c1, if_pos c1, he, hb⟩
  · rcases c2 with c2 | ⟨c2, j, hj0, hj, rfl⟩
    · exact ⟨-2, w, w2, by simp [c1, c2], by simp [c1, c2], he, hb⟩
    · refine ⟨w k, upd w k (nI j), upd w2 k (nI j), ?_, ?_, he.upd _ _, hb.upd _ _ hj0 hj⟩
      · simp [c1, c2, ix_t (show k < 6 by omega), cl_n (show k < 2 ^ 31 by omega)]
      · simp [c1, c2, ix_t (show k < 6 by omega), cl_n (show k < 2 ^ 31 by omega), he k (by omega)]
theorem e_say {f g : Nat → Int32} (n : Nat) (p1 : Int32) (hn : n ≤ 60) (he : eqn 60 f g) : ∃ r f' g' n', n' ≤ 60 ∧ f_Strait_say f (nI n) p1 = some (r, f', nI n') ∧ f_Model_say (nI n) g p1 = some (r, nI n', g') ∧ eqn 60 f' g' := by
  have c1 := win p1 (A := 33) (B := 126) 33 126 rfl rfl (by decide) (by decide)
  unfold f_Strait_say f_Model_say f_Pad_write
  rw [in_within]
  have h60 : (60 : Int32) = nI 60 := rfl
  rcases c1 with c1 | ⟨c1, k, hk0, hk, rfl⟩
  · exact ⟨-2, f, g, n, hn, by simp [c1], by simp [c1], he⟩
  · by_cases hf : n = 60
    · subst hf
      exact ⟨-4, f, g, 60, hn, by simp [c1, h60], by simp [c1, h60], he⟩
    · have h1 : ¬ nI 60 ≤ nI n := nI_ge (by omega) (by decide)
      have h2 : ¬ nI n = nI 60 := by rw [nI_eq (by omega) (by decide)]; exact hf
      refine ⟨nI (n + 1), upd f n (nI k), upd g n (nI k), n + 1, by omega, ?_, ?_, he.upd _ _⟩
      · simp [c1, h60, h1, nI_lt (show n < 60 by omega) (by decide), ix_t (show n < 60 by omega), cl_n (show n < 2 ^ 31 by omega), nI_1]
      · simp [c1, h60, h2, ix_t (show n < 60 by omega), cl_n (show n < 2 ^ 31 by omega), nI_1]
theorem e_wipe (x : Int32) : f_Strait_wipe x = some (x, 0) ∧ f_Model_wipe x = some (x, 0) := ⟨rfl, rfl⟩
theorem e_forget (x : Int32) : f_Strait_forget x = some (x, 0) ∧ f_Model_forget x = some (x, 0) := ⟨rfl, rfl⟩
/-- the COUNTS in both forms -/
def rCnt (cr cw count : Nat → Int32) : Prop := ∀ i, i < 8 → cr i = count (2 * i) ∧ cw i = count (2 * i + 1)
theorem e_counted {cr cw count : Nat → Int32} (n : Nat) (p1 p2 : Int32) (hn : n ≤ 8) (he : rCnt cr cw count) (hb : bnd 8 cr 0 5) : ∃ r n' cr' cw' count', n' ≤ 8 ∧ f_Strait_counted (nI n) cr cw p1 p2 = some (r, nI n', cr', cw') ∧ f_Model_counted (nI n) count p1 p2 = some (r, nI n', count') ∧ rCnt cr' cw' count' ∧ bnd 8 cr' 0 5 := by
  have c1 := win p1 (A := 0) (B := 5) 0 5 rfl rfl (by decide) (by decide)
  have c2 := win p2 (A := 0) (B := 999) 0 999 rfl rfl (by decide) (by decide)
  unfold f_Strait_counted f_Model_counted f_Lookout_addCount
  rw [in_within]
  have h8 : (8 : Int32) = nI 8 := rfl
  have h2 : (2 : Int32) = nI 2 := rfl
  rcases c1 with c1 | ⟨c1, k, hk0, hk, rfl⟩
  · exact ⟨-1, n, cr, cw, count, hn, by simp [c1], by simp [c1], he, hb⟩
  · rcases c2 with c2 | ⟨c2, j, hj0, hj, rfl⟩
    · exact ⟨-2, n, cr, cw, count, hn, by simp [c1, c2], by simp [c1, c2], he, hb⟩
    · by_cases hf : n = 8
      · subst hf
        exact ⟨-4, 8, cr, cw, count, hn, by simp [c1, c2, h8], by simp [c1, c2, h8], he, hb⟩
      · have g1 : ¬ nI 8 ≤ nI n := nI_ge (by omega) (by decide)
        have g2 : ¬ nI n = nI 8 := by rw [nI_eq (by omega) (by decide)]; exact hf
        refine ⟨nI (n + 1), n + 1, upd cr n (nI k), upd cw n (nI j), upd (upd count (2 * n) (nI k)) (2 * n + 1) (nI j), by omega, ?_, ?_, ?_, hb.upd _ _ hk0 hk⟩
        · simp [c1, c2, h8, g1, nI_lt (show n < 8 by omega) (by decide), ix_t (show n < 8 by omega), cl_n (show n < 2 ^ 31 by omega), nI_1]
        · simp [c1, c2, h8, h2, g2, pk_mul, nI_1, ix_t (show 2 * n < 16 by omega), ix_t (show 2 * n + 1 < 16 by omega), cl_n (show 2 * n < 2 ^ 31 by omega), cl_n (show 2 * n + 1 < 2 ^ 31 by omega)]
        · intro i hi
          obtain ⟨a1, a2⟩ := he i hi
          simp only [up_a]
          refine ⟨?_, ?_⟩
          · by_cases hin : i = n
            · subst hin
              rw [if_pos rfl, if_neg (by omega), if_pos rfl]
            · rw [if_neg hin, if_neg (by omega), if_neg (by omega)]; exact a1
          · by_cases hin : i = n
            · subst hin
              rw [if_pos rfl, if_pos rfl]
            · rw [if_neg hin, if_neg (by omega), if_neg (by omega)]; exact a2
