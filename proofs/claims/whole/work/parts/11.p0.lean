/-! pure rows: numbers, indices, counted loops -/
theorem i_lit (n : Nat) : (OfNat.ofNat n : Int32) = nI n := rfl
theorem i_lt (a b : Int32) : a < b ↔ a.toInt < b.toInt := Int32.lt_iff_toInt_lt
theorem i_le (a b : Int32) : a ≤ b ↔ a.toInt ≤ b.toInt := Int32.le_iff_toInt_le
theorem i_eq (a b : Int32) : a = b ↔ a.toInt = b.toInt := Int32.toInt_inj.symm
theorem i_rng (x : Int32) : -2147483648 ≤ x.toInt ∧ x.toInt < 2147483648 := ⟨Int32.le_toInt x, Int32.toInt_lt x⟩
theorem i_bmod {z : Int} (h1 : -2147483648 ≤ z) (h2 : z < 2147483648) : z.bmod (2 ^ 32) = z := by
  rw [Int.bmod_eq_of_le] <;> omega
theorem i_add {x y : Int32} (h1 : -2147483648 ≤ x.toInt + y.toInt) (h2 : x.toInt + y.toInt < 2147483648) : (x + y).toInt = x.toInt + y.toInt := by
  rw [Int32.toInt_add]; exact i_bmod h1 h2
theorem i_sub {x y : Int32} (h1 : -2147483648 ≤ x.toInt - y.toInt) (h2 : x.toInt - y.toInt < 2147483648) : (x - y).toInt = x.toInt - y.toInt := by
  rw [Int32.toInt_sub]; exact i_bmod h1 h2
theorem i_mul {x y : Int32} (h1 : -2147483648 ≤ x.toInt * y.toInt) (h2 : x.toInt * y.toInt < 2147483648) : (x * y).toInt = x.toInt * y.toInt := by
  rw [Int32.toInt_mul]; exact i_bmod h1 h2
/-- a number between two naturals is a natural -/
theorem i_nat {x : Int32} (a b : Nat) (hab : a ≤ b) (hb : b < 2 ^ 31) (h1 : nI a ≤ x) (h2 : x ≤ nI b) : ∃ k, a ≤ k ∧ k ≤ b ∧ x = nI k := by
  rw [i_le] at h1 h2
  rw [nI_toInt hb] at h2
  rw [nI_toInt (by omega)] at h1
  refine ⟨x.toInt.toNat, by omega, by omega, ?_⟩
  rw [i_eq, nI_toInt (by omega)]
  omega
theorem ix_n {k n : Nat} (hk : k < 2 ^ 31) : ix (nI k) n = decide (k < n) := by
  unfold ix
  rw [nI_clamp hk]
  have h : (0 : Int32) ≤ nI k := nI_pos' hk
  simp [h]
theorem ix_t {k n : Nat} (h : k < n) (hn : n < 2 ^ 31) : ix (nI k) n = true := by
  rw [ix_n (by omega)]
  exact decide_eq_true h
theorem up_s (f : Nat → Int32) (k : Nat) (x : Int32) : upd f k x k = x := by simp [upd]
theorem up_n {f : Nat → Int32} {k j : Nat} {x : Int32} (h : j ≠ k) : upd f k x j = f j := by simp [upd, h]
theorem up_a (f : Nat → Int32) (k j : Nat) (x : Int32) : upd f k x j = if j = k then x else f j := rfl
theorem in_within : f_Model_in = f_Strait_within := rfl
theorem has_has : f_Model_has = f_Strait_has := rfl
theorem win (p : Int32) {A B : Int32} (a b : Nat) (hA : A = nI a) (hB : B = nI b) (hab : a ≤ b) (hb : b < 2 ^ 31) : f_Strait_within p A B = 0 ∨ (f_Strait_within p A B = 1 ∧ ∃ k, a ≤ k ∧ k ≤ b ∧ p = nI k) := by
  subst hA; subst hB
  unfold f_Strait_within
  by_cases h1 : p < nI a
  · exact Or.inl (if_pos h1)
  · rw [if_neg h1]
    by_cases h2 : nI b < p
    · exact Or.inl (if_pos h2)
    · rw [if_neg h2]
      refine Or.inr ⟨rfl, i_nat a b hab hb ?_ ?_⟩
      · rw [i_lt] at h1; rw [i_le]; omega
      · rw [i_lt] at h2; rw [i_le]; omega
theorem one_ne : ¬ (1 : Int32) = 0 := by decide
/-- the same again, of a number that is in, with what else holds of it -/
theorem win1 {a b k : Nat} (h1 : a ≤ k) (h2 : k ≤ b) (hb : b < 2 ^ 31) : f_Strait_within (nI k) (nI a) (nI b) = 1 := by
  unfold f_Strait_within
  rw [if_neg, if_neg]
  · rw [i_lt, nI_toInt hb, nI_toInt (by omega)]; omega
  · rw [i_lt, nI_toInt (by omega), nI_toInt (by omega)]; omega
theorem cl_n {k : Nat} (h : k < 2 ^ 31) : (nI k).toNatClampNeg = k := nI_clamp h
/-- a loop that counts to N and leaves -/
theorem ev_cnt {σ ρ : Type} {B : σ → Option (σ ⊕ ρ)} (f : Nat → σ) (N : Nat) {s0 : σ} {r : ρ} (h0 : s0 = f 0) (hs : ∀ k, k < N → B (f k) = some (.inl (f (k + 1)))) (he : B (f N) = some (.inr r)) : ev B s0 = some r := by
  rw [h0, ev_for f N hs 0 (Nat.zero_le N)]
  exact ev_inr he
/-- the head of a counted loop: go on, leave -/
theorem lge {N k : Nat} {L : Int32} (hL : L = nI N) (h : k < N) (hN : N < 2 ^ 31) : ¬ L ≤ nI k := by rw [hL]; exact nI_ge h hN
theorem lle {N : Nat} {L : Int32} (hL : L = nI N) : L ≤ nI N := by rw [hL, i_le]; exact Int.le_refl _
