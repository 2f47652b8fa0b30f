/-! pure rows: reads, drift -/
theorem least_ev {u l g q : Nat} (hg : 0 < g) (hu : u * g ≤ q * (l * g)) (hub : u * g < 2 ^ 63) (hlb : 9 * (l * g) < 2 ^ 63) (hq : q ≤ 9) : ∀ d j, j + d = q → ∃ r, ev (fun s : Int32 => b_Fraction_leastWholeNotBelow_1 (nI q) (lN u) (lN l) s) (nI j) = some r ∧ ev (fun s : Int32 => b_Model_reads_1 (lN (u * g)) (lN (l * g)) s) (nI j) = some r := by
  have hul : u ≤ u * g := Nat.le_mul_of_pos_right u hg
  have hll : l ≤ l * g := Nat.le_mul_of_pos_right l hg
  have hjl : ∀ j, j ≤ q → j * l ≤ 9 * l ∧ j * (l * g) ≤ 9 * (l * g) := fun j h => ⟨Nat.mul_le_mul_right l (by omega), Nat.mul_le_mul_right _ (by omega)⟩
  have hlt : ∀ j, j * (l * g) < u * g ↔ j * l < u := by
    intro j
    rw [← Nat.mul_assoc]
    exact Nat.mul_lt_mul_right hg
  have hc1 : ∀ j, j ≤ q → (lg_cmp ((nI j).toInt64 * lN l) (lN u) < 0 ↔ j * l < u) := by
    intro j hj
    have := hjl j hj
    rw [lg_cmp_lt, nI_l (by omega), lN_mul, pk_lLT (by omega) (by omega)]
  have hc2 : ∀ j, j ≤ q → (0 ≤ lg_cmp ((nI j).toInt64 * lN (l * g)) (lN (u * g)) ↔ ¬ j * l < u) := by
    intro j hj
    have := hjl j hj
    rw [lg_cmp_ge, nI_l (by omega), lN_mul, pk_lLE (by omega) (by omega), ← hlt]
    omega
  intro d
  induction d with
  | zero =>
    intro j hj
    have : j = q := by omega
    subst this
    refine ⟨nI j, ev_inr ?_, ev_inr ?_⟩
    · show b_Fraction_leastWholeNotBelow_1 (nI j) (lN u) (lN l) (nI j) = _
      unfold b_Fraction_leastWholeNotBelow_1
      rw [if_pos (nI_le (Nat.le_refl _) (by omega))]
    · show b_Model_reads_1 (lN (u * g)) (lN (l * g)) (nI j) = _
      unfold b_Model_reads_1
      rw [if_pos ((hc2 j (Nat.le_refl _)).mpr (fun z => by have := (hlt j).mpr z; omega))]
  | succ d ih =>
    intro j hj
    by_cases h : j * l < u
    · obtain ⟨r, r1, r2⟩ := ih (j + 1) (by omega)
      refine ⟨r, ?_, ?_⟩
      · rw [← r1]
        refine ev_inl ?_
        show b_Fraction_leastWholeNotBelow_1 (nI q) (lN u) (lN l) (nI j) = _
        unfold b_Fraction_leastWholeNotBelow_1
        rw [if_neg (nI_ge (by omega) (by omega)), if_pos ((hc1 j (by omega)).mpr h), nI_1]
      · rw [← r2]
        refine ev_inl ?_
        show b_Model_reads_1 (lN (u * g)) (lN (l * g)) (nI j) = _
        unfold b_Model_reads_1
        rw [if_neg (fun z => (hc2 j (by omega)).mp z h), nI_1]
    · refine ⟨nI j, ev_inr ?_, ev_inr ?_⟩
      · show b_Fraction_leastWholeNotBelow_1 (nI q) (lN u) (lN l) (nI j) = _
        unfold b_Fraction_leastWholeNotBelow_1
        rw [if_neg (nI_ge (by omega) (by omega)), if_neg (fun z => h ((hc1 j (by omega)).mp z))]
      · show b_Model_reads_1 (lN (u * g)) (lN (l * g)) (nI j) = _
        unfold b_Model_reads_1
        rw [if_pos ((hc2 j (by omega)).mpr h)]
theorem e_reads (fu fl a b : Int64) (p1 p2 : Int32) : ∃ r x a' b', f_Strait_reads fu fl p1 p2 = some (r, x) ∧ f_Model_reads a b p1 p2 = some (r, a', b') := by
  have c1 := win p1 (A := 1) (B := 12) 1 12 rfl rfl (by decide) (by decide)
  have c2 := win p2 (A := 1) (B := 9) 1 9 rfl rfl (by decide) (by decide)
  unfold f_Strait_reads f_Model_reads f_Strait_waitIsAsTold
  rw [in_within]
  rcases c1 with c1 | ⟨c1, n, hn0, hn, rfl⟩
  · rw [if_pos c1, if_pos c1]; exact ⟨_, _, _, _, rfl, rfl⟩
  have n1 : ¬ f_Strait_within (nI n) 1 12 = 0 := by rw [c1]; exact one_ne
  rw [if_neg n1, if_neg n1]
  rcases c2 with c2 | ⟨c2, q, hq0, hq, rfl⟩
  · rw [if_pos c2, if_pos c2]; exact ⟨_, _, _, _, rfl, rfl⟩
  have n2 : ¬ f_Strait_within (nI q) 1 9 = 0 := by rw [c2]; exact one_ne
  obtain ⟨m, rfl⟩ : ∃ m, n = m + 1 := ⟨n - 1, by omega⟩
  have hm : m ≤ 12 := by omega
  rw [if_neg n2, if_neg n2, if_neg one_ne, nI_pred, (wait_ev hq hm fu fl).1, (wait_ev hq hm a b).2]
  have hp := pw_le (k := m) hq hm
  have hp0 : 0 < (q + 1) ^ m := Nat.pow_pos (by omega)
  have hw := wu_le q m
  have hw2 : q * (q + 1) ^ m ≤ 9 * (q + 1) ^ m := Nat.mul_le_mul_right _ hq
  obtain ⟨r1, r2⟩ := red_ev (u := wu q m) (l := (q + 1) ^ m) (by omega) hp0 (by omega)
  have hg0 : 0 < Nat.gcd (wu q m) ((q + 1) ^ m) := Nat.gcd_pos_of_pos_right _ hp0
  have d1 : wu q m / Nat.gcd (wu q m) ((q + 1) ^ m) * Nat.gcd (wu q m) ((q + 1) ^ m) = wu q m := Nat.div_mul_cancel (Nat.gcd_dvd_left _ _)
  have d2 : (q + 1) ^ m / Nat.gcd (wu q m) ((q + 1) ^ m) * Nat.gcd (wu q m) ((q + 1) ^ m) = (q + 1) ^ m := Nat.div_mul_cancel (Nat.gcd_dvd_right _ _)
  obtain ⟨r, z1, z2⟩ := least_ev (u := wu q m / Nat.gcd (wu q m) ((q + 1) ^ m)) (l := (q + 1) ^ m / Nat.gcd (wu q m) ((q + 1) ^ m)) hg0 (by rw [d1, d2]; exact hw) (by rw [d1]; omega) (by rw [d2]; omega) hq q 0 (by omega)
  rw [d1, d2] at z2
  have z1' : f_Fraction_leastWholeNotBelow (lN (wu q m / Nat.gcd (wu q m) ((q + 1) ^ m))) (lN ((q + 1) ^ m / Nat.gcd (wu q m) ((q + 1) ^ m))) (nI q) = some r := z1
  have z2' : ev (fun s : Int32 => b_Model_reads_1 (lN (wu q m)) (lN ((q + 1) ^ m)) s) (0 : Int32) = some r := z2
  simp only [r1, Option.bind_some, z1', z2']
  exact ⟨_, _, _, _, rfl, rfl⟩
/-- the chance of SIDE 1 behind k months, over 10 ^ k; and the sum -/
def dA (x y p : Nat) : Nat → Nat
  | 0 => p
  | k + 1 => dA x y p k * (10 - y) + (10 ^ k - dA x y p k) * x
def dSm (x y p : Nat) : Nat → Nat
  | 0 => 0
  | k + 1 => dSm x y p k * 10 + dA x y p (k + 1)
theorem dA_le {x y p : Nat} (hx : x ≤ 10) (hp : p ≤ 1) : ∀ k, dA x y p k ≤ 10 ^ k := by
  intro k
  induction k with
  | zero => simpa [dA] using hp
  | succ k ih =>
    rw [dA, Nat.pow_succ]
    have h1 : dA x y p k * (10 - y) ≤ dA x y p k * 10 := Nat.mul_le_mul_left _ (by omega)
    have h2 : (10 ^ k - dA x y p k) * x ≤ (10 ^ k - dA x y p k) * 10 := Nat.mul_le_mul_left _ hx
    omega
theorem dS_le {x y p : Nat} (hx : x ≤ 10) (hp : p ≤ 1) : ∀ k, dSm x y p k ≤ k * 10 ^ k := by
  intro k
  induction k with
  | zero => simp [dSm]
  | succ k ih =>
    rw [dSm]
    have h1 := dA_le (y := y) hx hp (k + 1)
    have h2 : (k + 1) * 10 ^ (k + 1) = k * 10 ^ k * 10 + 10 ^ (k + 1) := by rw [Nat.succ_mul, Nat.pow_succ, ← Nat.mul_assoc]
    omega
theorem drift_ev {x y p n : Nat} (hx : x ≤ 10) (hy : y ≤ 10) (hp : p ≤ 1) (hn : n ≤ 17) : ev (fun s : Int64 × Int64 × Int32 × Int64 => b_Fraction_setDrift_1 (nI x) (nI y) (nI n) s.1 s.2.1 s.2.2.1 s.2.2.2) ((nI p).toInt64, (0 : Int64), (0 : Int32), (1 : Int64)) = some (lN (dA x y p n), lN (dSm x y p n), lN (10 ^ n)) ∧ ev (fun s : Int64 × Int64 × Int64 × Int32 => b_Model_drift_1 (nI x) (nI y) (nI n) s.1 s.2.1 s.2.2.1 s.2.2.2) ((1 : Int64), (nI p).toInt64, (0 : Int64), (0 : Int32)) = some (lN (10 ^ n), lN (dA x y p n), lN (dSm x y p n)) := by
  have e0 : (nI p).toInt64 = lN p := nI_l (by omega)
  have e1 : ((10 : Int32) - nI y).toInt64 = lN (10 - y) := by rw [show (10 : Int32) = nI 10 from rfl, pk_sub hy, nI_l (by omega)]
  have e2 : (nI x).toInt64 = lN x := nI_l (by omega)
  have e3 : (10 : Int64) = lN 10 := rfl
  rw [e0]
  refine ⟨ev_cnt (fun k => (lN (dA x y p k), lN (dSm x y p k), nI k, lN (10 ^ k))) n rfl (fun k hk => ?_) ?_, ev_cnt (fun k => (lN (10 ^ k), lN (dA x y p k), lN (dSm x y p k), nI k)) n rfl (fun k hk => ?_) ?_⟩
  · show b_Fraction_setDrift_1 (nI x) (nI y) (nI n) (lN (dA x y p k)) (lN (dSm x y p k)) (nI k) (lN (10 ^ k)) = _
    unfold b_Fraction_setDrift_1
    rw [if_neg (nI_ge hk (by omega)), e1, e2, e3, lN_sub (dA_le hx hp k), lN_mul, lN_mul, lN_add, lN_mul, lN_add, lN_mul, nI_1]
    rfl
  · show b_Fraction_setDrift_1 (nI x) (nI y) (nI n) _ _ (nI n) _ = _
    unfold b_Fraction_setDrift_1
    rw [if_pos (nI_le (Nat.le_refl _) (by omega))]
  · show b_Model_drift_1 (nI x) (nI y) (nI n) (lN (10 ^ k)) (lN (dA x y p k)) (lN (dSm x y p k)) (nI k) = _
    unfold b_Model_drift_1
    rw [if_neg (nI_ge hk (by omega)), e1, e2, e3, lN_sub (dA_le hx hp k), lN_mul, lN_mul, lN_mul, lN_add, lN_mul, lN_add, nI_1, Nat.mul_comm 10, Nat.add_comm ((10 ^ k - dA x y p k) * x)]
    rfl
  · show b_Model_drift_1 (nI x) (nI y) (nI n) _ _ _ (nI n) = _
    unfold b_Model_drift_1
    rw [if_pos (nI_le (Nat.le_refl _) (by omega))]
theorem setDrift_ev {x y p n : Nat} (hx : x ≤ 10) (hy : y ≤ 10) (hp : p ≤ 1) (hn : n ≤ 17) (fu fl : Int64) (p5 : Int32) : f_Fraction_setDrift fu fl (nI p) (nI x) (nI y) (nI n) p5 = if p5 = 0 then f_Fraction_reduce (lN (dA x y p n)) (lN (10 ^ n)) else f_Fraction_reduce (lN (dSm x y p n)) (lN (10 ^ n)) := by
  unfold f_Fraction_setDrift
  rw [(drift_ev hx hy hp hn).1, Option.bind_some]
  show (if p5 = 0 then (f_Fraction_reduce (lN (dA x y p n)) (lN (10 ^ n))).bind (fun z => some (z.1, z.2)) else (f_Fraction_reduce (lN (dSm x y p n)) (lN (10 ^ n))).bind (fun z => some (z.1, z.2))) = _
  by_cases h : p5 = 0
  · rw [if_pos h, if_pos h]; cases f_Fraction_reduce (lN (dA x y p n)) (lN (10 ^ n)) <;> rfl
  · rw [if_neg h, if_neg h]; cases f_Fraction_reduce (lN (dSm x y p n)) (lN (10 ^ n)) <;> rfl
theorem e_drift (fu fl : Int64) (p1 p2 p3 p4 p5 p6 : Int32) : ∃ r x, f_Strait_drift fu fl p1 p2 p3 p4 p5 p6 = some (r, x) ∧ f_Model_drift p1 p2 p3 p4 p5 p6 = some r := by
  have c1 := win p1 (A := 0) (B := 1) 0 1 rfl rfl (by decide) (by decide)
  have c2 := win p2 (A := 0) (B := 10) 0 10 rfl rfl (by decide) (by decide)
  have c3 := win p3 (A := 0) (B := 10) 0 10 rfl rfl (by decide) (by decide)
  unfold f_Strait_drift f_Model_drift
  rw [in_within]
  rcases c1 with c1 | ⟨c1, p, hp0, hp, rfl⟩
  · rw [if_pos c1, if_pos c1]; exact ⟨_, _, rfl, rfl⟩
  have n1 : ¬ f_Strait_within (nI p) 0 1 = 0 := by rw [c1]; exact one_ne
  rw [if_neg n1, if_neg n1]
  rcases c2 with c2 | ⟨c2, x, hx0, hx, rfl⟩
  · rw [if_pos c2, if_pos c2]; exact ⟨_, _, rfl, rfl⟩
  have n2 : ¬ f_Strait_within (nI x) 0 10 = 0 := by rw [c2]; exact one_ne
  rw [if_neg n2, if_neg n2]
  rcases c3 with c3 | ⟨c3, y, hy0, hy, rfl⟩
  · rw [if_pos c3, if_pos c3]; exact ⟨_, _, rfl, rfl⟩
  have n3 : ¬ f_Strait_within (nI y) 0 10 = 0 := by rw [c3]; exact one_ne
  rw [if_neg n3, if_neg n3]
  by_cases n5 : f_Strait_within p5 0 1 = 0
  · rw [if_pos n5, if_pos n5]; exact ⟨_, _, rfl, rfl⟩
  rw [if_neg n5, if_neg n5]
  have hpow : ∀ n, n ≤ 17 → 10 ^ n ≤ 10 ^ 17 ∧ 0 < 10 ^ n := fun n h => ⟨Nat.pow_le_pow_right (by decide) h, Nat.pow_pos (by decide)⟩
  by_cases n6 : f_Strait_within p6 0 1 = 0
  · rw [if_pos n6]
    by_cases h5 : p5 = 0
    · rw [if_pos h5]
      by_cases n4 : f_Strait_within p4 0 17 = 0
      · rw [if_pos n4]; exact ⟨_, _, rfl, rfl⟩
      · rw [if_neg n4, if_pos n6]; exact ⟨_, _, rfl, rfl⟩
    · rw [if_neg h5]
      by_cases n4 : f_Strait_within p4 0 16 = 0
      · rw [if_pos n4]; exact ⟨_, _, rfl, rfl⟩
      · rw [if_neg n4, if_pos n6]; exact ⟨_, _, rfl, rfl⟩
  rw [if_neg n6]
  by_cases h5 : p5 = 0
  · rw [if_pos h5, if_pos h5]
    rcases win p4 (A := 0) (B := 17) 0 17 rfl rfl (by decide) (by decide) with c4 | ⟨c4, n, hn0, hn, rfl⟩
    · rw [if_pos c4, if_pos c4]; exact ⟨_, _, rfl, rfl⟩
    have n4 : ¬ f_Strait_within (nI n) 0 17 = 0 := by rw [c4]; exact one_ne
    rw [if_neg n4, if_neg n4, if_neg n6, setDrift_ev hx hy hp hn, if_pos h5, (drift_ev hx hy hp hn).2]
    have hl := hpow n hn
    have ha := dA_le (y := y) hx hp n
    obtain ⟨r1, r2⟩ := red_ev (u := dA x y p n) (l := 10 ^ n) (by omega) hl.2 (by omega)
    simp only [r1, r2, Option.bind_some, if_pos h5]
    exact ⟨_, _, rfl, rfl⟩
  · rw [if_neg h5, if_neg h5]
    rcases win p4 (A := 0) (B := 16) 0 16 rfl rfl (by decide) (by decide) with c4 | ⟨c4, n, hn0, hn, rfl⟩
    · rw [if_pos c4, if_pos c4]; exact ⟨_, _, rfl, rfl⟩
    have n4 : ¬ f_Strait_within (nI n) 0 16 = 0 := by rw [c4]; exact one_ne
    have hn' : n ≤ 17 := by omega
    rw [if_neg n4, if_neg n4, if_neg n6, setDrift_ev hx hy hp hn', if_neg h5, (drift_ev hx hy hp hn').2]
    have hl := hpow n hn'
    have ha := dS_le (y := y) hx hp n
    have hb : n * 10 ^ n ≤ 17 * 10 ^ 17 := Nat.mul_le_mul hn' hl.1
    obtain ⟨r1, r2⟩ := red_ev (u := dSm x y p n) (l := 10 ^ n) (by omega) hl.2 (by omega)
    simp only [r1, r2, Option.bind_some, if_neg h5]
    exact ⟨_, _, rfl, rfl⟩
