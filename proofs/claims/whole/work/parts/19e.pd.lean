/-! pure rows: fractions: waiting, reads, drift -/
theorem lN_pos {b : Nat} (h0 : 0 < b) (h : b < 2 ^ 63) : ¬ lN b = 0 := by
  rw [show (0 : Int64) = lN 0 from rfl, pk_lEQ h (by decide)]; omega
theorem half_mod {b r : Nat} (hr : 0 < r) (h : r < b) {e : Nat} (hb : b < 2 ^ (e + 1)) : b % r < 2 ^ e := by
  rw [Nat.pow_succ] at hb
  have h1 := Nat.mod_lt b hr
  have h2 : b % r ≤ b - r := by rw [Nat.mod_eq_sub_mod (Nat.le_of_lt h)]; exact Nat.mod_le _ _
  omega
theorem cd_ev : ∀ e a b i, a < 2 ^ 63 → b < 2 ^ 63 → b < 2 ^ e → i + 2 * e ≤ 998 → ev (fun s : Int64 × Int64 × Int32 => b_Fraction_commonDivisor_1 s.1 s.2.1 s.2.2) (lN a, lN b, nI i) = some (lN (Nat.gcd a b)) ∧ ev (fun s : Int64 × Int64 => b_Model_lowest_1 s.1 s.2) (lN a, lN b) = some (lN (Nat.gcd a b)) := by
  have hz : ∀ a i, i ≤ 999 → ev (fun s : Int64 × Int64 × Int32 => b_Fraction_commonDivisor_1 s.1 s.2.1 s.2.2) (lN a, lN 0, nI i) = some (lN a) ∧ ev (fun s : Int64 × Int64 => b_Model_lowest_1 s.1 s.2) (lN a, lN 0) = some (lN a) := by
    intro a i hi
    refine ⟨ev_inr ?_, ev_inr ?_⟩
    · show b_Fraction_commonDivisor_1 (lN a) (lN 0) (nI i) = _
      unfold b_Fraction_commonDivisor_1
      rw [if_neg (lge (L := 1000) (N := 1000) rfl (by omega) (by decide)), if_pos (show lg_cmp (lN 0) 0 = 0 from (lg_cmp_eq _ _).mpr rfl)]
    · show b_Model_lowest_1 (lN a) (lN 0) = _
      unfold b_Model_lowest_1
      rw [if_pos (show lg_cmp (lN 0) 0 = 0 from (lg_cmp_eq _ _).mpr rfl)]
  have hs : ∀ a b i, a < 2 ^ 63 → 0 < b → b < 2 ^ 63 → i ≤ 999 → b_Fraction_commonDivisor_1 (lN a) (lN b) (nI i) = some (.inl (lN b, lN (a % b), nI (i + 1))) ∧ b_Model_lowest_1 (lN a) (lN b) = some (.inl (lN b, lN (a % b))) := by
    intro a b i ha h0 hb hi
    have h1 : ¬ lg_cmp (lN b) 0 = 0 := by rw [lg_cmp_eq]; exact lN_pos h0 hb
    refine ⟨?_, ?_⟩
    · unfold b_Fraction_commonDivisor_1
      rw [if_neg (lge (L := 1000) (N := 1000) rfl (by omega) (by decide)), if_neg h1, if_pos (lN_pos h0 hb), pk_lRem ha h0 hb, nI_1]
    · unfold b_Model_lowest_1
      rw [if_neg h1, if_pos (lN_pos h0 hb), pk_lRem ha h0 hb]
  intro e
  induction e with
  | zero =>
    intro a b i ha hb he hi
    have : b = 0 := by simpa using he
    subst this
    rw [Nat.gcd_zero_right]
    exact hz a i (by omega)
  | succ e ih =>
    intro a b i ha hb he hi
    by_cases h0 : b = 0
    · subst h0
      rw [Nat.gcd_zero_right]
      exact hz a i (by omega)
    · obtain ⟨s1, s2⟩ := hs a b i ha (by omega) hb (by omega)
      have hr := Nat.mod_lt a (show 0 < b by omega)
      have hg : Nat.gcd a b = Nat.gcd b (a % b) := by rw [Nat.gcd_comm a b, Nat.gcd_rec b a, Nat.gcd_comm]
      rw [hg]
      rw [ev_inl (B := fun s : Int64 × Int64 × Int32 => b_Fraction_commonDivisor_1 s.1 s.2.1 s.2.2) (s := (lN a, lN b, nI i)) s1, ev_inl (B := fun s : Int64 × Int64 => b_Model_lowest_1 s.1 s.2) (s := (lN a, lN b)) s2]
      by_cases h1 : a % b = 0
      · rw [h1, Nat.gcd_zero_right]
        exact hz b (i + 1) (by omega)
      · obtain ⟨s3, s4⟩ := hs b (a % b) (i + 1) hb (by omega) (by omega) (by omega)
        have hg2 : Nat.gcd b (a % b) = Nat.gcd (a % b) (b % (a % b)) := by rw [Nat.gcd_comm b, Nat.gcd_rec (a % b) b, Nat.gcd_comm]
        rw [hg2]
        rw [ev_inl (B := fun s : Int64 × Int64 × Int32 => b_Fraction_commonDivisor_1 s.1 s.2.1 s.2.2) (s := (lN b, lN (a % b), nI (i + 1))) s3, ev_inl (B := fun s : Int64 × Int64 => b_Model_lowest_1 s.1 s.2) (s := (lN b, lN (a % b))) s4]
        exact ih (a % b) (b % (a % b)) (i + 1 + 1) (by omega) (Nat.lt_of_le_of_lt (Nat.mod_le _ _) hb) (half_mod (by omega) hr he) (by omega)
theorem red_ev {u l : Nat} (hu : u < 2 ^ 63) (h0 : 0 < l) (hl : l < 2 ^ 63) : f_Fraction_reduce (lN u) (lN l) = some (lN (u / Nat.gcd u l), lN (l / Nat.gcd u l)) ∧ ∀ p3 : Int32, f_Model_lowest (lN u) (lN l) p3 = some (if p3 = 0 then lN (u / Nat.gcd u l) else lN (l / Nat.gcd u l)) := by
  obtain ⟨h1, h2⟩ := cd_ev 63 u l 0 hu hl hl (by decide)
  have hg0 : 0 < Nat.gcd u l := Nat.gcd_pos_of_pos_right u h0
  have hgl : Nat.gcd u l ≤ l := Nat.gcd_le_right u h0
  have hg : Nat.gcd u l < 2 ^ 63 := by omega
  have hne := lN_pos hg0 hg
  refine ⟨?_, fun p3 => ?_⟩
  · have h3 : f_Fraction_commonDivisor (lN u) (lN l) = some (lN (Nat.gcd u l)) := by
      unfold f_Fraction_commonDivisor
      rw [show ((lN u, lN l, (0 : Int32)) : Int64 × Int64 × Int32) = (lN u, lN l, nI 0) from rfl, h1]; rfl
    unfold f_Fraction_reduce
    rw [h3, Option.bind_some]
    have hc : lg_cmp (lN (Nat.gcd u l)) 1 ≤ 0 ↔ Nat.gcd u l ≤ 1 := by rw [lg_cmp_le, show (1 : Int64) = lN 1 from rfl, pk_lLE hg (by decide)]
    by_cases h4 : Nat.gcd u l ≤ 1
    · have h5 : Nat.gcd u l = 1 := by omega
      rw [if_pos (hc.mpr h4), h5, Nat.div_one, Nat.div_one]
    · rw [if_neg (fun z => h4 (hc.mp z)), if_pos hne, if_pos hne, pk_lDiv hu hg0 hg, pk_lDiv hl hg0 hg]
  · unfold f_Model_lowest
    rw [h2, Option.bind_some]
    simp only [if_pos hne, pk_lDiv hu hg0 hg, pk_lDiv hl hg0 hg]
    by_cases h : p3 = 0
    · rw [if_pos h, if_pos h]
    · rw [if_neg h, if_neg h]
/-- one reading more to wait for -/
def wq (u l : Nat) : Nat → Nat
  | 0 => 0
  | j + 1 => wq u l j + max u (j * l)
theorem wq_le {u l q : Nat} (hu : u ≤ q * l) : ∀ j, j ≤ q + 1 → wq u l j ≤ j * (q * l) := by
  intro j
  induction j with
  | zero => intro _; simp [wq]
  | succ j ih =>
    intro hj
    have h1 := ih (by omega)
    have h2 : j * l ≤ q * l := Nat.mul_le_mul_right l (by omega)
    have h3 : (j + 1) * (q * l) = j * (q * l) + q * l := Nat.succ_mul j (q * l)
    rw [wq, h3]
    have : max u (j * l) ≤ q * l := Nat.max_le.mpr ⟨hu, h2⟩
    omega
theorem wq_ev {u l q : Nat} (hq : q ≤ 9) (hu : u ≤ q * l) (hl : l < 10 ^ 14) : ev (fun s : Int64 × Int32 => b_Fraction_setWaiting_2 (nI q) (lN u) (lN l) s.1 s.2) ((0 : Int64), (0 : Int32)) = some (lN (wq u l (q + 1))) ∧ ev (fun s : Int64 × Int32 => b_Model_layWait_2 (nI q) (lN u) (lN l) s.1 s.2) ((0 : Int64), (0 : Int32)) = some (lN (wq u l (q + 1))) := by
  have hql : q * l ≤ 9 * l := Nat.mul_le_mul_right l hq
  have hj : ∀ j, j < q + 1 → j * l ≤ 9 * l := fun j h => Nat.mul_le_mul_right l (by omega)
  refine ⟨ev_cnt (fun j => (lN (wq u l j), nI j)) (q + 1) rfl (fun j hjq => ?_) ?_, ev_cnt (fun j => (lN (wq u l j), nI j)) (q + 1) rfl (fun j hjq => ?_) ?_⟩
  · show b_Fraction_setWaiting_2 (nI q) (lN u) (lN l) (lN (wq u l j)) (nI j) = _
    have := hj j hjq
    unfold b_Fraction_setWaiting_2
    rw [if_neg (nI_nlt (by omega) (by omega)), nI_l (by omega), lN_mul, nI_1]
    have hc : lN u < lN (j * l) ↔ u < j * l := pk_lLT (by omega) (by omega)
    show _ = some (Sum.inl (lN (wq u l j + max u (j * l)), nI (j + 1)))
    by_cases h : u < j * l
    · rw [if_pos (hc.mpr h), lN_add, Nat.max_eq_right (by omega)]
    · rw [if_neg (fun z => h (hc.mp z)), lN_add, Nat.max_eq_left (by omega)]
  · show b_Fraction_setWaiting_2 (nI q) (lN u) (lN l) _ (nI (q + 1)) = _
    unfold b_Fraction_setWaiting_2
    rw [if_pos (nI_lt (by omega) (by omega))]
  · show b_Model_layWait_2 (nI q) (lN u) (lN l) (lN (wq u l j)) (nI j) = _
    have := hj j hjq
    unfold b_Model_layWait_2
    rw [if_neg (nI_nlt (by omega) (by omega)), nI_l (by omega), lN_mul, nI_1]
    have hc : lg_cmp (lN (j * l)) (lN u) ≤ 0 ↔ j * l ≤ u := by rw [lg_cmp_le, pk_lLE (by omega) (by omega)]
    show _ = some (Sum.inl (lN (wq u l j + max u (j * l)), nI (j + 1)))
    by_cases h : j * l ≤ u
    · rw [if_pos (hc.mpr h), lN_add, Nat.max_eq_left (by omega)]
    · rw [if_neg (fun z => h (hc.mp z)), lN_add, Nat.max_eq_right (by omega)]
  · show b_Model_layWait_2 (nI q) (lN u) (lN l) _ (nI (q + 1)) = _
    unfold b_Model_layWait_2
    rw [if_pos (nI_lt (by omega) (by omega))]
def wu (q : Nat) : Nat → Nat
  | 0 => 0
  | k + 1 => wq (wu q k) ((q + 1) ^ k) (q + 1)
theorem wu_le (q : Nat) : ∀ k, wu q k ≤ q * (q + 1) ^ k := by
  intro k
  induction k with
  | zero => simp [wu]
  | succ k ih =>
    rw [wu]
    refine Nat.le_trans (wq_le ih (q + 1) (Nat.le_refl _)) ?_
    rw [Nat.pow_succ, Nat.mul_comm ((q + 1) ^ k), ← Nat.mul_assoc, ← Nat.mul_assoc, Nat.mul_comm (q + 1) q]
    exact Nat.le_refl _
theorem pw_le {q k : Nat} (hq : q ≤ 9) (hk : k ≤ 12) : (q + 1) ^ k ≤ 10 ^ 12 :=
  Nat.le_trans (Nat.pow_le_pow_left (show q + 1 ≤ 10 by omega) k) (Nat.pow_le_pow_right (by decide) hk)
theorem wait_ev {q n : Nat} (hq : q ≤ 9) (hn : n ≤ 12) (x y : Int64) : f_Fraction_setWaiting x y (nI n) (nI q) = f_Fraction_reduce (lN (wu q n)) (lN ((q + 1) ^ n)) ∧ f_Model_layWait x y (nI n) (nI q) = some (lN (wu q n), lN ((q + 1) ^ n)) := by
  have e1 : (nI q + 1).toInt64 = lN (q + 1) := by rw [nI_1, nI_l (by omega)]
  have h1 : ev (fun s : Int32 × Int64 × Int64 => b_Fraction_setWaiting_1 (nI n) (nI q) s.1 s.2.1 s.2.2) ((0 : Int32), (0 : Int64), (1 : Int64)) = some (lN (wu q n), lN ((q + 1) ^ n)) := by
    refine ev_cnt (fun k => (nI k, lN (wu q k), lN ((q + 1) ^ k))) n (by simp [wu]; exact ⟨rfl, rfl, rfl⟩) (fun k hk => ?_) ?_
    · show b_Fraction_setWaiting_1 (nI n) (nI q) (nI k) (lN (wu q k)) (lN ((q + 1) ^ k)) = _
      have := pw_le (k := k) hq (by omega)
      unfold b_Fraction_setWaiting_1
      rw [if_neg (nI_ge hk (by omega)), (wq_ev hq (wu_le q k) (by omega)).1, Option.bind_some, e1, lN_mul, nI_1, ← Nat.pow_succ]
      rfl
    · show b_Fraction_setWaiting_1 (nI n) (nI q) (nI n) _ _ = _
      unfold b_Fraction_setWaiting_1
      rw [if_pos (nI_le (Nat.le_refl _) (by omega))]
  have h2 : ev (fun s : Int32 × Int64 × Int64 => b_Model_layWait_1 (nI n) (nI q) s.1 s.2.1 s.2.2) ((0 : Int32), (0 : Int64), (1 : Int64)) = some (lN (wu q n), lN ((q + 1) ^ n)) := by
    refine ev_cnt (fun k => (nI k, lN (wu q k), lN ((q + 1) ^ k))) n (by simp [wu]; exact ⟨rfl, rfl, rfl⟩) (fun k hk => ?_) ?_
    · show b_Model_layWait_1 (nI n) (nI q) (nI k) (lN (wu q k)) (lN ((q + 1) ^ k)) = _
      have := pw_le (k := k) hq (by omega)
      unfold b_Model_layWait_1
      rw [if_neg (nI_ge hk (by omega)), (wq_ev hq (wu_le q k) (by omega)).2, Option.bind_some, e1, lN_mul, nI_1, ← Nat.pow_succ]
      rfl
    · show b_Model_layWait_1 (nI n) (nI q) (nI n) _ _ = _
      unfold b_Model_layWait_1
      rw [if_pos (nI_le (Nat.le_refl _) (by omega))]
  refine ⟨?_, ?_⟩
  · unfold f_Fraction_setWaiting
    rw [h1, Option.bind_some]
    show (f_Fraction_reduce (lN (wu q n)) (lN ((q + 1) ^ n))).bind (fun x => some (x.1, x.2)) = _
    cases f_Fraction_reduce (lN (wu q n)) (lN ((q + 1) ^ n)) <;> rfl
  · unfold f_Model_layWait
    rw [h2]; rfl
theorem e_waiting (fu fl a b : Int64) (p1 p2 p3 : Int32) : ∃ r x a' b', f_Strait_waiting fu fl p1 p2 p3 = some (r, x) ∧ f_Model_waiting a b p1 p2 p3 = some (r, a', b') := by
  have c1 := win p1 (A := 1) (B := 12) 1 12 rfl rfl (by decide) (by decide)
  have c2 := win p2 (A := 1) (B := 9) 1 9 rfl rfl (by decide) (by decide)
  unfold f_Strait_waiting f_Model_waiting f_Strait_waitIsAsTold
  rw [in_within]
  rcases c1 with c1 | ⟨c1, n, hn0, hn, rfl⟩
  · rw [if_pos c1, if_pos c1]; exact ⟨_, _, _, _, rfl, rfl⟩
  have n1 : ¬ f_Strait_within (nI n) 1 12 = 0 := by rw [c1]; exact one_ne
  rw [if_neg n1, if_neg n1]
  rcases c2 with c2 | ⟨c2, q, hq0, hq, rfl⟩
  · rw [if_pos c2, if_pos c2]; exact ⟨_, _, _, _, rfl, rfl⟩
  have n2 : ¬ f_Strait_within (nI q) 1 9 = 0 := by rw [c2]; exact one_ne
  rw [if_neg n2, if_neg n2, if_neg one_ne]
  by_cases c3 : f_Strait_within p3 0 1 = 0
  · rw [if_pos c3, if_pos c3]; exact ⟨_, _, _, _, rfl, rfl⟩
  rw [if_neg c3, if_neg c3, (wait_ev hq hn fu fl).1, (wait_ev hq hn a b).2]
  have hp := pw_le (k := n) hq hn
  have hp0 : 0 < (q + 1) ^ n := Nat.pow_pos (by omega)
  have hw := wu_le q n
  have hw2 : q * (q + 1) ^ n ≤ 9 * (q + 1) ^ n := Nat.mul_le_mul_right _ hq
  obtain ⟨r1, r2⟩ := red_ev (u := wu q n) (l := (q + 1) ^ n) (by omega) hp0 (by omega)
  simp only [r1, r2, Option.bind_some]
  exact ⟨_, _, _, _, rfl, rfl⟩
