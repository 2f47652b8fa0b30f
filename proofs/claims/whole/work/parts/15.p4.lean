/-! pure rows: told, fault -/
theorem wlo {p A B : Int32} (h : p < A) : f_Strait_within p A B = 0 := by unfold f_Strait_within; rw [if_pos h]
theorem whi {p A B : Int32} (h : B < p) : f_Strait_within p A B = 0 := by
  unfold f_Strait_within
  by_cases h1 : p < A
  · rw [if_pos h1]
  · rw [if_neg h1, if_pos h]
theorem nlt0 {p : Int32} {n : Nat} (hn : n < 2 ^ 31) (h : ¬ p < nI n) : ∃ k, n ≤ k ∧ k < 2 ^ 31 ∧ p = nI k := by
  rw [i_lt, nI_toInt hn] at h
  have hr := i_rng p
  refine ⟨p.toInt.toNat, by omega, by omega, ?_⟩
  rw [i_eq, nI_toInt (by omega)]
  omega
theorem e_told {t mon lost cnt sz : Int32} {hd sd md mt mt2 book wd wd2 cl cl2 sn sn2 : Nat → Int32} (hr : rSea t mon lost hd sd md book) (hm : eqn 6 mt mt2) (hw : eqn 10 wd wd2) (hc : eqn 10 cl cl2) (hs : eqn 6 sn sn2) (p1 : Int32) : ∃ r, f_Strait_told t mon lost hd sd md mt wd cl sn cnt sz p1 = some r ∧ f_Model_told book mt2 wd2 cl2 sn2 cnt sz p1 = some r := by
  obtain ⟨r1, r2, r3, r4⟩ := hr
  have e18 : ((18 : Int32).toNatClampNeg) = 18 := rfl
  have e19 : ((19 : Int32).toNatClampNeg) = 19 := rfl
  have e20 : ((20 : Int32).toNatClampNeg) = 20 := rfl
  have t10 : (10 : Int32).toInt = 10 := rfl
  have t20 : (20 : Int32).toInt = 20 := rfl
  have t29 : (29 : Int32).toInt = 29 := rfl
  have t19 : (19 : Int32).toInt = 19 := rfl
  have t30 : (30 : Int32).toInt = 30 := rfl
  have t35 : (35 : Int32).toInt = 35 := rfl
  have t100 : (100 : Int32).toInt = 100 := rfl
  unfold f_Strait_told f_Model_told
  rw [in_within, e18, e19, e20, r2, r3, r4]
  by_cases h100 : p1 < 100
  · by_cases h10 : p1 < 10
    · have z1 : f_Strait_within p1 10 19 = 0 := wlo h10
      have z2 : f_Strait_within p1 20 29 = 0 := wlo (by rw [i_lt] at h10 ⊢; omega)
      have z3 : f_Strait_within p1 30 35 = 0 := wlo (by rw [i_lt] at h10 ⊢; omega)
      have h30 : p1 < 30 := by rw [i_lt] at h10 ⊢; omega
      simp only [z1, z2, z3, if_true, h100, h10, h30]
      refine ⟨if p1 = 0 then sz else if p1 = 1 then t else if p1 = 2 then mon else if p1 = 3 then lost else if p1 = 4 then cnt else -2, ?_, ?_⟩ <;> (repeat' split) <;> rfl
    · obtain ⟨n, hn1, hn2, rfl⟩ := nlt0 (n := 10) (by decide) h10
      have hn : n < 100 := by rw [i_lt, nI_toInt hn2, t100] at h100; omega
      by_cases n20 : n < 20
      · have z1 : f_Strait_within (nI n) 10 19 = 1 := win1 (a := 10) (b := 19) hn1 (by omega) (by decide)
        have h30 : nI n < 30 := nI_lt (b := 30) (by omega) (by decide)
        have h20 : ¬ 20 ≤ nI n := lge (N := 20) rfl n20 (by decide)
        have ee : nI n - 10 = nI (n - 10) := pk_sub (b := 10) hn1
        simp only [z1, one_ne, if_false, h100, if_true, h30, h10, h20, ee, ix_t (show n - 10 < 10 by omega) (by decide), cl_n (show n - 10 < 2 ^ 31 by omega), hw (n - 10) (by omega)]
        exact ⟨_, rfl, rfl⟩
      · have z1 : f_Strait_within (nI n) 10 19 = 0 := whi (nI_lt (a := 19) (by omega) hn2)
        by_cases n30 : n < 30
        · have z2 : f_Strait_within (nI n) 20 29 = 1 := win1 (a := 20) (b := 29) (by omega) (by omega) (by decide)
          have h30 : nI n < 30 := nI_lt (b := 30) (by omega) (by decide)
          have h20 : 20 ≤ nI n := nI_le (a := 20) (by omega) hn2
          have ee : nI n - 20 = nI (n - 20) := pk_sub (b := 20) (by omega)
          simp only [z1, z2, one_ne, if_false, h100, if_true, h30, h10, h20, ee, ix_t (show n - 20 < 10 by omega) (by decide), cl_n (show n - 20 < 2 ^ 31 by omega), hc (n - 20) (by omega)]
          exact ⟨_, rfl, rfl⟩
        · have z2 : f_Strait_within (nI n) 20 29 = 0 := whi (nI_lt (a := 29) (by omega) hn2)
          have h30 : ¬ nI n < 30 := nI_nlt (b := 30) (by omega) hn2
          by_cases n36 : n < 36
          · have z3 : f_Strait_within (nI n) 30 35 = 1 := win1 (a := 30) (b := 35) (by omega) (by omega) (by decide)
            have ee : nI n - 30 = nI (n - 30) := pk_sub (b := 30) (by omega)
            simp only [z1, z2, z3, one_ne, if_false, h100, if_true, h30, ee, ix_t (show n - 30 < 6 by omega) (by decide), cl_n (show n - 30 < 2 ^ 31 by omega), hs (n - 30) (by omega)]
            exact ⟨_, rfl, rfl⟩
          · have z3 : f_Strait_within (nI n) 30 35 = 0 := whi (nI_lt (a := 35) (by omega) hn2)
            have n0 : ¬ nI n = 0 := fun z => by have := (nI_eq hn2 (show 0 < 2 ^ 31 by decide)).mp z; omega
            have n1 : ¬ nI n = 1 := fun z => by have := (nI_eq hn2 (show 1 < 2 ^ 31 by decide)).mp z; omega
            have n2 : ¬ nI n = 2 := fun z => by have := (nI_eq hn2 (show 2 < 2 ^ 31 by decide)).mp z; omega
            have n3 : ¬ nI n = 3 := fun z => by have := (nI_eq hn2 (show 3 < 2 ^ 31 by decide)).mp z; omega
            have n4 : ¬ nI n = 4 := fun z => by have := (nI_eq hn2 (show 4 < 2 ^ 31 by decide)).mp z; omega
            simp only [z1, z2, z3, if_true, h100, h30, if_false, n0, n1, n2, n3, n4]
            exact ⟨_, rfl, rfl⟩
  · obtain ⟨n, hn1, hn2, rfl⟩ := nlt0 (n := 100) (by decide) h100
    have z1 : f_Strait_within (nI n) 10 19 = 0 := whi (nI_lt (a := 19) (by omega) hn2)
    have z2 : f_Strait_within (nI n) 20 29 = 0 := whi (nI_lt (a := 29) (by omega) hn2)
    have z3 : f_Strait_within (nI n) 30 35 = 0 := whi (nI_lt (a := 35) (by omega) hn2)
    have e1 : nI n - 100 = nI (n - 100) := pk_sub (b := 100) hn1
    have d1 : (n - 100) / 10 = n / 10 - 10 := by omega
    have d2 : (n - 100) % 10 = n % 10 := by omega
    have e2 : nI (n - 100) / 10 = nI (n / 10 - 10) := by
      rw [← d1]; exact pk_div (d := 10) (by omega) (by decide) (by decide)
    have e3 : nI (n - 100) - nI (n / 10 - 10) * 10 = nI (n % 10) := by
      rw [← e2, ← d2]; exact pk_rem (d := 10) (by omega) (by decide) (by decide)
    have e4 : nI n / 10 = nI (n / 10) := pk_div (d := 10) hn2 (by decide) (by decide)
    have e5 : nI (n / 10) - 10 = nI (n / 10 - 10) := pk_sub (b := 10) (by omega)
    have e6 : nI n - nI (n / 10) * 10 = nI (n % 10) := by
      rw [← e4]; exact pk_rem (d := 10) hn2 (by decide) (by decide)
    simp only [z1, z2, z3, if_true, h100, if_false, e1, e2, e3, e4, e5, e6, mthere, r2]
    unfold f_Sea_traitOf
    generalize hh : n / 10 - 10 = h
    generalize hq : n % 10 = q
    have hq9 : q < 10 := by omega
    by_cases ct : f_Sea_isThere t (nI h) = 0
    · simp only [ct, if_true, Option.bind_some]
      exact ⟨_, rfl, rfl⟩
    · have h6 : h < 6 := by
        rcases Nat.lt_or_ge h 6 with g | g
        · exact g
        · exact absurd (there_out (whi (nI_lt (a := 5) (by omega) (by omega)))) ct
      obtain ⟨a1, a2, a3⟩ := r1 h h6
      have q0 : nI q = 0 ↔ q = 0 := nI_eq (by omega) (by decide)
      have q1 : nI q = 1 ↔ q = 1 := nI_eq (by omega) (by decide)
      have q2 : nI q = 2 ↔ q = 2 := nI_eq (by omega) (by decide)
      have q3 : nI q = 3 ↔ q = 3 := nI_eq (by omega) (by decide)
      have q4 : nI q ≤ 3 ↔ q ≤ 3 := nI_leI (by omega) (by decide)
      have m6 : (6 : Int32) * nI q + nI h = nI (6 * q + h) := by
        rw [show (6 : Int32) = nI 6 from rfl, pk_mul, nI_add]
      simp only [ct, if_false, q0, q1, q2, q3, q4, m6, ix_t (show h < 6 by omega) (by decide), if_true, cl_n (show h < 2 ^ 31 by omega)]
      by_cases w0 : q = 0
      · subst w0
        simp [ix_t (show 6 * 0 + h < 21 by omega), cl_n (show 6 * 0 + h < 2 ^ 31 by omega), a1, ix_t (show h < 21 by omega), cl_n (show h < 2 ^ 31 by omega)]
      by_cases w1 : q = 1
      · subst w1
        simp [ix_t (show 6 + h < 21 by omega), cl_n (show 6 + h < 2 ^ 31 by omega), a2]
      by_cases w2 : q = 2
      · subst w2
        simp [ix_t (show 12 + h < 21 by omega), cl_n (show 12 + h < 2 ^ 31 by omega), a3]
      by_cases w3 : q = 3
      · subst w3
        simp [hm h h6]
      · simp [w0, w1, w2, w3, show ¬ q ≤ 3 by omega]
/-- THE FAULT: d signs are to come, at i, in a state s -/
noncomputable def fS (f : Nat → Int32) : Nat → Nat → Int32 → Int32
  | 0, i, s => if s = 0 then -6 else nI i
  | d + 1, i, s => if f_Pad_awaitedBehind s (f i) = 3 then nI i else fS f d (i + 1) (f_Pad_awaitedBehind s (f i))
theorem fault_ev (f : Nat → Int32) (n : Nat) (hn : n ≤ 60) : ∀ d i s, i + d = n → ev (fun z : Int32 × Int32 => b_Pad_faultPlace_1 f (nI n) z.1 z.2) (s, nI i) = some (fS f d i s) := by
  intro d
  induction d with
  | zero =>
    intro i s h
    have hi : i = n := by omega
    subst hi
    refine ev_inr ?_
    show b_Pad_faultPlace_1 f (nI i) s (nI i) = _
    unfold b_Pad_faultPlace_1
    rw [if_pos (lle rfl), fS]
    by_cases hs : s = 0 <;> simp [hs]
  | succ d ih =>
    intro i s h
    have hb : b_Pad_faultPlace_1 f (nI n) s (nI i) = if f_Pad_awaitedBehind s (f i) = 3 then some (.inr (nI i)) else some (.inl (f_Pad_awaitedBehind s (f i), nI (i + 1))) := by
      unfold b_Pad_faultPlace_1
      rw [if_neg (nI_ge (by omega) (by omega)), if_neg (lge (L := 60) (N := 60) rfl (by omega) (by decide)), if_pos (ix_t (by omega) (by decide)), cl_n (by omega), nI_1]
    rw [fS]
    by_cases hz : f_Pad_awaitedBehind s (f i) = 3
    · rw [if_pos hz] at hb ⊢
      exact ev_inr hb
    · rw [if_neg hz] at hb ⊢
      rw [ev_inl (t := (f_Pad_awaitedBehind s (f i), nI (i + 1))) hb]
      exact ih (i + 1) _ (by omega)
theorem fS_eq {f g : Nat → Int32} {n : Nat} (h : eqn n f g) : ∀ d i s, i + d ≤ n → fS f d i s = fS g d i s := by
  intro d
  induction d with
  | zero => intro i s _; rfl
  | succ d ih =>
    intro i s hi
    rw [fS, fS, h i (by omega), ih (i + 1) _ (by omega)]
theorem aw_cases (s x : Int32) (hs : s = 0 ∨ s = 1 ∨ s = 2) : f_Pad_awaitedBehind s x = 0 ∨ f_Pad_awaitedBehind s x = 1 ∨ f_Pad_awaitedBehind s x = 2 ∨ f_Pad_awaitedBehind s x = 3 := by
  unfold f_Pad_awaitedBehind
  repeat' split
  all_goals simp
theorem mfault_step (g : Nat → Int32) (N x s : Int32) (hs : s = 0 ∨ s = 1 ∨ s = 2) (hx : ix x 60 = true) (hN : ¬ N ≤ x) : b_Model_faultOf_1 N g s x = if f_Pad_awaitedBehind s (g x.toNatClampNeg) = 3 then some (.inr x) else some (.inl (f_Pad_awaitedBehind s (g x.toNatClampNeg), x + 1)) := by
  unfold b_Model_faultOf_1 f_Pad_awaitedBehind f_Pad_isHerd f_Pad_isClause
  rw [in_within, if_neg hN, if_pos hx]
  generalize g x.toNatClampNeg = c
  have h21 : ¬ (2 : Int32) = 1 := by decide
  have h20 : ¬ (2 : Int32) = 0 := by decide
  have h10 : ¬ (1 : Int32) = 0 := by decide
  have h01 : ¬ (0 : Int32) = 1 := by decide
  have h03 : ¬ (0 : Int32) = 3 := by decide
  have h13 : ¬ (1 : Int32) = 3 := by decide
  have h23 : ¬ (2 : Int32) = 3 := by decide
  rcases hs with rfl | rfl | rfl
  · by_cases a1 : f_Strait_within c 65 70 = 0
    · by_cases a2 : f_Strait_within c 97 106 = 0
      · by_cases a3 : c = 46
        · subst a3
          simp only [a1, a2, if_true, if_false, h10, h01, h03]
        · simp only [a1, a2, a3, if_true, if_false]
      · simp only [a1, a2, if_true, if_false, h10, h01, h03]
    · simp only [a1, if_true, if_false, h10, h01, h13]
  · by_cases b1 : c = 38
    · subst b1
      simp only [h10, if_false, if_true, show ¬ (38 : Int32) = 63 by decide, show ¬ (38 : Int32) = 33 by decide, h23]
    · by_cases b2 : c = 63
      · subst b2
        simp only [h10, if_false, if_true, b1, h03]
      · by_cases b3 : c = 33
        · subst b3
          simp only [h10, if_false, if_true, b1, b2, h03]
        · simp only [h10, if_false, if_true, b1, b2, b3]
  · by_cases a1 : f_Strait_within c 65 70 = 0
    · simp only [h20, h21, a1, if_false, if_true]
    · simp only [h20, h21, a1, if_false, if_true, h03]
theorem mfault_ev (g : Nat → Int32) (n : Nat) (hn : n ≤ 60) : ∀ d i s, (s = 0 ∨ s = 1 ∨ s = 2) → i + d = n → ev (fun z : Int32 × Int32 => b_Model_faultOf_1 (nI n) g z.1 z.2) (s, nI i) = some (fS g d i s) := by
  intro d
  induction d with
  | zero =>
    intro i s hs h
    have hi : i = n := by omega
    subst hi
    refine ev_inr ?_
    show b_Model_faultOf_1 (nI i) g s (nI i) = _
    unfold b_Model_faultOf_1
    rw [if_pos (lle rfl), fS]
    by_cases hs : s = 0 <;> simp [hs]
  | succ d ih =>
    intro i s hs h
    have hb := mfault_step g (nI n) (nI i) s hs (ix_t (show i < 60 by omega) (by decide)) (nI_ge (by omega) (by omega))
    rw [cl_n (by omega), nI_1] at hb
    rw [fS]
    by_cases hz : f_Pad_awaitedBehind s (g i) = 3
    · rw [if_pos hz] at hb ⊢
      exact ev_inr hb
    · rw [if_neg hz] at hb ⊢
      rw [ev_inl (t := (f_Pad_awaitedBehind s (g i), nI (i + 1))) hb]
      refine ih (i + 1) _ ?_ (by omega)
      rcases aw_cases s (g i) hs with h1 | h1 | h1 | h1
      · exact Or.inl h1
      · exact Or.inr (Or.inl h1)
      · exact Or.inr (Or.inr h1)
      · exact absurd h1 hz
theorem faultX (f : Nat → Int32) {n : Nat} (hn : n ≤ 60) : f_Pad_faultPlace f (nI n) = some (fS f n 0 0) := fault_ev f n hn n 0 0 (by omega)
theorem faultM {f g : Nat → Int32} {n : Nat} (hn : n ≤ 60) (he : eqn 60 f g) : f_Model_faultOf (nI n) g = some (fS f n 0 0) := by
  rw [fS_eq (n := 60) he n 0 0 (by omega)]
  exact mfault_ev g n hn n 0 0 (Or.inl rfl) (by omega)
theorem e_fault {f g : Nat → Int32} {n : Nat} (hn : n ≤ 60) (he : eqn 60 f g) : ∃ r, f_Strait_fault f (nI n) = some r ∧ f_Model_fault (nI n) g = some r := by
  refine ⟨fS f n 0 0, ?_, ?_⟩
  · unfold f_Strait_fault; rw [faultX f hn]; rfl
  · unfold f_Model_fault; rw [faultM hn he]; rfl
