/-! pure rows: SEASONS of both sides -/
theorem nI_n6 {i : Nat} (h : i < 2 ^ 31) : ¬ nI i = -6 := by
  intro e
  rw [i_eq, nI_toInt h] at e
  have : (-6 : Int32).toInt = -6 := rfl
  omega
theorem aw0 (x : Int32) : f_Pad_awaitedBehind 0 x = if f_Strait_within x 65 70 = 0 then (if f_Strait_within x 97 106 = 0 then (if x = 46 then 0 else 3) else 0) else 1 := by
  unfold f_Pad_awaitedBehind f_Pad_isHerd f_Pad_isClause
  rw [if_pos rfl]
theorem aw1 (x : Int32) : f_Pad_awaitedBehind 1 x = if x = 38 then 2 else if x = 63 then 0 else if x = 33 then 0 else 3 := by
  unfold f_Pad_awaitedBehind
  rw [if_neg one_ne, if_pos rfl]
theorem aw2 (x : Int32) : f_Pad_awaitedBehind 2 x = if f_Strait_within x 65 70 = 0 then 3 else 0 := by
  unfold f_Pad_awaitedBehind f_Pad_isHerd
  rw [if_neg (by decide), if_neg (by decide)]
/-- a text without FAULT, from an ACT's first sign on -/
theorem parse (f : Nat → Int32) {d i : Nat} (hi : i + (d + 1) < 2 ^ 31) (h : fS f (d + 1) i 0 = -6) :
    (∃ k, k < 6 ∧ f i = nI (65 + k) ∧ f_Strait_within (f i) 65 70 = 1 ∧ 1 ≤ d ∧ ((∃ q, q < 6 ∧ 2 ≤ d ∧ f (i + 1) = 38 ∧ f (i + 2) = nI (65 + q) ∧ fS f (d - 2) (i + 3) 0 = -6) ∨ (¬ f (i + 1) = 38 ∧ (f (i + 1) = 63 ∨ f (i + 1) = 33) ∧ fS f (d - 1) (i + 2) 0 = -6))) ∨
    (f_Strait_within (f i) 65 70 = 0 ∧ f i = 46 ∧ fS f d (i + 1) 0 = -6) ∨
    (∃ c, c < 10 ∧ f_Strait_within (f i) 65 70 = 0 ∧ f i = nI (97 + c) ∧ fS f d (i + 1) 0 = -6) := by
  have n13 : ¬ (1 : Int32) = 3 := by decide
  have n03 : ¬ (0 : Int32) = 3 := by decide
  have n23 : ¬ (2 : Int32) = 3 := by decide
  have n20 : ¬ (2 : Int32) = 0 := by decide
  rw [fS, aw0] at h
  rcases win (f i) (A := 65) (B := 70) 65 70 rfl rfl (by decide) (by decide) with c1 | ⟨c1, k, hk1, hk2, ek⟩
  · rw [if_pos c1] at h
    rcases win (f i) (A := 97) (B := 106) 97 106 rfl rfl (by decide) (by decide) with c2 | ⟨c2, k, hk1, hk2, ek⟩
    · rw [if_pos c2] at h
      by_cases c3 : f i = 46
      · rw [if_pos c3, if_neg n03] at h
        exact Or.inr (Or.inl ⟨c1, c3, h⟩)
      · rw [if_neg c3, if_pos rfl] at h
        exact absurd h (nI_n6 (by omega))
    · have c2' : ¬ f_Strait_within (f i) 97 106 = 0 := by rw [c2]; exact one_ne
      rw [if_neg c2', if_neg n03] at h
      exact Or.inr (Or.inr ⟨k - 97, by omega, c1, by rw [ek]; congr 1; omega, h⟩)
  · have c1' : ¬ f_Strait_within (f i) 65 70 = 0 := by rw [c1]; exact one_ne
    rw [if_neg c1', if_neg n13] at h
    refine Or.inl ⟨k - 65, by omega, by rw [ek]; congr 1; omega, c1, ?_⟩
    cases d with
    | zero =>
      rw [fS, if_neg one_ne] at h
      exact absurd h (nI_n6 (by omega))
    | succ d =>
      refine ⟨by omega, ?_⟩
      rw [fS, aw1] at h
      by_cases b1 : f (i + 1) = 38
      · rw [if_pos b1, if_neg n23] at h
        refine Or.inl ?_
        cases d with
        | zero =>
          rw [fS, if_neg n20] at h
          exact absurd h (nI_n6 (by omega))
        | succ d =>
          rw [fS, aw2] at h
          rcases win (f (i + 1 + 1)) (A := 65) (B := 70) 65 70 rfl rfl (by decide) (by decide) with c4 | ⟨c4, q, hq1, hq2, eq⟩
          · rw [if_pos c4, if_pos rfl] at h
            exact absurd h (nI_n6 (by omega))
          · have c4' : ¬ f_Strait_within (f (i + 1 + 1)) 65 70 = 0 := by rw [c4]; exact one_ne
            rw [if_neg c4', if_neg n03] at h
            exact ⟨q - 65, by omega, by omega, b1, by rw [show i + 2 = i + 1 + 1 from rfl, eq]; congr 1; omega, h⟩
      · rw [if_neg b1] at h
        refine Or.inr ⟨b1, ?_⟩
        by_cases b2 : f (i + 1) = 63
        · rw [if_pos b2, if_neg n03] at h
          exact ⟨Or.inl b2, h⟩
        · rw [if_neg b2] at h
          by_cases b3 : f (i + 1) = 33
          · rw [if_pos b3, if_neg n03] at h
            exact ⟨Or.inr b3, h⟩
          · rw [if_neg b3, if_pos rfl] at h
            exact absurd h (nI_n6 (by omega))
/-- the ACT that begins with the signs x, y, w: its length, number, names -/
noncomputable def actAt (x y w : Int32) : Nat × Nat × Nat × Nat :=
  if f_Strait_within x 65 70 = 0 then (if x = 46 then (1, 4, 0, 0) else (1, 0, x.toNatClampNeg - 97, 0))
  else if y = 38 then (3, 3, x.toNatClampNeg - 65, w.toNatClampNeg - 65)
  else if y = 63 then (2, 1, x.toNatClampNeg - 65, 0)
  else (2, 2, x.toNatClampNeg - 65, 0)
/-- ACTS of a text, one behind another: what is then, how many, why not, how many CLAUSES were read, who SIGNED all -/
noncomputable def runS (f mt wd : Nat → Int32) (n : Nat) : Nat → Nat → SS → Nat → Int32 → Int32 → (SS × Nat × Int32 × Int32 × Int32)
  | 0, _, z, a, rm, sa => (z, a, 0, rm, sa)
  | e + 1, i, z, a, rm, sa => if n ≤ i then (z, a, 0, rm, sa) else
    if whyS z mt wd (actAt (f i) (f (i + 1)) (f (i + 2))).2.1 (actAt (f i) (f (i + 1)) (f (i + 2))).2.2.1 (actAt (f i) (f (i + 1)) (f (i + 2))).2.2.2 = 0 then
      runS f mt wd n e (i + (actAt (f i) (f (i + 1)) (f (i + 2))).1) (perS z mt wd (actAt (f i) (f (i + 1)) (f (i + 2))).2.1 (actAt (f i) (f (i + 1)) (f (i + 2))).2.2.1 (actAt (f i) (f (i + 1)) (f (i + 2))).2.2.2) (a + 1) (if (actAt (f i) (f (i + 1)) (f (i + 2))).2.1 = 0 then rm + 1 else rm) (if (actAt (f i) (f (i + 1)) (f (i + 2))).2.1 = 0 then sa &&& orS (sgS z mt (wd (actAt (f i) (f (i + 1)) (f (i + 2))).2.2.1)) 6 else sa)
    else (z, a, whyS z mt wd (actAt (f i) (f (i + 1)) (f (i + 2))).2.1 (actAt (f i) (f (i + 1)) (f (i + 2))).2.2.1 (actAt (f i) (f (i + 1)) (f (i + 2))).2.2.2, rm, sa)
theorem sign_ev (f : Nat → Int32) {n j : Nat} (hn : n ≤ 60) (hj : j < n) : f_Pad_signAt f (nI n) (nI j) = some (f j) := by
  unfold f_Pad_signAt
  rw [if_neg (nI_pos (by omega)), if_neg (nI_ge hj (by omega)), if_neg (lge (L := 60) (N := 60) rfl (by omega) (by decide)), if_pos (ix_t (by omega) (by decide)), cl_n (by omega)]
/-- what a place of a text without FAULT holds: an ACT, within the text, and no FAULT behind it -/
def okAt (f : Nat → Int32) (n i : Nat) : Prop := okA (actAt (f i) (f (i + 1)) (f (i + 2))).2.1 (actAt (f i) (f (i + 1)) (f (i + 2))).2.2.1 (actAt (f i) (f (i + 1)) (f (i + 2))).2.2.2 ∧ 1 ≤ (actAt (f i) (f (i + 1)) (f (i + 2))).1 ∧ i + (actAt (f i) (f (i + 1)) (f (i + 2))).1 ≤ n ∧ fS f (n - (i + (actAt (f i) (f (i + 1)) (f (i + 2))).1)) (i + (actAt (f i) (f (i + 1)) (f (i + 2))).1) 0 = -6
theorem take_ev (f : Nat → Int32) {n i : Nat} (hn : n ≤ 60) (hi : i < n) (h : fS f (n - i) i 0 = -6) (a b c : Int32) : okAt f n i ∧ ∃ kind one other, f_Act_takeFrom a b c f (nI n) (nI i) = some (nI (actAt (f i) (f (i + 1)) (f (i + 2))).1, kind, one, other) ∧ repA (actAt (f i) (f (i + 1)) (f (i + 2))).2.1 (actAt (f i) (f (i + 1)) (f (i + 2))).2.2.1 (actAt (f i) (f (i + 1)) (f (i + 2))).2.2.2 kind one other := by
  obtain ⟨d, hd⟩ : ∃ d, n - i = d + 1 := ⟨n - i - 1, by omega⟩
  rw [hd] at h
  have e1 : nI i + 1 = nI (i + 1) := nI_1 i
  have e2 : nI i + 2 = nI (i + 2) := nI_add i 2
  unfold okAt f_Act_takeFrom f_Pad_isHerd f_Act_set
  rw [sign_ev f hn hi, e1, e2]
  rcases parse f (by omega) h with ⟨k, hk, ek, hh, hd1, hy⟩ | ⟨hh, e46, hS⟩ | ⟨k, hk, hh, ek, hS⟩
  · have s65 : nI (65 + k) - 65 = nI k := by
      rw [show (65 : Int32) = nI 65 from rfl, pk_sub (by omega)]; congr 1; omega
    have cl65 : (nI (65 + k)).toNatClampNeg - 65 = k := by rw [cl_n (by omega)]; omega
    have hh2 : f_Strait_within (nI (65 + k)) 65 70 = 1 := by rw [← ek]; exact hh
    rcases hy with ⟨q, hq, hd2, e38, eq, hS⟩ | ⟨n38, hy, hS⟩
    · have s65q : nI (65 + q) - 65 = nI q := by
        rw [show (65 : Int32) = nI 65 from rfl, pk_sub (by omega)]; congr 1; omega
      have cl65q : (nI (65 + q)).toNatClampNeg - 65 = q := by rw [cl_n (by omega)]; omega
      have hA : actAt (f i) (f (i + 1)) (f (i + 2)) = (3, 3, k, q) := by
        unfold actAt
        rw [if_neg (by rw [hh]; exact one_ne), if_pos e38, ek, eq, cl65, cl65q]
      rw [hA]
      refine ⟨⟨Or.inr (Or.inr (Or.inr (Or.inl ⟨rfl, hk, hq⟩))), (by show 1 ≤ 3; decide), by show i + 3 ≤ n; omega, ?_⟩, 3, nI k, nI q, ?_, ?_⟩
      · show fS f (n - (i + 3)) (i + 3) 0 = -6
        rw [show n - (i + 3) = d - 2 by omega]; exact hS
      · simp only [Option.bind_some, hh, hh2, one_ne, if_false, sign_ev f hn (show i + 1 < n by omega), e38, if_true, sign_ev f hn (show i + 2 < n by omega), ek, eq, s65, s65q]
        rfl
      · exact ⟨Or.inr (Or.inr (Or.inr (Or.inl ⟨rfl, hk, hq⟩))), rfl, fun _ => rfl, fun _ => rfl⟩
    · by_cases e63 : f (i + 1) = 63
      · have hA : actAt (f i) (f (i + 1)) (f (i + 2)) = (2, 1, k, 0) := by
          unfold actAt
          rw [if_neg (by rw [hh]; exact one_ne), if_neg n38, if_pos e63, ek, cl65]
        rw [hA]
        refine ⟨⟨Or.inr (Or.inl ⟨rfl, hk⟩), (by show 1 ≤ 2; decide), by show i + 2 ≤ n; omega, ?_⟩, 1, nI k, 0, ?_, ?_⟩
        · show fS f (n - (i + 2)) (i + 2) 0 = -6
          rw [show n - (i + 2) = d - 1 by omega]; exact hS
        · simp only [Option.bind_some, hh, hh2, one_ne, if_false, sign_ev f hn (show i + 1 < n by omega), n38, e63, if_true, ek, s65, show ¬ (63 : Int32) = 38 by decide]
          rfl
        · exact ⟨Or.inr (Or.inl ⟨rfl, hk⟩), rfl, fun _ => rfl, fun h => by cases h⟩
      · have hA : actAt (f i) (f (i + 1)) (f (i + 2)) = (2, 2, k, 0) := by
          unfold actAt
          rw [if_neg (by rw [hh]; exact one_ne), if_neg n38, if_neg e63, ek, cl65]
        rw [hA]
        refine ⟨⟨Or.inr (Or.inr (Or.inl ⟨rfl, hk⟩)), (by show 1 ≤ 2; decide), by show i + 2 ≤ n; omega, ?_⟩, 2, nI k, 0, ?_, ?_⟩
        · show fS f (n - (i + 2)) (i + 2) 0 = -6
          rw [show n - (i + 2) = d - 1 by omega]; exact hS
        · simp only [Option.bind_some, hh, hh2, one_ne, if_false, sign_ev f hn (show i + 1 < n by omega), n38, e63, if_true, ek, s65]
          rfl
        · exact ⟨Or.inr (Or.inr (Or.inl ⟨rfl, hk⟩)), rfl, fun _ => rfl, fun h => by cases h⟩
  · have hA : actAt (f i) (f (i + 1)) (f (i + 2)) = (1, 4, 0, 0) := by
      unfold actAt
      rw [if_pos hh, if_pos e46]
    rw [hA]
    refine ⟨⟨Or.inr (Or.inr (Or.inr (Or.inr rfl))), (by show 1 ≤ 1; decide), by show i + 1 ≤ n; omega, ?_⟩, 4, f i - 97, 0, ?_, ?_⟩
    · show fS f (n - (i + 1)) (i + 1) 0 = -6
      rw [show n - (i + 1) = d by omega]; exact hS
    · simp only [Option.bind_some, hh, if_true, e46]
      rfl
    · exact ⟨Or.inr (Or.inr (Or.inr (Or.inr rfl))), rfl, fun h => absurd rfl h, fun h => by cases h⟩
  · have s97 : nI (97 + k) - 97 = nI k := by
      rw [show (97 : Int32) = nI 97 from rfl, pk_sub (by omega)]; congr 1; omega
    have n46 : ¬ nI (97 + k) = 46 := by
      rw [show (46 : Int32) = nI 46 from rfl, nI_eq (by omega) (by decide)]; omega
    have hA : actAt (f i) (f (i + 1)) (f (i + 2)) = (1, 0, k, 0) := by
      unfold actAt
      rw [if_pos hh, ek, if_neg n46, cl_n (by omega)]
      congr 3
      omega
    rw [hA]
    refine ⟨⟨Or.inl ⟨rfl, hk⟩, (by show 1 ≤ 1; decide), by show i + 1 ≤ n; omega, ?_⟩, 0, nI k, 0, ?_, ?_⟩
    · show fS f (n - (i + 1)) (i + 1) 0 = -6
      rw [show n - (i + 1) = d by omega]; exact hS
    · rw [ek] at hh ⊢
      simp only [Option.bind_some, hh, if_true, n46, if_false, s97]
      rfl
    · exact ⟨Or.inl ⟨rfl, hk⟩, rfl, fun _ => rfl, fun h => by cases h⟩
