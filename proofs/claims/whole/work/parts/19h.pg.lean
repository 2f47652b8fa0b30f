/-! pure rows: drop -/
theorem bt_lt : ∀ n : Nat, n < 1024 → bitsS (nI n) 10 < 11 := by decide +kernel
/-- no two of a set CLASH -/
def qtS (cl : Nat → Int32) (s : Int32) : Nat → Nat → Bool
  | 0, _ => true
  | d + 1, k => (!thr s k || decide (cl k &&& s = 0)) && qtS cl s d (k + 1)
theorem quiet_ev (cl : Nat → Int32) (s : Int32) : ∀ d k, k + d = 10 → ev (fun z : Int32 => b_Treaty_isQuiet_1 s cl z) (nI k) = some (if qtS cl s d k = true then 1 else 0) := by
  intro d
  induction d with
  | zero =>
    intro k hk
    have : k = 10 := by omega
    subst this
    refine ev_inr ?_
    show b_Treaty_isQuiet_1 s cl (nI 10) = _
    unfold b_Treaty_isQuiet_1
    rw [if_pos (lle (L := 10) (N := 10) rfl)]
    rfl
  | succ d ih =>
    intro k hk
    have hk6 : k < 10 := by omega
    have hi := ih (k + 1) (by omega)
    rw [qtS]
    by_cases h1 : thr s k = true
    · by_cases h2 : cl k &&& s = 0
      · rw [show (!thr s k || decide (cl k &&& s = 0)) = true by simp [h2], Bool.true_and, ← hi]
        refine ev_inl ?_
        show b_Treaty_isQuiet_1 s cl (nI k) = _
        unfold b_Treaty_isQuiet_1
        rw [if_neg (lge (L := 10) rfl hk6 (by decide)), has_thr, if_pos h1, if_neg one_ne, if_pos (ix_t hk6 (by decide)), cl_n (by omega), if_pos h2, nI_1]
      · rw [show (!thr s k || decide (cl k &&& s = 0)) = false by simp [h1, h2], Bool.false_and]
        refine ev_inr ?_
        show b_Treaty_isQuiet_1 s cl (nI k) = _
        unfold b_Treaty_isQuiet_1
        rw [if_neg (lge (L := 10) rfl hk6 (by decide)), has_thr, if_pos h1, if_neg one_ne, if_pos (ix_t hk6 (by decide)), cl_n (by omega), if_neg h2]
        rfl
    · rw [show (!thr s k || decide (cl k &&& s = 0)) = true by simp [h1], Bool.true_and, ← hi]
      refine ev_inl ?_
      show b_Treaty_isQuiet_1 s cl (nI k) = _
      unfold b_Treaty_isQuiet_1
      rw [if_neg (lge (L := 10) rfl hk6 (by decide)), has_thr, if_neg h1, if_pos rfl, nI_1]
theorem mquiet0 (cl : Nat → Int32) (x y : Int32) (k : Nat) : ev (fun z : Int32 × Int32 => b_Model_drop_2 x y cl z.1 z.2) ((0 : Int32), nI k) = some 0 := by
  refine ev_inr ?_
  show b_Model_drop_2 x y cl 0 (nI k) = _
  unfold b_Model_drop_2
  by_cases h : (10 : Int32) ≤ nI k
  · rw [if_pos h]
  · rw [if_neg h, if_pos rfl]
theorem mquiet_ev {cl cl2 : Nat → Int32} (he : eqn 10 cl cl2) (x y : Int32) : ∀ d k, k + d = 10 → ev (fun z : Int32 × Int32 => b_Model_drop_2 x y cl2 z.1 z.2) ((1 : Int32), nI k) = some (if qtS cl (x &&& (y ^^^ -1)) d k = true then 1 else 0) := by
  intro d
  induction d with
  | zero =>
    intro k hk
    have : k = 10 := by omega
    subst this
    refine ev_inr ?_
    show b_Model_drop_2 x y cl2 1 (nI 10) = _
    unfold b_Model_drop_2
    rw [if_pos (lle (L := 10) (N := 10) rfl)]
    rfl
  | succ d ih =>
    intro k hk
    have hk6 : k < 10 := by omega
    have hi := ih (k + 1) (by omega)
    rw [qtS]
    have hcl : (cl2 k &&& x) &&& (y ^^^ -1) = cl k &&& (x &&& (y ^^^ -1)) := by rw [← he k hk6, Int32.and_assoc]
    by_cases h1 : thr (x &&& (y ^^^ -1)) k = true
    · by_cases h2 : cl k &&& (x &&& (y ^^^ -1)) = 0
      · rw [show (!thr (x &&& (y ^^^ -1)) k || decide (cl k &&& (x &&& (y ^^^ -1)) = 0)) = true by simp only [h2, decide_true, Bool.or_true], Bool.true_and, ← hi]
        refine ev_inl ?_
        show b_Model_drop_2 x y cl2 1 (nI k) = _
        unfold b_Model_drop_2
        rw [if_neg (lge (L := 10) rfl hk6 (by decide)), if_neg one_ne, has_has, has_thr, if_pos h1, if_neg one_ne, if_pos (ix_t hk6 (by decide)), cl_n (by omega), hcl, if_pos h2, nI_1]
      · rw [show (!thr (x &&& (y ^^^ -1)) k || decide (cl k &&& (x &&& (y ^^^ -1)) = 0)) = false by simp only [h1, h2, Bool.not_true, decide_false, Bool.or_false], Bool.false_and]
        have h0 := mquiet0 cl2 x y (k + 1)
        refine Eq.trans (ev_inl ?_) h0
        show b_Model_drop_2 x y cl2 1 (nI k) = _
        unfold b_Model_drop_2
        rw [if_neg (lge (L := 10) rfl hk6 (by decide)), if_neg one_ne, has_has, has_thr, if_pos h1, if_neg one_ne, if_pos (ix_t hk6 (by decide)), cl_n (by omega), hcl, if_neg h2, nI_1]
    · rw [show (!thr (x &&& (y ^^^ -1)) k || decide (cl k &&& (x &&& (y ^^^ -1)) = 0)) = true by simp only [Bool.eq_false_iff.mpr h1, Bool.not_false, Bool.true_or], Bool.true_and, ← hi]
      refine ev_inl ?_
      show b_Model_drop_2 x y cl2 1 (nI k) = _
      unfold b_Model_drop_2
      rw [if_neg (lge (L := 10) rfl hk6 (by decide)), if_neg one_ne, has_has, has_thr, if_neg h1, if_pos rfl, nI_1]
/-- what may be dropped -/
def dQ (cl : Nat → Int32) (p y : Nat) : Prop := nI y &&& (nI p ^^^ -1) = 0 ∧ qtS cl (nI p &&& (nI y ^^^ -1)) 10 0 = true
def dB (y : Nat) : Int := (bitsS (nI y) 10).toInt
/-- not worse -/
def dL (r y : Nat) : Prop := dB r < dB y ∨ (dB r = dB y ∧ r ≤ y)
/-- one step of the class -/
theorem xdrop_step (cl : Nat → Int32) {p y : Nat} (hy : y < 1024) (b c : Int32) : (dQ cl p y ∧ bitsS (nI y) 10 < c → b_Treaty_leastToDrop_1 (nI p) cl b c (nI y) = some (.inl (nI y, bitsS (nI y) 10, nI (y + 1)))) ∧ (¬ (dQ cl p y ∧ bitsS (nI y) 10 < c) → b_Treaty_leastToDrop_1 (nI p) cl b c (nI y) = some (.inl (b, c, nI (y + 1)))) := by
  have hq : f_Treaty_isQuiet cl (nI p &&& (nI y ^^^ -1)) = some (if qtS cl (nI p &&& (nI y ^^^ -1)) 10 0 = true then 1 else 0) := quiet_ev cl _ 10 0 (by omega)
  unfold b_Treaty_leastToDrop_1 dQ
  rw [if_neg (nI_nlt (a := y) (b := y) (Nat.le_refl _) (by omega) |> fun _ => (by rw [i_lt, show (1023 : Int32) = nI 1023 from rfl, nI_toInt (by decide), nI_toInt (by omega)]; omega : ¬ (1023 : Int32) < nI y)), bc_eq y hy, hq, nI_1]
  by_cases h1 : nI y &&& (nI p ^^^ -1) = 0
  · rw [if_pos h1, if_neg one_ne]
    by_cases h2 : c ≤ bitsS (nI y) 10
    · have h2' : ¬ bitsS (nI y) 10 < c := by rw [i_lt]; rw [i_le] at h2; omega
      rw [if_pos h2]
      exact ⟨fun z => absurd z.2 h2', fun _ => rfl⟩
    · have h2' : bitsS (nI y) 10 < c := by rw [i_lt]; rw [i_le] at h2; omega
      rw [if_neg h2, Option.bind_some]
      by_cases h3 : qtS cl (nI p &&& (nI y ^^^ -1)) 10 0 = true
      · rw [if_pos h3, if_neg one_ne]
        exact ⟨fun _ => rfl, fun z => absurd ⟨⟨h1, h3⟩, h2'⟩ z⟩
      · rw [if_neg h3, if_pos rfl]
        exact ⟨fun z => absurd z.1.2 h3, fun _ => rfl⟩
  · rw [if_neg h1, if_pos rfl]
    exact ⟨fun z => absurd z.1.1 h1, fun _ => rfl⟩
theorem mdrop_step {cl cl2 : Nat → Int32} (he : eqn 10 cl cl2) {p y b : Nat} (hy : y < 1024) : (dQ cl p y ∧ dB y ≤ dB b → b_Model_drop_1 (nI p) cl2 (nI b) (nI y) = some (.inl (nI y, nI y + -1))) ∧ (¬ (dQ cl p y ∧ dB y ≤ dB b) → b_Model_drop_1 (nI p) cl2 (nI b) (nI y) = some (.inl (nI b, nI y + -1))) := by
  have hq : ev (fun z : Int32 × Int32 => b_Model_drop_2 (nI p) (nI y) cl2 z.1 z.2) ((1 : Int32), (0 : Int32)) = some (if qtS cl (nI p &&& (nI y ^^^ -1)) 10 0 = true then 1 else 0) := mquiet_ev he (nI p) (nI y) 10 0 (by omega)
  have hq0 : ev (fun z : Int32 × Int32 => b_Model_drop_2 (nI p) (nI y) cl2 z.1 z.2) ((0 : Int32), (0 : Int32)) = some 0 := mquiet0 cl2 (nI p) (nI y) 0
  unfold b_Model_drop_1 dQ dB
  rw [if_neg (nI_pos (by omega)), bits_ev, bits_ev, hq, hq0]
  simp only [Option.bind_some, if_true]
  by_cases h1 : nI y &&& (nI p ^^^ -1) = 0
  · rw [if_pos h1]
    by_cases h2 : bitsS (nI b) 10 < bitsS (nI y) 10
    · have h2' : ¬ (bitsS (nI y) 10).toInt ≤ (bitsS (nI b) 10).toInt := by rw [i_lt] at h2; omega
      rw [if_pos h2]
      exact ⟨fun z => absurd z.2 h2', fun _ => rfl⟩
    · have h2' : (bitsS (nI y) 10).toInt ≤ (bitsS (nI b) 10).toInt := by rw [i_lt] at h2; omega
      rw [if_neg h2]
      by_cases h3 : qtS cl (nI p &&& (nI y ^^^ -1)) 10 0 = true
      · rw [if_pos h3, if_neg one_ne]
        exact ⟨fun _ => rfl, fun z => absurd ⟨⟨h1, h3⟩, h2'⟩ z⟩
      · rw [if_neg h3, if_pos rfl]
        exact ⟨fun z => absurd z.1.2 h3, fun _ => rfl⟩
  · rw [if_neg h1]
    exact ⟨fun z => absurd z.1.1 h1, fun _ => rfl⟩
/-- the class's search from y on -/
theorem xdrop_ev (cl : Nat → Int32) {p : Nat} : ∀ d y b c, y + d = 1024 → (∀ z, z < y → dQ cl p z → False) ∧ c = 11 ∨ (b < y ∧ dQ cl p b ∧ c = bitsS (nI b) 10 ∧ ∀ z, z < y → dQ cl p z → dL b z) → ∃ b' : Nat, ev (fun s : Int32 × Int32 × Int32 => b_Treaty_leastToDrop_1 (nI p) cl s.1 s.2.1 s.2.2) (nI b, c, nI y) = some (nI b') ∧ ((∀ z, z < 1024 → dQ cl p z → False) ∨ (b' < 1024 ∧ dQ cl p b' ∧ ∀ z, z < 1024 → dQ cl p z → dL b' z)) := by
  intro d
  induction d with
  | zero =>
    intro y b c hy hI
    have : y = 1024 := by omega
    subst this
    refine ⟨b, ev_inr ?_, ?_⟩
    · show b_Treaty_leastToDrop_1 (nI p) cl (nI b) c (nI 1024) = _
      unfold b_Treaty_leastToDrop_1
      rw [if_pos (by decide)]
    · rcases hI with ⟨h1, -⟩ | ⟨h1, h2, -, h3⟩
      · exact Or.inl h1
      · exact Or.inr ⟨h1, h2, h3⟩
  | succ d ih =>
    intro y b c hy hI
    have hy4 : y < 1024 := by omega
    obtain ⟨s1, s2⟩ := xdrop_step cl (p := p) hy4 (nI b) c
    by_cases h : dQ cl p y ∧ bitsS (nI y) 10 < c
    · obtain ⟨b', e1, e2⟩ := ih (y + 1) y (bitsS (nI y) 10) (by omega) (Or.inr ⟨by omega, h.1, rfl, fun z hz hQ => by
        rcases hI with ⟨h1, -⟩ | ⟨h1, h2, h3, h4⟩
        · by_cases hzy : z = y
          · subst hzy; exact Or.inr ⟨rfl, Nat.le_refl _⟩
          · exact absurd hQ (fun q => h1 z (by omega) q)
        · by_cases hzy : z = y
          · subst hzy; exact Or.inr ⟨rfl, Nat.le_refl _⟩
          · have h5 := h.2
            rw [h3, i_lt] at h5
            have h6 := h4 z (by omega) hQ
            refine Or.inl ?_
            unfold dL at h6
            unfold dB at h6 ⊢
            omega⟩)
      exact ⟨b', by rw [← e1]; exact ev_inl (s1 h), e2⟩
    · obtain ⟨b', e1, e2⟩ := ih (y + 1) b c (by omega) (by
        rcases hI with ⟨h1, h2⟩ | ⟨h1, h2, h3, h4⟩
        · refine Or.inl ⟨fun z hz hQ => ?_, h2⟩
          by_cases hzy : z = y
          · subst hzy
            exact h ⟨hQ, by rw [h2]; exact bt_lt z hy4⟩
          · exact h1 z (by omega) hQ
        · refine Or.inr ⟨by omega, h2, h3, fun z hz hQ => ?_⟩
          by_cases hzy : z = y
          · subst hzy
            have h5 : ¬ bitsS (nI z) 10 < c := fun q => h ⟨hQ, q⟩
            rw [h3, i_lt] at h5
            unfold dL dB
            omega
          · exact h4 z (by omega) hQ)
      exact ⟨b', by rw [← e1]; exact ev_inl (s2 h), e2⟩
/-- the reference's search from y - 1 down -/
theorem mdrop_ev {cl cl2 : Nat → Int32} (he : eqn 10 cl cl2) {p : Nat} : ∀ y b, y ≤ 1024 → b < 1024 → dQ cl p b → (∀ z, y ≤ z → z < 1024 → dQ cl p z → dL b z) → ∃ b' : Nat, ev (fun s : Int32 × Int32 => b_Model_drop_1 (nI p) cl2 s.1 s.2) (nI b, nI y + -1) = some (nI b') ∧ b' < 1024 ∧ dQ cl p b' ∧ ∀ z, z < 1024 → dQ cl p z → dL b' z := by
  intro y
  induction y with
  | zero =>
    intro b _ hb hQ hI
    refine ⟨b, ev_inr ?_, hb, hQ, fun z hz => hI z (Nat.zero_le _) hz⟩
    show b_Model_drop_1 (nI p) cl2 (nI b) (nI 0 + -1) = _
    unfold b_Model_drop_1
    rw [if_pos (by decide)]
  | succ y ih =>
    intro b hy hb hQ hI
    rw [pk_m1]
    obtain ⟨s1, s2⟩ := mdrop_step he (p := p) (b := b) (show y < 1024 by omega)
    by_cases h : dQ cl p y ∧ dB y ≤ dB b
    · obtain ⟨b', e1, e2⟩ := ih y (by omega) (by omega) h.1 (fun z hz1 hz2 hz => by
        by_cases hzy : z = y
        · subst hzy; exact Or.inr ⟨rfl, Nat.le_refl _⟩
        · have h6 := hI z (by omega) hz2 hz
          have h7 := h.2
          unfold dL at h6 ⊢
          omega)
      exact ⟨b', by rw [← e1]; exact ev_inl (s1 h), e2⟩
    · obtain ⟨b', e1, e2⟩ := ih b (by omega) hb hQ (fun z hz1 hz2 hz => by
        by_cases hzy : z = y
        · subst hzy
          have : ¬ dB z ≤ dB b := fun q => h ⟨hz, q⟩
          unfold dL
          omega
        · exact hI z (by omega) hz2 hz)
      exact ⟨b', by rw [← e1]; exact ev_inl (s2 h), e2⟩
theorem qt_0 (cl : Nat → Int32) : ∀ d k, qtS cl 0 d k = true := by
  intro d
  induction d with
  | zero => intro k; rfl
  | succ d ih =>
    intro k
    rw [qtS, ih, show cl k &&& 0 = 0 from Int32.and_zero]
    simp
theorem and_self_not (x : Int32) : x &&& (x ^^^ -1) = 0 := by
  rw [show x ^^^ -1 = ~~~x by simp]
  simp
theorem dQ_self (cl : Nat → Int32) (p : Nat) : dQ cl p p := by
  unfold dQ
  rw [and_self_not]
  exact ⟨rfl, qt_0 cl 10 0⟩
theorem e_drop {cl cl2 : Nat → Int32} (he : eqn 10 cl cl2) (p1 p2 : Int32) : ∃ r, f_Strait_drop cl p1 p2 = some r ∧ f_Model_drop cl2 p1 p2 = some r := by
  unfold f_Strait_drop f_Model_drop
  rw [in_within]
  rcases win p1 (A := 0) (B := 1023) 0 1023 rfl rfl (by decide) (by decide) with c1 | ⟨c1, p, hp0, hp, rfl⟩
  · rw [if_pos c1, if_pos c1]; exact ⟨_, rfl, rfl⟩
  have n1 : ¬ f_Strait_within (nI p) 0 1023 = 0 := by rw [c1]; exact one_ne
  rw [if_neg n1, if_neg n1]
  rcases win p2 (A := 0) (B := 1) 0 1 rfl rfl (by decide) (by decide) with c2 | ⟨c2, q, hq0, hq, rfl⟩
  · rw [if_pos c2, if_pos c2]; exact ⟨_, rfl, rfl⟩
  have n2 : ¬ f_Strait_within (nI q) 0 1 = 0 := by rw [c2]; exact one_ne
  rw [if_neg n2, if_neg n2]
  obtain ⟨b, e1, e2⟩ := xdrop_ev cl (p := p) 1024 0 p 11 (by omega) (Or.inl ⟨fun z hz => by omega, rfl⟩)
  have hp4 : p < 1024 := by omega
  obtain ⟨b2, f1, f2, f3, f4⟩ := mdrop_ev he (p := p) 1024 p (Nat.le_refl _) hp4 (dQ_self cl p) (fun z h1 h2 => by omega)
  rcases e2 with e2 | ⟨e2, e3, e4⟩
  · exact absurd (dQ_self cl p) (fun z => e2 p hp4 z)
  · have hbb : b = b2 := by
      have g1 := e4 b2 f2 f3
      have g2 := f4 b e2 e3
      unfold dL at g1 g2
      omega
    subst hbb
    have e1' : f_Treaty_leastToDrop cl (nI p) = some (nI b) := by
      unfold f_Treaty_leastToDrop
      have : ev (fun s : Int32 × Int32 × Int32 => b_Treaty_leastToDrop_1 (nI p) cl s.1 s.2.1 s.2.2) (nI p, (11 : Int32), (0 : Int32)) = some (nI b) := e1
      rw [this]; rfl
    have f1' : ev (fun s : Int32 × Int32 => b_Model_drop_1 (nI p) cl2 s.1 s.2) (nI p, (1023 : Int32)) = some (nI b) := f1
    rw [e1', f1', Option.bind_some, Option.bind_some, bits_ev, bc_eq b e2]
    rcases (show q = 0 ∨ q = 1 by omega) with rfl | rfl
    · rw [if_pos (by decide : nI 0 = 0), if_neg (by decide : ¬ nI 0 = 1)]
      exact ⟨_, rfl, rfl⟩
    · rw [if_neg (by decide : ¬ nI 1 = 0), if_pos (by decide : nI 1 = 1)]
      exact ⟨_, rfl, rfl⟩
