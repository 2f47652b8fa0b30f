/-! pure rows: share -/
theorem fill_ev {n : Nat} (hn : n < 2 ^ 31) (f : Nat → Int32) (x : Int32) : f_Arrays_fill n f x = some (cp n (fun _ => x) f) := by
  unfold f_Arrays_fill
  rw [ev_cnt (s0 := ((0 : Int32), f)) (fun k => (nI k, cp k (fun _ => x) f)) n (r := cp n (fun _ => x) f) (by simp only [cp_0]; rfl) (fun k hk => by
    show b_Arrays_fill_1 n x (nI n) (nI k) (cp k (fun _ => x) f) = _
    unfold b_Arrays_fill_1
    rw [if_neg (nI_ge hk hn), if_pos (ix_t hk hn), cl_n (by omega), nI_1]
    exact congrArg (fun g => some (Sum.inl (nI (k + 1), g))) (cp_up (n := 0) (fun _ => x) f)) (by
    show b_Arrays_fill_1 n x (nI n) (nI n) _ = _
    unfold b_Arrays_fill_1
    rw [if_pos (nI_le (Nat.le_refl _) hn)])]
  rfl
def anyH (t : Int32) (hd : Nat → Int32) : Nat → Nat → Bool
  | 0, _ => false
  | d + 1, k => (thr t k && decide (0 < hd k)) || anyH t hd d (k + 1)
theorem hh_ev (t : Int32) (hd : Nat → Int32) : ∀ d k, k + d = 6 → ev (fun s : Int32 => b_Sea_hasHeads_1 t hd s) (nI k) = some (if anyH t hd d k = true then 1 else 0) := by
  intro d
  induction d with
  | zero =>
    intro k hk
    have : k = 6 := by omega
    subst this
    refine ev_inr ?_
    show b_Sea_hasHeads_1 t hd (nI 6) = _
    unfold b_Sea_hasHeads_1
    rw [if_pos (lle (L := 6) (N := 6) rfl)]
    rfl
  | succ d ih =>
    intro k hk
    have hk6 : k < 6 := by omega
    have hi := ih (k + 1) (by omega)
    by_cases h1 : thr t k = true
    · by_cases h2 : 0 < hd k
      · rw [anyH, if_pos (by simp [h1, h2])]
        refine ev_inr ?_
        show b_Sea_hasHeads_1 t hd (nI k) = _
        unfold b_Sea_hasHeads_1
        rw [if_neg (lge (L := 6) rfl hk6 (by decide)), there_thr t hk6, if_pos h1, if_neg one_ne, if_pos (ix_t hk6 (by decide)), cl_n (by omega), if_neg ((nle0 _).mpr h2)]
      · rw [anyH, show (thr t k && decide (0 < hd k)) = false by simp [h2], Bool.false_or, ← hi]
        refine ev_inl ?_
        show b_Sea_hasHeads_1 t hd (nI k) = _
        unfold b_Sea_hasHeads_1
        rw [if_neg (lge (L := 6) rfl hk6 (by decide)), there_thr t hk6, if_pos h1, if_neg one_ne, if_pos (ix_t hk6 (by decide)), cl_n (by omega), if_pos (by rw [i_le]; rw [i_lt] at h2; omega), nI_1]
    · rw [anyH, show (thr t k && decide (0 < hd k)) = false by simp [h1], Bool.false_or, ← hi]
      refine ev_inl ?_
      show b_Sea_hasHeads_1 t hd (nI k) = _
      unfold b_Sea_hasHeads_1
      rw [if_neg (lge (L := 6) rfl hk6 (by decide)), there_thr t hk6, if_neg h1, if_pos rfl, nI_1]
theorem anyH_iff (t : Int32) (hd : Nat → Int32) : ∀ d k, anyH t hd d k = true ↔ ∃ j, k ≤ j ∧ j < k + d ∧ thr t j = true ∧ 0 < hd j := by
  intro d
  induction d with
  | zero =>
    intro k
    constructor
    · intro h; exact absurd h (by simp [anyH])
    · rintro ⟨j, h1, h2, _⟩; omega
  | succ d ih =>
    intro k
    rw [anyH, Bool.or_eq_true, ih, Bool.and_eq_true, decide_eq_true_iff]
    constructor
    · rintro (⟨h1, h2⟩ | ⟨j, h1, h2, h3⟩)
      · exact ⟨k, by omega, by omega, h1, h2⟩
      · exact ⟨j, by omega, by omega, h3⟩
    · rintro ⟨j, h1, h2, h3⟩
      by_cases h : j = k
      · subst h; exact Or.inl h3
      · exact Or.inr ⟨j, by omega, by omega, h3⟩
def sN (t : Int32) (hd : Nat → Int32) : Nat → Nat
  | 0 => 0
  | k + 1 => if thr t k = true then sN t hd k + (hd k).toNatClampNeg else sN t hd k
theorem bnd_cl {n : Nat} {f : Nat → Int32} {b : Nat} (hb : b < 2 ^ 31) (h : bnd n f 0 b) {k : Nat} (hk : k < n) : f k = nI (f k).toNatClampNeg ∧ (f k).toNatClampNeg ≤ b := by
  obtain ⟨j, _, h2, h3⟩ := h k hk
  rw [h3, cl_n (by omega)]
  exact ⟨rfl, h2⟩
theorem sN_le {t : Int32} {hd : Nat → Int32} (h : bnd 6 hd 0 99) : ∀ k, k ≤ 6 → sN t hd k ≤ 99 * k := by
  intro k
  induction k with
  | zero => intro _; exact Nat.le_refl _
  | succ k ih =>
    intro hk
    have h1 := ih (by omega)
    have h2 := (bnd_cl (by decide) h (show k < 6 by omega)).2
    rw [sN]
    by_cases h3 : thr t k = true
    · rw [if_pos h3]; omega
    · rw [if_neg h3]; omega
theorem sN_0 {t : Int32} {hd : Nat → Int32} (h : bnd 6 hd 0 99) : ∀ k, k ≤ 6 → (¬ sN t hd k = 0 ↔ ∃ j, j < k ∧ thr t j = true ∧ 0 < hd j) := by
  intro k
  induction k with
  | zero => intro _; exact ⟨fun z => absurd rfl z, fun ⟨j, h1, _⟩ => by omega⟩
  | succ k ih =>
    intro hk
    have h1 := ih (by omega)
    obtain ⟨h2, h2'⟩ := bnd_cl (by decide) h (show k < 6 by omega)
    have hp : 0 < hd k ↔ 0 < (hd k).toNatClampNeg := by
      rw [h2, cl_n (by omega)]
      exact nI_ltI (a := 0) (by decide) (by omega)
    rw [sN]
    by_cases h3 : thr t k = true
    · rw [if_pos h3]
      constructor
      · intro hz
        by_cases h4 : 0 < hd k
        · exact ⟨k, by omega, h3, h4⟩
        · rw [hp] at h4
          obtain ⟨j, j1, j2⟩ := h1.mp (by omega)
          exact ⟨j, by omega, j2⟩
      · rintro ⟨j, j1, j2, j3⟩
        by_cases h4 : j = k
        · subst h4; rw [hp] at j3; omega
        · have := h1.mpr ⟨j, by omega, j2, j3⟩; omega
    · rw [if_neg h3, h1]
      constructor
      · rintro ⟨j, j1, j2⟩; exact ⟨j, by omega, j2⟩
      · rintro ⟨j, j1, j2, j3⟩
        refine ⟨j, ?_, j2, j3⟩
        by_cases h4 : j = k
        · subst h4; exact absurd j2 h3
        · omega
theorem msum_ev {t mon lost : Int32} {hd sd md book : Nat → Int32} (hr : rSea t mon lost hd sd md book) (hb : bnd 6 hd 0 99) (got : Nat → Int32) : ev (fun s : Int32 × Int32 × (Nat → Int32) => b_Model_share_1 book s.1 s.2.1 s.2.2) ((0 : Int32), (0 : Int32), got) = some (nI (sN t hd 6), cp 6 (fun _ => 0) got) := by
  refine ev_cnt (fun k => (nI (sN t hd k), nI k, cp k (fun _ => 0) got)) 6 (by simp only [cp_0]; rfl) (fun k hk => ?_) ?_
  · show b_Model_share_1 book (nI (sN t hd k)) (nI k) (cp k (fun _ => 0) got) = _
    have hc := cp_up (n := 0) (k := k) (fun _ => (0 : Int32)) got
    have hg := (hr.1 k hk).1
    have h2 := (bnd_cl (by decide) hb hk).1
    unfold b_Model_share_1
    rw [if_neg (lge (L := 6) rfl hk (by decide)), if_pos (ix_t hk (by decide)), mthere, hr.2.1, there_thr t hk, cl_n (by omega), if_pos (ix_t (show k < 21 by omega) (by decide)), nI_1, hc, hg, sN]
    by_cases h3 : thr t k = true
    · rw [if_pos h3, if_neg one_ne, if_pos h3, show nI (sN t hd k) + hd k = nI (sN t hd k + (hd k).toNatClampNeg) by rw [← nI_add, ← h2]]
    · rw [if_neg h3, if_pos rfl, if_neg h3, add0]
  · show b_Model_share_1 book _ (nI 6) _ = _
    unfold b_Model_share_1
    rw [if_pos (lle (L := 6) (N := 6) rfl)]
/-- who gets the next -/
noncomputable def nxS (t : Int32) (hd g : Nat → Int32) : Nat → Option Nat
  | 0 => none
  | k + 1 => if thr t k = true then (match nxS t hd g k with
      | none => if hd k ≤ 0 then none else some k
      | some h => if hd k * (g h + 1) ≤ hd h * (g k + 1) then some h else some k) else nxS t hd g k
theorem nxS_lt {t : Int32} {hd g : Nat → Int32} : ∀ k h, nxS t hd g k = some h → h < k := by
  intro k
  induction k with
  | zero => intro h hh; cases hh
  | succ k ih =>
    intro h hh
    rw [nxS] at hh
    by_cases h3 : thr t k = true
    · rw [if_pos h3] at hh
      cases hc : nxS t hd g k with
      | none =>
        rw [hc] at hh
        by_cases h4 : hd k ≤ 0
        · simp [h4] at hh
        · simp [h4] at hh; omega
      | some j =>
        have := ih j hc
        rw [hc] at hh
        by_cases h4 : hd k * (g j + 1) ≤ hd j * (g k + 1)
        · simp [h4] at hh; omega
        · simp [h4] at hh; omega
    · rw [if_neg h3] at hh
      have := ih h hh; omega
theorem nxS_none {t : Int32} {hd g : Nat → Int32} : ∀ k, nxS t hd g k = none → ∀ j, j < k → thr t j = true → ¬ 0 < hd j := by
  intro k
  induction k with
  | zero => intro _ j hj; omega
  | succ k ih =>
    intro hh j hj hT
    rw [nxS] at hh
    by_cases h3 : thr t k = true
    · rw [if_pos h3] at hh
      cases hc : nxS t hd g k with
      | none =>
        rw [hc] at hh
        by_cases h4 : hd k ≤ 0
        · by_cases h5 : j = k
          · subst h5; rw [i_lt]; rw [i_le] at h4; omega
          · exact ih hc j (by omega) hT
        · simp [h4] at hh
      | some i =>
        rw [hc] at hh
        by_cases h4 : hd k * (g i + 1) ≤ hd i * (g k + 1)
        · simp [h4] at hh
        · simp [h4] at hh
    · rw [if_neg h3] at hh
      by_cases h5 : j = k
      · subst h5; exact absurd hT h3
      · exact ih hh j (by omega) hT
def nxT (hd g : Nat → Int32) (k : Nat) : Option Nat → Int32 × Int32 × Int32 × Int32
  | none => (-6, 0, 1, nI k)
  | some h => (nI h, hd h, g h + 1, nI k)
theorem next_ev (t : Int32) (hd g : Nat → Int32) : f_Sea_nextToGet t hd g = some (match nxS t hd g 6 with | none => -6 | some h => nI h) := by
  unfold f_Sea_nextToGet
  rw [ev_cnt (s0 := ((-6 : Int32), (0 : Int32), (1 : Int32), (0 : Int32))) (fun k => nxT hd g k (nxS t hd g k)) 6 (r := (match nxS t hd g 6 with | none => -6 | some h => nI h)) rfl (fun k hk => by
    rw [nxS]
    cases hc : nxS t hd g k with
    | none =>
      show b_Sea_nextToGet_1 t hd g (-6) 0 1 (nI k) = _
      unfold b_Sea_nextToGet_1
      rw [if_neg (lge (L := 6) rfl hk (by decide)), if_neg (lge (L := 6) rfl hk (by decide)), there_thr t hk]
      simp only [ix_t hk (by decide), if_true, cl_n (show k < 2 ^ 31 by omega), nI_1, ite10, Int32.mul_one, Int32.zero_mul]
      by_cases h3 : thr t k = true
      · by_cases h4 : hd k ≤ 0
        · simp [h3, h4, nxT]
        · simp [h3, h4, nxT]
      · simp [h3, nxT]
    | some h =>
      show b_Sea_nextToGet_1 t hd g (nI h) (hd h) (g h + 1) (nI k) = _
      unfold b_Sea_nextToGet_1
      rw [if_neg (lge (L := 6) rfl hk (by decide)), if_neg (lge (L := 6) rfl hk (by decide)), there_thr t hk]
      simp only [ix_t hk (by decide), if_true, cl_n (show k < 2 ^ 31 by omega), nI_1, ite10]
      by_cases h3 : thr t k = true
      · by_cases h4 : hd k * (g h + 1) ≤ hd h * (g k + 1)
        · simp [h3, h4, nxT]
        · simp [h3, h4, nxT]
      · simp [h3, nxT]) (by
    cases hc : nxS t hd g 6 with
    | none =>
      show b_Sea_nextToGet_1 t hd g (-6) 0 1 (nI 6) = _
      unfold b_Sea_nextToGet_1
      rw [if_pos (lle (L := 6) (N := 6) rfl)]
    | some h =>
      show b_Sea_nextToGet_1 t hd g (nI h) (hd h) (g h + 1) (nI 6) = _
      unfold b_Sea_nextToGet_1
      rw [if_pos (lle (L := 6) (N := 6) rfl)])]
  rfl
def nxI (hd : Nat → Int32) (x : Int32) : Option Nat → Prop
  | none => x = -6 ∨ ∃ h, h < 6 ∧ x = nI h ∧ hd h = 0
  | some h => x = nI h
theorem mnext_ev {t mon lost : Int32} {hd sd md book g g2 : Nat → Int32} (hr : rSea t mon lost hd sd md book) (hb : bnd 6 hd 0 99) (hgb : bnd 6 g 0 99) (hg : eqn 6 g g2) : ∀ d k x, k + d = 6 → nxI hd x (nxS t hd g k) → ∃ x', ev (fun s : Int32 × Int32 => b_Model_share_3 g2 book s.1 s.2) (x, nI k) = some x' ∧ nxI hd x' (nxS t hd g 6) := by
  intro d
  induction d with
  | zero =>
    intro k x hk hx
    have : k = 6 := by omega
    subst this
    refine ⟨x, ev_inr ?_, hx⟩
    show b_Model_share_3 g2 book x (nI 6) = _
    unfold b_Model_share_3
    rw [if_pos (lle (L := 6) (N := 6) rfl)]
  | succ d ih =>
    intro k x hk hx
    have hk6 : k < 6 := by omega
    have step : ∀ x1, b_Model_share_3 g2 book x (nI k) = some (.inl (x1, nI (k + 1))) → nxI hd x1 (nxS t hd g (k + 1)) → ∃ x', ev (fun s : Int32 × Int32 => b_Model_share_3 g2 book s.1 s.2) (x, nI k) = some x' ∧ nxI hd x' (nxS t hd g 6) := by
      intro x1 h1 h2
      obtain ⟨x', e1, e2⟩ := ih (k + 1) x1 (by omega) h2
      exact ⟨x', by rw [← e1]; exact ev_inl h1, e2⟩
    rw [nxS] at step
    unfold b_Model_share_3 at step
    rw [if_neg (lge (L := 6) rfl hk6 (by decide)), mthere, hr.2.1, there_thr t hk6, nI_1] at step
    by_cases h3 : thr t k = true
    · rw [if_pos h3, if_neg one_ne, if_pos h3] at step
      obtain ⟨ek, bk⟩ := bnd_cl (by decide) hb hk6
      obtain ⟨gk, gbk⟩ := bnd_cl (by decide) hgb hk6
      cases hc : nxS t hd g k with
      | none =>
        rw [hc] at hx step
        rcases hx with rfl | ⟨h, hh, rfl, h0⟩
        · rw [if_pos (by decide : (-6 : Int32) < 0)] at step
          refine step (nI k) rfl ?_
          by_cases h4 : hd k ≤ 0
          · simp only [h4, if_true]
            refine Or.inr ⟨k, hk6, rfl, ?_⟩
            rw [ek] at h4 ⊢
            have := (nI_leI (b := 0) (by omega) (by decide)).mp h4
            have : (hd k).toNatClampNeg = 0 := by omega
            rw [this]; rfl
          · simp only [h4, if_false]; rfl
        · obtain ⟨gh, gbh⟩ := bnd_cl (by decide) hgb hh
          rw [if_neg (nI_pos (by omega)), if_pos (ix_t (show k < 21 by omega) (by decide)), if_pos (ix_t hh (by decide)), if_pos (ix_t (show h < 21 by omega) (by decide)), if_pos (ix_t hk6 (by decide)), cl_n (show k < 2 ^ 31 by omega), cl_n (show h < 2 ^ 31 by omega), (hr.1 k hk6).1, (hr.1 h hh).1, h0, Int32.zero_mul, ← hg h hh] at step
          have hm : (hd k).toNatClampNeg * ((g h).toNatClampNeg + 1) ≤ 99 * 100 := Nat.mul_le_mul bk (by omega)
          have hcond : hd k * (g h + 1) ≤ 0 ↔ hd k ≤ 0 := by
            rw [ek, gh, nI_1, pk_mul]
            refine (nI_leI (b := 0) (by omega) (by decide)).trans (Iff.trans ?_ (nI_leI (b := 0) (by omega) (by decide)).symm)
            constructor
            · intro z
              rcases Nat.mul_eq_zero.mp (Nat.le_zero.mp z) with z1 | z1
              · omega
              · omega
            · intro z
              rw [Nat.le_zero.mp z, Nat.zero_mul]
              exact Nat.le_refl _
          by_cases h4 : hd k ≤ 0
          · refine step (nI h) (if_pos (hcond.mpr h4)) ?_
            simp only [h4, if_true]
            exact Or.inr ⟨h, hh, rfl, h0⟩
          · refine step (nI k) (if_neg (fun z => h4 (hcond.mp z))) ?_
            simp only [h4, if_false]; rfl
      | some h =>
        have hh : h < 6 := by have := nxS_lt k h hc; omega
        rw [hc] at hx step
        have hx' : x = nI h := hx
        subst hx'
        rw [if_neg (nI_pos (by omega)), if_pos (ix_t (show k < 21 by omega) (by decide)), if_pos (ix_t hh (by decide)), if_pos (ix_t (show h < 21 by omega) (by decide)), if_pos (ix_t hk6 (by decide)), cl_n (show k < 2 ^ 31 by omega), cl_n (show h < 2 ^ 31 by omega), (hr.1 k hk6).1, (hr.1 h hh).1, ← hg h hh, ← hg k hk6] at step
        by_cases h4 : hd k * (g h + 1) ≤ hd h * (g k + 1)
        · refine step (nI h) (if_pos h4) ?_
          simp only [h4, if_true]; rfl
        · refine step (nI k) (if_neg h4) ?_
          simp only [h4, if_false]; rfl
    · rw [if_neg h3, if_pos rfl, if_neg h3] at step
      exact step x rfl hx
theorem rounds_ev {t mon lost : Int32} {hd sd md book : Nat → Int32} {m : Nat} (hm : m ≤ 99) (hr : rSea t mon lost hd sd md book) (hb : bnd 6 hd 0 99) (hH : ∃ j, j < 6 ∧ thr t j = true ∧ 0 < hd j) : ∀ d k g g2, k + d = m → eqn 6 g g2 → bnd 6 g 0 k → ∃ g' g2', ev (fun s : Int32 × (Nat → Int32) => b_Strait_share_1 (nI m) t hd s.1 s.2) (nI k, g) = some g' ∧ ev (fun s : Int32 × (Nat → Int32) => b_Model_share_2 (nI m) book s.1 s.2) (nI k, g2) = some g2' ∧ eqn 6 g' g2' := by
  intro d
  induction d with
  | zero =>
    intro k g g2 hk he hgb
    have : k = m := by omega
    subst this
    refine ⟨g, g2, ev_inr ?_, ev_inr ?_, he⟩
    · show b_Strait_share_1 (nI k) t hd (nI k) g = _
      unfold b_Strait_share_1
      rw [if_pos (nI_le (Nat.le_refl _) (by omega))]
    · show b_Model_share_2 (nI k) book (nI k) g2 = _
      unfold b_Model_share_2
      rw [if_pos (nI_le (Nat.le_refl _) (by omega))]
  | succ d ih =>
    intro k g g2 hk he hgb
    have hgb9 : bnd 6 g 0 99 := fun j hj => by
      obtain ⟨i, i1, i2, i3⟩ := hgb j hj
      exact ⟨i, i1, by omega, i3⟩
    obtain ⟨x', e1, e2⟩ := mnext_ev hr hb hgb9 he 6 0 (-6) (by omega) (Or.inl rfl)
    have hx := next_ev t hd g
    cases hc : nxS t hd g 6 with
    | none =>
      obtain ⟨j, j1, j2, j3⟩ := hH
      exact absurd j3 (nxS_none 6 hc j j1 j2)
    | some h =>
      have hh := nxS_lt 6 h hc
      rw [hc] at hx e2
      have e2' : x' = nI h := e2
      subst e2'
      obtain ⟨gh, gbh⟩ := bnd_cl (by omega) hgb hh
      have hge : g h + 1 = nI ((g h).toNatClampNeg + 1) := by rw [← nI_1, ← gh]
      have hb' : bnd 6 (upd g h (g h + 1)) 0 (k + 1) := by
        rw [hge]
        refine bnd.upd (fun j hj => ?_) _ _ (by omega) (by omega)
        obtain ⟨i, i1, i2, i3⟩ := hgb j hj
        exact ⟨i, i1, by omega, i3⟩
      have he' : eqn 6 (upd g h (g h + 1)) (upd g2 h (g2 h + 1)) := by rw [← he h hh]; exact he.upd _ _
      obtain ⟨g', g2', r1, r2, r3⟩ := ih (k + 1) _ _ (by omega) he' hb'
      refine ⟨g', g2', ?_, ?_, r3⟩
      · rw [← r1]
        refine ev_inl ?_
        show b_Strait_share_1 (nI m) t hd (nI k) g = _
        unfold b_Strait_share_1
        rw [if_neg (nI_ge (by omega) (by omega)), hx, Option.bind_some]
        show (if f_Strait_within (nI h) 0 5 = 0 then _ else _) = _
        rw [show f_Strait_within (nI h) 0 5 = 1 from win1 (a := 0) (b := 5) (by omega) (by omega) (by decide), if_neg one_ne, if_pos (ix_t hh (by decide)), if_pos (ix_t hh (by decide)), cl_n (by omega), nI_1]
      · rw [← r2]
        refine ev_inl ?_
        show b_Model_share_2 (nI m) book (nI k) g2 = _
        unfold b_Model_share_2
        have e1' : ev (fun s : Int32 × Int32 => b_Model_share_3 g2 book s.1 s.2) ((-6 : Int32), (0 : Int32)) = some (nI h) := e1
        rw [if_neg (nI_ge (by omega) (by omega)), e1', Option.bind_some, if_pos (ix_t hh (by decide)), if_pos (ix_t hh (by decide)), cl_n (by omega), nI_1]
theorem e_share {t mon lost : Int32} {hd sd md mt book : Nat → Int32} (hr : rSea t mon lost hd sd md book) (hi : iSea t mon hd sd md mt) (g0 g20 : Nat → Int32) (p1 p2 : Int32) : ∃ r g' g2', f_Strait_share t hd g0 p1 p2 = some (r, g') ∧ f_Model_share book g20 p1 p2 = some (r, g2') := by
  have hb := hi.2.2.1
  unfold f_Strait_share f_Model_share
  rw [mthere, hr.2.1, in_within]
  by_cases hT : f_Sea_isThere t p1 = 0
  · exact ⟨_, _, _, if_pos hT, if_pos hT⟩
  rw [if_neg hT, if_neg hT]
  rcases win p2 (A := 0) (B := 99) 0 99 rfl rfl (by decide) (by decide) with c2 | ⟨c2, m, hm0, hm, rfl⟩
  · exact ⟨_, _, _, if_pos c2, if_pos c2⟩
  have n2 : ¬ f_Strait_within (nI m) 0 99 = 0 := by rw [c2]; exact one_ne
  rw [if_neg n2, if_neg n2]
  rcases win p1 (A := 0) (B := 5) 0 5 rfl rfl (by decide) (by decide) with c1 | ⟨c1, h, hh0, hh, rfl⟩
  · exact absurd (there_out c1) hT
  have hH : f_Sea_hasHeads t hd = some (if anyH t hd 6 0 = true then 1 else 0) := hh_ev t hd 6 0 (by omega)
  rw [hH, Option.bind_some]
  simp only [msum_ev hr hb, Option.bind_some]
  have hiff : anyH t hd 6 0 = true ↔ ¬ sN t hd 6 = 0 := by
    rw [anyH_iff, sN_0 hb 6 (Nat.le_refl _)]
    constructor
    · rintro ⟨j, j1, j2, j3⟩; exact ⟨j, by omega, j3⟩
    · rintro ⟨j, j1, j2⟩; exact ⟨j, by omega, by omega, j2⟩
  have hs := sN_le (t := t) hb 6 (Nat.le_refl _)
  by_cases hA : anyH t hd 6 0 = true
  · have hne : ¬ nI (sN t hd 6) = 0 := nI_ne0 (by have := hiff.mp hA; omega) (by omega)
    rw [if_pos hA, if_neg one_ne, if_neg hne, fill_ev (by decide), Option.bind_some]
    have hjj : ∃ j, j < 6 ∧ thr t j = true ∧ 0 < hd j := (sN_0 hb 6 (Nat.le_refl _)).mp (hiff.mp hA)
    obtain ⟨g', g2', r1, r2, r3⟩ := rounds_ev hm hr hb hjj m 0 (cp 6 (fun _ => 0) g0) (cp 6 (fun _ => 0) g20) (by omega) (fun j hj => by rw [cp_lt _ _ hj, cp_lt _ _ hj]) (fun j hj => ⟨0, by omega, by omega, by rw [cp_lt _ _ hj]; rfl⟩)
    have r1' : ev (fun s : Int32 × (Nat → Int32) => b_Strait_share_1 (nI m) t hd s.1 s.2) ((0 : Int32), cp 6 (fun _ => 0) g0) = some g' := r1
    have r2' : ev (fun s : Int32 × (Nat → Int32) => b_Model_share_2 (nI m) book s.1 s.2) ((0 : Int32), cp 6 (fun _ => 0) g20) = some g2' := r2
    rw [r1', r2', Option.bind_some, Option.bind_some, if_pos (ix_t (show h < 6 by omega) (by decide)), if_pos (ix_t (show h < 6 by omega) (by decide)), cl_n (by omega), r3 h (by omega)]
    exact ⟨_, _, _, rfl, rfl⟩
  · have h0 : sN t hd 6 = 0 := by
      by_cases h0 : sN t hd 6 = 0
      · exact h0
      · exact absurd (hiff.mpr h0) hA
    rw [if_neg hA, if_pos rfl, h0, if_pos (by decide : nI 0 = 0)]
    exact ⟨_, _, _, rfl, rfl⟩
