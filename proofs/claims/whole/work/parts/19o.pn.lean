/-! pure rows: restore; copies of treaty and lookout; the relation of both objects -/
theorem rs1_ev (B : Nat) (hB : B ≤ 80) (im f : Nat → Int32) : ev (fun s : Int32 × (Nat → Int32) => b_Model_restore_1 (nI B) im s.1 s.2) ((0 : Int32), f) = some (cp 21 (fun k => im (B + k)) f) := by
  refine ev_cnt (fun k => (nI k, cp k (fun k => im (B + k)) f)) 21 (by simp only [cp_0]; rfl) (fun k hk => ?_) ?_
  · show b_Model_restore_1 (nI B) im (nI k) (cp k (fun k => im (B + k)) f) = _
    have hc := cp_up (n := 0) (k := k) (fun k => im (B + k)) f
    unfold b_Model_restore_1
    rw [if_neg (lge (L := 21) rfl hk (by decide)), if_pos (ix_t hk (by decide)), nI_add, if_pos (ix_t (show B + k < 160 by omega) (by decide)), cl_n (show B + k < 2 ^ 31 by omega), cl_n (show k < 2 ^ 31 by omega), hc, nI_1]
  · show b_Model_restore_1 (nI B) im (nI 21) _ = _
    unfold b_Model_restore_1
    rw [if_pos (lle (L := 21) (N := 21) rfl)]
theorem rs2_ev (B : Nat) (hB : B ≤ 80) (im f g : Nat → Int32) : ev (fun s : Int32 × (Nat → Int32) × (Nat → Int32) => b_Model_restore_2 (nI B) im s.1 s.2.1 s.2.2) ((0 : Int32), f, g) = some (cp 6 (fun k => im (B + 21 + k)) f, cp 6 (fun k => im (B + 27 + k)) g) := by
  refine ev_cnt (fun k => (nI k, cp k (fun k => im (B + 21 + k)) f, cp k (fun k => im (B + 27 + k)) g)) 6 (by simp only [cp_0]; rfl) (fun k hk => ?_) ?_
  · show b_Model_restore_2 (nI B) im (nI k) (cp k (fun k => im (B + 21 + k)) f) (cp k (fun k => im (B + 27 + k)) g) = _
    have hc := cp_up (n := 0) (k := k) (fun k => im (B + 21 + k)) f
    have hc2 := cp_up (n := 0) (k := k) (fun k => im (B + 27 + k)) g
    unfold b_Model_restore_2
    rw [if_neg (lge (L := 6) rfl hk (by decide)), if_pos (ix_t hk (by decide)), if_pos (ix_t hk (by decide)), show nI B + 21 + nI k = nI (B + 21 + k) by rw [show (21 : Int32) = nI 21 from rfl, nI_add, nI_add], show nI B + 27 + nI k = nI (B + 27 + k) by rw [show (27 : Int32) = nI 27 from rfl, nI_add, nI_add], if_pos (ix_t (show B + 21 + k < 160 by omega) (by decide)), if_pos (ix_t (show B + 27 + k < 160 by omega) (by decide)), cl_n (show B + 21 + k < 2 ^ 31 by omega), cl_n (show B + 27 + k < 2 ^ 31 by omega), cl_n (show k < 2 ^ 31 by omega), hc, hc2, nI_1]
  · show b_Model_restore_2 (nI B) im (nI 6) _ _ = _
    unfold b_Model_restore_2
    rw [if_pos (lle (L := 6) (N := 6) rfl)]
theorem rs3_ev (B : Nat) (hB : B ≤ 80) (im f g : Nat → Int32) : ev (fun s : Int32 × (Nat → Int32) × (Nat → Int32) => b_Model_restore_3 (nI B) im s.1 s.2.1 s.2.2) ((0 : Int32), f, g) = some (cp 10 (fun k => im (B + 33 + k)) f, cp 10 (fun k => im (B + 43 + k)) g) := by
  refine ev_cnt (fun k => (nI k, cp k (fun k => im (B + 33 + k)) f, cp k (fun k => im (B + 43 + k)) g)) 10 (by simp only [cp_0]; rfl) (fun k hk => ?_) ?_
  · show b_Model_restore_3 (nI B) im (nI k) (cp k (fun k => im (B + 33 + k)) f) (cp k (fun k => im (B + 43 + k)) g) = _
    have hc := cp_up (n := 0) (k := k) (fun k => im (B + 33 + k)) f
    have hc2 := cp_up (n := 0) (k := k) (fun k => im (B + 43 + k)) g
    unfold b_Model_restore_3
    rw [if_neg (lge (L := 10) rfl hk (by decide)), if_pos (ix_t hk (by decide)), if_pos (ix_t hk (by decide)), show nI B + 33 + nI k = nI (B + 33 + k) by rw [show (33 : Int32) = nI 33 from rfl, nI_add, nI_add], show nI B + 43 + nI k = nI (B + 43 + k) by rw [show (43 : Int32) = nI 43 from rfl, nI_add, nI_add], if_pos (ix_t (show B + 33 + k < 160 by omega) (by decide)), if_pos (ix_t (show B + 43 + k < 160 by omega) (by decide)), cl_n (show B + 33 + k < 2 ^ 31 by omega), cl_n (show B + 43 + k < 2 ^ 31 by omega), cl_n (show k < 2 ^ 31 by omega), hc, hc2, nI_1]
  · show b_Model_restore_3 (nI B) im (nI 10) _ _ = _
    unfold b_Model_restore_3
    rw [if_pos (lle (L := 10) (N := 10) rfl)]
theorem rs4_ev (B : Nat) (hB : B ≤ 80) (im f : Nat → Int32) : ev (fun s : Int32 × (Nat → Int32) => b_Model_restore_4 (nI B) im s.1 s.2) ((0 : Int32), f) = some (cp 16 (fun k => im (B + 53 + k)) f) := by
  refine ev_cnt (fun k => (nI k, cp k (fun k => im (B + 53 + k)) f)) 16 (by simp only [cp_0]; rfl) (fun k hk => ?_) ?_
  · show b_Model_restore_4 (nI B) im (nI k) (cp k (fun k => im (B + 53 + k)) f) = _
    have hc := cp_up (n := 0) (k := k) (fun k => im (B + 53 + k)) f
    unfold b_Model_restore_4
    rw [if_neg (lge (L := 16) rfl hk (by decide)), if_pos (ix_t hk (by decide)), show nI B + 53 + nI k = nI (B + 53 + k) by rw [show (53 : Int32) = nI 53 from rfl, nI_add, nI_add], if_pos (ix_t (show B + 53 + k < 160 by omega) (by decide)), cl_n (show B + 53 + k < 2 ^ 31 by omega), cl_n (show k < 2 ^ 31 by omega), hc, nI_1]
  · show b_Model_restore_4 (nI B) im (nI 16) _ = _
    unfold b_Model_restore_4
    rw [if_pos (lle (L := 16) (N := 16) rfl)]
theorem mrestore_ev {q : Nat} (hq : q ≤ 1) (book mt wd cl rk : Nat → Int32) (c : Int32) (ct im kp : Nat → Int32) (hk : ¬ kp q = 0) : f_Model_restore book mt wd cl rk c ct im kp (nI q) = some (1, cp 21 (fun k => im (80 * q + k)) book, cp 6 (fun k => im (80 * q + 21 + k)) mt, cp 10 (fun k => im (80 * q + 33 + k)) wd, cp 10 (fun k => im (80 * q + 43 + k)) cl, cp 6 (fun k => im (80 * q + 27 + k)) rk, im (80 * q + 70), cp 16 (fun k => im (80 * q + 53 + k)) ct) := by
  have hB : 80 * q ≤ 80 := by omega
  have m80 : (80 : Int32) * nI q = nI (80 * q) := by rw [show (80 : Int32) = nI 80 from rfl, pk_mul]
  have m70 : nI (80 * q) + 70 = nI (80 * q + 70) := by rw [show (70 : Int32) = nI 70 from rfl, nI_add]
  unfold f_Model_restore
  simp only [in_within, show f_Strait_within (nI q) 0 1 = 1 from win1 (a := 0) (b := 1) (by omega) (by omega) (by decide), one_ne, if_false, ix_t (show q < 2 by omega) (by decide), if_true, cl_n (show q < 2 ^ 31 by omega), hk, m80, rs1_ev _ hB, Option.bind_some, rs2_ev _ hB, rs3_ev _ hB, rs4_ev _ hB, m70, ix_t (show 80 * q + 70 < 160 by omega) (by decide), cl_n (show 80 * q + 70 < 2 ^ 31 by omega)]
theorem tcopy_ev (wd cl wd2 cl2 : Nat → Int32) : f_Treaty_copyFrom wd cl wd2 cl2 = some (cp 10 wd2 wd, cp 10 cl2 cl) := by
  unfold f_Treaty_copyFrom
  rw [ev_cnt (s0 := ((0 : Int32), wd, cl)) (fun k => (nI k, cp k wd2 wd, cp k cl2 cl)) 10 (r := (cp 10 wd2 wd, cp 10 cl2 cl)) (by simp only [cp_0]; rfl) (fun k hk => by
    show b_Treaty_copyFrom_1 wd2 cl2 (nI k) (cp k wd2 wd) (cp k cl2 cl) = _
    unfold b_Treaty_copyFrom_1
    rw [if_neg (lge (L := 10) rfl hk (by decide))]
    simp only [ix_t hk (by decide), if_true, cl_n (show k < 2 ^ 31 by omega), nI_1, cp_up (n := 0)]) (by
    show b_Treaty_copyFrom_1 wd2 cl2 (nI 10) _ _ = _
    unfold b_Treaty_copyFrom_1
    rw [if_pos (lle (L := 10) (N := 10) rfl)])]
  rfl
theorem lcopy_ev (sn : Nat → Int32) (c : Int32) (cr cw sn2 : Nat → Int32) (c2 : Int32) (cr2 cw2 : Nat → Int32) : f_Lookout_copyFrom sn c cr cw sn2 c2 cr2 cw2 = some (cp 6 sn2 sn, c2, cp 8 cr2 cr, cp 8 cw2 cw) := by
  unfold f_Lookout_copyFrom
  rw [ev_cnt (s0 := ((0 : Int32), sn)) (fun k => (nI k, cp k sn2 sn)) 6 (r := cp 6 sn2 sn) (by simp only [cp_0]; rfl) (fun k hk => by
    show b_Lookout_copyFrom_1 sn2 (nI k) (cp k sn2 sn) = _
    unfold b_Lookout_copyFrom_1
    rw [if_neg (lge (L := 6) rfl hk (by decide))]
    simp only [ix_t hk (by decide), if_true, cl_n (show k < 2 ^ 31 by omega), nI_1, cp_up (n := 0)]) (by
    show b_Lookout_copyFrom_1 sn2 (nI 6) _ = _
    unfold b_Lookout_copyFrom_1
    rw [if_pos (lle (L := 6) (N := 6) rfl)])]
  rw [Option.bind_some]
  rw [ev_cnt (s0 := ((0 : Int32), cr, cw)) (fun k => (nI k, cp k cr2 cr, cp k cw2 cw)) 8 (r := (cp 8 cr2 cr, cp 8 cw2 cw)) (by simp only [cp_0]; rfl) (fun k hk => by
    show b_Lookout_copyFrom_2 cr2 cw2 (nI k) (cp k cr2 cr) (cp k cw2 cw) = _
    unfold b_Lookout_copyFrom_2
    rw [if_neg (lge (L := 8) rfl hk (by decide))]
    simp only [ix_t hk (by decide), if_true, cl_n (show k < 2 ^ 31 by omega), nI_1, cp_up (n := 0)]) (by
    show b_Lookout_copyFrom_2 cr2 cw2 (nI 8) _ _ = _
    unfold b_Lookout_copyFrom_2
    rw [if_pos (lle (L := 8) (N := 8) rfl)])]
  rfl
/-- what the class keeps of its sea, its treaty, its lookout -/
abbrev KX : Type := Int32 × Int32 × Int32 × (Nat → Int32) × (Nat → Int32) × (Nat → Int32) × (Nat → Int32) × (Nat → Int32) × (Nat → Int32) × (Nat → Int32) × Int32 × (Nat → Int32) × (Nat → Int32)
/-- what the reference keeps of them -/
abbrev KM : Type := (Nat → Int32) × (Nat → Int32) × (Nat → Int32) × (Nat → Int32) × (Nat → Int32) × Int32 × (Nat → Int32)
/-- the relation of both: there, month, lost, heads, sides, moods, moults, words, clashes, seen, counts, rocks and wantings counted; book, moults, words, clashes, rocks, counts, count -/
def kR (x : KX) (y : KM) : Prop :=
  rSea x.1 x.2.1 x.2.2.1 x.2.2.2.1 x.2.2.2.2.1 x.2.2.2.2.2.1 y.1 ∧
  iSea x.1 x.2.1 x.2.2.2.1 x.2.2.2.2.1 x.2.2.2.2.2.1 x.2.2.2.2.2.2.1 ∧
  eqn 6 x.2.2.2.2.2.2.1 y.2.1 ∧
  eqn 10 x.2.2.2.2.2.2.2.1 y.2.2.1 ∧ bnd 10 x.2.2.2.2.2.2.2.1 1 9 ∧
  eqn 10 x.2.2.2.2.2.2.2.2.1 y.2.2.2.1 ∧ bnd 10 x.2.2.2.2.2.2.2.2.1 0 1023 ∧
  eqn 6 x.2.2.2.2.2.2.2.2.2.1 y.2.2.2.2.1 ∧ bnd 6 x.2.2.2.2.2.2.2.2.2.1 0 63 ∧
  (∃ n, n ≤ 8 ∧ x.2.2.2.2.2.2.2.2.2.2.1 = nI n ∧ y.2.2.2.2.2.1 = nI n) ∧
  rCnt x.2.2.2.2.2.2.2.2.2.2.2.1 x.2.2.2.2.2.2.2.2.2.2.2.2 y.2.2.2.2.2.2 ∧ bnd 8 x.2.2.2.2.2.2.2.2.2.2.2.1 0 5
/-- a copy of what the class keeps, over another -/
def kC (x z : KX) : KX := (x.1, x.2.1, x.2.2.1, cp 6 x.2.2.2.1 z.2.2.2.1, cp 6 x.2.2.2.2.1 z.2.2.2.2.1, cp 6 x.2.2.2.2.2.1 z.2.2.2.2.2.1, cp 6 x.2.2.2.2.2.2.1 z.2.2.2.2.2.2.1, cp 10 x.2.2.2.2.2.2.2.1 z.2.2.2.2.2.2.2.1, cp 10 x.2.2.2.2.2.2.2.2.1 z.2.2.2.2.2.2.2.2.1, cp 6 x.2.2.2.2.2.2.2.2.2.1 z.2.2.2.2.2.2.2.2.2.1, x.2.2.2.2.2.2.2.2.2.2.1, cp 8 x.2.2.2.2.2.2.2.2.2.2.2.1 z.2.2.2.2.2.2.2.2.2.2.2.1, cp 8 x.2.2.2.2.2.2.2.2.2.2.2.2 z.2.2.2.2.2.2.2.2.2.2.2.2)
/-- the reference's image at a place, as what it keeps -/
def kI (im : Nat → Int32) (q : Nat) : KM := (fun k => im (80 * q + k), fun k => im (80 * q + 21 + k), fun k => im (80 * q + 33 + k), fun k => im (80 * q + 43 + k), fun k => im (80 * q + 27 + k), im (80 * q + 70), fun k => im (80 * q + 53 + k))
theorem eqn.cp {n : Nat} {f g : Nat → Int32} (h : eqn n f g) (u : Nat → Int32) : eqn n (cp n f u) g := fun k hk => by rw [cp_lt _ _ hk]; exact h k hk
theorem kR.copy {x : KX} {y : KM} (h : kR x y) (z : KX) : kR (kC x z) y := by
  obtain ⟨h1, h2, h3, h4, h5, h6, h7, h8, h9, h10, h11, h12⟩ := h
  refine ⟨h1.cp _ _ _, h2.cp _ _ _ _, h3.cp _, h4.cp _, h5.cp _, h6.cp _, h7.cp _, h8.cp _, h9.cp _, h10, fun i hi => ?_, h12.cp _⟩
  show cp 8 _ _ i = _ ∧ cp 8 _ _ i = _
  rw [cp_lt _ _ hi, cp_lt _ _ hi]
  exact h11 i hi
/-- the relation sees the reference's arrays below their ends alone -/
theorem kR.of {x : KX} {y y' : KM} (h : kR x y) (e1 : ∀ k, k < 21 → y'.1 k = y.1 k) (e2 : ∀ k, k < 6 → y'.2.1 k = y.2.1 k) (e3 : ∀ k, k < 10 → y'.2.2.1 k = y.2.2.1 k) (e4 : ∀ k, k < 10 → y'.2.2.2.1 k = y.2.2.2.1 k) (e5 : ∀ k, k < 6 → y'.2.2.2.2.1 k = y.2.2.2.2.1 k) (e6 : y'.2.2.2.2.2.1 = y.2.2.2.2.2.1) (e7 : ∀ k, k < 16 → y'.2.2.2.2.2.2 k = y.2.2.2.2.2.2 k) : kR x y' := by
  obtain ⟨h1, h2, h3, h4, h5, h6, h7, h8, h9, h10, h11, h12⟩ := h
  refine ⟨h1.of e1, h2, fun k hk => by rw [h3 k hk, e2 k hk], fun k hk => by rw [h4 k hk, e3 k hk], h5, fun k hk => by rw [h6 k hk, e4 k hk], h7, fun k hk => by rw [h8 k hk, e5 k hk], h9, ?_, fun i hi => ?_, h12⟩
  · obtain ⟨n, n1, n2, n3⟩ := h10
    exact ⟨n, n1, n2, by rw [e6]; exact n3⟩
  · rw [e7 _ (by omega), e7 _ (by omega)]; exact h11 i hi
