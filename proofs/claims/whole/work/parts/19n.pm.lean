/-! pure rows: the images of both sides -/
/-- N values of f laid at b -/
def sgm (im : Nat → Int32) (b N : Nat) (f : Nat → Int32) : Nat → Int32 := fun j => if b ≤ j ∧ j < b + N then f (j - b) else im j
theorem sgm_0 (im : Nat → Int32) (b : Nat) (f : Nat → Int32) : sgm im b 0 f = im := by
  funext j; unfold sgm; rw [if_neg (by omega)]
theorem sgm_in (im : Nat → Int32) {b N k : Nat} (f : Nat → Int32) (h : k < N) : sgm im b N f (b + k) = f k := by
  unfold sgm; rw [if_pos (by omega), show b + k - b = k by omega]
theorem sgm_out (im : Nat → Int32) {b N j : Nat} (f : Nat → Int32) (h : j < b ∨ b + N ≤ j) : sgm im b N f j = im j := by
  unfold sgm; rw [if_neg (by omega)]
theorem sgm_up (im : Nat → Int32) (b k : Nat) (f : Nat → Int32) : upd (sgm im b k f) (b + k) (f k) = sgm im b (k + 1) f := by
  funext j
  rw [up_a]
  by_cases h : j = b + k
  · subst h; rw [if_pos rfl, sgm_in _ _ (by omega)]
  · rw [if_neg h]
    unfold sgm
    by_cases h2 : b ≤ j ∧ j < b + k
    · rw [if_pos h2, if_pos (by omega)]
    · rw [if_neg h2, if_neg (by omega)]
theorem sgm_up2 (im : Nat → Int32) {b c k N : Nat} (f g : Nat → Int32) (hk : k < N) (hbc : b + N ≤ c) : upd (upd (sgm (sgm im b k f) c k g) (b + k) (f k)) (c + k) (g k) = sgm (sgm im b (k + 1) f) c (k + 1) g := by
  have h1 : upd (sgm (sgm im b k f) c k g) (b + k) (f k) = sgm (sgm im b (k + 1) f) c k g := by
    funext j
    rw [up_a]
    by_cases h : j = b + k
    · subst h; rw [if_pos rfl, sgm_out _ _ (by omega), sgm_in _ _ (by omega)]
    · rw [if_neg h]
      by_cases h2 : c ≤ j ∧ j < c + k
      · obtain ⟨i, rfl⟩ : ∃ i, j = c + i := ⟨j - c, by omega⟩
        rw [sgm_in _ _ (by omega), sgm_in _ _ (by omega)]
      · rw [sgm_out (sgm im b k f) g (by omega), sgm_out (sgm im b (k + 1) f) g (by omega), ← sgm_up, up_n h]
  rw [h1, sgm_up]
theorem im1_ev (B : Nat) (hB : B ≤ 80) (f im : Nat → Int32) : ev (fun s : Int32 × (Nat → Int32) => b_Model_image_1 (nI B) f s.1 s.2) ((0 : Int32), im) = some (sgm im B 21 f) := by
  refine ev_cnt (fun k => (nI k, sgm im B k f)) 21 (by simp only [sgm_0]; rfl) (fun k hk => ?_) ?_
  · show b_Model_image_1 (nI B) f (nI k) (sgm im B k f) = _
    unfold b_Model_image_1
    rw [if_neg (lge (L := 21) rfl hk (by decide)), if_pos (ix_t hk (by decide)), nI_add, if_pos (ix_t (show B + k < 160 by omega) (by decide)), cl_n (show B + k < 2 ^ 31 by omega), cl_n (show k < 2 ^ 31 by omega), sgm_up, nI_1]
  · show b_Model_image_1 (nI B) f (nI 21) _ = _
    unfold b_Model_image_1
    rw [if_pos (lle (L := 21) (N := 21) rfl)]
theorem im2_ev (B : Nat) (hB : B ≤ 80) (f g im : Nat → Int32) : ev (fun s : Int32 × (Nat → Int32) => b_Model_image_2 (nI B) f g s.1 s.2) ((0 : Int32), im) = some (sgm (sgm im (B + 21) 6 f) (B + 27) 6 g) := by
  refine ev_cnt (fun k => (nI k, sgm (sgm im (B + 21) k f) (B + 27) k g)) 6 (by simp only [sgm_0]; rfl) (fun k hk => ?_) ?_
  · show b_Model_image_2 (nI B) f g (nI k) (sgm (sgm im (B + 21) k f) (B + 27) k g) = _
    unfold b_Model_image_2
    rw [if_neg (lge (L := 6) rfl hk (by decide)), if_pos (ix_t hk (by decide)), if_pos (ix_t hk (by decide)), show nI B + 21 + nI k = nI (B + 21 + k) by rw [show (21 : Int32) = nI 21 from rfl, nI_add, nI_add], show nI B + 27 + nI k = nI (B + 27 + k) by rw [show (27 : Int32) = nI 27 from rfl, nI_add, nI_add], if_pos (ix_t (show B + 21 + k < 160 by omega) (by decide)), if_pos (ix_t (show B + 27 + k < 160 by omega) (by decide)), cl_n (show B + 21 + k < 2 ^ 31 by omega), cl_n (show B + 27 + k < 2 ^ 31 by omega), cl_n (show k < 2 ^ 31 by omega), sgm_up2 im f g hk (by omega), nI_1]
  · show b_Model_image_2 (nI B) f g (nI 6) _ = _
    unfold b_Model_image_2
    rw [if_pos (lle (L := 6) (N := 6) rfl)]
theorem im3_ev (B : Nat) (hB : B ≤ 80) (f g im : Nat → Int32) : ev (fun s : Int32 × (Nat → Int32) => b_Model_image_3 (nI B) f g s.1 s.2) ((0 : Int32), im) = some (sgm (sgm im (B + 33) 10 f) (B + 43) 10 g) := by
  refine ev_cnt (fun k => (nI k, sgm (sgm im (B + 33) k f) (B + 43) k g)) 10 (by simp only [sgm_0]; rfl) (fun k hk => ?_) ?_
  · show b_Model_image_3 (nI B) f g (nI k) (sgm (sgm im (B + 33) k f) (B + 43) k g) = _
    unfold b_Model_image_3
    rw [if_neg (lge (L := 10) rfl hk (by decide)), if_pos (ix_t hk (by decide)), if_pos (ix_t hk (by decide)), show nI B + 33 + nI k = nI (B + 33 + k) by rw [show (33 : Int32) = nI 33 from rfl, nI_add, nI_add], show nI B + 43 + nI k = nI (B + 43 + k) by rw [show (43 : Int32) = nI 43 from rfl, nI_add, nI_add], if_pos (ix_t (show B + 33 + k < 160 by omega) (by decide)), if_pos (ix_t (show B + 43 + k < 160 by omega) (by decide)), cl_n (show B + 33 + k < 2 ^ 31 by omega), cl_n (show B + 43 + k < 2 ^ 31 by omega), cl_n (show k < 2 ^ 31 by omega), sgm_up2 im f g hk (by omega), nI_1]
  · show b_Model_image_3 (nI B) f g (nI 10) _ = _
    unfold b_Model_image_3
    rw [if_pos (lle (L := 10) (N := 10) rfl)]
theorem im4_ev (B : Nat) (hB : B ≤ 80) (f im : Nat → Int32) : ev (fun s : Int32 × (Nat → Int32) => b_Model_image_4 (nI B) f s.1 s.2) ((0 : Int32), im) = some (sgm im (B + 53) 16 f) := by
  refine ev_cnt (fun k => (nI k, sgm im (B + 53) k f)) 16 (by simp only [sgm_0]; rfl) (fun k hk => ?_) ?_
  · show b_Model_image_4 (nI B) f (nI k) (sgm im (B + 53) k f) = _
    unfold b_Model_image_4
    rw [if_neg (lge (L := 16) rfl hk (by decide)), if_pos (ix_t hk (by decide)), show nI B + 53 + nI k = nI (B + 53 + k) by rw [show (53 : Int32) = nI 53 from rfl, nI_add, nI_add], if_pos (ix_t (show B + 53 + k < 160 by omega) (by decide)), cl_n (show B + 53 + k < 2 ^ 31 by omega), cl_n (show k < 2 ^ 31 by omega), sgm_up, nI_1]
  · show b_Model_image_4 (nI B) f (nI 16) _ = _
    unfold b_Model_image_4
    rw [if_pos (lle (L := 16) (N := 16) rfl)]
theorem mimage_ev {q : Nat} (hq : q ≤ 1) (book mt wd cl rk : Nat → Int32) (c : Int32) (ct im kp : Nat → Int32) : ∃ im', f_Model_image book mt wd cl rk c ct im kp (nI q) = some (1, im', upd kp q 1) ∧ (∀ k, k < 21 → im' (80 * q + k) = book k) ∧ (∀ k, k < 6 → im' (80 * q + 21 + k) = mt k) ∧ (∀ k, k < 6 → im' (80 * q + 27 + k) = rk k) ∧ (∀ k, k < 10 → im' (80 * q + 33 + k) = wd k) ∧ (∀ k, k < 10 → im' (80 * q + 43 + k) = cl k) ∧ (∀ k, k < 16 → im' (80 * q + 53 + k) = ct k) ∧ im' (80 * q + 70) = c ∧ (∀ j, j < 80 * q ∨ 80 * q + 71 ≤ j → im' j = im j) := by
  have hB : 80 * q ≤ 80 := by omega
  have m80 : (80 : Int32) * nI q = nI (80 * q) := by rw [show (80 : Int32) = nI 80 from rfl, pk_mul]
  have m70 : nI (80 * q) + 70 = nI (80 * q + 70) := by rw [show (70 : Int32) = nI 70 from rfl, nI_add]
  refine ⟨upd (sgm (sgm (sgm (sgm (sgm (sgm im (80 * q) 21 book) (80 * q + 21) 6 mt) (80 * q + 27) 6 rk) (80 * q + 33) 10 wd) (80 * q + 43) 10 cl) (80 * q + 53) 16 ct) (80 * q + 70) c, ?_, fun k hk => ?_, fun k hk => ?_, fun k hk => ?_, fun k hk => ?_, fun k hk => ?_, fun k hk => ?_, ?_, fun j hj => ?_⟩
  · unfold f_Model_image
    rw [in_within, show f_Strait_within (nI q) 0 1 = 1 from win1 (a := 0) (b := 1) (by omega) (by omega) (by decide), if_neg one_ne, m80, im1_ev _ hB, Option.bind_some, im2_ev _ hB, Option.bind_some, im3_ev _ hB, Option.bind_some, im4_ev _ hB, Option.bind_some, m70, if_pos (ix_t (show 80 * q + 70 < 160 by omega) (by decide)), if_pos (ix_t (show q < 2 by omega) (by decide)), cl_n (show 80 * q + 70 < 2 ^ 31 by omega), cl_n (show q < 2 ^ 31 by omega)]
    rfl
  · rw [up_n (by omega), sgm_out _ _ (by omega), sgm_out _ _ (by omega), sgm_out _ _ (by omega), sgm_out _ _ (by omega), sgm_out _ _ (by omega), sgm_in _ _ hk]
  · rw [up_n (by omega), sgm_out _ _ (by omega), sgm_out _ _ (by omega), sgm_out _ _ (by omega), sgm_out _ _ (by omega), sgm_in _ _ hk]
  · rw [up_n (by omega), sgm_out _ _ (by omega), sgm_out _ _ (by omega), sgm_out _ _ (by omega), sgm_in _ _ hk]
  · rw [up_n (by omega), sgm_out _ _ (by omega), sgm_out _ _ (by omega), sgm_in _ _ hk]
  · rw [up_n (by omega), sgm_out _ _ (by omega), sgm_in _ _ hk]
  · rw [up_n (by omega), sgm_in _ _ hk]
  · rw [up_s]
  · rw [up_n (by omega), sgm_out _ _ (by omega), sgm_out _ _ (by omega), sgm_out _ _ (by omega), sgm_out _ _ (by omega), sgm_out _ _ (by omega), sgm_out _ _ (by omega)]
