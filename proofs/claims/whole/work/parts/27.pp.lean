/-! pure rows: new objects; image, restore -/
theorem minit_ev : f_Model_init = some (cp 10 (fun _ => 3) (fun _ => 0), cp 6 (fun _ => 63) (fun _ => 0)) := by
  unfold f_Model_init
  rw [ev_cnt (s0 := ((0 : Int32), (fun _ => (0 : Int32)))) (fun k => (nI k, cp k (fun _ => 3) (fun _ => 0))) 10 (r := cp 10 (fun _ => 3) (fun _ => 0)) (by simp only [cp_0]; rfl) (fun k hk => by
    show b_Model_init_1 (nI k) (cp k (fun _ => 3) (fun _ => 0)) = _
    unfold b_Model_init_1
    rw [if_neg (lge (L := 10) rfl hk (by decide)), if_pos (ix_t hk (by decide)), cl_n (by omega), nI_1]
    exact congrArg (fun g => some (Sum.inl (nI (k + 1), g))) (cp_up (n := 0) (fun _ => (3 : Int32)) (fun _ => 0))) (by
    show b_Model_init_1 (nI 10) _ = _
    unfold b_Model_init_1
    rw [if_pos (lle (L := 10) (N := 10) rfl)])]
  rw [Option.bind_some]
  rw [ev_cnt (s0 := ((0 : Int32), (fun _ => (0 : Int32)))) (fun k => (nI k, cp k (fun _ => 63) (fun _ => 0))) 6 (r := cp 6 (fun _ => 63) (fun _ => 0)) (by simp only [cp_0]; rfl) (fun k hk => by
    show b_Model_init_2 (nI k) (cp k (fun _ => 63) (fun _ => 0)) = _
    unfold b_Model_init_2
    rw [if_neg (lge (L := 6) rfl hk (by decide)), if_pos (ix_t hk (by decide)), cl_n (by omega), nI_1]
    exact congrArg (fun g => some (Sum.inl (nI (k + 1), g))) (cp_up (n := 0) (fun _ => (63 : Int32)) (fun _ => 0))) (by
    show b_Model_init_2 (nI 6) _ = _
    unfold b_Model_init_2
    rw [if_pos (lle (L := 6) (N := 6) rfl)])]
  rfl
theorem fill3 : f_Arrays_fill 10 (fun _ => 0) 3 = some (cp 10 (fun _ => 3) (fun _ => 0)) := fill_ev (by decide) _ _
theorem fill63 : f_Arrays_fill 6 (fun _ => 0) 63 = some (cp 6 (fun _ => 63) (fun _ => 0)) := fill_ev (by decide) _ _
def kX0 : KX := (0, 0, 0, fun _ => 0, fun _ => 0, fun _ => 0, fun _ => 0, cp 10 (fun _ => 3) (fun _ => 0), fun _ => 0, cp 6 (fun _ => 63) (fun _ => 0), 0, fun _ => 0, fun _ => 0)
def kM0 : KM := (fun _ => 0, fun _ => 0, cp 10 (fun _ => 3) (fun _ => 0), fun _ => 0, cp 6 (fun _ => 63) (fun _ => 0), 0, fun _ => 0)
theorem kR_0 : kR kX0 kM0 := by
  have z : ∀ n b, bnd n (fun _ => 0) 0 b := fun n b k _ => ⟨0, Nat.le_refl _, Nat.zero_le _, rfl⟩
  refine ⟨⟨fun _ _ => ⟨rfl, rfl, rfl⟩, rfl, rfl, rfl⟩, ⟨⟨0, by decide, rfl⟩, ⟨0, by decide, rfl⟩, z _ _, z _ _, z _ _, z _ _⟩, fun _ _ => rfl, fun _ _ => rfl, fun k hk => ⟨3, by decide, by decide, cp_lt (fun _ => (3 : Int32)) (fun _ => 0) hk⟩, fun _ _ => rfl, z _ _, fun _ _ => rfl, fun k hk => ⟨63, by decide, by decide, cp_lt (fun _ => (63 : Int32)) (fun _ => 0) hk⟩, ⟨0, by decide, rfl, rfl⟩, fun _ _ => ⟨rfl, rfl⟩, z _ _⟩
theorem kI_of {x : KX} {y : KM} {im' : Nat → Int32} {q : Nat} (h : kR x y) (e1 : ∀ k, k < 21 → im' (80 * q + k) = y.1 k) (e2 : ∀ k, k < 6 → im' (80 * q + 21 + k) = y.2.1 k) (e3 : ∀ k, k < 10 → im' (80 * q + 33 + k) = y.2.2.1 k) (e4 : ∀ k, k < 10 → im' (80 * q + 43 + k) = y.2.2.2.1 k) (e5 : ∀ k, k < 6 → im' (80 * q + 27 + k) = y.2.2.2.2.1 k) (e6 : im' (80 * q + 70) = y.2.2.2.2.2.1) (e7 : ∀ k, k < 16 → im' (80 * q + 53 + k) = y.2.2.2.2.2.2 k) : kR x (kI im' q) :=
  kR.of h e1 e2 e3 e4 e5 e6 e7
/-- the reference's image: what is kept stands there, the other image stays -/
theorem e_mimage {x : KX} {y : KM} (h : kR x y) (z : KX) {q : Nat} (hq : q ≤ 1) (im kp : Nat → Int32) : ∃ im', f_Model_image y.1 y.2.1 y.2.2.1 y.2.2.2.1 y.2.2.2.2.1 y.2.2.2.2.2.1 y.2.2.2.2.2.2 im kp (nI q) = some (1, im', upd kp q 1) ∧ kR (kC x z) (kI im' q) ∧ (∀ x' q', q' ≤ 1 → q' ≠ q → kR x' (kI im q') → kR x' (kI im' q')) := by
  obtain ⟨im', e0, e1, e2, e5, e3, e4, e7, e6, e8⟩ := mimage_ev hq y.1 y.2.1 y.2.2.1 y.2.2.2.1 y.2.2.2.2.1 y.2.2.2.2.2.1 y.2.2.2.2.2.2 im kp
  refine ⟨im', e0, kI_of (h.copy z) e1 e2 e3 e4 e5 e6 e7, fun x' q' hq' hne hx => ?_⟩
  exact kI_of hx (fun k hk => e8 _ (by omega)) (fun k hk => e8 _ (by omega)) (fun k hk => e8 _ (by omega)) (fun k hk => e8 _ (by omega)) (fun k hk => e8 _ (by omega)) (e8 _ (by omega)) (fun k hk => e8 _ (by omega))
theorem e_mrestore {a : KX} {y : KM} {im kp : Nat → Int32} {q : Nat} (hq : q ≤ 1) (hk : ¬ kp q = 0) (ha : kR a (kI im q)) (x : KX) : ∃ y' : KM, f_Model_restore y.1 y.2.1 y.2.2.1 y.2.2.2.1 y.2.2.2.2.1 y.2.2.2.2.2.1 y.2.2.2.2.2.2 im kp (nI q) = some (1, y'.1, y'.2.1, y'.2.2.1, y'.2.2.2.1, y'.2.2.2.2.1, y'.2.2.2.2.2.1, y'.2.2.2.2.2.2) ∧ kR (kC a x) y' := by
  refine ⟨(cp 21 (fun k => im (80 * q + k)) y.1, cp 6 (fun k => im (80 * q + 21 + k)) y.2.1, cp 10 (fun k => im (80 * q + 33 + k)) y.2.2.1, cp 10 (fun k => im (80 * q + 43 + k)) y.2.2.2.1, cp 6 (fun k => im (80 * q + 27 + k)) y.2.2.2.2.1, im (80 * q + 70), cp 16 (fun k => im (80 * q + 53 + k)) y.2.2.2.2.2.2), mrestore_ev hq _ _ _ _ _ _ _ im kp hk, ?_⟩
  exact kR.of (ha.copy x) (fun k hk => cp_lt (fun k => im (80 * q + k)) y.1 hk) (fun k hk => cp_lt (fun k => im (80 * q + 21 + k)) y.2.1 hk) (fun k hk => cp_lt (fun k => im (80 * q + 33 + k)) y.2.2.1 hk) (fun k hk => cp_lt (fun k => im (80 * q + 43 + k)) y.2.2.2.1 hk) (fun k hk => cp_lt (fun k => im (80 * q + 27 + k)) y.2.2.2.2.1 hk) rfl (fun k hk => cp_lt (fun k => im (80 * q + 53 + k)) y.2.2.2.2.2.2 hk)
theorem x_image_n (x : KX) : f_Strait_image_n x.1 x.2.1 x.2.2.1 x.2.2.2.1 x.2.2.2.2.1 x.2.2.2.2.2.1 x.2.2.2.2.2.2.1 x.2.2.2.2.2.2.2.1 x.2.2.2.2.2.2.2.2.1 x.2.2.2.2.2.2.2.2.2.1 x.2.2.2.2.2.2.2.2.2.2.1 x.2.2.2.2.2.2.2.2.2.2.2.1 x.2.2.2.2.2.2.2.2.2.2.2.2 (cp 10 (fun _ => 3) (fun _ => 0)) (cp 6 (fun _ => 63) (fun _ => 0)) = some (1, (kC x kX0).1, (kC x kX0).2.1, (kC x kX0).2.2.1, (kC x kX0).2.2.2.1, (kC x kX0).2.2.2.2.1, (kC x kX0).2.2.2.2.2.1, (kC x kX0).2.2.2.2.2.2.1, (kC x kX0).2.2.2.2.2.2.2.1, (kC x kX0).2.2.2.2.2.2.2.2.1, (kC x kX0).2.2.2.2.2.2.2.2.2.2.1, (kC x kX0).2.2.2.2.2.2.2.2.2.1, (kC x kX0).2.2.2.2.2.2.2.2.2.2.2.1, (kC x kX0).2.2.2.2.2.2.2.2.2.2.2.2) := by
  unfold f_Strait_image_n
  simp only [copy_ev, tcopy_ev, lcopy_ev, Option.bind_some, kC, kX0]
theorem x_image_s (x a : KX) : f_Strait_image_s x.1 x.2.1 x.2.2.1 x.2.2.2.1 x.2.2.2.2.1 x.2.2.2.2.2.1 x.2.2.2.2.2.2.1 x.2.2.2.2.2.2.2.1 x.2.2.2.2.2.2.2.2.1 x.2.2.2.2.2.2.2.2.2.1 x.2.2.2.2.2.2.2.2.2.2.1 x.2.2.2.2.2.2.2.2.2.2.2.1 x.2.2.2.2.2.2.2.2.2.2.2.2 a.1 a.2.1 a.2.2.1 a.2.2.2.1 a.2.2.2.2.1 a.2.2.2.2.2.1 a.2.2.2.2.2.2.1 a.2.2.2.2.2.2.2.1 a.2.2.2.2.2.2.2.2.1 a.2.2.2.2.2.2.2.2.2.1 a.2.2.2.2.2.2.2.2.2.2.1 a.2.2.2.2.2.2.2.2.2.2.2.1 a.2.2.2.2.2.2.2.2.2.2.2.2 = some (1, kC x a) := by
  unfold f_Strait_image_s
  simp only [copy_ev, tcopy_ev, lcopy_ev, Option.bind_some, kC]
theorem x_restore_s (x a : KX) : f_Strait_restore_s x.1 x.2.1 x.2.2.1 x.2.2.2.1 x.2.2.2.2.1 x.2.2.2.2.2.1 x.2.2.2.2.2.2.1 x.2.2.2.2.2.2.2.1 x.2.2.2.2.2.2.2.2.1 x.2.2.2.2.2.2.2.2.2.1 x.2.2.2.2.2.2.2.2.2.2.1 x.2.2.2.2.2.2.2.2.2.2.2.1 x.2.2.2.2.2.2.2.2.2.2.2.2 a.1 a.2.1 a.2.2.1 a.2.2.2.1 a.2.2.2.2.1 a.2.2.2.2.2.1 a.2.2.2.2.2.2.1 a.2.2.2.2.2.2.2.1 a.2.2.2.2.2.2.2.2.1 a.2.2.2.2.2.2.2.2.2.1 a.2.2.2.2.2.2.2.2.2.2.1 a.2.2.2.2.2.2.2.2.2.2.2.1 a.2.2.2.2.2.2.2.2.2.2.2.2 = some (1, kC a x) := by
  unfold f_Strait_restore_s
  simp only [copy_ev, tcopy_ev, lcopy_ev, Option.bind_some, kC]
