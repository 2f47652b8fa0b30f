/-! pure rows: herd, clash, told, fault -/
theorem fa_and (a b : Nat) : nI a &&& nI b = nI (a &&& b) := by
  apply Int32.toBitVec_inj.1
  show BitVec.ofNat 32 a &&& BitVec.ofNat 32 b = BitVec.ofNat 32 (a &&& b)
  apply BitVec.eq_of_getLsbD_eq
  intro i hi
  simp [hi]
theorem fa_or (a b : Nat) : nI a ||| nI b = nI (a ||| b) := by
  apply Int32.toBitVec_inj.1
  show BitVec.ofNat 32 a ||| BitVec.ofNat 32 b = BitVec.ofNat 32 (a ||| b)
  apply BitVec.eq_of_getLsbD_eq
  intro i hi
  simp [hi]
theorem nI_bv (x : Int32) : nI x.toBitVec.toNat = x := by
  apply Int32.toBitVec_inj.1
  show BitVec.ofNat 32 x.toBitVec.toNat = x.toBitVec
  exact BitVec.ofNat_toNat 32 x.toBitVec |>.trans (by simp)
theorem and_bnd {v B : Nat} (hv : v ≤ B) (hB : B < 2 ^ 31) (y : Int32) : ∃ j, 0 ≤ j ∧ j ≤ B ∧ nI v &&& y = nI j := by
  refine ⟨(nI v &&& y).toBitVec.toNat, Nat.zero_le _, ?_, (nI_bv _).symm⟩
  show ((nI v).toBitVec &&& y.toBitVec).toNat ≤ B
  rw [BitVec.toNat_and, pk_tn (by omega)]
  exact Nat.le_trans Nat.and_le_left hv
theorem shl1 : ∀ b : Nat, b < 31 → (1 : Int32) <<< (nI b &&& 31) = nI (2 ^ b) := by decide +kernel
theorem or_bnd {v b : Nat} (hv : v ≤ 1023) (hb : b < 10) : ∃ j, 0 ≤ j ∧ j ≤ 1023 ∧ nI v ||| ((1 : Int32) <<< (nI b &&& 31)) = nI j := by
  refine ⟨v ||| 2 ^ b, Nat.zero_le _, ?_, by rw [shl1 b (by omega), fa_or]⟩
  have h : v ||| 2 ^ b < 2 ^ 10 := Nat.or_lt_two_pow (by omega) (Nat.pow_lt_pow_right (by decide) hb)
  omega
theorem or_andn (x y : Int32) : (x &&& (y ^^^ (-1))) ||| y = x ||| y := by
  apply Int32.toBitVec_inj.1
  apply BitVec.eq_of_getLsbD_eq
  intro i hi
  show ((x.toBitVec &&& (y.toBitVec ^^^ (-1 : Int32).toBitVec)) ||| y.toBitVec).getLsbD i = (x.toBitVec ||| y.toBitVec).getLsbD i
  have e : ((-1 : Int32).toBitVec).getLsbD i = true := (show ∀ i, i < 32 → ((-1 : Int32).toBitVec).getLsbD i = true by decide) i hi
  simp only [BitVec.getLsbD_or, BitVec.getLsbD_and, BitVec.getLsbD_xor, e]
  cases x.toBitVec.getLsbD i <;> cases y.toBitVec.getLsbD i <;> rfl
/-- bounds of the HERDS -/
def iSea (t mon : Int32) (hd sd md mt : Nat → Int32) : Prop := (∃ n, n < 64 ∧ t = nI n) ∧ (∃ n, n ≤ 999 ∧ mon = nI n) ∧ bnd 6 hd 0 99 ∧ bnd 6 sd 0 1 ∧ bnd 6 md 0 9 ∧ bnd 6 mt 0 11
theorem e_herd {t mon lost : Int32} {hd sd md mt mt2 book : Nat → Int32} (hr : rSea t mon lost hd sd md book) (hm : eqn 6 mt mt2) (hi : iSea t mon hd sd md mt) (p1 p2 p3 p4 p5 : Int32) : ∃ r t' hd' sd' md' mt' book' mt2', f_Strait_herd t hd sd md mt p1 p2 p3 p4 p5 = some (r, t', hd', sd', md', mt') ∧ f_Model_herd book mt2 p1 p2 p3 p4 p5 = some (r, book', mt2') ∧ rSea t' mon lost hd' sd' md' book' ∧ eqn 6 mt' mt2' ∧ iSea t' mon hd' sd' md' mt' := by
  have c1 := win p1 (A := 0) (B := 5) 0 5 rfl rfl (by decide) (by decide)
  have c2 := win p2 (A := 0) (B := 99) 0 99 rfl rfl (by decide) (by decide)
  have c3 := win p3 (A := 0) (B := 1) 0 1 rfl rfl (by decide) (by decide)
  have c4 := win p4 (A := 0) (B := 9) 0 9 rfl rfl (by decide) (by decide)
  have c5 := win p5 (A := 0) (B := 11) 0 11 rfl rfl (by decide) (by decide)
  unfold f_Strait_herd f_Model_herd f_Sea_settle
  rw [in_within]
  rcases c1 with c1 | ⟨c1, k, hk0, hk, rfl⟩
  · exact ⟨-1, t, hd, sd, md, mt, book, mt2, by simp [c1], by simp [c1], hr, hm, hi⟩
  rcases c2 with c2 | ⟨c2, k2, hk20, hk2, rfl⟩
  · exact ⟨-2, t, hd, sd, md, mt, book, mt2, by simp [c1, c2], by simp [c1, c2], hr, hm, hi⟩
  rcases c3 with c3 | ⟨c3, k3, hk30, hk3, rfl⟩
  · exact ⟨-2, t, hd, sd, md, mt, book, mt2, by simp [c1, c2, c3], by simp [c1, c2, c3], hr, hm, hi⟩
  rcases c4 with c4 | ⟨c4, k4, hk40, hk4, rfl⟩
  · exact ⟨-2, t, hd, sd, md, mt, book, mt2, by simp [c1, c2, c3, c4], by simp [c1, c2, c3, c4], hr, hm, hi⟩
  rcases c5 with c5 | ⟨c5, k5, hk50, hk5, rfl⟩
  · exact ⟨-2, t, hd, sd, md, mt, book, mt2, by simp [c1, c2, c3, c4, c5], by simp [c1, c2, c3, c4, c5], hr, hm, hi⟩
  obtain ⟨⟨tn, ht, rfl⟩, i2, i3, i4, i5, i6⟩ := hi
  obtain ⟨b1, b2⟩ := bitsL tn ht k (by omega)
  obtain ⟨r1, r2, r3, r4⟩ := hr
  have e6 : (6 : Int32) + nI k = nI (6 + k) := nI_add 6 k
  have e12 : (12 : Int32) + nI k = nI (12 + k) := nI_add 12 k
  have e18 : ((18 : Int32).toNatClampNeg) = 18 := rfl
  refine ⟨bitsS (nI (tn ||| 2 ^ k)) 10, nI (tn ||| 2 ^ k), upd hd k (nI k2), upd sd k (nI k3), upd md k (nI k4), upd mt k (nI k5), upd (upd (upd (upd book k (nI k2)) (6 + k) (nI k3)) (12 + k) (nI k4)) 18 (nI (tn ||| 2 ^ k)), upd mt2 k (nI k5), ?_, ?_, ⟨?_, ?_, ?_, ?_⟩, hm.upd _ _, ⟨⟨_, b2, rfl⟩, i2, i3.upd _ _ hk20 hk2, i4.upd _ _ hk30 hk3, i5.upd _ _ hk40 hk4, i6.upd _ _ hk50 hk5⟩⟩
  · simp [c1, c2, c3, c4, c5, ix_t (show k < 6 by omega), cl_n (show k < 2 ^ 31 by omega), b1, bc_eq _ (show tn ||| 2 ^ k < 1024 by omega)]
  · have h18 : upd (upd (upd book k (nI k2)) (6 + k) (nI k3)) (12 + k) (nI k4) 18 = nI tn := by
      rw [up_n (by omega), up_n (by omega), up_n (by omega), r2]
    simp only [c1, c2, c3, c4, c5, one_ne, if_false, if_true, ix_t (show k < 6 by omega) (by decide), ix_t (show k < 21 by omega) (by decide), e6, e12, ix_t (show 6 + k < 21 by omega) (by decide), ix_t (show 12 + k < 21 by omega) (by decide), e18, cl_n (show k < 2 ^ 31 by omega), cl_n (show 6 + k < 2 ^ 31 by omega), cl_n (show 12 + k < 2 ^ 31 by omega), h18, b1, up_s, bits_ev, Option.bind_some]
  · intro h hh
    obtain ⟨a1, a2, a3⟩ := r1 h hh
    by_cases hk9 : h = k
    · subst hk9
      refine ⟨?_, ?_, ?_⟩
      · rw [up_n (by omega), up_n (by omega), up_n (by omega), up_s, up_s]
      · rw [up_n (by omega), up_n (by omega), up_s, up_s]
      · rw [up_n (by omega), up_s, up_s]
    · refine ⟨?_, ?_, ?_⟩
      · rw [up_n (by omega), up_n (by omega), up_n (by omega), up_n hk9, up_n hk9]; exact a1
      · rw [up_n (by omega), up_n (by omega), up_n (by omega), up_n (by omega), up_n hk9]; exact a2
      · rw [up_n (by omega), up_n (by omega), up_n (by omega), up_n (by omega), up_n hk9]; exact a3
  · exact up_s _ _ _
  · rw [up_n (by omega), up_n (by omega), up_n (by omega), up_n (by omega)]; exact r3
  · rw [up_n (by omega), up_n (by omega), up_n (by omega), up_n (by omega)]; exact r4
/-- pairs that CLASH: added up -/
def clS (g : Nat → Int32) : Nat → Int32
  | 0 => 0
  | k + 1 => clS g k + bitsS (g k) 10
theorem clS_eq {f g : Nat → Int32} (h : eqn 10 f g) : ∀ k, k ≤ 10 → clS f k = clS g k := by
  intro k
  induction k with
  | zero => intro _; rfl
  | succ k ih => intro hk; rw [clS, clS, ih (by omega), h k (by omega)]
theorem pairs_ev {g : Nat → Int32} (hb : bnd 10 g 0 1023) : f_Treaty_clashingPairs g = some (clS g 10 / 2) := by
  unfold f_Treaty_clashingPairs
  rw [ev_cnt (s0 := ((0 : Int32), (0 : Int32))) (fun k => (clS g k, nI k)) 10 (r := clS g 10) rfl (fun k hk => by
    show b_Treaty_clashingPairs_1 g (clS g k) (nI k) = _
    unfold b_Treaty_clashingPairs_1
    obtain ⟨j, _, hj, ej⟩ := hb k hk
    rw [if_neg (lge (L := 10) rfl hk (by decide)), if_pos (ix_t hk (by decide)), nI_1, cl_n (by omega), clS, ej, bc_eq j (by omega)]) (by
    show b_Treaty_clashingPairs_1 g (clS g 10) (nI 10) = _
    unfold b_Treaty_clashingPairs_1
    rw [if_pos (lle (L := 10) (N := 10) rfl)])]
  rfl
theorem mpairs_ev (g : Nat → Int32) : ev (fun s : Int32 × Int32 => b_Model_clash_1 g s.1 s.2) ((0 : Int32), (0 : Int32)) = some (clS g 10) :=
  ev_cnt (fun k => (clS g k, nI k)) 10 rfl (fun k hk => by
    show b_Model_clash_1 g (clS g k) (nI k) = _
    unfold b_Model_clash_1
    rw [if_neg (lge (L := 10) rfl hk (by decide)), if_pos (ix_t hk (by decide)), nI_1, cl_n (by omega), clS, bits_ev]
    rfl) (by
    show b_Model_clash_1 g (clS g 10) (nI 10) = _
    unfold b_Model_clash_1
    rw [if_pos (lle (L := 10) (N := 10) rfl)])
theorem e_clash {w w2 : Nat → Int32} (p1 p2 p3 : Int32) (he : eqn 10 w w2) (hb : bnd 10 w 0 1023) : ∃ r w' w2', f_Strait_clash w p1 p2 p3 = some (r, w') ∧ f_Model_clash w2 p1 p2 p3 = some (r, w2') ∧ eqn 10 w' w2' ∧ bnd 10 w' 0 1023 := by
  have c1 := win p1 (A := 0) (B := 9) 0 9 rfl rfl (by decide) (by decide)
  have c2 := win p2 (A := 0) (B := 9) 0 9 rfl rfl (by decide) (by decide)
  have hM : f_Model_isClause = fun p => f_Strait_within p 0 9 := rfl
  rcases c1 with c1 | ⟨c1, a, _, ha, rfl⟩
  · exact ⟨-1, w, w2, by unfold f_Strait_clash; simp [c1], by unfold f_Model_clash; simp [hM, c1], he, hb⟩
  rcases c2 with c2 | ⟨c2, b, _, hb2, rfl⟩
  · exact ⟨-1, w, w2, by unfold f_Strait_clash; simp [c1, c2], by unfold f_Model_clash; simp [hM, c1, c2], he, hb⟩
  by_cases hab : a = b
  · subst hab
    exact ⟨-1, w, w2, by unfold f_Strait_clash; simp [c1], by unfold f_Model_clash; simp [hM, c1], he, hb⟩
  have hne : ¬ nI a = nI b := by rw [nI_eq (by omega) (by omega)]; exact hab
  obtain ⟨va, _, hva, eva⟩ := hb a (by omega)
  obtain ⟨vb, _, hvb, evb⟩ := hb b (by omega)
  by_cases h3 : p3 = 0
  · obtain ⟨ja, ja0, hja, eja⟩ := and_bnd (B := 1023) hva (by decide) ((1 : Int32) <<< (nI b &&& 31) ^^^ -1)
    obtain ⟨jb, jb0, hjb, ejb⟩ := and_bnd (B := 1023) hvb (by decide) ((1 : Int32) <<< (nI a &&& 31) ^^^ -1)
    have hbn : bnd 10 (upd (upd w a (nI ja)) b (nI jb)) 0 1023 := (hb.upd a ja ja0 hja).upd b jb jb0 hjb
    have hE : eqn 10 (upd (upd w a (nI ja)) b (nI jb)) (upd (upd (upd (upd w2 a (nI ja)) b (nI jb)) a (nI ja)) b (nI jb)) := by
      intro k hk
      simp only [up_a]
      by_cases k1 : k = b
      · simp [k1]
      · by_cases k2 : k = a
        · simp [k1, k2]
        · simp [k1, k2, he k hk]
    refine ⟨clS (upd (upd w a (nI ja)) b (nI jb)) 10 / 2, upd (upd w a (nI ja)) b (nI jb), upd (upd (upd (upd w2 a (nI ja)) b (nI jb)) a (nI ja)) b (nI jb), ?_, ?_, hE, hbn⟩
    · unfold f_Strait_clash f_Treaty_setClash
      simp only [c1, c2, one_ne, if_false, hne, h3, if_true, ix_t (show a < 10 by omega) (by decide), ix_t (show b < 10 by omega) (by decide), cl_n (show a < 2 ^ 31 by omega), cl_n (show b < 2 ^ 31 by omega), Option.bind_some, up_n (show b ≠ a by omega), eva, evb, eja, ejb, pairs_ev hbn]
    · unfold f_Model_clash
      simp only [hM, c1, c2, one_ne, if_false, hne, h3, if_true, ix_t (show a < 10 by omega) (by decide), ix_t (show b < 10 by omega) (by decide), cl_n (show a < 2 ^ 31 by omega), cl_n (show b < 2 ^ 31 by omega), up_n (show b ≠ a by omega), up_n (show a ≠ b by omega), up_s, ← he a (by omega), ← he b (by omega), eva, evb, eja, ejb, Int32.or_zero, mpairs_ev, Option.bind_some, ← clS_eq hE 10 (by decide)]
  · obtain ⟨ja, ja0, hja, eja⟩ := or_bnd hva (show b < 10 by omega)
    obtain ⟨jb, jb0, hjb, ejb⟩ := or_bnd hvb (show a < 10 by omega)
    have hbn : bnd 10 (upd (upd w a (nI ja)) b (nI jb)) 0 1023 := (hb.upd a ja ja0 hja).upd b jb jb0 hjb
    obtain ⟨xa, exa⟩ : ∃ x, x = nI va &&& ((1 : Int32) <<< (nI b &&& 31) ^^^ -1) := ⟨_, rfl⟩
    obtain ⟨xb, exb⟩ : ∃ x, x = nI vb &&& ((1 : Int32) <<< (nI a &&& 31) ^^^ -1) := ⟨_, rfl⟩
    have oa : xa ||| ((1 : Int32) <<< (nI b &&& 31)) = nI ja := by rw [exa, or_andn, eja]
    have ob : xb ||| ((1 : Int32) <<< (nI a &&& 31)) = nI jb := by rw [exb, or_andn, ejb]
    have hE : eqn 10 (upd (upd w a (nI ja)) b (nI jb)) (upd (upd (upd (upd w2 a xa) b xb) a (nI ja)) b (nI jb)) := by
      intro k hk
      simp only [up_a]
      by_cases k1 : k = b
      · simp [k1]
      · by_cases k2 : k = a
        · simp [k1, k2]
        · simp [k1, k2, he k hk]
    refine ⟨clS (upd (upd w a (nI ja)) b (nI jb)) 10 / 2, upd (upd w a (nI ja)) b (nI jb), upd (upd (upd (upd w2 a xa) b xb) a (nI ja)) b (nI jb), ?_, ?_, hE, hbn⟩
    · unfold f_Strait_clash f_Treaty_setClash
      simp only [c1, c2, one_ne, if_false, hne, h3, if_true, ix_t (show a < 10 by omega) (by decide), ix_t (show b < 10 by omega) (by decide), cl_n (show a < 2 ^ 31 by omega), cl_n (show b < 2 ^ 31 by omega), Option.bind_some, up_n (show b ≠ a by omega), eva, evb, eja, ejb, pairs_ev hbn]
    · unfold f_Model_clash
      simp only [hM, c1, c2, one_ne, if_false, hne, h3, if_true, ix_t (show a < 10 by omega) (by decide), ix_t (show b < 10 by omega) (by decide), cl_n (show a < 2 ^ 31 by omega), cl_n (show b < 2 ^ 31 by omega), up_n (show b ≠ a by omega), up_n (show a ≠ b by omega), up_s, ← he a (by omega), ← he b (by omega), eva, evb, ← exa, ← exb, oa, ob, mpairs_ev, Option.bind_some, ← clS_eq hE 10 (by decide)]
