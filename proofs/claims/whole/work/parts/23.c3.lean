set_option maxRecDepth 100000 in
set_option maxHeartbeats 4000000 in
theorem c_X12_in (l : Launch) (dC : Nat → ClassId) (dI : Nat → Nat → Nat) (cI cZ cQ : ClassId) (p1 : Int32) (p2 : Int32) (p3 : Int32) (R : Int32) (hF : f_Model_in p1 p2 p3 = R) (sz : Nat) : Met l yX12_in wsX12_in ({ frames := 0, cells := 0, slots := 0, locals := 0 } : Room) (qPc ([.int p1, .int p2, .int p3]) (dC, dI) (qT cI cZ cQ) ([]) sz) (qRz R) 0 0 (fun _ => False) := by
  refine q_met_r (cc := cX12_in) (own := RX12) (maxL := 3) (ret := (some .boolean)) (lv0 := [(0, .int p1), (1, .int p2), (2, .int p3)]) (by decide) rfl rfl rfl (Nat.le_of_ble_eq_true rfl) ?_
  intro p e s m args below meth c C hr A A' Q hA0 hQ
  unfold f_Model_in at hF
  refine q_iload_n C dX12_in_0 0 rfl rfl ?_
  refine q_iload_n C dX12_in_1 1 rfl rfl ?_
  refine q_icmp_lt (tgt := 14) C dX12_in_2 (by decide) (fun c1 => ?_) (fun c1 => ?_)
  · have hF := ite_t hF c1
    refine q_iconst (v := (0 : Int32)) C dX12_in_14 (by decide) ?_
    subst hF
    exact q_iretz C hA0 hr (Or.inl rfl) dX12_in_15 hQ
  · have hF := ite_f hF c1
    refine q_iload_n C dX12_in_5 0 rfl rfl ?_
    refine q_iload_n C dX12_in_6 2 rfl rfl ?_
    refine q_icmp_gt (tgt := 14) C dX12_in_7 (by decide) (fun c2 => ?_) (fun c2 => ?_)
    · have hF := ite_t hF c2
      refine q_iconst (v := (0 : Int32)) C dX12_in_14 (by decide) ?_
      subst hF
      exact q_iretz C hA0 hr (Or.inl rfl) dX12_in_15 hQ
    · have hF := ite_f hF c2
      refine q_iconst (v := (1 : Int32)) C dX12_in_10 (by decide) ?_
      refine q_goto (tgt := 15) C dX12_in_11 (by decide) ?_
      subst hF
      exact q_iretz C hA0 hr (Or.inr rfl) dX12_in_15 hQ
set_option maxRecDepth 100000 in
set_option maxHeartbeats 4000000 in
theorem c_X12_has (l : Launch) (dC : Nat → ClassId) (dI : Nat → Nat → Nat) (cI cZ cQ : ClassId) (p1 : Int32) (p2 : Int32) (R : Int32) (hF : f_Model_has p1 p2 = R) (sz : Nat) : Met l yX12_has wsX12_has ({ frames := 0, cells := 0, slots := 0, locals := 0 } : Room) (qPc ([.int p1, .int p2]) (dC, dI) (qT cI cZ cQ) ([]) sz) (qRz R) 0 0 (fun _ => False) := by
  refine q_met_r (cc := cX12_has) (own := RX12) (maxL := 2) (ret := (some .boolean)) (lv0 := [(0, .int p1), (1, .int p2)]) (by decide) rfl rfl rfl (Nat.le_of_ble_eq_true rfl) ?_
  intro p e s m args below meth c C hr A A' Q hA0 hQ
  unfold f_Model_has at hF
  refine q_iload_n C dX12_has_0 0 rfl rfl ?_
  refine q_iload_n C dX12_has_1 1 rfl rfl ?_
  refine q_ishr C dX12_has_2 ?_
  refine q_iconst (v := (1 : Int32)) C dX12_has_3 (by decide) ?_
  refine q_iand C dX12_has_4 ?_
  refine q_iconst (v := (1 : Int32)) C dX12_has_5 (by decide) ?_
  refine q_icmp_ne (tgt := 13) C dX12_has_6 (by decide) (fun c1 => ?_) (fun c1 => ?_)
  · have hF := ite_f hF c1
    refine q_iconst (v := (0 : Int32)) C dX12_has_13 (by decide) ?_
    subst hF
    exact q_iretz C hA0 hr (Or.inl rfl) dX12_has_14 hQ
  · have hF := ite_t hF c1
    refine q_iconst (v := (1 : Int32)) C dX12_has_9 (by decide) ?_
    refine q_goto (tgt := 14) C dX12_has_10 (by decide) ?_
    subst hF
    exact q_iretz C hA0 hr (Or.inr rfl) dX12_has_14 hQ
set_option maxRecDepth 100000 in
set_option maxHeartbeats 4000000 in
theorem c_X12_bits (l : Launch) (dC : Nat → ClassId) (dI : Nat → Nat → Nat) (cI cZ cQ : ClassId) (p1 : Int32) (R : Int32) (hF : f_Model_bits p1 = some R) (sz : Nat) : Met l yX12_bits wsX12_bits ({ frames := 0, cells := 0, slots := 0, locals := 0 } : Room) (qPc ([.int p1]) (dC, dI) (qT cI cZ cQ) ([]) sz) (qRi R) 0 0 (fun _ => False) := by
  refine q_met_r (cc := cX12_bits) (own := RX12) (maxL := 3) (ret := (some .int)) (lv0 := [(0, .int p1)]) (by decide) rfl rfl rfl (Nat.le_of_ble_eq_true rfl) ?_
  intro p e s m args below meth c C hr A A' Q hA0 hQ
  have L1 : ∀ (n : Nat) (x0 : Int32) (x1 : Int32) (x2 : Int32) (y1 : Int32), evr (fun s => b_Model_bits_1 x0 s.1 s.2) n (x1, x2) = some y1 → qG p l e ({ frames := 0, cells := 0, slots := 0, locals := 0 } : Room) s m args below meth c 3 (dC, dI) A A' Q 0 0 ([(1, .int y1)]) [] ([]) 24 → qG p l e ({ frames := 0, cells := 0, slots := 0, locals := 0 } : Room) s m args below meth c 3 (dC, dI) A A' Q 0 0 ([(0, .int x0), (1, .int x1), (2, .int x2)]) [] ([]) 4 := by
    clear hF
    intro n
    induction n with
    | zero => intro x0 x1 x2 y1 hF; exact (evr_0 hF).elim
    | succ n ih =>
      intro x0 x1 x2 y1 hF hk
      obtain ⟨o9, hB, hn, hx⟩ := evr_c hF
      have hF : b_Model_bits_1 x0 x1 x2 = some o9 := hB
      unfold b_Model_bits_1 at hF
      refine q_iload_n C dX12_bits_4 2 rfl rfl ?_
      refine q_bipush (v := (10 : Int32)) C dX12_bits_5 (by decide) ?_
      refine q_icmp_ge (tgt := 24) C dX12_bits_7 (by decide) (fun c1 => ?_) (fun c1 => ?_)
      · have hF := ite_t hF c1
        cases hF
        have e2 := hx _ rfl
        cases e2
        refine q_lsel [1] rfl ?_
        exact hk
      · have hF := ite_f hF c1
        refine q_iload_n C dX12_bits_10 1 rfl rfl ?_
        refine q_iload_n C dX12_bits_11 0 rfl rfl ?_
        refine q_iload_n C dX12_bits_12 2 rfl rfl ?_
        refine q_ishr C dX12_bits_13 ?_
        refine q_iconst (v := (1 : Int32)) C dX12_bits_14 (by decide) ?_
        refine q_iand C dX12_bits_15 ?_
        refine q_iadd C dX12_bits_16 ?_
        refine q_istore_n C ([(1, .int (x1 + ((x0 >>> (x2 &&& 31)) &&& (1 : Int32)))), (0, .int x0), (2, .int x2)]) dX12_bits_17 rfl (by decide) rfl ?_
        refine q_iinc (v := (x2 + 1)) C ([(2, .int (x2 + 1)), (1, .int (x1 + ((x0 >>> (x2 &&& 31)) &&& (1 : Int32)))), (0, .int x0)]) dX12_bits_18 2 rfl rfl (by decide) rfl ?_
        refine q_goto (tgt := 4) C dX12_bits_21 (by decide) ?_
        cases hF
        refine q_lsel [2, 1, 0] rfl ?_
        exact ih x0 (x1 + ((x0 >>> (x2 &&& 31)) &&& (1 : Int32))) (x2 + 1) y1 (hn _ rfl) hk
  unfold f_Model_bits at hF
  refine q_iconst (v := (0 : Int32)) C dX12_bits_0 (by decide) ?_
  refine q_istore_n C ([(1, .int (0 : Int32)), (0, .int p1)]) dX12_bits_1 rfl (by decide) rfl ?_
  refine q_iconst (v := (0 : Int32)) C dX12_bits_2 (by decide) ?_
  refine q_istore_n C ([(2, .int (0 : Int32)), (1, .int (0 : Int32)), (0, .int p1)]) dX12_bits_3 rfl (by decide) rfl ?_
  obtain ⟨y1_3, hc4, hF⟩ := bind_c hF
  obtain ⟨n5, hc4⟩ := (ev_iff _ _ _).mp hc4
  refine q_lsel [2, 1, 0] rfl ?_
  refine L1 n5 p1 (0 : Int32) (0 : Int32) y1_3 hc4 ?_
  refine q_iload_n C dX12_bits_24 0 rfl rfl ?_
  cases hF
  exact q_ireti C hA0 hr dX12_bits_25 hQ
set_option maxRecDepth 100000 in
set_option maxHeartbeats 4000000 in
theorem c_X12_isClause (l : Launch) (dC : Nat → ClassId) (dI : Nat → Nat → Nat) (cI cZ cQ : ClassId) (p1 : Int32) (R : Int32) (hF : f_Model_isClause p1 = R) (sz : Nat) : Met l yX12_isClause wsX12_isClause ({ frames := 1, cells := 0, slots := 0, locals := 22 } : Room) (qPc ([.int p1]) (dC, dI) (qT cI cZ cQ) ([]) sz) (qRz R) 0 0 (fun _ => False) := by
  refine q_met_r (cc := cX12_isClause) (own := RX12) (maxL := 1) (ret := (some .boolean)) (lv0 := [(0, .int p1)]) (by decide) rfl rfl rfl (Nat.le_of_ble_eq_true rfl) ?_
  intro p e s m args below meth c C hr A A' Q hA0 hQ
  unfold f_Model_isClause at hF
  refine q_iload_n C dX12_isClause_0 0 rfl rfl ?_
  refine q_iconst (v := (0 : Int32)) C dX12_isClause_1 (by decide) ?_
  refine q_bipush (v := (9 : Int32)) C dX12_isClause_2 (by decide) ?_
  refine q_roz (q_runS (As := [.int p1, .int (0 : Int32), .int (9 : Int32)]) (rest := []) C (fun sz => c_X12_in l dC dI cI cZ cQ p1 (0 : Int32) (9 : Int32) (f_Model_in p1 (0 : Int32) (9 : Int32)) rfl sz) (va_cwS 3 C.2.2.2.2.1 gX12_isClause_X12_in rfl rfl rfl (by decide +kernel) ⟨Nat.le_of_ble_eq_true rfl, Nat.le_of_ble_eq_true rfl⟩) [] rfl rfl rfl rfl (Nat.le_of_ble_eq_true rfl) dX12_isClause_4 ⟨Nat.zero_le _, Nat.zero_le _⟩) (fun hz1 => ?_)
  subst hF
  exact q_iretz C hA0 hr hz1 dX12_isClause_7 hQ
set_option maxRecDepth 100000 in
set_option maxHeartbeats 4000000 in
theorem c_X12_isThere (l : Launch) (dC : Nat → ClassId) (dI : Nat → Nat → Nat) (cI cZ cQ : ClassId) (o o_book o_now o_moults o_words o_clashes o_rocks o_count o_pad o_reached o_queue o_got o_wins o_image o_isKept : Nat) (v_book : Nat → Int32) (v_counts : Int32) (v_signs : Int32) (v_readMany : Int32) (v_signedAll : Int32) (v_reason : Int32) (v_acts : Int32) (v_waitUp : Int64) (v_waitLow : Int64) (p1 : Int32) (R : Int32) (hF : f_Model_isThere v_book p1 = R) (sz : Nat) : Met l yX12_isThere wsX12_isThere ({ frames := 1, cells := 0, slots := 0, locals := 22 } : Room) (qPc ([.ref o, .int p1]) (dC, dI) (qT cI cZ cQ) ([(o, .inr (12, [.ref o_book, .ref o_now, .ref o_moults, .ref o_words, .ref o_clashes, .ref o_rocks, .int v_counts, .ref o_count, .int v_signs, .ref o_pad, .int v_readMany, .int v_signedAll, .int v_reason, .int v_acts, .ref o_reached, .ref o_queue, .ref o_got, .long v_waitUp, .long v_waitLow, .ref o_wins, .ref o_image, .ref o_isKept])), (o_book, .inl (cI, 21, .inl v_book))]) sz) (qRz R) 0 0 (fun _ => False) := by
  refine q_met_r (cc := cX12_isThere) (own := RX12) (maxL := 2) (ret := (some .boolean)) (lv0 := [(0, .ref o), (1, .int p1)]) (by decide) rfl rfl rfl (Nat.le_of_ble_eq_true rfl) ?_
  intro p e s m args below meth c C hr A A' Q hA0 hQ
  have lk0 : Cond.fieldLink RX12 7 "SealStraitModel" "book" "[I" ∈ wsX12_isThere := by decide +kernel
  have lk1 : ∀ w ∈ u_ws RX12 TX12 22, w ∈ wsX12_isThere := fun w h => List.mem_cons_of_mem _ (List.mem_append_right _ h)
  unfold f_Model_isThere at hF
  refine q_iload_n C dX12_isThere_0 1 rfl rfl ?_
  refine q_iconst (v := (0 : Int32)) C dX12_isThere_1 (by decide) ?_
  refine q_iconst (v := (5 : Int32)) C dX12_isThere_2 (by decide) ?_
  refine q_roz (q_runS (As := [.int p1, .int (0 : Int32), .int (5 : Int32)]) (rest := []) C (fun sz => c_X12_in l dC dI cI cZ cQ p1 (0 : Int32) (5 : Int32) (f_Model_in p1 (0 : Int32) (5 : Int32)) rfl sz) (va_cwS 3 C.2.2.2.2.1 gX12_isThere_X12_in rfl rfl rfl (by decide +kernel) ⟨Nat.le_of_ble_eq_true rfl, Nat.le_of_ble_eq_true rfl⟩) [] rfl rfl rfl rfl (Nat.le_of_ble_eq_true rfl) dX12_isThere_3 ⟨Nat.zero_le _, Nat.zero_le _⟩) (fun hz1 => ?_)
  refine q_if_eq (tgt := 27) C dX12_isThere_6 (by decide) (fun c2 => ?_) (fun c2 => ?_)
  · have hF := ite_t hF c2
    refine q_iconst (v := (0 : Int32)) C dX12_isThere_27 (by decide) ?_
    subst hF
    exact q_iretz C hA0 hr (Or.inl rfl) dX12_isThere_28 hQ
  · have hF := ite_f hF c2
    refine q_aload_n C dX12_isThere_9 0 rfl rfl ?_
    refine q_get (C0 := RX12) (T := TX12) (N := 22) (k0 := 0) C lk1 0 rfl rfl (by decide) lk0 rfl (v := .ref o_book) rfl dX12_isThere_10 ?_
    refine q_bipush (v := (18 : Int32)) C dX12_isThere_13 (by decide) ?_
    refine q_iald C 1 0 rfl rfl (ix_in (by decide)) dX12_isThere_15 ?_
    refine q_iload_n C dX12_isThere_16 1 rfl rfl ?_
    refine q_roz (q_runS (As := [.int (v_book ((18 : Int32)).toNatClampNeg), .int p1]) (rest := []) C (fun sz => c_X12_has l dC dI cI cZ cQ (v_book ((18 : Int32)).toNatClampNeg) p1 (f_Model_has (v_book ((18 : Int32)).toNatClampNeg) p1) rfl sz) (va_cwS 2 C.2.2.2.2.1 gX12_isThere_X12_has rfl rfl rfl (by decide +kernel) ⟨Nat.le_of_ble_eq_true rfl, Nat.le_of_ble_eq_true rfl⟩) [] rfl rfl rfl rfl (Nat.le_of_ble_eq_true rfl) dX12_isThere_17 ⟨Nat.zero_le _, Nat.zero_le _⟩) (fun hz3 => ?_)
    refine q_if_eq (tgt := 27) C dX12_isThere_20 (by decide) (fun c4 => ?_) (fun c4 => ?_)
    · have hF := ite_t hF c4
      refine q_iconst (v := (0 : Int32)) C dX12_isThere_27 (by decide) ?_
      subst hF
      exact q_iretz C hA0 hr (Or.inl rfl) dX12_isThere_28 hQ
    · have hF := ite_f hF c4
      refine q_iconst (v := (1 : Int32)) C dX12_isThere_23 (by decide) ?_
      refine q_goto (tgt := 28) C dX12_isThere_24 (by decide) ?_
      subst hF
      exact q_iretz C hA0 hr (Or.inr rfl) dX12_isThere_28 hQ
set_option maxRecDepth 100000 in
set_option maxHeartbeats 4000000 in
theorem c_X12_herd (l : Launch) (dC : Nat → ClassId) (dI : Nat → Nat → Nat) (cI cZ cQ : ClassId) (o o_book o_moults o_now o_words o_clashes o_rocks o_count o_pad o_reached o_queue o_got o_wins o_image o_isKept : Nat) (v_book : Nat → Int32) (v_moults : Nat → Int32) (v_counts : Int32) (v_signs : Int32) (v_readMany : Int32) (v_signedAll : Int32) (v_reason : Int32) (v_acts : Int32) (v_waitUp : Int64) (v_waitLow : Int64) (p1 : Int32) (p2 : Int32) (p3 : Int32) (p4 : Int32) (p5 : Int32) (R : Int32) (w_book : Nat → Int32) (w_moults : Nat → Int32) (hF : f_Model_herd v_book v_moults p1 p2 p3 p4 p5 = some (R, w_book, w_moults)) (sz : Nat) : Met l yX12_herd wsX12_herd ({ frames := 1, cells := 0, slots := 0, locals := 22 } : Room) (qPc ([.ref o, .int p1, .int p2, .int p3, .int p4, .int p5]) (dC, dI) (qT cI cZ cQ) ([(o, .inr (12, [.ref o_book, .ref o_now, .ref o_moults, .ref o_words, .ref o_clashes, .ref o_rocks, .int v_counts, .ref o_count, .int v_signs, .ref o_pad, .int v_readMany, .int v_signedAll, .int v_reason, .int v_acts, .ref o_reached, .ref o_queue, .ref o_got, .long v_waitUp, .long v_waitLow, .ref o_wins, .ref o_image, .ref o_isKept])), (o_book, .inl (cI, 21, .inl v_book)), (o_moults, .inl (cI, 6, .inl v_moults))]) sz) (qWi R (dC, dI) ([(o, .inr (12, [.ref o_book, .ref o_now, .ref o_moults, .ref o_words, .ref o_clashes, .ref o_rocks, .int v_counts, .ref o_count, .int v_signs, .ref o_pad, .int v_readMany, .int v_signedAll, .int v_reason, .int v_acts, .ref o_reached, .ref o_queue, .ref o_got, .long v_waitUp, .long v_waitLow, .ref o_wins, .ref o_image, .ref o_isKept])), (o_book, .inl (cI, 21, .inl w_book)), (o_moults, .inl (cI, 6, .inl w_moults))]) (va_A ([(o, .inr (12, [.ref o_book, .ref o_now, .ref o_moults, .ref o_words, .ref o_clashes, .ref o_rocks, .int v_counts, .ref o_count, .int v_signs, .ref o_pad, .int v_readMany, .int v_signedAll, .int v_reason, .int v_acts, .ref o_reached, .ref o_queue, .ref o_got, .long v_waitUp, .long v_waitLow, .ref o_wins, .ref o_image, .ref o_isKept])), (o_book, .inl (cI, 21, .inl v_book)), (o_moults, .inl (cI, 6, .inl v_moults))]) sz)) 0 0 (va_A ([(o, .inr (12, [.ref o_book, .ref o_now, .ref o_moults, .ref o_words, .ref o_clashes, .ref o_rocks, .int v_counts, .ref o_count, .int v_signs, .ref o_pad, .int v_readMany, .int v_signedAll, .int v_reason, .int v_acts, .ref o_reached, .ref o_queue, .ref o_got, .long v_waitUp, .long v_waitLow, .ref o_wins, .ref o_image, .ref o_isKept])), (o_book, .inl (cI, 21, .inl v_book)), (o_moults, .inl (cI, 6, .inl v_moults))]) sz) := by
  refine q_met_w (Qc := fun A => qWi R (dC, dI) ([(o, .inr (12, [.ref o_book, .ref o_now, .ref o_moults, .ref o_words, .ref o_clashes, .ref o_rocks, .int v_counts, .ref o_count, .int v_signs, .ref o_pad, .int v_readMany, .int v_signedAll, .int v_reason, .int v_acts, .ref o_reached, .ref o_queue, .ref o_got, .long v_waitUp, .long v_waitLow, .ref o_wins, .ref o_image, .ref o_isKept])), (o_book, .inl (cI, 21, .inl w_book)), (o_moults, .inl (cI, 6, .inl w_moults))]) A) (cc := cX12_herd) (own := RX12) (maxL := 6) (ret := (some .int)) (lv0 := [(0, .ref o), (1, .int p1), (2, .int p2), (3, .int p3), (4, .int p4), (5, .int p5)]) (by decide) rfl rfl rfl (Nat.le_of_ble_eq_true rfl) ?_
  intro p e s m args below meth c A hA C hr hnm Q hQ
  have lk0 : Cond.fieldLink RX12 7 "SealStraitModel" "book" "[I" ∈ wsX12_herd := by decide +kernel
  have lk1 : ∀ w ∈ u_ws RX12 TX12 22, w ∈ wsX12_herd := fun w h => List.mem_cons_of_mem _ (List.mem_append_right _ h)
  have lk2 : Cond.fieldLink RX12 16 "SealStraitModel" "moults" "[I" ∈ wsX12_herd := by decide +kernel
  unfold f_Model_herd at hF
  refine q_iload_n C dX12_herd_0 1 rfl rfl ?_
  refine q_iconst (v := (0 : Int32)) C dX12_herd_1 (by decide) ?_
  refine q_iconst (v := (5 : Int32)) C dX12_herd_2 (by decide) ?_
  refine q_roz (q_runS (As := [.int p1, .int (0 : Int32), .int (5 : Int32)]) (rest := []) C (fun sz => c_X12_in l dC dI cI cZ cQ p1 (0 : Int32) (5 : Int32) (f_Model_in p1 (0 : Int32) (5 : Int32)) rfl sz) (va_cwS 3 C.2.2.2.2.1 gX12_herd_X12_in rfl rfl rfl (by decide +kernel) ⟨Nat.le_of_ble_eq_true rfl, Nat.le_of_ble_eq_true rfl⟩) [] rfl rfl rfl rfl (Nat.le_of_ble_eq_true rfl) dX12_herd_3 ⟨Nat.zero_le _, Nat.zero_le _⟩) (fun hz1 => ?_)
  refine q_if_ne (tgt := 11) C dX12_herd_6 (by decide) (fun c2 => ?_) (fun c2 => ?_)
  · have hF := ite_f hF c2
    refine q_iload_n C dX12_herd_11 2 rfl rfl ?_
    refine q_iconst (v := (0 : Int32)) C dX12_herd_12 (by decide) ?_
    refine q_bipush (v := (99 : Int32)) C dX12_herd_13 (by decide) ?_
    refine q_roz (q_runS (As := [.int p2, .int (0 : Int32), .int (99 : Int32)]) (rest := []) C (fun sz => c_X12_in l dC dI cI cZ cQ p2 (0 : Int32) (99 : Int32) (f_Model_in p2 (0 : Int32) (99 : Int32)) rfl sz) (va_cwS 3 C.2.2.2.2.1 gX12_herd_X12_in rfl rfl rfl (by decide +kernel) ⟨Nat.le_of_ble_eq_true rfl, Nat.le_of_ble_eq_true rfl⟩) [] rfl rfl rfl rfl (Nat.le_of_ble_eq_true rfl) dX12_herd_15 ⟨Nat.zero_le _, Nat.zero_le _⟩) (fun hz3 => ?_)
    refine q_if_eq (tgt := 52) C dX12_herd_18 (by decide) (fun c4 => ?_) (fun c4 => ?_)
    · have hF := ite_t hF c4
      refine q_bipush (v := (-2 : Int32)) C dX12_herd_52 (by decide) ?_
      cases hF
      exact q_wreti C hr dX12_herd_54 hQ
    · have hF := ite_f hF c4
      refine q_iload_n C dX12_herd_21 3 rfl rfl ?_
      refine q_iconst (v := (0 : Int32)) C dX12_herd_22 (by decide) ?_
      refine q_iconst (v := (1 : Int32)) C dX12_herd_23 (by decide) ?_
      refine q_roz (q_runS (As := [.int p3, .int (0 : Int32), .int (1 : Int32)]) (rest := []) C (fun sz => c_X12_in l dC dI cI cZ cQ p3 (0 : Int32) (1 : Int32) (f_Model_in p3 (0 : Int32) (1 : Int32)) rfl sz) (va_cwS 3 C.2.2.2.2.1 gX12_herd_X12_in rfl rfl rfl (by decide +kernel) ⟨Nat.le_of_ble_eq_true rfl, Nat.le_of_ble_eq_true rfl⟩) [] rfl rfl rfl rfl (Nat.le_of_ble_eq_true rfl) dX12_herd_24 ⟨Nat.zero_le _, Nat.zero_le _⟩) (fun hz5 => ?_)
      refine q_if_eq (tgt := 52) C dX12_herd_27 (by decide) (fun c6 => ?_) (fun c6 => ?_)
      · have hF := ite_t hF c6
        refine q_bipush (v := (-2 : Int32)) C dX12_herd_52 (by decide) ?_
        cases hF
        exact q_wreti C hr dX12_herd_54 hQ
      · have hF := ite_f hF c6
        refine q_iload C dX12_herd_30 4 rfl ?_
        refine q_iconst (v := (0 : Int32)) C dX12_herd_32 (by decide) ?_
        refine q_bipush (v := (9 : Int32)) C dX12_herd_33 (by decide) ?_
        refine q_roz (q_runS (As := [.int p4, .int (0 : Int32), .int (9 : Int32)]) (rest := []) C (fun sz => c_X12_in l dC dI cI cZ cQ p4 (0 : Int32) (9 : Int32) (f_Model_in p4 (0 : Int32) (9 : Int32)) rfl sz) (va_cwS 3 C.2.2.2.2.1 gX12_herd_X12_in rfl rfl rfl (by decide +kernel) ⟨Nat.le_of_ble_eq_true rfl, Nat.le_of_ble_eq_true rfl⟩) [] rfl rfl rfl rfl (Nat.le_of_ble_eq_true rfl) dX12_herd_35 ⟨Nat.zero_le _, Nat.zero_le _⟩) (fun hz7 => ?_)
        refine q_if_eq (tgt := 52) C dX12_herd_38 (by decide) (fun c8 => ?_) (fun c8 => ?_)
        · have hF := ite_t hF c8
          refine q_bipush (v := (-2 : Int32)) C dX12_herd_52 (by decide) ?_
          cases hF
          exact q_wreti C hr dX12_herd_54 hQ
        · have hF := ite_f hF c8
          refine q_iload C dX12_herd_41 5 rfl ?_
          refine q_iconst (v := (0 : Int32)) C dX12_herd_43 (by decide) ?_
          refine q_bipush (v := (11 : Int32)) C dX12_herd_44 (by decide) ?_
          refine q_roz (q_runS (As := [.int p5, .int (0 : Int32), .int (11 : Int32)]) (rest := []) C (fun sz => c_X12_in l dC dI cI cZ cQ p5 (0 : Int32) (11 : Int32) (f_Model_in p5 (0 : Int32) (11 : Int32)) rfl sz) (va_cwS 3 C.2.2.2.2.1 gX12_herd_X12_in rfl rfl rfl (by decide +kernel) ⟨Nat.le_of_ble_eq_true rfl, Nat.le_of_ble_eq_true rfl⟩) [] rfl rfl rfl rfl (Nat.le_of_ble_eq_true rfl) dX12_herd_46 ⟨Nat.zero_le _, Nat.zero_le _⟩) (fun hz9 => ?_)
          refine q_if_ne (tgt := 55) C dX12_herd_49 (by decide) (fun c10 => ?_) (fun c10 => ?_)
          · have hF := ite_f hF c10
            refine q_aload_n C dX12_herd_55 0 rfl rfl ?_
            refine q_get (C0 := RX12) (T := TX12) (N := 22) (k0 := 0) C lk1 0 rfl rfl (by decide) lk0 rfl (v := .ref o_book) rfl dX12_herd_56 ?_
            refine q_iload_n C dX12_herd_59 1 rfl rfl ?_
            refine q_iload_n C dX12_herd_60 2 rfl rfl ?_
            obtain ⟨hc11, hF⟩ := ite_c hF
            refine q_iast C 1 0 rfl rfl (ix_in hc11) ([(o, .inr (12, [.ref o_book, .ref o_now, .ref o_moults, .ref o_words, .ref o_clashes, .ref o_rocks, .int v_counts, .ref o_count, .int v_signs, .ref o_pad, .int v_readMany, .int v_signedAll, .int v_reason, .int v_acts, .ref o_reached, .ref o_queue, .ref o_got, .long v_waitUp, .long v_waitLow, .ref o_wins, .ref o_image, .ref o_isKept])), (o_book, .inl (cI, 21, .inl (upd v_book (p1).toNatClampNeg p2))), (o_moults, .inl (cI, 6, .inl v_moults))]) rfl dX12_herd_61 ?_
            refine q_aload_n C dX12_herd_62 0 rfl rfl ?_
            refine q_get (C0 := RX12) (T := TX12) (N := 22) (k0 := 0) C lk1 0 rfl rfl (by decide) lk0 rfl (v := .ref o_book) rfl dX12_herd_63 ?_
            refine q_bipush (v := (6 : Int32)) C dX12_herd_66 (by decide) ?_
            refine q_iload_n C dX12_herd_68 1 rfl rfl ?_
            refine q_iadd C dX12_herd_69 ?_
            refine q_iload_n C dX12_herd_70 3 rfl rfl ?_
            obtain ⟨hc12, hF⟩ := ite_c hF
            refine q_iast C 1 0 rfl rfl (ix_in hc12) ([(o, .inr (12, [.ref o_book, .ref o_now, .ref o_moults, .ref o_words, .ref o_clashes, .ref o_rocks, .int v_counts, .ref o_count, .int v_signs, .ref o_pad, .int v_readMany, .int v_signedAll, .int v_reason, .int v_acts, .ref o_reached, .ref o_queue, .ref o_got, .long v_waitUp, .long v_waitLow, .ref o_wins, .ref o_image, .ref o_isKept])), (o_book, .inl (cI, 21, .inl (upd (upd v_book (p1).toNatClampNeg p2) (((6 : Int32) + p1)).toNatClampNeg p3))), (o_moults, .inl (cI, 6, .inl v_moults))]) rfl dX12_herd_71 ?_
            refine q_aload_n C dX12_herd_72 0 rfl rfl ?_
            refine q_get (C0 := RX12) (T := TX12) (N := 22) (k0 := 0) C lk1 0 rfl rfl (by decide) lk0 rfl (v := .ref o_book) rfl dX12_herd_73 ?_
            refine q_bipush (v := (12 : Int32)) C dX12_herd_76 (by decide) ?_
            refine q_iload_n C dX12_herd_78 1 rfl rfl ?_
            refine q_iadd C dX12_herd_79 ?_
            refine q_iload C dX12_herd_80 4 rfl ?_
            obtain ⟨hc13, hF⟩ := ite_c hF
            refine q_iast C 1 0 rfl rfl (ix_in hc13) ([(o, .inr (12, [.ref o_book, .ref o_now, .ref o_moults, .ref o_words, .ref o_clashes, .ref o_rocks, .int v_counts, .ref o_count, .int v_signs, .ref o_pad, .int v_readMany, .int v_signedAll, .int v_reason, .int v_acts, .ref o_reached, .ref o_queue, .ref o_got, .long v_waitUp, .long v_waitLow, .ref o_wins, .ref o_image, .ref o_isKept])), (o_book, .inl (cI, 21, .inl (upd (upd (upd v_book (p1).toNatClampNeg p2) (((6 : Int32) + p1)).toNatClampNeg p3) (((12 : Int32) + p1)).toNatClampNeg p4))), (o_moults, .inl (cI, 6, .inl v_moults))]) rfl dX12_herd_82 ?_
            refine q_aload_n C dX12_herd_83 0 rfl rfl ?_
            refine q_get (C0 := RX12) (T := TX12) (N := 22) (k0 := 2) C lk1 0 rfl rfl (by decide) lk2 rfl (v := .ref o_moults) rfl dX12_herd_84 ?_
            refine q_iload_n C dX12_herd_87 1 rfl rfl ?_
            refine q_iload C dX12_herd_88 5 rfl ?_
            obtain ⟨hc14, hF⟩ := ite_c hF
            refine q_iast C 2 0 rfl rfl (ix_in hc14) ([(o, .inr (12, [.ref o_book, .ref o_now, .ref o_moults, .ref o_words, .ref o_clashes, .ref o_rocks, .int v_counts, .ref o_count, .int v_signs, .ref o_pad, .int v_readMany, .int v_signedAll, .int v_reason, .int v_acts, .ref o_reached, .ref o_queue, .ref o_got, .long v_waitUp, .long v_waitLow, .ref o_wins, .ref o_image, .ref o_isKept])), (o_book, .inl (cI, 21, .inl (upd (upd (upd v_book (p1).toNatClampNeg p2) (((6 : Int32) + p1)).toNatClampNeg p3) (((12 : Int32) + p1)).toNatClampNeg p4))), (o_moults, .inl (cI, 6, .inl (upd v_moults (p1).toNatClampNeg p5)))]) rfl dX12_herd_90 ?_
            refine q_aload_n C dX12_herd_91 0 rfl rfl ?_
            refine q_get (C0 := RX12) (T := TX12) (N := 22) (k0 := 0) C lk1 0 rfl rfl (by decide) lk0 rfl (v := .ref o_book) rfl dX12_herd_92 ?_
            refine q_bipush (v := (18 : Int32)) C dX12_herd_95 (by decide) ?_
            refine q_dup2 C dX12_herd_97 rfl rfl ?_
            refine q_iald C 1 0 rfl rfl (ix_in (by decide)) dX12_herd_98 ?_
            refine q_iconst (v := (1 : Int32)) C dX12_herd_99 (by decide) ?_
            refine q_iload_n C dX12_herd_100 1 rfl rfl ?_
            refine q_ishl C dX12_herd_101 ?_
            refine q_ior C dX12_herd_102 ?_
            refine q_iast C 1 0 rfl rfl (ix_in (by decide)) ([(o, .inr (12, [.ref o_book, .ref o_now, .ref o_moults, .ref o_words, .ref o_clashes, .ref o_rocks, .int v_counts, .ref o_count, .int v_signs, .ref o_pad, .int v_readMany, .int v_signedAll, .int v_reason, .int v_acts, .ref o_reached, .ref o_queue, .ref o_got, .long v_waitUp, .long v_waitLow, .ref o_wins, .ref o_image, .ref o_isKept])), (o_book, .inl (cI, 21, .inl (upd (upd (upd (upd v_book (p1).toNatClampNeg p2) (((6 : Int32) + p1)).toNatClampNeg p3) (((12 : Int32) + p1)).toNatClampNeg p4) ((18 : Int32)).toNatClampNeg (((upd (upd (upd v_book (p1).toNatClampNeg p2) (((6 : Int32) + p1)).toNatClampNeg p3) (((12 : Int32) + p1)).toNatClampNeg p4) ((18 : Int32)).toNatClampNeg) ||| ((1 : Int32) <<< (p1 &&& 31)))))), (o_moults, .inl (cI, 6, .inl (upd v_moults (p1).toNatClampNeg p5)))]) rfl dX12_herd_103 ?_
            refine q_aload_n C dX12_herd_104 0 rfl rfl ?_
            refine q_get (C0 := RX12) (T := TX12) (N := 22) (k0 := 0) C lk1 0 rfl rfl (by decide) lk0 rfl (v := .ref o_book) rfl dX12_herd_105 ?_
            refine q_bipush (v := (18 : Int32)) C dX12_herd_108 (by decide) ?_
            refine q_iald C 1 0 rfl rfl (ix_in (by decide)) dX12_herd_110 ?_
            obtain ⟨r15, hc16, hF⟩ := bind_c hF
            refine q_roi (q_runS (As := [.int ((upd (upd (upd (upd v_book (p1).toNatClampNeg p2) (((6 : Int32) + p1)).toNatClampNeg p3) (((12 : Int32) + p1)).toNatClampNeg p4) ((18 : Int32)).toNatClampNeg (((upd (upd (upd v_book (p1).toNatClampNeg p2) (((6 : Int32) + p1)).toNatClampNeg p3) (((12 : Int32) + p1)).toNatClampNeg p4) ((18 : Int32)).toNatClampNeg) ||| ((1 : Int32) <<< (p1 &&& 31)))) ((18 : Int32)).toNatClampNeg)]) (rest := []) C (fun sz => c_X12_bits l dC dI cI cZ cQ ((upd (upd (upd (upd v_book (p1).toNatClampNeg p2) (((6 : Int32) + p1)).toNatClampNeg p3) (((12 : Int32) + p1)).toNatClampNeg p4) ((18 : Int32)).toNatClampNeg (((upd (upd (upd v_book (p1).toNatClampNeg p2) (((6 : Int32) + p1)).toNatClampNeg p3) (((12 : Int32) + p1)).toNatClampNeg p4) ((18 : Int32)).toNatClampNeg) ||| ((1 : Int32) <<< (p1 &&& 31)))) ((18 : Int32)).toNatClampNeg) r15 hc16 sz) (va_cwS 1 C.2.2.2.2.1 gX12_herd_X12_bits rfl rfl rfl (by decide +kernel) ⟨Nat.le_of_ble_eq_true rfl, Nat.le_of_ble_eq_true rfl⟩) [] rfl rfl rfl rfl (Nat.le_of_ble_eq_true rfl) dX12_herd_111 ⟨Nat.zero_le _, Nat.zero_le _⟩) ?_
            cases hF
            exact q_wreti C hr dX12_herd_114 hQ
          · have hF := ite_t hF c10
            refine q_bipush (v := (-2 : Int32)) C dX12_herd_52 (by decide) ?_
            cases hF
            exact q_wreti C hr dX12_herd_54 hQ
  · have hF := ite_t hF c2
    refine q_iconst (v := (-1 : Int32)) C dX12_herd_9 (by decide) ?_
    cases hF
    exact q_wreti C hr dX12_herd_10 hQ
set_option maxRecDepth 100000 in
set_option maxHeartbeats 4000000 in
theorem c_X12_clause (l : Launch) (dC : Nat → ClassId) (dI : Nat → Nat → Nat) (cI cZ cQ : ClassId) (o o_words o_book o_now o_moults o_clashes o_rocks o_count o_pad o_reached o_queue o_got o_wins o_image o_isKept : Nat) (v_words : Nat → Int32) (v_counts : Int32) (v_signs : Int32) (v_readMany : Int32) (v_signedAll : Int32) (v_reason : Int32) (v_acts : Int32) (v_waitUp : Int64) (v_waitLow : Int64) (p1 : Int32) (p2 : Int32) (R : Int32) (w_words : Nat → Int32) (hF : f_Model_clause v_words p1 p2 = some (R, w_words)) (sz : Nat) : Met l yX12_clause wsX12_clause ({ frames := 2, cells := 0, slots := 0, locals := 42 } : Room) (qPc ([.ref o, .int p1, .int p2]) (dC, dI) (qT cI cZ cQ) ([(o, .inr (12, [.ref o_book, .ref o_now, .ref o_moults, .ref o_words, .ref o_clashes, .ref o_rocks, .int v_counts, .ref o_count, .int v_signs, .ref o_pad, .int v_readMany, .int v_signedAll, .int v_reason, .int v_acts, .ref o_reached, .ref o_queue, .ref o_got, .long v_waitUp, .long v_waitLow, .ref o_wins, .ref o_image, .ref o_isKept])), (o_words, .inl (cI, 10, .inl v_words))]) sz) (qWi R (dC, dI) ([(o, .inr (12, [.ref o_book, .ref o_now, .ref o_moults, .ref o_words, .ref o_clashes, .ref o_rocks, .int v_counts, .ref o_count, .int v_signs, .ref o_pad, .int v_readMany, .int v_signedAll, .int v_reason, .int v_acts, .ref o_reached, .ref o_queue, .ref o_got, .long v_waitUp, .long v_waitLow, .ref o_wins, .ref o_image, .ref o_isKept])), (o_words, .inl (cI, 10, .inl w_words))]) (va_A ([(o, .inr (12, [.ref o_book, .ref o_now, .ref o_moults, .ref o_words, .ref o_clashes, .ref o_rocks, .int v_counts, .ref o_count, .int v_signs, .ref o_pad, .int v_readMany, .int v_signedAll, .int v_reason, .int v_acts, .ref o_reached, .ref o_queue, .ref o_got, .long v_waitUp, .long v_waitLow, .ref o_wins, .ref o_image, .ref o_isKept])), (o_words, .inl (cI, 10, .inl v_words))]) sz)) 0 0 (va_A ([(o, .inr (12, [.ref o_book, .ref o_now, .ref o_moults, .ref o_words, .ref o_clashes, .ref o_rocks, .int v_counts, .ref o_count, .int v_signs, .ref o_pad, .int v_readMany, .int v_signedAll, .int v_reason, .int v_acts, .ref o_reached, .ref o_queue, .ref o_got, .long v_waitUp, .long v_waitLow, .ref o_wins, .ref o_image, .ref o_isKept])), (o_words, .inl (cI, 10, .inl v_words))]) sz) := by
  refine q_met_w (Qc := fun A => qWi R (dC, dI) ([(o, .inr (12, [.ref o_book, .ref o_now, .ref o_moults, .ref o_words, .ref o_clashes, .ref o_rocks, .int v_counts, .ref o_count, .int v_signs, .ref o_pad, .int v_readMany, .int v_signedAll, .int v_reason, .int v_acts, .ref o_reached, .ref o_queue, .ref o_got, .long v_waitUp, .long v_waitLow, .ref o_wins, .ref o_image, .ref o_isKept])), (o_words, .inl (cI, 10, .inl w_words))]) A) (cc := cX12_clause) (own := RX12) (maxL := 4) (ret := (some .int)) (lv0 := [(0, .ref o), (1, .int p1), (2, .int p2)]) (by decide) rfl rfl rfl (Nat.le_of_ble_eq_true rfl) ?_
  intro p e s m args below meth c A hA C hr hnm Q hQ
  have lk0 : Cond.fieldLink RX12 19 "SealStraitModel" "words" "[I" ∈ wsX12_clause := by decide +kernel
  have lk1 : ∀ w ∈ u_ws RX12 TX12 22, w ∈ wsX12_clause := fun w h => List.mem_cons_of_mem _ (List.mem_append_right _ h)
  unfold f_Model_clause at hF
  refine q_iload_n C dX12_clause_0 1 rfl rfl ?_
  refine q_roz (q_runS (As := [.int p1]) (rest := []) C (fun sz => c_X12_isClause l dC dI cI cZ cQ p1 (f_Model_isClause p1) rfl sz) (va_cwS 1 C.2.2.2.2.1 gX12_clause_X12_isClause rfl rfl rfl (by decide +kernel) ⟨Nat.le_of_ble_eq_true rfl, Nat.le_of_ble_eq_true rfl⟩) [] rfl rfl rfl rfl (Nat.le_of_ble_eq_true rfl) dX12_clause_1 ⟨Nat.zero_le _, Nat.zero_le _⟩) (fun hz1 => ?_)
  refine q_if_ne (tgt := 9) C dX12_clause_4 (by decide) (fun c2 => ?_) (fun c2 => ?_)
  · have hF := ite_f hF c2
    refine q_iload_n C dX12_clause_9 2 rfl rfl ?_
    refine q_iconst (v := (1 : Int32)) C dX12_clause_10 (by decide) ?_
    refine q_bipush (v := (9 : Int32)) C dX12_clause_11 (by decide) ?_
    refine q_roz (q_runS (As := [.int p2, .int (1 : Int32), .int (9 : Int32)]) (rest := []) C (fun sz => c_X12_in l dC dI cI cZ cQ p2 (1 : Int32) (9 : Int32) (f_Model_in p2 (1 : Int32) (9 : Int32)) rfl sz) (va_cwS 3 C.2.2.2.2.1 gX12_clause_X12_in rfl rfl rfl (by decide +kernel) ⟨Nat.le_of_ble_eq_true rfl, Nat.le_of_ble_eq_true rfl⟩) [] rfl rfl rfl rfl (Nat.le_of_ble_eq_true rfl) dX12_clause_13 ⟨Nat.zero_le _, Nat.zero_le _⟩) (fun hz3 => ?_)
    refine q_if_ne (tgt := 22) C dX12_clause_16 (by decide) (fun c4 => ?_) (fun c4 => ?_)
    · have hF := ite_f hF c4
      refine q_aload_n C dX12_clause_22 0 rfl rfl ?_
      refine q_get (C0 := RX12) (T := TX12) (N := 22) (k0 := 3) C lk1 0 rfl rfl (by decide) lk0 rfl (v := .ref o_words) rfl dX12_clause_23 ?_
      refine q_iload_n C dX12_clause_26 1 rfl rfl ?_
      obtain ⟨hc5, hF⟩ := ite_c hF
      refine q_iald C 1 0 rfl rfl (ix_in hc5) dX12_clause_27 ?_
      refine q_istore_n C ([(3, .int (v_words (p1).toNatClampNeg)), (0, .ref o), (1, .int p1), (2, .int p2)]) dX12_clause_28 rfl (by decide) rfl ?_
      refine q_aload_n C dX12_clause_29 1 rfl rfl ?_
      refine q_get (C0 := RX12) (T := TX12) (N := 22) (k0 := 3) C lk1 0 rfl rfl (by decide) lk0 rfl (v := .ref o_words) rfl dX12_clause_30 ?_
      refine q_iload_n C dX12_clause_33 2 rfl rfl ?_
      refine q_iload_n C dX12_clause_34 3 rfl rfl ?_
      obtain ⟨hc6, hF⟩ := ite_c hF
      refine q_iast C 1 0 rfl rfl (ix_in hc6) ([(o, .inr (12, [.ref o_book, .ref o_now, .ref o_moults, .ref o_words, .ref o_clashes, .ref o_rocks, .int v_counts, .ref o_count, .int v_signs, .ref o_pad, .int v_readMany, .int v_signedAll, .int v_reason, .int v_acts, .ref o_reached, .ref o_queue, .ref o_got, .long v_waitUp, .long v_waitLow, .ref o_wins, .ref o_image, .ref o_isKept])), (o_words, .inl (cI, 10, .inl (upd v_words (p1).toNatClampNeg p2)))]) rfl dX12_clause_35 ?_
      refine q_iload_n C dX12_clause_36 0 rfl rfl ?_
      cases hF
      exact q_wreti C hr dX12_clause_37 hQ
    · have hF := ite_t hF c4
      refine q_bipush (v := (-2 : Int32)) C dX12_clause_19 (by decide) ?_
      cases hF
      exact q_wreti C hr dX12_clause_21 hQ
  · have hF := ite_t hF c2
    refine q_iconst (v := (-1 : Int32)) C dX12_clause_7 (by decide) ?_
    cases hF
    exact q_wreti C hr dX12_clause_8 hQ
set_option maxRecDepth 100000 in
set_option maxHeartbeats 4000000 in
theorem c_X12_clash (l : Launch) (dC : Nat → ClassId) (dI : Nat → Nat → Nat) (cI cZ cQ : ClassId) (o o_clashes o_book o_now o_moults o_words o_rocks o_count o_pad o_reached o_queue o_got o_wins o_image o_isKept : Nat) (v_clashes : Nat → Int32) (v_counts : Int32) (v_signs : Int32) (v_readMany : Int32) (v_signedAll : Int32) (v_reason : Int32) (v_acts : Int32) (v_waitUp : Int64) (v_waitLow : Int64) (p1 : Int32) (p2 : Int32) (p3 : Int32) (R : Int32) (w_clashes : Nat → Int32) (hF : f_Model_clash v_clashes p1 p2 p3 = some (R, w_clashes)) (sz : Nat) : Met l yX12_clash wsX12_clash ({ frames := 2, cells := 0, slots := 0, locals := 42 } : Room) (qPc ([.ref o, .int p1, .int p2, .int p3]) (dC, dI) (qT cI cZ cQ) ([(o, .inr (12, [.ref o_book, .ref o_now, .ref o_moults, .ref o_words, .ref o_clashes, .ref o_rocks, .int v_counts, .ref o_count, .int v_signs, .ref o_pad, .int v_readMany, .int v_signedAll, .int v_reason, .int v_acts, .ref o_reached, .ref o_queue, .ref o_got, .long v_waitUp, .long v_waitLow, .ref o_wins, .ref o_image, .ref o_isKept])), (o_clashes, .inl (cI, 10, .inl v_clashes))]) sz) (qWi R (dC, dI) ([(o, .inr (12, [.ref o_book, .ref o_now, .ref o_moults, .ref o_words, .ref o_clashes, .ref o_rocks, .int v_counts, .ref o_count, .int v_signs, .ref o_pad, .int v_readMany, .int v_signedAll, .int v_reason, .int v_acts, .ref o_reached, .ref o_queue, .ref o_got, .long v_waitUp, .long v_waitLow, .ref o_wins, .ref o_image, .ref o_isKept])), (o_clashes, .inl (cI, 10, .inl w_clashes))]) (va_A ([(o, .inr (12, [.ref o_book, .ref o_now, .ref o_moults, .ref o_words, .ref o_clashes, .ref o_rocks, .int v_counts, .ref o_count, .int v_signs, .ref o_pad, .int v_readMany, .int v_signedAll, .int v_reason, .int v_acts, .ref o_reached, .ref o_queue, .ref o_got, .long v_waitUp, .long v_waitLow, .ref o_wins, .ref o_image, .ref o_isKept])), (o_clashes, .inl (cI, 10, .inl v_clashes))]) sz)) 0 0 (va_A ([(o, .inr (12, [.ref o_book, .ref o_now, .ref o_moults, .ref o_words, .ref o_clashes, .ref o_rocks, .int v_counts, .ref o_count, .int v_signs, .ref o_pad, .int v_readMany, .int v_signedAll, .int v_reason, .int v_acts, .ref o_reached, .ref o_queue, .ref o_got, .long v_waitUp, .long v_waitLow, .ref o_wins, .ref o_image, .ref o_isKept])), (o_clashes, .inl (cI, 10, .inl v_clashes))]) sz) := by
  refine q_met_w (Qc := fun A => qWi R (dC, dI) ([(o, .inr (12, [.ref o_book, .ref o_now, .ref o_moults, .ref o_words, .ref o_clashes, .ref o_rocks, .int v_counts, .ref o_count, .int v_signs, .ref o_pad, .int v_readMany, .int v_signedAll, .int v_reason, .int v_acts, .ref o_reached, .ref o_queue, .ref o_got, .long v_waitUp, .long v_waitLow, .ref o_wins, .ref o_image, .ref o_isKept])), (o_clashes, .inl (cI, 10, .inl w_clashes))]) A) (cc := cX12_clash) (own := RX12) (maxL := 6) (ret := (some .int)) (lv0 := [(0, .ref o), (1, .int p1), (2, .int p2), (3, .int p3)]) (by decide) rfl rfl rfl (Nat.le_of_ble_eq_true rfl) ?_
  intro p e s m args below meth c A hA C hr hnm Q hQ
  have lk0 : Cond.fieldLink RX12 22 "SealStraitModel" "clashes" "[I" ∈ wsX12_clash := by decide +kernel
  have lk1 : ∀ w ∈ u_ws RX12 TX12 22, w ∈ wsX12_clash := fun w h => List.mem_cons_of_mem _ (List.mem_append_right _ h)
  have L1 : ∀ (n : Nat) (x4 : Int32) (x5 : Int32) (v_clashes : Nat → Int32) (y4 : Int32), evr (fun s => b_Model_clash_1 v_clashes s.1 s.2) n (x4, x5) = some y4 → qG p l e ({ frames := 2, cells := 0, slots := 0, locals := 42 } : Room) s m args below meth c 6 (dC, dI) A A Q 0 0 ([(4, .int y4)]) [] ([(o, .inr (12, [.ref o_book, .ref o_now, .ref o_moults, .ref o_words, .ref o_clashes, .ref o_rocks, .int v_counts, .ref o_count, .int v_signs, .ref o_pad, .int v_readMany, .int v_signedAll, .int v_reason, .int v_acts, .ref o_reached, .ref o_queue, .ref o_got, .long v_waitUp, .long v_waitLow, .ref o_wins, .ref o_image, .ref o_isKept])), (o_clashes, .inl (cI, 10, .inl v_clashes))]) 123 → qG p l e ({ frames := 2, cells := 0, slots := 0, locals := 42 } : Room) s m args below meth c 6 (dC, dI) A A Q 0 0 ([(0, .ref o), (4, .int x4), (5, .int x5)]) [] ([(o, .inr (12, [.ref o_book, .ref o_now, .ref o_moults, .ref o_words, .ref o_clashes, .ref o_rocks, .int v_counts, .ref o_count, .int v_signs, .ref o_pad, .int v_readMany, .int v_signedAll, .int v_reason, .int v_acts, .ref o_reached, .ref o_queue, .ref o_got, .long v_waitUp, .long v_waitLow, .ref o_wins, .ref o_image, .ref o_isKept])), (o_clashes, .inl (cI, 10, .inl v_clashes))]) 95 := by
    clear hF
    intro n
    induction n with
    | zero => intro x4 x5 v_clashes y4 hF; exact (evr_0 hF).elim
    | succ n ih =>
      intro x4 x5 v_clashes y4 hF hk
      obtain ⟨o9, hB, hn, hx⟩ := evr_c hF
      have hF : b_Model_clash_1 v_clashes x4 x5 = some o9 := hB
      unfold b_Model_clash_1 at hF
      refine q_iload C dX12_clash_95 2 rfl ?_
      refine q_bipush (v := (10 : Int32)) C dX12_clash_97 (by decide) ?_
      refine q_icmp_ge (tgt := 123) C dX12_clash_99 (by decide) (fun c1 => ?_) (fun c1 => ?_)
      · have hF := ite_t hF c1
        cases hF
        have e2 := hx _ rfl
        cases e2
        refine q_lsel [1] rfl ?_
        exact hk
      · have hF := ite_f hF c1
        refine q_iload C dX12_clash_102 1 rfl ?_
        refine q_aload_n C dX12_clash_104 0 rfl rfl ?_
        refine q_get (C0 := RX12) (T := TX12) (N := 22) (k0 := 4) C lk1 0 rfl rfl (by decide) lk0 rfl (v := .ref o_clashes) rfl dX12_clash_105 ?_
        refine q_iload C dX12_clash_108 2 rfl ?_
        obtain ⟨hc3, hF⟩ := ite_c hF
        refine q_iald C 1 0 rfl rfl (ix_in hc3) dX12_clash_110 ?_
        obtain ⟨r4, hc5, hF⟩ := bind_c hF
        refine q_roi (q_runS (As := [.int (v_clashes (x5).toNatClampNeg)]) (rest := [.int x4]) C (fun sz => c_X12_bits l dC dI cI cZ cQ (v_clashes (x5).toNatClampNeg) r4 hc5 sz) (va_cwS 1 C.2.2.2.2.1 gX12_clash_X12_bits rfl rfl rfl (by decide +kernel) ⟨Nat.le_of_ble_eq_true rfl, Nat.le_of_ble_eq_true rfl⟩) [] rfl rfl rfl rfl (Nat.le_of_ble_eq_true rfl) dX12_clash_111 ⟨Nat.zero_le _, Nat.zero_le _⟩) ?_
        refine q_iadd C dX12_clash_114 ?_
        refine q_istore C ([(4, .int (x4 + r4)), (0, .ref o), (5, .int x5)]) dX12_clash_115 (by decide) rfl ?_
        refine q_iinc (v := (x5 + 1)) C ([(5, .int (x5 + 1)), (4, .int (x4 + r4)), (0, .ref o)]) dX12_clash_117 2 rfl rfl (by decide) rfl ?_
        refine q_goto (tgt := 95) C dX12_clash_120 (by decide) ?_
        cases hF
        refine q_lsel [2, 1, 0] rfl ?_
        exact ih (x4 + r4) (x5 + 1) v_clashes y4 (hn _ rfl) hk
  unfold f_Model_clash at hF
  refine q_iload_n C dX12_clash_0 1 rfl rfl ?_
  refine q_roz (q_runS (As := [.int p1]) (rest := []) C (fun sz => c_X12_isClause l dC dI cI cZ cQ p1 (f_Model_isClause p1) rfl sz) (va_cwS 1 C.2.2.2.2.1 gX12_clash_X12_isClause rfl rfl rfl (by decide +kernel) ⟨Nat.le_of_ble_eq_true rfl, Nat.le_of_ble_eq_true rfl⟩) [] rfl rfl rfl rfl (Nat.le_of_ble_eq_true rfl) dX12_clash_1 ⟨Nat.zero_le _, Nat.zero_le _⟩) (fun hz6 => ?_)
  refine q_if_eq (tgt := 19) C dX12_clash_4 (by decide) (fun c7 => ?_) (fun c7 => ?_)
  · have hF := ite_t hF c7
    refine q_iconst (v := (-1 : Int32)) C dX12_clash_19 (by decide) ?_
    cases hF
    exact q_wreti C hr dX12_clash_20 hQ
  · have hF := ite_f hF c7
    refine q_iload_n C dX12_clash_7 2 rfl rfl ?_
    refine q_roz (q_runS (As := [.int p2]) (rest := []) C (fun sz => c_X12_isClause l dC dI cI cZ cQ p2 (f_Model_isClause p2) rfl sz) (va_cwS 1 C.2.2.2.2.1 gX12_clash_X12_isClause rfl rfl rfl (by decide +kernel) ⟨Nat.le_of_ble_eq_true rfl, Nat.le_of_ble_eq_true rfl⟩) [] rfl rfl rfl rfl (Nat.le_of_ble_eq_true rfl) dX12_clash_8 ⟨Nat.zero_le _, Nat.zero_le _⟩) (fun hz8 => ?_)
    refine q_if_eq (tgt := 19) C dX12_clash_11 (by decide) (fun c9 => ?_) (fun c9 => ?_)
    · have hF := ite_t hF c9
      refine q_iconst (v := (-1 : Int32)) C dX12_clash_19 (by decide) ?_
      cases hF
      exact q_wreti C hr dX12_clash_20 hQ
    · have hF := ite_f hF c9
      refine q_iload_n C dX12_clash_14 1 rfl rfl ?_
      refine q_iload_n C dX12_clash_15 2 rfl rfl ?_
      refine q_icmp_ne (tgt := 21) C dX12_clash_16 (by decide) (fun c10 => ?_) (fun c10 => ?_)
      · have hF := ite_f hF c10
        refine q_aload_n C dX12_clash_21 0 rfl rfl ?_
        refine q_get (C0 := RX12) (T := TX12) (N := 22) (k0 := 4) C lk1 0 rfl rfl (by decide) lk0 rfl (v := .ref o_clashes) rfl dX12_clash_22 ?_
        refine q_iload_n C dX12_clash_25 1 rfl rfl ?_
        refine q_dup2 C dX12_clash_26 rfl rfl ?_
        obtain ⟨hc11, hF⟩ := ite_c hF
        refine q_iald C 1 0 rfl rfl (ix_in hc11) dX12_clash_27 ?_
        refine q_iconst (v := (1 : Int32)) C dX12_clash_28 (by decide) ?_
        refine q_iload_n C dX12_clash_29 2 rfl rfl ?_
        refine q_ishl C dX12_clash_30 ?_
        refine q_iconst (v := (-1 : Int32)) C dX12_clash_31 (by decide) ?_
        refine q_ixor C dX12_clash_32 ?_
        refine q_iand C dX12_clash_33 ?_
        obtain ⟨hc12, hF⟩ := ite_c hF
        refine q_iast C 1 0 rfl rfl (ix_in hc12) ([(o, .inr (12, [.ref o_book, .ref o_now, .ref o_moults, .ref o_words, .ref o_clashes, .ref o_rocks, .int v_counts, .ref o_count, .int v_signs, .ref o_pad, .int v_readMany, .int v_signedAll, .int v_reason, .int v_acts, .ref o_reached, .ref o_queue, .ref o_got, .long v_waitUp, .long v_waitLow, .ref o_wins, .ref o_image, .ref o_isKept])), (o_clashes, .inl (cI, 10, .inl (upd v_clashes (p1).toNatClampNeg ((v_clashes (p1).toNatClampNeg) &&& (((1 : Int32) <<< (p2 &&& 31)) ^^^ (-1 : Int32))))))]) rfl dX12_clash_34 ?_
        refine q_aload_n C dX12_clash_35 0 rfl rfl ?_
        refine q_get (C0 := RX12) (T := TX12) (N := 22) (k0 := 4) C lk1 0 rfl rfl (by decide) lk0 rfl (v := .ref o_clashes) rfl dX12_clash_36 ?_
        refine q_iload_n C dX12_clash_39 2 rfl rfl ?_
        refine q_dup2 C dX12_clash_40 rfl rfl ?_
        obtain ⟨hc13, hF⟩ := ite_c hF
        refine q_iald C 1 0 rfl rfl (ix_in hc13) dX12_clash_41 ?_
        refine q_iconst (v := (1 : Int32)) C dX12_clash_42 (by decide) ?_
        refine q_iload_n C dX12_clash_43 1 rfl rfl ?_
        refine q_ishl C dX12_clash_44 ?_
        refine q_iconst (v := (-1 : Int32)) C dX12_clash_45 (by decide) ?_
        refine q_ixor C dX12_clash_46 ?_
        refine q_iand C dX12_clash_47 ?_
        obtain ⟨hc14, hF⟩ := ite_c hF
        refine q_iast C 1 0 rfl rfl (ix_in hc14) ([(o, .inr (12, [.ref o_book, .ref o_now, .ref o_moults, .ref o_words, .ref o_clashes, .ref o_rocks, .int v_counts, .ref o_count, .int v_signs, .ref o_pad, .int v_readMany, .int v_signedAll, .int v_reason, .int v_acts, .ref o_reached, .ref o_queue, .ref o_got, .long v_waitUp, .long v_waitLow, .ref o_wins, .ref o_image, .ref o_isKept])), (o_clashes, .inl (cI, 10, .inl (upd (upd v_clashes (p1).toNatClampNeg ((v_clashes (p1).toNatClampNeg) &&& (((1 : Int32) <<< (p2 &&& 31)) ^^^ (-1 : Int32)))) (p2).toNatClampNeg (((upd v_clashes (p1).toNatClampNeg ((v_clashes (p1).toNatClampNeg) &&& (((1 : Int32) <<< (p2 &&& 31)) ^^^ (-1 : Int32)))) (p2).toNatClampNeg) &&& (((1 : Int32) <<< (p1 &&& 31)) ^^^ (-1 : Int32))))))]) rfl dX12_clash_48 ?_
        refine q_aload_n C dX12_clash_49 0 rfl rfl ?_
        refine q_get (C0 := RX12) (T := TX12) (N := 22) (k0 := 4) C lk1 0 rfl rfl (by decide) lk0 rfl (v := .ref o_clashes) rfl dX12_clash_50 ?_
        refine q_iload_n C dX12_clash_53 1 rfl rfl ?_
        refine q_dup2 C dX12_clash_54 rfl rfl ?_
        obtain ⟨hc15, hF⟩ := ite_c hF
        refine q_iald C 1 0 rfl rfl (ix_in hc15) dX12_clash_55 ?_
        refine q_iload_n C dX12_clash_56 3 rfl rfl ?_
        refine q_if_eq (tgt := 66) C dX12_clash_57 (by decide) (fun c16 => ?_) (fun c16 => ?_)
        · have hF := ite_t hF c16
          refine q_iconst (v := (0 : Int32)) C dX12_clash_66 (by decide) ?_
          refine q_ior C dX12_clash_67 ?_
          obtain ⟨hc17, hF⟩ := ite_c hF
          refine q_iast C 1 0 rfl rfl (ix_in hc17) ([(o, .inr (12, [.ref o_book, .ref o_now, .ref o_moults, .ref o_words, .ref o_clashes, .ref o_rocks, .int v_counts, .ref o_count, .int v_signs, .ref o_pad, .int v_readMany, .int v_signedAll, .int v_reason, .int v_acts, .ref o_reached, .ref o_queue, .ref o_got, .long v_waitUp, .long v_waitLow, .ref o_wins, .ref o_image, .ref o_isKept])), (o_clashes, .inl (cI, 10, .inl (upd (upd (upd v_clashes (p1).toNatClampNeg ((v_clashes (p1).toNatClampNeg) &&& (((1 : Int32) <<< (p2 &&& 31)) ^^^ (-1 : Int32)))) (p2).toNatClampNeg (((upd v_clashes (p1).toNatClampNeg ((v_clashes (p1).toNatClampNeg) &&& (((1 : Int32) <<< (p2 &&& 31)) ^^^ (-1 : Int32)))) (p2).toNatClampNeg) &&& (((1 : Int32) <<< (p1 &&& 31)) ^^^ (-1 : Int32)))) (p1).toNatClampNeg (((upd (upd v_clashes (p1).toNatClampNeg ((v_clashes (p1).toNatClampNeg) &&& (((1 : Int32) <<< (p2 &&& 31)) ^^^ (-1 : Int32)))) (p2).toNatClampNeg (((upd v_clashes (p1).toNatClampNeg ((v_clashes (p1).toNatClampNeg) &&& (((1 : Int32) <<< (p2 &&& 31)) ^^^ (-1 : Int32)))) (p2).toNatClampNeg) &&& (((1 : Int32) <<< (p1 &&& 31)) ^^^ (-1 : Int32)))) (p1).toNatClampNeg) ||| (0 : Int32)))))]) rfl dX12_clash_68 ?_
          refine q_aload_n C dX12_clash_69 0 rfl rfl ?_
          refine q_get (C0 := RX12) (T := TX12) (N := 22) (k0 := 4) C lk1 0 rfl rfl (by decide) lk0 rfl (v := .ref o_clashes) rfl dX12_clash_70 ?_
          refine q_iload_n C dX12_clash_73 2 rfl rfl ?_
          refine q_dup2 C dX12_clash_74 rfl rfl ?_
          obtain ⟨hc18, hF⟩ := ite_c hF
          refine q_iald C 1 0 rfl rfl (ix_in hc18) dX12_clash_75 ?_
          refine q_iload_n C dX12_clash_76 3 rfl rfl ?_
          refine q_if_eq (tgt := 86) C dX12_clash_77 (by decide) (fun c19 => ?_) (fun c19 => ?_)
          · have hF := ite_t hF c19
            refine q_iconst (v := (0 : Int32)) C dX12_clash_86 (by decide) ?_
            refine q_ior C dX12_clash_87 ?_
            obtain ⟨hc20, hF⟩ := ite_c hF
            refine q_iast C 1 0 rfl rfl (ix_in hc20) ([(o, .inr (12, [.ref o_book, .ref o_now, .ref o_moults, .ref o_words, .ref o_clashes, .ref o_rocks, .int v_counts, .ref o_count, .int v_signs, .ref o_pad, .int v_readMany, .int v_signedAll, .int v_reason, .int v_acts, .ref o_reached, .ref o_queue, .ref o_got, .long v_waitUp, .long v_waitLow, .ref o_wins, .ref o_image, .ref o_isKept])), (o_clashes, .inl (cI, 10, .inl (upd (upd (upd (upd v_clashes (p1).toNatClampNeg ((v_clashes (p1).toNatClampNeg) &&& (((1 : Int32) <<< (p2 &&& 31)) ^^^ (-1 : Int32)))) (p2).toNatClampNeg (((upd v_clashes (p1).toNatClampNeg ((v_clashes (p1).toNatClampNeg) &&& (((1 : Int32) <<< (p2 &&& 31)) ^^^ (-1 : Int32)))) (p2).toNatClampNeg) &&& (((1 : Int32) <<< (p1 &&& 31)) ^^^ (-1 : Int32)))) (p1).toNatClampNeg (((upd (upd v_clashes (p1).toNatClampNeg ((v_clashes (p1).toNatClampNeg) &&& (((1 : Int32) <<< (p2 &&& 31)) ^^^ (-1 : Int32)))) (p2).toNatClampNeg (((upd v_clashes (p1).toNatClampNeg ((v_clashes (p1).toNatClampNeg) &&& (((1 : Int32) <<< (p2 &&& 31)) ^^^ (-1 : Int32)))) (p2).toNatClampNeg) &&& (((1 : Int32) <<< (p1 &&& 31)) ^^^ (-1 : Int32)))) (p1).toNatClampNeg) ||| (0 : Int32))) (p2).toNatClampNeg (((upd (upd (upd v_clashes (p1).toNatClampNeg ((v_clashes (p1).toNatClampNeg) &&& (((1 : Int32) <<< (p2 &&& 31)) ^^^ (-1 : Int32)))) (p2).toNatClampNeg (((upd v_clashes (p1).toNatClampNeg ((v_clashes (p1).toNatClampNeg) &&& (((1 : Int32) <<< (p2 &&& 31)) ^^^ (-1 : Int32)))) (p2).toNatClampNeg) &&& (((1 : Int32) <<< (p1 &&& 31)) ^^^ (-1 : Int32)))) (p1).toNatClampNeg (((upd (upd v_clashes (p1).toNatClampNeg ((v_clashes (p1).toNatClampNeg) &&& (((1 : Int32) <<< (p2 &&& 31)) ^^^ (-1 : Int32)))) (p2).toNatClampNeg (((upd v_clashes (p1).toNatClampNeg ((v_clashes (p1).toNatClampNeg) &&& (((1 : Int32) <<< (p2 &&& 31)) ^^^ (-1 : Int32)))) (p2).toNatClampNeg) &&& (((1 : Int32) <<< (p1 &&& 31)) ^^^ (-1 : Int32)))) (p1).toNatClampNeg) ||| (0 : Int32))) (p2).toNatClampNeg) ||| (0 : Int32)))))]) rfl dX12_clash_88 ?_
            refine q_iconst (v := (0 : Int32)) C dX12_clash_89 (by decide) ?_
            refine q_istore C ([(4, .int (0 : Int32)), (0, .ref o), (1, .int p1), (2, .int p2), (3, .int p3)]) dX12_clash_90 (by decide) rfl ?_
            refine q_iconst (v := (0 : Int32)) C dX12_clash_92 (by decide) ?_
            refine q_istore C ([(5, .int (0 : Int32)), (4, .int (0 : Int32)), (0, .ref o), (1, .int p1), (2, .int p2), (3, .int p3)]) dX12_clash_93 (by decide) rfl ?_
            obtain ⟨y4_21, hc22, hF⟩ := bind_c hF
            obtain ⟨n23, hc22⟩ := (ev_iff _ _ _).mp hc22
            refine q_lsel [2, 1, 0] rfl ?_
            refine L1 n23 (0 : Int32) (0 : Int32) (upd (upd (upd (upd v_clashes (p1).toNatClampNeg ((v_clashes (p1).toNatClampNeg) &&& (((1 : Int32) <<< (p2 &&& 31)) ^^^ (-1 : Int32)))) (p2).toNatClampNeg (((upd v_clashes (p1).toNatClampNeg ((v_clashes (p1).toNatClampNeg) &&& (((1 : Int32) <<< (p2 &&& 31)) ^^^ (-1 : Int32)))) (p2).toNatClampNeg) &&& (((1 : Int32) <<< (p1 &&& 31)) ^^^ (-1 : Int32)))) (p1).toNatClampNeg (((upd (upd v_clashes (p1).toNatClampNeg ((v_clashes (p1).toNatClampNeg) &&& (((1 : Int32) <<< (p2 &&& 31)) ^^^ (-1 : Int32)))) (p2).toNatClampNeg (((upd v_clashes (p1).toNatClampNeg ((v_clashes (p1).toNatClampNeg) &&& (((1 : Int32) <<< (p2 &&& 31)) ^^^ (-1 : Int32)))) (p2).toNatClampNeg) &&& (((1 : Int32) <<< (p1 &&& 31)) ^^^ (-1 : Int32)))) (p1).toNatClampNeg) ||| (0 : Int32))) (p2).toNatClampNeg (((upd (upd (upd v_clashes (p1).toNatClampNeg ((v_clashes (p1).toNatClampNeg) &&& (((1 : Int32) <<< (p2 &&& 31)) ^^^ (-1 : Int32)))) (p2).toNatClampNeg (((upd v_clashes (p1).toNatClampNeg ((v_clashes (p1).toNatClampNeg) &&& (((1 : Int32) <<< (p2 &&& 31)) ^^^ (-1 : Int32)))) (p2).toNatClampNeg) &&& (((1 : Int32) <<< (p1 &&& 31)) ^^^ (-1 : Int32)))) (p1).toNatClampNeg (((upd (upd v_clashes (p1).toNatClampNeg ((v_clashes (p1).toNatClampNeg) &&& (((1 : Int32) <<< (p2 &&& 31)) ^^^ (-1 : Int32)))) (p2).toNatClampNeg (((upd v_clashes (p1).toNatClampNeg ((v_clashes (p1).toNatClampNeg) &&& (((1 : Int32) <<< (p2 &&& 31)) ^^^ (-1 : Int32)))) (p2).toNatClampNeg) &&& (((1 : Int32) <<< (p1 &&& 31)) ^^^ (-1 : Int32)))) (p1).toNatClampNeg) ||| (0 : Int32))) (p2).toNatClampNeg) ||| (0 : Int32))) y4_21 hc22 ?_
            refine q_iload C dX12_clash_123 0 rfl ?_
            refine q_iconst (v := (2 : Int32)) C dX12_clash_125 (by decide) ?_
            refine q_idiv C dX12_clash_126 (by decide) ?_
            cases hF
            exact q_wreti C hr dX12_clash_127 hQ
          · have hF := ite_f hF c19
            refine q_iconst (v := (1 : Int32)) C dX12_clash_80 (by decide) ?_
            refine q_iload_n C dX12_clash_81 1 rfl rfl ?_
            refine q_ishl C dX12_clash_82 ?_
            refine q_goto (tgt := 87) C dX12_clash_83 (by decide) ?_
            refine q_ior C dX12_clash_87 ?_
            obtain ⟨hc24, hF⟩ := ite_c hF
            refine q_iast C 1 0 rfl rfl (ix_in hc24) ([(o, .inr (12, [.ref o_book, .ref o_now, .ref o_moults, .ref o_words, .ref o_clashes, .ref o_rocks, .int v_counts, .ref o_count, .int v_signs, .ref o_pad, .int v_readMany, .int v_signedAll, .int v_reason, .int v_acts, .ref o_reached, .ref o_queue, .ref o_got, .long v_waitUp, .long v_waitLow, .ref o_wins, .ref o_image, .ref o_isKept])), (o_clashes, .inl (cI, 10, .inl (upd (upd (upd (upd v_clashes (p1).toNatClampNeg ((v_clashes (p1).toNatClampNeg) &&& (((1 : Int32) <<< (p2 &&& 31)) ^^^ (-1 : Int32)))) (p2).toNatClampNeg (((upd v_clashes (p1).toNatClampNeg ((v_clashes (p1).toNatClampNeg) &&& (((1 : Int32) <<< (p2 &&& 31)) ^^^ (-1 : Int32)))) (p2).toNatClampNeg) &&& (((1 : Int32) <<< (p1 &&& 31)) ^^^ (-1 : Int32)))) (p1).toNatClampNeg (((upd (upd v_clashes (p1).toNatClampNeg ((v_clashes (p1).toNatClampNeg) &&& (((1 : Int32) <<< (p2 &&& 31)) ^^^ (-1 : Int32)))) (p2).toNatClampNeg (((upd v_clashes (p1).toNatClampNeg ((v_clashes (p1).toNatClampNeg) &&& (((1 : Int32) <<< (p2 &&& 31)) ^^^ (-1 : Int32)))) (p2).toNatClampNeg) &&& (((1 : Int32) <<< (p1 &&& 31)) ^^^ (-1 : Int32)))) (p1).toNatClampNeg) ||| (0 : Int32))) (p2).toNatClampNeg (((upd (upd (upd v_clashes (p1).toNatClampNeg ((v_clashes (p1).toNatClampNeg) &&& (((1 : Int32) <<< (p2 &&& 31)) ^^^ (-1 : Int32)))) (p2).toNatClampNeg (((upd v_clashes (p1).toNatClampNeg ((v_clashes (p1).toNatClampNeg) &&& (((1 : Int32) <<< (p2 &&& 31)) ^^^ (-1 : Int32)))) (p2).toNatClampNeg) &&& (((1 : Int32) <<< (p1 &&& 31)) ^^^ (-1 : Int32)))) (p1).toNatClampNeg (((upd (upd v_clashes (p1).toNatClampNeg ((v_clashes (p1).toNatClampNeg) &&& (((1 : Int32) <<< (p2 &&& 31)) ^^^ (-1 : Int32)))) (p2).toNatClampNeg (((upd v_clashes (p1).toNatClampNeg ((v_clashes (p1).toNatClampNeg) &&& (((1 : Int32) <<< (p2 &&& 31)) ^^^ (-1 : Int32)))) (p2).toNatClampNeg) &&& (((1 : Int32) <<< (p1 &&& 31)) ^^^ (-1 : Int32)))) (p1).toNatClampNeg) ||| (0 : Int32))) (p2).toNatClampNeg) ||| ((1 : Int32) <<< (p1 &&& 31))))))]) rfl dX12_clash_88 ?_
            refine q_iconst (v := (0 : Int32)) C dX12_clash_89 (by decide) ?_
            refine q_istore C ([(4, .int (0 : Int32)), (0, .ref o), (1, .int p1), (2, .int p2), (3, .int p3)]) dX12_clash_90 (by decide) rfl ?_
            refine q_iconst (v := (0 : Int32)) C dX12_clash_92 (by decide) ?_
            refine q_istore C ([(5, .int (0 : Int32)), (4, .int (0 : Int32)), (0, .ref o), (1, .int p1), (2, .int p2), (3, .int p3)]) dX12_clash_93 (by decide) rfl ?_
            obtain ⟨y4_25, hc26, hF⟩ := bind_c hF
            obtain ⟨n27, hc26⟩ := (ev_iff _ _ _).mp hc26
            refine q_lsel [2, 1, 0] rfl ?_
            refine L1 n27 (0 : Int32) (0 : Int32) (upd (upd (upd (upd v_clashes (p1).toNatClampNeg ((v_clashes (p1).toNatClampNeg) &&& (((1 : Int32) <<< (p2 &&& 31)) ^^^ (-1 : Int32)))) (p2).toNatClampNeg (((upd v_clashes (p1).toNatClampNeg ((v_clashes (p1).toNatClampNeg) &&& (((1 : Int32) <<< (p2 &&& 31)) ^^^ (-1 : Int32)))) (p2).toNatClampNeg) &&& (((1 : Int32) <<< (p1 &&& 31)) ^^^ (-1 : Int32)))) (p1).toNatClampNeg (((upd (upd v_clashes (p1).toNatClampNeg ((v_clashes (p1).toNatClampNeg) &&& (((1 : Int32) <<< (p2 &&& 31)) ^^^ (-1 : Int32)))) (p2).toNatClampNeg (((upd v_clashes (p1).toNatClampNeg ((v_clashes (p1).toNatClampNeg) &&& (((1 : Int32) <<< (p2 &&& 31)) ^^^ (-1 : Int32)))) (p2).toNatClampNeg) &&& (((1 : Int32) <<< (p1 &&& 31)) ^^^ (-1 : Int32)))) (p1).toNatClampNeg) ||| (0 : Int32))) (p2).toNatClampNeg (((upd (upd (upd v_clashes (p1).toNatClampNeg ((v_clashes (p1).toNatClampNeg) &&& (((1 : Int32) <<< (p2 &&& 31)) ^^^ (-1 : Int32)))) (p2).toNatClampNeg (((upd v_clashes (p1).toNatClampNeg ((v_clashes (p1).toNatClampNeg) &&& (((1 : Int32) <<< (p2 &&& 31)) ^^^ (-1 : Int32)))) (p2).toNatClampNeg) &&& (((1 : Int32) <<< (p1 &&& 31)) ^^^ (-1 : Int32)))) (p1).toNatClampNeg (((upd (upd v_clashes (p1).toNatClampNeg ((v_clashes (p1).toNatClampNeg) &&& (((1 : Int32) <<< (p2 &&& 31)) ^^^ (-1 : Int32)))) (p2).toNatClampNeg (((upd v_clashes (p1).toNatClampNeg ((v_clashes (p1).toNatClampNeg) &&& (((1 : Int32) <<< (p2 &&& 31)) ^^^ (-1 : Int32)))) (p2).toNatClampNeg) &&& (((1 : Int32) <<< (p1 &&& 31)) ^^^ (-1 : Int32)))) (p1).toNatClampNeg) ||| (0 : Int32))) (p2).toNatClampNeg) ||| ((1 : Int32) <<< (p1 &&& 31)))) y4_25 hc26 ?_
            refine q_iload C dX12_clash_123 0 rfl ?_
            refine q_iconst (v := (2 : Int32)) C dX12_clash_125 (by decide) ?_
            refine q_idiv C dX12_clash_126 (by decide) ?_
            cases hF
            exact q_wreti C hr dX12_clash_127 hQ
        · have hF := ite_f hF c16
          refine q_iconst (v := (1 : Int32)) C dX12_clash_60 (by decide) ?_
          refine q_iload_n C dX12_clash_61 2 rfl rfl ?_
          refine q_ishl C dX12_clash_62 ?_
          refine q_goto (tgt := 67) C dX12_clash_63 (by decide) ?_
          refine q_ior C dX12_clash_67 ?_
          obtain ⟨hc28, hF⟩ := ite_c hF
          refine q_iast C 1 0 rfl rfl (ix_in hc28) ([(o, .inr (12, [.ref o_book, .ref o_now, .ref o_moults, .ref o_words, .ref o_clashes, .ref o_rocks, .int v_counts, .ref o_count, .int v_signs, .ref o_pad, .int v_readMany, .int v_signedAll, .int v_reason, .int v_acts, .ref o_reached, .ref o_queue, .ref o_got, .long v_waitUp, .long v_waitLow, .ref o_wins, .ref o_image, .ref o_isKept])), (o_clashes, .inl (cI, 10, .inl (upd (upd (upd v_clashes (p1).toNatClampNeg ((v_clashes (p1).toNatClampNeg) &&& (((1 : Int32) <<< (p2 &&& 31)) ^^^ (-1 : Int32)))) (p2).toNatClampNeg (((upd v_clashes (p1).toNatClampNeg ((v_clashes (p1).toNatClampNeg) &&& (((1 : Int32) <<< (p2 &&& 31)) ^^^ (-1 : Int32)))) (p2).toNatClampNeg) &&& (((1 : Int32) <<< (p1 &&& 31)) ^^^ (-1 : Int32)))) (p1).toNatClampNeg (((upd (upd v_clashes (p1).toNatClampNeg ((v_clashes (p1).toNatClampNeg) &&& (((1 : Int32) <<< (p2 &&& 31)) ^^^ (-1 : Int32)))) (p2).toNatClampNeg (((upd v_clashes (p1).toNatClampNeg ((v_clashes (p1).toNatClampNeg) &&& (((1 : Int32) <<< (p2 &&& 31)) ^^^ (-1 : Int32)))) (p2).toNatClampNeg) &&& (((1 : Int32) <<< (p1 &&& 31)) ^^^ (-1 : Int32)))) (p1).toNatClampNeg) ||| ((1 : Int32) <<< (p2 &&& 31))))))]) rfl dX12_clash_68 ?_
          refine q_aload_n C dX12_clash_69 0 rfl rfl ?_
          refine q_get (C0 := RX12) (T := TX12) (N := 22) (k0 := 4) C lk1 0 rfl rfl (by decide) lk0 rfl (v := .ref o_clashes) rfl dX12_clash_70 ?_
          refine q_iload_n C dX12_clash_73 2 rfl rfl ?_
          refine q_dup2 C dX12_clash_74 rfl rfl ?_
          obtain ⟨hc29, hF⟩ := ite_c hF
          refine q_iald C 1 0 rfl rfl (ix_in hc29) dX12_clash_75 ?_
          refine q_iload_n C dX12_clash_76 3 rfl rfl ?_
          refine q_if_eq (tgt := 86) C dX12_clash_77 (by decide) (fun c30 => ?_) (fun c30 => ?_)
          · have hF := ite_t hF c30
            refine q_iconst (v := (0 : Int32)) C dX12_clash_86 (by decide) ?_
            refine q_ior C dX12_clash_87 ?_
            obtain ⟨hc31, hF⟩ := ite_c hF
            refine q_iast C 1 0 rfl rfl (ix_in hc31) ([(o, .inr (12, [.ref o_book, .ref o_now, .ref o_moults, .ref o_words, .ref o_clashes, .ref o_rocks, .int v_counts, .ref o_count, .int v_signs, .ref o_pad, .int v_readMany, .int v_signedAll, .int v_reason, .int v_acts, .ref o_reached, .ref o_queue, .ref o_got, .long v_waitUp, .long v_waitLow, .ref o_wins, .ref o_image, .ref o_isKept])), (o_clashes, .inl (cI, 10, .inl (upd (upd (upd (upd v_clashes (p1).toNatClampNeg ((v_clashes (p1).toNatClampNeg) &&& (((1 : Int32) <<< (p2 &&& 31)) ^^^ (-1 : Int32)))) (p2).toNatClampNeg (((upd v_clashes (p1).toNatClampNeg ((v_clashes (p1).toNatClampNeg) &&& (((1 : Int32) <<< (p2 &&& 31)) ^^^ (-1 : Int32)))) (p2).toNatClampNeg) &&& (((1 : Int32) <<< (p1 &&& 31)) ^^^ (-1 : Int32)))) (p1).toNatClampNeg (((upd (upd v_clashes (p1).toNatClampNeg ((v_clashes (p1).toNatClampNeg) &&& (((1 : Int32) <<< (p2 &&& 31)) ^^^ (-1 : Int32)))) (p2).toNatClampNeg (((upd v_clashes (p1).toNatClampNeg ((v_clashes (p1).toNatClampNeg) &&& (((1 : Int32) <<< (p2 &&& 31)) ^^^ (-1 : Int32)))) (p2).toNatClampNeg) &&& (((1 : Int32) <<< (p1 &&& 31)) ^^^ (-1 : Int32)))) (p1).toNatClampNeg) ||| ((1 : Int32) <<< (p2 &&& 31)))) (p2).toNatClampNeg (((upd (upd (upd v_clashes (p1).toNatClampNeg ((v_clashes (p1).toNatClampNeg) &&& (((1 : Int32) <<< (p2 &&& 31)) ^^^ (-1 : Int32)))) (p2).toNatClampNeg (((upd v_clashes (p1).toNatClampNeg ((v_clashes (p1).toNatClampNeg) &&& (((1 : Int32) <<< (p2 &&& 31)) ^^^ (-1 : Int32)))) (p2).toNatClampNeg) &&& (((1 : Int32) <<< (p1 &&& 31)) ^^^ (-1 : Int32)))) (p1).toNatClampNeg (((upd (upd v_clashes (p1).toNatClampNeg ((v_clashes (p1).toNatClampNeg) &&& (((1 : Int32) <<< (p2 &&& 31)) ^^^ (-1 : Int32)))) (p2).toNatClampNeg (((upd v_clashes (p1).toNatClampNeg ((v_clashes (p1).toNatClampNeg) &&& (((1 : Int32) <<< (p2 &&& 31)) ^^^ (-1 : Int32)))) (p2).toNatClampNeg) &&& (((1 : Int32) <<< (p1 &&& 31)) ^^^ (-1 : Int32)))) (p1).toNatClampNeg) ||| ((1 : Int32) <<< (p2 &&& 31)))) (p2).toNatClampNeg) ||| (0 : Int32)))))]) rfl dX12_clash_88 ?_
            refine q_iconst (v := (0 : Int32)) C dX12_clash_89 (by decide) ?_
            refine q_istore C ([(4, .int (0 : Int32)), (0, .ref o), (1, .int p1), (2, .int p2), (3, .int p3)]) dX12_clash_90 (by decide) rfl ?_
            refine q_iconst (v := (0 : Int32)) C dX12_clash_92 (by decide) ?_
            refine q_istore C ([(5, .int (0 : Int32)), (4, .int (0 : Int32)), (0, .ref o), (1, .int p1), (2, .int p2), (3, .int p3)]) dX12_clash_93 (by decide) rfl ?_
            obtain ⟨y4_32, hc33, hF⟩ := bind_c hF
            obtain ⟨n34, hc33⟩ := (ev_iff _ _ _).mp hc33
            refine q_lsel [2, 1, 0] rfl ?_
            refine L1 n34 (0 : Int32) (0 : Int32) (upd (upd (upd (upd v_clashes (p1).toNatClampNeg ((v_clashes (p1).toNatClampNeg) &&& (((1 : Int32) <<< (p2 &&& 31)) ^^^ (-1 : Int32)))) (p2).toNatClampNeg (((upd v_clashes (p1).toNatClampNeg ((v_clashes (p1).toNatClampNeg) &&& (((1 : Int32) <<< (p2 &&& 31)) ^^^ (-1 : Int32)))) (p2).toNatClampNeg) &&& (((1 : Int32) <<< (p1 &&& 31)) ^^^ (-1 : Int32)))) (p1).toNatClampNeg (((upd (upd v_clashes (p1).toNatClampNeg ((v_clashes (p1).toNatClampNeg) &&& (((1 : Int32) <<< (p2 &&& 31)) ^^^ (-1 : Int32)))) (p2).toNatClampNeg (((upd v_clashes (p1).toNatClampNeg ((v_clashes (p1).toNatClampNeg) &&& (((1 : Int32) <<< (p2 &&& 31)) ^^^ (-1 : Int32)))) (p2).toNatClampNeg) &&& (((1 : Int32) <<< (p1 &&& 31)) ^^^ (-1 : Int32)))) (p1).toNatClampNeg) ||| ((1 : Int32) <<< (p2 &&& 31)))) (p2).toNatClampNeg (((upd (upd (upd v_clashes (p1).toNatClampNeg ((v_clashes (p1).toNatClampNeg) &&& (((1 : Int32) <<< (p2 &&& 31)) ^^^ (-1 : Int32)))) (p2).toNatClampNeg (((upd v_clashes (p1).toNatClampNeg ((v_clashes (p1).toNatClampNeg) &&& (((1 : Int32) <<< (p2 &&& 31)) ^^^ (-1 : Int32)))) (p2).toNatClampNeg) &&& (((1 : Int32) <<< (p1 &&& 31)) ^^^ (-1 : Int32)))) (p1).toNatClampNeg (((upd (upd v_clashes (p1).toNatClampNeg ((v_clashes (p1).toNatClampNeg) &&& (((1 : Int32) <<< (p2 &&& 31)) ^^^ (-1 : Int32)))) (p2).toNatClampNeg (((upd v_clashes (p1).toNatClampNeg ((v_clashes (p1).toNatClampNeg) &&& (((1 : Int32) <<< (p2 &&& 31)) ^^^ (-1 : Int32)))) (p2).toNatClampNeg) &&& (((1 : Int32) <<< (p1 &&& 31)) ^^^ (-1 : Int32)))) (p1).toNatClampNeg) ||| ((1 : Int32) <<< (p2 &&& 31)))) (p2).toNatClampNeg) ||| (0 : Int32))) y4_32 hc33 ?_
            refine q_iload C dX12_clash_123 0 rfl ?_
            refine q_iconst (v := (2 : Int32)) C dX12_clash_125 (by decide) ?_
            refine q_idiv C dX12_clash_126 (by decide) ?_
            cases hF
            exact q_wreti C hr dX12_clash_127 hQ
          · have hF := ite_f hF c30
            refine q_iconst (v := (1 : Int32)) C dX12_clash_80 (by decide) ?_
            refine q_iload_n C dX12_clash_81 1 rfl rfl ?_
            refine q_ishl C dX12_clash_82 ?_
            refine q_goto (tgt := 87) C dX12_clash_83 (by decide) ?_
            refine q_ior C dX12_clash_87 ?_
            obtain ⟨hc35, hF⟩ := ite_c hF
            refine q_iast C 1 0 rfl rfl (ix_in hc35) ([(o, .inr (12, [.ref o_book, .ref o_now, .ref o_moults, .ref o_words, .ref o_clashes, .ref o_rocks, .int v_counts, .ref o_count, .int v_signs, .ref o_pad, .int v_readMany, .int v_signedAll, .int v_reason, .int v_acts, .ref o_reached, .ref o_queue, .ref o_got, .long v_waitUp, .long v_waitLow, .ref o_wins, .ref o_image, .ref o_isKept])), (o_clashes, .inl (cI, 10, .inl (upd (upd (upd (upd v_clashes (p1).toNatClampNeg ((v_clashes (p1).toNatClampNeg) &&& (((1 : Int32) <<< (p2 &&& 31)) ^^^ (-1 : Int32)))) (p2).toNatClampNeg (((upd v_clashes (p1).toNatClampNeg ((v_clashes (p1).toNatClampNeg) &&& (((1 : Int32) <<< (p2 &&& 31)) ^^^ (-1 : Int32)))) (p2).toNatClampNeg) &&& (((1 : Int32) <<< (p1 &&& 31)) ^^^ (-1 : Int32)))) (p1).toNatClampNeg (((upd (upd v_clashes (p1).toNatClampNeg ((v_clashes (p1).toNatClampNeg) &&& (((1 : Int32) <<< (p2 &&& 31)) ^^^ (-1 : Int32)))) (p2).toNatClampNeg (((upd v_clashes (p1).toNatClampNeg ((v_clashes (p1).toNatClampNeg) &&& (((1 : Int32) <<< (p2 &&& 31)) ^^^ (-1 : Int32)))) (p2).toNatClampNeg) &&& (((1 : Int32) <<< (p1 &&& 31)) ^^^ (-1 : Int32)))) (p1).toNatClampNeg) ||| ((1 : Int32) <<< (p2 &&& 31)))) (p2).toNatClampNeg (((upd (upd (upd v_clashes (p1).toNatClampNeg ((v_clashes (p1).toNatClampNeg) &&& (((1 : Int32) <<< (p2 &&& 31)) ^^^ (-1 : Int32)))) (p2).toNatClampNeg (((upd v_clashes (p1).toNatClampNeg ((v_clashes (p1).toNatClampNeg) &&& (((1 : Int32) <<< (p2 &&& 31)) ^^^ (-1 : Int32)))) (p2).toNatClampNeg) &&& (((1 : Int32) <<< (p1 &&& 31)) ^^^ (-1 : Int32)))) (p1).toNatClampNeg (((upd (upd v_clashes (p1).toNatClampNeg ((v_clashes (p1).toNatClampNeg) &&& (((1 : Int32) <<< (p2 &&& 31)) ^^^ (-1 : Int32)))) (p2).toNatClampNeg (((upd v_clashes (p1).toNatClampNeg ((v_clashes (p1).toNatClampNeg) &&& (((1 : Int32) <<< (p2 &&& 31)) ^^^ (-1 : Int32)))) (p2).toNatClampNeg) &&& (((1 : Int32) <<< (p1 &&& 31)) ^^^ (-1 : Int32)))) (p1).toNatClampNeg) ||| ((1 : Int32) <<< (p2 &&& 31)))) (p2).toNatClampNeg) ||| ((1 : Int32) <<< (p1 &&& 31))))))]) rfl dX12_clash_88 ?_
            refine q_iconst (v := (0 : Int32)) C dX12_clash_89 (by decide) ?_
            refine q_istore C ([(4, .int (0 : Int32)), (0, .ref o), (1, .int p1), (2, .int p2), (3, .int p3)]) dX12_clash_90 (by decide) rfl ?_
            refine q_iconst (v := (0 : Int32)) C dX12_clash_92 (by decide) ?_
            refine q_istore C ([(5, .int (0 : Int32)), (4, .int (0 : Int32)), (0, .ref o), (1, .int p1), (2, .int p2), (3, .int p3)]) dX12_clash_93 (by decide) rfl ?_
            obtain ⟨y4_36, hc37, hF⟩ := bind_c hF
            obtain ⟨n38, hc37⟩ := (ev_iff _ _ _).mp hc37
            refine q_lsel [2, 1, 0] rfl ?_
            refine L1 n38 (0 : Int32) (0 : Int32) (upd (upd (upd (upd v_clashes (p1).toNatClampNeg ((v_clashes (p1).toNatClampNeg) &&& (((1 : Int32) <<< (p2 &&& 31)) ^^^ (-1 : Int32)))) (p2).toNatClampNeg (((upd v_clashes (p1).toNatClampNeg ((v_clashes (p1).toNatClampNeg) &&& (((1 : Int32) <<< (p2 &&& 31)) ^^^ (-1 : Int32)))) (p2).toNatClampNeg) &&& (((1 : Int32) <<< (p1 &&& 31)) ^^^ (-1 : Int32)))) (p1).toNatClampNeg (((upd (upd v_clashes (p1).toNatClampNeg ((v_clashes (p1).toNatClampNeg) &&& (((1 : Int32) <<< (p2 &&& 31)) ^^^ (-1 : Int32)))) (p2).toNatClampNeg (((upd v_clashes (p1).toNatClampNeg ((v_clashes (p1).toNatClampNeg) &&& (((1 : Int32) <<< (p2 &&& 31)) ^^^ (-1 : Int32)))) (p2).toNatClampNeg) &&& (((1 : Int32) <<< (p1 &&& 31)) ^^^ (-1 : Int32)))) (p1).toNatClampNeg) ||| ((1 : Int32) <<< (p2 &&& 31)))) (p2).toNatClampNeg (((upd (upd (upd v_clashes (p1).toNatClampNeg ((v_clashes (p1).toNatClampNeg) &&& (((1 : Int32) <<< (p2 &&& 31)) ^^^ (-1 : Int32)))) (p2).toNatClampNeg (((upd v_clashes (p1).toNatClampNeg ((v_clashes (p1).toNatClampNeg) &&& (((1 : Int32) <<< (p2 &&& 31)) ^^^ (-1 : Int32)))) (p2).toNatClampNeg) &&& (((1 : Int32) <<< (p1 &&& 31)) ^^^ (-1 : Int32)))) (p1).toNatClampNeg (((upd (upd v_clashes (p1).toNatClampNeg ((v_clashes (p1).toNatClampNeg) &&& (((1 : Int32) <<< (p2 &&& 31)) ^^^ (-1 : Int32)))) (p2).toNatClampNeg (((upd v_clashes (p1).toNatClampNeg ((v_clashes (p1).toNatClampNeg) &&& (((1 : Int32) <<< (p2 &&& 31)) ^^^ (-1 : Int32)))) (p2).toNatClampNeg) &&& (((1 : Int32) <<< (p1 &&& 31)) ^^^ (-1 : Int32)))) (p1).toNatClampNeg) ||| ((1 : Int32) <<< (p2 &&& 31)))) (p2).toNatClampNeg) ||| ((1 : Int32) <<< (p1 &&& 31)))) y4_36 hc37 ?_
            refine q_iload C dX12_clash_123 0 rfl ?_
            refine q_iconst (v := (2 : Int32)) C dX12_clash_125 (by decide) ?_
            refine q_idiv C dX12_clash_126 (by decide) ?_
            cases hF
            exact q_wreti C hr dX12_clash_127 hQ
      · have hF := ite_t hF c10
        refine q_iconst (v := (-1 : Int32)) C dX12_clash_19 (by decide) ?_
        cases hF
        exact q_wreti C hr dX12_clash_20 hQ
set_option maxRecDepth 100000 in
set_option maxHeartbeats 4000000 in
theorem c_X12_rock (l : Launch) (dC : Nat → ClassId) (dI : Nat → Nat → Nat) (cI cZ cQ : ClassId) (o o_rocks o_book o_now o_moults o_words o_clashes o_count o_pad o_reached o_queue o_got o_wins o_image o_isKept : Nat) (v_rocks : Nat → Int32) (v_counts : Int32) (v_signs : Int32) (v_readMany : Int32) (v_signedAll : Int32) (v_reason : Int32) (v_acts : Int32) (v_waitUp : Int64) (v_waitLow : Int64) (p1 : Int32) (p2 : Int32) (R : Int32) (w_rocks : Nat → Int32) (hF : f_Model_rock v_rocks p1 p2 = some (R, w_rocks)) (sz : Nat) : Met l yX12_rock wsX12_rock ({ frames := 1, cells := 0, slots := 0, locals := 22 } : Room) (qPc ([.ref o, .int p1, .int p2]) (dC, dI) (qT cI cZ cQ) ([(o, .inr (12, [.ref o_book, .ref o_now, .ref o_moults, .ref o_words, .ref o_clashes, .ref o_rocks, .int v_counts, .ref o_count, .int v_signs, .ref o_pad, .int v_readMany, .int v_signedAll, .int v_reason, .int v_acts, .ref o_reached, .ref o_queue, .ref o_got, .long v_waitUp, .long v_waitLow, .ref o_wins, .ref o_image, .ref o_isKept])), (o_rocks, .inl (cI, 6, .inl v_rocks))]) sz) (qWi R (dC, dI) ([(o, .inr (12, [.ref o_book, .ref o_now, .ref o_moults, .ref o_words, .ref o_clashes, .ref o_rocks, .int v_counts, .ref o_count, .int v_signs, .ref o_pad, .int v_readMany, .int v_signedAll, .int v_reason, .int v_acts, .ref o_reached, .ref o_queue, .ref o_got, .long v_waitUp, .long v_waitLow, .ref o_wins, .ref o_image, .ref o_isKept])), (o_rocks, .inl (cI, 6, .inl w_rocks))]) (va_A ([(o, .inr (12, [.ref o_book, .ref o_now, .ref o_moults, .ref o_words, .ref o_clashes, .ref o_rocks, .int v_counts, .ref o_count, .int v_signs, .ref o_pad, .int v_readMany, .int v_signedAll, .int v_reason, .int v_acts, .ref o_reached, .ref o_queue, .ref o_got, .long v_waitUp, .long v_waitLow, .ref o_wins, .ref o_image, .ref o_isKept])), (o_rocks, .inl (cI, 6, .inl v_rocks))]) sz)) 0 0 (va_A ([(o, .inr (12, [.ref o_book, .ref o_now, .ref o_moults, .ref o_words, .ref o_clashes, .ref o_rocks, .int v_counts, .ref o_count, .int v_signs, .ref o_pad, .int v_readMany, .int v_signedAll, .int v_reason, .int v_acts, .ref o_reached, .ref o_queue, .ref o_got, .long v_waitUp, .long v_waitLow, .ref o_wins, .ref o_image, .ref o_isKept])), (o_rocks, .inl (cI, 6, .inl v_rocks))]) sz) := by
  refine q_met_w (Qc := fun A => qWi R (dC, dI) ([(o, .inr (12, [.ref o_book, .ref o_now, .ref o_moults, .ref o_words, .ref o_clashes, .ref o_rocks, .int v_counts, .ref o_count, .int v_signs, .ref o_pad, .int v_readMany, .int v_signedAll, .int v_reason, .int v_acts, .ref o_reached, .ref o_queue, .ref o_got, .long v_waitUp, .long v_waitLow, .ref o_wins, .ref o_image, .ref o_isKept])), (o_rocks, .inl (cI, 6, .inl w_rocks))]) A) (cc := cX12_rock) (own := RX12) (maxL := 4) (ret := (some .int)) (lv0 := [(0, .ref o), (1, .int p1), (2, .int p2)]) (by decide) rfl rfl rfl (Nat.le_of_ble_eq_true rfl) ?_
  intro p e s m args below meth c A hA C hr hnm Q hQ
  have lk0 : Cond.fieldLink RX12 25 "SealStraitModel" "rocks" "[I" ∈ wsX12_rock := by decide +kernel
  have lk1 : ∀ w ∈ u_ws RX12 TX12 22, w ∈ wsX12_rock := fun w h => List.mem_cons_of_mem _ (List.mem_append_right _ h)
  unfold f_Model_rock at hF
  refine q_iload_n C dX12_rock_0 1 rfl rfl ?_
  refine q_iconst (v := (0 : Int32)) C dX12_rock_1 (by decide) ?_
  refine q_iconst (v := (5 : Int32)) C dX12_rock_2 (by decide) ?_
  refine q_roz (q_runS (As := [.int p1, .int (0 : Int32), .int (5 : Int32)]) (rest := []) C (fun sz => c_X12_in l dC dI cI cZ cQ p1 (0 : Int32) (5 : Int32) (f_Model_in p1 (0 : Int32) (5 : Int32)) rfl sz) (va_cwS 3 C.2.2.2.2.1 gX12_rock_X12_in rfl rfl rfl (by decide +kernel) ⟨Nat.le_of_ble_eq_true rfl, Nat.le_of_ble_eq_true rfl⟩) [] rfl rfl rfl rfl (Nat.le_of_ble_eq_true rfl) dX12_rock_3 ⟨Nat.zero_le _, Nat.zero_le _⟩) (fun hz1 => ?_)
  refine q_if_ne (tgt := 11) C dX12_rock_6 (by decide) (fun c2 => ?_) (fun c2 => ?_)
  · have hF := ite_f hF c2
    refine q_iload_n C dX12_rock_11 2 rfl rfl ?_
    refine q_iconst (v := (0 : Int32)) C dX12_rock_12 (by decide) ?_
    refine q_bipush (v := (63 : Int32)) C dX12_rock_13 (by decide) ?_
    refine q_roz (q_runS (As := [.int p2, .int (0 : Int32), .int (63 : Int32)]) (rest := []) C (fun sz => c_X12_in l dC dI cI cZ cQ p2 (0 : Int32) (63 : Int32) (f_Model_in p2 (0 : Int32) (63 : Int32)) rfl sz) (va_cwS 3 C.2.2.2.2.1 gX12_rock_X12_in rfl rfl rfl (by decide +kernel) ⟨Nat.le_of_ble_eq_true rfl, Nat.le_of_ble_eq_true rfl⟩) [] rfl rfl rfl rfl (Nat.le_of_ble_eq_true rfl) dX12_rock_15 ⟨Nat.zero_le _, Nat.zero_le _⟩) (fun hz3 => ?_)
    refine q_if_ne (tgt := 24) C dX12_rock_18 (by decide) (fun c4 => ?_) (fun c4 => ?_)
    · have hF := ite_f hF c4
      refine q_aload_n C dX12_rock_24 0 rfl rfl ?_
      refine q_get (C0 := RX12) (T := TX12) (N := 22) (k0 := 5) C lk1 0 rfl rfl (by decide) lk0 rfl (v := .ref o_rocks) rfl dX12_rock_25 ?_
      refine q_iload_n C dX12_rock_28 1 rfl rfl ?_
      obtain ⟨hc5, hF⟩ := ite_c hF
      refine q_iald C 1 0 rfl rfl (ix_in hc5) dX12_rock_29 ?_
      refine q_istore_n C ([(3, .int (v_rocks (p1).toNatClampNeg)), (0, .ref o), (1, .int p1), (2, .int p2)]) dX12_rock_30 rfl (by decide) rfl ?_
      refine q_aload_n C dX12_rock_31 1 rfl rfl ?_
      refine q_get (C0 := RX12) (T := TX12) (N := 22) (k0 := 5) C lk1 0 rfl rfl (by decide) lk0 rfl (v := .ref o_rocks) rfl dX12_rock_32 ?_
      refine q_iload_n C dX12_rock_35 2 rfl rfl ?_
      refine q_iload_n C dX12_rock_36 3 rfl rfl ?_
      obtain ⟨hc6, hF⟩ := ite_c hF
      refine q_iast C 1 0 rfl rfl (ix_in hc6) ([(o, .inr (12, [.ref o_book, .ref o_now, .ref o_moults, .ref o_words, .ref o_clashes, .ref o_rocks, .int v_counts, .ref o_count, .int v_signs, .ref o_pad, .int v_readMany, .int v_signedAll, .int v_reason, .int v_acts, .ref o_reached, .ref o_queue, .ref o_got, .long v_waitUp, .long v_waitLow, .ref o_wins, .ref o_image, .ref o_isKept])), (o_rocks, .inl (cI, 6, .inl (upd v_rocks (p1).toNatClampNeg p2)))]) rfl dX12_rock_37 ?_
      refine q_iload_n C dX12_rock_38 0 rfl rfl ?_
      cases hF
      exact q_wreti C hr dX12_rock_39 hQ
    · have hF := ite_t hF c4
      refine q_bipush (v := (-2 : Int32)) C dX12_rock_21 (by decide) ?_
      cases hF
      exact q_wreti C hr dX12_rock_23 hQ
  · have hF := ite_t hF c2
    refine q_iconst (v := (-1 : Int32)) C dX12_rock_9 (by decide) ?_
    cases hF
    exact q_wreti C hr dX12_rock_10 hQ
set_option maxRecDepth 100000 in
set_option maxHeartbeats 4000000 in
theorem c_X12_say (l : Launch) (dC : Nat → ClassId) (dI : Nat → Nat → Nat) (cI cZ cQ : ClassId) (o o_pad o_book o_now o_moults o_words o_clashes o_rocks o_count o_reached o_queue o_got o_wins o_image o_isKept : Nat) (v_signs : Int32) (v_pad : Nat → Int32) (v_counts : Int32) (v_readMany : Int32) (v_signedAll : Int32) (v_reason : Int32) (v_acts : Int32) (v_waitUp : Int64) (v_waitLow : Int64) (p1 : Int32) (R : Int32) (w_signs : Int32) (w_pad : Nat → Int32) (hF : f_Model_say v_signs v_pad p1 = some (R, w_signs, w_pad)) (sz : Nat) : Met l yX12_say wsX12_say ({ frames := 1, cells := 0, slots := 0, locals := 22 } : Room) (qPc ([.ref o, .int p1]) (dC, dI) (qT cI cZ cQ) ([(o, .inr (12, [.ref o_book, .ref o_now, .ref o_moults, .ref o_words, .ref o_clashes, .ref o_rocks, .int v_counts, .ref o_count, .int v_signs, .ref o_pad, .int v_readMany, .int v_signedAll, .int v_reason, .int v_acts, .ref o_reached, .ref o_queue, .ref o_got, .long v_waitUp, .long v_waitLow, .ref o_wins, .ref o_image, .ref o_isKept])), (o_pad, .inl (cI, 60, .inl v_pad))]) sz) (qWi R (dC, dI) ([(o, .inr (12, [.ref o_book, .ref o_now, .ref o_moults, .ref o_words, .ref o_clashes, .ref o_rocks, .int v_counts, .ref o_count, .int w_signs, .ref o_pad, .int v_readMany, .int v_signedAll, .int v_reason, .int v_acts, .ref o_reached, .ref o_queue, .ref o_got, .long v_waitUp, .long v_waitLow, .ref o_wins, .ref o_image, .ref o_isKept])), (o_pad, .inl (cI, 60, .inl w_pad))]) (va_A ([(o, .inr (12, [.ref o_book, .ref o_now, .ref o_moults, .ref o_words, .ref o_clashes, .ref o_rocks, .int v_counts, .ref o_count, .int v_signs, .ref o_pad, .int v_readMany, .int v_signedAll, .int v_reason, .int v_acts, .ref o_reached, .ref o_queue, .ref o_got, .long v_waitUp, .long v_waitLow, .ref o_wins, .ref o_image, .ref o_isKept])), (o_pad, .inl (cI, 60, .inl v_pad))]) sz)) 0 0 (va_A ([(o, .inr (12, [.ref o_book, .ref o_now, .ref o_moults, .ref o_words, .ref o_clashes, .ref o_rocks, .int v_counts, .ref o_count, .int v_signs, .ref o_pad, .int v_readMany, .int v_signedAll, .int v_reason, .int v_acts, .ref o_reached, .ref o_queue, .ref o_got, .long v_waitUp, .long v_waitLow, .ref o_wins, .ref o_image, .ref o_isKept])), (o_pad, .inl (cI, 60, .inl v_pad))]) sz) := by
  refine q_met_w (Qc := fun A => qWi R (dC, dI) ([(o, .inr (12, [.ref o_book, .ref o_now, .ref o_moults, .ref o_words, .ref o_clashes, .ref o_rocks, .int v_counts, .ref o_count, .int w_signs, .ref o_pad, .int v_readMany, .int v_signedAll, .int v_reason, .int v_acts, .ref o_reached, .ref o_queue, .ref o_got, .long v_waitUp, .long v_waitLow, .ref o_wins, .ref o_image, .ref o_isKept])), (o_pad, .inl (cI, 60, .inl w_pad))]) A) (cc := cX12_say) (own := RX12) (maxL := 2) (ret := (some .int)) (lv0 := [(0, .ref o), (1, .int p1)]) (by decide) rfl rfl rfl (Nat.le_of_ble_eq_true rfl) ?_
  intro p e s m args below meth c A hA C hr hnm Q hQ
  have lk0 : Cond.fieldLink RX12 69 "SealStraitModel" "signs" "I" ∈ wsX12_say := by decide +kernel
  have lk1 : ∀ w ∈ u_ws RX12 TX12 22, w ∈ wsX12_say := fun w h => List.mem_cons_of_mem _ (List.mem_append_right _ h)
  have lk2 : Cond.fieldLink RX12 31 "SealStraitModel" "pad" "[I" ∈ wsX12_say := by decide +kernel
  unfold f_Model_say at hF
  refine q_iload_n C dX12_say_0 1 rfl rfl ?_
  refine q_bipush (v := (33 : Int32)) C dX12_say_1 (by decide) ?_
  refine q_bipush (v := (126 : Int32)) C dX12_say_3 (by decide) ?_
  refine q_roz (q_runS (As := [.int p1, .int (33 : Int32), .int (126 : Int32)]) (rest := []) C (fun sz => c_X12_in l dC dI cI cZ cQ p1 (33 : Int32) (126 : Int32) (f_Model_in p1 (33 : Int32) (126 : Int32)) rfl sz) (va_cwS 3 C.2.2.2.2.1 gX12_say_X12_in rfl rfl rfl (by decide +kernel) ⟨Nat.le_of_ble_eq_true rfl, Nat.le_of_ble_eq_true rfl⟩) [] rfl rfl rfl rfl (Nat.le_of_ble_eq_true rfl) dX12_say_5 ⟨Nat.zero_le _, Nat.zero_le _⟩) (fun hz1 => ?_)
  refine q_if_ne (tgt := 14) C dX12_say_8 (by decide) (fun c2 => ?_) (fun c2 => ?_)
  · have hF := ite_f hF c2
    refine q_aload_n C dX12_say_14 0 rfl rfl ?_
    refine q_get (C0 := RX12) (T := TX12) (N := 22) (k0 := 8) C lk1 0 rfl rfl (by decide) lk0 rfl (v := .int v_signs) rfl dX12_say_15 ?_
    refine q_bipush (v := (60 : Int32)) C dX12_say_18 (by decide) ?_
    refine q_icmp_ne (tgt := 26) C dX12_say_20 (by decide) (fun c3 => ?_) (fun c3 => ?_)
    · have hF := ite_f hF c3
      refine q_aload_n C dX12_say_26 0 rfl rfl ?_
      refine q_get (C0 := RX12) (T := TX12) (N := 22) (k0 := 9) C lk1 0 rfl rfl (by decide) lk2 rfl (v := .ref o_pad) rfl dX12_say_27 ?_
      refine q_aload_n C dX12_say_30 0 rfl rfl ?_
      refine q_get (C0 := RX12) (T := TX12) (N := 22) (k0 := 8) C lk1 0 rfl rfl (by decide) lk0 rfl (v := .int v_signs) rfl dX12_say_31 ?_
      refine q_iload_n C dX12_say_34 1 rfl rfl ?_
      obtain ⟨hc4, hF⟩ := ite_c hF
      refine q_iast C 1 0 rfl rfl (ix_in hc4) ([(o, .inr (12, [.ref o_book, .ref o_now, .ref o_moults, .ref o_words, .ref o_clashes, .ref o_rocks, .int v_counts, .ref o_count, .int v_signs, .ref o_pad, .int v_readMany, .int v_signedAll, .int v_reason, .int v_acts, .ref o_reached, .ref o_queue, .ref o_got, .long v_waitUp, .long v_waitLow, .ref o_wins, .ref o_image, .ref o_isKept])), (o_pad, .inl (cI, 60, .inl (upd v_pad (v_signs).toNatClampNeg p1)))]) rfl dX12_say_35 ?_
      refine q_aload_n C dX12_say_36 0 rfl rfl ?_
      refine q_dup C dX12_say_37 rfl ?_
      refine q_get (C0 := RX12) (T := TX12) (N := 22) (k0 := 8) C lk1 0 rfl rfl (by decide) lk0 rfl (v := .int v_signs) rfl dX12_say_38 ?_
      refine q_iconst (v := (1 : Int32)) C dX12_say_41 (by decide) ?_
      refine q_iadd C dX12_say_42 ?_
      refine q_put (C0 := RX12) (T := TX12) (N := 22) (k0 := 8) C lk1 0 rfl rfl (by decide) lk0 rfl tyX12 tyX12_ok nmX12 rfl (v := .int (v_signs + (1 : Int32))) rfl rfl (Nat.le_of_ble_eq_true rfl) ([(o, .inr (12, [.ref o_book, .ref o_now, .ref o_moults, .ref o_words, .ref o_clashes, .ref o_rocks, .int v_counts, .ref o_count, .int (v_signs + (1 : Int32)), .ref o_pad, .int v_readMany, .int v_signedAll, .int v_reason, .int v_acts, .ref o_reached, .ref o_queue, .ref o_got, .long v_waitUp, .long v_waitLow, .ref o_wins, .ref o_image, .ref o_isKept])), (o_pad, .inl (cI, 60, .inl (upd v_pad (v_signs).toNatClampNeg p1)))]) rfl dX12_say_43 ?_
      refine q_aload_n C dX12_say_46 0 rfl rfl ?_
      refine q_get (C0 := RX12) (T := TX12) (N := 22) (k0 := 8) C lk1 0 rfl rfl (by decide) lk0 rfl (v := .int (v_signs + (1 : Int32))) rfl dX12_say_47 ?_
      cases hF
      exact q_wreti C hr dX12_say_50 hQ
    · have hF := ite_t hF c3
      refine q_bipush (v := (-4 : Int32)) C dX12_say_23 (by decide) ?_
      cases hF
      exact q_wreti C hr dX12_say_25 hQ
  · have hF := ite_t hF c2
    refine q_bipush (v := (-2 : Int32)) C dX12_say_11 (by decide) ?_
    cases hF
    exact q_wreti C hr dX12_say_13 hQ
set_option maxRecDepth 100000 in
set_option maxHeartbeats 4000000 in
theorem c_X12_wipe (l : Launch) (dC : Nat → ClassId) (dI : Nat → Nat → Nat) (cI cZ cQ : ClassId) (o o_book o_now o_moults o_words o_clashes o_rocks o_count o_pad o_reached o_queue o_got o_wins o_image o_isKept : Nat) (v_signs : Int32) (v_counts : Int32) (v_readMany : Int32) (v_signedAll : Int32) (v_reason : Int32) (v_acts : Int32) (v_waitUp : Int64) (v_waitLow : Int64) (R : Int32) (w_signs : Int32) (hF : f_Model_wipe v_signs = some (R, w_signs)) (sz : Nat) : Met l yX12_wipe wsX12_wipe ({ frames := 0, cells := 0, slots := 0, locals := 0 } : Room) (qPc ([.ref o]) (dC, dI) (qT cI cZ cQ) ([(o, .inr (12, [.ref o_book, .ref o_now, .ref o_moults, .ref o_words, .ref o_clashes, .ref o_rocks, .int v_counts, .ref o_count, .int v_signs, .ref o_pad, .int v_readMany, .int v_signedAll, .int v_reason, .int v_acts, .ref o_reached, .ref o_queue, .ref o_got, .long v_waitUp, .long v_waitLow, .ref o_wins, .ref o_image, .ref o_isKept]))]) sz) (qWi R (dC, dI) ([(o, .inr (12, [.ref o_book, .ref o_now, .ref o_moults, .ref o_words, .ref o_clashes, .ref o_rocks, .int v_counts, .ref o_count, .int w_signs, .ref o_pad, .int v_readMany, .int v_signedAll, .int v_reason, .int v_acts, .ref o_reached, .ref o_queue, .ref o_got, .long v_waitUp, .long v_waitLow, .ref o_wins, .ref o_image, .ref o_isKept]))]) (va_A ([(o, .inr (12, [.ref o_book, .ref o_now, .ref o_moults, .ref o_words, .ref o_clashes, .ref o_rocks, .int v_counts, .ref o_count, .int v_signs, .ref o_pad, .int v_readMany, .int v_signedAll, .int v_reason, .int v_acts, .ref o_reached, .ref o_queue, .ref o_got, .long v_waitUp, .long v_waitLow, .ref o_wins, .ref o_image, .ref o_isKept]))]) sz)) 0 0 (va_A ([(o, .inr (12, [.ref o_book, .ref o_now, .ref o_moults, .ref o_words, .ref o_clashes, .ref o_rocks, .int v_counts, .ref o_count, .int v_signs, .ref o_pad, .int v_readMany, .int v_signedAll, .int v_reason, .int v_acts, .ref o_reached, .ref o_queue, .ref o_got, .long v_waitUp, .long v_waitLow, .ref o_wins, .ref o_image, .ref o_isKept]))]) sz) := by
  refine q_met_w (Qc := fun A => qWi R (dC, dI) ([(o, .inr (12, [.ref o_book, .ref o_now, .ref o_moults, .ref o_words, .ref o_clashes, .ref o_rocks, .int v_counts, .ref o_count, .int w_signs, .ref o_pad, .int v_readMany, .int v_signedAll, .int v_reason, .int v_acts, .ref o_reached, .ref o_queue, .ref o_got, .long v_waitUp, .long v_waitLow, .ref o_wins, .ref o_image, .ref o_isKept]))]) A) (cc := cX12_wipe) (own := RX12) (maxL := 2) (ret := (some .int)) (lv0 := [(0, .ref o)]) (by decide) rfl rfl rfl (Nat.le_of_ble_eq_true rfl) ?_
  intro p e s m args below meth c A hA C hr hnm Q hQ
  have lk0 : Cond.fieldLink RX12 69 "SealStraitModel" "signs" "I" ∈ wsX12_wipe := by decide +kernel
  have lk1 : ∀ w ∈ u_ws RX12 TX12 22, w ∈ wsX12_wipe := fun w h => List.mem_cons_of_mem _ (List.mem_append_right _ h)
  unfold f_Model_wipe at hF
  refine q_aload_n C dX12_wipe_0 0 rfl rfl ?_
  refine q_get (C0 := RX12) (T := TX12) (N := 22) (k0 := 8) C lk1 0 rfl rfl (by decide) lk0 rfl (v := .int v_signs) rfl dX12_wipe_1 ?_
  refine q_istore_n C ([(1, .int v_signs), (0, .ref o)]) dX12_wipe_4 rfl (by decide) rfl ?_
  refine q_aload_n C dX12_wipe_5 1 rfl rfl ?_
  refine q_iconst (v := (0 : Int32)) C dX12_wipe_6 (by decide) ?_
  refine q_put (C0 := RX12) (T := TX12) (N := 22) (k0 := 8) C lk1 0 rfl rfl (by decide) lk0 rfl tyX12 tyX12_ok nmX12 rfl (v := .int (0 : Int32)) rfl rfl (Nat.le_of_ble_eq_true rfl) ([(o, .inr (12, [.ref o_book, .ref o_now, .ref o_moults, .ref o_words, .ref o_clashes, .ref o_rocks, .int v_counts, .ref o_count, .int (0 : Int32), .ref o_pad, .int v_readMany, .int v_signedAll, .int v_reason, .int v_acts, .ref o_reached, .ref o_queue, .ref o_got, .long v_waitUp, .long v_waitLow, .ref o_wins, .ref o_image, .ref o_isKept]))]) rfl dX12_wipe_7 ?_
  refine q_iload_n C dX12_wipe_10 0 rfl rfl ?_
  cases hF
  exact q_wreti C hr dX12_wipe_11 hQ
set_option maxRecDepth 100000 in
set_option maxHeartbeats 4000000 in
theorem c_X12_faultOf (l : Launch) (dC : Nat → ClassId) (dI : Nat → Nat → Nat) (cI cZ cQ : ClassId) (o o_pad o_book o_now o_moults o_words o_clashes o_rocks o_count o_reached o_queue o_got o_wins o_image o_isKept : Nat) (v_signs : Int32) (v_pad : Nat → Int32) (v_counts : Int32) (v_readMany : Int32) (v_signedAll : Int32) (v_reason : Int32) (v_acts : Int32) (v_waitUp : Int64) (v_waitLow : Int64) (R : Int32) (hF : f_Model_faultOf v_signs v_pad = some R) (sz : Nat) : Met l yX12_faultOf wsX12_faultOf ({ frames := 1, cells := 0, slots := 0, locals := 22 } : Room) (qPc ([.ref o]) (dC, dI) (qT cI cZ cQ) ([(o, .inr (12, [.ref o_book, .ref o_now, .ref o_moults, .ref o_words, .ref o_clashes, .ref o_rocks, .int v_counts, .ref o_count, .int v_signs, .ref o_pad, .int v_readMany, .int v_signedAll, .int v_reason, .int v_acts, .ref o_reached, .ref o_queue, .ref o_got, .long v_waitUp, .long v_waitLow, .ref o_wins, .ref o_image, .ref o_isKept])), (o_pad, .inl (cI, 60, .inl v_pad))]) sz) (qRi R) 0 0 (fun _ => False) := by
  refine q_met_r (cc := cX12_faultOf) (own := RX12) (maxL := 6) (ret := (some .int)) (lv0 := [(0, .ref o)]) (by decide) rfl rfl rfl (Nat.le_of_ble_eq_true rfl) ?_
  intro p e s m args below meth c C hr A A' Q hA0 hQ
  have lk0 : Cond.fieldLink RX12 69 "SealStraitModel" "signs" "I" ∈ wsX12_faultOf := by decide +kernel
  have lk1 : ∀ w ∈ u_ws RX12 TX12 22, w ∈ wsX12_faultOf := fun w h => List.mem_cons_of_mem _ (List.mem_append_right _ h)
  have lk2 : Cond.fieldLink RX12 31 "SealStraitModel" "pad" "[I" ∈ wsX12_faultOf := by decide +kernel
  have L1 : ∀ (n : Nat) (x1 : Int32) (x2 : Int32), evr (fun s => b_Model_faultOf_1 v_signs v_pad s.1 s.2) n (x1, x2) = some R → qG p l e ({ frames := 1, cells := 0, slots := 0, locals := 22 } : Room) s m args below meth c 6 (dC, dI) A A' Q 0 0 ([(0, .ref o), (1, .int x1), (2, .int x2)]) [] ([(o, .inr (12, [.ref o_book, .ref o_now, .ref o_moults, .ref o_words, .ref o_clashes, .ref o_rocks, .int v_counts, .ref o_count, .int v_signs, .ref o_pad, .int v_readMany, .int v_signedAll, .int v_reason, .int v_acts, .ref o_reached, .ref o_queue, .ref o_got, .long v_waitUp, .long v_waitLow, .ref o_wins, .ref o_image, .ref o_isKept])), (o_pad, .inl (cI, 60, .inl v_pad))]) 4 := by
    clear hF
    intro n
    induction n with
    | zero => intro x1 x2  hF; exact (evr_0 hF).elim
    | succ n ih =>
      intro x1 x2  hF
      obtain ⟨o9, hB, hn, hx⟩ := evr_c hF
      have hF : b_Model_faultOf_1 v_signs v_pad x1 x2 = some o9 := hB
      unfold b_Model_faultOf_1 at hF
      refine q_iload_n C dX12_faultOf_4 2 rfl rfl ?_
      refine q_aload_n C dX12_faultOf_5 0 rfl rfl ?_
      refine q_get (C0 := RX12) (T := TX12) (N := 22) (k0 := 8) C lk1 0 rfl rfl (by decide) lk0 rfl (v := .int v_signs) rfl dX12_faultOf_6 ?_
      refine q_icmp_ge (tgt := 141) C dX12_faultOf_9 (by decide) (fun c1 => ?_) (fun c1 => ?_)
      · have hF := ite_t hF c1
        refine q_iload_n C dX12_faultOf_141 1 rfl rfl ?_
        refine q_if_ne (tgt := 150) C dX12_faultOf_142 (by decide) (fun c2 => ?_) (fun c2 => ?_)
        · have hF := ite_f hF c2
          refine q_aload_n C dX12_faultOf_150 0 rfl rfl ?_
          refine q_get (C0 := RX12) (T := TX12) (N := 22) (k0 := 8) C lk1 0 rfl rfl (by decide) lk0 rfl (v := .int v_signs) rfl dX12_faultOf_151 ?_
          cases hF
          have e3 := hx _ rfl
          cases e3
          exact q_ireti C hA0 hr dX12_faultOf_154 hQ
        · have hF := ite_t hF c2
          refine q_bipush (v := (-6 : Int32)) C dX12_faultOf_145 (by decide) ?_
          refine q_goto (tgt := 154) C dX12_faultOf_147 (by decide) ?_
          cases hF
          have e4 := hx _ rfl
          cases e4
          exact q_ireti C hA0 hr dX12_faultOf_154 hQ
      · have hF := ite_f hF c1
        refine q_aload_n C dX12_faultOf_12 0 rfl rfl ?_
        refine q_get (C0 := RX12) (T := TX12) (N := 22) (k0 := 9) C lk1 0 rfl rfl (by decide) lk2 rfl (v := .ref o_pad) rfl dX12_faultOf_13 ?_
        refine q_iload_n C dX12_faultOf_16 2 rfl rfl ?_
        obtain ⟨hc5, hF⟩ := ite_c hF
        refine q_iald C 1 0 rfl rfl (ix_in hc5) dX12_faultOf_17 ?_
        refine q_istore_n C ([(3, .int (v_pad (x2).toNatClampNeg)), (0, .ref o), (1, .int x1), (2, .int x2)]) dX12_faultOf_18 rfl (by decide) rfl ?_
        refine q_iload_n C dX12_faultOf_19 0 rfl rfl ?_
        refine q_bipush (v := (65 : Int32)) C dX12_faultOf_20 (by decide) ?_
        refine q_bipush (v := (70 : Int32)) C dX12_faultOf_22 (by decide) ?_
        refine q_roz (q_runS (As := [.int (v_pad (x2).toNatClampNeg), .int (65 : Int32), .int (70 : Int32)]) (rest := []) C (fun sz => c_X12_in l dC dI cI cZ cQ (v_pad (x2).toNatClampNeg) (65 : Int32) (70 : Int32) (f_Model_in (v_pad (x2).toNatClampNeg) (65 : Int32) (70 : Int32)) rfl sz) (va_cwS 3 C.2.2.2.2.1 gX12_faultOf_X12_in rfl rfl rfl (by decide +kernel) ⟨Nat.le_of_ble_eq_true rfl, Nat.le_of_ble_eq_true rfl⟩) [] rfl rfl rfl rfl (Nat.le_of_ble_eq_true rfl) dX12_faultOf_24 ⟨Nat.zero_le _, Nat.zero_le _⟩) (fun hz6 => ?_)
        refine q_istore C ([(4, .int (f_Model_in (v_pad (x2).toNatClampNeg) (65 : Int32) (70 : Int32))), (3, .int (v_pad (x2).toNatClampNeg)), (0, .ref o), (1, .int x1), (2, .int x2)]) dX12_faultOf_27 (by decide) rfl ?_
        refine q_iload_n C dX12_faultOf_29 3 rfl rfl ?_
        refine q_if_ne (tgt := 63) C dX12_faultOf_30 (by decide) (fun c7 => ?_) (fun c7 => ?_)
        · have hF := ite_f hF c7
          refine q_iload_n C dX12_faultOf_63 3 rfl rfl ?_
          refine q_iconst (v := (1 : Int32)) C dX12_faultOf_64 (by decide) ?_
          refine q_icmp_ne (tgt := 94) C dX12_faultOf_65 (by decide) (fun c8 => ?_) (fun c8 => ?_)
          · have hF := ite_f hF c8
            refine q_iload C dX12_faultOf_94 0 rfl ?_
            refine q_istore C ([(5, .int (f_Model_in (v_pad (x2).toNatClampNeg) (65 : Int32) (70 : Int32))), (4, .int (f_Model_in (v_pad (x2).toNatClampNeg) (65 : Int32) (70 : Int32))), (3, .int (v_pad (x2).toNatClampNeg)), (0, .ref o), (1, .int x1), (2, .int x2)]) dX12_faultOf_96 (by decide) rfl ?_
            refine q_iload C dX12_faultOf_98 0 rfl ?_
            refine q_if_ne (tgt := 105) C dX12_faultOf_100 (by decide) (fun c9 => ?_) (fun c9 => ?_)
            · have hF := ite_f hF c9
              refine q_iload_n C dX12_faultOf_105 4 rfl rfl ?_
              refine q_if_ne (tgt := 118) C dX12_faultOf_106 (by decide) (fun c10 => ?_) (fun c10 => ?_)
              · have hF := ite_f hF c10
                refine q_iload_n C dX12_faultOf_118 4 rfl rfl ?_
                refine q_iconst (v := (1 : Int32)) C dX12_faultOf_119 (by decide) ?_
                refine q_icmp_ne (tgt := 133) C dX12_faultOf_120 (by decide) (fun c11 => ?_) (fun c11 => ?_)
                · have hF := ite_f hF c11
                  refine q_iconst (v := (0 : Int32)) C dX12_faultOf_133 (by decide) ?_
                  refine q_istore_n C ([(1, .int (0 : Int32)), (5, .int (f_Model_in (v_pad (x2).toNatClampNeg) (65 : Int32) (70 : Int32))), (4, .int (f_Model_in (v_pad (x2).toNatClampNeg) (65 : Int32) (70 : Int32))), (3, .int (v_pad (x2).toNatClampNeg)), (0, .ref o), (2, .int x2)]) dX12_faultOf_134 rfl (by decide) rfl ?_
                  refine q_iinc (v := (x2 + 1)) C ([(2, .int (x2 + 1)), (1, .int (0 : Int32)), (5, .int (f_Model_in (v_pad (x2).toNatClampNeg) (65 : Int32) (70 : Int32))), (4, .int (f_Model_in (v_pad (x2).toNatClampNeg) (65 : Int32) (70 : Int32))), (3, .int (v_pad (x2).toNatClampNeg)), (0, .ref o)]) dX12_faultOf_135 5 rfl rfl (by decide) rfl ?_
                  refine q_goto (tgt := 4) C dX12_faultOf_138 (by decide) ?_
                  cases hF
                  refine q_lsel [5, 1, 0] rfl ?_
                  exact ih (0 : Int32) (x2 + 1) (hn _ rfl)
                · have hF := ite_t hF c11
                  refine q_iload_n C dX12_faultOf_123 2 rfl rfl ?_
                  refine q_bipush (v := (38 : Int32)) C dX12_faultOf_124 (by decide) ?_
                  refine q_icmp_ne (tgt := 133) C dX12_faultOf_126 (by decide) (fun c12 => ?_) (fun c12 => ?_)
                  · have hF := ite_f hF c12
                    refine q_iconst (v := (0 : Int32)) C dX12_faultOf_133 (by decide) ?_
                    refine q_istore_n C ([(1, .int (0 : Int32)), (5, .int (f_Model_in (v_pad (x2).toNatClampNeg) (65 : Int32) (70 : Int32))), (4, .int (f_Model_in (v_pad (x2).toNatClampNeg) (65 : Int32) (70 : Int32))), (3, .int (v_pad (x2).toNatClampNeg)), (0, .ref o), (2, .int x2)]) dX12_faultOf_134 rfl (by decide) rfl ?_
                    refine q_iinc (v := (x2 + 1)) C ([(2, .int (x2 + 1)), (1, .int (0 : Int32)), (5, .int (f_Model_in (v_pad (x2).toNatClampNeg) (65 : Int32) (70 : Int32))), (4, .int (f_Model_in (v_pad (x2).toNatClampNeg) (65 : Int32) (70 : Int32))), (3, .int (v_pad (x2).toNatClampNeg)), (0, .ref o)]) dX12_faultOf_135 5 rfl rfl (by decide) rfl ?_
                    refine q_goto (tgt := 4) C dX12_faultOf_138 (by decide) ?_
                    cases hF
                    refine q_lsel [5, 1, 0] rfl ?_
                    exact ih (0 : Int32) (x2 + 1) (hn _ rfl)
                  · have hF := ite_t hF c12
                    refine q_iconst (v := (2 : Int32)) C dX12_faultOf_129 (by decide) ?_
                    refine q_goto (tgt := 134) C dX12_faultOf_130 (by decide) ?_
                    refine q_istore_n C ([(1, .int (2 : Int32)), (5, .int (f_Model_in (v_pad (x2).toNatClampNeg) (65 : Int32) (70 : Int32))), (4, .int (f_Model_in (v_pad (x2).toNatClampNeg) (65 : Int32) (70 : Int32))), (3, .int (v_pad (x2).toNatClampNeg)), (0, .ref o), (2, .int x2)]) dX12_faultOf_134 rfl (by decide) rfl ?_
                    refine q_iinc (v := (x2 + 1)) C ([(2, .int (x2 + 1)), (1, .int (2 : Int32)), (5, .int (f_Model_in (v_pad (x2).toNatClampNeg) (65 : Int32) (70 : Int32))), (4, .int (f_Model_in (v_pad (x2).toNatClampNeg) (65 : Int32) (70 : Int32))), (3, .int (v_pad (x2).toNatClampNeg)), (0, .ref o)]) dX12_faultOf_135 5 rfl rfl (by decide) rfl ?_
                    refine q_goto (tgt := 4) C dX12_faultOf_138 (by decide) ?_
                    cases hF
                    refine q_lsel [5, 1, 0] rfl ?_
                    exact ih (2 : Int32) (x2 + 1) (hn _ rfl)
              · have hF := ite_t hF c10
                refine q_iload C dX12_faultOf_109 1 rfl ?_
                refine q_if_eq (tgt := 118) C dX12_faultOf_111 (by decide) (fun c13 => ?_) (fun c13 => ?_)
                · have hF := ite_t hF c13
                  refine q_iload_n C dX12_faultOf_118 4 rfl rfl ?_
                  refine q_iconst (v := (1 : Int32)) C dX12_faultOf_119 (by decide) ?_
                  refine q_icmp_ne (tgt := 133) C dX12_faultOf_120 (by decide) (fun c14 => ?_) (fun c14 => ?_)
                  · have hF := ite_f hF c14
                    refine q_iconst (v := (0 : Int32)) C dX12_faultOf_133 (by decide) ?_
                    refine q_istore_n C ([(1, .int (0 : Int32)), (5, .int (f_Model_in (v_pad (x2).toNatClampNeg) (65 : Int32) (70 : Int32))), (4, .int (f_Model_in (v_pad (x2).toNatClampNeg) (65 : Int32) (70 : Int32))), (3, .int (v_pad (x2).toNatClampNeg)), (0, .ref o), (2, .int x2)]) dX12_faultOf_134 rfl (by decide) rfl ?_
                    refine q_iinc (v := (x2 + 1)) C ([(2, .int (x2 + 1)), (1, .int (0 : Int32)), (5, .int (f_Model_in (v_pad (x2).toNatClampNeg) (65 : Int32) (70 : Int32))), (4, .int (f_Model_in (v_pad (x2).toNatClampNeg) (65 : Int32) (70 : Int32))), (3, .int (v_pad (x2).toNatClampNeg)), (0, .ref o)]) dX12_faultOf_135 5 rfl rfl (by decide) rfl ?_
                    refine q_goto (tgt := 4) C dX12_faultOf_138 (by decide) ?_
                    cases hF
                    refine q_lsel [5, 1, 0] rfl ?_
                    exact ih (0 : Int32) (x2 + 1) (hn _ rfl)
                  · have hF := ite_t hF c14
                    refine q_iload_n C dX12_faultOf_123 2 rfl rfl ?_
                    refine q_bipush (v := (38 : Int32)) C dX12_faultOf_124 (by decide) ?_
                    refine q_icmp_ne (tgt := 133) C dX12_faultOf_126 (by decide) (fun c15 => ?_) (fun c15 => ?_)
                    · have hF := ite_f hF c15
                      refine q_iconst (v := (0 : Int32)) C dX12_faultOf_133 (by decide) ?_
                      refine q_istore_n C ([(1, .int (0 : Int32)), (5, .int (f_Model_in (v_pad (x2).toNatClampNeg) (65 : Int32) (70 : Int32))), (4, .int (f_Model_in (v_pad (x2).toNatClampNeg) (65 : Int32) (70 : Int32))), (3, .int (v_pad (x2).toNatClampNeg)), (0, .ref o), (2, .int x2)]) dX12_faultOf_134 rfl (by decide) rfl ?_
                      refine q_iinc (v := (x2 + 1)) C ([(2, .int (x2 + 1)), (1, .int (0 : Int32)), (5, .int (f_Model_in (v_pad (x2).toNatClampNeg) (65 : Int32) (70 : Int32))), (4, .int (f_Model_in (v_pad (x2).toNatClampNeg) (65 : Int32) (70 : Int32))), (3, .int (v_pad (x2).toNatClampNeg)), (0, .ref o)]) dX12_faultOf_135 5 rfl rfl (by decide) rfl ?_
                      refine q_goto (tgt := 4) C dX12_faultOf_138 (by decide) ?_
                      cases hF
                      refine q_lsel [5, 1, 0] rfl ?_
                      exact ih (0 : Int32) (x2 + 1) (hn _ rfl)
                    · have hF := ite_t hF c15
                      refine q_iconst (v := (2 : Int32)) C dX12_faultOf_129 (by decide) ?_
                      refine q_goto (tgt := 134) C dX12_faultOf_130 (by decide) ?_
                      refine q_istore_n C ([(1, .int (2 : Int32)), (5, .int (f_Model_in (v_pad (x2).toNatClampNeg) (65 : Int32) (70 : Int32))), (4, .int (f_Model_in (v_pad (x2).toNatClampNeg) (65 : Int32) (70 : Int32))), (3, .int (v_pad (x2).toNatClampNeg)), (0, .ref o), (2, .int x2)]) dX12_faultOf_134 rfl (by decide) rfl ?_
                      refine q_iinc (v := (x2 + 1)) C ([(2, .int (x2 + 1)), (1, .int (2 : Int32)), (5, .int (f_Model_in (v_pad (x2).toNatClampNeg) (65 : Int32) (70 : Int32))), (4, .int (f_Model_in (v_pad (x2).toNatClampNeg) (65 : Int32) (70 : Int32))), (3, .int (v_pad (x2).toNatClampNeg)), (0, .ref o)]) dX12_faultOf_135 5 rfl rfl (by decide) rfl ?_
                      refine q_goto (tgt := 4) C dX12_faultOf_138 (by decide) ?_
                      cases hF
                      refine q_lsel [5, 1, 0] rfl ?_
                      exact ih (2 : Int32) (x2 + 1) (hn _ rfl)
                · have hF := ite_f hF c13
                  refine q_iconst (v := (1 : Int32)) C dX12_faultOf_114 (by decide) ?_
                  refine q_goto (tgt := 134) C dX12_faultOf_115 (by decide) ?_
                  refine q_istore_n C ([(1, .int (1 : Int32)), (5, .int (f_Model_in (v_pad (x2).toNatClampNeg) (65 : Int32) (70 : Int32))), (4, .int (f_Model_in (v_pad (x2).toNatClampNeg) (65 : Int32) (70 : Int32))), (3, .int (v_pad (x2).toNatClampNeg)), (0, .ref o), (2, .int x2)]) dX12_faultOf_134 rfl (by decide) rfl ?_
                  refine q_iinc (v := (x2 + 1)) C ([(2, .int (x2 + 1)), (1, .int (1 : Int32)), (5, .int (f_Model_in (v_pad (x2).toNatClampNeg) (65 : Int32) (70 : Int32))), (4, .int (f_Model_in (v_pad (x2).toNatClampNeg) (65 : Int32) (70 : Int32))), (3, .int (v_pad (x2).toNatClampNeg)), (0, .ref o)]) dX12_faultOf_135 5 rfl rfl (by decide) rfl ?_
                  refine q_goto (tgt := 4) C dX12_faultOf_138 (by decide) ?_
                  cases hF
                  refine q_lsel [5, 1, 0] rfl ?_
                  exact ih (1 : Int32) (x2 + 1) (hn _ rfl)
            · have hF := ite_t hF c9
              refine q_iload_n C dX12_faultOf_103 5 rfl rfl ?_
              cases hF
              have e16 := hx _ rfl
              cases e16
              exact q_ireti C hA0 hr dX12_faultOf_104 hQ
          · have hF := ite_t hF c8
            refine q_iload_n C dX12_faultOf_68 1 rfl rfl ?_
            refine q_bipush (v := (63 : Int32)) C dX12_faultOf_69 (by decide) ?_
            refine q_icmp_eq (tgt := 86) C dX12_faultOf_71 (by decide) (fun c17 => ?_) (fun c17 => ?_)
            · have hF := ite_t hF c17
              refine q_iconst (v := (1 : Int32)) C dX12_faultOf_86 (by decide) ?_
              refine q_goto (tgt := 96) C dX12_faultOf_87 (by decide) ?_
              refine q_istore C ([(5, .int (1 : Int32)), (4, .int (f_Model_in (v_pad (x2).toNatClampNeg) (65 : Int32) (70 : Int32))), (3, .int (v_pad (x2).toNatClampNeg)), (0, .ref o), (1, .int x1), (2, .int x2)]) dX12_faultOf_96 (by decide) rfl ?_
              refine q_iload C dX12_faultOf_98 0 rfl ?_
              refine q_if_ne (tgt := 105) C dX12_faultOf_100 (by decide) (fun c18 => ?_) (fun c18 => ?_)
              · have hF := ite_f hF c18
                refine q_iload_n C dX12_faultOf_105 4 rfl rfl ?_
                refine q_if_ne (tgt := 118) C dX12_faultOf_106 (by decide) (fun c19 => ?_) (fun c19 => ?_)
                · have hF := ite_f hF c19
                  refine q_iload_n C dX12_faultOf_118 4 rfl rfl ?_
                  refine q_iconst (v := (1 : Int32)) C dX12_faultOf_119 (by decide) ?_
                  refine q_icmp_ne (tgt := 133) C dX12_faultOf_120 (by decide) (fun c20 => ?_) (fun c20 => ?_)
                  · have hF := ite_f hF c20
                    refine q_iconst (v := (0 : Int32)) C dX12_faultOf_133 (by decide) ?_
                    refine q_istore_n C ([(1, .int (0 : Int32)), (5, .int (1 : Int32)), (4, .int (f_Model_in (v_pad (x2).toNatClampNeg) (65 : Int32) (70 : Int32))), (3, .int (v_pad (x2).toNatClampNeg)), (0, .ref o), (2, .int x2)]) dX12_faultOf_134 rfl (by decide) rfl ?_
                    refine q_iinc (v := (x2 + 1)) C ([(2, .int (x2 + 1)), (1, .int (0 : Int32)), (5, .int (1 : Int32)), (4, .int (f_Model_in (v_pad (x2).toNatClampNeg) (65 : Int32) (70 : Int32))), (3, .int (v_pad (x2).toNatClampNeg)), (0, .ref o)]) dX12_faultOf_135 5 rfl rfl (by decide) rfl ?_
                    refine q_goto (tgt := 4) C dX12_faultOf_138 (by decide) ?_
                    cases hF
                    refine q_lsel [5, 1, 0] rfl ?_
                    exact ih (0 : Int32) (x2 + 1) (hn _ rfl)
                  · have hF := ite_t hF c20
                    refine q_iload_n C dX12_faultOf_123 2 rfl rfl ?_
                    refine q_bipush (v := (38 : Int32)) C dX12_faultOf_124 (by decide) ?_
                    refine q_icmp_ne (tgt := 133) C dX12_faultOf_126 (by decide) (fun c21 => ?_) (fun c21 => ?_)
                    · have hF := ite_f hF c21
                      refine q_iconst (v := (0 : Int32)) C dX12_faultOf_133 (by decide) ?_
                      refine q_istore_n C ([(1, .int (0 : Int32)), (5, .int (1 : Int32)), (4, .int (f_Model_in (v_pad (x2).toNatClampNeg) (65 : Int32) (70 : Int32))), (3, .int (v_pad (x2).toNatClampNeg)), (0, .ref o), (2, .int x2)]) dX12_faultOf_134 rfl (by decide) rfl ?_
                      refine q_iinc (v := (x2 + 1)) C ([(2, .int (x2 + 1)), (1, .int (0 : Int32)), (5, .int (1 : Int32)), (4, .int (f_Model_in (v_pad (x2).toNatClampNeg) (65 : Int32) (70 : Int32))), (3, .int (v_pad (x2).toNatClampNeg)), (0, .ref o)]) dX12_faultOf_135 5 rfl rfl (by decide) rfl ?_
                      refine q_goto (tgt := 4) C dX12_faultOf_138 (by decide) ?_
                      cases hF
                      refine q_lsel [5, 1, 0] rfl ?_
                      exact ih (0 : Int32) (x2 + 1) (hn _ rfl)
                    · have hF := ite_t hF c21
                      refine q_iconst (v := (2 : Int32)) C dX12_faultOf_129 (by decide) ?_
                      refine q_goto (tgt := 134) C dX12_faultOf_130 (by decide) ?_
                      refine q_istore_n C ([(1, .int (2 : Int32)), (5, .int (1 : Int32)), (4, .int (f_Model_in (v_pad (x2).toNatClampNeg) (65 : Int32) (70 : Int32))), (3, .int (v_pad (x2).toNatClampNeg)), (0, .ref o), (2, .int x2)]) dX12_faultOf_134 rfl (by decide) rfl ?_
                      refine q_iinc (v := (x2 + 1)) C ([(2, .int (x2 + 1)), (1, .int (2 : Int32)), (5, .int (1 : Int32)), (4, .int (f_Model_in (v_pad (x2).toNatClampNeg) (65 : Int32) (70 : Int32))), (3, .int (v_pad (x2).toNatClampNeg)), (0, .ref o)]) dX12_faultOf_135 5 rfl rfl (by decide) rfl ?_
                      refine q_goto (tgt := 4) C dX12_faultOf_138 (by decide) ?_
                      cases hF
                      refine q_lsel [5, 1, 0] rfl ?_
                      exact ih (2 : Int32) (x2 + 1) (hn _ rfl)
                · have hF := ite_t hF c19
                  refine q_iload C dX12_faultOf_109 1 rfl ?_
                  refine q_if_eq (tgt := 118) C dX12_faultOf_111 (by decide) (fun c22 => ?_) (fun c22 => ?_)
                  · have hF := ite_t hF c22
                    refine q_iload_n C dX12_faultOf_118 4 rfl rfl ?_
                    refine q_iconst (v := (1 : Int32)) C dX12_faultOf_119 (by decide) ?_
                    refine q_icmp_ne (tgt := 133) C dX12_faultOf_120 (by decide) (fun c23 => ?_) (fun c23 => ?_)
                    · have hF := ite_f hF c23
                      refine q_iconst (v := (0 : Int32)) C dX12_faultOf_133 (by decide) ?_
                      refine q_istore_n C ([(1, .int (0 : Int32)), (5, .int (1 : Int32)), (4, .int (f_Model_in (v_pad (x2).toNatClampNeg) (65 : Int32) (70 : Int32))), (3, .int (v_pad (x2).toNatClampNeg)), (0, .ref o), (2, .int x2)]) dX12_faultOf_134 rfl (by decide) rfl ?_
                      refine q_iinc (v := (x2 + 1)) C ([(2, .int (x2 + 1)), (1, .int (0 : Int32)), (5, .int (1 : Int32)), (4, .int (f_Model_in (v_pad (x2).toNatClampNeg) (65 : Int32) (70 : Int32))), (3, .int (v_pad (x2).toNatClampNeg)), (0, .ref o)]) dX12_faultOf_135 5 rfl rfl (by decide) rfl ?_
                      refine q_goto (tgt := 4) C dX12_faultOf_138 (by decide) ?_
                      cases hF
                      refine q_lsel [5, 1, 0] rfl ?_
                      exact ih (0 : Int32) (x2 + 1) (hn _ rfl)
                    · have hF := ite_t hF c23
                      refine q_iload_n C dX12_faultOf_123 2 rfl rfl ?_
                      refine q_bipush (v := (38 : Int32)) C dX12_faultOf_124 (by decide) ?_
                      refine q_icmp_ne (tgt := 133) C dX12_faultOf_126 (by decide) (fun c24 => ?_) (fun c24 => ?_)
                      · have hF := ite_f hF c24
                        refine q_iconst (v := (0 : Int32)) C dX12_faultOf_133 (by decide) ?_
                        refine q_istore_n C ([(1, .int (0 : Int32)), (5, .int (1 : Int32)), (4, .int (f_Model_in (v_pad (x2).toNatClampNeg) (65 : Int32) (70 : Int32))), (3, .int (v_pad (x2).toNatClampNeg)), (0, .ref o), (2, .int x2)]) dX12_faultOf_134 rfl (by decide) rfl ?_
                        refine q_iinc (v := (x2 + 1)) C ([(2, .int (x2 + 1)), (1, .int (0 : Int32)), (5, .int (1 : Int32)), (4, .int (f_Model_in (v_pad (x2).toNatClampNeg) (65 : Int32) (70 : Int32))), (3, .int (v_pad (x2).toNatClampNeg)), (0, .ref o)]) dX12_faultOf_135 5 rfl rfl (by decide) rfl ?_
                        refine q_goto (tgt := 4) C dX12_faultOf_138 (by decide) ?_
                        cases hF
                        refine q_lsel [5, 1, 0] rfl ?_
                        exact ih (0 : Int32) (x2 + 1) (hn _ rfl)
                      · have hF := ite_t hF c24
                        refine q_iconst (v := (2 : Int32)) C dX12_faultOf_129 (by decide) ?_
                        refine q_goto (tgt := 134) C dX12_faultOf_130 (by decide) ?_
                        refine q_istore_n C ([(1, .int (2 : Int32)), (5, .int (1 : Int32)), (4, .int (f_Model_in (v_pad (x2).toNatClampNeg) (65 : Int32) (70 : Int32))), (3, .int (v_pad (x2).toNatClampNeg)), (0, .ref o), (2, .int x2)]) dX12_faultOf_134 rfl (by decide) rfl ?_
                        refine q_iinc (v := (x2 + 1)) C ([(2, .int (x2 + 1)), (1, .int (2 : Int32)), (5, .int (1 : Int32)), (4, .int (f_Model_in (v_pad (x2).toNatClampNeg) (65 : Int32) (70 : Int32))), (3, .int (v_pad (x2).toNatClampNeg)), (0, .ref o)]) dX12_faultOf_135 5 rfl rfl (by decide) rfl ?_
                        refine q_goto (tgt := 4) C dX12_faultOf_138 (by decide) ?_
                        cases hF
                        refine q_lsel [5, 1, 0] rfl ?_
                        exact ih (2 : Int32) (x2 + 1) (hn _ rfl)
                  · have hF := ite_f hF c22
                    refine q_iconst (v := (1 : Int32)) C dX12_faultOf_114 (by decide) ?_
                    refine q_goto (tgt := 134) C dX12_faultOf_115 (by decide) ?_
                    refine q_istore_n C ([(1, .int (1 : Int32)), (5, .int (1 : Int32)), (4, .int (f_Model_in (v_pad (x2).toNatClampNeg) (65 : Int32) (70 : Int32))), (3, .int (v_pad (x2).toNatClampNeg)), (0, .ref o), (2, .int x2)]) dX12_faultOf_134 rfl (by decide) rfl ?_
                    refine q_iinc (v := (x2 + 1)) C ([(2, .int (x2 + 1)), (1, .int (1 : Int32)), (5, .int (1 : Int32)), (4, .int (f_Model_in (v_pad (x2).toNatClampNeg) (65 : Int32) (70 : Int32))), (3, .int (v_pad (x2).toNatClampNeg)), (0, .ref o)]) dX12_faultOf_135 5 rfl rfl (by decide) rfl ?_
                    refine q_goto (tgt := 4) C dX12_faultOf_138 (by decide) ?_
                    cases hF
                    refine q_lsel [5, 1, 0] rfl ?_
                    exact ih (1 : Int32) (x2 + 1) (hn _ rfl)
              · have hF := ite_t hF c18
                refine q_iload_n C dX12_faultOf_103 5 rfl rfl ?_
                cases hF
                have e25 := hx _ rfl
                cases e25
                exact q_ireti C hA0 hr dX12_faultOf_104 hQ
            · have hF := ite_f hF c17
              refine q_iload_n C dX12_faultOf_74 1 rfl rfl ?_
              refine q_bipush (v := (33 : Int32)) C dX12_faultOf_75 (by decide) ?_
              refine q_icmp_eq (tgt := 86) C dX12_faultOf_77 (by decide) (fun c26 => ?_) (fun c26 => ?_)
              · have hF := ite_t hF c26
                refine q_iconst (v := (1 : Int32)) C dX12_faultOf_86 (by decide) ?_
                refine q_goto (tgt := 96) C dX12_faultOf_87 (by decide) ?_
                refine q_istore C ([(5, .int (1 : Int32)), (4, .int (f_Model_in (v_pad (x2).toNatClampNeg) (65 : Int32) (70 : Int32))), (3, .int (v_pad (x2).toNatClampNeg)), (0, .ref o), (1, .int x1), (2, .int x2)]) dX12_faultOf_96 (by decide) rfl ?_
                refine q_iload C dX12_faultOf_98 0 rfl ?_
                refine q_if_ne (tgt := 105) C dX12_faultOf_100 (by decide) (fun c27 => ?_) (fun c27 => ?_)
                · have hF := ite_f hF c27
                  refine q_iload_n C dX12_faultOf_105 4 rfl rfl ?_
                  refine q_if_ne (tgt := 118) C dX12_faultOf_106 (by decide) (fun c28 => ?_) (fun c28 => ?_)
                  · have hF := ite_f hF c28
                    refine q_iload_n C dX12_faultOf_118 4 rfl rfl ?_
                    refine q_iconst (v := (1 : Int32)) C dX12_faultOf_119 (by decide) ?_
                    refine q_icmp_ne (tgt := 133) C dX12_faultOf_120 (by decide) (fun c29 => ?_) (fun c29 => ?_)
                    · have hF := ite_f hF c29
                      refine q_iconst (v := (0 : Int32)) C dX12_faultOf_133 (by decide) ?_
                      refine q_istore_n C ([(1, .int (0 : Int32)), (5, .int (1 : Int32)), (4, .int (f_Model_in (v_pad (x2).toNatClampNeg) (65 : Int32) (70 : Int32))), (3, .int (v_pad (x2).toNatClampNeg)), (0, .ref o), (2, .int x2)]) dX12_faultOf_134 rfl (by decide) rfl ?_
                      refine q_iinc (v := (x2 + 1)) C ([(2, .int (x2 + 1)), (1, .int (0 : Int32)), (5, .int (1 : Int32)), (4, .int (f_Model_in (v_pad (x2).toNatClampNeg) (65 : Int32) (70 : Int32))), (3, .int (v_pad (x2).toNatClampNeg)), (0, .ref o)]) dX12_faultOf_135 5 rfl rfl (by decide) rfl ?_
                      refine q_goto (tgt := 4) C dX12_faultOf_138 (by decide) ?_
                      cases hF
                      refine q_lsel [5, 1, 0] rfl ?_
                      exact ih (0 : Int32) (x2 + 1) (hn _ rfl)
                    · have hF := ite_t hF c29
                      refine q_iload_n C dX12_faultOf_123 2 rfl rfl ?_
                      refine q_bipush (v := (38 : Int32)) C dX12_faultOf_124 (by decide) ?_
                      refine q_icmp_ne (tgt := 133) C dX12_faultOf_126 (by decide) (fun c30 => ?_) (fun c30 => ?_)
                      · have hF := ite_f hF c30
                        refine q_iconst (v := (0 : Int32)) C dX12_faultOf_133 (by decide) ?_
                        refine q_istore_n C ([(1, .int (0 : Int32)), (5, .int (1 : Int32)), (4, .int (f_Model_in (v_pad (x2).toNatClampNeg) (65 : Int32) (70 : Int32))), (3, .int (v_pad (x2).toNatClampNeg)), (0, .ref o), (2, .int x2)]) dX12_faultOf_134 rfl (by decide) rfl ?_
                        refine q_iinc (v := (x2 + 1)) C ([(2, .int (x2 + 1)), (1, .int (0 : Int32)), (5, .int (1 : Int32)), (4, .int (f_Model_in (v_pad (x2).toNatClampNeg) (65 : Int32) (70 : Int32))), (3, .int (v_pad (x2).toNatClampNeg)), (0, .ref o)]) dX12_faultOf_135 5 rfl rfl (by decide) rfl ?_
                        refine q_goto (tgt := 4) C dX12_faultOf_138 (by decide) ?_
                        cases hF
                        refine q_lsel [5, 1, 0] rfl ?_
                        exact ih (0 : Int32) (x2 + 1) (hn _ rfl)
                      · have hF := ite_t hF c30
                        refine q_iconst (v := (2 : Int32)) C dX12_faultOf_129 (by decide) ?_
                        refine q_goto (tgt := 134) C dX12_faultOf_130 (by decide) ?_
                        refine q_istore_n C ([(1, .int (2 : Int32)), (5, .int (1 : Int32)), (4, .int (f_Model_in (v_pad (x2).toNatClampNeg) (65 : Int32) (70 : Int32))), (3, .int (v_pad (x2).toNatClampNeg)), (0, .ref o), (2, .int x2)]) dX12_faultOf_134 rfl (by decide) rfl ?_
                        refine q_iinc (v := (x2 + 1)) C ([(2, .int (x2 + 1)), (1, .int (2 : Int32)), (5, .int (1 : Int32)), (4, .int (f_Model_in (v_pad (x2).toNatClampNeg) (65 : Int32) (70 : Int32))), (3, .int (v_pad (x2).toNatClampNeg)), (0, .ref o)]) dX12_faultOf_135 5 rfl rfl (by decide) rfl ?_
                        refine q_goto (tgt := 4) C dX12_faultOf_138 (by decide) ?_
                        cases hF
                        refine q_lsel [5, 1, 0] rfl ?_
                        exact ih (2 : Int32) (x2 + 1) (hn _ rfl)
                  · have hF := ite_t hF c28
                    refine q_iload C dX12_faultOf_109 1 rfl ?_
                    refine q_if_eq (tgt := 118) C dX12_faultOf_111 (by decide) (fun c31 => ?_) (fun c31 => ?_)
                    · have hF := ite_t hF c31
                      refine q_iload_n C dX12_faultOf_118 4 rfl rfl ?_
                      refine q_iconst (v := (1 : Int32)) C dX12_faultOf_119 (by decide) ?_
                      refine q_icmp_ne (tgt := 133) C dX12_faultOf_120 (by decide) (fun c32 => ?_) (fun c32 => ?_)
                      · have hF := ite_f hF c32
                        refine q_iconst (v := (0 : Int32)) C dX12_faultOf_133 (by decide) ?_
                        refine q_istore_n C ([(1, .int (0 : Int32)), (5, .int (1 : Int32)), (4, .int (f_Model_in (v_pad (x2).toNatClampNeg) (65 : Int32) (70 : Int32))), (3, .int (v_pad (x2).toNatClampNeg)), (0, .ref o), (2, .int x2)]) dX12_faultOf_134 rfl (by decide) rfl ?_
                        refine q_iinc (v := (x2 + 1)) C ([(2, .int (x2 + 1)), (1, .int (0 : Int32)), (5, .int (1 : Int32)), (4, .int (f_Model_in (v_pad (x2).toNatClampNeg) (65 : Int32) (70 : Int32))), (3, .int (v_pad (x2).toNatClampNeg)), (0, .ref o)]) dX12_faultOf_135 5 rfl rfl (by decide) rfl ?_
                        refine q_goto (tgt := 4) C dX12_faultOf_138 (by decide) ?_
                        cases hF
                        refine q_lsel [5, 1, 0] rfl ?_
                        exact ih (0 : Int32) (x2 + 1) (hn _ rfl)
                      · have hF := ite_t hF c32
                        refine q_iload_n C dX12_faultOf_123 2 rfl rfl ?_
                        refine q_bipush (v := (38 : Int32)) C dX12_faultOf_124 (by decide) ?_
                        refine q_icmp_ne (tgt := 133) C dX12_faultOf_126 (by decide) (fun c33 => ?_) (fun c33 => ?_)
                        · have hF := ite_f hF c33
                          refine q_iconst (v := (0 : Int32)) C dX12_faultOf_133 (by decide) ?_
                          refine q_istore_n C ([(1, .int (0 : Int32)), (5, .int (1 : Int32)), (4, .int (f_Model_in (v_pad (x2).toNatClampNeg) (65 : Int32) (70 : Int32))), (3, .int (v_pad (x2).toNatClampNeg)), (0, .ref o), (2, .int x2)]) dX12_faultOf_134 rfl (by decide) rfl ?_
                          refine q_iinc (v := (x2 + 1)) C ([(2, .int (x2 + 1)), (1, .int (0 : Int32)), (5, .int (1 : Int32)), (4, .int (f_Model_in (v_pad (x2).toNatClampNeg) (65 : Int32) (70 : Int32))), (3, .int (v_pad (x2).toNatClampNeg)), (0, .ref o)]) dX12_faultOf_135 5 rfl rfl (by decide) rfl ?_
                          refine q_goto (tgt := 4) C dX12_faultOf_138 (by decide) ?_
                          cases hF
                          refine q_lsel [5, 1, 0] rfl ?_
                          exact ih (0 : Int32) (x2 + 1) (hn _ rfl)
                        · have hF := ite_t hF c33
                          refine q_iconst (v := (2 : Int32)) C dX12_faultOf_129 (by decide) ?_
                          refine q_goto (tgt := 134) C dX12_faultOf_130 (by decide) ?_
                          refine q_istore_n C ([(1, .int (2 : Int32)), (5, .int (1 : Int32)), (4, .int (f_Model_in (v_pad (x2).toNatClampNeg) (65 : Int32) (70 : Int32))), (3, .int (v_pad (x2).toNatClampNeg)), (0, .ref o), (2, .int x2)]) dX12_faultOf_134 rfl (by decide) rfl ?_
                          refine q_iinc (v := (x2 + 1)) C ([(2, .int (x2 + 1)), (1, .int (2 : Int32)), (5, .int (1 : Int32)), (4, .int (f_Model_in (v_pad (x2).toNatClampNeg) (65 : Int32) (70 : Int32))), (3, .int (v_pad (x2).toNatClampNeg)), (0, .ref o)]) dX12_faultOf_135 5 rfl rfl (by decide) rfl ?_
                          refine q_goto (tgt := 4) C dX12_faultOf_138 (by decide) ?_
                          cases hF
                          refine q_lsel [5, 1, 0] rfl ?_
                          exact ih (2 : Int32) (x2 + 1) (hn _ rfl)
                    · have hF := ite_f hF c31
                      refine q_iconst (v := (1 : Int32)) C dX12_faultOf_114 (by decide) ?_
                      refine q_goto (tgt := 134) C dX12_faultOf_115 (by decide) ?_
                      refine q_istore_n C ([(1, .int (1 : Int32)), (5, .int (1 : Int32)), (4, .int (f_Model_in (v_pad (x2).toNatClampNeg) (65 : Int32) (70 : Int32))), (3, .int (v_pad (x2).toNatClampNeg)), (0, .ref o), (2, .int x2)]) dX12_faultOf_134 rfl (by decide) rfl ?_
                      refine q_iinc (v := (x2 + 1)) C ([(2, .int (x2 + 1)), (1, .int (1 : Int32)), (5, .int (1 : Int32)), (4, .int (f_Model_in (v_pad (x2).toNatClampNeg) (65 : Int32) (70 : Int32))), (3, .int (v_pad (x2).toNatClampNeg)), (0, .ref o)]) dX12_faultOf_135 5 rfl rfl (by decide) rfl ?_
                      refine q_goto (tgt := 4) C dX12_faultOf_138 (by decide) ?_
                      cases hF
                      refine q_lsel [5, 1, 0] rfl ?_
                      exact ih (1 : Int32) (x2 + 1) (hn _ rfl)
                · have hF := ite_t hF c27
                  refine q_iload_n C dX12_faultOf_103 5 rfl rfl ?_
                  cases hF
                  have e34 := hx _ rfl
                  cases e34
                  exact q_ireti C hA0 hr dX12_faultOf_104 hQ
              · have hF := ite_f hF c26
                refine q_iload_n C dX12_faultOf_80 1 rfl rfl ?_
                refine q_bipush (v := (38 : Int32)) C dX12_faultOf_81 (by decide) ?_
                refine q_icmp_ne (tgt := 90) C dX12_faultOf_83 (by decide) (fun c35 => ?_) (fun c35 => ?_)
                · have hF := ite_f hF c35
                  refine q_iconst (v := (0 : Int32)) C dX12_faultOf_90 (by decide) ?_
                  refine q_goto (tgt := 96) C dX12_faultOf_91 (by decide) ?_
                  refine q_istore C ([(5, .int (0 : Int32)), (4, .int (f_Model_in (v_pad (x2).toNatClampNeg) (65 : Int32) (70 : Int32))), (3, .int (v_pad (x2).toNatClampNeg)), (0, .ref o), (1, .int x1), (2, .int x2)]) dX12_faultOf_96 (by decide) rfl ?_
                  refine q_iload C dX12_faultOf_98 0 rfl ?_
                  refine q_if_ne (tgt := 105) C dX12_faultOf_100 (by decide) (fun c36 => ?_) (fun c36 => ?_)
                  · have hF := ite_f hF c36
                    refine q_iload_n C dX12_faultOf_105 4 rfl rfl ?_
                    refine q_if_ne (tgt := 118) C dX12_faultOf_106 (by decide) (fun c37 => ?_) (fun c37 => ?_)
                    · have hF := ite_f hF c37
                      refine q_iload_n C dX12_faultOf_118 4 rfl rfl ?_
                      refine q_iconst (v := (1 : Int32)) C dX12_faultOf_119 (by decide) ?_
                      refine q_icmp_ne (tgt := 133) C dX12_faultOf_120 (by decide) (fun c38 => ?_) (fun c38 => ?_)
                      · have hF := ite_f hF c38
                        refine q_iconst (v := (0 : Int32)) C dX12_faultOf_133 (by decide) ?_
                        refine q_istore_n C ([(1, .int (0 : Int32)), (5, .int (0 : Int32)), (4, .int (f_Model_in (v_pad (x2).toNatClampNeg) (65 : Int32) (70 : Int32))), (3, .int (v_pad (x2).toNatClampNeg)), (0, .ref o), (2, .int x2)]) dX12_faultOf_134 rfl (by decide) rfl ?_
                        refine q_iinc (v := (x2 + 1)) C ([(2, .int (x2 + 1)), (1, .int (0 : Int32)), (5, .int (0 : Int32)), (4, .int (f_Model_in (v_pad (x2).toNatClampNeg) (65 : Int32) (70 : Int32))), (3, .int (v_pad (x2).toNatClampNeg)), (0, .ref o)]) dX12_faultOf_135 5 rfl rfl (by decide) rfl ?_
                        refine q_goto (tgt := 4) C dX12_faultOf_138 (by decide) ?_
                        cases hF
                        refine q_lsel [5, 1, 0] rfl ?_
                        exact ih (0 : Int32) (x2 + 1) (hn _ rfl)
                      · have hF := ite_t hF c38
                        refine q_iload_n C dX12_faultOf_123 2 rfl rfl ?_
                        refine q_bipush (v := (38 : Int32)) C dX12_faultOf_124 (by decide) ?_
                        refine q_icmp_ne (tgt := 133) C dX12_faultOf_126 (by decide) (fun c39 => ?_) (fun c39 => ?_)
                        · have hF := ite_f hF c39
                          refine q_iconst (v := (0 : Int32)) C dX12_faultOf_133 (by decide) ?_
                          refine q_istore_n C ([(1, .int (0 : Int32)), (5, .int (0 : Int32)), (4, .int (f_Model_in (v_pad (x2).toNatClampNeg) (65 : Int32) (70 : Int32))), (3, .int (v_pad (x2).toNatClampNeg)), (0, .ref o), (2, .int x2)]) dX12_faultOf_134 rfl (by decide) rfl ?_
                          refine q_iinc (v := (x2 + 1)) C ([(2, .int (x2 + 1)), (1, .int (0 : Int32)), (5, .int (0 : Int32)), (4, .int (f_Model_in (v_pad (x2).toNatClampNeg) (65 : Int32) (70 : Int32))), (3, .int (v_pad (x2).toNatClampNeg)), (0, .ref o)]) dX12_faultOf_135 5 rfl rfl (by decide) rfl ?_
                          refine q_goto (tgt := 4) C dX12_faultOf_138 (by decide) ?_
                          cases hF
                          refine q_lsel [5, 1, 0] rfl ?_
                          exact ih (0 : Int32) (x2 + 1) (hn _ rfl)
                        · have hF := ite_t hF c39
                          refine q_iconst (v := (2 : Int32)) C dX12_faultOf_129 (by decide) ?_
                          refine q_goto (tgt := 134) C dX12_faultOf_130 (by decide) ?_
                          refine q_istore_n C ([(1, .int (2 : Int32)), (5, .int (0 : Int32)), (4, .int (f_Model_in (v_pad (x2).toNatClampNeg) (65 : Int32) (70 : Int32))), (3, .int (v_pad (x2).toNatClampNeg)), (0, .ref o), (2, .int x2)]) dX12_faultOf_134 rfl (by decide) rfl ?_
                          refine q_iinc (v := (x2 + 1)) C ([(2, .int (x2 + 1)), (1, .int (2 : Int32)), (5, .int (0 : Int32)), (4, .int (f_Model_in (v_pad (x2).toNatClampNeg) (65 : Int32) (70 : Int32))), (3, .int (v_pad (x2).toNatClampNeg)), (0, .ref o)]) dX12_faultOf_135 5 rfl rfl (by decide) rfl ?_
                          refine q_goto (tgt := 4) C dX12_faultOf_138 (by decide) ?_
                          cases hF
                          refine q_lsel [5, 1, 0] rfl ?_
                          exact ih (2 : Int32) (x2 + 1) (hn _ rfl)
                    · have hF := ite_t hF c37
                      refine q_iload C dX12_faultOf_109 1 rfl ?_
                      refine q_if_eq (tgt := 118) C dX12_faultOf_111 (by decide) (fun c40 => ?_) (fun c40 => ?_)
                      · have hF := ite_t hF c40
                        refine q_iload_n C dX12_faultOf_118 4 rfl rfl ?_
                        refine q_iconst (v := (1 : Int32)) C dX12_faultOf_119 (by decide) ?_
                        refine q_icmp_ne (tgt := 133) C dX12_faultOf_120 (by decide) (fun c41 => ?_) (fun c41 => ?_)
                        · have hF := ite_f hF c41
                          refine q_iconst (v := (0 : Int32)) C dX12_faultOf_133 (by decide) ?_
                          refine q_istore_n C ([(1, .int (0 : Int32)), (5, .int (0 : Int32)), (4, .int (f_Model_in (v_pad (x2).toNatClampNeg) (65 : Int32) (70 : Int32))), (3, .int (v_pad (x2).toNatClampNeg)), (0, .ref o), (2, .int x2)]) dX12_faultOf_134 rfl (by decide) rfl ?_
                          refine q_iinc (v := (x2 + 1)) C ([(2, .int (x2 + 1)), (1, .int (0 : Int32)), (5, .int (0 : Int32)), (4, .int (f_Model_in (v_pad (x2).toNatClampNeg) (65 : Int32) (70 : Int32))), (3, .int (v_pad (x2).toNatClampNeg)), (0, .ref o)]) dX12_faultOf_135 5 rfl rfl (by decide) rfl ?_
                          refine q_goto (tgt := 4) C dX12_faultOf_138 (by decide) ?_
                          cases hF
                          refine q_lsel [5, 1, 0] rfl ?_
                          exact ih (0 : Int32) (x2 + 1) (hn _ rfl)
                        · have hF := ite_t hF c41
                          refine q_iload_n C dX12_faultOf_123 2 rfl rfl ?_
                          refine q_bipush (v := (38 : Int32)) C dX12_faultOf_124 (by decide) ?_
                          refine q_icmp_ne (tgt := 133) C dX12_faultOf_126 (by decide) (fun c42 => ?_) (fun c42 => ?_)
                          · have hF := ite_f hF c42
                            refine q_iconst (v := (0 : Int32)) C dX12_faultOf_133 (by decide) ?_
                            refine q_istore_n C ([(1, .int (0 : Int32)), (5, .int (0 : Int32)), (4, .int (f_Model_in (v_pad (x2).toNatClampNeg) (65 : Int32) (70 : Int32))), (3, .int (v_pad (x2).toNatClampNeg)), (0, .ref o), (2, .int x2)]) dX12_faultOf_134 rfl (by decide) rfl ?_
                            refine q_iinc (v := (x2 + 1)) C ([(2, .int (x2 + 1)), (1, .int (0 : Int32)), (5, .int (0 : Int32)), (4, .int (f_Model_in (v_pad (x2).toNatClampNeg) (65 : Int32) (70 : Int32))), (3, .int (v_pad (x2).toNatClampNeg)), (0, .ref o)]) dX12_faultOf_135 5 rfl rfl (by decide) rfl ?_
                            refine q_goto (tgt := 4) C dX12_faultOf_138 (by decide) ?_
                            cases hF
                            refine q_lsel [5, 1, 0] rfl ?_
                            exact ih (0 : Int32) (x2 + 1) (hn _ rfl)
                          · have hF := ite_t hF c42
                            refine q_iconst (v := (2 : Int32)) C dX12_faultOf_129 (by decide) ?_
                            refine q_goto (tgt := 134) C dX12_faultOf_130 (by decide) ?_
                            refine q_istore_n C ([(1, .int (2 : Int32)), (5, .int (0 : Int32)), (4, .int (f_Model_in (v_pad (x2).toNatClampNeg) (65 : Int32) (70 : Int32))), (3, .int (v_pad (x2).toNatClampNeg)), (0, .ref o), (2, .int x2)]) dX12_faultOf_134 rfl (by decide) rfl ?_
                            refine q_iinc (v := (x2 + 1)) C ([(2, .int (x2 + 1)), (1, .int (2 : Int32)), (5, .int (0 : Int32)), (4, .int (f_Model_in (v_pad (x2).toNatClampNeg) (65 : Int32) (70 : Int32))), (3, .int (v_pad (x2).toNatClampNeg)), (0, .ref o)]) dX12_faultOf_135 5 rfl rfl (by decide) rfl ?_
                            refine q_goto (tgt := 4) C dX12_faultOf_138 (by decide) ?_
                            cases hF
                            refine q_lsel [5, 1, 0] rfl ?_
                            exact ih (2 : Int32) (x2 + 1) (hn _ rfl)
                      · have hF := ite_f hF c40
                        refine q_iconst (v := (1 : Int32)) C dX12_faultOf_114 (by decide) ?_
                        refine q_goto (tgt := 134) C dX12_faultOf_115 (by decide) ?_
                        refine q_istore_n C ([(1, .int (1 : Int32)), (5, .int (0 : Int32)), (4, .int (f_Model_in (v_pad (x2).toNatClampNeg) (65 : Int32) (70 : Int32))), (3, .int (v_pad (x2).toNatClampNeg)), (0, .ref o), (2, .int x2)]) dX12_faultOf_134 rfl (by decide) rfl ?_
                        refine q_iinc (v := (x2 + 1)) C ([(2, .int (x2 + 1)), (1, .int (1 : Int32)), (5, .int (0 : Int32)), (4, .int (f_Model_in (v_pad (x2).toNatClampNeg) (65 : Int32) (70 : Int32))), (3, .int (v_pad (x2).toNatClampNeg)), (0, .ref o)]) dX12_faultOf_135 5 rfl rfl (by decide) rfl ?_
                        refine q_goto (tgt := 4) C dX12_faultOf_138 (by decide) ?_
                        cases hF
                        refine q_lsel [5, 1, 0] rfl ?_
                        exact ih (1 : Int32) (x2 + 1) (hn _ rfl)
                  · have hF := ite_t hF c36
                    refine q_iload_n C dX12_faultOf_103 5 rfl rfl ?_
                    cases hF
                    have e43 := hx _ rfl
                    cases e43
                    exact q_ireti C hA0 hr dX12_faultOf_104 hQ
                · have hF := ite_t hF c35
                  refine q_iconst (v := (1 : Int32)) C dX12_faultOf_86 (by decide) ?_
                  refine q_goto (tgt := 96) C dX12_faultOf_87 (by decide) ?_
                  refine q_istore C ([(5, .int (1 : Int32)), (4, .int (f_Model_in (v_pad (x2).toNatClampNeg) (65 : Int32) (70 : Int32))), (3, .int (v_pad (x2).toNatClampNeg)), (0, .ref o), (1, .int x1), (2, .int x2)]) dX12_faultOf_96 (by decide) rfl ?_
                  refine q_iload C dX12_faultOf_98 0 rfl ?_
                  refine q_if_ne (tgt := 105) C dX12_faultOf_100 (by decide) (fun c44 => ?_) (fun c44 => ?_)
                  · have hF := ite_f hF c44
                    refine q_iload_n C dX12_faultOf_105 4 rfl rfl ?_
                    refine q_if_ne (tgt := 118) C dX12_faultOf_106 (by decide) (fun c45 => ?_) (fun c45 => ?_)
                    · have hF := ite_f hF c45
                      refine q_iload_n C dX12_faultOf_118 4 rfl rfl ?_
                      refine q_iconst (v := (1 : Int32)) C dX12_faultOf_119 (by decide) ?_
                      refine q_icmp_ne (tgt := 133) C dX12_faultOf_120 (by decide) (fun c46 => ?_) (fun c46 => ?_)
                      · have hF := ite_f hF c46
                        refine q_iconst (v := (0 : Int32)) C dX12_faultOf_133 (by decide) ?_
                        refine q_istore_n C ([(1, .int (0 : Int32)), (5, .int (1 : Int32)), (4, .int (f_Model_in (v_pad (x2).toNatClampNeg) (65 : Int32) (70 : Int32))), (3, .int (v_pad (x2).toNatClampNeg)), (0, .ref o), (2, .int x2)]) dX12_faultOf_134 rfl (by decide) rfl ?_
                        refine q_iinc (v := (x2 + 1)) C ([(2, .int (x2 + 1)), (1, .int (0 : Int32)), (5, .int (1 : Int32)), (4, .int (f_Model_in (v_pad (x2).toNatClampNeg) (65 : Int32) (70 : Int32))), (3, .int (v_pad (x2).toNatClampNeg)), (0, .ref o)]) dX12_faultOf_135 5 rfl rfl (by decide) rfl ?_
                        refine q_goto (tgt := 4) C dX12_faultOf_138 (by decide) ?_
                        cases hF
                        refine q_lsel [5, 1, 0] rfl ?_
                        exact ih (0 : Int32) (x2 + 1) (hn _ rfl)
                      · have hF := ite_t hF c46
                        refine q_iload_n C dX12_faultOf_123 2 rfl rfl ?_
                        refine q_bipush (v := (38 : Int32)) C dX12_faultOf_124 (by decide) ?_
                        refine q_icmp_ne (tgt := 133) C dX12_faultOf_126 (by decide) (fun c47 => ?_) (fun c47 => ?_)
                        · have hF := ite_f hF c47
                          refine q_iconst (v := (0 : Int32)) C dX12_faultOf_133 (by decide) ?_
                          refine q_istore_n C ([(1, .int (0 : Int32)), (5, .int (1 : Int32)), (4, .int (f_Model_in (v_pad (x2).toNatClampNeg) (65 : Int32) (70 : Int32))), (3, .int (v_pad (x2).toNatClampNeg)), (0, .ref o), (2, .int x2)]) dX12_faultOf_134 rfl (by decide) rfl ?_
                          refine q_iinc (v := (x2 + 1)) C ([(2, .int (x2 + 1)), (1, .int (0 : Int32)), (5, .int (1 : Int32)), (4, .int (f_Model_in (v_pad (x2).toNatClampNeg) (65 : Int32) (70 : Int32))), (3, .int (v_pad (x2).toNatClampNeg)), (0, .ref o)]) dX12_faultOf_135 5 rfl rfl (by decide) rfl ?_
                          refine q_goto (tgt := 4) C dX12_faultOf_138 (by decide) ?_
                          cases hF
                          refine q_lsel [5, 1, 0] rfl ?_
                          exact ih (0 : Int32) (x2 + 1) (hn _ rfl)
                        · have hF := ite_t hF c47
                          refine q_iconst (v := (2 : Int32)) C dX12_faultOf_129 (by decide) ?_
                          refine q_goto (tgt := 134) C dX12_faultOf_130 (by decide) ?_
                          refine q_istore_n C ([(1, .int (2 : Int32)), (5, .int (1 : Int32)), (4, .int (f_Model_in (v_pad (x2).toNatClampNeg) (65 : Int32) (70 : Int32))), (3, .int (v_pad (x2).toNatClampNeg)), (0, .ref o), (2, .int x2)]) dX12_faultOf_134 rfl (by decide) rfl ?_
                          refine q_iinc (v := (x2 + 1)) C ([(2, .int (x2 + 1)), (1, .int (2 : Int32)), (5, .int (1 : Int32)), (4, .int (f_Model_in (v_pad (x2).toNatClampNeg) (65 : Int32) (70 : Int32))), (3, .int (v_pad (x2).toNatClampNeg)), (0, .ref o)]) dX12_faultOf_135 5 rfl rfl (by decide) rfl ?_
                          refine q_goto (tgt := 4) C dX12_faultOf_138 (by decide) ?_
                          cases hF
                          refine q_lsel [5, 1, 0] rfl ?_
                          exact ih (2 : Int32) (x2 + 1) (hn _ rfl)
                    · have hF := ite_t hF c45
                      refine q_iload C dX12_faultOf_109 1 rfl ?_
                      refine q_if_eq (tgt := 118) C dX12_faultOf_111 (by decide) (fun c48 => ?_) (fun c48 => ?_)
                      · have hF := ite_t hF c48
                        refine q_iload_n C dX12_faultOf_118 4 rfl rfl ?_
                        refine q_iconst (v := (1 : Int32)) C dX12_faultOf_119 (by decide) ?_
                        refine q_icmp_ne (tgt := 133) C dX12_faultOf_120 (by decide) (fun c49 => ?_) (fun c49 => ?_)
                        · have hF := ite_f hF c49
                          refine q_iconst (v := (0 : Int32)) C dX12_faultOf_133 (by decide) ?_
                          refine q_istore_n C ([(1, .int (0 : Int32)), (5, .int (1 : Int32)), (4, .int (f_Model_in (v_pad (x2).toNatClampNeg) (65 : Int32) (70 : Int32))), (3, .int (v_pad (x2).toNatClampNeg)), (0, .ref o), (2, .int x2)]) dX12_faultOf_134 rfl (by decide) rfl ?_
                          refine q_iinc (v := (x2 + 1)) C ([(2, .int (x2 + 1)), (1, .int (0 : Int32)), (5, .int (1 : Int32)), (4, .int (f_Model_in (v_pad (x2).toNatClampNeg) (65 : Int32) (70 : Int32))), (3, .int (v_pad (x2).toNatClampNeg)), (0, .ref o)]) dX12_faultOf_135 5 rfl rfl (by decide) rfl ?_
                          refine q_goto (tgt := 4) C dX12_faultOf_138 (by decide) ?_
                          cases hF
                          refine q_lsel [5, 1, 0] rfl ?_
                          exact ih (0 : Int32) (x2 + 1) (hn _ rfl)
                        · have hF := ite_t hF c49
                          refine q_iload_n C dX12_faultOf_123 2 rfl rfl ?_
                          refine q_bipush (v := (38 : Int32)) C dX12_faultOf_124 (by decide) ?_
                          refine q_icmp_ne (tgt := 133) C dX12_faultOf_126 (by decide) (fun c50 => ?_) (fun c50 => ?_)
                          · have hF := ite_f hF c50
                            refine q_iconst (v := (0 : Int32)) C dX12_faultOf_133 (by decide) ?_
                            refine q_istore_n C ([(1, .int (0 : Int32)), (5, .int (1 : Int32)), (4, .int (f_Model_in (v_pad (x2).toNatClampNeg) (65 : Int32) (70 : Int32))), (3, .int (v_pad (x2).toNatClampNeg)), (0, .ref o), (2, .int x2)]) dX12_faultOf_134 rfl (by decide) rfl ?_
                            refine q_iinc (v := (x2 + 1)) C ([(2, .int (x2 + 1)), (1, .int (0 : Int32)), (5, .int (1 : Int32)), (4, .int (f_Model_in (v_pad (x2).toNatClampNeg) (65 : Int32) (70 : Int32))), (3, .int (v_pad (x2).toNatClampNeg)), (0, .ref o)]) dX12_faultOf_135 5 rfl rfl (by decide) rfl ?_
                            refine q_goto (tgt := 4) C dX12_faultOf_138 (by decide) ?_
                            cases hF
                            refine q_lsel [5, 1, 0] rfl ?_
                            exact ih (0 : Int32) (x2 + 1) (hn _ rfl)
                          · have hF := ite_t hF c50
                            refine q_iconst (v := (2 : Int32)) C dX12_faultOf_129 (by decide) ?_
                            refine q_goto (tgt := 134) C dX12_faultOf_130 (by decide) ?_
                            refine q_istore_n C ([(1, .int (2 : Int32)), (5, .int (1 : Int32)), (4, .int (f_Model_in (v_pad (x2).toNatClampNeg) (65 : Int32) (70 : Int32))), (3, .int (v_pad (x2).toNatClampNeg)), (0, .ref o), (2, .int x2)]) dX12_faultOf_134 rfl (by decide) rfl ?_
                            refine q_iinc (v := (x2 + 1)) C ([(2, .int (x2 + 1)), (1, .int (2 : Int32)), (5, .int (1 : Int32)), (4, .int (f_Model_in (v_pad (x2).toNatClampNeg) (65 : Int32) (70 : Int32))), (3, .int (v_pad (x2).toNatClampNeg)), (0, .ref o)]) dX12_faultOf_135 5 rfl rfl (by decide) rfl ?_
                            refine q_goto (tgt := 4) C dX12_faultOf_138 (by decide) ?_
                            cases hF
                            refine q_lsel [5, 1, 0] rfl ?_
                            exact ih (2 : Int32) (x2 + 1) (hn _ rfl)
                      · have hF := ite_f hF c48
                        refine q_iconst (v := (1 : Int32)) C dX12_faultOf_114 (by decide) ?_
                        refine q_goto (tgt := 134) C dX12_faultOf_115 (by decide) ?_
                        refine q_istore_n C ([(1, .int (1 : Int32)), (5, .int (1 : Int32)), (4, .int (f_Model_in (v_pad (x2).toNatClampNeg) (65 : Int32) (70 : Int32))), (3, .int (v_pad (x2).toNatClampNeg)), (0, .ref o), (2, .int x2)]) dX12_faultOf_134 rfl (by decide) rfl ?_
                        refine q_iinc (v := (x2 + 1)) C ([(2, .int (x2 + 1)), (1, .int (1 : Int32)), (5, .int (1 : Int32)), (4, .int (f_Model_in (v_pad (x2).toNatClampNeg) (65 : Int32) (70 : Int32))), (3, .int (v_pad (x2).toNatClampNeg)), (0, .ref o)]) dX12_faultOf_135 5 rfl rfl (by decide) rfl ?_
                        refine q_goto (tgt := 4) C dX12_faultOf_138 (by decide) ?_
                        cases hF
                        refine q_lsel [5, 1, 0] rfl ?_
                        exact ih (1 : Int32) (x2 + 1) (hn _ rfl)
                  · have hF := ite_t hF c44
                    refine q_iload_n C dX12_faultOf_103 5 rfl rfl ?_
                    cases hF
                    have e51 := hx _ rfl
                    cases e51
                    exact q_ireti C hA0 hr dX12_faultOf_104 hQ
        · have hF := ite_t hF c7
          refine q_iload C dX12_faultOf_33 0 rfl ?_
          refine q_if_ne (tgt := 55) C dX12_faultOf_35 (by decide) (fun c52 => ?_) (fun c52 => ?_)
          · have hF := ite_f hF c52
            refine q_iconst (v := (1 : Int32)) C dX12_faultOf_55 (by decide) ?_
            refine q_goto (tgt := 96) C dX12_faultOf_56 (by decide) ?_
            refine q_istore C ([(5, .int (1 : Int32)), (4, .int (f_Model_in (v_pad (x2).toNatClampNeg) (65 : Int32) (70 : Int32))), (3, .int (v_pad (x2).toNatClampNeg)), (0, .ref o), (1, .int x1), (2, .int x2)]) dX12_faultOf_96 (by decide) rfl ?_
            refine q_iload C dX12_faultOf_98 0 rfl ?_
            refine q_if_ne (tgt := 105) C dX12_faultOf_100 (by decide) (fun c53 => ?_) (fun c53 => ?_)
            · have hF := ite_f hF c53
              refine q_iload_n C dX12_faultOf_105 4 rfl rfl ?_
              refine q_if_ne (tgt := 118) C dX12_faultOf_106 (by decide) (fun c54 => ?_) (fun c54 => ?_)
              · have hF := ite_f hF c54
                refine q_iload_n C dX12_faultOf_118 4 rfl rfl ?_
                refine q_iconst (v := (1 : Int32)) C dX12_faultOf_119 (by decide) ?_
                refine q_icmp_ne (tgt := 133) C dX12_faultOf_120 (by decide) (fun c55 => ?_) (fun c55 => ?_)
                · have hF := ite_f hF c55
                  refine q_iconst (v := (0 : Int32)) C dX12_faultOf_133 (by decide) ?_
                  refine q_istore_n C ([(1, .int (0 : Int32)), (5, .int (1 : Int32)), (4, .int (f_Model_in (v_pad (x2).toNatClampNeg) (65 : Int32) (70 : Int32))), (3, .int (v_pad (x2).toNatClampNeg)), (0, .ref o), (2, .int x2)]) dX12_faultOf_134 rfl (by decide) rfl ?_
                  refine q_iinc (v := (x2 + 1)) C ([(2, .int (x2 + 1)), (1, .int (0 : Int32)), (5, .int (1 : Int32)), (4, .int (f_Model_in (v_pad (x2).toNatClampNeg) (65 : Int32) (70 : Int32))), (3, .int (v_pad (x2).toNatClampNeg)), (0, .ref o)]) dX12_faultOf_135 5 rfl rfl (by decide) rfl ?_
                  refine q_goto (tgt := 4) C dX12_faultOf_138 (by decide) ?_
                  cases hF
                  refine q_lsel [5, 1, 0] rfl ?_
                  exact ih (0 : Int32) (x2 + 1) (hn _ rfl)
                · have hF := ite_t hF c55
                  refine q_iload_n C dX12_faultOf_123 2 rfl rfl ?_
                  refine q_bipush (v := (38 : Int32)) C dX12_faultOf_124 (by decide) ?_
                  refine q_icmp_ne (tgt := 133) C dX12_faultOf_126 (by decide) (fun c56 => ?_) (fun c56 => ?_)
                  · have hF := ite_f hF c56
                    refine q_iconst (v := (0 : Int32)) C dX12_faultOf_133 (by decide) ?_
                    refine q_istore_n C ([(1, .int (0 : Int32)), (5, .int (1 : Int32)), (4, .int (f_Model_in (v_pad (x2).toNatClampNeg) (65 : Int32) (70 : Int32))), (3, .int (v_pad (x2).toNatClampNeg)), (0, .ref o), (2, .int x2)]) dX12_faultOf_134 rfl (by decide) rfl ?_
                    refine q_iinc (v := (x2 + 1)) C ([(2, .int (x2 + 1)), (1, .int (0 : Int32)), (5, .int (1 : Int32)), (4, .int (f_Model_in (v_pad (x2).toNatClampNeg) (65 : Int32) (70 : Int32))), (3, .int (v_pad (x2).toNatClampNeg)), (0, .ref o)]) dX12_faultOf_135 5 rfl rfl (by decide) rfl ?_
                    refine q_goto (tgt := 4) C dX12_faultOf_138 (by decide) ?_
                    cases hF
                    refine q_lsel [5, 1, 0] rfl ?_
                    exact ih (0 : Int32) (x2 + 1) (hn _ rfl)
                  · have hF := ite_t hF c56
                    refine q_iconst (v := (2 : Int32)) C dX12_faultOf_129 (by decide) ?_
                    refine q_goto (tgt := 134) C dX12_faultOf_130 (by decide) ?_
                    refine q_istore_n C ([(1, .int (2 : Int32)), (5, .int (1 : Int32)), (4, .int (f_Model_in (v_pad (x2).toNatClampNeg) (65 : Int32) (70 : Int32))), (3, .int (v_pad (x2).toNatClampNeg)), (0, .ref o), (2, .int x2)]) dX12_faultOf_134 rfl (by decide) rfl ?_
                    refine q_iinc (v := (x2 + 1)) C ([(2, .int (x2 + 1)), (1, .int (2 : Int32)), (5, .int (1 : Int32)), (4, .int (f_Model_in (v_pad (x2).toNatClampNeg) (65 : Int32) (70 : Int32))), (3, .int (v_pad (x2).toNatClampNeg)), (0, .ref o)]) dX12_faultOf_135 5 rfl rfl (by decide) rfl ?_
                    refine q_goto (tgt := 4) C dX12_faultOf_138 (by decide) ?_
                    cases hF
                    refine q_lsel [5, 1, 0] rfl ?_
                    exact ih (2 : Int32) (x2 + 1) (hn _ rfl)
              · have hF := ite_t hF c54
                refine q_iload C dX12_faultOf_109 1 rfl ?_
                refine q_if_eq (tgt := 118) C dX12_faultOf_111 (by decide) (fun c57 => ?_) (fun c57 => ?_)
                · have hF := ite_t hF c57
                  refine q_iload_n C dX12_faultOf_118 4 rfl rfl ?_
                  refine q_iconst (v := (1 : Int32)) C dX12_faultOf_119 (by decide) ?_
                  refine q_icmp_ne (tgt := 133) C dX12_faultOf_120 (by decide) (fun c58 => ?_) (fun c58 => ?_)
                  · have hF := ite_f hF c58
                    refine q_iconst (v := (0 : Int32)) C dX12_faultOf_133 (by decide) ?_
                    refine q_istore_n C ([(1, .int (0 : Int32)), (5, .int (1 : Int32)), (4, .int (f_Model_in (v_pad (x2).toNatClampNeg) (65 : Int32) (70 : Int32))), (3, .int (v_pad (x2).toNatClampNeg)), (0, .ref o), (2, .int x2)]) dX12_faultOf_134 rfl (by decide) rfl ?_
                    refine q_iinc (v := (x2 + 1)) C ([(2, .int (x2 + 1)), (1, .int (0 : Int32)), (5, .int (1 : Int32)), (4, .int (f_Model_in (v_pad (x2).toNatClampNeg) (65 : Int32) (70 : Int32))), (3, .int (v_pad (x2).toNatClampNeg)), (0, .ref o)]) dX12_faultOf_135 5 rfl rfl (by decide) rfl ?_
                    refine q_goto (tgt := 4) C dX12_faultOf_138 (by decide) ?_
                    cases hF
                    refine q_lsel [5, 1, 0] rfl ?_
                    exact ih (0 : Int32) (x2 + 1) (hn _ rfl)
                  · have hF := ite_t hF c58
                    refine q_iload_n C dX12_faultOf_123 2 rfl rfl ?_
                    refine q_bipush (v := (38 : Int32)) C dX12_faultOf_124 (by decide) ?_
                    refine q_icmp_ne (tgt := 133) C dX12_faultOf_126 (by decide) (fun c59 => ?_) (fun c59 => ?_)
                    · have hF := ite_f hF c59
                      refine q_iconst (v := (0 : Int32)) C dX12_faultOf_133 (by decide) ?_
                      refine q_istore_n C ([(1, .int (0 : Int32)), (5, .int (1 : Int32)), (4, .int (f_Model_in (v_pad (x2).toNatClampNeg) (65 : Int32) (70 : Int32))), (3, .int (v_pad (x2).toNatClampNeg)), (0, .ref o), (2, .int x2)]) dX12_faultOf_134 rfl (by decide) rfl ?_
                      refine q_iinc (v := (x2 + 1)) C ([(2, .int (x2 + 1)), (1, .int (0 : Int32)), (5, .int (1 : Int32)), (4, .int (f_Model_in (v_pad (x2).toNatClampNeg) (65 : Int32) (70 : Int32))), (3, .int (v_pad (x2).toNatClampNeg)), (0, .ref o)]) dX12_faultOf_135 5 rfl rfl (by decide) rfl ?_
                      refine q_goto (tgt := 4) C dX12_faultOf_138 (by decide) ?_
                      cases hF
                      refine q_lsel [5, 1, 0] rfl ?_
                      exact ih (0 : Int32) (x2 + 1) (hn _ rfl)
                    · have hF := ite_t hF c59
                      refine q_iconst (v := (2 : Int32)) C dX12_faultOf_129 (by decide) ?_
                      refine q_goto (tgt := 134) C dX12_faultOf_130 (by decide) ?_
                      refine q_istore_n C ([(1, .int (2 : Int32)), (5, .int (1 : Int32)), (4, .int (f_Model_in (v_pad (x2).toNatClampNeg) (65 : Int32) (70 : Int32))), (3, .int (v_pad (x2).toNatClampNeg)), (0, .ref o), (2, .int x2)]) dX12_faultOf_134 rfl (by decide) rfl ?_
                      refine q_iinc (v := (x2 + 1)) C ([(2, .int (x2 + 1)), (1, .int (2 : Int32)), (5, .int (1 : Int32)), (4, .int (f_Model_in (v_pad (x2).toNatClampNeg) (65 : Int32) (70 : Int32))), (3, .int (v_pad (x2).toNatClampNeg)), (0, .ref o)]) dX12_faultOf_135 5 rfl rfl (by decide) rfl ?_
                      refine q_goto (tgt := 4) C dX12_faultOf_138 (by decide) ?_
                      cases hF
                      refine q_lsel [5, 1, 0] rfl ?_
                      exact ih (2 : Int32) (x2 + 1) (hn _ rfl)
                · have hF := ite_f hF c57
                  refine q_iconst (v := (1 : Int32)) C dX12_faultOf_114 (by decide) ?_
                  refine q_goto (tgt := 134) C dX12_faultOf_115 (by decide) ?_
                  refine q_istore_n C ([(1, .int (1 : Int32)), (5, .int (1 : Int32)), (4, .int (f_Model_in (v_pad (x2).toNatClampNeg) (65 : Int32) (70 : Int32))), (3, .int (v_pad (x2).toNatClampNeg)), (0, .ref o), (2, .int x2)]) dX12_faultOf_134 rfl (by decide) rfl ?_
                  refine q_iinc (v := (x2 + 1)) C ([(2, .int (x2 + 1)), (1, .int (1 : Int32)), (5, .int (1 : Int32)), (4, .int (f_Model_in (v_pad (x2).toNatClampNeg) (65 : Int32) (70 : Int32))), (3, .int (v_pad (x2).toNatClampNeg)), (0, .ref o)]) dX12_faultOf_135 5 rfl rfl (by decide) rfl ?_
                  refine q_goto (tgt := 4) C dX12_faultOf_138 (by decide) ?_
                  cases hF
                  refine q_lsel [5, 1, 0] rfl ?_
                  exact ih (1 : Int32) (x2 + 1) (hn _ rfl)
            · have hF := ite_t hF c53
              refine q_iload_n C dX12_faultOf_103 5 rfl rfl ?_
              cases hF
              have e60 := hx _ rfl
              cases e60
              exact q_ireti C hA0 hr dX12_faultOf_104 hQ
          · have hF := ite_t hF c52
            refine q_iload_n C dX12_faultOf_38 1 rfl rfl ?_
            refine q_bipush (v := (97 : Int32)) C dX12_faultOf_39 (by decide) ?_
            refine q_bipush (v := (106 : Int32)) C dX12_faultOf_41 (by decide) ?_
            refine q_roz (q_runS (As := [.int (v_pad (x2).toNatClampNeg), .int (97 : Int32), .int (106 : Int32)]) (rest := []) C (fun sz => c_X12_in l dC dI cI cZ cQ (v_pad (x2).toNatClampNeg) (97 : Int32) (106 : Int32) (f_Model_in (v_pad (x2).toNatClampNeg) (97 : Int32) (106 : Int32)) rfl sz) (va_cwS 3 C.2.2.2.2.1 gX12_faultOf_X12_in rfl rfl rfl (by decide +kernel) ⟨Nat.le_of_ble_eq_true rfl, Nat.le_of_ble_eq_true rfl⟩) [] rfl rfl rfl rfl (Nat.le_of_ble_eq_true rfl) dX12_faultOf_43 ⟨Nat.zero_le _, Nat.zero_le _⟩) (fun hz61 => ?_)
            refine q_if_ne (tgt := 55) C dX12_faultOf_46 (by decide) (fun c62 => ?_) (fun c62 => ?_)
            · have hF := ite_f hF c62
              refine q_iconst (v := (1 : Int32)) C dX12_faultOf_55 (by decide) ?_
              refine q_goto (tgt := 96) C dX12_faultOf_56 (by decide) ?_
              refine q_istore C ([(5, .int (1 : Int32)), (4, .int (f_Model_in (v_pad (x2).toNatClampNeg) (65 : Int32) (70 : Int32))), (3, .int (v_pad (x2).toNatClampNeg)), (0, .ref o), (1, .int x1), (2, .int x2)]) dX12_faultOf_96 (by decide) rfl ?_
              refine q_iload C dX12_faultOf_98 0 rfl ?_
              refine q_if_ne (tgt := 105) C dX12_faultOf_100 (by decide) (fun c63 => ?_) (fun c63 => ?_)
              · have hF := ite_f hF c63
                refine q_iload_n C dX12_faultOf_105 4 rfl rfl ?_
                refine q_if_ne (tgt := 118) C dX12_faultOf_106 (by decide) (fun c64 => ?_) (fun c64 => ?_)
                · have hF := ite_f hF c64
                  refine q_iload_n C dX12_faultOf_118 4 rfl rfl ?_
                  refine q_iconst (v := (1 : Int32)) C dX12_faultOf_119 (by decide) ?_
                  refine q_icmp_ne (tgt := 133) C dX12_faultOf_120 (by decide) (fun c65 => ?_) (fun c65 => ?_)
                  · have hF := ite_f hF c65
                    refine q_iconst (v := (0 : Int32)) C dX12_faultOf_133 (by decide) ?_
                    refine q_istore_n C ([(1, .int (0 : Int32)), (5, .int (1 : Int32)), (4, .int (f_Model_in (v_pad (x2).toNatClampNeg) (65 : Int32) (70 : Int32))), (3, .int (v_pad (x2).toNatClampNeg)), (0, .ref o), (2, .int x2)]) dX12_faultOf_134 rfl (by decide) rfl ?_
                    refine q_iinc (v := (x2 + 1)) C ([(2, .int (x2 + 1)), (1, .int (0 : Int32)), (5, .int (1 : Int32)), (4, .int (f_Model_in (v_pad (x2).toNatClampNeg) (65 : Int32) (70 : Int32))), (3, .int (v_pad (x2).toNatClampNeg)), (0, .ref o)]) dX12_faultOf_135 5 rfl rfl (by decide) rfl ?_
                    refine q_goto (tgt := 4) C dX12_faultOf_138 (by decide) ?_
                    cases hF
                    refine q_lsel [5, 1, 0] rfl ?_
                    exact ih (0 : Int32) (x2 + 1) (hn _ rfl)
                  · have hF := ite_t hF c65
                    refine q_iload_n C dX12_faultOf_123 2 rfl rfl ?_
                    refine q_bipush (v := (38 : Int32)) C dX12_faultOf_124 (by decide) ?_
                    refine q_icmp_ne (tgt := 133) C dX12_faultOf_126 (by decide) (fun c66 => ?_) (fun c66 => ?_)
                    · have hF := ite_f hF c66
                      refine q_iconst (v := (0 : Int32)) C dX12_faultOf_133 (by decide) ?_
                      refine q_istore_n C ([(1, .int (0 : Int32)), (5, .int (1 : Int32)), (4, .int (f_Model_in (v_pad (x2).toNatClampNeg) (65 : Int32) (70 : Int32))), (3, .int (v_pad (x2).toNatClampNeg)), (0, .ref o), (2, .int x2)]) dX12_faultOf_134 rfl (by decide) rfl ?_
                      refine q_iinc (v := (x2 + 1)) C ([(2, .int (x2 + 1)), (1, .int (0 : Int32)), (5, .int (1 : Int32)), (4, .int (f_Model_in (v_pad (x2).toNatClampNeg) (65 : Int32) (70 : Int32))), (3, .int (v_pad (x2).toNatClampNeg)), (0, .ref o)]) dX12_faultOf_135 5 rfl rfl (by decide) rfl ?_
                      refine q_goto (tgt := 4) C dX12_faultOf_138 (by decide) ?_
                      cases hF
                      refine q_lsel [5, 1, 0] rfl ?_
                      exact ih (0 : Int32) (x2 + 1) (hn _ rfl)
                    · have hF := ite_t hF c66
                      refine q_iconst (v := (2 : Int32)) C dX12_faultOf_129 (by decide) ?_
                      refine q_goto (tgt := 134) C dX12_faultOf_130 (by decide) ?_
                      refine q_istore_n C ([(1, .int (2 : Int32)), (5, .int (1 : Int32)), (4, .int (f_Model_in (v_pad (x2).toNatClampNeg) (65 : Int32) (70 : Int32))), (3, .int (v_pad (x2).toNatClampNeg)), (0, .ref o), (2, .int x2)]) dX12_faultOf_134 rfl (by decide) rfl ?_
                      refine q_iinc (v := (x2 + 1)) C ([(2, .int (x2 + 1)), (1, .int (2 : Int32)), (5, .int (1 : Int32)), (4, .int (f_Model_in (v_pad (x2).toNatClampNeg) (65 : Int32) (70 : Int32))), (3, .int (v_pad (x2).toNatClampNeg)), (0, .ref o)]) dX12_faultOf_135 5 rfl rfl (by decide) rfl ?_
                      refine q_goto (tgt := 4) C dX12_faultOf_138 (by decide) ?_
                      cases hF
                      refine q_lsel [5, 1, 0] rfl ?_
                      exact ih (2 : Int32) (x2 + 1) (hn _ rfl)
                · have hF := ite_t hF c64
                  refine q_iload C dX12_faultOf_109 1 rfl ?_
                  refine q_if_eq (tgt := 118) C dX12_faultOf_111 (by decide) (fun c67 => ?_) (fun c67 => ?_)
                  · have hF := ite_t hF c67
                    refine q_iload_n C dX12_faultOf_118 4 rfl rfl ?_
                    refine q_iconst (v := (1 : Int32)) C dX12_faultOf_119 (by decide) ?_
                    refine q_icmp_ne (tgt := 133) C dX12_faultOf_120 (by decide) (fun c68 => ?_) (fun c68 => ?_)
                    · have hF := ite_f hF c68
                      refine q_iconst (v := (0 : Int32)) C dX12_faultOf_133 (by decide) ?_
                      refine q_istore_n C ([(1, .int (0 : Int32)), (5, .int (1 : Int32)), (4, .int (f_Model_in (v_pad (x2).toNatClampNeg) (65 : Int32) (70 : Int32))), (3, .int (v_pad (x2).toNatClampNeg)), (0, .ref o), (2, .int x2)]) dX12_faultOf_134 rfl (by decide) rfl ?_
                      refine q_iinc (v := (x2 + 1)) C ([(2, .int (x2 + 1)), (1, .int (0 : Int32)), (5, .int (1 : Int32)), (4, .int (f_Model_in (v_pad (x2).toNatClampNeg) (65 : Int32) (70 : Int32))), (3, .int (v_pad (x2).toNatClampNeg)), (0, .ref o)]) dX12_faultOf_135 5 rfl rfl (by decide) rfl ?_
                      refine q_goto (tgt := 4) C dX12_faultOf_138 (by decide) ?_
                      cases hF
                      refine q_lsel [5, 1, 0] rfl ?_
                      exact ih (0 : Int32) (x2 + 1) (hn _ rfl)
                    · have hF := ite_t hF c68
                      refine q_iload_n C dX12_faultOf_123 2 rfl rfl ?_
                      refine q_bipush (v := (38 : Int32)) C dX12_faultOf_124 (by decide) ?_
                      refine q_icmp_ne (tgt := 133) C dX12_faultOf_126 (by decide) (fun c69 => ?_) (fun c69 => ?_)
                      · have hF := ite_f hF c69
                        refine q_iconst (v := (0 : Int32)) C dX12_faultOf_133 (by decide) ?_
                        refine q_istore_n C ([(1, .int (0 : Int32)), (5, .int (1 : Int32)), (4, .int (f_Model_in (v_pad (x2).toNatClampNeg) (65 : Int32) (70 : Int32))), (3, .int (v_pad (x2).toNatClampNeg)), (0, .ref o), (2, .int x2)]) dX12_faultOf_134 rfl (by decide) rfl ?_
                        refine q_iinc (v := (x2 + 1)) C ([(2, .int (x2 + 1)), (1, .int (0 : Int32)), (5, .int (1 : Int32)), (4, .int (f_Model_in (v_pad (x2).toNatClampNeg) (65 : Int32) (70 : Int32))), (3, .int (v_pad (x2).toNatClampNeg)), (0, .ref o)]) dX12_faultOf_135 5 rfl rfl (by decide) rfl ?_
                        refine q_goto (tgt := 4) C dX12_faultOf_138 (by decide) ?_
                        cases hF
                        refine q_lsel [5, 1, 0] rfl ?_
                        exact ih (0 : Int32) (x2 + 1) (hn _ rfl)
                      · have hF := ite_t hF c69
                        refine q_iconst (v := (2 : Int32)) C dX12_faultOf_129 (by decide) ?_
                        refine q_goto (tgt := 134) C dX12_faultOf_130 (by decide) ?_
                        refine q_istore_n C ([(1, .int (2 : Int32)), (5, .int (1 : Int32)), (4, .int (f_Model_in (v_pad (x2).toNatClampNeg) (65 : Int32) (70 : Int32))), (3, .int (v_pad (x2).toNatClampNeg)), (0, .ref o), (2, .int x2)]) dX12_faultOf_134 rfl (by decide) rfl ?_
                        refine q_iinc (v := (x2 + 1)) C ([(2, .int (x2 + 1)), (1, .int (2 : Int32)), (5, .int (1 : Int32)), (4, .int (f_Model_in (v_pad (x2).toNatClampNeg) (65 : Int32) (70 : Int32))), (3, .int (v_pad (x2).toNatClampNeg)), (0, .ref o)]) dX12_faultOf_135 5 rfl rfl (by decide) rfl ?_
                        refine q_goto (tgt := 4) C dX12_faultOf_138 (by decide) ?_
                        cases hF
                        refine q_lsel [5, 1, 0] rfl ?_
                        exact ih (2 : Int32) (x2 + 1) (hn _ rfl)
                  · have hF := ite_f hF c67
                    refine q_iconst (v := (1 : Int32)) C dX12_faultOf_114 (by decide) ?_
                    refine q_goto (tgt := 134) C dX12_faultOf_115 (by decide) ?_
                    refine q_istore_n C ([(1, .int (1 : Int32)), (5, .int (1 : Int32)), (4, .int (f_Model_in (v_pad (x2).toNatClampNeg) (65 : Int32) (70 : Int32))), (3, .int (v_pad (x2).toNatClampNeg)), (0, .ref o), (2, .int x2)]) dX12_faultOf_134 rfl (by decide) rfl ?_
                    refine q_iinc (v := (x2 + 1)) C ([(2, .int (x2 + 1)), (1, .int (1 : Int32)), (5, .int (1 : Int32)), (4, .int (f_Model_in (v_pad (x2).toNatClampNeg) (65 : Int32) (70 : Int32))), (3, .int (v_pad (x2).toNatClampNeg)), (0, .ref o)]) dX12_faultOf_135 5 rfl rfl (by decide) rfl ?_
                    refine q_goto (tgt := 4) C dX12_faultOf_138 (by decide) ?_
                    cases hF
                    refine q_lsel [5, 1, 0] rfl ?_
                    exact ih (1 : Int32) (x2 + 1) (hn _ rfl)
              · have hF := ite_t hF c63
                refine q_iload_n C dX12_faultOf_103 5 rfl rfl ?_
                cases hF
                have e70 := hx _ rfl
                cases e70
                exact q_ireti C hA0 hr dX12_faultOf_104 hQ
            · have hF := ite_t hF c62
              refine q_iload_n C dX12_faultOf_49 1 rfl rfl ?_
              refine q_bipush (v := (46 : Int32)) C dX12_faultOf_50 (by decide) ?_
              refine q_icmp_ne (tgt := 59) C dX12_faultOf_52 (by decide) (fun c71 => ?_) (fun c71 => ?_)
              · have hF := ite_f hF c71
                refine q_iconst (v := (0 : Int32)) C dX12_faultOf_59 (by decide) ?_
                refine q_goto (tgt := 96) C dX12_faultOf_60 (by decide) ?_
                refine q_istore C ([(5, .int (0 : Int32)), (4, .int (f_Model_in (v_pad (x2).toNatClampNeg) (65 : Int32) (70 : Int32))), (3, .int (v_pad (x2).toNatClampNeg)), (0, .ref o), (1, .int x1), (2, .int x2)]) dX12_faultOf_96 (by decide) rfl ?_
                refine q_iload C dX12_faultOf_98 0 rfl ?_
                refine q_if_ne (tgt := 105) C dX12_faultOf_100 (by decide) (fun c72 => ?_) (fun c72 => ?_)
                · have hF := ite_f hF c72
                  refine q_iload_n C dX12_faultOf_105 4 rfl rfl ?_
                  refine q_if_ne (tgt := 118) C dX12_faultOf_106 (by decide) (fun c73 => ?_) (fun c73 => ?_)
                  · have hF := ite_f hF c73
                    refine q_iload_n C dX12_faultOf_118 4 rfl rfl ?_
                    refine q_iconst (v := (1 : Int32)) C dX12_faultOf_119 (by decide) ?_
                    refine q_icmp_ne (tgt := 133) C dX12_faultOf_120 (by decide) (fun c74 => ?_) (fun c74 => ?_)
                    · have hF := ite_f hF c74
                      refine q_iconst (v := (0 : Int32)) C dX12_faultOf_133 (by decide) ?_
                      refine q_istore_n C ([(1, .int (0 : Int32)), (5, .int (0 : Int32)), (4, .int (f_Model_in (v_pad (x2).toNatClampNeg) (65 : Int32) (70 : Int32))), (3, .int (v_pad (x2).toNatClampNeg)), (0, .ref o), (2, .int x2)]) dX12_faultOf_134 rfl (by decide) rfl ?_
                      refine q_iinc (v := (x2 + 1)) C ([(2, .int (x2 + 1)), (1, .int (0 : Int32)), (5, .int (0 : Int32)), (4, .int (f_Model_in (v_pad (x2).toNatClampNeg) (65 : Int32) (70 : Int32))), (3, .int (v_pad (x2).toNatClampNeg)), (0, .ref o)]) dX12_faultOf_135 5 rfl rfl (by decide) rfl ?_
                      refine q_goto (tgt := 4) C dX12_faultOf_138 (by decide) ?_
                      cases hF
                      refine q_lsel [5, 1, 0] rfl ?_
                      exact ih (0 : Int32) (x2 + 1) (hn _ rfl)
                    · have hF := ite_t hF c74
                      refine q_iload_n C dX12_faultOf_123 2 rfl rfl ?_
                      refine q_bipush (v := (38 : Int32)) C dX12_faultOf_124 (by decide) ?_
                      refine q_icmp_ne (tgt := 133) C dX12_faultOf_126 (by decide) (fun c75 => ?_) (fun c75 => ?_)
                      · have hF := ite_f hF c75
                        refine q_iconst (v := (0 : Int32)) C dX12_faultOf_133 (by decide) ?_
                        refine q_istore_n C ([(1, .int (0 : Int32)), (5, .int (0 : Int32)), (4, .int (f_Model_in (v_pad (x2).toNatClampNeg) (65 : Int32) (70 : Int32))), (3, .int (v_pad (x2).toNatClampNeg)), (0, .ref o), (2, .int x2)]) dX12_faultOf_134 rfl (by decide) rfl ?_
                        refine q_iinc (v := (x2 + 1)) C ([(2, .int (x2 + 1)), (1, .int (0 : Int32)), (5, .int (0 : Int32)), (4, .int (f_Model_in (v_pad (x2).toNatClampNeg) (65 : Int32) (70 : Int32))), (3, .int (v_pad (x2).toNatClampNeg)), (0, .ref o)]) dX12_faultOf_135 5 rfl rfl (by decide) rfl ?_
                        refine q_goto (tgt := 4) C dX12_faultOf_138 (by decide) ?_
                        cases hF
                        refine q_lsel [5, 1, 0] rfl ?_
                        exact ih (0 : Int32) (x2 + 1) (hn _ rfl)
                      · have hF := ite_t hF c75
                        refine q_iconst (v := (2 : Int32)) C dX12_faultOf_129 (by decide) ?_
                        refine q_goto (tgt := 134) C dX12_faultOf_130 (by decide) ?_
                        refine q_istore_n C ([(1, .int (2 : Int32)), (5, .int (0 : Int32)), (4, .int (f_Model_in (v_pad (x2).toNatClampNeg) (65 : Int32) (70 : Int32))), (3, .int (v_pad (x2).toNatClampNeg)), (0, .ref o), (2, .int x2)]) dX12_faultOf_134 rfl (by decide) rfl ?_
                        refine q_iinc (v := (x2 + 1)) C ([(2, .int (x2 + 1)), (1, .int (2 : Int32)), (5, .int (0 : Int32)), (4, .int (f_Model_in (v_pad (x2).toNatClampNeg) (65 : Int32) (70 : Int32))), (3, .int (v_pad (x2).toNatClampNeg)), (0, .ref o)]) dX12_faultOf_135 5 rfl rfl (by decide) rfl ?_
                        refine q_goto (tgt := 4) C dX12_faultOf_138 (by decide) ?_
                        cases hF
                        refine q_lsel [5, 1, 0] rfl ?_
                        exact ih (2 : Int32) (x2 + 1) (hn _ rfl)
                  · have hF := ite_t hF c73
                    refine q_iload C dX12_faultOf_109 1 rfl ?_
                    refine q_if_eq (tgt := 118) C dX12_faultOf_111 (by decide) (fun c76 => ?_) (fun c76 => ?_)
                    · have hF := ite_t hF c76
                      refine q_iload_n C dX12_faultOf_118 4 rfl rfl ?_
                      refine q_iconst (v := (1 : Int32)) C dX12_faultOf_119 (by decide) ?_
                      refine q_icmp_ne (tgt := 133) C dX12_faultOf_120 (by decide) (fun c77 => ?_) (fun c77 => ?_)
                      · have hF := ite_f hF c77
                        refine q_iconst (v := (0 : Int32)) C dX12_faultOf_133 (by decide) ?_
                        refine q_istore_n C ([(1, .int (0 : Int32)), (5, .int (0 : Int32)), (4, .int (f_Model_in (v_pad (x2).toNatClampNeg) (65 : Int32) (70 : Int32))), (3, .int (v_pad (x2).toNatClampNeg)), (0, .ref o), (2, .int x2)]) dX12_faultOf_134 rfl (by decide) rfl ?_
                        refine q_iinc (v := (x2 + 1)) C ([(2, .int (x2 + 1)), (1, .int (0 : Int32)), (5, .int (0 : Int32)), (4, .int (f_Model_in (v_pad (x2).toNatClampNeg) (65 : Int32) (70 : Int32))), (3, .int (v_pad (x2).toNatClampNeg)), (0, .ref o)]) dX12_faultOf_135 5 rfl rfl (by decide) rfl ?_
                        refine q_goto (tgt := 4) C dX12_faultOf_138 (by decide) ?_
                        cases hF
                        refine q_lsel [5, 1, 0] rfl ?_
                        exact ih (0 : Int32) (x2 + 1) (hn _ rfl)
                      · have hF := ite_t hF c77
                        refine q_iload_n C dX12_faultOf_123 2 rfl rfl ?_
                        refine q_bipush (v := (38 : Int32)) C dX12_faultOf_124 (by decide) ?_
                        refine q_icmp_ne (tgt := 133) C dX12_faultOf_126 (by decide) (fun c78 => ?_) (fun c78 => ?_)
                        · have hF := ite_f hF c78
                          refine q_iconst (v := (0 : Int32)) C dX12_faultOf_133 (by decide) ?_
                          refine q_istore_n C ([(1, .int (0 : Int32)), (5, .int (0 : Int32)), (4, .int (f_Model_in (v_pad (x2).toNatClampNeg) (65 : Int32) (70 : Int32))), (3, .int (v_pad (x2).toNatClampNeg)), (0, .ref o), (2, .int x2)]) dX12_faultOf_134 rfl (by decide) rfl ?_
                          refine q_iinc (v := (x2 + 1)) C ([(2, .int (x2 + 1)), (1, .int (0 : Int32)), (5, .int (0 : Int32)), (4, .int (f_Model_in (v_pad (x2).toNatClampNeg) (65 : Int32) (70 : Int32))), (3, .int (v_pad (x2).toNatClampNeg)), (0, .ref o)]) dX12_faultOf_135 5 rfl rfl (by decide) rfl ?_
                          refine q_goto (tgt := 4) C dX12_faultOf_138 (by decide) ?_
                          cases hF
                          refine q_lsel [5, 1, 0] rfl ?_
                          exact ih (0 : Int32) (x2 + 1) (hn _ rfl)
                        · have hF := ite_t hF c78
                          refine q_iconst (v := (2 : Int32)) C dX12_faultOf_129 (by decide) ?_
                          refine q_goto (tgt := 134) C dX12_faultOf_130 (by decide) ?_
                          refine q_istore_n C ([(1, .int (2 : Int32)), (5, .int (0 : Int32)), (4, .int (f_Model_in (v_pad (x2).toNatClampNeg) (65 : Int32) (70 : Int32))), (3, .int (v_pad (x2).toNatClampNeg)), (0, .ref o), (2, .int x2)]) dX12_faultOf_134 rfl (by decide) rfl ?_
                          refine q_iinc (v := (x2 + 1)) C ([(2, .int (x2 + 1)), (1, .int (2 : Int32)), (5, .int (0 : Int32)), (4, .int (f_Model_in (v_pad (x2).toNatClampNeg) (65 : Int32) (70 : Int32))), (3, .int (v_pad (x2).toNatClampNeg)), (0, .ref o)]) dX12_faultOf_135 5 rfl rfl (by decide) rfl ?_
                          refine q_goto (tgt := 4) C dX12_faultOf_138 (by decide) ?_
                          cases hF
                          refine q_lsel [5, 1, 0] rfl ?_
                          exact ih (2 : Int32) (x2 + 1) (hn _ rfl)
                    · have hF := ite_f hF c76
                      refine q_iconst (v := (1 : Int32)) C dX12_faultOf_114 (by decide) ?_
                      refine q_goto (tgt := 134) C dX12_faultOf_115 (by decide) ?_
                      refine q_istore_n C ([(1, .int (1 : Int32)), (5, .int (0 : Int32)), (4, .int (f_Model_in (v_pad (x2).toNatClampNeg) (65 : Int32) (70 : Int32))), (3, .int (v_pad (x2).toNatClampNeg)), (0, .ref o), (2, .int x2)]) dX12_faultOf_134 rfl (by decide) rfl ?_
                      refine q_iinc (v := (x2 + 1)) C ([(2, .int (x2 + 1)), (1, .int (1 : Int32)), (5, .int (0 : Int32)), (4, .int (f_Model_in (v_pad (x2).toNatClampNeg) (65 : Int32) (70 : Int32))), (3, .int (v_pad (x2).toNatClampNeg)), (0, .ref o)]) dX12_faultOf_135 5 rfl rfl (by decide) rfl ?_
                      refine q_goto (tgt := 4) C dX12_faultOf_138 (by decide) ?_
                      cases hF
                      refine q_lsel [5, 1, 0] rfl ?_
                      exact ih (1 : Int32) (x2 + 1) (hn _ rfl)
                · have hF := ite_t hF c72
                  refine q_iload_n C dX12_faultOf_103 5 rfl rfl ?_
                  cases hF
                  have e79 := hx _ rfl
                  cases e79
                  exact q_ireti C hA0 hr dX12_faultOf_104 hQ
              · have hF := ite_t hF c71
                refine q_iconst (v := (1 : Int32)) C dX12_faultOf_55 (by decide) ?_
                refine q_goto (tgt := 96) C dX12_faultOf_56 (by decide) ?_
                refine q_istore C ([(5, .int (1 : Int32)), (4, .int (f_Model_in (v_pad (x2).toNatClampNeg) (65 : Int32) (70 : Int32))), (3, .int (v_pad (x2).toNatClampNeg)), (0, .ref o), (1, .int x1), (2, .int x2)]) dX12_faultOf_96 (by decide) rfl ?_
                refine q_iload C dX12_faultOf_98 0 rfl ?_
                refine q_if_ne (tgt := 105) C dX12_faultOf_100 (by decide) (fun c80 => ?_) (fun c80 => ?_)
                · have hF := ite_f hF c80
                  refine q_iload_n C dX12_faultOf_105 4 rfl rfl ?_
                  refine q_if_ne (tgt := 118) C dX12_faultOf_106 (by decide) (fun c81 => ?_) (fun c81 => ?_)
                  · have hF := ite_f hF c81
                    refine q_iload_n C dX12_faultOf_118 4 rfl rfl ?_
                    refine q_iconst (v := (1 : Int32)) C dX12_faultOf_119 (by decide) ?_
                    refine q_icmp_ne (tgt := 133) C dX12_faultOf_120 (by decide) (fun c82 => ?_) (fun c82 => ?_)
                    · have hF := ite_f hF c82
                      refine q_iconst (v := (0 : Int32)) C dX12_faultOf_133 (by decide) ?_
                      refine q_istore_n C ([(1, .int (0 : Int32)), (5, .int (1 : Int32)), (4, .int (f_Model_in (v_pad (x2).toNatClampNeg) (65 : Int32) (70 : Int32))), (3, .int (v_pad (x2).toNatClampNeg)), (0, .ref o), (2, .int x2)]) dX12_faultOf_134 rfl (by decide) rfl ?_
                      refine q_iinc (v := (x2 + 1)) C ([(2, .int (x2 + 1)), (1, .int (0 : Int32)), (5, .int (1 : Int32)), (4, .int (f_Model_in (v_pad (x2).toNatClampNeg) (65 : Int32) (70 : Int32))), (3, .int (v_pad (x2).toNatClampNeg)), (0, .ref o)]) dX12_faultOf_135 5 rfl rfl (by decide) rfl ?_
                      refine q_goto (tgt := 4) C dX12_faultOf_138 (by decide) ?_
                      cases hF
                      refine q_lsel [5, 1, 0] rfl ?_
                      exact ih (0 : Int32) (x2 + 1) (hn _ rfl)
                    · have hF := ite_t hF c82
                      refine q_iload_n C dX12_faultOf_123 2 rfl rfl ?_
                      refine q_bipush (v := (38 : Int32)) C dX12_faultOf_124 (by decide) ?_
                      refine q_icmp_ne (tgt := 133) C dX12_faultOf_126 (by decide) (fun c83 => ?_) (fun c83 => ?_)
                      · have hF := ite_f hF c83
                        refine q_iconst (v := (0 : Int32)) C dX12_faultOf_133 (by decide) ?_
                        refine q_istore_n C ([(1, .int (0 : Int32)), (5, .int (1 : Int32)), (4, .int (f_Model_in (v_pad (x2).toNatClampNeg) (65 : Int32) (70 : Int32))), (3, .int (v_pad (x2).toNatClampNeg)), (0, .ref o), (2, .int x2)]) dX12_faultOf_134 rfl (by decide) rfl ?_
                        refine q_iinc (v := (x2 + 1)) C ([(2, .int (x2 + 1)), (1, .int (0 : Int32)), (5, .int (1 : Int32)), (4, .int (f_Model_in (v_pad (x2).toNatClampNeg) (65 : Int32) (70 : Int32))), (3, .int (v_pad (x2).toNatClampNeg)), (0, .ref o)]) dX12_faultOf_135 5 rfl rfl (by decide) rfl ?_
                        refine q_goto (tgt := 4) C dX12_faultOf_138 (by decide) ?_
                        cases hF
                        refine q_lsel [5, 1, 0] rfl ?_
                        exact ih (0 : Int32) (x2 + 1) (hn _ rfl)
                      · have hF := ite_t hF c83
                        refine q_iconst (v := (2 : Int32)) C dX12_faultOf_129 (by decide) ?_
                        refine q_goto (tgt := 134) C dX12_faultOf_130 (by decide) ?_
                        refine q_istore_n C ([(1, .int (2 : Int32)), (5, .int (1 : Int32)), (4, .int (f_Model_in (v_pad (x2).toNatClampNeg) (65 : Int32) (70 : Int32))), (3, .int (v_pad (x2).toNatClampNeg)), (0, .ref o), (2, .int x2)]) dX12_faultOf_134 rfl (by decide) rfl ?_
                        refine q_iinc (v := (x2 + 1)) C ([(2, .int (x2 + 1)), (1, .int (2 : Int32)), (5, .int (1 : Int32)), (4, .int (f_Model_in (v_pad (x2).toNatClampNeg) (65 : Int32) (70 : Int32))), (3, .int (v_pad (x2).toNatClampNeg)), (0, .ref o)]) dX12_faultOf_135 5 rfl rfl (by decide) rfl ?_
                        refine q_goto (tgt := 4) C dX12_faultOf_138 (by decide) ?_
                        cases hF
                        refine q_lsel [5, 1, 0] rfl ?_
                        exact ih (2 : Int32) (x2 + 1) (hn _ rfl)
                  · have hF := ite_t hF c81
                    refine q_iload C dX12_faultOf_109 1 rfl ?_
                    refine q_if_eq (tgt := 118) C dX12_faultOf_111 (by decide) (fun c84 => ?_) (fun c84 => ?_)
                    · have hF := ite_t hF c84
                      refine q_iload_n C dX12_faultOf_118 4 rfl rfl ?_
                      refine q_iconst (v := (1 : Int32)) C dX12_faultOf_119 (by decide) ?_
                      refine q_icmp_ne (tgt := 133) C dX12_faultOf_120 (by decide) (fun c85 => ?_) (fun c85 => ?_)
                      · have hF := ite_f hF c85
                        refine q_iconst (v := (0 : Int32)) C dX12_faultOf_133 (by decide) ?_
                        refine q_istore_n C ([(1, .int (0 : Int32)), (5, .int (1 : Int32)), (4, .int (f_Model_in (v_pad (x2).toNatClampNeg) (65 : Int32) (70 : Int32))), (3, .int (v_pad (x2).toNatClampNeg)), (0, .ref o), (2, .int x2)]) dX12_faultOf_134 rfl (by decide) rfl ?_
                        refine q_iinc (v := (x2 + 1)) C ([(2, .int (x2 + 1)), (1, .int (0 : Int32)), (5, .int (1 : Int32)), (4, .int (f_Model_in (v_pad (x2).toNatClampNeg) (65 : Int32) (70 : Int32))), (3, .int (v_pad (x2).toNatClampNeg)), (0, .ref o)]) dX12_faultOf_135 5 rfl rfl (by decide) rfl ?_
                        refine q_goto (tgt := 4) C dX12_faultOf_138 (by decide) ?_
                        cases hF
                        refine q_lsel [5, 1, 0] rfl ?_
                        exact ih (0 : Int32) (x2 + 1) (hn _ rfl)
                      · have hF := ite_t hF c85
                        refine q_iload_n C dX12_faultOf_123 2 rfl rfl ?_
                        refine q_bipush (v := (38 : Int32)) C dX12_faultOf_124 (by decide) ?_
                        refine q_icmp_ne (tgt := 133) C dX12_faultOf_126 (by decide) (fun c86 => ?_) (fun c86 => ?_)
                        · have hF := ite_f hF c86
                          refine q_iconst (v := (0 : Int32)) C dX12_faultOf_133 (by decide) ?_
                          refine q_istore_n C ([(1, .int (0 : Int32)), (5, .int (1 : Int32)), (4, .int (f_Model_in (v_pad (x2).toNatClampNeg) (65 : Int32) (70 : Int32))), (3, .int (v_pad (x2).toNatClampNeg)), (0, .ref o), (2, .int x2)]) dX12_faultOf_134 rfl (by decide) rfl ?_
                          refine q_iinc (v := (x2 + 1)) C ([(2, .int (x2 + 1)), (1, .int (0 : Int32)), (5, .int (1 : Int32)), (4, .int (f_Model_in (v_pad (x2).toNatClampNeg) (65 : Int32) (70 : Int32))), (3, .int (v_pad (x2).toNatClampNeg)), (0, .ref o)]) dX12_faultOf_135 5 rfl rfl (by decide) rfl ?_
                          refine q_goto (tgt := 4) C dX12_faultOf_138 (by decide) ?_
                          cases hF
                          refine q_lsel [5, 1, 0] rfl ?_
                          exact ih (0 : Int32) (x2 + 1) (hn _ rfl)
                        · have hF := ite_t hF c86
                          refine q_iconst (v := (2 : Int32)) C dX12_faultOf_129 (by decide) ?_
                          refine q_goto (tgt := 134) C dX12_faultOf_130 (by decide) ?_
                          refine q_istore_n C ([(1, .int (2 : Int32)), (5, .int (1 : Int32)), (4, .int (f_Model_in (v_pad (x2).toNatClampNeg) (65 : Int32) (70 : Int32))), (3, .int (v_pad (x2).toNatClampNeg)), (0, .ref o), (2, .int x2)]) dX12_faultOf_134 rfl (by decide) rfl ?_
                          refine q_iinc (v := (x2 + 1)) C ([(2, .int (x2 + 1)), (1, .int (2 : Int32)), (5, .int (1 : Int32)), (4, .int (f_Model_in (v_pad (x2).toNatClampNeg) (65 : Int32) (70 : Int32))), (3, .int (v_pad (x2).toNatClampNeg)), (0, .ref o)]) dX12_faultOf_135 5 rfl rfl (by decide) rfl ?_
                          refine q_goto (tgt := 4) C dX12_faultOf_138 (by decide) ?_
                          cases hF
                          refine q_lsel [5, 1, 0] rfl ?_
                          exact ih (2 : Int32) (x2 + 1) (hn _ rfl)
                    · have hF := ite_f hF c84
                      refine q_iconst (v := (1 : Int32)) C dX12_faultOf_114 (by decide) ?_
                      refine q_goto (tgt := 134) C dX12_faultOf_115 (by decide) ?_
                      refine q_istore_n C ([(1, .int (1 : Int32)), (5, .int (1 : Int32)), (4, .int (f_Model_in (v_pad (x2).toNatClampNeg) (65 : Int32) (70 : Int32))), (3, .int (v_pad (x2).toNatClampNeg)), (0, .ref o), (2, .int x2)]) dX12_faultOf_134 rfl (by decide) rfl ?_
                      refine q_iinc (v := (x2 + 1)) C ([(2, .int (x2 + 1)), (1, .int (1 : Int32)), (5, .int (1 : Int32)), (4, .int (f_Model_in (v_pad (x2).toNatClampNeg) (65 : Int32) (70 : Int32))), (3, .int (v_pad (x2).toNatClampNeg)), (0, .ref o)]) dX12_faultOf_135 5 rfl rfl (by decide) rfl ?_
                      refine q_goto (tgt := 4) C dX12_faultOf_138 (by decide) ?_
                      cases hF
                      refine q_lsel [5, 1, 0] rfl ?_
                      exact ih (1 : Int32) (x2 + 1) (hn _ rfl)
                · have hF := ite_t hF c80
                  refine q_iload_n C dX12_faultOf_103 5 rfl rfl ?_
                  cases hF
                  have e87 := hx _ rfl
                  cases e87
                  exact q_ireti C hA0 hr dX12_faultOf_104 hQ
  unfold f_Model_faultOf at hF
  refine q_iconst (v := (0 : Int32)) C dX12_faultOf_0 (by decide) ?_
  refine q_istore_n C ([(1, .int (0 : Int32)), (0, .ref o)]) dX12_faultOf_1 rfl (by decide) rfl ?_
  refine q_iconst (v := (0 : Int32)) C dX12_faultOf_2 (by decide) ?_
  refine q_istore_n C ([(2, .int (0 : Int32)), (1, .int (0 : Int32)), (0, .ref o)]) dX12_faultOf_3 rfl (by decide) rfl ?_
  obtain ⟨n88, hF⟩ := (ev_iff _ _ _).mp hF
  refine q_lsel [2, 1, 0] rfl ?_
  exact L1 n88 (0 : Int32) (0 : Int32) hF
set_option maxRecDepth 100000 in
set_option maxHeartbeats 4000000 in
theorem c_X12_fault (l : Launch) (dC : Nat → ClassId) (dI : Nat → Nat → Nat) (cI cZ cQ : ClassId) (o o_pad o_book o_now o_moults o_words o_clashes o_rocks o_count o_reached o_queue o_got o_wins o_image o_isKept : Nat) (v_signs : Int32) (v_pad : Nat → Int32) (v_counts : Int32) (v_readMany : Int32) (v_signedAll : Int32) (v_reason : Int32) (v_acts : Int32) (v_waitUp : Int64) (v_waitLow : Int64) (R : Int32) (hF : f_Model_fault v_signs v_pad = some R) (sz : Nat) : Met l yX12_fault wsX12_fault ({ frames := 2, cells := 0, slots := 0, locals := 47 } : Room) (qPc ([.ref o]) (dC, dI) (qT cI cZ cQ) ([(o, .inr (12, [.ref o_book, .ref o_now, .ref o_moults, .ref o_words, .ref o_clashes, .ref o_rocks, .int v_counts, .ref o_count, .int v_signs, .ref o_pad, .int v_readMany, .int v_signedAll, .int v_reason, .int v_acts, .ref o_reached, .ref o_queue, .ref o_got, .long v_waitUp, .long v_waitLow, .ref o_wins, .ref o_image, .ref o_isKept])), (o_pad, .inl (cI, 60, .inl v_pad))]) sz) (qRi R) 0 0 (fun _ => False) := by
  refine q_met_r (cc := cX12_fault) (own := RX12) (maxL := 1) (ret := (some .int)) (lv0 := [(0, .ref o)]) (by decide) rfl rfl rfl (Nat.le_of_ble_eq_true rfl) ?_
  intro p e s m args below meth c C hr A A' Q hA0 hQ
  unfold f_Model_fault at hF
  refine q_aload_n C dX12_fault_0 0 rfl rfl ?_
  obtain ⟨r1, hc2, hF⟩ := bind_c hF
  refine q_roi (q_runV (As := []) (rest := []) C (fun sz => c_X12_faultOf l dC dI cI cZ cQ o o_pad o_book o_now o_moults o_words o_clashes o_rocks o_count o_reached o_queue o_got o_wins o_image o_isKept v_signs v_pad v_counts v_readMany v_signedAll v_reason v_acts v_waitUp v_waitLow r1 hc2 sz) (cwV 0 C.2.2.2.2.1 gX12_fault_X12_faultOf rfl rfl rfl (by decide +kernel) ⟨Nat.le_of_ble_eq_true rfl, Nat.le_of_ble_eq_true rfl⟩) 0 rfl rfl rfl [0, 1] rfl rfl rfl rfl (Nat.le_of_ble_eq_true rfl) dX12_fault_1 ⟨Nat.zero_le _, Nat.zero_le _⟩) ?_
  cases hF
  exact q_ireti C hA0 hr dX12_fault_4 hQ
set_option maxRecDepth 100000 in
set_option maxHeartbeats 4000000 in
theorem c_X12_asNow (l : Launch) (dC : Nat → ClassId) (dI : Nat → Nat → Nat) (cI cZ cQ : ClassId) (o o_book o_now o_moults o_words o_clashes o_rocks o_count o_pad o_reached o_queue o_got o_wins o_image o_isKept : Nat) (v_book : Nat → Int32) (v_now : Nat → Int32) (v_readMany : Int32) (v_signedAll : Int32) (v_counts : Int32) (v_signs : Int32) (v_reason : Int32) (v_acts : Int32) (v_waitUp : Int64) (v_waitLow : Int64) (w_now : Nat → Int32) (w_readMany : Int32) (w_signedAll : Int32) (hF : f_Model_asNow v_book v_now v_readMany v_signedAll = some (w_now, w_readMany, w_signedAll)) (sz : Nat) : Met l yX12_asNow wsX12_asNow ({ frames := 0, cells := 0, slots := 0, locals := 0 } : Room) (qPc ([.ref o]) (dC, dI) (qT cI cZ cQ) ([(o, .inr (12, [.ref o_book, .ref o_now, .ref o_moults, .ref o_words, .ref o_clashes, .ref o_rocks, .int v_counts, .ref o_count, .int v_signs, .ref o_pad, .int v_readMany, .int v_signedAll, .int v_reason, .int v_acts, .ref o_reached, .ref o_queue, .ref o_got, .long v_waitUp, .long v_waitLow, .ref o_wins, .ref o_image, .ref o_isKept])), (o_book, .inl (cI, 21, .inl v_book)), (o_now, .inl (cI, 21, .inl v_now))]) sz) (qWv (dC, dI) ([(o, .inr (12, [.ref o_book, .ref o_now, .ref o_moults, .ref o_words, .ref o_clashes, .ref o_rocks, .int v_counts, .ref o_count, .int v_signs, .ref o_pad, .int w_readMany, .int w_signedAll, .int v_reason, .int v_acts, .ref o_reached, .ref o_queue, .ref o_got, .long v_waitUp, .long v_waitLow, .ref o_wins, .ref o_image, .ref o_isKept])), (o_book, .inl (cI, 21, .inl v_book)), (o_now, .inl (cI, 21, .inl w_now))]) (va_A ([(o, .inr (12, [.ref o_book, .ref o_now, .ref o_moults, .ref o_words, .ref o_clashes, .ref o_rocks, .int v_counts, .ref o_count, .int v_signs, .ref o_pad, .int v_readMany, .int v_signedAll, .int v_reason, .int v_acts, .ref o_reached, .ref o_queue, .ref o_got, .long v_waitUp, .long v_waitLow, .ref o_wins, .ref o_image, .ref o_isKept])), (o_book, .inl (cI, 21, .inl v_book)), (o_now, .inl (cI, 21, .inl v_now))]) sz)) 0 0 (va_A ([(o, .inr (12, [.ref o_book, .ref o_now, .ref o_moults, .ref o_words, .ref o_clashes, .ref o_rocks, .int v_counts, .ref o_count, .int v_signs, .ref o_pad, .int v_readMany, .int v_signedAll, .int v_reason, .int v_acts, .ref o_reached, .ref o_queue, .ref o_got, .long v_waitUp, .long v_waitLow, .ref o_wins, .ref o_image, .ref o_isKept])), (o_book, .inl (cI, 21, .inl v_book)), (o_now, .inl (cI, 21, .inl v_now))]) sz) := by
  refine q_met_w (Qc := fun A => qWv (dC, dI) ([(o, .inr (12, [.ref o_book, .ref o_now, .ref o_moults, .ref o_words, .ref o_clashes, .ref o_rocks, .int v_counts, .ref o_count, .int v_signs, .ref o_pad, .int w_readMany, .int w_signedAll, .int v_reason, .int v_acts, .ref o_reached, .ref o_queue, .ref o_got, .long v_waitUp, .long v_waitLow, .ref o_wins, .ref o_image, .ref o_isKept])), (o_book, .inl (cI, 21, .inl v_book)), (o_now, .inl (cI, 21, .inl w_now))]) A) (cc := cX12_asNow) (own := RX12) (maxL := 2) (ret := none) (lv0 := [(0, .ref o)]) (by decide) rfl rfl rfl (Nat.le_of_ble_eq_true rfl) ?_
  intro p e s m args below meth c A hA C hr hnm Q hQ
  have lk0 : Cond.fieldLink RX12 13 "SealStraitModel" "now" "[I" ∈ wsX12_asNow := by decide +kernel
  have lk1 : ∀ w ∈ u_ws RX12 TX12 22, w ∈ wsX12_asNow := fun w h => List.mem_cons_of_mem _ (List.mem_append_right _ h)
  have lk2 : Cond.fieldLink RX12 7 "SealStraitModel" "book" "[I" ∈ wsX12_asNow := by decide +kernel
  have lk3 : Cond.fieldLink RX12 77 "SealStraitModel" "readMany" "I" ∈ wsX12_asNow := by decide +kernel
  have lk4 : Cond.fieldLink RX12 80 "SealStraitModel" "signedAll" "I" ∈ wsX12_asNow := by decide +kernel
  have L1 : ∀ (n : Nat) (x1 : Int32) (v_now : Nat → Int32) (v_readMany : Int32) (v_signedAll : Int32) (z_now : Nat → Int32), evr (fun s => b_Model_asNow_1 v_book s.1 s.2) n (x1, v_now) = some z_now → qG p l e ({ frames := 0, cells := 0, slots := 0, locals := 0 } : Room) s m args below meth c 2 (dC, dI) A A Q 0 0 ([(0, .ref o)]) [] ([(o, .inr (12, [.ref o_book, .ref o_now, .ref o_moults, .ref o_words, .ref o_clashes, .ref o_rocks, .int v_counts, .ref o_count, .int v_signs, .ref o_pad, .int v_readMany, .int v_signedAll, .int v_reason, .int v_acts, .ref o_reached, .ref o_queue, .ref o_got, .long v_waitUp, .long v_waitLow, .ref o_wins, .ref o_image, .ref o_isKept])), (o_book, .inl (cI, 21, .inl v_book)), (o_now, .inl (cI, 21, .inl z_now))]) 26 → qG p l e ({ frames := 0, cells := 0, slots := 0, locals := 0 } : Room) s m args below meth c 2 (dC, dI) A A Q 0 0 ([(0, .ref o), (1, .int x1)]) [] ([(o, .inr (12, [.ref o_book, .ref o_now, .ref o_moults, .ref o_words, .ref o_clashes, .ref o_rocks, .int v_counts, .ref o_count, .int v_signs, .ref o_pad, .int v_readMany, .int v_signedAll, .int v_reason, .int v_acts, .ref o_reached, .ref o_queue, .ref o_got, .long v_waitUp, .long v_waitLow, .ref o_wins, .ref o_image, .ref o_isKept])), (o_book, .inl (cI, 21, .inl v_book)), (o_now, .inl (cI, 21, .inl v_now))]) 2 := by
    clear hF
    intro n
    induction n with
    | zero => intro x1 v_now v_readMany v_signedAll z_now hF; exact (evr_0 hF).elim
    | succ n ih =>
      intro x1 v_now v_readMany v_signedAll z_now hF hk
      obtain ⟨o9, hB, hn, hx⟩ := evr_c hF
      have hF : b_Model_asNow_1 v_book x1 v_now = some o9 := hB
      unfold b_Model_asNow_1 at hF
      refine q_iload_n C dX12_asNow_2 1 rfl rfl ?_
      refine q_bipush (v := (21 : Int32)) C dX12_asNow_3 (by decide) ?_
      refine q_icmp_ge (tgt := 26) C dX12_asNow_5 (by decide) (fun c1 => ?_) (fun c1 => ?_)
      · have hF := ite_t hF c1
        cases hF
        have e2 := hx _ rfl
        cases e2
        refine q_lsel [0] rfl ?_
        exact hk
      · have hF := ite_f hF c1
        refine q_aload_n C dX12_asNow_8 0 rfl rfl ?_
        refine q_get (C0 := RX12) (T := TX12) (N := 22) (k0 := 1) C lk1 0 rfl rfl (by decide) lk0 rfl (v := .ref o_now) rfl dX12_asNow_9 ?_
        refine q_iload_n C dX12_asNow_12 1 rfl rfl ?_
        refine q_aload_n C dX12_asNow_13 0 rfl rfl ?_
        refine q_get (C0 := RX12) (T := TX12) (N := 22) (k0 := 0) C lk1 0 rfl rfl (by decide) lk2 rfl (v := .ref o_book) rfl dX12_asNow_14 ?_
        refine q_iload_n C dX12_asNow_17 1 rfl rfl ?_
        obtain ⟨hc3, hF⟩ := ite_c hF
        refine q_iald C 1 0 rfl rfl (ix_in hc3) dX12_asNow_18 ?_
        obtain ⟨hc4, hF⟩ := ite_c hF
        refine q_iast C 2 0 rfl rfl (ix_in hc4) ([(o, .inr (12, [.ref o_book, .ref o_now, .ref o_moults, .ref o_words, .ref o_clashes, .ref o_rocks, .int v_counts, .ref o_count, .int v_signs, .ref o_pad, .int v_readMany, .int v_signedAll, .int v_reason, .int v_acts, .ref o_reached, .ref o_queue, .ref o_got, .long v_waitUp, .long v_waitLow, .ref o_wins, .ref o_image, .ref o_isKept])), (o_book, .inl (cI, 21, .inl v_book)), (o_now, .inl (cI, 21, .inl (upd v_now (x1).toNatClampNeg (v_book (x1).toNatClampNeg))))]) rfl dX12_asNow_19 ?_
        refine q_iinc (v := (x1 + 1)) C ([(1, .int (x1 + 1)), (0, .ref o)]) dX12_asNow_20 1 rfl rfl (by decide) rfl ?_
        refine q_goto (tgt := 2) C dX12_asNow_23 (by decide) ?_
        cases hF
        refine q_lsel [1, 0] rfl ?_
        exact ih (x1 + 1) (upd v_now (x1).toNatClampNeg (v_book (x1).toNatClampNeg)) v_readMany v_signedAll z_now (hn _ rfl) hk
  unfold f_Model_asNow at hF
  refine q_iconst (v := (0 : Int32)) C dX12_asNow_0 (by decide) ?_
  refine q_istore_n C ([(1, .int (0 : Int32)), (0, .ref o)]) dX12_asNow_1 rfl (by decide) rfl ?_
  obtain ⟨z5_now, hc6, hF⟩ := bind_c hF
  obtain ⟨n7, hc6⟩ := (ev_iff _ _ _).mp hc6
  refine q_lsel [1, 0] rfl ?_
  refine L1 n7 (0 : Int32) v_now v_readMany v_signedAll z5_now hc6 ?_
  refine q_aload_n C dX12_asNow_26 0 rfl rfl ?_
  refine q_iconst (v := (0 : Int32)) C dX12_asNow_27 (by decide) ?_
  refine q_put (C0 := RX12) (T := TX12) (N := 22) (k0 := 10) C lk1 0 rfl rfl (by decide) lk3 rfl tyX12 tyX12_ok nmX12 rfl (v := .int (0 : Int32)) rfl rfl (Nat.le_of_ble_eq_true rfl) ([(o, .inr (12, [.ref o_book, .ref o_now, .ref o_moults, .ref o_words, .ref o_clashes, .ref o_rocks, .int v_counts, .ref o_count, .int v_signs, .ref o_pad, .int (0 : Int32), .int v_signedAll, .int v_reason, .int v_acts, .ref o_reached, .ref o_queue, .ref o_got, .long v_waitUp, .long v_waitLow, .ref o_wins, .ref o_image, .ref o_isKept])), (o_book, .inl (cI, 21, .inl v_book)), (o_now, .inl (cI, 21, .inl z5_now))]) rfl dX12_asNow_28 ?_
  refine q_aload_n C dX12_asNow_31 0 rfl rfl ?_
  refine q_bipush (v := (63 : Int32)) C dX12_asNow_32 (by decide) ?_
  refine q_put (C0 := RX12) (T := TX12) (N := 22) (k0 := 11) C lk1 0 rfl rfl (by decide) lk4 rfl tyX12 tyX12_ok nmX12 rfl (v := .int (63 : Int32)) rfl rfl (Nat.le_of_ble_eq_true rfl) ([(o, .inr (12, [.ref o_book, .ref o_now, .ref o_moults, .ref o_words, .ref o_clashes, .ref o_rocks, .int v_counts, .ref o_count, .int v_signs, .ref o_pad, .int (0 : Int32), .int (63 : Int32), .int v_reason, .int v_acts, .ref o_reached, .ref o_queue, .ref o_got, .long v_waitUp, .long v_waitLow, .ref o_wins, .ref o_image, .ref o_isKept])), (o_book, .inl (cI, 21, .inl v_book)), (o_now, .inl (cI, 21, .inl z5_now))]) rfl dX12_asNow_34 ?_
  cases hF
  exact q_wretv C hr dX12_asNow_37 hQ
set_option maxRecDepth 100000 in
set_option maxHeartbeats 4000000 in
theorem c_X12_stands (l : Launch) (dC : Nat → ClassId) (dI : Nat → Nat → Nat) (cI cZ cQ : ClassId) (o o_now o_book o_moults o_words o_clashes o_rocks o_count o_pad o_reached o_queue o_got o_wins o_image o_isKept : Nat) (v_now : Nat → Int32) (v_counts : Int32) (v_signs : Int32) (v_readMany : Int32) (v_signedAll : Int32) (v_reason : Int32) (v_acts : Int32) (v_waitUp : Int64) (v_waitLow : Int64) (p1 : Int32) (R : Int32) (hF : f_Model_stands v_now p1 = R) (sz : Nat) : Met l yX12_stands wsX12_stands ({ frames := 1, cells := 0, slots := 0, locals := 22 } : Room) (qPc ([.ref o, .int p1]) (dC, dI) (qT cI cZ cQ) ([(o, .inr (12, [.ref o_book, .ref o_now, .ref o_moults, .ref o_words, .ref o_clashes, .ref o_rocks, .int v_counts, .ref o_count, .int v_signs, .ref o_pad, .int v_readMany, .int v_signedAll, .int v_reason, .int v_acts, .ref o_reached, .ref o_queue, .ref o_got, .long v_waitUp, .long v_waitLow, .ref o_wins, .ref o_image, .ref o_isKept])), (o_now, .inl (cI, 21, .inl v_now))]) sz) (qRz R) 0 0 (fun _ => False) := by
  refine q_met_r (cc := cX12_stands) (own := RX12) (maxL := 2) (ret := (some .boolean)) (lv0 := [(0, .ref o), (1, .int p1)]) (by decide) rfl rfl rfl (Nat.le_of_ble_eq_true rfl) ?_
  intro p e s m args below meth c C hr A A' Q hA0 hQ
  have lk0 : Cond.fieldLink RX12 13 "SealStraitModel" "now" "[I" ∈ wsX12_stands := by decide +kernel
  have lk1 : ∀ w ∈ u_ws RX12 TX12 22, w ∈ wsX12_stands := fun w h => List.mem_cons_of_mem _ (List.mem_append_right _ h)
  unfold f_Model_stands at hF
  refine q_iload_n C dX12_stands_0 1 rfl rfl ?_
  refine q_iconst (v := (0 : Int32)) C dX12_stands_1 (by decide) ?_
  refine q_iconst (v := (5 : Int32)) C dX12_stands_2 (by decide) ?_
  refine q_roz (q_runS (As := [.int p1, .int (0 : Int32), .int (5 : Int32)]) (rest := []) C (fun sz => c_X12_in l dC dI cI cZ cQ p1 (0 : Int32) (5 : Int32) (f_Model_in p1 (0 : Int32) (5 : Int32)) rfl sz) (va_cwS 3 C.2.2.2.2.1 gX12_stands_X12_in rfl rfl rfl (by decide +kernel) ⟨Nat.le_of_ble_eq_true rfl, Nat.le_of_ble_eq_true rfl⟩) [] rfl rfl rfl rfl (Nat.le_of_ble_eq_true rfl) dX12_stands_3 ⟨Nat.zero_le _, Nat.zero_le _⟩) (fun hz1 => ?_)
  refine q_if_eq (tgt := 27) C dX12_stands_6 (by decide) (fun c2 => ?_) (fun c2 => ?_)
  · have hF := ite_t hF c2
    refine q_iconst (v := (0 : Int32)) C dX12_stands_27 (by decide) ?_
    subst hF
    exact q_iretz C hA0 hr (Or.inl rfl) dX12_stands_28 hQ
  · have hF := ite_f hF c2
    refine q_aload_n C dX12_stands_9 0 rfl rfl ?_
    refine q_get (C0 := RX12) (T := TX12) (N := 22) (k0 := 1) C lk1 0 rfl rfl (by decide) lk0 rfl (v := .ref o_now) rfl dX12_stands_10 ?_
    refine q_bipush (v := (18 : Int32)) C dX12_stands_13 (by decide) ?_
    refine q_iald C 1 0 rfl rfl (ix_in (by decide)) dX12_stands_15 ?_
    refine q_iload_n C dX12_stands_16 1 rfl rfl ?_
    refine q_roz (q_runS (As := [.int (v_now ((18 : Int32)).toNatClampNeg), .int p1]) (rest := []) C (fun sz => c_X12_has l dC dI cI cZ cQ (v_now ((18 : Int32)).toNatClampNeg) p1 (f_Model_has (v_now ((18 : Int32)).toNatClampNeg) p1) rfl sz) (va_cwS 2 C.2.2.2.2.1 gX12_stands_X12_has rfl rfl rfl (by decide +kernel) ⟨Nat.le_of_ble_eq_true rfl, Nat.le_of_ble_eq_true rfl⟩) [] rfl rfl rfl rfl (Nat.le_of_ble_eq_true rfl) dX12_stands_17 ⟨Nat.zero_le _, Nat.zero_le _⟩) (fun hz3 => ?_)
    refine q_if_eq (tgt := 27) C dX12_stands_20 (by decide) (fun c4 => ?_) (fun c4 => ?_)
    · have hF := ite_t hF c4
      refine q_iconst (v := (0 : Int32)) C dX12_stands_27 (by decide) ?_
      subst hF
      exact q_iretz C hA0 hr (Or.inl rfl) dX12_stands_28 hQ
    · have hF := ite_f hF c4
      refine q_iconst (v := (1 : Int32)) C dX12_stands_23 (by decide) ?_
      refine q_goto (tgt := 28) C dX12_stands_24 (by decide) ?_
      subst hF
      exact q_iretz C hA0 hr (Or.inr rfl) dX12_stands_28 hQ
set_option maxRecDepth 100000 in
set_option maxHeartbeats 4000000 in
theorem c_X12_wouldSign (l : Launch) (dC : Nat → ClassId) (dI : Nat → Nat → Nat) (cI cZ cQ : ClassId) (o o_now o_moults o_words o_book o_clashes o_rocks o_count o_pad o_reached o_queue o_got o_wins o_image o_isKept : Nat) (v_now : Nat → Int32) (v_moults : Nat → Int32) (v_words : Nat → Int32) (v_counts : Int32) (v_signs : Int32) (v_readMany : Int32) (v_signedAll : Int32) (v_reason : Int32) (v_acts : Int32) (v_waitUp : Int64) (v_waitLow : Int64) (p1 : Int32) (p2 : Int32) (R : Int32) (hF : f_Model_wouldSign v_now v_moults v_words p1 p2 = some R) (sz : Nat) : Met l yX12_wouldSign wsX12_wouldSign ({ frames := 2, cells := 0, slots := 0, locals := 43 } : Room) (qPc ([.ref o, .int p1, .int p2]) (dC, dI) (qT cI cZ cQ) ([(o, .inr (12, [.ref o_book, .ref o_now, .ref o_moults, .ref o_words, .ref o_clashes, .ref o_rocks, .int v_counts, .ref o_count, .int v_signs, .ref o_pad, .int v_readMany, .int v_signedAll, .int v_reason, .int v_acts, .ref o_reached, .ref o_queue, .ref o_got, .long v_waitUp, .long v_waitLow, .ref o_wins, .ref o_image, .ref o_isKept])), (o_now, .inl (cI, 21, .inl v_now)), (o_moults, .inl (cI, 6, .inl v_moults)), (o_words, .inl (cI, 10, .inl v_words))]) sz) (qRz R) 0 0 (fun _ => False) := by
  refine q_met_r (cc := cX12_wouldSign) (own := RX12) (maxL := 3) (ret := (some .boolean)) (lv0 := [(0, .ref o), (1, .int p1), (2, .int p2)]) (by decide) rfl rfl rfl (Nat.le_of_ble_eq_true rfl) ?_
  intro p e s m args below meth c C hr A A' Q hA0 hQ
  have lk0 : Cond.fieldLink RX12 13 "SealStraitModel" "now" "[I" ∈ wsX12_wouldSign := by decide +kernel
  have lk1 : ∀ w ∈ u_ws RX12 TX12 22, w ∈ wsX12_wouldSign := fun w h => List.mem_cons_of_mem _ (List.mem_append_right _ h)
  have lk2 : Cond.fieldLink RX12 16 "SealStraitModel" "moults" "[I" ∈ wsX12_wouldSign := by decide +kernel
  have lk3 : Cond.fieldLink RX12 19 "SealStraitModel" "words" "[I" ∈ wsX12_wouldSign := by decide +kernel
  unfold f_Model_wouldSign at hF
  refine q_aload_n C dX12_wouldSign_0 0 rfl rfl ?_
  refine q_iload_n C dX12_wouldSign_1 1 rfl rfl ?_
  refine q_roz (q_runV (As := [.int p1]) (rest := []) C (fun sz => c_X12_stands l dC dI cI cZ cQ o o_now o_book o_moults o_words o_clashes o_rocks o_count o_pad o_reached o_queue o_got o_wins o_image o_isKept v_now v_counts v_signs v_readMany v_signedAll v_reason v_acts v_waitUp v_waitLow p1 (f_Model_stands v_now p1) rfl sz) (cwV 1 C.2.2.2.2.1 gX12_wouldSign_X12_stands rfl rfl rfl (by decide +kernel) ⟨Nat.le_of_ble_eq_true rfl, Nat.le_of_ble_eq_true rfl⟩) 0 rfl rfl rfl [0, 1] rfl rfl rfl rfl (Nat.le_of_ble_eq_true rfl) dX12_wouldSign_2 ⟨Nat.zero_le _, Nat.zero_le _⟩) (fun hz1 => ?_)
  refine q_if_eq (tgt := 58) C dX12_wouldSign_5 (by decide) (fun c2 => ?_) (fun c2 => ?_)
  · have hF := ite_t hF c2
    refine q_iconst (v := (0 : Int32)) C dX12_wouldSign_58 (by decide) ?_
    cases hF
    exact q_iretz C hA0 hr (Or.inl rfl) dX12_wouldSign_59 hQ
  · have hF := ite_f hF c2
    refine q_aload_n C dX12_wouldSign_8 0 rfl rfl ?_
    refine q_get (C0 := RX12) (T := TX12) (N := 22) (k0 := 1) C lk1 0 rfl rfl (by decide) lk0 rfl (v := .ref o_now) rfl dX12_wouldSign_9 ?_
    refine q_bipush (v := (20 : Int32)) C dX12_wouldSign_12 (by decide) ?_
    refine q_iald C 1 0 rfl rfl (ix_in (by decide)) dX12_wouldSign_14 ?_
    refine q_bipush (v := (12 : Int32)) C dX12_wouldSign_15 (by decide) ?_
    refine q_irem C dX12_wouldSign_17 (by decide) ?_
    refine q_aload_n C dX12_wouldSign_18 0 rfl rfl ?_
    refine q_get (C0 := RX12) (T := TX12) (N := 22) (k0 := 2) C lk1 0 rfl rfl (by decide) lk2 rfl (v := .ref o_moults) rfl dX12_wouldSign_19 ?_
    refine q_iload_n C dX12_wouldSign_22 1 rfl rfl ?_
    obtain ⟨hc3, hF⟩ := ite_c hF
    refine q_iald C 2 0 rfl rfl (ix_in hc3) dX12_wouldSign_23 ?_
    refine q_icmp_eq (tgt := 58) C dX12_wouldSign_24 (by decide) (fun c4 => ?_) (fun c4 => ?_)
    · have hF := ite_t hF c4
      refine q_iconst (v := (0 : Int32)) C dX12_wouldSign_58 (by decide) ?_
      cases hF
      exact q_iretz C hA0 hr (Or.inl rfl) dX12_wouldSign_59 hQ
    · have hF := ite_f hF c4
      refine q_aload_n C dX12_wouldSign_27 0 rfl rfl ?_
      refine q_get (C0 := RX12) (T := TX12) (N := 22) (k0 := 1) C lk1 0 rfl rfl (by decide) lk0 rfl (v := .ref o_now) rfl dX12_wouldSign_28 ?_
      refine q_iload_n C dX12_wouldSign_31 1 rfl rfl ?_
      obtain ⟨hc5, hF⟩ := ite_c hF
      refine q_iald C 1 0 rfl rfl (ix_in hc5) dX12_wouldSign_32 ?_
      refine q_if_le (tgt := 58) C dX12_wouldSign_33 (by decide) (fun c6 => ?_) (fun c6 => ?_)
      · have hF := ite_t hF c6
        refine q_iconst (v := (0 : Int32)) C dX12_wouldSign_58 (by decide) ?_
        cases hF
        exact q_iretz C hA0 hr (Or.inl rfl) dX12_wouldSign_59 hQ
      · have hF := ite_f hF c6
        refine q_aload_n C dX12_wouldSign_36 0 rfl rfl ?_
        refine q_get (C0 := RX12) (T := TX12) (N := 22) (k0 := 1) C lk1 0 rfl rfl (by decide) lk0 rfl (v := .ref o_now) rfl dX12_wouldSign_37 ?_
        refine q_bipush (v := (12 : Int32)) C dX12_wouldSign_40 (by decide) ?_
        refine q_iload_n C dX12_wouldSign_42 1 rfl rfl ?_
        refine q_iadd C dX12_wouldSign_43 ?_
        obtain ⟨hc7, hF⟩ := ite_c hF
        refine q_iald C 1 0 rfl rfl (ix_in hc7) dX12_wouldSign_44 ?_
        refine q_aload_n C dX12_wouldSign_45 0 rfl rfl ?_
        refine q_get (C0 := RX12) (T := TX12) (N := 22) (k0 := 3) C lk1 0 rfl rfl (by decide) lk3 rfl (v := .ref o_words) rfl dX12_wouldSign_46 ?_
        refine q_iload_n C dX12_wouldSign_49 2 rfl rfl ?_
        obtain ⟨hc8, hF⟩ := ite_c hF
        refine q_iald C 3 0 rfl rfl (ix_in hc8) dX12_wouldSign_50 ?_
        refine q_icmp_lt (tgt := 58) C dX12_wouldSign_51 (by decide) (fun c9 => ?_) (fun c9 => ?_)
        · have hF := ite_t hF c9
          refine q_iconst (v := (0 : Int32)) C dX12_wouldSign_58 (by decide) ?_
          cases hF
          exact q_iretz C hA0 hr (Or.inl rfl) dX12_wouldSign_59 hQ
        · have hF := ite_f hF c9
          refine q_iconst (v := (1 : Int32)) C dX12_wouldSign_54 (by decide) ?_
          refine q_goto (tgt := 59) C dX12_wouldSign_55 (by decide) ?_
          cases hF
          exact q_iretz C hA0 hr (Or.inr rfl) dX12_wouldSign_59 hQ
set_option maxRecDepth 100000 in
set_option maxHeartbeats 4000000 in
theorem c_X12_signers (l : Launch) (dC : Nat → ClassId) (dI : Nat → Nat → Nat) (cI cZ cQ : ClassId) (o o_now o_moults o_words o_book o_clashes o_rocks o_count o_pad o_reached o_queue o_got o_wins o_image o_isKept : Nat) (v_now : Nat → Int32) (v_moults : Nat → Int32) (v_words : Nat → Int32) (v_counts : Int32) (v_signs : Int32) (v_readMany : Int32) (v_signedAll : Int32) (v_reason : Int32) (v_acts : Int32) (v_waitUp : Int64) (v_waitLow : Int64) (p1 : Int32) (R : Int32) (hF : f_Model_signers v_now v_moults v_words p1 = some R) (sz : Nat) : Met l yX12_signers wsX12_signers ({ frames := 3, cells := 0, slots := 0, locals := 65 } : Room) (qPc ([.ref o, .int p1]) (dC, dI) (qT cI cZ cQ) ([(o, .inr (12, [.ref o_book, .ref o_now, .ref o_moults, .ref o_words, .ref o_clashes, .ref o_rocks, .int v_counts, .ref o_count, .int v_signs, .ref o_pad, .int v_readMany, .int v_signedAll, .int v_reason, .int v_acts, .ref o_reached, .ref o_queue, .ref o_got, .long v_waitUp, .long v_waitLow, .ref o_wins, .ref o_image, .ref o_isKept])), (o_now, .inl (cI, 21, .inl v_now)), (o_moults, .inl (cI, 6, .inl v_moults)), (o_words, .inl (cI, 10, .inl v_words))]) sz) (qRi R) 0 0 (fun _ => False) := by
  refine q_met_r (cc := cX12_signers) (own := RX12) (maxL := 4) (ret := (some .int)) (lv0 := [(0, .ref o), (1, .int p1)]) (by decide) rfl rfl rfl (Nat.le_of_ble_eq_true rfl) ?_
  intro p e s m args below meth c C hr A A' Q hA0 hQ
  have L1 : ∀ (n : Nat) (x1 : Int32) (x2 : Int32) (x3 : Int32) (y2 : Int32), evr (fun s => b_Model_signers_1 x1 v_now v_moults v_words s.1 s.2) n (x2, x3) = some y2 → qG p l e ({ frames := 3, cells := 0, slots := 0, locals := 65 } : Room) s m args below meth c 4 (dC, dI) A A' Q 0 0 ([(2, .int y2)]) [] ([(o, .inr (12, [.ref o_book, .ref o_now, .ref o_moults, .ref o_words, .ref o_clashes, .ref o_rocks, .int v_counts, .ref o_count, .int v_signs, .ref o_pad, .int v_readMany, .int v_signedAll, .int v_reason, .int v_acts, .ref o_reached, .ref o_queue, .ref o_got, .long v_waitUp, .long v_waitLow, .ref o_wins, .ref o_image, .ref o_isKept])), (o_now, .inl (cI, 21, .inl v_now)), (o_moults, .inl (cI, 6, .inl v_moults)), (o_words, .inl (cI, 10, .inl v_words))]) 35 → qG p l e ({ frames := 3, cells := 0, slots := 0, locals := 65 } : Room) s m args below meth c 4 (dC, dI) A A' Q 0 0 ([(0, .ref o), (1, .int x1), (2, .int x2), (3, .int x3)]) [] ([(o, .inr (12, [.ref o_book, .ref o_now, .ref o_moults, .ref o_words, .ref o_clashes, .ref o_rocks, .int v_counts, .ref o_count, .int v_signs, .ref o_pad, .int v_readMany, .int v_signedAll, .int v_reason, .int v_acts, .ref o_reached, .ref o_queue, .ref o_got, .long v_waitUp, .long v_waitLow, .ref o_wins, .ref o_image, .ref o_isKept])), (o_now, .inl (cI, 21, .inl v_now)), (o_moults, .inl (cI, 6, .inl v_moults)), (o_words, .inl (cI, 10, .inl v_words))]) 4 := by
    clear hF
    intro n
    induction n with
    | zero => intro x1 x2 x3 y2 hF; exact (evr_0 hF).elim
    | succ n ih =>
      intro x1 x2 x3 y2 hF hk
      obtain ⟨o9, hB, hn, hx⟩ := evr_c hF
      have hF : b_Model_signers_1 x1 v_now v_moults v_words x2 x3 = some o9 := hB
      unfold b_Model_signers_1 at hF
      refine q_iload_n C dX12_signers_4 3 rfl rfl ?_
      refine q_bipush (v := (6 : Int32)) C dX12_signers_5 (by decide) ?_
      refine q_icmp_ge (tgt := 35) C dX12_signers_7 (by decide) (fun c1 => ?_) (fun c1 => ?_)
      · have hF := ite_t hF c1
        cases hF
        have e2 := hx _ rfl
        cases e2
        refine q_lsel [2] rfl ?_
        exact hk
      · have hF := ite_f hF c1
        refine q_iload_n C dX12_signers_10 2 rfl rfl ?_
        refine q_aload_n C dX12_signers_11 0 rfl rfl ?_
        refine q_iload_n C dX12_signers_12 3 rfl rfl ?_
        refine q_iload_n C dX12_signers_13 1 rfl rfl ?_
        obtain ⟨r3, hc4, hF⟩ := bind_c hF
        refine q_roz (q_runV (As := [.int x3, .int x1]) (rest := [.int x2]) C (fun sz => c_X12_wouldSign l dC dI cI cZ cQ o o_now o_moults o_words o_book o_clashes o_rocks o_count o_pad o_reached o_queue o_got o_wins o_image o_isKept v_now v_moults v_words v_counts v_signs v_readMany v_signedAll v_reason v_acts v_waitUp v_waitLow x3 x1 r3 hc4 sz) (cwV 2 C.2.2.2.2.1 gX12_signers_X12_wouldSign rfl rfl rfl (by decide +kernel) ⟨Nat.le_of_ble_eq_true rfl, Nat.le_of_ble_eq_true rfl⟩) 0 rfl rfl rfl [0, 1, 2, 3] rfl rfl rfl rfl (Nat.le_of_ble_eq_true rfl) dX12_signers_14 ⟨Nat.zero_le _, Nat.zero_le _⟩) (fun hz3 => ?_)
        refine q_if_eq (tgt := 26) C dX12_signers_17 (by decide) (fun c5 => ?_) (fun c5 => ?_)
        · have hF := ite_t hF c5
          refine q_iconst (v := (0 : Int32)) C dX12_signers_26 (by decide) ?_
          refine q_ior C dX12_signers_27 ?_
          refine q_istore_n C ([(2, .int (x2 ||| (0 : Int32))), (0, .ref o), (1, .int x1), (3, .int x3)]) dX12_signers_28 rfl (by decide) rfl ?_
          refine q_iinc (v := (x3 + 1)) C ([(3, .int (x3 + 1)), (2, .int (x2 ||| (0 : Int32))), (0, .ref o), (1, .int x1)]) dX12_signers_29 3 rfl rfl (by decide) rfl ?_
          refine q_goto (tgt := 4) C dX12_signers_32 (by decide) ?_
          cases hF
          refine q_lsel [2, 3, 1, 0] rfl ?_
          exact ih x1 (x2 ||| (0 : Int32)) (x3 + 1) y2 (hn _ rfl) hk
        · have hF := ite_f hF c5
          refine q_iconst (v := (1 : Int32)) C dX12_signers_20 (by decide) ?_
          refine q_iload_n C dX12_signers_21 3 rfl rfl ?_
          refine q_ishl C dX12_signers_22 ?_
          refine q_goto (tgt := 27) C dX12_signers_23 (by decide) ?_
          refine q_ior C dX12_signers_27 ?_
          refine q_istore_n C ([(2, .int (x2 ||| ((1 : Int32) <<< (x3 &&& 31)))), (0, .ref o), (1, .int x1), (3, .int x3)]) dX12_signers_28 rfl (by decide) rfl ?_
          refine q_iinc (v := (x3 + 1)) C ([(3, .int (x3 + 1)), (2, .int (x2 ||| ((1 : Int32) <<< (x3 &&& 31)))), (0, .ref o), (1, .int x1)]) dX12_signers_29 3 rfl rfl (by decide) rfl ?_
          refine q_goto (tgt := 4) C dX12_signers_32 (by decide) ?_
          cases hF
          refine q_lsel [2, 3, 1, 0] rfl ?_
          exact ih x1 (x2 ||| ((1 : Int32) <<< (x3 &&& 31))) (x3 + 1) y2 (hn _ rfl) hk
  unfold f_Model_signers at hF
  refine q_iconst (v := (0 : Int32)) C dX12_signers_0 (by decide) ?_
  refine q_istore_n C ([(2, .int (0 : Int32)), (0, .ref o), (1, .int p1)]) dX12_signers_1 rfl (by decide) rfl ?_
  refine q_iconst (v := (0 : Int32)) C dX12_signers_2 (by decide) ?_
  refine q_istore_n C ([(3, .int (0 : Int32)), (2, .int (0 : Int32)), (0, .ref o), (1, .int p1)]) dX12_signers_3 rfl (by decide) rfl ?_
  obtain ⟨y2_6, hc7, hF⟩ := bind_c hF
  obtain ⟨n8, hc7⟩ := (ev_iff _ _ _).mp hc7
  refine q_lsel [2, 3, 1, 0] rfl ?_
  refine L1 n8 p1 (0 : Int32) (0 : Int32) y2_6 hc7 ?_
  refine q_iload_n C dX12_signers_35 0 rfl rfl ?_
  cases hF
  exact q_ireti C hA0 hr dX12_signers_36 hQ
set_option maxRecDepth 100000 in
set_option maxHeartbeats 4000000 in
theorem c_X12_cheer (l : Launch) (dC : Nat → ClassId) (dI : Nat → Nat → Nat) (cI cZ cQ : ClassId) (o o_now o_book o_moults o_words o_clashes o_rocks o_count o_pad o_reached o_queue o_got o_wins o_image o_isKept : Nat) (v_now : Nat → Int32) (v_counts : Int32) (v_signs : Int32) (v_readMany : Int32) (v_signedAll : Int32) (v_reason : Int32) (v_acts : Int32) (v_waitUp : Int64) (v_waitLow : Int64) (p1 : Int32) (p2 : Int32) (w_now : Nat → Int32) (hF : f_Model_cheer v_now p1 p2 = some w_now) (sz : Nat) : Met l yX12_cheer wsX12_cheer ({ frames := 0, cells := 0, slots := 0, locals := 0 } : Room) (qPc ([.ref o, .int p1, .int p2]) (dC, dI) (qT cI cZ cQ) ([(o, .inr (12, [.ref o_book, .ref o_now, .ref o_moults, .ref o_words, .ref o_clashes, .ref o_rocks, .int v_counts, .ref o_count, .int v_signs, .ref o_pad, .int v_readMany, .int v_signedAll, .int v_reason, .int v_acts, .ref o_reached, .ref o_queue, .ref o_got, .long v_waitUp, .long v_waitLow, .ref o_wins, .ref o_image, .ref o_isKept])), (o_now, .inl (cI, 21, .inl v_now))]) sz) (qWv (dC, dI) ([(o, .inr (12, [.ref o_book, .ref o_now, .ref o_moults, .ref o_words, .ref o_clashes, .ref o_rocks, .int v_counts, .ref o_count, .int v_signs, .ref o_pad, .int v_readMany, .int v_signedAll, .int v_reason, .int v_acts, .ref o_reached, .ref o_queue, .ref o_got, .long v_waitUp, .long v_waitLow, .ref o_wins, .ref o_image, .ref o_isKept])), (o_now, .inl (cI, 21, .inl w_now))]) (va_A ([(o, .inr (12, [.ref o_book, .ref o_now, .ref o_moults, .ref o_words, .ref o_clashes, .ref o_rocks, .int v_counts, .ref o_count, .int v_signs, .ref o_pad, .int v_readMany, .int v_signedAll, .int v_reason, .int v_acts, .ref o_reached, .ref o_queue, .ref o_got, .long v_waitUp, .long v_waitLow, .ref o_wins, .ref o_image, .ref o_isKept])), (o_now, .inl (cI, 21, .inl v_now))]) sz)) 0 0 (va_A ([(o, .inr (12, [.ref o_book, .ref o_now, .ref o_moults, .ref o_words, .ref o_clashes, .ref o_rocks, .int v_counts, .ref o_count, .int v_signs, .ref o_pad, .int v_readMany, .int v_signedAll, .int v_reason, .int v_acts, .ref o_reached, .ref o_queue, .ref o_got, .long v_waitUp, .long v_waitLow, .ref o_wins, .ref o_image, .ref o_isKept])), (o_now, .inl (cI, 21, .inl v_now))]) sz) := by
  refine q_met_w (Qc := fun A => qWv (dC, dI) ([(o, .inr (12, [.ref o_book, .ref o_now, .ref o_moults, .ref o_words, .ref o_clashes, .ref o_rocks, .int v_counts, .ref o_count, .int v_signs, .ref o_pad, .int v_readMany, .int v_signedAll, .int v_reason, .int v_acts, .ref o_reached, .ref o_queue, .ref o_got, .long v_waitUp, .long v_waitLow, .ref o_wins, .ref o_image, .ref o_isKept])), (o_now, .inl (cI, 21, .inl w_now))]) A) (cc := cX12_cheer) (own := RX12) (maxL := 3) (ret := none) (lv0 := [(0, .ref o), (1, .int p1), (2, .int p2)]) (by decide) rfl rfl rfl (Nat.le_of_ble_eq_true rfl) ?_
  intro p e s m args below meth c A hA C hr hnm Q hQ
  have lk0 : Cond.fieldLink RX12 13 "SealStraitModel" "now" "[I" ∈ wsX12_cheer := by decide +kernel
  have lk1 : ∀ w ∈ u_ws RX12 TX12 22, w ∈ wsX12_cheer := fun w h => List.mem_cons_of_mem _ (List.mem_append_right _ h)
  unfold f_Model_cheer at hF
  refine q_aload_n C dX12_cheer_0 0 rfl rfl ?_
  refine q_get (C0 := RX12) (T := TX12) (N := 22) (k0 := 1) C lk1 0 rfl rfl (by decide) lk0 rfl (v := .ref o_now) rfl dX12_cheer_1 ?_
  refine q_bipush (v := (12 : Int32)) C dX12_cheer_4 (by decide) ?_
  refine q_iload_n C dX12_cheer_6 1 rfl rfl ?_
  refine q_iadd C dX12_cheer_7 ?_
  refine q_aload_n C dX12_cheer_8 0 rfl rfl ?_
  refine q_get (C0 := RX12) (T := TX12) (N := 22) (k0 := 1) C lk1 0 rfl rfl (by decide) lk0 rfl (v := .ref o_now) rfl dX12_cheer_9 ?_
  refine q_bipush (v := (12 : Int32)) C dX12_cheer_12 (by decide) ?_
  refine q_iload_n C dX12_cheer_14 1 rfl rfl ?_
  refine q_iadd C dX12_cheer_15 ?_
  obtain ⟨hc1, hF⟩ := ite_c hF
  refine q_iald C 1 0 rfl rfl (ix_in hc1) dX12_cheer_16 ?_
  refine q_iload_n C dX12_cheer_17 2 rfl rfl ?_
  refine q_iadd C dX12_cheer_18 ?_
  refine q_bipush (v := (9 : Int32)) C dX12_cheer_19 (by decide) ?_
  refine q_icmp_le (tgt := 29) C dX12_cheer_21 (by decide) (fun c2 => ?_) (fun c2 => ?_)
  · have hF := ite_t hF c2
    refine q_aload_n C dX12_cheer_29 0 rfl rfl ?_
    refine q_get (C0 := RX12) (T := TX12) (N := 22) (k0 := 1) C lk1 0 rfl rfl (by decide) lk0 rfl (v := .ref o_now) rfl dX12_cheer_30 ?_
    refine q_bipush (v := (12 : Int32)) C dX12_cheer_33 (by decide) ?_
    refine q_iload_n C dX12_cheer_35 1 rfl rfl ?_
    refine q_iadd C dX12_cheer_36 ?_
    obtain ⟨hc3, hF⟩ := ite_c hF
    refine q_iald C 1 0 rfl rfl (ix_in hc3) dX12_cheer_37 ?_
    refine q_iload_n C dX12_cheer_38 2 rfl rfl ?_
    refine q_iadd C dX12_cheer_39 ?_
    obtain ⟨hc4, hF⟩ := ite_c hF
    refine q_iast C 1 0 rfl rfl (ix_in hc4) ([(o, .inr (12, [.ref o_book, .ref o_now, .ref o_moults, .ref o_words, .ref o_clashes, .ref o_rocks, .int v_counts, .ref o_count, .int v_signs, .ref o_pad, .int v_readMany, .int v_signedAll, .int v_reason, .int v_acts, .ref o_reached, .ref o_queue, .ref o_got, .long v_waitUp, .long v_waitLow, .ref o_wins, .ref o_image, .ref o_isKept])), (o_now, .inl (cI, 21, .inl (upd v_now (((12 : Int32) + p1)).toNatClampNeg ((v_now (((12 : Int32) + p1)).toNatClampNeg) + p2))))]) rfl dX12_cheer_40 ?_
    cases hF
    exact q_wretv C hr dX12_cheer_41 hQ
  · have hF := ite_f hF c2
    refine q_bipush (v := (9 : Int32)) C dX12_cheer_24 (by decide) ?_
    refine q_goto (tgt := 40) C dX12_cheer_26 (by decide) ?_
    obtain ⟨hc5, hF⟩ := ite_c hF
    refine q_iast C 1 0 rfl rfl (ix_in hc5) ([(o, .inr (12, [.ref o_book, .ref o_now, .ref o_moults, .ref o_words, .ref o_clashes, .ref o_rocks, .int v_counts, .ref o_count, .int v_signs, .ref o_pad, .int v_readMany, .int v_signedAll, .int v_reason, .int v_acts, .ref o_reached, .ref o_queue, .ref o_got, .long v_waitUp, .long v_waitLow, .ref o_wins, .ref o_image, .ref o_isKept])), (o_now, .inl (cI, 21, .inl (upd v_now (((12 : Int32) + p1)).toNatClampNeg (9 : Int32))))]) rfl dX12_cheer_40 ?_
    cases hF
    exact q_wretv C hr dX12_cheer_41 hQ
set_option maxRecDepth 100000 in
set_option maxHeartbeats 4000000 in
theorem c_X12_read (l : Launch) (dC : Nat → ClassId) (dI : Nat → Nat → Nat) (cI cZ cQ : ClassId) (o o_now o_moults o_words o_book o_clashes o_rocks o_count o_pad o_reached o_queue o_got o_wins o_image o_isKept : Nat) (v_now : Nat → Int32) (v_moults : Nat → Int32) (v_words : Nat → Int32) (v_readMany : Int32) (v_signedAll : Int32) (v_counts : Int32) (v_signs : Int32) (v_reason : Int32) (v_acts : Int32) (v_waitUp : Int64) (v_waitLow : Int64) (p1 : Int32) (R : Int32) (w_now : Nat → Int32) (w_readMany : Int32) (w_signedAll : Int32) (hF : f_Model_read v_now v_moults v_words v_readMany v_signedAll p1 = some (R, w_now, w_readMany, w_signedAll)) (sz : Nat) : Met l yX12_read wsX12_read ({ frames := 4, cells := 0, slots := 0, locals := 88 } : Room) (qPc ([.ref o, .int p1]) (dC, dI) (qT cI cZ cQ) ([(o, .inr (12, [.ref o_book, .ref o_now, .ref o_moults, .ref o_words, .ref o_clashes, .ref o_rocks, .int v_counts, .ref o_count, .int v_signs, .ref o_pad, .int v_readMany, .int v_signedAll, .int v_reason, .int v_acts, .ref o_reached, .ref o_queue, .ref o_got, .long v_waitUp, .long v_waitLow, .ref o_wins, .ref o_image, .ref o_isKept])), (o_now, .inl (cI, 21, .inl v_now)), (o_moults, .inl (cI, 6, .inl v_moults)), (o_words, .inl (cI, 10, .inl v_words))]) sz) (qWi R (dC, dI) ([(o, .inr (12, [.ref o_book, .ref o_now, .ref o_moults, .ref o_words, .ref o_clashes, .ref o_rocks, .int v_counts, .ref o_count, .int v_signs, .ref o_pad, .int w_readMany, .int w_signedAll, .int v_reason, .int v_acts, .ref o_reached, .ref o_queue, .ref o_got, .long v_waitUp, .long v_waitLow, .ref o_wins, .ref o_image, .ref o_isKept])), (o_now, .inl (cI, 21, .inl w_now)), (o_moults, .inl (cI, 6, .inl v_moults)), (o_words, .inl (cI, 10, .inl v_words))]) (va_A ([(o, .inr (12, [.ref o_book, .ref o_now, .ref o_moults, .ref o_words, .ref o_clashes, .ref o_rocks, .int v_counts, .ref o_count, .int v_signs, .ref o_pad, .int v_readMany, .int v_signedAll, .int v_reason, .int v_acts, .ref o_reached, .ref o_queue, .ref o_got, .long v_waitUp, .long v_waitLow, .ref o_wins, .ref o_image, .ref o_isKept])), (o_now, .inl (cI, 21, .inl v_now)), (o_moults, .inl (cI, 6, .inl v_moults)), (o_words, .inl (cI, 10, .inl v_words))]) sz)) 0 0 (va_A ([(o, .inr (12, [.ref o_book, .ref o_now, .ref o_moults, .ref o_words, .ref o_clashes, .ref o_rocks, .int v_counts, .ref o_count, .int v_signs, .ref o_pad, .int v_readMany, .int v_signedAll, .int v_reason, .int v_acts, .ref o_reached, .ref o_queue, .ref o_got, .long v_waitUp, .long v_waitLow, .ref o_wins, .ref o_image, .ref o_isKept])), (o_now, .inl (cI, 21, .inl v_now)), (o_moults, .inl (cI, 6, .inl v_moults)), (o_words, .inl (cI, 10, .inl v_words))]) sz) := by
  refine q_met_w (Qc := fun A => qWi R (dC, dI) ([(o, .inr (12, [.ref o_book, .ref o_now, .ref o_moults, .ref o_words, .ref o_clashes, .ref o_rocks, .int v_counts, .ref o_count, .int v_signs, .ref o_pad, .int w_readMany, .int w_signedAll, .int v_reason, .int v_acts, .ref o_reached, .ref o_queue, .ref o_got, .long v_waitUp, .long v_waitLow, .ref o_wins, .ref o_image, .ref o_isKept])), (o_now, .inl (cI, 21, .inl w_now)), (o_moults, .inl (cI, 6, .inl v_moults)), (o_words, .inl (cI, 10, .inl v_words))]) A) (cc := cX12_read) (own := RX12) (maxL := 4) (ret := (some .int)) (lv0 := [(0, .ref o), (1, .int p1)]) (by decide) rfl rfl rfl (Nat.le_of_ble_eq_true rfl) ?_
  intro p e s m args below meth c A hA C hr hnm Q hQ
  have lk0 : Cond.fieldLink RX12 13 "SealStraitModel" "now" "[I" ∈ wsX12_read := by decide +kernel
  have lk1 : ∀ w ∈ u_ws RX12 TX12 22, w ∈ wsX12_read := fun w h => List.mem_cons_of_mem _ (List.mem_append_right _ h)
  have lk2 : Cond.fieldLink RX12 19 "SealStraitModel" "words" "[I" ∈ wsX12_read := by decide +kernel
  have lk3 : Cond.fieldLink RX12 77 "SealStraitModel" "readMany" "I" ∈ wsX12_read := by decide +kernel
  have lk4 : Cond.fieldLink RX12 80 "SealStraitModel" "signedAll" "I" ∈ wsX12_read := by decide +kernel
  have L1 : ∀ (n : Nat) (x1 : Int32) (x2 : Int32) (x3 : Int32) (v_now : Nat → Int32) (v_readMany : Int32) (v_signedAll : Int32) (z_now : Nat → Int32), evr (fun s => b_Model_read_1 x1 x2 v_words s.1 s.2) n (x3, v_now) = some z_now → qG p l e ({ frames := 4, cells := 0, slots := 0, locals := 88 } : Room) s m args below meth c 4 (dC, dI) A A Q 0 0 ([(0, .ref o), (2, .int x2)]) [] ([(o, .inr (12, [.ref o_book, .ref o_now, .ref o_moults, .ref o_words, .ref o_clashes, .ref o_rocks, .int v_counts, .ref o_count, .int v_signs, .ref o_pad, .int v_readMany, .int v_signedAll, .int v_reason, .int v_acts, .ref o_reached, .ref o_queue, .ref o_got, .long v_waitUp, .long v_waitLow, .ref o_wins, .ref o_image, .ref o_isKept])), (o_now, .inl (cI, 21, .inl z_now)), (o_moults, .inl (cI, 6, .inl v_moults)), (o_words, .inl (cI, 10, .inl v_words))]) 89 → qG p l e ({ frames := 4, cells := 0, slots := 0, locals := 88 } : Room) s m args below meth c 4 (dC, dI) A A Q 0 0 ([(0, .ref o), (1, .int x1), (2, .int x2), (3, .int x3)]) [] ([(o, .inr (12, [.ref o_book, .ref o_now, .ref o_moults, .ref o_words, .ref o_clashes, .ref o_rocks, .int v_counts, .ref o_count, .int v_signs, .ref o_pad, .int v_readMany, .int v_signedAll, .int v_reason, .int v_acts, .ref o_reached, .ref o_queue, .ref o_got, .long v_waitUp, .long v_waitLow, .ref o_wins, .ref o_image, .ref o_isKept])), (o_now, .inl (cI, 21, .inl v_now)), (o_moults, .inl (cI, 6, .inl v_moults)), (o_words, .inl (cI, 10, .inl v_words))]) 14 := by
    clear hF
    intro n
    induction n with
    | zero => intro x1 x2 x3 v_now v_readMany v_signedAll z_now hF; exact (evr_0 hF).elim
    | succ n ih =>
      intro x1 x2 x3 v_now v_readMany v_signedAll z_now hF hk
      obtain ⟨o9, hB, hn, hx⟩ := evr_c hF
      have hF : b_Model_read_1 x1 x2 v_words x3 v_now = some o9 := hB
      unfold b_Model_read_1 at hF
      refine q_iload_n C dX12_read_14 3 rfl rfl ?_
      refine q_bipush (v := (6 : Int32)) C dX12_read_15 (by decide) ?_
      refine q_icmp_ge (tgt := 89) C dX12_read_17 (by decide) (fun c1 => ?_) (fun c1 => ?_)
      · have hF := ite_t hF c1
        cases hF
        have e2 := hx _ rfl
        cases e2
        refine q_lsel [0, 2] rfl ?_
        exact hk
      · have hF := ite_f hF c1
        refine q_iload_n C dX12_read_20 2 rfl rfl ?_
        refine q_iload_n C dX12_read_21 3 rfl rfl ?_
        refine q_roz (q_runS (As := [.int x2, .int x3]) (rest := []) C (fun sz => c_X12_has l dC dI cI cZ cQ x2 x3 (f_Model_has x2 x3) rfl sz) (va_cwS 2 C.2.2.2.2.1 gX12_read_X12_has rfl rfl rfl (by decide +kernel) ⟨Nat.le_of_ble_eq_true rfl, Nat.le_of_ble_eq_true rfl⟩) [] rfl rfl rfl rfl (Nat.le_of_ble_eq_true rfl) dX12_read_22 ⟨Nat.zero_le _, Nat.zero_le _⟩) (fun hz3 => ?_)
        refine q_if_eq (tgt := 69) C dX12_read_25 (by decide) (fun c4 => ?_) (fun c4 => ?_)
        · have hF := ite_t hF c4
          refine q_aload_n C dX12_read_69 0 rfl rfl ?_
          refine q_iload_n C dX12_read_70 3 rfl rfl ?_
          refine q_roz (q_runV (As := [.int x3]) (rest := []) C (fun sz => c_X12_stands l dC dI cI cZ cQ o o_now o_book o_moults o_words o_clashes o_rocks o_count o_pad o_reached o_queue o_got o_wins o_image o_isKept v_now v_counts v_signs v_readMany v_signedAll v_reason v_acts v_waitUp v_waitLow x3 (f_Model_stands v_now x3) rfl sz) (cwV 1 C.2.2.2.2.1 gX12_read_X12_stands rfl rfl rfl (by decide +kernel) ⟨Nat.le_of_ble_eq_true rfl, Nat.le_of_ble_eq_true rfl⟩) 0 rfl rfl rfl [0, 1] rfl rfl rfl rfl (Nat.le_of_ble_eq_true rfl) dX12_read_71 ⟨Nat.zero_le _, Nat.zero_le _⟩) (fun hz5 => ?_)
          refine q_if_eq (tgt := 83) C dX12_read_74 (by decide) (fun c6 => ?_) (fun c6 => ?_)
          · have hF := ite_t hF c6
            refine q_iinc (v := (x3 + 1)) C ([(3, .int (x3 + 1)), (0, .ref o), (1, .int x1), (2, .int x2)]) dX12_read_83 3 rfl rfl (by decide) rfl ?_
            refine q_goto (tgt := 14) C dX12_read_86 (by decide) ?_
            cases hF
            refine q_lsel [1, 2, 3, 0] rfl ?_
            exact ih x1 x2 (x3 + 1) v_now v_readMany v_signedAll z_now (hn _ rfl) hk
          · have hF := ite_f hF c6
            refine q_aload_n C dX12_read_77 0 rfl rfl ?_
            refine q_iload_n C dX12_read_78 3 rfl rfl ?_
            refine q_iconst (v := (1 : Int32)) C dX12_read_79 (by decide) ?_
            obtain ⟨u7_now, hc8, hF⟩ := bind_c hF
            refine q_rwv hA ([(o, .inr (12, [.ref o_book, .ref o_now, .ref o_moults, .ref o_words, .ref o_clashes, .ref o_rocks, .int v_counts, .ref o_count, .int v_signs, .ref o_pad, .int v_readMany, .int v_signedAll, .int v_reason, .int v_acts, .ref o_reached, .ref o_queue, .ref o_got, .long v_waitUp, .long v_waitLow, .ref o_wins, .ref o_image, .ref o_isKept])), (o_now, .inl (cI, 21, .inl u7_now)), (o_moults, .inl (cI, 6, .inl v_moults)), (o_words, .inl (cI, 10, .inl v_words))]) [0, 1] [2, 3] rfl rfl rfl (by decide) [2, 3, 0, 1] rfl rfl (q_runV (As := [.int x3, .int (1 : Int32)]) (rest := []) C (fun sz => c_X12_cheer l dC dI cI cZ cQ o o_now o_book o_moults o_words o_clashes o_rocks o_count o_pad o_reached o_queue o_got o_wins o_image o_isKept v_now v_counts v_signs v_readMany v_signedAll v_reason v_acts v_waitUp v_waitLow x3 (1 : Int32) u7_now hc8 sz) (cwV 2 C.2.2.2.2.1 gX12_read_X12_cheer rfl rfl rfl (by decide +kernel) ⟨Nat.le_of_ble_eq_true rfl, Nat.le_of_ble_eq_true rfl⟩) 0 rfl rfl rfl [0, 1] rfl rfl rfl rfl (Nat.le_of_ble_eq_true rfl) dX12_read_80 ⟨Nat.zero_le _, Nat.zero_le _⟩) ?_
            refine q_iinc (v := (x3 + 1)) C ([(3, .int (x3 + 1)), (0, .ref o), (1, .int x1), (2, .int x2)]) dX12_read_83 3 rfl rfl (by decide) rfl ?_
            refine q_goto (tgt := 14) C dX12_read_86 (by decide) ?_
            cases hF
            refine q_lsel [1, 2, 3, 0] rfl ?_
            exact ih x1 x2 (x3 + 1) u7_now v_readMany v_signedAll z_now (hn _ rfl) hk
        · have hF := ite_f hF c4
          refine q_aload_n C dX12_read_28 0 rfl rfl ?_
          refine q_get (C0 := RX12) (T := TX12) (N := 22) (k0 := 1) C lk1 0 rfl rfl (by decide) lk0 rfl (v := .ref o_now) rfl dX12_read_29 ?_
          refine q_bipush (v := (6 : Int32)) C dX12_read_32 (by decide) ?_
          refine q_iload_n C dX12_read_34 3 rfl rfl ?_
          refine q_iadd C dX12_read_35 ?_
          refine q_iconst (v := (1 : Int32)) C dX12_read_36 (by decide) ?_
          refine q_aload_n C dX12_read_37 0 rfl rfl ?_
          refine q_get (C0 := RX12) (T := TX12) (N := 22) (k0 := 1) C lk1 0 rfl rfl (by decide) lk0 rfl (v := .ref o_now) rfl dX12_read_38 ?_
          refine q_bipush (v := (6 : Int32)) C dX12_read_41 (by decide) ?_
          refine q_iload_n C dX12_read_43 3 rfl rfl ?_
          refine q_iadd C dX12_read_44 ?_
          obtain ⟨hc9, hF⟩ := ite_c hF
          refine q_iald C 1 0 rfl rfl (ix_in hc9) dX12_read_45 ?_
          refine q_isub C dX12_read_46 ?_
          obtain ⟨hc10, hF⟩ := ite_c hF
          refine q_iast C 1 0 rfl rfl (ix_in hc10) ([(o, .inr (12, [.ref o_book, .ref o_now, .ref o_moults, .ref o_words, .ref o_clashes, .ref o_rocks, .int v_counts, .ref o_count, .int v_signs, .ref o_pad, .int v_readMany, .int v_signedAll, .int v_reason, .int v_acts, .ref o_reached, .ref o_queue, .ref o_got, .long v_waitUp, .long v_waitLow, .ref o_wins, .ref o_image, .ref o_isKept])), (o_now, .inl (cI, 21, .inl (upd v_now (((6 : Int32) + x3)).toNatClampNeg ((1 : Int32) - (v_now (((6 : Int32) + x3)).toNatClampNeg))))), (o_moults, .inl (cI, 6, .inl v_moults)), (o_words, .inl (cI, 10, .inl v_words))]) rfl dX12_read_47 ?_
          refine q_aload_n C dX12_read_48 0 rfl rfl ?_
          refine q_get (C0 := RX12) (T := TX12) (N := 22) (k0 := 1) C lk1 0 rfl rfl (by decide) lk0 rfl (v := .ref o_now) rfl dX12_read_49 ?_
          refine q_bipush (v := (12 : Int32)) C dX12_read_52 (by decide) ?_
          refine q_iload_n C dX12_read_54 3 rfl rfl ?_
          refine q_iadd C dX12_read_55 ?_
          refine q_dup2 C dX12_read_56 rfl rfl ?_
          obtain ⟨hc11, hF⟩ := ite_c hF
          refine q_iald C 1 0 rfl rfl (ix_in hc11) dX12_read_57 ?_
          refine q_aload_n C dX12_read_58 0 rfl rfl ?_
          refine q_get (C0 := RX12) (T := TX12) (N := 22) (k0 := 3) C lk1 0 rfl rfl (by decide) lk2 rfl (v := .ref o_words) rfl dX12_read_59 ?_
          refine q_iload_n C dX12_read_62 1 rfl rfl ?_
          obtain ⟨hc12, hF⟩ := ite_c hF
          refine q_iald C 3 0 rfl rfl (ix_in hc12) dX12_read_63 ?_
          refine q_isub C dX12_read_64 ?_
          obtain ⟨hc13, hF⟩ := ite_c hF
          refine q_iast C 1 0 rfl rfl (ix_in hc13) ([(o, .inr (12, [.ref o_book, .ref o_now, .ref o_moults, .ref o_words, .ref o_clashes, .ref o_rocks, .int v_counts, .ref o_count, .int v_signs, .ref o_pad, .int v_readMany, .int v_signedAll, .int v_reason, .int v_acts, .ref o_reached, .ref o_queue, .ref o_got, .long v_waitUp, .long v_waitLow, .ref o_wins, .ref o_image, .ref o_isKept])), (o_now, .inl (cI, 21, .inl (upd (upd v_now (((6 : Int32) + x3)).toNatClampNeg ((1 : Int32) - (v_now (((6 : Int32) + x3)).toNatClampNeg))) (((12 : Int32) + x3)).toNatClampNeg (((upd v_now (((6 : Int32) + x3)).toNatClampNeg ((1 : Int32) - (v_now (((6 : Int32) + x3)).toNatClampNeg))) (((12 : Int32) + x3)).toNatClampNeg) - (v_words (x1).toNatClampNeg))))), (o_moults, .inl (cI, 6, .inl v_moults)), (o_words, .inl (cI, 10, .inl v_words))]) rfl dX12_read_65 ?_
          refine q_goto (tgt := 83) C dX12_read_66 (by decide) ?_
          refine q_iinc (v := (x3 + 1)) C ([(3, .int (x3 + 1)), (0, .ref o), (1, .int x1), (2, .int x2)]) dX12_read_83 3 rfl rfl (by decide) rfl ?_
          refine q_goto (tgt := 14) C dX12_read_86 (by decide) ?_
          cases hF
          refine q_lsel [1, 2, 3, 0] rfl ?_
          exact ih x1 x2 (x3 + 1) (upd (upd v_now (((6 : Int32) + x3)).toNatClampNeg ((1 : Int32) - (v_now (((6 : Int32) + x3)).toNatClampNeg))) (((12 : Int32) + x3)).toNatClampNeg (((upd v_now (((6 : Int32) + x3)).toNatClampNeg ((1 : Int32) - (v_now (((6 : Int32) + x3)).toNatClampNeg))) (((12 : Int32) + x3)).toNatClampNeg) - (v_words (x1).toNatClampNeg))) v_readMany v_signedAll z_now (hn _ rfl) hk
  unfold f_Model_read at hF
  refine q_aload_n C dX12_read_0 0 rfl rfl ?_
  refine q_iload_n C dX12_read_1 1 rfl rfl ?_
  obtain ⟨r14, hc15, hF⟩ := bind_c hF
  refine q_roi (q_runV (As := [.int p1]) (rest := []) C (fun sz => c_X12_signers l dC dI cI cZ cQ o o_now o_moults o_words o_book o_clashes o_rocks o_count o_pad o_reached o_queue o_got o_wins o_image o_isKept v_now v_moults v_words v_counts v_signs v_readMany v_signedAll v_reason v_acts v_waitUp v_waitLow p1 r14 hc15 sz) (cwV 1 C.2.2.2.2.1 gX12_read_X12_signers rfl rfl rfl (by decide +kernel) ⟨Nat.le_of_ble_eq_true rfl, Nat.le_of_ble_eq_true rfl⟩) 0 rfl rfl rfl [0, 1, 2, 3] rfl rfl rfl rfl (Nat.le_of_ble_eq_true rfl) dX12_read_2 ⟨Nat.zero_le _, Nat.zero_le _⟩) ?_
  refine q_istore_n C ([(2, .int r14), (0, .ref o), (1, .int p1)]) dX12_read_5 rfl (by decide) rfl ?_
  refine q_iload_n C dX12_read_6 0 rfl rfl ?_
  refine q_if_ne (tgt := 12) C dX12_read_7 (by decide) (fun c16 => ?_) (fun c16 => ?_)
  · have hF := ite_f hF c16
    refine q_iconst (v := (0 : Int32)) C dX12_read_12 (by decide) ?_
    refine q_istore_n C ([(3, .int (0 : Int32)), (2, .int r14), (0, .ref o), (1, .int p1)]) dX12_read_13 rfl (by decide) rfl ?_
    obtain ⟨z17_now, hc18, hF⟩ := bind_c hF
    obtain ⟨n19, hc18⟩ := (ev_iff _ _ _).mp hc18
    refine q_lsel [2, 3, 1, 0] rfl ?_
    refine L1 n19 p1 r14 (0 : Int32) v_now v_readMany v_signedAll z17_now hc18 ?_
    refine q_aload_n C dX12_read_89 0 rfl rfl ?_
    refine q_dup C dX12_read_90 rfl ?_
    refine q_get (C0 := RX12) (T := TX12) (N := 22) (k0 := 10) C lk1 0 rfl rfl (by decide) lk3 rfl (v := .int v_readMany) rfl dX12_read_91 ?_
    refine q_iconst (v := (1 : Int32)) C dX12_read_94 (by decide) ?_
    refine q_iadd C dX12_read_95 ?_
    refine q_put (C0 := RX12) (T := TX12) (N := 22) (k0 := 10) C lk1 0 rfl rfl (by decide) lk3 rfl tyX12 tyX12_ok nmX12 rfl (v := .int (v_readMany + (1 : Int32))) rfl rfl (Nat.le_of_ble_eq_true rfl) ([(o, .inr (12, [.ref o_book, .ref o_now, .ref o_moults, .ref o_words, .ref o_clashes, .ref o_rocks, .int v_counts, .ref o_count, .int v_signs, .ref o_pad, .int (v_readMany + (1 : Int32)), .int v_signedAll, .int v_reason, .int v_acts, .ref o_reached, .ref o_queue, .ref o_got, .long v_waitUp, .long v_waitLow, .ref o_wins, .ref o_image, .ref o_isKept])), (o_now, .inl (cI, 21, .inl z17_now)), (o_moults, .inl (cI, 6, .inl v_moults)), (o_words, .inl (cI, 10, .inl v_words))]) rfl dX12_read_96 ?_
    refine q_aload_n C dX12_read_99 0 rfl rfl ?_
    refine q_dup C dX12_read_100 rfl ?_
    refine q_get (C0 := RX12) (T := TX12) (N := 22) (k0 := 11) C lk1 0 rfl rfl (by decide) lk4 rfl (v := .int v_signedAll) rfl dX12_read_101 ?_
    refine q_iload_n C dX12_read_104 1 rfl rfl ?_
    refine q_iand C dX12_read_105 ?_
    refine q_put (C0 := RX12) (T := TX12) (N := 22) (k0 := 11) C lk1 0 rfl rfl (by decide) lk4 rfl tyX12 tyX12_ok nmX12 rfl (v := .int (v_signedAll &&& r14)) rfl rfl (Nat.le_of_ble_eq_true rfl) ([(o, .inr (12, [.ref o_book, .ref o_now, .ref o_moults, .ref o_words, .ref o_clashes, .ref o_rocks, .int v_counts, .ref o_count, .int v_signs, .ref o_pad, .int (v_readMany + (1 : Int32)), .int (v_signedAll &&& r14), .int v_reason, .int v_acts, .ref o_reached, .ref o_queue, .ref o_got, .long v_waitUp, .long v_waitLow, .ref o_wins, .ref o_image, .ref o_isKept])), (o_now, .inl (cI, 21, .inl z17_now)), (o_moults, .inl (cI, 6, .inl v_moults)), (o_words, .inl (cI, 10, .inl v_words))]) rfl dX12_read_106 ?_
    refine q_iconst (v := (0 : Int32)) C dX12_read_109 (by decide) ?_
    cases hF
    exact q_wreti C hr dX12_read_110 hQ
  · have hF := ite_t hF c16
    refine q_iconst (v := (2 : Int32)) C dX12_read_10 (by decide) ?_
    cases hF
    exact q_wreti C hr dX12_read_11 hQ
set_option maxRecDepth 100000 in
set_option maxHeartbeats 4000000 in
theorem c_X12_whistle (l : Launch) (dC : Nat → ClassId) (dI : Nat → Nat → Nat) (cI cZ cQ : ClassId) (o o_now o_book o_moults o_words o_clashes o_rocks o_count o_pad o_reached o_queue o_got o_wins o_image o_isKept : Nat) (v_now : Nat → Int32) (v_counts : Int32) (v_signs : Int32) (v_readMany : Int32) (v_signedAll : Int32) (v_reason : Int32) (v_acts : Int32) (v_waitUp : Int64) (v_waitLow : Int64) (p1 : Int32) (R : Int32) (w_now : Nat → Int32) (hF : f_Model_whistle v_now p1 = some (R, w_now)) (sz : Nat) : Met l yX12_whistle wsX12_whistle ({ frames := 2, cells := 0, slots := 0, locals := 43 } : Room) (qPc ([.ref o, .int p1]) (dC, dI) (qT cI cZ cQ) ([(o, .inr (12, [.ref o_book, .ref o_now, .ref o_moults, .ref o_words, .ref o_clashes, .ref o_rocks, .int v_counts, .ref o_count, .int v_signs, .ref o_pad, .int v_readMany, .int v_signedAll, .int v_reason, .int v_acts, .ref o_reached, .ref o_queue, .ref o_got, .long v_waitUp, .long v_waitLow, .ref o_wins, .ref o_image, .ref o_isKept])), (o_now, .inl (cI, 21, .inl v_now))]) sz) (qWi R (dC, dI) ([(o, .inr (12, [.ref o_book, .ref o_now, .ref o_moults, .ref o_words, .ref o_clashes, .ref o_rocks, .int v_counts, .ref o_count, .int v_signs, .ref o_pad, .int v_readMany, .int v_signedAll, .int v_reason, .int v_acts, .ref o_reached, .ref o_queue, .ref o_got, .long v_waitUp, .long v_waitLow, .ref o_wins, .ref o_image, .ref o_isKept])), (o_now, .inl (cI, 21, .inl w_now))]) (va_A ([(o, .inr (12, [.ref o_book, .ref o_now, .ref o_moults, .ref o_words, .ref o_clashes, .ref o_rocks, .int v_counts, .ref o_count, .int v_signs, .ref o_pad, .int v_readMany, .int v_signedAll, .int v_reason, .int v_acts, .ref o_reached, .ref o_queue, .ref o_got, .long v_waitUp, .long v_waitLow, .ref o_wins, .ref o_image, .ref o_isKept])), (o_now, .inl (cI, 21, .inl v_now))]) sz)) 0 0 (va_A ([(o, .inr (12, [.ref o_book, .ref o_now, .ref o_moults, .ref o_words, .ref o_clashes, .ref o_rocks, .int v_counts, .ref o_count, .int v_signs, .ref o_pad, .int v_readMany, .int v_signedAll, .int v_reason, .int v_acts, .ref o_reached, .ref o_queue, .ref o_got, .long v_waitUp, .long v_waitLow, .ref o_wins, .ref o_image, .ref o_isKept])), (o_now, .inl (cI, 21, .inl v_now))]) sz) := by
  refine q_met_w (Qc := fun A => qWi R (dC, dI) ([(o, .inr (12, [.ref o_book, .ref o_now, .ref o_moults, .ref o_words, .ref o_clashes, .ref o_rocks, .int v_counts, .ref o_count, .int v_signs, .ref o_pad, .int v_readMany, .int v_signedAll, .int v_reason, .int v_acts, .ref o_reached, .ref o_queue, .ref o_got, .long v_waitUp, .long v_waitLow, .ref o_wins, .ref o_image, .ref o_isKept])), (o_now, .inl (cI, 21, .inl w_now))]) A) (cc := cX12_whistle) (own := RX12) (maxL := 2) (ret := (some .int)) (lv0 := [(0, .ref o), (1, .int p1)]) (by decide) rfl rfl rfl (Nat.le_of_ble_eq_true rfl) ?_
  intro p e s m args below meth c A hA C hr hnm Q hQ
  have lk0 : Cond.fieldLink RX12 13 "SealStraitModel" "now" "[I" ∈ wsX12_whistle := by decide +kernel
  have lk1 : ∀ w ∈ u_ws RX12 TX12 22, w ∈ wsX12_whistle := fun w h => List.mem_cons_of_mem _ (List.mem_append_right _ h)
  unfold f_Model_whistle at hF
  refine q_aload_n C dX12_whistle_0 0 rfl rfl ?_
  refine q_iload_n C dX12_whistle_1 1 rfl rfl ?_
  refine q_roz (q_runV (As := [.int p1]) (rest := []) C (fun sz => c_X12_stands l dC dI cI cZ cQ o o_now o_book o_moults o_words o_clashes o_rocks o_count o_pad o_reached o_queue o_got o_wins o_image o_isKept v_now v_counts v_signs v_readMany v_signedAll v_reason v_acts v_waitUp v_waitLow p1 (f_Model_stands v_now p1) rfl sz) (cwV 1 C.2.2.2.2.1 gX12_whistle_X12_stands rfl rfl rfl (by decide +kernel) ⟨Nat.le_of_ble_eq_true rfl, Nat.le_of_ble_eq_true rfl⟩) 0 rfl rfl rfl [0, 1] rfl rfl rfl rfl (Nat.le_of_ble_eq_true rfl) dX12_whistle_2 ⟨Nat.zero_le _, Nat.zero_le _⟩) (fun hz1 => ?_)
  refine q_if_ne (tgt := 10) C dX12_whistle_5 (by decide) (fun c2 => ?_) (fun c2 => ?_)
  · have hF := ite_f hF c2
    refine q_aload_n C dX12_whistle_10 0 rfl rfl ?_
    refine q_get (C0 := RX12) (T := TX12) (N := 22) (k0 := 1) C lk1 0 rfl rfl (by decide) lk0 rfl (v := .ref o_now) rfl dX12_whistle_11 ?_
    refine q_bipush (v := (12 : Int32)) C dX12_whistle_14 (by decide) ?_
    refine q_iload_n C dX12_whistle_16 1 rfl rfl ?_
    refine q_iadd C dX12_whistle_17 ?_
    obtain ⟨hc3, hF⟩ := ite_c hF
    refine q_iald C 1 0 rfl rfl (ix_in hc3) dX12_whistle_18 ?_
    refine q_bipush (v := (9 : Int32)) C dX12_whistle_19 (by decide) ?_
    refine q_icmp_ne (tgt := 26) C dX12_whistle_21 (by decide) (fun c4 => ?_) (fun c4 => ?_)
    · have hF := ite_f hF c4
      refine q_aload_n C dX12_whistle_26 0 rfl rfl ?_
      refine q_iload_n C dX12_whistle_27 1 rfl rfl ?_
      refine q_iconst (v := (3 : Int32)) C dX12_whistle_28 (by decide) ?_
      obtain ⟨u5_now, hc6, hF⟩ := bind_c hF
      refine q_rwv hA ([(o, .inr (12, [.ref o_book, .ref o_now, .ref o_moults, .ref o_words, .ref o_clashes, .ref o_rocks, .int v_counts, .ref o_count, .int v_signs, .ref o_pad, .int v_readMany, .int v_signedAll, .int v_reason, .int v_acts, .ref o_reached, .ref o_queue, .ref o_got, .long v_waitUp, .long v_waitLow, .ref o_wins, .ref o_image, .ref o_isKept])), (o_now, .inl (cI, 21, .inl u5_now))]) [0, 1] [] rfl rfl rfl (by decide) [0, 1] rfl rfl (q_runV (As := [.int p1, .int (3 : Int32)]) (rest := []) C (fun sz => c_X12_cheer l dC dI cI cZ cQ o o_now o_book o_moults o_words o_clashes o_rocks o_count o_pad o_reached o_queue o_got o_wins o_image o_isKept v_now v_counts v_signs v_readMany v_signedAll v_reason v_acts v_waitUp v_waitLow p1 (3 : Int32) u5_now hc6 sz) (cwV 2 C.2.2.2.2.1 gX12_whistle_X12_cheer rfl rfl rfl (by decide +kernel) ⟨Nat.le_of_ble_eq_true rfl, Nat.le_of_ble_eq_true rfl⟩) 0 rfl rfl rfl [0, 1] rfl rfl rfl rfl (Nat.le_of_ble_eq_true rfl) dX12_whistle_29 ⟨Nat.zero_le _, Nat.zero_le _⟩) ?_
      refine q_iconst (v := (0 : Int32)) C dX12_whistle_32 (by decide) ?_
      cases hF
      exact q_wreti C hr dX12_whistle_33 hQ
    · have hF := ite_t hF c4
      refine q_iconst (v := (3 : Int32)) C dX12_whistle_24 (by decide) ?_
      cases hF
      exact q_wreti C hr dX12_whistle_25 hQ
  · have hF := ite_t hF c2
    refine q_iconst (v := (1 : Int32)) C dX12_whistle_8 (by decide) ?_
    cases hF
    exact q_wreti C hr dX12_whistle_9 hQ
set_option maxRecDepth 100000 in
set_option maxHeartbeats 4000000 in
theorem c_X12_net (l : Launch) (dC : Nat → ClassId) (dI : Nat → Nat → Nat) (cI cZ cQ : ClassId) (o o_now o_book o_moults o_words o_clashes o_rocks o_count o_pad o_reached o_queue o_got o_wins o_image o_isKept : Nat) (v_now : Nat → Int32) (v_counts : Int32) (v_signs : Int32) (v_readMany : Int32) (v_signedAll : Int32) (v_reason : Int32) (v_acts : Int32) (v_waitUp : Int64) (v_waitLow : Int64) (p1 : Int32) (R : Int32) (w_now : Nat → Int32) (hF : f_Model_net v_now p1 = some (R, w_now)) (sz : Nat) : Met l yX12_net wsX12_net ({ frames := 2, cells := 0, slots := 0, locals := 43 } : Room) (qPc ([.ref o, .int p1]) (dC, dI) (qT cI cZ cQ) ([(o, .inr (12, [.ref o_book, .ref o_now, .ref o_moults, .ref o_words, .ref o_clashes, .ref o_rocks, .int v_counts, .ref o_count, .int v_signs, .ref o_pad, .int v_readMany, .int v_signedAll, .int v_reason, .int v_acts, .ref o_reached, .ref o_queue, .ref o_got, .long v_waitUp, .long v_waitLow, .ref o_wins, .ref o_image, .ref o_isKept])), (o_now, .inl (cI, 21, .inl v_now))]) sz) (qWi R (dC, dI) ([(o, .inr (12, [.ref o_book, .ref o_now, .ref o_moults, .ref o_words, .ref o_clashes, .ref o_rocks, .int v_counts, .ref o_count, .int v_signs, .ref o_pad, .int v_readMany, .int v_signedAll, .int v_reason, .int v_acts, .ref o_reached, .ref o_queue, .ref o_got, .long v_waitUp, .long v_waitLow, .ref o_wins, .ref o_image, .ref o_isKept])), (o_now, .inl (cI, 21, .inl w_now))]) (va_A ([(o, .inr (12, [.ref o_book, .ref o_now, .ref o_moults, .ref o_words, .ref o_clashes, .ref o_rocks, .int v_counts, .ref o_count, .int v_signs, .ref o_pad, .int v_readMany, .int v_signedAll, .int v_reason, .int v_acts, .ref o_reached, .ref o_queue, .ref o_got, .long v_waitUp, .long v_waitLow, .ref o_wins, .ref o_image, .ref o_isKept])), (o_now, .inl (cI, 21, .inl v_now))]) sz)) 0 0 (va_A ([(o, .inr (12, [.ref o_book, .ref o_now, .ref o_moults, .ref o_words, .ref o_clashes, .ref o_rocks, .int v_counts, .ref o_count, .int v_signs, .ref o_pad, .int v_readMany, .int v_signedAll, .int v_reason, .int v_acts, .ref o_reached, .ref o_queue, .ref o_got, .long v_waitUp, .long v_waitLow, .ref o_wins, .ref o_image, .ref o_isKept])), (o_now, .inl (cI, 21, .inl v_now))]) sz) := by
  refine q_met_w (Qc := fun A => qWi R (dC, dI) ([(o, .inr (12, [.ref o_book, .ref o_now, .ref o_moults, .ref o_words, .ref o_clashes, .ref o_rocks, .int v_counts, .ref o_count, .int v_signs, .ref o_pad, .int v_readMany, .int v_signedAll, .int v_reason, .int v_acts, .ref o_reached, .ref o_queue, .ref o_got, .long v_waitUp, .long v_waitLow, .ref o_wins, .ref o_image, .ref o_isKept])), (o_now, .inl (cI, 21, .inl w_now))]) A) (cc := cX12_net) (own := RX12) (maxL := 2) (ret := (some .int)) (lv0 := [(0, .ref o), (1, .int p1)]) (by decide) rfl rfl rfl (Nat.le_of_ble_eq_true rfl) ?_
  intro p e s m args below meth c A hA C hr hnm Q hQ
  have lk0 : Cond.fieldLink RX12 13 "SealStraitModel" "now" "[I" ∈ wsX12_net := by decide +kernel
  have lk1 : ∀ w ∈ u_ws RX12 TX12 22, w ∈ wsX12_net := fun w h => List.mem_cons_of_mem _ (List.mem_append_right _ h)
  unfold f_Model_net at hF
  refine q_aload_n C dX12_net_0 0 rfl rfl ?_
  refine q_iload_n C dX12_net_1 1 rfl rfl ?_
  refine q_roz (q_runV (As := [.int p1]) (rest := []) C (fun sz => c_X12_stands l dC dI cI cZ cQ o o_now o_book o_moults o_words o_clashes o_rocks o_count o_pad o_reached o_queue o_got o_wins o_image o_isKept v_now v_counts v_signs v_readMany v_signedAll v_reason v_acts v_waitUp v_waitLow p1 (f_Model_stands v_now p1) rfl sz) (cwV 1 C.2.2.2.2.1 gX12_net_X12_stands rfl rfl rfl (by decide +kernel) ⟨Nat.le_of_ble_eq_true rfl, Nat.le_of_ble_eq_true rfl⟩) 0 rfl rfl rfl [0, 1] rfl rfl rfl rfl (Nat.le_of_ble_eq_true rfl) dX12_net_2 ⟨Nat.zero_le _, Nat.zero_le _⟩) (fun hz1 => ?_)
  refine q_if_ne (tgt := 10) C dX12_net_5 (by decide) (fun c2 => ?_) (fun c2 => ?_)
  · have hF := ite_f hF c2
    refine q_aload_n C dX12_net_10 0 rfl rfl ?_
    refine q_get (C0 := RX12) (T := TX12) (N := 22) (k0 := 1) C lk1 0 rfl rfl (by decide) lk0 rfl (v := .ref o_now) rfl dX12_net_11 ?_
    refine q_iload_n C dX12_net_14 1 rfl rfl ?_
    obtain ⟨hc3, hF⟩ := ite_c hF
    refine q_iald C 1 0 rfl rfl (ix_in hc3) dX12_net_15 ?_
    refine q_iconst (v := (5 : Int32)) C dX12_net_16 (by decide) ?_
    refine q_icmp_ge (tgt := 22) C dX12_net_17 (by decide) (fun c4 => ?_) (fun c4 => ?_)
    · have hF := ite_t hF c4
      refine q_aload_n C dX12_net_22 0 rfl rfl ?_
      refine q_get (C0 := RX12) (T := TX12) (N := 22) (k0 := 1) C lk1 0 rfl rfl (by decide) lk0 rfl (v := .ref o_now) rfl dX12_net_23 ?_
      refine q_iload_n C dX12_net_26 1 rfl rfl ?_
      refine q_dup2 C dX12_net_27 rfl rfl ?_
      obtain ⟨hc5, hF⟩ := ite_c hF
      refine q_iald C 1 0 rfl rfl (ix_in hc5) dX12_net_28 ?_
      refine q_iconst (v := (5 : Int32)) C dX12_net_29 (by decide) ?_
      refine q_isub C dX12_net_30 ?_
      obtain ⟨hc6, hF⟩ := ite_c hF
      refine q_iast C 1 0 rfl rfl (ix_in hc6) ([(o, .inr (12, [.ref o_book, .ref o_now, .ref o_moults, .ref o_words, .ref o_clashes, .ref o_rocks, .int v_counts, .ref o_count, .int v_signs, .ref o_pad, .int v_readMany, .int v_signedAll, .int v_reason, .int v_acts, .ref o_reached, .ref o_queue, .ref o_got, .long v_waitUp, .long v_waitLow, .ref o_wins, .ref o_image, .ref o_isKept])), (o_now, .inl (cI, 21, .inl (upd v_now (p1).toNatClampNeg ((v_now (p1).toNatClampNeg) - (5 : Int32)))))]) rfl dX12_net_31 ?_
      refine q_aload_n C dX12_net_32 0 rfl rfl ?_
      refine q_get (C0 := RX12) (T := TX12) (N := 22) (k0 := 1) C lk1 0 rfl rfl (by decide) lk0 rfl (v := .ref o_now) rfl dX12_net_33 ?_
      refine q_bipush (v := (19 : Int32)) C dX12_net_36 (by decide) ?_
      refine q_dup2 C dX12_net_38 rfl rfl ?_
      refine q_iald C 1 0 rfl rfl (ix_in (by decide)) dX12_net_39 ?_
      refine q_iconst (v := (5 : Int32)) C dX12_net_40 (by decide) ?_
      refine q_iadd C dX12_net_41 ?_
      refine q_iast C 1 0 rfl rfl (ix_in (by decide)) ([(o, .inr (12, [.ref o_book, .ref o_now, .ref o_moults, .ref o_words, .ref o_clashes, .ref o_rocks, .int v_counts, .ref o_count, .int v_signs, .ref o_pad, .int v_readMany, .int v_signedAll, .int v_reason, .int v_acts, .ref o_reached, .ref o_queue, .ref o_got, .long v_waitUp, .long v_waitLow, .ref o_wins, .ref o_image, .ref o_isKept])), (o_now, .inl (cI, 21, .inl (upd (upd v_now (p1).toNatClampNeg ((v_now (p1).toNatClampNeg) - (5 : Int32))) ((19 : Int32)).toNatClampNeg (((upd v_now (p1).toNatClampNeg ((v_now (p1).toNatClampNeg) - (5 : Int32))) ((19 : Int32)).toNatClampNeg) + (5 : Int32)))))]) rfl dX12_net_42 ?_
      refine q_iconst (v := (0 : Int32)) C dX12_net_43 (by decide) ?_
      cases hF
      exact q_wreti C hr dX12_net_44 hQ
    · have hF := ite_f hF c4
      refine q_iconst (v := (4 : Int32)) C dX12_net_20 (by decide) ?_
      cases hF
      exact q_wreti C hr dX12_net_21 hQ
  · have hF := ite_t hF c2
    refine q_iconst (v := (1 : Int32)) C dX12_net_8 (by decide) ?_
    cases hF
    exact q_wreti C hr dX12_net_9 hQ
set_option maxRecDepth 100000 in
set_option maxHeartbeats 4000000 in
theorem c_X12_join (l : Launch) (dC : Nat → ClassId) (dI : Nat → Nat → Nat) (cI cZ cQ : ClassId) (o o_now o_book o_moults o_words o_clashes o_rocks o_count o_pad o_reached o_queue o_got o_wins o_image o_isKept : Nat) (v_now : Nat → Int32) (v_counts : Int32) (v_signs : Int32) (v_readMany : Int32) (v_signedAll : Int32) (v_reason : Int32) (v_acts : Int32) (v_waitUp : Int64) (v_waitLow : Int64) (p1 : Int32) (p2 : Int32) (R : Int32) (w_now : Nat → Int32) (hF : f_Model_join v_now p1 p2 = some (R, w_now)) (sz : Nat) : Met l yX12_join wsX12_join ({ frames := 2, cells := 0, slots := 0, locals := 43 } : Room) (qPc ([.ref o, .int p1, .int p2]) (dC, dI) (qT cI cZ cQ) ([(o, .inr (12, [.ref o_book, .ref o_now, .ref o_moults, .ref o_words, .ref o_clashes, .ref o_rocks, .int v_counts, .ref o_count, .int v_signs, .ref o_pad, .int v_readMany, .int v_signedAll, .int v_reason, .int v_acts, .ref o_reached, .ref o_queue, .ref o_got, .long v_waitUp, .long v_waitLow, .ref o_wins, .ref o_image, .ref o_isKept])), (o_now, .inl (cI, 21, .inl v_now))]) sz) (qWi R (dC, dI) ([(o, .inr (12, [.ref o_book, .ref o_now, .ref o_moults, .ref o_words, .ref o_clashes, .ref o_rocks, .int v_counts, .ref o_count, .int v_signs, .ref o_pad, .int v_readMany, .int v_signedAll, .int v_reason, .int v_acts, .ref o_reached, .ref o_queue, .ref o_got, .long v_waitUp, .long v_waitLow, .ref o_wins, .ref o_image, .ref o_isKept])), (o_now, .inl (cI, 21, .inl w_now))]) (va_A ([(o, .inr (12, [.ref o_book, .ref o_now, .ref o_moults, .ref o_words, .ref o_clashes, .ref o_rocks, .int v_counts, .ref o_count, .int v_signs, .ref o_pad, .int v_readMany, .int v_signedAll, .int v_reason, .int v_acts, .ref o_reached, .ref o_queue, .ref o_got, .long v_waitUp, .long v_waitLow, .ref o_wins, .ref o_image, .ref o_isKept])), (o_now, .inl (cI, 21, .inl v_now))]) sz)) 0 0 (va_A ([(o, .inr (12, [.ref o_book, .ref o_now, .ref o_moults, .ref o_words, .ref o_clashes, .ref o_rocks, .int v_counts, .ref o_count, .int v_signs, .ref o_pad, .int v_readMany, .int v_signedAll, .int v_reason, .int v_acts, .ref o_reached, .ref o_queue, .ref o_got, .long v_waitUp, .long v_waitLow, .ref o_wins, .ref o_image, .ref o_isKept])), (o_now, .inl (cI, 21, .inl v_now))]) sz) := by
  refine q_met_w (Qc := fun A => qWi R (dC, dI) ([(o, .inr (12, [.ref o_book, .ref o_now, .ref o_moults, .ref o_words, .ref o_clashes, .ref o_rocks, .int v_counts, .ref o_count, .int v_signs, .ref o_pad, .int v_readMany, .int v_signedAll, .int v_reason, .int v_acts, .ref o_reached, .ref o_queue, .ref o_got, .long v_waitUp, .long v_waitLow, .ref o_wins, .ref o_image, .ref o_isKept])), (o_now, .inl (cI, 21, .inl w_now))]) A) (cc := cX12_join) (own := RX12) (maxL := 3) (ret := (some .int)) (lv0 := [(0, .ref o), (1, .int p1), (2, .int p2)]) (by decide) rfl rfl rfl (Nat.le_of_ble_eq_true rfl) ?_
  intro p e s m args below meth c A hA C hr hnm Q hQ
  have lk0 : Cond.fieldLink RX12 13 "SealStraitModel" "now" "[I" ∈ wsX12_join := by decide +kernel
  have lk1 : ∀ w ∈ u_ws RX12 TX12 22, w ∈ wsX12_join := fun w h => List.mem_cons_of_mem _ (List.mem_append_right _ h)
  unfold f_Model_join at hF
  refine q_aload_n C dX12_join_0 0 rfl rfl ?_
  refine q_iload_n C dX12_join_1 1 rfl rfl ?_
  refine q_roz (q_runV (As := [.int p1]) (rest := []) C (fun sz => c_X12_stands l dC dI cI cZ cQ o o_now o_book o_moults o_words o_clashes o_rocks o_count o_pad o_reached o_queue o_got o_wins o_image o_isKept v_now v_counts v_signs v_readMany v_signedAll v_reason v_acts v_waitUp v_waitLow p1 (f_Model_stands v_now p1) rfl sz) (cwV 1 C.2.2.2.2.1 gX12_join_X12_stands rfl rfl rfl (by decide +kernel) ⟨Nat.le_of_ble_eq_true rfl, Nat.le_of_ble_eq_true rfl⟩) 0 rfl rfl rfl [0, 1] rfl rfl rfl rfl (Nat.le_of_ble_eq_true rfl) dX12_join_2 ⟨Nat.zero_le _, Nat.zero_le _⟩) (fun hz1 => ?_)
  refine q_if_eq (tgt := 16) C dX12_join_5 (by decide) (fun c2 => ?_) (fun c2 => ?_)
  · have hF := ite_t hF c2
    refine q_iconst (v := (1 : Int32)) C dX12_join_16 (by decide) ?_
    cases hF
    exact q_wreti C hr dX12_join_17 hQ
  · have hF := ite_f hF c2
    refine q_aload_n C dX12_join_8 0 rfl rfl ?_
    refine q_iload_n C dX12_join_9 2 rfl rfl ?_
    refine q_roz (q_runV (As := [.int p2]) (rest := []) C (fun sz => c_X12_stands l dC dI cI cZ cQ o o_now o_book o_moults o_words o_clashes o_rocks o_count o_pad o_reached o_queue o_got o_wins o_image o_isKept v_now v_counts v_signs v_readMany v_signedAll v_reason v_acts v_waitUp v_waitLow p2 (f_Model_stands v_now p2) rfl sz) (cwV 1 C.2.2.2.2.1 gX12_join_X12_stands rfl rfl rfl (by decide +kernel) ⟨Nat.le_of_ble_eq_true rfl, Nat.le_of_ble_eq_true rfl⟩) 0 rfl rfl rfl [0, 1] rfl rfl rfl rfl (Nat.le_of_ble_eq_true rfl) dX12_join_10 ⟨Nat.zero_le _, Nat.zero_le _⟩) (fun hz3 => ?_)
    refine q_if_ne (tgt := 18) C dX12_join_13 (by decide) (fun c4 => ?_) (fun c4 => ?_)
    · have hF := ite_f hF c4
      refine q_iload_n C dX12_join_18 1 rfl rfl ?_
      refine q_iload_n C dX12_join_19 2 rfl rfl ?_
      refine q_icmp_eq (tgt := 44) C dX12_join_20 (by decide) (fun c5 => ?_) (fun c5 => ?_)
      · have hF := ite_t hF c5
        refine q_iconst (v := (5 : Int32)) C dX12_join_44 (by decide) ?_
        cases hF
        exact q_wreti C hr dX12_join_45 hQ
      · have hF := ite_f hF c5
        refine q_aload_n C dX12_join_23 0 rfl rfl ?_
        refine q_get (C0 := RX12) (T := TX12) (N := 22) (k0 := 1) C lk1 0 rfl rfl (by decide) lk0 rfl (v := .ref o_now) rfl dX12_join_24 ?_
        refine q_bipush (v := (6 : Int32)) C dX12_join_27 (by decide) ?_
        refine q_iload_n C dX12_join_29 1 rfl rfl ?_
        refine q_iadd C dX12_join_30 ?_
        obtain ⟨hc6, hF⟩ := ite_c hF
        refine q_iald C 1 0 rfl rfl (ix_in hc6) dX12_join_31 ?_
        refine q_aload_n C dX12_join_32 0 rfl rfl ?_
        refine q_get (C0 := RX12) (T := TX12) (N := 22) (k0 := 1) C lk1 0 rfl rfl (by decide) lk0 rfl (v := .ref o_now) rfl dX12_join_33 ?_
        refine q_bipush (v := (6 : Int32)) C dX12_join_36 (by decide) ?_
        refine q_iload_n C dX12_join_38 2 rfl rfl ?_
        refine q_iadd C dX12_join_39 ?_
        obtain ⟨hc7, hF⟩ := ite_c hF
        refine q_iald C 1 0 rfl rfl (ix_in hc7) dX12_join_40 ?_
        refine q_icmp_eq (tgt := 46) C dX12_join_41 (by decide) (fun c8 => ?_) (fun c8 => ?_)
        · have hF := ite_t hF c8
          refine q_aload_n C dX12_join_46 0 rfl rfl ?_
          refine q_get (C0 := RX12) (T := TX12) (N := 22) (k0 := 1) C lk1 0 rfl rfl (by decide) lk0 rfl (v := .ref o_now) rfl dX12_join_47 ?_
          refine q_iload_n C dX12_join_50 1 rfl rfl ?_
          refine q_aload_n C dX12_join_51 0 rfl rfl ?_
          refine q_get (C0 := RX12) (T := TX12) (N := 22) (k0 := 1) C lk1 0 rfl rfl (by decide) lk0 rfl (v := .ref o_now) rfl dX12_join_52 ?_
          refine q_iload_n C dX12_join_55 1 rfl rfl ?_
          obtain ⟨hc9, hF⟩ := ite_c hF
          refine q_iald C 1 0 rfl rfl (ix_in hc9) dX12_join_56 ?_
          refine q_aload_n C dX12_join_57 0 rfl rfl ?_
          refine q_get (C0 := RX12) (T := TX12) (N := 22) (k0 := 1) C lk1 0 rfl rfl (by decide) lk0 rfl (v := .ref o_now) rfl dX12_join_58 ?_
          refine q_iload_n C dX12_join_61 2 rfl rfl ?_
          obtain ⟨hc10, hF⟩ := ite_c hF
          refine q_iald C 1 0 rfl rfl (ix_in hc10) dX12_join_62 ?_
          refine q_iadd C dX12_join_63 ?_
          refine q_bipush (v := (99 : Int32)) C dX12_join_64 (by decide) ?_
          refine q_icmp_le (tgt := 74) C dX12_join_66 (by decide) (fun c11 => ?_) (fun c11 => ?_)
          · have hF := ite_t hF c11
            refine q_aload_n C dX12_join_74 0 rfl rfl ?_
            refine q_get (C0 := RX12) (T := TX12) (N := 22) (k0 := 1) C lk1 0 rfl rfl (by decide) lk0 rfl (v := .ref o_now) rfl dX12_join_75 ?_
            refine q_iload_n C dX12_join_78 1 rfl rfl ?_
            obtain ⟨hc12, hF⟩ := ite_c hF
            refine q_iald C 1 0 rfl rfl (ix_in hc12) dX12_join_79 ?_
            refine q_aload_n C dX12_join_80 0 rfl rfl ?_
            refine q_get (C0 := RX12) (T := TX12) (N := 22) (k0 := 1) C lk1 0 rfl rfl (by decide) lk0 rfl (v := .ref o_now) rfl dX12_join_81 ?_
            refine q_iload_n C dX12_join_84 2 rfl rfl ?_
            obtain ⟨hc13, hF⟩ := ite_c hF
            refine q_iald C 1 0 rfl rfl (ix_in hc13) dX12_join_85 ?_
            refine q_iadd C dX12_join_86 ?_
            obtain ⟨hc14, hF⟩ := ite_c hF
            refine q_iast C 1 0 rfl rfl (ix_in hc14) ([(o, .inr (12, [.ref o_book, .ref o_now, .ref o_moults, .ref o_words, .ref o_clashes, .ref o_rocks, .int v_counts, .ref o_count, .int v_signs, .ref o_pad, .int v_readMany, .int v_signedAll, .int v_reason, .int v_acts, .ref o_reached, .ref o_queue, .ref o_got, .long v_waitUp, .long v_waitLow, .ref o_wins, .ref o_image, .ref o_isKept])), (o_now, .inl (cI, 21, .inl (upd v_now (p1).toNatClampNeg ((v_now (p1).toNatClampNeg) + (v_now (p2).toNatClampNeg)))))]) rfl dX12_join_87 ?_
            refine q_aload_n C dX12_join_88 0 rfl rfl ?_
            refine q_get (C0 := RX12) (T := TX12) (N := 22) (k0 := 1) C lk1 0 rfl rfl (by decide) lk0 rfl (v := .ref o_now) rfl dX12_join_89 ?_
            refine q_bipush (v := (18 : Int32)) C dX12_join_92 (by decide) ?_
            refine q_dup2 C dX12_join_94 rfl rfl ?_
            refine q_iald C 1 0 rfl rfl (ix_in (by decide)) dX12_join_95 ?_
            refine q_iconst (v := (1 : Int32)) C dX12_join_96 (by decide) ?_
            refine q_iload_n C dX12_join_97 2 rfl rfl ?_
            refine q_ishl C dX12_join_98 ?_
            refine q_iconst (v := (-1 : Int32)) C dX12_join_99 (by decide) ?_
            refine q_ixor C dX12_join_100 ?_
            refine q_iand C dX12_join_101 ?_
            refine q_iast C 1 0 rfl rfl (ix_in (by decide)) ([(o, .inr (12, [.ref o_book, .ref o_now, .ref o_moults, .ref o_words, .ref o_clashes, .ref o_rocks, .int v_counts, .ref o_count, .int v_signs, .ref o_pad, .int v_readMany, .int v_signedAll, .int v_reason, .int v_acts, .ref o_reached, .ref o_queue, .ref o_got, .long v_waitUp, .long v_waitLow, .ref o_wins, .ref o_image, .ref o_isKept])), (o_now, .inl (cI, 21, .inl (upd (upd v_now (p1).toNatClampNeg ((v_now (p1).toNatClampNeg) + (v_now (p2).toNatClampNeg))) ((18 : Int32)).toNatClampNeg (((upd v_now (p1).toNatClampNeg ((v_now (p1).toNatClampNeg) + (v_now (p2).toNatClampNeg))) ((18 : Int32)).toNatClampNeg) &&& (((1 : Int32) <<< (p2 &&& 31)) ^^^ (-1 : Int32))))))]) rfl dX12_join_102 ?_
            refine q_iconst (v := (0 : Int32)) C dX12_join_103 (by decide) ?_
            cases hF
            exact q_wreti C hr dX12_join_104 hQ
          · have hF := ite_f hF c11
            refine q_bipush (v := (99 : Int32)) C dX12_join_69 (by decide) ?_
            refine q_goto (tgt := 87) C dX12_join_71 (by decide) ?_
            obtain ⟨hc15, hF⟩ := ite_c hF
            refine q_iast C 1 0 rfl rfl (ix_in hc15) ([(o, .inr (12, [.ref o_book, .ref o_now, .ref o_moults, .ref o_words, .ref o_clashes, .ref o_rocks, .int v_counts, .ref o_count, .int v_signs, .ref o_pad, .int v_readMany, .int v_signedAll, .int v_reason, .int v_acts, .ref o_reached, .ref o_queue, .ref o_got, .long v_waitUp, .long v_waitLow, .ref o_wins, .ref o_image, .ref o_isKept])), (o_now, .inl (cI, 21, .inl (upd v_now (p1).toNatClampNeg (99 : Int32))))]) rfl dX12_join_87 ?_
            refine q_aload_n C dX12_join_88 0 rfl rfl ?_
            refine q_get (C0 := RX12) (T := TX12) (N := 22) (k0 := 1) C lk1 0 rfl rfl (by decide) lk0 rfl (v := .ref o_now) rfl dX12_join_89 ?_
            refine q_bipush (v := (18 : Int32)) C dX12_join_92 (by decide) ?_
            refine q_dup2 C dX12_join_94 rfl rfl ?_
            refine q_iald C 1 0 rfl rfl (ix_in (by decide)) dX12_join_95 ?_
            refine q_iconst (v := (1 : Int32)) C dX12_join_96 (by decide) ?_
            refine q_iload_n C dX12_join_97 2 rfl rfl ?_
            refine q_ishl C dX12_join_98 ?_
            refine q_iconst (v := (-1 : Int32)) C dX12_join_99 (by decide) ?_
            refine q_ixor C dX12_join_100 ?_
            refine q_iand C dX12_join_101 ?_
            refine q_iast C 1 0 rfl rfl (ix_in (by decide)) ([(o, .inr (12, [.ref o_book, .ref o_now, .ref o_moults, .ref o_words, .ref o_clashes, .ref o_rocks, .int v_counts, .ref o_count, .int v_signs, .ref o_pad, .int v_readMany, .int v_signedAll, .int v_reason, .int v_acts, .ref o_reached, .ref o_queue, .ref o_got, .long v_waitUp, .long v_waitLow, .ref o_wins, .ref o_image, .ref o_isKept])), (o_now, .inl (cI, 21, .inl (upd (upd v_now (p1).toNatClampNeg (99 : Int32)) ((18 : Int32)).toNatClampNeg (((upd v_now (p1).toNatClampNeg (99 : Int32)) ((18 : Int32)).toNatClampNeg) &&& (((1 : Int32) <<< (p2 &&& 31)) ^^^ (-1 : Int32))))))]) rfl dX12_join_102 ?_
            refine q_iconst (v := (0 : Int32)) C dX12_join_103 (by decide) ?_
            cases hF
            exact q_wreti C hr dX12_join_104 hQ
        · have hF := ite_f hF c8
          refine q_iconst (v := (5 : Int32)) C dX12_join_44 (by decide) ?_
          cases hF
          exact q_wreti C hr dX12_join_45 hQ
    · have hF := ite_t hF c4
      refine q_iconst (v := (1 : Int32)) C dX12_join_16 (by decide) ?_
      cases hF
      exact q_wreti C hr dX12_join_17 hQ
set_option maxRecDepth 100000 in
set_option maxHeartbeats 4000000 in
theorem c_X12_endMonth (l : Launch) (dC : Nat → ClassId) (dI : Nat → Nat → Nat) (cI cZ cQ : ClassId) (o o_now o_moults o_book o_words o_clashes o_rocks o_count o_pad o_reached o_queue o_got o_wins o_image o_isKept : Nat) (v_now : Nat → Int32) (v_moults : Nat → Int32) (v_counts : Int32) (v_signs : Int32) (v_readMany : Int32) (v_signedAll : Int32) (v_reason : Int32) (v_acts : Int32) (v_waitUp : Int64) (v_waitLow : Int64) (R : Int32) (w_now : Nat → Int32) (hF : f_Model_endMonth v_now v_moults = some (R, w_now)) (sz : Nat) : Met l yX12_endMonth wsX12_endMonth ({ frames := 2, cells := 0, slots := 0, locals := 43 } : Room) (qPc ([.ref o]) (dC, dI) (qT cI cZ cQ) ([(o, .inr (12, [.ref o_book, .ref o_now, .ref o_moults, .ref o_words, .ref o_clashes, .ref o_rocks, .int v_counts, .ref o_count, .int v_signs, .ref o_pad, .int v_readMany, .int v_signedAll, .int v_reason, .int v_acts, .ref o_reached, .ref o_queue, .ref o_got, .long v_waitUp, .long v_waitLow, .ref o_wins, .ref o_image, .ref o_isKept])), (o_now, .inl (cI, 21, .inl v_now)), (o_moults, .inl (cI, 6, .inl v_moults))]) sz) (qWi R (dC, dI) ([(o, .inr (12, [.ref o_book, .ref o_now, .ref o_moults, .ref o_words, .ref o_clashes, .ref o_rocks, .int v_counts, .ref o_count, .int v_signs, .ref o_pad, .int v_readMany, .int v_signedAll, .int v_reason, .int v_acts, .ref o_reached, .ref o_queue, .ref o_got, .long v_waitUp, .long v_waitLow, .ref o_wins, .ref o_image, .ref o_isKept])), (o_now, .inl (cI, 21, .inl w_now)), (o_moults, .inl (cI, 6, .inl v_moults))]) (va_A ([(o, .inr (12, [.ref o_book, .ref o_now, .ref o_moults, .ref o_words, .ref o_clashes, .ref o_rocks, .int v_counts, .ref o_count, .int v_signs, .ref o_pad, .int v_readMany, .int v_signedAll, .int v_reason, .int v_acts, .ref o_reached, .ref o_queue, .ref o_got, .long v_waitUp, .long v_waitLow, .ref o_wins, .ref o_image, .ref o_isKept])), (o_now, .inl (cI, 21, .inl v_now)), (o_moults, .inl (cI, 6, .inl v_moults))]) sz)) 0 0 (va_A ([(o, .inr (12, [.ref o_book, .ref o_now, .ref o_moults, .ref o_words, .ref o_clashes, .ref o_rocks, .int v_counts, .ref o_count, .int v_signs, .ref o_pad, .int v_readMany, .int v_signedAll, .int v_reason, .int v_acts, .ref o_reached, .ref o_queue, .ref o_got, .long v_waitUp, .long v_waitLow, .ref o_wins, .ref o_image, .ref o_isKept])), (o_now, .inl (cI, 21, .inl v_now)), (o_moults, .inl (cI, 6, .inl v_moults))]) sz) := by
  refine q_met_w (Qc := fun A => qWi R (dC, dI) ([(o, .inr (12, [.ref o_book, .ref o_now, .ref o_moults, .ref o_words, .ref o_clashes, .ref o_rocks, .int v_counts, .ref o_count, .int v_signs, .ref o_pad, .int v_readMany, .int v_signedAll, .int v_reason, .int v_acts, .ref o_reached, .ref o_queue, .ref o_got, .long v_waitUp, .long v_waitLow, .ref o_wins, .ref o_image, .ref o_isKept])), (o_now, .inl (cI, 21, .inl w_now)), (o_moults, .inl (cI, 6, .inl v_moults))]) A) (cc := cX12_endMonth) (own := RX12) (maxL := 2) (ret := (some .int)) (lv0 := [(0, .ref o)]) (by decide) rfl rfl rfl (Nat.le_of_ble_eq_true rfl) ?_
  intro p e s m args below meth c A hA C hr hnm Q hQ
  have lk0 : Cond.fieldLink RX12 13 "SealStraitModel" "now" "[I" ∈ wsX12_endMonth := by decide +kernel
  have lk1 : ∀ w ∈ u_ws RX12 TX12 22, w ∈ wsX12_endMonth := fun w h => List.mem_cons_of_mem _ (List.mem_append_right _ h)
  have lk2 : Cond.fieldLink RX12 16 "SealStraitModel" "moults" "[I" ∈ wsX12_endMonth := by decide +kernel
  have L1 : ∀ (n : Nat) (x1 : Int32) (v_now : Nat → Int32) (z_now : Nat → Int32), evr (fun s => b_Model_endMonth_1 v_moults s.1 s.2) n (x1, v_now) = some z_now → qG p l e ({ frames := 2, cells := 0, slots := 0, locals := 43 } : Room) s m args below meth c 2 (dC, dI) A A Q 0 0 ([(0, .ref o)]) [] ([(o, .inr (12, [.ref o_book, .ref o_now, .ref o_moults, .ref o_words, .ref o_clashes, .ref o_rocks, .int v_counts, .ref o_count, .int v_signs, .ref o_pad, .int v_readMany, .int v_signedAll, .int v_reason, .int v_acts, .ref o_reached, .ref o_queue, .ref o_got, .long v_waitUp, .long v_waitLow, .ref o_wins, .ref o_image, .ref o_isKept])), (o_now, .inl (cI, 21, .inl z_now)), (o_moults, .inl (cI, 6, .inl v_moults))]) 98 → qG p l e ({ frames := 2, cells := 0, slots := 0, locals := 43 } : Room) s m args below meth c 2 (dC, dI) A A Q 0 0 ([(0, .ref o), (1, .int x1)]) [] ([(o, .inr (12, [.ref o_book, .ref o_now, .ref o_moults, .ref o_words, .ref o_clashes, .ref o_rocks, .int v_counts, .ref o_count, .int v_signs, .ref o_pad, .int v_readMany, .int v_signedAll, .int v_reason, .int v_acts, .ref o_reached, .ref o_queue, .ref o_got, .long v_waitUp, .long v_waitLow, .ref o_wins, .ref o_image, .ref o_isKept])), (o_now, .inl (cI, 21, .inl v_now)), (o_moults, .inl (cI, 6, .inl v_moults))]) 18 := by
    clear hF
    intro n
    induction n with
    | zero => intro x1 v_now z_now hF; exact (evr_0 hF).elim
    | succ n ih =>
      intro x1 v_now z_now hF hk
      obtain ⟨o9, hB, hn, hx⟩ := evr_c hF
      have hF : b_Model_endMonth_1 v_moults x1 v_now = some o9 := hB
      unfold b_Model_endMonth_1 at hF
      refine q_iload_n C dX12_endMonth_18 1 rfl rfl ?_
      refine q_bipush (v := (6 : Int32)) C dX12_endMonth_19 (by decide) ?_
      refine q_icmp_ge (tgt := 98) C dX12_endMonth_21 (by decide) (fun c1 => ?_) (fun c1 => ?_)
      · have hF := ite_t hF c1
        cases hF
        have e2 := hx _ rfl
        cases e2
        refine q_lsel [0] rfl ?_
        exact hk
      · have hF := ite_f hF c1
        refine q_aload_n C dX12_endMonth_24 0 rfl rfl ?_
        refine q_iload_n C dX12_endMonth_25 1 rfl rfl ?_
        refine q_roz (q_runV (As := [.int x1]) (rest := []) C (fun sz => c_X12_stands l dC dI cI cZ cQ o o_now o_book o_moults o_words o_clashes o_rocks o_count o_pad o_reached o_queue o_got o_wins o_image o_isKept v_now v_counts v_signs v_readMany v_signedAll v_reason v_acts v_waitUp v_waitLow x1 (f_Model_stands v_now x1) rfl sz) (cwV 1 C.2.2.2.2.1 gX12_endMonth_X12_stands rfl rfl rfl (by decide +kernel) ⟨Nat.le_of_ble_eq_true rfl, Nat.le_of_ble_eq_true rfl⟩) 0 rfl rfl rfl [0, 1] rfl rfl rfl rfl (Nat.le_of_ble_eq_true rfl) dX12_endMonth_26 ⟨Nat.zero_le _, Nat.zero_le _⟩) (fun hz3 => ?_)
        refine q_if_eq (tgt := 92) C dX12_endMonth_29 (by decide) (fun c4 => ?_) (fun c4 => ?_)
        · have hF := ite_t hF c4
          refine q_iinc (v := (x1 + 1)) C ([(1, .int (x1 + 1)), (0, .ref o)]) dX12_endMonth_92 1 rfl rfl (by decide) rfl ?_
          refine q_goto (tgt := 18) C dX12_endMonth_95 (by decide) ?_
          cases hF
          refine q_lsel [1, 0] rfl ?_
          exact ih (x1 + 1) v_now z_now (hn _ rfl) hk
        · have hF := ite_f hF c4
          refine q_aload_n C dX12_endMonth_32 0 rfl rfl ?_
          refine q_iload_n C dX12_endMonth_33 1 rfl rfl ?_
          refine q_iconst (v := (2 : Int32)) C dX12_endMonth_34 (by decide) ?_
          obtain ⟨u5_now, hc6, hF⟩ := bind_c hF
          refine q_rwv hA ([(o, .inr (12, [.ref o_book, .ref o_now, .ref o_moults, .ref o_words, .ref o_clashes, .ref o_rocks, .int v_counts, .ref o_count, .int v_signs, .ref o_pad, .int v_readMany, .int v_signedAll, .int v_reason, .int v_acts, .ref o_reached, .ref o_queue, .ref o_got, .long v_waitUp, .long v_waitLow, .ref o_wins, .ref o_image, .ref o_isKept])), (o_now, .inl (cI, 21, .inl u5_now)), (o_moults, .inl (cI, 6, .inl v_moults))]) [0, 1] [2] rfl rfl rfl (by decide) [1, 2, 0] rfl rfl (q_runV (As := [.int x1, .int (2 : Int32)]) (rest := []) C (fun sz => c_X12_cheer l dC dI cI cZ cQ o o_now o_book o_moults o_words o_clashes o_rocks o_count o_pad o_reached o_queue o_got o_wins o_image o_isKept v_now v_counts v_signs v_readMany v_signedAll v_reason v_acts v_waitUp v_waitLow x1 (2 : Int32) u5_now hc6 sz) (cwV 2 C.2.2.2.2.1 gX12_endMonth_X12_cheer rfl rfl rfl (by decide +kernel) ⟨Nat.le_of_ble_eq_true rfl, Nat.le_of_ble_eq_true rfl⟩) 0 rfl rfl rfl [0, 1] rfl rfl rfl rfl (Nat.le_of_ble_eq_true rfl) dX12_endMonth_35 ⟨Nat.zero_le _, Nat.zero_le _⟩) ?_
          refine q_aload_n C dX12_endMonth_38 0 rfl rfl ?_
          refine q_get (C0 := RX12) (T := TX12) (N := 22) (k0 := 1) C lk1 0 rfl rfl (by decide) lk0 rfl (v := .ref o_now) rfl dX12_endMonth_39 ?_
          refine q_iload_n C dX12_endMonth_42 1 rfl rfl ?_
          refine q_dup2 C dX12_endMonth_43 rfl rfl ?_
          obtain ⟨hc7, hF⟩ := ite_c hF
          refine q_iald C 1 0 rfl rfl (ix_in hc7) dX12_endMonth_44 ?_
          refine q_aload_n C dX12_endMonth_45 0 rfl rfl ?_
          refine q_get (C0 := RX12) (T := TX12) (N := 22) (k0 := 1) C lk1 0 rfl rfl (by decide) lk0 rfl (v := .ref o_now) rfl dX12_endMonth_46 ?_
          refine q_iload_n C dX12_endMonth_49 1 rfl rfl ?_
          obtain ⟨hc8, hF⟩ := ite_c hF
          refine q_iald C 1 0 rfl rfl (ix_in hc8) dX12_endMonth_50 ?_
          refine q_iconst (v := (1 : Int32)) C dX12_endMonth_51 (by decide) ?_
          refine q_icmp_le (tgt := 89) C dX12_endMonth_52 (by decide) (fun c9 => ?_) (fun c9 => ?_)
          · have hF := ite_t hF c9
            refine q_iconst (v := (0 : Int32)) C dX12_endMonth_89 (by decide) ?_
            refine q_iadd C dX12_endMonth_90 ?_
            obtain ⟨hc10, hF⟩ := ite_c hF
            refine q_iast C 1 0 rfl rfl (ix_in hc10) ([(o, .inr (12, [.ref o_book, .ref o_now, .ref o_moults, .ref o_words, .ref o_clashes, .ref o_rocks, .int v_counts, .ref o_count, .int v_signs, .ref o_pad, .int v_readMany, .int v_signedAll, .int v_reason, .int v_acts, .ref o_reached, .ref o_queue, .ref o_got, .long v_waitUp, .long v_waitLow, .ref o_wins, .ref o_image, .ref o_isKept])), (o_now, .inl (cI, 21, .inl (upd u5_now (x1).toNatClampNeg ((u5_now (x1).toNatClampNeg) + (0 : Int32))))), (o_moults, .inl (cI, 6, .inl v_moults))]) rfl dX12_endMonth_91 ?_
            refine q_iinc (v := (x1 + 1)) C ([(1, .int (x1 + 1)), (0, .ref o)]) dX12_endMonth_92 1 rfl rfl (by decide) rfl ?_
            refine q_goto (tgt := 18) C dX12_endMonth_95 (by decide) ?_
            cases hF
            refine q_lsel [1, 0] rfl ?_
            exact ih (x1 + 1) (upd u5_now (x1).toNatClampNeg ((u5_now (x1).toNatClampNeg) + (0 : Int32))) z_now (hn _ rfl) hk
          · have hF := ite_f hF c9
            refine q_aload_n C dX12_endMonth_55 0 rfl rfl ?_
            refine q_get (C0 := RX12) (T := TX12) (N := 22) (k0 := 1) C lk1 0 rfl rfl (by decide) lk0 rfl (v := .ref o_now) rfl dX12_endMonth_56 ?_
            refine q_iload_n C dX12_endMonth_59 1 rfl rfl ?_
            obtain ⟨hc11, hF⟩ := ite_c hF
            refine q_iald C 1 0 rfl rfl (ix_in hc11) dX12_endMonth_60 ?_
            refine q_bipush (v := (99 : Int32)) C dX12_endMonth_61 (by decide) ?_
            refine q_icmp_ge (tgt := 89) C dX12_endMonth_63 (by decide) (fun c12 => ?_) (fun c12 => ?_)
            · have hF := ite_t hF c12
              refine q_iconst (v := (0 : Int32)) C dX12_endMonth_89 (by decide) ?_
              refine q_iadd C dX12_endMonth_90 ?_
              obtain ⟨hc13, hF⟩ := ite_c hF
              refine q_iast C 1 0 rfl rfl (ix_in hc13) ([(o, .inr (12, [.ref o_book, .ref o_now, .ref o_moults, .ref o_words, .ref o_clashes, .ref o_rocks, .int v_counts, .ref o_count, .int v_signs, .ref o_pad, .int v_readMany, .int v_signedAll, .int v_reason, .int v_acts, .ref o_reached, .ref o_queue, .ref o_got, .long v_waitUp, .long v_waitLow, .ref o_wins, .ref o_image, .ref o_isKept])), (o_now, .inl (cI, 21, .inl (upd u5_now (x1).toNatClampNeg ((u5_now (x1).toNatClampNeg) + (0 : Int32))))), (o_moults, .inl (cI, 6, .inl v_moults))]) rfl dX12_endMonth_91 ?_
              refine q_iinc (v := (x1 + 1)) C ([(1, .int (x1 + 1)), (0, .ref o)]) dX12_endMonth_92 1 rfl rfl (by decide) rfl ?_
              refine q_goto (tgt := 18) C dX12_endMonth_95 (by decide) ?_
              cases hF
              refine q_lsel [1, 0] rfl ?_
              exact ih (x1 + 1) (upd u5_now (x1).toNatClampNeg ((u5_now (x1).toNatClampNeg) + (0 : Int32))) z_now (hn _ rfl) hk
            · have hF := ite_f hF c12
              refine q_aload_n C dX12_endMonth_66 0 rfl rfl ?_
              refine q_get (C0 := RX12) (T := TX12) (N := 22) (k0 := 1) C lk1 0 rfl rfl (by decide) lk0 rfl (v := .ref o_now) rfl dX12_endMonth_67 ?_
              refine q_bipush (v := (20 : Int32)) C dX12_endMonth_70 (by decide) ?_
              refine q_iald C 1 0 rfl rfl (ix_in (by decide)) dX12_endMonth_72 ?_
              refine q_bipush (v := (12 : Int32)) C dX12_endMonth_73 (by decide) ?_
              refine q_irem C dX12_endMonth_75 (by decide) ?_
              refine q_aload_n C dX12_endMonth_76 0 rfl rfl ?_
              refine q_get (C0 := RX12) (T := TX12) (N := 22) (k0 := 2) C lk1 0 rfl rfl (by decide) lk2 rfl (v := .ref o_moults) rfl dX12_endMonth_77 ?_
              refine q_iload_n C dX12_endMonth_80 1 rfl rfl ?_
              obtain ⟨hc14, hF⟩ := ite_c hF
              refine q_iald C 2 0 rfl rfl (ix_in hc14) dX12_endMonth_81 ?_
              refine q_icmp_eq (tgt := 89) C dX12_endMonth_82 (by decide) (fun c15 => ?_) (fun c15 => ?_)
              · have hF := ite_t hF c15
                refine q_iconst (v := (0 : Int32)) C dX12_endMonth_89 (by decide) ?_
                refine q_iadd C dX12_endMonth_90 ?_
                obtain ⟨hc16, hF⟩ := ite_c hF
                refine q_iast C 1 0 rfl rfl (ix_in hc16) ([(o, .inr (12, [.ref o_book, .ref o_now, .ref o_moults, .ref o_words, .ref o_clashes, .ref o_rocks, .int v_counts, .ref o_count, .int v_signs, .ref o_pad, .int v_readMany, .int v_signedAll, .int v_reason, .int v_acts, .ref o_reached, .ref o_queue, .ref o_got, .long v_waitUp, .long v_waitLow, .ref o_wins, .ref o_image, .ref o_isKept])), (o_now, .inl (cI, 21, .inl (upd u5_now (x1).toNatClampNeg ((u5_now (x1).toNatClampNeg) + (0 : Int32))))), (o_moults, .inl (cI, 6, .inl v_moults))]) rfl dX12_endMonth_91 ?_
                refine q_iinc (v := (x1 + 1)) C ([(1, .int (x1 + 1)), (0, .ref o)]) dX12_endMonth_92 1 rfl rfl (by decide) rfl ?_
                refine q_goto (tgt := 18) C dX12_endMonth_95 (by decide) ?_
                cases hF
                refine q_lsel [1, 0] rfl ?_
                exact ih (x1 + 1) (upd u5_now (x1).toNatClampNeg ((u5_now (x1).toNatClampNeg) + (0 : Int32))) z_now (hn _ rfl) hk
              · have hF := ite_f hF c15
                refine q_iconst (v := (1 : Int32)) C dX12_endMonth_85 (by decide) ?_
                refine q_goto (tgt := 90) C dX12_endMonth_86 (by decide) ?_
                refine q_iadd C dX12_endMonth_90 ?_
                obtain ⟨hc17, hF⟩ := ite_c hF
                refine q_iast C 1 0 rfl rfl (ix_in hc17) ([(o, .inr (12, [.ref o_book, .ref o_now, .ref o_moults, .ref o_words, .ref o_clashes, .ref o_rocks, .int v_counts, .ref o_count, .int v_signs, .ref o_pad, .int v_readMany, .int v_signedAll, .int v_reason, .int v_acts, .ref o_reached, .ref o_queue, .ref o_got, .long v_waitUp, .long v_waitLow, .ref o_wins, .ref o_image, .ref o_isKept])), (o_now, .inl (cI, 21, .inl (upd u5_now (x1).toNatClampNeg ((u5_now (x1).toNatClampNeg) + (1 : Int32))))), (o_moults, .inl (cI, 6, .inl v_moults))]) rfl dX12_endMonth_91 ?_
                refine q_iinc (v := (x1 + 1)) C ([(1, .int (x1 + 1)), (0, .ref o)]) dX12_endMonth_92 1 rfl rfl (by decide) rfl ?_
                refine q_goto (tgt := 18) C dX12_endMonth_95 (by decide) ?_
                cases hF
                refine q_lsel [1, 0] rfl ?_
                exact ih (x1 + 1) (upd u5_now (x1).toNatClampNeg ((u5_now (x1).toNatClampNeg) + (1 : Int32))) z_now (hn _ rfl) hk
  unfold f_Model_endMonth at hF
  refine q_aload_n C dX12_endMonth_0 0 rfl rfl ?_
  refine q_get (C0 := RX12) (T := TX12) (N := 22) (k0 := 1) C lk1 0 rfl rfl (by decide) lk0 rfl (v := .ref o_now) rfl dX12_endMonth_1 ?_
  refine q_bipush (v := (20 : Int32)) C dX12_endMonth_4 (by decide) ?_
  refine q_iald C 1 0 rfl rfl (ix_in (by decide)) dX12_endMonth_6 ?_
  refine q_sipush (v := (999 : Int32)) C dX12_endMonth_7 (by decide) ?_
  refine q_icmp_ne (tgt := 16) C dX12_endMonth_10 (by decide) (fun c18 => ?_) (fun c18 => ?_)
  · have hF := ite_f hF c18
    refine q_iconst (v := (0 : Int32)) C dX12_endMonth_16 (by decide) ?_
    refine q_istore_n C ([(1, .int (0 : Int32)), (0, .ref o)]) dX12_endMonth_17 rfl (by decide) rfl ?_
    obtain ⟨z19_now, hc20, hF⟩ := bind_c hF
    obtain ⟨n21, hc20⟩ := (ev_iff _ _ _).mp hc20
    refine q_lsel [1, 0] rfl ?_
    refine L1 n21 (0 : Int32) v_now z19_now hc20 ?_
    refine q_aload_n C dX12_endMonth_98 0 rfl rfl ?_
    refine q_get (C0 := RX12) (T := TX12) (N := 22) (k0 := 1) C lk1 0 rfl rfl (by decide) lk0 rfl (v := .ref o_now) rfl dX12_endMonth_99 ?_
    refine q_bipush (v := (20 : Int32)) C dX12_endMonth_102 (by decide) ?_
    refine q_dup2 C dX12_endMonth_104 rfl rfl ?_
    refine q_iald C 1 0 rfl rfl (ix_in (by decide)) dX12_endMonth_105 ?_
    refine q_iconst (v := (1 : Int32)) C dX12_endMonth_106 (by decide) ?_
    refine q_iadd C dX12_endMonth_107 ?_
    refine q_iast C 1 0 rfl rfl (ix_in (by decide)) ([(o, .inr (12, [.ref o_book, .ref o_now, .ref o_moults, .ref o_words, .ref o_clashes, .ref o_rocks, .int v_counts, .ref o_count, .int v_signs, .ref o_pad, .int v_readMany, .int v_signedAll, .int v_reason, .int v_acts, .ref o_reached, .ref o_queue, .ref o_got, .long v_waitUp, .long v_waitLow, .ref o_wins, .ref o_image, .ref o_isKept])), (o_now, .inl (cI, 21, .inl (upd z19_now ((20 : Int32)).toNatClampNeg ((z19_now ((20 : Int32)).toNatClampNeg) + (1 : Int32))))), (o_moults, .inl (cI, 6, .inl v_moults))]) rfl dX12_endMonth_108 ?_
    refine q_iconst (v := (0 : Int32)) C dX12_endMonth_109 (by decide) ?_
    cases hF
    exact q_wreti C hr dX12_endMonth_110 hQ
  · have hF := ite_t hF c18
    refine q_bipush (v := (6 : Int32)) C dX12_endMonth_13 (by decide) ?_
    cases hF
    exact q_wreti C hr dX12_endMonth_15 hQ
set_option maxRecDepth 100000 in
set_option maxHeartbeats 4000000 in
theorem c_X12_herdAct (l : Launch) (dC : Nat → ClassId) (dI : Nat → Nat → Nat) (cI cZ cQ : ClassId) (o o_now o_book o_moults o_words o_clashes o_rocks o_count o_pad o_reached o_queue o_got o_wins o_image o_isKept : Nat) (v_now : Nat → Int32) (v_counts : Int32) (v_signs : Int32) (v_readMany : Int32) (v_signedAll : Int32) (v_reason : Int32) (v_acts : Int32) (v_waitUp : Int64) (v_waitLow : Int64) (p1 : Int32) (p2 : Int32) (p3 : Int32) (R : Int32) (w_now : Nat → Int32) (hF : f_Model_herdAct v_now p1 p2 p3 = some (R, w_now)) (sz : Nat) : Met l yX12_herdAct wsX12_herdAct ({ frames := 3, cells := 0, slots := 0, locals := 65 } : Room) (qPc ([.ref o, .int p1, .int p2, .int p3]) (dC, dI) (qT cI cZ cQ) ([(o, .inr (12, [.ref o_book, .ref o_now, .ref o_moults, .ref o_words, .ref o_clashes, .ref o_rocks, .int v_counts, .ref o_count, .int v_signs, .ref o_pad, .int v_readMany, .int v_signedAll, .int v_reason, .int v_acts, .ref o_reached, .ref o_queue, .ref o_got, .long v_waitUp, .long v_waitLow, .ref o_wins, .ref o_image, .ref o_isKept])), (o_now, .inl (cI, 21, .inl v_now))]) sz) (qWi R (dC, dI) ([(o, .inr (12, [.ref o_book, .ref o_now, .ref o_moults, .ref o_words, .ref o_clashes, .ref o_rocks, .int v_counts, .ref o_count, .int v_signs, .ref o_pad, .int v_readMany, .int v_signedAll, .int v_reason, .int v_acts, .ref o_reached, .ref o_queue, .ref o_got, .long v_waitUp, .long v_waitLow, .ref o_wins, .ref o_image, .ref o_isKept])), (o_now, .inl (cI, 21, .inl w_now))]) (va_A ([(o, .inr (12, [.ref o_book, .ref o_now, .ref o_moults, .ref o_words, .ref o_clashes, .ref o_rocks, .int v_counts, .ref o_count, .int v_signs, .ref o_pad, .int v_readMany, .int v_signedAll, .int v_reason, .int v_acts, .ref o_reached, .ref o_queue, .ref o_got, .long v_waitUp, .long v_waitLow, .ref o_wins, .ref o_image, .ref o_isKept])), (o_now, .inl (cI, 21, .inl v_now))]) sz)) 0 0 (va_A ([(o, .inr (12, [.ref o_book, .ref o_now, .ref o_moults, .ref o_words, .ref o_clashes, .ref o_rocks, .int v_counts, .ref o_count, .int v_signs, .ref o_pad, .int v_readMany, .int v_signedAll, .int v_reason, .int v_acts, .ref o_reached, .ref o_queue, .ref o_got, .long v_waitUp, .long v_waitLow, .ref o_wins, .ref o_image, .ref o_isKept])), (o_now, .inl (cI, 21, .inl v_now))]) sz) := by
  refine q_met_w (Qc := fun A => qWi R (dC, dI) ([(o, .inr (12, [.ref o_book, .ref o_now, .ref o_moults, .ref o_words, .ref o_clashes, .ref o_rocks, .int v_counts, .ref o_count, .int v_signs, .ref o_pad, .int v_readMany, .int v_signedAll, .int v_reason, .int v_acts, .ref o_reached, .ref o_queue, .ref o_got, .long v_waitUp, .long v_waitLow, .ref o_wins, .ref o_image, .ref o_isKept])), (o_now, .inl (cI, 21, .inl w_now))]) A) (cc := cX12_herdAct) (own := RX12) (maxL := 4) (ret := (some .int)) (lv0 := [(0, .ref o), (1, .int p1), (2, .int p2), (3, .int p3)]) (by decide) rfl rfl rfl (Nat.le_of_ble_eq_true rfl) ?_
  intro p e s m args below meth c A hA C hr hnm Q hQ
  unfold f_Model_herdAct at hF
  refine q_iload_n C dX12_herdAct_0 2 rfl rfl ?_
  refine q_bipush (v := (63 : Int32)) C dX12_herdAct_1 (by decide) ?_
  refine q_icmp_ne (tgt := 14) C dX12_herdAct_3 (by decide) (fun c1 => ?_) (fun c1 => ?_)
  · have hF := ite_f hF c1
    refine q_iload_n C dX12_herdAct_14 2 rfl rfl ?_
    refine q_bipush (v := (33 : Int32)) C dX12_herdAct_15 (by decide) ?_
    refine q_icmp_ne (tgt := 28) C dX12_herdAct_17 (by decide) (fun c2 => ?_) (fun c2 => ?_)
    · have hF := ite_f hF c2
      refine q_aload_n C dX12_herdAct_28 0 rfl rfl ?_
      refine q_iload_n C dX12_herdAct_29 1 rfl rfl ?_
      refine q_iload_n C dX12_herdAct_30 3 rfl rfl ?_
      obtain ⟨⟨r3, u3_now⟩, hc4, hF⟩ := bind_c hF
      dsimp only at hF
      refine q_rwi hA ([(o, .inr (12, [.ref o_book, .ref o_now, .ref o_moults, .ref o_words, .ref o_clashes, .ref o_rocks, .int v_counts, .ref o_count, .int v_signs, .ref o_pad, .int v_readMany, .int v_signedAll, .int v_reason, .int v_acts, .ref o_reached, .ref o_queue, .ref o_got, .long v_waitUp, .long v_waitLow, .ref o_wins, .ref o_image, .ref o_isKept])), (o_now, .inl (cI, 21, .inl u3_now))]) [0, 1] [] rfl rfl rfl (by decide) [0, 1] rfl rfl (q_runV (As := [.int p1, .int p3]) (rest := []) C (fun sz => c_X12_join l dC dI cI cZ cQ o o_now o_book o_moults o_words o_clashes o_rocks o_count o_pad o_reached o_queue o_got o_wins o_image o_isKept v_now v_counts v_signs v_readMany v_signedAll v_reason v_acts v_waitUp v_waitLow p1 p3 r3 u3_now hc4 sz) (cwV 2 C.2.2.2.2.1 gX12_herdAct_X12_join rfl rfl rfl (by decide +kernel) ⟨Nat.le_of_ble_eq_true rfl, Nat.le_of_ble_eq_true rfl⟩) 0 rfl rfl rfl [0, 1] rfl rfl rfl rfl (Nat.le_of_ble_eq_true rfl) dX12_herdAct_31 ⟨Nat.zero_le _, Nat.zero_le _⟩) ?_
      cases hF
      exact q_wreti C hr dX12_herdAct_34 hQ
    · have hF := ite_t hF c2
      refine q_aload_n C dX12_herdAct_20 0 rfl rfl ?_
      refine q_iload_n C dX12_herdAct_21 1 rfl rfl ?_
      obtain ⟨⟨r5, u5_now⟩, hc6, hF⟩ := bind_c hF
      dsimp only at hF
      refine q_rwi hA ([(o, .inr (12, [.ref o_book, .ref o_now, .ref o_moults, .ref o_words, .ref o_clashes, .ref o_rocks, .int v_counts, .ref o_count, .int v_signs, .ref o_pad, .int v_readMany, .int v_signedAll, .int v_reason, .int v_acts, .ref o_reached, .ref o_queue, .ref o_got, .long v_waitUp, .long v_waitLow, .ref o_wins, .ref o_image, .ref o_isKept])), (o_now, .inl (cI, 21, .inl u5_now))]) [0, 1] [] rfl rfl rfl (by decide) [0, 1] rfl rfl (q_runV (As := [.int p1]) (rest := []) C (fun sz => c_X12_net l dC dI cI cZ cQ o o_now o_book o_moults o_words o_clashes o_rocks o_count o_pad o_reached o_queue o_got o_wins o_image o_isKept v_now v_counts v_signs v_readMany v_signedAll v_reason v_acts v_waitUp v_waitLow p1 r5 u5_now hc6 sz) (cwV 1 C.2.2.2.2.1 gX12_herdAct_X12_net rfl rfl rfl (by decide +kernel) ⟨Nat.le_of_ble_eq_true rfl, Nat.le_of_ble_eq_true rfl⟩) 0 rfl rfl rfl [0, 1] rfl rfl rfl rfl (Nat.le_of_ble_eq_true rfl) dX12_herdAct_22 ⟨Nat.zero_le _, Nat.zero_le _⟩) ?_
      refine q_goto (tgt := 34) C dX12_herdAct_25 (by decide) ?_
      cases hF
      exact q_wreti C hr dX12_herdAct_34 hQ
  · have hF := ite_t hF c1
    refine q_aload_n C dX12_herdAct_6 0 rfl rfl ?_
    refine q_iload_n C dX12_herdAct_7 1 rfl rfl ?_
    obtain ⟨⟨r7, u7_now⟩, hc8, hF⟩ := bind_c hF
    dsimp only at hF
    refine q_rwi hA ([(o, .inr (12, [.ref o_book, .ref o_now, .ref o_moults, .ref o_words, .ref o_clashes, .ref o_rocks, .int v_counts, .ref o_count, .int v_signs, .ref o_pad, .int v_readMany, .int v_signedAll, .int v_reason, .int v_acts, .ref o_reached, .ref o_queue, .ref o_got, .long v_waitUp, .long v_waitLow, .ref o_wins, .ref o_image, .ref o_isKept])), (o_now, .inl (cI, 21, .inl u7_now))]) [0, 1] [] rfl rfl rfl (by decide) [0, 1] rfl rfl (q_runV (As := [.int p1]) (rest := []) C (fun sz => c_X12_whistle l dC dI cI cZ cQ o o_now o_book o_moults o_words o_clashes o_rocks o_count o_pad o_reached o_queue o_got o_wins o_image o_isKept v_now v_counts v_signs v_readMany v_signedAll v_reason v_acts v_waitUp v_waitLow p1 r7 u7_now hc8 sz) (cwV 1 C.2.2.2.2.1 gX12_herdAct_X12_whistle rfl rfl rfl (by decide +kernel) ⟨Nat.le_of_ble_eq_true rfl, Nat.le_of_ble_eq_true rfl⟩) 0 rfl rfl rfl [0, 1] rfl rfl rfl rfl (Nat.le_of_ble_eq_true rfl) dX12_herdAct_8 ⟨Nat.zero_le _, Nat.zero_le _⟩) ?_
    refine q_goto (tgt := 34) C dX12_herdAct_11 (by decide) ?_
    cases hF
    exact q_wreti C hr dX12_herdAct_34 hQ
set_option maxRecDepth 100000 in
set_option maxHeartbeats 4000000 in
theorem c_X12_goSeasons (l : Launch) (dC : Nat → ClassId) (dI : Nat → Nat → Nat) (cI cZ cQ : ClassId) (o o_book o_now o_moults o_words o_pad o_clashes o_rocks o_count o_reached o_queue o_got o_wins o_image o_isKept : Nat) (v_book : Nat → Int32) (v_now : Nat → Int32) (v_moults : Nat → Int32) (v_words : Nat → Int32) (v_signs : Int32) (v_pad : Nat → Int32) (v_readMany : Int32) (v_signedAll : Int32) (v_reason : Int32) (v_acts : Int32) (v_counts : Int32) (v_waitUp : Int64) (v_waitLow : Int64) (R : Int32) (w_now : Nat → Int32) (w_readMany : Int32) (w_signedAll : Int32) (w_reason : Int32) (w_acts : Int32) (hF : f_Model_goSeasons v_book v_now v_moults v_words v_signs v_pad v_readMany v_signedAll v_reason v_acts = some (R, w_now, w_readMany, w_signedAll, w_reason, w_acts)) (sz : Nat) : Met l yX12_goSeasons wsX12_goSeasons ({ frames := 5, cells := 0, slots := 0, locals := 111 } : Room) (qPc ([.ref o]) (dC, dI) (qT cI cZ cQ) ([(o, .inr (12, [.ref o_book, .ref o_now, .ref o_moults, .ref o_words, .ref o_clashes, .ref o_rocks, .int v_counts, .ref o_count, .int v_signs, .ref o_pad, .int v_readMany, .int v_signedAll, .int v_reason, .int v_acts, .ref o_reached, .ref o_queue, .ref o_got, .long v_waitUp, .long v_waitLow, .ref o_wins, .ref o_image, .ref o_isKept])), (o_book, .inl (cI, 21, .inl v_book)), (o_now, .inl (cI, 21, .inl v_now)), (o_moults, .inl (cI, 6, .inl v_moults)), (o_words, .inl (cI, 10, .inl v_words)), (o_pad, .inl (cI, 60, .inl v_pad))]) sz) (qWi R (dC, dI) ([(o, .inr (12, [.ref o_book, .ref o_now, .ref o_moults, .ref o_words, .ref o_clashes, .ref o_rocks, .int v_counts, .ref o_count, .int v_signs, .ref o_pad, .int w_readMany, .int w_signedAll, .int w_reason, .int w_acts, .ref o_reached, .ref o_queue, .ref o_got, .long v_waitUp, .long v_waitLow, .ref o_wins, .ref o_image, .ref o_isKept])), (o_book, .inl (cI, 21, .inl v_book)), (o_now, .inl (cI, 21, .inl w_now)), (o_moults, .inl (cI, 6, .inl v_moults)), (o_words, .inl (cI, 10, .inl v_words)), (o_pad, .inl (cI, 60, .inl v_pad))]) (va_A ([(o, .inr (12, [.ref o_book, .ref o_now, .ref o_moults, .ref o_words, .ref o_clashes, .ref o_rocks, .int v_counts, .ref o_count, .int v_signs, .ref o_pad, .int v_readMany, .int v_signedAll, .int v_reason, .int v_acts, .ref o_reached, .ref o_queue, .ref o_got, .long v_waitUp, .long v_waitLow, .ref o_wins, .ref o_image, .ref o_isKept])), (o_book, .inl (cI, 21, .inl v_book)), (o_now, .inl (cI, 21, .inl v_now)), (o_moults, .inl (cI, 6, .inl v_moults)), (o_words, .inl (cI, 10, .inl v_words)), (o_pad, .inl (cI, 60, .inl v_pad))]) sz)) 0 0 (va_A ([(o, .inr (12, [.ref o_book, .ref o_now, .ref o_moults, .ref o_words, .ref o_clashes, .ref o_rocks, .int v_counts, .ref o_count, .int v_signs, .ref o_pad, .int v_readMany, .int v_signedAll, .int v_reason, .int v_acts, .ref o_reached, .ref o_queue, .ref o_got, .long v_waitUp, .long v_waitLow, .ref o_wins, .ref o_image, .ref o_isKept])), (o_book, .inl (cI, 21, .inl v_book)), (o_now, .inl (cI, 21, .inl v_now)), (o_moults, .inl (cI, 6, .inl v_moults)), (o_words, .inl (cI, 10, .inl v_words)), (o_pad, .inl (cI, 60, .inl v_pad))]) sz) := by
  refine q_met_w (Qc := fun A => qWi R (dC, dI) ([(o, .inr (12, [.ref o_book, .ref o_now, .ref o_moults, .ref o_words, .ref o_clashes, .ref o_rocks, .int v_counts, .ref o_count, .int v_signs, .ref o_pad, .int w_readMany, .int w_signedAll, .int w_reason, .int w_acts, .ref o_reached, .ref o_queue, .ref o_got, .long v_waitUp, .long v_waitLow, .ref o_wins, .ref o_image, .ref o_isKept])), (o_book, .inl (cI, 21, .inl v_book)), (o_now, .inl (cI, 21, .inl w_now)), (o_moults, .inl (cI, 6, .inl v_moults)), (o_words, .inl (cI, 10, .inl v_words)), (o_pad, .inl (cI, 60, .inl v_pad))]) A) (cc := cX12_goSeasons) (own := RX12) (maxL := 4) (ret := (some .int)) (lv0 := [(0, .ref o)]) (by decide) rfl rfl rfl (Nat.le_of_ble_eq_true rfl) ?_
  intro p e s m args below meth c A hA C hr hnm Q hQ
  have lk0 : Cond.fieldLink RX12 109 "SealStraitModel" "acts" "I" ∈ wsX12_goSeasons := by decide +kernel
  have lk1 : ∀ w ∈ u_ws RX12 TX12 22, w ∈ wsX12_goSeasons := fun w h => List.mem_cons_of_mem _ (List.mem_append_right _ h)
  have lk2 : Cond.fieldLink RX12 69 "SealStraitModel" "signs" "I" ∈ wsX12_goSeasons := by decide +kernel
  have lk3 : Cond.fieldLink RX12 31 "SealStraitModel" "pad" "[I" ∈ wsX12_goSeasons := by decide +kernel
  have lk4 : Cond.fieldLink RX12 116 "SealStraitModel" "reason" "I" ∈ wsX12_goSeasons := by decide +kernel
  have L1 : ∀ (n : Nat) (x1 : Int32) (v_now : Nat → Int32) (v_readMany : Int32) (v_signedAll : Int32) (v_reason : Int32) (v_acts : Int32), evr (fun s => b_Model_goSeasons_1 v_moults v_words v_signs v_pad s.1 s.2.1 s.2.2.1 s.2.2.2.1 s.2.2.2.2.1 s.2.2.2.2.2) n (x1, v_now, v_readMany, v_signedAll, v_reason, v_acts) = some (R, w_now, w_readMany, w_signedAll, w_reason, w_acts) → qG p l e ({ frames := 5, cells := 0, slots := 0, locals := 111 } : Room) s m args below meth c 4 (dC, dI) A A Q 0 0 ([(0, .ref o), (1, .int x1)]) [] ([(o, .inr (12, [.ref o_book, .ref o_now, .ref o_moults, .ref o_words, .ref o_clashes, .ref o_rocks, .int v_counts, .ref o_count, .int v_signs, .ref o_pad, .int v_readMany, .int v_signedAll, .int v_reason, .int v_acts, .ref o_reached, .ref o_queue, .ref o_got, .long v_waitUp, .long v_waitLow, .ref o_wins, .ref o_image, .ref o_isKept])), (o_book, .inl (cI, 21, .inl v_book)), (o_now, .inl (cI, 21, .inl v_now)), (o_moults, .inl (cI, 6, .inl v_moults)), (o_words, .inl (cI, 10, .inl v_words)), (o_pad, .inl (cI, 60, .inl v_pad))]) 11 := by
    clear hF
    intro n
    induction n with
    | zero => intro x1 v_now v_readMany v_signedAll v_reason v_acts  hF; exact (evr_0 hF).elim
    | succ n ih =>
      intro x1 v_now v_readMany v_signedAll v_reason v_acts  hF
      obtain ⟨o9, hB, hn, hx⟩ := evr_c hF
      have hF : b_Model_goSeasons_1 v_moults v_words v_signs v_pad x1 v_now v_readMany v_signedAll v_reason v_acts = some o9 := hB
      unfold b_Model_goSeasons_1 at hF
      refine q_iload_n C dX12_goSeasons_11 1 rfl rfl ?_
      refine q_aload_n C dX12_goSeasons_12 0 rfl rfl ?_
      refine q_get (C0 := RX12) (T := TX12) (N := 22) (k0 := 8) C lk1 0 rfl rfl (by decide) lk2 rfl (v := .int v_signs) rfl dX12_goSeasons_13 ?_
      refine q_icmp_ge (tgt := 150) C dX12_goSeasons_16 (by decide) (fun c1 => ?_) (fun c1 => ?_)
      · have hF := ite_t hF c1
        refine q_bipush (v := (-6 : Int32)) C dX12_goSeasons_150 (by decide) ?_
        cases hF
        have e2 := hx _ rfl
        cases e2
        exact q_wreti C hr dX12_goSeasons_152 hQ
      · have hF := ite_f hF c1
        refine q_aload_n C dX12_goSeasons_19 0 rfl rfl ?_
        refine q_get (C0 := RX12) (T := TX12) (N := 22) (k0 := 9) C lk1 0 rfl rfl (by decide) lk3 rfl (v := .ref o_pad) rfl dX12_goSeasons_20 ?_
        refine q_iload_n C dX12_goSeasons_23 1 rfl rfl ?_
        obtain ⟨hc3, hF⟩ := ite_c hF
        refine q_iald C 5 0 rfl rfl (ix_in hc3) dX12_goSeasons_24 ?_
        refine q_istore_n C ([(2, .int (v_pad (x1).toNatClampNeg)), (0, .ref o), (1, .int x1)]) dX12_goSeasons_25 rfl (by decide) rfl ?_
        refine q_iload_n C dX12_goSeasons_26 0 rfl rfl ?_
        refine q_bipush (v := (65 : Int32)) C dX12_goSeasons_27 (by decide) ?_
        refine q_bipush (v := (70 : Int32)) C dX12_goSeasons_29 (by decide) ?_
        refine q_roz (q_runS (As := [.int (v_pad (x1).toNatClampNeg), .int (65 : Int32), .int (70 : Int32)]) (rest := []) C (fun sz => c_X12_in l dC dI cI cZ cQ (v_pad (x1).toNatClampNeg) (65 : Int32) (70 : Int32) (f_Model_in (v_pad (x1).toNatClampNeg) (65 : Int32) (70 : Int32)) rfl sz) (va_cwS 3 C.2.2.2.2.1 gX12_goSeasons_X12_in rfl rfl rfl (by decide +kernel) ⟨Nat.le_of_ble_eq_true rfl, Nat.le_of_ble_eq_true rfl⟩) [] rfl rfl rfl rfl (Nat.le_of_ble_eq_true rfl) dX12_goSeasons_31 ⟨Nat.zero_le _, Nat.zero_le _⟩) (fun hz4 => ?_)
        refine q_if_eq (tgt := 97) C dX12_goSeasons_34 (by decide) (fun c5 => ?_) (fun c5 => ?_)
        · have hF := ite_t hF c5
          refine q_aload_n C dX12_goSeasons_97 1 rfl rfl ?_
          refine q_iload_n C dX12_goSeasons_98 0 rfl rfl ?_
          refine q_bipush (v := (46 : Int32)) C dX12_goSeasons_99 (by decide) ?_
          refine q_icmp_ne (tgt := 111) C dX12_goSeasons_101 (by decide) (fun c6 => ?_) (fun c6 => ?_)
          · have hF := ite_f hF c6
            refine q_aload_n C dX12_goSeasons_111 1 rfl rfl ?_
            refine q_iload_n C dX12_goSeasons_112 0 rfl rfl ?_
            refine q_bipush (v := (97 : Int32)) C dX12_goSeasons_113 (by decide) ?_
            refine q_isub C dX12_goSeasons_115 ?_
            obtain ⟨⟨r7, u7_now, u7_readMany, u7_signedAll⟩, hc8, hF⟩ := bind_c hF
            dsimp only at hF
            refine q_rwi hA ([(o, .inr (12, [.ref o_book, .ref o_now, .ref o_moults, .ref o_words, .ref o_clashes, .ref o_rocks, .int v_counts, .ref o_count, .int v_signs, .ref o_pad, .int u7_readMany, .int u7_signedAll, .int v_reason, .int v_acts, .ref o_reached, .ref o_queue, .ref o_got, .long v_waitUp, .long v_waitLow, .ref o_wins, .ref o_image, .ref o_isKept])), (o_book, .inl (cI, 21, .inl v_book)), (o_now, .inl (cI, 21, .inl u7_now)), (o_moults, .inl (cI, 6, .inl v_moults)), (o_words, .inl (cI, 10, .inl v_words)), (o_pad, .inl (cI, 60, .inl v_pad))]) [0, 2, 3, 4] [1, 5] rfl rfl rfl (by decide) [2, 0, 3, 4, 5, 1] rfl rfl (q_runV (As := [.int ((v_pad (x1).toNatClampNeg) - (97 : Int32))]) (rest := [.ref o]) C (fun sz => c_X12_read l dC dI cI cZ cQ o o_now o_moults o_words o_book o_clashes o_rocks o_count o_pad o_reached o_queue o_got o_wins o_image o_isKept v_now v_moults v_words v_readMany v_signedAll v_counts v_signs v_reason v_acts v_waitUp v_waitLow ((v_pad (x1).toNatClampNeg) - (97 : Int32)) r7 u7_now u7_readMany u7_signedAll hc8 sz) (cwV 1 C.2.2.2.2.1 gX12_goSeasons_X12_read rfl rfl rfl (by decide +kernel) ⟨Nat.le_of_ble_eq_true rfl, Nat.le_of_ble_eq_true rfl⟩) 0 rfl rfl rfl [0, 2, 3, 4] rfl rfl rfl rfl (Nat.le_of_ble_eq_true rfl) dX12_goSeasons_116 ⟨Nat.zero_le _, Nat.zero_le _⟩) ?_
            refine q_put (C0 := RX12) (T := TX12) (N := 22) (k0 := 12) C lk1 0 rfl rfl (by decide) lk4 rfl tyX12 tyX12_ok nmX12 rfl (v := .int r7) rfl rfl (Nat.le_of_ble_eq_true rfl) ([(o, .inr (12, [.ref o_book, .ref o_now, .ref o_moults, .ref o_words, .ref o_clashes, .ref o_rocks, .int v_counts, .ref o_count, .int v_signs, .ref o_pad, .int u7_readMany, .int u7_signedAll, .int r7, .int v_acts, .ref o_reached, .ref o_queue, .ref o_got, .long v_waitUp, .long v_waitLow, .ref o_wins, .ref o_image, .ref o_isKept])), (o_book, .inl (cI, 21, .inl v_book)), (o_now, .inl (cI, 21, .inl u7_now)), (o_moults, .inl (cI, 6, .inl v_moults)), (o_words, .inl (cI, 10, .inl v_words)), (o_pad, .inl (cI, 60, .inl v_pad))]) rfl dX12_goSeasons_119 ?_
            refine q_iinc (v := (x1 + 1)) C ([(1, .int (x1 + 1)), (2, .int (v_pad (x1).toNatClampNeg)), (0, .ref o)]) dX12_goSeasons_122 2 rfl rfl (by decide) rfl ?_
            refine q_aload_n C dX12_goSeasons_125 2 rfl rfl ?_
            refine q_get (C0 := RX12) (T := TX12) (N := 22) (k0 := 12) C lk1 0 rfl rfl (by decide) lk4 rfl (v := .int r7) rfl dX12_goSeasons_126 ?_
            refine q_if_le (tgt := 137) C dX12_goSeasons_129 (by decide) (fun c9 => ?_) (fun c9 => ?_)
            · have hF := ite_t hF c9
              refine q_aload_n C dX12_goSeasons_137 2 rfl rfl ?_
              refine q_dup C dX12_goSeasons_138 rfl ?_
              refine q_get (C0 := RX12) (T := TX12) (N := 22) (k0 := 13) C lk1 0 rfl rfl (by decide) lk0 rfl (v := .int v_acts) rfl dX12_goSeasons_139 ?_
              refine q_iconst (v := (1 : Int32)) C dX12_goSeasons_142 (by decide) ?_
              refine q_iadd C dX12_goSeasons_143 ?_
              refine q_put (C0 := RX12) (T := TX12) (N := 22) (k0 := 13) C lk1 0 rfl rfl (by decide) lk0 rfl tyX12 tyX12_ok nmX12 rfl (v := .int (v_acts + (1 : Int32))) rfl rfl (Nat.le_of_ble_eq_true rfl) ([(o, .inr (12, [.ref o_book, .ref o_now, .ref o_moults, .ref o_words, .ref o_clashes, .ref o_rocks, .int v_counts, .ref o_count, .int v_signs, .ref o_pad, .int u7_readMany, .int u7_signedAll, .int r7, .int (v_acts + (1 : Int32)), .ref o_reached, .ref o_queue, .ref o_got, .long v_waitUp, .long v_waitLow, .ref o_wins, .ref o_image, .ref o_isKept])), (o_book, .inl (cI, 21, .inl v_book)), (o_now, .inl (cI, 21, .inl u7_now)), (o_moults, .inl (cI, 6, .inl v_moults)), (o_words, .inl (cI, 10, .inl v_words)), (o_pad, .inl (cI, 60, .inl v_pad))]) rfl dX12_goSeasons_144 ?_
              refine q_goto (tgt := 11) C dX12_goSeasons_147 (by decide) ?_
              cases hF
              refine q_lsel [2, 0] rfl ?_
              exact ih (x1 + 1) u7_now u7_readMany u7_signedAll r7 (v_acts + (1 : Int32)) (hn _ rfl)
            · have hF := ite_f hF c9
              refine q_aload_n C dX12_goSeasons_132 2 rfl rfl ?_
              refine q_get (C0 := RX12) (T := TX12) (N := 22) (k0 := 13) C lk1 0 rfl rfl (by decide) lk0 rfl (v := .int v_acts) rfl dX12_goSeasons_133 ?_
              cases hF
              have e10 := hx _ rfl
              cases e10
              exact q_wreti C hr dX12_goSeasons_136 hQ
          · have hF := ite_t hF c6
            refine q_aload_n C dX12_goSeasons_104 1 rfl rfl ?_
            obtain ⟨⟨r11, u11_now⟩, hc12, hF⟩ := bind_c hF
            dsimp only at hF
            refine q_rwi hA ([(o, .inr (12, [.ref o_book, .ref o_now, .ref o_moults, .ref o_words, .ref o_clashes, .ref o_rocks, .int v_counts, .ref o_count, .int v_signs, .ref o_pad, .int v_readMany, .int v_signedAll, .int v_reason, .int v_acts, .ref o_reached, .ref o_queue, .ref o_got, .long v_waitUp, .long v_waitLow, .ref o_wins, .ref o_image, .ref o_isKept])), (o_book, .inl (cI, 21, .inl v_book)), (o_now, .inl (cI, 21, .inl u11_now)), (o_moults, .inl (cI, 6, .inl v_moults)), (o_words, .inl (cI, 10, .inl v_words)), (o_pad, .inl (cI, 60, .inl v_pad))]) [0, 2, 3] [1, 4, 5] rfl rfl rfl (by decide) [3, 0, 4, 5, 1, 2] rfl rfl (q_runV (As := []) (rest := [.ref o]) C (fun sz => c_X12_endMonth l dC dI cI cZ cQ o o_now o_moults o_book o_words o_clashes o_rocks o_count o_pad o_reached o_queue o_got o_wins o_image o_isKept v_now v_moults v_counts v_signs v_readMany v_signedAll v_reason v_acts v_waitUp v_waitLow r11 u11_now hc12 sz) (cwV 0 C.2.2.2.2.1 gX12_goSeasons_X12_endMonth rfl rfl rfl (by decide +kernel) ⟨Nat.le_of_ble_eq_true rfl, Nat.le_of_ble_eq_true rfl⟩) 0 rfl rfl rfl [0, 2, 3] rfl rfl rfl rfl (Nat.le_of_ble_eq_true rfl) dX12_goSeasons_105 ⟨Nat.zero_le _, Nat.zero_le _⟩) ?_
            refine q_goto (tgt := 119) C dX12_goSeasons_108 (by decide) ?_
            refine q_put (C0 := RX12) (T := TX12) (N := 22) (k0 := 12) C lk1 0 rfl rfl (by decide) lk4 rfl tyX12 tyX12_ok nmX12 rfl (v := .int r11) rfl rfl (Nat.le_of_ble_eq_true rfl) ([(o, .inr (12, [.ref o_book, .ref o_now, .ref o_moults, .ref o_words, .ref o_clashes, .ref o_rocks, .int v_counts, .ref o_count, .int v_signs, .ref o_pad, .int v_readMany, .int v_signedAll, .int r11, .int v_acts, .ref o_reached, .ref o_queue, .ref o_got, .long v_waitUp, .long v_waitLow, .ref o_wins, .ref o_image, .ref o_isKept])), (o_book, .inl (cI, 21, .inl v_book)), (o_now, .inl (cI, 21, .inl u11_now)), (o_moults, .inl (cI, 6, .inl v_moults)), (o_words, .inl (cI, 10, .inl v_words)), (o_pad, .inl (cI, 60, .inl v_pad))]) rfl dX12_goSeasons_119 ?_
            refine q_iinc (v := (x1 + 1)) C ([(1, .int (x1 + 1)), (2, .int (v_pad (x1).toNatClampNeg)), (0, .ref o)]) dX12_goSeasons_122 2 rfl rfl (by decide) rfl ?_
            refine q_aload_n C dX12_goSeasons_125 2 rfl rfl ?_
            refine q_get (C0 := RX12) (T := TX12) (N := 22) (k0 := 12) C lk1 0 rfl rfl (by decide) lk4 rfl (v := .int r11) rfl dX12_goSeasons_126 ?_
            refine q_if_le (tgt := 137) C dX12_goSeasons_129 (by decide) (fun c13 => ?_) (fun c13 => ?_)
            · have hF := ite_t hF c13
              refine q_aload_n C dX12_goSeasons_137 2 rfl rfl ?_
              refine q_dup C dX12_goSeasons_138 rfl ?_
              refine q_get (C0 := RX12) (T := TX12) (N := 22) (k0 := 13) C lk1 0 rfl rfl (by decide) lk0 rfl (v := .int v_acts) rfl dX12_goSeasons_139 ?_
              refine q_iconst (v := (1 : Int32)) C dX12_goSeasons_142 (by decide) ?_
              refine q_iadd C dX12_goSeasons_143 ?_
              refine q_put (C0 := RX12) (T := TX12) (N := 22) (k0 := 13) C lk1 0 rfl rfl (by decide) lk0 rfl tyX12 tyX12_ok nmX12 rfl (v := .int (v_acts + (1 : Int32))) rfl rfl (Nat.le_of_ble_eq_true rfl) ([(o, .inr (12, [.ref o_book, .ref o_now, .ref o_moults, .ref o_words, .ref o_clashes, .ref o_rocks, .int v_counts, .ref o_count, .int v_signs, .ref o_pad, .int v_readMany, .int v_signedAll, .int r11, .int (v_acts + (1 : Int32)), .ref o_reached, .ref o_queue, .ref o_got, .long v_waitUp, .long v_waitLow, .ref o_wins, .ref o_image, .ref o_isKept])), (o_book, .inl (cI, 21, .inl v_book)), (o_now, .inl (cI, 21, .inl u11_now)), (o_moults, .inl (cI, 6, .inl v_moults)), (o_words, .inl (cI, 10, .inl v_words)), (o_pad, .inl (cI, 60, .inl v_pad))]) rfl dX12_goSeasons_144 ?_
              refine q_goto (tgt := 11) C dX12_goSeasons_147 (by decide) ?_
              cases hF
              refine q_lsel [2, 0] rfl ?_
              exact ih (x1 + 1) u11_now v_readMany v_signedAll r11 (v_acts + (1 : Int32)) (hn _ rfl)
            · have hF := ite_f hF c13
              refine q_aload_n C dX12_goSeasons_132 2 rfl rfl ?_
              refine q_get (C0 := RX12) (T := TX12) (N := 22) (k0 := 13) C lk1 0 rfl rfl (by decide) lk0 rfl (v := .int v_acts) rfl dX12_goSeasons_133 ?_
              cases hF
              have e14 := hx _ rfl
              cases e14
              exact q_wreti C hr dX12_goSeasons_136 hQ
        · have hF := ite_f hF c5
          refine q_aload_n C dX12_goSeasons_37 1 rfl rfl ?_
          refine q_get (C0 := RX12) (T := TX12) (N := 22) (k0 := 9) C lk1 0 rfl rfl (by decide) lk3 rfl (v := .ref o_pad) rfl dX12_goSeasons_38 ?_
          refine q_iload_n C dX12_goSeasons_41 2 rfl rfl ?_
          refine q_iconst (v := (1 : Int32)) C dX12_goSeasons_42 (by decide) ?_
          refine q_iadd C dX12_goSeasons_43 ?_
          obtain ⟨hc15, hF⟩ := ite_c hF
          refine q_iald C 5 0 rfl rfl (ix_in hc15) dX12_goSeasons_44 ?_
          refine q_istore_n C ([(3, .int (v_pad ((x1 + (1 : Int32))).toNatClampNeg)), (2, .int (v_pad (x1).toNatClampNeg)), (0, .ref o), (1, .int x1)]) dX12_goSeasons_45 rfl (by decide) rfl ?_
          refine q_aload_n C dX12_goSeasons_46 2 rfl rfl ?_
          refine q_aload_n C dX12_goSeasons_47 2 rfl rfl ?_
          refine q_iload_n C dX12_goSeasons_48 1 rfl rfl ?_
          refine q_bipush (v := (65 : Int32)) C dX12_goSeasons_49 (by decide) ?_
          refine q_isub C dX12_goSeasons_51 ?_
          refine q_iload_n C dX12_goSeasons_52 0 rfl rfl ?_
          refine q_iload_n C dX12_goSeasons_53 0 rfl rfl ?_
          refine q_bipush (v := (38 : Int32)) C dX12_goSeasons_54 (by decide) ?_
          refine q_icmp_ne (tgt := 73) C dX12_goSeasons_56 (by decide) (fun c16 => ?_) (fun c16 => ?_)
          · have hF := ite_f hF c16
            refine q_iconst (v := (0 : Int32)) C dX12_goSeasons_73 (by decide) ?_
            obtain ⟨⟨r17, u17_now⟩, hc18, hF⟩ := bind_c hF
            dsimp only at hF
            refine q_rwi hA ([(o, .inr (12, [.ref o_book, .ref o_now, .ref o_moults, .ref o_words, .ref o_clashes, .ref o_rocks, .int v_counts, .ref o_count, .int v_signs, .ref o_pad, .int v_readMany, .int v_signedAll, .int v_reason, .int v_acts, .ref o_reached, .ref o_queue, .ref o_got, .long v_waitUp, .long v_waitLow, .ref o_wins, .ref o_image, .ref o_isKept])), (o_book, .inl (cI, 21, .inl v_book)), (o_now, .inl (cI, 21, .inl u17_now)), (o_moults, .inl (cI, 6, .inl v_moults)), (o_words, .inl (cI, 10, .inl v_words)), (o_pad, .inl (cI, 60, .inl v_pad))]) [0, 2] [1, 3, 4, 5] rfl rfl rfl (by decide) [4, 0, 5, 1, 2, 3] rfl rfl (q_runV (As := [.int ((v_pad (x1).toNatClampNeg) - (65 : Int32)), .int (v_pad ((x1 + (1 : Int32))).toNatClampNeg), .int (0 : Int32)]) (rest := [.ref o]) C (fun sz => c_X12_herdAct l dC dI cI cZ cQ o o_now o_book o_moults o_words o_clashes o_rocks o_count o_pad o_reached o_queue o_got o_wins o_image o_isKept v_now v_counts v_signs v_readMany v_signedAll v_reason v_acts v_waitUp v_waitLow ((v_pad (x1).toNatClampNeg) - (65 : Int32)) (v_pad ((x1 + (1 : Int32))).toNatClampNeg) (0 : Int32) r17 u17_now hc18 sz) (cwV 3 C.2.2.2.2.1 gX12_goSeasons_X12_herdAct rfl rfl rfl (by decide +kernel) ⟨Nat.le_of_ble_eq_true rfl, Nat.le_of_ble_eq_true rfl⟩) 0 rfl rfl rfl [0, 2] rfl rfl rfl rfl (Nat.le_of_ble_eq_true rfl) dX12_goSeasons_74 ⟨Nat.zero_le _, Nat.zero_le _⟩) ?_
            refine q_put (C0 := RX12) (T := TX12) (N := 22) (k0 := 12) C lk1 0 rfl rfl (by decide) lk4 rfl tyX12 tyX12_ok nmX12 rfl (v := .int r17) rfl rfl (Nat.le_of_ble_eq_true rfl) ([(o, .inr (12, [.ref o_book, .ref o_now, .ref o_moults, .ref o_words, .ref o_clashes, .ref o_rocks, .int v_counts, .ref o_count, .int v_signs, .ref o_pad, .int v_readMany, .int v_signedAll, .int r17, .int v_acts, .ref o_reached, .ref o_queue, .ref o_got, .long v_waitUp, .long v_waitLow, .ref o_wins, .ref o_image, .ref o_isKept])), (o_book, .inl (cI, 21, .inl v_book)), (o_now, .inl (cI, 21, .inl u17_now)), (o_moults, .inl (cI, 6, .inl v_moults)), (o_words, .inl (cI, 10, .inl v_words)), (o_pad, .inl (cI, 60, .inl v_pad))]) rfl dX12_goSeasons_77 ?_
            refine q_iload_n C dX12_goSeasons_80 3 rfl rfl ?_
            refine q_iload_n C dX12_goSeasons_81 0 rfl rfl ?_
            refine q_bipush (v := (38 : Int32)) C dX12_goSeasons_82 (by decide) ?_
            refine q_icmp_ne (tgt := 91) C dX12_goSeasons_84 (by decide) (fun c19 => ?_) (fun c19 => ?_)
            · have hF := ite_f hF c19
              refine q_iconst (v := (2 : Int32)) C dX12_goSeasons_91 (by decide) ?_
              refine q_iadd C dX12_goSeasons_92 ?_
              refine q_istore_n C ([(1, .int (x1 + (2 : Int32))), (3, .int (v_pad ((x1 + (1 : Int32))).toNatClampNeg)), (2, .int (v_pad (x1).toNatClampNeg)), (0, .ref o)]) dX12_goSeasons_93 rfl (by decide) rfl ?_
              refine q_goto (tgt := 125) C dX12_goSeasons_94 (by decide) ?_
              refine q_aload_n C dX12_goSeasons_125 3 rfl rfl ?_
              refine q_get (C0 := RX12) (T := TX12) (N := 22) (k0 := 12) C lk1 0 rfl rfl (by decide) lk4 rfl (v := .int r17) rfl dX12_goSeasons_126 ?_
              refine q_if_le (tgt := 137) C dX12_goSeasons_129 (by decide) (fun c20 => ?_) (fun c20 => ?_)
              · have hF := ite_t hF c20
                refine q_aload_n C dX12_goSeasons_137 3 rfl rfl ?_
                refine q_dup C dX12_goSeasons_138 rfl ?_
                refine q_get (C0 := RX12) (T := TX12) (N := 22) (k0 := 13) C lk1 0 rfl rfl (by decide) lk0 rfl (v := .int v_acts) rfl dX12_goSeasons_139 ?_
                refine q_iconst (v := (1 : Int32)) C dX12_goSeasons_142 (by decide) ?_
                refine q_iadd C dX12_goSeasons_143 ?_
                refine q_put (C0 := RX12) (T := TX12) (N := 22) (k0 := 13) C lk1 0 rfl rfl (by decide) lk0 rfl tyX12 tyX12_ok nmX12 rfl (v := .int (v_acts + (1 : Int32))) rfl rfl (Nat.le_of_ble_eq_true rfl) ([(o, .inr (12, [.ref o_book, .ref o_now, .ref o_moults, .ref o_words, .ref o_clashes, .ref o_rocks, .int v_counts, .ref o_count, .int v_signs, .ref o_pad, .int v_readMany, .int v_signedAll, .int r17, .int (v_acts + (1 : Int32)), .ref o_reached, .ref o_queue, .ref o_got, .long v_waitUp, .long v_waitLow, .ref o_wins, .ref o_image, .ref o_isKept])), (o_book, .inl (cI, 21, .inl v_book)), (o_now, .inl (cI, 21, .inl u17_now)), (o_moults, .inl (cI, 6, .inl v_moults)), (o_words, .inl (cI, 10, .inl v_words)), (o_pad, .inl (cI, 60, .inl v_pad))]) rfl dX12_goSeasons_144 ?_
                refine q_goto (tgt := 11) C dX12_goSeasons_147 (by decide) ?_
                cases hF
                refine q_lsel [3, 0] rfl ?_
                exact ih (x1 + (2 : Int32)) u17_now v_readMany v_signedAll r17 (v_acts + (1 : Int32)) (hn _ rfl)
              · have hF := ite_f hF c20
                refine q_aload_n C dX12_goSeasons_132 3 rfl rfl ?_
                refine q_get (C0 := RX12) (T := TX12) (N := 22) (k0 := 13) C lk1 0 rfl rfl (by decide) lk0 rfl (v := .int v_acts) rfl dX12_goSeasons_133 ?_
                cases hF
                have e21 := hx _ rfl
                cases e21
                exact q_wreti C hr dX12_goSeasons_136 hQ
            · have hF := ite_t hF c19
              refine q_iconst (v := (3 : Int32)) C dX12_goSeasons_87 (by decide) ?_
              refine q_goto (tgt := 92) C dX12_goSeasons_88 (by decide) ?_
              refine q_iadd C dX12_goSeasons_92 ?_
              refine q_istore_n C ([(1, .int (x1 + (3 : Int32))), (3, .int (v_pad ((x1 + (1 : Int32))).toNatClampNeg)), (2, .int (v_pad (x1).toNatClampNeg)), (0, .ref o)]) dX12_goSeasons_93 rfl (by decide) rfl ?_
              refine q_goto (tgt := 125) C dX12_goSeasons_94 (by decide) ?_
              refine q_aload_n C dX12_goSeasons_125 3 rfl rfl ?_
              refine q_get (C0 := RX12) (T := TX12) (N := 22) (k0 := 12) C lk1 0 rfl rfl (by decide) lk4 rfl (v := .int r17) rfl dX12_goSeasons_126 ?_
              refine q_if_le (tgt := 137) C dX12_goSeasons_129 (by decide) (fun c22 => ?_) (fun c22 => ?_)
              · have hF := ite_t hF c22
                refine q_aload_n C dX12_goSeasons_137 3 rfl rfl ?_
                refine q_dup C dX12_goSeasons_138 rfl ?_
                refine q_get (C0 := RX12) (T := TX12) (N := 22) (k0 := 13) C lk1 0 rfl rfl (by decide) lk0 rfl (v := .int v_acts) rfl dX12_goSeasons_139 ?_
                refine q_iconst (v := (1 : Int32)) C dX12_goSeasons_142 (by decide) ?_
                refine q_iadd C dX12_goSeasons_143 ?_
                refine q_put (C0 := RX12) (T := TX12) (N := 22) (k0 := 13) C lk1 0 rfl rfl (by decide) lk0 rfl tyX12 tyX12_ok nmX12 rfl (v := .int (v_acts + (1 : Int32))) rfl rfl (Nat.le_of_ble_eq_true rfl) ([(o, .inr (12, [.ref o_book, .ref o_now, .ref o_moults, .ref o_words, .ref o_clashes, .ref o_rocks, .int v_counts, .ref o_count, .int v_signs, .ref o_pad, .int v_readMany, .int v_signedAll, .int r17, .int (v_acts + (1 : Int32)), .ref o_reached, .ref o_queue, .ref o_got, .long v_waitUp, .long v_waitLow, .ref o_wins, .ref o_image, .ref o_isKept])), (o_book, .inl (cI, 21, .inl v_book)), (o_now, .inl (cI, 21, .inl u17_now)), (o_moults, .inl (cI, 6, .inl v_moults)), (o_words, .inl (cI, 10, .inl v_words)), (o_pad, .inl (cI, 60, .inl v_pad))]) rfl dX12_goSeasons_144 ?_
                refine q_goto (tgt := 11) C dX12_goSeasons_147 (by decide) ?_
                cases hF
                refine q_lsel [3, 0] rfl ?_
                exact ih (x1 + (3 : Int32)) u17_now v_readMany v_signedAll r17 (v_acts + (1 : Int32)) (hn _ rfl)
              · have hF := ite_f hF c22
                refine q_aload_n C dX12_goSeasons_132 3 rfl rfl ?_
                refine q_get (C0 := RX12) (T := TX12) (N := 22) (k0 := 13) C lk1 0 rfl rfl (by decide) lk0 rfl (v := .int v_acts) rfl dX12_goSeasons_133 ?_
                cases hF
                have e23 := hx _ rfl
                cases e23
                exact q_wreti C hr dX12_goSeasons_136 hQ
          · have hF := ite_t hF c16
            refine q_aload_n C dX12_goSeasons_59 2 rfl rfl ?_
            refine q_get (C0 := RX12) (T := TX12) (N := 22) (k0 := 9) C lk1 0 rfl rfl (by decide) lk3 rfl (v := .ref o_pad) rfl dX12_goSeasons_60 ?_
            refine q_iload_n C dX12_goSeasons_63 3 rfl rfl ?_
            refine q_iconst (v := (2 : Int32)) C dX12_goSeasons_64 (by decide) ?_
            refine q_iadd C dX12_goSeasons_65 ?_
            obtain ⟨hc24, hF⟩ := ite_c hF
            refine q_iald C 5 0 rfl rfl (ix_in hc24) dX12_goSeasons_66 ?_
            refine q_bipush (v := (65 : Int32)) C dX12_goSeasons_67 (by decide) ?_
            refine q_isub C dX12_goSeasons_69 ?_
            refine q_goto (tgt := 74) C dX12_goSeasons_70 (by decide) ?_
            obtain ⟨⟨r25, u25_now⟩, hc26, hF⟩ := bind_c hF
            dsimp only at hF
            refine q_rwi hA ([(o, .inr (12, [.ref o_book, .ref o_now, .ref o_moults, .ref o_words, .ref o_clashes, .ref o_rocks, .int v_counts, .ref o_count, .int v_signs, .ref o_pad, .int v_readMany, .int v_signedAll, .int v_reason, .int v_acts, .ref o_reached, .ref o_queue, .ref o_got, .long v_waitUp, .long v_waitLow, .ref o_wins, .ref o_image, .ref o_isKept])), (o_book, .inl (cI, 21, .inl v_book)), (o_now, .inl (cI, 21, .inl u25_now)), (o_moults, .inl (cI, 6, .inl v_moults)), (o_words, .inl (cI, 10, .inl v_words)), (o_pad, .inl (cI, 60, .inl v_pad))]) [0, 2] [1, 3, 4, 5] rfl rfl rfl (by decide) [4, 0, 5, 1, 2, 3] rfl rfl (q_runV (As := [.int ((v_pad (x1).toNatClampNeg) - (65 : Int32)), .int (v_pad ((x1 + (1 : Int32))).toNatClampNeg), .int ((v_pad ((x1 + (2 : Int32))).toNatClampNeg) - (65 : Int32))]) (rest := [.ref o]) C (fun sz => c_X12_herdAct l dC dI cI cZ cQ o o_now o_book o_moults o_words o_clashes o_rocks o_count o_pad o_reached o_queue o_got o_wins o_image o_isKept v_now v_counts v_signs v_readMany v_signedAll v_reason v_acts v_waitUp v_waitLow ((v_pad (x1).toNatClampNeg) - (65 : Int32)) (v_pad ((x1 + (1 : Int32))).toNatClampNeg) ((v_pad ((x1 + (2 : Int32))).toNatClampNeg) - (65 : Int32)) r25 u25_now hc26 sz) (cwV 3 C.2.2.2.2.1 gX12_goSeasons_X12_herdAct rfl rfl rfl (by decide +kernel) ⟨Nat.le_of_ble_eq_true rfl, Nat.le_of_ble_eq_true rfl⟩) 0 rfl rfl rfl [0, 2] rfl rfl rfl rfl (Nat.le_of_ble_eq_true rfl) dX12_goSeasons_74 ⟨Nat.zero_le _, Nat.zero_le _⟩) ?_
            refine q_put (C0 := RX12) (T := TX12) (N := 22) (k0 := 12) C lk1 0 rfl rfl (by decide) lk4 rfl tyX12 tyX12_ok nmX12 rfl (v := .int r25) rfl rfl (Nat.le_of_ble_eq_true rfl) ([(o, .inr (12, [.ref o_book, .ref o_now, .ref o_moults, .ref o_words, .ref o_clashes, .ref o_rocks, .int v_counts, .ref o_count, .int v_signs, .ref o_pad, .int v_readMany, .int v_signedAll, .int r25, .int v_acts, .ref o_reached, .ref o_queue, .ref o_got, .long v_waitUp, .long v_waitLow, .ref o_wins, .ref o_image, .ref o_isKept])), (o_book, .inl (cI, 21, .inl v_book)), (o_now, .inl (cI, 21, .inl u25_now)), (o_moults, .inl (cI, 6, .inl v_moults)), (o_words, .inl (cI, 10, .inl v_words)), (o_pad, .inl (cI, 60, .inl v_pad))]) rfl dX12_goSeasons_77 ?_
            refine q_iload_n C dX12_goSeasons_80 3 rfl rfl ?_
            refine q_iload_n C dX12_goSeasons_81 0 rfl rfl ?_
            refine q_bipush (v := (38 : Int32)) C dX12_goSeasons_82 (by decide) ?_
            refine q_icmp_ne (tgt := 91) C dX12_goSeasons_84 (by decide) (fun c27 => ?_) (fun c27 => ?_)
            · have hF := ite_f hF c27
              refine q_iconst (v := (2 : Int32)) C dX12_goSeasons_91 (by decide) ?_
              refine q_iadd C dX12_goSeasons_92 ?_
              refine q_istore_n C ([(1, .int (x1 + (2 : Int32))), (3, .int (v_pad ((x1 + (1 : Int32))).toNatClampNeg)), (2, .int (v_pad (x1).toNatClampNeg)), (0, .ref o)]) dX12_goSeasons_93 rfl (by decide) rfl ?_
              refine q_goto (tgt := 125) C dX12_goSeasons_94 (by decide) ?_
              refine q_aload_n C dX12_goSeasons_125 3 rfl rfl ?_
              refine q_get (C0 := RX12) (T := TX12) (N := 22) (k0 := 12) C lk1 0 rfl rfl (by decide) lk4 rfl (v := .int r25) rfl dX12_goSeasons_126 ?_
              refine q_if_le (tgt := 137) C dX12_goSeasons_129 (by decide) (fun c28 => ?_) (fun c28 => ?_)
              · have hF := ite_t hF c28
                refine q_aload_n C dX12_goSeasons_137 3 rfl rfl ?_
                refine q_dup C dX12_goSeasons_138 rfl ?_
                refine q_get (C0 := RX12) (T := TX12) (N := 22) (k0 := 13) C lk1 0 rfl rfl (by decide) lk0 rfl (v := .int v_acts) rfl dX12_goSeasons_139 ?_
                refine q_iconst (v := (1 : Int32)) C dX12_goSeasons_142 (by decide) ?_
                refine q_iadd C dX12_goSeasons_143 ?_
                refine q_put (C0 := RX12) (T := TX12) (N := 22) (k0 := 13) C lk1 0 rfl rfl (by decide) lk0 rfl tyX12 tyX12_ok nmX12 rfl (v := .int (v_acts + (1 : Int32))) rfl rfl (Nat.le_of_ble_eq_true rfl) ([(o, .inr (12, [.ref o_book, .ref o_now, .ref o_moults, .ref o_words, .ref o_clashes, .ref o_rocks, .int v_counts, .ref o_count, .int v_signs, .ref o_pad, .int v_readMany, .int v_signedAll, .int r25, .int (v_acts + (1 : Int32)), .ref o_reached, .ref o_queue, .ref o_got, .long v_waitUp, .long v_waitLow, .ref o_wins, .ref o_image, .ref o_isKept])), (o_book, .inl (cI, 21, .inl v_book)), (o_now, .inl (cI, 21, .inl u25_now)), (o_moults, .inl (cI, 6, .inl v_moults)), (o_words, .inl (cI, 10, .inl v_words)), (o_pad, .inl (cI, 60, .inl v_pad))]) rfl dX12_goSeasons_144 ?_
                refine q_goto (tgt := 11) C dX12_goSeasons_147 (by decide) ?_
                cases hF
                refine q_lsel [3, 0] rfl ?_
                exact ih (x1 + (2 : Int32)) u25_now v_readMany v_signedAll r25 (v_acts + (1 : Int32)) (hn _ rfl)
              · have hF := ite_f hF c28
                refine q_aload_n C dX12_goSeasons_132 3 rfl rfl ?_
                refine q_get (C0 := RX12) (T := TX12) (N := 22) (k0 := 13) C lk1 0 rfl rfl (by decide) lk0 rfl (v := .int v_acts) rfl dX12_goSeasons_133 ?_
                cases hF
                have e29 := hx _ rfl
                cases e29
                exact q_wreti C hr dX12_goSeasons_136 hQ
            · have hF := ite_t hF c27
              refine q_iconst (v := (3 : Int32)) C dX12_goSeasons_87 (by decide) ?_
              refine q_goto (tgt := 92) C dX12_goSeasons_88 (by decide) ?_
              refine q_iadd C dX12_goSeasons_92 ?_
              refine q_istore_n C ([(1, .int (x1 + (3 : Int32))), (3, .int (v_pad ((x1 + (1 : Int32))).toNatClampNeg)), (2, .int (v_pad (x1).toNatClampNeg)), (0, .ref o)]) dX12_goSeasons_93 rfl (by decide) rfl ?_
              refine q_goto (tgt := 125) C dX12_goSeasons_94 (by decide) ?_
              refine q_aload_n C dX12_goSeasons_125 3 rfl rfl ?_
              refine q_get (C0 := RX12) (T := TX12) (N := 22) (k0 := 12) C lk1 0 rfl rfl (by decide) lk4 rfl (v := .int r25) rfl dX12_goSeasons_126 ?_
              refine q_if_le (tgt := 137) C dX12_goSeasons_129 (by decide) (fun c30 => ?_) (fun c30 => ?_)
              · have hF := ite_t hF c30
                refine q_aload_n C dX12_goSeasons_137 3 rfl rfl ?_
                refine q_dup C dX12_goSeasons_138 rfl ?_
                refine q_get (C0 := RX12) (T := TX12) (N := 22) (k0 := 13) C lk1 0 rfl rfl (by decide) lk0 rfl (v := .int v_acts) rfl dX12_goSeasons_139 ?_
                refine q_iconst (v := (1 : Int32)) C dX12_goSeasons_142 (by decide) ?_
                refine q_iadd C dX12_goSeasons_143 ?_
                refine q_put (C0 := RX12) (T := TX12) (N := 22) (k0 := 13) C lk1 0 rfl rfl (by decide) lk0 rfl tyX12 tyX12_ok nmX12 rfl (v := .int (v_acts + (1 : Int32))) rfl rfl (Nat.le_of_ble_eq_true rfl) ([(o, .inr (12, [.ref o_book, .ref o_now, .ref o_moults, .ref o_words, .ref o_clashes, .ref o_rocks, .int v_counts, .ref o_count, .int v_signs, .ref o_pad, .int v_readMany, .int v_signedAll, .int r25, .int (v_acts + (1 : Int32)), .ref o_reached, .ref o_queue, .ref o_got, .long v_waitUp, .long v_waitLow, .ref o_wins, .ref o_image, .ref o_isKept])), (o_book, .inl (cI, 21, .inl v_book)), (o_now, .inl (cI, 21, .inl u25_now)), (o_moults, .inl (cI, 6, .inl v_moults)), (o_words, .inl (cI, 10, .inl v_words)), (o_pad, .inl (cI, 60, .inl v_pad))]) rfl dX12_goSeasons_144 ?_
                refine q_goto (tgt := 11) C dX12_goSeasons_147 (by decide) ?_
                cases hF
                refine q_lsel [3, 0] rfl ?_
                exact ih (x1 + (3 : Int32)) u25_now v_readMany v_signedAll r25 (v_acts + (1 : Int32)) (hn _ rfl)
              · have hF := ite_f hF c30
                refine q_aload_n C dX12_goSeasons_132 3 rfl rfl ?_
                refine q_get (C0 := RX12) (T := TX12) (N := 22) (k0 := 13) C lk1 0 rfl rfl (by decide) lk0 rfl (v := .int v_acts) rfl dX12_goSeasons_133 ?_
                cases hF
                have e31 := hx _ rfl
                cases e31
                exact q_wreti C hr dX12_goSeasons_136 hQ
  unfold f_Model_goSeasons at hF
  refine q_aload_n C dX12_goSeasons_0 0 rfl rfl ?_
  obtain ⟨⟨u32_now, u32_readMany, u32_signedAll⟩, hc33, hF⟩ := bind_c hF
  dsimp only at hF
  refine q_rwv hA ([(o, .inr (12, [.ref o_book, .ref o_now, .ref o_moults, .ref o_words, .ref o_clashes, .ref o_rocks, .int v_counts, .ref o_count, .int v_signs, .ref o_pad, .int u32_readMany, .int u32_signedAll, .int v_reason, .int v_acts, .ref o_reached, .ref o_queue, .ref o_got, .long v_waitUp, .long v_waitLow, .ref o_wins, .ref o_image, .ref o_isKept])), (o_book, .inl (cI, 21, .inl v_book)), (o_now, .inl (cI, 21, .inl u32_now)), (o_moults, .inl (cI, 6, .inl v_moults)), (o_words, .inl (cI, 10, .inl v_words)), (o_pad, .inl (cI, 60, .inl v_pad))]) [0, 1, 2] [3, 4, 5] rfl rfl rfl (by decide) [3, 4, 5, 0, 1, 2] rfl rfl (q_runV (As := []) (rest := []) C (fun sz => c_X12_asNow l dC dI cI cZ cQ o o_book o_now o_moults o_words o_clashes o_rocks o_count o_pad o_reached o_queue o_got o_wins o_image o_isKept v_book v_now v_readMany v_signedAll v_counts v_signs v_reason v_acts v_waitUp v_waitLow u32_now u32_readMany u32_signedAll hc33 sz) (cwV 0 C.2.2.2.2.1 gX12_goSeasons_X12_asNow rfl rfl rfl (by decide +kernel) ⟨Nat.le_of_ble_eq_true rfl, Nat.le_of_ble_eq_true rfl⟩) 0 rfl rfl rfl [0, 1, 2] rfl rfl rfl rfl (Nat.le_of_ble_eq_true rfl) dX12_goSeasons_1 ⟨Nat.zero_le _, Nat.zero_le _⟩) ?_
  refine q_aload_n C dX12_goSeasons_4 0 rfl rfl ?_
  refine q_iconst (v := (0 : Int32)) C dX12_goSeasons_5 (by decide) ?_
  refine q_put (C0 := RX12) (T := TX12) (N := 22) (k0 := 13) C lk1 0 rfl rfl (by decide) lk0 rfl tyX12 tyX12_ok nmX12 rfl (v := .int (0 : Int32)) rfl rfl (Nat.le_of_ble_eq_true rfl) ([(o, .inr (12, [.ref o_book, .ref o_now, .ref o_moults, .ref o_words, .ref o_clashes, .ref o_rocks, .int v_counts, .ref o_count, .int v_signs, .ref o_pad, .int u32_readMany, .int u32_signedAll, .int v_reason, .int (0 : Int32), .ref o_reached, .ref o_queue, .ref o_got, .long v_waitUp, .long v_waitLow, .ref o_wins, .ref o_image, .ref o_isKept])), (o_book, .inl (cI, 21, .inl v_book)), (o_now, .inl (cI, 21, .inl u32_now)), (o_moults, .inl (cI, 6, .inl v_moults)), (o_words, .inl (cI, 10, .inl v_words)), (o_pad, .inl (cI, 60, .inl v_pad))]) rfl dX12_goSeasons_6 ?_
  refine q_iconst (v := (0 : Int32)) C dX12_goSeasons_9 (by decide) ?_
  refine q_istore_n C ([(1, .int (0 : Int32)), (0, .ref o)]) dX12_goSeasons_10 rfl (by decide) rfl ?_
  obtain ⟨n34, hF⟩ := (ev_iff _ _ _).mp hF
  refine q_lsel [1, 0] rfl ?_
  exact L1 n34 (0 : Int32) u32_now u32_readMany u32_signedAll v_reason (0 : Int32) hF
set_option maxRecDepth 100000 in
set_option maxHeartbeats 4000000 in
theorem c_X12_judge (l : Launch) (dC : Nat → ClassId) (dI : Nat → Nat → Nat) (cI cZ cQ : ClassId) (o o_book o_now o_moults o_words o_pad o_clashes o_rocks o_count o_reached o_queue o_got o_wins o_image o_isKept : Nat) (v_book : Nat → Int32) (v_now : Nat → Int32) (v_moults : Nat → Int32) (v_words : Nat → Int32) (v_signs : Int32) (v_pad : Nat → Int32) (v_readMany : Int32) (v_signedAll : Int32) (v_reason : Int32) (v_acts : Int32) (v_counts : Int32) (v_waitUp : Int64) (v_waitLow : Int64) (p1 : Int32) (R : Int32) (w_now : Nat → Int32) (w_readMany : Int32) (w_signedAll : Int32) (w_reason : Int32) (w_acts : Int32) (hF : f_Model_judge v_book v_now v_moults v_words v_signs v_pad v_readMany v_signedAll v_reason v_acts p1 = some (R, w_now, w_readMany, w_signedAll, w_reason, w_acts)) (sz : Nat) : Met l yX12_judge wsX12_judge ({ frames := 6, cells := 0, slots := 0, locals := 134 } : Room) (qPc ([.ref o, .int p1]) (dC, dI) (qT cI cZ cQ) ([(o, .inr (12, [.ref o_book, .ref o_now, .ref o_moults, .ref o_words, .ref o_clashes, .ref o_rocks, .int v_counts, .ref o_count, .int v_signs, .ref o_pad, .int v_readMany, .int v_signedAll, .int v_reason, .int v_acts, .ref o_reached, .ref o_queue, .ref o_got, .long v_waitUp, .long v_waitLow, .ref o_wins, .ref o_image, .ref o_isKept])), (o_book, .inl (cI, 21, .inl v_book)), (o_now, .inl (cI, 21, .inl v_now)), (o_moults, .inl (cI, 6, .inl v_moults)), (o_words, .inl (cI, 10, .inl v_words)), (o_pad, .inl (cI, 60, .inl v_pad))]) sz) (qWi R (dC, dI) ([(o, .inr (12, [.ref o_book, .ref o_now, .ref o_moults, .ref o_words, .ref o_clashes, .ref o_rocks, .int v_counts, .ref o_count, .int v_signs, .ref o_pad, .int w_readMany, .int w_signedAll, .int w_reason, .int w_acts, .ref o_reached, .ref o_queue, .ref o_got, .long v_waitUp, .long v_waitLow, .ref o_wins, .ref o_image, .ref o_isKept])), (o_book, .inl (cI, 21, .inl v_book)), (o_now, .inl (cI, 21, .inl w_now)), (o_moults, .inl (cI, 6, .inl v_moults)), (o_words, .inl (cI, 10, .inl v_words)), (o_pad, .inl (cI, 60, .inl v_pad))]) (va_A ([(o, .inr (12, [.ref o_book, .ref o_now, .ref o_moults, .ref o_words, .ref o_clashes, .ref o_rocks, .int v_counts, .ref o_count, .int v_signs, .ref o_pad, .int v_readMany, .int v_signedAll, .int v_reason, .int v_acts, .ref o_reached, .ref o_queue, .ref o_got, .long v_waitUp, .long v_waitLow, .ref o_wins, .ref o_image, .ref o_isKept])), (o_book, .inl (cI, 21, .inl v_book)), (o_now, .inl (cI, 21, .inl v_now)), (o_moults, .inl (cI, 6, .inl v_moults)), (o_words, .inl (cI, 10, .inl v_words)), (o_pad, .inl (cI, 60, .inl v_pad))]) sz)) 0 0 (va_A ([(o, .inr (12, [.ref o_book, .ref o_now, .ref o_moults, .ref o_words, .ref o_clashes, .ref o_rocks, .int v_counts, .ref o_count, .int v_signs, .ref o_pad, .int v_readMany, .int v_signedAll, .int v_reason, .int v_acts, .ref o_reached, .ref o_queue, .ref o_got, .long v_waitUp, .long v_waitLow, .ref o_wins, .ref o_image, .ref o_isKept])), (o_book, .inl (cI, 21, .inl v_book)), (o_now, .inl (cI, 21, .inl v_now)), (o_moults, .inl (cI, 6, .inl v_moults)), (o_words, .inl (cI, 10, .inl v_words)), (o_pad, .inl (cI, 60, .inl v_pad))]) sz) := by
  refine q_met_w (Qc := fun A => qWi R (dC, dI) ([(o, .inr (12, [.ref o_book, .ref o_now, .ref o_moults, .ref o_words, .ref o_clashes, .ref o_rocks, .int v_counts, .ref o_count, .int v_signs, .ref o_pad, .int w_readMany, .int w_signedAll, .int w_reason, .int w_acts, .ref o_reached, .ref o_queue, .ref o_got, .long v_waitUp, .long v_waitLow, .ref o_wins, .ref o_image, .ref o_isKept])), (o_book, .inl (cI, 21, .inl v_book)), (o_now, .inl (cI, 21, .inl w_now)), (o_moults, .inl (cI, 6, .inl v_moults)), (o_words, .inl (cI, 10, .inl v_words)), (o_pad, .inl (cI, 60, .inl v_pad))]) A) (cc := cX12_judge) (own := RX12) (maxL := 3) (ret := (some .int)) (lv0 := [(0, .ref o), (1, .int p1)]) (by decide) rfl rfl rfl (Nat.le_of_ble_eq_true rfl) ?_
  intro p e s m args below meth c A hA C hr hnm Q hQ
  have lk0 : Cond.fieldLink RX12 116 "SealStraitModel" "reason" "I" ∈ wsX12_judge := by decide +kernel
  have lk1 : ∀ w ∈ u_ws RX12 TX12 22, w ∈ wsX12_judge := fun w h => List.mem_cons_of_mem _ (List.mem_append_right _ h)
  unfold f_Model_judge at hF
  refine q_iload_n C dX12_judge_0 1 rfl rfl ?_
  refine q_iconst (v := (0 : Int32)) C dX12_judge_1 (by decide) ?_
  refine q_iconst (v := (1 : Int32)) C dX12_judge_2 (by decide) ?_
  refine q_roz (q_runS (As := [.int p1, .int (0 : Int32), .int (1 : Int32)]) (rest := []) C (fun sz => c_X12_in l dC dI cI cZ cQ p1 (0 : Int32) (1 : Int32) (f_Model_in p1 (0 : Int32) (1 : Int32)) rfl sz) (va_cwS 3 C.2.2.2.2.1 gX12_judge_X12_in rfl rfl rfl (by decide +kernel) ⟨Nat.le_of_ble_eq_true rfl, Nat.le_of_ble_eq_true rfl⟩) [] rfl rfl rfl rfl (Nat.le_of_ble_eq_true rfl) dX12_judge_3 ⟨Nat.zero_le _, Nat.zero_le _⟩) (fun hz1 => ?_)
  refine q_if_ne (tgt := 12) C dX12_judge_6 (by decide) (fun c2 => ?_) (fun c2 => ?_)
  · have hF := ite_f hF c2
    refine q_aload_n C dX12_judge_12 0 rfl rfl ?_
    obtain ⟨r3, hc4, hF⟩ := bind_c hF
    refine q_roi (q_runV (As := []) (rest := []) C (fun sz => c_X12_faultOf l dC dI cI cZ cQ o o_pad o_book o_now o_moults o_words o_clashes o_rocks o_count o_reached o_queue o_got o_wins o_image o_isKept v_signs v_pad v_counts v_readMany v_signedAll v_reason v_acts v_waitUp v_waitLow r3 hc4 sz) (cwV 0 C.2.2.2.2.1 gX12_judge_X12_faultOf rfl rfl rfl (by decide +kernel) ⟨Nat.le_of_ble_eq_true rfl, Nat.le_of_ble_eq_true rfl⟩) 0 rfl rfl rfl [0, 5] rfl rfl rfl rfl (Nat.le_of_ble_eq_true rfl) dX12_judge_13 ⟨Nat.zero_le _, Nat.zero_le _⟩) ?_
    refine q_if_lt (tgt := 22) C dX12_judge_16 (by decide) (fun c5 => ?_) (fun c5 => ?_)
    · have hF := ite_t hF c5
      refine q_aload_n C dX12_judge_22 0 rfl rfl ?_
      obtain ⟨⟨r6, u6_now, u6_readMany, u6_signedAll, u6_reason, u6_acts⟩, hc7, hF⟩ := bind_c hF
      dsimp only at hF
      refine q_rwi hA ([(o, .inr (12, [.ref o_book, .ref o_now, .ref o_moults, .ref o_words, .ref o_clashes, .ref o_rocks, .int v_counts, .ref o_count, .int v_signs, .ref o_pad, .int u6_readMany, .int u6_signedAll, .int u6_reason, .int u6_acts, .ref o_reached, .ref o_queue, .ref o_got, .long v_waitUp, .long v_waitLow, .ref o_wins, .ref o_image, .ref o_isKept])), (o_book, .inl (cI, 21, .inl v_book)), (o_now, .inl (cI, 21, .inl u6_now)), (o_moults, .inl (cI, 6, .inl v_moults)), (o_words, .inl (cI, 10, .inl v_words)), (o_pad, .inl (cI, 60, .inl v_pad))]) [0, 1, 2, 3, 4, 5] [] rfl rfl rfl (by decide) [0, 1, 2, 3, 4, 5] rfl rfl (q_runV (As := []) (rest := []) C (fun sz => c_X12_goSeasons l dC dI cI cZ cQ o o_book o_now o_moults o_words o_pad o_clashes o_rocks o_count o_reached o_queue o_got o_wins o_image o_isKept v_book v_now v_moults v_words v_signs v_pad v_readMany v_signedAll v_reason v_acts v_counts v_waitUp v_waitLow r6 u6_now u6_readMany u6_signedAll u6_reason u6_acts hc7 sz) (cwV 0 C.2.2.2.2.1 gX12_judge_X12_goSeasons rfl rfl rfl (by decide +kernel) ⟨Nat.le_of_ble_eq_true rfl, Nat.le_of_ble_eq_true rfl⟩) 0 rfl rfl rfl [0, 1, 2, 3, 4, 5] rfl rfl rfl rfl (Nat.le_of_ble_eq_true rfl) dX12_judge_23 ⟨Nat.zero_le _, Nat.zero_le _⟩) ?_
      refine q_istore_n C ([(2, .int r6), (0, .ref o), (1, .int p1)]) dX12_judge_26 rfl (by decide) rfl ?_
      refine q_iload_n C dX12_judge_27 0 rfl rfl ?_
      refine q_if_lt (tgt := 35) C dX12_judge_28 (by decide) (fun c8 => ?_) (fun c8 => ?_)
      · have hF := ite_t hF c8
        refine q_iload_n C dX12_judge_35 0 rfl rfl ?_
        refine q_goto (tgt := 43) C dX12_judge_36 (by decide) ?_
        cases hF
        exact q_wreti C hr dX12_judge_43 hQ
      · have hF := ite_f hF c8
        refine q_iload_n C dX12_judge_31 2 rfl rfl ?_
        refine q_if_ne (tgt := 39) C dX12_judge_32 (by decide) (fun c9 => ?_) (fun c9 => ?_)
        · have hF := ite_f hF c9
          refine q_aload_n C dX12_judge_39 1 rfl rfl ?_
          refine q_get (C0 := RX12) (T := TX12) (N := 22) (k0 := 12) C lk1 0 rfl rfl (by decide) lk0 rfl (v := .int u6_reason) rfl dX12_judge_40 ?_
          cases hF
          exact q_wreti C hr dX12_judge_43 hQ
        · have hF := ite_t hF c9
          refine q_iload_n C dX12_judge_35 0 rfl rfl ?_
          refine q_goto (tgt := 43) C dX12_judge_36 (by decide) ?_
          cases hF
          exact q_wreti C hr dX12_judge_43 hQ
    · have hF := ite_f hF c5
      refine q_bipush (v := (-5 : Int32)) C dX12_judge_19 (by decide) ?_
      cases hF
      exact q_wreti C hr dX12_judge_21 hQ
  · have hF := ite_t hF c2
    refine q_bipush (v := (-2 : Int32)) C dX12_judge_9 (by decide) ?_
    cases hF
    exact q_wreti C hr dX12_judge_11 hQ
set_option maxRecDepth 100000 in
set_option maxHeartbeats 4000000 in
theorem c_X12_barOfSeasons (l : Launch) (dC : Nat → ClassId) (dI : Nat → Nat → Nat) (cI cZ cQ : ClassId) (o o_book o_now o_moults o_words o_pad o_clashes o_rocks o_count o_reached o_queue o_got o_wins o_image o_isKept : Nat) (v_book : Nat → Int32) (v_now : Nat → Int32) (v_moults : Nat → Int32) (v_words : Nat → Int32) (v_signs : Int32) (v_pad : Nat → Int32) (v_readMany : Int32) (v_signedAll : Int32) (v_reason : Int32) (v_acts : Int32) (v_counts : Int32) (v_waitUp : Int64) (v_waitLow : Int64) (R : Int32) (w_now : Nat → Int32) (w_readMany : Int32) (w_signedAll : Int32) (w_reason : Int32) (w_acts : Int32) (hF : f_Model_barOfSeasons v_book v_now v_moults v_words v_signs v_pad v_readMany v_signedAll v_reason v_acts = some (R, w_now, w_readMany, w_signedAll, w_reason, w_acts)) (sz : Nat) : Met l yX12_barOfSeasons wsX12_barOfSeasons ({ frames := 6, cells := 0, slots := 0, locals := 134 } : Room) (qPc ([.ref o]) (dC, dI) (qT cI cZ cQ) ([(o, .inr (12, [.ref o_book, .ref o_now, .ref o_moults, .ref o_words, .ref o_clashes, .ref o_rocks, .int v_counts, .ref o_count, .int v_signs, .ref o_pad, .int v_readMany, .int v_signedAll, .int v_reason, .int v_acts, .ref o_reached, .ref o_queue, .ref o_got, .long v_waitUp, .long v_waitLow, .ref o_wins, .ref o_image, .ref o_isKept])), (o_book, .inl (cI, 21, .inl v_book)), (o_now, .inl (cI, 21, .inl v_now)), (o_moults, .inl (cI, 6, .inl v_moults)), (o_words, .inl (cI, 10, .inl v_words)), (o_pad, .inl (cI, 60, .inl v_pad))]) sz) (qWi R (dC, dI) ([(o, .inr (12, [.ref o_book, .ref o_now, .ref o_moults, .ref o_words, .ref o_clashes, .ref o_rocks, .int v_counts, .ref o_count, .int v_signs, .ref o_pad, .int w_readMany, .int w_signedAll, .int w_reason, .int w_acts, .ref o_reached, .ref o_queue, .ref o_got, .long v_waitUp, .long v_waitLow, .ref o_wins, .ref o_image, .ref o_isKept])), (o_book, .inl (cI, 21, .inl v_book)), (o_now, .inl (cI, 21, .inl w_now)), (o_moults, .inl (cI, 6, .inl v_moults)), (o_words, .inl (cI, 10, .inl v_words)), (o_pad, .inl (cI, 60, .inl v_pad))]) (va_A ([(o, .inr (12, [.ref o_book, .ref o_now, .ref o_moults, .ref o_words, .ref o_clashes, .ref o_rocks, .int v_counts, .ref o_count, .int v_signs, .ref o_pad, .int v_readMany, .int v_signedAll, .int v_reason, .int v_acts, .ref o_reached, .ref o_queue, .ref o_got, .long v_waitUp, .long v_waitLow, .ref o_wins, .ref o_image, .ref o_isKept])), (o_book, .inl (cI, 21, .inl v_book)), (o_now, .inl (cI, 21, .inl v_now)), (o_moults, .inl (cI, 6, .inl v_moults)), (o_words, .inl (cI, 10, .inl v_words)), (o_pad, .inl (cI, 60, .inl v_pad))]) sz)) 0 0 (va_A ([(o, .inr (12, [.ref o_book, .ref o_now, .ref o_moults, .ref o_words, .ref o_clashes, .ref o_rocks, .int v_counts, .ref o_count, .int v_signs, .ref o_pad, .int v_readMany, .int v_signedAll, .int v_reason, .int v_acts, .ref o_reached, .ref o_queue, .ref o_got, .long v_waitUp, .long v_waitLow, .ref o_wins, .ref o_image, .ref o_isKept])), (o_book, .inl (cI, 21, .inl v_book)), (o_now, .inl (cI, 21, .inl v_now)), (o_moults, .inl (cI, 6, .inl v_moults)), (o_words, .inl (cI, 10, .inl v_words)), (o_pad, .inl (cI, 60, .inl v_pad))]) sz) := by
  refine q_met_w (Qc := fun A => qWi R (dC, dI) ([(o, .inr (12, [.ref o_book, .ref o_now, .ref o_moults, .ref o_words, .ref o_clashes, .ref o_rocks, .int v_counts, .ref o_count, .int v_signs, .ref o_pad, .int w_readMany, .int w_signedAll, .int w_reason, .int w_acts, .ref o_reached, .ref o_queue, .ref o_got, .long v_waitUp, .long v_waitLow, .ref o_wins, .ref o_image, .ref o_isKept])), (o_book, .inl (cI, 21, .inl v_book)), (o_now, .inl (cI, 21, .inl w_now)), (o_moults, .inl (cI, 6, .inl v_moults)), (o_words, .inl (cI, 10, .inl v_words)), (o_pad, .inl (cI, 60, .inl v_pad))]) A) (cc := cX12_barOfSeasons) (own := RX12) (maxL := 1) (ret := (some .int)) (lv0 := [(0, .ref o)]) (by decide) rfl rfl rfl (Nat.le_of_ble_eq_true rfl) ?_
  intro p e s m args below meth c A hA C hr hnm Q hQ
  unfold f_Model_barOfSeasons at hF
  refine q_aload_n C dX12_barOfSeasons_0 0 rfl rfl ?_
  obtain ⟨r1, hc2, hF⟩ := bind_c hF
  refine q_roi (q_runV (As := []) (rest := []) C (fun sz => c_X12_faultOf l dC dI cI cZ cQ o o_pad o_book o_now o_moults o_words o_clashes o_rocks o_count o_reached o_queue o_got o_wins o_image o_isKept v_signs v_pad v_counts v_readMany v_signedAll v_reason v_acts v_waitUp v_waitLow r1 hc2 sz) (cwV 0 C.2.2.2.2.1 gX12_barOfSeasons_X12_faultOf rfl rfl rfl (by decide +kernel) ⟨Nat.le_of_ble_eq_true rfl, Nat.le_of_ble_eq_true rfl⟩) 0 rfl rfl rfl [0, 5] rfl rfl rfl rfl (Nat.le_of_ble_eq_true rfl) dX12_barOfSeasons_1 ⟨Nat.zero_le _, Nat.zero_le _⟩) ?_
  refine q_if_ge (tgt := 14) C dX12_barOfSeasons_4 (by decide) (fun c3 => ?_) (fun c3 => ?_)
  · have hF := ite_t hF c3
    refine q_bipush (v := (-5 : Int32)) C dX12_barOfSeasons_14 (by decide) ?_
    refine q_goto (tgt := 20) C dX12_barOfSeasons_16 (by decide) ?_
    cases hF
    exact q_wreti C hr dX12_barOfSeasons_20 hQ
  · have hF := ite_f hF c3
    refine q_aload_n C dX12_barOfSeasons_7 0 rfl rfl ?_
    obtain ⟨⟨r4, u4_now, u4_readMany, u4_signedAll, u4_reason, u4_acts⟩, hc5, hF⟩ := bind_c hF
    dsimp only at hF
    refine q_rwi hA ([(o, .inr (12, [.ref o_book, .ref o_now, .ref o_moults, .ref o_words, .ref o_clashes, .ref o_rocks, .int v_counts, .ref o_count, .int v_signs, .ref o_pad, .int u4_readMany, .int u4_signedAll, .int u4_reason, .int u4_acts, .ref o_reached, .ref o_queue, .ref o_got, .long v_waitUp, .long v_waitLow, .ref o_wins, .ref o_image, .ref o_isKept])), (o_book, .inl (cI, 21, .inl v_book)), (o_now, .inl (cI, 21, .inl u4_now)), (o_moults, .inl (cI, 6, .inl v_moults)), (o_words, .inl (cI, 10, .inl v_words)), (o_pad, .inl (cI, 60, .inl v_pad))]) [0, 1, 2, 3, 4, 5] [] rfl rfl rfl (by decide) [0, 1, 2, 3, 4, 5] rfl rfl (q_runV (As := []) (rest := []) C (fun sz => c_X12_goSeasons l dC dI cI cZ cQ o o_book o_now o_moults o_words o_pad o_clashes o_rocks o_count o_reached o_queue o_got o_wins o_image o_isKept v_book v_now v_moults v_words v_signs v_pad v_readMany v_signedAll v_reason v_acts v_counts v_waitUp v_waitLow r4 u4_now u4_readMany u4_signedAll u4_reason u4_acts hc5 sz) (cwV 0 C.2.2.2.2.1 gX12_barOfSeasons_X12_goSeasons rfl rfl rfl (by decide +kernel) ⟨Nat.le_of_ble_eq_true rfl, Nat.le_of_ble_eq_true rfl⟩) 0 rfl rfl rfl [0, 1, 2, 3, 4, 5] rfl rfl rfl rfl (Nat.le_of_ble_eq_true rfl) dX12_barOfSeasons_8 ⟨Nat.zero_le _, Nat.zero_le _⟩) ?_
    refine q_if_lt (tgt := 19) C dX12_barOfSeasons_11 (by decide) (fun c6 => ?_) (fun c6 => ?_)
    · have hF := ite_t hF c6
      refine q_iconst (v := (0 : Int32)) C dX12_barOfSeasons_19 (by decide) ?_
      cases hF
      exact q_wreti C hr dX12_barOfSeasons_20 hQ
    · have hF := ite_f hF c6
      refine q_bipush (v := (-5 : Int32)) C dX12_barOfSeasons_14 (by decide) ?_
      refine q_goto (tgt := 20) C dX12_barOfSeasons_16 (by decide) ?_
      cases hF
      exact q_wreti C hr dX12_barOfSeasons_20 hQ
set_option maxRecDepth 100000 in
set_option maxHeartbeats 4000000 in
theorem c_X12_done (l : Launch) (dC : Nat → ClassId) (dI : Nat → Nat → Nat) (cI cZ cQ : ClassId) (o o_book o_now o_moults o_words o_pad o_clashes o_rocks o_count o_reached o_queue o_got o_wins o_image o_isKept : Nat) (v_book : Nat → Int32) (v_now : Nat → Int32) (v_moults : Nat → Int32) (v_words : Nat → Int32) (v_signs : Int32) (v_pad : Nat → Int32) (v_readMany : Int32) (v_signedAll : Int32) (v_reason : Int32) (v_acts : Int32) (v_counts : Int32) (v_waitUp : Int64) (v_waitLow : Int64) (R : Int32) (w_book : Nat → Int32) (w_now : Nat → Int32) (w_signs : Int32) (w_readMany : Int32) (w_signedAll : Int32) (w_reason : Int32) (w_acts : Int32) (hF : f_Model_done v_book v_now v_moults v_words v_signs v_pad v_readMany v_signedAll v_reason v_acts = some (R, w_book, w_now, w_signs, w_readMany, w_signedAll, w_reason, w_acts)) (sz : Nat) : Met l yX12_done wsX12_done ({ frames := 7, cells := 0, slots := 0, locals := 154 } : Room) (qPc ([.ref o]) (dC, dI) (qT cI cZ cQ) ([(o, .inr (12, [.ref o_book, .ref o_now, .ref o_moults, .ref o_words, .ref o_clashes, .ref o_rocks, .int v_counts, .ref o_count, .int v_signs, .ref o_pad, .int v_readMany, .int v_signedAll, .int v_reason, .int v_acts, .ref o_reached, .ref o_queue, .ref o_got, .long v_waitUp, .long v_waitLow, .ref o_wins, .ref o_image, .ref o_isKept])), (o_book, .inl (cI, 21, .inl v_book)), (o_now, .inl (cI, 21, .inl v_now)), (o_moults, .inl (cI, 6, .inl v_moults)), (o_words, .inl (cI, 10, .inl v_words)), (o_pad, .inl (cI, 60, .inl v_pad))]) sz) (qWi R (dC, dI) ([(o, .inr (12, [.ref o_book, .ref o_now, .ref o_moults, .ref o_words, .ref o_clashes, .ref o_rocks, .int v_counts, .ref o_count, .int w_signs, .ref o_pad, .int w_readMany, .int w_signedAll, .int w_reason, .int w_acts, .ref o_reached, .ref o_queue, .ref o_got, .long v_waitUp, .long v_waitLow, .ref o_wins, .ref o_image, .ref o_isKept])), (o_book, .inl (cI, 21, .inl w_book)), (o_now, .inl (cI, 21, .inl w_now)), (o_moults, .inl (cI, 6, .inl v_moults)), (o_words, .inl (cI, 10, .inl v_words)), (o_pad, .inl (cI, 60, .inl v_pad))]) (va_A ([(o, .inr (12, [.ref o_book, .ref o_now, .ref o_moults, .ref o_words, .ref o_clashes, .ref o_rocks, .int v_counts, .ref o_count, .int v_signs, .ref o_pad, .int v_readMany, .int v_signedAll, .int v_reason, .int v_acts, .ref o_reached, .ref o_queue, .ref o_got, .long v_waitUp, .long v_waitLow, .ref o_wins, .ref o_image, .ref o_isKept])), (o_book, .inl (cI, 21, .inl v_book)), (o_now, .inl (cI, 21, .inl v_now)), (o_moults, .inl (cI, 6, .inl v_moults)), (o_words, .inl (cI, 10, .inl v_words)), (o_pad, .inl (cI, 60, .inl v_pad))]) sz)) 0 0 (va_A ([(o, .inr (12, [.ref o_book, .ref o_now, .ref o_moults, .ref o_words, .ref o_clashes, .ref o_rocks, .int v_counts, .ref o_count, .int v_signs, .ref o_pad, .int v_readMany, .int v_signedAll, .int v_reason, .int v_acts, .ref o_reached, .ref o_queue, .ref o_got, .long v_waitUp, .long v_waitLow, .ref o_wins, .ref o_image, .ref o_isKept])), (o_book, .inl (cI, 21, .inl v_book)), (o_now, .inl (cI, 21, .inl v_now)), (o_moults, .inl (cI, 6, .inl v_moults)), (o_words, .inl (cI, 10, .inl v_words)), (o_pad, .inl (cI, 60, .inl v_pad))]) sz) := by
  refine q_met_w (Qc := fun A => qWi R (dC, dI) ([(o, .inr (12, [.ref o_book, .ref o_now, .ref o_moults, .ref o_words, .ref o_clashes, .ref o_rocks, .int v_counts, .ref o_count, .int w_signs, .ref o_pad, .int w_readMany, .int w_signedAll, .int w_reason, .int w_acts, .ref o_reached, .ref o_queue, .ref o_got, .long v_waitUp, .long v_waitLow, .ref o_wins, .ref o_image, .ref o_isKept])), (o_book, .inl (cI, 21, .inl w_book)), (o_now, .inl (cI, 21, .inl w_now)), (o_moults, .inl (cI, 6, .inl v_moults)), (o_words, .inl (cI, 10, .inl v_words)), (o_pad, .inl (cI, 60, .inl v_pad))]) A) (cc := cX12_done) (own := RX12) (maxL := 2) (ret := (some .int)) (lv0 := [(0, .ref o)]) (by decide) rfl rfl rfl (Nat.le_of_ble_eq_true rfl) ?_
  intro p e s m args below meth c A hA C hr hnm Q hQ
  have lk0 : Cond.fieldLink RX12 7 "SealStraitModel" "book" "[I" ∈ wsX12_done := by decide +kernel
  have lk1 : ∀ w ∈ u_ws RX12 TX12 22, w ∈ wsX12_done := fun w h => List.mem_cons_of_mem _ (List.mem_append_right _ h)
  have lk2 : Cond.fieldLink RX12 13 "SealStraitModel" "now" "[I" ∈ wsX12_done := by decide +kernel
  have lk3 : Cond.fieldLink RX12 69 "SealStraitModel" "signs" "I" ∈ wsX12_done := by decide +kernel
  have lk4 : Cond.fieldLink RX12 109 "SealStraitModel" "acts" "I" ∈ wsX12_done := by decide +kernel
  have L1 : ∀ (n : Nat) (x1 : Int32) (v_book : Nat → Int32) (v_now : Nat → Int32) (v_signs : Int32) (v_readMany : Int32) (v_signedAll : Int32) (v_reason : Int32) (v_acts : Int32) (z_book : Nat → Int32), evr (fun s => b_Model_done_1 v_now s.1 s.2) n (x1, v_book) = some z_book → qG p l e ({ frames := 7, cells := 0, slots := 0, locals := 154 } : Room) s m args below meth c 2 (dC, dI) A A Q 0 0 ([(0, .ref o)]) [] ([(o, .inr (12, [.ref o_book, .ref o_now, .ref o_moults, .ref o_words, .ref o_clashes, .ref o_rocks, .int v_counts, .ref o_count, .int v_signs, .ref o_pad, .int v_readMany, .int v_signedAll, .int v_reason, .int v_acts, .ref o_reached, .ref o_queue, .ref o_got, .long v_waitUp, .long v_waitLow, .ref o_wins, .ref o_image, .ref o_isKept])), (o_book, .inl (cI, 21, .inl z_book)), (o_now, .inl (cI, 21, .inl v_now)), (o_moults, .inl (cI, 6, .inl v_moults)), (o_words, .inl (cI, 10, .inl v_words)), (o_pad, .inl (cI, 60, .inl v_pad))]) 36 → qG p l e ({ frames := 7, cells := 0, slots := 0, locals := 154 } : Room) s m args below meth c 2 (dC, dI) A A Q 0 0 ([(0, .ref o), (1, .int x1)]) [] ([(o, .inr (12, [.ref o_book, .ref o_now, .ref o_moults, .ref o_words, .ref o_clashes, .ref o_rocks, .int v_counts, .ref o_count, .int v_signs, .ref o_pad, .int v_readMany, .int v_signedAll, .int v_reason, .int v_acts, .ref o_reached, .ref o_queue, .ref o_got, .long v_waitUp, .long v_waitLow, .ref o_wins, .ref o_image, .ref o_isKept])), (o_book, .inl (cI, 21, .inl v_book)), (o_now, .inl (cI, 21, .inl v_now)), (o_moults, .inl (cI, 6, .inl v_moults)), (o_words, .inl (cI, 10, .inl v_words)), (o_pad, .inl (cI, 60, .inl v_pad))]) 12 := by
    clear hF
    intro n
    induction n with
    | zero => intro x1 v_book v_now v_signs v_readMany v_signedAll v_reason v_acts z_book hF; exact (evr_0 hF).elim
    | succ n ih =>
      intro x1 v_book v_now v_signs v_readMany v_signedAll v_reason v_acts z_book hF hk
      obtain ⟨o9, hB, hn, hx⟩ := evr_c hF
      have hF : b_Model_done_1 v_now x1 v_book = some o9 := hB
      unfold b_Model_done_1 at hF
      refine q_iload_n C dX12_done_12 1 rfl rfl ?_
      refine q_bipush (v := (21 : Int32)) C dX12_done_13 (by decide) ?_
      refine q_icmp_ge (tgt := 36) C dX12_done_15 (by decide) (fun c1 => ?_) (fun c1 => ?_)
      · have hF := ite_t hF c1
        cases hF
        have e2 := hx _ rfl
        cases e2
        refine q_lsel [0] rfl ?_
        exact hk
      · have hF := ite_f hF c1
        refine q_aload_n C dX12_done_18 0 rfl rfl ?_
        refine q_get (C0 := RX12) (T := TX12) (N := 22) (k0 := 0) C lk1 0 rfl rfl (by decide) lk0 rfl (v := .ref o_book) rfl dX12_done_19 ?_
        refine q_iload_n C dX12_done_22 1 rfl rfl ?_
        refine q_aload_n C dX12_done_23 0 rfl rfl ?_
        refine q_get (C0 := RX12) (T := TX12) (N := 22) (k0 := 1) C lk1 0 rfl rfl (by decide) lk2 rfl (v := .ref o_now) rfl dX12_done_24 ?_
        refine q_iload_n C dX12_done_27 1 rfl rfl ?_
        obtain ⟨hc3, hF⟩ := ite_c hF
        refine q_iald C 2 0 rfl rfl (ix_in hc3) dX12_done_28 ?_
        obtain ⟨hc4, hF⟩ := ite_c hF
        refine q_iast C 1 0 rfl rfl (ix_in hc4) ([(o, .inr (12, [.ref o_book, .ref o_now, .ref o_moults, .ref o_words, .ref o_clashes, .ref o_rocks, .int v_counts, .ref o_count, .int v_signs, .ref o_pad, .int v_readMany, .int v_signedAll, .int v_reason, .int v_acts, .ref o_reached, .ref o_queue, .ref o_got, .long v_waitUp, .long v_waitLow, .ref o_wins, .ref o_image, .ref o_isKept])), (o_book, .inl (cI, 21, .inl (upd v_book (x1).toNatClampNeg (v_now (x1).toNatClampNeg)))), (o_now, .inl (cI, 21, .inl v_now)), (o_moults, .inl (cI, 6, .inl v_moults)), (o_words, .inl (cI, 10, .inl v_words)), (o_pad, .inl (cI, 60, .inl v_pad))]) rfl dX12_done_29 ?_
        refine q_iinc (v := (x1 + 1)) C ([(1, .int (x1 + 1)), (0, .ref o)]) dX12_done_30 1 rfl rfl (by decide) rfl ?_
        refine q_goto (tgt := 12) C dX12_done_33 (by decide) ?_
        cases hF
        refine q_lsel [1, 0] rfl ?_
        exact ih (x1 + 1) (upd v_book (x1).toNatClampNeg (v_now (x1).toNatClampNeg)) v_now v_signs v_readMany v_signedAll v_reason v_acts z_book (hn _ rfl) hk
  unfold f_Model_done at hF
  refine q_aload_n C dX12_done_0 0 rfl rfl ?_
  obtain ⟨⟨r5, u5_now, u5_readMany, u5_signedAll, u5_reason, u5_acts⟩, hc6, hF⟩ := bind_c hF
  dsimp only at hF
  refine q_rwi hA ([(o, .inr (12, [.ref o_book, .ref o_now, .ref o_moults, .ref o_words, .ref o_clashes, .ref o_rocks, .int v_counts, .ref o_count, .int v_signs, .ref o_pad, .int u5_readMany, .int u5_signedAll, .int u5_reason, .int u5_acts, .ref o_reached, .ref o_queue, .ref o_got, .long v_waitUp, .long v_waitLow, .ref o_wins, .ref o_image, .ref o_isKept])), (o_book, .inl (cI, 21, .inl v_book)), (o_now, .inl (cI, 21, .inl u5_now)), (o_moults, .inl (cI, 6, .inl v_moults)), (o_words, .inl (cI, 10, .inl v_words)), (o_pad, .inl (cI, 60, .inl v_pad))]) [0, 1, 2, 3, 4, 5] [] rfl rfl rfl (by decide) [0, 1, 2, 3, 4, 5] rfl rfl (q_runV (As := []) (rest := []) C (fun sz => c_X12_barOfSeasons l dC dI cI cZ cQ o o_book o_now o_moults o_words o_pad o_clashes o_rocks o_count o_reached o_queue o_got o_wins o_image o_isKept v_book v_now v_moults v_words v_signs v_pad v_readMany v_signedAll v_reason v_acts v_counts v_waitUp v_waitLow r5 u5_now u5_readMany u5_signedAll u5_reason u5_acts hc6 sz) (cwV 0 C.2.2.2.2.1 gX12_done_X12_barOfSeasons rfl rfl rfl (by decide +kernel) ⟨Nat.le_of_ble_eq_true rfl, Nat.le_of_ble_eq_true rfl⟩) 0 rfl rfl rfl [0, 1, 2, 3, 4, 5] rfl rfl rfl rfl (Nat.le_of_ble_eq_true rfl) dX12_done_1 ⟨Nat.zero_le _, Nat.zero_le _⟩) ?_
  refine q_if_ge (tgt := 10) C dX12_done_4 (by decide) (fun c7 => ?_) (fun c7 => ?_)
  · have hF := ite_t hF c7
    refine q_iconst (v := (0 : Int32)) C dX12_done_10 (by decide) ?_
    refine q_istore_n C ([(1, .int (0 : Int32)), (0, .ref o)]) dX12_done_11 rfl (by decide) rfl ?_
    obtain ⟨z8_book, hc9, hF⟩ := bind_c hF
    obtain ⟨n10, hc9⟩ := (ev_iff _ _ _).mp hc9
    refine q_lsel [1, 0] rfl ?_
    refine L1 n10 (0 : Int32) v_book u5_now v_signs u5_readMany u5_signedAll u5_reason u5_acts z8_book hc9 ?_
    refine q_aload_n C dX12_done_36 0 rfl rfl ?_
    refine q_iconst (v := (0 : Int32)) C dX12_done_37 (by decide) ?_
    refine q_put (C0 := RX12) (T := TX12) (N := 22) (k0 := 8) C lk1 0 rfl rfl (by decide) lk3 rfl tyX12 tyX12_ok nmX12 rfl (v := .int (0 : Int32)) rfl rfl (Nat.le_of_ble_eq_true rfl) ([(o, .inr (12, [.ref o_book, .ref o_now, .ref o_moults, .ref o_words, .ref o_clashes, .ref o_rocks, .int v_counts, .ref o_count, .int (0 : Int32), .ref o_pad, .int u5_readMany, .int u5_signedAll, .int u5_reason, .int u5_acts, .ref o_reached, .ref o_queue, .ref o_got, .long v_waitUp, .long v_waitLow, .ref o_wins, .ref o_image, .ref o_isKept])), (o_book, .inl (cI, 21, .inl z8_book)), (o_now, .inl (cI, 21, .inl u5_now)), (o_moults, .inl (cI, 6, .inl v_moults)), (o_words, .inl (cI, 10, .inl v_words)), (o_pad, .inl (cI, 60, .inl v_pad))]) rfl dX12_done_38 ?_
    refine q_aload_n C dX12_done_41 0 rfl rfl ?_
    refine q_get (C0 := RX12) (T := TX12) (N := 22) (k0 := 13) C lk1 0 rfl rfl (by decide) lk4 rfl (v := .int u5_acts) rfl dX12_done_42 ?_
    cases hF
    exact q_wreti C hr dX12_done_45 hQ
  · have hF := ite_f hF c7
    refine q_bipush (v := (-5 : Int32)) C dX12_done_7 (by decide) ?_
    cases hF
    exact q_wreti C hr dX12_done_9 hQ
set_option maxRecDepth 100000 in
set_option maxHeartbeats 4000000 in
theorem c_X12_behind (l : Launch) (dC : Nat → ClassId) (dI : Nat → Nat → Nat) (cI cZ cQ : ClassId) (o o_book o_now o_moults o_words o_pad o_clashes o_rocks o_count o_reached o_queue o_got o_wins o_image o_isKept : Nat) (v_book : Nat → Int32) (v_now : Nat → Int32) (v_moults : Nat → Int32) (v_words : Nat → Int32) (v_signs : Int32) (v_pad : Nat → Int32) (v_readMany : Int32) (v_signedAll : Int32) (v_reason : Int32) (v_acts : Int32) (v_counts : Int32) (v_waitUp : Int64) (v_waitLow : Int64) (p1 : Int32) (p2 : Int32) (R : Int32) (w_now : Nat → Int32) (w_readMany : Int32) (w_signedAll : Int32) (w_reason : Int32) (w_acts : Int32) (hF : f_Model_behind v_book v_now v_moults v_words v_signs v_pad v_readMany v_signedAll v_reason v_acts p1 p2 = some (R, w_now, w_readMany, w_signedAll, w_reason, w_acts)) (sz : Nat) : Met l yX12_behind wsX12_behind ({ frames := 7, cells := 0, slots := 0, locals := 154 } : Room) (qPc ([.ref o, .int p1, .int p2]) (dC, dI) (qT cI cZ cQ) ([(o, .inr (12, [.ref o_book, .ref o_now, .ref o_moults, .ref o_words, .ref o_clashes, .ref o_rocks, .int v_counts, .ref o_count, .int v_signs, .ref o_pad, .int v_readMany, .int v_signedAll, .int v_reason, .int v_acts, .ref o_reached, .ref o_queue, .ref o_got, .long v_waitUp, .long v_waitLow, .ref o_wins, .ref o_image, .ref o_isKept])), (o_book, .inl (cI, 21, .inl v_book)), (o_now, .inl (cI, 21, .inl v_now)), (o_moults, .inl (cI, 6, .inl v_moults)), (o_words, .inl (cI, 10, .inl v_words)), (o_pad, .inl (cI, 60, .inl v_pad))]) sz) (qWi R (dC, dI) ([(o, .inr (12, [.ref o_book, .ref o_now, .ref o_moults, .ref o_words, .ref o_clashes, .ref o_rocks, .int v_counts, .ref o_count, .int v_signs, .ref o_pad, .int w_readMany, .int w_signedAll, .int w_reason, .int w_acts, .ref o_reached, .ref o_queue, .ref o_got, .long v_waitUp, .long v_waitLow, .ref o_wins, .ref o_image, .ref o_isKept])), (o_book, .inl (cI, 21, .inl v_book)), (o_now, .inl (cI, 21, .inl w_now)), (o_moults, .inl (cI, 6, .inl v_moults)), (o_words, .inl (cI, 10, .inl v_words)), (o_pad, .inl (cI, 60, .inl v_pad))]) (va_A ([(o, .inr (12, [.ref o_book, .ref o_now, .ref o_moults, .ref o_words, .ref o_clashes, .ref o_rocks, .int v_counts, .ref o_count, .int v_signs, .ref o_pad, .int v_readMany, .int v_signedAll, .int v_reason, .int v_acts, .ref o_reached, .ref o_queue, .ref o_got, .long v_waitUp, .long v_waitLow, .ref o_wins, .ref o_image, .ref o_isKept])), (o_book, .inl (cI, 21, .inl v_book)), (o_now, .inl (cI, 21, .inl v_now)), (o_moults, .inl (cI, 6, .inl v_moults)), (o_words, .inl (cI, 10, .inl v_words)), (o_pad, .inl (cI, 60, .inl v_pad))]) sz)) 0 0 (va_A ([(o, .inr (12, [.ref o_book, .ref o_now, .ref o_moults, .ref o_words, .ref o_clashes, .ref o_rocks, .int v_counts, .ref o_count, .int v_signs, .ref o_pad, .int v_readMany, .int v_signedAll, .int v_reason, .int v_acts, .ref o_reached, .ref o_queue, .ref o_got, .long v_waitUp, .long v_waitLow, .ref o_wins, .ref o_image, .ref o_isKept])), (o_book, .inl (cI, 21, .inl v_book)), (o_now, .inl (cI, 21, .inl v_now)), (o_moults, .inl (cI, 6, .inl v_moults)), (o_words, .inl (cI, 10, .inl v_words)), (o_pad, .inl (cI, 60, .inl v_pad))]) sz) := by
  refine q_met_w (Qc := fun A => qWi R (dC, dI) ([(o, .inr (12, [.ref o_book, .ref o_now, .ref o_moults, .ref o_words, .ref o_clashes, .ref o_rocks, .int v_counts, .ref o_count, .int v_signs, .ref o_pad, .int w_readMany, .int w_signedAll, .int w_reason, .int w_acts, .ref o_reached, .ref o_queue, .ref o_got, .long v_waitUp, .long v_waitLow, .ref o_wins, .ref o_image, .ref o_isKept])), (o_book, .inl (cI, 21, .inl v_book)), (o_now, .inl (cI, 21, .inl w_now)), (o_moults, .inl (cI, 6, .inl v_moults)), (o_words, .inl (cI, 10, .inl v_words)), (o_pad, .inl (cI, 60, .inl v_pad))]) A) (cc := cX12_behind) (own := RX12) (maxL := 3) (ret := (some .int)) (lv0 := [(0, .ref o), (1, .int p1), (2, .int p2)]) (by decide) rfl rfl rfl (Nat.le_of_ble_eq_true rfl) ?_
  intro p e s m args below meth c A hA C hr hnm Q hQ
  have lk0 : Cond.fieldLink RX12 13 "SealStraitModel" "now" "[I" ∈ wsX12_behind := by decide +kernel
  have lk1 : ∀ w ∈ u_ws RX12 TX12 22, w ∈ wsX12_behind := fun w h => List.mem_cons_of_mem _ (List.mem_append_right _ h)
  unfold f_Model_behind at hF
  refine q_aload_n C dX12_behind_0 0 rfl rfl ?_
  refine q_iload_n C dX12_behind_1 1 rfl rfl ?_
  refine q_roz (q_runV (As := [.int p1]) (rest := []) C (fun sz => c_X12_isThere l dC dI cI cZ cQ o o_book o_now o_moults o_words o_clashes o_rocks o_count o_pad o_reached o_queue o_got o_wins o_image o_isKept v_book v_counts v_signs v_readMany v_signedAll v_reason v_acts v_waitUp v_waitLow p1 (f_Model_isThere v_book p1) rfl sz) (cwV 1 C.2.2.2.2.1 gX12_behind_X12_isThere rfl rfl rfl (by decide +kernel) ⟨Nat.le_of_ble_eq_true rfl, Nat.le_of_ble_eq_true rfl⟩) 0 rfl rfl rfl [0, 1] rfl rfl rfl rfl (Nat.le_of_ble_eq_true rfl) dX12_behind_2 ⟨Nat.zero_le _, Nat.zero_le _⟩) (fun hz1 => ?_)
  refine q_if_ne (tgt := 10) C dX12_behind_5 (by decide) (fun c2 => ?_) (fun c2 => ?_)
  · have hF := ite_f hF c2
    refine q_iload_n C dX12_behind_10 2 rfl rfl ?_
    refine q_iconst (v := (0 : Int32)) C dX12_behind_11 (by decide) ?_
    refine q_iconst (v := (2 : Int32)) C dX12_behind_12 (by decide) ?_
    refine q_roz (q_runS (As := [.int p2, .int (0 : Int32), .int (2 : Int32)]) (rest := []) C (fun sz => c_X12_in l dC dI cI cZ cQ p2 (0 : Int32) (2 : Int32) (f_Model_in p2 (0 : Int32) (2 : Int32)) rfl sz) (va_cwS 3 C.2.2.2.2.1 gX12_behind_X12_in rfl rfl rfl (by decide +kernel) ⟨Nat.le_of_ble_eq_true rfl, Nat.le_of_ble_eq_true rfl⟩) [] rfl rfl rfl rfl (Nat.le_of_ble_eq_true rfl) dX12_behind_13 ⟨Nat.zero_le _, Nat.zero_le _⟩) (fun hz3 => ?_)
    refine q_if_ne (tgt := 22) C dX12_behind_16 (by decide) (fun c4 => ?_) (fun c4 => ?_)
    · have hF := ite_f hF c4
      refine q_aload_n C dX12_behind_22 0 rfl rfl ?_
      obtain ⟨⟨r5, u5_now, u5_readMany, u5_signedAll, u5_reason, u5_acts⟩, hc6, hF⟩ := bind_c hF
      dsimp only at hF
      refine q_rwi hA ([(o, .inr (12, [.ref o_book, .ref o_now, .ref o_moults, .ref o_words, .ref o_clashes, .ref o_rocks, .int v_counts, .ref o_count, .int v_signs, .ref o_pad, .int u5_readMany, .int u5_signedAll, .int u5_reason, .int u5_acts, .ref o_reached, .ref o_queue, .ref o_got, .long v_waitUp, .long v_waitLow, .ref o_wins, .ref o_image, .ref o_isKept])), (o_book, .inl (cI, 21, .inl v_book)), (o_now, .inl (cI, 21, .inl u5_now)), (o_moults, .inl (cI, 6, .inl v_moults)), (o_words, .inl (cI, 10, .inl v_words)), (o_pad, .inl (cI, 60, .inl v_pad))]) [0, 1, 2, 3, 4, 5] [] rfl rfl rfl (by decide) [0, 1, 2, 3, 4, 5] rfl rfl (q_runV (As := []) (rest := []) C (fun sz => c_X12_barOfSeasons l dC dI cI cZ cQ o o_book o_now o_moults o_words o_pad o_clashes o_rocks o_count o_reached o_queue o_got o_wins o_image o_isKept v_book v_now v_moults v_words v_signs v_pad v_readMany v_signedAll v_reason v_acts v_counts v_waitUp v_waitLow r5 u5_now u5_readMany u5_signedAll u5_reason u5_acts hc6 sz) (cwV 0 C.2.2.2.2.1 gX12_behind_X12_barOfSeasons rfl rfl rfl (by decide +kernel) ⟨Nat.le_of_ble_eq_true rfl, Nat.le_of_ble_eq_true rfl⟩) 0 rfl rfl rfl [0, 1, 2, 3, 4, 5] rfl rfl rfl rfl (Nat.le_of_ble_eq_true rfl) dX12_behind_23 ⟨Nat.zero_le _, Nat.zero_le _⟩) ?_
      refine q_if_ge (tgt := 32) C dX12_behind_26 (by decide) (fun c7 => ?_) (fun c7 => ?_)
      · have hF := ite_t hF c7
        refine q_aload_n C dX12_behind_32 0 rfl rfl ?_
        refine q_iload_n C dX12_behind_33 1 rfl rfl ?_
        refine q_roz (q_runV (As := [.int p1]) (rest := []) C (fun sz => c_X12_stands l dC dI cI cZ cQ o o_now o_book o_moults o_words o_clashes o_rocks o_count o_pad o_reached o_queue o_got o_wins o_image o_isKept u5_now v_counts v_signs u5_readMany u5_signedAll u5_reason u5_acts v_waitUp v_waitLow p1 (f_Model_stands u5_now p1) rfl sz) (cwV 1 C.2.2.2.2.1 gX12_behind_X12_stands rfl rfl rfl (by decide +kernel) ⟨Nat.le_of_ble_eq_true rfl, Nat.le_of_ble_eq_true rfl⟩) 0 rfl rfl rfl [0, 2] rfl rfl rfl rfl (Nat.le_of_ble_eq_true rfl) dX12_behind_34 ⟨Nat.zero_le _, Nat.zero_le _⟩) (fun hz8 => ?_)
        refine q_if_eq (tgt := 54) C dX12_behind_37 (by decide) (fun c9 => ?_) (fun c9 => ?_)
        · have hF := ite_t hF c9
          refine q_bipush (v := (-6 : Int32)) C dX12_behind_54 (by decide) ?_
          cases hF
          exact q_wreti C hr dX12_behind_56 hQ
        · have hF := ite_f hF c9
          refine q_aload_n C dX12_behind_40 0 rfl rfl ?_
          refine q_get (C0 := RX12) (T := TX12) (N := 22) (k0 := 1) C lk1 0 rfl rfl (by decide) lk0 rfl (v := .ref o_now) rfl dX12_behind_41 ?_
          refine q_bipush (v := (6 : Int32)) C dX12_behind_44 (by decide) ?_
          refine q_iload_n C dX12_behind_46 2 rfl rfl ?_
          refine q_imul C dX12_behind_47 ?_
          refine q_iload_n C dX12_behind_48 1 rfl rfl ?_
          refine q_iadd C dX12_behind_49 ?_
          obtain ⟨hc10, hF⟩ := ite_c hF
          refine q_iald C 2 0 rfl rfl (ix_in hc10) dX12_behind_50 ?_
          refine q_goto (tgt := 56) C dX12_behind_51 (by decide) ?_
          cases hF
          exact q_wreti C hr dX12_behind_56 hQ
      · have hF := ite_f hF c7
        refine q_bipush (v := (-5 : Int32)) C dX12_behind_29 (by decide) ?_
        cases hF
        exact q_wreti C hr dX12_behind_31 hQ
    · have hF := ite_t hF c4
      refine q_bipush (v := (-2 : Int32)) C dX12_behind_19 (by decide) ?_
      cases hF
      exact q_wreti C hr dX12_behind_21 hQ
  · have hF := ite_t hF c2
    refine q_iconst (v := (-1 : Int32)) C dX12_behind_8 (by decide) ?_
    cases hF
    exact q_wreti C hr dX12_behind_9 hQ
set_option maxRecDepth 100000 in
set_option maxHeartbeats 4000000 in
theorem c_X12_headsBeyond (l : Launch) (dC : Nat → ClassId) (dI : Nat → Nat → Nat) (cI cZ cQ : ClassId) (o o_now o_book o_moults o_words o_clashes o_rocks o_count o_pad o_reached o_queue o_got o_wins o_image o_isKept : Nat) (v_now : Nat → Int32) (v_counts : Int32) (v_signs : Int32) (v_readMany : Int32) (v_signedAll : Int32) (v_reason : Int32) (v_acts : Int32) (v_waitUp : Int64) (v_waitLow : Int64) (R : Int32) (hF : f_Model_headsBeyond v_now = some R) (sz : Nat) : Met l yX12_headsBeyond wsX12_headsBeyond ({ frames := 2, cells := 0, slots := 0, locals := 43 } : Room) (qPc ([.ref o]) (dC, dI) (qT cI cZ cQ) ([(o, .inr (12, [.ref o_book, .ref o_now, .ref o_moults, .ref o_words, .ref o_clashes, .ref o_rocks, .int v_counts, .ref o_count, .int v_signs, .ref o_pad, .int v_readMany, .int v_signedAll, .int v_reason, .int v_acts, .ref o_reached, .ref o_queue, .ref o_got, .long v_waitUp, .long v_waitLow, .ref o_wins, .ref o_image, .ref o_isKept])), (o_now, .inl (cI, 21, .inl v_now))]) sz) (qRi R) 0 0 (fun _ => False) := by
  refine q_met_r (cc := cX12_headsBeyond) (own := RX12) (maxL := 3) (ret := (some .int)) (lv0 := [(0, .ref o)]) (by decide) rfl rfl rfl (Nat.le_of_ble_eq_true rfl) ?_
  intro p e s m args below meth c C hr A A' Q hA0 hQ
  have lk0 : Cond.fieldLink RX12 13 "SealStraitModel" "now" "[I" ∈ wsX12_headsBeyond := by decide +kernel
  have lk1 : ∀ w ∈ u_ws RX12 TX12 22, w ∈ wsX12_headsBeyond := fun w h => List.mem_cons_of_mem _ (List.mem_append_right _ h)
  have L1 : ∀ (n : Nat) (x1 : Int32) (x2 : Int32) (y1 : Int32), evr (fun s => b_Model_headsBeyond_1 v_now s.1 s.2) n (x1, x2) = some y1 → qG p l e ({ frames := 2, cells := 0, slots := 0, locals := 43 } : Room) s m args below meth c 3 (dC, dI) A A' Q 0 0 ([(1, .int y1)]) [] ([(o, .inr (12, [.ref o_book, .ref o_now, .ref o_moults, .ref o_words, .ref o_clashes, .ref o_rocks, .int v_counts, .ref o_count, .int v_signs, .ref o_pad, .int v_readMany, .int v_signedAll, .int v_reason, .int v_acts, .ref o_reached, .ref o_queue, .ref o_got, .long v_waitUp, .long v_waitLow, .ref o_wins, .ref o_image, .ref o_isKept])), (o_now, .inl (cI, 21, .inl v_now))]) 50 → qG p l e ({ frames := 2, cells := 0, slots := 0, locals := 43 } : Room) s m args below meth c 3 (dC, dI) A A' Q 0 0 ([(0, .ref o), (1, .int x1), (2, .int x2)]) [] ([(o, .inr (12, [.ref o_book, .ref o_now, .ref o_moults, .ref o_words, .ref o_clashes, .ref o_rocks, .int v_counts, .ref o_count, .int v_signs, .ref o_pad, .int v_readMany, .int v_signedAll, .int v_reason, .int v_acts, .ref o_reached, .ref o_queue, .ref o_got, .long v_waitUp, .long v_waitLow, .ref o_wins, .ref o_image, .ref o_isKept])), (o_now, .inl (cI, 21, .inl v_now))]) 4 := by
    clear hF
    intro n
    induction n with
    | zero => intro x1 x2 y1 hF; exact (evr_0 hF).elim
    | succ n ih =>
      intro x1 x2 y1 hF hk
      obtain ⟨o9, hB, hn, hx⟩ := evr_c hF
      have hF : b_Model_headsBeyond_1 v_now x1 x2 = some o9 := hB
      unfold b_Model_headsBeyond_1 at hF
      refine q_iload_n C dX12_headsBeyond_4 2 rfl rfl ?_
      refine q_bipush (v := (6 : Int32)) C dX12_headsBeyond_5 (by decide) ?_
      refine q_icmp_ge (tgt := 50) C dX12_headsBeyond_7 (by decide) (fun c1 => ?_) (fun c1 => ?_)
      · have hF := ite_t hF c1
        cases hF
        have e2 := hx _ rfl
        cases e2
        refine q_lsel [1] rfl ?_
        exact hk
      · have hF := ite_f hF c1
        refine q_iload_n C dX12_headsBeyond_10 1 rfl rfl ?_
        refine q_aload_n C dX12_headsBeyond_11 0 rfl rfl ?_
        refine q_iload_n C dX12_headsBeyond_12 2 rfl rfl ?_
        refine q_roz (q_runV (As := [.int x2]) (rest := [.int x1]) C (fun sz => c_X12_stands l dC dI cI cZ cQ o o_now o_book o_moults o_words o_clashes o_rocks o_count o_pad o_reached o_queue o_got o_wins o_image o_isKept v_now v_counts v_signs v_readMany v_signedAll v_reason v_acts v_waitUp v_waitLow x2 (f_Model_stands v_now x2) rfl sz) (cwV 1 C.2.2.2.2.1 gX12_headsBeyond_X12_stands rfl rfl rfl (by decide +kernel) ⟨Nat.le_of_ble_eq_true rfl, Nat.le_of_ble_eq_true rfl⟩) 0 rfl rfl rfl [0, 1] rfl rfl rfl rfl (Nat.le_of_ble_eq_true rfl) dX12_headsBeyond_13 ⟨Nat.zero_le _, Nat.zero_le _⟩) (fun hz3 => ?_)
        refine q_if_eq (tgt := 41) C dX12_headsBeyond_16 (by decide) (fun c4 => ?_) (fun c4 => ?_)
        · have hF := ite_t hF c4
          refine q_iconst (v := (0 : Int32)) C dX12_headsBeyond_41 (by decide) ?_
          refine q_iadd C dX12_headsBeyond_42 ?_
          refine q_istore_n C ([(1, .int (x1 + (0 : Int32))), (0, .ref o), (2, .int x2)]) dX12_headsBeyond_43 rfl (by decide) rfl ?_
          refine q_iinc (v := (x2 + 1)) C ([(2, .int (x2 + 1)), (1, .int (x1 + (0 : Int32))), (0, .ref o)]) dX12_headsBeyond_44 2 rfl rfl (by decide) rfl ?_
          refine q_goto (tgt := 4) C dX12_headsBeyond_47 (by decide) ?_
          cases hF
          refine q_lsel [2, 1, 0] rfl ?_
          exact ih (x1 + (0 : Int32)) (x2 + 1) y1 (hn _ rfl) hk
        · have hF := ite_f hF c4
          refine q_aload_n C dX12_headsBeyond_19 0 rfl rfl ?_
          refine q_get (C0 := RX12) (T := TX12) (N := 22) (k0 := 1) C lk1 0 rfl rfl (by decide) lk0 rfl (v := .ref o_now) rfl dX12_headsBeyond_20 ?_
          refine q_bipush (v := (6 : Int32)) C dX12_headsBeyond_23 (by decide) ?_
          refine q_iload_n C dX12_headsBeyond_25 2 rfl rfl ?_
          refine q_iadd C dX12_headsBeyond_26 ?_
          obtain ⟨hc5, hF⟩ := ite_c hF
          refine q_iald C 1 0 rfl rfl (ix_in hc5) dX12_headsBeyond_27 ?_
          refine q_iconst (v := (1 : Int32)) C dX12_headsBeyond_28 (by decide) ?_
          refine q_icmp_ne (tgt := 41) C dX12_headsBeyond_29 (by decide) (fun c6 => ?_) (fun c6 => ?_)
          · have hF := ite_f hF c6
            refine q_iconst (v := (0 : Int32)) C dX12_headsBeyond_41 (by decide) ?_
            refine q_iadd C dX12_headsBeyond_42 ?_
            refine q_istore_n C ([(1, .int (x1 + (0 : Int32))), (0, .ref o), (2, .int x2)]) dX12_headsBeyond_43 rfl (by decide) rfl ?_
            refine q_iinc (v := (x2 + 1)) C ([(2, .int (x2 + 1)), (1, .int (x1 + (0 : Int32))), (0, .ref o)]) dX12_headsBeyond_44 2 rfl rfl (by decide) rfl ?_
            refine q_goto (tgt := 4) C dX12_headsBeyond_47 (by decide) ?_
            cases hF
            refine q_lsel [2, 1, 0] rfl ?_
            exact ih (x1 + (0 : Int32)) (x2 + 1) y1 (hn _ rfl) hk
          · have hF := ite_t hF c6
            refine q_aload_n C dX12_headsBeyond_32 0 rfl rfl ?_
            refine q_get (C0 := RX12) (T := TX12) (N := 22) (k0 := 1) C lk1 0 rfl rfl (by decide) lk0 rfl (v := .ref o_now) rfl dX12_headsBeyond_33 ?_
            refine q_iload_n C dX12_headsBeyond_36 2 rfl rfl ?_
            obtain ⟨hc7, hF⟩ := ite_c hF
            refine q_iald C 1 0 rfl rfl (ix_in hc7) dX12_headsBeyond_37 ?_
            refine q_goto (tgt := 42) C dX12_headsBeyond_38 (by decide) ?_
            refine q_iadd C dX12_headsBeyond_42 ?_
            refine q_istore_n C ([(1, .int (x1 + (v_now (x2).toNatClampNeg))), (0, .ref o), (2, .int x2)]) dX12_headsBeyond_43 rfl (by decide) rfl ?_
            refine q_iinc (v := (x2 + 1)) C ([(2, .int (x2 + 1)), (1, .int (x1 + (v_now (x2).toNatClampNeg))), (0, .ref o)]) dX12_headsBeyond_44 2 rfl rfl (by decide) rfl ?_
            refine q_goto (tgt := 4) C dX12_headsBeyond_47 (by decide) ?_
            cases hF
            refine q_lsel [2, 1, 0] rfl ?_
            exact ih (x1 + (v_now (x2).toNatClampNeg)) (x2 + 1) y1 (hn _ rfl) hk
  unfold f_Model_headsBeyond at hF
  refine q_iconst (v := (0 : Int32)) C dX12_headsBeyond_0 (by decide) ?_
  refine q_istore_n C ([(1, .int (0 : Int32)), (0, .ref o)]) dX12_headsBeyond_1 rfl (by decide) rfl ?_
  refine q_iconst (v := (0 : Int32)) C dX12_headsBeyond_2 (by decide) ?_
  refine q_istore_n C ([(2, .int (0 : Int32)), (1, .int (0 : Int32)), (0, .ref o)]) dX12_headsBeyond_3 rfl (by decide) rfl ?_
  obtain ⟨y1_8, hc9, hF⟩ := bind_c hF
  obtain ⟨n10, hc9⟩ := (ev_iff _ _ _).mp hc9
  refine q_lsel [2, 1, 0] rfl ?_
  refine L1 n10 (0 : Int32) (0 : Int32) y1_8 hc9 ?_
  refine q_iload_n C dX12_headsBeyond_50 0 rfl rfl ?_
  cases hF
  exact q_ireti C hA0 hr dX12_headsBeyond_51 hQ
set_option maxRecDepth 100000 in
set_option maxHeartbeats 4000000 in
theorem c_X12_then (l : Launch) (dC : Nat → ClassId) (dI : Nat → Nat → Nat) (cI cZ cQ : ClassId) (o o_book o_now o_moults o_words o_pad o_clashes o_rocks o_count o_reached o_queue o_got o_wins o_image o_isKept : Nat) (v_book : Nat → Int32) (v_now : Nat → Int32) (v_moults : Nat → Int32) (v_words : Nat → Int32) (v_signs : Int32) (v_pad : Nat → Int32) (v_readMany : Int32) (v_signedAll : Int32) (v_reason : Int32) (v_acts : Int32) (v_counts : Int32) (v_waitUp : Int64) (v_waitLow : Int64) (p1 : Int32) (R : Int32) (w_now : Nat → Int32) (w_readMany : Int32) (w_signedAll : Int32) (w_reason : Int32) (w_acts : Int32) (hF : f_Model_then v_book v_now v_moults v_words v_signs v_pad v_readMany v_signedAll v_reason v_acts p1 = some (R, w_now, w_readMany, w_signedAll, w_reason, w_acts)) (sz : Nat) : Met l yX12_then wsX12_then ({ frames := 7, cells := 0, slots := 0, locals := 154 } : Room) (qPc ([.ref o, .int p1]) (dC, dI) (qT cI cZ cQ) ([(o, .inr (12, [.ref o_book, .ref o_now, .ref o_moults, .ref o_words, .ref o_clashes, .ref o_rocks, .int v_counts, .ref o_count, .int v_signs, .ref o_pad, .int v_readMany, .int v_signedAll, .int v_reason, .int v_acts, .ref o_reached, .ref o_queue, .ref o_got, .long v_waitUp, .long v_waitLow, .ref o_wins, .ref o_image, .ref o_isKept])), (o_book, .inl (cI, 21, .inl v_book)), (o_now, .inl (cI, 21, .inl v_now)), (o_moults, .inl (cI, 6, .inl v_moults)), (o_words, .inl (cI, 10, .inl v_words)), (o_pad, .inl (cI, 60, .inl v_pad))]) sz) (qWi R (dC, dI) ([(o, .inr (12, [.ref o_book, .ref o_now, .ref o_moults, .ref o_words, .ref o_clashes, .ref o_rocks, .int v_counts, .ref o_count, .int v_signs, .ref o_pad, .int w_readMany, .int w_signedAll, .int w_reason, .int w_acts, .ref o_reached, .ref o_queue, .ref o_got, .long v_waitUp, .long v_waitLow, .ref o_wins, .ref o_image, .ref o_isKept])), (o_book, .inl (cI, 21, .inl v_book)), (o_now, .inl (cI, 21, .inl w_now)), (o_moults, .inl (cI, 6, .inl v_moults)), (o_words, .inl (cI, 10, .inl v_words)), (o_pad, .inl (cI, 60, .inl v_pad))]) (va_A ([(o, .inr (12, [.ref o_book, .ref o_now, .ref o_moults, .ref o_words, .ref o_clashes, .ref o_rocks, .int v_counts, .ref o_count, .int v_signs, .ref o_pad, .int v_readMany, .int v_signedAll, .int v_reason, .int v_acts, .ref o_reached, .ref o_queue, .ref o_got, .long v_waitUp, .long v_waitLow, .ref o_wins, .ref o_image, .ref o_isKept])), (o_book, .inl (cI, 21, .inl v_book)), (o_now, .inl (cI, 21, .inl v_now)), (o_moults, .inl (cI, 6, .inl v_moults)), (o_words, .inl (cI, 10, .inl v_words)), (o_pad, .inl (cI, 60, .inl v_pad))]) sz)) 0 0 (va_A ([(o, .inr (12, [.ref o_book, .ref o_now, .ref o_moults, .ref o_words, .ref o_clashes, .ref o_rocks, .int v_counts, .ref o_count, .int v_signs, .ref o_pad, .int v_readMany, .int v_signedAll, .int v_reason, .int v_acts, .ref o_reached, .ref o_queue, .ref o_got, .long v_waitUp, .long v_waitLow, .ref o_wins, .ref o_image, .ref o_isKept])), (o_book, .inl (cI, 21, .inl v_book)), (o_now, .inl (cI, 21, .inl v_now)), (o_moults, .inl (cI, 6, .inl v_moults)), (o_words, .inl (cI, 10, .inl v_words)), (o_pad, .inl (cI, 60, .inl v_pad))]) sz) := by
  refine q_met_w (Qc := fun A => qWi R (dC, dI) ([(o, .inr (12, [.ref o_book, .ref o_now, .ref o_moults, .ref o_words, .ref o_clashes, .ref o_rocks, .int v_counts, .ref o_count, .int v_signs, .ref o_pad, .int w_readMany, .int w_signedAll, .int w_reason, .int w_acts, .ref o_reached, .ref o_queue, .ref o_got, .long v_waitUp, .long v_waitLow, .ref o_wins, .ref o_image, .ref o_isKept])), (o_book, .inl (cI, 21, .inl v_book)), (o_now, .inl (cI, 21, .inl w_now)), (o_moults, .inl (cI, 6, .inl v_moults)), (o_words, .inl (cI, 10, .inl v_words)), (o_pad, .inl (cI, 60, .inl v_pad))]) A) (cc := cX12_then) (own := RX12) (maxL := 2) (ret := (some .int)) (lv0 := [(0, .ref o), (1, .int p1)]) (by decide) rfl rfl rfl (Nat.le_of_ble_eq_true rfl) ?_
  intro p e s m args below meth c A hA C hr hnm Q hQ
  have lk0 : Cond.fieldLink RX12 80 "SealStraitModel" "signedAll" "I" ∈ wsX12_then := by decide +kernel
  have lk1 : ∀ w ∈ u_ws RX12 TX12 22, w ∈ wsX12_then := fun w h => List.mem_cons_of_mem _ (List.mem_append_right _ h)
  have lk2 : Cond.fieldLink RX12 7 "SealStraitModel" "book" "[I" ∈ wsX12_then := by decide +kernel
  have lk3 : Cond.fieldLink RX12 77 "SealStraitModel" "readMany" "I" ∈ wsX12_then := by decide +kernel
  have lk4 : Cond.fieldLink RX12 13 "SealStraitModel" "now" "[I" ∈ wsX12_then := by decide +kernel
  unfold f_Model_then at hF
  refine q_iload_n C dX12_then_0 1 rfl rfl ?_
  refine q_iconst (v := (0 : Int32)) C dX12_then_1 (by decide) ?_
  refine q_iconst (v := (4 : Int32)) C dX12_then_2 (by decide) ?_
  refine q_roz (q_runS (As := [.int p1, .int (0 : Int32), .int (4 : Int32)]) (rest := []) C (fun sz => c_X12_in l dC dI cI cZ cQ p1 (0 : Int32) (4 : Int32) (f_Model_in p1 (0 : Int32) (4 : Int32)) rfl sz) (va_cwS 3 C.2.2.2.2.1 gX12_then_X12_in rfl rfl rfl (by decide +kernel) ⟨Nat.le_of_ble_eq_true rfl, Nat.le_of_ble_eq_true rfl⟩) [] rfl rfl rfl rfl (Nat.le_of_ble_eq_true rfl) dX12_then_3 ⟨Nat.zero_le _, Nat.zero_le _⟩) (fun hz1 => ?_)
  refine q_if_ne (tgt := 12) C dX12_then_6 (by decide) (fun c2 => ?_) (fun c2 => ?_)
  · have hF := ite_f hF c2
    refine q_aload_n C dX12_then_12 0 rfl rfl ?_
    obtain ⟨⟨r3, u3_now, u3_readMany, u3_signedAll, u3_reason, u3_acts⟩, hc4, hF⟩ := bind_c hF
    dsimp only at hF
    refine q_rwi hA ([(o, .inr (12, [.ref o_book, .ref o_now, .ref o_moults, .ref o_words, .ref o_clashes, .ref o_rocks, .int v_counts, .ref o_count, .int v_signs, .ref o_pad, .int u3_readMany, .int u3_signedAll, .int u3_reason, .int u3_acts, .ref o_reached, .ref o_queue, .ref o_got, .long v_waitUp, .long v_waitLow, .ref o_wins, .ref o_image, .ref o_isKept])), (o_book, .inl (cI, 21, .inl v_book)), (o_now, .inl (cI, 21, .inl u3_now)), (o_moults, .inl (cI, 6, .inl v_moults)), (o_words, .inl (cI, 10, .inl v_words)), (o_pad, .inl (cI, 60, .inl v_pad))]) [0, 1, 2, 3, 4, 5] [] rfl rfl rfl (by decide) [0, 1, 2, 3, 4, 5] rfl rfl (q_runV (As := []) (rest := []) C (fun sz => c_X12_barOfSeasons l dC dI cI cZ cQ o o_book o_now o_moults o_words o_pad o_clashes o_rocks o_count o_reached o_queue o_got o_wins o_image o_isKept v_book v_now v_moults v_words v_signs v_pad v_readMany v_signedAll v_reason v_acts v_counts v_waitUp v_waitLow r3 u3_now u3_readMany u3_signedAll u3_reason u3_acts hc4 sz) (cwV 0 C.2.2.2.2.1 gX12_then_X12_barOfSeasons rfl rfl rfl (by decide +kernel) ⟨Nat.le_of_ble_eq_true rfl, Nat.le_of_ble_eq_true rfl⟩) 0 rfl rfl rfl [0, 1, 2, 3, 4, 5] rfl rfl rfl rfl (Nat.le_of_ble_eq_true rfl) dX12_then_13 ⟨Nat.zero_le _, Nat.zero_le _⟩) ?_
    refine q_if_ge (tgt := 22) C dX12_then_16 (by decide) (fun c5 => ?_) (fun c5 => ?_)
    · have hF := ite_t hF c5
      refine q_iload_n C dX12_then_22 1 rfl rfl ?_
      refine q_if_ne (tgt := 33) C dX12_then_23 (by decide) (fun c6 => ?_) (fun c6 => ?_)
      · have hF := ite_f hF c6
        refine q_iload_n C dX12_then_33 1 rfl rfl ?_
        refine q_iconst (v := (3 : Int32)) C dX12_then_34 (by decide) ?_
        refine q_icmp_ge (tgt := 50) C dX12_then_35 (by decide) (fun c7 => ?_) (fun c7 => ?_)
        · have hF := ite_t hF c7
          refine q_iload_n C dX12_then_50 1 rfl rfl ?_
          refine q_iconst (v := (3 : Int32)) C dX12_then_51 (by decide) ?_
          refine q_icmp_ne (tgt := 62) C dX12_then_52 (by decide) (fun c8 => ?_) (fun c8 => ?_)
          · have hF := ite_f hF c8
            refine q_aload_n C dX12_then_62 0 rfl rfl ?_
            refine q_get (C0 := RX12) (T := TX12) (N := 22) (k0 := 11) C lk1 0 rfl rfl (by decide) lk0 rfl (v := .int u3_signedAll) rfl dX12_then_63 ?_
            refine q_aload_n C dX12_then_66 0 rfl rfl ?_
            refine q_get (C0 := RX12) (T := TX12) (N := 22) (k0 := 0) C lk1 0 rfl rfl (by decide) lk2 rfl (v := .ref o_book) rfl dX12_then_67 ?_
            refine q_bipush (v := (18 : Int32)) C dX12_then_70 (by decide) ?_
            refine q_iald C 1 0 rfl rfl (ix_in (by decide)) dX12_then_72 ?_
            refine q_iand C dX12_then_73 ?_
            cases hF
            exact q_wreti C hr dX12_then_74 hQ
          · have hF := ite_t hF c8
            refine q_aload_n C dX12_then_55 0 rfl rfl ?_
            refine q_get (C0 := RX12) (T := TX12) (N := 22) (k0 := 10) C lk1 0 rfl rfl (by decide) lk3 rfl (v := .int u3_readMany) rfl dX12_then_56 ?_
            refine q_goto (tgt := 74) C dX12_then_59 (by decide) ?_
            cases hF
            exact q_wreti C hr dX12_then_74 hQ
        · have hF := ite_f hF c7
          refine q_aload_n C dX12_then_38 0 rfl rfl ?_
          refine q_get (C0 := RX12) (T := TX12) (N := 22) (k0 := 1) C lk1 0 rfl rfl (by decide) lk4 rfl (v := .ref o_now) rfl dX12_then_39 ?_
          refine q_bipush (v := (18 : Int32)) C dX12_then_42 (by decide) ?_
          refine q_iload_n C dX12_then_44 1 rfl rfl ?_
          refine q_iadd C dX12_then_45 ?_
          obtain ⟨hc9, hF⟩ := ite_c hF
          refine q_iald C 2 0 rfl rfl (ix_in hc9) dX12_then_46 ?_
          refine q_goto (tgt := 74) C dX12_then_47 (by decide) ?_
          cases hF
          exact q_wreti C hr dX12_then_74 hQ
      · have hF := ite_t hF c6
        refine q_aload_n C dX12_then_26 0 rfl rfl ?_
        obtain ⟨r10, hc11, hF⟩ := bind_c hF
        refine q_roi (q_runV (As := []) (rest := []) C (fun sz => c_X12_headsBeyond l dC dI cI cZ cQ o o_now o_book o_moults o_words o_clashes o_rocks o_count o_pad o_reached o_queue o_got o_wins o_image o_isKept u3_now v_counts v_signs u3_readMany u3_signedAll u3_reason u3_acts v_waitUp v_waitLow r10 hc11 sz) (cwV 0 C.2.2.2.2.1 gX12_then_X12_headsBeyond rfl rfl rfl (by decide +kernel) ⟨Nat.le_of_ble_eq_true rfl, Nat.le_of_ble_eq_true rfl⟩) 0 rfl rfl rfl [0, 2] rfl rfl rfl rfl (Nat.le_of_ble_eq_true rfl) dX12_then_27 ⟨Nat.zero_le _, Nat.zero_le _⟩) ?_
        refine q_goto (tgt := 74) C dX12_then_30 (by decide) ?_
        cases hF
        exact q_wreti C hr dX12_then_74 hQ
    · have hF := ite_f hF c5
      refine q_bipush (v := (-5 : Int32)) C dX12_then_19 (by decide) ?_
      cases hF
      exact q_wreti C hr dX12_then_21 hQ
  · have hF := ite_t hF c2
    refine q_bipush (v := (-2 : Int32)) C dX12_then_9 (by decide) ?_
    cases hF
    exact q_wreti C hr dX12_then_11 hQ
set_option maxRecDepth 100000 in
set_option maxHeartbeats 4000000 in
theorem c_X12_who (l : Launch) (dC : Nat → ClassId) (dI : Nat → Nat → Nat) (cI cZ cQ : ClassId) (o o_book o_now o_moults o_words o_clashes o_rocks o_count o_pad o_reached o_queue o_got o_wins o_image o_isKept : Nat) (v_book : Nat → Int32) (v_now : Nat → Int32) (v_moults : Nat → Int32) (v_words : Nat → Int32) (v_readMany : Int32) (v_signedAll : Int32) (v_counts : Int32) (v_signs : Int32) (v_reason : Int32) (v_acts : Int32) (v_waitUp : Int64) (v_waitLow : Int64) (p1 : Int32) (R : Int32) (w_now : Nat → Int32) (w_readMany : Int32) (w_signedAll : Int32) (hF : f_Model_who v_book v_now v_moults v_words v_readMany v_signedAll p1 = some (R, w_now, w_readMany, w_signedAll)) (sz : Nat) : Met l yX12_who wsX12_who ({ frames := 4, cells := 0, slots := 0, locals := 88 } : Room) (qPc ([.ref o, .int p1]) (dC, dI) (qT cI cZ cQ) ([(o, .inr (12, [.ref o_book, .ref o_now, .ref o_moults, .ref o_words, .ref o_clashes, .ref o_rocks, .int v_counts, .ref o_count, .int v_signs, .ref o_pad, .int v_readMany, .int v_signedAll, .int v_reason, .int v_acts, .ref o_reached, .ref o_queue, .ref o_got, .long v_waitUp, .long v_waitLow, .ref o_wins, .ref o_image, .ref o_isKept])), (o_book, .inl (cI, 21, .inl v_book)), (o_now, .inl (cI, 21, .inl v_now)), (o_moults, .inl (cI, 6, .inl v_moults)), (o_words, .inl (cI, 10, .inl v_words))]) sz) (qWi R (dC, dI) ([(o, .inr (12, [.ref o_book, .ref o_now, .ref o_moults, .ref o_words, .ref o_clashes, .ref o_rocks, .int v_counts, .ref o_count, .int v_signs, .ref o_pad, .int w_readMany, .int w_signedAll, .int v_reason, .int v_acts, .ref o_reached, .ref o_queue, .ref o_got, .long v_waitUp, .long v_waitLow, .ref o_wins, .ref o_image, .ref o_isKept])), (o_book, .inl (cI, 21, .inl v_book)), (o_now, .inl (cI, 21, .inl w_now)), (o_moults, .inl (cI, 6, .inl v_moults)), (o_words, .inl (cI, 10, .inl v_words))]) (va_A ([(o, .inr (12, [.ref o_book, .ref o_now, .ref o_moults, .ref o_words, .ref o_clashes, .ref o_rocks, .int v_counts, .ref o_count, .int v_signs, .ref o_pad, .int v_readMany, .int v_signedAll, .int v_reason, .int v_acts, .ref o_reached, .ref o_queue, .ref o_got, .long v_waitUp, .long v_waitLow, .ref o_wins, .ref o_image, .ref o_isKept])), (o_book, .inl (cI, 21, .inl v_book)), (o_now, .inl (cI, 21, .inl v_now)), (o_moults, .inl (cI, 6, .inl v_moults)), (o_words, .inl (cI, 10, .inl v_words))]) sz)) 0 0 (va_A ([(o, .inr (12, [.ref o_book, .ref o_now, .ref o_moults, .ref o_words, .ref o_clashes, .ref o_rocks, .int v_counts, .ref o_count, .int v_signs, .ref o_pad, .int v_readMany, .int v_signedAll, .int v_reason, .int v_acts, .ref o_reached, .ref o_queue, .ref o_got, .long v_waitUp, .long v_waitLow, .ref o_wins, .ref o_image, .ref o_isKept])), (o_book, .inl (cI, 21, .inl v_book)), (o_now, .inl (cI, 21, .inl v_now)), (o_moults, .inl (cI, 6, .inl v_moults)), (o_words, .inl (cI, 10, .inl v_words))]) sz) := by
  refine q_met_w (Qc := fun A => qWi R (dC, dI) ([(o, .inr (12, [.ref o_book, .ref o_now, .ref o_moults, .ref o_words, .ref o_clashes, .ref o_rocks, .int v_counts, .ref o_count, .int v_signs, .ref o_pad, .int w_readMany, .int w_signedAll, .int v_reason, .int v_acts, .ref o_reached, .ref o_queue, .ref o_got, .long v_waitUp, .long v_waitLow, .ref o_wins, .ref o_image, .ref o_isKept])), (o_book, .inl (cI, 21, .inl v_book)), (o_now, .inl (cI, 21, .inl w_now)), (o_moults, .inl (cI, 6, .inl v_moults)), (o_words, .inl (cI, 10, .inl v_words))]) A) (cc := cX12_who) (own := RX12) (maxL := 2) (ret := (some .int)) (lv0 := [(0, .ref o), (1, .int p1)]) (by decide) rfl rfl rfl (Nat.le_of_ble_eq_true rfl) ?_
  intro p e s m args below meth c A hA C hr hnm Q hQ
  unfold f_Model_who at hF
  refine q_aload_n C dX12_who_0 0 rfl rfl ?_
  obtain ⟨⟨u1_now, u1_readMany, u1_signedAll⟩, hc2, hF⟩ := bind_c hF
  dsimp only at hF
  refine q_rwv hA ([(o, .inr (12, [.ref o_book, .ref o_now, .ref o_moults, .ref o_words, .ref o_clashes, .ref o_rocks, .int v_counts, .ref o_count, .int v_signs, .ref o_pad, .int u1_readMany, .int u1_signedAll, .int v_reason, .int v_acts, .ref o_reached, .ref o_queue, .ref o_got, .long v_waitUp, .long v_waitLow, .ref o_wins, .ref o_image, .ref o_isKept])), (o_book, .inl (cI, 21, .inl v_book)), (o_now, .inl (cI, 21, .inl u1_now)), (o_moults, .inl (cI, 6, .inl v_moults)), (o_words, .inl (cI, 10, .inl v_words))]) [0, 1, 2] [3, 4] rfl rfl rfl (by decide) [2, 3, 4, 0, 1] rfl rfl (q_runV (As := []) (rest := []) C (fun sz => c_X12_asNow l dC dI cI cZ cQ o o_book o_now o_moults o_words o_clashes o_rocks o_count o_pad o_reached o_queue o_got o_wins o_image o_isKept v_book v_now v_readMany v_signedAll v_counts v_signs v_reason v_acts v_waitUp v_waitLow u1_now u1_readMany u1_signedAll hc2 sz) (cwV 0 C.2.2.2.2.1 gX12_who_X12_asNow rfl rfl rfl (by decide +kernel) ⟨Nat.le_of_ble_eq_true rfl, Nat.le_of_ble_eq_true rfl⟩) 0 rfl rfl rfl [0, 1, 2] rfl rfl rfl rfl (Nat.le_of_ble_eq_true rfl) dX12_who_1 ⟨Nat.zero_le _, Nat.zero_le _⟩) ?_
  refine q_iload_n C dX12_who_4 1 rfl rfl ?_
  refine q_roz (q_runS (As := [.int p1]) (rest := []) C (fun sz => c_X12_isClause l dC dI cI cZ cQ p1 (f_Model_isClause p1) rfl sz) (va_cwS 1 C.2.2.2.2.1 gX12_who_X12_isClause rfl rfl rfl (by decide +kernel) ⟨Nat.le_of_ble_eq_true rfl, Nat.le_of_ble_eq_true rfl⟩) [] rfl rfl rfl rfl (Nat.le_of_ble_eq_true rfl) dX12_who_5 ⟨Nat.zero_le _, Nat.zero_le _⟩) (fun hz3 => ?_)
  refine q_if_eq (tgt := 19) C dX12_who_8 (by decide) (fun c4 => ?_) (fun c4 => ?_)
  · have hF := ite_t hF c4
    refine q_iconst (v := (-1 : Int32)) C dX12_who_19 (by decide) ?_
    cases hF
    exact q_wreti C hr dX12_who_20 hQ
  · have hF := ite_f hF c4
    refine q_aload_n C dX12_who_11 0 rfl rfl ?_
    refine q_iload_n C dX12_who_12 1 rfl rfl ?_
    obtain ⟨r5, hc6, hF⟩ := bind_c hF
    refine q_roi (q_runV (As := [.int p1]) (rest := []) C (fun sz => c_X12_signers l dC dI cI cZ cQ o o_now o_moults o_words o_book o_clashes o_rocks o_count o_pad o_reached o_queue o_got o_wins o_image o_isKept u1_now v_moults v_words v_counts v_signs u1_readMany u1_signedAll v_reason v_acts v_waitUp v_waitLow p1 r5 hc6 sz) (cwV 1 C.2.2.2.2.1 gX12_who_X12_signers rfl rfl rfl (by decide +kernel) ⟨Nat.le_of_ble_eq_true rfl, Nat.le_of_ble_eq_true rfl⟩) 0 rfl rfl rfl [0, 2, 3, 4] rfl rfl rfl rfl (Nat.le_of_ble_eq_true rfl) dX12_who_13 ⟨Nat.zero_le _, Nat.zero_le _⟩) ?_
    refine q_goto (tgt := 20) C dX12_who_16 (by decide) ?_
    cases hF
    exact q_wreti C hr dX12_who_20 hQ
set_option maxRecDepth 100000 in
set_option maxHeartbeats 4000000 in
theorem c_X12_heard (l : Launch) (dC : Nat → ClassId) (dI : Nat → Nat → Nat) (cI cZ cQ : ClassId) (o o_now o_moults o_words o_book o_clashes o_rocks o_count o_pad o_reached o_queue o_got o_wins o_image o_isKept : Nat) (v_now : Nat → Int32) (v_moults : Nat → Int32) (v_words : Nat → Int32) (v_counts : Int32) (v_signs : Int32) (v_readMany : Int32) (v_signedAll : Int32) (v_reason : Int32) (v_acts : Int32) (v_waitUp : Int64) (v_waitLow : Int64) (p1 : Int32) (p2 : Int32) (p3 : Int32) (R : Int32) (hF : f_Model_heard v_now v_moults v_words p1 p2 p3 = some R) (sz : Nat) : Met l yX12_heard wsX12_heard ({ frames := 0, cells := 0, slots := 0, locals := 0 } : Room) (qPc ([.ref o, .int p1, .int p2, .int p3]) (dC, dI) (qT cI cZ cQ) ([(o, .inr (12, [.ref o_book, .ref o_now, .ref o_moults, .ref o_words, .ref o_clashes, .ref o_rocks, .int v_counts, .ref o_count, .int v_signs, .ref o_pad, .int v_readMany, .int v_signedAll, .int v_reason, .int v_acts, .ref o_reached, .ref o_queue, .ref o_got, .long v_waitUp, .long v_waitLow, .ref o_wins, .ref o_image, .ref o_isKept])), (o_now, .inl (cI, 21, .inl v_now)), (o_moults, .inl (cI, 6, .inl v_moults)), (o_words, .inl (cI, 10, .inl v_words))]) sz) (qRi R) 0 0 (fun _ => False) := by
  refine q_met_r (cc := cX12_heard) (own := RX12) (maxL := 6) (ret := (some .int)) (lv0 := [(0, .ref o), (1, .int p1), (2, .int p2), (3, .int p3)]) (by decide) rfl rfl rfl (Nat.le_of_ble_eq_true rfl) ?_
  intro p e s m args below meth c C hr A A' Q hA0 hQ
  have lk0 : Cond.fieldLink RX12 13 "SealStraitModel" "now" "[I" ∈ wsX12_heard := by decide +kernel
  have lk1 : ∀ w ∈ u_ws RX12 TX12 22, w ∈ wsX12_heard := fun w h => List.mem_cons_of_mem _ (List.mem_append_right _ h)
  have lk2 : Cond.fieldLink RX12 16 "SealStraitModel" "moults" "[I" ∈ wsX12_heard := by decide +kernel
  have lk3 : Cond.fieldLink RX12 19 "SealStraitModel" "words" "[I" ∈ wsX12_heard := by decide +kernel
  unfold f_Model_heard at hF
  refine q_iload_n C dX12_heard_0 2 rfl rfl ?_
  refine q_bipush (v := (10 : Int32)) C dX12_heard_1 (by decide) ?_
  refine q_irem C dX12_heard_3 (by decide) ?_
  refine q_istore C ([(4, .int (p2 - p2 / (10 : Int32) * (10 : Int32))), (0, .ref o), (1, .int p1), (2, .int p2), (3, .int p3)]) dX12_heard_4 (by decide) rfl ?_
  refine q_aload_n C dX12_heard_6 1 rfl rfl ?_
  refine q_get (C0 := RX12) (T := TX12) (N := 22) (k0 := 1) C lk1 0 rfl rfl (by decide) lk0 rfl (v := .ref o_now) rfl dX12_heard_7 ?_
  refine q_bipush (v := (20 : Int32)) C dX12_heard_10 (by decide) ?_
  refine q_iald C 1 0 rfl rfl (ix_in (by decide)) dX12_heard_12 ?_
  refine q_bipush (v := (12 : Int32)) C dX12_heard_13 (by decide) ?_
  refine q_irem C dX12_heard_15 (by decide) ?_
  refine q_aload_n C dX12_heard_16 1 rfl rfl ?_
  refine q_get (C0 := RX12) (T := TX12) (N := 22) (k0 := 2) C lk1 0 rfl rfl (by decide) lk2 rfl (v := .ref o_moults) rfl dX12_heard_17 ?_
  refine q_iload_n C dX12_heard_20 2 rfl rfl ?_
  obtain ⟨hc1, hF⟩ := ite_c hF
  refine q_iald C 2 0 rfl rfl (ix_in hc1) dX12_heard_21 ?_
  refine q_icmp_eq (tgt := 49) C dX12_heard_22 (by decide) (fun c2 => ?_) (fun c2 => ?_)
  · have hF := ite_t hF c2
    refine q_iconst (v := (0 : Int32)) C dX12_heard_49 (by decide) ?_
    refine q_istore C ([(5, .int (0 : Int32)), (4, .int (p2 - p2 / (10 : Int32) * (10 : Int32))), (0, .ref o), (1, .int p1), (2, .int p2), (3, .int p3)]) dX12_heard_50 (by decide) rfl ?_
    refine q_iload C dX12_heard_52 0 rfl ?_
    refine q_if_eq (tgt := 80) C dX12_heard_54 (by decide) (fun c3 => ?_) (fun c3 => ?_)
    · have hF := ite_t hF c3
      refine q_iload C dX12_heard_80 1 rfl ?_
      refine q_bipush (v := (9 : Int32)) C dX12_heard_82 (by decide) ?_
      refine q_icmp_ge (tgt := 93) C dX12_heard_84 (by decide) (fun c4 => ?_) (fun c4 => ?_)
      · have hF := ite_t hF c4
        refine q_iload_n C dX12_heard_93 4 rfl rfl ?_
        cases hF
        exact q_ireti C hA0 hr dX12_heard_94 hQ
      · have hF := ite_f hF c4
        refine q_iload_n C dX12_heard_87 4 rfl rfl ?_
        refine q_iconst (v := (1 : Int32)) C dX12_heard_88 (by decide) ?_
        refine q_iadd C dX12_heard_89 ?_
        refine q_goto (tgt := 94) C dX12_heard_90 (by decide) ?_
        cases hF
        exact q_ireti C hA0 hr dX12_heard_94 hQ
    · have hF := ite_f hF c3
      refine q_bipush (v := (10 : Int32)) C dX12_heard_57 (by decide) ?_
      refine q_iload_n C dX12_heard_59 4 rfl rfl ?_
      refine q_bipush (v := (10 : Int32)) C dX12_heard_60 (by decide) ?_
      refine q_idiv C dX12_heard_62 (by decide) ?_
      refine q_bipush (v := (10 : Int32)) C dX12_heard_63 (by decide) ?_
      refine q_imul C dX12_heard_65 ?_
      refine q_isub C dX12_heard_66 ?_
      refine q_iload C dX12_heard_67 1 rfl ?_
      refine q_iadd C dX12_heard_69 ?_
      refine q_aload_n C dX12_heard_70 2 rfl rfl ?_
      refine q_get (C0 := RX12) (T := TX12) (N := 22) (k0 := 3) C lk1 0 rfl rfl (by decide) lk3 rfl (v := .ref o_words) rfl dX12_heard_71 ?_
      refine q_iload_n C dX12_heard_74 5 rfl rfl ?_
      obtain ⟨hc5, hF⟩ := ite_c hF
      refine q_iald C 3 0 rfl rfl (ix_in hc5) dX12_heard_75 ?_
      refine q_isub C dX12_heard_76 ?_
      refine q_goto (tgt := 94) C dX12_heard_77 (by decide) ?_
      cases hF
      exact q_ireti C hA0 hr dX12_heard_94 hQ
  · have hF := ite_f hF c2
    refine q_aload_n C dX12_heard_25 1 rfl rfl ?_
    refine q_get (C0 := RX12) (T := TX12) (N := 22) (k0 := 1) C lk1 0 rfl rfl (by decide) lk0 rfl (v := .ref o_now) rfl dX12_heard_26 ?_
    refine q_iload_n C dX12_heard_29 2 rfl rfl ?_
    obtain ⟨hc6, hF⟩ := ite_c hF
    refine q_iald C 1 0 rfl rfl (ix_in hc6) dX12_heard_30 ?_
    refine q_if_le (tgt := 49) C dX12_heard_31 (by decide) (fun c7 => ?_) (fun c7 => ?_)
    · have hF := ite_t hF c7
      refine q_iconst (v := (0 : Int32)) C dX12_heard_49 (by decide) ?_
      refine q_istore C ([(5, .int (0 : Int32)), (4, .int (p2 - p2 / (10 : Int32) * (10 : Int32))), (0, .ref o), (1, .int p1), (2, .int p2), (3, .int p3)]) dX12_heard_50 (by decide) rfl ?_
      refine q_iload C dX12_heard_52 0 rfl ?_
      refine q_if_eq (tgt := 80) C dX12_heard_54 (by decide) (fun c8 => ?_) (fun c8 => ?_)
      · have hF := ite_t hF c8
        refine q_iload C dX12_heard_80 1 rfl ?_
        refine q_bipush (v := (9 : Int32)) C dX12_heard_82 (by decide) ?_
        refine q_icmp_ge (tgt := 93) C dX12_heard_84 (by decide) (fun c9 => ?_) (fun c9 => ?_)
        · have hF := ite_t hF c9
          refine q_iload_n C dX12_heard_93 4 rfl rfl ?_
          cases hF
          exact q_ireti C hA0 hr dX12_heard_94 hQ
        · have hF := ite_f hF c9
          refine q_iload_n C dX12_heard_87 4 rfl rfl ?_
          refine q_iconst (v := (1 : Int32)) C dX12_heard_88 (by decide) ?_
          refine q_iadd C dX12_heard_89 ?_
          refine q_goto (tgt := 94) C dX12_heard_90 (by decide) ?_
          cases hF
          exact q_ireti C hA0 hr dX12_heard_94 hQ
      · have hF := ite_f hF c8
        refine q_bipush (v := (10 : Int32)) C dX12_heard_57 (by decide) ?_
        refine q_iload_n C dX12_heard_59 4 rfl rfl ?_
        refine q_bipush (v := (10 : Int32)) C dX12_heard_60 (by decide) ?_
        refine q_idiv C dX12_heard_62 (by decide) ?_
        refine q_bipush (v := (10 : Int32)) C dX12_heard_63 (by decide) ?_
        refine q_imul C dX12_heard_65 ?_
        refine q_isub C dX12_heard_66 ?_
        refine q_iload C dX12_heard_67 1 rfl ?_
        refine q_iadd C dX12_heard_69 ?_
        refine q_aload_n C dX12_heard_70 2 rfl rfl ?_
        refine q_get (C0 := RX12) (T := TX12) (N := 22) (k0 := 3) C lk1 0 rfl rfl (by decide) lk3 rfl (v := .ref o_words) rfl dX12_heard_71 ?_
        refine q_iload_n C dX12_heard_74 5 rfl rfl ?_
        obtain ⟨hc10, hF⟩ := ite_c hF
        refine q_iald C 3 0 rfl rfl (ix_in hc10) dX12_heard_75 ?_
        refine q_isub C dX12_heard_76 ?_
        refine q_goto (tgt := 94) C dX12_heard_77 (by decide) ?_
        cases hF
        exact q_ireti C hA0 hr dX12_heard_94 hQ
    · have hF := ite_f hF c7
      refine q_iload C dX12_heard_34 0 rfl ?_
      refine q_aload_n C dX12_heard_36 1 rfl rfl ?_
      refine q_get (C0 := RX12) (T := TX12) (N := 22) (k0 := 3) C lk1 0 rfl rfl (by decide) lk3 rfl (v := .ref o_words) rfl dX12_heard_37 ?_
      refine q_iload_n C dX12_heard_40 4 rfl rfl ?_
      obtain ⟨hc11, hF⟩ := ite_c hF
      refine q_iald C 3 0 rfl rfl (ix_in hc11) dX12_heard_41 ?_
      refine q_icmp_lt (tgt := 49) C dX12_heard_42 (by decide) (fun c12 => ?_) (fun c12 => ?_)
      · have hF := ite_t hF c12
        refine q_iconst (v := (0 : Int32)) C dX12_heard_49 (by decide) ?_
        refine q_istore C ([(5, .int (0 : Int32)), (4, .int (p2 - p2 / (10 : Int32) * (10 : Int32))), (0, .ref o), (1, .int p1), (2, .int p2), (3, .int p3)]) dX12_heard_50 (by decide) rfl ?_
        refine q_iload C dX12_heard_52 0 rfl ?_
        refine q_if_eq (tgt := 80) C dX12_heard_54 (by decide) (fun c13 => ?_) (fun c13 => ?_)
        · have hF := ite_t hF c13
          refine q_iload C dX12_heard_80 1 rfl ?_
          refine q_bipush (v := (9 : Int32)) C dX12_heard_82 (by decide) ?_
          refine q_icmp_ge (tgt := 93) C dX12_heard_84 (by decide) (fun c14 => ?_) (fun c14 => ?_)
          · have hF := ite_t hF c14
            refine q_iload_n C dX12_heard_93 4 rfl rfl ?_
            cases hF
            exact q_ireti C hA0 hr dX12_heard_94 hQ
          · have hF := ite_f hF c14
            refine q_iload_n C dX12_heard_87 4 rfl rfl ?_
            refine q_iconst (v := (1 : Int32)) C dX12_heard_88 (by decide) ?_
            refine q_iadd C dX12_heard_89 ?_
            refine q_goto (tgt := 94) C dX12_heard_90 (by decide) ?_
            cases hF
            exact q_ireti C hA0 hr dX12_heard_94 hQ
        · have hF := ite_f hF c13
          refine q_bipush (v := (10 : Int32)) C dX12_heard_57 (by decide) ?_
          refine q_iload_n C dX12_heard_59 4 rfl rfl ?_
          refine q_bipush (v := (10 : Int32)) C dX12_heard_60 (by decide) ?_
          refine q_idiv C dX12_heard_62 (by decide) ?_
          refine q_bipush (v := (10 : Int32)) C dX12_heard_63 (by decide) ?_
          refine q_imul C dX12_heard_65 ?_
          refine q_isub C dX12_heard_66 ?_
          refine q_iload C dX12_heard_67 1 rfl ?_
          refine q_iadd C dX12_heard_69 ?_
          refine q_aload_n C dX12_heard_70 2 rfl rfl ?_
          refine q_get (C0 := RX12) (T := TX12) (N := 22) (k0 := 3) C lk1 0 rfl rfl (by decide) lk3 rfl (v := .ref o_words) rfl dX12_heard_71 ?_
          refine q_iload_n C dX12_heard_74 5 rfl rfl ?_
          obtain ⟨hc15, hF⟩ := ite_c hF
          refine q_iald C 3 0 rfl rfl (ix_in hc15) dX12_heard_75 ?_
          refine q_isub C dX12_heard_76 ?_
          refine q_goto (tgt := 94) C dX12_heard_77 (by decide) ?_
          cases hF
          exact q_ireti C hA0 hr dX12_heard_94 hQ
      · have hF := ite_f hF c12
        refine q_iconst (v := (1 : Int32)) C dX12_heard_45 (by decide) ?_
        refine q_goto (tgt := 50) C dX12_heard_46 (by decide) ?_
        refine q_istore C ([(5, .int (1 : Int32)), (4, .int (p2 - p2 / (10 : Int32) * (10 : Int32))), (0, .ref o), (1, .int p1), (2, .int p2), (3, .int p3)]) dX12_heard_50 (by decide) rfl ?_
        refine q_iload C dX12_heard_52 0 rfl ?_
        refine q_if_eq (tgt := 80) C dX12_heard_54 (by decide) (fun c16 => ?_) (fun c16 => ?_)
        · have hF := ite_t hF c16
          refine q_iload C dX12_heard_80 1 rfl ?_
          refine q_bipush (v := (9 : Int32)) C dX12_heard_82 (by decide) ?_
          refine q_icmp_ge (tgt := 93) C dX12_heard_84 (by decide) (fun c17 => ?_) (fun c17 => ?_)
          · have hF := ite_t hF c17
            refine q_iload_n C dX12_heard_93 4 rfl rfl ?_
            cases hF
            exact q_ireti C hA0 hr dX12_heard_94 hQ
          · have hF := ite_f hF c17
            refine q_iload_n C dX12_heard_87 4 rfl rfl ?_
            refine q_iconst (v := (1 : Int32)) C dX12_heard_88 (by decide) ?_
            refine q_iadd C dX12_heard_89 ?_
            refine q_goto (tgt := 94) C dX12_heard_90 (by decide) ?_
            cases hF
            exact q_ireti C hA0 hr dX12_heard_94 hQ
        · have hF := ite_f hF c16
          refine q_bipush (v := (10 : Int32)) C dX12_heard_57 (by decide) ?_
          refine q_iload_n C dX12_heard_59 4 rfl rfl ?_
          refine q_bipush (v := (10 : Int32)) C dX12_heard_60 (by decide) ?_
          refine q_idiv C dX12_heard_62 (by decide) ?_
          refine q_bipush (v := (10 : Int32)) C dX12_heard_63 (by decide) ?_
          refine q_imul C dX12_heard_65 ?_
          refine q_isub C dX12_heard_66 ?_
          refine q_iload C dX12_heard_67 1 rfl ?_
          refine q_iadd C dX12_heard_69 ?_
          refine q_aload_n C dX12_heard_70 2 rfl rfl ?_
          refine q_get (C0 := RX12) (T := TX12) (N := 22) (k0 := 3) C lk1 0 rfl rfl (by decide) lk3 rfl (v := .ref o_words) rfl dX12_heard_71 ?_
          refine q_iload_n C dX12_heard_74 5 rfl rfl ?_
          obtain ⟨hc18, hF⟩ := ite_c hF
          refine q_iald C 3 0 rfl rfl (ix_in hc18) dX12_heard_75 ?_
          refine q_isub C dX12_heard_76 ?_
          refine q_goto (tgt := 94) C dX12_heard_77 (by decide) ?_
          cases hF
          exact q_ireti C hA0 hr dX12_heard_94 hQ
set_option maxRecDepth 100000 in
set_option maxHeartbeats 4000000 in
theorem c_X12_bring (l : Launch) (dC : Nat → ClassId) (dI : Nat → Nat → Nat) (cI cZ cQ : ClassId) (o o_book o_now o_moults o_words o_reached o_queue o_clashes o_rocks o_count o_pad o_got o_wins o_image o_isKept : Nat) (v_book : Nat → Int32) (v_now : Nat → Int32) (v_moults : Nat → Int32) (v_words : Nat → Int32) (v_readMany : Int32) (v_signedAll : Int32) (v_reached : Nat → Int32) (v_queue : Nat → Int32) (v_counts : Int32) (v_signs : Int32) (v_reason : Int32) (v_acts : Int32) (v_waitUp : Int64) (v_waitLow : Int64) (p1 : Int32) (p2 : Int32) (p3 : Int32) (p4 : Int32) (p5 : Int32) (R : Int32) (w_now : Nat → Int32) (w_readMany : Int32) (w_signedAll : Int32) (w_reached : Nat → Int32) (w_queue : Nat → Int32) (hF : f_Model_bring v_book v_now v_moults v_words v_readMany v_signedAll v_reached v_queue p1 p2 p3 p4 p5 = some (R, w_now, w_readMany, w_signedAll, w_reached, w_queue)) (sz : Nat) : Met l yX12_bring wsX12_bring ({ frames := 2, cells := 0, slots := 0, locals := 43 } : Room) (qPc ([.ref o, .int p1, .int p2, .int p3, .int p4, .int p5]) (dC, dI) (qT cI cZ cQ) ([(o, .inr (12, [.ref o_book, .ref o_now, .ref o_moults, .ref o_words, .ref o_clashes, .ref o_rocks, .int v_counts, .ref o_count, .int v_signs, .ref o_pad, .int v_readMany, .int v_signedAll, .int v_reason, .int v_acts, .ref o_reached, .ref o_queue, .ref o_got, .long v_waitUp, .long v_waitLow, .ref o_wins, .ref o_image, .ref o_isKept])), (o_book, .inl (cI, 21, .inl v_book)), (o_now, .inl (cI, 21, .inl v_now)), (o_moults, .inl (cI, 6, .inl v_moults)), (o_words, .inl (cI, 10, .inl v_words)), (o_reached, .inl (cI, 400, .inl v_reached)), (o_queue, .inl (cI, 400, .inl v_queue))]) sz) (qWi R (dC, dI) ([(o, .inr (12, [.ref o_book, .ref o_now, .ref o_moults, .ref o_words, .ref o_clashes, .ref o_rocks, .int v_counts, .ref o_count, .int v_signs, .ref o_pad, .int w_readMany, .int w_signedAll, .int v_reason, .int v_acts, .ref o_reached, .ref o_queue, .ref o_got, .long v_waitUp, .long v_waitLow, .ref o_wins, .ref o_image, .ref o_isKept])), (o_book, .inl (cI, 21, .inl v_book)), (o_now, .inl (cI, 21, .inl w_now)), (o_moults, .inl (cI, 6, .inl v_moults)), (o_words, .inl (cI, 10, .inl v_words)), (o_reached, .inl (cI, 400, .inl w_reached)), (o_queue, .inl (cI, 400, .inl w_queue))]) (va_A ([(o, .inr (12, [.ref o_book, .ref o_now, .ref o_moults, .ref o_words, .ref o_clashes, .ref o_rocks, .int v_counts, .ref o_count, .int v_signs, .ref o_pad, .int v_readMany, .int v_signedAll, .int v_reason, .int v_acts, .ref o_reached, .ref o_queue, .ref o_got, .long v_waitUp, .long v_waitLow, .ref o_wins, .ref o_image, .ref o_isKept])), (o_book, .inl (cI, 21, .inl v_book)), (o_now, .inl (cI, 21, .inl v_now)), (o_moults, .inl (cI, 6, .inl v_moults)), (o_words, .inl (cI, 10, .inl v_words)), (o_reached, .inl (cI, 400, .inl v_reached)), (o_queue, .inl (cI, 400, .inl v_queue))]) sz)) 0 0 (va_A ([(o, .inr (12, [.ref o_book, .ref o_now, .ref o_moults, .ref o_words, .ref o_clashes, .ref o_rocks, .int v_counts, .ref o_count, .int v_signs, .ref o_pad, .int v_readMany, .int v_signedAll, .int v_reason, .int v_acts, .ref o_reached, .ref o_queue, .ref o_got, .long v_waitUp, .long v_waitLow, .ref o_wins, .ref o_image, .ref o_isKept])), (o_book, .inl (cI, 21, .inl v_book)), (o_now, .inl (cI, 21, .inl v_now)), (o_moults, .inl (cI, 6, .inl v_moults)), (o_words, .inl (cI, 10, .inl v_words)), (o_reached, .inl (cI, 400, .inl v_reached)), (o_queue, .inl (cI, 400, .inl v_queue))]) sz) := by
  refine q_met_w (Qc := fun A => qWi R (dC, dI) ([(o, .inr (12, [.ref o_book, .ref o_now, .ref o_moults, .ref o_words, .ref o_clashes, .ref o_rocks, .int v_counts, .ref o_count, .int v_signs, .ref o_pad, .int w_readMany, .int w_signedAll, .int v_reason, .int v_acts, .ref o_reached, .ref o_queue, .ref o_got, .long v_waitUp, .long v_waitLow, .ref o_wins, .ref o_image, .ref o_isKept])), (o_book, .inl (cI, 21, .inl v_book)), (o_now, .inl (cI, 21, .inl w_now)), (o_moults, .inl (cI, 6, .inl v_moults)), (o_words, .inl (cI, 10, .inl v_words)), (o_reached, .inl (cI, 400, .inl w_reached)), (o_queue, .inl (cI, 400, .inl w_queue))]) A) (cc := cX12_bring) (own := RX12) (maxL := 13) (ret := (some .int)) (lv0 := [(0, .ref o), (1, .int p1), (2, .int p2), (3, .int p3), (4, .int p4), (5, .int p5)]) (by decide) rfl rfl rfl (Nat.le_of_ble_eq_true rfl) ?_
  intro p e s m args below meth c A hA C hr hnm Q hQ
  have lk0 : Cond.fieldLink RX12 34 "SealStraitModel" "reached" "[I" ∈ wsX12_bring := by decide +kernel
  have lk1 : ∀ w ∈ u_ws RX12 TX12 22, w ∈ wsX12_bring := fun w h => List.mem_cons_of_mem _ (List.mem_append_right _ h)
  have lk2 : Cond.fieldLink RX12 13 "SealStraitModel" "now" "[I" ∈ wsX12_bring := by decide +kernel
  have lk3 : Cond.fieldLink RX12 37 "SealStraitModel" "queue" "[I" ∈ wsX12_bring := by decide +kernel
  have L1 : ∀ (n : Nat) (x1 : Int32) (x2 : Int32) (x3 : Int32) (x4 : Int32) (x5 : Int32) (x6 : Int32) (v_now : Nat → Int32) (v_readMany : Int32) (v_signedAll : Int32) (v_reached : Nat → Int32) (v_queue : Nat → Int32) (z_reached : Nat → Int32), evr (fun s => b_Model_bring_1 s.1 s.2) n (x6, v_reached) = some z_reached → qG p l e ({ frames := 2, cells := 0, slots := 0, locals := 43 } : Room) s m args below meth c 13 (dC, dI) A A Q 0 0 ([(0, .ref o), (1, .int x1), (2, .int x2), (3, .int x3), (4, .int x4), (5, .int x5)]) [] ([(o, .inr (12, [.ref o_book, .ref o_now, .ref o_moults, .ref o_words, .ref o_clashes, .ref o_rocks, .int v_counts, .ref o_count, .int v_signs, .ref o_pad, .int v_readMany, .int v_signedAll, .int v_reason, .int v_acts, .ref o_reached, .ref o_queue, .ref o_got, .long v_waitUp, .long v_waitLow, .ref o_wins, .ref o_image, .ref o_isKept])), (o_book, .inl (cI, 21, .inl v_book)), (o_now, .inl (cI, 21, .inl v_now)), (o_moults, .inl (cI, 6, .inl v_moults)), (o_words, .inl (cI, 10, .inl v_words)), (o_reached, .inl (cI, 400, .inl z_reached)), (o_queue, .inl (cI, 400, .inl v_queue))]) 84 → qG p l e ({ frames := 2, cells := 0, slots := 0, locals := 43 } : Room) s m args below meth c 13 (dC, dI) A A Q 0 0 ([(0, .ref o), (1, .int x1), (2, .int x2), (3, .int x3), (4, .int x4), (5, .int x5), (6, .int x6)]) [] ([(o, .inr (12, [.ref o_book, .ref o_now, .ref o_moults, .ref o_words, .ref o_clashes, .ref o_rocks, .int v_counts, .ref o_count, .int v_signs, .ref o_pad, .int v_readMany, .int v_signedAll, .int v_reason, .int v_acts, .ref o_reached, .ref o_queue, .ref o_got, .long v_waitUp, .long v_waitLow, .ref o_wins, .ref o_image, .ref o_isKept])), (o_book, .inl (cI, 21, .inl v_book)), (o_now, .inl (cI, 21, .inl v_now)), (o_moults, .inl (cI, 6, .inl v_moults)), (o_words, .inl (cI, 10, .inl v_words)), (o_reached, .inl (cI, 400, .inl v_reached)), (o_queue, .inl (cI, 400, .inl v_queue))]) 62 := by
    clear hF
    intro n
    induction n with
    | zero => intro x1 x2 x3 x4 x5 x6 v_now v_readMany v_signedAll v_reached v_queue z_reached hF; exact (evr_0 hF).elim
    | succ n ih =>
      intro x1 x2 x3 x4 x5 x6 v_now v_readMany v_signedAll v_reached v_queue z_reached hF hk
      obtain ⟨o9, hB, hn, hx⟩ := evr_c hF
      have hF : b_Model_bring_1  x6 v_reached = some o9 := hB
      unfold b_Model_bring_1 at hF
      refine q_iload C dX12_bring_62 6 rfl ?_
      refine q_sipush (v := (400 : Int32)) C dX12_bring_64 (by decide) ?_
      refine q_icmp_ge (tgt := 84) C dX12_bring_67 (by decide) (fun c1 => ?_) (fun c1 => ?_)
      · have hF := ite_t hF c1
        cases hF
        have e2 := hx _ rfl
        cases e2
        refine q_lsel [0, 1, 2, 3, 4, 5] rfl ?_
        exact hk
      · have hF := ite_f hF c1
        refine q_aload_n C dX12_bring_70 0 rfl rfl ?_
        refine q_get (C0 := RX12) (T := TX12) (N := 22) (k0 := 14) C lk1 0 rfl rfl (by decide) lk0 rfl (v := .ref o_reached) rfl dX12_bring_71 ?_
        refine q_iload C dX12_bring_74 6 rfl ?_
        refine q_iconst (v := (-1 : Int32)) C dX12_bring_76 (by decide) ?_
        obtain ⟨hc3, hF⟩ := ite_c hF
        refine q_iast C 5 0 rfl rfl (ix_in hc3) ([(o, .inr (12, [.ref o_book, .ref o_now, .ref o_moults, .ref o_words, .ref o_clashes, .ref o_rocks, .int v_counts, .ref o_count, .int v_signs, .ref o_pad, .int v_readMany, .int v_signedAll, .int v_reason, .int v_acts, .ref o_reached, .ref o_queue, .ref o_got, .long v_waitUp, .long v_waitLow, .ref o_wins, .ref o_image, .ref o_isKept])), (o_book, .inl (cI, 21, .inl v_book)), (o_now, .inl (cI, 21, .inl v_now)), (o_moults, .inl (cI, 6, .inl v_moults)), (o_words, .inl (cI, 10, .inl v_words)), (o_reached, .inl (cI, 400, .inl (upd v_reached (x6).toNatClampNeg (-1 : Int32)))), (o_queue, .inl (cI, 400, .inl v_queue))]) rfl dX12_bring_77 ?_
        refine q_iinc (v := (x6 + 1)) C ([(6, .int (x6 + 1)), (0, .ref o), (1, .int x1), (2, .int x2), (3, .int x3), (4, .int x4), (5, .int x5)]) dX12_bring_78 6 rfl rfl (by decide) rfl ?_
        refine q_goto (tgt := 62) C dX12_bring_81 (by decide) ?_
        cases hF
        refine q_lsel [1, 2, 3, 4, 5, 6, 0] rfl ?_
        exact ih x1 x2 x3 x4 x5 (x6 + 1) v_now v_readMany v_signedAll (upd v_reached (x6).toNatClampNeg (-1 : Int32)) v_queue z_reached (hn _ rfl) hk
  have L3 : ∀ (n : Nat) (x1 : Int32) (x2 : Int32) (x3 : Int32) (x4 : Int32) (x5 : Int32) (x7 : Int32) (x8 : Int32) (x9 : Int32) (x10 : Int32) (x11 : Int32) (v_now : Nat → Int32) (v_readMany : Int32) (v_signedAll : Int32) (v_reached : Nat → Int32) (v_queue : Nat → Int32) (y7 : Int32) (z_reached : Nat → Int32) (z_queue : Nat → Int32), evr (fun s => b_Model_bring_3 x1 x3 x9 x10 v_now v_moults v_words s.1 s.2.1 s.2.2.1 s.2.2.2) n (x7, x11, v_reached, v_queue) = some (y7, z_reached, z_queue) → qG p l e ({ frames := 2, cells := 0, slots := 0, locals := 43 } : Room) s m args below meth c 13 (dC, dI) A A Q 0 0 ([(0, .ref o), (1, .int x1), (2, .int x2), (3, .int x3), (4, .int x4), (5, .int x5), (7, .int y7), (8, .int x8)]) [] ([(o, .inr (12, [.ref o_book, .ref o_now, .ref o_moults, .ref o_words, .ref o_clashes, .ref o_rocks, .int v_counts, .ref o_count, .int v_signs, .ref o_pad, .int v_readMany, .int v_signedAll, .int v_reason, .int v_acts, .ref o_reached, .ref o_queue, .ref o_got, .long v_waitUp, .long v_waitLow, .ref o_wins, .ref o_image, .ref o_isKept])), (o_book, .inl (cI, 21, .inl v_book)), (o_now, .inl (cI, 21, .inl v_now)), (o_moults, .inl (cI, 6, .inl v_moults)), (o_words, .inl (cI, 10, .inl v_words)), (o_reached, .inl (cI, 400, .inl z_reached)), (o_queue, .inl (cI, 400, .inl z_queue))]) 338 → qG p l e ({ frames := 2, cells := 0, slots := 0, locals := 43 } : Room) s m args below meth c 13 (dC, dI) A A Q 0 0 ([(0, .ref o), (1, .int x1), (2, .int x2), (3, .int x3), (4, .int x4), (5, .int x5), (7, .int x7), (8, .int x8), (9, .int x9), (10, .int x10), (11, .int x11)]) [] ([(o, .inr (12, [.ref o_book, .ref o_now, .ref o_moults, .ref o_words, .ref o_clashes, .ref o_rocks, .int v_counts, .ref o_count, .int v_signs, .ref o_pad, .int v_readMany, .int v_signedAll, .int v_reason, .int v_acts, .ref o_reached, .ref o_queue, .ref o_got, .long v_waitUp, .long v_waitLow, .ref o_wins, .ref o_image, .ref o_isKept])), (o_book, .inl (cI, 21, .inl v_book)), (o_now, .inl (cI, 21, .inl v_now)), (o_moults, .inl (cI, 6, .inl v_moults)), (o_words, .inl (cI, 10, .inl v_words)), (o_reached, .inl (cI, 400, .inl v_reached)), (o_queue, .inl (cI, 400, .inl v_queue))]) 238 := by
    clear hF
    intro n
    induction n with
    | zero => intro x1 x2 x3 x4 x5 x7 x8 x9 x10 x11 v_now v_readMany v_signedAll v_reached v_queue y7 z_reached z_queue hF; exact (evr_0 hF).elim
    | succ n ih =>
      intro x1 x2 x3 x4 x5 x7 x8 x9 x10 x11 v_now v_readMany v_signedAll v_reached v_queue y7 z_reached z_queue hF hk
      obtain ⟨o9, hB, hn, hx⟩ := evr_c hF
      have hF : b_Model_bring_3 x1 x3 x9 x10 v_now v_moults v_words x7 x11 v_reached v_queue = some o9 := hB
      unfold b_Model_bring_3 at hF
      refine q_iload C dX12_bring_238 10 rfl ?_
      refine q_bipush (v := (10 : Int32)) C dX12_bring_240 (by decide) ?_
      refine q_icmp_ge (tgt := 338) C dX12_bring_242 (by decide) (fun c4 => ?_) (fun c4 => ?_)
      · have hF := ite_t hF c4
        cases hF
        have e5 := hx _ rfl
        cases e5
        refine q_lsel [0, 1, 2, 3, 4, 5, 6, 7] rfl ?_
        exact hk
      · have hF := ite_f hF c4
        refine q_bipush (v := (20 : Int32)) C dX12_bring_245 (by decide) ?_
        refine q_aload_n C dX12_bring_247 0 rfl rfl ?_
        refine q_iload_n C dX12_bring_248 1 rfl rfl ?_
        refine q_iload C dX12_bring_249 8 rfl ?_
        refine q_bipush (v := (20 : Int32)) C dX12_bring_251 (by decide) ?_
        refine q_idiv C dX12_bring_253 (by decide) ?_
        refine q_iload C dX12_bring_254 10 rfl ?_
        obtain ⟨r6, hc7, hF⟩ := bind_c hF
        refine q_roi (q_runV (As := [.int x1, .int (x9 / (20 : Int32)), .int x11]) (rest := [.int (20 : Int32)]) C (fun sz => c_X12_heard l dC dI cI cZ cQ o o_now o_moults o_words o_book o_clashes o_rocks o_count o_pad o_reached o_queue o_got o_wins o_image o_isKept v_now v_moults v_words v_counts v_signs v_readMany v_signedAll v_reason v_acts v_waitUp v_waitLow x1 (x9 / (20 : Int32)) x11 r6 hc7 sz) (cwV 3 C.2.2.2.2.1 gX12_bring_X12_heard rfl rfl rfl (by decide +kernel) ⟨Nat.le_of_ble_eq_true rfl, Nat.le_of_ble_eq_true rfl⟩) 0 rfl rfl rfl [0, 2, 3, 4] rfl rfl rfl rfl (Nat.le_of_ble_eq_true rfl) dX12_bring_256 ⟨Nat.zero_le _, Nat.zero_le _⟩) ?_
        refine q_imul C dX12_bring_259 ?_
        refine q_aload_n C dX12_bring_260 0 rfl rfl ?_
        refine q_iload_n C dX12_bring_261 3 rfl rfl ?_
        refine q_iload C dX12_bring_262 8 rfl ?_
        refine q_bipush (v := (20 : Int32)) C dX12_bring_264 (by decide) ?_
        refine q_irem C dX12_bring_266 (by decide) ?_
        refine q_iload C dX12_bring_267 10 rfl ?_
        obtain ⟨r8, hc9, hF⟩ := bind_c hF
        refine q_roi (q_runV (As := [.int x3, .int (x9 - x9 / (20 : Int32) * (20 : Int32)), .int x11]) (rest := [.int ((20 : Int32) * r6)]) C (fun sz => c_X12_heard l dC dI cI cZ cQ o o_now o_moults o_words o_book o_clashes o_rocks o_count o_pad o_reached o_queue o_got o_wins o_image o_isKept v_now v_moults v_words v_counts v_signs v_readMany v_signedAll v_reason v_acts v_waitUp v_waitLow x3 (x9 - x9 / (20 : Int32) * (20 : Int32)) x11 r8 hc9 sz) (cwV 3 C.2.2.2.2.1 gX12_bring_X12_heard rfl rfl rfl (by decide +kernel) ⟨Nat.le_of_ble_eq_true rfl, Nat.le_of_ble_eq_true rfl⟩) 0 rfl rfl rfl [0, 2, 3, 4] rfl rfl rfl rfl (Nat.le_of_ble_eq_true rfl) dX12_bring_269 ⟨Nat.zero_le _, Nat.zero_le _⟩) ?_
        refine q_iadd C dX12_bring_272 ?_
        refine q_istore C ([(12, .int (((20 : Int32) * r6) + r8)), (0, .ref o), (1, .int x1), (2, .int x2), (3, .int x3), (4, .int x4), (5, .int x5), (7, .int x7), (8, .int x8), (9, .int x9), (10, .int x10), (11, .int x11)]) dX12_bring_273 (by decide) rfl ?_
        refine q_aload_n C dX12_bring_275 1 rfl rfl ?_
        refine q_get (C0 := RX12) (T := TX12) (N := 22) (k0 := 14) C lk1 0 rfl rfl (by decide) lk0 rfl (v := .ref o_reached) rfl dX12_bring_276 ?_
        refine q_iload C dX12_bring_279 0 rfl ?_
        obtain ⟨hc10, hF⟩ := ite_c hF
        refine q_iald C 5 0 rfl rfl (ix_in hc10) dX12_bring_281 ?_
        refine q_if_ge (tgt := 332) C dX12_bring_282 (by decide) (fun c11 => ?_) (fun c11 => ?_)
        · have hF := ite_t hF c11
          refine q_iinc (v := (x11 + 1)) C ([(11, .int (x11 + 1)), (12, .int (((20 : Int32) * r6) + r8)), (0, .ref o), (1, .int x1), (2, .int x2), (3, .int x3), (4, .int x4), (5, .int x5), (7, .int x7), (8, .int x8), (9, .int x9), (10, .int x10)]) dX12_bring_332 11 rfl rfl (by decide) rfl ?_
          refine q_goto (tgt := 238) C dX12_bring_335 (by decide) ?_
          cases hF
          refine q_lsel [2, 3, 4, 5, 6, 7, 8, 9, 10, 11, 0] rfl ?_
          exact ih x1 x2 x3 x4 x5 x7 x8 x9 x10 (x11 + 1) v_now v_readMany v_signedAll v_reached v_queue y7 z_reached z_queue (hn _ rfl) hk
        · have hF := ite_f hF c11
          refine q_aload_n C dX12_bring_285 1 rfl rfl ?_
          refine q_get (C0 := RX12) (T := TX12) (N := 22) (k0 := 14) C lk1 0 rfl rfl (by decide) lk0 rfl (v := .ref o_reached) rfl dX12_bring_286 ?_
          refine q_iload C dX12_bring_289 0 rfl ?_
          refine q_bipush (v := (10 : Int32)) C dX12_bring_291 (by decide) ?_
          refine q_iload C dX12_bring_293 10 rfl ?_
          refine q_bipush (v := (10 : Int32)) C dX12_bring_295 (by decide) ?_
          refine q_idiv C dX12_bring_297 (by decide) ?_
          refine q_iconst (v := (1 : Int32)) C dX12_bring_298 (by decide) ?_
          refine q_iadd C dX12_bring_299 ?_
          refine q_imul C dX12_bring_300 ?_
          refine q_iload C dX12_bring_301 10 rfl ?_
          refine q_bipush (v := (10 : Int32)) C dX12_bring_303 (by decide) ?_
          refine q_icmp_ge (tgt := 313) C dX12_bring_305 (by decide) (fun c12 => ?_) (fun c12 => ?_)
          · have hF := ite_t hF c12
            refine q_iload C dX12_bring_313 10 rfl ?_
            refine q_bipush (v := (10 : Int32)) C dX12_bring_315 (by decide) ?_
            refine q_irem C dX12_bring_317 (by decide) ?_
            refine q_iadd C dX12_bring_318 ?_
            obtain ⟨hc13, hF⟩ := ite_c hF
            refine q_iast C 5 0 rfl rfl (ix_in hc13) ([(o, .inr (12, [.ref o_book, .ref o_now, .ref o_moults, .ref o_words, .ref o_clashes, .ref o_rocks, .int v_counts, .ref o_count, .int v_signs, .ref o_pad, .int v_readMany, .int v_signedAll, .int v_reason, .int v_acts, .ref o_reached, .ref o_queue, .ref o_got, .long v_waitUp, .long v_waitLow, .ref o_wins, .ref o_image, .ref o_isKept])), (o_book, .inl (cI, 21, .inl v_book)), (o_now, .inl (cI, 21, .inl v_now)), (o_moults, .inl (cI, 6, .inl v_moults)), (o_words, .inl (cI, 10, .inl v_words)), (o_reached, .inl (cI, 400, .inl (upd v_reached ((((20 : Int32) * r6) + r8)).toNatClampNeg (((10 : Int32) * ((x10 / (10 : Int32)) + (1 : Int32))) + (x10 - x10 / (10 : Int32) * (10 : Int32)))))), (o_queue, .inl (cI, 400, .inl v_queue))]) rfl dX12_bring_319 ?_
            refine q_aload_n C dX12_bring_320 1 rfl rfl ?_
            refine q_get (C0 := RX12) (T := TX12) (N := 22) (k0 := 15) C lk1 0 rfl rfl (by decide) lk3 rfl (v := .ref o_queue) rfl dX12_bring_321 ?_
            refine q_iload C dX12_bring_324 7 rfl ?_
            refine q_iload C dX12_bring_326 0 rfl ?_
            obtain ⟨hc14, hF⟩ := ite_c hF
            refine q_iast C 6 0 rfl rfl (ix_in hc14) ([(o, .inr (12, [.ref o_book, .ref o_now, .ref o_moults, .ref o_words, .ref o_clashes, .ref o_rocks, .int v_counts, .ref o_count, .int v_signs, .ref o_pad, .int v_readMany, .int v_signedAll, .int v_reason, .int v_acts, .ref o_reached, .ref o_queue, .ref o_got, .long v_waitUp, .long v_waitLow, .ref o_wins, .ref o_image, .ref o_isKept])), (o_book, .inl (cI, 21, .inl v_book)), (o_now, .inl (cI, 21, .inl v_now)), (o_moults, .inl (cI, 6, .inl v_moults)), (o_words, .inl (cI, 10, .inl v_words)), (o_reached, .inl (cI, 400, .inl (upd v_reached ((((20 : Int32) * r6) + r8)).toNatClampNeg (((10 : Int32) * ((x10 / (10 : Int32)) + (1 : Int32))) + (x10 - x10 / (10 : Int32) * (10 : Int32)))))), (o_queue, .inl (cI, 400, .inl (upd v_queue (x7).toNatClampNeg (((20 : Int32) * r6) + r8))))]) rfl dX12_bring_328 ?_
            refine q_iinc (v := (x7 + 1)) C ([(7, .int (x7 + 1)), (12, .int (((20 : Int32) * r6) + r8)), (0, .ref o), (1, .int x1), (2, .int x2), (3, .int x3), (4, .int x4), (5, .int x5), (8, .int x8), (9, .int x9), (10, .int x10), (11, .int x11)]) dX12_bring_329 7 rfl rfl (by decide) rfl ?_
            refine q_iinc (v := (x11 + 1)) C ([(11, .int (x11 + 1)), (7, .int (x7 + 1)), (12, .int (((20 : Int32) * r6) + r8)), (0, .ref o), (1, .int x1), (2, .int x2), (3, .int x3), (4, .int x4), (5, .int x5), (8, .int x8), (9, .int x9), (10, .int x10)]) dX12_bring_332 11 rfl rfl (by decide) rfl ?_
            refine q_goto (tgt := 238) C dX12_bring_335 (by decide) ?_
            cases hF
            refine q_lsel [3, 4, 5, 6, 7, 8, 1, 9, 10, 11, 0] rfl ?_
            exact ih x1 x2 x3 x4 x5 (x7 + 1) x8 x9 x10 (x11 + 1) v_now v_readMany v_signedAll (upd v_reached ((((20 : Int32) * r6) + r8)).toNatClampNeg (((10 : Int32) * ((x10 / (10 : Int32)) + (1 : Int32))) + (x10 - x10 / (10 : Int32) * (10 : Int32)))) (upd v_queue (x7).toNatClampNeg (((20 : Int32) * r6) + r8)) y7 z_reached z_queue (hn _ rfl) hk
          · have hF := ite_f hF c12
            refine q_iload C dX12_bring_308 11 rfl ?_
            refine q_goto (tgt := 318) C dX12_bring_310 (by decide) ?_
            refine q_iadd C dX12_bring_318 ?_
            obtain ⟨hc15, hF⟩ := ite_c hF
            refine q_iast C 5 0 rfl rfl (ix_in hc15) ([(o, .inr (12, [.ref o_book, .ref o_now, .ref o_moults, .ref o_words, .ref o_clashes, .ref o_rocks, .int v_counts, .ref o_count, .int v_signs, .ref o_pad, .int v_readMany, .int v_signedAll, .int v_reason, .int v_acts, .ref o_reached, .ref o_queue, .ref o_got, .long v_waitUp, .long v_waitLow, .ref o_wins, .ref o_image, .ref o_isKept])), (o_book, .inl (cI, 21, .inl v_book)), (o_now, .inl (cI, 21, .inl v_now)), (o_moults, .inl (cI, 6, .inl v_moults)), (o_words, .inl (cI, 10, .inl v_words)), (o_reached, .inl (cI, 400, .inl (upd v_reached ((((20 : Int32) * r6) + r8)).toNatClampNeg (((10 : Int32) * ((x10 / (10 : Int32)) + (1 : Int32))) + x11)))), (o_queue, .inl (cI, 400, .inl v_queue))]) rfl dX12_bring_319 ?_
            refine q_aload_n C dX12_bring_320 1 rfl rfl ?_
            refine q_get (C0 := RX12) (T := TX12) (N := 22) (k0 := 15) C lk1 0 rfl rfl (by decide) lk3 rfl (v := .ref o_queue) rfl dX12_bring_321 ?_
            refine q_iload C dX12_bring_324 7 rfl ?_
            refine q_iload C dX12_bring_326 0 rfl ?_
            obtain ⟨hc16, hF⟩ := ite_c hF
            refine q_iast C 6 0 rfl rfl (ix_in hc16) ([(o, .inr (12, [.ref o_book, .ref o_now, .ref o_moults, .ref o_words, .ref o_clashes, .ref o_rocks, .int v_counts, .ref o_count, .int v_signs, .ref o_pad, .int v_readMany, .int v_signedAll, .int v_reason, .int v_acts, .ref o_reached, .ref o_queue, .ref o_got, .long v_waitUp, .long v_waitLow, .ref o_wins, .ref o_image, .ref o_isKept])), (o_book, .inl (cI, 21, .inl v_book)), (o_now, .inl (cI, 21, .inl v_now)), (o_moults, .inl (cI, 6, .inl v_moults)), (o_words, .inl (cI, 10, .inl v_words)), (o_reached, .inl (cI, 400, .inl (upd v_reached ((((20 : Int32) * r6) + r8)).toNatClampNeg (((10 : Int32) * ((x10 / (10 : Int32)) + (1 : Int32))) + x11)))), (o_queue, .inl (cI, 400, .inl (upd v_queue (x7).toNatClampNeg (((20 : Int32) * r6) + r8))))]) rfl dX12_bring_328 ?_
            refine q_iinc (v := (x7 + 1)) C ([(7, .int (x7 + 1)), (12, .int (((20 : Int32) * r6) + r8)), (0, .ref o), (1, .int x1), (2, .int x2), (3, .int x3), (4, .int x4), (5, .int x5), (8, .int x8), (9, .int x9), (10, .int x10), (11, .int x11)]) dX12_bring_329 7 rfl rfl (by decide) rfl ?_
            refine q_iinc (v := (x11 + 1)) C ([(11, .int (x11 + 1)), (7, .int (x7 + 1)), (12, .int (((20 : Int32) * r6) + r8)), (0, .ref o), (1, .int x1), (2, .int x2), (3, .int x3), (4, .int x4), (5, .int x5), (8, .int x8), (9, .int x9), (10, .int x10)]) dX12_bring_332 11 rfl rfl (by decide) rfl ?_
            refine q_goto (tgt := 238) C dX12_bring_335 (by decide) ?_
            cases hF
            refine q_lsel [3, 4, 5, 6, 7, 8, 1, 9, 10, 11, 0] rfl ?_
            exact ih x1 x2 x3 x4 x5 (x7 + 1) x8 x9 x10 (x11 + 1) v_now v_readMany v_signedAll (upd v_reached ((((20 : Int32) * r6) + r8)).toNatClampNeg (((10 : Int32) * ((x10 / (10 : Int32)) + (1 : Int32))) + x11)) (upd v_queue (x7).toNatClampNeg (((20 : Int32) * r6) + r8)) y7 z_reached z_queue (hn _ rfl) hk
  have L2 : ∀ (n : Nat) (x1 : Int32) (x2 : Int32) (x3 : Int32) (x4 : Int32) (x5 : Int32) (x7 : Int32) (x8 : Int32) (v_now : Nat → Int32) (v_readMany : Int32) (v_signedAll : Int32) (v_reached : Nat → Int32) (v_queue : Nat → Int32), evr (fun s => b_Model_bring_2 x1 x2 x3 x4 x5 v_now v_readMany v_signedAll v_moults v_words s.1 s.2.1 s.2.2.1 s.2.2.2) n (x7, x8, v_reached, v_queue) = some (R, w_now, w_readMany, w_signedAll, w_reached, w_queue) → qG p l e ({ frames := 2, cells := 0, slots := 0, locals := 43 } : Room) s m args below meth c 13 (dC, dI) A A Q 0 0 ([(0, .ref o), (1, .int x1), (2, .int x2), (3, .int x3), (4, .int x4), (5, .int x5), (7, .int x7), (8, .int x8)]) [] ([(o, .inr (12, [.ref o_book, .ref o_now, .ref o_moults, .ref o_words, .ref o_clashes, .ref o_rocks, .int v_counts, .ref o_count, .int v_signs, .ref o_pad, .int v_readMany, .int v_signedAll, .int v_reason, .int v_acts, .ref o_reached, .ref o_queue, .ref o_got, .long v_waitUp, .long v_waitLow, .ref o_wins, .ref o_image, .ref o_isKept])), (o_book, .inl (cI, 21, .inl v_book)), (o_now, .inl (cI, 21, .inl v_now)), (o_moults, .inl (cI, 6, .inl v_moults)), (o_words, .inl (cI, 10, .inl v_words)), (o_reached, .inl (cI, 400, .inl v_reached)), (o_queue, .inl (cI, 400, .inl v_queue))]) 156 := by
    clear hF
    intro n
    induction n with
    | zero => intro x1 x2 x3 x4 x5 x7 x8 v_now v_readMany v_signedAll v_reached v_queue  hF; exact (evr_0 hF).elim
    | succ n ih =>
      intro x1 x2 x3 x4 x5 x7 x8 v_now v_readMany v_signedAll v_reached v_queue  hF
      obtain ⟨o9, hB, hn, hx⟩ := evr_c hF
      have hF : b_Model_bring_2 x1 x2 x3 x4 x5 v_now v_readMany v_signedAll v_moults v_words x7 x8 v_reached v_queue = some o9 := hB
      unfold b_Model_bring_2 at hF
      refine q_iload C dX12_bring_156 7 rfl ?_
      refine q_iload C dX12_bring_158 6 rfl ?_
      refine q_icmp_ge (tgt := 344) C dX12_bring_160 (by decide) (fun c17 => ?_) (fun c17 => ?_)
      · have hF := ite_t hF c17
        refine q_bipush (v := (-6 : Int32)) C dX12_bring_344 (by decide) ?_
        cases hF
        have e18 := hx _ rfl
        cases e18
        exact q_wreti C hr dX12_bring_346 hQ
      · have hF := ite_f hF c17
        refine q_aload_n C dX12_bring_163 0 rfl rfl ?_
        refine q_get (C0 := RX12) (T := TX12) (N := 22) (k0 := 15) C lk1 0 rfl rfl (by decide) lk3 rfl (v := .ref o_queue) rfl dX12_bring_164 ?_
        refine q_iload C dX12_bring_167 7 rfl ?_
        obtain ⟨hc19, hF⟩ := ite_c hF
        refine q_iald C 6 0 rfl rfl (ix_in hc19) dX12_bring_169 ?_
        refine q_istore C ([(9, .int (v_queue (x8).toNatClampNeg)), (0, .ref o), (1, .int x1), (2, .int x2), (3, .int x3), (4, .int x4), (5, .int x5), (7, .int x7), (8, .int x8)]) dX12_bring_170 (by decide) rfl ?_
        refine q_aload_n C dX12_bring_172 1 rfl rfl ?_
        refine q_get (C0 := RX12) (T := TX12) (N := 22) (k0 := 14) C lk1 0 rfl rfl (by decide) lk0 rfl (v := .ref o_reached) rfl dX12_bring_173 ?_
        refine q_iload C dX12_bring_176 0 rfl ?_
        obtain ⟨hc20, hF⟩ := ite_c hF
        refine q_iald C 5 0 rfl rfl (ix_in hc20) dX12_bring_178 ?_
        refine q_istore C ([(10, .int (v_reached ((v_queue (x8).toNatClampNeg)).toNatClampNeg)), (9, .int (v_queue (x8).toNatClampNeg)), (0, .ref o), (1, .int x1), (2, .int x2), (3, .int x3), (4, .int x4), (5, .int x5), (7, .int x7), (8, .int x8)]) dX12_bring_179 (by decide) rfl ?_
        refine q_iload C dX12_bring_181 1 rfl ?_
        refine q_sipush (v := (200 : Int32)) C dX12_bring_183 (by decide) ?_
        refine q_idiv C dX12_bring_186 (by decide) ?_
        refine q_iload_n C dX12_bring_187 4 rfl rfl ?_
        refine q_icmp_ne (tgt := 235) C dX12_bring_188 (by decide) (fun c21 => ?_) (fun c21 => ?_)
        · have hF := ite_f hF c21
          refine q_iconst (v := (0 : Int32)) C dX12_bring_235 (by decide) ?_
          refine q_istore C ([(11, .int (0 : Int32)), (10, .int (v_reached ((v_queue (x8).toNatClampNeg)).toNatClampNeg)), (9, .int (v_queue (x8).toNatClampNeg)), (0, .ref o), (1, .int x1), (2, .int x2), (3, .int x3), (4, .int x4), (5, .int x5), (7, .int x7), (8, .int x8)]) dX12_bring_236 (by decide) rfl ?_
          obtain ⟨⟨y7_22, z22_reached, z22_queue⟩, hc23, hF⟩ := bind_c hF
          dsimp only at hF
          obtain ⟨n24, hc23⟩ := (ev_iff _ _ _).mp hc23
          refine q_lsel [3, 4, 5, 6, 7, 8, 9, 10, 2, 1, 0] rfl ?_
          refine L3 n24 x1 x2 x3 x4 x5 x7 x8 (v_queue (x8).toNatClampNeg) (v_reached ((v_queue (x8).toNatClampNeg)).toNatClampNeg) (0 : Int32) v_now v_readMany v_signedAll v_reached v_queue y7_22 z22_reached z22_queue hc23 ?_
          refine q_iinc (v := (x8 + 1)) C ([(8, .int (x8 + 1)), (0, .ref o), (1, .int x1), (2, .int x2), (3, .int x3), (4, .int x4), (5, .int x5), (7, .int y7_22)]) dX12_bring_338 7 rfl rfl (by decide) rfl ?_
          refine q_goto (tgt := 156) C dX12_bring_341 (by decide) ?_
          cases hF
          refine q_lsel [1, 2, 3, 4, 5, 6, 7, 0] rfl ?_
          exact ih x1 x2 x3 x4 x5 y7_22 (x8 + 1) v_now v_readMany v_signedAll z22_reached z22_queue (hn _ rfl)
        · have hF := ite_t hF c21
          refine q_iload C dX12_bring_191 1 rfl ?_
          refine q_bipush (v := (20 : Int32)) C dX12_bring_193 (by decide) ?_
          refine q_irem C dX12_bring_195 (by decide) ?_
          refine q_bipush (v := (10 : Int32)) C dX12_bring_196 (by decide) ?_
          refine q_idiv C dX12_bring_198 (by decide) ?_
          refine q_iload C dX12_bring_199 6 rfl ?_
          refine q_icmp_ne (tgt := 235) C dX12_bring_201 (by decide) (fun c25 => ?_) (fun c25 => ?_)
          · have hF := ite_f hF c25
            refine q_iconst (v := (0 : Int32)) C dX12_bring_235 (by decide) ?_
            refine q_istore C ([(11, .int (0 : Int32)), (10, .int (v_reached ((v_queue (x8).toNatClampNeg)).toNatClampNeg)), (9, .int (v_queue (x8).toNatClampNeg)), (0, .ref o), (1, .int x1), (2, .int x2), (3, .int x3), (4, .int x4), (5, .int x5), (7, .int x7), (8, .int x8)]) dX12_bring_236 (by decide) rfl ?_
            obtain ⟨⟨y7_26, z26_reached, z26_queue⟩, hc27, hF⟩ := bind_c hF
            dsimp only at hF
            obtain ⟨n28, hc27⟩ := (ev_iff _ _ _).mp hc27
            refine q_lsel [3, 4, 5, 6, 7, 8, 9, 10, 2, 1, 0] rfl ?_
            refine L3 n28 x1 x2 x3 x4 x5 x7 x8 (v_queue (x8).toNatClampNeg) (v_reached ((v_queue (x8).toNatClampNeg)).toNatClampNeg) (0 : Int32) v_now v_readMany v_signedAll v_reached v_queue y7_26 z26_reached z26_queue hc27 ?_
            refine q_iinc (v := (x8 + 1)) C ([(8, .int (x8 + 1)), (0, .ref o), (1, .int x1), (2, .int x2), (3, .int x3), (4, .int x4), (5, .int x5), (7, .int y7_26)]) dX12_bring_338 7 rfl rfl (by decide) rfl ?_
            refine q_goto (tgt := 156) C dX12_bring_341 (by decide) ?_
            cases hF
            refine q_lsel [1, 2, 3, 4, 5, 6, 7, 0] rfl ?_
            exact ih x1 x2 x3 x4 x5 y7_26 (x8 + 1) v_now v_readMany v_signedAll z26_reached z26_queue (hn _ rfl)
          · have hF := ite_t hF c25
            refine q_iload C dX12_bring_204 7 rfl ?_
            refine q_if_ne (tgt := 217) C dX12_bring_206 (by decide) (fun c29 => ?_) (fun c29 => ?_)
            · have hF := ite_f hF c29
              refine q_iload C dX12_bring_217 0 rfl ?_
              refine q_bipush (v := (10 : Int32)) C dX12_bring_219 (by decide) ?_
              refine q_icmp_ge (tgt := 229) C dX12_bring_221 (by decide) (fun c30 => ?_) (fun c30 => ?_)
              · have hF := ite_t hF c30
                refine q_iload C dX12_bring_229 0 rfl ?_
                refine q_bipush (v := (10 : Int32)) C dX12_bring_231 (by decide) ?_
                refine q_irem C dX12_bring_233 (by decide) ?_
                cases hF
                have e31 := hx _ rfl
                cases e31
                exact q_wreti C hr dX12_bring_234 hQ
              · have hF := ite_f hF c30
                refine q_bipush (v := (-6 : Int32)) C dX12_bring_224 (by decide) ?_
                refine q_goto (tgt := 234) C dX12_bring_226 (by decide) ?_
                cases hF
                have e32 := hx _ rfl
                cases e32
                exact q_wreti C hr dX12_bring_234 hQ
            · have hF := ite_t hF c29
              refine q_iload C dX12_bring_209 0 rfl ?_
              refine q_bipush (v := (10 : Int32)) C dX12_bring_211 (by decide) ?_
              refine q_idiv C dX12_bring_213 (by decide) ?_
              refine q_goto (tgt := 234) C dX12_bring_214 (by decide) ?_
              cases hF
              have e33 := hx _ rfl
              cases e33
              exact q_wreti C hr dX12_bring_234 hQ
  unfold f_Model_bring at hF
  refine q_aload_n C dX12_bring_0 0 rfl rfl ?_
  refine q_iload_n C dX12_bring_1 1 rfl rfl ?_
  refine q_roz (q_runV (As := [.int p1]) (rest := []) C (fun sz => c_X12_isThere l dC dI cI cZ cQ o o_book o_now o_moults o_words o_clashes o_rocks o_count o_pad o_reached o_queue o_got o_wins o_image o_isKept v_book v_counts v_signs v_readMany v_signedAll v_reason v_acts v_waitUp v_waitLow p1 (f_Model_isThere v_book p1) rfl sz) (cwV 1 C.2.2.2.2.1 gX12_bring_X12_isThere rfl rfl rfl (by decide +kernel) ⟨Nat.le_of_ble_eq_true rfl, Nat.le_of_ble_eq_true rfl⟩) 0 rfl rfl rfl [0, 1] rfl rfl rfl rfl (Nat.le_of_ble_eq_true rfl) dX12_bring_2 ⟨Nat.zero_le _, Nat.zero_le _⟩) (fun hz34 => ?_)
  refine q_if_eq (tgt := 21) C dX12_bring_5 (by decide) (fun c35 => ?_) (fun c35 => ?_)
  · have hF := ite_t hF c35
    refine q_iconst (v := (-1 : Int32)) C dX12_bring_21 (by decide) ?_
    cases hF
    exact q_wreti C hr dX12_bring_22 hQ
  · have hF := ite_f hF c35
    refine q_aload_n C dX12_bring_8 0 rfl rfl ?_
    refine q_iload_n C dX12_bring_9 3 rfl rfl ?_
    refine q_roz (q_runV (As := [.int p3]) (rest := []) C (fun sz => c_X12_isThere l dC dI cI cZ cQ o o_book o_now o_moults o_words o_clashes o_rocks o_count o_pad o_reached o_queue o_got o_wins o_image o_isKept v_book v_counts v_signs v_readMany v_signedAll v_reason v_acts v_waitUp v_waitLow p3 (f_Model_isThere v_book p3) rfl sz) (cwV 1 C.2.2.2.2.1 gX12_bring_X12_isThere rfl rfl rfl (by decide +kernel) ⟨Nat.le_of_ble_eq_true rfl, Nat.le_of_ble_eq_true rfl⟩) 0 rfl rfl rfl [0, 1] rfl rfl rfl rfl (Nat.le_of_ble_eq_true rfl) dX12_bring_10 ⟨Nat.zero_le _, Nat.zero_le _⟩) (fun hz36 => ?_)
    refine q_if_eq (tgt := 21) C dX12_bring_13 (by decide) (fun c37 => ?_) (fun c37 => ?_)
    · have hF := ite_t hF c37
      refine q_iconst (v := (-1 : Int32)) C dX12_bring_21 (by decide) ?_
      cases hF
      exact q_wreti C hr dX12_bring_22 hQ
    · have hF := ite_f hF c37
      refine q_iload_n C dX12_bring_16 1 rfl rfl ?_
      refine q_iload_n C dX12_bring_17 3 rfl rfl ?_
      refine q_icmp_ne (tgt := 23) C dX12_bring_18 (by decide) (fun c38 => ?_) (fun c38 => ?_)
      · have hF := ite_f hF c38
        refine q_iload_n C dX12_bring_23 2 rfl rfl ?_
        refine q_iconst (v := (0 : Int32)) C dX12_bring_24 (by decide) ?_
        refine q_iconst (v := (1 : Int32)) C dX12_bring_25 (by decide) ?_
        refine q_roz (q_runS (As := [.int p2, .int (0 : Int32), .int (1 : Int32)]) (rest := []) C (fun sz => c_X12_in l dC dI cI cZ cQ p2 (0 : Int32) (1 : Int32) (f_Model_in p2 (0 : Int32) (1 : Int32)) rfl sz) (va_cwS 3 C.2.2.2.2.1 gX12_bring_X12_in rfl rfl rfl (by decide +kernel) ⟨Nat.le_of_ble_eq_true rfl, Nat.le_of_ble_eq_true rfl⟩) [] rfl rfl rfl rfl (Nat.le_of_ble_eq_true rfl) dX12_bring_26 ⟨Nat.zero_le _, Nat.zero_le _⟩) (fun hz39 => ?_)
        refine q_if_eq (tgt := 52) C dX12_bring_29 (by decide) (fun c40 => ?_) (fun c40 => ?_)
        · have hF := ite_t hF c40
          refine q_bipush (v := (-2 : Int32)) C dX12_bring_52 (by decide) ?_
          cases hF
          exact q_wreti C hr dX12_bring_54 hQ
        · have hF := ite_f hF c40
          refine q_iload C dX12_bring_32 4 rfl ?_
          refine q_iconst (v := (0 : Int32)) C dX12_bring_34 (by decide) ?_
          refine q_iconst (v := (1 : Int32)) C dX12_bring_35 (by decide) ?_
          refine q_roz (q_runS (As := [.int p4, .int (0 : Int32), .int (1 : Int32)]) (rest := []) C (fun sz => c_X12_in l dC dI cI cZ cQ p4 (0 : Int32) (1 : Int32) (f_Model_in p4 (0 : Int32) (1 : Int32)) rfl sz) (va_cwS 3 C.2.2.2.2.1 gX12_bring_X12_in rfl rfl rfl (by decide +kernel) ⟨Nat.le_of_ble_eq_true rfl, Nat.le_of_ble_eq_true rfl⟩) [] rfl rfl rfl rfl (Nat.le_of_ble_eq_true rfl) dX12_bring_36 ⟨Nat.zero_le _, Nat.zero_le _⟩) (fun hz41 => ?_)
          refine q_if_eq (tgt := 52) C dX12_bring_39 (by decide) (fun c42 => ?_) (fun c42 => ?_)
          · have hF := ite_t hF c42
            refine q_bipush (v := (-2 : Int32)) C dX12_bring_52 (by decide) ?_
            cases hF
            exact q_wreti C hr dX12_bring_54 hQ
          · have hF := ite_f hF c42
            refine q_iload C dX12_bring_42 5 rfl ?_
            refine q_iconst (v := (0 : Int32)) C dX12_bring_44 (by decide) ?_
            refine q_iconst (v := (1 : Int32)) C dX12_bring_45 (by decide) ?_
            refine q_roz (q_runS (As := [.int p5, .int (0 : Int32), .int (1 : Int32)]) (rest := []) C (fun sz => c_X12_in l dC dI cI cZ cQ p5 (0 : Int32) (1 : Int32) (f_Model_in p5 (0 : Int32) (1 : Int32)) rfl sz) (va_cwS 3 C.2.2.2.2.1 gX12_bring_X12_in rfl rfl rfl (by decide +kernel) ⟨Nat.le_of_ble_eq_true rfl, Nat.le_of_ble_eq_true rfl⟩) [] rfl rfl rfl rfl (Nat.le_of_ble_eq_true rfl) dX12_bring_46 ⟨Nat.zero_le _, Nat.zero_le _⟩) (fun hz43 => ?_)
            refine q_if_ne (tgt := 55) C dX12_bring_49 (by decide) (fun c44 => ?_) (fun c44 => ?_)
            · have hF := ite_f hF c44
              refine q_aload_n C dX12_bring_55 0 rfl rfl ?_
              obtain ⟨⟨u45_now, u45_readMany, u45_signedAll⟩, hc46, hF⟩ := bind_c hF
              dsimp only at hF
              refine q_rwv hA ([(o, .inr (12, [.ref o_book, .ref o_now, .ref o_moults, .ref o_words, .ref o_clashes, .ref o_rocks, .int v_counts, .ref o_count, .int v_signs, .ref o_pad, .int u45_readMany, .int u45_signedAll, .int v_reason, .int v_acts, .ref o_reached, .ref o_queue, .ref o_got, .long v_waitUp, .long v_waitLow, .ref o_wins, .ref o_image, .ref o_isKept])), (o_book, .inl (cI, 21, .inl v_book)), (o_now, .inl (cI, 21, .inl u45_now)), (o_moults, .inl (cI, 6, .inl v_moults)), (o_words, .inl (cI, 10, .inl v_words)), (o_reached, .inl (cI, 400, .inl v_reached)), (o_queue, .inl (cI, 400, .inl v_queue))]) [0, 1, 2] [3, 4, 5, 6] rfl rfl rfl (by decide) [4, 5, 6, 0, 1, 2, 3] rfl rfl (q_runV (As := []) (rest := []) C (fun sz => c_X12_asNow l dC dI cI cZ cQ o o_book o_now o_moults o_words o_clashes o_rocks o_count o_pad o_reached o_queue o_got o_wins o_image o_isKept v_book v_now v_readMany v_signedAll v_counts v_signs v_reason v_acts v_waitUp v_waitLow u45_now u45_readMany u45_signedAll hc46 sz) (cwV 0 C.2.2.2.2.1 gX12_bring_X12_asNow rfl rfl rfl (by decide +kernel) ⟨Nat.le_of_ble_eq_true rfl, Nat.le_of_ble_eq_true rfl⟩) 0 rfl rfl rfl [0, 1, 2] rfl rfl rfl rfl (Nat.le_of_ble_eq_true rfl) dX12_bring_56 ⟨Nat.zero_le _, Nat.zero_le _⟩) ?_
              refine q_iconst (v := (0 : Int32)) C dX12_bring_59 (by decide) ?_
              refine q_istore C ([(6, .int (0 : Int32)), (0, .ref o), (1, .int p1), (2, .int p2), (3, .int p3), (4, .int p4), (5, .int p5)]) dX12_bring_60 (by decide) rfl ?_
              obtain ⟨z47_reached, hc48, hF⟩ := bind_c hF
              obtain ⟨n49, hc48⟩ := (ev_iff _ _ _).mp hc48
              refine q_lsel [1, 2, 3, 4, 5, 6, 0] rfl ?_
              refine L1 n49 p1 p2 p3 p4 p5 (0 : Int32) u45_now u45_readMany u45_signedAll v_reached v_queue z47_reached hc48 ?_
              refine q_bipush (v := (20 : Int32)) C dX12_bring_84 (by decide) ?_
              refine q_bipush (v := (10 : Int32)) C dX12_bring_86 (by decide) ?_
              refine q_aload_n C dX12_bring_88 0 rfl rfl ?_
              refine q_get (C0 := RX12) (T := TX12) (N := 22) (k0 := 1) C lk1 0 rfl rfl (by decide) lk2 rfl (v := .ref o_now) rfl dX12_bring_89 ?_
              refine q_bipush (v := (6 : Int32)) C dX12_bring_92 (by decide) ?_
              refine q_iload_n C dX12_bring_94 1 rfl rfl ?_
              refine q_iadd C dX12_bring_95 ?_
              obtain ⟨hc50, hF⟩ := ite_c hF
              refine q_iald C 2 0 rfl rfl (ix_in hc50) dX12_bring_96 ?_
              refine q_imul C dX12_bring_97 ?_
              refine q_aload_n C dX12_bring_98 0 rfl rfl ?_
              refine q_get (C0 := RX12) (T := TX12) (N := 22) (k0 := 1) C lk1 0 rfl rfl (by decide) lk2 rfl (v := .ref o_now) rfl dX12_bring_99 ?_
              refine q_bipush (v := (12 : Int32)) C dX12_bring_102 (by decide) ?_
              refine q_iload_n C dX12_bring_104 1 rfl rfl ?_
              refine q_iadd C dX12_bring_105 ?_
              obtain ⟨hc51, hF⟩ := ite_c hF
              refine q_iald C 2 0 rfl rfl (ix_in hc51) dX12_bring_106 ?_
              refine q_iadd C dX12_bring_107 ?_
              refine q_imul C dX12_bring_108 ?_
              refine q_bipush (v := (10 : Int32)) C dX12_bring_109 (by decide) ?_
              refine q_aload_n C dX12_bring_111 0 rfl rfl ?_
              refine q_get (C0 := RX12) (T := TX12) (N := 22) (k0 := 1) C lk1 0 rfl rfl (by decide) lk2 rfl (v := .ref o_now) rfl dX12_bring_112 ?_
              refine q_bipush (v := (6 : Int32)) C dX12_bring_115 (by decide) ?_
              refine q_iload_n C dX12_bring_117 3 rfl rfl ?_
              refine q_iadd C dX12_bring_118 ?_
              obtain ⟨hc52, hF⟩ := ite_c hF
              refine q_iald C 2 0 rfl rfl (ix_in hc52) dX12_bring_119 ?_
              refine q_imul C dX12_bring_120 ?_
              refine q_iadd C dX12_bring_121 ?_
              refine q_aload_n C dX12_bring_122 0 rfl rfl ?_
              refine q_get (C0 := RX12) (T := TX12) (N := 22) (k0 := 1) C lk1 0 rfl rfl (by decide) lk2 rfl (v := .ref o_now) rfl dX12_bring_123 ?_
              refine q_bipush (v := (12 : Int32)) C dX12_bring_126 (by decide) ?_
              refine q_iload_n C dX12_bring_128 3 rfl rfl ?_
              refine q_iadd C dX12_bring_129 ?_
              obtain ⟨hc53, hF⟩ := ite_c hF
              refine q_iald C 2 0 rfl rfl (ix_in hc53) dX12_bring_130 ?_
              refine q_iadd C dX12_bring_131 ?_
              refine q_istore C ([(6, .int ((((20 : Int32) * (((10 : Int32) * (u45_now (((6 : Int32) + p1)).toNatClampNeg)) + (u45_now (((12 : Int32) + p1)).toNatClampNeg))) + ((10 : Int32) * (u45_now (((6 : Int32) + p3)).toNatClampNeg))) + (u45_now (((12 : Int32) + p3)).toNatClampNeg))), (0, .ref o), (1, .int p1), (2, .int p2), (3, .int p3), (4, .int p4), (5, .int p5)]) dX12_bring_132 (by decide) rfl ?_
              refine q_aload_n C dX12_bring_134 1 rfl rfl ?_
              refine q_get (C0 := RX12) (T := TX12) (N := 22) (k0 := 14) C lk1 0 rfl rfl (by decide) lk0 rfl (v := .ref o_reached) rfl dX12_bring_135 ?_
              refine q_iload C dX12_bring_138 0 rfl ?_
              refine q_iconst (v := (0 : Int32)) C dX12_bring_140 (by decide) ?_
              obtain ⟨hc54, hF⟩ := ite_c hF
              refine q_iast C 5 0 rfl rfl (ix_in hc54) ([(o, .inr (12, [.ref o_book, .ref o_now, .ref o_moults, .ref o_words, .ref o_clashes, .ref o_rocks, .int v_counts, .ref o_count, .int v_signs, .ref o_pad, .int u45_readMany, .int u45_signedAll, .int v_reason, .int v_acts, .ref o_reached, .ref o_queue, .ref o_got, .long v_waitUp, .long v_waitLow, .ref o_wins, .ref o_image, .ref o_isKept])), (o_book, .inl (cI, 21, .inl v_book)), (o_now, .inl (cI, 21, .inl u45_now)), (o_moults, .inl (cI, 6, .inl v_moults)), (o_words, .inl (cI, 10, .inl v_words)), (o_reached, .inl (cI, 400, .inl (upd z47_reached (((((20 : Int32) * (((10 : Int32) * (u45_now (((6 : Int32) + p1)).toNatClampNeg)) + (u45_now (((12 : Int32) + p1)).toNatClampNeg))) + ((10 : Int32) * (u45_now (((6 : Int32) + p3)).toNatClampNeg))) + (u45_now (((12 : Int32) + p3)).toNatClampNeg))).toNatClampNeg (0 : Int32)))), (o_queue, .inl (cI, 400, .inl v_queue))]) rfl dX12_bring_141 ?_
              refine q_aload_n C dX12_bring_142 1 rfl rfl ?_
              refine q_get (C0 := RX12) (T := TX12) (N := 22) (k0 := 15) C lk1 0 rfl rfl (by decide) lk3 rfl (v := .ref o_queue) rfl dX12_bring_143 ?_
              refine q_iconst (v := (0 : Int32)) C dX12_bring_146 (by decide) ?_
              refine q_iload C dX12_bring_147 0 rfl ?_
              refine q_iast C 6 0 rfl rfl (ix_in (by decide)) ([(o, .inr (12, [.ref o_book, .ref o_now, .ref o_moults, .ref o_words, .ref o_clashes, .ref o_rocks, .int v_counts, .ref o_count, .int v_signs, .ref o_pad, .int u45_readMany, .int u45_signedAll, .int v_reason, .int v_acts, .ref o_reached, .ref o_queue, .ref o_got, .long v_waitUp, .long v_waitLow, .ref o_wins, .ref o_image, .ref o_isKept])), (o_book, .inl (cI, 21, .inl v_book)), (o_now, .inl (cI, 21, .inl u45_now)), (o_moults, .inl (cI, 6, .inl v_moults)), (o_words, .inl (cI, 10, .inl v_words)), (o_reached, .inl (cI, 400, .inl (upd z47_reached (((((20 : Int32) * (((10 : Int32) * (u45_now (((6 : Int32) + p1)).toNatClampNeg)) + (u45_now (((12 : Int32) + p1)).toNatClampNeg))) + ((10 : Int32) * (u45_now (((6 : Int32) + p3)).toNatClampNeg))) + (u45_now (((12 : Int32) + p3)).toNatClampNeg))).toNatClampNeg (0 : Int32)))), (o_queue, .inl (cI, 400, .inl (upd v_queue ((0 : Int32)).toNatClampNeg ((((20 : Int32) * (((10 : Int32) * (u45_now (((6 : Int32) + p1)).toNatClampNeg)) + (u45_now (((12 : Int32) + p1)).toNatClampNeg))) + ((10 : Int32) * (u45_now (((6 : Int32) + p3)).toNatClampNeg))) + (u45_now (((12 : Int32) + p3)).toNatClampNeg)))))]) rfl dX12_bring_149 ?_
              refine q_iconst (v := (1 : Int32)) C dX12_bring_150 (by decide) ?_
              refine q_istore C ([(7, .int (1 : Int32)), (6, .int ((((20 : Int32) * (((10 : Int32) * (u45_now (((6 : Int32) + p1)).toNatClampNeg)) + (u45_now (((12 : Int32) + p1)).toNatClampNeg))) + ((10 : Int32) * (u45_now (((6 : Int32) + p3)).toNatClampNeg))) + (u45_now (((12 : Int32) + p3)).toNatClampNeg))), (0, .ref o), (1, .int p1), (2, .int p2), (3, .int p3), (4, .int p4), (5, .int p5)]) dX12_bring_151 (by decide) rfl ?_
              refine q_iconst (v := (0 : Int32)) C dX12_bring_153 (by decide) ?_
              refine q_istore C ([(8, .int (0 : Int32)), (7, .int (1 : Int32)), (6, .int ((((20 : Int32) * (((10 : Int32) * (u45_now (((6 : Int32) + p1)).toNatClampNeg)) + (u45_now (((12 : Int32) + p1)).toNatClampNeg))) + ((10 : Int32) * (u45_now (((6 : Int32) + p3)).toNatClampNeg))) + (u45_now (((12 : Int32) + p3)).toNatClampNeg))), (0, .ref o), (1, .int p1), (2, .int p2), (3, .int p3), (4, .int p4), (5, .int p5)]) dX12_bring_154 (by decide) rfl ?_
              obtain ⟨n55, hF⟩ := (ev_iff _ _ _).mp hF
              refine q_lsel [3, 4, 5, 6, 7, 8, 1, 0] rfl ?_
              exact L2 n55 p1 p2 p3 p4 p5 (1 : Int32) (0 : Int32) u45_now u45_readMany u45_signedAll (upd z47_reached (((((20 : Int32) * (((10 : Int32) * (u45_now (((6 : Int32) + p1)).toNatClampNeg)) + (u45_now (((12 : Int32) + p1)).toNatClampNeg))) + ((10 : Int32) * (u45_now (((6 : Int32) + p3)).toNatClampNeg))) + (u45_now (((12 : Int32) + p3)).toNatClampNeg))).toNatClampNeg (0 : Int32)) (upd v_queue ((0 : Int32)).toNatClampNeg ((((20 : Int32) * (((10 : Int32) * (u45_now (((6 : Int32) + p1)).toNatClampNeg)) + (u45_now (((12 : Int32) + p1)).toNatClampNeg))) + ((10 : Int32) * (u45_now (((6 : Int32) + p3)).toNatClampNeg))) + (u45_now (((12 : Int32) + p3)).toNatClampNeg))) hF
            · have hF := ite_t hF c44
              refine q_bipush (v := (-2 : Int32)) C dX12_bring_52 (by decide) ?_
              cases hF
              exact q_wreti C hr dX12_bring_54 hQ
      · have hF := ite_t hF c38
        refine q_iconst (v := (-1 : Int32)) C dX12_bring_21 (by decide) ?_
        cases hF
        exact q_wreti C hr dX12_bring_22 hQ
set_option maxRecDepth 100000 in
set_option maxHeartbeats 4000000 in
theorem c_X12_drop (l : Launch) (dC : Nat → ClassId) (dI : Nat → Nat → Nat) (cI cZ cQ : ClassId) (o o_clashes o_book o_now o_moults o_words o_rocks o_count o_pad o_reached o_queue o_got o_wins o_image o_isKept : Nat) (v_clashes : Nat → Int32) (v_counts : Int32) (v_signs : Int32) (v_readMany : Int32) (v_signedAll : Int32) (v_reason : Int32) (v_acts : Int32) (v_waitUp : Int64) (v_waitLow : Int64) (p1 : Int32) (p2 : Int32) (R : Int32) (hF : f_Model_drop v_clashes p1 p2 = some R) (sz : Nat) : Met l yX12_drop wsX12_drop ({ frames := 1, cells := 0, slots := 0, locals := 22 } : Room) (qPc ([.ref o, .int p1, .int p2]) (dC, dI) (qT cI cZ cQ) ([(o, .inr (12, [.ref o_book, .ref o_now, .ref o_moults, .ref o_words, .ref o_clashes, .ref o_rocks, .int v_counts, .ref o_count, .int v_signs, .ref o_pad, .int v_readMany, .int v_signedAll, .int v_reason, .int v_acts, .ref o_reached, .ref o_queue, .ref o_got, .long v_waitUp, .long v_waitLow, .ref o_wins, .ref o_image, .ref o_isKept])), (o_clashes, .inl (cI, 10, .inl v_clashes))]) sz) (qRi R) 0 0 (fun _ => False) := by
  refine q_met_r (cc := cX12_drop) (own := RX12) (maxL := 7) (ret := (some .int)) (lv0 := [(0, .ref o), (1, .int p1), (2, .int p2)]) (by decide) rfl rfl rfl (Nat.le_of_ble_eq_true rfl) ?_
  intro p e s m args below meth c C hr A A' Q hA0 hQ
  have lk0 : Cond.fieldLink RX12 22 "SealStraitModel" "clashes" "[I" ∈ wsX12_drop := by decide +kernel
  have lk1 : ∀ w ∈ u_ws RX12 TX12 22, w ∈ wsX12_drop := fun w h => List.mem_cons_of_mem _ (List.mem_append_right _ h)
  have L2 : ∀ (n : Nat) (x1 : Int32) (x2 : Int32) (x3 : Int32) (x4 : Int32) (x5 : Int32) (x6 : Int32) (y5 : Int32), evr (fun s => b_Model_drop_2 x1 x4 v_clashes s.1 s.2) n (x5, x6) = some y5 → qG p l e ({ frames := 1, cells := 0, slots := 0, locals := 22 } : Room) s m args below meth c 7 (dC, dI) A A' Q 0 0 ([(0, .ref o), (1, .int x1), (2, .int x2), (3, .int x3), (4, .int x4), (5, .int y5)]) [] ([(o, .inr (12, [.ref o_book, .ref o_now, .ref o_moults, .ref o_words, .ref o_clashes, .ref o_rocks, .int v_counts, .ref o_count, .int v_signs, .ref o_pad, .int v_readMany, .int v_signedAll, .int v_reason, .int v_acts, .ref o_reached, .ref o_queue, .ref o_got, .long v_waitUp, .long v_waitLow, .ref o_wins, .ref o_image, .ref o_isKept])), (o_clashes, .inl (cI, 10, .inl v_clashes))]) 122 → qG p l e ({ frames := 1, cells := 0, slots := 0, locals := 22 } : Room) s m args below meth c 7 (dC, dI) A A' Q 0 0 ([(0, .ref o), (1, .int x1), (2, .int x2), (3, .int x3), (4, .int x4), (5, .int x5), (6, .int x6)]) [] ([(o, .inr (12, [.ref o_book, .ref o_now, .ref o_moults, .ref o_words, .ref o_clashes, .ref o_rocks, .int v_counts, .ref o_count, .int v_signs, .ref o_pad, .int v_readMany, .int v_signedAll, .int v_reason, .int v_acts, .ref o_reached, .ref o_queue, .ref o_got, .long v_waitUp, .long v_waitLow, .ref o_wins, .ref o_image, .ref o_isKept])), (o_clashes, .inl (cI, 10, .inl v_clashes))]) 66 := by
    clear hF
    intro n
    induction n with
    | zero => intro x1 x2 x3 x4 x5 x6 y5 hF; exact (evr_0 hF).elim
    | succ n ih =>
      intro x1 x2 x3 x4 x5 x6 y5 hF hk
      obtain ⟨o9, hB, hn, hx⟩ := evr_c hF
      have hF : b_Model_drop_2 x1 x4 v_clashes x5 x6 = some o9 := hB
      unfold b_Model_drop_2 at hF
      refine q_iload C dX12_drop_66 6 rfl ?_
      refine q_bipush (v := (10 : Int32)) C dX12_drop_68 (by decide) ?_
      refine q_icmp_ge (tgt := 122) C dX12_drop_70 (by decide) (fun c1 => ?_) (fun c1 => ?_)
      · have hF := ite_t hF c1
        cases hF
        have e2 := hx _ rfl
        cases e2
        refine q_lsel [0, 1, 2, 3, 4, 5] rfl ?_
        exact hk
      · have hF := ite_f hF c1
        refine q_iload C dX12_drop_73 5 rfl ?_
        refine q_if_eq (tgt := 122) C dX12_drop_75 (by decide) (fun c3 => ?_) (fun c3 => ?_)
        · have hF := ite_t hF c3
          cases hF
          have e4 := hx _ rfl
          cases e4
          refine q_lsel [0, 1, 2, 3, 4, 5] rfl ?_
          exact hk
        · have hF := ite_f hF c3
          refine q_iload_n C dX12_drop_78 1 rfl rfl ?_
          refine q_iload C dX12_drop_79 4 rfl ?_
          refine q_iconst (v := (-1 : Int32)) C dX12_drop_81 (by decide) ?_
          refine q_ixor C dX12_drop_82 ?_
          refine q_iand C dX12_drop_83 ?_
          refine q_iload C dX12_drop_84 6 rfl ?_
          refine q_roz (q_runS (As := [.int (x1 &&& (x4 ^^^ (-1 : Int32))), .int x6]) (rest := []) C (fun sz => c_X12_has l dC dI cI cZ cQ (x1 &&& (x4 ^^^ (-1 : Int32))) x6 (f_Model_has (x1 &&& (x4 ^^^ (-1 : Int32))) x6) rfl sz) (va_cwS 2 C.2.2.2.2.1 gX12_drop_X12_has rfl rfl rfl (by decide +kernel) ⟨Nat.le_of_ble_eq_true rfl, Nat.le_of_ble_eq_true rfl⟩) [] rfl rfl rfl rfl (Nat.le_of_ble_eq_true rfl) dX12_drop_86 ⟨Nat.zero_le _, Nat.zero_le _⟩) (fun hz5 => ?_)
          refine q_if_eq (tgt := 109) C dX12_drop_89 (by decide) (fun c6 => ?_) (fun c6 => ?_)
          · have hF := ite_t hF c6
            refine q_iconst (v := (1 : Int32)) C dX12_drop_109 (by decide) ?_
            refine q_goto (tgt := 114) C dX12_drop_110 (by decide) ?_
            refine q_istore C ([(5, .int (1 : Int32)), (0, .ref o), (1, .int x1), (2, .int x2), (3, .int x3), (4, .int x4), (6, .int x6)]) dX12_drop_114 (by decide) rfl ?_
            refine q_iinc (v := (x6 + 1)) C ([(6, .int (x6 + 1)), (5, .int (1 : Int32)), (0, .ref o), (1, .int x1), (2, .int x2), (3, .int x3), (4, .int x4)]) dX12_drop_116 6 rfl rfl (by decide) rfl ?_
            refine q_goto (tgt := 66) C dX12_drop_119 (by decide) ?_
            cases hF
            refine q_lsel [2, 3, 4, 5, 6, 1, 0] rfl ?_
            exact ih x1 x2 x3 x4 (1 : Int32) (x6 + 1) y5 (hn _ rfl) hk
          · have hF := ite_f hF c6
            refine q_aload_n C dX12_drop_92 0 rfl rfl ?_
            refine q_get (C0 := RX12) (T := TX12) (N := 22) (k0 := 4) C lk1 0 rfl rfl (by decide) lk0 rfl (v := .ref o_clashes) rfl dX12_drop_93 ?_
            refine q_iload C dX12_drop_96 6 rfl ?_
            obtain ⟨hc7, hF⟩ := ite_c hF
            refine q_iald C 1 0 rfl rfl (ix_in hc7) dX12_drop_98 ?_
            refine q_iload_n C dX12_drop_99 1 rfl rfl ?_
            refine q_iand C dX12_drop_100 ?_
            refine q_iload C dX12_drop_101 4 rfl ?_
            refine q_iconst (v := (-1 : Int32)) C dX12_drop_103 (by decide) ?_
            refine q_ixor C dX12_drop_104 ?_
            refine q_iand C dX12_drop_105 ?_
            refine q_if_ne (tgt := 113) C dX12_drop_106 (by decide) (fun c8 => ?_) (fun c8 => ?_)
            · have hF := ite_f hF c8
              refine q_iconst (v := (0 : Int32)) C dX12_drop_113 (by decide) ?_
              refine q_istore C ([(5, .int (0 : Int32)), (0, .ref o), (1, .int x1), (2, .int x2), (3, .int x3), (4, .int x4), (6, .int x6)]) dX12_drop_114 (by decide) rfl ?_
              refine q_iinc (v := (x6 + 1)) C ([(6, .int (x6 + 1)), (5, .int (0 : Int32)), (0, .ref o), (1, .int x1), (2, .int x2), (3, .int x3), (4, .int x4)]) dX12_drop_116 6 rfl rfl (by decide) rfl ?_
              refine q_goto (tgt := 66) C dX12_drop_119 (by decide) ?_
              cases hF
              refine q_lsel [2, 3, 4, 5, 6, 1, 0] rfl ?_
              exact ih x1 x2 x3 x4 (0 : Int32) (x6 + 1) y5 (hn _ rfl) hk
            · have hF := ite_t hF c8
              refine q_iconst (v := (1 : Int32)) C dX12_drop_109 (by decide) ?_
              refine q_goto (tgt := 114) C dX12_drop_110 (by decide) ?_
              refine q_istore C ([(5, .int (1 : Int32)), (0, .ref o), (1, .int x1), (2, .int x2), (3, .int x3), (4, .int x4), (6, .int x6)]) dX12_drop_114 (by decide) rfl ?_
              refine q_iinc (v := (x6 + 1)) C ([(6, .int (x6 + 1)), (5, .int (1 : Int32)), (0, .ref o), (1, .int x1), (2, .int x2), (3, .int x3), (4, .int x4)]) dX12_drop_116 6 rfl rfl (by decide) rfl ?_
              refine q_goto (tgt := 66) C dX12_drop_119 (by decide) ?_
              cases hF
              refine q_lsel [2, 3, 4, 5, 6, 1, 0] rfl ?_
              exact ih x1 x2 x3 x4 (1 : Int32) (x6 + 1) y5 (hn _ rfl) hk
  have L1 : ∀ (n : Nat) (x1 : Int32) (x2 : Int32) (x3 : Int32) (x4 : Int32) (y3 : Int32), evr (fun s => b_Model_drop_1 x1 v_clashes s.1 s.2) n (x3, x4) = some y3 → qG p l e ({ frames := 1, cells := 0, slots := 0, locals := 22 } : Room) s m args below meth c 7 (dC, dI) A A' Q 0 0 ([(2, .int x2), (3, .int y3)]) [] ([(o, .inr (12, [.ref o_book, .ref o_now, .ref o_moults, .ref o_words, .ref o_clashes, .ref o_rocks, .int v_counts, .ref o_count, .int v_signs, .ref o_pad, .int v_readMany, .int v_signedAll, .int v_reason, .int v_acts, .ref o_reached, .ref o_queue, .ref o_got, .long v_waitUp, .long v_waitLow, .ref o_wins, .ref o_image, .ref o_isKept])), (o_clashes, .inl (cI, 10, .inl v_clashes))]) 140 → qG p l e ({ frames := 1, cells := 0, slots := 0, locals := 22 } : Room) s m args below meth c 7 (dC, dI) A A' Q 0 0 ([(0, .ref o), (1, .int x1), (2, .int x2), (3, .int x3), (4, .int x4)]) [] ([(o, .inr (12, [.ref o_book, .ref o_now, .ref o_moults, .ref o_words, .ref o_clashes, .ref o_rocks, .int v_counts, .ref o_count, .int v_signs, .ref o_pad, .int v_readMany, .int v_signedAll, .int v_reason, .int v_acts, .ref o_reached, .ref o_queue, .ref o_got, .long v_waitUp, .long v_waitLow, .ref o_wins, .ref o_image, .ref o_isKept])), (o_clashes, .inl (cI, 10, .inl v_clashes))]) 30 := by
    clear hF
    intro n
    induction n with
    | zero => intro x1 x2 x3 x4 y3 hF; exact (evr_0 hF).elim
    | succ n ih =>
      intro x1 x2 x3 x4 y3 hF hk
      obtain ⟨o9, hB, hn, hx⟩ := evr_c hF
      have hF : b_Model_drop_1 x1 v_clashes x3 x4 = some o9 := hB
      unfold b_Model_drop_1 at hF
      refine q_iload C dX12_drop_30 4 rfl ?_
      refine q_if_lt (tgt := 140) C dX12_drop_32 (by decide) (fun c9 => ?_) (fun c9 => ?_)
      · have hF := ite_t hF c9
        cases hF
        have e10 := hx _ rfl
        cases e10
        refine q_lsel [2, 3] rfl ?_
        exact hk
      · have hF := ite_f hF c9
        refine q_iload C dX12_drop_35 4 rfl ?_
        refine q_iload_n C dX12_drop_37 1 rfl rfl ?_
        refine q_iconst (v := (-1 : Int32)) C dX12_drop_38 (by decide) ?_
        refine q_ixor C dX12_drop_39 ?_
        refine q_iand C dX12_drop_40 ?_
        refine q_if_ne (tgt := 60) C dX12_drop_41 (by decide) (fun c11 => ?_) (fun c11 => ?_)
        · have hF := ite_f hF c11
          refine q_iconst (v := (0 : Int32)) C dX12_drop_60 (by decide) ?_
          refine q_istore C ([(5, .int (0 : Int32)), (0, .ref o), (1, .int x1), (2, .int x2), (3, .int x3), (4, .int x4)]) dX12_drop_61 (by decide) rfl ?_
          refine q_iconst (v := (0 : Int32)) C dX12_drop_63 (by decide) ?_
          refine q_istore C ([(6, .int (0 : Int32)), (5, .int (0 : Int32)), (0, .ref o), (1, .int x1), (2, .int x2), (3, .int x3), (4, .int x4)]) dX12_drop_64 (by decide) rfl ?_
          obtain ⟨y5_12, hc13, hF⟩ := bind_c hF
          obtain ⟨n14, hc13⟩ := (ev_iff _ _ _).mp hc13
          refine q_lsel [2, 3, 4, 5, 6, 1, 0] rfl ?_
          refine L2 n14 x1 x2 x3 x4 (0 : Int32) (0 : Int32) y5_12 hc13 ?_
          refine q_iload C dX12_drop_122 5 rfl ?_
          refine q_if_eq (tgt := 132) C dX12_drop_124 (by decide) (fun c15 => ?_) (fun c15 => ?_)
          · have hF := ite_t hF c15
            refine q_iload_n C dX12_drop_132 3 rfl rfl ?_
            refine q_istore_n C ([(3, .int x3), (0, .ref o), (1, .int x1), (2, .int x2), (4, .int x4), (5, .int y5_12)]) dX12_drop_133 rfl (by decide) rfl ?_
            refine q_iinc (v := (x4 + (-1))) C ([(4, .int (x4 + (-1))), (3, .int x3), (0, .ref o), (1, .int x1), (2, .int x2), (5, .int y5_12)]) dX12_drop_134 4 rfl rfl (by decide) rfl ?_
            refine q_goto (tgt := 30) C dX12_drop_137 (by decide) ?_
            cases hF
            refine q_lsel [2, 3, 4, 1, 0] rfl ?_
            exact ih x1 x2 x3 (x4 + (-1)) y3 (hn _ rfl) hk
          · have hF := ite_f hF c15
            refine q_iload C dX12_drop_127 4 rfl ?_
            refine q_goto (tgt := 133) C dX12_drop_129 (by decide) ?_
            refine q_istore_n C ([(3, .int x4), (0, .ref o), (1, .int x1), (2, .int x2), (4, .int x4), (5, .int y5_12)]) dX12_drop_133 rfl (by decide) rfl ?_
            refine q_iinc (v := (x4 + (-1))) C ([(4, .int (x4 + (-1))), (3, .int x4), (0, .ref o), (1, .int x1), (2, .int x2), (5, .int y5_12)]) dX12_drop_134 4 rfl rfl (by decide) rfl ?_
            refine q_goto (tgt := 30) C dX12_drop_137 (by decide) ?_
            cases hF
            refine q_lsel [2, 3, 4, 1, 0] rfl ?_
            exact ih x1 x2 x4 (x4 + (-1)) y3 (hn _ rfl) hk
        · have hF := ite_t hF c11
          refine q_iload C dX12_drop_44 4 rfl ?_
          obtain ⟨r16, hc17, hF⟩ := bind_c hF
          refine q_roi (q_runS (As := [.int x4]) (rest := []) C (fun sz => c_X12_bits l dC dI cI cZ cQ x4 r16 hc17 sz) (va_cwS 1 C.2.2.2.2.1 gX12_drop_X12_bits rfl rfl rfl (by decide +kernel) ⟨Nat.le_of_ble_eq_true rfl, Nat.le_of_ble_eq_true rfl⟩) [] rfl rfl rfl rfl (Nat.le_of_ble_eq_true rfl) dX12_drop_46 ⟨Nat.zero_le _, Nat.zero_le _⟩) ?_
          refine q_iload_n C dX12_drop_49 3 rfl rfl ?_
          obtain ⟨r18, hc19, hF⟩ := bind_c hF
          refine q_roi (q_runS (As := [.int x3]) (rest := [.int r16]) C (fun sz => c_X12_bits l dC dI cI cZ cQ x3 r18 hc19 sz) (va_cwS 1 C.2.2.2.2.1 gX12_drop_X12_bits rfl rfl rfl (by decide +kernel) ⟨Nat.le_of_ble_eq_true rfl, Nat.le_of_ble_eq_true rfl⟩) [] rfl rfl rfl rfl (Nat.le_of_ble_eq_true rfl) dX12_drop_50 ⟨Nat.zero_le _, Nat.zero_le _⟩) ?_
          refine q_icmp_gt (tgt := 60) C dX12_drop_53 (by decide) (fun c20 => ?_) (fun c20 => ?_)
          · have hF := ite_t hF c20
            refine q_iconst (v := (0 : Int32)) C dX12_drop_60 (by decide) ?_
            refine q_istore C ([(5, .int (0 : Int32)), (0, .ref o), (1, .int x1), (2, .int x2), (3, .int x3), (4, .int x4)]) dX12_drop_61 (by decide) rfl ?_
            refine q_iconst (v := (0 : Int32)) C dX12_drop_63 (by decide) ?_
            refine q_istore C ([(6, .int (0 : Int32)), (5, .int (0 : Int32)), (0, .ref o), (1, .int x1), (2, .int x2), (3, .int x3), (4, .int x4)]) dX12_drop_64 (by decide) rfl ?_
            obtain ⟨y5_21, hc22, hF⟩ := bind_c hF
            obtain ⟨n23, hc22⟩ := (ev_iff _ _ _).mp hc22
            refine q_lsel [2, 3, 4, 5, 6, 1, 0] rfl ?_
            refine L2 n23 x1 x2 x3 x4 (0 : Int32) (0 : Int32) y5_21 hc22 ?_
            refine q_iload C dX12_drop_122 5 rfl ?_
            refine q_if_eq (tgt := 132) C dX12_drop_124 (by decide) (fun c24 => ?_) (fun c24 => ?_)
            · have hF := ite_t hF c24
              refine q_iload_n C dX12_drop_132 3 rfl rfl ?_
              refine q_istore_n C ([(3, .int x3), (0, .ref o), (1, .int x1), (2, .int x2), (4, .int x4), (5, .int y5_21)]) dX12_drop_133 rfl (by decide) rfl ?_
              refine q_iinc (v := (x4 + (-1))) C ([(4, .int (x4 + (-1))), (3, .int x3), (0, .ref o), (1, .int x1), (2, .int x2), (5, .int y5_21)]) dX12_drop_134 4 rfl rfl (by decide) rfl ?_
              refine q_goto (tgt := 30) C dX12_drop_137 (by decide) ?_
              cases hF
              refine q_lsel [2, 3, 4, 1, 0] rfl ?_
              exact ih x1 x2 x3 (x4 + (-1)) y3 (hn _ rfl) hk
            · have hF := ite_f hF c24
              refine q_iload C dX12_drop_127 4 rfl ?_
              refine q_goto (tgt := 133) C dX12_drop_129 (by decide) ?_
              refine q_istore_n C ([(3, .int x4), (0, .ref o), (1, .int x1), (2, .int x2), (4, .int x4), (5, .int y5_21)]) dX12_drop_133 rfl (by decide) rfl ?_
              refine q_iinc (v := (x4 + (-1))) C ([(4, .int (x4 + (-1))), (3, .int x4), (0, .ref o), (1, .int x1), (2, .int x2), (5, .int y5_21)]) dX12_drop_134 4 rfl rfl (by decide) rfl ?_
              refine q_goto (tgt := 30) C dX12_drop_137 (by decide) ?_
              cases hF
              refine q_lsel [2, 3, 4, 1, 0] rfl ?_
              exact ih x1 x2 x4 (x4 + (-1)) y3 (hn _ rfl) hk
          · have hF := ite_f hF c20
            refine q_iconst (v := (1 : Int32)) C dX12_drop_56 (by decide) ?_
            refine q_goto (tgt := 61) C dX12_drop_57 (by decide) ?_
            refine q_istore C ([(5, .int (1 : Int32)), (0, .ref o), (1, .int x1), (2, .int x2), (3, .int x3), (4, .int x4)]) dX12_drop_61 (by decide) rfl ?_
            refine q_iconst (v := (0 : Int32)) C dX12_drop_63 (by decide) ?_
            refine q_istore C ([(6, .int (0 : Int32)), (5, .int (1 : Int32)), (0, .ref o), (1, .int x1), (2, .int x2), (3, .int x3), (4, .int x4)]) dX12_drop_64 (by decide) rfl ?_
            obtain ⟨y5_25, hc26, hF⟩ := bind_c hF
            obtain ⟨n27, hc26⟩ := (ev_iff _ _ _).mp hc26
            refine q_lsel [2, 3, 4, 5, 6, 1, 0] rfl ?_
            refine L2 n27 x1 x2 x3 x4 (1 : Int32) (0 : Int32) y5_25 hc26 ?_
            refine q_iload C dX12_drop_122 5 rfl ?_
            refine q_if_eq (tgt := 132) C dX12_drop_124 (by decide) (fun c28 => ?_) (fun c28 => ?_)
            · have hF := ite_t hF c28
              refine q_iload_n C dX12_drop_132 3 rfl rfl ?_
              refine q_istore_n C ([(3, .int x3), (0, .ref o), (1, .int x1), (2, .int x2), (4, .int x4), (5, .int y5_25)]) dX12_drop_133 rfl (by decide) rfl ?_
              refine q_iinc (v := (x4 + (-1))) C ([(4, .int (x4 + (-1))), (3, .int x3), (0, .ref o), (1, .int x1), (2, .int x2), (5, .int y5_25)]) dX12_drop_134 4 rfl rfl (by decide) rfl ?_
              refine q_goto (tgt := 30) C dX12_drop_137 (by decide) ?_
              cases hF
              refine q_lsel [2, 3, 4, 1, 0] rfl ?_
              exact ih x1 x2 x3 (x4 + (-1)) y3 (hn _ rfl) hk
            · have hF := ite_f hF c28
              refine q_iload C dX12_drop_127 4 rfl ?_
              refine q_goto (tgt := 133) C dX12_drop_129 (by decide) ?_
              refine q_istore_n C ([(3, .int x4), (0, .ref o), (1, .int x1), (2, .int x2), (4, .int x4), (5, .int y5_25)]) dX12_drop_133 rfl (by decide) rfl ?_
              refine q_iinc (v := (x4 + (-1))) C ([(4, .int (x4 + (-1))), (3, .int x4), (0, .ref o), (1, .int x1), (2, .int x2), (5, .int y5_25)]) dX12_drop_134 4 rfl rfl (by decide) rfl ?_
              refine q_goto (tgt := 30) C dX12_drop_137 (by decide) ?_
              cases hF
              refine q_lsel [2, 3, 4, 1, 0] rfl ?_
              exact ih x1 x2 x4 (x4 + (-1)) y3 (hn _ rfl) hk
  unfold f_Model_drop at hF
  refine q_iload_n C dX12_drop_0 1 rfl rfl ?_
  refine q_iconst (v := (0 : Int32)) C dX12_drop_1 (by decide) ?_
  refine q_sipush (v := (1023 : Int32)) C dX12_drop_2 (by decide) ?_
  refine q_roz (q_runS (As := [.int p1, .int (0 : Int32), .int (1023 : Int32)]) (rest := []) C (fun sz => c_X12_in l dC dI cI cZ cQ p1 (0 : Int32) (1023 : Int32) (f_Model_in p1 (0 : Int32) (1023 : Int32)) rfl sz) (va_cwS 3 C.2.2.2.2.1 gX12_drop_X12_in rfl rfl rfl (by decide +kernel) ⟨Nat.le_of_ble_eq_true rfl, Nat.le_of_ble_eq_true rfl⟩) [] rfl rfl rfl rfl (Nat.le_of_ble_eq_true rfl) dX12_drop_5 ⟨Nat.zero_le _, Nat.zero_le _⟩) (fun hz29 => ?_)
  refine q_if_eq (tgt := 20) C dX12_drop_8 (by decide) (fun c30 => ?_) (fun c30 => ?_)
  · have hF := ite_t hF c30
    refine q_bipush (v := (-2 : Int32)) C dX12_drop_20 (by decide) ?_
    cases hF
    exact q_ireti C hA0 hr dX12_drop_22 hQ
  · have hF := ite_f hF c30
    refine q_iload_n C dX12_drop_11 2 rfl rfl ?_
    refine q_iconst (v := (0 : Int32)) C dX12_drop_12 (by decide) ?_
    refine q_iconst (v := (1 : Int32)) C dX12_drop_13 (by decide) ?_
    refine q_roz (q_runS (As := [.int p2, .int (0 : Int32), .int (1 : Int32)]) (rest := []) C (fun sz => c_X12_in l dC dI cI cZ cQ p2 (0 : Int32) (1 : Int32) (f_Model_in p2 (0 : Int32) (1 : Int32)) rfl sz) (va_cwS 3 C.2.2.2.2.1 gX12_drop_X12_in rfl rfl rfl (by decide +kernel) ⟨Nat.le_of_ble_eq_true rfl, Nat.le_of_ble_eq_true rfl⟩) [] rfl rfl rfl rfl (Nat.le_of_ble_eq_true rfl) dX12_drop_14 ⟨Nat.zero_le _, Nat.zero_le _⟩) (fun hz31 => ?_)
    refine q_if_ne (tgt := 23) C dX12_drop_17 (by decide) (fun c32 => ?_) (fun c32 => ?_)
    · have hF := ite_f hF c32
      refine q_iload_n C dX12_drop_23 1 rfl rfl ?_
      refine q_istore_n C ([(3, .int p1), (0, .ref o), (1, .int p1), (2, .int p2)]) dX12_drop_24 rfl (by decide) rfl ?_
      refine q_sipush (v := (1023 : Int32)) C dX12_drop_25 (by decide) ?_
      refine q_istore C ([(4, .int (1023 : Int32)), (3, .int p1), (0, .ref o), (1, .int p1), (2, .int p2)]) dX12_drop_28 (by decide) rfl ?_
      obtain ⟨y3_33, hc34, hF⟩ := bind_c hF
      obtain ⟨n35, hc34⟩ := (ev_iff _ _ _).mp hc34
      refine q_lsel [2, 3, 4, 1, 0] rfl ?_
      refine L1 n35 p1 p2 p1 (1023 : Int32) y3_33 hc34 ?_
      refine q_iload_n C dX12_drop_140 0 rfl rfl ?_
      refine q_iconst (v := (1 : Int32)) C dX12_drop_141 (by decide) ?_
      refine q_icmp_ne (tgt := 149) C dX12_drop_142 (by decide) (fun c36 => ?_) (fun c36 => ?_)
      · have hF := ite_f hF c36
        refine q_iload_n C dX12_drop_149 1 rfl rfl ?_
        obtain ⟨r37, hc38, hF⟩ := bind_c hF
        refine q_roi (q_runS (As := [.int y3_33]) (rest := []) C (fun sz => c_X12_bits l dC dI cI cZ cQ y3_33 r37 hc38 sz) (va_cwS 1 C.2.2.2.2.1 gX12_drop_X12_bits rfl rfl rfl (by decide +kernel) ⟨Nat.le_of_ble_eq_true rfl, Nat.le_of_ble_eq_true rfl⟩) [] rfl rfl rfl rfl (Nat.le_of_ble_eq_true rfl) dX12_drop_150 ⟨Nat.zero_le _, Nat.zero_le _⟩) ?_
        cases hF
        exact q_ireti C hA0 hr dX12_drop_153 hQ
      · have hF := ite_t hF c36
        refine q_iload_n C dX12_drop_145 1 rfl rfl ?_
        refine q_goto (tgt := 153) C dX12_drop_146 (by decide) ?_
        cases hF
        exact q_ireti C hA0 hr dX12_drop_153 hQ
    · have hF := ite_t hF c32
      refine q_bipush (v := (-2 : Int32)) C dX12_drop_20 (by decide) ?_
      cases hF
      exact q_ireti C hA0 hr dX12_drop_22 hQ
set_option maxRecDepth 100000 in
set_option maxHeartbeats 4000000 in
theorem c_X12_share (l : Launch) (dC : Nat → ClassId) (dI : Nat → Nat → Nat) (cI cZ cQ : ClassId) (o o_book o_got o_now o_moults o_words o_clashes o_rocks o_count o_pad o_reached o_queue o_wins o_image o_isKept : Nat) (v_book : Nat → Int32) (v_got : Nat → Int32) (v_counts : Int32) (v_signs : Int32) (v_readMany : Int32) (v_signedAll : Int32) (v_reason : Int32) (v_acts : Int32) (v_waitUp : Int64) (v_waitLow : Int64) (p1 : Int32) (p2 : Int32) (R : Int32) (w_got : Nat → Int32) (hF : f_Model_share v_book v_got p1 p2 = some (R, w_got)) (sz : Nat) : Met l yX12_share wsX12_share ({ frames := 2, cells := 0, slots := 0, locals := 43 } : Room) (qPc ([.ref o, .int p1, .int p2]) (dC, dI) (qT cI cZ cQ) ([(o, .inr (12, [.ref o_book, .ref o_now, .ref o_moults, .ref o_words, .ref o_clashes, .ref o_rocks, .int v_counts, .ref o_count, .int v_signs, .ref o_pad, .int v_readMany, .int v_signedAll, .int v_reason, .int v_acts, .ref o_reached, .ref o_queue, .ref o_got, .long v_waitUp, .long v_waitLow, .ref o_wins, .ref o_image, .ref o_isKept])), (o_book, .inl (cI, 21, .inl v_book)), (o_got, .inl (cI, 6, .inl v_got))]) sz) (qWi R (dC, dI) ([(o, .inr (12, [.ref o_book, .ref o_now, .ref o_moults, .ref o_words, .ref o_clashes, .ref o_rocks, .int v_counts, .ref o_count, .int v_signs, .ref o_pad, .int v_readMany, .int v_signedAll, .int v_reason, .int v_acts, .ref o_reached, .ref o_queue, .ref o_got, .long v_waitUp, .long v_waitLow, .ref o_wins, .ref o_image, .ref o_isKept])), (o_book, .inl (cI, 21, .inl v_book)), (o_got, .inl (cI, 6, .inl w_got))]) (va_A ([(o, .inr (12, [.ref o_book, .ref o_now, .ref o_moults, .ref o_words, .ref o_clashes, .ref o_rocks, .int v_counts, .ref o_count, .int v_signs, .ref o_pad, .int v_readMany, .int v_signedAll, .int v_reason, .int v_acts, .ref o_reached, .ref o_queue, .ref o_got, .long v_waitUp, .long v_waitLow, .ref o_wins, .ref o_image, .ref o_isKept])), (o_book, .inl (cI, 21, .inl v_book)), (o_got, .inl (cI, 6, .inl v_got))]) sz)) 0 0 (va_A ([(o, .inr (12, [.ref o_book, .ref o_now, .ref o_moults, .ref o_words, .ref o_clashes, .ref o_rocks, .int v_counts, .ref o_count, .int v_signs, .ref o_pad, .int v_readMany, .int v_signedAll, .int v_reason, .int v_acts, .ref o_reached, .ref o_queue, .ref o_got, .long v_waitUp, .long v_waitLow, .ref o_wins, .ref o_image, .ref o_isKept])), (o_book, .inl (cI, 21, .inl v_book)), (o_got, .inl (cI, 6, .inl v_got))]) sz) := by
  refine q_met_w (Qc := fun A => qWi R (dC, dI) ([(o, .inr (12, [.ref o_book, .ref o_now, .ref o_moults, .ref o_words, .ref o_clashes, .ref o_rocks, .int v_counts, .ref o_count, .int v_signs, .ref o_pad, .int v_readMany, .int v_signedAll, .int v_reason, .int v_acts, .ref o_reached, .ref o_queue, .ref o_got, .long v_waitUp, .long v_waitLow, .ref o_wins, .ref o_image, .ref o_isKept])), (o_book, .inl (cI, 21, .inl v_book)), (o_got, .inl (cI, 6, .inl w_got))]) A) (cc := cX12_share) (own := RX12) (maxL := 7) (ret := (some .int)) (lv0 := [(0, .ref o), (1, .int p1), (2, .int p2)]) (by decide) rfl rfl rfl (Nat.le_of_ble_eq_true rfl) ?_
  intro p e s m args below meth c A hA C hr hnm Q hQ
  have lk0 : Cond.fieldLink RX12 40 "SealStraitModel" "got" "[I" ∈ wsX12_share := by decide +kernel
  have lk1 : ∀ w ∈ u_ws RX12 TX12 22, w ∈ wsX12_share := fun w h => List.mem_cons_of_mem _ (List.mem_append_right _ h)
  have lk2 : Cond.fieldLink RX12 7 "SealStraitModel" "book" "[I" ∈ wsX12_share := by decide +kernel
  have L1 : ∀ (n : Nat) (x1 : Int32) (x2 : Int32) (x3 : Int32) (x4 : Int32) (v_got : Nat → Int32) (y3 : Int32) (z_got : Nat → Int32), evr (fun s => b_Model_share_1 v_book s.1 s.2.1 s.2.2) n (x3, x4, v_got) = some (y3, z_got) → qG p l e ({ frames := 2, cells := 0, slots := 0, locals := 43 } : Room) s m args below meth c 7 (dC, dI) A A Q 0 0 ([(0, .ref o), (1, .int x1), (2, .int x2), (3, .int y3)]) [] ([(o, .inr (12, [.ref o_book, .ref o_now, .ref o_moults, .ref o_words, .ref o_clashes, .ref o_rocks, .int v_counts, .ref o_count, .int v_signs, .ref o_pad, .int v_readMany, .int v_signedAll, .int v_reason, .int v_acts, .ref o_reached, .ref o_queue, .ref o_got, .long v_waitUp, .long v_waitLow, .ref o_wins, .ref o_image, .ref o_isKept])), (o_book, .inl (cI, 21, .inl v_book)), (o_got, .inl (cI, 6, .inl z_got))]) 72 → qG p l e ({ frames := 2, cells := 0, slots := 0, locals := 43 } : Room) s m args below meth c 7 (dC, dI) A A Q 0 0 ([(0, .ref o), (1, .int x1), (2, .int x2), (3, .int x3), (4, .int x4)]) [] ([(o, .inr (12, [.ref o_book, .ref o_now, .ref o_moults, .ref o_words, .ref o_clashes, .ref o_rocks, .int v_counts, .ref o_count, .int v_signs, .ref o_pad, .int v_readMany, .int v_signedAll, .int v_reason, .int v_acts, .ref o_reached, .ref o_queue, .ref o_got, .long v_waitUp, .long v_waitLow, .ref o_wins, .ref o_image, .ref o_isKept])), (o_book, .inl (cI, 21, .inl v_book)), (o_got, .inl (cI, 6, .inl v_got))]) 28 := by
    clear hF
    intro n
    induction n with
    | zero => intro x1 x2 x3 x4 v_got y3 z_got hF; exact (evr_0 hF).elim
    | succ n ih =>
      intro x1 x2 x3 x4 v_got y3 z_got hF hk
      obtain ⟨o9, hB, hn, hx⟩ := evr_c hF
      have hF : b_Model_share_1 v_book x3 x4 v_got = some o9 := hB
      unfold b_Model_share_1 at hF
      refine q_iload C dX12_share_28 4 rfl ?_
      refine q_bipush (v := (6 : Int32)) C dX12_share_30 (by decide) ?_
      refine q_icmp_ge (tgt := 72) C dX12_share_32 (by decide) (fun c1 => ?_) (fun c1 => ?_)
      · have hF := ite_t hF c1
        cases hF
        have e2 := hx _ rfl
        cases e2
        refine q_lsel [0, 1, 2, 3] rfl ?_
        exact hk
      · have hF := ite_f hF c1
        refine q_aload_n C dX12_share_35 0 rfl rfl ?_
        refine q_get (C0 := RX12) (T := TX12) (N := 22) (k0 := 16) C lk1 0 rfl rfl (by decide) lk0 rfl (v := .ref o_got) rfl dX12_share_36 ?_
        refine q_iload C dX12_share_39 4 rfl ?_
        refine q_iconst (v := (0 : Int32)) C dX12_share_41 (by decide) ?_
        obtain ⟨hc3, hF⟩ := ite_c hF
        refine q_iast C 2 0 rfl rfl (ix_in hc3) ([(o, .inr (12, [.ref o_book, .ref o_now, .ref o_moults, .ref o_words, .ref o_clashes, .ref o_rocks, .int v_counts, .ref o_count, .int v_signs, .ref o_pad, .int v_readMany, .int v_signedAll, .int v_reason, .int v_acts, .ref o_reached, .ref o_queue, .ref o_got, .long v_waitUp, .long v_waitLow, .ref o_wins, .ref o_image, .ref o_isKept])), (o_book, .inl (cI, 21, .inl v_book)), (o_got, .inl (cI, 6, .inl (upd v_got (x4).toNatClampNeg (0 : Int32))))]) rfl dX12_share_42 ?_
        refine q_iload_n C dX12_share_43 3 rfl rfl ?_
        refine q_aload_n C dX12_share_44 0 rfl rfl ?_
        refine q_iload C dX12_share_45 4 rfl ?_
        refine q_roz (q_runV (As := [.int x4]) (rest := [.int x3]) C (fun sz => c_X12_isThere l dC dI cI cZ cQ o o_book o_now o_moults o_words o_clashes o_rocks o_count o_pad o_reached o_queue o_got o_wins o_image o_isKept v_book v_counts v_signs v_readMany v_signedAll v_reason v_acts v_waitUp v_waitLow x4 (f_Model_isThere v_book x4) rfl sz) (cwV 1 C.2.2.2.2.1 gX12_share_X12_isThere rfl rfl rfl (by decide +kernel) ⟨Nat.le_of_ble_eq_true rfl, Nat.le_of_ble_eq_true rfl⟩) 0 rfl rfl rfl [0, 1] rfl rfl rfl rfl (Nat.le_of_ble_eq_true rfl) dX12_share_47 ⟨Nat.zero_le _, Nat.zero_le _⟩) (fun hz4 => ?_)
        refine q_if_eq (tgt := 63) C dX12_share_50 (by decide) (fun c5 => ?_) (fun c5 => ?_)
        · have hF := ite_t hF c5
          refine q_iconst (v := (0 : Int32)) C dX12_share_63 (by decide) ?_
          refine q_iadd C dX12_share_64 ?_
          refine q_istore_n C ([(3, .int (x3 + (0 : Int32))), (0, .ref o), (1, .int x1), (2, .int x2), (4, .int x4)]) dX12_share_65 rfl (by decide) rfl ?_
          refine q_iinc (v := (x4 + 1)) C ([(4, .int (x4 + 1)), (3, .int (x3 + (0 : Int32))), (0, .ref o), (1, .int x1), (2, .int x2)]) dX12_share_66 4 rfl rfl (by decide) rfl ?_
          refine q_goto (tgt := 28) C dX12_share_69 (by decide) ?_
          cases hF
          refine q_lsel [2, 3, 4, 1, 0] rfl ?_
          exact ih x1 x2 (x3 + (0 : Int32)) (x4 + 1) (upd v_got (x4).toNatClampNeg (0 : Int32)) y3 z_got (hn _ rfl) hk
        · have hF := ite_f hF c5
          refine q_aload_n C dX12_share_53 0 rfl rfl ?_
          refine q_get (C0 := RX12) (T := TX12) (N := 22) (k0 := 0) C lk1 0 rfl rfl (by decide) lk2 rfl (v := .ref o_book) rfl dX12_share_54 ?_
          refine q_iload C dX12_share_57 4 rfl ?_
          obtain ⟨hc6, hF⟩ := ite_c hF
          refine q_iald C 1 0 rfl rfl (ix_in hc6) dX12_share_59 ?_
          refine q_goto (tgt := 64) C dX12_share_60 (by decide) ?_
          refine q_iadd C dX12_share_64 ?_
          refine q_istore_n C ([(3, .int (x3 + (v_book (x4).toNatClampNeg))), (0, .ref o), (1, .int x1), (2, .int x2), (4, .int x4)]) dX12_share_65 rfl (by decide) rfl ?_
          refine q_iinc (v := (x4 + 1)) C ([(4, .int (x4 + 1)), (3, .int (x3 + (v_book (x4).toNatClampNeg))), (0, .ref o), (1, .int x1), (2, .int x2)]) dX12_share_66 4 rfl rfl (by decide) rfl ?_
          refine q_goto (tgt := 28) C dX12_share_69 (by decide) ?_
          cases hF
          refine q_lsel [2, 3, 4, 1, 0] rfl ?_
          exact ih x1 x2 (x3 + (v_book (x4).toNatClampNeg)) (x4 + 1) (upd v_got (x4).toNatClampNeg (0 : Int32)) y3 z_got (hn _ rfl) hk
  have L3 : ∀ (n : Nat) (x1 : Int32) (x2 : Int32) (x4 : Int32) (x5 : Int32) (x6 : Int32) (v_got : Nat → Int32) (y5 : Int32), evr (fun s => b_Model_share_3 v_got v_book s.1 s.2) n (x5, x6) = some y5 → qG p l e ({ frames := 2, cells := 0, slots := 0, locals := 43 } : Room) s m args below meth c 7 (dC, dI) A A Q 0 0 ([(0, .ref o), (1, .int x1), (2, .int x2), (4, .int x4), (5, .int y5)]) [] ([(o, .inr (12, [.ref o_book, .ref o_now, .ref o_moults, .ref o_words, .ref o_clashes, .ref o_rocks, .int v_counts, .ref o_count, .int v_signs, .ref o_pad, .int v_readMany, .int v_signedAll, .int v_reason, .int v_acts, .ref o_reached, .ref o_queue, .ref o_got, .long v_waitUp, .long v_waitLow, .ref o_wins, .ref o_image, .ref o_isKept])), (o_book, .inl (cI, 21, .inl v_book)), (o_got, .inl (cI, 6, .inl v_got))]) 163 → qG p l e ({ frames := 2, cells := 0, slots := 0, locals := 43 } : Room) s m args below meth c 7 (dC, dI) A A Q 0 0 ([(0, .ref o), (1, .int x1), (2, .int x2), (4, .int x4), (5, .int x5), (6, .int x6)]) [] ([(o, .inr (12, [.ref o_book, .ref o_now, .ref o_moults, .ref o_words, .ref o_clashes, .ref o_rocks, .int v_counts, .ref o_count, .int v_signs, .ref o_pad, .int v_readMany, .int v_signedAll, .int v_reason, .int v_acts, .ref o_reached, .ref o_queue, .ref o_got, .long v_waitUp, .long v_waitLow, .ref o_wins, .ref o_image, .ref o_isKept])), (o_book, .inl (cI, 21, .inl v_book)), (o_got, .inl (cI, 6, .inl v_got))]) 95 := by
    clear hF
    intro n
    induction n with
    | zero => intro x1 x2 x4 x5 x6 v_got y5 hF; exact (evr_0 hF).elim
    | succ n ih =>
      intro x1 x2 x4 x5 x6 v_got y5 hF hk
      obtain ⟨o9, hB, hn, hx⟩ := evr_c hF
      have hF : b_Model_share_3 v_got v_book x5 x6 = some o9 := hB
      unfold b_Model_share_3 at hF
      refine q_iload C dX12_share_95 5 rfl ?_
      refine q_bipush (v := (6 : Int32)) C dX12_share_97 (by decide) ?_
      refine q_icmp_ge (tgt := 163) C dX12_share_99 (by decide) (fun c7 => ?_) (fun c7 => ?_)
      · have hF := ite_t hF c7
        cases hF
        have e8 := hx _ rfl
        cases e8
        refine q_lsel [0, 1, 2, 3, 4] rfl ?_
        exact hk
      · have hF := ite_f hF c7
        refine q_aload_n C dX12_share_102 0 rfl rfl ?_
        refine q_iload C dX12_share_103 5 rfl ?_
        refine q_roz (q_runV (As := [.int x6]) (rest := []) C (fun sz => c_X12_isThere l dC dI cI cZ cQ o o_book o_now o_moults o_words o_clashes o_rocks o_count o_pad o_reached o_queue o_got o_wins o_image o_isKept v_book v_counts v_signs v_readMany v_signedAll v_reason v_acts v_waitUp v_waitLow x6 (f_Model_isThere v_book x6) rfl sz) (cwV 1 C.2.2.2.2.1 gX12_share_X12_isThere rfl rfl rfl (by decide +kernel) ⟨Nat.le_of_ble_eq_true rfl, Nat.le_of_ble_eq_true rfl⟩) 0 rfl rfl rfl [0, 1] rfl rfl rfl rfl (Nat.le_of_ble_eq_true rfl) dX12_share_105 ⟨Nat.zero_le _, Nat.zero_le _⟩) (fun hz9 => ?_)
        refine q_if_eq (tgt := 157) C dX12_share_108 (by decide) (fun c10 => ?_) (fun c10 => ?_)
        · have hF := ite_t hF c10
          refine q_iinc (v := (x6 + 1)) C ([(6, .int (x6 + 1)), (0, .ref o), (1, .int x1), (2, .int x2), (4, .int x4), (5, .int x5)]) dX12_share_157 5 rfl rfl (by decide) rfl ?_
          refine q_goto (tgt := 95) C dX12_share_160 (by decide) ?_
          cases hF
          refine q_lsel [1, 2, 3, 4, 5, 0] rfl ?_
          exact ih x1 x2 x4 x5 (x6 + 1) v_got y5 (hn _ rfl) hk
        · have hF := ite_f hF c10
          refine q_iload C dX12_share_111 4 rfl ?_
          refine q_if_lt (tgt := 153) C dX12_share_113 (by decide) (fun c11 => ?_) (fun c11 => ?_)
          · have hF := ite_t hF c11
            refine q_iload C dX12_share_153 5 rfl ?_
            refine q_istore C ([(5, .int x6), (0, .ref o), (1, .int x1), (2, .int x2), (4, .int x4), (6, .int x6)]) dX12_share_155 (by decide) rfl ?_
            refine q_iinc (v := (x6 + 1)) C ([(6, .int (x6 + 1)), (5, .int x6), (0, .ref o), (1, .int x1), (2, .int x2), (4, .int x4)]) dX12_share_157 5 rfl rfl (by decide) rfl ?_
            refine q_goto (tgt := 95) C dX12_share_160 (by decide) ?_
            cases hF
            refine q_lsel [2, 3, 4, 5, 1, 0] rfl ?_
            exact ih x1 x2 x4 x6 (x6 + 1) v_got y5 (hn _ rfl) hk
          · have hF := ite_f hF c11
            refine q_aload_n C dX12_share_116 0 rfl rfl ?_
            refine q_get (C0 := RX12) (T := TX12) (N := 22) (k0 := 0) C lk1 0 rfl rfl (by decide) lk2 rfl (v := .ref o_book) rfl dX12_share_117 ?_
            refine q_iload C dX12_share_120 5 rfl ?_
            obtain ⟨hc12, hF⟩ := ite_c hF
            refine q_iald C 1 0 rfl rfl (ix_in hc12) dX12_share_122 ?_
            refine q_aload_n C dX12_share_123 0 rfl rfl ?_
            refine q_get (C0 := RX12) (T := TX12) (N := 22) (k0 := 16) C lk1 0 rfl rfl (by decide) lk0 rfl (v := .ref o_got) rfl dX12_share_124 ?_
            refine q_iload C dX12_share_127 4 rfl ?_
            obtain ⟨hc13, hF⟩ := ite_c hF
            refine q_iald C 2 0 rfl rfl (ix_in hc13) dX12_share_129 ?_
            refine q_iconst (v := (1 : Int32)) C dX12_share_130 (by decide) ?_
            refine q_iadd C dX12_share_131 ?_
            refine q_imul C dX12_share_132 ?_
            refine q_aload_n C dX12_share_133 0 rfl rfl ?_
            refine q_get (C0 := RX12) (T := TX12) (N := 22) (k0 := 0) C lk1 0 rfl rfl (by decide) lk2 rfl (v := .ref o_book) rfl dX12_share_134 ?_
            refine q_iload C dX12_share_137 4 rfl ?_
            obtain ⟨hc14, hF⟩ := ite_c hF
            refine q_iald C 1 0 rfl rfl (ix_in hc14) dX12_share_139 ?_
            refine q_aload_n C dX12_share_140 0 rfl rfl ?_
            refine q_get (C0 := RX12) (T := TX12) (N := 22) (k0 := 16) C lk1 0 rfl rfl (by decide) lk0 rfl (v := .ref o_got) rfl dX12_share_141 ?_
            refine q_iload C dX12_share_144 5 rfl ?_
            obtain ⟨hc15, hF⟩ := ite_c hF
            refine q_iald C 2 0 rfl rfl (ix_in hc15) dX12_share_146 ?_
            refine q_iconst (v := (1 : Int32)) C dX12_share_147 (by decide) ?_
            refine q_iadd C dX12_share_148 ?_
            refine q_imul C dX12_share_149 ?_
            refine q_icmp_le (tgt := 157) C dX12_share_150 (by decide) (fun c16 => ?_) (fun c16 => ?_)
            · have hF := ite_t hF c16
              refine q_iinc (v := (x6 + 1)) C ([(6, .int (x6 + 1)), (0, .ref o), (1, .int x1), (2, .int x2), (4, .int x4), (5, .int x5)]) dX12_share_157 5 rfl rfl (by decide) rfl ?_
              refine q_goto (tgt := 95) C dX12_share_160 (by decide) ?_
              cases hF
              refine q_lsel [1, 2, 3, 4, 5, 0] rfl ?_
              exact ih x1 x2 x4 x5 (x6 + 1) v_got y5 (hn _ rfl) hk
            · have hF := ite_f hF c16
              refine q_iload C dX12_share_153 5 rfl ?_
              refine q_istore C ([(5, .int x6), (0, .ref o), (1, .int x1), (2, .int x2), (4, .int x4), (6, .int x6)]) dX12_share_155 (by decide) rfl ?_
              refine q_iinc (v := (x6 + 1)) C ([(6, .int (x6 + 1)), (5, .int x6), (0, .ref o), (1, .int x1), (2, .int x2), (4, .int x4)]) dX12_share_157 5 rfl rfl (by decide) rfl ?_
              refine q_goto (tgt := 95) C dX12_share_160 (by decide) ?_
              cases hF
              refine q_lsel [2, 3, 4, 5, 1, 0] rfl ?_
              exact ih x1 x2 x4 x6 (x6 + 1) v_got y5 (hn _ rfl) hk
  have L2 : ∀ (n : Nat) (x1 : Int32) (x2 : Int32) (x4 : Int32) (v_got : Nat → Int32) (z_got : Nat → Int32), evr (fun s => b_Model_share_2 x2 v_book s.1 s.2) n (x4, v_got) = some z_got → qG p l e ({ frames := 2, cells := 0, slots := 0, locals := 43 } : Room) s m args below meth c 7 (dC, dI) A A Q 0 0 ([(0, .ref o), (1, .int x1)]) [] ([(o, .inr (12, [.ref o_book, .ref o_now, .ref o_moults, .ref o_words, .ref o_clashes, .ref o_rocks, .int v_counts, .ref o_count, .int v_signs, .ref o_pad, .int v_readMany, .int v_signedAll, .int v_reason, .int v_acts, .ref o_reached, .ref o_queue, .ref o_got, .long v_waitUp, .long v_waitLow, .ref o_wins, .ref o_image, .ref o_isKept])), (o_book, .inl (cI, 21, .inl v_book)), (o_got, .inl (cI, 6, .inl z_got))]) 180 → qG p l e ({ frames := 2, cells := 0, slots := 0, locals := 43 } : Room) s m args below meth c 7 (dC, dI) A A Q 0 0 ([(0, .ref o), (1, .int x1), (2, .int x2), (4, .int x4)]) [] ([(o, .inr (12, [.ref o_book, .ref o_now, .ref o_moults, .ref o_words, .ref o_clashes, .ref o_rocks, .int v_counts, .ref o_count, .int v_signs, .ref o_pad, .int v_readMany, .int v_signedAll, .int v_reason, .int v_acts, .ref o_reached, .ref o_queue, .ref o_got, .long v_waitUp, .long v_waitLow, .ref o_wins, .ref o_image, .ref o_isKept])), (o_book, .inl (cI, 21, .inl v_book)), (o_got, .inl (cI, 6, .inl v_got))]) 82 := by
    clear hF
    intro n
    induction n with
    | zero => intro x1 x2 x4 v_got z_got hF; exact (evr_0 hF).elim
    | succ n ih =>
      intro x1 x2 x4 v_got z_got hF hk
      obtain ⟨o9, hB, hn, hx⟩ := evr_c hF
      have hF : b_Model_share_2 x2 v_book x4 v_got = some o9 := hB
      unfold b_Model_share_2 at hF
      refine q_iload C dX12_share_82 3 rfl ?_
      refine q_iload_n C dX12_share_84 2 rfl rfl ?_
      refine q_icmp_ge (tgt := 180) C dX12_share_85 (by decide) (fun c17 => ?_) (fun c17 => ?_)
      · have hF := ite_t hF c17
        cases hF
        have e18 := hx _ rfl
        cases e18
        refine q_lsel [0, 1] rfl ?_
        exact hk
      · have hF := ite_f hF c17
        refine q_bipush (v := (-6 : Int32)) C dX12_share_88 (by decide) ?_
        refine q_istore C ([(5, .int (-6 : Int32)), (0, .ref o), (1, .int x1), (2, .int x2), (4, .int x4)]) dX12_share_90 (by decide) rfl ?_
        refine q_iconst (v := (0 : Int32)) C dX12_share_92 (by decide) ?_
        refine q_istore C ([(6, .int (0 : Int32)), (5, .int (-6 : Int32)), (0, .ref o), (1, .int x1), (2, .int x2), (4, .int x4)]) dX12_share_93 (by decide) rfl ?_
        obtain ⟨y5_19, hc20, hF⟩ := bind_c hF
        obtain ⟨n21, hc20⟩ := (ev_iff _ _ _).mp hc20
        refine q_lsel [2, 3, 4, 5, 1, 0] rfl ?_
        refine L3 n21 x1 x2 x4 (-6 : Int32) (0 : Int32) v_got y5_19 hc20 ?_
        refine q_aload_n C dX12_share_163 0 rfl rfl ?_
        refine q_get (C0 := RX12) (T := TX12) (N := 22) (k0 := 16) C lk1 0 rfl rfl (by decide) lk0 rfl (v := .ref o_got) rfl dX12_share_164 ?_
        refine q_iload C dX12_share_167 4 rfl ?_
        refine q_dup2 C dX12_share_169 rfl rfl ?_
        obtain ⟨hc22, hF⟩ := ite_c hF
        refine q_iald C 2 0 rfl rfl (ix_in hc22) dX12_share_170 ?_
        refine q_iconst (v := (1 : Int32)) C dX12_share_171 (by decide) ?_
        refine q_iadd C dX12_share_172 ?_
        obtain ⟨hc23, hF⟩ := ite_c hF
        refine q_iast C 2 0 rfl rfl (ix_in hc23) ([(o, .inr (12, [.ref o_book, .ref o_now, .ref o_moults, .ref o_words, .ref o_clashes, .ref o_rocks, .int v_counts, .ref o_count, .int v_signs, .ref o_pad, .int v_readMany, .int v_signedAll, .int v_reason, .int v_acts, .ref o_reached, .ref o_queue, .ref o_got, .long v_waitUp, .long v_waitLow, .ref o_wins, .ref o_image, .ref o_isKept])), (o_book, .inl (cI, 21, .inl v_book)), (o_got, .inl (cI, 6, .inl (upd v_got (y5_19).toNatClampNeg ((v_got (y5_19).toNatClampNeg) + (1 : Int32)))))]) rfl dX12_share_173 ?_
        refine q_iinc (v := (x4 + 1)) C ([(4, .int (x4 + 1)), (0, .ref o), (1, .int x1), (2, .int x2), (5, .int y5_19)]) dX12_share_174 3 rfl rfl (by decide) rfl ?_
        refine q_goto (tgt := 82) C dX12_share_177 (by decide) ?_
        cases hF
        refine q_lsel [1, 2, 3, 0] rfl ?_
        exact ih x1 x2 (x4 + 1) (upd v_got (y5_19).toNatClampNeg ((v_got (y5_19).toNatClampNeg) + (1 : Int32))) z_got (hn _ rfl) hk
  unfold f_Model_share at hF
  refine q_aload_n C dX12_share_0 0 rfl rfl ?_
  refine q_iload_n C dX12_share_1 1 rfl rfl ?_
  refine q_roz (q_runV (As := [.int p1]) (rest := []) C (fun sz => c_X12_isThere l dC dI cI cZ cQ o o_book o_now o_moults o_words o_clashes o_rocks o_count o_pad o_reached o_queue o_got o_wins o_image o_isKept v_book v_counts v_signs v_readMany v_signedAll v_reason v_acts v_waitUp v_waitLow p1 (f_Model_isThere v_book p1) rfl sz) (cwV 1 C.2.2.2.2.1 gX12_share_X12_isThere rfl rfl rfl (by decide +kernel) ⟨Nat.le_of_ble_eq_true rfl, Nat.le_of_ble_eq_true rfl⟩) 0 rfl rfl rfl [0, 1] rfl rfl rfl rfl (Nat.le_of_ble_eq_true rfl) dX12_share_2 ⟨Nat.zero_le _, Nat.zero_le _⟩) (fun hz24 => ?_)
  refine q_if_ne (tgt := 10) C dX12_share_5 (by decide) (fun c25 => ?_) (fun c25 => ?_)
  · have hF := ite_f hF c25
    refine q_iload_n C dX12_share_10 2 rfl rfl ?_
    refine q_iconst (v := (0 : Int32)) C dX12_share_11 (by decide) ?_
    refine q_bipush (v := (99 : Int32)) C dX12_share_12 (by decide) ?_
    refine q_roz (q_runS (As := [.int p2, .int (0 : Int32), .int (99 : Int32)]) (rest := []) C (fun sz => c_X12_in l dC dI cI cZ cQ p2 (0 : Int32) (99 : Int32) (f_Model_in p2 (0 : Int32) (99 : Int32)) rfl sz) (va_cwS 3 C.2.2.2.2.1 gX12_share_X12_in rfl rfl rfl (by decide +kernel) ⟨Nat.le_of_ble_eq_true rfl, Nat.le_of_ble_eq_true rfl⟩) [] rfl rfl rfl rfl (Nat.le_of_ble_eq_true rfl) dX12_share_14 ⟨Nat.zero_le _, Nat.zero_le _⟩) (fun hz26 => ?_)
    refine q_if_ne (tgt := 23) C dX12_share_17 (by decide) (fun c27 => ?_) (fun c27 => ?_)
    · have hF := ite_f hF c27
      refine q_iconst (v := (0 : Int32)) C dX12_share_23 (by decide) ?_
      refine q_istore_n C ([(3, .int (0 : Int32)), (0, .ref o), (1, .int p1), (2, .int p2)]) dX12_share_24 rfl (by decide) rfl ?_
      refine q_iconst (v := (0 : Int32)) C dX12_share_25 (by decide) ?_
      refine q_istore C ([(4, .int (0 : Int32)), (3, .int (0 : Int32)), (0, .ref o), (1, .int p1), (2, .int p2)]) dX12_share_26 (by decide) rfl ?_
      obtain ⟨⟨y3_28, z28_got⟩, hc29, hF⟩ := bind_c hF
      dsimp only at hF
      obtain ⟨n30, hc29⟩ := (ev_iff _ _ _).mp hc29
      refine q_lsel [2, 3, 4, 1, 0] rfl ?_
      refine L1 n30 p1 p2 (0 : Int32) (0 : Int32) v_got y3_28 z28_got hc29 ?_
      refine q_iload_n C dX12_share_72 3 rfl rfl ?_
      refine q_if_ne (tgt := 79) C dX12_share_73 (by decide) (fun c31 => ?_) (fun c31 => ?_)
      · have hF := ite_f hF c31
        refine q_iconst (v := (0 : Int32)) C dX12_share_79 (by decide) ?_
        refine q_istore C ([(4, .int (0 : Int32)), (0, .ref o), (1, .int p1), (2, .int p2), (3, .int y3_28)]) dX12_share_80 (by decide) rfl ?_
        obtain ⟨z32_got, hc33, hF⟩ := bind_c hF
        obtain ⟨n34, hc33⟩ := (ev_iff _ _ _).mp hc33
        refine q_lsel [1, 2, 3, 0] rfl ?_
        refine L2 n34 p1 p2 (0 : Int32) z28_got z32_got hc33 ?_
        refine q_aload_n C dX12_share_180 0 rfl rfl ?_
        refine q_get (C0 := RX12) (T := TX12) (N := 22) (k0 := 16) C lk1 0 rfl rfl (by decide) lk0 rfl (v := .ref o_got) rfl dX12_share_181 ?_
        refine q_iload_n C dX12_share_184 1 rfl rfl ?_
        obtain ⟨hc35, hF⟩ := ite_c hF
        refine q_iald C 2 0 rfl rfl (ix_in hc35) dX12_share_185 ?_
        cases hF
        exact q_wreti C hr dX12_share_186 hQ
      · have hF := ite_t hF c31
        refine q_bipush (v := (-6 : Int32)) C dX12_share_76 (by decide) ?_
        cases hF
        exact q_wreti C hr dX12_share_78 hQ
    · have hF := ite_t hF c27
      refine q_bipush (v := (-2 : Int32)) C dX12_share_20 (by decide) ?_
      cases hF
      exact q_wreti C hr dX12_share_22 hQ
  · have hF := ite_t hF c25
    refine q_iconst (v := (-1 : Int32)) C dX12_share_8 (by decide) ?_
    cases hF
    exact q_wreti C hr dX12_share_9 hQ
set_option maxRecDepth 100000 in
set_option maxHeartbeats 4000000 in
theorem c_X12_lowest (l : Launch) (dC : Nat → ClassId) (dI : Nat → Nat → Nat) (cI cZ cQ : ClassId) (p1 : Int64) (p2 : Int64) (p3 : Int32) (R : Int64) (hF : f_Model_lowest p1 p2 p3 = some R) (sz : Nat) : Met l yX12_lowest wsX12_lowest ({ frames := 0, cells := 0, slots := 0, locals := 0 } : Room) (qPc ([.long p1, .long p2, .int p3]) (dC, dI) (qT cI cZ cQ) ([]) sz) (qRl R) 0 0 (fun _ => False) := by
  refine q_met_r (cc := cX12_lowest) (own := RX12) (maxL := 11) (ret := (some .long)) (lv0 := [(0, .long p1), (2, .long p2), (4, .int p3)]) (by decide) rfl rfl rfl (Nat.le_of_ble_eq_true rfl) ?_
  intro p e s m args below meth c C hr A A' Q hA0 hQ
  have L1 : ∀ (n : Nat) (x0 : Int64) (x2 : Int64) (x4 : Int32) (x5 : Int64) (x7 : Int64) (y5 : Int64), evr (fun s => b_Model_lowest_1 s.1 s.2) n (x5, x7) = some y5 → qG p l e ({ frames := 0, cells := 0, slots := 0, locals := 0 } : Room) s m args below meth c 11 (dC, dI) A A' Q 0 0 ([(0, .long x0), (2, .long x2), (4, .int x4), (5, .long y5)]) [] ([]) 31 → qG p l e ({ frames := 0, cells := 0, slots := 0, locals := 0 } : Room) s m args below meth c 11 (dC, dI) A A' Q 0 0 ([(0, .long x0), (2, .long x2), (4, .int x4), (5, .long x5), (7, .long x7)]) [] ([]) 6 := by
    clear hF
    intro n
    induction n with
    | zero => intro x0 x2 x4 x5 x7 y5 hF; exact (evr_0 hF).elim
    | succ n ih =>
      intro x0 x2 x4 x5 x7 y5 hF hk
      obtain ⟨o9, hB, hn, hx⟩ := evr_c hF
      have hF : b_Model_lowest_1  x5 x7 = some o9 := hB
      unfold b_Model_lowest_1 at hF
      refine q_lload C dX12_lowest_6 4 rfl ?_
      refine q_lconst (v := (0 : Int64)) C dX12_lowest_8 (by decide) ?_
      refine q_lcmp C dX12_lowest_9 ?_
      refine q_if_eq (tgt := 31) C dX12_lowest_10 (by decide) (fun c1 => ?_) (fun c1 => ?_)
      · have hF := ite_t hF c1
        cases hF
        have e2 := hx _ rfl
        cases e2
        refine q_lsel [0, 1, 2, 3] rfl ?_
        exact hk
      · have hF := ite_f hF c1
        refine q_lload C dX12_lowest_13 3 rfl ?_
        refine q_lload C dX12_lowest_15 4 rfl ?_
        obtain ⟨hc3, hF⟩ := ite_c hF
        refine q_lrem C dX12_lowest_17 hc3 ?_
        refine q_lstore C ([(9, .long (x5 - x5 / x7 * x7)), (0, .long x0), (2, .long x2), (4, .int x4), (5, .long x5), (7, .long x7)]) dX12_lowest_18 (by decide) rfl ?_
        refine q_lload C dX12_lowest_20 5 rfl ?_
        refine q_lstore C ([(5, .long x7), (9, .long (x5 - x5 / x7 * x7)), (0, .long x0), (2, .long x2), (4, .int x4), (7, .long x7)]) dX12_lowest_22 (by decide) rfl ?_
        refine q_lload C dX12_lowest_24 1 rfl ?_
        refine q_lstore C ([(7, .long (x5 - x5 / x7 * x7)), (5, .long x7), (9, .long (x5 - x5 / x7 * x7)), (0, .long x0), (2, .long x2), (4, .int x4)]) dX12_lowest_26 (by decide) rfl ?_
        refine q_goto (tgt := 6) C dX12_lowest_28 (by decide) ?_
        cases hF
        refine q_lsel [3, 4, 5, 1, 0] rfl ?_
        exact ih x0 x2 x4 x7 (x5 - x5 / x7 * x7) y5 (hn _ rfl) hk
  unfold f_Model_lowest at hF
  refine q_lload_n C dX12_lowest_0 0 rfl rfl ?_
  refine q_lstore C ([(5, .long p1), (0, .long p1), (2, .long p2), (4, .int p3)]) dX12_lowest_1 (by decide) rfl ?_
  refine q_lload_n C dX12_lowest_3 2 rfl rfl ?_
  refine q_lstore C ([(7, .long p2), (5, .long p1), (0, .long p1), (2, .long p2), (4, .int p3)]) dX12_lowest_4 (by decide) rfl ?_
  obtain ⟨y5_4, hc5, hF⟩ := bind_c hF
  obtain ⟨n6, hc5⟩ := (ev_iff _ _ _).mp hc5
  refine q_lsel [2, 3, 4, 1, 0] rfl ?_
  refine L1 n6 p1 p2 p3 p1 p2 y5_4 hc5 ?_
  refine q_iload C dX12_lowest_31 2 rfl ?_
  refine q_if_ne (tgt := 43) C dX12_lowest_33 (by decide) (fun c7 => ?_) (fun c7 => ?_)
  · have hF := ite_f hF c7
    refine q_lload_n C dX12_lowest_43 1 rfl rfl ?_
    refine q_lload C dX12_lowest_44 3 rfl ?_
    obtain ⟨hc8, hF⟩ := ite_c hF
    refine q_ldiv C dX12_lowest_46 hc8 ?_
    cases hF
    exact q_iretl C hA0 hr dX12_lowest_47 hQ
  · have hF := ite_t hF c7
    refine q_lload_n C dX12_lowest_36 0 rfl rfl ?_
    refine q_lload C dX12_lowest_37 3 rfl ?_
    obtain ⟨hc9, hF⟩ := ite_c hF
    refine q_ldiv C dX12_lowest_39 hc9 ?_
    refine q_goto (tgt := 47) C dX12_lowest_40 (by decide) ?_
    cases hF
    exact q_iretl C hA0 hr dX12_lowest_47 hQ
set_option maxRecDepth 100000 in
set_option maxHeartbeats 4000000 in
theorem c_X12_layWait (l : Launch) (dC : Nat → ClassId) (dI : Nat → Nat → Nat) (cI cZ cQ : ClassId) (o o_book o_now o_moults o_words o_clashes o_rocks o_count o_pad o_reached o_queue o_got o_wins o_image o_isKept : Nat) (v_waitUp : Int64) (v_waitLow : Int64) (v_counts : Int32) (v_signs : Int32) (v_readMany : Int32) (v_signedAll : Int32) (v_reason : Int32) (v_acts : Int32) (p1 : Int32) (p2 : Int32) (w_waitUp : Int64) (w_waitLow : Int64) (hF : f_Model_layWait v_waitUp v_waitLow p1 p2 = some (w_waitUp, w_waitLow)) (sz : Nat) : Met l yX12_layWait wsX12_layWait ({ frames := 0, cells := 0, slots := 0, locals := 0 } : Room) (qPc ([.ref o, .int p1, .int p2]) (dC, dI) (qT cI cZ cQ) ([(o, .inr (12, [.ref o_book, .ref o_now, .ref o_moults, .ref o_words, .ref o_clashes, .ref o_rocks, .int v_counts, .ref o_count, .int v_signs, .ref o_pad, .int v_readMany, .int v_signedAll, .int v_reason, .int v_acts, .ref o_reached, .ref o_queue, .ref o_got, .long v_waitUp, .long v_waitLow, .ref o_wins, .ref o_image, .ref o_isKept]))]) sz) (qWv (dC, dI) ([(o, .inr (12, [.ref o_book, .ref o_now, .ref o_moults, .ref o_words, .ref o_clashes, .ref o_rocks, .int v_counts, .ref o_count, .int v_signs, .ref o_pad, .int v_readMany, .int v_signedAll, .int v_reason, .int v_acts, .ref o_reached, .ref o_queue, .ref o_got, .long w_waitUp, .long w_waitLow, .ref o_wins, .ref o_image, .ref o_isKept]))]) (va_A ([(o, .inr (12, [.ref o_book, .ref o_now, .ref o_moults, .ref o_words, .ref o_clashes, .ref o_rocks, .int v_counts, .ref o_count, .int v_signs, .ref o_pad, .int v_readMany, .int v_signedAll, .int v_reason, .int v_acts, .ref o_reached, .ref o_queue, .ref o_got, .long v_waitUp, .long v_waitLow, .ref o_wins, .ref o_image, .ref o_isKept]))]) sz)) 0 0 (va_A ([(o, .inr (12, [.ref o_book, .ref o_now, .ref o_moults, .ref o_words, .ref o_clashes, .ref o_rocks, .int v_counts, .ref o_count, .int v_signs, .ref o_pad, .int v_readMany, .int v_signedAll, .int v_reason, .int v_acts, .ref o_reached, .ref o_queue, .ref o_got, .long v_waitUp, .long v_waitLow, .ref o_wins, .ref o_image, .ref o_isKept]))]) sz) := by
  refine q_met_w (Qc := fun A => qWv (dC, dI) ([(o, .inr (12, [.ref o_book, .ref o_now, .ref o_moults, .ref o_words, .ref o_clashes, .ref o_rocks, .int v_counts, .ref o_count, .int v_signs, .ref o_pad, .int v_readMany, .int v_signedAll, .int v_reason, .int v_acts, .ref o_reached, .ref o_queue, .ref o_got, .long w_waitUp, .long w_waitLow, .ref o_wins, .ref o_image, .ref o_isKept]))]) A) (cc := cX12_layWait) (own := RX12) (maxL := 7) (ret := none) (lv0 := [(0, .ref o), (1, .int p1), (2, .int p2)]) (by decide) rfl rfl rfl (Nat.le_of_ble_eq_true rfl) ?_
  intro p e s m args below meth c A hA C hr hnm Q hQ
  have lk0 : Cond.fieldLink RX12 140 "SealStraitModel" "waitUp" "J" ∈ wsX12_layWait := by decide +kernel
  have lk1 : ∀ w ∈ u_ws RX12 TX12 22, w ∈ wsX12_layWait := fun w h => List.mem_cons_of_mem _ (List.mem_append_right _ h)
  have lk2 : Cond.fieldLink RX12 144 "SealStraitModel" "waitLow" "J" ∈ wsX12_layWait := by decide +kernel
  have L2 : ∀ (n : Nat) (x1 : Int32) (x2 : Int32) (x3 : Int32) (x4 : Int64) (x6 : Int32) (v_waitUp : Int64) (v_waitLow : Int64) (y4 : Int64), evr (fun s => b_Model_layWait_2 x2 v_waitUp v_waitLow s.1 s.2) n (x4, x6) = some y4 → qG p l e ({ frames := 0, cells := 0, slots := 0, locals := 0 } : Room) s m args below meth c 7 (dC, dI) A A Q 0 0 ([(0, .ref o), (1, .int x1), (2, .int x2), (3, .int x3), (4, .long y4)]) [] ([(o, .inr (12, [.ref o_book, .ref o_now, .ref o_moults, .ref o_words, .ref o_clashes, .ref o_rocks, .int v_counts, .ref o_count, .int v_signs, .ref o_pad, .int v_readMany, .int v_signedAll, .int v_reason, .int v_acts, .ref o_reached, .ref o_queue, .ref o_got, .long v_waitUp, .long v_waitLow, .ref o_wins, .ref o_image, .ref o_isKept]))]) 71 → qG p l e ({ frames := 0, cells := 0, slots := 0, locals := 0 } : Room) s m args below meth c 7 (dC, dI) A A Q 0 0 ([(0, .ref o), (1, .int x1), (2, .int x2), (3, .int x3), (4, .long x4), (6, .int x6)]) [] ([(o, .inr (12, [.ref o_book, .ref o_now, .ref o_moults, .ref o_words, .ref o_clashes, .ref o_rocks, .int v_counts, .ref o_count, .int v_signs, .ref o_pad, .int v_readMany, .int v_signedAll, .int v_reason, .int v_acts, .ref o_reached, .ref o_queue, .ref o_got, .long v_waitUp, .long v_waitLow, .ref o_wins, .ref o_image, .ref o_isKept]))]) 23 := by
    clear hF
    intro n
    induction n with
    | zero => intro x1 x2 x3 x4 x6 v_waitUp v_waitLow y4 hF; exact (evr_0 hF).elim
    | succ n ih =>
      intro x1 x2 x3 x4 x6 v_waitUp v_waitLow y4 hF hk
      obtain ⟨o9, hB, hn, hx⟩ := evr_c hF
      have hF : b_Model_layWait_2 x2 v_waitUp v_waitLow x4 x6 = some o9 := hB
      unfold b_Model_layWait_2 at hF
      refine q_iload C dX12_layWait_23 5 rfl ?_
      refine q_iload_n C dX12_layWait_25 2 rfl rfl ?_
      refine q_icmp_gt (tgt := 71) C dX12_layWait_26 (by decide) (fun c1 => ?_) (fun c1 => ?_)
      · have hF := ite_t hF c1
        cases hF
        have e2 := hx _ rfl
        cases e2
        refine q_lsel [0, 1, 2, 3, 4] rfl ?_
        exact hk
      · have hF := ite_f hF c1
        refine q_lload C dX12_layWait_29 4 rfl ?_
        refine q_iload C dX12_layWait_31 5 rfl ?_
        refine q_i2l C dX12_layWait_33 ?_
        refine q_aload_n C dX12_layWait_34 0 rfl rfl ?_
        refine q_get (C0 := RX12) (T := TX12) (N := 22) (k0 := 18) C lk1 0 rfl rfl (by decide) lk2 rfl (v := .long v_waitLow) rfl dX12_layWait_35 ?_
        refine q_lmul C dX12_layWait_38 ?_
        refine q_aload_n C dX12_layWait_39 0 rfl rfl ?_
        refine q_get (C0 := RX12) (T := TX12) (N := 22) (k0 := 17) C lk1 0 rfl rfl (by decide) lk0 rfl (v := .long v_waitUp) rfl dX12_layWait_40 ?_
        refine q_lcmp C dX12_layWait_43 ?_
        refine q_if_le (tgt := 58) C dX12_layWait_44 (by decide) (fun c3 => ?_) (fun c3 => ?_)
        · have hF := ite_t hF c3
          refine q_aload_n C dX12_layWait_58 0 rfl rfl ?_
          refine q_get (C0 := RX12) (T := TX12) (N := 22) (k0 := 17) C lk1 0 rfl rfl (by decide) lk0 rfl (v := .long v_waitUp) rfl dX12_layWait_59 ?_
          refine q_ladd C dX12_layWait_62 ?_
          refine q_lstore C ([(4, .long (x4 + v_waitUp)), (0, .ref o), (1, .int x1), (2, .int x2), (3, .int x3), (6, .int x6)]) dX12_layWait_63 (by decide) rfl ?_
          refine q_iinc (v := (x6 + 1)) C ([(6, .int (x6 + 1)), (4, .long (x4 + v_waitUp)), (0, .ref o), (1, .int x1), (2, .int x2), (3, .int x3)]) dX12_layWait_65 5 rfl rfl (by decide) rfl ?_
          refine q_goto (tgt := 23) C dX12_layWait_68 (by decide) ?_
          cases hF
          refine q_lsel [2, 3, 4, 5, 1, 0] rfl ?_
          exact ih x1 x2 x3 (x4 + v_waitUp) (x6 + 1) v_waitUp v_waitLow y4 (hn _ rfl) hk
        · have hF := ite_f hF c3
          refine q_iload C dX12_layWait_47 5 rfl ?_
          refine q_i2l C dX12_layWait_49 ?_
          refine q_aload_n C dX12_layWait_50 0 rfl rfl ?_
          refine q_get (C0 := RX12) (T := TX12) (N := 22) (k0 := 18) C lk1 0 rfl rfl (by decide) lk2 rfl (v := .long v_waitLow) rfl dX12_layWait_51 ?_
          refine q_lmul C dX12_layWait_54 ?_
          refine q_goto (tgt := 62) C dX12_layWait_55 (by decide) ?_
          refine q_ladd C dX12_layWait_62 ?_
          refine q_lstore C ([(4, .long (x4 + ((x6).toInt64 * v_waitLow))), (0, .ref o), (1, .int x1), (2, .int x2), (3, .int x3), (6, .int x6)]) dX12_layWait_63 (by decide) rfl ?_
          refine q_iinc (v := (x6 + 1)) C ([(6, .int (x6 + 1)), (4, .long (x4 + ((x6).toInt64 * v_waitLow))), (0, .ref o), (1, .int x1), (2, .int x2), (3, .int x3)]) dX12_layWait_65 5 rfl rfl (by decide) rfl ?_
          refine q_goto (tgt := 23) C dX12_layWait_68 (by decide) ?_
          cases hF
          refine q_lsel [2, 3, 4, 5, 1, 0] rfl ?_
          exact ih x1 x2 x3 (x4 + ((x6).toInt64 * v_waitLow)) (x6 + 1) v_waitUp v_waitLow y4 (hn _ rfl) hk
  have L1 : ∀ (n : Nat) (x1 : Int32) (x2 : Int32) (x3 : Int32) (v_waitUp : Int64) (v_waitLow : Int64) (z_waitUp : Int64) (z_waitLow : Int64), evr (fun s => b_Model_layWait_1 x1 x2 s.1 s.2.1 s.2.2) n (x3, v_waitUp, v_waitLow) = some (z_waitUp, z_waitLow) → qG p l e ({ frames := 0, cells := 0, slots := 0, locals := 0 } : Room) s m args below meth c 7 (dC, dI) A A Q 0 0 ([]) [] ([(o, .inr (12, [.ref o_book, .ref o_now, .ref o_moults, .ref o_words, .ref o_clashes, .ref o_rocks, .int v_counts, .ref o_count, .int v_signs, .ref o_pad, .int v_readMany, .int v_signedAll, .int v_reason, .int v_acts, .ref o_reached, .ref o_queue, .ref o_got, .long z_waitUp, .long z_waitLow, .ref o_wins, .ref o_image, .ref o_isKept]))]) 96 → qG p l e ({ frames := 0, cells := 0, slots := 0, locals := 0 } : Room) s m args below meth c 7 (dC, dI) A A Q 0 0 ([(0, .ref o), (1, .int x1), (2, .int x2), (3, .int x3)]) [] ([(o, .inr (12, [.ref o_book, .ref o_now, .ref o_moults, .ref o_words, .ref o_clashes, .ref o_rocks, .int v_counts, .ref o_count, .int v_signs, .ref o_pad, .int v_readMany, .int v_signedAll, .int v_reason, .int v_acts, .ref o_reached, .ref o_queue, .ref o_got, .long v_waitUp, .long v_waitLow, .ref o_wins, .ref o_image, .ref o_isKept]))]) 12 := by
    clear hF
    intro n
    induction n with
    | zero => intro x1 x2 x3 v_waitUp v_waitLow z_waitUp z_waitLow hF; exact (evr_0 hF).elim
    | succ n ih =>
      intro x1 x2 x3 v_waitUp v_waitLow z_waitUp z_waitLow hF hk
      obtain ⟨o9, hB, hn, hx⟩ := evr_c hF
      have hF : b_Model_layWait_1 x1 x2 x3 v_waitUp v_waitLow = some o9 := hB
      unfold b_Model_layWait_1 at hF
      refine q_iload_n C dX12_layWait_12 3 rfl rfl ?_
      refine q_iload_n C dX12_layWait_13 1 rfl rfl ?_
      refine q_icmp_ge (tgt := 96) C dX12_layWait_14 (by decide) (fun c4 => ?_) (fun c4 => ?_)
      · have hF := ite_t hF c4
        cases hF
        have e5 := hx _ rfl
        cases e5
        refine q_lsel [] rfl ?_
        exact hk
      · have hF := ite_f hF c4
        refine q_lconst (v := (0 : Int64)) C dX12_layWait_17 (by decide) ?_
        refine q_lstore C ([(4, .long (0 : Int64)), (0, .ref o), (1, .int x1), (2, .int x2), (3, .int x3)]) dX12_layWait_18 (by decide) rfl ?_
        refine q_iconst (v := (0 : Int32)) C dX12_layWait_20 (by decide) ?_
        refine q_istore C ([(6, .int (0 : Int32)), (4, .long (0 : Int64)), (0, .ref o), (1, .int x1), (2, .int x2), (3, .int x3)]) dX12_layWait_21 (by decide) rfl ?_
        obtain ⟨y4_6, hc7, hF⟩ := bind_c hF
        obtain ⟨n8, hc7⟩ := (ev_iff _ _ _).mp hc7
        refine q_lsel [2, 3, 4, 5, 1, 0] rfl ?_
        refine L2 n8 x1 x2 x3 (0 : Int64) (0 : Int32) v_waitUp v_waitLow y4_6 hc7 ?_
        refine q_aload_n C dX12_layWait_71 0 rfl rfl ?_
        refine q_lload C dX12_layWait_72 4 rfl ?_
        refine q_put (C0 := RX12) (T := TX12) (N := 22) (k0 := 17) C lk1 0 rfl rfl (by decide) lk0 rfl tyX12 tyX12_ok nmX12 rfl (v := .long y4_6) rfl rfl (Nat.le_of_ble_eq_true rfl) ([(o, .inr (12, [.ref o_book, .ref o_now, .ref o_moults, .ref o_words, .ref o_clashes, .ref o_rocks, .int v_counts, .ref o_count, .int v_signs, .ref o_pad, .int v_readMany, .int v_signedAll, .int v_reason, .int v_acts, .ref o_reached, .ref o_queue, .ref o_got, .long y4_6, .long v_waitLow, .ref o_wins, .ref o_image, .ref o_isKept]))]) rfl dX12_layWait_74 ?_
        refine q_aload_n C dX12_layWait_77 0 rfl rfl ?_
        refine q_dup C dX12_layWait_78 rfl ?_
        refine q_get (C0 := RX12) (T := TX12) (N := 22) (k0 := 18) C lk1 0 rfl rfl (by decide) lk2 rfl (v := .long v_waitLow) rfl dX12_layWait_79 ?_
        refine q_iload_n C dX12_layWait_82 2 rfl rfl ?_
        refine q_iconst (v := (1 : Int32)) C dX12_layWait_83 (by decide) ?_
        refine q_iadd C dX12_layWait_84 ?_
        refine q_i2l C dX12_layWait_85 ?_
        refine q_lmul C dX12_layWait_86 ?_
        refine q_put (C0 := RX12) (T := TX12) (N := 22) (k0 := 18) C lk1 0 rfl rfl (by decide) lk2 rfl tyX12 tyX12_ok nmX12 rfl (v := .long (v_waitLow * ((x2 + (1 : Int32))).toInt64)) rfl rfl (Nat.le_of_ble_eq_true rfl) ([(o, .inr (12, [.ref o_book, .ref o_now, .ref o_moults, .ref o_words, .ref o_clashes, .ref o_rocks, .int v_counts, .ref o_count, .int v_signs, .ref o_pad, .int v_readMany, .int v_signedAll, .int v_reason, .int v_acts, .ref o_reached, .ref o_queue, .ref o_got, .long y4_6, .long (v_waitLow * ((x2 + (1 : Int32))).toInt64), .ref o_wins, .ref o_image, .ref o_isKept]))]) rfl dX12_layWait_87 ?_
        refine q_iinc (v := (x3 + 1)) C ([(3, .int (x3 + 1)), (0, .ref o), (1, .int x1), (2, .int x2), (4, .long y4_6)]) dX12_layWait_90 3 rfl rfl (by decide) rfl ?_
        refine q_goto (tgt := 12) C dX12_layWait_93 (by decide) ?_
        cases hF
        refine q_lsel [1, 2, 3, 0] rfl ?_
        exact ih x1 x2 (x3 + 1) y4_6 (v_waitLow * ((x2 + (1 : Int32))).toInt64) z_waitUp z_waitLow (hn _ rfl) hk
  unfold f_Model_layWait at hF
  refine q_aload_n C dX12_layWait_0 0 rfl rfl ?_
  refine q_lconst (v := (0 : Int64)) C dX12_layWait_1 (by decide) ?_
  refine q_put (C0 := RX12) (T := TX12) (N := 22) (k0 := 17) C lk1 0 rfl rfl (by decide) lk0 rfl tyX12 tyX12_ok nmX12 rfl (v := .long (0 : Int64)) rfl rfl (Nat.le_of_ble_eq_true rfl) ([(o, .inr (12, [.ref o_book, .ref o_now, .ref o_moults, .ref o_words, .ref o_clashes, .ref o_rocks, .int v_counts, .ref o_count, .int v_signs, .ref o_pad, .int v_readMany, .int v_signedAll, .int v_reason, .int v_acts, .ref o_reached, .ref o_queue, .ref o_got, .long (0 : Int64), .long v_waitLow, .ref o_wins, .ref o_image, .ref o_isKept]))]) rfl dX12_layWait_2 ?_
  refine q_aload_n C dX12_layWait_5 0 rfl rfl ?_
  refine q_lconst (v := (1 : Int64)) C dX12_layWait_6 (by decide) ?_
  refine q_put (C0 := RX12) (T := TX12) (N := 22) (k0 := 18) C lk1 0 rfl rfl (by decide) lk2 rfl tyX12 tyX12_ok nmX12 rfl (v := .long (1 : Int64)) rfl rfl (Nat.le_of_ble_eq_true rfl) ([(o, .inr (12, [.ref o_book, .ref o_now, .ref o_moults, .ref o_words, .ref o_clashes, .ref o_rocks, .int v_counts, .ref o_count, .int v_signs, .ref o_pad, .int v_readMany, .int v_signedAll, .int v_reason, .int v_acts, .ref o_reached, .ref o_queue, .ref o_got, .long (0 : Int64), .long (1 : Int64), .ref o_wins, .ref o_image, .ref o_isKept]))]) rfl dX12_layWait_7 ?_
  refine q_iconst (v := (0 : Int32)) C dX12_layWait_10 (by decide) ?_
  refine q_istore_n C ([(3, .int (0 : Int32)), (0, .ref o), (1, .int p1), (2, .int p2)]) dX12_layWait_11 rfl (by decide) rfl ?_
  obtain ⟨⟨z9_waitUp, z9_waitLow⟩, hc10, hF⟩ := bind_c hF
  dsimp only at hF
  obtain ⟨n11, hc10⟩ := (ev_iff _ _ _).mp hc10
  refine q_lsel [1, 2, 3, 0] rfl ?_
  refine L1 n11 p1 p2 (0 : Int32) (0 : Int64) (1 : Int64) z9_waitUp z9_waitLow hc10 ?_
  cases hF
  exact q_wretv C hr dX12_layWait_96 hQ
set_option maxRecDepth 100000 in
set_option maxHeartbeats 4000000 in
theorem c_X12_waiting (l : Launch) (dC : Nat → ClassId) (dI : Nat → Nat → Nat) (cI cZ cQ : ClassId) (o o_book o_now o_moults o_words o_clashes o_rocks o_count o_pad o_reached o_queue o_got o_wins o_image o_isKept : Nat) (v_waitUp : Int64) (v_waitLow : Int64) (v_counts : Int32) (v_signs : Int32) (v_readMany : Int32) (v_signedAll : Int32) (v_reason : Int32) (v_acts : Int32) (p1 : Int32) (p2 : Int32) (p3 : Int32) (R : Int64) (w_waitUp : Int64) (w_waitLow : Int64) (hF : f_Model_waiting v_waitUp v_waitLow p1 p2 p3 = some (R, w_waitUp, w_waitLow)) (sz : Nat) : Met l yX12_waiting wsX12_waiting ({ frames := 1, cells := 0, slots := 0, locals := 30 } : Room) (qPc ([.ref o, .int p1, .int p2, .int p3]) (dC, dI) (qT cI cZ cQ) ([(o, .inr (12, [.ref o_book, .ref o_now, .ref o_moults, .ref o_words, .ref o_clashes, .ref o_rocks, .int v_counts, .ref o_count, .int v_signs, .ref o_pad, .int v_readMany, .int v_signedAll, .int v_reason, .int v_acts, .ref o_reached, .ref o_queue, .ref o_got, .long v_waitUp, .long v_waitLow, .ref o_wins, .ref o_image, .ref o_isKept]))]) sz) (qWl R (dC, dI) ([(o, .inr (12, [.ref o_book, .ref o_now, .ref o_moults, .ref o_words, .ref o_clashes, .ref o_rocks, .int v_counts, .ref o_count, .int v_signs, .ref o_pad, .int v_readMany, .int v_signedAll, .int v_reason, .int v_acts, .ref o_reached, .ref o_queue, .ref o_got, .long w_waitUp, .long w_waitLow, .ref o_wins, .ref o_image, .ref o_isKept]))]) (va_A ([(o, .inr (12, [.ref o_book, .ref o_now, .ref o_moults, .ref o_words, .ref o_clashes, .ref o_rocks, .int v_counts, .ref o_count, .int v_signs, .ref o_pad, .int v_readMany, .int v_signedAll, .int v_reason, .int v_acts, .ref o_reached, .ref o_queue, .ref o_got, .long v_waitUp, .long v_waitLow, .ref o_wins, .ref o_image, .ref o_isKept]))]) sz)) 0 0 (va_A ([(o, .inr (12, [.ref o_book, .ref o_now, .ref o_moults, .ref o_words, .ref o_clashes, .ref o_rocks, .int v_counts, .ref o_count, .int v_signs, .ref o_pad, .int v_readMany, .int v_signedAll, .int v_reason, .int v_acts, .ref o_reached, .ref o_queue, .ref o_got, .long v_waitUp, .long v_waitLow, .ref o_wins, .ref o_image, .ref o_isKept]))]) sz) := by
  refine q_met_w (Qc := fun A => qWl R (dC, dI) ([(o, .inr (12, [.ref o_book, .ref o_now, .ref o_moults, .ref o_words, .ref o_clashes, .ref o_rocks, .int v_counts, .ref o_count, .int v_signs, .ref o_pad, .int v_readMany, .int v_signedAll, .int v_reason, .int v_acts, .ref o_reached, .ref o_queue, .ref o_got, .long w_waitUp, .long w_waitLow, .ref o_wins, .ref o_image, .ref o_isKept]))]) A) (cc := cX12_waiting) (own := RX12) (maxL := 4) (ret := (some .long)) (lv0 := [(0, .ref o), (1, .int p1), (2, .int p2), (3, .int p3)]) (by decide) rfl rfl rfl (Nat.le_of_ble_eq_true rfl) ?_
  intro p e s m args below meth c A hA C hr hnm Q hQ
  have lk0 : Cond.constantLong RX12 147 (-1000000000000000002 : Int64) ∈ wsX12_waiting := by decide +kernel
  have lk1 : Cond.fieldLink RX12 140 "SealStraitModel" "waitUp" "J" ∈ wsX12_waiting := by decide +kernel
  have lk2 : ∀ w ∈ u_ws RX12 TX12 22, w ∈ wsX12_waiting := fun w h => List.mem_cons_of_mem _ (List.mem_append_right _ h)
  have lk3 : Cond.fieldLink RX12 144 "SealStraitModel" "waitLow" "J" ∈ wsX12_waiting := by decide +kernel
  unfold f_Model_waiting at hF
  refine q_iload_n C dX12_waiting_0 1 rfl rfl ?_
  refine q_iconst (v := (1 : Int32)) C dX12_waiting_1 (by decide) ?_
  refine q_bipush (v := (12 : Int32)) C dX12_waiting_2 (by decide) ?_
  refine q_roz (q_runS (As := [.int p1, .int (1 : Int32), .int (12 : Int32)]) (rest := []) C (fun sz => c_X12_in l dC dI cI cZ cQ p1 (1 : Int32) (12 : Int32) (f_Model_in p1 (1 : Int32) (12 : Int32)) rfl sz) (va_cwS 3 C.2.2.2.2.1 gX12_waiting_X12_in rfl rfl rfl (by decide +kernel) ⟨Nat.le_of_ble_eq_true rfl, Nat.le_of_ble_eq_true rfl⟩) [] rfl rfl rfl rfl (Nat.le_of_ble_eq_true rfl) dX12_waiting_4 ⟨Nat.zero_le _, Nat.zero_le _⟩) (fun hz1 => ?_)
  refine q_if_eq (tgt := 29) C dX12_waiting_7 (by decide) (fun c2 => ?_) (fun c2 => ?_)
  · have hF := ite_t hF c2
    refine q_ldc2 (v := (-1000000000000000002 : Int64)) C lk0 dX12_waiting_29 ?_
    cases hF
    exact q_wretl C hr dX12_waiting_32 hQ
  · have hF := ite_f hF c2
    refine q_iload_n C dX12_waiting_10 2 rfl rfl ?_
    refine q_iconst (v := (1 : Int32)) C dX12_waiting_11 (by decide) ?_
    refine q_bipush (v := (9 : Int32)) C dX12_waiting_12 (by decide) ?_
    refine q_roz (q_runS (As := [.int p2, .int (1 : Int32), .int (9 : Int32)]) (rest := []) C (fun sz => c_X12_in l dC dI cI cZ cQ p2 (1 : Int32) (9 : Int32) (f_Model_in p2 (1 : Int32) (9 : Int32)) rfl sz) (va_cwS 3 C.2.2.2.2.1 gX12_waiting_X12_in rfl rfl rfl (by decide +kernel) ⟨Nat.le_of_ble_eq_true rfl, Nat.le_of_ble_eq_true rfl⟩) [] rfl rfl rfl rfl (Nat.le_of_ble_eq_true rfl) dX12_waiting_14 ⟨Nat.zero_le _, Nat.zero_le _⟩) (fun hz3 => ?_)
    refine q_if_eq (tgt := 29) C dX12_waiting_17 (by decide) (fun c4 => ?_) (fun c4 => ?_)
    · have hF := ite_t hF c4
      refine q_ldc2 (v := (-1000000000000000002 : Int64)) C lk0 dX12_waiting_29 ?_
      cases hF
      exact q_wretl C hr dX12_waiting_32 hQ
    · have hF := ite_f hF c4
      refine q_iload_n C dX12_waiting_20 3 rfl rfl ?_
      refine q_iconst (v := (0 : Int32)) C dX12_waiting_21 (by decide) ?_
      refine q_iconst (v := (1 : Int32)) C dX12_waiting_22 (by decide) ?_
      refine q_roz (q_runS (As := [.int p3, .int (0 : Int32), .int (1 : Int32)]) (rest := []) C (fun sz => c_X12_in l dC dI cI cZ cQ p3 (0 : Int32) (1 : Int32) (f_Model_in p3 (0 : Int32) (1 : Int32)) rfl sz) (va_cwS 3 C.2.2.2.2.1 gX12_waiting_X12_in rfl rfl rfl (by decide +kernel) ⟨Nat.le_of_ble_eq_true rfl, Nat.le_of_ble_eq_true rfl⟩) [] rfl rfl rfl rfl (Nat.le_of_ble_eq_true rfl) dX12_waiting_23 ⟨Nat.zero_le _, Nat.zero_le _⟩) (fun hz5 => ?_)
      refine q_if_ne (tgt := 33) C dX12_waiting_26 (by decide) (fun c6 => ?_) (fun c6 => ?_)
      · have hF := ite_f hF c6
        refine q_aload_n C dX12_waiting_33 0 rfl rfl ?_
        refine q_iload_n C dX12_waiting_34 1 rfl rfl ?_
        refine q_iload_n C dX12_waiting_35 2 rfl rfl ?_
        obtain ⟨⟨u7_waitUp, u7_waitLow⟩, hc8, hF⟩ := bind_c hF
        dsimp only at hF
        refine q_rwv hA ([(o, .inr (12, [.ref o_book, .ref o_now, .ref o_moults, .ref o_words, .ref o_clashes, .ref o_rocks, .int v_counts, .ref o_count, .int v_signs, .ref o_pad, .int v_readMany, .int v_signedAll, .int v_reason, .int v_acts, .ref o_reached, .ref o_queue, .ref o_got, .long u7_waitUp, .long u7_waitLow, .ref o_wins, .ref o_image, .ref o_isKept]))]) [0] [] rfl rfl rfl (by decide) [0] rfl rfl (q_runV (As := [.int p1, .int p2]) (rest := []) C (fun sz => c_X12_layWait l dC dI cI cZ cQ o o_book o_now o_moults o_words o_clashes o_rocks o_count o_pad o_reached o_queue o_got o_wins o_image o_isKept v_waitUp v_waitLow v_counts v_signs v_readMany v_signedAll v_reason v_acts p1 p2 u7_waitUp u7_waitLow hc8 sz) (cwV 2 C.2.2.2.2.1 gX12_waiting_X12_layWait rfl rfl rfl (by decide +kernel) ⟨Nat.le_of_ble_eq_true rfl, Nat.le_of_ble_eq_true rfl⟩) 0 rfl rfl rfl [0] rfl rfl rfl rfl (Nat.le_of_ble_eq_true rfl) dX12_waiting_36 ⟨Nat.zero_le _, Nat.zero_le _⟩) ?_
        refine q_aload_n C dX12_waiting_39 0 rfl rfl ?_
        refine q_get (C0 := RX12) (T := TX12) (N := 22) (k0 := 17) C lk2 0 rfl rfl (by decide) lk1 rfl (v := .long u7_waitUp) rfl dX12_waiting_40 ?_
        refine q_aload_n C dX12_waiting_43 0 rfl rfl ?_
        refine q_get (C0 := RX12) (T := TX12) (N := 22) (k0 := 18) C lk2 0 rfl rfl (by decide) lk3 rfl (v := .long u7_waitLow) rfl dX12_waiting_44 ?_
        refine q_iload_n C dX12_waiting_47 3 rfl rfl ?_
        obtain ⟨r9, hc10, hF⟩ := bind_c hF
        refine q_rol (q_runS (As := [.long u7_waitUp, .long u7_waitLow, .int p3]) (rest := []) C (fun sz => c_X12_lowest l dC dI cI cZ cQ u7_waitUp u7_waitLow p3 r9 hc10 sz) (va_cwS 3 C.2.2.2.2.1 gX12_waiting_X12_lowest rfl rfl rfl (by decide +kernel) ⟨Nat.le_of_ble_eq_true rfl, Nat.le_of_ble_eq_true rfl⟩) [] rfl rfl rfl rfl (Nat.le_of_ble_eq_true rfl) dX12_waiting_48 ⟨Nat.zero_le _, Nat.zero_le _⟩) ?_
        cases hF
        exact q_wretl C hr dX12_waiting_51 hQ
      · have hF := ite_t hF c6
        refine q_ldc2 (v := (-1000000000000000002 : Int64)) C lk0 dX12_waiting_29 ?_
        cases hF
        exact q_wretl C hr dX12_waiting_32 hQ
set_option maxRecDepth 100000 in
set_option maxHeartbeats 4000000 in
theorem c_X12_reads (l : Launch) (dC : Nat → ClassId) (dI : Nat → Nat → Nat) (cI cZ cQ : ClassId) (o o_book o_now o_moults o_words o_clashes o_rocks o_count o_pad o_reached o_queue o_got o_wins o_image o_isKept : Nat) (v_waitUp : Int64) (v_waitLow : Int64) (v_counts : Int32) (v_signs : Int32) (v_readMany : Int32) (v_signedAll : Int32) (v_reason : Int32) (v_acts : Int32) (p1 : Int32) (p2 : Int32) (R : Int32) (w_waitUp : Int64) (w_waitLow : Int64) (hF : f_Model_reads v_waitUp v_waitLow p1 p2 = some (R, w_waitUp, w_waitLow)) (sz : Nat) : Met l yX12_reads wsX12_reads ({ frames := 1, cells := 0, slots := 0, locals := 26 } : Room) (qPc ([.ref o, .int p1, .int p2]) (dC, dI) (qT cI cZ cQ) ([(o, .inr (12, [.ref o_book, .ref o_now, .ref o_moults, .ref o_words, .ref o_clashes, .ref o_rocks, .int v_counts, .ref o_count, .int v_signs, .ref o_pad, .int v_readMany, .int v_signedAll, .int v_reason, .int v_acts, .ref o_reached, .ref o_queue, .ref o_got, .long v_waitUp, .long v_waitLow, .ref o_wins, .ref o_image, .ref o_isKept]))]) sz) (qWi R (dC, dI) ([(o, .inr (12, [.ref o_book, .ref o_now, .ref o_moults, .ref o_words, .ref o_clashes, .ref o_rocks, .int v_counts, .ref o_count, .int v_signs, .ref o_pad, .int v_readMany, .int v_signedAll, .int v_reason, .int v_acts, .ref o_reached, .ref o_queue, .ref o_got, .long w_waitUp, .long w_waitLow, .ref o_wins, .ref o_image, .ref o_isKept]))]) (va_A ([(o, .inr (12, [.ref o_book, .ref o_now, .ref o_moults, .ref o_words, .ref o_clashes, .ref o_rocks, .int v_counts, .ref o_count, .int v_signs, .ref o_pad, .int v_readMany, .int v_signedAll, .int v_reason, .int v_acts, .ref o_reached, .ref o_queue, .ref o_got, .long v_waitUp, .long v_waitLow, .ref o_wins, .ref o_image, .ref o_isKept]))]) sz)) 0 0 (va_A ([(o, .inr (12, [.ref o_book, .ref o_now, .ref o_moults, .ref o_words, .ref o_clashes, .ref o_rocks, .int v_counts, .ref o_count, .int v_signs, .ref o_pad, .int v_readMany, .int v_signedAll, .int v_reason, .int v_acts, .ref o_reached, .ref o_queue, .ref o_got, .long v_waitUp, .long v_waitLow, .ref o_wins, .ref o_image, .ref o_isKept]))]) sz) := by
  refine q_met_w (Qc := fun A => qWi R (dC, dI) ([(o, .inr (12, [.ref o_book, .ref o_now, .ref o_moults, .ref o_words, .ref o_clashes, .ref o_rocks, .int v_counts, .ref o_count, .int v_signs, .ref o_pad, .int v_readMany, .int v_signedAll, .int v_reason, .int v_acts, .ref o_reached, .ref o_queue, .ref o_got, .long w_waitUp, .long w_waitLow, .ref o_wins, .ref o_image, .ref o_isKept]))]) A) (cc := cX12_reads) (own := RX12) (maxL := 4) (ret := (some .int)) (lv0 := [(0, .ref o), (1, .int p1), (2, .int p2)]) (by decide) rfl rfl rfl (Nat.le_of_ble_eq_true rfl) ?_
  intro p e s m args below meth c A hA C hr hnm Q hQ
  have lk0 : Cond.fieldLink RX12 144 "SealStraitModel" "waitLow" "J" ∈ wsX12_reads := by decide +kernel
  have lk1 : ∀ w ∈ u_ws RX12 TX12 22, w ∈ wsX12_reads := fun w h => List.mem_cons_of_mem _ (List.mem_append_right _ h)
  have lk2 : Cond.fieldLink RX12 140 "SealStraitModel" "waitUp" "J" ∈ wsX12_reads := by decide +kernel
  have L1 : ∀ (n : Nat) (x3 : Int32) (v_waitUp : Int64) (v_waitLow : Int64) (y3 : Int32), evr (fun s => b_Model_reads_1 v_waitUp v_waitLow s) n x3 = some y3 → qG p l e ({ frames := 1, cells := 0, slots := 0, locals := 26 } : Room) s m args below meth c 4 (dC, dI) A A Q 0 0 ([(3, .int y3)]) [] ([(o, .inr (12, [.ref o_book, .ref o_now, .ref o_moults, .ref o_words, .ref o_clashes, .ref o_rocks, .int v_counts, .ref o_count, .int v_signs, .ref o_pad, .int v_readMany, .int v_signedAll, .int v_reason, .int v_acts, .ref o_reached, .ref o_queue, .ref o_got, .long v_waitUp, .long v_waitLow, .ref o_wins, .ref o_image, .ref o_isKept]))]) 54 → qG p l e ({ frames := 1, cells := 0, slots := 0, locals := 26 } : Room) s m args below meth c 4 (dC, dI) A A Q 0 0 ([(0, .ref o), (3, .int x3)]) [] ([(o, .inr (12, [.ref o_book, .ref o_now, .ref o_moults, .ref o_words, .ref o_clashes, .ref o_rocks, .int v_counts, .ref o_count, .int v_signs, .ref o_pad, .int v_readMany, .int v_signedAll, .int v_reason, .int v_acts, .ref o_reached, .ref o_queue, .ref o_got, .long v_waitUp, .long v_waitLow, .ref o_wins, .ref o_image, .ref o_isKept]))]) 33 := by
    clear hF
    intro n
    induction n with
    | zero => intro x3 v_waitUp v_waitLow y3 hF; exact (evr_0 hF).elim
    | succ n ih =>
      intro x3 v_waitUp v_waitLow y3 hF hk
      obtain ⟨o9, hB, hn, hx⟩ := evr_c hF
      have hF : b_Model_reads_1 v_waitUp v_waitLow x3 = some o9 := hB
      unfold b_Model_reads_1 at hF
      refine q_iload_n C dX12_reads_33 1 rfl rfl ?_
      refine q_i2l C dX12_reads_34 ?_
      refine q_aload_n C dX12_reads_35 0 rfl rfl ?_
      refine q_get (C0 := RX12) (T := TX12) (N := 22) (k0 := 18) C lk1 0 rfl rfl (by decide) lk0 rfl (v := .long v_waitLow) rfl dX12_reads_36 ?_
      refine q_lmul C dX12_reads_39 ?_
      refine q_aload_n C dX12_reads_40 0 rfl rfl ?_
      refine q_get (C0 := RX12) (T := TX12) (N := 22) (k0 := 17) C lk1 0 rfl rfl (by decide) lk2 rfl (v := .long v_waitUp) rfl dX12_reads_41 ?_
      refine q_lcmp C dX12_reads_44 ?_
      refine q_if_ge (tgt := 54) C dX12_reads_45 (by decide) (fun c1 => ?_) (fun c1 => ?_)
      · have hF := ite_t hF c1
        cases hF
        have e2 := hx _ rfl
        cases e2
        refine q_lsel [1] rfl ?_
        exact hk
      · have hF := ite_f hF c1
        refine q_iinc (v := (x3 + 1)) C ([(3, .int (x3 + 1)), (0, .ref o)]) dX12_reads_48 1 rfl rfl (by decide) rfl ?_
        refine q_goto (tgt := 33) C dX12_reads_51 (by decide) ?_
        cases hF
        refine q_lsel [1, 0] rfl ?_
        exact ih (x3 + 1) v_waitUp v_waitLow y3 (hn _ rfl) hk
  unfold f_Model_reads at hF
  refine q_iload_n C dX12_reads_0 1 rfl rfl ?_
  refine q_iconst (v := (1 : Int32)) C dX12_reads_1 (by decide) ?_
  refine q_bipush (v := (12 : Int32)) C dX12_reads_2 (by decide) ?_
  refine q_roz (q_runS (As := [.int p1, .int (1 : Int32), .int (12 : Int32)]) (rest := []) C (fun sz => c_X12_in l dC dI cI cZ cQ p1 (1 : Int32) (12 : Int32) (f_Model_in p1 (1 : Int32) (12 : Int32)) rfl sz) (va_cwS 3 C.2.2.2.2.1 gX12_reads_X12_in rfl rfl rfl (by decide +kernel) ⟨Nat.le_of_ble_eq_true rfl, Nat.le_of_ble_eq_true rfl⟩) [] rfl rfl rfl rfl (Nat.le_of_ble_eq_true rfl) dX12_reads_4 ⟨Nat.zero_le _, Nat.zero_le _⟩) (fun hz3 => ?_)
  refine q_if_eq (tgt := 20) C dX12_reads_7 (by decide) (fun c4 => ?_) (fun c4 => ?_)
  · have hF := ite_t hF c4
    refine q_bipush (v := (-2 : Int32)) C dX12_reads_20 (by decide) ?_
    cases hF
    exact q_wreti C hr dX12_reads_22 hQ
  · have hF := ite_f hF c4
    refine q_iload_n C dX12_reads_10 2 rfl rfl ?_
    refine q_iconst (v := (1 : Int32)) C dX12_reads_11 (by decide) ?_
    refine q_bipush (v := (9 : Int32)) C dX12_reads_12 (by decide) ?_
    refine q_roz (q_runS (As := [.int p2, .int (1 : Int32), .int (9 : Int32)]) (rest := []) C (fun sz => c_X12_in l dC dI cI cZ cQ p2 (1 : Int32) (9 : Int32) (f_Model_in p2 (1 : Int32) (9 : Int32)) rfl sz) (va_cwS 3 C.2.2.2.2.1 gX12_reads_X12_in rfl rfl rfl (by decide +kernel) ⟨Nat.le_of_ble_eq_true rfl, Nat.le_of_ble_eq_true rfl⟩) [] rfl rfl rfl rfl (Nat.le_of_ble_eq_true rfl) dX12_reads_14 ⟨Nat.zero_le _, Nat.zero_le _⟩) (fun hz5 => ?_)
    refine q_if_ne (tgt := 23) C dX12_reads_17 (by decide) (fun c6 => ?_) (fun c6 => ?_)
    · have hF := ite_f hF c6
      refine q_aload_n C dX12_reads_23 0 rfl rfl ?_
      refine q_iload_n C dX12_reads_24 1 rfl rfl ?_
      refine q_iconst (v := (1 : Int32)) C dX12_reads_25 (by decide) ?_
      refine q_isub C dX12_reads_26 ?_
      refine q_iload_n C dX12_reads_27 2 rfl rfl ?_
      obtain ⟨⟨u7_waitUp, u7_waitLow⟩, hc8, hF⟩ := bind_c hF
      dsimp only at hF
      refine q_rwv hA ([(o, .inr (12, [.ref o_book, .ref o_now, .ref o_moults, .ref o_words, .ref o_clashes, .ref o_rocks, .int v_counts, .ref o_count, .int v_signs, .ref o_pad, .int v_readMany, .int v_signedAll, .int v_reason, .int v_acts, .ref o_reached, .ref o_queue, .ref o_got, .long u7_waitUp, .long u7_waitLow, .ref o_wins, .ref o_image, .ref o_isKept]))]) [0] [] rfl rfl rfl (by decide) [0] rfl rfl (q_runV (As := [.int (p1 - (1 : Int32)), .int p2]) (rest := []) C (fun sz => c_X12_layWait l dC dI cI cZ cQ o o_book o_now o_moults o_words o_clashes o_rocks o_count o_pad o_reached o_queue o_got o_wins o_image o_isKept v_waitUp v_waitLow v_counts v_signs v_readMany v_signedAll v_reason v_acts (p1 - (1 : Int32)) p2 u7_waitUp u7_waitLow hc8 sz) (cwV 2 C.2.2.2.2.1 gX12_reads_X12_layWait rfl rfl rfl (by decide +kernel) ⟨Nat.le_of_ble_eq_true rfl, Nat.le_of_ble_eq_true rfl⟩) 0 rfl rfl rfl [0] rfl rfl rfl rfl (Nat.le_of_ble_eq_true rfl) dX12_reads_28 ⟨Nat.zero_le _, Nat.zero_le _⟩) ?_
      refine q_iconst (v := (0 : Int32)) C dX12_reads_31 (by decide) ?_
      refine q_istore_n C ([(3, .int (0 : Int32)), (0, .ref o), (1, .int p1), (2, .int p2)]) dX12_reads_32 rfl (by decide) rfl ?_
      obtain ⟨y3_9, hc10, hF⟩ := bind_c hF
      obtain ⟨n11, hc10⟩ := (ev_iff _ _ _).mp hc10
      refine q_lsel [1, 0] rfl ?_
      refine L1 n11 (0 : Int32) u7_waitUp u7_waitLow y3_9 hc10 ?_
      refine q_iload_n C dX12_reads_54 0 rfl rfl ?_
      cases hF
      exact q_wreti C hr dX12_reads_55 hQ
    · have hF := ite_t hF c6
      refine q_bipush (v := (-2 : Int32)) C dX12_reads_20 (by decide) ?_
      cases hF
      exact q_wreti C hr dX12_reads_22 hQ
set_option maxRecDepth 100000 in
set_option maxHeartbeats 4000000 in
theorem c_X12_counted (l : Launch) (dC : Nat → ClassId) (dI : Nat → Nat → Nat) (cI cZ cQ : ClassId) (o o_count o_book o_now o_moults o_words o_clashes o_rocks o_pad o_reached o_queue o_got o_wins o_image o_isKept : Nat) (v_counts : Int32) (v_count : Nat → Int32) (v_signs : Int32) (v_readMany : Int32) (v_signedAll : Int32) (v_reason : Int32) (v_acts : Int32) (v_waitUp : Int64) (v_waitLow : Int64) (p1 : Int32) (p2 : Int32) (R : Int32) (w_counts : Int32) (w_count : Nat → Int32) (hF : f_Model_counted v_counts v_count p1 p2 = some (R, w_counts, w_count)) (sz : Nat) : Met l yX12_counted wsX12_counted ({ frames := 1, cells := 0, slots := 0, locals := 22 } : Room) (qPc ([.ref o, .int p1, .int p2]) (dC, dI) (qT cI cZ cQ) ([(o, .inr (12, [.ref o_book, .ref o_now, .ref o_moults, .ref o_words, .ref o_clashes, .ref o_rocks, .int v_counts, .ref o_count, .int v_signs, .ref o_pad, .int v_readMany, .int v_signedAll, .int v_reason, .int v_acts, .ref o_reached, .ref o_queue, .ref o_got, .long v_waitUp, .long v_waitLow, .ref o_wins, .ref o_image, .ref o_isKept])), (o_count, .inl (cI, 16, .inl v_count))]) sz) (qWi R (dC, dI) ([(o, .inr (12, [.ref o_book, .ref o_now, .ref o_moults, .ref o_words, .ref o_clashes, .ref o_rocks, .int w_counts, .ref o_count, .int v_signs, .ref o_pad, .int v_readMany, .int v_signedAll, .int v_reason, .int v_acts, .ref o_reached, .ref o_queue, .ref o_got, .long v_waitUp, .long v_waitLow, .ref o_wins, .ref o_image, .ref o_isKept])), (o_count, .inl (cI, 16, .inl w_count))]) (va_A ([(o, .inr (12, [.ref o_book, .ref o_now, .ref o_moults, .ref o_words, .ref o_clashes, .ref o_rocks, .int v_counts, .ref o_count, .int v_signs, .ref o_pad, .int v_readMany, .int v_signedAll, .int v_reason, .int v_acts, .ref o_reached, .ref o_queue, .ref o_got, .long v_waitUp, .long v_waitLow, .ref o_wins, .ref o_image, .ref o_isKept])), (o_count, .inl (cI, 16, .inl v_count))]) sz)) 0 0 (va_A ([(o, .inr (12, [.ref o_book, .ref o_now, .ref o_moults, .ref o_words, .ref o_clashes, .ref o_rocks, .int v_counts, .ref o_count, .int v_signs, .ref o_pad, .int v_readMany, .int v_signedAll, .int v_reason, .int v_acts, .ref o_reached, .ref o_queue, .ref o_got, .long v_waitUp, .long v_waitLow, .ref o_wins, .ref o_image, .ref o_isKept])), (o_count, .inl (cI, 16, .inl v_count))]) sz) := by
  refine q_met_w (Qc := fun A => qWi R (dC, dI) ([(o, .inr (12, [.ref o_book, .ref o_now, .ref o_moults, .ref o_words, .ref o_clashes, .ref o_rocks, .int w_counts, .ref o_count, .int v_signs, .ref o_pad, .int v_readMany, .int v_signedAll, .int v_reason, .int v_acts, .ref o_reached, .ref o_queue, .ref o_got, .long v_waitUp, .long v_waitLow, .ref o_wins, .ref o_image, .ref o_isKept])), (o_count, .inl (cI, 16, .inl w_count))]) A) (cc := cX12_counted) (own := RX12) (maxL := 3) (ret := (some .int)) (lv0 := [(0, .ref o), (1, .int p1), (2, .int p2)]) (by decide) rfl rfl rfl (Nat.le_of_ble_eq_true rfl) ?_
  intro p e s m args below meth c A hA C hr hnm Q hQ
  have lk0 : Cond.fieldLink RX12 156 "SealStraitModel" "counts" "I" ∈ wsX12_counted := by decide +kernel
  have lk1 : ∀ w ∈ u_ws RX12 TX12 22, w ∈ wsX12_counted := fun w h => List.mem_cons_of_mem _ (List.mem_append_right _ h)
  have lk2 : Cond.fieldLink RX12 28 "SealStraitModel" "count" "[I" ∈ wsX12_counted := by decide +kernel
  unfold f_Model_counted at hF
  refine q_iload_n C dX12_counted_0 1 rfl rfl ?_
  refine q_iconst (v := (0 : Int32)) C dX12_counted_1 (by decide) ?_
  refine q_iconst (v := (5 : Int32)) C dX12_counted_2 (by decide) ?_
  refine q_roz (q_runS (As := [.int p1, .int (0 : Int32), .int (5 : Int32)]) (rest := []) C (fun sz => c_X12_in l dC dI cI cZ cQ p1 (0 : Int32) (5 : Int32) (f_Model_in p1 (0 : Int32) (5 : Int32)) rfl sz) (va_cwS 3 C.2.2.2.2.1 gX12_counted_X12_in rfl rfl rfl (by decide +kernel) ⟨Nat.le_of_ble_eq_true rfl, Nat.le_of_ble_eq_true rfl⟩) [] rfl rfl rfl rfl (Nat.le_of_ble_eq_true rfl) dX12_counted_3 ⟨Nat.zero_le _, Nat.zero_le _⟩) (fun hz1 => ?_)
  refine q_if_ne (tgt := 11) C dX12_counted_6 (by decide) (fun c2 => ?_) (fun c2 => ?_)
  · have hF := ite_f hF c2
    refine q_iload_n C dX12_counted_11 2 rfl rfl ?_
    refine q_iconst (v := (0 : Int32)) C dX12_counted_12 (by decide) ?_
    refine q_sipush (v := (999 : Int32)) C dX12_counted_13 (by decide) ?_
    refine q_roz (q_runS (As := [.int p2, .int (0 : Int32), .int (999 : Int32)]) (rest := []) C (fun sz => c_X12_in l dC dI cI cZ cQ p2 (0 : Int32) (999 : Int32) (f_Model_in p2 (0 : Int32) (999 : Int32)) rfl sz) (va_cwS 3 C.2.2.2.2.1 gX12_counted_X12_in rfl rfl rfl (by decide +kernel) ⟨Nat.le_of_ble_eq_true rfl, Nat.le_of_ble_eq_true rfl⟩) [] rfl rfl rfl rfl (Nat.le_of_ble_eq_true rfl) dX12_counted_16 ⟨Nat.zero_le _, Nat.zero_le _⟩) (fun hz3 => ?_)
    refine q_if_ne (tgt := 25) C dX12_counted_19 (by decide) (fun c4 => ?_) (fun c4 => ?_)
    · have hF := ite_f hF c4
      refine q_aload_n C dX12_counted_25 0 rfl rfl ?_
      refine q_get (C0 := RX12) (T := TX12) (N := 22) (k0 := 6) C lk1 0 rfl rfl (by decide) lk0 rfl (v := .int v_counts) rfl dX12_counted_26 ?_
      refine q_bipush (v := (8 : Int32)) C dX12_counted_29 (by decide) ?_
      refine q_icmp_ne (tgt := 37) C dX12_counted_31 (by decide) (fun c5 => ?_) (fun c5 => ?_)
      · have hF := ite_f hF c5
        refine q_aload_n C dX12_counted_37 0 rfl rfl ?_
        refine q_get (C0 := RX12) (T := TX12) (N := 22) (k0 := 7) C lk1 0 rfl rfl (by decide) lk2 rfl (v := .ref o_count) rfl dX12_counted_38 ?_
        refine q_iconst (v := (2 : Int32)) C dX12_counted_41 (by decide) ?_
        refine q_aload_n C dX12_counted_42 0 rfl rfl ?_
        refine q_get (C0 := RX12) (T := TX12) (N := 22) (k0 := 6) C lk1 0 rfl rfl (by decide) lk0 rfl (v := .int v_counts) rfl dX12_counted_43 ?_
        refine q_imul C dX12_counted_46 ?_
        refine q_iload_n C dX12_counted_47 1 rfl rfl ?_
        obtain ⟨hc6, hF⟩ := ite_c hF
        refine q_iast C 1 0 rfl rfl (ix_in hc6) ([(o, .inr (12, [.ref o_book, .ref o_now, .ref o_moults, .ref o_words, .ref o_clashes, .ref o_rocks, .int v_counts, .ref o_count, .int v_signs, .ref o_pad, .int v_readMany, .int v_signedAll, .int v_reason, .int v_acts, .ref o_reached, .ref o_queue, .ref o_got, .long v_waitUp, .long v_waitLow, .ref o_wins, .ref o_image, .ref o_isKept])), (o_count, .inl (cI, 16, .inl (upd v_count (((2 : Int32) * v_counts)).toNatClampNeg p1)))]) rfl dX12_counted_48 ?_
        refine q_aload_n C dX12_counted_49 0 rfl rfl ?_
        refine q_get (C0 := RX12) (T := TX12) (N := 22) (k0 := 7) C lk1 0 rfl rfl (by decide) lk2 rfl (v := .ref o_count) rfl dX12_counted_50 ?_
        refine q_iconst (v := (2 : Int32)) C dX12_counted_53 (by decide) ?_
        refine q_aload_n C dX12_counted_54 0 rfl rfl ?_
        refine q_get (C0 := RX12) (T := TX12) (N := 22) (k0 := 6) C lk1 0 rfl rfl (by decide) lk0 rfl (v := .int v_counts) rfl dX12_counted_55 ?_
        refine q_imul C dX12_counted_58 ?_
        refine q_iconst (v := (1 : Int32)) C dX12_counted_59 (by decide) ?_
        refine q_iadd C dX12_counted_60 ?_
        refine q_iload_n C dX12_counted_61 2 rfl rfl ?_
        obtain ⟨hc7, hF⟩ := ite_c hF
        refine q_iast C 1 0 rfl rfl (ix_in hc7) ([(o, .inr (12, [.ref o_book, .ref o_now, .ref o_moults, .ref o_words, .ref o_clashes, .ref o_rocks, .int v_counts, .ref o_count, .int v_signs, .ref o_pad, .int v_readMany, .int v_signedAll, .int v_reason, .int v_acts, .ref o_reached, .ref o_queue, .ref o_got, .long v_waitUp, .long v_waitLow, .ref o_wins, .ref o_image, .ref o_isKept])), (o_count, .inl (cI, 16, .inl (upd (upd v_count (((2 : Int32) * v_counts)).toNatClampNeg p1) ((((2 : Int32) * v_counts) + (1 : Int32))).toNatClampNeg p2)))]) rfl dX12_counted_62 ?_
        refine q_aload_n C dX12_counted_63 0 rfl rfl ?_
        refine q_dup C dX12_counted_64 rfl ?_
        refine q_get (C0 := RX12) (T := TX12) (N := 22) (k0 := 6) C lk1 0 rfl rfl (by decide) lk0 rfl (v := .int v_counts) rfl dX12_counted_65 ?_
        refine q_iconst (v := (1 : Int32)) C dX12_counted_68 (by decide) ?_
        refine q_iadd C dX12_counted_69 ?_
        refine q_put (C0 := RX12) (T := TX12) (N := 22) (k0 := 6) C lk1 0 rfl rfl (by decide) lk0 rfl tyX12 tyX12_ok nmX12 rfl (v := .int (v_counts + (1 : Int32))) rfl rfl (Nat.le_of_ble_eq_true rfl) ([(o, .inr (12, [.ref o_book, .ref o_now, .ref o_moults, .ref o_words, .ref o_clashes, .ref o_rocks, .int (v_counts + (1 : Int32)), .ref o_count, .int v_signs, .ref o_pad, .int v_readMany, .int v_signedAll, .int v_reason, .int v_acts, .ref o_reached, .ref o_queue, .ref o_got, .long v_waitUp, .long v_waitLow, .ref o_wins, .ref o_image, .ref o_isKept])), (o_count, .inl (cI, 16, .inl (upd (upd v_count (((2 : Int32) * v_counts)).toNatClampNeg p1) ((((2 : Int32) * v_counts) + (1 : Int32))).toNatClampNeg p2)))]) rfl dX12_counted_70 ?_
        refine q_aload_n C dX12_counted_73 0 rfl rfl ?_
        refine q_get (C0 := RX12) (T := TX12) (N := 22) (k0 := 6) C lk1 0 rfl rfl (by decide) lk0 rfl (v := .int (v_counts + (1 : Int32))) rfl dX12_counted_74 ?_
        cases hF
        exact q_wreti C hr dX12_counted_77 hQ
      · have hF := ite_t hF c5
        refine q_bipush (v := (-4 : Int32)) C dX12_counted_34 (by decide) ?_
        cases hF
        exact q_wreti C hr dX12_counted_36 hQ
    · have hF := ite_t hF c4
      refine q_bipush (v := (-2 : Int32)) C dX12_counted_22 (by decide) ?_
      cases hF
      exact q_wreti C hr dX12_counted_24 hQ
  · have hF := ite_t hF c2
    refine q_iconst (v := (-1 : Int32)) C dX12_counted_9 (by decide) ?_
    cases hF
    exact q_wreti C hr dX12_counted_10 hQ
set_option maxRecDepth 100000 in
set_option maxHeartbeats 4000000 in
theorem c_X12_forget (l : Launch) (dC : Nat → ClassId) (dI : Nat → Nat → Nat) (cI cZ cQ : ClassId) (o o_book o_now o_moults o_words o_clashes o_rocks o_count o_pad o_reached o_queue o_got o_wins o_image o_isKept : Nat) (v_counts : Int32) (v_signs : Int32) (v_readMany : Int32) (v_signedAll : Int32) (v_reason : Int32) (v_acts : Int32) (v_waitUp : Int64) (v_waitLow : Int64) (R : Int32) (w_counts : Int32) (hF : f_Model_forget v_counts = some (R, w_counts)) (sz : Nat) : Met l yX12_forget wsX12_forget ({ frames := 0, cells := 0, slots := 0, locals := 0 } : Room) (qPc ([.ref o]) (dC, dI) (qT cI cZ cQ) ([(o, .inr (12, [.ref o_book, .ref o_now, .ref o_moults, .ref o_words, .ref o_clashes, .ref o_rocks, .int v_counts, .ref o_count, .int v_signs, .ref o_pad, .int v_readMany, .int v_signedAll, .int v_reason, .int v_acts, .ref o_reached, .ref o_queue, .ref o_got, .long v_waitUp, .long v_waitLow, .ref o_wins, .ref o_image, .ref o_isKept]))]) sz) (qWi R (dC, dI) ([(o, .inr (12, [.ref o_book, .ref o_now, .ref o_moults, .ref o_words, .ref o_clashes, .ref o_rocks, .int w_counts, .ref o_count, .int v_signs, .ref o_pad, .int v_readMany, .int v_signedAll, .int v_reason, .int v_acts, .ref o_reached, .ref o_queue, .ref o_got, .long v_waitUp, .long v_waitLow, .ref o_wins, .ref o_image, .ref o_isKept]))]) (va_A ([(o, .inr (12, [.ref o_book, .ref o_now, .ref o_moults, .ref o_words, .ref o_clashes, .ref o_rocks, .int v_counts, .ref o_count, .int v_signs, .ref o_pad, .int v_readMany, .int v_signedAll, .int v_reason, .int v_acts, .ref o_reached, .ref o_queue, .ref o_got, .long v_waitUp, .long v_waitLow, .ref o_wins, .ref o_image, .ref o_isKept]))]) sz)) 0 0 (va_A ([(o, .inr (12, [.ref o_book, .ref o_now, .ref o_moults, .ref o_words, .ref o_clashes, .ref o_rocks, .int v_counts, .ref o_count, .int v_signs, .ref o_pad, .int v_readMany, .int v_signedAll, .int v_reason, .int v_acts, .ref o_reached, .ref o_queue, .ref o_got, .long v_waitUp, .long v_waitLow, .ref o_wins, .ref o_image, .ref o_isKept]))]) sz) := by
  refine q_met_w (Qc := fun A => qWi R (dC, dI) ([(o, .inr (12, [.ref o_book, .ref o_now, .ref o_moults, .ref o_words, .ref o_clashes, .ref o_rocks, .int w_counts, .ref o_count, .int v_signs, .ref o_pad, .int v_readMany, .int v_signedAll, .int v_reason, .int v_acts, .ref o_reached, .ref o_queue, .ref o_got, .long v_waitUp, .long v_waitLow, .ref o_wins, .ref o_image, .ref o_isKept]))]) A) (cc := cX12_forget) (own := RX12) (maxL := 2) (ret := (some .int)) (lv0 := [(0, .ref o)]) (by decide) rfl rfl rfl (Nat.le_of_ble_eq_true rfl) ?_
  intro p e s m args below meth c A hA C hr hnm Q hQ
  have lk0 : Cond.fieldLink RX12 156 "SealStraitModel" "counts" "I" ∈ wsX12_forget := by decide +kernel
  have lk1 : ∀ w ∈ u_ws RX12 TX12 22, w ∈ wsX12_forget := fun w h => List.mem_cons_of_mem _ (List.mem_append_right _ h)
  unfold f_Model_forget at hF
  refine q_aload_n C dX12_forget_0 0 rfl rfl ?_
  refine q_get (C0 := RX12) (T := TX12) (N := 22) (k0 := 6) C lk1 0 rfl rfl (by decide) lk0 rfl (v := .int v_counts) rfl dX12_forget_1 ?_
  refine q_istore_n C ([(1, .int v_counts), (0, .ref o)]) dX12_forget_4 rfl (by decide) rfl ?_
  refine q_aload_n C dX12_forget_5 1 rfl rfl ?_
  refine q_iconst (v := (0 : Int32)) C dX12_forget_6 (by decide) ?_
  refine q_put (C0 := RX12) (T := TX12) (N := 22) (k0 := 6) C lk1 0 rfl rfl (by decide) lk0 rfl tyX12 tyX12_ok nmX12 rfl (v := .int (0 : Int32)) rfl rfl (Nat.le_of_ble_eq_true rfl) ([(o, .inr (12, [.ref o_book, .ref o_now, .ref o_moults, .ref o_words, .ref o_clashes, .ref o_rocks, .int (0 : Int32), .ref o_count, .int v_signs, .ref o_pad, .int v_readMany, .int v_signedAll, .int v_reason, .int v_acts, .ref o_reached, .ref o_queue, .ref o_got, .long v_waitUp, .long v_waitLow, .ref o_wins, .ref o_image, .ref o_isKept]))]) rfl dX12_forget_7 ?_
  refine q_iload_n C dX12_forget_10 0 rfl rfl ?_
  cases hF
  exact q_wreti C hr dX12_forget_11 hQ
set_option maxRecDepth 100000 in
set_option maxHeartbeats 4000000 in
theorem c_X12_wantingOff (l : Launch) (dC : Nat → ClassId) (dI : Nat → Nat → Nat) (cI cZ cQ : ClassId) (o o_book o_rocks o_now o_moults o_words o_clashes o_count o_pad o_reached o_queue o_got o_wins o_image o_isKept : Nat) (v_book : Nat → Int32) (v_rocks : Nat → Int32) (v_counts : Int32) (v_signs : Int32) (v_readMany : Int32) (v_signedAll : Int32) (v_reason : Int32) (v_acts : Int32) (v_waitUp : Int64) (v_waitLow : Int64) (p1 : Int32) (p2 : Int32) (R : Int32) (hF : f_Model_wantingOff v_book v_rocks p1 p2 = some R) (sz : Nat) : Met l yX12_wantingOff wsX12_wantingOff ({ frames := 1, cells := 0, slots := 0, locals := 21 } : Room) (qPc ([.ref o, .int p1, .int p2]) (dC, dI) (qT cI cZ cQ) ([(o, .inr (12, [.ref o_book, .ref o_now, .ref o_moults, .ref o_words, .ref o_clashes, .ref o_rocks, .int v_counts, .ref o_count, .int v_signs, .ref o_pad, .int v_readMany, .int v_signedAll, .int v_reason, .int v_acts, .ref o_reached, .ref o_queue, .ref o_got, .long v_waitUp, .long v_waitLow, .ref o_wins, .ref o_image, .ref o_isKept])), (o_book, .inl (cI, 21, .inl v_book)), (o_rocks, .inl (cI, 6, .inl v_rocks))]) sz) (qRi R) 0 0 (fun _ => False) := by
  refine q_met_r (cc := cX12_wantingOff) (own := RX12) (maxL := 5) (ret := (some .int)) (lv0 := [(0, .ref o), (1, .int p1), (2, .int p2)]) (by decide) rfl rfl rfl (Nat.le_of_ble_eq_true rfl) ?_
  intro p e s m args below meth c C hr A A' Q hA0 hQ
  have lk0 : Cond.fieldLink RX12 25 "SealStraitModel" "rocks" "[I" ∈ wsX12_wantingOff := by decide +kernel
  have lk1 : ∀ w ∈ u_ws RX12 TX12 22, w ∈ wsX12_wantingOff := fun w h => List.mem_cons_of_mem _ (List.mem_append_right _ h)
  have lk2 : Cond.fieldLink RX12 7 "SealStraitModel" "book" "[I" ∈ wsX12_wantingOff := by decide +kernel
  have L1 : ∀ (n : Nat) (x1 : Int32) (x2 : Int32) (x3 : Int32) (x4 : Int32) (y3 : Int32), evr (fun s => b_Model_wantingOff_1 x1 x2 v_book v_rocks s.1 s.2) n (x3, x4) = some y3 → qG p l e ({ frames := 1, cells := 0, slots := 0, locals := 21 } : Room) s m args below meth c 5 (dC, dI) A A' Q 0 0 ([(3, .int y3)]) [] ([(o, .inr (12, [.ref o_book, .ref o_now, .ref o_moults, .ref o_words, .ref o_clashes, .ref o_rocks, .int v_counts, .ref o_count, .int v_signs, .ref o_pad, .int v_readMany, .int v_signedAll, .int v_reason, .int v_acts, .ref o_reached, .ref o_queue, .ref o_got, .long v_waitUp, .long v_waitLow, .ref o_wins, .ref o_image, .ref o_isKept])), (o_book, .inl (cI, 21, .inl v_book)), (o_rocks, .inl (cI, 6, .inl v_rocks))]) 48 → qG p l e ({ frames := 1, cells := 0, slots := 0, locals := 21 } : Room) s m args below meth c 5 (dC, dI) A A' Q 0 0 ([(0, .ref o), (1, .int x1), (2, .int x2), (3, .int x3), (4, .int x4)]) [] ([(o, .inr (12, [.ref o_book, .ref o_now, .ref o_moults, .ref o_words, .ref o_clashes, .ref o_rocks, .int v_counts, .ref o_count, .int v_signs, .ref o_pad, .int v_readMany, .int v_signedAll, .int v_reason, .int v_acts, .ref o_reached, .ref o_queue, .ref o_got, .long v_waitUp, .long v_waitLow, .ref o_wins, .ref o_image, .ref o_isKept])), (o_book, .inl (cI, 21, .inl v_book)), (o_rocks, .inl (cI, 6, .inl v_rocks))]) 5 := by
    clear hF
    intro n
    induction n with
    | zero => intro x1 x2 x3 x4 y3 hF; exact (evr_0 hF).elim
    | succ n ih =>
      intro x1 x2 x3 x4 y3 hF hk
      obtain ⟨o9, hB, hn, hx⟩ := evr_c hF
      have hF : b_Model_wantingOff_1 x1 x2 v_book v_rocks x3 x4 = some o9 := hB
      unfold b_Model_wantingOff_1 at hF
      refine q_iload C dX12_wantingOff_5 4 rfl ?_
      refine q_bipush (v := (6 : Int32)) C dX12_wantingOff_7 (by decide) ?_
      refine q_icmp_ge (tgt := 48) C dX12_wantingOff_9 (by decide) (fun c1 => ?_) (fun c1 => ?_)
      · have hF := ite_t hF c1
        cases hF
        have e2 := hx _ rfl
        cases e2
        refine q_lsel [3] rfl ?_
        exact hk
      · have hF := ite_f hF c1
        refine q_iload_n C dX12_wantingOff_12 3 rfl rfl ?_
        refine q_iload_n C dX12_wantingOff_13 2 rfl rfl ?_
        refine q_aload_n C dX12_wantingOff_14 0 rfl rfl ?_
        refine q_get (C0 := RX12) (T := TX12) (N := 22) (k0 := 5) C lk1 0 rfl rfl (by decide) lk0 rfl (v := .ref o_rocks) rfl dX12_wantingOff_15 ?_
        refine q_iload_n C dX12_wantingOff_18 1 rfl rfl ?_
        obtain ⟨hc3, hF⟩ := ite_c hF
        refine q_iald C 2 0 rfl rfl (ix_in hc3) dX12_wantingOff_19 ?_
        refine q_iand C dX12_wantingOff_20 ?_
        refine q_iload C dX12_wantingOff_21 4 rfl ?_
        refine q_roz (q_runS (As := [.int (x2 &&& (v_rocks (x1).toNatClampNeg)), .int x4]) (rest := [.int x3]) C (fun sz => c_X12_has l dC dI cI cZ cQ (x2 &&& (v_rocks (x1).toNatClampNeg)) x4 (f_Model_has (x2 &&& (v_rocks (x1).toNatClampNeg)) x4) rfl sz) (va_cwS 2 C.2.2.2.2.1 gX12_wantingOff_X12_has rfl rfl rfl (by decide +kernel) ⟨Nat.le_of_ble_eq_true rfl, Nat.le_of_ble_eq_true rfl⟩) [] rfl rfl rfl rfl (Nat.le_of_ble_eq_true rfl) dX12_wantingOff_23 ⟨Nat.zero_le _, Nat.zero_le _⟩) (fun hz4 => ?_)
        refine q_if_eq (tgt := 39) C dX12_wantingOff_26 (by decide) (fun c5 => ?_) (fun c5 => ?_)
        · have hF := ite_t hF c5
          refine q_iconst (v := (0 : Int32)) C dX12_wantingOff_39 (by decide) ?_
          refine q_iadd C dX12_wantingOff_40 ?_
          refine q_istore_n C ([(3, .int (x3 + (0 : Int32))), (0, .ref o), (1, .int x1), (2, .int x2), (4, .int x4)]) dX12_wantingOff_41 rfl (by decide) rfl ?_
          refine q_iinc (v := (x4 + 1)) C ([(4, .int (x4 + 1)), (3, .int (x3 + (0 : Int32))), (0, .ref o), (1, .int x1), (2, .int x2)]) dX12_wantingOff_42 4 rfl rfl (by decide) rfl ?_
          refine q_goto (tgt := 5) C dX12_wantingOff_45 (by decide) ?_
          cases hF
          refine q_lsel [2, 3, 4, 1, 0] rfl ?_
          exact ih x1 x2 (x3 + (0 : Int32)) (x4 + 1) y3 (hn _ rfl) hk
        · have hF := ite_f hF c5
          refine q_aload_n C dX12_wantingOff_29 0 rfl rfl ?_
          refine q_get (C0 := RX12) (T := TX12) (N := 22) (k0 := 0) C lk1 0 rfl rfl (by decide) lk2 rfl (v := .ref o_book) rfl dX12_wantingOff_30 ?_
          refine q_iload C dX12_wantingOff_33 4 rfl ?_
          obtain ⟨hc6, hF⟩ := ite_c hF
          refine q_iald C 1 0 rfl rfl (ix_in hc6) dX12_wantingOff_35 ?_
          refine q_goto (tgt := 40) C dX12_wantingOff_36 (by decide) ?_
          refine q_iadd C dX12_wantingOff_40 ?_
          refine q_istore_n C ([(3, .int (x3 + (v_book (x4).toNatClampNeg))), (0, .ref o), (1, .int x1), (2, .int x2), (4, .int x4)]) dX12_wantingOff_41 rfl (by decide) rfl ?_
          refine q_iinc (v := (x4 + 1)) C ([(4, .int (x4 + 1)), (3, .int (x3 + (v_book (x4).toNatClampNeg))), (0, .ref o), (1, .int x1), (2, .int x2)]) dX12_wantingOff_42 4 rfl rfl (by decide) rfl ?_
          refine q_goto (tgt := 5) C dX12_wantingOff_45 (by decide) ?_
          cases hF
          refine q_lsel [2, 3, 4, 1, 0] rfl ?_
          exact ih x1 x2 (x3 + (v_book (x4).toNatClampNeg)) (x4 + 1) y3 (hn _ rfl) hk
  unfold f_Model_wantingOff at hF
  refine q_iconst (v := (0 : Int32)) C dX12_wantingOff_0 (by decide) ?_
  refine q_istore_n C ([(3, .int (0 : Int32)), (0, .ref o), (1, .int p1), (2, .int p2)]) dX12_wantingOff_1 rfl (by decide) rfl ?_
  refine q_iconst (v := (0 : Int32)) C dX12_wantingOff_2 (by decide) ?_
  refine q_istore C ([(4, .int (0 : Int32)), (3, .int (0 : Int32)), (0, .ref o), (1, .int p1), (2, .int p2)]) dX12_wantingOff_3 (by decide) rfl ?_
  obtain ⟨y3_7, hc8, hF⟩ := bind_c hF
  obtain ⟨n9, hc8⟩ := (ev_iff _ _ _).mp hc8
  refine q_lsel [2, 3, 4, 1, 0] rfl ?_
  refine L1 n9 p1 p2 (0 : Int32) (0 : Int32) y3_7 hc8 ?_
  refine q_iload_n C dX12_wantingOff_48 0 rfl rfl ?_
  cases hF
  exact q_ireti C hA0 hr dX12_wantingOff_49 hQ
set_option maxRecDepth 100000 in
set_option maxHeartbeats 4000000 in
theorem c_X12_isFit (l : Launch) (dC : Nat → ClassId) (dI : Nat → Nat → Nat) (cI cZ cQ : ClassId) (o o_book o_rocks o_count o_now o_moults o_words o_clashes o_pad o_reached o_queue o_got o_wins o_image o_isKept : Nat) (v_book : Nat → Int32) (v_rocks : Nat → Int32) (v_counts : Int32) (v_count : Nat → Int32) (v_signs : Int32) (v_readMany : Int32) (v_signedAll : Int32) (v_reason : Int32) (v_acts : Int32) (v_waitUp : Int64) (v_waitLow : Int64) (p1 : Int32) (R : Int32) (hF : f_Model_isFit v_book v_rocks v_counts v_count p1 = some R) (sz : Nat) : Met l yX12_isFit wsX12_isFit ({ frames := 2, cells := 0, slots := 0, locals := 45 } : Room) (qPc ([.ref o, .int p1]) (dC, dI) (qT cI cZ cQ) ([(o, .inr (12, [.ref o_book, .ref o_now, .ref o_moults, .ref o_words, .ref o_clashes, .ref o_rocks, .int v_counts, .ref o_count, .int v_signs, .ref o_pad, .int v_readMany, .int v_signedAll, .int v_reason, .int v_acts, .ref o_reached, .ref o_queue, .ref o_got, .long v_waitUp, .long v_waitLow, .ref o_wins, .ref o_image, .ref o_isKept])), (o_book, .inl (cI, 21, .inl v_book)), (o_rocks, .inl (cI, 6, .inl v_rocks)), (o_count, .inl (cI, 16, .inl v_count))]) sz) (qRz R) 0 0 (fun _ => False) := by
  refine q_met_r (cc := cX12_isFit) (own := RX12) (maxL := 4) (ret := (some .boolean)) (lv0 := [(0, .ref o), (1, .int p1)]) (by decide) rfl rfl rfl (Nat.le_of_ble_eq_true rfl) ?_
  intro p e s m args below meth c C hr A A' Q hA0 hQ
  have lk0 : Cond.fieldLink RX12 7 "SealStraitModel" "book" "[I" ∈ wsX12_isFit := by decide +kernel
  have lk1 : ∀ w ∈ u_ws RX12 TX12 22, w ∈ wsX12_isFit := fun w h => List.mem_cons_of_mem _ (List.mem_append_right _ h)
  have lk2 : Cond.fieldLink RX12 156 "SealStraitModel" "counts" "I" ∈ wsX12_isFit := by decide +kernel
  have lk3 : Cond.fieldLink RX12 28 "SealStraitModel" "count" "[I" ∈ wsX12_isFit := by decide +kernel
  have L1 : ∀ (n : Nat) (x1 : Int32) (x2 : Int32) (x3 : Int32) (y2 : Int32), evr (fun s => b_Model_isFit_1 x1 v_book v_rocks v_counts v_count s.1 s.2) n (x2, x3) = some y2 → qG p l e ({ frames := 2, cells := 0, slots := 0, locals := 45 } : Room) s m args below meth c 4 (dC, dI) A A' Q 0 0 ([(2, .int y2)]) [] ([(o, .inr (12, [.ref o_book, .ref o_now, .ref o_moults, .ref o_words, .ref o_clashes, .ref o_rocks, .int v_counts, .ref o_count, .int v_signs, .ref o_pad, .int v_readMany, .int v_signedAll, .int v_reason, .int v_acts, .ref o_reached, .ref o_queue, .ref o_got, .long v_waitUp, .long v_waitLow, .ref o_wins, .ref o_image, .ref o_isKept])), (o_book, .inl (cI, 21, .inl v_book)), (o_rocks, .inl (cI, 6, .inl v_rocks)), (o_count, .inl (cI, 16, .inl v_count))]) 72 → qG p l e ({ frames := 2, cells := 0, slots := 0, locals := 45 } : Room) s m args below meth c 4 (dC, dI) A A' Q 0 0 ([(0, .ref o), (1, .int x1), (2, .int x2), (3, .int x3)]) [] ([(o, .inr (12, [.ref o_book, .ref o_now, .ref o_moults, .ref o_words, .ref o_clashes, .ref o_rocks, .int v_counts, .ref o_count, .int v_signs, .ref o_pad, .int v_readMany, .int v_signedAll, .int v_reason, .int v_acts, .ref o_reached, .ref o_queue, .ref o_got, .long v_waitUp, .long v_waitLow, .ref o_wins, .ref o_image, .ref o_isKept])), (o_book, .inl (cI, 21, .inl v_book)), (o_rocks, .inl (cI, 6, .inl v_rocks)), (o_count, .inl (cI, 16, .inl v_count))]) 22 := by
    clear hF
    intro n
    induction n with
    | zero => intro x1 x2 x3 y2 hF; exact (evr_0 hF).elim
    | succ n ih =>
      intro x1 x2 x3 y2 hF hk
      obtain ⟨o9, hB, hn, hx⟩ := evr_c hF
      have hF : b_Model_isFit_1 x1 v_book v_rocks v_counts v_count x2 x3 = some o9 := hB
      unfold b_Model_isFit_1 at hF
      refine q_iload_n C dX12_isFit_22 3 rfl rfl ?_
      refine q_aload_n C dX12_isFit_23 0 rfl rfl ?_
      refine q_get (C0 := RX12) (T := TX12) (N := 22) (k0 := 6) C lk1 0 rfl rfl (by decide) lk2 rfl (v := .int v_counts) rfl dX12_isFit_24 ?_
      refine q_icmp_ge (tgt := 72) C dX12_isFit_27 (by decide) (fun c1 => ?_) (fun c1 => ?_)
      · have hF := ite_t hF c1
        cases hF
        have e2 := hx _ rfl
        cases e2
        refine q_lsel [2] rfl ?_
        exact hk
      · have hF := ite_f hF c1
        refine q_iload_n C dX12_isFit_30 2 rfl rfl ?_
        refine q_if_eq (tgt := 72) C dX12_isFit_31 (by decide) (fun c3 => ?_) (fun c3 => ?_)
        · have hF := ite_t hF c3
          cases hF
          have e4 := hx _ rfl
          cases e4
          refine q_lsel [2] rfl ?_
          exact hk
        · have hF := ite_f hF c3
          refine q_aload_n C dX12_isFit_34 0 rfl rfl ?_
          refine q_aload_n C dX12_isFit_35 0 rfl rfl ?_
          refine q_get (C0 := RX12) (T := TX12) (N := 22) (k0 := 7) C lk1 0 rfl rfl (by decide) lk3 rfl (v := .ref o_count) rfl dX12_isFit_36 ?_
          refine q_iconst (v := (2 : Int32)) C dX12_isFit_39 (by decide) ?_
          refine q_iload_n C dX12_isFit_40 3 rfl rfl ?_
          refine q_imul C dX12_isFit_41 ?_
          obtain ⟨hc5, hF⟩ := ite_c hF
          refine q_iald C 3 0 rfl rfl (ix_in hc5) dX12_isFit_42 ?_
          refine q_iload_n C dX12_isFit_43 1 rfl rfl ?_
          obtain ⟨r6, hc7, hF⟩ := bind_c hF
          refine q_roi (q_runV (As := [.int (v_count (((2 : Int32) * x3)).toNatClampNeg), .int x1]) (rest := []) C (fun sz => c_X12_wantingOff l dC dI cI cZ cQ o o_book o_rocks o_now o_moults o_words o_clashes o_count o_pad o_reached o_queue o_got o_wins o_image o_isKept v_book v_rocks v_counts v_signs v_readMany v_signedAll v_reason v_acts v_waitUp v_waitLow (v_count (((2 : Int32) * x3)).toNatClampNeg) x1 r6 hc7 sz) (cwV 2 C.2.2.2.2.1 gX12_isFit_X12_wantingOff rfl rfl rfl (by decide +kernel) ⟨Nat.le_of_ble_eq_true rfl, Nat.le_of_ble_eq_true rfl⟩) 0 rfl rfl rfl [0, 1, 2] rfl rfl rfl rfl (Nat.le_of_ble_eq_true rfl) dX12_isFit_44 ⟨Nat.zero_le _, Nat.zero_le _⟩) ?_
          refine q_aload_n C dX12_isFit_47 0 rfl rfl ?_
          refine q_get (C0 := RX12) (T := TX12) (N := 22) (k0 := 7) C lk1 0 rfl rfl (by decide) lk3 rfl (v := .ref o_count) rfl dX12_isFit_48 ?_
          refine q_iconst (v := (2 : Int32)) C dX12_isFit_51 (by decide) ?_
          refine q_iload_n C dX12_isFit_52 3 rfl rfl ?_
          refine q_imul C dX12_isFit_53 ?_
          refine q_iconst (v := (1 : Int32)) C dX12_isFit_54 (by decide) ?_
          refine q_iadd C dX12_isFit_55 ?_
          obtain ⟨hc8, hF⟩ := ite_c hF
          refine q_iald C 3 0 rfl rfl (ix_in hc8) dX12_isFit_56 ?_
          refine q_icmp_ne (tgt := 64) C dX12_isFit_57 (by decide) (fun c9 => ?_) (fun c9 => ?_)
          · have hF := ite_f hF c9
            refine q_iconst (v := (0 : Int32)) C dX12_isFit_64 (by decide) ?_
            refine q_istore_n C ([(2, .int (0 : Int32)), (0, .ref o), (1, .int x1), (3, .int x3)]) dX12_isFit_65 rfl (by decide) rfl ?_
            refine q_iinc (v := (x3 + 1)) C ([(3, .int (x3 + 1)), (2, .int (0 : Int32)), (0, .ref o), (1, .int x1)]) dX12_isFit_66 3 rfl rfl (by decide) rfl ?_
            refine q_goto (tgt := 22) C dX12_isFit_69 (by decide) ?_
            cases hF
            refine q_lsel [2, 3, 1, 0] rfl ?_
            exact ih x1 (0 : Int32) (x3 + 1) y2 (hn _ rfl) hk
          · have hF := ite_t hF c9
            refine q_iconst (v := (1 : Int32)) C dX12_isFit_60 (by decide) ?_
            refine q_goto (tgt := 65) C dX12_isFit_61 (by decide) ?_
            refine q_istore_n C ([(2, .int (1 : Int32)), (0, .ref o), (1, .int x1), (3, .int x3)]) dX12_isFit_65 rfl (by decide) rfl ?_
            refine q_iinc (v := (x3 + 1)) C ([(3, .int (x3 + 1)), (2, .int (1 : Int32)), (0, .ref o), (1, .int x1)]) dX12_isFit_66 3 rfl rfl (by decide) rfl ?_
            refine q_goto (tgt := 22) C dX12_isFit_69 (by decide) ?_
            cases hF
            refine q_lsel [2, 3, 1, 0] rfl ?_
            exact ih x1 (1 : Int32) (x3 + 1) y2 (hn _ rfl) hk
  unfold f_Model_isFit at hF
  refine q_iload_n C dX12_isFit_0 1 rfl rfl ?_
  refine q_aload_n C dX12_isFit_1 0 rfl rfl ?_
  refine q_get (C0 := RX12) (T := TX12) (N := 22) (k0 := 0) C lk1 0 rfl rfl (by decide) lk0 rfl (v := .ref o_book) rfl dX12_isFit_2 ?_
  refine q_bipush (v := (18 : Int32)) C dX12_isFit_5 (by decide) ?_
  refine q_iald C 1 0 rfl rfl (ix_in (by decide)) dX12_isFit_7 ?_
  refine q_iconst (v := (-1 : Int32)) C dX12_isFit_8 (by decide) ?_
  refine q_ixor C dX12_isFit_9 ?_
  refine q_iand C dX12_isFit_10 ?_
  refine q_if_ne (tgt := 18) C dX12_isFit_11 (by decide) (fun c10 => ?_) (fun c10 => ?_)
  · have hF := ite_f hF c10
    refine q_iconst (v := (0 : Int32)) C dX12_isFit_18 (by decide) ?_
    refine q_istore_n C ([(2, .int (0 : Int32)), (0, .ref o), (1, .int p1)]) dX12_isFit_19 rfl (by decide) rfl ?_
    refine q_iconst (v := (0 : Int32)) C dX12_isFit_20 (by decide) ?_
    refine q_istore_n C ([(3, .int (0 : Int32)), (2, .int (0 : Int32)), (0, .ref o), (1, .int p1)]) dX12_isFit_21 rfl (by decide) rfl ?_
    obtain ⟨y2_11, hc12, hF⟩ := bind_c hF
    obtain ⟨n13, hc12⟩ := (ev_iff _ _ _).mp hc12
    refine q_lsel [2, 3, 1, 0] rfl ?_
    refine L1 n13 p1 (0 : Int32) (0 : Int32) y2_11 hc12 ?_
    refine q_iload_n C dX12_isFit_72 0 rfl rfl ?_
    obtain ⟨hc14, hF⟩ := ite_c hF
    cases hF
    exact q_iretz C hA0 hr hc14 dX12_isFit_73 hQ
  · have hF := ite_t hF c10
    refine q_iconst (v := (1 : Int32)) C dX12_isFit_14 (by decide) ?_
    refine q_goto (tgt := 19) C dX12_isFit_15 (by decide) ?_
    refine q_istore_n C ([(2, .int (1 : Int32)), (0, .ref o), (1, .int p1)]) dX12_isFit_19 rfl (by decide) rfl ?_
    refine q_iconst (v := (0 : Int32)) C dX12_isFit_20 (by decide) ?_
    refine q_istore_n C ([(3, .int (0 : Int32)), (2, .int (1 : Int32)), (0, .ref o), (1, .int p1)]) dX12_isFit_21 rfl (by decide) rfl ?_
    obtain ⟨y2_15, hc16, hF⟩ := bind_c hF
    obtain ⟨n17, hc16⟩ := (ev_iff _ _ _).mp hc16
    refine q_lsel [2, 3, 1, 0] rfl ?_
    refine L1 n17 p1 (1 : Int32) (0 : Int32) y2_15 hc16 ?_
    refine q_iload_n C dX12_isFit_72 0 rfl rfl ?_
    obtain ⟨hc18, hF⟩ := ite_c hF
    cases hF
    exact q_iretz C hA0 hr hc18 dX12_isFit_73 hQ
set_option maxRecDepth 100000 in
set_option maxHeartbeats 4000000 in
theorem c_X12_went (l : Launch) (dC : Nat → ClassId) (dI : Nat → Nat → Nat) (cI cZ cQ : ClassId) (o o_book o_rocks o_count o_now o_moults o_words o_clashes o_pad o_reached o_queue o_got o_wins o_image o_isKept : Nat) (v_book : Nat → Int32) (v_rocks : Nat → Int32) (v_counts : Int32) (v_count : Nat → Int32) (v_signs : Int32) (v_readMany : Int32) (v_signedAll : Int32) (v_reason : Int32) (v_acts : Int32) (v_waitUp : Int64) (v_waitLow : Int64) (p1 : Int32) (R : Int32) (hF : f_Model_went v_book v_rocks v_counts v_count p1 = some R) (sz : Nat) : Met l yX12_went wsX12_went ({ frames := 3, cells := 0, slots := 0, locals := 68 } : Room) (qPc ([.ref o, .int p1]) (dC, dI) (qT cI cZ cQ) ([(o, .inr (12, [.ref o_book, .ref o_now, .ref o_moults, .ref o_words, .ref o_clashes, .ref o_rocks, .int v_counts, .ref o_count, .int v_signs, .ref o_pad, .int v_readMany, .int v_signedAll, .int v_reason, .int v_acts, .ref o_reached, .ref o_queue, .ref o_got, .long v_waitUp, .long v_waitLow, .ref o_wins, .ref o_image, .ref o_isKept])), (o_book, .inl (cI, 21, .inl v_book)), (o_rocks, .inl (cI, 6, .inl v_rocks)), (o_count, .inl (cI, 16, .inl v_count))]) sz) (qRi R) 0 0 (fun _ => False) := by
  refine q_met_r (cc := cX12_went) (own := RX12) (maxL := 4) (ret := (some .int)) (lv0 := [(0, .ref o), (1, .int p1)]) (by decide) rfl rfl rfl (Nat.le_of_ble_eq_true rfl) ?_
  intro p e s m args below meth c C hr A A' Q hA0 hQ
  have L1 : ∀ (n : Nat) (x1 : Int32) (x2 : Int32) (x3 : Int32), evr (fun s => b_Model_went_1 x1 v_book v_rocks v_counts v_count s.1 s.2) n (x2, x3) = some R → qG p l e ({ frames := 3, cells := 0, slots := 0, locals := 68 } : Room) s m args below meth c 4 (dC, dI) A A' Q 0 0 ([(0, .ref o), (1, .int x1), (2, .int x2), (3, .int x3)]) [] ([(o, .inr (12, [.ref o_book, .ref o_now, .ref o_moults, .ref o_words, .ref o_clashes, .ref o_rocks, .int v_counts, .ref o_count, .int v_signs, .ref o_pad, .int v_readMany, .int v_signedAll, .int v_reason, .int v_acts, .ref o_reached, .ref o_queue, .ref o_got, .long v_waitUp, .long v_waitLow, .ref o_wins, .ref o_image, .ref o_isKept])), (o_book, .inl (cI, 21, .inl v_book)), (o_rocks, .inl (cI, 6, .inl v_rocks)), (o_count, .inl (cI, 16, .inl v_count))]) 4 := by
    clear hF
    intro n
    induction n with
    | zero => intro x1 x2 x3  hF; exact (evr_0 hF).elim
    | succ n ih =>
      intro x1 x2 x3  hF
      obtain ⟨o9, hB, hn, hx⟩ := evr_c hF
      have hF : b_Model_went_1 x1 v_book v_rocks v_counts v_count x2 x3 = some o9 := hB
      unfold b_Model_went_1 at hF
      refine q_iload_n C dX12_went_4 3 rfl rfl ?_
      refine q_bipush (v := (64 : Int32)) C dX12_went_5 (by decide) ?_
      refine q_icmp_ge (tgt := 34) C dX12_went_7 (by decide) (fun c1 => ?_) (fun c1 => ?_)
      · have hF := ite_t hF c1
        refine q_iload_n C dX12_went_34 1 rfl rfl ?_
        refine q_iconst (v := (-1 : Int32)) C dX12_went_35 (by decide) ?_
        refine q_icmp_ne (tgt := 43) C dX12_went_36 (by decide) (fun c2 => ?_) (fun c2 => ?_)
        · have hF := ite_f hF c2
          refine q_bipush (v := (-6 : Int32)) C dX12_went_43 (by decide) ?_
          cases hF
          have e3 := hx _ rfl
          cases e3
          exact q_ireti C hA0 hr dX12_went_45 hQ
        · have hF := ite_t hF c2
          refine q_iload_n C dX12_went_39 2 rfl rfl ?_
          refine q_goto (tgt := 45) C dX12_went_40 (by decide) ?_
          cases hF
          have e4 := hx _ rfl
          cases e4
          exact q_ireti C hA0 hr dX12_went_45 hQ
      · have hF := ite_f hF c1
        refine q_aload_n C dX12_went_10 0 rfl rfl ?_
        refine q_iload_n C dX12_went_11 3 rfl rfl ?_
        obtain ⟨r5, hc6, hF⟩ := bind_c hF
        refine q_roz (q_runV (As := [.int x3]) (rest := []) C (fun sz => c_X12_isFit l dC dI cI cZ cQ o o_book o_rocks o_count o_now o_moults o_words o_clashes o_pad o_reached o_queue o_got o_wins o_image o_isKept v_book v_rocks v_counts v_count v_signs v_readMany v_signedAll v_reason v_acts v_waitUp v_waitLow x3 r5 hc6 sz) (cwV 1 C.2.2.2.2.1 gX12_went_X12_isFit rfl rfl rfl (by decide +kernel) ⟨Nat.le_of_ble_eq_true rfl, Nat.le_of_ble_eq_true rfl⟩) 0 rfl rfl rfl [0, 1, 2, 3] rfl rfl rfl rfl (Nat.le_of_ble_eq_true rfl) dX12_went_12 ⟨Nat.zero_le _, Nat.zero_le _⟩) (fun hz5 => ?_)
        refine q_if_eq (tgt := 28) C dX12_went_15 (by decide) (fun c7 => ?_) (fun c7 => ?_)
        · have hF := ite_t hF c7
          refine q_iinc (v := (x3 + 1)) C ([(3, .int (x3 + 1)), (0, .ref o), (1, .int x1), (2, .int x2)]) dX12_went_28 3 rfl rfl (by decide) rfl ?_
          refine q_goto (tgt := 4) C dX12_went_31 (by decide) ?_
          cases hF
          refine q_lsel [1, 2, 3, 0] rfl ?_
          exact ih x1 x2 (x3 + 1) (hn _ rfl)
        · have hF := ite_f hF c7
          refine q_iload_n C dX12_went_18 2 rfl rfl ?_
          refine q_iload_n C dX12_went_19 1 rfl rfl ?_
          refine q_icmp_ne (tgt := 25) C dX12_went_20 (by decide) (fun c8 => ?_) (fun c8 => ?_)
          · have hF := ite_f hF c8
            refine q_iinc (v := (x2 + 1)) C ([(2, .int (x2 + 1)), (0, .ref o), (1, .int x1), (3, .int x3)]) dX12_went_25 2 rfl rfl (by decide) rfl ?_
            refine q_iinc (v := (x3 + 1)) C ([(3, .int (x3 + 1)), (2, .int (x2 + 1)), (0, .ref o), (1, .int x1)]) dX12_went_28 3 rfl rfl (by decide) rfl ?_
            refine q_goto (tgt := 4) C dX12_went_31 (by decide) ?_
            cases hF
            refine q_lsel [2, 3, 1, 0] rfl ?_
            exact ih x1 (x2 + 1) (x3 + 1) (hn _ rfl)
          · have hF := ite_t hF c8
            refine q_iload_n C dX12_went_23 3 rfl rfl ?_
            cases hF
            have e9 := hx _ rfl
            cases e9
            exact q_ireti C hA0 hr dX12_went_24 hQ
  unfold f_Model_went at hF
  refine q_iconst (v := (0 : Int32)) C dX12_went_0 (by decide) ?_
  refine q_istore_n C ([(2, .int (0 : Int32)), (0, .ref o), (1, .int p1)]) dX12_went_1 rfl (by decide) rfl ?_
  refine q_iconst (v := (0 : Int32)) C dX12_went_2 (by decide) ?_
  refine q_istore_n C ([(3, .int (0 : Int32)), (2, .int (0 : Int32)), (0, .ref o), (1, .int p1)]) dX12_went_3 rfl (by decide) rfl ?_
  obtain ⟨n10, hF⟩ := (ev_iff _ _ _).mp hF
  refine q_lsel [2, 3, 1, 0] rfl ?_
  exact L1 n10 p1 (0 : Int32) (0 : Int32) hF
set_option maxRecDepth 100000 in
set_option maxHeartbeats 4000000 in
theorem c_X12_ask (l : Launch) (dC : Nat → ClassId) (dI : Nat → Nat → Nat) (cI cZ cQ : ClassId) (o o_book o_rocks o_count o_now o_moults o_words o_clashes o_pad o_reached o_queue o_got o_wins o_image o_isKept : Nat) (v_book : Nat → Int32) (v_rocks : Nat → Int32) (v_counts : Int32) (v_count : Nat → Int32) (v_signs : Int32) (v_readMany : Int32) (v_signedAll : Int32) (v_reason : Int32) (v_acts : Int32) (v_waitUp : Int64) (v_waitLow : Int64) (p1 : Int32) (R : Int32) (hF : f_Model_ask v_book v_rocks v_counts v_count p1 = some R) (sz : Nat) : Met l yX12_ask wsX12_ask ({ frames := 3, cells := 0, slots := 0, locals := 68 } : Room) (qPc ([.ref o, .int p1]) (dC, dI) (qT cI cZ cQ) ([(o, .inr (12, [.ref o_book, .ref o_now, .ref o_moults, .ref o_words, .ref o_clashes, .ref o_rocks, .int v_counts, .ref o_count, .int v_signs, .ref o_pad, .int v_readMany, .int v_signedAll, .int v_reason, .int v_acts, .ref o_reached, .ref o_queue, .ref o_got, .long v_waitUp, .long v_waitLow, .ref o_wins, .ref o_image, .ref o_isKept])), (o_book, .inl (cI, 21, .inl v_book)), (o_rocks, .inl (cI, 6, .inl v_rocks)), (o_count, .inl (cI, 16, .inl v_count))]) sz) (qRi R) 0 0 (fun _ => False) := by
  refine q_met_r (cc := cX12_ask) (own := RX12) (maxL := 9) (ret := (some .int)) (lv0 := [(0, .ref o), (1, .int p1)]) (by decide) rfl rfl rfl (Nat.le_of_ble_eq_true rfl) ?_
  intro p e s m args below meth c C hr A A' Q hA0 hQ
  have lk0 : Cond.constant RX12 165 (1000000 : Int32) ∈ wsX12_ask := by decide +kernel
  have L3 : ∀ (n : Nat) (x1 : Int32) (x2 : Int32) (x3 : Int32) (x4 : Int32) (x5 : Int32) (x6 : Int32) (x7 : Int32) (x8 : Int32) (y7 : Int32), evr (fun s => b_Model_ask_3 x4 x6 v_book v_rocks v_counts v_count s.1 s.2) n (x7, x8) = some y7 → qG p l e ({ frames := 3, cells := 0, slots := 0, locals := 68 } : Room) s m args below meth c 9 (dC, dI) A A' Q 0 0 ([(0, .ref o), (1, .int x1), (2, .int x2), (3, .int x3), (4, .int x4), (5, .int x5), (6, .int x6), (7, .int y7)]) [] ([(o, .inr (12, [.ref o_book, .ref o_now, .ref o_moults, .ref o_words, .ref o_clashes, .ref o_rocks, .int v_counts, .ref o_count, .int v_signs, .ref o_pad, .int v_readMany, .int v_signedAll, .int v_reason, .int v_acts, .ref o_reached, .ref o_queue, .ref o_got, .long v_waitUp, .long v_waitLow, .ref o_wins, .ref o_image, .ref o_isKept])), (o_book, .inl (cI, 21, .inl v_book)), (o_rocks, .inl (cI, 6, .inl v_rocks)), (o_count, .inl (cI, 16, .inl v_count))]) 107 → qG p l e ({ frames := 3, cells := 0, slots := 0, locals := 68 } : Room) s m args below meth c 9 (dC, dI) A A' Q 0 0 ([(0, .ref o), (1, .int x1), (2, .int x2), (3, .int x3), (4, .int x4), (5, .int x5), (6, .int x6), (7, .int x7), (8, .int x8)]) [] ([(o, .inr (12, [.ref o_book, .ref o_now, .ref o_moults, .ref o_words, .ref o_clashes, .ref o_rocks, .int v_counts, .ref o_count, .int v_signs, .ref o_pad, .int v_readMany, .int v_signedAll, .int v_reason, .int v_acts, .ref o_reached, .ref o_queue, .ref o_got, .long v_waitUp, .long v_waitLow, .ref o_wins, .ref o_image, .ref o_isKept])), (o_book, .inl (cI, 21, .inl v_book)), (o_rocks, .inl (cI, 6, .inl v_rocks)), (o_count, .inl (cI, 16, .inl v_count))]) 47 := by
    clear hF
    intro n
    induction n with
    | zero => intro x1 x2 x3 x4 x5 x6 x7 x8 y7 hF; exact (evr_0 hF).elim
    | succ n ih =>
      intro x1 x2 x3 x4 x5 x6 x7 x8 y7 hF hk
      obtain ⟨o9, hB, hn, hx⟩ := evr_c hF
      have hF : b_Model_ask_3 x4 x6 v_book v_rocks v_counts v_count x7 x8 = some o9 := hB
      unfold b_Model_ask_3 at hF
      refine q_iload C dX12_ask_47 8 rfl ?_
      refine q_bipush (v := (64 : Int32)) C dX12_ask_49 (by decide) ?_
      refine q_icmp_ge (tgt := 107) C dX12_ask_51 (by decide) (fun c1 => ?_) (fun c1 => ?_)
      · have hF := ite_t hF c1
        cases hF
        have e2 := hx _ rfl
        cases e2
        refine q_lsel [0, 1, 2, 3, 4, 5, 6, 7] rfl ?_
        exact hk
      · have hF := ite_f hF c1
        refine q_aload_n C dX12_ask_54 0 rfl rfl ?_
        refine q_iload C dX12_ask_55 6 rfl ?_
        obtain ⟨r3, hc4, hF⟩ := bind_c hF
        refine q_roz (q_runV (As := [.int x6]) (rest := []) C (fun sz => c_X12_isFit l dC dI cI cZ cQ o o_book o_rocks o_count o_now o_moults o_words o_clashes o_pad o_reached o_queue o_got o_wins o_image o_isKept v_book v_rocks v_counts v_count v_signs v_readMany v_signedAll v_reason v_acts v_waitUp v_waitLow x6 r3 hc4 sz) (cwV 1 C.2.2.2.2.1 gX12_ask_X12_isFit rfl rfl rfl (by decide +kernel) ⟨Nat.le_of_ble_eq_true rfl, Nat.le_of_ble_eq_true rfl⟩) 0 rfl rfl rfl [0, 1, 2, 3] rfl rfl rfl rfl (Nat.le_of_ble_eq_true rfl) dX12_ask_57 ⟨Nat.zero_le _, Nat.zero_le _⟩) (fun hz3 => ?_)
        refine q_if_eq (tgt := 107) C dX12_ask_60 (by decide) (fun c5 => ?_) (fun c5 => ?_)
        · have hF := ite_t hF c5
          cases hF
          have e6 := hx _ rfl
          cases e6
          refine q_lsel [0, 1, 2, 3, 4, 5, 6, 7] rfl ?_
          exact hk
        · have hF := ite_f hF c5
          refine q_iload C dX12_ask_63 7 rfl ?_
          refine q_aload_n C dX12_ask_65 0 rfl rfl ?_
          refine q_iload C dX12_ask_66 8 rfl ?_
          obtain ⟨r7, hc8, hF⟩ := bind_c hF
          refine q_roz (q_runV (As := [.int x8]) (rest := [.int x7]) C (fun sz => c_X12_isFit l dC dI cI cZ cQ o o_book o_rocks o_count o_now o_moults o_words o_clashes o_pad o_reached o_queue o_got o_wins o_image o_isKept v_book v_rocks v_counts v_count v_signs v_readMany v_signedAll v_reason v_acts v_waitUp v_waitLow x8 r7 hc8 sz) (cwV 1 C.2.2.2.2.1 gX12_ask_X12_isFit rfl rfl rfl (by decide +kernel) ⟨Nat.le_of_ble_eq_true rfl, Nat.le_of_ble_eq_true rfl⟩) 0 rfl rfl rfl [0, 1, 2, 3] rfl rfl rfl rfl (Nat.le_of_ble_eq_true rfl) dX12_ask_68 ⟨Nat.zero_le _, Nat.zero_le _⟩) (fun hz7 => ?_)
          refine q_if_eq (tgt := 97) C dX12_ask_71 (by decide) (fun c9 => ?_) (fun c9 => ?_)
          · have hF := ite_t hF c9
            refine q_iconst (v := (0 : Int32)) C dX12_ask_97 (by decide) ?_
            refine q_iadd C dX12_ask_98 ?_
            refine q_istore C ([(7, .int (x7 + (0 : Int32))), (0, .ref o), (1, .int x1), (2, .int x2), (3, .int x3), (4, .int x4), (5, .int x5), (6, .int x6), (8, .int x8)]) dX12_ask_99 (by decide) rfl ?_
            refine q_iinc (v := (x8 + 1)) C ([(8, .int (x8 + 1)), (7, .int (x7 + (0 : Int32))), (0, .ref o), (1, .int x1), (2, .int x2), (3, .int x3), (4, .int x4), (5, .int x5), (6, .int x6)]) dX12_ask_101 8 rfl rfl (by decide) rfl ?_
            refine q_goto (tgt := 47) C dX12_ask_104 (by decide) ?_
            cases hF
            refine q_lsel [2, 3, 4, 5, 6, 7, 8, 1, 0] rfl ?_
            exact ih x1 x2 x3 x4 x5 x6 (x7 + (0 : Int32)) (x8 + 1) y7 (hn _ rfl) hk
          · have hF := ite_f hF c9
            refine q_aload_n C dX12_ask_74 0 rfl rfl ?_
            refine q_iload C dX12_ask_75 4 rfl ?_
            refine q_iload C dX12_ask_77 8 rfl ?_
            obtain ⟨r10, hc11, hF⟩ := bind_c hF
            refine q_roi (q_runV (As := [.int x4, .int x8]) (rest := [.int x7]) C (fun sz => c_X12_wantingOff l dC dI cI cZ cQ o o_book o_rocks o_now o_moults o_words o_clashes o_count o_pad o_reached o_queue o_got o_wins o_image o_isKept v_book v_rocks v_counts v_signs v_readMany v_signedAll v_reason v_acts v_waitUp v_waitLow x4 x8 r10 hc11 sz) (cwV 2 C.2.2.2.2.1 gX12_ask_X12_wantingOff rfl rfl rfl (by decide +kernel) ⟨Nat.le_of_ble_eq_true rfl, Nat.le_of_ble_eq_true rfl⟩) 0 rfl rfl rfl [0, 1, 2] rfl rfl rfl rfl (Nat.le_of_ble_eq_true rfl) dX12_ask_79 ⟨Nat.zero_le _, Nat.zero_le _⟩) ?_
            refine q_aload_n C dX12_ask_82 0 rfl rfl ?_
            refine q_iload C dX12_ask_83 4 rfl ?_
            refine q_iload C dX12_ask_85 6 rfl ?_
            obtain ⟨r12, hc13, hF⟩ := bind_c hF
            refine q_roi (q_runV (As := [.int x4, .int x6]) (rest := [.int r10, .int x7]) C (fun sz => c_X12_wantingOff l dC dI cI cZ cQ o o_book o_rocks o_now o_moults o_words o_clashes o_count o_pad o_reached o_queue o_got o_wins o_image o_isKept v_book v_rocks v_counts v_signs v_readMany v_signedAll v_reason v_acts v_waitUp v_waitLow x4 x6 r12 hc13 sz) (cwV 2 C.2.2.2.2.1 gX12_ask_X12_wantingOff rfl rfl rfl (by decide +kernel) ⟨Nat.le_of_ble_eq_true rfl, Nat.le_of_ble_eq_true rfl⟩) 0 rfl rfl rfl [0, 1, 2] rfl rfl rfl rfl (Nat.le_of_ble_eq_true rfl) dX12_ask_87 ⟨Nat.zero_le _, Nat.zero_le _⟩) ?_
            refine q_icmp_ne (tgt := 97) C dX12_ask_90 (by decide) (fun c14 => ?_) (fun c14 => ?_)
            · have hF := ite_f hF c14
              refine q_iconst (v := (0 : Int32)) C dX12_ask_97 (by decide) ?_
              refine q_iadd C dX12_ask_98 ?_
              refine q_istore C ([(7, .int (x7 + (0 : Int32))), (0, .ref o), (1, .int x1), (2, .int x2), (3, .int x3), (4, .int x4), (5, .int x5), (6, .int x6), (8, .int x8)]) dX12_ask_99 (by decide) rfl ?_
              refine q_iinc (v := (x8 + 1)) C ([(8, .int (x8 + 1)), (7, .int (x7 + (0 : Int32))), (0, .ref o), (1, .int x1), (2, .int x2), (3, .int x3), (4, .int x4), (5, .int x5), (6, .int x6)]) dX12_ask_101 8 rfl rfl (by decide) rfl ?_
              refine q_goto (tgt := 47) C dX12_ask_104 (by decide) ?_
              cases hF
              refine q_lsel [2, 3, 4, 5, 6, 7, 8, 1, 0] rfl ?_
              exact ih x1 x2 x3 x4 x5 x6 (x7 + (0 : Int32)) (x8 + 1) y7 (hn _ rfl) hk
            · have hF := ite_t hF c14
              refine q_iconst (v := (1 : Int32)) C dX12_ask_93 (by decide) ?_
              refine q_goto (tgt := 98) C dX12_ask_94 (by decide) ?_
              refine q_iadd C dX12_ask_98 ?_
              refine q_istore C ([(7, .int (x7 + (1 : Int32))), (0, .ref o), (1, .int x1), (2, .int x2), (3, .int x3), (4, .int x4), (5, .int x5), (6, .int x6), (8, .int x8)]) dX12_ask_99 (by decide) rfl ?_
              refine q_iinc (v := (x8 + 1)) C ([(8, .int (x8 + 1)), (7, .int (x7 + (1 : Int32))), (0, .ref o), (1, .int x1), (2, .int x2), (3, .int x3), (4, .int x4), (5, .int x5), (6, .int x6)]) dX12_ask_101 8 rfl rfl (by decide) rfl ?_
              refine q_goto (tgt := 47) C dX12_ask_104 (by decide) ?_
              cases hF
              refine q_lsel [2, 3, 4, 5, 6, 7, 8, 1, 0] rfl ?_
              exact ih x1 x2 x3 x4 x5 x6 (x7 + (1 : Int32)) (x8 + 1) y7 (hn _ rfl) hk
  have L2 : ∀ (n : Nat) (x1 : Int32) (x2 : Int32) (x3 : Int32) (x4 : Int32) (x5 : Int32) (x6 : Int32) (y5 : Int32), evr (fun s => b_Model_ask_2 x4 v_book v_rocks v_counts v_count s.1 s.2) n (x5, x6) = some y5 → qG p l e ({ frames := 3, cells := 0, slots := 0, locals := 68 } : Room) s m args below meth c 9 (dC, dI) A A' Q 0 0 ([(0, .ref o), (1, .int x1), (2, .int x2), (3, .int x3), (4, .int x4), (5, .int y5)]) [] ([(o, .inr (12, [.ref o_book, .ref o_now, .ref o_moults, .ref o_words, .ref o_clashes, .ref o_rocks, .int v_counts, .ref o_count, .int v_signs, .ref o_pad, .int v_readMany, .int v_signedAll, .int v_reason, .int v_acts, .ref o_reached, .ref o_queue, .ref o_got, .long v_waitUp, .long v_waitLow, .ref o_wins, .ref o_image, .ref o_isKept])), (o_book, .inl (cI, 21, .inl v_book)), (o_rocks, .inl (cI, 6, .inl v_rocks)), (o_count, .inl (cI, 16, .inl v_count))]) 129 → qG p l e ({ frames := 3, cells := 0, slots := 0, locals := 68 } : Room) s m args below meth c 9 (dC, dI) A A' Q 0 0 ([(0, .ref o), (1, .int x1), (2, .int x2), (3, .int x3), (4, .int x4), (5, .int x5), (6, .int x6)]) [] ([(o, .inr (12, [.ref o_book, .ref o_now, .ref o_moults, .ref o_words, .ref o_clashes, .ref o_rocks, .int v_counts, .ref o_count, .int v_signs, .ref o_pad, .int v_readMany, .int v_signedAll, .int v_reason, .int v_acts, .ref o_reached, .ref o_queue, .ref o_got, .long v_waitUp, .long v_waitLow, .ref o_wins, .ref o_image, .ref o_isKept])), (o_book, .inl (cI, 21, .inl v_book)), (o_rocks, .inl (cI, 6, .inl v_rocks)), (o_count, .inl (cI, 16, .inl v_count))]) 34 := by
    clear hF
    intro n
    induction n with
    | zero => intro x1 x2 x3 x4 x5 x6 y5 hF; exact (evr_0 hF).elim
    | succ n ih =>
      intro x1 x2 x3 x4 x5 x6 y5 hF hk
      obtain ⟨o9, hB, hn, hx⟩ := evr_c hF
      have hF : b_Model_ask_2 x4 v_book v_rocks v_counts v_count x5 x6 = some o9 := hB
      unfold b_Model_ask_2 at hF
      refine q_iload C dX12_ask_34 6 rfl ?_
      refine q_bipush (v := (64 : Int32)) C dX12_ask_36 (by decide) ?_
      refine q_icmp_ge (tgt := 129) C dX12_ask_38 (by decide) (fun c15 => ?_) (fun c15 => ?_)
      · have hF := ite_t hF c15
        cases hF
        have e16 := hx _ rfl
        cases e16
        refine q_lsel [0, 1, 2, 3, 4, 5] rfl ?_
        exact hk
      · have hF := ite_f hF c15
        refine q_iconst (v := (0 : Int32)) C dX12_ask_41 (by decide) ?_
        refine q_istore C ([(7, .int (0 : Int32)), (0, .ref o), (1, .int x1), (2, .int x2), (3, .int x3), (4, .int x4), (5, .int x5), (6, .int x6)]) dX12_ask_42 (by decide) rfl ?_
        refine q_iconst (v := (0 : Int32)) C dX12_ask_44 (by decide) ?_
        refine q_istore C ([(8, .int (0 : Int32)), (7, .int (0 : Int32)), (0, .ref o), (1, .int x1), (2, .int x2), (3, .int x3), (4, .int x4), (5, .int x5), (6, .int x6)]) dX12_ask_45 (by decide) rfl ?_
        obtain ⟨y7_17, hc18, hF⟩ := bind_c hF
        obtain ⟨n19, hc18⟩ := (ev_iff _ _ _).mp hc18
        refine q_lsel [2, 3, 4, 5, 6, 7, 8, 1, 0] rfl ?_
        refine L3 n19 x1 x2 x3 x4 x5 x6 (0 : Int32) (0 : Int32) y7_17 hc18 ?_
        refine q_iload C dX12_ask_107 7 rfl ?_
        refine q_iload C dX12_ask_109 5 rfl ?_
        refine q_icmp_le (tgt := 119) C dX12_ask_111 (by decide) (fun c20 => ?_) (fun c20 => ?_)
        · have hF := ite_t hF c20
          refine q_iload C dX12_ask_119 5 rfl ?_
          refine q_istore C ([(5, .int x5), (0, .ref o), (1, .int x1), (2, .int x2), (3, .int x3), (4, .int x4), (6, .int x6), (7, .int y7_17)]) dX12_ask_121 (by decide) rfl ?_
          refine q_iinc (v := (x6 + 1)) C ([(6, .int (x6 + 1)), (5, .int x5), (0, .ref o), (1, .int x1), (2, .int x2), (3, .int x3), (4, .int x4), (7, .int y7_17)]) dX12_ask_123 6 rfl rfl (by decide) rfl ?_
          refine q_goto (tgt := 34) C dX12_ask_126 (by decide) ?_
          cases hF
          refine q_lsel [2, 3, 4, 5, 6, 1, 0] rfl ?_
          exact ih x1 x2 x3 x4 x5 (x6 + 1) y5 (hn _ rfl) hk
        · have hF := ite_f hF c20
          refine q_iload C dX12_ask_114 7 rfl ?_
          refine q_goto (tgt := 121) C dX12_ask_116 (by decide) ?_
          refine q_istore C ([(5, .int y7_17), (0, .ref o), (1, .int x1), (2, .int x2), (3, .int x3), (4, .int x4), (6, .int x6), (7, .int y7_17)]) dX12_ask_121 (by decide) rfl ?_
          refine q_iinc (v := (x6 + 1)) C ([(6, .int (x6 + 1)), (5, .int y7_17), (0, .ref o), (1, .int x1), (2, .int x2), (3, .int x3), (4, .int x4), (7, .int y7_17)]) dX12_ask_123 6 rfl rfl (by decide) rfl ?_
          refine q_goto (tgt := 34) C dX12_ask_126 (by decide) ?_
          cases hF
          refine q_lsel [2, 3, 4, 5, 6, 1, 0] rfl ?_
          exact ih x1 x2 x3 x4 y7_17 (x6 + 1) y5 (hn _ rfl) hk
  have L1 : ∀ (n : Nat) (x1 : Int32) (x2 : Int32) (x3 : Int32) (x4 : Int32) (y2 : Int32) (y3 : Int32), evr (fun s => b_Model_ask_1 v_book v_rocks v_counts v_count s.1 s.2.1 s.2.2) n (x2, x3, x4) = some (y2, y3) → qG p l e ({ frames := 3, cells := 0, slots := 0, locals := 68 } : Room) s m args below meth c 9 (dC, dI) A A' Q 0 0 ([(1, .int x1), (2, .int y2), (3, .int y3)]) [] ([(o, .inr (12, [.ref o_book, .ref o_now, .ref o_moults, .ref o_words, .ref o_clashes, .ref o_rocks, .int v_counts, .ref o_count, .int v_signs, .ref o_pad, .int v_readMany, .int v_signedAll, .int v_reason, .int v_acts, .ref o_reached, .ref o_queue, .ref o_got, .long v_waitUp, .long v_waitLow, .ref o_wins, .ref o_image, .ref o_isKept])), (o_book, .inl (cI, 21, .inl v_book)), (o_rocks, .inl (cI, 6, .inl v_rocks)), (o_count, .inl (cI, 16, .inl v_count))]) 177 → qG p l e ({ frames := 3, cells := 0, slots := 0, locals := 68 } : Room) s m args below meth c 9 (dC, dI) A A' Q 0 0 ([(0, .ref o), (1, .int x1), (2, .int x2), (3, .int x3), (4, .int x4)]) [] ([(o, .inr (12, [.ref o_book, .ref o_now, .ref o_moults, .ref o_words, .ref o_clashes, .ref o_rocks, .int v_counts, .ref o_count, .int v_signs, .ref o_pad, .int v_readMany, .int v_signedAll, .int v_reason, .int v_acts, .ref o_reached, .ref o_queue, .ref o_got, .long v_waitUp, .long v_waitLow, .ref o_wins, .ref o_image, .ref o_isKept])), (o_book, .inl (cI, 21, .inl v_book)), (o_rocks, .inl (cI, 6, .inl v_rocks)), (o_count, .inl (cI, 16, .inl v_count))]) 21 := by
    clear hF
    intro n
    induction n with
    | zero => intro x1 x2 x3 x4 y2 y3 hF; exact (evr_0 hF).elim
    | succ n ih =>
      intro x1 x2 x3 x4 y2 y3 hF hk
      obtain ⟨o9, hB, hn, hx⟩ := evr_c hF
      have hF : b_Model_ask_1 v_book v_rocks v_counts v_count x2 x3 x4 = some o9 := hB
      unfold b_Model_ask_1 at hF
      refine q_iload C dX12_ask_21 4 rfl ?_
      refine q_bipush (v := (6 : Int32)) C dX12_ask_23 (by decide) ?_
      refine q_icmp_ge (tgt := 177) C dX12_ask_25 (by decide) (fun c21 => ?_) (fun c21 => ?_)
      · have hF := ite_t hF c21
        cases hF
        have e22 := hx _ rfl
        cases e22
        refine q_lsel [1, 2, 3] rfl ?_
        exact hk
      · have hF := ite_f hF c21
        refine q_iconst (v := (0 : Int32)) C dX12_ask_28 (by decide) ?_
        refine q_istore C ([(5, .int (0 : Int32)), (0, .ref o), (1, .int x1), (2, .int x2), (3, .int x3), (4, .int x4)]) dX12_ask_29 (by decide) rfl ?_
        refine q_iconst (v := (0 : Int32)) C dX12_ask_31 (by decide) ?_
        refine q_istore C ([(6, .int (0 : Int32)), (5, .int (0 : Int32)), (0, .ref o), (1, .int x1), (2, .int x2), (3, .int x3), (4, .int x4)]) dX12_ask_32 (by decide) rfl ?_
        obtain ⟨y5_23, hc24, hF⟩ := bind_c hF
        obtain ⟨n25, hc24⟩ := (ev_iff _ _ _).mp hc24
        refine q_lsel [2, 3, 4, 5, 6, 1, 0] rfl ?_
        refine L2 n25 x1 x2 x3 x4 (0 : Int32) (0 : Int32) y5_23 hc24 ?_
        refine q_iload C dX12_ask_129 5 rfl ?_
        refine q_if_le (tgt := 144) C dX12_ask_131 (by decide) (fun c26 => ?_) (fun c26 => ?_)
        · have hF := ite_t hF c26
          refine q_iconst (v := (0 : Int32)) C dX12_ask_144 (by decide) ?_
          refine q_istore C ([(6, .int (0 : Int32)), (0, .ref o), (1, .int x1), (2, .int x2), (3, .int x3), (4, .int x4), (5, .int y5_23)]) dX12_ask_145 (by decide) rfl ?_
          refine q_iload C dX12_ask_147 0 rfl ?_
          refine q_if_eq (tgt := 157) C dX12_ask_149 (by decide) (fun c27 => ?_) (fun c27 => ?_)
          · have hF := ite_t hF c27
            refine q_iload_n C dX12_ask_157 3 rfl rfl ?_
            refine q_istore_n C ([(2, .int x2), (6, .int (0 : Int32)), (0, .ref o), (1, .int x1), (3, .int x3), (4, .int x4), (5, .int y5_23)]) dX12_ask_158 rfl (by decide) rfl ?_
            refine q_iload C dX12_ask_159 1 rfl ?_
            refine q_if_eq (tgt := 169) C dX12_ask_161 (by decide) (fun c28 => ?_) (fun c28 => ?_)
            · have hF := ite_t hF c28
              refine q_iload_n C dX12_ask_169 4 rfl rfl ?_
              refine q_istore_n C ([(3, .int x3), (2, .int x2), (6, .int (0 : Int32)), (0, .ref o), (1, .int x1), (4, .int x4), (5, .int y5_23)]) dX12_ask_170 rfl (by decide) rfl ?_
              refine q_iinc (v := (x4 + 1)) C ([(4, .int (x4 + 1)), (3, .int x3), (2, .int x2), (6, .int (0 : Int32)), (0, .ref o), (1, .int x1), (5, .int y5_23)]) dX12_ask_171 5 rfl rfl (by decide) rfl ?_
              refine q_goto (tgt := 21) C dX12_ask_174 (by decide) ?_
              cases hF
              refine q_lsel [4, 5, 2, 1, 0] rfl ?_
              exact ih x1 x2 x3 (x4 + 1) y2 y3 (hn _ rfl) hk
            · have hF := ite_f hF c28
              refine q_iload C dX12_ask_164 6 rfl ?_
              refine q_goto (tgt := 170) C dX12_ask_166 (by decide) ?_
              refine q_istore_n C ([(3, .int y5_23), (2, .int x2), (6, .int (0 : Int32)), (0, .ref o), (1, .int x1), (4, .int x4), (5, .int y5_23)]) dX12_ask_170 rfl (by decide) rfl ?_
              refine q_iinc (v := (x4 + 1)) C ([(4, .int (x4 + 1)), (3, .int y5_23), (2, .int x2), (6, .int (0 : Int32)), (0, .ref o), (1, .int x1), (5, .int y5_23)]) dX12_ask_171 5 rfl rfl (by decide) rfl ?_
              refine q_goto (tgt := 21) C dX12_ask_174 (by decide) ?_
              cases hF
              refine q_lsel [4, 5, 2, 1, 0] rfl ?_
              exact ih x1 x2 y5_23 (x4 + 1) y2 y3 (hn _ rfl) hk
          · have hF := ite_f hF c27
            refine q_iload C dX12_ask_152 5 rfl ?_
            refine q_goto (tgt := 158) C dX12_ask_154 (by decide) ?_
            refine q_istore_n C ([(2, .int x4), (6, .int (0 : Int32)), (0, .ref o), (1, .int x1), (3, .int x3), (4, .int x4), (5, .int y5_23)]) dX12_ask_158 rfl (by decide) rfl ?_
            refine q_iload C dX12_ask_159 1 rfl ?_
            refine q_if_eq (tgt := 169) C dX12_ask_161 (by decide) (fun c29 => ?_) (fun c29 => ?_)
            · have hF := ite_t hF c29
              refine q_iload_n C dX12_ask_169 4 rfl rfl ?_
              refine q_istore_n C ([(3, .int x3), (2, .int x4), (6, .int (0 : Int32)), (0, .ref o), (1, .int x1), (4, .int x4), (5, .int y5_23)]) dX12_ask_170 rfl (by decide) rfl ?_
              refine q_iinc (v := (x4 + 1)) C ([(4, .int (x4 + 1)), (3, .int x3), (2, .int x4), (6, .int (0 : Int32)), (0, .ref o), (1, .int x1), (5, .int y5_23)]) dX12_ask_171 5 rfl rfl (by decide) rfl ?_
              refine q_goto (tgt := 21) C dX12_ask_174 (by decide) ?_
              cases hF
              refine q_lsel [4, 5, 2, 1, 0] rfl ?_
              exact ih x1 x4 x3 (x4 + 1) y2 y3 (hn _ rfl) hk
            · have hF := ite_f hF c29
              refine q_iload C dX12_ask_164 6 rfl ?_
              refine q_goto (tgt := 170) C dX12_ask_166 (by decide) ?_
              refine q_istore_n C ([(3, .int y5_23), (2, .int x4), (6, .int (0 : Int32)), (0, .ref o), (1, .int x1), (4, .int x4), (5, .int y5_23)]) dX12_ask_170 rfl (by decide) rfl ?_
              refine q_iinc (v := (x4 + 1)) C ([(4, .int (x4 + 1)), (3, .int y5_23), (2, .int x4), (6, .int (0 : Int32)), (0, .ref o), (1, .int x1), (5, .int y5_23)]) dX12_ask_171 5 rfl rfl (by decide) rfl ?_
              refine q_goto (tgt := 21) C dX12_ask_174 (by decide) ?_
              cases hF
              refine q_lsel [4, 5, 2, 1, 0] rfl ?_
              exact ih x1 x4 y5_23 (x4 + 1) y2 y3 (hn _ rfl) hk
        · have hF := ite_f hF c26
          refine q_iload C dX12_ask_134 5 rfl ?_
          refine q_iload_n C dX12_ask_136 3 rfl rfl ?_
          refine q_icmp_ge (tgt := 144) C dX12_ask_137 (by decide) (fun c30 => ?_) (fun c30 => ?_)
          · have hF := ite_t hF c30
            refine q_iconst (v := (0 : Int32)) C dX12_ask_144 (by decide) ?_
            refine q_istore C ([(6, .int (0 : Int32)), (0, .ref o), (1, .int x1), (2, .int x2), (3, .int x3), (4, .int x4), (5, .int y5_23)]) dX12_ask_145 (by decide) rfl ?_
            refine q_iload C dX12_ask_147 0 rfl ?_
            refine q_if_eq (tgt := 157) C dX12_ask_149 (by decide) (fun c31 => ?_) (fun c31 => ?_)
            · have hF := ite_t hF c31
              refine q_iload_n C dX12_ask_157 3 rfl rfl ?_
              refine q_istore_n C ([(2, .int x2), (6, .int (0 : Int32)), (0, .ref o), (1, .int x1), (3, .int x3), (4, .int x4), (5, .int y5_23)]) dX12_ask_158 rfl (by decide) rfl ?_
              refine q_iload C dX12_ask_159 1 rfl ?_
              refine q_if_eq (tgt := 169) C dX12_ask_161 (by decide) (fun c32 => ?_) (fun c32 => ?_)
              · have hF := ite_t hF c32
                refine q_iload_n C dX12_ask_169 4 rfl rfl ?_
                refine q_istore_n C ([(3, .int x3), (2, .int x2), (6, .int (0 : Int32)), (0, .ref o), (1, .int x1), (4, .int x4), (5, .int y5_23)]) dX12_ask_170 rfl (by decide) rfl ?_
                refine q_iinc (v := (x4 + 1)) C ([(4, .int (x4 + 1)), (3, .int x3), (2, .int x2), (6, .int (0 : Int32)), (0, .ref o), (1, .int x1), (5, .int y5_23)]) dX12_ask_171 5 rfl rfl (by decide) rfl ?_
                refine q_goto (tgt := 21) C dX12_ask_174 (by decide) ?_
                cases hF
                refine q_lsel [4, 5, 2, 1, 0] rfl ?_
                exact ih x1 x2 x3 (x4 + 1) y2 y3 (hn _ rfl) hk
              · have hF := ite_f hF c32
                refine q_iload C dX12_ask_164 6 rfl ?_
                refine q_goto (tgt := 170) C dX12_ask_166 (by decide) ?_
                refine q_istore_n C ([(3, .int y5_23), (2, .int x2), (6, .int (0 : Int32)), (0, .ref o), (1, .int x1), (4, .int x4), (5, .int y5_23)]) dX12_ask_170 rfl (by decide) rfl ?_
                refine q_iinc (v := (x4 + 1)) C ([(4, .int (x4 + 1)), (3, .int y5_23), (2, .int x2), (6, .int (0 : Int32)), (0, .ref o), (1, .int x1), (5, .int y5_23)]) dX12_ask_171 5 rfl rfl (by decide) rfl ?_
                refine q_goto (tgt := 21) C dX12_ask_174 (by decide) ?_
                cases hF
                refine q_lsel [4, 5, 2, 1, 0] rfl ?_
                exact ih x1 x2 y5_23 (x4 + 1) y2 y3 (hn _ rfl) hk
            · have hF := ite_f hF c31
              refine q_iload C dX12_ask_152 5 rfl ?_
              refine q_goto (tgt := 158) C dX12_ask_154 (by decide) ?_
              refine q_istore_n C ([(2, .int x4), (6, .int (0 : Int32)), (0, .ref o), (1, .int x1), (3, .int x3), (4, .int x4), (5, .int y5_23)]) dX12_ask_158 rfl (by decide) rfl ?_
              refine q_iload C dX12_ask_159 1 rfl ?_
              refine q_if_eq (tgt := 169) C dX12_ask_161 (by decide) (fun c33 => ?_) (fun c33 => ?_)
              · have hF := ite_t hF c33
                refine q_iload_n C dX12_ask_169 4 rfl rfl ?_
                refine q_istore_n C ([(3, .int x3), (2, .int x4), (6, .int (0 : Int32)), (0, .ref o), (1, .int x1), (4, .int x4), (5, .int y5_23)]) dX12_ask_170 rfl (by decide) rfl ?_
                refine q_iinc (v := (x4 + 1)) C ([(4, .int (x4 + 1)), (3, .int x3), (2, .int x4), (6, .int (0 : Int32)), (0, .ref o), (1, .int x1), (5, .int y5_23)]) dX12_ask_171 5 rfl rfl (by decide) rfl ?_
                refine q_goto (tgt := 21) C dX12_ask_174 (by decide) ?_
                cases hF
                refine q_lsel [4, 5, 2, 1, 0] rfl ?_
                exact ih x1 x4 x3 (x4 + 1) y2 y3 (hn _ rfl) hk
              · have hF := ite_f hF c33
                refine q_iload C dX12_ask_164 6 rfl ?_
                refine q_goto (tgt := 170) C dX12_ask_166 (by decide) ?_
                refine q_istore_n C ([(3, .int y5_23), (2, .int x4), (6, .int (0 : Int32)), (0, .ref o), (1, .int x1), (4, .int x4), (5, .int y5_23)]) dX12_ask_170 rfl (by decide) rfl ?_
                refine q_iinc (v := (x4 + 1)) C ([(4, .int (x4 + 1)), (3, .int y5_23), (2, .int x4), (6, .int (0 : Int32)), (0, .ref o), (1, .int x1), (5, .int y5_23)]) dX12_ask_171 5 rfl rfl (by decide) rfl ?_
                refine q_goto (tgt := 21) C dX12_ask_174 (by decide) ?_
                cases hF
                refine q_lsel [4, 5, 2, 1, 0] rfl ?_
                exact ih x1 x4 y5_23 (x4 + 1) y2 y3 (hn _ rfl) hk
          · have hF := ite_f hF c30
            refine q_iconst (v := (1 : Int32)) C dX12_ask_140 (by decide) ?_
            refine q_goto (tgt := 145) C dX12_ask_141 (by decide) ?_
            refine q_istore C ([(6, .int (1 : Int32)), (0, .ref o), (1, .int x1), (2, .int x2), (3, .int x3), (4, .int x4), (5, .int y5_23)]) dX12_ask_145 (by decide) rfl ?_
            refine q_iload C dX12_ask_147 0 rfl ?_
            refine q_if_eq (tgt := 157) C dX12_ask_149 (by decide) (fun c34 => ?_) (fun c34 => ?_)
            · have hF := ite_t hF c34
              refine q_iload_n C dX12_ask_157 3 rfl rfl ?_
              refine q_istore_n C ([(2, .int x2), (6, .int (1 : Int32)), (0, .ref o), (1, .int x1), (3, .int x3), (4, .int x4), (5, .int y5_23)]) dX12_ask_158 rfl (by decide) rfl ?_
              refine q_iload C dX12_ask_159 1 rfl ?_
              refine q_if_eq (tgt := 169) C dX12_ask_161 (by decide) (fun c35 => ?_) (fun c35 => ?_)
              · have hF := ite_t hF c35
                refine q_iload_n C dX12_ask_169 4 rfl rfl ?_
                refine q_istore_n C ([(3, .int x3), (2, .int x2), (6, .int (1 : Int32)), (0, .ref o), (1, .int x1), (4, .int x4), (5, .int y5_23)]) dX12_ask_170 rfl (by decide) rfl ?_
                refine q_iinc (v := (x4 + 1)) C ([(4, .int (x4 + 1)), (3, .int x3), (2, .int x2), (6, .int (1 : Int32)), (0, .ref o), (1, .int x1), (5, .int y5_23)]) dX12_ask_171 5 rfl rfl (by decide) rfl ?_
                refine q_goto (tgt := 21) C dX12_ask_174 (by decide) ?_
                cases hF
                refine q_lsel [4, 5, 2, 1, 0] rfl ?_
                exact ih x1 x2 x3 (x4 + 1) y2 y3 (hn _ rfl) hk
              · have hF := ite_f hF c35
                refine q_iload C dX12_ask_164 6 rfl ?_
                refine q_goto (tgt := 170) C dX12_ask_166 (by decide) ?_
                refine q_istore_n C ([(3, .int y5_23), (2, .int x2), (6, .int (1 : Int32)), (0, .ref o), (1, .int x1), (4, .int x4), (5, .int y5_23)]) dX12_ask_170 rfl (by decide) rfl ?_
                refine q_iinc (v := (x4 + 1)) C ([(4, .int (x4 + 1)), (3, .int y5_23), (2, .int x2), (6, .int (1 : Int32)), (0, .ref o), (1, .int x1), (5, .int y5_23)]) dX12_ask_171 5 rfl rfl (by decide) rfl ?_
                refine q_goto (tgt := 21) C dX12_ask_174 (by decide) ?_
                cases hF
                refine q_lsel [4, 5, 2, 1, 0] rfl ?_
                exact ih x1 x2 y5_23 (x4 + 1) y2 y3 (hn _ rfl) hk
            · have hF := ite_f hF c34
              refine q_iload C dX12_ask_152 5 rfl ?_
              refine q_goto (tgt := 158) C dX12_ask_154 (by decide) ?_
              refine q_istore_n C ([(2, .int x4), (6, .int (1 : Int32)), (0, .ref o), (1, .int x1), (3, .int x3), (4, .int x4), (5, .int y5_23)]) dX12_ask_158 rfl (by decide) rfl ?_
              refine q_iload C dX12_ask_159 1 rfl ?_
              refine q_if_eq (tgt := 169) C dX12_ask_161 (by decide) (fun c36 => ?_) (fun c36 => ?_)
              · have hF := ite_t hF c36
                refine q_iload_n C dX12_ask_169 4 rfl rfl ?_
                refine q_istore_n C ([(3, .int x3), (2, .int x4), (6, .int (1 : Int32)), (0, .ref o), (1, .int x1), (4, .int x4), (5, .int y5_23)]) dX12_ask_170 rfl (by decide) rfl ?_
                refine q_iinc (v := (x4 + 1)) C ([(4, .int (x4 + 1)), (3, .int x3), (2, .int x4), (6, .int (1 : Int32)), (0, .ref o), (1, .int x1), (5, .int y5_23)]) dX12_ask_171 5 rfl rfl (by decide) rfl ?_
                refine q_goto (tgt := 21) C dX12_ask_174 (by decide) ?_
                cases hF
                refine q_lsel [4, 5, 2, 1, 0] rfl ?_
                exact ih x1 x4 x3 (x4 + 1) y2 y3 (hn _ rfl) hk
              · have hF := ite_f hF c36
                refine q_iload C dX12_ask_164 6 rfl ?_
                refine q_goto (tgt := 170) C dX12_ask_166 (by decide) ?_
                refine q_istore_n C ([(3, .int y5_23), (2, .int x4), (6, .int (1 : Int32)), (0, .ref o), (1, .int x1), (4, .int x4), (5, .int y5_23)]) dX12_ask_170 rfl (by decide) rfl ?_
                refine q_iinc (v := (x4 + 1)) C ([(4, .int (x4 + 1)), (3, .int y5_23), (2, .int x4), (6, .int (1 : Int32)), (0, .ref o), (1, .int x1), (5, .int y5_23)]) dX12_ask_171 5 rfl rfl (by decide) rfl ?_
                refine q_goto (tgt := 21) C dX12_ask_174 (by decide) ?_
                cases hF
                refine q_lsel [4, 5, 2, 1, 0] rfl ?_
                exact ih x1 x4 y5_23 (x4 + 1) y2 y3 (hn _ rfl) hk
  unfold f_Model_ask at hF
  refine q_iload_n C dX12_ask_0 1 rfl rfl ?_
  refine q_iconst (v := (0 : Int32)) C dX12_ask_1 (by decide) ?_
  refine q_iconst (v := (1 : Int32)) C dX12_ask_2 (by decide) ?_
  refine q_roz (q_runS (As := [.int p1, .int (0 : Int32), .int (1 : Int32)]) (rest := []) C (fun sz => c_X12_in l dC dI cI cZ cQ p1 (0 : Int32) (1 : Int32) (f_Model_in p1 (0 : Int32) (1 : Int32)) rfl sz) (va_cwS 3 C.2.2.2.2.1 gX12_ask_X12_in rfl rfl rfl (by decide +kernel) ⟨Nat.le_of_ble_eq_true rfl, Nat.le_of_ble_eq_true rfl⟩) [] rfl rfl rfl rfl (Nat.le_of_ble_eq_true rfl) dX12_ask_3 ⟨Nat.zero_le _, Nat.zero_le _⟩) (fun hz37 => ?_)
  refine q_if_ne (tgt := 12) C dX12_ask_6 (by decide) (fun c38 => ?_) (fun c38 => ?_)
  · have hF := ite_f hF c38
    refine q_bipush (v := (-6 : Int32)) C dX12_ask_12 (by decide) ?_
    refine q_istore_n C ([(2, .int (-6 : Int32)), (0, .ref o), (1, .int p1)]) dX12_ask_14 rfl (by decide) rfl ?_
    refine q_ldc (v := (1000000 : Int32)) C lk0 dX12_ask_15 ?_
    refine q_istore_n C ([(3, .int (1000000 : Int32)), (2, .int (-6 : Int32)), (0, .ref o), (1, .int p1)]) dX12_ask_17 rfl (by decide) rfl ?_
    refine q_iconst (v := (0 : Int32)) C dX12_ask_18 (by decide) ?_
    refine q_istore C ([(4, .int (0 : Int32)), (3, .int (1000000 : Int32)), (2, .int (-6 : Int32)), (0, .ref o), (1, .int p1)]) dX12_ask_19 (by decide) rfl ?_
    obtain ⟨⟨y2_39, y3_39⟩, hc40, hF⟩ := bind_c hF
    dsimp only at hF
    obtain ⟨n41, hc40⟩ := (ev_iff _ _ _).mp hc40
    refine q_lsel [3, 4, 2, 1, 0] rfl ?_
    refine L1 n41 p1 (-6 : Int32) (1000000 : Int32) (0 : Int32) y2_39 y3_39 hc40 ?_
    refine q_iload_n C dX12_ask_177 1 rfl rfl ?_
    refine q_if_lt (tgt := 185) C dX12_ask_178 (by decide) (fun c42 => ?_) (fun c42 => ?_)
    · have hF := ite_t hF c42
      refine q_iload_n C dX12_ask_185 1 rfl rfl ?_
      refine q_goto (tgt := 190) C dX12_ask_186 (by decide) ?_
      cases hF
      exact q_ireti C hA0 hr dX12_ask_190 hQ
    · have hF := ite_f hF c42
      refine q_iload_n C dX12_ask_181 0 rfl rfl ?_
      refine q_if_ne (tgt := 189) C dX12_ask_182 (by decide) (fun c43 => ?_) (fun c43 => ?_)
      · have hF := ite_f hF c43
        refine q_iload_n C dX12_ask_189 2 rfl rfl ?_
        cases hF
        exact q_ireti C hA0 hr dX12_ask_190 hQ
      · have hF := ite_t hF c43
        refine q_iload_n C dX12_ask_185 1 rfl rfl ?_
        refine q_goto (tgt := 190) C dX12_ask_186 (by decide) ?_
        cases hF
        exact q_ireti C hA0 hr dX12_ask_190 hQ
  · have hF := ite_t hF c38
    refine q_bipush (v := (-2 : Int32)) C dX12_ask_9 (by decide) ?_
    cases hF
    exact q_ireti C hA0 hr dX12_ask_11 hQ
set_option maxRecDepth 100000 in
set_option maxHeartbeats 4000000 in
theorem c_X12_turning (l : Launch) (dC : Nat → ClassId) (dI : Nat → Nat → Nat) (cI cZ cQ : ClassId) (o o_words o_wins o_book o_now o_moults o_clashes o_rocks o_count o_pad o_reached o_queue o_got o_image o_isKept : Nat) (v_words : Nat → Int32) (v_wins : Nat → Int32) (v_counts : Int32) (v_signs : Int32) (v_readMany : Int32) (v_signedAll : Int32) (v_reason : Int32) (v_acts : Int32) (v_waitUp : Int64) (v_waitLow : Int64) (p1 : Int32) (p2 : Int32) (R : Int32) (w_wins : Nat → Int32) (hF : f_Model_turning v_words v_wins p1 p2 = some (R, w_wins)) (sz : Nat) : Met l yX12_turning wsX12_turning ({ frames := 1, cells := 0, slots := 0, locals := 22 } : Room) (qPc ([.ref o, .int p1, .int p2]) (dC, dI) (qT cI cZ cQ) ([(o, .inr (12, [.ref o_book, .ref o_now, .ref o_moults, .ref o_words, .ref o_clashes, .ref o_rocks, .int v_counts, .ref o_count, .int v_signs, .ref o_pad, .int v_readMany, .int v_signedAll, .int v_reason, .int v_acts, .ref o_reached, .ref o_queue, .ref o_got, .long v_waitUp, .long v_waitLow, .ref o_wins, .ref o_image, .ref o_isKept])), (o_words, .inl (cI, 10, .inl v_words)), (o_wins, .inl (cI, 1024, .inl v_wins))]) sz) (qWi R (dC, dI) ([(o, .inr (12, [.ref o_book, .ref o_now, .ref o_moults, .ref o_words, .ref o_clashes, .ref o_rocks, .int v_counts, .ref o_count, .int v_signs, .ref o_pad, .int v_readMany, .int v_signedAll, .int v_reason, .int v_acts, .ref o_reached, .ref o_queue, .ref o_got, .long v_waitUp, .long v_waitLow, .ref o_wins, .ref o_image, .ref o_isKept])), (o_words, .inl (cI, 10, .inl v_words)), (o_wins, .inl (cI, 1024, .inl w_wins))]) (va_A ([(o, .inr (12, [.ref o_book, .ref o_now, .ref o_moults, .ref o_words, .ref o_clashes, .ref o_rocks, .int v_counts, .ref o_count, .int v_signs, .ref o_pad, .int v_readMany, .int v_signedAll, .int v_reason, .int v_acts, .ref o_reached, .ref o_queue, .ref o_got, .long v_waitUp, .long v_waitLow, .ref o_wins, .ref o_image, .ref o_isKept])), (o_words, .inl (cI, 10, .inl v_words)), (o_wins, .inl (cI, 1024, .inl v_wins))]) sz)) 0 0 (va_A ([(o, .inr (12, [.ref o_book, .ref o_now, .ref o_moults, .ref o_words, .ref o_clashes, .ref o_rocks, .int v_counts, .ref o_count, .int v_signs, .ref o_pad, .int v_readMany, .int v_signedAll, .int v_reason, .int v_acts, .ref o_reached, .ref o_queue, .ref o_got, .long v_waitUp, .long v_waitLow, .ref o_wins, .ref o_image, .ref o_isKept])), (o_words, .inl (cI, 10, .inl v_words)), (o_wins, .inl (cI, 1024, .inl v_wins))]) sz) := by
  refine q_met_w (Qc := fun A => qWi R (dC, dI) ([(o, .inr (12, [.ref o_book, .ref o_now, .ref o_moults, .ref o_words, .ref o_clashes, .ref o_rocks, .int v_counts, .ref o_count, .int v_signs, .ref o_pad, .int v_readMany, .int v_signedAll, .int v_reason, .int v_acts, .ref o_reached, .ref o_queue, .ref o_got, .long v_waitUp, .long v_waitLow, .ref o_wins, .ref o_image, .ref o_isKept])), (o_words, .inl (cI, 10, .inl v_words)), (o_wins, .inl (cI, 1024, .inl w_wins))]) A) (cc := cX12_turning) (own := RX12) (maxL := 7) (ret := (some .int)) (lv0 := [(0, .ref o), (1, .int p1), (2, .int p2)]) (by decide) rfl rfl rfl (Nat.le_of_ble_eq_true rfl) ?_
  intro p e s m args below meth c A hA C hr hnm Q hQ
  have lk0 : Cond.fieldLink RX12 19 "SealStraitModel" "words" "[I" ∈ wsX12_turning := by decide +kernel
  have lk1 : ∀ w ∈ u_ws RX12 TX12 22, w ∈ wsX12_turning := fun w h => List.mem_cons_of_mem _ (List.mem_append_right _ h)
  have lk2 : Cond.fieldLink RX12 43 "SealStraitModel" "wins" "[I" ∈ wsX12_turning := by decide +kernel
  have L2 : ∀ (n : Nat) (x1 : Int32) (x2 : Int32) (x4 : Int32) (x5 : Int32) (x6 : Int32) (v_wins : Nat → Int32) (y5 : Int32), evr (fun s => b_Model_turning_2 x4 v_words s.1 s.2) n (x5, x6) = some y5 → qG p l e ({ frames := 1, cells := 0, slots := 0, locals := 22 } : Room) s m args below meth c 7 (dC, dI) A A Q 0 0 ([(0, .ref o), (1, .int x1), (2, .int x2), (4, .int x4), (5, .int y5)]) [] ([(o, .inr (12, [.ref o_book, .ref o_now, .ref o_moults, .ref o_words, .ref o_clashes, .ref o_rocks, .int v_counts, .ref o_count, .int v_signs, .ref o_pad, .int v_readMany, .int v_signedAll, .int v_reason, .int v_acts, .ref o_reached, .ref o_queue, .ref o_got, .long v_waitUp, .long v_waitLow, .ref o_wins, .ref o_image, .ref o_isKept])), (o_words, .inl (cI, 10, .inl v_words)), (o_wins, .inl (cI, 1024, .inl v_wins))]) 80 → qG p l e ({ frames := 1, cells := 0, slots := 0, locals := 22 } : Room) s m args below meth c 7 (dC, dI) A A Q 0 0 ([(0, .ref o), (1, .int x1), (2, .int x2), (4, .int x4), (5, .int x5), (6, .int x6)]) [] ([(o, .inr (12, [.ref o_book, .ref o_now, .ref o_moults, .ref o_words, .ref o_clashes, .ref o_rocks, .int v_counts, .ref o_count, .int v_signs, .ref o_pad, .int v_readMany, .int v_signedAll, .int v_reason, .int v_acts, .ref o_reached, .ref o_queue, .ref o_got, .long v_waitUp, .long v_waitLow, .ref o_wins, .ref o_image, .ref o_isKept])), (o_words, .inl (cI, 10, .inl v_words)), (o_wins, .inl (cI, 1024, .inl v_wins))]) 41 := by
    clear hF
    intro n
    induction n with
    | zero => intro x1 x2 x4 x5 x6 v_wins y5 hF; exact (evr_0 hF).elim
    | succ n ih =>
      intro x1 x2 x4 x5 x6 v_wins y5 hF hk
      obtain ⟨o9, hB, hn, hx⟩ := evr_c hF
      have hF : b_Model_turning_2 x4 v_words x5 x6 = some o9 := hB
      unfold b_Model_turning_2 at hF
      refine q_iload C dX12_turning_41 5 rfl ?_
      refine q_bipush (v := (10 : Int32)) C dX12_turning_43 (by decide) ?_
      refine q_icmp_ge (tgt := 80) C dX12_turning_45 (by decide) (fun c1 => ?_) (fun c1 => ?_)
      · have hF := ite_t hF c1
        cases hF
        have e2 := hx _ rfl
        cases e2
        refine q_lsel [0, 1, 2, 3, 4] rfl ?_
        exact hk
      · have hF := ite_f hF c1
        refine q_iload C dX12_turning_48 4 rfl ?_
        refine q_iload C dX12_turning_50 3 rfl ?_
        refine q_iload C dX12_turning_52 5 rfl ?_
        refine q_roz (q_runS (As := [.int x4, .int x6]) (rest := [.int x5]) C (fun sz => c_X12_has l dC dI cI cZ cQ x4 x6 (f_Model_has x4 x6) rfl sz) (va_cwS 2 C.2.2.2.2.1 gX12_turning_X12_has rfl rfl rfl (by decide +kernel) ⟨Nat.le_of_ble_eq_true rfl, Nat.le_of_ble_eq_true rfl⟩) [] rfl rfl rfl rfl (Nat.le_of_ble_eq_true rfl) dX12_turning_54 ⟨Nat.zero_le _, Nat.zero_le _⟩) (fun hz3 => ?_)
        refine q_if_eq (tgt := 70) C dX12_turning_57 (by decide) (fun c4 => ?_) (fun c4 => ?_)
        · have hF := ite_t hF c4
          refine q_iconst (v := (0 : Int32)) C dX12_turning_70 (by decide) ?_
          refine q_isub C dX12_turning_71 ?_
          refine q_istore C ([(5, .int (x5 - (0 : Int32))), (0, .ref o), (1, .int x1), (2, .int x2), (4, .int x4), (6, .int x6)]) dX12_turning_72 (by decide) rfl ?_
          refine q_iinc (v := (x6 + 1)) C ([(6, .int (x6 + 1)), (5, .int (x5 - (0 : Int32))), (0, .ref o), (1, .int x1), (2, .int x2), (4, .int x4)]) dX12_turning_74 5 rfl rfl (by decide) rfl ?_
          refine q_goto (tgt := 41) C dX12_turning_77 (by decide) ?_
          cases hF
          refine q_lsel [2, 3, 4, 5, 1, 0] rfl ?_
          exact ih x1 x2 x4 (x5 - (0 : Int32)) (x6 + 1) v_wins y5 (hn _ rfl) hk
        · have hF := ite_f hF c4
          refine q_aload_n C dX12_turning_60 0 rfl rfl ?_
          refine q_get (C0 := RX12) (T := TX12) (N := 22) (k0 := 3) C lk1 0 rfl rfl (by decide) lk0 rfl (v := .ref o_words) rfl dX12_turning_61 ?_
          refine q_iload C dX12_turning_64 5 rfl ?_
          obtain ⟨hc5, hF⟩ := ite_c hF
          refine q_iald C 1 0 rfl rfl (ix_in hc5) dX12_turning_66 ?_
          refine q_goto (tgt := 71) C dX12_turning_67 (by decide) ?_
          refine q_isub C dX12_turning_71 ?_
          refine q_istore C ([(5, .int (x5 - (v_words (x6).toNatClampNeg))), (0, .ref o), (1, .int x1), (2, .int x2), (4, .int x4), (6, .int x6)]) dX12_turning_72 (by decide) rfl ?_
          refine q_iinc (v := (x6 + 1)) C ([(6, .int (x6 + 1)), (5, .int (x5 - (v_words (x6).toNatClampNeg))), (0, .ref o), (1, .int x1), (2, .int x2), (4, .int x4)]) dX12_turning_74 5 rfl rfl (by decide) rfl ?_
          refine q_goto (tgt := 41) C dX12_turning_77 (by decide) ?_
          cases hF
          refine q_lsel [2, 3, 4, 5, 1, 0] rfl ?_
          exact ih x1 x2 x4 (x5 - (v_words (x6).toNatClampNeg)) (x6 + 1) v_wins y5 (hn _ rfl) hk
  have L3 : ∀ (n : Nat) (x1 : Int32) (x2 : Int32) (x3 : Int32) (x4 : Int32) (x5 : Int32) (x6 : Int32) (v_wins : Nat → Int32) (y3 : Int32), evr (fun s => b_Model_turning_3 x4 x5 v_wins v_words s.1 s.2) n (x3, x6) = some y3 → qG p l e ({ frames := 1, cells := 0, slots := 0, locals := 22 } : Room) s m args below meth c 7 (dC, dI) A A Q 0 0 ([(0, .ref o), (1, .int x1), (2, .int x2), (3, .int y3), (4, .int x4)]) [] ([(o, .inr (12, [.ref o_book, .ref o_now, .ref o_moults, .ref o_words, .ref o_clashes, .ref o_rocks, .int v_counts, .ref o_count, .int v_signs, .ref o_pad, .int v_readMany, .int v_signedAll, .int v_reason, .int v_acts, .ref o_reached, .ref o_queue, .ref o_got, .long v_waitUp, .long v_waitLow, .ref o_wins, .ref o_image, .ref o_isKept])), (o_words, .inl (cI, 10, .inl v_words)), (o_wins, .inl (cI, 1024, .inl v_wins))]) 142 → qG p l e ({ frames := 1, cells := 0, slots := 0, locals := 22 } : Room) s m args below meth c 7 (dC, dI) A A Q 0 0 ([(0, .ref o), (1, .int x1), (2, .int x2), (3, .int x3), (4, .int x4), (5, .int x5), (6, .int x6)]) [] ([(o, .inr (12, [.ref o_book, .ref o_now, .ref o_moults, .ref o_words, .ref o_clashes, .ref o_rocks, .int v_counts, .ref o_count, .int v_signs, .ref o_pad, .int v_readMany, .int v_signedAll, .int v_reason, .int v_acts, .ref o_reached, .ref o_queue, .ref o_got, .long v_waitUp, .long v_waitLow, .ref o_wins, .ref o_image, .ref o_isKept])), (o_words, .inl (cI, 10, .inl v_words)), (o_wins, .inl (cI, 1024, .inl v_wins))]) 87 := by
    clear hF
    intro n
    induction n with
    | zero => intro x1 x2 x3 x4 x5 x6 v_wins y3 hF; exact (evr_0 hF).elim
    | succ n ih =>
      intro x1 x2 x3 x4 x5 x6 v_wins y3 hF hk
      obtain ⟨o9, hB, hn, hx⟩ := evr_c hF
      have hF : b_Model_turning_3 x4 x5 v_wins v_words x3 x6 = some o9 := hB
      unfold b_Model_turning_3 at hF
      refine q_iload C dX12_turning_87 6 rfl ?_
      refine q_if_lt (tgt := 142) C dX12_turning_89 (by decide) (fun c6 => ?_) (fun c6 => ?_)
      · have hF := ite_t hF c6
        cases hF
        have e7 := hx _ rfl
        cases e7
        refine q_lsel [0, 1, 2, 3, 4] rfl ?_
        exact hk
      · have hF := ite_f hF c6
        refine q_iload C dX12_turning_92 4 rfl ?_
        refine q_iload C dX12_turning_94 6 rfl ?_
        refine q_roz (q_runS (As := [.int x4, .int x6]) (rest := []) C (fun sz => c_X12_has l dC dI cI cZ cQ x4 x6 (f_Model_has x4 x6) rfl sz) (va_cwS 2 C.2.2.2.2.1 gX12_turning_X12_has rfl rfl rfl (by decide +kernel) ⟨Nat.le_of_ble_eq_true rfl, Nat.le_of_ble_eq_true rfl⟩) [] rfl rfl rfl rfl (Nat.le_of_ble_eq_true rfl) dX12_turning_96 ⟨Nat.zero_le _, Nat.zero_le _⟩) (fun hz8 => ?_)
        refine q_if_ne (tgt := 134) C dX12_turning_99 (by decide) (fun c9 => ?_) (fun c9 => ?_)
        · have hF := ite_f hF c9
          refine q_iload_n C dX12_turning_134 3 rfl rfl ?_
          refine q_istore_n C ([(3, .int x3), (0, .ref o), (1, .int x1), (2, .int x2), (4, .int x4), (5, .int x5), (6, .int x6)]) dX12_turning_135 rfl (by decide) rfl ?_
          refine q_iinc (v := (x6 + (-1))) C ([(6, .int (x6 + (-1))), (3, .int x3), (0, .ref o), (1, .int x1), (2, .int x2), (4, .int x4), (5, .int x5)]) dX12_turning_136 6 rfl rfl (by decide) rfl ?_
          refine q_goto (tgt := 87) C dX12_turning_139 (by decide) ?_
          cases hF
          refine q_lsel [2, 3, 4, 1, 5, 6, 0] rfl ?_
          exact ih x1 x2 x3 x4 x5 (x6 + (-1)) v_wins y3 (hn _ rfl) hk
        · have hF := ite_t hF c9
          refine q_aload_n C dX12_turning_102 0 rfl rfl ?_
          refine q_get (C0 := RX12) (T := TX12) (N := 22) (k0 := 3) C lk1 0 rfl rfl (by decide) lk0 rfl (v := .ref o_words) rfl dX12_turning_103 ?_
          refine q_iload C dX12_turning_106 6 rfl ?_
          obtain ⟨hc10, hF⟩ := ite_c hF
          refine q_iald C 1 0 rfl rfl (ix_in hc10) dX12_turning_108 ?_
          refine q_iload C dX12_turning_109 5 rfl ?_
          refine q_icmp_gt (tgt := 134) C dX12_turning_111 (by decide) (fun c11 => ?_) (fun c11 => ?_)
          · have hF := ite_t hF c11
            refine q_iload_n C dX12_turning_134 3 rfl rfl ?_
            refine q_istore_n C ([(3, .int x3), (0, .ref o), (1, .int x1), (2, .int x2), (4, .int x4), (5, .int x5), (6, .int x6)]) dX12_turning_135 rfl (by decide) rfl ?_
            refine q_iinc (v := (x6 + (-1))) C ([(6, .int (x6 + (-1))), (3, .int x3), (0, .ref o), (1, .int x1), (2, .int x2), (4, .int x4), (5, .int x5)]) dX12_turning_136 6 rfl rfl (by decide) rfl ?_
            refine q_goto (tgt := 87) C dX12_turning_139 (by decide) ?_
            cases hF
            refine q_lsel [2, 3, 4, 1, 5, 6, 0] rfl ?_
            exact ih x1 x2 x3 x4 x5 (x6 + (-1)) v_wins y3 (hn _ rfl) hk
          · have hF := ite_f hF c11
            refine q_aload_n C dX12_turning_114 0 rfl rfl ?_
            refine q_get (C0 := RX12) (T := TX12) (N := 22) (k0 := 19) C lk1 0 rfl rfl (by decide) lk2 rfl (v := .ref o_wins) rfl dX12_turning_115 ?_
            refine q_iload C dX12_turning_118 4 rfl ?_
            refine q_iconst (v := (1 : Int32)) C dX12_turning_120 (by decide) ?_
            refine q_iload C dX12_turning_121 6 rfl ?_
            refine q_ishl C dX12_turning_123 ?_
            refine q_ior C dX12_turning_124 ?_
            obtain ⟨hc12, hF⟩ := ite_c hF
            refine q_iald C 2 0 rfl rfl (ix_in hc12) dX12_turning_125 ?_
            refine q_if_ne (tgt := 134) C dX12_turning_126 (by decide) (fun c13 => ?_) (fun c13 => ?_)
            · have hF := ite_f hF c13
              refine q_iload_n C dX12_turning_134 3 rfl rfl ?_
              refine q_istore_n C ([(3, .int x3), (0, .ref o), (1, .int x1), (2, .int x2), (4, .int x4), (5, .int x5), (6, .int x6)]) dX12_turning_135 rfl (by decide) rfl ?_
              refine q_iinc (v := (x6 + (-1))) C ([(6, .int (x6 + (-1))), (3, .int x3), (0, .ref o), (1, .int x1), (2, .int x2), (4, .int x4), (5, .int x5)]) dX12_turning_136 6 rfl rfl (by decide) rfl ?_
              refine q_goto (tgt := 87) C dX12_turning_139 (by decide) ?_
              cases hF
              refine q_lsel [2, 3, 4, 1, 5, 6, 0] rfl ?_
              exact ih x1 x2 x3 x4 x5 (x6 + (-1)) v_wins y3 (hn _ rfl) hk
            · have hF := ite_t hF c13
              refine q_iload C dX12_turning_129 6 rfl ?_
              refine q_goto (tgt := 135) C dX12_turning_131 (by decide) ?_
              refine q_istore_n C ([(3, .int x6), (0, .ref o), (1, .int x1), (2, .int x2), (4, .int x4), (5, .int x5), (6, .int x6)]) dX12_turning_135 rfl (by decide) rfl ?_
              refine q_iinc (v := (x6 + (-1))) C ([(6, .int (x6 + (-1))), (3, .int x6), (0, .ref o), (1, .int x1), (2, .int x2), (4, .int x4), (5, .int x5)]) dX12_turning_136 6 rfl rfl (by decide) rfl ?_
              refine q_goto (tgt := 87) C dX12_turning_139 (by decide) ?_
              cases hF
              refine q_lsel [2, 3, 4, 1, 5, 6, 0] rfl ?_
              exact ih x1 x2 x6 x4 x5 (x6 + (-1)) v_wins y3 (hn _ rfl) hk
  have L1 : ∀ (n : Nat) (x1 : Int32) (x2 : Int32) (x3 : Int32) (x4 : Int32) (v_wins : Nat → Int32) (y3 : Int32) (z_wins : Nat → Int32), evr (fun s => b_Model_turning_1 x1 v_words s.1 s.2.1 s.2.2) n (x3, x4, v_wins) = some (y3, z_wins) → qG p l e ({ frames := 1, cells := 0, slots := 0, locals := 22 } : Room) s m args below meth c 7 (dC, dI) A A Q 0 0 ([(0, .ref o), (2, .int x2), (3, .int y3)]) [] ([(o, .inr (12, [.ref o_book, .ref o_now, .ref o_moults, .ref o_words, .ref o_clashes, .ref o_rocks, .int v_counts, .ref o_count, .int v_signs, .ref o_pad, .int v_readMany, .int v_signedAll, .int v_reason, .int v_acts, .ref o_reached, .ref o_queue, .ref o_got, .long v_waitUp, .long v_waitLow, .ref o_wins, .ref o_image, .ref o_isKept])), (o_words, .inl (cI, 10, .inl v_words)), (o_wins, .inl (cI, 1024, .inl z_wins))]) 164 → qG p l e ({ frames := 1, cells := 0, slots := 0, locals := 22 } : Room) s m args below meth c 7 (dC, dI) A A Q 0 0 ([(0, .ref o), (1, .int x1), (2, .int x2), (3, .int x3), (4, .int x4)]) [] ([(o, .inr (12, [.ref o_book, .ref o_now, .ref o_moults, .ref o_words, .ref o_clashes, .ref o_rocks, .int v_counts, .ref o_count, .int v_signs, .ref o_pad, .int v_readMany, .int v_signedAll, .int v_reason, .int v_acts, .ref o_reached, .ref o_queue, .ref o_got, .long v_waitUp, .long v_waitLow, .ref o_wins, .ref o_image, .ref o_isKept])), (o_words, .inl (cI, 10, .inl v_words)), (o_wins, .inl (cI, 1024, .inl v_wins))]) 30 := by
    clear hF
    intro n
    induction n with
    | zero => intro x1 x2 x3 x4 v_wins y3 z_wins hF; exact (evr_0 hF).elim
    | succ n ih =>
      intro x1 x2 x3 x4 v_wins y3 z_wins hF hk
      obtain ⟨o9, hB, hn, hx⟩ := evr_c hF
      have hF : b_Model_turning_1 x1 v_words x3 x4 v_wins = some o9 := hB
      unfold b_Model_turning_1 at hF
      refine q_iload C dX12_turning_30 4 rfl ?_
      refine q_if_lt (tgt := 164) C dX12_turning_32 (by decide) (fun c14 => ?_) (fun c14 => ?_)
      · have hF := ite_t hF c14
        cases hF
        have e15 := hx _ rfl
        cases e15
        refine q_lsel [0, 2, 3] rfl ?_
        exact hk
      · have hF := ite_f hF c14
        refine q_iload_n C dX12_turning_35 1 rfl rfl ?_
        refine q_istore C ([(5, .int x1), (0, .ref o), (1, .int x1), (2, .int x2), (3, .int x3), (4, .int x4)]) dX12_turning_36 (by decide) rfl ?_
        refine q_iconst (v := (0 : Int32)) C dX12_turning_38 (by decide) ?_
        refine q_istore C ([(6, .int (0 : Int32)), (5, .int x1), (0, .ref o), (1, .int x1), (2, .int x2), (3, .int x3), (4, .int x4)]) dX12_turning_39 (by decide) rfl ?_
        obtain ⟨y5_16, hc17, hF⟩ := bind_c hF
        obtain ⟨n18, hc17⟩ := (ev_iff _ _ _).mp hc17
        refine q_lsel [2, 3, 4, 6, 1, 0] rfl ?_
        refine L2 n18 x1 x2 x4 x1 (0 : Int32) v_wins y5_16 hc17 ?_
        refine q_bipush (v := (-6 : Int32)) C dX12_turning_80 (by decide) ?_
        refine q_istore_n C ([(3, .int (-6 : Int32)), (0, .ref o), (1, .int x1), (2, .int x2), (4, .int x4), (5, .int y5_16)]) dX12_turning_82 rfl (by decide) rfl ?_
        refine q_bipush (v := (9 : Int32)) C dX12_turning_83 (by decide) ?_
        refine q_istore C ([(6, .int (9 : Int32)), (3, .int (-6 : Int32)), (0, .ref o), (1, .int x1), (2, .int x2), (4, .int x4), (5, .int y5_16)]) dX12_turning_85 (by decide) rfl ?_
        obtain ⟨y3_19, hc20, hF⟩ := bind_c hF
        obtain ⟨n21, hc20⟩ := (ev_iff _ _ _).mp hc20
        refine q_lsel [2, 3, 4, 1, 5, 6, 0] rfl ?_
        refine L3 n21 x1 x2 (-6 : Int32) x4 y5_16 (9 : Int32) v_wins y3_19 hc20 ?_
        refine q_aload_n C dX12_turning_142 0 rfl rfl ?_
        refine q_get (C0 := RX12) (T := TX12) (N := 22) (k0 := 19) C lk1 0 rfl rfl (by decide) lk2 rfl (v := .ref o_wins) rfl dX12_turning_143 ?_
        refine q_iload C dX12_turning_146 4 rfl ?_
        refine q_iload_n C dX12_turning_148 3 rfl rfl ?_
        refine q_if_ge (tgt := 156) C dX12_turning_149 (by decide) (fun c22 => ?_) (fun c22 => ?_)
        · have hF := ite_t hF c22
          refine q_iconst (v := (1 : Int32)) C dX12_turning_156 (by decide) ?_
          obtain ⟨hc23, hF⟩ := ite_c hF
          refine q_iast C 2 0 rfl rfl (ix_in hc23) ([(o, .inr (12, [.ref o_book, .ref o_now, .ref o_moults, .ref o_words, .ref o_clashes, .ref o_rocks, .int v_counts, .ref o_count, .int v_signs, .ref o_pad, .int v_readMany, .int v_signedAll, .int v_reason, .int v_acts, .ref o_reached, .ref o_queue, .ref o_got, .long v_waitUp, .long v_waitLow, .ref o_wins, .ref o_image, .ref o_isKept])), (o_words, .inl (cI, 10, .inl v_words)), (o_wins, .inl (cI, 1024, .inl (upd v_wins (x4).toNatClampNeg (1 : Int32))))]) rfl dX12_turning_157 ?_
          refine q_iinc (v := (x4 + (-1))) C ([(4, .int (x4 + (-1))), (0, .ref o), (1, .int x1), (2, .int x2), (3, .int y3_19)]) dX12_turning_158 4 rfl rfl (by decide) rfl ?_
          refine q_goto (tgt := 30) C dX12_turning_161 (by decide) ?_
          cases hF
          refine q_lsel [1, 2, 3, 4, 0] rfl ?_
          exact ih x1 x2 y3_19 (x4 + (-1)) (upd v_wins (x4).toNatClampNeg (1 : Int32)) y3 z_wins (hn _ rfl) hk
        · have hF := ite_f hF c22
          refine q_iconst (v := (0 : Int32)) C dX12_turning_152 (by decide) ?_
          refine q_goto (tgt := 157) C dX12_turning_153 (by decide) ?_
          obtain ⟨hc24, hF⟩ := ite_c hF
          refine q_iast C 2 0 rfl rfl (ix_in hc24) ([(o, .inr (12, [.ref o_book, .ref o_now, .ref o_moults, .ref o_words, .ref o_clashes, .ref o_rocks, .int v_counts, .ref o_count, .int v_signs, .ref o_pad, .int v_readMany, .int v_signedAll, .int v_reason, .int v_acts, .ref o_reached, .ref o_queue, .ref o_got, .long v_waitUp, .long v_waitLow, .ref o_wins, .ref o_image, .ref o_isKept])), (o_words, .inl (cI, 10, .inl v_words)), (o_wins, .inl (cI, 1024, .inl (upd v_wins (x4).toNatClampNeg (0 : Int32))))]) rfl dX12_turning_157 ?_
          refine q_iinc (v := (x4 + (-1))) C ([(4, .int (x4 + (-1))), (0, .ref o), (1, .int x1), (2, .int x2), (3, .int y3_19)]) dX12_turning_158 4 rfl rfl (by decide) rfl ?_
          refine q_goto (tgt := 30) C dX12_turning_161 (by decide) ?_
          cases hF
          refine q_lsel [1, 2, 3, 4, 0] rfl ?_
          exact ih x1 x2 y3_19 (x4 + (-1)) (upd v_wins (x4).toNatClampNeg (0 : Int32)) y3 z_wins (hn _ rfl) hk
  unfold f_Model_turning at hF
  refine q_iload_n C dX12_turning_0 1 rfl rfl ?_
  refine q_iconst (v := (0 : Int32)) C dX12_turning_1 (by decide) ?_
  refine q_bipush (v := (30 : Int32)) C dX12_turning_2 (by decide) ?_
  refine q_roz (q_runS (As := [.int p1, .int (0 : Int32), .int (30 : Int32)]) (rest := []) C (fun sz => c_X12_in l dC dI cI cZ cQ p1 (0 : Int32) (30 : Int32) (f_Model_in p1 (0 : Int32) (30 : Int32)) rfl sz) (va_cwS 3 C.2.2.2.2.1 gX12_turning_X12_in rfl rfl rfl (by decide +kernel) ⟨Nat.le_of_ble_eq_true rfl, Nat.le_of_ble_eq_true rfl⟩) [] rfl rfl rfl rfl (Nat.le_of_ble_eq_true rfl) dX12_turning_4 ⟨Nat.zero_le _, Nat.zero_le _⟩) (fun hz25 => ?_)
  refine q_if_eq (tgt := 19) C dX12_turning_7 (by decide) (fun c26 => ?_) (fun c26 => ?_)
  · have hF := ite_t hF c26
    refine q_bipush (v := (-2 : Int32)) C dX12_turning_19 (by decide) ?_
    cases hF
    exact q_wreti C hr dX12_turning_21 hQ
  · have hF := ite_f hF c26
    refine q_iload_n C dX12_turning_10 2 rfl rfl ?_
    refine q_iconst (v := (0 : Int32)) C dX12_turning_11 (by decide) ?_
    refine q_iconst (v := (1 : Int32)) C dX12_turning_12 (by decide) ?_
    refine q_roz (q_runS (As := [.int p2, .int (0 : Int32), .int (1 : Int32)]) (rest := []) C (fun sz => c_X12_in l dC dI cI cZ cQ p2 (0 : Int32) (1 : Int32) (f_Model_in p2 (0 : Int32) (1 : Int32)) rfl sz) (va_cwS 3 C.2.2.2.2.1 gX12_turning_X12_in rfl rfl rfl (by decide +kernel) ⟨Nat.le_of_ble_eq_true rfl, Nat.le_of_ble_eq_true rfl⟩) [] rfl rfl rfl rfl (Nat.le_of_ble_eq_true rfl) dX12_turning_13 ⟨Nat.zero_le _, Nat.zero_le _⟩) (fun hz27 => ?_)
    refine q_if_ne (tgt := 22) C dX12_turning_16 (by decide) (fun c28 => ?_) (fun c28 => ?_)
    · have hF := ite_f hF c28
      refine q_bipush (v := (-6 : Int32)) C dX12_turning_22 (by decide) ?_
      refine q_istore_n C ([(3, .int (-6 : Int32)), (0, .ref o), (1, .int p1), (2, .int p2)]) dX12_turning_24 rfl (by decide) rfl ?_
      refine q_sipush (v := (1023 : Int32)) C dX12_turning_25 (by decide) ?_
      refine q_istore C ([(4, .int (1023 : Int32)), (3, .int (-6 : Int32)), (0, .ref o), (1, .int p1), (2, .int p2)]) dX12_turning_28 (by decide) rfl ?_
      obtain ⟨⟨y3_29, z29_wins⟩, hc30, hF⟩ := bind_c hF
      dsimp only at hF
      obtain ⟨n31, hc30⟩ := (ev_iff _ _ _).mp hc30
      refine q_lsel [2, 3, 4, 1, 0] rfl ?_
      refine L1 n31 p1 p2 (-6 : Int32) (1023 : Int32) v_wins y3_29 z29_wins hc30 ?_
      refine q_iload_n C dX12_turning_164 1 rfl rfl ?_
      refine q_iconst (v := (1 : Int32)) C dX12_turning_165 (by decide) ?_
      refine q_icmp_ne (tgt := 173) C dX12_turning_166 (by decide) (fun c32 => ?_) (fun c32 => ?_)
      · have hF := ite_f hF c32
        refine q_aload_n C dX12_turning_173 0 rfl rfl ?_
        refine q_get (C0 := RX12) (T := TX12) (N := 22) (k0 := 19) C lk1 0 rfl rfl (by decide) lk2 rfl (v := .ref o_wins) rfl dX12_turning_174 ?_
        refine q_iconst (v := (0 : Int32)) C dX12_turning_177 (by decide) ?_
        refine q_iald C 2 0 rfl rfl (ix_in (by decide)) dX12_turning_178 ?_
        cases hF
        exact q_wreti C hr dX12_turning_179 hQ
      · have hF := ite_t hF c32
        refine q_iload_n C dX12_turning_169 2 rfl rfl ?_
        refine q_goto (tgt := 179) C dX12_turning_170 (by decide) ?_
        cases hF
        exact q_wreti C hr dX12_turning_179 hQ
    · have hF := ite_t hF c28
      refine q_bipush (v := (-2 : Int32)) C dX12_turning_19 (by decide) ?_
      cases hF
      exact q_wreti C hr dX12_turning_21 hQ
set_option maxRecDepth 100000 in
set_option maxHeartbeats 4000000 in
theorem c_X12_drift (l : Launch) (dC : Nat → ClassId) (dI : Nat → Nat → Nat) (cI cZ cQ : ClassId) (o o_book o_now o_moults o_words o_clashes o_rocks o_count o_pad o_reached o_queue o_got o_wins o_image o_isKept : Nat) (v_counts : Int32) (v_signs : Int32) (v_readMany : Int32) (v_signedAll : Int32) (v_reason : Int32) (v_acts : Int32) (v_waitUp : Int64) (v_waitLow : Int64) (p1 : Int32) (p2 : Int32) (p3 : Int32) (p4 : Int32) (p5 : Int32) (p6 : Int32) (R : Int64) (hF : f_Model_drift p1 p2 p3 p4 p5 p6 = some R) (sz : Nat) : Met l yX12_drift wsX12_drift ({ frames := 1, cells := 0, slots := 0, locals := 30 } : Room) (qPc ([.ref o, .int p1, .int p2, .int p3, .int p4, .int p5, .int p6]) (dC, dI) (qT cI cZ cQ) ([(o, .inr (12, [.ref o_book, .ref o_now, .ref o_moults, .ref o_words, .ref o_clashes, .ref o_rocks, .int v_counts, .ref o_count, .int v_signs, .ref o_pad, .int v_readMany, .int v_signedAll, .int v_reason, .int v_acts, .ref o_reached, .ref o_queue, .ref o_got, .long v_waitUp, .long v_waitLow, .ref o_wins, .ref o_image, .ref o_isKept]))]) sz) (qRl R) 0 0 (fun _ => False) := by
  refine q_met_r (cc := cX12_drift) (own := RX12) (maxL := 14) (ret := (some .long)) (lv0 := [(0, .ref o), (1, .int p1), (2, .int p2), (3, .int p3), (4, .int p4), (5, .int p5), (6, .int p6)]) (by decide) rfl rfl rfl (Nat.le_of_ble_eq_true rfl) ?_
  intro p e s m args below meth c C hr A A' Q hA0 hQ
  have lk0 : Cond.constantLong RX12 147 (-1000000000000000002 : Int64) ∈ wsX12_drift := by decide +kernel
  have lk1 : Cond.constantLong RX12 166 (10 : Int64) ∈ wsX12_drift := by decide +kernel
  have L1 : ∀ (n : Nat) (x2 : Int32) (x3 : Int32) (x4 : Int32) (x5 : Int32) (x6 : Int32) (x7 : Int64) (x9 : Int64) (x11 : Int64) (x13 : Int32) (y7 : Int64) (y9 : Int64) (y11 : Int64), evr (fun s => b_Model_drift_1 x2 x3 x4 s.1 s.2.1 s.2.2.1 s.2.2.2) n (x7, x9, x11, x13) = some (y7, y9, y11) → qG p l e ({ frames := 1, cells := 0, slots := 0, locals := 30 } : Room) s m args below meth c 14 (dC, dI) A A' Q 0 0 ([(5, .int x5), (6, .int x6), (7, .long y7), (9, .long y9), (11, .long y11)]) [] ([(o, .inr (12, [.ref o_book, .ref o_now, .ref o_moults, .ref o_words, .ref o_clashes, .ref o_rocks, .int v_counts, .ref o_count, .int v_signs, .ref o_pad, .int v_readMany, .int v_signedAll, .int v_reason, .int v_acts, .ref o_reached, .ref o_queue, .ref o_got, .long v_waitUp, .long v_waitLow, .ref o_wins, .ref o_image, .ref o_isKept]))]) 138 → qG p l e ({ frames := 1, cells := 0, slots := 0, locals := 30 } : Room) s m args below meth c 14 (dC, dI) A A' Q 0 0 ([(2, .int x2), (3, .int x3), (4, .int x4), (5, .int x5), (6, .int x6), (7, .long x7), (9, .long x9), (11, .long x11), (13, .int x13)]) [] ([(o, .inr (12, [.ref o_book, .ref o_now, .ref o_moults, .ref o_words, .ref o_clashes, .ref o_rocks, .int v_counts, .ref o_count, .int v_signs, .ref o_pad, .int v_readMany, .int v_signedAll, .int v_reason, .int v_acts, .ref o_reached, .ref o_queue, .ref o_got, .long v_waitUp, .long v_waitLow, .ref o_wins, .ref o_image, .ref o_isKept]))]) 87 := by
    clear hF
    intro n
    induction n with
    | zero => intro x2 x3 x4 x5 x6 x7 x9 x11 x13 y7 y9 y11 hF; exact (evr_0 hF).elim
    | succ n ih =>
      intro x2 x3 x4 x5 x6 x7 x9 x11 x13 y7 y9 y11 hF hk
      obtain ⟨o9, hB, hn, hx⟩ := evr_c hF
      have hF : b_Model_drift_1 x2 x3 x4 x7 x9 x11 x13 = some o9 := hB
      unfold b_Model_drift_1 at hF
      refine q_iload C dX12_drift_87 8 rfl ?_
      refine q_iload C dX12_drift_89 2 rfl ?_
      refine q_icmp_ge (tgt := 138) C dX12_drift_91 (by decide) (fun c1 => ?_) (fun c1 => ?_)
      · have hF := ite_t hF c1
        cases hF
        have e2 := hx _ rfl
        cases e2
        refine q_lsel [3, 4, 5, 6, 7] rfl ?_
        exact hk
      · have hF := ite_f hF c1
        refine q_lload C dX12_drift_94 5 rfl ?_
        refine q_lload C dX12_drift_96 6 rfl ?_
        refine q_lsub C dX12_drift_98 ?_
        refine q_iload_n C dX12_drift_99 0 rfl rfl ?_
        refine q_i2l C dX12_drift_100 ?_
        refine q_lmul C dX12_drift_101 ?_
        refine q_lload C dX12_drift_102 6 rfl ?_
        refine q_bipush (v := (10 : Int32)) C dX12_drift_104 (by decide) ?_
        refine q_iload_n C dX12_drift_106 1 rfl rfl ?_
        refine q_isub C dX12_drift_107 ?_
        refine q_i2l C dX12_drift_108 ?_
        refine q_lmul C dX12_drift_109 ?_
        refine q_ladd C dX12_drift_110 ?_
        refine q_lstore C ([(9, .long (((x7 - x9) * (x2).toInt64) + (x9 * (((10 : Int32) - x3)).toInt64))), (2, .int x2), (3, .int x3), (4, .int x4), (5, .int x5), (6, .int x6), (7, .long x7), (11, .long x11), (13, .int x13)]) dX12_drift_111 (by decide) rfl ?_
        refine q_lload C dX12_drift_113 6 rfl ?_
        refine q_ldc2 (v := (10 : Int64)) C lk1 dX12_drift_115 ?_
        refine q_lmul C dX12_drift_118 ?_
        refine q_lstore C ([(7, .long (x7 * (10 : Int64))), (9, .long (((x7 - x9) * (x2).toInt64) + (x9 * (((10 : Int32) - x3)).toInt64))), (2, .int x2), (3, .int x3), (4, .int x4), (5, .int x5), (6, .int x6), (11, .long x11), (13, .int x13)]) dX12_drift_119 (by decide) rfl ?_
        refine q_ldc2 (v := (10 : Int64)) C lk1 dX12_drift_121 ?_
        refine q_lload C dX12_drift_124 7 rfl ?_
        refine q_lmul C dX12_drift_126 ?_
        refine q_lload C dX12_drift_127 1 rfl ?_
        refine q_ladd C dX12_drift_129 ?_
        refine q_lstore C ([(11, .long (((10 : Int64) * x11) + (((x7 - x9) * (x2).toInt64) + (x9 * (((10 : Int32) - x3)).toInt64)))), (7, .long (x7 * (10 : Int64))), (9, .long (((x7 - x9) * (x2).toInt64) + (x9 * (((10 : Int32) - x3)).toInt64))), (2, .int x2), (3, .int x3), (4, .int x4), (5, .int x5), (6, .int x6), (13, .int x13)]) dX12_drift_130 (by decide) rfl ?_
        refine q_iinc (v := (x13 + 1)) C ([(13, .int (x13 + 1)), (11, .long (((10 : Int64) * x11) + (((x7 - x9) * (x2).toInt64) + (x9 * (((10 : Int32) - x3)).toInt64)))), (7, .long (x7 * (10 : Int64))), (9, .long (((x7 - x9) * (x2).toInt64) + (x9 * (((10 : Int32) - x3)).toInt64))), (2, .int x2), (3, .int x3), (4, .int x4), (5, .int x5), (6, .int x6)]) dX12_drift_132 8 rfl rfl (by decide) rfl ?_
        refine q_goto (tgt := 87) C dX12_drift_135 (by decide) ?_
        cases hF
        refine q_lsel [4, 5, 6, 7, 8, 2, 3, 1, 0] rfl ?_
        exact ih x2 x3 x4 x5 x6 (x7 * (10 : Int64)) (((x7 - x9) * (x2).toInt64) + (x9 * (((10 : Int32) - x3)).toInt64)) (((10 : Int64) * x11) + (((x7 - x9) * (x2).toInt64) + (x9 * (((10 : Int32) - x3)).toInt64))) (x13 + 1) y7 y9 y11 (hn _ rfl) hk
  unfold f_Model_drift at hF
  refine q_iload_n C dX12_drift_0 1 rfl rfl ?_
  refine q_iconst (v := (0 : Int32)) C dX12_drift_1 (by decide) ?_
  refine q_iconst (v := (1 : Int32)) C dX12_drift_2 (by decide) ?_
  refine q_roz (q_runS (As := [.int p1, .int (0 : Int32), .int (1 : Int32)]) (rest := []) C (fun sz => c_X12_in l dC dI cI cZ cQ p1 (0 : Int32) (1 : Int32) (f_Model_in p1 (0 : Int32) (1 : Int32)) rfl sz) (va_cwS 3 C.2.2.2.2.1 gX12_drift_X12_in rfl rfl rfl (by decide +kernel) ⟨Nat.le_of_ble_eq_true rfl, Nat.le_of_ble_eq_true rfl⟩) [] rfl rfl rfl rfl (Nat.le_of_ble_eq_true rfl) dX12_drift_3 ⟨Nat.zero_le _, Nat.zero_le _⟩) (fun hz3 => ?_)
  refine q_if_eq (tgt := 70) C dX12_drift_6 (by decide) (fun c4 => ?_) (fun c4 => ?_)
  · have hF := ite_t hF c4
    refine q_ldc2 (v := (-1000000000000000002 : Int64)) C lk0 dX12_drift_70 ?_
    cases hF
    exact q_iretl C hA0 hr dX12_drift_73 hQ
  · have hF := ite_f hF c4
    refine q_iload_n C dX12_drift_9 2 rfl rfl ?_
    refine q_iconst (v := (0 : Int32)) C dX12_drift_10 (by decide) ?_
    refine q_bipush (v := (10 : Int32)) C dX12_drift_11 (by decide) ?_
    refine q_roz (q_runS (As := [.int p2, .int (0 : Int32), .int (10 : Int32)]) (rest := []) C (fun sz => c_X12_in l dC dI cI cZ cQ p2 (0 : Int32) (10 : Int32) (f_Model_in p2 (0 : Int32) (10 : Int32)) rfl sz) (va_cwS 3 C.2.2.2.2.1 gX12_drift_X12_in rfl rfl rfl (by decide +kernel) ⟨Nat.le_of_ble_eq_true rfl, Nat.le_of_ble_eq_true rfl⟩) [] rfl rfl rfl rfl (Nat.le_of_ble_eq_true rfl) dX12_drift_13 ⟨Nat.zero_le _, Nat.zero_le _⟩) (fun hz5 => ?_)
    refine q_if_eq (tgt := 70) C dX12_drift_16 (by decide) (fun c6 => ?_) (fun c6 => ?_)
    · have hF := ite_t hF c6
      refine q_ldc2 (v := (-1000000000000000002 : Int64)) C lk0 dX12_drift_70 ?_
      cases hF
      exact q_iretl C hA0 hr dX12_drift_73 hQ
    · have hF := ite_f hF c6
      refine q_iload_n C dX12_drift_19 3 rfl rfl ?_
      refine q_iconst (v := (0 : Int32)) C dX12_drift_20 (by decide) ?_
      refine q_bipush (v := (10 : Int32)) C dX12_drift_21 (by decide) ?_
      refine q_roz (q_runS (As := [.int p3, .int (0 : Int32), .int (10 : Int32)]) (rest := []) C (fun sz => c_X12_in l dC dI cI cZ cQ p3 (0 : Int32) (10 : Int32) (f_Model_in p3 (0 : Int32) (10 : Int32)) rfl sz) (va_cwS 3 C.2.2.2.2.1 gX12_drift_X12_in rfl rfl rfl (by decide +kernel) ⟨Nat.le_of_ble_eq_true rfl, Nat.le_of_ble_eq_true rfl⟩) [] rfl rfl rfl rfl (Nat.le_of_ble_eq_true rfl) dX12_drift_23 ⟨Nat.zero_le _, Nat.zero_le _⟩) (fun hz7 => ?_)
      refine q_if_eq (tgt := 70) C dX12_drift_26 (by decide) (fun c8 => ?_) (fun c8 => ?_)
      · have hF := ite_t hF c8
        refine q_ldc2 (v := (-1000000000000000002 : Int64)) C lk0 dX12_drift_70 ?_
        cases hF
        exact q_iretl C hA0 hr dX12_drift_73 hQ
      · have hF := ite_f hF c8
        refine q_iload C dX12_drift_29 5 rfl ?_
        refine q_iconst (v := (0 : Int32)) C dX12_drift_31 (by decide) ?_
        refine q_iconst (v := (1 : Int32)) C dX12_drift_32 (by decide) ?_
        refine q_roz (q_runS (As := [.int p5, .int (0 : Int32), .int (1 : Int32)]) (rest := []) C (fun sz => c_X12_in l dC dI cI cZ cQ p5 (0 : Int32) (1 : Int32) (f_Model_in p5 (0 : Int32) (1 : Int32)) rfl sz) (va_cwS 3 C.2.2.2.2.1 gX12_drift_X12_in rfl rfl rfl (by decide +kernel) ⟨Nat.le_of_ble_eq_true rfl, Nat.le_of_ble_eq_true rfl⟩) [] rfl rfl rfl rfl (Nat.le_of_ble_eq_true rfl) dX12_drift_33 ⟨Nat.zero_le _, Nat.zero_le _⟩) (fun hz9 => ?_)
        refine q_if_eq (tgt := 70) C dX12_drift_36 (by decide) (fun c10 => ?_) (fun c10 => ?_)
        · have hF := ite_t hF c10
          refine q_ldc2 (v := (-1000000000000000002 : Int64)) C lk0 dX12_drift_70 ?_
          cases hF
          exact q_iretl C hA0 hr dX12_drift_73 hQ
        · have hF := ite_f hF c10
          refine q_iload C dX12_drift_39 4 rfl ?_
          refine q_iconst (v := (0 : Int32)) C dX12_drift_41 (by decide) ?_
          refine q_iload C dX12_drift_42 5 rfl ?_
          refine q_if_ne (tgt := 52) C dX12_drift_44 (by decide) (fun c11 => ?_) (fun c11 => ?_)
          · have hF := ite_f hF c11
            refine q_bipush (v := (16 : Int32)) C dX12_drift_52 (by decide) ?_
            refine q_roz (q_runS (As := [.int p4, .int (0 : Int32), .int (16 : Int32)]) (rest := []) C (fun sz => c_X12_in l dC dI cI cZ cQ p4 (0 : Int32) (16 : Int32) (f_Model_in p4 (0 : Int32) (16 : Int32)) rfl sz) (va_cwS 3 C.2.2.2.2.1 gX12_drift_X12_in rfl rfl rfl (by decide +kernel) ⟨Nat.le_of_ble_eq_true rfl, Nat.le_of_ble_eq_true rfl⟩) [] rfl rfl rfl rfl (Nat.le_of_ble_eq_true rfl) dX12_drift_54 ⟨Nat.zero_le _, Nat.zero_le _⟩) (fun hz12 => ?_)
            refine q_if_eq (tgt := 70) C dX12_drift_57 (by decide) (fun c13 => ?_) (fun c13 => ?_)
            · have hF := ite_t hF c13
              refine q_ldc2 (v := (-1000000000000000002 : Int64)) C lk0 dX12_drift_70 ?_
              cases hF
              exact q_iretl C hA0 hr dX12_drift_73 hQ
            · have hF := ite_f hF c13
              refine q_iload C dX12_drift_60 6 rfl ?_
              refine q_iconst (v := (0 : Int32)) C dX12_drift_62 (by decide) ?_
              refine q_iconst (v := (1 : Int32)) C dX12_drift_63 (by decide) ?_
              refine q_roz (q_runS (As := [.int p6, .int (0 : Int32), .int (1 : Int32)]) (rest := []) C (fun sz => c_X12_in l dC dI cI cZ cQ p6 (0 : Int32) (1 : Int32) (f_Model_in p6 (0 : Int32) (1 : Int32)) rfl sz) (va_cwS 3 C.2.2.2.2.1 gX12_drift_X12_in rfl rfl rfl (by decide +kernel) ⟨Nat.le_of_ble_eq_true rfl, Nat.le_of_ble_eq_true rfl⟩) [] rfl rfl rfl rfl (Nat.le_of_ble_eq_true rfl) dX12_drift_64 ⟨Nat.zero_le _, Nat.zero_le _⟩) (fun hz14 => ?_)
              refine q_if_ne (tgt := 74) C dX12_drift_67 (by decide) (fun c15 => ?_) (fun c15 => ?_)
              · have hF := ite_f hF c15
                refine q_lconst (v := (1 : Int64)) C dX12_drift_74 (by decide) ?_
                refine q_lstore C ([(7, .long (1 : Int64)), (0, .ref o), (1, .int p1), (2, .int p2), (3, .int p3), (4, .int p4), (5, .int p5), (6, .int p6)]) dX12_drift_75 (by decide) rfl ?_
                refine q_iload_n C dX12_drift_77 2 rfl rfl ?_
                refine q_i2l C dX12_drift_78 ?_
                refine q_lstore C ([(9, .long (p1).toInt64), (7, .long (1 : Int64)), (0, .ref o), (1, .int p1), (2, .int p2), (3, .int p3), (4, .int p4), (5, .int p5), (6, .int p6)]) dX12_drift_79 (by decide) rfl ?_
                refine q_lconst (v := (0 : Int64)) C dX12_drift_81 (by decide) ?_
                refine q_lstore C ([(11, .long (0 : Int64)), (9, .long (p1).toInt64), (7, .long (1 : Int64)), (0, .ref o), (1, .int p1), (2, .int p2), (3, .int p3), (4, .int p4), (5, .int p5), (6, .int p6)]) dX12_drift_82 (by decide) rfl ?_
                refine q_iconst (v := (0 : Int32)) C dX12_drift_84 (by decide) ?_
                refine q_istore C ([(13, .int (0 : Int32)), (11, .long (0 : Int64)), (9, .long (p1).toInt64), (7, .long (1 : Int64)), (0, .ref o), (1, .int p1), (2, .int p2), (3, .int p3), (4, .int p4), (5, .int p5), (6, .int p6)]) dX12_drift_85 (by decide) rfl ?_
                obtain ⟨⟨y7_16, y9_16, y11_16⟩, hc17, hF⟩ := bind_c hF
                dsimp only at hF
                obtain ⟨n18, hc17⟩ := (ev_iff _ _ _).mp hc17
                refine q_lsel [6, 7, 8, 9, 10, 3, 2, 1, 0] rfl ?_
                refine L1 n18 p2 p3 p4 p5 p6 (1 : Int64) (p1).toInt64 (0 : Int64) (0 : Int32) y7_16 y9_16 y11_16 hc17 ?_
                refine q_iload C dX12_drift_138 0 rfl ?_
                refine q_if_ne (tgt := 148) C dX12_drift_140 (by decide) (fun c19 => ?_) (fun c19 => ?_)
                · have hF := ite_f hF c19
                  refine q_lload C dX12_drift_148 4 rfl ?_
                  refine q_lload C dX12_drift_150 2 rfl ?_
                  refine q_iload C dX12_drift_152 1 rfl ?_
                  obtain ⟨r20, hc21, hF⟩ := bind_c hF
                  refine q_rol (q_runS (As := [.long y11_16, .long y7_16, .int p6]) (rest := []) C (fun sz => c_X12_lowest l dC dI cI cZ cQ y11_16 y7_16 p6 r20 hc21 sz) (va_cwS 3 C.2.2.2.2.1 gX12_drift_X12_lowest rfl rfl rfl (by decide +kernel) ⟨Nat.le_of_ble_eq_true rfl, Nat.le_of_ble_eq_true rfl⟩) [] rfl rfl rfl rfl (Nat.le_of_ble_eq_true rfl) dX12_drift_154 ⟨Nat.zero_le _, Nat.zero_le _⟩) ?_
                  cases hF
                  exact q_iretl C hA0 hr dX12_drift_157 hQ
                · have hF := ite_t hF c19
                  refine q_lload C dX12_drift_143 3 rfl ?_
                  refine q_goto (tgt := 150) C dX12_drift_145 (by decide) ?_
                  refine q_lload C dX12_drift_150 2 rfl ?_
                  refine q_iload C dX12_drift_152 1 rfl ?_
                  obtain ⟨r22, hc23, hF⟩ := bind_c hF
                  refine q_rol (q_runS (As := [.long y9_16, .long y7_16, .int p6]) (rest := []) C (fun sz => c_X12_lowest l dC dI cI cZ cQ y9_16 y7_16 p6 r22 hc23 sz) (va_cwS 3 C.2.2.2.2.1 gX12_drift_X12_lowest rfl rfl rfl (by decide +kernel) ⟨Nat.le_of_ble_eq_true rfl, Nat.le_of_ble_eq_true rfl⟩) [] rfl rfl rfl rfl (Nat.le_of_ble_eq_true rfl) dX12_drift_154 ⟨Nat.zero_le _, Nat.zero_le _⟩) ?_
                  cases hF
                  exact q_iretl C hA0 hr dX12_drift_157 hQ
              · have hF := ite_t hF c15
                refine q_ldc2 (v := (-1000000000000000002 : Int64)) C lk0 dX12_drift_70 ?_
                cases hF
                exact q_iretl C hA0 hr dX12_drift_73 hQ
          · have hF := ite_t hF c11
            refine q_bipush (v := (17 : Int32)) C dX12_drift_47 (by decide) ?_
            refine q_goto (tgt := 54) C dX12_drift_49 (by decide) ?_
            refine q_roz (q_runS (As := [.int p4, .int (0 : Int32), .int (17 : Int32)]) (rest := []) C (fun sz => c_X12_in l dC dI cI cZ cQ p4 (0 : Int32) (17 : Int32) (f_Model_in p4 (0 : Int32) (17 : Int32)) rfl sz) (va_cwS 3 C.2.2.2.2.1 gX12_drift_X12_in rfl rfl rfl (by decide +kernel) ⟨Nat.le_of_ble_eq_true rfl, Nat.le_of_ble_eq_true rfl⟩) [] rfl rfl rfl rfl (Nat.le_of_ble_eq_true rfl) dX12_drift_54 ⟨Nat.zero_le _, Nat.zero_le _⟩) (fun hz24 => ?_)
            refine q_if_eq (tgt := 70) C dX12_drift_57 (by decide) (fun c25 => ?_) (fun c25 => ?_)
            · have hF := ite_t hF c25
              refine q_ldc2 (v := (-1000000000000000002 : Int64)) C lk0 dX12_drift_70 ?_
              cases hF
              exact q_iretl C hA0 hr dX12_drift_73 hQ
            · have hF := ite_f hF c25
              refine q_iload C dX12_drift_60 6 rfl ?_
              refine q_iconst (v := (0 : Int32)) C dX12_drift_62 (by decide) ?_
              refine q_iconst (v := (1 : Int32)) C dX12_drift_63 (by decide) ?_
              refine q_roz (q_runS (As := [.int p6, .int (0 : Int32), .int (1 : Int32)]) (rest := []) C (fun sz => c_X12_in l dC dI cI cZ cQ p6 (0 : Int32) (1 : Int32) (f_Model_in p6 (0 : Int32) (1 : Int32)) rfl sz) (va_cwS 3 C.2.2.2.2.1 gX12_drift_X12_in rfl rfl rfl (by decide +kernel) ⟨Nat.le_of_ble_eq_true rfl, Nat.le_of_ble_eq_true rfl⟩) [] rfl rfl rfl rfl (Nat.le_of_ble_eq_true rfl) dX12_drift_64 ⟨Nat.zero_le _, Nat.zero_le _⟩) (fun hz26 => ?_)
              refine q_if_ne (tgt := 74) C dX12_drift_67 (by decide) (fun c27 => ?_) (fun c27 => ?_)
              · have hF := ite_f hF c27
                refine q_lconst (v := (1 : Int64)) C dX12_drift_74 (by decide) ?_
                refine q_lstore C ([(7, .long (1 : Int64)), (0, .ref o), (1, .int p1), (2, .int p2), (3, .int p3), (4, .int p4), (5, .int p5), (6, .int p6)]) dX12_drift_75 (by decide) rfl ?_
                refine q_iload_n C dX12_drift_77 2 rfl rfl ?_
                refine q_i2l C dX12_drift_78 ?_
                refine q_lstore C ([(9, .long (p1).toInt64), (7, .long (1 : Int64)), (0, .ref o), (1, .int p1), (2, .int p2), (3, .int p3), (4, .int p4), (5, .int p5), (6, .int p6)]) dX12_drift_79 (by decide) rfl ?_
                refine q_lconst (v := (0 : Int64)) C dX12_drift_81 (by decide) ?_
                refine q_lstore C ([(11, .long (0 : Int64)), (9, .long (p1).toInt64), (7, .long (1 : Int64)), (0, .ref o), (1, .int p1), (2, .int p2), (3, .int p3), (4, .int p4), (5, .int p5), (6, .int p6)]) dX12_drift_82 (by decide) rfl ?_
                refine q_iconst (v := (0 : Int32)) C dX12_drift_84 (by decide) ?_
                refine q_istore C ([(13, .int (0 : Int32)), (11, .long (0 : Int64)), (9, .long (p1).toInt64), (7, .long (1 : Int64)), (0, .ref o), (1, .int p1), (2, .int p2), (3, .int p3), (4, .int p4), (5, .int p5), (6, .int p6)]) dX12_drift_85 (by decide) rfl ?_
                obtain ⟨⟨y7_28, y9_28, y11_28⟩, hc29, hF⟩ := bind_c hF
                dsimp only at hF
                obtain ⟨n30, hc29⟩ := (ev_iff _ _ _).mp hc29
                refine q_lsel [6, 7, 8, 9, 10, 3, 2, 1, 0] rfl ?_
                refine L1 n30 p2 p3 p4 p5 p6 (1 : Int64) (p1).toInt64 (0 : Int64) (0 : Int32) y7_28 y9_28 y11_28 hc29 ?_
                refine q_iload C dX12_drift_138 0 rfl ?_
                refine q_if_ne (tgt := 148) C dX12_drift_140 (by decide) (fun c31 => ?_) (fun c31 => ?_)
                · have hF := ite_f hF c31
                  refine q_lload C dX12_drift_148 4 rfl ?_
                  refine q_lload C dX12_drift_150 2 rfl ?_
                  refine q_iload C dX12_drift_152 1 rfl ?_
                  obtain ⟨r32, hc33, hF⟩ := bind_c hF
                  refine q_rol (q_runS (As := [.long y11_28, .long y7_28, .int p6]) (rest := []) C (fun sz => c_X12_lowest l dC dI cI cZ cQ y11_28 y7_28 p6 r32 hc33 sz) (va_cwS 3 C.2.2.2.2.1 gX12_drift_X12_lowest rfl rfl rfl (by decide +kernel) ⟨Nat.le_of_ble_eq_true rfl, Nat.le_of_ble_eq_true rfl⟩) [] rfl rfl rfl rfl (Nat.le_of_ble_eq_true rfl) dX12_drift_154 ⟨Nat.zero_le _, Nat.zero_le _⟩) ?_
                  cases hF
                  exact q_iretl C hA0 hr dX12_drift_157 hQ
                · have hF := ite_t hF c31
                  refine q_lload C dX12_drift_143 3 rfl ?_
                  refine q_goto (tgt := 150) C dX12_drift_145 (by decide) ?_
                  refine q_lload C dX12_drift_150 2 rfl ?_
                  refine q_iload C dX12_drift_152 1 rfl ?_
                  obtain ⟨r34, hc35, hF⟩ := bind_c hF
                  refine q_rol (q_runS (As := [.long y9_28, .long y7_28, .int p6]) (rest := []) C (fun sz => c_X12_lowest l dC dI cI cZ cQ y9_28 y7_28 p6 r34 hc35 sz) (va_cwS 3 C.2.2.2.2.1 gX12_drift_X12_lowest rfl rfl rfl (by decide +kernel) ⟨Nat.le_of_ble_eq_true rfl, Nat.le_of_ble_eq_true rfl⟩) [] rfl rfl rfl rfl (Nat.le_of_ble_eq_true rfl) dX12_drift_154 ⟨Nat.zero_le _, Nat.zero_le _⟩) ?_
                  cases hF
                  exact q_iretl C hA0 hr dX12_drift_157 hQ
              · have hF := ite_t hF c27
                refine q_ldc2 (v := (-1000000000000000002 : Int64)) C lk0 dX12_drift_70 ?_
                cases hF
                exact q_iretl C hA0 hr dX12_drift_73 hQ
set_option maxRecDepth 100000 in
set_option maxHeartbeats 4000000 in
theorem c_X12_year (l : Launch) (dC : Nat → ClassId) (dI : Nat → Nat → Nat) (cI cZ cQ : ClassId) (o o_book o_now o_moults o_words o_clashes o_rocks o_count o_pad o_reached o_queue o_got o_wins o_image o_isKept : Nat) (v_book : Nat → Int32) (v_now : Nat → Int32) (v_moults : Nat → Int32) (v_words : Nat → Int32) (v_readMany : Int32) (v_signedAll : Int32) (v_reason : Int32) (v_counts : Int32) (v_signs : Int32) (v_acts : Int32) (v_waitUp : Int64) (v_waitLow : Int64) (p1 : Int32) (p2 : Int32) (p3 : Int32) (R : Int32) (w_now : Nat → Int32) (w_readMany : Int32) (w_signedAll : Int32) (w_reason : Int32) (hF : f_Model_year v_book v_now v_moults v_words v_readMany v_signedAll v_reason p1 p2 p3 = some (R, w_now, w_readMany, w_signedAll, w_reason)) (sz : Nat) : Met l yX12_year wsX12_year ({ frames := 5, cells := 0, slots := 0, locals := 111 } : Room) (qPc ([.ref o, .int p1, .int p2, .int p3]) (dC, dI) (qT cI cZ cQ) ([(o, .inr (12, [.ref o_book, .ref o_now, .ref o_moults, .ref o_words, .ref o_clashes, .ref o_rocks, .int v_counts, .ref o_count, .int v_signs, .ref o_pad, .int v_readMany, .int v_signedAll, .int v_reason, .int v_acts, .ref o_reached, .ref o_queue, .ref o_got, .long v_waitUp, .long v_waitLow, .ref o_wins, .ref o_image, .ref o_isKept])), (o_book, .inl (cI, 21, .inl v_book)), (o_now, .inl (cI, 21, .inl v_now)), (o_moults, .inl (cI, 6, .inl v_moults)), (o_words, .inl (cI, 10, .inl v_words))]) sz) (qWi R (dC, dI) ([(o, .inr (12, [.ref o_book, .ref o_now, .ref o_moults, .ref o_words, .ref o_clashes, .ref o_rocks, .int v_counts, .ref o_count, .int v_signs, .ref o_pad, .int w_readMany, .int w_signedAll, .int w_reason, .int v_acts, .ref o_reached, .ref o_queue, .ref o_got, .long v_waitUp, .long v_waitLow, .ref o_wins, .ref o_image, .ref o_isKept])), (o_book, .inl (cI, 21, .inl v_book)), (o_now, .inl (cI, 21, .inl w_now)), (o_moults, .inl (cI, 6, .inl v_moults)), (o_words, .inl (cI, 10, .inl v_words))]) (va_A ([(o, .inr (12, [.ref o_book, .ref o_now, .ref o_moults, .ref o_words, .ref o_clashes, .ref o_rocks, .int v_counts, .ref o_count, .int v_signs, .ref o_pad, .int v_readMany, .int v_signedAll, .int v_reason, .int v_acts, .ref o_reached, .ref o_queue, .ref o_got, .long v_waitUp, .long v_waitLow, .ref o_wins, .ref o_image, .ref o_isKept])), (o_book, .inl (cI, 21, .inl v_book)), (o_now, .inl (cI, 21, .inl v_now)), (o_moults, .inl (cI, 6, .inl v_moults)), (o_words, .inl (cI, 10, .inl v_words))]) sz)) 0 0 (va_A ([(o, .inr (12, [.ref o_book, .ref o_now, .ref o_moults, .ref o_words, .ref o_clashes, .ref o_rocks, .int v_counts, .ref o_count, .int v_signs, .ref o_pad, .int v_readMany, .int v_signedAll, .int v_reason, .int v_acts, .ref o_reached, .ref o_queue, .ref o_got, .long v_waitUp, .long v_waitLow, .ref o_wins, .ref o_image, .ref o_isKept])), (o_book, .inl (cI, 21, .inl v_book)), (o_now, .inl (cI, 21, .inl v_now)), (o_moults, .inl (cI, 6, .inl v_moults)), (o_words, .inl (cI, 10, .inl v_words))]) sz) := by
  refine q_met_w (Qc := fun A => qWi R (dC, dI) ([(o, .inr (12, [.ref o_book, .ref o_now, .ref o_moults, .ref o_words, .ref o_clashes, .ref o_rocks, .int v_counts, .ref o_count, .int v_signs, .ref o_pad, .int w_readMany, .int w_signedAll, .int w_reason, .int v_acts, .ref o_reached, .ref o_queue, .ref o_got, .long v_waitUp, .long v_waitLow, .ref o_wins, .ref o_image, .ref o_isKept])), (o_book, .inl (cI, 21, .inl v_book)), (o_now, .inl (cI, 21, .inl w_now)), (o_moults, .inl (cI, 6, .inl v_moults)), (o_words, .inl (cI, 10, .inl v_words))]) A) (cc := cX12_year) (own := RX12) (maxL := 8) (ret := (some .int)) (lv0 := [(0, .ref o), (1, .int p1), (2, .int p2), (3, .int p3)]) (by decide) rfl rfl rfl (Nat.le_of_ble_eq_true rfl) ?_
  intro p e s m args below meth c A hA C hr hnm Q hQ
  have lk0 : Cond.constant RX12 168 (65537 : Int32) ∈ wsX12_year := by decide +kernel
  have lk1 : Cond.fieldLink RX12 116 "SealStraitModel" "reason" "I" ∈ wsX12_year := by decide +kernel
  have lk2 : ∀ w ∈ u_ws RX12 TX12 22, w ∈ wsX12_year := fun w h => List.mem_cons_of_mem _ (List.mem_append_right _ h)
  have lk3 : Cond.fieldLink RX12 13 "SealStraitModel" "now" "[I" ∈ wsX12_year := by decide +kernel
  have L2 : ∀ (n : Nat) (x3 : Int32) (x5 : Int32) (x6 : Int32) (v_now : Nat → Int32) (v_readMany : Int32) (v_signedAll : Int32) (v_reason : Int32) (y5 : Int32), evr (fun s => b_Model_year_2 v_now s.1 s.2) n (x5, x6) = some y5 → qG p l e ({ frames := 5, cells := 0, slots := 0, locals := 111 } : Room) s m args below meth c 8 (dC, dI) A A Q 0 0 ([(0, .ref o), (3, .int x3), (5, .int y5)]) [] ([(o, .inr (12, [.ref o_book, .ref o_now, .ref o_moults, .ref o_words, .ref o_clashes, .ref o_rocks, .int v_counts, .ref o_count, .int v_signs, .ref o_pad, .int v_readMany, .int v_signedAll, .int v_reason, .int v_acts, .ref o_reached, .ref o_queue, .ref o_got, .long v_waitUp, .long v_waitLow, .ref o_wins, .ref o_image, .ref o_isKept])), (o_book, .inl (cI, 21, .inl v_book)), (o_now, .inl (cI, 21, .inl v_now)), (o_moults, .inl (cI, 6, .inl v_moults)), (o_words, .inl (cI, 10, .inl v_words))]) 234 → qG p l e ({ frames := 5, cells := 0, slots := 0, locals := 111 } : Room) s m args below meth c 8 (dC, dI) A A Q 0 0 ([(0, .ref o), (3, .int x3), (5, .int x5), (6, .int x6)]) [] ([(o, .inr (12, [.ref o_book, .ref o_now, .ref o_moults, .ref o_words, .ref o_clashes, .ref o_rocks, .int v_counts, .ref o_count, .int v_signs, .ref o_pad, .int v_readMany, .int v_signedAll, .int v_reason, .int v_acts, .ref o_reached, .ref o_queue, .ref o_got, .long v_waitUp, .long v_waitLow, .ref o_wins, .ref o_image, .ref o_isKept])), (o_book, .inl (cI, 21, .inl v_book)), (o_now, .inl (cI, 21, .inl v_now)), (o_moults, .inl (cI, 6, .inl v_moults)), (o_words, .inl (cI, 10, .inl v_words))]) 193 := by
    clear hF
    intro n
    induction n with
    | zero => intro x3 x5 x6 v_now v_readMany v_signedAll v_reason y5 hF; exact (evr_0 hF).elim
    | succ n ih =>
      intro x3 x5 x6 v_now v_readMany v_signedAll v_reason y5 hF hk
      obtain ⟨o9, hB, hn, hx⟩ := evr_c hF
      have hF : b_Model_year_2 v_now x5 x6 = some o9 := hB
      unfold b_Model_year_2 at hF
      refine q_iload C dX12_year_193 3 rfl ?_
      refine q_bipush (v := (6 : Int32)) C dX12_year_195 (by decide) ?_
      refine q_icmp_ge (tgt := 234) C dX12_year_197 (by decide) (fun c1 => ?_) (fun c1 => ?_)
      · have hF := ite_t hF c1
        cases hF
        have e2 := hx _ rfl
        cases e2
        refine q_lsel [0, 1, 2] rfl ?_
        exact hk
      · have hF := ite_f hF c1
        refine q_iload C dX12_year_200 2 rfl ?_
        refine q_aload_n C dX12_year_202 0 rfl rfl ?_
        refine q_iload C dX12_year_203 3 rfl ?_
        refine q_roz (q_runV (As := [.int x6]) (rest := [.int x5]) C (fun sz => c_X12_stands l dC dI cI cZ cQ o o_now o_book o_moults o_words o_clashes o_rocks o_count o_pad o_reached o_queue o_got o_wins o_image o_isKept v_now v_counts v_signs v_readMany v_signedAll v_reason v_acts v_waitUp v_waitLow x6 (f_Model_stands v_now x6) rfl sz) (cwV 1 C.2.2.2.2.1 gX12_year_X12_stands rfl rfl rfl (by decide +kernel) ⟨Nat.le_of_ble_eq_true rfl, Nat.le_of_ble_eq_true rfl⟩) 0 rfl rfl rfl [0, 2] rfl rfl rfl rfl (Nat.le_of_ble_eq_true rfl) dX12_year_205 ⟨Nat.zero_le _, Nat.zero_le _⟩) (fun hz3 => ?_)
        refine q_if_eq (tgt := 224) C dX12_year_208 (by decide) (fun c4 => ?_) (fun c4 => ?_)
        · have hF := ite_t hF c4
          refine q_iconst (v := (0 : Int32)) C dX12_year_224 (by decide) ?_
          refine q_iadd C dX12_year_225 ?_
          refine q_istore C ([(5, .int (x5 + (0 : Int32))), (0, .ref o), (3, .int x3), (6, .int x6)]) dX12_year_226 (by decide) rfl ?_
          refine q_iinc (v := (x6 + 1)) C ([(6, .int (x6 + 1)), (5, .int (x5 + (0 : Int32))), (0, .ref o), (3, .int x3)]) dX12_year_228 3 rfl rfl (by decide) rfl ?_
          refine q_goto (tgt := 193) C dX12_year_231 (by decide) ?_
          cases hF
          refine q_lsel [2, 3, 1, 0] rfl ?_
          exact ih x3 (x5 + (0 : Int32)) (x6 + 1) v_now v_readMany v_signedAll v_reason y5 (hn _ rfl) hk
        · have hF := ite_f hF c4
          refine q_aload_n C dX12_year_211 0 rfl rfl ?_
          refine q_get (C0 := RX12) (T := TX12) (N := 22) (k0 := 1) C lk2 0 rfl rfl (by decide) lk3 rfl (v := .ref o_now) rfl dX12_year_212 ?_
          refine q_bipush (v := (12 : Int32)) C dX12_year_215 (by decide) ?_
          refine q_iload C dX12_year_217 3 rfl ?_
          refine q_iadd C dX12_year_219 ?_
          obtain ⟨hc5, hF⟩ := ite_c hF
          refine q_iald C 2 0 rfl rfl (ix_in hc5) dX12_year_220 ?_
          refine q_goto (tgt := 225) C dX12_year_221 (by decide) ?_
          refine q_iadd C dX12_year_225 ?_
          refine q_istore C ([(5, .int (x5 + (v_now (((12 : Int32) + x6)).toNatClampNeg))), (0, .ref o), (3, .int x3), (6, .int x6)]) dX12_year_226 (by decide) rfl ?_
          refine q_iinc (v := (x6 + 1)) C ([(6, .int (x6 + 1)), (5, .int (x5 + (v_now (((12 : Int32) + x6)).toNatClampNeg))), (0, .ref o), (3, .int x3)]) dX12_year_228 3 rfl rfl (by decide) rfl ?_
          refine q_goto (tgt := 193) C dX12_year_231 (by decide) ?_
          cases hF
          refine q_lsel [2, 3, 1, 0] rfl ?_
          exact ih x3 (x5 + (v_now (((12 : Int32) + x6)).toNatClampNeg)) (x6 + 1) v_now v_readMany v_signedAll v_reason y5 (hn _ rfl) hk
  have L1 : ∀ (n : Nat) (x2 : Int32) (x3 : Int32) (x4 : Int32) (x5 : Int32) (v_now : Nat → Int32) (v_readMany : Int32) (v_signedAll : Int32) (v_reason : Int32) (z_now : Nat → Int32) (z_readMany : Int32) (z_signedAll : Int32) (z_reason : Int32), evr (fun s => b_Model_year_1 x2 v_moults v_words s.1 s.2.1 s.2.2.1 s.2.2.2.1 s.2.2.2.2.1 s.2.2.2.2.2) n (x4, x5, v_now, v_readMany, v_signedAll, v_reason) = some (z_now, z_readMany, z_signedAll, z_reason) → qG p l e ({ frames := 5, cells := 0, slots := 0, locals := 111 } : Room) s m args below meth c 8 (dC, dI) A A Q 0 0 ([(0, .ref o), (3, .int x3)]) [] ([(o, .inr (12, [.ref o_book, .ref o_now, .ref o_moults, .ref o_words, .ref o_clashes, .ref o_rocks, .int v_counts, .ref o_count, .int v_signs, .ref o_pad, .int z_readMany, .int z_signedAll, .int z_reason, .int v_acts, .ref o_reached, .ref o_queue, .ref o_got, .long v_waitUp, .long v_waitLow, .ref o_wins, .ref o_image, .ref o_isKept])), (o_book, .inl (cI, 21, .inl v_book)), (o_now, .inl (cI, 21, .inl z_now)), (o_moults, .inl (cI, 6, .inl v_moults)), (o_words, .inl (cI, 10, .inl v_words))]) 187 → qG p l e ({ frames := 5, cells := 0, slots := 0, locals := 111 } : Room) s m args below meth c 8 (dC, dI) A A Q 0 0 ([(0, .ref o), (2, .int x2), (3, .int x3), (4, .int x4), (5, .int x5)]) [] ([(o, .inr (12, [.ref o_book, .ref o_now, .ref o_moults, .ref o_words, .ref o_clashes, .ref o_rocks, .int v_counts, .ref o_count, .int v_signs, .ref o_pad, .int v_readMany, .int v_signedAll, .int v_reason, .int v_acts, .ref o_reached, .ref o_queue, .ref o_got, .long v_waitUp, .long v_waitLow, .ref o_wins, .ref o_image, .ref o_isKept])), (o_book, .inl (cI, 21, .inl v_book)), (o_now, .inl (cI, 21, .inl v_now)), (o_moults, .inl (cI, 6, .inl v_moults)), (o_words, .inl (cI, 10, .inl v_words))]) 43 := by
    clear hF
    intro n
    induction n with
    | zero => intro x2 x3 x4 x5 v_now v_readMany v_signedAll v_reason z_now z_readMany z_signedAll z_reason hF; exact (evr_0 hF).elim
    | succ n ih =>
      intro x2 x3 x4 x5 v_now v_readMany v_signedAll v_reason z_now z_readMany z_signedAll z_reason hF hk
      obtain ⟨o9, hB, hn, hx⟩ := evr_c hF
      have hF : b_Model_year_1 x2 v_moults v_words x4 x5 v_now v_readMany v_signedAll v_reason = some o9 := hB
      unfold b_Model_year_1 at hF
      refine q_iload C dX12_year_43 4 rfl ?_
      refine q_iload_n C dX12_year_45 1 rfl rfl ?_
      refine q_icmp_ge (tgt := 187) C dX12_year_46 (by decide) (fun c6 => ?_) (fun c6 => ?_)
      · have hF := ite_t hF c6
        cases hF
        have e7 := hx _ rfl
        cases e7
        refine q_lsel [0, 2] rfl ?_
        exact hk
      · have hF := ite_f hF c6
        refine q_bipush (v := (75 : Int32)) C dX12_year_49 (by decide) ?_
        refine q_iload C dX12_year_51 3 rfl ?_
        refine q_imul C dX12_year_53 ?_
        refine q_bipush (v := (74 : Int32)) C dX12_year_54 (by decide) ?_
        refine q_iadd C dX12_year_56 ?_
        refine q_ldc (v := (65537 : Int32)) C lk0 dX12_year_57 ?_
        refine q_irem C dX12_year_59 (by decide) ?_
        refine q_istore C ([(4, .int ((((75 : Int32) * x4) + (74 : Int32)) - (((75 : Int32) * x4) + (74 : Int32)) / (65537 : Int32) * (65537 : Int32))), (0, .ref o), (2, .int x2), (3, .int x3), (5, .int x5)]) dX12_year_60 (by decide) rfl ?_
        refine q_iload C dX12_year_62 0 rfl ?_
        refine q_bipush (v := (8 : Int32)) C dX12_year_64 (by decide) ?_
        refine q_irem C dX12_year_66 (by decide) ?_
        refine q_istore C ([(6, .int (((((75 : Int32) * x4) + (74 : Int32)) - (((75 : Int32) * x4) + (74 : Int32)) / (65537 : Int32) * (65537 : Int32)) - ((((75 : Int32) * x4) + (74 : Int32)) - (((75 : Int32) * x4) + (74 : Int32)) / (65537 : Int32) * (65537 : Int32)) / (8 : Int32) * (8 : Int32))), (4, .int ((((75 : Int32) * x4) + (74 : Int32)) - (((75 : Int32) * x4) + (74 : Int32)) / (65537 : Int32) * (65537 : Int32))), (0, .ref o), (2, .int x2), (3, .int x3), (5, .int x5)]) dX12_year_67 (by decide) rfl ?_
        refine q_iload C dX12_year_69 1 rfl ?_
        refine q_bipush (v := (8 : Int32)) C dX12_year_71 (by decide) ?_
        refine q_idiv C dX12_year_73 (by decide) ?_
        refine q_istore C ([(7, .int (((((75 : Int32) * x4) + (74 : Int32)) - (((75 : Int32) * x4) + (74 : Int32)) / (65537 : Int32) * (65537 : Int32)) / (8 : Int32))), (6, .int (((((75 : Int32) * x4) + (74 : Int32)) - (((75 : Int32) * x4) + (74 : Int32)) / (65537 : Int32) * (65537 : Int32)) - ((((75 : Int32) * x4) + (74 : Int32)) - (((75 : Int32) * x4) + (74 : Int32)) / (65537 : Int32) * (65537 : Int32)) / (8 : Int32) * (8 : Int32))), (4, .int ((((75 : Int32) * x4) + (74 : Int32)) - (((75 : Int32) * x4) + (74 : Int32)) / (65537 : Int32) * (65537 : Int32))), (0, .ref o), (2, .int x2), (3, .int x3), (5, .int x5)]) dX12_year_74 (by decide) rfl ?_
        refine q_iload C dX12_year_76 1 rfl ?_
        refine q_iconst (v := (4 : Int32)) C dX12_year_78 (by decide) ?_
        refine q_icmp_ge (tgt := 98) C dX12_year_79 (by decide) (fun c8 => ?_) (fun c8 => ?_)
        · have hF := ite_t hF c8
          refine q_iload C dX12_year_98 1 rfl ?_
          refine q_iconst (v := (4 : Int32)) C dX12_year_100 (by decide) ?_
          refine q_icmp_ne (tgt := 120) C dX12_year_101 (by decide) (fun c9 => ?_) (fun c9 => ?_)
          · have hF := ite_f hF c9
            refine q_iload C dX12_year_120 1 rfl ?_
            refine q_iconst (v := (5 : Int32)) C dX12_year_122 (by decide) ?_
            refine q_icmp_ne (tgt := 142) C dX12_year_123 (by decide) (fun c10 => ?_) (fun c10 => ?_)
            · have hF := ite_f hF c10
              refine q_iload C dX12_year_142 1 rfl ?_
              refine q_bipush (v := (6 : Int32)) C dX12_year_144 (by decide) ?_
              refine q_icmp_ne (tgt := 173) C dX12_year_146 (by decide) (fun c11 => ?_) (fun c11 => ?_)
              · have hF := ite_f hF c11
                refine q_aload_n C dX12_year_173 3 rfl rfl ?_
                refine q_aload_n C dX12_year_174 3 rfl rfl ?_
                obtain ⟨⟨r12, u12_now⟩, hc13, hF⟩ := bind_c hF
                dsimp only at hF
                refine q_rwi hA ([(o, .inr (12, [.ref o_book, .ref o_now, .ref o_moults, .ref o_words, .ref o_clashes, .ref o_rocks, .int v_counts, .ref o_count, .int v_signs, .ref o_pad, .int v_readMany, .int v_signedAll, .int v_reason, .int v_acts, .ref o_reached, .ref o_queue, .ref o_got, .long v_waitUp, .long v_waitLow, .ref o_wins, .ref o_image, .ref o_isKept])), (o_book, .inl (cI, 21, .inl v_book)), (o_now, .inl (cI, 21, .inl u12_now)), (o_moults, .inl (cI, 6, .inl v_moults)), (o_words, .inl (cI, 10, .inl v_words))]) [0, 2, 3] [1, 4] rfl rfl rfl (by decide) [2, 0, 3, 4, 1] rfl rfl (q_runV (As := []) (rest := [.ref o]) C (fun sz => c_X12_endMonth l dC dI cI cZ cQ o o_now o_moults o_book o_words o_clashes o_rocks o_count o_pad o_reached o_queue o_got o_wins o_image o_isKept v_now v_moults v_counts v_signs v_readMany v_signedAll v_reason v_acts v_waitUp v_waitLow r12 u12_now hc13 sz) (cwV 0 C.2.2.2.2.1 gX12_year_X12_endMonth rfl rfl rfl (by decide +kernel) ⟨Nat.le_of_ble_eq_true rfl, Nat.le_of_ble_eq_true rfl⟩) 0 rfl rfl rfl [0, 2, 3] rfl rfl rfl rfl (Nat.le_of_ble_eq_true rfl) dX12_year_175 ⟨Nat.zero_le _, Nat.zero_le _⟩) ?_
                refine q_put (C0 := RX12) (T := TX12) (N := 22) (k0 := 12) C lk2 0 rfl rfl (by decide) lk1 rfl tyX12 tyX12_ok nmX12 rfl (v := .int r12) rfl rfl (Nat.le_of_ble_eq_true rfl) ([(o, .inr (12, [.ref o_book, .ref o_now, .ref o_moults, .ref o_words, .ref o_clashes, .ref o_rocks, .int v_counts, .ref o_count, .int v_signs, .ref o_pad, .int v_readMany, .int v_signedAll, .int r12, .int v_acts, .ref o_reached, .ref o_queue, .ref o_got, .long v_waitUp, .long v_waitLow, .ref o_wins, .ref o_image, .ref o_isKept])), (o_book, .inl (cI, 21, .inl v_book)), (o_now, .inl (cI, 21, .inl u12_now)), (o_moults, .inl (cI, 6, .inl v_moults)), (o_words, .inl (cI, 10, .inl v_words))]) rfl dX12_year_178 ?_
                refine q_iinc (v := (x5 + 1)) C ([(5, .int (x5 + 1)), (7, .int (((((75 : Int32) * x4) + (74 : Int32)) - (((75 : Int32) * x4) + (74 : Int32)) / (65537 : Int32) * (65537 : Int32)) / (8 : Int32))), (6, .int (((((75 : Int32) * x4) + (74 : Int32)) - (((75 : Int32) * x4) + (74 : Int32)) / (65537 : Int32) * (65537 : Int32)) - ((((75 : Int32) * x4) + (74 : Int32)) - (((75 : Int32) * x4) + (74 : Int32)) / (65537 : Int32) * (65537 : Int32)) / (8 : Int32) * (8 : Int32))), (4, .int ((((75 : Int32) * x4) + (74 : Int32)) - (((75 : Int32) * x4) + (74 : Int32)) / (65537 : Int32) * (65537 : Int32))), (0, .ref o), (2, .int x2), (3, .int x3)]) dX12_year_181 6 rfl rfl (by decide) rfl ?_
                refine q_goto (tgt := 43) C dX12_year_184 (by decide) ?_
                cases hF
                refine q_lsel [4, 5, 6, 3, 0] rfl ?_
                exact ih x2 x3 ((((75 : Int32) * x4) + (74 : Int32)) - (((75 : Int32) * x4) + (74 : Int32)) / (65537 : Int32) * (65537 : Int32)) (x5 + 1) u12_now v_readMany v_signedAll r12 z_now z_readMany z_signedAll z_reason (hn _ rfl) hk
              · have hF := ite_t hF c11
                refine q_aload_n C dX12_year_149 3 rfl rfl ?_
                refine q_aload_n C dX12_year_150 3 rfl rfl ?_
                refine q_iload C dX12_year_151 0 rfl ?_
                refine q_bipush (v := (6 : Int32)) C dX12_year_153 (by decide) ?_
                refine q_irem C dX12_year_155 (by decide) ?_
                refine q_iload C dX12_year_156 0 rfl ?_
                refine q_bipush (v := (6 : Int32)) C dX12_year_158 (by decide) ?_
                refine q_idiv C dX12_year_160 (by decide) ?_
                refine q_bipush (v := (6 : Int32)) C dX12_year_161 (by decide) ?_
                refine q_irem C dX12_year_163 (by decide) ?_
                obtain ⟨⟨r14, u14_now⟩, hc15, hF⟩ := bind_c hF
                dsimp only at hF
                refine q_rwi hA ([(o, .inr (12, [.ref o_book, .ref o_now, .ref o_moults, .ref o_words, .ref o_clashes, .ref o_rocks, .int v_counts, .ref o_count, .int v_signs, .ref o_pad, .int v_readMany, .int v_signedAll, .int v_reason, .int v_acts, .ref o_reached, .ref o_queue, .ref o_got, .long v_waitUp, .long v_waitLow, .ref o_wins, .ref o_image, .ref o_isKept])), (o_book, .inl (cI, 21, .inl v_book)), (o_now, .inl (cI, 21, .inl u14_now)), (o_moults, .inl (cI, 6, .inl v_moults)), (o_words, .inl (cI, 10, .inl v_words))]) [0, 2] [1, 3, 4] rfl rfl rfl (by decide) [3, 0, 4, 1, 2] rfl rfl (q_runV (As := [.int ((((((75 : Int32) * x4) + (74 : Int32)) - (((75 : Int32) * x4) + (74 : Int32)) / (65537 : Int32) * (65537 : Int32)) / (8 : Int32)) - (((((75 : Int32) * x4) + (74 : Int32)) - (((75 : Int32) * x4) + (74 : Int32)) / (65537 : Int32) * (65537 : Int32)) / (8 : Int32)) / (6 : Int32) * (6 : Int32)), .int (((((((75 : Int32) * x4) + (74 : Int32)) - (((75 : Int32) * x4) + (74 : Int32)) / (65537 : Int32) * (65537 : Int32)) / (8 : Int32)) / (6 : Int32)) - ((((((75 : Int32) * x4) + (74 : Int32)) - (((75 : Int32) * x4) + (74 : Int32)) / (65537 : Int32) * (65537 : Int32)) / (8 : Int32)) / (6 : Int32)) / (6 : Int32) * (6 : Int32))]) (rest := [.ref o]) C (fun sz => c_X12_join l dC dI cI cZ cQ o o_now o_book o_moults o_words o_clashes o_rocks o_count o_pad o_reached o_queue o_got o_wins o_image o_isKept v_now v_counts v_signs v_readMany v_signedAll v_reason v_acts v_waitUp v_waitLow ((((((75 : Int32) * x4) + (74 : Int32)) - (((75 : Int32) * x4) + (74 : Int32)) / (65537 : Int32) * (65537 : Int32)) / (8 : Int32)) - (((((75 : Int32) * x4) + (74 : Int32)) - (((75 : Int32) * x4) + (74 : Int32)) / (65537 : Int32) * (65537 : Int32)) / (8 : Int32)) / (6 : Int32) * (6 : Int32)) (((((((75 : Int32) * x4) + (74 : Int32)) - (((75 : Int32) * x4) + (74 : Int32)) / (65537 : Int32) * (65537 : Int32)) / (8 : Int32)) / (6 : Int32)) - ((((((75 : Int32) * x4) + (74 : Int32)) - (((75 : Int32) * x4) + (74 : Int32)) / (65537 : Int32) * (65537 : Int32)) / (8 : Int32)) / (6 : Int32)) / (6 : Int32) * (6 : Int32)) r14 u14_now hc15 sz) (cwV 2 C.2.2.2.2.1 gX12_year_X12_join rfl rfl rfl (by decide +kernel) ⟨Nat.le_of_ble_eq_true rfl, Nat.le_of_ble_eq_true rfl⟩) 0 rfl rfl rfl [0, 2] rfl rfl rfl rfl (Nat.le_of_ble_eq_true rfl) dX12_year_164 ⟨Nat.zero_le _, Nat.zero_le _⟩) ?_
                refine q_put (C0 := RX12) (T := TX12) (N := 22) (k0 := 12) C lk2 0 rfl rfl (by decide) lk1 rfl tyX12 tyX12_ok nmX12 rfl (v := .int r14) rfl rfl (Nat.le_of_ble_eq_true rfl) ([(o, .inr (12, [.ref o_book, .ref o_now, .ref o_moults, .ref o_words, .ref o_clashes, .ref o_rocks, .int v_counts, .ref o_count, .int v_signs, .ref o_pad, .int v_readMany, .int v_signedAll, .int r14, .int v_acts, .ref o_reached, .ref o_queue, .ref o_got, .long v_waitUp, .long v_waitLow, .ref o_wins, .ref o_image, .ref o_isKept])), (o_book, .inl (cI, 21, .inl v_book)), (o_now, .inl (cI, 21, .inl u14_now)), (o_moults, .inl (cI, 6, .inl v_moults)), (o_words, .inl (cI, 10, .inl v_words))]) rfl dX12_year_167 ?_
                refine q_goto (tgt := 181) C dX12_year_170 (by decide) ?_
                refine q_iinc (v := (x5 + 1)) C ([(5, .int (x5 + 1)), (7, .int (((((75 : Int32) * x4) + (74 : Int32)) - (((75 : Int32) * x4) + (74 : Int32)) / (65537 : Int32) * (65537 : Int32)) / (8 : Int32))), (6, .int (((((75 : Int32) * x4) + (74 : Int32)) - (((75 : Int32) * x4) + (74 : Int32)) / (65537 : Int32) * (65537 : Int32)) - ((((75 : Int32) * x4) + (74 : Int32)) - (((75 : Int32) * x4) + (74 : Int32)) / (65537 : Int32) * (65537 : Int32)) / (8 : Int32) * (8 : Int32))), (4, .int ((((75 : Int32) * x4) + (74 : Int32)) - (((75 : Int32) * x4) + (74 : Int32)) / (65537 : Int32) * (65537 : Int32))), (0, .ref o), (2, .int x2), (3, .int x3)]) dX12_year_181 6 rfl rfl (by decide) rfl ?_
                refine q_goto (tgt := 43) C dX12_year_184 (by decide) ?_
                cases hF
                refine q_lsel [4, 5, 6, 3, 0] rfl ?_
                exact ih x2 x3 ((((75 : Int32) * x4) + (74 : Int32)) - (((75 : Int32) * x4) + (74 : Int32)) / (65537 : Int32) * (65537 : Int32)) (x5 + 1) u14_now v_readMany v_signedAll r14 z_now z_readMany z_signedAll z_reason (hn _ rfl) hk
            · have hF := ite_t hF c10
              refine q_aload_n C dX12_year_126 3 rfl rfl ?_
              refine q_aload_n C dX12_year_127 3 rfl rfl ?_
              refine q_iload C dX12_year_128 0 rfl ?_
              refine q_bipush (v := (6 : Int32)) C dX12_year_130 (by decide) ?_
              refine q_irem C dX12_year_132 (by decide) ?_
              obtain ⟨⟨r16, u16_now⟩, hc17, hF⟩ := bind_c hF
              dsimp only at hF
              refine q_rwi hA ([(o, .inr (12, [.ref o_book, .ref o_now, .ref o_moults, .ref o_words, .ref o_clashes, .ref o_rocks, .int v_counts, .ref o_count, .int v_signs, .ref o_pad, .int v_readMany, .int v_signedAll, .int v_reason, .int v_acts, .ref o_reached, .ref o_queue, .ref o_got, .long v_waitUp, .long v_waitLow, .ref o_wins, .ref o_image, .ref o_isKept])), (o_book, .inl (cI, 21, .inl v_book)), (o_now, .inl (cI, 21, .inl u16_now)), (o_moults, .inl (cI, 6, .inl v_moults)), (o_words, .inl (cI, 10, .inl v_words))]) [0, 2] [1, 3, 4] rfl rfl rfl (by decide) [3, 0, 4, 1, 2] rfl rfl (q_runV (As := [.int ((((((75 : Int32) * x4) + (74 : Int32)) - (((75 : Int32) * x4) + (74 : Int32)) / (65537 : Int32) * (65537 : Int32)) / (8 : Int32)) - (((((75 : Int32) * x4) + (74 : Int32)) - (((75 : Int32) * x4) + (74 : Int32)) / (65537 : Int32) * (65537 : Int32)) / (8 : Int32)) / (6 : Int32) * (6 : Int32))]) (rest := [.ref o]) C (fun sz => c_X12_net l dC dI cI cZ cQ o o_now o_book o_moults o_words o_clashes o_rocks o_count o_pad o_reached o_queue o_got o_wins o_image o_isKept v_now v_counts v_signs v_readMany v_signedAll v_reason v_acts v_waitUp v_waitLow ((((((75 : Int32) * x4) + (74 : Int32)) - (((75 : Int32) * x4) + (74 : Int32)) / (65537 : Int32) * (65537 : Int32)) / (8 : Int32)) - (((((75 : Int32) * x4) + (74 : Int32)) - (((75 : Int32) * x4) + (74 : Int32)) / (65537 : Int32) * (65537 : Int32)) / (8 : Int32)) / (6 : Int32) * (6 : Int32)) r16 u16_now hc17 sz) (cwV 1 C.2.2.2.2.1 gX12_year_X12_net rfl rfl rfl (by decide +kernel) ⟨Nat.le_of_ble_eq_true rfl, Nat.le_of_ble_eq_true rfl⟩) 0 rfl rfl rfl [0, 2] rfl rfl rfl rfl (Nat.le_of_ble_eq_true rfl) dX12_year_133 ⟨Nat.zero_le _, Nat.zero_le _⟩) ?_
              refine q_put (C0 := RX12) (T := TX12) (N := 22) (k0 := 12) C lk2 0 rfl rfl (by decide) lk1 rfl tyX12 tyX12_ok nmX12 rfl (v := .int r16) rfl rfl (Nat.le_of_ble_eq_true rfl) ([(o, .inr (12, [.ref o_book, .ref o_now, .ref o_moults, .ref o_words, .ref o_clashes, .ref o_rocks, .int v_counts, .ref o_count, .int v_signs, .ref o_pad, .int v_readMany, .int v_signedAll, .int r16, .int v_acts, .ref o_reached, .ref o_queue, .ref o_got, .long v_waitUp, .long v_waitLow, .ref o_wins, .ref o_image, .ref o_isKept])), (o_book, .inl (cI, 21, .inl v_book)), (o_now, .inl (cI, 21, .inl u16_now)), (o_moults, .inl (cI, 6, .inl v_moults)), (o_words, .inl (cI, 10, .inl v_words))]) rfl dX12_year_136 ?_
              refine q_goto (tgt := 181) C dX12_year_139 (by decide) ?_
              refine q_iinc (v := (x5 + 1)) C ([(5, .int (x5 + 1)), (7, .int (((((75 : Int32) * x4) + (74 : Int32)) - (((75 : Int32) * x4) + (74 : Int32)) / (65537 : Int32) * (65537 : Int32)) / (8 : Int32))), (6, .int (((((75 : Int32) * x4) + (74 : Int32)) - (((75 : Int32) * x4) + (74 : Int32)) / (65537 : Int32) * (65537 : Int32)) - ((((75 : Int32) * x4) + (74 : Int32)) - (((75 : Int32) * x4) + (74 : Int32)) / (65537 : Int32) * (65537 : Int32)) / (8 : Int32) * (8 : Int32))), (4, .int ((((75 : Int32) * x4) + (74 : Int32)) - (((75 : Int32) * x4) + (74 : Int32)) / (65537 : Int32) * (65537 : Int32))), (0, .ref o), (2, .int x2), (3, .int x3)]) dX12_year_181 6 rfl rfl (by decide) rfl ?_
              refine q_goto (tgt := 43) C dX12_year_184 (by decide) ?_
              cases hF
              refine q_lsel [4, 5, 6, 3, 0] rfl ?_
              exact ih x2 x3 ((((75 : Int32) * x4) + (74 : Int32)) - (((75 : Int32) * x4) + (74 : Int32)) / (65537 : Int32) * (65537 : Int32)) (x5 + 1) u16_now v_readMany v_signedAll r16 z_now z_readMany z_signedAll z_reason (hn _ rfl) hk
          · have hF := ite_t hF c9
            refine q_aload_n C dX12_year_104 3 rfl rfl ?_
            refine q_aload_n C dX12_year_105 3 rfl rfl ?_
            refine q_iload C dX12_year_106 0 rfl ?_
            refine q_bipush (v := (6 : Int32)) C dX12_year_108 (by decide) ?_
            refine q_irem C dX12_year_110 (by decide) ?_
            obtain ⟨⟨r18, u18_now⟩, hc19, hF⟩ := bind_c hF
            dsimp only at hF
            refine q_rwi hA ([(o, .inr (12, [.ref o_book, .ref o_now, .ref o_moults, .ref o_words, .ref o_clashes, .ref o_rocks, .int v_counts, .ref o_count, .int v_signs, .ref o_pad, .int v_readMany, .int v_signedAll, .int v_reason, .int v_acts, .ref o_reached, .ref o_queue, .ref o_got, .long v_waitUp, .long v_waitLow, .ref o_wins, .ref o_image, .ref o_isKept])), (o_book, .inl (cI, 21, .inl v_book)), (o_now, .inl (cI, 21, .inl u18_now)), (o_moults, .inl (cI, 6, .inl v_moults)), (o_words, .inl (cI, 10, .inl v_words))]) [0, 2] [1, 3, 4] rfl rfl rfl (by decide) [3, 0, 4, 1, 2] rfl rfl (q_runV (As := [.int ((((((75 : Int32) * x4) + (74 : Int32)) - (((75 : Int32) * x4) + (74 : Int32)) / (65537 : Int32) * (65537 : Int32)) / (8 : Int32)) - (((((75 : Int32) * x4) + (74 : Int32)) - (((75 : Int32) * x4) + (74 : Int32)) / (65537 : Int32) * (65537 : Int32)) / (8 : Int32)) / (6 : Int32) * (6 : Int32))]) (rest := [.ref o]) C (fun sz => c_X12_whistle l dC dI cI cZ cQ o o_now o_book o_moults o_words o_clashes o_rocks o_count o_pad o_reached o_queue o_got o_wins o_image o_isKept v_now v_counts v_signs v_readMany v_signedAll v_reason v_acts v_waitUp v_waitLow ((((((75 : Int32) * x4) + (74 : Int32)) - (((75 : Int32) * x4) + (74 : Int32)) / (65537 : Int32) * (65537 : Int32)) / (8 : Int32)) - (((((75 : Int32) * x4) + (74 : Int32)) - (((75 : Int32) * x4) + (74 : Int32)) / (65537 : Int32) * (65537 : Int32)) / (8 : Int32)) / (6 : Int32) * (6 : Int32)) r18 u18_now hc19 sz) (cwV 1 C.2.2.2.2.1 gX12_year_X12_whistle rfl rfl rfl (by decide +kernel) ⟨Nat.le_of_ble_eq_true rfl, Nat.le_of_ble_eq_true rfl⟩) 0 rfl rfl rfl [0, 2] rfl rfl rfl rfl (Nat.le_of_ble_eq_true rfl) dX12_year_111 ⟨Nat.zero_le _, Nat.zero_le _⟩) ?_
            refine q_put (C0 := RX12) (T := TX12) (N := 22) (k0 := 12) C lk2 0 rfl rfl (by decide) lk1 rfl tyX12 tyX12_ok nmX12 rfl (v := .int r18) rfl rfl (Nat.le_of_ble_eq_true rfl) ([(o, .inr (12, [.ref o_book, .ref o_now, .ref o_moults, .ref o_words, .ref o_clashes, .ref o_rocks, .int v_counts, .ref o_count, .int v_signs, .ref o_pad, .int v_readMany, .int v_signedAll, .int r18, .int v_acts, .ref o_reached, .ref o_queue, .ref o_got, .long v_waitUp, .long v_waitLow, .ref o_wins, .ref o_image, .ref o_isKept])), (o_book, .inl (cI, 21, .inl v_book)), (o_now, .inl (cI, 21, .inl u18_now)), (o_moults, .inl (cI, 6, .inl v_moults)), (o_words, .inl (cI, 10, .inl v_words))]) rfl dX12_year_114 ?_
            refine q_goto (tgt := 181) C dX12_year_117 (by decide) ?_
            refine q_iinc (v := (x5 + 1)) C ([(5, .int (x5 + 1)), (7, .int (((((75 : Int32) * x4) + (74 : Int32)) - (((75 : Int32) * x4) + (74 : Int32)) / (65537 : Int32) * (65537 : Int32)) / (8 : Int32))), (6, .int (((((75 : Int32) * x4) + (74 : Int32)) - (((75 : Int32) * x4) + (74 : Int32)) / (65537 : Int32) * (65537 : Int32)) - ((((75 : Int32) * x4) + (74 : Int32)) - (((75 : Int32) * x4) + (74 : Int32)) / (65537 : Int32) * (65537 : Int32)) / (8 : Int32) * (8 : Int32))), (4, .int ((((75 : Int32) * x4) + (74 : Int32)) - (((75 : Int32) * x4) + (74 : Int32)) / (65537 : Int32) * (65537 : Int32))), (0, .ref o), (2, .int x2), (3, .int x3)]) dX12_year_181 6 rfl rfl (by decide) rfl ?_
            refine q_goto (tgt := 43) C dX12_year_184 (by decide) ?_
            cases hF
            refine q_lsel [4, 5, 6, 3, 0] rfl ?_
            exact ih x2 x3 ((((75 : Int32) * x4) + (74 : Int32)) - (((75 : Int32) * x4) + (74 : Int32)) / (65537 : Int32) * (65537 : Int32)) (x5 + 1) u18_now v_readMany v_signedAll r18 z_now z_readMany z_signedAll z_reason (hn _ rfl) hk
        · have hF := ite_f hF c8
          refine q_aload_n C dX12_year_82 3 rfl rfl ?_
          refine q_aload_n C dX12_year_83 3 rfl rfl ?_
          refine q_iload C dX12_year_84 0 rfl ?_
          refine q_bipush (v := (10 : Int32)) C dX12_year_86 (by decide) ?_
          refine q_irem C dX12_year_88 (by decide) ?_
          obtain ⟨⟨r20, u20_now, u20_readMany, u20_signedAll⟩, hc21, hF⟩ := bind_c hF
          dsimp only at hF
          refine q_rwi hA ([(o, .inr (12, [.ref o_book, .ref o_now, .ref o_moults, .ref o_words, .ref o_clashes, .ref o_rocks, .int v_counts, .ref o_count, .int v_signs, .ref o_pad, .int u20_readMany, .int u20_signedAll, .int v_reason, .int v_acts, .ref o_reached, .ref o_queue, .ref o_got, .long v_waitUp, .long v_waitLow, .ref o_wins, .ref o_image, .ref o_isKept])), (o_book, .inl (cI, 21, .inl v_book)), (o_now, .inl (cI, 21, .inl u20_now)), (o_moults, .inl (cI, 6, .inl v_moults)), (o_words, .inl (cI, 10, .inl v_words))]) [0, 2, 3, 4] [1] rfl rfl rfl (by decide) [1, 0, 2, 3, 4] rfl rfl (q_runV (As := [.int ((((((75 : Int32) * x4) + (74 : Int32)) - (((75 : Int32) * x4) + (74 : Int32)) / (65537 : Int32) * (65537 : Int32)) / (8 : Int32)) - (((((75 : Int32) * x4) + (74 : Int32)) - (((75 : Int32) * x4) + (74 : Int32)) / (65537 : Int32) * (65537 : Int32)) / (8 : Int32)) / (10 : Int32) * (10 : Int32))]) (rest := [.ref o]) C (fun sz => c_X12_read l dC dI cI cZ cQ o o_now o_moults o_words o_book o_clashes o_rocks o_count o_pad o_reached o_queue o_got o_wins o_image o_isKept v_now v_moults v_words v_readMany v_signedAll v_counts v_signs v_reason v_acts v_waitUp v_waitLow ((((((75 : Int32) * x4) + (74 : Int32)) - (((75 : Int32) * x4) + (74 : Int32)) / (65537 : Int32) * (65537 : Int32)) / (8 : Int32)) - (((((75 : Int32) * x4) + (74 : Int32)) - (((75 : Int32) * x4) + (74 : Int32)) / (65537 : Int32) * (65537 : Int32)) / (8 : Int32)) / (10 : Int32) * (10 : Int32)) r20 u20_now u20_readMany u20_signedAll hc21 sz) (cwV 1 C.2.2.2.2.1 gX12_year_X12_read rfl rfl rfl (by decide +kernel) ⟨Nat.le_of_ble_eq_true rfl, Nat.le_of_ble_eq_true rfl⟩) 0 rfl rfl rfl [0, 2, 3, 4] rfl rfl rfl rfl (Nat.le_of_ble_eq_true rfl) dX12_year_89 ⟨Nat.zero_le _, Nat.zero_le _⟩) ?_
          refine q_put (C0 := RX12) (T := TX12) (N := 22) (k0 := 12) C lk2 0 rfl rfl (by decide) lk1 rfl tyX12 tyX12_ok nmX12 rfl (v := .int r20) rfl rfl (Nat.le_of_ble_eq_true rfl) ([(o, .inr (12, [.ref o_book, .ref o_now, .ref o_moults, .ref o_words, .ref o_clashes, .ref o_rocks, .int v_counts, .ref o_count, .int v_signs, .ref o_pad, .int u20_readMany, .int u20_signedAll, .int r20, .int v_acts, .ref o_reached, .ref o_queue, .ref o_got, .long v_waitUp, .long v_waitLow, .ref o_wins, .ref o_image, .ref o_isKept])), (o_book, .inl (cI, 21, .inl v_book)), (o_now, .inl (cI, 21, .inl u20_now)), (o_moults, .inl (cI, 6, .inl v_moults)), (o_words, .inl (cI, 10, .inl v_words))]) rfl dX12_year_92 ?_
          refine q_goto (tgt := 181) C dX12_year_95 (by decide) ?_
          refine q_iinc (v := (x5 + 1)) C ([(5, .int (x5 + 1)), (7, .int (((((75 : Int32) * x4) + (74 : Int32)) - (((75 : Int32) * x4) + (74 : Int32)) / (65537 : Int32) * (65537 : Int32)) / (8 : Int32))), (6, .int (((((75 : Int32) * x4) + (74 : Int32)) - (((75 : Int32) * x4) + (74 : Int32)) / (65537 : Int32) * (65537 : Int32)) - ((((75 : Int32) * x4) + (74 : Int32)) - (((75 : Int32) * x4) + (74 : Int32)) / (65537 : Int32) * (65537 : Int32)) / (8 : Int32) * (8 : Int32))), (4, .int ((((75 : Int32) * x4) + (74 : Int32)) - (((75 : Int32) * x4) + (74 : Int32)) / (65537 : Int32) * (65537 : Int32))), (0, .ref o), (2, .int x2), (3, .int x3)]) dX12_year_181 6 rfl rfl (by decide) rfl ?_
          refine q_goto (tgt := 43) C dX12_year_184 (by decide) ?_
          cases hF
          refine q_lsel [4, 5, 6, 3, 0] rfl ?_
          exact ih x2 x3 ((((75 : Int32) * x4) + (74 : Int32)) - (((75 : Int32) * x4) + (74 : Int32)) / (65537 : Int32) * (65537 : Int32)) (x5 + 1) u20_now u20_readMany u20_signedAll r20 z_now z_readMany z_signedAll z_reason (hn _ rfl) hk
  unfold f_Model_year at hF
  refine q_iload_n C dX12_year_0 1 rfl rfl ?_
  refine q_iconst (v := (0 : Int32)) C dX12_year_1 (by decide) ?_
  refine q_sipush (v := (9999 : Int32)) C dX12_year_2 (by decide) ?_
  refine q_roz (q_runS (As := [.int p1, .int (0 : Int32), .int (9999 : Int32)]) (rest := []) C (fun sz => c_X12_in l dC dI cI cZ cQ p1 (0 : Int32) (9999 : Int32) (f_Model_in p1 (0 : Int32) (9999 : Int32)) rfl sz) (va_cwS 3 C.2.2.2.2.1 gX12_year_X12_in rfl rfl rfl (by decide +kernel) ⟨Nat.le_of_ble_eq_true rfl, Nat.le_of_ble_eq_true rfl⟩) [] rfl rfl rfl rfl (Nat.le_of_ble_eq_true rfl) dX12_year_5 ⟨Nat.zero_le _, Nat.zero_le _⟩) (fun hz22 => ?_)
  refine q_if_eq (tgt := 30) C dX12_year_8 (by decide) (fun c23 => ?_) (fun c23 => ?_)
  · have hF := ite_t hF c23
    refine q_bipush (v := (-2 : Int32)) C dX12_year_30 (by decide) ?_
    cases hF
    exact q_wreti C hr dX12_year_32 hQ
  · have hF := ite_f hF c23
    refine q_iload_n C dX12_year_11 2 rfl rfl ?_
    refine q_iconst (v := (1 : Int32)) C dX12_year_12 (by decide) ?_
    refine q_bipush (v := (99 : Int32)) C dX12_year_13 (by decide) ?_
    refine q_roz (q_runS (As := [.int p2, .int (1 : Int32), .int (99 : Int32)]) (rest := []) C (fun sz => c_X12_in l dC dI cI cZ cQ p2 (1 : Int32) (99 : Int32) (f_Model_in p2 (1 : Int32) (99 : Int32)) rfl sz) (va_cwS 3 C.2.2.2.2.1 gX12_year_X12_in rfl rfl rfl (by decide +kernel) ⟨Nat.le_of_ble_eq_true rfl, Nat.le_of_ble_eq_true rfl⟩) [] rfl rfl rfl rfl (Nat.le_of_ble_eq_true rfl) dX12_year_15 ⟨Nat.zero_le _, Nat.zero_le _⟩) (fun hz24 => ?_)
    refine q_if_eq (tgt := 30) C dX12_year_18 (by decide) (fun c25 => ?_) (fun c25 => ?_)
    · have hF := ite_t hF c25
      refine q_bipush (v := (-2 : Int32)) C dX12_year_30 (by decide) ?_
      cases hF
      exact q_wreti C hr dX12_year_32 hQ
    · have hF := ite_f hF c25
      refine q_iload_n C dX12_year_21 3 rfl rfl ?_
      refine q_iconst (v := (0 : Int32)) C dX12_year_22 (by decide) ?_
      refine q_iconst (v := (2 : Int32)) C dX12_year_23 (by decide) ?_
      refine q_roz (q_runS (As := [.int p3, .int (0 : Int32), .int (2 : Int32)]) (rest := []) C (fun sz => c_X12_in l dC dI cI cZ cQ p3 (0 : Int32) (2 : Int32) (f_Model_in p3 (0 : Int32) (2 : Int32)) rfl sz) (va_cwS 3 C.2.2.2.2.1 gX12_year_X12_in rfl rfl rfl (by decide +kernel) ⟨Nat.le_of_ble_eq_true rfl, Nat.le_of_ble_eq_true rfl⟩) [] rfl rfl rfl rfl (Nat.le_of_ble_eq_true rfl) dX12_year_24 ⟨Nat.zero_le _, Nat.zero_le _⟩) (fun hz26 => ?_)
      refine q_if_ne (tgt := 33) C dX12_year_27 (by decide) (fun c27 => ?_) (fun c27 => ?_)
      · have hF := ite_f hF c27
        refine q_aload_n C dX12_year_33 0 rfl rfl ?_
        obtain ⟨⟨u28_now, u28_readMany, u28_signedAll⟩, hc29, hF⟩ := bind_c hF
        dsimp only at hF
        refine q_rwv hA ([(o, .inr (12, [.ref o_book, .ref o_now, .ref o_moults, .ref o_words, .ref o_clashes, .ref o_rocks, .int v_counts, .ref o_count, .int v_signs, .ref o_pad, .int u28_readMany, .int u28_signedAll, .int v_reason, .int v_acts, .ref o_reached, .ref o_queue, .ref o_got, .long v_waitUp, .long v_waitLow, .ref o_wins, .ref o_image, .ref o_isKept])), (o_book, .inl (cI, 21, .inl v_book)), (o_now, .inl (cI, 21, .inl u28_now)), (o_moults, .inl (cI, 6, .inl v_moults)), (o_words, .inl (cI, 10, .inl v_words))]) [0, 1, 2] [3, 4] rfl rfl rfl (by decide) [2, 3, 4, 0, 1] rfl rfl (q_runV (As := []) (rest := []) C (fun sz => c_X12_asNow l dC dI cI cZ cQ o o_book o_now o_moults o_words o_clashes o_rocks o_count o_pad o_reached o_queue o_got o_wins o_image o_isKept v_book v_now v_readMany v_signedAll v_counts v_signs v_reason v_acts v_waitUp v_waitLow u28_now u28_readMany u28_signedAll hc29 sz) (cwV 0 C.2.2.2.2.1 gX12_year_X12_asNow rfl rfl rfl (by decide +kernel) ⟨Nat.le_of_ble_eq_true rfl, Nat.le_of_ble_eq_true rfl⟩) 0 rfl rfl rfl [0, 1, 2] rfl rfl rfl rfl (Nat.le_of_ble_eq_true rfl) dX12_year_34 ⟨Nat.zero_le _, Nat.zero_le _⟩) ?_
        refine q_iload_n C dX12_year_37 1 rfl rfl ?_
        refine q_istore C ([(4, .int p1), (0, .ref o), (1, .int p1), (2, .int p2), (3, .int p3)]) dX12_year_38 (by decide) rfl ?_
        refine q_iconst (v := (0 : Int32)) C dX12_year_40 (by decide) ?_
        refine q_istore C ([(5, .int (0 : Int32)), (4, .int p1), (0, .ref o), (1, .int p1), (2, .int p2), (3, .int p3)]) dX12_year_41 (by decide) rfl ?_
        obtain ⟨⟨z30_now, z30_readMany, z30_signedAll, z30_reason⟩, hc31, hF⟩ := bind_c hF
        dsimp only at hF
        obtain ⟨n32, hc31⟩ := (ev_iff _ _ _).mp hc31
        refine q_lsel [2, 4, 5, 1, 0] rfl ?_
        refine L1 n32 p2 p3 p1 (0 : Int32) u28_now u28_readMany u28_signedAll v_reason z30_now z30_readMany z30_signedAll z30_reason hc31 ?_
        refine q_iconst (v := (0 : Int32)) C dX12_year_187 (by decide) ?_
        refine q_istore C ([(5, .int (0 : Int32)), (0, .ref o), (3, .int p3)]) dX12_year_188 (by decide) rfl ?_
        refine q_iconst (v := (0 : Int32)) C dX12_year_190 (by decide) ?_
        refine q_istore C ([(6, .int (0 : Int32)), (5, .int (0 : Int32)), (0, .ref o), (3, .int p3)]) dX12_year_191 (by decide) rfl ?_
        obtain ⟨y5_33, hc34, hF⟩ := bind_c hF
        obtain ⟨n35, hc34⟩ := (ev_iff _ _ _).mp hc34
        refine q_lsel [2, 3, 1, 0] rfl ?_
        refine L2 n35 p3 (0 : Int32) (0 : Int32) z30_now z30_readMany z30_signedAll z30_reason y5_33 hc34 ?_
        refine q_iload_n C dX12_year_234 1 rfl rfl ?_
        refine q_if_ne (tgt := 245) C dX12_year_235 (by decide) (fun c36 => ?_) (fun c36 => ?_)
        · have hF := ite_f hF c36
          refine q_iload_n C dX12_year_245 1 rfl rfl ?_
          refine q_iconst (v := (1 : Int32)) C dX12_year_246 (by decide) ?_
          refine q_icmp_ne (tgt := 260) C dX12_year_247 (by decide) (fun c37 => ?_) (fun c37 => ?_)
          · have hF := ite_f hF c37
            refine q_iload C dX12_year_260 2 rfl ?_
            cases hF
            exact q_wreti C hr dX12_year_262 hQ
          · have hF := ite_t hF c37
            refine q_aload_n C dX12_year_250 0 rfl rfl ?_
            refine q_get (C0 := RX12) (T := TX12) (N := 22) (k0 := 1) C lk2 0 rfl rfl (by decide) lk3 rfl (v := .ref o_now) rfl dX12_year_251 ?_
            refine q_bipush (v := (19 : Int32)) C dX12_year_254 (by decide) ?_
            refine q_iald C 2 0 rfl rfl (ix_in (by decide)) dX12_year_256 ?_
            refine q_goto (tgt := 262) C dX12_year_257 (by decide) ?_
            cases hF
            exact q_wreti C hr dX12_year_262 hQ
        · have hF := ite_t hF c36
          refine q_aload_n C dX12_year_238 0 rfl rfl ?_
          obtain ⟨r38, hc39, hF⟩ := bind_c hF
          refine q_roi (q_runV (As := []) (rest := []) C (fun sz => c_X12_headsBeyond l dC dI cI cZ cQ o o_now o_book o_moults o_words o_clashes o_rocks o_count o_pad o_reached o_queue o_got o_wins o_image o_isKept z30_now v_counts v_signs z30_readMany z30_signedAll z30_reason v_acts v_waitUp v_waitLow r38 hc39 sz) (cwV 0 C.2.2.2.2.1 gX12_year_X12_headsBeyond rfl rfl rfl (by decide +kernel) ⟨Nat.le_of_ble_eq_true rfl, Nat.le_of_ble_eq_true rfl⟩) 0 rfl rfl rfl [0, 2] rfl rfl rfl rfl (Nat.le_of_ble_eq_true rfl) dX12_year_239 ⟨Nat.zero_le _, Nat.zero_le _⟩) ?_
          refine q_goto (tgt := 262) C dX12_year_242 (by decide) ?_
          cases hF
          exact q_wreti C hr dX12_year_262 hQ
      · have hF := ite_t hF c27
        refine q_bipush (v := (-2 : Int32)) C dX12_year_30 (by decide) ?_
        cases hF
        exact q_wreti C hr dX12_year_32 hQ
set_option maxRecDepth 100000 in
set_option maxHeartbeats 4000000 in
theorem c_X12_image (l : Launch) (dC : Nat → ClassId) (dI : Nat → Nat → Nat) (cI cZ cQ : ClassId) (o o_book o_moults o_words o_clashes o_rocks o_count o_image o_isKept o_now o_pad o_reached o_queue o_got o_wins : Nat) (v_book : Nat → Int32) (v_moults : Nat → Int32) (v_words : Nat → Int32) (v_clashes : Nat → Int32) (v_rocks : Nat → Int32) (v_counts : Int32) (v_count : Nat → Int32) (v_image : Nat → Int32) (v_isKept : Nat → Int32) (v_signs : Int32) (v_readMany : Int32) (v_signedAll : Int32) (v_reason : Int32) (v_acts : Int32) (v_waitUp : Int64) (v_waitLow : Int64) (p1 : Int32) (R : Int32) (w_image : Nat → Int32) (w_isKept : Nat → Int32) (hF : f_Model_image v_book v_moults v_words v_clashes v_rocks v_counts v_count v_image v_isKept p1 = some (R, w_image, w_isKept)) (sz : Nat) : Met l yX12_image wsX12_image ({ frames := 1, cells := 0, slots := 0, locals := 22 } : Room) (qPc ([.ref o, .int p1]) (dC, dI) (qT cI cZ cQ) ([(o, .inr (12, [.ref o_book, .ref o_now, .ref o_moults, .ref o_words, .ref o_clashes, .ref o_rocks, .int v_counts, .ref o_count, .int v_signs, .ref o_pad, .int v_readMany, .int v_signedAll, .int v_reason, .int v_acts, .ref o_reached, .ref o_queue, .ref o_got, .long v_waitUp, .long v_waitLow, .ref o_wins, .ref o_image, .ref o_isKept])), (o_book, .inl (cI, 21, .inl v_book)), (o_moults, .inl (cI, 6, .inl v_moults)), (o_words, .inl (cI, 10, .inl v_words)), (o_clashes, .inl (cI, 10, .inl v_clashes)), (o_rocks, .inl (cI, 6, .inl v_rocks)), (o_count, .inl (cI, 16, .inl v_count)), (o_image, .inl (cI, 160, .inl v_image)), (o_isKept, .inl (cZ, 2, .inl v_isKept))]) sz) (qWi R (dC, dI) ([(o, .inr (12, [.ref o_book, .ref o_now, .ref o_moults, .ref o_words, .ref o_clashes, .ref o_rocks, .int v_counts, .ref o_count, .int v_signs, .ref o_pad, .int v_readMany, .int v_signedAll, .int v_reason, .int v_acts, .ref o_reached, .ref o_queue, .ref o_got, .long v_waitUp, .long v_waitLow, .ref o_wins, .ref o_image, .ref o_isKept])), (o_book, .inl (cI, 21, .inl v_book)), (o_moults, .inl (cI, 6, .inl v_moults)), (o_words, .inl (cI, 10, .inl v_words)), (o_clashes, .inl (cI, 10, .inl v_clashes)), (o_rocks, .inl (cI, 6, .inl v_rocks)), (o_count, .inl (cI, 16, .inl v_count)), (o_image, .inl (cI, 160, .inl w_image)), (o_isKept, .inl (cZ, 2, .inl w_isKept))]) (va_A ([(o, .inr (12, [.ref o_book, .ref o_now, .ref o_moults, .ref o_words, .ref o_clashes, .ref o_rocks, .int v_counts, .ref o_count, .int v_signs, .ref o_pad, .int v_readMany, .int v_signedAll, .int v_reason, .int v_acts, .ref o_reached, .ref o_queue, .ref o_got, .long v_waitUp, .long v_waitLow, .ref o_wins, .ref o_image, .ref o_isKept])), (o_book, .inl (cI, 21, .inl v_book)), (o_moults, .inl (cI, 6, .inl v_moults)), (o_words, .inl (cI, 10, .inl v_words)), (o_clashes, .inl (cI, 10, .inl v_clashes)), (o_rocks, .inl (cI, 6, .inl v_rocks)), (o_count, .inl (cI, 16, .inl v_count)), (o_image, .inl (cI, 160, .inl v_image)), (o_isKept, .inl (cZ, 2, .inl v_isKept))]) sz)) 0 0 (va_A ([(o, .inr (12, [.ref o_book, .ref o_now, .ref o_moults, .ref o_words, .ref o_clashes, .ref o_rocks, .int v_counts, .ref o_count, .int v_signs, .ref o_pad, .int v_readMany, .int v_signedAll, .int v_reason, .int v_acts, .ref o_reached, .ref o_queue, .ref o_got, .long v_waitUp, .long v_waitLow, .ref o_wins, .ref o_image, .ref o_isKept])), (o_book, .inl (cI, 21, .inl v_book)), (o_moults, .inl (cI, 6, .inl v_moults)), (o_words, .inl (cI, 10, .inl v_words)), (o_clashes, .inl (cI, 10, .inl v_clashes)), (o_rocks, .inl (cI, 6, .inl v_rocks)), (o_count, .inl (cI, 16, .inl v_count)), (o_image, .inl (cI, 160, .inl v_image)), (o_isKept, .inl (cZ, 2, .inl v_isKept))]) sz) := by
  refine q_met_w (Qc := fun A => qWi R (dC, dI) ([(o, .inr (12, [.ref o_book, .ref o_now, .ref o_moults, .ref o_words, .ref o_clashes, .ref o_rocks, .int v_counts, .ref o_count, .int v_signs, .ref o_pad, .int v_readMany, .int v_signedAll, .int v_reason, .int v_acts, .ref o_reached, .ref o_queue, .ref o_got, .long v_waitUp, .long v_waitLow, .ref o_wins, .ref o_image, .ref o_isKept])), (o_book, .inl (cI, 21, .inl v_book)), (o_moults, .inl (cI, 6, .inl v_moults)), (o_words, .inl (cI, 10, .inl v_words)), (o_clashes, .inl (cI, 10, .inl v_clashes)), (o_rocks, .inl (cI, 6, .inl v_rocks)), (o_count, .inl (cI, 16, .inl v_count)), (o_image, .inl (cI, 160, .inl w_image)), (o_isKept, .inl (cZ, 2, .inl w_isKept))]) A) (cc := cX12_image) (own := RX12) (maxL := 4) (ret := (some .int)) (lv0 := [(0, .ref o), (1, .int p1)]) (by decide) rfl rfl rfl (Nat.le_of_ble_eq_true rfl) ?_
  intro p e s m args below meth c A hA C hr hnm Q hQ
  have lk0 : Cond.fieldLink RX12 46 "SealStraitModel" "image" "[I" ∈ wsX12_image := by decide +kernel
  have lk1 : ∀ w ∈ u_ws RX12 TX12 22, w ∈ wsX12_image := fun w h => List.mem_cons_of_mem _ (List.mem_append_right _ h)
  have lk2 : Cond.fieldLink RX12 7 "SealStraitModel" "book" "[I" ∈ wsX12_image := by decide +kernel
  have lk3 : Cond.fieldLink RX12 16 "SealStraitModel" "moults" "[I" ∈ wsX12_image := by decide +kernel
  have lk4 : Cond.fieldLink RX12 25 "SealStraitModel" "rocks" "[I" ∈ wsX12_image := by decide +kernel
  have lk5 : Cond.fieldLink RX12 19 "SealStraitModel" "words" "[I" ∈ wsX12_image := by decide +kernel
  have lk6 : Cond.fieldLink RX12 22 "SealStraitModel" "clashes" "[I" ∈ wsX12_image := by decide +kernel
  have lk7 : Cond.fieldLink RX12 28 "SealStraitModel" "count" "[I" ∈ wsX12_image := by decide +kernel
  have lk8 : Cond.fieldLink RX12 156 "SealStraitModel" "counts" "I" ∈ wsX12_image := by decide +kernel
  have lk9 : Cond.fieldLink RX12 49 "SealStraitModel" "isKept" "[Z" ∈ wsX12_image := by decide +kernel
  have L1 : ∀ (n : Nat) (x1 : Int32) (x2 : Int32) (x3 : Int32) (v_image : Nat → Int32) (v_isKept : Nat → Int32) (z_image : Nat → Int32), evr (fun s => b_Model_image_1 x2 v_book s.1 s.2) n (x3, v_image) = some z_image → qG p l e ({ frames := 1, cells := 0, slots := 0, locals := 22 } : Room) s m args below meth c 4 (dC, dI) A A Q 0 0 ([(0, .ref o), (1, .int x1), (2, .int x2)]) [] ([(o, .inr (12, [.ref o_book, .ref o_now, .ref o_moults, .ref o_words, .ref o_clashes, .ref o_rocks, .int v_counts, .ref o_count, .int v_signs, .ref o_pad, .int v_readMany, .int v_signedAll, .int v_reason, .int v_acts, .ref o_reached, .ref o_queue, .ref o_got, .long v_waitUp, .long v_waitLow, .ref o_wins, .ref o_image, .ref o_isKept])), (o_book, .inl (cI, 21, .inl v_book)), (o_moults, .inl (cI, 6, .inl v_moults)), (o_words, .inl (cI, 10, .inl v_words)), (o_clashes, .inl (cI, 10, .inl v_clashes)), (o_rocks, .inl (cI, 6, .inl v_rocks)), (o_count, .inl (cI, 16, .inl v_count)), (o_image, .inl (cI, 160, .inl z_image)), (o_isKept, .inl (cZ, 2, .inl v_isKept))]) 45 → qG p l e ({ frames := 1, cells := 0, slots := 0, locals := 22 } : Room) s m args below meth c 4 (dC, dI) A A Q 0 0 ([(0, .ref o), (1, .int x1), (2, .int x2), (3, .int x3)]) [] ([(o, .inr (12, [.ref o_book, .ref o_now, .ref o_moults, .ref o_words, .ref o_clashes, .ref o_rocks, .int v_counts, .ref o_count, .int v_signs, .ref o_pad, .int v_readMany, .int v_signedAll, .int v_reason, .int v_acts, .ref o_reached, .ref o_queue, .ref o_got, .long v_waitUp, .long v_waitLow, .ref o_wins, .ref o_image, .ref o_isKept])), (o_book, .inl (cI, 21, .inl v_book)), (o_moults, .inl (cI, 6, .inl v_moults)), (o_words, .inl (cI, 10, .inl v_words)), (o_clashes, .inl (cI, 10, .inl v_clashes)), (o_rocks, .inl (cI, 6, .inl v_rocks)), (o_count, .inl (cI, 16, .inl v_count)), (o_image, .inl (cI, 160, .inl v_image)), (o_isKept, .inl (cZ, 2, .inl v_isKept))]) 19 := by
    clear hF
    intro n
    induction n with
    | zero => intro x1 x2 x3 v_image v_isKept z_image hF; exact (evr_0 hF).elim
    | succ n ih =>
      intro x1 x2 x3 v_image v_isKept z_image hF hk
      obtain ⟨o9, hB, hn, hx⟩ := evr_c hF
      have hF : b_Model_image_1 x2 v_book x3 v_image = some o9 := hB
      unfold b_Model_image_1 at hF
      refine q_iload_n C dX12_image_19 3 rfl rfl ?_
      refine q_bipush (v := (21 : Int32)) C dX12_image_20 (by decide) ?_
      refine q_icmp_ge (tgt := 45) C dX12_image_22 (by decide) (fun c1 => ?_) (fun c1 => ?_)
      · have hF := ite_t hF c1
        cases hF
        have e2 := hx _ rfl
        cases e2
        refine q_lsel [0, 1, 2] rfl ?_
        exact hk
      · have hF := ite_f hF c1
        refine q_aload_n C dX12_image_25 0 rfl rfl ?_
        refine q_get (C0 := RX12) (T := TX12) (N := 22) (k0 := 20) C lk1 0 rfl rfl (by decide) lk0 rfl (v := .ref o_image) rfl dX12_image_26 ?_
        refine q_iload_n C dX12_image_29 2 rfl rfl ?_
        refine q_iload_n C dX12_image_30 3 rfl rfl ?_
        refine q_iadd C dX12_image_31 ?_
        refine q_aload_n C dX12_image_32 0 rfl rfl ?_
        refine q_get (C0 := RX12) (T := TX12) (N := 22) (k0 := 0) C lk1 0 rfl rfl (by decide) lk2 rfl (v := .ref o_book) rfl dX12_image_33 ?_
        refine q_iload_n C dX12_image_36 3 rfl rfl ?_
        obtain ⟨hc3, hF⟩ := ite_c hF
        refine q_iald C 1 0 rfl rfl (ix_in hc3) dX12_image_37 ?_
        obtain ⟨hc4, hF⟩ := ite_c hF
        refine q_iast C 7 0 rfl rfl (ix_in hc4) ([(o, .inr (12, [.ref o_book, .ref o_now, .ref o_moults, .ref o_words, .ref o_clashes, .ref o_rocks, .int v_counts, .ref o_count, .int v_signs, .ref o_pad, .int v_readMany, .int v_signedAll, .int v_reason, .int v_acts, .ref o_reached, .ref o_queue, .ref o_got, .long v_waitUp, .long v_waitLow, .ref o_wins, .ref o_image, .ref o_isKept])), (o_book, .inl (cI, 21, .inl v_book)), (o_moults, .inl (cI, 6, .inl v_moults)), (o_words, .inl (cI, 10, .inl v_words)), (o_clashes, .inl (cI, 10, .inl v_clashes)), (o_rocks, .inl (cI, 6, .inl v_rocks)), (o_count, .inl (cI, 16, .inl v_count)), (o_image, .inl (cI, 160, .inl (upd v_image ((x2 + x3)).toNatClampNeg (v_book (x3).toNatClampNeg)))), (o_isKept, .inl (cZ, 2, .inl v_isKept))]) rfl dX12_image_38 ?_
        refine q_iinc (v := (x3 + 1)) C ([(3, .int (x3 + 1)), (0, .ref o), (1, .int x1), (2, .int x2)]) dX12_image_39 3 rfl rfl (by decide) rfl ?_
        refine q_goto (tgt := 19) C dX12_image_42 (by decide) ?_
        cases hF
        refine q_lsel [1, 2, 3, 0] rfl ?_
        exact ih x1 x2 (x3 + 1) (upd v_image ((x2 + x3)).toNatClampNeg (v_book (x3).toNatClampNeg)) v_isKept z_image (hn _ rfl) hk
  have L4 : ∀ (n : Nat) (x1 : Int32) (x2 : Int32) (x3 : Int32) (v_image : Nat → Int32) (v_isKept : Nat → Int32) (z_image : Nat → Int32), evr (fun s => b_Model_image_4 x2 v_count s.1 s.2) n (x3, v_image) = some z_image → qG p l e ({ frames := 1, cells := 0, slots := 0, locals := 22 } : Room) s m args below meth c 4 (dC, dI) A A Q 0 0 ([(0, .ref o), (1, .int x1), (2, .int x2)]) [] ([(o, .inr (12, [.ref o_book, .ref o_now, .ref o_moults, .ref o_words, .ref o_clashes, .ref o_rocks, .int v_counts, .ref o_count, .int v_signs, .ref o_pad, .int v_readMany, .int v_signedAll, .int v_reason, .int v_acts, .ref o_reached, .ref o_queue, .ref o_got, .long v_waitUp, .long v_waitLow, .ref o_wins, .ref o_image, .ref o_isKept])), (o_book, .inl (cI, 21, .inl v_book)), (o_moults, .inl (cI, 6, .inl v_moults)), (o_words, .inl (cI, 10, .inl v_words)), (o_clashes, .inl (cI, 10, .inl v_clashes)), (o_rocks, .inl (cI, 6, .inl v_rocks)), (o_count, .inl (cI, 16, .inl v_count)), (o_image, .inl (cI, 160, .inl z_image)), (o_isKept, .inl (cZ, 2, .inl v_isKept))]) 172 → qG p l e ({ frames := 1, cells := 0, slots := 0, locals := 22 } : Room) s m args below meth c 4 (dC, dI) A A Q 0 0 ([(0, .ref o), (1, .int x1), (2, .int x2), (3, .int x3)]) [] ([(o, .inr (12, [.ref o_book, .ref o_now, .ref o_moults, .ref o_words, .ref o_clashes, .ref o_rocks, .int v_counts, .ref o_count, .int v_signs, .ref o_pad, .int v_readMany, .int v_signedAll, .int v_reason, .int v_acts, .ref o_reached, .ref o_queue, .ref o_got, .long v_waitUp, .long v_waitLow, .ref o_wins, .ref o_image, .ref o_isKept])), (o_book, .inl (cI, 21, .inl v_book)), (o_moults, .inl (cI, 6, .inl v_moults)), (o_words, .inl (cI, 10, .inl v_words)), (o_clashes, .inl (cI, 10, .inl v_clashes)), (o_rocks, .inl (cI, 6, .inl v_rocks)), (o_count, .inl (cI, 16, .inl v_count)), (o_image, .inl (cI, 160, .inl v_image)), (o_isKept, .inl (cZ, 2, .inl v_isKept))]) 143 := by
    clear hF
    intro n
    induction n with
    | zero => intro x1 x2 x3 v_image v_isKept z_image hF; exact (evr_0 hF).elim
    | succ n ih =>
      intro x1 x2 x3 v_image v_isKept z_image hF hk
      obtain ⟨o9, hB, hn, hx⟩ := evr_c hF
      have hF : b_Model_image_4 x2 v_count x3 v_image = some o9 := hB
      unfold b_Model_image_4 at hF
      refine q_iload_n C dX12_image_143 3 rfl rfl ?_
      refine q_bipush (v := (16 : Int32)) C dX12_image_144 (by decide) ?_
      refine q_icmp_ge (tgt := 172) C dX12_image_146 (by decide) (fun c5 => ?_) (fun c5 => ?_)
      · have hF := ite_t hF c5
        cases hF
        have e6 := hx _ rfl
        cases e6
        refine q_lsel [0, 1, 2] rfl ?_
        exact hk
      · have hF := ite_f hF c5
        refine q_aload_n C dX12_image_149 0 rfl rfl ?_
        refine q_get (C0 := RX12) (T := TX12) (N := 22) (k0 := 20) C lk1 0 rfl rfl (by decide) lk0 rfl (v := .ref o_image) rfl dX12_image_150 ?_
        refine q_iload_n C dX12_image_153 2 rfl rfl ?_
        refine q_bipush (v := (53 : Int32)) C dX12_image_154 (by decide) ?_
        refine q_iadd C dX12_image_156 ?_
        refine q_iload_n C dX12_image_157 3 rfl rfl ?_
        refine q_iadd C dX12_image_158 ?_
        refine q_aload_n C dX12_image_159 0 rfl rfl ?_
        refine q_get (C0 := RX12) (T := TX12) (N := 22) (k0 := 7) C lk1 0 rfl rfl (by decide) lk7 rfl (v := .ref o_count) rfl dX12_image_160 ?_
        refine q_iload_n C dX12_image_163 3 rfl rfl ?_
        obtain ⟨hc7, hF⟩ := ite_c hF
        refine q_iald C 6 0 rfl rfl (ix_in hc7) dX12_image_164 ?_
        obtain ⟨hc8, hF⟩ := ite_c hF
        refine q_iast C 7 0 rfl rfl (ix_in hc8) ([(o, .inr (12, [.ref o_book, .ref o_now, .ref o_moults, .ref o_words, .ref o_clashes, .ref o_rocks, .int v_counts, .ref o_count, .int v_signs, .ref o_pad, .int v_readMany, .int v_signedAll, .int v_reason, .int v_acts, .ref o_reached, .ref o_queue, .ref o_got, .long v_waitUp, .long v_waitLow, .ref o_wins, .ref o_image, .ref o_isKept])), (o_book, .inl (cI, 21, .inl v_book)), (o_moults, .inl (cI, 6, .inl v_moults)), (o_words, .inl (cI, 10, .inl v_words)), (o_clashes, .inl (cI, 10, .inl v_clashes)), (o_rocks, .inl (cI, 6, .inl v_rocks)), (o_count, .inl (cI, 16, .inl v_count)), (o_image, .inl (cI, 160, .inl (upd v_image (((x2 + (53 : Int32)) + x3)).toNatClampNeg (v_count (x3).toNatClampNeg)))), (o_isKept, .inl (cZ, 2, .inl v_isKept))]) rfl dX12_image_165 ?_
        refine q_iinc (v := (x3 + 1)) C ([(3, .int (x3 + 1)), (0, .ref o), (1, .int x1), (2, .int x2)]) dX12_image_166 3 rfl rfl (by decide) rfl ?_
        refine q_goto (tgt := 143) C dX12_image_169 (by decide) ?_
        cases hF
        refine q_lsel [1, 2, 3, 0] rfl ?_
        exact ih x1 x2 (x3 + 1) (upd v_image (((x2 + (53 : Int32)) + x3)).toNatClampNeg (v_count (x3).toNatClampNeg)) v_isKept z_image (hn _ rfl) hk
  have L2 : ∀ (n : Nat) (x1 : Int32) (x2 : Int32) (x3 : Int32) (v_image : Nat → Int32) (v_isKept : Nat → Int32) (z_image : Nat → Int32), evr (fun s => b_Model_image_2 x2 v_moults v_rocks s.1 s.2) n (x3, v_image) = some z_image → qG p l e ({ frames := 1, cells := 0, slots := 0, locals := 22 } : Room) s m args below meth c 4 (dC, dI) A A Q 0 0 ([(0, .ref o), (1, .int x1), (2, .int x2)]) [] ([(o, .inr (12, [.ref o_book, .ref o_now, .ref o_moults, .ref o_words, .ref o_clashes, .ref o_rocks, .int v_counts, .ref o_count, .int v_signs, .ref o_pad, .int v_readMany, .int v_signedAll, .int v_reason, .int v_acts, .ref o_reached, .ref o_queue, .ref o_got, .long v_waitUp, .long v_waitLow, .ref o_wins, .ref o_image, .ref o_isKept])), (o_book, .inl (cI, 21, .inl v_book)), (o_moults, .inl (cI, 6, .inl v_moults)), (o_words, .inl (cI, 10, .inl v_words)), (o_clashes, .inl (cI, 10, .inl v_clashes)), (o_rocks, .inl (cI, 6, .inl v_rocks)), (o_count, .inl (cI, 16, .inl v_count)), (o_image, .inl (cI, 160, .inl z_image)), (o_isKept, .inl (cZ, 2, .inl v_isKept))]) 93 → qG p l e ({ frames := 1, cells := 0, slots := 0, locals := 22 } : Room) s m args below meth c 4 (dC, dI) A A Q 0 0 ([(0, .ref o), (1, .int x1), (2, .int x2), (3, .int x3)]) [] ([(o, .inr (12, [.ref o_book, .ref o_now, .ref o_moults, .ref o_words, .ref o_clashes, .ref o_rocks, .int v_counts, .ref o_count, .int v_signs, .ref o_pad, .int v_readMany, .int v_signedAll, .int v_reason, .int v_acts, .ref o_reached, .ref o_queue, .ref o_got, .long v_waitUp, .long v_waitLow, .ref o_wins, .ref o_image, .ref o_isKept])), (o_book, .inl (cI, 21, .inl v_book)), (o_moults, .inl (cI, 6, .inl v_moults)), (o_words, .inl (cI, 10, .inl v_words)), (o_clashes, .inl (cI, 10, .inl v_clashes)), (o_rocks, .inl (cI, 6, .inl v_rocks)), (o_count, .inl (cI, 16, .inl v_count)), (o_image, .inl (cI, 160, .inl v_image)), (o_isKept, .inl (cZ, 2, .inl v_isKept))]) 47 := by
    clear hF
    intro n
    induction n with
    | zero => intro x1 x2 x3 v_image v_isKept z_image hF; exact (evr_0 hF).elim
    | succ n ih =>
      intro x1 x2 x3 v_image v_isKept z_image hF hk
      obtain ⟨o9, hB, hn, hx⟩ := evr_c hF
      have hF : b_Model_image_2 x2 v_moults v_rocks x3 v_image = some o9 := hB
      unfold b_Model_image_2 at hF
      refine q_iload_n C dX12_image_47 3 rfl rfl ?_
      refine q_bipush (v := (6 : Int32)) C dX12_image_48 (by decide) ?_
      refine q_icmp_ge (tgt := 93) C dX12_image_50 (by decide) (fun c9 => ?_) (fun c9 => ?_)
      · have hF := ite_t hF c9
        cases hF
        have e10 := hx _ rfl
        cases e10
        refine q_lsel [0, 1, 2] rfl ?_
        exact hk
      · have hF := ite_f hF c9
        refine q_aload_n C dX12_image_53 0 rfl rfl ?_
        refine q_get (C0 := RX12) (T := TX12) (N := 22) (k0 := 20) C lk1 0 rfl rfl (by decide) lk0 rfl (v := .ref o_image) rfl dX12_image_54 ?_
        refine q_iload_n C dX12_image_57 2 rfl rfl ?_
        refine q_bipush (v := (21 : Int32)) C dX12_image_58 (by decide) ?_
        refine q_iadd C dX12_image_60 ?_
        refine q_iload_n C dX12_image_61 3 rfl rfl ?_
        refine q_iadd C dX12_image_62 ?_
        refine q_aload_n C dX12_image_63 0 rfl rfl ?_
        refine q_get (C0 := RX12) (T := TX12) (N := 22) (k0 := 2) C lk1 0 rfl rfl (by decide) lk3 rfl (v := .ref o_moults) rfl dX12_image_64 ?_
        refine q_iload_n C dX12_image_67 3 rfl rfl ?_
        obtain ⟨hc11, hF⟩ := ite_c hF
        refine q_iald C 2 0 rfl rfl (ix_in hc11) dX12_image_68 ?_
        obtain ⟨hc12, hF⟩ := ite_c hF
        refine q_iast C 7 0 rfl rfl (ix_in hc12) ([(o, .inr (12, [.ref o_book, .ref o_now, .ref o_moults, .ref o_words, .ref o_clashes, .ref o_rocks, .int v_counts, .ref o_count, .int v_signs, .ref o_pad, .int v_readMany, .int v_signedAll, .int v_reason, .int v_acts, .ref o_reached, .ref o_queue, .ref o_got, .long v_waitUp, .long v_waitLow, .ref o_wins, .ref o_image, .ref o_isKept])), (o_book, .inl (cI, 21, .inl v_book)), (o_moults, .inl (cI, 6, .inl v_moults)), (o_words, .inl (cI, 10, .inl v_words)), (o_clashes, .inl (cI, 10, .inl v_clashes)), (o_rocks, .inl (cI, 6, .inl v_rocks)), (o_count, .inl (cI, 16, .inl v_count)), (o_image, .inl (cI, 160, .inl (upd v_image (((x2 + (21 : Int32)) + x3)).toNatClampNeg (v_moults (x3).toNatClampNeg)))), (o_isKept, .inl (cZ, 2, .inl v_isKept))]) rfl dX12_image_69 ?_
        refine q_aload_n C dX12_image_70 0 rfl rfl ?_
        refine q_get (C0 := RX12) (T := TX12) (N := 22) (k0 := 20) C lk1 0 rfl rfl (by decide) lk0 rfl (v := .ref o_image) rfl dX12_image_71 ?_
        refine q_iload_n C dX12_image_74 2 rfl rfl ?_
        refine q_bipush (v := (27 : Int32)) C dX12_image_75 (by decide) ?_
        refine q_iadd C dX12_image_77 ?_
        refine q_iload_n C dX12_image_78 3 rfl rfl ?_
        refine q_iadd C dX12_image_79 ?_
        refine q_aload_n C dX12_image_80 0 rfl rfl ?_
        refine q_get (C0 := RX12) (T := TX12) (N := 22) (k0 := 5) C lk1 0 rfl rfl (by decide) lk4 rfl (v := .ref o_rocks) rfl dX12_image_81 ?_
        refine q_iload_n C dX12_image_84 3 rfl rfl ?_
        obtain ⟨hc13, hF⟩ := ite_c hF
        refine q_iald C 5 0 rfl rfl (ix_in hc13) dX12_image_85 ?_
        obtain ⟨hc14, hF⟩ := ite_c hF
        refine q_iast C 7 0 rfl rfl (ix_in hc14) ([(o, .inr (12, [.ref o_book, .ref o_now, .ref o_moults, .ref o_words, .ref o_clashes, .ref o_rocks, .int v_counts, .ref o_count, .int v_signs, .ref o_pad, .int v_readMany, .int v_signedAll, .int v_reason, .int v_acts, .ref o_reached, .ref o_queue, .ref o_got, .long v_waitUp, .long v_waitLow, .ref o_wins, .ref o_image, .ref o_isKept])), (o_book, .inl (cI, 21, .inl v_book)), (o_moults, .inl (cI, 6, .inl v_moults)), (o_words, .inl (cI, 10, .inl v_words)), (o_clashes, .inl (cI, 10, .inl v_clashes)), (o_rocks, .inl (cI, 6, .inl v_rocks)), (o_count, .inl (cI, 16, .inl v_count)), (o_image, .inl (cI, 160, .inl (upd (upd v_image (((x2 + (21 : Int32)) + x3)).toNatClampNeg (v_moults (x3).toNatClampNeg)) (((x2 + (27 : Int32)) + x3)).toNatClampNeg (v_rocks (x3).toNatClampNeg)))), (o_isKept, .inl (cZ, 2, .inl v_isKept))]) rfl dX12_image_86 ?_
        refine q_iinc (v := (x3 + 1)) C ([(3, .int (x3 + 1)), (0, .ref o), (1, .int x1), (2, .int x2)]) dX12_image_87 3 rfl rfl (by decide) rfl ?_
        refine q_goto (tgt := 47) C dX12_image_90 (by decide) ?_
        cases hF
        refine q_lsel [1, 2, 3, 0] rfl ?_
        exact ih x1 x2 (x3 + 1) (upd (upd v_image (((x2 + (21 : Int32)) + x3)).toNatClampNeg (v_moults (x3).toNatClampNeg)) (((x2 + (27 : Int32)) + x3)).toNatClampNeg (v_rocks (x3).toNatClampNeg)) v_isKept z_image (hn _ rfl) hk
  have L3 : ∀ (n : Nat) (x1 : Int32) (x2 : Int32) (x3 : Int32) (v_image : Nat → Int32) (v_isKept : Nat → Int32) (z_image : Nat → Int32), evr (fun s => b_Model_image_3 x2 v_words v_clashes s.1 s.2) n (x3, v_image) = some z_image → qG p l e ({ frames := 1, cells := 0, slots := 0, locals := 22 } : Room) s m args below meth c 4 (dC, dI) A A Q 0 0 ([(0, .ref o), (1, .int x1), (2, .int x2)]) [] ([(o, .inr (12, [.ref o_book, .ref o_now, .ref o_moults, .ref o_words, .ref o_clashes, .ref o_rocks, .int v_counts, .ref o_count, .int v_signs, .ref o_pad, .int v_readMany, .int v_signedAll, .int v_reason, .int v_acts, .ref o_reached, .ref o_queue, .ref o_got, .long v_waitUp, .long v_waitLow, .ref o_wins, .ref o_image, .ref o_isKept])), (o_book, .inl (cI, 21, .inl v_book)), (o_moults, .inl (cI, 6, .inl v_moults)), (o_words, .inl (cI, 10, .inl v_words)), (o_clashes, .inl (cI, 10, .inl v_clashes)), (o_rocks, .inl (cI, 6, .inl v_rocks)), (o_count, .inl (cI, 16, .inl v_count)), (o_image, .inl (cI, 160, .inl z_image)), (o_isKept, .inl (cZ, 2, .inl v_isKept))]) 141 → qG p l e ({ frames := 1, cells := 0, slots := 0, locals := 22 } : Room) s m args below meth c 4 (dC, dI) A A Q 0 0 ([(0, .ref o), (1, .int x1), (2, .int x2), (3, .int x3)]) [] ([(o, .inr (12, [.ref o_book, .ref o_now, .ref o_moults, .ref o_words, .ref o_clashes, .ref o_rocks, .int v_counts, .ref o_count, .int v_signs, .ref o_pad, .int v_readMany, .int v_signedAll, .int v_reason, .int v_acts, .ref o_reached, .ref o_queue, .ref o_got, .long v_waitUp, .long v_waitLow, .ref o_wins, .ref o_image, .ref o_isKept])), (o_book, .inl (cI, 21, .inl v_book)), (o_moults, .inl (cI, 6, .inl v_moults)), (o_words, .inl (cI, 10, .inl v_words)), (o_clashes, .inl (cI, 10, .inl v_clashes)), (o_rocks, .inl (cI, 6, .inl v_rocks)), (o_count, .inl (cI, 16, .inl v_count)), (o_image, .inl (cI, 160, .inl v_image)), (o_isKept, .inl (cZ, 2, .inl v_isKept))]) 95 := by
    clear hF
    intro n
    induction n with
    | zero => intro x1 x2 x3 v_image v_isKept z_image hF; exact (evr_0 hF).elim
    | succ n ih =>
      intro x1 x2 x3 v_image v_isKept z_image hF hk
      obtain ⟨o9, hB, hn, hx⟩ := evr_c hF
      have hF : b_Model_image_3 x2 v_words v_clashes x3 v_image = some o9 := hB
      unfold b_Model_image_3 at hF
      refine q_iload_n C dX12_image_95 3 rfl rfl ?_
      refine q_bipush (v := (10 : Int32)) C dX12_image_96 (by decide) ?_
      refine q_icmp_ge (tgt := 141) C dX12_image_98 (by decide) (fun c15 => ?_) (fun c15 => ?_)
      · have hF := ite_t hF c15
        cases hF
        have e16 := hx _ rfl
        cases e16
        refine q_lsel [0, 1, 2] rfl ?_
        exact hk
      · have hF := ite_f hF c15
        refine q_aload_n C dX12_image_101 0 rfl rfl ?_
        refine q_get (C0 := RX12) (T := TX12) (N := 22) (k0 := 20) C lk1 0 rfl rfl (by decide) lk0 rfl (v := .ref o_image) rfl dX12_image_102 ?_
        refine q_iload_n C dX12_image_105 2 rfl rfl ?_
        refine q_bipush (v := (33 : Int32)) C dX12_image_106 (by decide) ?_
        refine q_iadd C dX12_image_108 ?_
        refine q_iload_n C dX12_image_109 3 rfl rfl ?_
        refine q_iadd C dX12_image_110 ?_
        refine q_aload_n C dX12_image_111 0 rfl rfl ?_
        refine q_get (C0 := RX12) (T := TX12) (N := 22) (k0 := 3) C lk1 0 rfl rfl (by decide) lk5 rfl (v := .ref o_words) rfl dX12_image_112 ?_
        refine q_iload_n C dX12_image_115 3 rfl rfl ?_
        obtain ⟨hc17, hF⟩ := ite_c hF
        refine q_iald C 3 0 rfl rfl (ix_in hc17) dX12_image_116 ?_
        obtain ⟨hc18, hF⟩ := ite_c hF
        refine q_iast C 7 0 rfl rfl (ix_in hc18) ([(o, .inr (12, [.ref o_book, .ref o_now, .ref o_moults, .ref o_words, .ref o_clashes, .ref o_rocks, .int v_counts, .ref o_count, .int v_signs, .ref o_pad, .int v_readMany, .int v_signedAll, .int v_reason, .int v_acts, .ref o_reached, .ref o_queue, .ref o_got, .long v_waitUp, .long v_waitLow, .ref o_wins, .ref o_image, .ref o_isKept])), (o_book, .inl (cI, 21, .inl v_book)), (o_moults, .inl (cI, 6, .inl v_moults)), (o_words, .inl (cI, 10, .inl v_words)), (o_clashes, .inl (cI, 10, .inl v_clashes)), (o_rocks, .inl (cI, 6, .inl v_rocks)), (o_count, .inl (cI, 16, .inl v_count)), (o_image, .inl (cI, 160, .inl (upd v_image (((x2 + (33 : Int32)) + x3)).toNatClampNeg (v_words (x3).toNatClampNeg)))), (o_isKept, .inl (cZ, 2, .inl v_isKept))]) rfl dX12_image_117 ?_
        refine q_aload_n C dX12_image_118 0 rfl rfl ?_
        refine q_get (C0 := RX12) (T := TX12) (N := 22) (k0 := 20) C lk1 0 rfl rfl (by decide) lk0 rfl (v := .ref o_image) rfl dX12_image_119 ?_
        refine q_iload_n C dX12_image_122 2 rfl rfl ?_
        refine q_bipush (v := (43 : Int32)) C dX12_image_123 (by decide) ?_
        refine q_iadd C dX12_image_125 ?_
        refine q_iload_n C dX12_image_126 3 rfl rfl ?_
        refine q_iadd C dX12_image_127 ?_
        refine q_aload_n C dX12_image_128 0 rfl rfl ?_
        refine q_get (C0 := RX12) (T := TX12) (N := 22) (k0 := 4) C lk1 0 rfl rfl (by decide) lk6 rfl (v := .ref o_clashes) rfl dX12_image_129 ?_
        refine q_iload_n C dX12_image_132 3 rfl rfl ?_
        obtain ⟨hc19, hF⟩ := ite_c hF
        refine q_iald C 4 0 rfl rfl (ix_in hc19) dX12_image_133 ?_
        obtain ⟨hc20, hF⟩ := ite_c hF
        refine q_iast C 7 0 rfl rfl (ix_in hc20) ([(o, .inr (12, [.ref o_book, .ref o_now, .ref o_moults, .ref o_words, .ref o_clashes, .ref o_rocks, .int v_counts, .ref o_count, .int v_signs, .ref o_pad, .int v_readMany, .int v_signedAll, .int v_reason, .int v_acts, .ref o_reached, .ref o_queue, .ref o_got, .long v_waitUp, .long v_waitLow, .ref o_wins, .ref o_image, .ref o_isKept])), (o_book, .inl (cI, 21, .inl v_book)), (o_moults, .inl (cI, 6, .inl v_moults)), (o_words, .inl (cI, 10, .inl v_words)), (o_clashes, .inl (cI, 10, .inl v_clashes)), (o_rocks, .inl (cI, 6, .inl v_rocks)), (o_count, .inl (cI, 16, .inl v_count)), (o_image, .inl (cI, 160, .inl (upd (upd v_image (((x2 + (33 : Int32)) + x3)).toNatClampNeg (v_words (x3).toNatClampNeg)) (((x2 + (43 : Int32)) + x3)).toNatClampNeg (v_clashes (x3).toNatClampNeg)))), (o_isKept, .inl (cZ, 2, .inl v_isKept))]) rfl dX12_image_134 ?_
        refine q_iinc (v := (x3 + 1)) C ([(3, .int (x3 + 1)), (0, .ref o), (1, .int x1), (2, .int x2)]) dX12_image_135 3 rfl rfl (by decide) rfl ?_
        refine q_goto (tgt := 95) C dX12_image_138 (by decide) ?_
        cases hF
        refine q_lsel [1, 2, 3, 0] rfl ?_
        exact ih x1 x2 (x3 + 1) (upd (upd v_image (((x2 + (33 : Int32)) + x3)).toNatClampNeg (v_words (x3).toNatClampNeg)) (((x2 + (43 : Int32)) + x3)).toNatClampNeg (v_clashes (x3).toNatClampNeg)) v_isKept z_image (hn _ rfl) hk
  unfold f_Model_image at hF
  refine q_iload_n C dX12_image_0 1 rfl rfl ?_
  refine q_iconst (v := (0 : Int32)) C dX12_image_1 (by decide) ?_
  refine q_iconst (v := (1 : Int32)) C dX12_image_2 (by decide) ?_
  refine q_roz (q_runS (As := [.int p1, .int (0 : Int32), .int (1 : Int32)]) (rest := []) C (fun sz => c_X12_in l dC dI cI cZ cQ p1 (0 : Int32) (1 : Int32) (f_Model_in p1 (0 : Int32) (1 : Int32)) rfl sz) (va_cwS 3 C.2.2.2.2.1 gX12_image_X12_in rfl rfl rfl (by decide +kernel) ⟨Nat.le_of_ble_eq_true rfl, Nat.le_of_ble_eq_true rfl⟩) [] rfl rfl rfl rfl (Nat.le_of_ble_eq_true rfl) dX12_image_3 ⟨Nat.zero_le _, Nat.zero_le _⟩) (fun hz21 => ?_)
  refine q_if_ne (tgt := 12) C dX12_image_6 (by decide) (fun c22 => ?_) (fun c22 => ?_)
  · have hF := ite_f hF c22
    refine q_bipush (v := (80 : Int32)) C dX12_image_12 (by decide) ?_
    refine q_iload_n C dX12_image_14 1 rfl rfl ?_
    refine q_imul C dX12_image_15 ?_
    refine q_istore_n C ([(2, .int ((80 : Int32) * p1)), (0, .ref o), (1, .int p1)]) dX12_image_16 rfl (by decide) rfl ?_
    refine q_iconst (v := (0 : Int32)) C dX12_image_17 (by decide) ?_
    refine q_istore_n C ([(3, .int (0 : Int32)), (2, .int ((80 : Int32) * p1)), (0, .ref o), (1, .int p1)]) dX12_image_18 rfl (by decide) rfl ?_
    obtain ⟨z23_image, hc24, hF⟩ := bind_c hF
    obtain ⟨n25, hc24⟩ := (ev_iff _ _ _).mp hc24
    refine q_lsel [2, 3, 1, 0] rfl ?_
    refine L1 n25 p1 ((80 : Int32) * p1) (0 : Int32) v_image v_isKept z23_image hc24 ?_
    refine q_iconst (v := (0 : Int32)) C dX12_image_45 (by decide) ?_
    refine q_istore_n C ([(3, .int (0 : Int32)), (0, .ref o), (1, .int p1), (2, .int ((80 : Int32) * p1))]) dX12_image_46 rfl (by decide) rfl ?_
    obtain ⟨z26_image, hc27, hF⟩ := bind_c hF
    obtain ⟨n28, hc27⟩ := (ev_iff _ _ _).mp hc27
    refine q_lsel [1, 2, 3, 0] rfl ?_
    refine L2 n28 p1 ((80 : Int32) * p1) (0 : Int32) z23_image v_isKept z26_image hc27 ?_
    refine q_iconst (v := (0 : Int32)) C dX12_image_93 (by decide) ?_
    refine q_istore_n C ([(3, .int (0 : Int32)), (0, .ref o), (1, .int p1), (2, .int ((80 : Int32) * p1))]) dX12_image_94 rfl (by decide) rfl ?_
    obtain ⟨z29_image, hc30, hF⟩ := bind_c hF
    obtain ⟨n31, hc30⟩ := (ev_iff _ _ _).mp hc30
    refine q_lsel [1, 2, 3, 0] rfl ?_
    refine L3 n31 p1 ((80 : Int32) * p1) (0 : Int32) z26_image v_isKept z29_image hc30 ?_
    refine q_iconst (v := (0 : Int32)) C dX12_image_141 (by decide) ?_
    refine q_istore_n C ([(3, .int (0 : Int32)), (0, .ref o), (1, .int p1), (2, .int ((80 : Int32) * p1))]) dX12_image_142 rfl (by decide) rfl ?_
    obtain ⟨z32_image, hc33, hF⟩ := bind_c hF
    obtain ⟨n34, hc33⟩ := (ev_iff _ _ _).mp hc33
    refine q_lsel [1, 2, 3, 0] rfl ?_
    refine L4 n34 p1 ((80 : Int32) * p1) (0 : Int32) z29_image v_isKept z32_image hc33 ?_
    refine q_aload_n C dX12_image_172 0 rfl rfl ?_
    refine q_get (C0 := RX12) (T := TX12) (N := 22) (k0 := 20) C lk1 0 rfl rfl (by decide) lk0 rfl (v := .ref o_image) rfl dX12_image_173 ?_
    refine q_iload_n C dX12_image_176 2 rfl rfl ?_
    refine q_bipush (v := (70 : Int32)) C dX12_image_177 (by decide) ?_
    refine q_iadd C dX12_image_179 ?_
    refine q_aload_n C dX12_image_180 0 rfl rfl ?_
    refine q_get (C0 := RX12) (T := TX12) (N := 22) (k0 := 6) C lk1 0 rfl rfl (by decide) lk8 rfl (v := .int v_counts) rfl dX12_image_181 ?_
    obtain ⟨hc35, hF⟩ := ite_c hF
    refine q_iast C 7 0 rfl rfl (ix_in hc35) ([(o, .inr (12, [.ref o_book, .ref o_now, .ref o_moults, .ref o_words, .ref o_clashes, .ref o_rocks, .int v_counts, .ref o_count, .int v_signs, .ref o_pad, .int v_readMany, .int v_signedAll, .int v_reason, .int v_acts, .ref o_reached, .ref o_queue, .ref o_got, .long v_waitUp, .long v_waitLow, .ref o_wins, .ref o_image, .ref o_isKept])), (o_book, .inl (cI, 21, .inl v_book)), (o_moults, .inl (cI, 6, .inl v_moults)), (o_words, .inl (cI, 10, .inl v_words)), (o_clashes, .inl (cI, 10, .inl v_clashes)), (o_rocks, .inl (cI, 6, .inl v_rocks)), (o_count, .inl (cI, 16, .inl v_count)), (o_image, .inl (cI, 160, .inl (upd z32_image ((((80 : Int32) * p1) + (70 : Int32))).toNatClampNeg v_counts))), (o_isKept, .inl (cZ, 2, .inl v_isKept))]) rfl dX12_image_184 ?_
    refine q_aload_n C dX12_image_185 0 rfl rfl ?_
    refine q_get (C0 := RX12) (T := TX12) (N := 22) (k0 := 21) C lk1 0 rfl rfl (by decide) lk9 rfl (v := .ref o_isKept) rfl dX12_image_186 ?_
    refine q_iload_n C dX12_image_189 1 rfl rfl ?_
    refine q_iconst (v := (1 : Int32)) C dX12_image_190 (by decide) ?_
    obtain ⟨hc36, hF⟩ := ite_c hF
    refine q_zast C 8 1 rfl rfl (ix_in hc36) ([(o, .inr (12, [.ref o_book, .ref o_now, .ref o_moults, .ref o_words, .ref o_clashes, .ref o_rocks, .int v_counts, .ref o_count, .int v_signs, .ref o_pad, .int v_readMany, .int v_signedAll, .int v_reason, .int v_acts, .ref o_reached, .ref o_queue, .ref o_got, .long v_waitUp, .long v_waitLow, .ref o_wins, .ref o_image, .ref o_isKept])), (o_book, .inl (cI, 21, .inl v_book)), (o_moults, .inl (cI, 6, .inl v_moults)), (o_words, .inl (cI, 10, .inl v_words)), (o_clashes, .inl (cI, 10, .inl v_clashes)), (o_rocks, .inl (cI, 6, .inl v_rocks)), (o_count, .inl (cI, 16, .inl v_count)), (o_image, .inl (cI, 160, .inl (upd z32_image ((((80 : Int32) * p1) + (70 : Int32))).toNatClampNeg v_counts))), (o_isKept, .inl (cZ, 2, .inl (upd v_isKept (p1).toNatClampNeg ((1 : Int32) &&& 1))))]) rfl dX12_image_191 ?_
    refine q_iconst (v := (1 : Int32)) C dX12_image_192 (by decide) ?_
    cases hF
    exact q_wreti C hr dX12_image_193 hQ
  · have hF := ite_t hF c22
    refine q_bipush (v := (-2 : Int32)) C dX12_image_9 (by decide) ?_
    cases hF
    exact q_wreti C hr dX12_image_11 hQ
set_option maxRecDepth 100000 in
set_option maxHeartbeats 4000000 in
theorem c_X12_restore (l : Launch) (dC : Nat → ClassId) (dI : Nat → Nat → Nat) (cI cZ cQ : ClassId) (o o_book o_moults o_words o_clashes o_rocks o_count o_image o_isKept o_now o_pad o_reached o_queue o_got o_wins : Nat) (v_book : Nat → Int32) (v_moults : Nat → Int32) (v_words : Nat → Int32) (v_clashes : Nat → Int32) (v_rocks : Nat → Int32) (v_counts : Int32) (v_count : Nat → Int32) (v_image : Nat → Int32) (v_isKept : Nat → Int32) (v_signs : Int32) (v_readMany : Int32) (v_signedAll : Int32) (v_reason : Int32) (v_acts : Int32) (v_waitUp : Int64) (v_waitLow : Int64) (p1 : Int32) (R : Int32) (w_book : Nat → Int32) (w_moults : Nat → Int32) (w_words : Nat → Int32) (w_clashes : Nat → Int32) (w_rocks : Nat → Int32) (w_counts : Int32) (w_count : Nat → Int32) (hF : f_Model_restore v_book v_moults v_words v_clashes v_rocks v_counts v_count v_image v_isKept p1 = some (R, w_book, w_moults, w_words, w_clashes, w_rocks, w_counts, w_count)) (sz : Nat) : Met l yX12_restore wsX12_restore ({ frames := 1, cells := 0, slots := 0, locals := 22 } : Room) (qPc ([.ref o, .int p1]) (dC, dI) (qT cI cZ cQ) ([(o, .inr (12, [.ref o_book, .ref o_now, .ref o_moults, .ref o_words, .ref o_clashes, .ref o_rocks, .int v_counts, .ref o_count, .int v_signs, .ref o_pad, .int v_readMany, .int v_signedAll, .int v_reason, .int v_acts, .ref o_reached, .ref o_queue, .ref o_got, .long v_waitUp, .long v_waitLow, .ref o_wins, .ref o_image, .ref o_isKept])), (o_book, .inl (cI, 21, .inl v_book)), (o_moults, .inl (cI, 6, .inl v_moults)), (o_words, .inl (cI, 10, .inl v_words)), (o_clashes, .inl (cI, 10, .inl v_clashes)), (o_rocks, .inl (cI, 6, .inl v_rocks)), (o_count, .inl (cI, 16, .inl v_count)), (o_image, .inl (cI, 160, .inl v_image)), (o_isKept, .inl (cZ, 2, .inl v_isKept))]) sz) (qWi R (dC, dI) ([(o, .inr (12, [.ref o_book, .ref o_now, .ref o_moults, .ref o_words, .ref o_clashes, .ref o_rocks, .int w_counts, .ref o_count, .int v_signs, .ref o_pad, .int v_readMany, .int v_signedAll, .int v_reason, .int v_acts, .ref o_reached, .ref o_queue, .ref o_got, .long v_waitUp, .long v_waitLow, .ref o_wins, .ref o_image, .ref o_isKept])), (o_book, .inl (cI, 21, .inl w_book)), (o_moults, .inl (cI, 6, .inl w_moults)), (o_words, .inl (cI, 10, .inl w_words)), (o_clashes, .inl (cI, 10, .inl w_clashes)), (o_rocks, .inl (cI, 6, .inl w_rocks)), (o_count, .inl (cI, 16, .inl w_count)), (o_image, .inl (cI, 160, .inl v_image)), (o_isKept, .inl (cZ, 2, .inl v_isKept))]) (va_A ([(o, .inr (12, [.ref o_book, .ref o_now, .ref o_moults, .ref o_words, .ref o_clashes, .ref o_rocks, .int v_counts, .ref o_count, .int v_signs, .ref o_pad, .int v_readMany, .int v_signedAll, .int v_reason, .int v_acts, .ref o_reached, .ref o_queue, .ref o_got, .long v_waitUp, .long v_waitLow, .ref o_wins, .ref o_image, .ref o_isKept])), (o_book, .inl (cI, 21, .inl v_book)), (o_moults, .inl (cI, 6, .inl v_moults)), (o_words, .inl (cI, 10, .inl v_words)), (o_clashes, .inl (cI, 10, .inl v_clashes)), (o_rocks, .inl (cI, 6, .inl v_rocks)), (o_count, .inl (cI, 16, .inl v_count)), (o_image, .inl (cI, 160, .inl v_image)), (o_isKept, .inl (cZ, 2, .inl v_isKept))]) sz)) 0 0 (va_A ([(o, .inr (12, [.ref o_book, .ref o_now, .ref o_moults, .ref o_words, .ref o_clashes, .ref o_rocks, .int v_counts, .ref o_count, .int v_signs, .ref o_pad, .int v_readMany, .int v_signedAll, .int v_reason, .int v_acts, .ref o_reached, .ref o_queue, .ref o_got, .long v_waitUp, .long v_waitLow, .ref o_wins, .ref o_image, .ref o_isKept])), (o_book, .inl (cI, 21, .inl v_book)), (o_moults, .inl (cI, 6, .inl v_moults)), (o_words, .inl (cI, 10, .inl v_words)), (o_clashes, .inl (cI, 10, .inl v_clashes)), (o_rocks, .inl (cI, 6, .inl v_rocks)), (o_count, .inl (cI, 16, .inl v_count)), (o_image, .inl (cI, 160, .inl v_image)), (o_isKept, .inl (cZ, 2, .inl v_isKept))]) sz) := by
  refine q_met_w (Qc := fun A => qWi R (dC, dI) ([(o, .inr (12, [.ref o_book, .ref o_now, .ref o_moults, .ref o_words, .ref o_clashes, .ref o_rocks, .int w_counts, .ref o_count, .int v_signs, .ref o_pad, .int v_readMany, .int v_signedAll, .int v_reason, .int v_acts, .ref o_reached, .ref o_queue, .ref o_got, .long v_waitUp, .long v_waitLow, .ref o_wins, .ref o_image, .ref o_isKept])), (o_book, .inl (cI, 21, .inl w_book)), (o_moults, .inl (cI, 6, .inl w_moults)), (o_words, .inl (cI, 10, .inl w_words)), (o_clashes, .inl (cI, 10, .inl w_clashes)), (o_rocks, .inl (cI, 6, .inl w_rocks)), (o_count, .inl (cI, 16, .inl w_count)), (o_image, .inl (cI, 160, .inl v_image)), (o_isKept, .inl (cZ, 2, .inl v_isKept))]) A) (cc := cX12_restore) (own := RX12) (maxL := 4) (ret := (some .int)) (lv0 := [(0, .ref o), (1, .int p1)]) (by decide) rfl rfl rfl (Nat.le_of_ble_eq_true rfl) ?_
  intro p e s m args below meth c A hA C hr hnm Q hQ
  have lk0 : Cond.fieldLink RX12 49 "SealStraitModel" "isKept" "[Z" ∈ wsX12_restore := by decide +kernel
  have lk1 : ∀ w ∈ u_ws RX12 TX12 22, w ∈ wsX12_restore := fun w h => List.mem_cons_of_mem _ (List.mem_append_right _ h)
  have lk2 : Cond.fieldLink RX12 7 "SealStraitModel" "book" "[I" ∈ wsX12_restore := by decide +kernel
  have lk3 : Cond.fieldLink RX12 46 "SealStraitModel" "image" "[I" ∈ wsX12_restore := by decide +kernel
  have lk4 : Cond.fieldLink RX12 16 "SealStraitModel" "moults" "[I" ∈ wsX12_restore := by decide +kernel
  have lk5 : Cond.fieldLink RX12 25 "SealStraitModel" "rocks" "[I" ∈ wsX12_restore := by decide +kernel
  have lk6 : Cond.fieldLink RX12 19 "SealStraitModel" "words" "[I" ∈ wsX12_restore := by decide +kernel
  have lk7 : Cond.fieldLink RX12 22 "SealStraitModel" "clashes" "[I" ∈ wsX12_restore := by decide +kernel
  have lk8 : Cond.fieldLink RX12 28 "SealStraitModel" "count" "[I" ∈ wsX12_restore := by decide +kernel
  have lk9 : Cond.fieldLink RX12 156 "SealStraitModel" "counts" "I" ∈ wsX12_restore := by decide +kernel
  have L1 : ∀ (n : Nat) (x2 : Int32) (x3 : Int32) (v_book : Nat → Int32) (v_moults : Nat → Int32) (v_words : Nat → Int32) (v_clashes : Nat → Int32) (v_rocks : Nat → Int32) (v_counts : Int32) (v_count : Nat → Int32) (z_book : Nat → Int32), evr (fun s => b_Model_restore_1 x2 v_image s.1 s.2) n (x3, v_book) = some z_book → qG p l e ({ frames := 1, cells := 0, slots := 0, locals := 22 } : Room) s m args below meth c 4 (dC, dI) A A Q 0 0 ([(0, .ref o), (2, .int x2)]) [] ([(o, .inr (12, [.ref o_book, .ref o_now, .ref o_moults, .ref o_words, .ref o_clashes, .ref o_rocks, .int v_counts, .ref o_count, .int v_signs, .ref o_pad, .int v_readMany, .int v_signedAll, .int v_reason, .int v_acts, .ref o_reached, .ref o_queue, .ref o_got, .long v_waitUp, .long v_waitLow, .ref o_wins, .ref o_image, .ref o_isKept])), (o_book, .inl (cI, 21, .inl z_book)), (o_moults, .inl (cI, 6, .inl v_moults)), (o_words, .inl (cI, 10, .inl v_words)), (o_clashes, .inl (cI, 10, .inl v_clashes)), (o_rocks, .inl (cI, 6, .inl v_rocks)), (o_count, .inl (cI, 16, .inl v_count)), (o_image, .inl (cI, 160, .inl v_image)), (o_isKept, .inl (cZ, 2, .inl v_isKept))]) 57 → qG p l e ({ frames := 1, cells := 0, slots := 0, locals := 22 } : Room) s m args below meth c 4 (dC, dI) A A Q 0 0 ([(0, .ref o), (2, .int x2), (3, .int x3)]) [] ([(o, .inr (12, [.ref o_book, .ref o_now, .ref o_moults, .ref o_words, .ref o_clashes, .ref o_rocks, .int v_counts, .ref o_count, .int v_signs, .ref o_pad, .int v_readMany, .int v_signedAll, .int v_reason, .int v_acts, .ref o_reached, .ref o_queue, .ref o_got, .long v_waitUp, .long v_waitLow, .ref o_wins, .ref o_image, .ref o_isKept])), (o_book, .inl (cI, 21, .inl v_book)), (o_moults, .inl (cI, 6, .inl v_moults)), (o_words, .inl (cI, 10, .inl v_words)), (o_clashes, .inl (cI, 10, .inl v_clashes)), (o_rocks, .inl (cI, 6, .inl v_rocks)), (o_count, .inl (cI, 16, .inl v_count)), (o_image, .inl (cI, 160, .inl v_image)), (o_isKept, .inl (cZ, 2, .inl v_isKept))]) 31 := by
    clear hF
    intro n
    induction n with
    | zero => intro x2 x3 v_book v_moults v_words v_clashes v_rocks v_counts v_count z_book hF; exact (evr_0 hF).elim
    | succ n ih =>
      intro x2 x3 v_book v_moults v_words v_clashes v_rocks v_counts v_count z_book hF hk
      obtain ⟨o9, hB, hn, hx⟩ := evr_c hF
      have hF : b_Model_restore_1 x2 v_image x3 v_book = some o9 := hB
      unfold b_Model_restore_1 at hF
      refine q_iload_n C dX12_restore_31 2 rfl rfl ?_
      refine q_bipush (v := (21 : Int32)) C dX12_restore_32 (by decide) ?_
      refine q_icmp_ge (tgt := 57) C dX12_restore_34 (by decide) (fun c1 => ?_) (fun c1 => ?_)
      · have hF := ite_t hF c1
        cases hF
        have e2 := hx _ rfl
        cases e2
        refine q_lsel [0, 1] rfl ?_
        exact hk
      · have hF := ite_f hF c1
        refine q_aload_n C dX12_restore_37 0 rfl rfl ?_
        refine q_get (C0 := RX12) (T := TX12) (N := 22) (k0 := 0) C lk1 0 rfl rfl (by decide) lk2 rfl (v := .ref o_book) rfl dX12_restore_38 ?_
        refine q_iload_n C dX12_restore_41 2 rfl rfl ?_
        refine q_aload_n C dX12_restore_42 0 rfl rfl ?_
        refine q_get (C0 := RX12) (T := TX12) (N := 22) (k0 := 20) C lk1 0 rfl rfl (by decide) lk3 rfl (v := .ref o_image) rfl dX12_restore_43 ?_
        refine q_iload_n C dX12_restore_46 1 rfl rfl ?_
        refine q_iload_n C dX12_restore_47 2 rfl rfl ?_
        refine q_iadd C dX12_restore_48 ?_
        obtain ⟨hc3, hF⟩ := ite_c hF
        refine q_iald C 7 0 rfl rfl (ix_in hc3) dX12_restore_49 ?_
        obtain ⟨hc4, hF⟩ := ite_c hF
        refine q_iast C 1 0 rfl rfl (ix_in hc4) ([(o, .inr (12, [.ref o_book, .ref o_now, .ref o_moults, .ref o_words, .ref o_clashes, .ref o_rocks, .int v_counts, .ref o_count, .int v_signs, .ref o_pad, .int v_readMany, .int v_signedAll, .int v_reason, .int v_acts, .ref o_reached, .ref o_queue, .ref o_got, .long v_waitUp, .long v_waitLow, .ref o_wins, .ref o_image, .ref o_isKept])), (o_book, .inl (cI, 21, .inl (upd v_book (x3).toNatClampNeg (v_image ((x2 + x3)).toNatClampNeg)))), (o_moults, .inl (cI, 6, .inl v_moults)), (o_words, .inl (cI, 10, .inl v_words)), (o_clashes, .inl (cI, 10, .inl v_clashes)), (o_rocks, .inl (cI, 6, .inl v_rocks)), (o_count, .inl (cI, 16, .inl v_count)), (o_image, .inl (cI, 160, .inl v_image)), (o_isKept, .inl (cZ, 2, .inl v_isKept))]) rfl dX12_restore_50 ?_
        refine q_iinc (v := (x3 + 1)) C ([(3, .int (x3 + 1)), (0, .ref o), (2, .int x2)]) dX12_restore_51 2 rfl rfl (by decide) rfl ?_
        refine q_goto (tgt := 31) C dX12_restore_54 (by decide) ?_
        cases hF
        refine q_lsel [1, 2, 0] rfl ?_
        exact ih x2 (x3 + 1) (upd v_book (x3).toNatClampNeg (v_image ((x2 + x3)).toNatClampNeg)) v_moults v_words v_clashes v_rocks v_counts v_count z_book (hn _ rfl) hk
  have L4 : ∀ (n : Nat) (x2 : Int32) (x3 : Int32) (v_book : Nat → Int32) (v_moults : Nat → Int32) (v_words : Nat → Int32) (v_clashes : Nat → Int32) (v_rocks : Nat → Int32) (v_counts : Int32) (v_count : Nat → Int32) (z_count : Nat → Int32), evr (fun s => b_Model_restore_4 x2 v_image s.1 s.2) n (x3, v_count) = some z_count → qG p l e ({ frames := 1, cells := 0, slots := 0, locals := 22 } : Room) s m args below meth c 4 (dC, dI) A A Q 0 0 ([(0, .ref o), (2, .int x2)]) [] ([(o, .inr (12, [.ref o_book, .ref o_now, .ref o_moults, .ref o_words, .ref o_clashes, .ref o_rocks, .int v_counts, .ref o_count, .int v_signs, .ref o_pad, .int v_readMany, .int v_signedAll, .int v_reason, .int v_acts, .ref o_reached, .ref o_queue, .ref o_got, .long v_waitUp, .long v_waitLow, .ref o_wins, .ref o_image, .ref o_isKept])), (o_book, .inl (cI, 21, .inl v_book)), (o_moults, .inl (cI, 6, .inl v_moults)), (o_words, .inl (cI, 10, .inl v_words)), (o_clashes, .inl (cI, 10, .inl v_clashes)), (o_rocks, .inl (cI, 6, .inl v_rocks)), (o_count, .inl (cI, 16, .inl z_count)), (o_image, .inl (cI, 160, .inl v_image)), (o_isKept, .inl (cZ, 2, .inl v_isKept))]) 184 → qG p l e ({ frames := 1, cells := 0, slots := 0, locals := 22 } : Room) s m args below meth c 4 (dC, dI) A A Q 0 0 ([(0, .ref o), (2, .int x2), (3, .int x3)]) [] ([(o, .inr (12, [.ref o_book, .ref o_now, .ref o_moults, .ref o_words, .ref o_clashes, .ref o_rocks, .int v_counts, .ref o_count, .int v_signs, .ref o_pad, .int v_readMany, .int v_signedAll, .int v_reason, .int v_acts, .ref o_reached, .ref o_queue, .ref o_got, .long v_waitUp, .long v_waitLow, .ref o_wins, .ref o_image, .ref o_isKept])), (o_book, .inl (cI, 21, .inl v_book)), (o_moults, .inl (cI, 6, .inl v_moults)), (o_words, .inl (cI, 10, .inl v_words)), (o_clashes, .inl (cI, 10, .inl v_clashes)), (o_rocks, .inl (cI, 6, .inl v_rocks)), (o_count, .inl (cI, 16, .inl v_count)), (o_image, .inl (cI, 160, .inl v_image)), (o_isKept, .inl (cZ, 2, .inl v_isKept))]) 155 := by
    clear hF
    intro n
    induction n with
    | zero => intro x2 x3 v_book v_moults v_words v_clashes v_rocks v_counts v_count z_count hF; exact (evr_0 hF).elim
    | succ n ih =>
      intro x2 x3 v_book v_moults v_words v_clashes v_rocks v_counts v_count z_count hF hk
      obtain ⟨o9, hB, hn, hx⟩ := evr_c hF
      have hF : b_Model_restore_4 x2 v_image x3 v_count = some o9 := hB
      unfold b_Model_restore_4 at hF
      refine q_iload_n C dX12_restore_155 2 rfl rfl ?_
      refine q_bipush (v := (16 : Int32)) C dX12_restore_156 (by decide) ?_
      refine q_icmp_ge (tgt := 184) C dX12_restore_158 (by decide) (fun c5 => ?_) (fun c5 => ?_)
      · have hF := ite_t hF c5
        cases hF
        have e6 := hx _ rfl
        cases e6
        refine q_lsel [0, 1] rfl ?_
        exact hk
      · have hF := ite_f hF c5
        refine q_aload_n C dX12_restore_161 0 rfl rfl ?_
        refine q_get (C0 := RX12) (T := TX12) (N := 22) (k0 := 7) C lk1 0 rfl rfl (by decide) lk8 rfl (v := .ref o_count) rfl dX12_restore_162 ?_
        refine q_iload_n C dX12_restore_165 2 rfl rfl ?_
        refine q_aload_n C dX12_restore_166 0 rfl rfl ?_
        refine q_get (C0 := RX12) (T := TX12) (N := 22) (k0 := 20) C lk1 0 rfl rfl (by decide) lk3 rfl (v := .ref o_image) rfl dX12_restore_167 ?_
        refine q_iload_n C dX12_restore_170 1 rfl rfl ?_
        refine q_bipush (v := (53 : Int32)) C dX12_restore_171 (by decide) ?_
        refine q_iadd C dX12_restore_173 ?_
        refine q_iload_n C dX12_restore_174 2 rfl rfl ?_
        refine q_iadd C dX12_restore_175 ?_
        obtain ⟨hc7, hF⟩ := ite_c hF
        refine q_iald C 7 0 rfl rfl (ix_in hc7) dX12_restore_176 ?_
        obtain ⟨hc8, hF⟩ := ite_c hF
        refine q_iast C 6 0 rfl rfl (ix_in hc8) ([(o, .inr (12, [.ref o_book, .ref o_now, .ref o_moults, .ref o_words, .ref o_clashes, .ref o_rocks, .int v_counts, .ref o_count, .int v_signs, .ref o_pad, .int v_readMany, .int v_signedAll, .int v_reason, .int v_acts, .ref o_reached, .ref o_queue, .ref o_got, .long v_waitUp, .long v_waitLow, .ref o_wins, .ref o_image, .ref o_isKept])), (o_book, .inl (cI, 21, .inl v_book)), (o_moults, .inl (cI, 6, .inl v_moults)), (o_words, .inl (cI, 10, .inl v_words)), (o_clashes, .inl (cI, 10, .inl v_clashes)), (o_rocks, .inl (cI, 6, .inl v_rocks)), (o_count, .inl (cI, 16, .inl (upd v_count (x3).toNatClampNeg (v_image (((x2 + (53 : Int32)) + x3)).toNatClampNeg)))), (o_image, .inl (cI, 160, .inl v_image)), (o_isKept, .inl (cZ, 2, .inl v_isKept))]) rfl dX12_restore_177 ?_
        refine q_iinc (v := (x3 + 1)) C ([(3, .int (x3 + 1)), (0, .ref o), (2, .int x2)]) dX12_restore_178 2 rfl rfl (by decide) rfl ?_
        refine q_goto (tgt := 155) C dX12_restore_181 (by decide) ?_
        cases hF
        refine q_lsel [1, 2, 0] rfl ?_
        exact ih x2 (x3 + 1) v_book v_moults v_words v_clashes v_rocks v_counts (upd v_count (x3).toNatClampNeg (v_image (((x2 + (53 : Int32)) + x3)).toNatClampNeg)) z_count (hn _ rfl) hk
  have L2 : ∀ (n : Nat) (x2 : Int32) (x3 : Int32) (v_book : Nat → Int32) (v_moults : Nat → Int32) (v_words : Nat → Int32) (v_clashes : Nat → Int32) (v_rocks : Nat → Int32) (v_counts : Int32) (v_count : Nat → Int32) (z_moults : Nat → Int32) (z_rocks : Nat → Int32), evr (fun s => b_Model_restore_2 x2 v_image s.1 s.2.1 s.2.2) n (x3, v_moults, v_rocks) = some (z_moults, z_rocks) → qG p l e ({ frames := 1, cells := 0, slots := 0, locals := 22 } : Room) s m args below meth c 4 (dC, dI) A A Q 0 0 ([(0, .ref o), (2, .int x2)]) [] ([(o, .inr (12, [.ref o_book, .ref o_now, .ref o_moults, .ref o_words, .ref o_clashes, .ref o_rocks, .int v_counts, .ref o_count, .int v_signs, .ref o_pad, .int v_readMany, .int v_signedAll, .int v_reason, .int v_acts, .ref o_reached, .ref o_queue, .ref o_got, .long v_waitUp, .long v_waitLow, .ref o_wins, .ref o_image, .ref o_isKept])), (o_book, .inl (cI, 21, .inl v_book)), (o_moults, .inl (cI, 6, .inl z_moults)), (o_words, .inl (cI, 10, .inl v_words)), (o_clashes, .inl (cI, 10, .inl v_clashes)), (o_rocks, .inl (cI, 6, .inl z_rocks)), (o_count, .inl (cI, 16, .inl v_count)), (o_image, .inl (cI, 160, .inl v_image)), (o_isKept, .inl (cZ, 2, .inl v_isKept))]) 105 → qG p l e ({ frames := 1, cells := 0, slots := 0, locals := 22 } : Room) s m args below meth c 4 (dC, dI) A A Q 0 0 ([(0, .ref o), (2, .int x2), (3, .int x3)]) [] ([(o, .inr (12, [.ref o_book, .ref o_now, .ref o_moults, .ref o_words, .ref o_clashes, .ref o_rocks, .int v_counts, .ref o_count, .int v_signs, .ref o_pad, .int v_readMany, .int v_signedAll, .int v_reason, .int v_acts, .ref o_reached, .ref o_queue, .ref o_got, .long v_waitUp, .long v_waitLow, .ref o_wins, .ref o_image, .ref o_isKept])), (o_book, .inl (cI, 21, .inl v_book)), (o_moults, .inl (cI, 6, .inl v_moults)), (o_words, .inl (cI, 10, .inl v_words)), (o_clashes, .inl (cI, 10, .inl v_clashes)), (o_rocks, .inl (cI, 6, .inl v_rocks)), (o_count, .inl (cI, 16, .inl v_count)), (o_image, .inl (cI, 160, .inl v_image)), (o_isKept, .inl (cZ, 2, .inl v_isKept))]) 59 := by
    clear hF
    intro n
    induction n with
    | zero => intro x2 x3 v_book v_moults v_words v_clashes v_rocks v_counts v_count z_moults z_rocks hF; exact (evr_0 hF).elim
    | succ n ih =>
      intro x2 x3 v_book v_moults v_words v_clashes v_rocks v_counts v_count z_moults z_rocks hF hk
      obtain ⟨o9, hB, hn, hx⟩ := evr_c hF
      have hF : b_Model_restore_2 x2 v_image x3 v_moults v_rocks = some o9 := hB
      unfold b_Model_restore_2 at hF
      refine q_iload_n C dX12_restore_59 2 rfl rfl ?_
      refine q_bipush (v := (6 : Int32)) C dX12_restore_60 (by decide) ?_
      refine q_icmp_ge (tgt := 105) C dX12_restore_62 (by decide) (fun c9 => ?_) (fun c9 => ?_)
      · have hF := ite_t hF c9
        cases hF
        have e10 := hx _ rfl
        cases e10
        refine q_lsel [0, 1] rfl ?_
        exact hk
      · have hF := ite_f hF c9
        refine q_aload_n C dX12_restore_65 0 rfl rfl ?_
        refine q_get (C0 := RX12) (T := TX12) (N := 22) (k0 := 2) C lk1 0 rfl rfl (by decide) lk4 rfl (v := .ref o_moults) rfl dX12_restore_66 ?_
        refine q_iload_n C dX12_restore_69 2 rfl rfl ?_
        refine q_aload_n C dX12_restore_70 0 rfl rfl ?_
        refine q_get (C0 := RX12) (T := TX12) (N := 22) (k0 := 20) C lk1 0 rfl rfl (by decide) lk3 rfl (v := .ref o_image) rfl dX12_restore_71 ?_
        refine q_iload_n C dX12_restore_74 1 rfl rfl ?_
        refine q_bipush (v := (21 : Int32)) C dX12_restore_75 (by decide) ?_
        refine q_iadd C dX12_restore_77 ?_
        refine q_iload_n C dX12_restore_78 2 rfl rfl ?_
        refine q_iadd C dX12_restore_79 ?_
        obtain ⟨hc11, hF⟩ := ite_c hF
        refine q_iald C 7 0 rfl rfl (ix_in hc11) dX12_restore_80 ?_
        obtain ⟨hc12, hF⟩ := ite_c hF
        refine q_iast C 2 0 rfl rfl (ix_in hc12) ([(o, .inr (12, [.ref o_book, .ref o_now, .ref o_moults, .ref o_words, .ref o_clashes, .ref o_rocks, .int v_counts, .ref o_count, .int v_signs, .ref o_pad, .int v_readMany, .int v_signedAll, .int v_reason, .int v_acts, .ref o_reached, .ref o_queue, .ref o_got, .long v_waitUp, .long v_waitLow, .ref o_wins, .ref o_image, .ref o_isKept])), (o_book, .inl (cI, 21, .inl v_book)), (o_moults, .inl (cI, 6, .inl (upd v_moults (x3).toNatClampNeg (v_image (((x2 + (21 : Int32)) + x3)).toNatClampNeg)))), (o_words, .inl (cI, 10, .inl v_words)), (o_clashes, .inl (cI, 10, .inl v_clashes)), (o_rocks, .inl (cI, 6, .inl v_rocks)), (o_count, .inl (cI, 16, .inl v_count)), (o_image, .inl (cI, 160, .inl v_image)), (o_isKept, .inl (cZ, 2, .inl v_isKept))]) rfl dX12_restore_81 ?_
        refine q_aload_n C dX12_restore_82 0 rfl rfl ?_
        refine q_get (C0 := RX12) (T := TX12) (N := 22) (k0 := 5) C lk1 0 rfl rfl (by decide) lk5 rfl (v := .ref o_rocks) rfl dX12_restore_83 ?_
        refine q_iload_n C dX12_restore_86 2 rfl rfl ?_
        refine q_aload_n C dX12_restore_87 0 rfl rfl ?_
        refine q_get (C0 := RX12) (T := TX12) (N := 22) (k0 := 20) C lk1 0 rfl rfl (by decide) lk3 rfl (v := .ref o_image) rfl dX12_restore_88 ?_
        refine q_iload_n C dX12_restore_91 1 rfl rfl ?_
        refine q_bipush (v := (27 : Int32)) C dX12_restore_92 (by decide) ?_
        refine q_iadd C dX12_restore_94 ?_
        refine q_iload_n C dX12_restore_95 2 rfl rfl ?_
        refine q_iadd C dX12_restore_96 ?_
        obtain ⟨hc13, hF⟩ := ite_c hF
        refine q_iald C 7 0 rfl rfl (ix_in hc13) dX12_restore_97 ?_
        obtain ⟨hc14, hF⟩ := ite_c hF
        refine q_iast C 5 0 rfl rfl (ix_in hc14) ([(o, .inr (12, [.ref o_book, .ref o_now, .ref o_moults, .ref o_words, .ref o_clashes, .ref o_rocks, .int v_counts, .ref o_count, .int v_signs, .ref o_pad, .int v_readMany, .int v_signedAll, .int v_reason, .int v_acts, .ref o_reached, .ref o_queue, .ref o_got, .long v_waitUp, .long v_waitLow, .ref o_wins, .ref o_image, .ref o_isKept])), (o_book, .inl (cI, 21, .inl v_book)), (o_moults, .inl (cI, 6, .inl (upd v_moults (x3).toNatClampNeg (v_image (((x2 + (21 : Int32)) + x3)).toNatClampNeg)))), (o_words, .inl (cI, 10, .inl v_words)), (o_clashes, .inl (cI, 10, .inl v_clashes)), (o_rocks, .inl (cI, 6, .inl (upd v_rocks (x3).toNatClampNeg (v_image (((x2 + (27 : Int32)) + x3)).toNatClampNeg)))), (o_count, .inl (cI, 16, .inl v_count)), (o_image, .inl (cI, 160, .inl v_image)), (o_isKept, .inl (cZ, 2, .inl v_isKept))]) rfl dX12_restore_98 ?_
        refine q_iinc (v := (x3 + 1)) C ([(3, .int (x3 + 1)), (0, .ref o), (2, .int x2)]) dX12_restore_99 2 rfl rfl (by decide) rfl ?_
        refine q_goto (tgt := 59) C dX12_restore_102 (by decide) ?_
        cases hF
        refine q_lsel [1, 2, 0] rfl ?_
        exact ih x2 (x3 + 1) v_book (upd v_moults (x3).toNatClampNeg (v_image (((x2 + (21 : Int32)) + x3)).toNatClampNeg)) v_words v_clashes (upd v_rocks (x3).toNatClampNeg (v_image (((x2 + (27 : Int32)) + x3)).toNatClampNeg)) v_counts v_count z_moults z_rocks (hn _ rfl) hk
  have L3 : ∀ (n : Nat) (x2 : Int32) (x3 : Int32) (v_book : Nat → Int32) (v_moults : Nat → Int32) (v_words : Nat → Int32) (v_clashes : Nat → Int32) (v_rocks : Nat → Int32) (v_counts : Int32) (v_count : Nat → Int32) (z_words : Nat → Int32) (z_clashes : Nat → Int32), evr (fun s => b_Model_restore_3 x2 v_image s.1 s.2.1 s.2.2) n (x3, v_words, v_clashes) = some (z_words, z_clashes) → qG p l e ({ frames := 1, cells := 0, slots := 0, locals := 22 } : Room) s m args below meth c 4 (dC, dI) A A Q 0 0 ([(0, .ref o), (2, .int x2)]) [] ([(o, .inr (12, [.ref o_book, .ref o_now, .ref o_moults, .ref o_words, .ref o_clashes, .ref o_rocks, .int v_counts, .ref o_count, .int v_signs, .ref o_pad, .int v_readMany, .int v_signedAll, .int v_reason, .int v_acts, .ref o_reached, .ref o_queue, .ref o_got, .long v_waitUp, .long v_waitLow, .ref o_wins, .ref o_image, .ref o_isKept])), (o_book, .inl (cI, 21, .inl v_book)), (o_moults, .inl (cI, 6, .inl v_moults)), (o_words, .inl (cI, 10, .inl z_words)), (o_clashes, .inl (cI, 10, .inl z_clashes)), (o_rocks, .inl (cI, 6, .inl v_rocks)), (o_count, .inl (cI, 16, .inl v_count)), (o_image, .inl (cI, 160, .inl v_image)), (o_isKept, .inl (cZ, 2, .inl v_isKept))]) 153 → qG p l e ({ frames := 1, cells := 0, slots := 0, locals := 22 } : Room) s m args below meth c 4 (dC, dI) A A Q 0 0 ([(0, .ref o), (2, .int x2), (3, .int x3)]) [] ([(o, .inr (12, [.ref o_book, .ref o_now, .ref o_moults, .ref o_words, .ref o_clashes, .ref o_rocks, .int v_counts, .ref o_count, .int v_signs, .ref o_pad, .int v_readMany, .int v_signedAll, .int v_reason, .int v_acts, .ref o_reached, .ref o_queue, .ref o_got, .long v_waitUp, .long v_waitLow, .ref o_wins, .ref o_image, .ref o_isKept])), (o_book, .inl (cI, 21, .inl v_book)), (o_moults, .inl (cI, 6, .inl v_moults)), (o_words, .inl (cI, 10, .inl v_words)), (o_clashes, .inl (cI, 10, .inl v_clashes)), (o_rocks, .inl (cI, 6, .inl v_rocks)), (o_count, .inl (cI, 16, .inl v_count)), (o_image, .inl (cI, 160, .inl v_image)), (o_isKept, .inl (cZ, 2, .inl v_isKept))]) 107 := by
    clear hF
    intro n
    induction n with
    | zero => intro x2 x3 v_book v_moults v_words v_clashes v_rocks v_counts v_count z_words z_clashes hF; exact (evr_0 hF).elim
    | succ n ih =>
      intro x2 x3 v_book v_moults v_words v_clashes v_rocks v_counts v_count z_words z_clashes hF hk
      obtain ⟨o9, hB, hn, hx⟩ := evr_c hF
      have hF : b_Model_restore_3 x2 v_image x3 v_words v_clashes = some o9 := hB
      unfold b_Model_restore_3 at hF
      refine q_iload_n C dX12_restore_107 2 rfl rfl ?_
      refine q_bipush (v := (10 : Int32)) C dX12_restore_108 (by decide) ?_
      refine q_icmp_ge (tgt := 153) C dX12_restore_110 (by decide) (fun c15 => ?_) (fun c15 => ?_)
      · have hF := ite_t hF c15
        cases hF
        have e16 := hx _ rfl
        cases e16
        refine q_lsel [0, 1] rfl ?_
        exact hk
      · have hF := ite_f hF c15
        refine q_aload_n C dX12_restore_113 0 rfl rfl ?_
        refine q_get (C0 := RX12) (T := TX12) (N := 22) (k0 := 3) C lk1 0 rfl rfl (by decide) lk6 rfl (v := .ref o_words) rfl dX12_restore_114 ?_
        refine q_iload_n C dX12_restore_117 2 rfl rfl ?_
        refine q_aload_n C dX12_restore_118 0 rfl rfl ?_
        refine q_get (C0 := RX12) (T := TX12) (N := 22) (k0 := 20) C lk1 0 rfl rfl (by decide) lk3 rfl (v := .ref o_image) rfl dX12_restore_119 ?_
        refine q_iload_n C dX12_restore_122 1 rfl rfl ?_
        refine q_bipush (v := (33 : Int32)) C dX12_restore_123 (by decide) ?_
        refine q_iadd C dX12_restore_125 ?_
        refine q_iload_n C dX12_restore_126 2 rfl rfl ?_
        refine q_iadd C dX12_restore_127 ?_
        obtain ⟨hc17, hF⟩ := ite_c hF
        refine q_iald C 7 0 rfl rfl (ix_in hc17) dX12_restore_128 ?_
        obtain ⟨hc18, hF⟩ := ite_c hF
        refine q_iast C 3 0 rfl rfl (ix_in hc18) ([(o, .inr (12, [.ref o_book, .ref o_now, .ref o_moults, .ref o_words, .ref o_clashes, .ref o_rocks, .int v_counts, .ref o_count, .int v_signs, .ref o_pad, .int v_readMany, .int v_signedAll, .int v_reason, .int v_acts, .ref o_reached, .ref o_queue, .ref o_got, .long v_waitUp, .long v_waitLow, .ref o_wins, .ref o_image, .ref o_isKept])), (o_book, .inl (cI, 21, .inl v_book)), (o_moults, .inl (cI, 6, .inl v_moults)), (o_words, .inl (cI, 10, .inl (upd v_words (x3).toNatClampNeg (v_image (((x2 + (33 : Int32)) + x3)).toNatClampNeg)))), (o_clashes, .inl (cI, 10, .inl v_clashes)), (o_rocks, .inl (cI, 6, .inl v_rocks)), (o_count, .inl (cI, 16, .inl v_count)), (o_image, .inl (cI, 160, .inl v_image)), (o_isKept, .inl (cZ, 2, .inl v_isKept))]) rfl dX12_restore_129 ?_
        refine q_aload_n C dX12_restore_130 0 rfl rfl ?_
        refine q_get (C0 := RX12) (T := TX12) (N := 22) (k0 := 4) C lk1 0 rfl rfl (by decide) lk7 rfl (v := .ref o_clashes) rfl dX12_restore_131 ?_
        refine q_iload_n C dX12_restore_134 2 rfl rfl ?_
        refine q_aload_n C dX12_restore_135 0 rfl rfl ?_
        refine q_get (C0 := RX12) (T := TX12) (N := 22) (k0 := 20) C lk1 0 rfl rfl (by decide) lk3 rfl (v := .ref o_image) rfl dX12_restore_136 ?_
        refine q_iload_n C dX12_restore_139 1 rfl rfl ?_
        refine q_bipush (v := (43 : Int32)) C dX12_restore_140 (by decide) ?_
        refine q_iadd C dX12_restore_142 ?_
        refine q_iload_n C dX12_restore_143 2 rfl rfl ?_
        refine q_iadd C dX12_restore_144 ?_
        obtain ⟨hc19, hF⟩ := ite_c hF
        refine q_iald C 7 0 rfl rfl (ix_in hc19) dX12_restore_145 ?_
        obtain ⟨hc20, hF⟩ := ite_c hF
        refine q_iast C 4 0 rfl rfl (ix_in hc20) ([(o, .inr (12, [.ref o_book, .ref o_now, .ref o_moults, .ref o_words, .ref o_clashes, .ref o_rocks, .int v_counts, .ref o_count, .int v_signs, .ref o_pad, .int v_readMany, .int v_signedAll, .int v_reason, .int v_acts, .ref o_reached, .ref o_queue, .ref o_got, .long v_waitUp, .long v_waitLow, .ref o_wins, .ref o_image, .ref o_isKept])), (o_book, .inl (cI, 21, .inl v_book)), (o_moults, .inl (cI, 6, .inl v_moults)), (o_words, .inl (cI, 10, .inl (upd v_words (x3).toNatClampNeg (v_image (((x2 + (33 : Int32)) + x3)).toNatClampNeg)))), (o_clashes, .inl (cI, 10, .inl (upd v_clashes (x3).toNatClampNeg (v_image (((x2 + (43 : Int32)) + x3)).toNatClampNeg)))), (o_rocks, .inl (cI, 6, .inl v_rocks)), (o_count, .inl (cI, 16, .inl v_count)), (o_image, .inl (cI, 160, .inl v_image)), (o_isKept, .inl (cZ, 2, .inl v_isKept))]) rfl dX12_restore_146 ?_
        refine q_iinc (v := (x3 + 1)) C ([(3, .int (x3 + 1)), (0, .ref o), (2, .int x2)]) dX12_restore_147 2 rfl rfl (by decide) rfl ?_
        refine q_goto (tgt := 107) C dX12_restore_150 (by decide) ?_
        cases hF
        refine q_lsel [1, 2, 0] rfl ?_
        exact ih x2 (x3 + 1) v_book v_moults (upd v_words (x3).toNatClampNeg (v_image (((x2 + (33 : Int32)) + x3)).toNatClampNeg)) (upd v_clashes (x3).toNatClampNeg (v_image (((x2 + (43 : Int32)) + x3)).toNatClampNeg)) v_rocks v_counts v_count z_words z_clashes (hn _ rfl) hk
  unfold f_Model_restore at hF
  refine q_iload_n C dX12_restore_0 1 rfl rfl ?_
  refine q_iconst (v := (0 : Int32)) C dX12_restore_1 (by decide) ?_
  refine q_iconst (v := (1 : Int32)) C dX12_restore_2 (by decide) ?_
  refine q_roz (q_runS (As := [.int p1, .int (0 : Int32), .int (1 : Int32)]) (rest := []) C (fun sz => c_X12_in l dC dI cI cZ cQ p1 (0 : Int32) (1 : Int32) (f_Model_in p1 (0 : Int32) (1 : Int32)) rfl sz) (va_cwS 3 C.2.2.2.2.1 gX12_restore_X12_in rfl rfl rfl (by decide +kernel) ⟨Nat.le_of_ble_eq_true rfl, Nat.le_of_ble_eq_true rfl⟩) [] rfl rfl rfl rfl (Nat.le_of_ble_eq_true rfl) dX12_restore_3 ⟨Nat.zero_le _, Nat.zero_le _⟩) (fun hz21 => ?_)
  refine q_if_ne (tgt := 12) C dX12_restore_6 (by decide) (fun c22 => ?_) (fun c22 => ?_)
  · have hF := ite_f hF c22
    refine q_aload_n C dX12_restore_12 0 rfl rfl ?_
    refine q_get (C0 := RX12) (T := TX12) (N := 22) (k0 := 21) C lk1 0 rfl rfl (by decide) lk0 rfl (v := .ref o_isKept) rfl dX12_restore_13 ?_
    refine q_iload_n C dX12_restore_16 1 rfl rfl ?_
    obtain ⟨hc23, hF⟩ := ite_c hF
    refine q_zald C 8 1 rfl rfl (ix_in hc23) dX12_restore_17 ?_
    refine q_if_ne (tgt := 24) C dX12_restore_18 (by decide) (fun c24 => ?_) (fun c24 => ?_)
    · have hF := ite_f hF c24
      refine q_bipush (v := (80 : Int32)) C dX12_restore_24 (by decide) ?_
      refine q_iload_n C dX12_restore_26 1 rfl rfl ?_
      refine q_imul C dX12_restore_27 ?_
      refine q_istore_n C ([(2, .int ((80 : Int32) * p1)), (0, .ref o), (1, .int p1)]) dX12_restore_28 rfl (by decide) rfl ?_
      refine q_iconst (v := (0 : Int32)) C dX12_restore_29 (by decide) ?_
      refine q_istore_n C ([(3, .int (0 : Int32)), (2, .int ((80 : Int32) * p1)), (0, .ref o), (1, .int p1)]) dX12_restore_30 rfl (by decide) rfl ?_
      obtain ⟨z25_book, hc26, hF⟩ := bind_c hF
      obtain ⟨n27, hc26⟩ := (ev_iff _ _ _).mp hc26
      refine q_lsel [2, 1, 0] rfl ?_
      refine L1 n27 ((80 : Int32) * p1) (0 : Int32) v_book v_moults v_words v_clashes v_rocks v_counts v_count z25_book hc26 ?_
      refine q_iconst (v := (0 : Int32)) C dX12_restore_57 (by decide) ?_
      refine q_istore_n C ([(3, .int (0 : Int32)), (0, .ref o), (2, .int ((80 : Int32) * p1))]) dX12_restore_58 rfl (by decide) rfl ?_
      obtain ⟨⟨z28_moults, z28_rocks⟩, hc29, hF⟩ := bind_c hF
      dsimp only at hF
      obtain ⟨n30, hc29⟩ := (ev_iff _ _ _).mp hc29
      refine q_lsel [1, 2, 0] rfl ?_
      refine L2 n30 ((80 : Int32) * p1) (0 : Int32) z25_book v_moults v_words v_clashes v_rocks v_counts v_count z28_moults z28_rocks hc29 ?_
      refine q_iconst (v := (0 : Int32)) C dX12_restore_105 (by decide) ?_
      refine q_istore_n C ([(3, .int (0 : Int32)), (0, .ref o), (2, .int ((80 : Int32) * p1))]) dX12_restore_106 rfl (by decide) rfl ?_
      obtain ⟨⟨z31_words, z31_clashes⟩, hc32, hF⟩ := bind_c hF
      dsimp only at hF
      obtain ⟨n33, hc32⟩ := (ev_iff _ _ _).mp hc32
      refine q_lsel [1, 2, 0] rfl ?_
      refine L3 n33 ((80 : Int32) * p1) (0 : Int32) z25_book z28_moults v_words v_clashes z28_rocks v_counts v_count z31_words z31_clashes hc32 ?_
      refine q_iconst (v := (0 : Int32)) C dX12_restore_153 (by decide) ?_
      refine q_istore_n C ([(3, .int (0 : Int32)), (0, .ref o), (2, .int ((80 : Int32) * p1))]) dX12_restore_154 rfl (by decide) rfl ?_
      obtain ⟨z34_count, hc35, hF⟩ := bind_c hF
      obtain ⟨n36, hc35⟩ := (ev_iff _ _ _).mp hc35
      refine q_lsel [1, 2, 0] rfl ?_
      refine L4 n36 ((80 : Int32) * p1) (0 : Int32) z25_book z28_moults z31_words z31_clashes z28_rocks v_counts v_count z34_count hc35 ?_
      refine q_aload_n C dX12_restore_184 0 rfl rfl ?_
      refine q_aload_n C dX12_restore_185 0 rfl rfl ?_
      refine q_get (C0 := RX12) (T := TX12) (N := 22) (k0 := 20) C lk1 0 rfl rfl (by decide) lk3 rfl (v := .ref o_image) rfl dX12_restore_186 ?_
      refine q_iload_n C dX12_restore_189 1 rfl rfl ?_
      refine q_bipush (v := (70 : Int32)) C dX12_restore_190 (by decide) ?_
      refine q_iadd C dX12_restore_192 ?_
      obtain ⟨hc37, hF⟩ := ite_c hF
      refine q_iald C 7 0 rfl rfl (ix_in hc37) dX12_restore_193 ?_
      refine q_put (C0 := RX12) (T := TX12) (N := 22) (k0 := 6) C lk1 0 rfl rfl (by decide) lk9 rfl tyX12 tyX12_ok nmX12 rfl (v := .int (v_image ((((80 : Int32) * p1) + (70 : Int32))).toNatClampNeg)) rfl rfl (Nat.le_of_ble_eq_true rfl) ([(o, .inr (12, [.ref o_book, .ref o_now, .ref o_moults, .ref o_words, .ref o_clashes, .ref o_rocks, .int (v_image ((((80 : Int32) * p1) + (70 : Int32))).toNatClampNeg), .ref o_count, .int v_signs, .ref o_pad, .int v_readMany, .int v_signedAll, .int v_reason, .int v_acts, .ref o_reached, .ref o_queue, .ref o_got, .long v_waitUp, .long v_waitLow, .ref o_wins, .ref o_image, .ref o_isKept])), (o_book, .inl (cI, 21, .inl z25_book)), (o_moults, .inl (cI, 6, .inl z28_moults)), (o_words, .inl (cI, 10, .inl z31_words)), (o_clashes, .inl (cI, 10, .inl z31_clashes)), (o_rocks, .inl (cI, 6, .inl z28_rocks)), (o_count, .inl (cI, 16, .inl z34_count)), (o_image, .inl (cI, 160, .inl v_image)), (o_isKept, .inl (cZ, 2, .inl v_isKept))]) rfl dX12_restore_194 ?_
      refine q_iconst (v := (1 : Int32)) C dX12_restore_197 (by decide) ?_
      cases hF
      exact q_wreti C hr dX12_restore_198 hQ
    · have hF := ite_t hF c24
      refine q_bipush (v := (-3 : Int32)) C dX12_restore_21 (by decide) ?_
      cases hF
      exact q_wreti C hr dX12_restore_23 hQ
  · have hF := ite_t hF c22
    refine q_bipush (v := (-2 : Int32)) C dX12_restore_9 (by decide) ?_
    cases hF
    exact q_wreti C hr dX12_restore_11 hQ
set_option maxRecDepth 100000 in
set_option maxHeartbeats 4000000 in
theorem c_X12_told (l : Launch) (dC : Nat → ClassId) (dI : Nat → Nat → Nat) (cI cZ cQ : ClassId) (o o_book o_moults o_words o_clashes o_rocks o_now o_count o_pad o_reached o_queue o_got o_wins o_image o_isKept : Nat) (v_book : Nat → Int32) (v_moults : Nat → Int32) (v_words : Nat → Int32) (v_clashes : Nat → Int32) (v_rocks : Nat → Int32) (v_counts : Int32) (v_signs : Int32) (v_readMany : Int32) (v_signedAll : Int32) (v_reason : Int32) (v_acts : Int32) (v_waitUp : Int64) (v_waitLow : Int64) (p1 : Int32) (R : Int32) (hF : f_Model_told v_book v_moults v_words v_clashes v_rocks v_counts v_signs p1 = some R) (sz : Nat) : Met l yX12_told wsX12_told ({ frames := 2, cells := 0, slots := 0, locals := 43 } : Room) (qPc ([.ref o, .int p1]) (dC, dI) (qT cI cZ cQ) ([(o, .inr (12, [.ref o_book, .ref o_now, .ref o_moults, .ref o_words, .ref o_clashes, .ref o_rocks, .int v_counts, .ref o_count, .int v_signs, .ref o_pad, .int v_readMany, .int v_signedAll, .int v_reason, .int v_acts, .ref o_reached, .ref o_queue, .ref o_got, .long v_waitUp, .long v_waitLow, .ref o_wins, .ref o_image, .ref o_isKept])), (o_book, .inl (cI, 21, .inl v_book)), (o_moults, .inl (cI, 6, .inl v_moults)), (o_words, .inl (cI, 10, .inl v_words)), (o_clashes, .inl (cI, 10, .inl v_clashes)), (o_rocks, .inl (cI, 6, .inl v_rocks))]) sz) (qRi R) 0 0 (fun _ => False) := by
  refine q_met_r (cc := cX12_told) (own := RX12) (maxL := 4) (ret := (some .int)) (lv0 := [(0, .ref o), (1, .int p1)]) (by decide) rfl rfl rfl (Nat.le_of_ble_eq_true rfl) ?_
  intro p e s m args below meth c C hr A A' Q hA0 hQ
  have lk0 : Cond.fieldLink RX12 69 "SealStraitModel" "signs" "I" ∈ wsX12_told := by decide +kernel
  have lk1 : ∀ w ∈ u_ws RX12 TX12 22, w ∈ wsX12_told := fun w h => List.mem_cons_of_mem _ (List.mem_append_right _ h)
  have lk2 : Cond.fieldLink RX12 7 "SealStraitModel" "book" "[I" ∈ wsX12_told := by decide +kernel
  have lk3 : Cond.fieldLink RX12 156 "SealStraitModel" "counts" "I" ∈ wsX12_told := by decide +kernel
  have lk4 : Cond.fieldLink RX12 22 "SealStraitModel" "clashes" "[I" ∈ wsX12_told := by decide +kernel
  have lk5 : Cond.fieldLink RX12 19 "SealStraitModel" "words" "[I" ∈ wsX12_told := by decide +kernel
  have lk6 : Cond.fieldLink RX12 25 "SealStraitModel" "rocks" "[I" ∈ wsX12_told := by decide +kernel
  have lk7 : Cond.fieldLink RX12 16 "SealStraitModel" "moults" "[I" ∈ wsX12_told := by decide +kernel
  unfold f_Model_told at hF
  refine q_iload_n C dX12_told_0 1 rfl rfl ?_
  refine q_bipush (v := (100 : Int32)) C dX12_told_1 (by decide) ?_
  refine q_icmp_lt (tgt := 63) C dX12_told_3 (by decide) (fun c1 => ?_) (fun c1 => ?_)
  · have hF := ite_t hF c1
    refine q_iload_n C dX12_told_63 1 rfl rfl ?_
    refine q_bipush (v := (30 : Int32)) C dX12_told_64 (by decide) ?_
    refine q_icmp_lt (tgt := 95) C dX12_told_66 (by decide) (fun c2 => ?_) (fun c2 => ?_)
    · have hF := ite_t hF c2
      refine q_iload_n C dX12_told_95 1 rfl rfl ?_
      refine q_bipush (v := (10 : Int32)) C dX12_told_96 (by decide) ?_
      refine q_icmp_lt (tgt := 129) C dX12_told_98 (by decide) (fun c3 => ?_) (fun c3 => ?_)
      · have hF := ite_t hF c3
        refine q_iload_n C dX12_told_129 1 rfl rfl ?_
        by_cases c4 : p1 = (0 : Int32)
        · have hF := ite_t hF c4
          refine q_tab (tgt := 160) C dX12_told_130 0 (by rw [c4]; decide) (by decide) (by decide) rfl (by decide) ?_
          refine q_aload_n C dX12_told_160 0 rfl rfl ?_
          refine q_get (C0 := RX12) (T := TX12) (N := 22) (k0 := 8) C lk1 0 rfl rfl (by decide) lk0 rfl (v := .int v_signs) rfl dX12_told_161 ?_
          cases hF
          exact q_ireti C hA0 hr dX12_told_164 hQ
        · have hF := ite_f hF c4
          by_cases c5 : p1 = (1 : Int32)
          · have hF := ite_t hF c5
            refine q_tab (tgt := 165) C dX12_told_130 1 (by rw [c5]; decide) (by decide) (by decide) rfl (by decide) ?_
            refine q_aload_n C dX12_told_165 0 rfl rfl ?_
            refine q_get (C0 := RX12) (T := TX12) (N := 22) (k0 := 0) C lk1 0 rfl rfl (by decide) lk2 rfl (v := .ref o_book) rfl dX12_told_166 ?_
            refine q_bipush (v := (18 : Int32)) C dX12_told_169 (by decide) ?_
            refine q_iald C 1 0 rfl rfl (ix_in (by decide)) dX12_told_171 ?_
            cases hF
            exact q_ireti C hA0 hr dX12_told_172 hQ
          · have hF := ite_f hF c5
            by_cases c6 : p1 = (2 : Int32)
            · have hF := ite_t hF c6
              refine q_tab (tgt := 173) C dX12_told_130 2 (by rw [c6]; decide) (by decide) (by decide) rfl (by decide) ?_
              refine q_aload_n C dX12_told_173 0 rfl rfl ?_
              refine q_get (C0 := RX12) (T := TX12) (N := 22) (k0 := 0) C lk1 0 rfl rfl (by decide) lk2 rfl (v := .ref o_book) rfl dX12_told_174 ?_
              refine q_bipush (v := (20 : Int32)) C dX12_told_177 (by decide) ?_
              refine q_iald C 1 0 rfl rfl (ix_in (by decide)) dX12_told_179 ?_
              cases hF
              exact q_ireti C hA0 hr dX12_told_180 hQ
            · have hF := ite_f hF c6
              by_cases c7 : p1 = (3 : Int32)
              · have hF := ite_t hF c7
                refine q_tab (tgt := 181) C dX12_told_130 3 (by rw [c7]; decide) (by decide) (by decide) rfl (by decide) ?_
                refine q_aload_n C dX12_told_181 0 rfl rfl ?_
                refine q_get (C0 := RX12) (T := TX12) (N := 22) (k0 := 0) C lk1 0 rfl rfl (by decide) lk2 rfl (v := .ref o_book) rfl dX12_told_182 ?_
                refine q_bipush (v := (19 : Int32)) C dX12_told_185 (by decide) ?_
                refine q_iald C 1 0 rfl rfl (ix_in (by decide)) dX12_told_187 ?_
                cases hF
                exact q_ireti C hA0 hr dX12_told_188 hQ
              · have hF := ite_f hF c7
                refine q_tabD (tgt := 189) C dX12_told_130 (by have c4t := lv_neT c4 (show (0 : Int32).toInt = 0 by decide); have c5t := lv_neT c5 (show (1 : Int32).toInt = 1 by decide); have c6t := lv_neT c6 (show (2 : Int32).toInt = 2 by decide); have c7t := lv_neT c7 (show (3 : Int32).toInt = 3 by decide); omega) (by decide) ?_
                refine q_iload_n C dX12_told_189 1 rfl rfl ?_
                refine q_iconst (v := (4 : Int32)) C dX12_told_190 (by decide) ?_
                refine q_icmp_ne (tgt := 201) C dX12_told_191 (by decide) (fun c8 => ?_) (fun c8 => ?_)
                · have hF := ite_f hF c8
                  refine q_bipush (v := (-2 : Int32)) C dX12_told_201 (by decide) ?_
                  cases hF
                  exact q_ireti C hA0 hr dX12_told_203 hQ
                · have hF := ite_t hF c8
                  refine q_aload_n C dX12_told_194 0 rfl rfl ?_
                  refine q_get (C0 := RX12) (T := TX12) (N := 22) (k0 := 6) C lk1 0 rfl rfl (by decide) lk3 rfl (v := .int v_counts) rfl dX12_told_195 ?_
                  refine q_goto (tgt := 203) C dX12_told_198 (by decide) ?_
                  cases hF
                  exact q_ireti C hA0 hr dX12_told_203 hQ
      · have hF := ite_f hF c3
        refine q_iload_n C dX12_told_101 1 rfl rfl ?_
        refine q_bipush (v := (20 : Int32)) C dX12_told_102 (by decide) ?_
        refine q_icmp_ge (tgt := 119) C dX12_told_104 (by decide) (fun c9 => ?_) (fun c9 => ?_)
        · have hF := ite_t hF c9
          refine q_aload_n C dX12_told_119 0 rfl rfl ?_
          refine q_get (C0 := RX12) (T := TX12) (N := 22) (k0 := 4) C lk1 0 rfl rfl (by decide) lk4 rfl (v := .ref o_clashes) rfl dX12_told_120 ?_
          refine q_iload_n C dX12_told_123 1 rfl rfl ?_
          refine q_bipush (v := (20 : Int32)) C dX12_told_124 (by decide) ?_
          refine q_isub C dX12_told_126 ?_
          obtain ⟨hc10, hF⟩ := ite_c hF
          refine q_iald C 4 0 rfl rfl (ix_in hc10) dX12_told_127 ?_
          cases hF
          exact q_ireti C hA0 hr dX12_told_128 hQ
        · have hF := ite_f hF c9
          refine q_aload_n C dX12_told_107 0 rfl rfl ?_
          refine q_get (C0 := RX12) (T := TX12) (N := 22) (k0 := 3) C lk1 0 rfl rfl (by decide) lk5 rfl (v := .ref o_words) rfl dX12_told_108 ?_
          refine q_iload_n C dX12_told_111 1 rfl rfl ?_
          refine q_bipush (v := (10 : Int32)) C dX12_told_112 (by decide) ?_
          refine q_isub C dX12_told_114 ?_
          obtain ⟨hc11, hF⟩ := ite_c hF
          refine q_iald C 3 0 rfl rfl (ix_in hc11) dX12_told_115 ?_
          refine q_goto (tgt := 128) C dX12_told_116 (by decide) ?_
          cases hF
          exact q_ireti C hA0 hr dX12_told_128 hQ
    · have hF := ite_f hF c2
      refine q_iload_n C dX12_told_69 1 rfl rfl ?_
      refine q_bipush (v := (30 : Int32)) C dX12_told_70 (by decide) ?_
      refine q_bipush (v := (35 : Int32)) C dX12_told_72 (by decide) ?_
      refine q_roz (q_runS (As := [.int p1, .int (30 : Int32), .int (35 : Int32)]) (rest := []) C (fun sz => c_X12_in l dC dI cI cZ cQ p1 (30 : Int32) (35 : Int32) (f_Model_in p1 (30 : Int32) (35 : Int32)) rfl sz) (va_cwS 3 C.2.2.2.2.1 gX12_told_X12_in rfl rfl rfl (by decide +kernel) ⟨Nat.le_of_ble_eq_true rfl, Nat.le_of_ble_eq_true rfl⟩) [] rfl rfl rfl rfl (Nat.le_of_ble_eq_true rfl) dX12_told_74 ⟨Nat.zero_le _, Nat.zero_le _⟩) (fun hz12 => ?_)
      refine q_if_eq (tgt := 92) C dX12_told_77 (by decide) (fun c13 => ?_) (fun c13 => ?_)
      · have hF := ite_t hF c13
        refine q_bipush (v := (-2 : Int32)) C dX12_told_92 (by decide) ?_
        cases hF
        exact q_ireti C hA0 hr dX12_told_94 hQ
      · have hF := ite_f hF c13
        refine q_aload_n C dX12_told_80 0 rfl rfl ?_
        refine q_get (C0 := RX12) (T := TX12) (N := 22) (k0 := 5) C lk1 0 rfl rfl (by decide) lk6 rfl (v := .ref o_rocks) rfl dX12_told_81 ?_
        refine q_iload_n C dX12_told_84 1 rfl rfl ?_
        refine q_bipush (v := (30 : Int32)) C dX12_told_85 (by decide) ?_
        refine q_isub C dX12_told_87 ?_
        obtain ⟨hc14, hF⟩ := ite_c hF
        refine q_iald C 5 0 rfl rfl (ix_in hc14) dX12_told_88 ?_
        refine q_goto (tgt := 94) C dX12_told_89 (by decide) ?_
        cases hF
        exact q_ireti C hA0 hr dX12_told_94 hQ
  · have hF := ite_f hF c1
    refine q_iload_n C dX12_told_6 1 rfl rfl ?_
    refine q_bipush (v := (10 : Int32)) C dX12_told_7 (by decide) ?_
    refine q_idiv C dX12_told_9 (by decide) ?_
    refine q_bipush (v := (10 : Int32)) C dX12_told_10 (by decide) ?_
    refine q_isub C dX12_told_12 ?_
    refine q_istore_n C ([(2, .int ((p1 / (10 : Int32)) - (10 : Int32))), (0, .ref o), (1, .int p1)]) dX12_told_13 rfl (by decide) rfl ?_
    refine q_iload_n C dX12_told_14 2 rfl rfl ?_
    refine q_bipush (v := (10 : Int32)) C dX12_told_15 (by decide) ?_
    refine q_irem C dX12_told_17 (by decide) ?_
    refine q_istore_n C ([(3, .int (p1 - p1 / (10 : Int32) * (10 : Int32))), (2, .int ((p1 / (10 : Int32)) - (10 : Int32))), (0, .ref o), (1, .int p1)]) dX12_told_18 rfl (by decide) rfl ?_
    refine q_aload_n C dX12_told_19 2 rfl rfl ?_
    refine q_iload_n C dX12_told_20 1 rfl rfl ?_
    refine q_roz (q_runV (As := [.int ((p1 / (10 : Int32)) - (10 : Int32))]) (rest := []) C (fun sz => c_X12_isThere l dC dI cI cZ cQ o o_book o_now o_moults o_words o_clashes o_rocks o_count o_pad o_reached o_queue o_got o_wins o_image o_isKept v_book v_counts v_signs v_readMany v_signedAll v_reason v_acts v_waitUp v_waitLow ((p1 / (10 : Int32)) - (10 : Int32)) (f_Model_isThere v_book ((p1 / (10 : Int32)) - (10 : Int32))) rfl sz) (cwV 1 C.2.2.2.2.1 gX12_told_X12_isThere rfl rfl rfl (by decide +kernel) ⟨Nat.le_of_ble_eq_true rfl, Nat.le_of_ble_eq_true rfl⟩) 0 rfl rfl rfl [0, 1] rfl rfl rfl rfl (Nat.le_of_ble_eq_true rfl) dX12_told_21 ⟨Nat.zero_le _, Nat.zero_le _⟩) (fun hz15 => ?_)
    refine q_if_eq (tgt := 32) C dX12_told_24 (by decide) (fun c16 => ?_) (fun c16 => ?_)
    · have hF := ite_t hF c16
      refine q_bipush (v := (-2 : Int32)) C dX12_told_32 (by decide) ?_
      refine q_goto (tgt := 62) C dX12_told_34 (by decide) ?_
      cases hF
      exact q_ireti C hA0 hr dX12_told_62 hQ
    · have hF := ite_f hF c16
      refine q_iload_n C dX12_told_27 0 rfl rfl ?_
      refine q_iconst (v := (3 : Int32)) C dX12_told_28 (by decide) ?_
      refine q_icmp_le (tgt := 37) C dX12_told_29 (by decide) (fun c17 => ?_) (fun c17 => ?_)
      · have hF := ite_t hF c17
        refine q_iload_n C dX12_told_37 0 rfl rfl ?_
        refine q_iconst (v := (3 : Int32)) C dX12_told_38 (by decide) ?_
        refine q_icmp_ne (tgt := 51) C dX12_told_39 (by decide) (fun c18 => ?_) (fun c18 => ?_)
        · have hF := ite_f hF c18
          refine q_aload_n C dX12_told_51 2 rfl rfl ?_
          refine q_get (C0 := RX12) (T := TX12) (N := 22) (k0 := 0) C lk1 0 rfl rfl (by decide) lk2 rfl (v := .ref o_book) rfl dX12_told_52 ?_
          refine q_bipush (v := (6 : Int32)) C dX12_told_55 (by decide) ?_
          refine q_iload_n C dX12_told_57 0 rfl rfl ?_
          refine q_imul C dX12_told_58 ?_
          refine q_iload_n C dX12_told_59 1 rfl rfl ?_
          refine q_iadd C dX12_told_60 ?_
          obtain ⟨hc19, hF⟩ := ite_c hF
          refine q_iald C 1 0 rfl rfl (ix_in hc19) dX12_told_61 ?_
          cases hF
          exact q_ireti C hA0 hr dX12_told_62 hQ
        · have hF := ite_t hF c18
          refine q_aload_n C dX12_told_42 2 rfl rfl ?_
          refine q_get (C0 := RX12) (T := TX12) (N := 22) (k0 := 2) C lk1 0 rfl rfl (by decide) lk7 rfl (v := .ref o_moults) rfl dX12_told_43 ?_
          refine q_iload_n C dX12_told_46 1 rfl rfl ?_
          obtain ⟨hc20, hF⟩ := ite_c hF
          refine q_iald C 2 0 rfl rfl (ix_in hc20) dX12_told_47 ?_
          refine q_goto (tgt := 62) C dX12_told_48 (by decide) ?_
          cases hF
          exact q_ireti C hA0 hr dX12_told_62 hQ
      · have hF := ite_f hF c17
        refine q_bipush (v := (-2 : Int32)) C dX12_told_32 (by decide) ?_
        refine q_goto (tgt := 62) C dX12_told_34 (by decide) ?_
        cases hF
        exact q_ireti C hA0 hr dX12_told_62 hQ
