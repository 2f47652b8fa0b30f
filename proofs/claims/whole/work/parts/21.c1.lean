set_option maxRecDepth 100000 in
set_option maxHeartbeats 4000000 in
theorem c_X1_placeOf (l : Launch) (dC : Nat → ClassId) (dI : Nat → Nat → Nat) (cI cZ cQ : ClassId) (b1 b1_sides b1_moods b1_heads b1_moults : Nat) (v_a1_there : Int32) (v_a1_sides : Nat → Int32) (v_a1_moods : Nat → Int32) (v_a1_month : Int32) (v_a1_lost : Int32) (p2 : Int32) (R : Int32) (hF : f_Bringing_placeOf v_a1_there v_a1_sides v_a1_moods p2 = some R) (sz : Nat) : Met l yX1_placeOf wsX1_placeOf ({ frames := 1, cells := 0, slots := 0, locals := 21 } : Room) (qPc ([.ref b1, .int p2]) (dC, dI) (qT cI cZ cQ) ([(b1, .inr (8, [.int v_a1_there, .int v_a1_month, .int v_a1_lost, .ref b1_heads, .ref b1_sides, .ref b1_moods, .ref b1_moults])), (b1_sides, .inl (cI, 6, .inl v_a1_sides)), (b1_moods, .inl (cI, 6, .inl v_a1_moods))]) sz) (qRi R) 0 0 (fun _ => False) := by
  refine q_met_r (cc := cX1_placeOf) (own := RX1) (maxL := 2) (ret := (some .int)) (lv0 := [(0, .ref b1), (1, .int p2)]) (by decide) rfl rfl rfl (Nat.le_of_ble_eq_true rfl) ?_
  intro p e s m args below meth c C hr A A' Q hA0 hQ
  have lk0 : Cond.fieldLink RX1 79 "SealStrait$Sea" "sides" "[I" ∈ wsX1_placeOf := by decide +kernel
  have lk1 : ∀ w ∈ u_ws RX8 TX8 7, w ∈ wsX1_placeOf := fun w h => List.mem_cons_of_mem _ (List.mem_append_right _ h)
  have lk2 : Cond.fieldLink RX1 82 "SealStrait$Sea" "moods" "[I" ∈ wsX1_placeOf := by decide +kernel
  unfold f_Bringing_placeOf at hF
  refine q_aload_n C dX1_placeOf_0 0 rfl rfl ?_
  refine q_iload_n C dX1_placeOf_1 1 rfl rfl ?_
  refine q_roz (q_runV (As := [.int p2]) (rest := []) C (fun sz => c_X8_isThere l dC dI cI cZ cQ b1 b1_heads b1_sides b1_moods b1_moults v_a1_there v_a1_month v_a1_lost p2 (f_Sea_isThere v_a1_there p2) rfl sz) (cwV 1 C.2.2.2.2.1 gX1_placeOf_X8_isThere rfl rfl rfl (by decide +kernel) ⟨Nat.le_of_ble_eq_true rfl, Nat.le_of_ble_eq_true rfl⟩) 0 rfl rfl rfl [0] rfl rfl rfl rfl (Nat.le_of_ble_eq_true rfl) dX1_placeOf_2 ⟨Nat.zero_le _, Nat.zero_le _⟩) (fun hz1 => ?_)
  refine q_if_eq (tgt := 27) C dX1_placeOf_5 (by decide) (fun c2 => ?_) (fun c2 => ?_)
  · have hF := ite_t hF c2
    refine q_iconst (v := (0 : Int32)) C dX1_placeOf_27 (by decide) ?_
    cases hF
    exact q_ireti C hA0 hr dX1_placeOf_28 hQ
  · have hF := ite_f hF c2
    refine q_aload_n C dX1_placeOf_8 0 rfl rfl ?_
    refine q_get (C0 := RX8) (T := TX8) (N := 7) (k0 := 4) C lk1 0 rfl rfl (by decide) lk0 rfl (v := .ref b1_sides) rfl dX1_placeOf_9 ?_
    refine q_iload_n C dX1_placeOf_12 1 rfl rfl ?_
    obtain ⟨hc3, hF⟩ := ite_c hF
    refine q_iald C 1 0 rfl rfl (ix_in hc3) dX1_placeOf_13 ?_
    refine q_bipush (v := (10 : Int32)) C dX1_placeOf_14 (by decide) ?_
    refine q_imul C dX1_placeOf_16 ?_
    refine q_aload_n C dX1_placeOf_17 0 rfl rfl ?_
    refine q_get (C0 := RX8) (T := TX8) (N := 7) (k0 := 5) C lk1 0 rfl rfl (by decide) lk2 rfl (v := .ref b1_moods) rfl dX1_placeOf_18 ?_
    refine q_iload_n C dX1_placeOf_21 1 rfl rfl ?_
    obtain ⟨hc4, hF⟩ := ite_c hF
    refine q_iald C 2 0 rfl rfl (ix_in hc4) dX1_placeOf_22 ?_
    refine q_iadd C dX1_placeOf_23 ?_
    refine q_goto (tgt := 28) C dX1_placeOf_24 (by decide) ?_
    cases hF
    exact q_ireti C hA0 hr dX1_placeOf_28 hQ
set_option maxRecDepth 100000 in
set_option maxHeartbeats 4000000 in
theorem c_X1_reach (l : Launch) (dC : Nat → ClassId) (dI : Nat → Nat → Nat) (cI cZ cQ : ClassId) (o o_steps o_firsts o_queue : Nat) (v_steps : Nat → Int32) (v_firsts : Nat → Int32) (v_queue : Nat → Int32) (v_size : Int32) (v_oneListens : Int32) (v_otherListens : Int32) (v_fewest : Int32) (v_firstClause : Int32) (p1 : Int32) (p2 : Int32) (p3 : Int32) (w_steps : Nat → Int32) (w_firsts : Nat → Int32) (w_queue : Nat → Int32) (w_size : Int32) (hF : f_Bringing_reach v_steps v_firsts v_queue v_size p1 p2 p3 = some (w_steps, w_firsts, w_queue, w_size)) (sz : Nat) : Met l yX1_reach wsX1_reach ({ frames := 1, cells := 0, slots := 0, locals := 22 } : Room) (qPc ([.ref o, .int p1, .int p2, .int p3]) (dC, dI) (qT cI cZ cQ) ([(o, .inr (1, [.ref o_steps, .ref o_firsts, .ref o_queue, .int v_size, .int v_oneListens, .int v_otherListens, .int v_fewest, .int v_firstClause])), (o_steps, .inl (cI, 400, .inl v_steps)), (o_firsts, .inl (cI, 400, .inl v_firsts)), (o_queue, .inl (cI, 400, .inl v_queue))]) sz) (qWv (dC, dI) ([(o, .inr (1, [.ref o_steps, .ref o_firsts, .ref o_queue, .int w_size, .int v_oneListens, .int v_otherListens, .int v_fewest, .int v_firstClause])), (o_steps, .inl (cI, 400, .inl w_steps)), (o_firsts, .inl (cI, 400, .inl w_firsts)), (o_queue, .inl (cI, 400, .inl w_queue))]) (va_A ([(o, .inr (1, [.ref o_steps, .ref o_firsts, .ref o_queue, .int v_size, .int v_oneListens, .int v_otherListens, .int v_fewest, .int v_firstClause])), (o_steps, .inl (cI, 400, .inl v_steps)), (o_firsts, .inl (cI, 400, .inl v_firsts)), (o_queue, .inl (cI, 400, .inl v_queue))]) sz)) 0 0 (va_A ([(o, .inr (1, [.ref o_steps, .ref o_firsts, .ref o_queue, .int v_size, .int v_oneListens, .int v_otherListens, .int v_fewest, .int v_firstClause])), (o_steps, .inl (cI, 400, .inl v_steps)), (o_firsts, .inl (cI, 400, .inl v_firsts)), (o_queue, .inl (cI, 400, .inl v_queue))]) sz) := by
  refine q_met_w (Qc := fun A => qWv (dC, dI) ([(o, .inr (1, [.ref o_steps, .ref o_firsts, .ref o_queue, .int w_size, .int v_oneListens, .int v_otherListens, .int v_fewest, .int v_firstClause])), (o_steps, .inl (cI, 400, .inl w_steps)), (o_firsts, .inl (cI, 400, .inl w_firsts)), (o_queue, .inl (cI, 400, .inl w_queue))]) A) (cc := cX1_reach) (own := RX1) (maxL := 4) (ret := none) (lv0 := [(0, .ref o), (1, .int p1), (2, .int p2), (3, .int p3)]) (by decide) rfl rfl rfl (Nat.le_of_ble_eq_true rfl) ?_
  intro p e s m args below meth c A hA C hr hnm Q hQ
  have lk0 : Cond.initialized RX11 ∈ wsX1_reach := by decide +kernel
  have lk1 : Cond.static yX11_within ∈ wsX1_reach := by decide +kernel
  have lk2 : (RX1, 58, yX11_within) ∈ qNest := by decide +kernel
  have lk3 : Cond.fieldLink RX1 27 "SealStrait$Bringing" "size" "I" ∈ wsX1_reach := by decide +kernel
  have lk4 : ∀ w ∈ u_ws RX1 TX1 8, w ∈ wsX1_reach := fun w h => List.mem_cons_of_mem _ (List.mem_append_right _ h)
  have lk5 : Cond.fieldLink RX1 11 "SealStrait$Bringing" "steps" "[I" ∈ wsX1_reach := by decide +kernel
  have lk6 : Cond.fieldLink RX1 15 "SealStrait$Bringing" "firsts" "[I" ∈ wsX1_reach := by decide +kernel
  have lk7 : Cond.fieldLink RX1 18 "SealStrait$Bringing" "queue" "[I" ∈ wsX1_reach := by decide +kernel
  unfold f_Bringing_reach at hF
  refine q_iload_n C dX1_reach_0 1 rfl rfl ?_
  refine q_iconst (v := (0 : Int32)) C dX1_reach_1 (by decide) ?_
  refine q_sipush (v := (399 : Int32)) C dX1_reach_2 (by decide) ?_
  refine q_roz (q_runSN (As := [.int p1, .int (0 : Int32), .int (399 : Int32)]) (rest := []) (n := 3) C (fun sz => c_X11_within l dC dI cI cZ cQ p1 (0 : Int32) (399 : Int32) (f_Strait_within p1 (0 : Int32) (399 : Int32)) rfl sz) gX1_reach_X11_within_n58 rfl rfl rfl lk2 lk0 lk1 (by decide +kernel) ⟨Nat.le_of_ble_eq_true rfl, Nat.le_of_ble_eq_true rfl⟩ [] rfl rfl rfl rfl (Nat.le_of_ble_eq_true rfl) dX1_reach_5 ⟨Nat.zero_le _, Nat.zero_le _⟩) (fun hz1 => ?_)
  refine q_if_eq (tgt := 32) C dX1_reach_8 (by decide) (fun c2 => ?_) (fun c2 => ?_)
  · have hF := ite_t hF c2
    cases hF
    exact q_wretv C hr dX1_reach_32 hQ
  · have hF := ite_f hF c2
    refine q_aload_n C dX1_reach_11 0 rfl rfl ?_
    refine q_get (C0 := RX1) (T := TX1) (N := 8) (k0 := 3) C lk4 0 rfl rfl (by decide) lk3 rfl (v := .int v_size) rfl dX1_reach_12 ?_
    refine q_sipush (v := (400 : Int32)) C dX1_reach_15 (by decide) ?_
    refine q_icmp_ge (tgt := 32) C dX1_reach_18 (by decide) (fun c3 => ?_) (fun c3 => ?_)
    · have hF := ite_t hF c3
      cases hF
      exact q_wretv C hr dX1_reach_32 hQ
    · have hF := ite_f hF c3
      refine q_aload_n C dX1_reach_21 0 rfl rfl ?_
      refine q_get (C0 := RX1) (T := TX1) (N := 8) (k0 := 0) C lk4 0 rfl rfl (by decide) lk5 rfl (v := .ref o_steps) rfl dX1_reach_22 ?_
      refine q_iload_n C dX1_reach_25 1 rfl rfl ?_
      obtain ⟨hc4, hF⟩ := ite_c hF
      refine q_iald C 1 0 rfl rfl (ix_in hc4) dX1_reach_26 ?_
      refine q_bipush (v := (-6 : Int32)) C dX1_reach_27 (by decide) ?_
      refine q_icmp_eq (tgt := 33) C dX1_reach_29 (by decide) (fun c5 => ?_) (fun c5 => ?_)
      · have hF := ite_t hF c5
        refine q_aload_n C dX1_reach_33 0 rfl rfl ?_
        refine q_get (C0 := RX1) (T := TX1) (N := 8) (k0 := 0) C lk4 0 rfl rfl (by decide) lk5 rfl (v := .ref o_steps) rfl dX1_reach_34 ?_
        refine q_iload_n C dX1_reach_37 1 rfl rfl ?_
        refine q_iload_n C dX1_reach_38 2 rfl rfl ?_
        obtain ⟨hc6, hF⟩ := ite_c hF
        refine q_iast C 1 0 rfl rfl (ix_in hc6) ([(o, .inr (1, [.ref o_steps, .ref o_firsts, .ref o_queue, .int v_size, .int v_oneListens, .int v_otherListens, .int v_fewest, .int v_firstClause])), (o_steps, .inl (cI, 400, .inl (upd v_steps (p1).toNatClampNeg p2))), (o_firsts, .inl (cI, 400, .inl v_firsts)), (o_queue, .inl (cI, 400, .inl v_queue))]) rfl dX1_reach_39 ?_
        refine q_aload_n C dX1_reach_40 0 rfl rfl ?_
        refine q_get (C0 := RX1) (T := TX1) (N := 8) (k0 := 1) C lk4 0 rfl rfl (by decide) lk6 rfl (v := .ref o_firsts) rfl dX1_reach_41 ?_
        refine q_iload_n C dX1_reach_44 1 rfl rfl ?_
        refine q_iload_n C dX1_reach_45 3 rfl rfl ?_
        obtain ⟨hc7, hF⟩ := ite_c hF
        refine q_iast C 2 0 rfl rfl (ix_in hc7) ([(o, .inr (1, [.ref o_steps, .ref o_firsts, .ref o_queue, .int v_size, .int v_oneListens, .int v_otherListens, .int v_fewest, .int v_firstClause])), (o_steps, .inl (cI, 400, .inl (upd v_steps (p1).toNatClampNeg p2))), (o_firsts, .inl (cI, 400, .inl (upd v_firsts (p1).toNatClampNeg p3))), (o_queue, .inl (cI, 400, .inl v_queue))]) rfl dX1_reach_46 ?_
        refine q_aload_n C dX1_reach_47 0 rfl rfl ?_
        refine q_get (C0 := RX1) (T := TX1) (N := 8) (k0 := 2) C lk4 0 rfl rfl (by decide) lk7 rfl (v := .ref o_queue) rfl dX1_reach_48 ?_
        refine q_aload_n C dX1_reach_51 0 rfl rfl ?_
        refine q_get (C0 := RX1) (T := TX1) (N := 8) (k0 := 3) C lk4 0 rfl rfl (by decide) lk3 rfl (v := .int v_size) rfl dX1_reach_52 ?_
        refine q_iload_n C dX1_reach_55 1 rfl rfl ?_
        obtain ⟨hc8, hF⟩ := ite_c hF
        refine q_iast C 3 0 rfl rfl (ix_in hc8) ([(o, .inr (1, [.ref o_steps, .ref o_firsts, .ref o_queue, .int v_size, .int v_oneListens, .int v_otherListens, .int v_fewest, .int v_firstClause])), (o_steps, .inl (cI, 400, .inl (upd v_steps (p1).toNatClampNeg p2))), (o_firsts, .inl (cI, 400, .inl (upd v_firsts (p1).toNatClampNeg p3))), (o_queue, .inl (cI, 400, .inl (upd v_queue (v_size).toNatClampNeg p1)))]) rfl dX1_reach_56 ?_
        refine q_aload_n C dX1_reach_57 0 rfl rfl ?_
        refine q_dup C dX1_reach_58 rfl ?_
        refine q_get (C0 := RX1) (T := TX1) (N := 8) (k0 := 3) C lk4 0 rfl rfl (by decide) lk3 rfl (v := .int v_size) rfl dX1_reach_59 ?_
        refine q_iconst (v := (1 : Int32)) C dX1_reach_62 (by decide) ?_
        refine q_iadd C dX1_reach_63 ?_
        refine q_put (C0 := RX1) (T := TX1) (N := 8) (k0 := 3) C lk4 0 rfl rfl (by decide) lk3 rfl tyX1 tyX1_ok nmX1 rfl (v := .int (v_size + (1 : Int32))) rfl rfl (Nat.le_of_ble_eq_true rfl) ([(o, .inr (1, [.ref o_steps, .ref o_firsts, .ref o_queue, .int (v_size + (1 : Int32)), .int v_oneListens, .int v_otherListens, .int v_fewest, .int v_firstClause])), (o_steps, .inl (cI, 400, .inl (upd v_steps (p1).toNatClampNeg p2))), (o_firsts, .inl (cI, 400, .inl (upd v_firsts (p1).toNatClampNeg p3))), (o_queue, .inl (cI, 400, .inl (upd v_queue (v_size).toNatClampNeg p1)))]) rfl dX1_reach_64 ?_
        cases hF
        exact q_wretv C hr dX1_reach_67 hQ
      · have hF := ite_f hF c5
        cases hF
        exact q_wretv C hr dX1_reach_32 hQ
set_option maxRecDepth 100000 in
set_option maxHeartbeats 4000000 in
theorem c_X1_begin (l : Launch) (dC : Nat → ClassId) (dI : Nat → Nat → Nat) (cI cZ cQ : ClassId) (o o_steps o_firsts o_queue b1 b1_heads b1_sides b1_moods b1_moults : Nat) (v_steps : Nat → Int32) (v_firsts : Nat → Int32) (v_queue : Nat → Int32) (v_size : Int32) (v_oneListens : Int32) (v_otherListens : Int32) (v_a1_there : Int32) (v_a1_month : Int32) (v_a1_heads : Nat → Int32) (v_a1_sides : Nat → Int32) (v_a1_moods : Nat → Int32) (v_a1_moults : Nat → Int32) (v_fewest : Int32) (v_firstClause : Int32) (v_a1_lost : Int32) (p2 : Int32) (p3 : Int32) (w_steps : Nat → Int32) (w_firsts : Nat → Int32) (w_queue : Nat → Int32) (w_size : Int32) (w_oneListens : Int32) (w_otherListens : Int32) (hF : f_Bringing_begin v_steps v_firsts v_queue v_size v_oneListens v_otherListens v_a1_there v_a1_month v_a1_heads v_a1_sides v_a1_moods v_a1_moults p2 p3 = some (w_steps, w_firsts, w_queue, w_size, w_oneListens, w_otherListens)) (sz : Nat) : Met l yX1_begin wsX1_begin ({ frames := 2, cells := 0, slots := 0, locals := 45 } : Room) (qPc ([.ref o, .ref b1, .int p2, .int p3]) (dC, dI) (qT cI cZ cQ) ([(o, .inr (1, [.ref o_steps, .ref o_firsts, .ref o_queue, .int v_size, .int v_oneListens, .int v_otherListens, .int v_fewest, .int v_firstClause])), (o_steps, .inl (cI, 400, .inl v_steps)), (o_firsts, .inl (cI, 400, .inl v_firsts)), (o_queue, .inl (cI, 400, .inl v_queue)), (b1, .inr (8, [.int v_a1_there, .int v_a1_month, .int v_a1_lost, .ref b1_heads, .ref b1_sides, .ref b1_moods, .ref b1_moults])), (b1_heads, .inl (cI, 6, .inl v_a1_heads)), (b1_sides, .inl (cI, 6, .inl v_a1_sides)), (b1_moods, .inl (cI, 6, .inl v_a1_moods)), (b1_moults, .inl (cI, 6, .inl v_a1_moults))]) sz) (qWv (dC, dI) ([(o, .inr (1, [.ref o_steps, .ref o_firsts, .ref o_queue, .int w_size, .int w_oneListens, .int w_otherListens, .int v_fewest, .int v_firstClause])), (o_steps, .inl (cI, 400, .inl w_steps)), (o_firsts, .inl (cI, 400, .inl w_firsts)), (o_queue, .inl (cI, 400, .inl w_queue)), (b1, .inr (8, [.int v_a1_there, .int v_a1_month, .int v_a1_lost, .ref b1_heads, .ref b1_sides, .ref b1_moods, .ref b1_moults])), (b1_heads, .inl (cI, 6, .inl v_a1_heads)), (b1_sides, .inl (cI, 6, .inl v_a1_sides)), (b1_moods, .inl (cI, 6, .inl v_a1_moods)), (b1_moults, .inl (cI, 6, .inl v_a1_moults))]) (va_A ([(o, .inr (1, [.ref o_steps, .ref o_firsts, .ref o_queue, .int v_size, .int v_oneListens, .int v_otherListens, .int v_fewest, .int v_firstClause])), (o_steps, .inl (cI, 400, .inl v_steps)), (o_firsts, .inl (cI, 400, .inl v_firsts)), (o_queue, .inl (cI, 400, .inl v_queue)), (b1, .inr (8, [.int v_a1_there, .int v_a1_month, .int v_a1_lost, .ref b1_heads, .ref b1_sides, .ref b1_moods, .ref b1_moults])), (b1_heads, .inl (cI, 6, .inl v_a1_heads)), (b1_sides, .inl (cI, 6, .inl v_a1_sides)), (b1_moods, .inl (cI, 6, .inl v_a1_moods)), (b1_moults, .inl (cI, 6, .inl v_a1_moults))]) sz)) 0 0 (va_A ([(o, .inr (1, [.ref o_steps, .ref o_firsts, .ref o_queue, .int v_size, .int v_oneListens, .int v_otherListens, .int v_fewest, .int v_firstClause])), (o_steps, .inl (cI, 400, .inl v_steps)), (o_firsts, .inl (cI, 400, .inl v_firsts)), (o_queue, .inl (cI, 400, .inl v_queue)), (b1, .inr (8, [.int v_a1_there, .int v_a1_month, .int v_a1_lost, .ref b1_heads, .ref b1_sides, .ref b1_moods, .ref b1_moults])), (b1_heads, .inl (cI, 6, .inl v_a1_heads)), (b1_sides, .inl (cI, 6, .inl v_a1_sides)), (b1_moods, .inl (cI, 6, .inl v_a1_moods)), (b1_moults, .inl (cI, 6, .inl v_a1_moults))]) sz) := by
  refine q_met_w (Qc := fun A => qWv (dC, dI) ([(o, .inr (1, [.ref o_steps, .ref o_firsts, .ref o_queue, .int w_size, .int w_oneListens, .int w_otherListens, .int v_fewest, .int v_firstClause])), (o_steps, .inl (cI, 400, .inl w_steps)), (o_firsts, .inl (cI, 400, .inl w_firsts)), (o_queue, .inl (cI, 400, .inl w_queue)), (b1, .inr (8, [.int v_a1_there, .int v_a1_month, .int v_a1_lost, .ref b1_heads, .ref b1_sides, .ref b1_moods, .ref b1_moults])), (b1_heads, .inl (cI, 6, .inl v_a1_heads)), (b1_sides, .inl (cI, 6, .inl v_a1_sides)), (b1_moods, .inl (cI, 6, .inl v_a1_moods)), (b1_moults, .inl (cI, 6, .inl v_a1_moults))]) A) (cc := cX1_begin) (own := RX1) (maxL := 4) (ret := none) (lv0 := [(0, .ref o), (1, .ref b1), (2, .int p2), (3, .int p3)]) (by decide) rfl rfl rfl (Nat.le_of_ble_eq_true rfl) ?_
  intro p e s m args below meth c A hA C hr hnm Q hQ
  have lk0 : Cond.fieldLink RX1 11 "SealStrait$Bringing" "steps" "[I" ∈ wsX1_begin := by decide +kernel
  have lk1 : ∀ w ∈ u_ws RX1 TX1 8, w ∈ wsX1_begin := fun w h => List.mem_cons_of_mem _ (List.mem_append_left _ (List.mem_append_right _ h))
  have lk2 : Cond.fieldLink RX1 27 "SealStrait$Bringing" "size" "I" ∈ wsX1_begin := by decide +kernel
  have lk3 : Cond.fieldLink RX1 37 "SealStrait$Bringing" "oneListens" "Z" ∈ wsX1_begin := by decide +kernel
  have lk4 : Cond.fieldLink RX1 41 "SealStrait$Bringing" "otherListens" "Z" ∈ wsX1_begin := by decide +kernel
  unfold f_Bringing_begin at hF
  refine q_aload_n C dX1_begin_0 0 rfl rfl ?_
  refine q_get (C0 := RX1) (T := TX1) (N := 8) (k0 := 0) C lk1 0 rfl rfl (by decide) lk0 rfl (v := .ref o_steps) rfl dX1_begin_1 ?_
  refine q_bipush (v := (-6 : Int32)) C dX1_begin_4 (by decide) ?_
  obtain ⟨u1_a1, hc2, hF⟩ := bind_c hF
  refine q_rwv hA ([(o, .inr (1, [.ref o_steps, .ref o_firsts, .ref o_queue, .int v_size, .int v_oneListens, .int v_otherListens, .int v_fewest, .int v_firstClause])), (o_steps, .inl (cI, 400, .inl u1_a1)), (o_firsts, .inl (cI, 400, .inl v_firsts)), (o_queue, .inl (cI, 400, .inl v_queue)), (b1, .inr (8, [.int v_a1_there, .int v_a1_month, .int v_a1_lost, .ref b1_heads, .ref b1_sides, .ref b1_moods, .ref b1_moults])), (b1_heads, .inl (cI, 6, .inl v_a1_heads)), (b1_sides, .inl (cI, 6, .inl v_a1_sides)), (b1_moods, .inl (cI, 6, .inl v_a1_moods)), (b1_moults, .inl (cI, 6, .inl v_a1_moults))]) [1] [0, 2, 3, 4, 5, 6, 7, 8] rfl rfl rfl (by decide) [0, 8, 1, 2, 3, 4, 5, 6, 7] rfl rfl (q_runS (As := [.ref o_steps, .int (-6 : Int32)]) (rest := []) C (fun sz => c_J7_fill_53178 l dC dI cI cZ cQ o_steps 400 v_steps (-6 : Int32) u1_a1 hc2 sz) (va_cwS 2 C.2.2.2.2.1 gX1_begin_J7_fill_53178 rfl rfl rfl (by decide +kernel) ⟨Nat.le_of_ble_eq_true rfl, Nat.le_of_ble_eq_true rfl⟩) [1] rfl rfl rfl rfl (Nat.le_of_ble_eq_true rfl) dX1_begin_6 ⟨Nat.zero_le _, Nat.zero_le _⟩) ?_
  refine q_aload_n C dX1_begin_9 0 rfl rfl ?_
  refine q_iconst (v := (0 : Int32)) C dX1_begin_10 (by decide) ?_
  refine q_put (C0 := RX1) (T := TX1) (N := 8) (k0 := 3) C lk1 0 rfl rfl (by decide) lk2 rfl tyX1 tyX1_ok nmX1 rfl (v := .int (0 : Int32)) rfl rfl (Nat.le_of_ble_eq_true rfl) ([(o, .inr (1, [.ref o_steps, .ref o_firsts, .ref o_queue, .int (0 : Int32), .int v_oneListens, .int v_otherListens, .int v_fewest, .int v_firstClause])), (o_steps, .inl (cI, 400, .inl u1_a1)), (o_firsts, .inl (cI, 400, .inl v_firsts)), (o_queue, .inl (cI, 400, .inl v_queue)), (b1, .inr (8, [.int v_a1_there, .int v_a1_month, .int v_a1_lost, .ref b1_heads, .ref b1_sides, .ref b1_moods, .ref b1_moults])), (b1_heads, .inl (cI, 6, .inl v_a1_heads)), (b1_sides, .inl (cI, 6, .inl v_a1_sides)), (b1_moods, .inl (cI, 6, .inl v_a1_moods)), (b1_moults, .inl (cI, 6, .inl v_a1_moults))]) rfl dX1_begin_11 ?_
  refine q_aload_n C dX1_begin_14 0 rfl rfl ?_
  refine q_aload_n C dX1_begin_15 1 rfl rfl ?_
  refine q_iload_n C dX1_begin_16 2 rfl rfl ?_
  obtain ⟨r3, hc4, hF⟩ := bind_c hF
  refine q_roz (q_runV (As := [.int p2]) (rest := [.ref o]) C (fun sz => c_X8_listens l dC dI cI cZ cQ b1 b1_heads b1_moults b1_sides b1_moods v_a1_there v_a1_month v_a1_heads v_a1_moults v_a1_lost p2 r3 hc4 sz) (cwV 1 C.2.2.2.2.1 gX1_begin_X8_listens rfl rfl rfl (by decide +kernel) ⟨Nat.le_of_ble_eq_true rfl, Nat.le_of_ble_eq_true rfl⟩) 4 rfl rfl rfl [4, 5, 8] rfl rfl rfl rfl (Nat.le_of_ble_eq_true rfl) dX1_begin_17 ⟨Nat.zero_le _, Nat.zero_le _⟩) (fun hz3 => ?_)
  refine q_put (C0 := RX1) (T := TX1) (N := 8) (k0 := 4) C lk1 0 rfl rfl (by decide) lk3 rfl tyX1 tyX1_ok nmX1 rfl (v := .int r3) (q_nb hz3) (q_fb hz3) (Nat.le_of_ble_eq_true rfl) ([(o, .inr (1, [.ref o_steps, .ref o_firsts, .ref o_queue, .int (0 : Int32), .int r3, .int v_otherListens, .int v_fewest, .int v_firstClause])), (o_steps, .inl (cI, 400, .inl u1_a1)), (o_firsts, .inl (cI, 400, .inl v_firsts)), (o_queue, .inl (cI, 400, .inl v_queue)), (b1, .inr (8, [.int v_a1_there, .int v_a1_month, .int v_a1_lost, .ref b1_heads, .ref b1_sides, .ref b1_moods, .ref b1_moults])), (b1_heads, .inl (cI, 6, .inl v_a1_heads)), (b1_sides, .inl (cI, 6, .inl v_a1_sides)), (b1_moods, .inl (cI, 6, .inl v_a1_moods)), (b1_moults, .inl (cI, 6, .inl v_a1_moults))]) rfl dX1_begin_20 ?_
  refine q_aload_n C dX1_begin_23 0 rfl rfl ?_
  refine q_aload_n C dX1_begin_24 1 rfl rfl ?_
  refine q_iload_n C dX1_begin_25 3 rfl rfl ?_
  obtain ⟨r5, hc6, hF⟩ := bind_c hF
  refine q_roz (q_runV (As := [.int p3]) (rest := [.ref o]) C (fun sz => c_X8_listens l dC dI cI cZ cQ b1 b1_heads b1_moults b1_sides b1_moods v_a1_there v_a1_month v_a1_heads v_a1_moults v_a1_lost p3 r5 hc6 sz) (cwV 1 C.2.2.2.2.1 gX1_begin_X8_listens rfl rfl rfl (by decide +kernel) ⟨Nat.le_of_ble_eq_true rfl, Nat.le_of_ble_eq_true rfl⟩) 4 rfl rfl rfl [4, 5, 8] rfl rfl rfl rfl (Nat.le_of_ble_eq_true rfl) dX1_begin_26 ⟨Nat.zero_le _, Nat.zero_le _⟩) (fun hz5 => ?_)
  refine q_put (C0 := RX1) (T := TX1) (N := 8) (k0 := 5) C lk1 0 rfl rfl (by decide) lk4 rfl tyX1 tyX1_ok nmX1 rfl (v := .int r5) (q_nb hz5) (q_fb hz5) (Nat.le_of_ble_eq_true rfl) ([(o, .inr (1, [.ref o_steps, .ref o_firsts, .ref o_queue, .int (0 : Int32), .int r3, .int r5, .int v_fewest, .int v_firstClause])), (o_steps, .inl (cI, 400, .inl u1_a1)), (o_firsts, .inl (cI, 400, .inl v_firsts)), (o_queue, .inl (cI, 400, .inl v_queue)), (b1, .inr (8, [.int v_a1_there, .int v_a1_month, .int v_a1_lost, .ref b1_heads, .ref b1_sides, .ref b1_moods, .ref b1_moults])), (b1_heads, .inl (cI, 6, .inl v_a1_heads)), (b1_sides, .inl (cI, 6, .inl v_a1_sides)), (b1_moods, .inl (cI, 6, .inl v_a1_moods)), (b1_moults, .inl (cI, 6, .inl v_a1_moults))]) rfl dX1_begin_29 ?_
  refine q_aload_n C dX1_begin_32 0 rfl rfl ?_
  refine q_aload_n C dX1_begin_33 1 rfl rfl ?_
  refine q_iload_n C dX1_begin_34 2 rfl rfl ?_
  obtain ⟨r7, hc8, hF⟩ := bind_c hF
  refine q_roi (q_runS (As := [.ref b1, .int p2]) (rest := [.ref o]) C (fun sz => c_X1_placeOf l dC dI cI cZ cQ b1 b1_sides b1_moods b1_heads b1_moults v_a1_there v_a1_sides v_a1_moods v_a1_month v_a1_lost p2 r7 hc8 sz) (va_cwS 2 C.2.2.2.2.1 gX1_begin_X1_placeOf rfl rfl rfl (by decide +kernel) ⟨Nat.le_of_ble_eq_true rfl, Nat.le_of_ble_eq_true rfl⟩) [4, 6, 7] rfl rfl rfl rfl (Nat.le_of_ble_eq_true rfl) dX1_begin_35 ⟨Nat.zero_le _, Nat.zero_le _⟩) ?_
  refine q_bipush (v := (20 : Int32)) C dX1_begin_38 (by decide) ?_
  refine q_imul C dX1_begin_40 ?_
  refine q_aload_n C dX1_begin_41 1 rfl rfl ?_
  refine q_iload_n C dX1_begin_42 3 rfl rfl ?_
  obtain ⟨r9, hc10, hF⟩ := bind_c hF
  refine q_roi (q_runS (As := [.ref b1, .int p3]) (rest := [.int (r7 * (20 : Int32)), .ref o]) C (fun sz => c_X1_placeOf l dC dI cI cZ cQ b1 b1_sides b1_moods b1_heads b1_moults v_a1_there v_a1_sides v_a1_moods v_a1_month v_a1_lost p3 r9 hc10 sz) (va_cwS 2 C.2.2.2.2.1 gX1_begin_X1_placeOf rfl rfl rfl (by decide +kernel) ⟨Nat.le_of_ble_eq_true rfl, Nat.le_of_ble_eq_true rfl⟩) [4, 6, 7] rfl rfl rfl rfl (Nat.le_of_ble_eq_true rfl) dX1_begin_43 ⟨Nat.zero_le _, Nat.zero_le _⟩) ?_
  refine q_iadd C dX1_begin_46 ?_
  refine q_iconst (v := (0 : Int32)) C dX1_begin_47 (by decide) ?_
  refine q_bipush (v := (-6 : Int32)) C dX1_begin_48 (by decide) ?_
  obtain ⟨⟨u11_steps, u11_firsts, u11_queue, u11_size⟩, hc12, hF⟩ := bind_c hF
  dsimp only at hF
  refine q_rwv hA ([(o, .inr (1, [.ref o_steps, .ref o_firsts, .ref o_queue, .int u11_size, .int r3, .int r5, .int v_fewest, .int v_firstClause])), (o_steps, .inl (cI, 400, .inl u11_steps)), (o_firsts, .inl (cI, 400, .inl u11_firsts)), (o_queue, .inl (cI, 400, .inl u11_queue)), (b1, .inr (8, [.int v_a1_there, .int v_a1_month, .int v_a1_lost, .ref b1_heads, .ref b1_sides, .ref b1_moods, .ref b1_moults])), (b1_heads, .inl (cI, 6, .inl v_a1_heads)), (b1_sides, .inl (cI, 6, .inl v_a1_sides)), (b1_moods, .inl (cI, 6, .inl v_a1_moods)), (b1_moults, .inl (cI, 6, .inl v_a1_moults))]) [0, 1, 2, 3] [4, 5, 6, 7, 8] rfl rfl rfl (by decide) [5, 6, 7, 8, 0, 1, 2, 3, 4] rfl rfl (q_runV (As := [.int ((r7 * (20 : Int32)) + r9), .int (0 : Int32), .int (-6 : Int32)]) (rest := []) C (fun sz => c_X1_reach l dC dI cI cZ cQ o o_steps o_firsts o_queue u1_a1 v_firsts v_queue (0 : Int32) r3 r5 v_fewest v_firstClause ((r7 * (20 : Int32)) + r9) (0 : Int32) (-6 : Int32) u11_steps u11_firsts u11_queue u11_size hc12 sz) (cwV 3 C.2.2.2.2.1 gX1_begin_X1_reach rfl rfl rfl (by decide +kernel) ⟨Nat.le_of_ble_eq_true rfl, Nat.le_of_ble_eq_true rfl⟩) 0 rfl rfl rfl [0, 1, 2, 3] rfl rfl rfl rfl (Nat.le_of_ble_eq_true rfl) dX1_begin_50 ⟨Nat.zero_le _, Nat.zero_le _⟩) ?_
  cases hF
  exact q_wretv C hr dX1_begin_53 hQ
set_option maxRecDepth 100000 in
set_option maxHeartbeats 4000000 in
theorem c_X1_behindReading (l : Launch) (dC : Nat → ClassId) (dI : Nat → Nat → Nat) (cI cZ cQ : ClassId) (p1 : Int32) (p2 : Int32) (p3 : Int32) (R : Int32) (hF : f_Bringing_behindReading p1 p2 p3 = R) (sz : Nat) : Met l yX1_behindReading wsX1_behindReading ({ frames := 1, cells := 0, slots := 0, locals := 21 } : Room) (qPc ([.int p1, .int p2, .int p3]) (dC, dI) (qT cI cZ cQ) ([]) sz) (qRi R) 0 0 (fun _ => False) := by
  refine q_met_r (cc := cX1_behindReading) (own := RX1) (maxL := 5) (ret := (some .int)) (lv0 := [(0, .int p1), (1, .int p2), (2, .int p3)]) (by decide) rfl rfl rfl (Nat.le_of_ble_eq_true rfl) ?_
  intro p e s m args below meth c C hr A A' Q hA0 hQ
  have lk0 : Cond.methodLink RX1 85 Lib.Math.min.name ∈ wsX1_behindReading := by decide +kernel
  have lk1 : Cond.static Lib.Math.min.name ∈ wsX1_behindReading := by decide +kernel
  have lk2 : Cond.initialized "java/lang/Math" ∈ wsX1_behindReading := by decide +kernel
  have lk3 : Cond.code Lib.Math.min.name Lib.Math.min.code 2 (some .int) ∈ wsX1_behindReading := by decide +kernel
  unfold f_Bringing_behindReading at hF
  refine q_iload_n C dX1_behindReading_0 0 rfl rfl ?_
  refine q_bipush (v := (10 : Int32)) C dX1_behindReading_1 (by decide) ?_
  refine q_idiv C dX1_behindReading_3 (by decide) ?_
  refine q_istore_n C ([(3, .int (p1 / (10 : Int32))), (0, .int p1), (1, .int p2), (2, .int p3)]) dX1_behindReading_4 rfl (by decide) rfl ?_
  refine q_iload_n C dX1_behindReading_5 1 rfl rfl ?_
  refine q_bipush (v := (10 : Int32)) C dX1_behindReading_6 (by decide) ?_
  refine q_irem C dX1_behindReading_8 (by decide) ?_
  refine q_istore C ([(4, .int (p1 - p1 / (10 : Int32) * (10 : Int32))), (3, .int (p1 / (10 : Int32))), (0, .int p1), (1, .int p2), (2, .int p3)]) dX1_behindReading_9 (by decide) rfl ?_
  refine q_iload_n C dX1_behindReading_11 4 rfl rfl ?_
  refine q_if_eq (tgt := 33) C dX1_behindReading_12 (by decide) (fun c1 => ?_) (fun c1 => ?_)
  · have hF := ite_t hF c1
    refine q_iload_n C dX1_behindReading_33 1 rfl rfl ?_
    refine q_bipush (v := (10 : Int32)) C dX1_behindReading_34 (by decide) ?_
    refine q_imul C dX1_behindReading_36 ?_
    refine q_bipush (v := (9 : Int32)) C dX1_behindReading_37 (by decide) ?_
    refine q_iload C dX1_behindReading_39 0 rfl ?_
    refine q_iconst (v := (1 : Int32)) C dX1_behindReading_41 (by decide) ?_
    refine q_iadd C dX1_behindReading_42 ?_
    refine q_mmin C lk0 lk1 lk2 lk3 (Nat.le_of_ble_eq_true rfl) (Nat.le_of_ble_eq_true rfl) (Nat.zero_le _) (Nat.zero_le _) dX1_behindReading_43 ?_
    refine q_iadd C dX1_behindReading_46 ?_
    subst hF
    exact q_ireti C hA0 hr dX1_behindReading_47 hQ
  · have hF := ite_f hF c1
    refine q_iload C dX1_behindReading_15 0 rfl ?_
    refine q_iload_n C dX1_behindReading_17 3 rfl rfl ?_
    refine q_icmp_lt (tgt := 33) C dX1_behindReading_18 (by decide) (fun c2 => ?_) (fun c2 => ?_)
    · have hF := ite_t hF c2
      refine q_iload_n C dX1_behindReading_33 1 rfl rfl ?_
      refine q_bipush (v := (10 : Int32)) C dX1_behindReading_34 (by decide) ?_
      refine q_imul C dX1_behindReading_36 ?_
      refine q_bipush (v := (9 : Int32)) C dX1_behindReading_37 (by decide) ?_
      refine q_iload C dX1_behindReading_39 0 rfl ?_
      refine q_iconst (v := (1 : Int32)) C dX1_behindReading_41 (by decide) ?_
      refine q_iadd C dX1_behindReading_42 ?_
      refine q_mmin C lk0 lk1 lk2 lk3 (Nat.le_of_ble_eq_true rfl) (Nat.le_of_ble_eq_true rfl) (Nat.zero_le _) (Nat.zero_le _) dX1_behindReading_43 ?_
      refine q_iadd C dX1_behindReading_46 ?_
      subst hF
      exact q_ireti C hA0 hr dX1_behindReading_47 hQ
    · have hF := ite_f hF c2
      refine q_iconst (v := (1 : Int32)) C dX1_behindReading_21 (by decide) ?_
      refine q_iload_n C dX1_behindReading_22 1 rfl rfl ?_
      refine q_isub C dX1_behindReading_23 ?_
      refine q_bipush (v := (10 : Int32)) C dX1_behindReading_24 (by decide) ?_
      refine q_imul C dX1_behindReading_26 ?_
      refine q_iload C dX1_behindReading_27 0 rfl ?_
      refine q_iadd C dX1_behindReading_29 ?_
      refine q_iload_n C dX1_behindReading_30 3 rfl rfl ?_
      refine q_isub C dX1_behindReading_31 ?_
      subst hF
      exact q_ireti C hA0 hr dX1_behindReading_32 hQ
set_option maxRecDepth 100000 in
set_option maxHeartbeats 4000000 in
theorem c_X1_goOnFrom (l : Launch) (dC : Nat → ClassId) (dI : Nat → Nat → Nat) (cI cZ cQ : ClassId) (o o_steps o_firsts o_queue b4 b4_words b4_clashes : Nat) (v_steps : Nat → Int32) (v_firsts : Nat → Int32) (v_queue : Nat → Int32) (v_size : Int32) (v_oneListens : Int32) (v_otherListens : Int32) (v_a4_words : Nat → Int32) (v_fewest : Int32) (v_firstClause : Int32) (p1 : Int32) (p2 : Int32) (p3 : Int32) (w_steps : Nat → Int32) (w_firsts : Nat → Int32) (w_queue : Nat → Int32) (w_size : Int32) (hF : f_Bringing_goOnFrom v_steps v_firsts v_queue v_size v_oneListens v_otherListens v_a4_words p1 p2 p3 = some (w_steps, w_firsts, w_queue, w_size)) (sz : Nat) : Met l yX1_goOnFrom wsX1_goOnFrom ({ frames := 2, cells := 0, slots := 0, locals := 45 } : Room) (qPc ([.ref o, .int p1, .int p2, .int p3, .ref b4]) (dC, dI) (qT cI cZ cQ) ([(o, .inr (1, [.ref o_steps, .ref o_firsts, .ref o_queue, .int v_size, .int v_oneListens, .int v_otherListens, .int v_fewest, .int v_firstClause])), (o_steps, .inl (cI, 400, .inl v_steps)), (o_firsts, .inl (cI, 400, .inl v_firsts)), (o_queue, .inl (cI, 400, .inl v_queue)), (b4, .inr (9, [.ref b4_words, .ref b4_clashes])), (b4_words, .inl (cI, 10, .inl v_a4_words))]) sz) (qWv (dC, dI) ([(o, .inr (1, [.ref o_steps, .ref o_firsts, .ref o_queue, .int w_size, .int v_oneListens, .int v_otherListens, .int v_fewest, .int v_firstClause])), (o_steps, .inl (cI, 400, .inl w_steps)), (o_firsts, .inl (cI, 400, .inl w_firsts)), (o_queue, .inl (cI, 400, .inl w_queue)), (b4, .inr (9, [.ref b4_words, .ref b4_clashes])), (b4_words, .inl (cI, 10, .inl v_a4_words))]) (va_A ([(o, .inr (1, [.ref o_steps, .ref o_firsts, .ref o_queue, .int v_size, .int v_oneListens, .int v_otherListens, .int v_fewest, .int v_firstClause])), (o_steps, .inl (cI, 400, .inl v_steps)), (o_firsts, .inl (cI, 400, .inl v_firsts)), (o_queue, .inl (cI, 400, .inl v_queue)), (b4, .inr (9, [.ref b4_words, .ref b4_clashes])), (b4_words, .inl (cI, 10, .inl v_a4_words))]) sz)) 0 0 (va_A ([(o, .inr (1, [.ref o_steps, .ref o_firsts, .ref o_queue, .int v_size, .int v_oneListens, .int v_otherListens, .int v_fewest, .int v_firstClause])), (o_steps, .inl (cI, 400, .inl v_steps)), (o_firsts, .inl (cI, 400, .inl v_firsts)), (o_queue, .inl (cI, 400, .inl v_queue)), (b4, .inr (9, [.ref b4_words, .ref b4_clashes])), (b4_words, .inl (cI, 10, .inl v_a4_words))]) sz) := by
  refine q_met_w (Qc := fun A => qWv (dC, dI) ([(o, .inr (1, [.ref o_steps, .ref o_firsts, .ref o_queue, .int w_size, .int v_oneListens, .int v_otherListens, .int v_fewest, .int v_firstClause])), (o_steps, .inl (cI, 400, .inl w_steps)), (o_firsts, .inl (cI, 400, .inl w_firsts)), (o_queue, .inl (cI, 400, .inl w_queue)), (b4, .inr (9, [.ref b4_words, .ref b4_clashes])), (b4_words, .inl (cI, 10, .inl v_a4_words))]) A) (cc := cX1_goOnFrom) (own := RX1) (maxL := 9) (ret := none) (lv0 := [(0, .ref o), (1, .int p1), (2, .int p2), (3, .int p3), (4, .ref b4)]) (by decide) rfl rfl rfl (Nat.le_of_ble_eq_true rfl) ?_
  intro p e s m args below meth c A hA C hr hnm Q hQ
  have lk0 : Cond.fieldLink RX1 37 "SealStrait$Bringing" "oneListens" "Z" ∈ wsX1_goOnFrom := by decide +kernel
  have lk1 : ∀ w ∈ u_ws RX1 TX1 8, w ∈ wsX1_goOnFrom := fun w h => List.mem_cons_of_mem _ (List.mem_append_left _ (List.mem_append_right _ h))
  have lk2 : Cond.fieldLink RX1 41 "SealStrait$Bringing" "otherListens" "Z" ∈ wsX1_goOnFrom := by decide +kernel
  have L1 : ∀ (n : Nat) (x1 : Int32) (x2 : Int32) (x3 : Int32) (x5 : Int32) (v_steps : Nat → Int32) (v_firsts : Nat → Int32) (v_queue : Nat → Int32) (v_size : Int32) (z_steps : Nat → Int32) (z_firsts : Nat → Int32) (z_queue : Nat → Int32) (z_size : Int32), evr (fun s => b_Bringing_goOnFrom_1 x1 x2 x3 v_oneListens v_otherListens v_a4_words s.1 s.2.1 s.2.2.1 s.2.2.2.1 s.2.2.2.2) n (x5, v_steps, v_firsts, v_queue, v_size) = some (z_steps, z_firsts, z_queue, z_size) → qG p l e ({ frames := 2, cells := 0, slots := 0, locals := 45 } : Room) s m args below meth c 9 (dC, dI) A A Q 0 0 ([]) [] ([(o, .inr (1, [.ref o_steps, .ref o_firsts, .ref o_queue, .int z_size, .int v_oneListens, .int v_otherListens, .int v_fewest, .int v_firstClause])), (o_steps, .inl (cI, 400, .inl z_steps)), (o_firsts, .inl (cI, 400, .inl z_firsts)), (o_queue, .inl (cI, 400, .inl z_queue)), (b4, .inr (9, [.ref b4_words, .ref b4_clashes])), (b4_words, .inl (cI, 10, .inl v_a4_words))]) 80 → qG p l e ({ frames := 2, cells := 0, slots := 0, locals := 45 } : Room) s m args below meth c 9 (dC, dI) A A Q 0 0 ([(0, .ref o), (1, .int x1), (2, .int x2), (3, .int x3), (4, .ref b4), (5, .int x5)]) [] ([(o, .inr (1, [.ref o_steps, .ref o_firsts, .ref o_queue, .int v_size, .int v_oneListens, .int v_otherListens, .int v_fewest, .int v_firstClause])), (o_steps, .inl (cI, 400, .inl v_steps)), (o_firsts, .inl (cI, 400, .inl v_firsts)), (o_queue, .inl (cI, 400, .inl v_queue)), (b4, .inr (9, [.ref b4_words, .ref b4_clashes])), (b4_words, .inl (cI, 10, .inl v_a4_words))]) 3 := by
    clear hF
    intro n
    induction n with
    | zero => intro x1 x2 x3 x5 v_steps v_firsts v_queue v_size z_steps z_firsts z_queue z_size hF; exact (evr_0 hF).elim
    | succ n ih =>
      intro x1 x2 x3 x5 v_steps v_firsts v_queue v_size z_steps z_firsts z_queue z_size hF hk
      obtain ⟨o9, hB, hn, hx⟩ := evr_c hF
      have hF : b_Bringing_goOnFrom_1 x1 x2 x3 v_oneListens v_otherListens v_a4_words x5 v_steps v_firsts v_queue v_size = some o9 := hB
      unfold b_Bringing_goOnFrom_1 at hF
      refine q_iload C dX1_goOnFrom_3 5 rfl ?_
      refine q_bipush (v := (10 : Int32)) C dX1_goOnFrom_5 (by decide) ?_
      refine q_icmp_ge (tgt := 80) C dX1_goOnFrom_7 (by decide) (fun c1 => ?_) (fun c1 => ?_)
      · have hF := ite_t hF c1
        cases hF
        have e2 := hx _ rfl
        cases e2
        refine q_lsel [] rfl ?_
        exact hk
      · have hF := ite_f hF c1
        refine q_aload C dX1_goOnFrom_10 4 rfl ?_
        refine q_iload C dX1_goOnFrom_12 5 rfl ?_
        obtain ⟨r3, hc4, hF⟩ := bind_c hF
        refine q_roi (q_runV (As := [.int x5]) (rest := []) C (fun sz => c_X9_wordsOf l dC dI cI cZ cQ b4 b4_words b4_clashes v_a4_words x5 r3 hc4 sz) (cwV 1 C.2.2.2.2.1 gX1_goOnFrom_X9_wordsOf rfl rfl rfl (by decide +kernel) ⟨Nat.le_of_ble_eq_true rfl, Nat.le_of_ble_eq_true rfl⟩) 4 rfl rfl rfl [4, 5] rfl rfl rfl rfl (Nat.le_of_ble_eq_true rfl) dX1_goOnFrom_14 ⟨Nat.zero_le _, Nat.zero_le _⟩) ?_
        refine q_istore C ([(6, .int r3), (0, .ref o), (1, .int x1), (2, .int x2), (3, .int x3), (4, .ref b4), (5, .int x5)]) dX1_goOnFrom_17 (by decide) rfl ?_
        refine q_iload_n C dX1_goOnFrom_19 2 rfl rfl ?_
        refine q_bipush (v := (20 : Int32)) C dX1_goOnFrom_20 (by decide) ?_
        refine q_idiv C dX1_goOnFrom_22 (by decide) ?_
        refine q_iload C dX1_goOnFrom_23 0 rfl ?_
        refine q_aload_n C dX1_goOnFrom_25 1 rfl rfl ?_
        refine q_get (C0 := RX1) (T := TX1) (N := 8) (k0 := 4) C lk1 0 rfl rfl (by decide) lk0 rfl (v := .int v_oneListens) rfl dX1_goOnFrom_26 ?_
        refine q_roi (q_runS (As := [.int (x1 / (20 : Int32)), .int r3, .int v_oneListens]) (rest := []) C (fun sz => c_X1_behindReading l dC dI cI cZ cQ (x1 / (20 : Int32)) r3 v_oneListens (f_Bringing_behindReading (x1 / (20 : Int32)) r3 v_oneListens) rfl sz) (va_cwS 3 C.2.2.2.2.1 gX1_goOnFrom_X1_behindReading rfl rfl rfl (by decide +kernel) ⟨Nat.le_of_ble_eq_true rfl, Nat.le_of_ble_eq_true rfl⟩) [] rfl rfl rfl rfl (Nat.le_of_ble_eq_true rfl) dX1_goOnFrom_29 ⟨Nat.zero_le _, Nat.zero_le _⟩) ?_
        refine q_istore C ([(7, .int (f_Bringing_behindReading (x1 / (20 : Int32)) r3 v_oneListens)), (6, .int r3), (0, .ref o), (1, .int x1), (2, .int x2), (3, .int x3), (4, .ref b4), (5, .int x5)]) dX1_goOnFrom_32 (by decide) rfl ?_
        refine q_iload_n C dX1_goOnFrom_34 3 rfl rfl ?_
        refine q_bipush (v := (20 : Int32)) C dX1_goOnFrom_35 (by decide) ?_
        refine q_irem C dX1_goOnFrom_37 (by decide) ?_
        refine q_iload C dX1_goOnFrom_38 1 rfl ?_
        refine q_aload_n C dX1_goOnFrom_40 2 rfl rfl ?_
        refine q_get (C0 := RX1) (T := TX1) (N := 8) (k0 := 5) C lk1 0 rfl rfl (by decide) lk2 rfl (v := .int v_otherListens) rfl dX1_goOnFrom_41 ?_
        refine q_roi (q_runS (As := [.int (x1 - x1 / (20 : Int32) * (20 : Int32)), .int r3, .int v_otherListens]) (rest := []) C (fun sz => c_X1_behindReading l dC dI cI cZ cQ (x1 - x1 / (20 : Int32) * (20 : Int32)) r3 v_otherListens (f_Bringing_behindReading (x1 - x1 / (20 : Int32) * (20 : Int32)) r3 v_otherListens) rfl sz) (va_cwS 3 C.2.2.2.2.1 gX1_goOnFrom_X1_behindReading rfl rfl rfl (by decide +kernel) ⟨Nat.le_of_ble_eq_true rfl, Nat.le_of_ble_eq_true rfl⟩) [] rfl rfl rfl rfl (Nat.le_of_ble_eq_true rfl) dX1_goOnFrom_44 ⟨Nat.zero_le _, Nat.zero_le _⟩) ?_
        refine q_istore C ([(8, .int (f_Bringing_behindReading (x1 - x1 / (20 : Int32) * (20 : Int32)) r3 v_otherListens)), (7, .int (f_Bringing_behindReading (x1 / (20 : Int32)) r3 v_oneListens)), (6, .int r3), (0, .ref o), (1, .int x1), (2, .int x2), (3, .int x3), (4, .ref b4), (5, .int x5)]) dX1_goOnFrom_47 (by decide) rfl ?_
        refine q_aload_n C dX1_goOnFrom_49 3 rfl rfl ?_
        refine q_iload C dX1_goOnFrom_50 1 rfl ?_
        refine q_bipush (v := (20 : Int32)) C dX1_goOnFrom_52 (by decide) ?_
        refine q_imul C dX1_goOnFrom_54 ?_
        refine q_iload C dX1_goOnFrom_55 0 rfl ?_
        refine q_iadd C dX1_goOnFrom_57 ?_
        refine q_iload_n C dX1_goOnFrom_58 5 rfl rfl ?_
        refine q_iload_n C dX1_goOnFrom_59 6 rfl rfl ?_
        refine q_bipush (v := (-6 : Int32)) C dX1_goOnFrom_60 (by decide) ?_
        refine q_icmp_ne (tgt := 70) C dX1_goOnFrom_62 (by decide) (fun c7 => ?_) (fun c7 => ?_)
        · have hF := ite_f hF c7
          refine q_iload_n C dX1_goOnFrom_70 6 rfl rfl ?_
          obtain ⟨⟨u8_steps, u8_firsts, u8_queue, u8_size⟩, hc9, hF⟩ := bind_c hF
          dsimp only at hF
          refine q_rwv hA ([(o, .inr (1, [.ref o_steps, .ref o_firsts, .ref o_queue, .int u8_size, .int v_oneListens, .int v_otherListens, .int v_fewest, .int v_firstClause])), (o_steps, .inl (cI, 400, .inl u8_steps)), (o_firsts, .inl (cI, 400, .inl u8_firsts)), (o_queue, .inl (cI, 400, .inl u8_queue)), (b4, .inr (9, [.ref b4_words, .ref b4_clashes])), (b4_words, .inl (cI, 10, .inl v_a4_words))]) [0, 1, 2, 3] [4, 5] rfl rfl rfl (by decide) [2, 3, 4, 5, 0, 1] rfl rfl (q_runV (As := [.int (((f_Bringing_behindReading (x1 / (20 : Int32)) r3 v_oneListens) * (20 : Int32)) + (f_Bringing_behindReading (x1 - x1 / (20 : Int32) * (20 : Int32)) r3 v_otherListens)), .int x2, .int x3]) (rest := []) C (fun sz => c_X1_reach l dC dI cI cZ cQ o o_steps o_firsts o_queue v_steps v_firsts v_queue v_size v_oneListens v_otherListens v_fewest v_firstClause (((f_Bringing_behindReading (x1 / (20 : Int32)) r3 v_oneListens) * (20 : Int32)) + (f_Bringing_behindReading (x1 - x1 / (20 : Int32) * (20 : Int32)) r3 v_otherListens)) x2 x3 u8_steps u8_firsts u8_queue u8_size hc9 sz) (cwV 3 C.2.2.2.2.1 gX1_goOnFrom_X1_reach rfl rfl rfl (by decide +kernel) ⟨Nat.le_of_ble_eq_true rfl, Nat.le_of_ble_eq_true rfl⟩) 0 rfl rfl rfl [0, 1, 2, 3] rfl rfl rfl rfl (Nat.le_of_ble_eq_true rfl) dX1_goOnFrom_71 ⟨Nat.zero_le _, Nat.zero_le _⟩) ?_
          refine q_iinc (v := (x5 + 1)) C ([(5, .int (x5 + 1)), (8, .int (f_Bringing_behindReading (x1 - x1 / (20 : Int32) * (20 : Int32)) r3 v_otherListens)), (7, .int (f_Bringing_behindReading (x1 / (20 : Int32)) r3 v_oneListens)), (6, .int r3), (0, .ref o), (1, .int x1), (2, .int x2), (3, .int x3), (4, .ref b4)]) dX1_goOnFrom_74 8 rfl rfl (by decide) rfl ?_
          refine q_goto (tgt := 3) C dX1_goOnFrom_77 (by decide) ?_
          cases hF
          refine q_lsel [4, 5, 6, 7, 8, 0] rfl ?_
          exact ih x1 x2 x3 (x5 + 1) u8_steps u8_firsts u8_queue u8_size z_steps z_firsts z_queue z_size (hn _ rfl) hk
        · have hF := ite_t hF c7
          refine q_iload C dX1_goOnFrom_65 8 rfl ?_
          refine q_goto (tgt := 71) C dX1_goOnFrom_67 (by decide) ?_
          obtain ⟨⟨u10_steps, u10_firsts, u10_queue, u10_size⟩, hc11, hF⟩ := bind_c hF
          dsimp only at hF
          refine q_rwv hA ([(o, .inr (1, [.ref o_steps, .ref o_firsts, .ref o_queue, .int u10_size, .int v_oneListens, .int v_otherListens, .int v_fewest, .int v_firstClause])), (o_steps, .inl (cI, 400, .inl u10_steps)), (o_firsts, .inl (cI, 400, .inl u10_firsts)), (o_queue, .inl (cI, 400, .inl u10_queue)), (b4, .inr (9, [.ref b4_words, .ref b4_clashes])), (b4_words, .inl (cI, 10, .inl v_a4_words))]) [0, 1, 2, 3] [4, 5] rfl rfl rfl (by decide) [2, 3, 4, 5, 0, 1] rfl rfl (q_runV (As := [.int (((f_Bringing_behindReading (x1 / (20 : Int32)) r3 v_oneListens) * (20 : Int32)) + (f_Bringing_behindReading (x1 - x1 / (20 : Int32) * (20 : Int32)) r3 v_otherListens)), .int x2, .int x5]) (rest := []) C (fun sz => c_X1_reach l dC dI cI cZ cQ o o_steps o_firsts o_queue v_steps v_firsts v_queue v_size v_oneListens v_otherListens v_fewest v_firstClause (((f_Bringing_behindReading (x1 / (20 : Int32)) r3 v_oneListens) * (20 : Int32)) + (f_Bringing_behindReading (x1 - x1 / (20 : Int32) * (20 : Int32)) r3 v_otherListens)) x2 x5 u10_steps u10_firsts u10_queue u10_size hc11 sz) (cwV 3 C.2.2.2.2.1 gX1_goOnFrom_X1_reach rfl rfl rfl (by decide +kernel) ⟨Nat.le_of_ble_eq_true rfl, Nat.le_of_ble_eq_true rfl⟩) 0 rfl rfl rfl [0, 1, 2, 3] rfl rfl rfl rfl (Nat.le_of_ble_eq_true rfl) dX1_goOnFrom_71 ⟨Nat.zero_le _, Nat.zero_le _⟩) ?_
          refine q_iinc (v := (x5 + 1)) C ([(5, .int (x5 + 1)), (8, .int (f_Bringing_behindReading (x1 - x1 / (20 : Int32) * (20 : Int32)) r3 v_otherListens)), (7, .int (f_Bringing_behindReading (x1 / (20 : Int32)) r3 v_oneListens)), (6, .int r3), (0, .ref o), (1, .int x1), (2, .int x2), (3, .int x3), (4, .ref b4)]) dX1_goOnFrom_74 8 rfl rfl (by decide) rfl ?_
          refine q_goto (tgt := 3) C dX1_goOnFrom_77 (by decide) ?_
          cases hF
          refine q_lsel [4, 5, 6, 7, 8, 0] rfl ?_
          exact ih x1 x2 x3 (x5 + 1) u10_steps u10_firsts u10_queue u10_size z_steps z_firsts z_queue z_size (hn _ rfl) hk
  unfold f_Bringing_goOnFrom at hF
  refine q_iconst (v := (0 : Int32)) C dX1_goOnFrom_0 (by decide) ?_
  refine q_istore C ([(5, .int (0 : Int32)), (0, .ref o), (1, .int p1), (2, .int p2), (3, .int p3), (4, .ref b4)]) dX1_goOnFrom_1 (by decide) rfl ?_
  obtain ⟨⟨z12_steps, z12_firsts, z12_queue, z12_size⟩, hc13, hF⟩ := bind_c hF
  dsimp only at hF
  obtain ⟨n14, hc13⟩ := (ev_iff _ _ _).mp hc13
  refine q_lsel [1, 2, 3, 4, 5, 0] rfl ?_
  refine L1 n14 p1 p2 p3 (0 : Int32) v_steps v_firsts v_queue v_size z12_steps z12_firsts z12_queue z12_size hc13 ?_
  cases hF
  exact q_wretv C hr dX1_goOnFrom_80 hQ
set_option maxRecDepth 100000 in
set_option maxHeartbeats 4000000 in
theorem c_X1_search (l : Launch) (dC : Nat → ClassId) (dI : Nat → Nat → Nat) (cI cZ cQ : ClassId) (o o_steps o_firsts o_queue b1 b1_words b1_clashes : Nat) (v_steps : Nat → Int32) (v_firsts : Nat → Int32) (v_queue : Nat → Int32) (v_size : Int32) (v_oneListens : Int32) (v_otherListens : Int32) (v_fewest : Int32) (v_firstClause : Int32) (v_a1_words : Nat → Int32) (p2 : Int32) (p3 : Int32) (w_steps : Nat → Int32) (w_firsts : Nat → Int32) (w_queue : Nat → Int32) (w_size : Int32) (w_fewest : Int32) (w_firstClause : Int32) (hF : f_Bringing_search v_steps v_firsts v_queue v_size v_oneListens v_otherListens v_fewest v_firstClause v_a1_words p2 p3 = some (w_steps, w_firsts, w_queue, w_size, w_fewest, w_firstClause)) (sz : Nat) : Met l yX1_search wsX1_search ({ frames := 3, cells := 0, slots := 0, locals := 73 } : Room) (qPc ([.ref o, .ref b1, .int p2, .int p3]) (dC, dI) (qT cI cZ cQ) ([(o, .inr (1, [.ref o_steps, .ref o_firsts, .ref o_queue, .int v_size, .int v_oneListens, .int v_otherListens, .int v_fewest, .int v_firstClause])), (o_steps, .inl (cI, 400, .inl v_steps)), (o_firsts, .inl (cI, 400, .inl v_firsts)), (o_queue, .inl (cI, 400, .inl v_queue)), (b1, .inr (9, [.ref b1_words, .ref b1_clashes])), (b1_words, .inl (cI, 10, .inl v_a1_words))]) sz) (qWv (dC, dI) ([(o, .inr (1, [.ref o_steps, .ref o_firsts, .ref o_queue, .int w_size, .int v_oneListens, .int v_otherListens, .int w_fewest, .int w_firstClause])), (o_steps, .inl (cI, 400, .inl w_steps)), (o_firsts, .inl (cI, 400, .inl w_firsts)), (o_queue, .inl (cI, 400, .inl w_queue)), (b1, .inr (9, [.ref b1_words, .ref b1_clashes])), (b1_words, .inl (cI, 10, .inl v_a1_words))]) (va_A ([(o, .inr (1, [.ref o_steps, .ref o_firsts, .ref o_queue, .int v_size, .int v_oneListens, .int v_otherListens, .int v_fewest, .int v_firstClause])), (o_steps, .inl (cI, 400, .inl v_steps)), (o_firsts, .inl (cI, 400, .inl v_firsts)), (o_queue, .inl (cI, 400, .inl v_queue)), (b1, .inr (9, [.ref b1_words, .ref b1_clashes])), (b1_words, .inl (cI, 10, .inl v_a1_words))]) sz)) 0 0 (va_A ([(o, .inr (1, [.ref o_steps, .ref o_firsts, .ref o_queue, .int v_size, .int v_oneListens, .int v_otherListens, .int v_fewest, .int v_firstClause])), (o_steps, .inl (cI, 400, .inl v_steps)), (o_firsts, .inl (cI, 400, .inl v_firsts)), (o_queue, .inl (cI, 400, .inl v_queue)), (b1, .inr (9, [.ref b1_words, .ref b1_clashes])), (b1_words, .inl (cI, 10, .inl v_a1_words))]) sz) := by
  refine q_met_w (Qc := fun A => qWv (dC, dI) ([(o, .inr (1, [.ref o_steps, .ref o_firsts, .ref o_queue, .int w_size, .int v_oneListens, .int v_otherListens, .int w_fewest, .int w_firstClause])), (o_steps, .inl (cI, 400, .inl w_steps)), (o_firsts, .inl (cI, 400, .inl w_firsts)), (o_queue, .inl (cI, 400, .inl w_queue)), (b1, .inr (9, [.ref b1_words, .ref b1_clashes])), (b1_words, .inl (cI, 10, .inl v_a1_words))]) A) (cc := cX1_search) (own := RX1) (maxL := 6) (ret := none) (lv0 := [(0, .ref o), (1, .ref b1), (2, .int p2), (3, .int p3)]) (by decide) rfl rfl rfl (Nat.le_of_ble_eq_true rfl) ?_
  intro p e s m args below meth c A hA C hr hnm Q hQ
  have lk0 : Cond.fieldLink RX1 52 "SealStrait$Bringing" "fewest" "I" ∈ wsX1_search := by decide +kernel
  have lk1 : ∀ w ∈ u_ws RX1 TX1 8, w ∈ wsX1_search := fun w h => List.mem_cons_of_mem _ (List.mem_append_left _ (List.mem_append_right _ h))
  have lk2 : Cond.fieldLink RX1 55 "SealStrait$Bringing" "firstClause" "I" ∈ wsX1_search := by decide +kernel
  have lk3 : Cond.fieldLink RX1 27 "SealStrait$Bringing" "size" "I" ∈ wsX1_search := by decide +kernel
  have lk4 : Cond.fieldLink RX1 18 "SealStrait$Bringing" "queue" "[I" ∈ wsX1_search := by decide +kernel
  have lk5 : Cond.initialized RX11 ∈ wsX1_search := by decide +kernel
  have lk6 : Cond.static yX11_within ∈ wsX1_search := by decide +kernel
  have lk7 : (RX1, 58, yX11_within) ∈ qNest := by decide +kernel
  have lk8 : Cond.fieldLink RX1 11 "SealStrait$Bringing" "steps" "[I" ∈ wsX1_search := by decide +kernel
  have lk9 : Cond.fieldLink RX1 15 "SealStrait$Bringing" "firsts" "[I" ∈ wsX1_search := by decide +kernel
  have L1 : ∀ (n : Nat) (x2 : Int32) (x3 : Int32) (x4 : Int32) (v_steps : Nat → Int32) (v_firsts : Nat → Int32) (v_queue : Nat → Int32) (v_size : Int32) (v_fewest : Int32) (v_firstClause : Int32), evr (fun s => b_Bringing_search_1 x2 x3 v_fewest v_firstClause v_oneListens v_otherListens v_a1_words s.1 s.2.1 s.2.2.1 s.2.2.2.1 s.2.2.2.2) n (x4, v_steps, v_firsts, v_queue, v_size) = some (w_steps, w_firsts, w_queue, w_size, w_fewest, w_firstClause) → qG p l e ({ frames := 3, cells := 0, slots := 0, locals := 73 } : Room) s m args below meth c 6 (dC, dI) A A Q 0 0 ([(0, .ref o), (1, .ref b1), (2, .int x2), (3, .int x3), (4, .int x4)]) [] ([(o, .inr (1, [.ref o_steps, .ref o_firsts, .ref o_queue, .int v_size, .int v_oneListens, .int v_otherListens, .int v_fewest, .int v_firstClause])), (o_steps, .inl (cI, 400, .inl v_steps)), (o_firsts, .inl (cI, 400, .inl v_firsts)), (o_queue, .inl (cI, 400, .inl v_queue)), (b1, .inr (9, [.ref b1_words, .ref b1_clashes])), (b1_words, .inl (cI, 10, .inl v_a1_words))]) 15 := by
    clear hF
    intro n
    induction n with
    | zero => intro x2 x3 x4 v_steps v_firsts v_queue v_size v_fewest v_firstClause  hF; exact (evr_0 hF).elim
    | succ n ih =>
      intro x2 x3 x4 v_steps v_firsts v_queue v_size v_fewest v_firstClause  hF
      obtain ⟨o9, hB, hn, hx⟩ := evr_c hF
      have hF : b_Bringing_search_1 x2 x3 v_fewest v_firstClause v_oneListens v_otherListens v_a1_words x4 v_steps v_firsts v_queue v_size = some o9 := hB
      unfold b_Bringing_search_1 at hF
      refine q_iload C dX1_search_15 4 rfl ?_
      refine q_aload_n C dX1_search_17 0 rfl rfl ?_
      refine q_get (C0 := RX1) (T := TX1) (N := 8) (k0 := 3) C lk1 0 rfl rfl (by decide) lk3 rfl (v := .int v_size) rfl dX1_search_18 ?_
      refine q_icmp_ge (tgt := 130) C dX1_search_21 (by decide) (fun c1 => ?_) (fun c1 => ?_)
      · have hF := ite_t hF c1
        cases hF
        have e2 := hx _ rfl
        cases e2
        exact q_wretv C hr dX1_search_130 hQ
      · have hF := ite_f hF c1
        refine q_iload C dX1_search_24 4 rfl ?_
        refine q_sipush (v := (400 : Int32)) C dX1_search_26 (by decide) ?_
        refine q_icmp_ge (tgt := 130) C dX1_search_29 (by decide) (fun c3 => ?_) (fun c3 => ?_)
        · have hF := ite_t hF c3
          cases hF
          have e4 := hx _ rfl
          cases e4
          exact q_wretv C hr dX1_search_130 hQ
        · have hF := ite_f hF c3
          refine q_aload_n C dX1_search_32 0 rfl rfl ?_
          refine q_get (C0 := RX1) (T := TX1) (N := 8) (k0 := 2) C lk1 0 rfl rfl (by decide) lk4 rfl (v := .ref o_queue) rfl dX1_search_33 ?_
          refine q_iload C dX1_search_36 4 rfl ?_
          obtain ⟨hc5, hF⟩ := ite_c hF
          refine q_iald C 3 0 rfl rfl (ix_in hc5) dX1_search_38 ?_
          refine q_istore C ([(5, .int (v_queue (x4).toNatClampNeg)), (0, .ref o), (1, .ref b1), (2, .int x2), (3, .int x3), (4, .int x4)]) dX1_search_39 (by decide) rfl ?_
          refine q_iload C dX1_search_41 0 rfl ?_
          refine q_iconst (v := (0 : Int32)) C dX1_search_43 (by decide) ?_
          refine q_sipush (v := (399 : Int32)) C dX1_search_44 (by decide) ?_
          refine q_roz (q_runSN (As := [.int (v_queue (x4).toNatClampNeg), .int (0 : Int32), .int (399 : Int32)]) (rest := []) (n := 3) C (fun sz => c_X11_within l dC dI cI cZ cQ (v_queue (x4).toNatClampNeg) (0 : Int32) (399 : Int32) (f_Strait_within (v_queue (x4).toNatClampNeg) (0 : Int32) (399 : Int32)) rfl sz) gX1_search_X11_within_n58 rfl rfl rfl lk7 lk5 lk6 (by decide +kernel) ⟨Nat.le_of_ble_eq_true rfl, Nat.le_of_ble_eq_true rfl⟩ [] rfl rfl rfl rfl (Nat.le_of_ble_eq_true rfl) dX1_search_47 ⟨Nat.zero_le _, Nat.zero_le _⟩) (fun hz6 => ?_)
          refine q_if_ne (tgt := 54) C dX1_search_50 (by decide) (fun c7 => ?_) (fun c7 => ?_)
          · have hF := ite_f hF c7
            refine q_iload C dX1_search_54 0 rfl ?_
            refine q_bipush (v := (20 : Int32)) C dX1_search_56 (by decide) ?_
            refine q_idiv C dX1_search_58 (by decide) ?_
            refine q_bipush (v := (10 : Int32)) C dX1_search_59 (by decide) ?_
            refine q_idiv C dX1_search_61 (by decide) ?_
            refine q_iload_n C dX1_search_62 3 rfl rfl ?_
            refine q_icmp_ne (tgt := 101) C dX1_search_63 (by decide) (fun c8 => ?_) (fun c8 => ?_)
            · have hF := ite_f hF c8
              refine q_aload_n C dX1_search_101 1 rfl rfl ?_
              refine q_iload C dX1_search_102 0 rfl ?_
              refine q_aload_n C dX1_search_104 1 rfl rfl ?_
              refine q_get (C0 := RX1) (T := TX1) (N := 8) (k0 := 0) C lk1 0 rfl rfl (by decide) lk8 rfl (v := .ref o_steps) rfl dX1_search_105 ?_
              refine q_iload C dX1_search_108 0 rfl ?_
              obtain ⟨hc9, hF⟩ := ite_c hF
              refine q_iald C 1 0 rfl rfl (ix_in hc9) dX1_search_110 ?_
              refine q_iconst (v := (1 : Int32)) C dX1_search_111 (by decide) ?_
              refine q_iadd C dX1_search_112 ?_
              refine q_aload_n C dX1_search_113 1 rfl rfl ?_
              refine q_get (C0 := RX1) (T := TX1) (N := 8) (k0 := 1) C lk1 0 rfl rfl (by decide) lk9 rfl (v := .ref o_firsts) rfl dX1_search_114 ?_
              refine q_iload C dX1_search_117 0 rfl ?_
              obtain ⟨hc10, hF⟩ := ite_c hF
              refine q_iald C 2 0 rfl rfl (ix_in hc10) dX1_search_119 ?_
              refine q_aload_n C dX1_search_120 2 rfl rfl ?_
              obtain ⟨⟨u11_steps, u11_firsts, u11_queue, u11_size⟩, hc12, hF⟩ := bind_c hF
              dsimp only at hF
              refine q_rwv hA ([(o, .inr (1, [.ref o_steps, .ref o_firsts, .ref o_queue, .int u11_size, .int v_oneListens, .int v_otherListens, .int v_fewest, .int v_firstClause])), (o_steps, .inl (cI, 400, .inl u11_steps)), (o_firsts, .inl (cI, 400, .inl u11_firsts)), (o_queue, .inl (cI, 400, .inl u11_queue)), (b1, .inr (9, [.ref b1_words, .ref b1_clashes])), (b1_words, .inl (cI, 10, .inl v_a1_words))]) [0, 1, 2, 3, 4, 5] [] rfl rfl rfl (by decide) [0, 1, 2, 3, 4, 5] rfl rfl (q_runV (As := [.int (v_queue (x4).toNatClampNeg), .int ((v_steps ((v_queue (x4).toNatClampNeg)).toNatClampNeg) + (1 : Int32)), .int (v_firsts ((v_queue (x4).toNatClampNeg)).toNatClampNeg), .ref b1]) (rest := []) C (fun sz => c_X1_goOnFrom l dC dI cI cZ cQ o o_steps o_firsts o_queue b1 b1_words b1_clashes v_steps v_firsts v_queue v_size v_oneListens v_otherListens v_a1_words v_fewest v_firstClause (v_queue (x4).toNatClampNeg) ((v_steps ((v_queue (x4).toNatClampNeg)).toNatClampNeg) + (1 : Int32)) (v_firsts ((v_queue (x4).toNatClampNeg)).toNatClampNeg) u11_steps u11_firsts u11_queue u11_size hc12 sz) (cwV 4 C.2.2.2.2.1 gX1_search_X1_goOnFrom rfl rfl rfl (by decide +kernel) ⟨Nat.le_of_ble_eq_true rfl, Nat.le_of_ble_eq_true rfl⟩) 0 rfl rfl rfl [0, 1, 2, 3, 4, 5] rfl rfl rfl rfl (Nat.le_of_ble_eq_true rfl) dX1_search_121 ⟨Nat.zero_le _, Nat.zero_le _⟩) ?_
              refine q_iinc (v := (x4 + 1)) C ([(4, .int (x4 + 1)), (5, .int (v_queue (x4).toNatClampNeg)), (0, .ref o), (1, .ref b1), (2, .int x2), (3, .int x3)]) dX1_search_124 5 rfl rfl (by decide) rfl ?_
              refine q_goto (tgt := 15) C dX1_search_127 (by decide) ?_
              cases hF
              refine q_lsel [2, 3, 4, 5, 0] rfl ?_
              exact ih x2 x3 (x4 + 1) u11_steps u11_firsts u11_queue u11_size v_fewest v_firstClause (hn _ rfl)
            · have hF := ite_t hF c8
              refine q_iload C dX1_search_66 0 rfl ?_
              refine q_bipush (v := (20 : Int32)) C dX1_search_68 (by decide) ?_
              refine q_irem C dX1_search_70 (by decide) ?_
              refine q_bipush (v := (10 : Int32)) C dX1_search_71 (by decide) ?_
              refine q_idiv C dX1_search_73 (by decide) ?_
              refine q_iload_n C dX1_search_74 4 rfl rfl ?_
              refine q_icmp_ne (tgt := 101) C dX1_search_75 (by decide) (fun c13 => ?_) (fun c13 => ?_)
              · have hF := ite_f hF c13
                refine q_aload_n C dX1_search_101 1 rfl rfl ?_
                refine q_iload C dX1_search_102 0 rfl ?_
                refine q_aload_n C dX1_search_104 1 rfl rfl ?_
                refine q_get (C0 := RX1) (T := TX1) (N := 8) (k0 := 0) C lk1 0 rfl rfl (by decide) lk8 rfl (v := .ref o_steps) rfl dX1_search_105 ?_
                refine q_iload C dX1_search_108 0 rfl ?_
                obtain ⟨hc14, hF⟩ := ite_c hF
                refine q_iald C 1 0 rfl rfl (ix_in hc14) dX1_search_110 ?_
                refine q_iconst (v := (1 : Int32)) C dX1_search_111 (by decide) ?_
                refine q_iadd C dX1_search_112 ?_
                refine q_aload_n C dX1_search_113 1 rfl rfl ?_
                refine q_get (C0 := RX1) (T := TX1) (N := 8) (k0 := 1) C lk1 0 rfl rfl (by decide) lk9 rfl (v := .ref o_firsts) rfl dX1_search_114 ?_
                refine q_iload C dX1_search_117 0 rfl ?_
                obtain ⟨hc15, hF⟩ := ite_c hF
                refine q_iald C 2 0 rfl rfl (ix_in hc15) dX1_search_119 ?_
                refine q_aload_n C dX1_search_120 2 rfl rfl ?_
                obtain ⟨⟨u16_steps, u16_firsts, u16_queue, u16_size⟩, hc17, hF⟩ := bind_c hF
                dsimp only at hF
                refine q_rwv hA ([(o, .inr (1, [.ref o_steps, .ref o_firsts, .ref o_queue, .int u16_size, .int v_oneListens, .int v_otherListens, .int v_fewest, .int v_firstClause])), (o_steps, .inl (cI, 400, .inl u16_steps)), (o_firsts, .inl (cI, 400, .inl u16_firsts)), (o_queue, .inl (cI, 400, .inl u16_queue)), (b1, .inr (9, [.ref b1_words, .ref b1_clashes])), (b1_words, .inl (cI, 10, .inl v_a1_words))]) [0, 1, 2, 3, 4, 5] [] rfl rfl rfl (by decide) [0, 1, 2, 3, 4, 5] rfl rfl (q_runV (As := [.int (v_queue (x4).toNatClampNeg), .int ((v_steps ((v_queue (x4).toNatClampNeg)).toNatClampNeg) + (1 : Int32)), .int (v_firsts ((v_queue (x4).toNatClampNeg)).toNatClampNeg), .ref b1]) (rest := []) C (fun sz => c_X1_goOnFrom l dC dI cI cZ cQ o o_steps o_firsts o_queue b1 b1_words b1_clashes v_steps v_firsts v_queue v_size v_oneListens v_otherListens v_a1_words v_fewest v_firstClause (v_queue (x4).toNatClampNeg) ((v_steps ((v_queue (x4).toNatClampNeg)).toNatClampNeg) + (1 : Int32)) (v_firsts ((v_queue (x4).toNatClampNeg)).toNatClampNeg) u16_steps u16_firsts u16_queue u16_size hc17 sz) (cwV 4 C.2.2.2.2.1 gX1_search_X1_goOnFrom rfl rfl rfl (by decide +kernel) ⟨Nat.le_of_ble_eq_true rfl, Nat.le_of_ble_eq_true rfl⟩) 0 rfl rfl rfl [0, 1, 2, 3, 4, 5] rfl rfl rfl rfl (Nat.le_of_ble_eq_true rfl) dX1_search_121 ⟨Nat.zero_le _, Nat.zero_le _⟩) ?_
                refine q_iinc (v := (x4 + 1)) C ([(4, .int (x4 + 1)), (5, .int (v_queue (x4).toNatClampNeg)), (0, .ref o), (1, .ref b1), (2, .int x2), (3, .int x3)]) dX1_search_124 5 rfl rfl (by decide) rfl ?_
                refine q_goto (tgt := 15) C dX1_search_127 (by decide) ?_
                cases hF
                refine q_lsel [2, 3, 4, 5, 0] rfl ?_
                exact ih x2 x3 (x4 + 1) u16_steps u16_firsts u16_queue u16_size v_fewest v_firstClause (hn _ rfl)
              · have hF := ite_t hF c13
                refine q_aload_n C dX1_search_78 1 rfl rfl ?_
                refine q_aload_n C dX1_search_79 1 rfl rfl ?_
                refine q_get (C0 := RX1) (T := TX1) (N := 8) (k0 := 0) C lk1 0 rfl rfl (by decide) lk8 rfl (v := .ref o_steps) rfl dX1_search_80 ?_
                refine q_iload C dX1_search_83 0 rfl ?_
                obtain ⟨hc18, hF⟩ := ite_c hF
                refine q_iald C 1 0 rfl rfl (ix_in hc18) dX1_search_85 ?_
                refine q_put (C0 := RX1) (T := TX1) (N := 8) (k0 := 6) C lk1 0 rfl rfl (by decide) lk0 rfl tyX1 tyX1_ok nmX1 rfl (v := .int (v_steps ((v_queue (x4).toNatClampNeg)).toNatClampNeg)) rfl rfl (Nat.le_of_ble_eq_true rfl) ([(o, .inr (1, [.ref o_steps, .ref o_firsts, .ref o_queue, .int v_size, .int v_oneListens, .int v_otherListens, .int (v_steps ((v_queue (x4).toNatClampNeg)).toNatClampNeg), .int v_firstClause])), (o_steps, .inl (cI, 400, .inl v_steps)), (o_firsts, .inl (cI, 400, .inl v_firsts)), (o_queue, .inl (cI, 400, .inl v_queue)), (b1, .inr (9, [.ref b1_words, .ref b1_clashes])), (b1_words, .inl (cI, 10, .inl v_a1_words))]) rfl dX1_search_86 ?_
                refine q_aload_n C dX1_search_89 1 rfl rfl ?_
                refine q_aload_n C dX1_search_90 1 rfl rfl ?_
                refine q_get (C0 := RX1) (T := TX1) (N := 8) (k0 := 1) C lk1 0 rfl rfl (by decide) lk9 rfl (v := .ref o_firsts) rfl dX1_search_91 ?_
                refine q_iload C dX1_search_94 0 rfl ?_
                obtain ⟨hc19, hF⟩ := ite_c hF
                refine q_iald C 2 0 rfl rfl (ix_in hc19) dX1_search_96 ?_
                refine q_put (C0 := RX1) (T := TX1) (N := 8) (k0 := 7) C lk1 0 rfl rfl (by decide) lk2 rfl tyX1 tyX1_ok nmX1 rfl (v := .int (v_firsts ((v_queue (x4).toNatClampNeg)).toNatClampNeg)) rfl rfl (Nat.le_of_ble_eq_true rfl) ([(o, .inr (1, [.ref o_steps, .ref o_firsts, .ref o_queue, .int v_size, .int v_oneListens, .int v_otherListens, .int (v_steps ((v_queue (x4).toNatClampNeg)).toNatClampNeg), .int (v_firsts ((v_queue (x4).toNatClampNeg)).toNatClampNeg)])), (o_steps, .inl (cI, 400, .inl v_steps)), (o_firsts, .inl (cI, 400, .inl v_firsts)), (o_queue, .inl (cI, 400, .inl v_queue)), (b1, .inr (9, [.ref b1_words, .ref b1_clashes])), (b1_words, .inl (cI, 10, .inl v_a1_words))]) rfl dX1_search_97 ?_
                cases hF
                have e20 := hx _ rfl
                cases e20
                exact q_wretv C hr dX1_search_100 hQ
          · have hF := ite_t hF c7
            cases hF
            have e21 := hx _ rfl
            cases e21
            exact q_wretv C hr dX1_search_53 hQ
  unfold f_Bringing_search at hF
  refine q_aload_n C dX1_search_0 0 rfl rfl ?_
  refine q_bipush (v := (-6 : Int32)) C dX1_search_1 (by decide) ?_
  refine q_put (C0 := RX1) (T := TX1) (N := 8) (k0 := 6) C lk1 0 rfl rfl (by decide) lk0 rfl tyX1 tyX1_ok nmX1 rfl (v := .int (-6 : Int32)) rfl rfl (Nat.le_of_ble_eq_true rfl) ([(o, .inr (1, [.ref o_steps, .ref o_firsts, .ref o_queue, .int v_size, .int v_oneListens, .int v_otherListens, .int (-6 : Int32), .int v_firstClause])), (o_steps, .inl (cI, 400, .inl v_steps)), (o_firsts, .inl (cI, 400, .inl v_firsts)), (o_queue, .inl (cI, 400, .inl v_queue)), (b1, .inr (9, [.ref b1_words, .ref b1_clashes])), (b1_words, .inl (cI, 10, .inl v_a1_words))]) rfl dX1_search_3 ?_
  refine q_aload_n C dX1_search_6 0 rfl rfl ?_
  refine q_bipush (v := (-6 : Int32)) C dX1_search_7 (by decide) ?_
  refine q_put (C0 := RX1) (T := TX1) (N := 8) (k0 := 7) C lk1 0 rfl rfl (by decide) lk2 rfl tyX1 tyX1_ok nmX1 rfl (v := .int (-6 : Int32)) rfl rfl (Nat.le_of_ble_eq_true rfl) ([(o, .inr (1, [.ref o_steps, .ref o_firsts, .ref o_queue, .int v_size, .int v_oneListens, .int v_otherListens, .int (-6 : Int32), .int (-6 : Int32)])), (o_steps, .inl (cI, 400, .inl v_steps)), (o_firsts, .inl (cI, 400, .inl v_firsts)), (o_queue, .inl (cI, 400, .inl v_queue)), (b1, .inr (9, [.ref b1_words, .ref b1_clashes])), (b1_words, .inl (cI, 10, .inl v_a1_words))]) rfl dX1_search_9 ?_
  refine q_iconst (v := (0 : Int32)) C dX1_search_12 (by decide) ?_
  refine q_istore C ([(4, .int (0 : Int32)), (0, .ref o), (1, .ref b1), (2, .int p2), (3, .int p3)]) dX1_search_13 (by decide) rfl ?_
  obtain ⟨n22, hF⟩ := (ev_iff _ _ _).mp hF
  refine q_lsel [1, 2, 3, 4, 0] rfl ?_
  exact L1 n22 p2 p3 (0 : Int32) v_steps v_firsts v_queue v_size (-6 : Int32) (-6 : Int32) hF
set_option maxRecDepth 100000 in
set_option maxHeartbeats 4000000 in
theorem c_X2_commonDivisor (l : Launch) (dC : Nat → ClassId) (dI : Nat → Nat → Nat) (cI cZ cQ : ClassId) (p1 : Int64) (p2 : Int64) (R : Int64) (hF : f_Fraction_commonDivisor p1 p2 = some R) (sz : Nat) : Met l yX2_commonDivisor wsX2_commonDivisor ({ frames := 0, cells := 0, slots := 0, locals := 0 } : Room) (qPc ([.long p1, .long p2]) (dC, dI) (qT cI cZ cQ) ([]) sz) (qRl R) 0 0 (fun _ => False) := by
  refine q_met_r (cc := cX2_commonDivisor) (own := RX2) (maxL := 11) (ret := (some .long)) (lv0 := [(0, .long p1), (2, .long p2)]) (by decide) rfl rfl rfl (Nat.le_of_ble_eq_true rfl) ?_
  intro p e s m args below meth c C hr A A' Q hA0 hQ
  have L1 : ∀ (n : Nat) (x4 : Int64) (x6 : Int64) (x8 : Int32) (y4 : Int64), evr (fun s => b_Fraction_commonDivisor_1 s.1 s.2.1 s.2.2) n (x4, x6, x8) = some y4 → qG p l e ({ frames := 0, cells := 0, slots := 0, locals := 0 } : Room) s m args below meth c 11 (dC, dI) A A' Q 0 0 ([(4, .long y4)]) [] ([]) 45 → qG p l e ({ frames := 0, cells := 0, slots := 0, locals := 0 } : Room) s m args below meth c 11 (dC, dI) A A' Q 0 0 ([(4, .long x4), (6, .long x6), (8, .int x8)]) [] ([]) 9 := by
    clear hF
    intro n
    induction n with
    | zero => intro x4 x6 x8 y4 hF; exact (evr_0 hF).elim
    | succ n ih =>
      intro x4 x6 x8 y4 hF hk
      obtain ⟨o9, hB, hn, hx⟩ := evr_c hF
      have hF : b_Fraction_commonDivisor_1  x4 x6 x8 = some o9 := hB
      unfold b_Fraction_commonDivisor_1 at hF
      refine q_iload C dX2_commonDivisor_9 2 rfl ?_
      refine q_sipush (v := (1000 : Int32)) C dX2_commonDivisor_11 (by decide) ?_
      refine q_icmp_ge (tgt := 45) C dX2_commonDivisor_14 (by decide) (fun c1 => ?_) (fun c1 => ?_)
      · have hF := ite_t hF c1
        cases hF
        have e2 := hx _ rfl
        cases e2
        refine q_lsel [0] rfl ?_
        exact hk
      · have hF := ite_f hF c1
        refine q_lload C dX2_commonDivisor_17 1 rfl ?_
        refine q_lconst (v := (0 : Int64)) C dX2_commonDivisor_19 (by decide) ?_
        refine q_lcmp C dX2_commonDivisor_20 ?_
        refine q_if_eq (tgt := 45) C dX2_commonDivisor_21 (by decide) (fun c3 => ?_) (fun c3 => ?_)
        · have hF := ite_t hF c3
          cases hF
          have e4 := hx _ rfl
          cases e4
          refine q_lsel [0] rfl ?_
          exact hk
        · have hF := ite_f hF c3
          refine q_lload C dX2_commonDivisor_24 0 rfl ?_
          refine q_lload C dX2_commonDivisor_26 1 rfl ?_
          obtain ⟨hc5, hF⟩ := ite_c hF
          refine q_lrem C dX2_commonDivisor_28 hc5 ?_
          refine q_lstore C ([(9, .long (x4 - x4 / x6 * x6)), (4, .long x4), (6, .long x6), (8, .int x8)]) dX2_commonDivisor_29 (by decide) rfl ?_
          refine q_lload C dX2_commonDivisor_31 2 rfl ?_
          refine q_lstore C ([(4, .long x6), (9, .long (x4 - x4 / x6 * x6)), (6, .long x6), (8, .int x8)]) dX2_commonDivisor_33 (by decide) rfl ?_
          refine q_lload C dX2_commonDivisor_35 1 rfl ?_
          refine q_lstore C ([(6, .long (x4 - x4 / x6 * x6)), (4, .long x6), (9, .long (x4 - x4 / x6 * x6)), (8, .int x8)]) dX2_commonDivisor_37 (by decide) rfl ?_
          refine q_iinc (v := (x8 + 1)) C ([(8, .int (x8 + 1)), (6, .long (x4 - x4 / x6 * x6)), (4, .long x6), (9, .long (x4 - x4 / x6 * x6))]) dX2_commonDivisor_39 3 rfl rfl (by decide) rfl ?_
          refine q_goto (tgt := 9) C dX2_commonDivisor_42 (by decide) ?_
          cases hF
          refine q_lsel [2, 1, 0] rfl ?_
          exact ih x6 (x4 - x4 / x6 * x6) (x8 + 1) y4 (hn _ rfl) hk
  unfold f_Fraction_commonDivisor at hF
  refine q_lload_n C dX2_commonDivisor_0 0 rfl rfl ?_
  refine q_lstore C ([(4, .long p1), (0, .long p1), (2, .long p2)]) dX2_commonDivisor_1 (by decide) rfl ?_
  refine q_lload_n C dX2_commonDivisor_3 2 rfl rfl ?_
  refine q_lstore C ([(6, .long p2), (4, .long p1), (0, .long p1), (2, .long p2)]) dX2_commonDivisor_4 (by decide) rfl ?_
  refine q_iconst (v := (0 : Int32)) C dX2_commonDivisor_6 (by decide) ?_
  refine q_istore C ([(8, .int (0 : Int32)), (6, .long p2), (4, .long p1), (0, .long p1), (2, .long p2)]) dX2_commonDivisor_7 (by decide) rfl ?_
  obtain ⟨y4_6, hc7, hF⟩ := bind_c hF
  obtain ⟨n8, hc7⟩ := (ev_iff _ _ _).mp hc7
  refine q_lsel [2, 1, 0] rfl ?_
  refine L1 n8 p1 p2 (0 : Int32) y4_6 hc7 ?_
  refine q_lload C dX2_commonDivisor_45 0 rfl ?_
  cases hF
  exact q_iretl C hA0 hr dX2_commonDivisor_47 hQ
set_option maxRecDepth 100000 in
set_option maxHeartbeats 4000000 in
theorem c_X2_reduce (l : Launch) (dC : Nat → ClassId) (dI : Nat → Nat → Nat) (cI cZ cQ : ClassId) (o : Nat) (v_upper : Int64) (v_lower : Int64) (w_upper : Int64) (w_lower : Int64) (hF : f_Fraction_reduce v_upper v_lower = some (w_upper, w_lower)) (sz : Nat) : Met l yX2_reduce wsX2_reduce ({ frames := 1, cells := 0, slots := 0, locals := 30 } : Room) (qPc ([.ref o]) (dC, dI) (qT cI cZ cQ) ([(o, .inr (2, [.long v_upper, .long v_lower]))]) sz) (qWv (dC, dI) ([(o, .inr (2, [.long w_upper, .long w_lower]))]) (va_A ([(o, .inr (2, [.long v_upper, .long v_lower]))]) sz)) 0 0 (va_A ([(o, .inr (2, [.long v_upper, .long v_lower]))]) sz) := by
  refine q_met_w (Qc := fun A => qWv (dC, dI) ([(o, .inr (2, [.long w_upper, .long w_lower]))]) A) (cc := cX2_reduce) (own := RX2) (maxL := 3) (ret := none) (lv0 := [(0, .ref o)]) (by decide) rfl rfl rfl (Nat.le_of_ble_eq_true rfl) ?_
  intro p e s m args below meth c A hA C hr hnm Q hQ
  have lk0 : Cond.fieldLink RX2 13 "SealStrait$Fraction" "upper" "J" ∈ wsX2_reduce := by decide +kernel
  have lk1 : ∀ w ∈ u_ws RX2 TX2 2, w ∈ wsX2_reduce := fun w h => List.mem_cons_of_mem _ (List.mem_append_right _ h)
  have lk2 : Cond.fieldLink RX2 7 "SealStrait$Fraction" "lower" "J" ∈ wsX2_reduce := by decide +kernel
  unfold f_Fraction_reduce at hF
  refine q_aload_n C dX2_reduce_0 0 rfl rfl ?_
  refine q_get (C0 := RX2) (T := TX2) (N := 2) (k0 := 0) C lk1 0 rfl rfl (by decide) lk0 rfl (v := .long v_upper) rfl dX2_reduce_1 ?_
  refine q_aload_n C dX2_reduce_4 0 rfl rfl ?_
  refine q_get (C0 := RX2) (T := TX2) (N := 2) (k0 := 1) C lk1 0 rfl rfl (by decide) lk2 rfl (v := .long v_lower) rfl dX2_reduce_5 ?_
  obtain ⟨r1, hc2, hF⟩ := bind_c hF
  refine q_rol (q_runS (As := [.long v_upper, .long v_lower]) (rest := []) C (fun sz => c_X2_commonDivisor l dC dI cI cZ cQ v_upper v_lower r1 hc2 sz) (va_cwS 2 C.2.2.2.2.1 gX2_reduce_X2_commonDivisor rfl rfl rfl (by decide +kernel) ⟨Nat.le_of_ble_eq_true rfl, Nat.le_of_ble_eq_true rfl⟩) [] rfl rfl rfl rfl (Nat.le_of_ble_eq_true rfl) dX2_reduce_8 ⟨Nat.zero_le _, Nat.zero_le _⟩) ?_
  refine q_lstore_n C ([(1, .long r1), (0, .ref o)]) dX2_reduce_11 rfl (by decide) rfl ?_
  refine q_lload_n C dX2_reduce_12 0 rfl rfl ?_
  refine q_lconst (v := (1 : Int64)) C dX2_reduce_13 (by decide) ?_
  refine q_lcmp C dX2_reduce_14 ?_
  refine q_if_le (tgt := 38) C dX2_reduce_15 (by decide) (fun c3 => ?_) (fun c3 => ?_)
  · have hF := ite_t hF c3
    cases hF
    exact q_wretv C hr dX2_reduce_38 hQ
  · have hF := ite_f hF c3
    refine q_aload_n C dX2_reduce_18 1 rfl rfl ?_
    refine q_dup C dX2_reduce_19 rfl ?_
    refine q_get (C0 := RX2) (T := TX2) (N := 2) (k0 := 0) C lk1 0 rfl rfl (by decide) lk0 rfl (v := .long v_upper) rfl dX2_reduce_20 ?_
    refine q_lload_n C dX2_reduce_23 0 rfl rfl ?_
    obtain ⟨hc4, hF⟩ := ite_c hF
    refine q_ldiv C dX2_reduce_24 hc4 ?_
    refine q_put (C0 := RX2) (T := TX2) (N := 2) (k0 := 0) C lk1 0 rfl rfl (by decide) lk0 rfl tyX2 tyX2_ok nmX2 rfl (v := .long (v_upper / r1)) rfl rfl (Nat.le_of_ble_eq_true rfl) ([(o, .inr (2, [.long (v_upper / r1), .long v_lower]))]) rfl dX2_reduce_25 ?_
    refine q_aload_n C dX2_reduce_28 1 rfl rfl ?_
    refine q_dup C dX2_reduce_29 rfl ?_
    refine q_get (C0 := RX2) (T := TX2) (N := 2) (k0 := 1) C lk1 0 rfl rfl (by decide) lk2 rfl (v := .long v_lower) rfl dX2_reduce_30 ?_
    refine q_lload_n C dX2_reduce_33 0 rfl rfl ?_
    obtain ⟨hc5, hF⟩ := ite_c hF
    refine q_ldiv C dX2_reduce_34 hc5 ?_
    refine q_put (C0 := RX2) (T := TX2) (N := 2) (k0 := 1) C lk1 0 rfl rfl (by decide) lk2 rfl tyX2 tyX2_ok nmX2 rfl (v := .long (v_lower / r1)) rfl rfl (Nat.le_of_ble_eq_true rfl) ([(o, .inr (2, [.long (v_upper / r1), .long (v_lower / r1)]))]) rfl dX2_reduce_35 ?_
    cases hF
    exact q_wretv C hr dX2_reduce_38 hQ
set_option maxRecDepth 100000 in
set_option maxHeartbeats 4000000 in
theorem c_X2_setWaiting (l : Launch) (dC : Nat → ClassId) (dI : Nat → Nat → Nat) (cI cZ cQ : ClassId) (o : Nat) (v_upper : Int64) (v_lower : Int64) (p1 : Int32) (p2 : Int32) (w_upper : Int64) (w_lower : Int64) (hF : f_Fraction_setWaiting v_upper v_lower p1 p2 = some (w_upper, w_lower)) (sz : Nat) : Met l yX2_setWaiting wsX2_setWaiting ({ frames := 2, cells := 0, slots := 0, locals := 52 } : Room) (qPc ([.ref o, .int p1, .int p2]) (dC, dI) (qT cI cZ cQ) ([(o, .inr (2, [.long v_upper, .long v_lower]))]) sz) (qWv (dC, dI) ([(o, .inr (2, [.long w_upper, .long w_lower]))]) (va_A ([(o, .inr (2, [.long v_upper, .long v_lower]))]) sz)) 0 0 (va_A ([(o, .inr (2, [.long v_upper, .long v_lower]))]) sz) := by
  refine q_met_w (Qc := fun A => qWv (dC, dI) ([(o, .inr (2, [.long w_upper, .long w_lower]))]) A) (cc := cX2_setWaiting) (own := RX2) (maxL := 7) (ret := none) (lv0 := [(0, .ref o), (1, .int p1), (2, .int p2)]) (by decide) rfl rfl rfl (Nat.le_of_ble_eq_true rfl) ?_
  intro p e s m args below meth c A hA C hr hnm Q hQ
  have lk0 : Cond.fieldLink RX2 13 "SealStrait$Fraction" "upper" "J" ∈ wsX2_setWaiting := by decide +kernel
  have lk1 : ∀ w ∈ u_ws RX2 TX2 2, w ∈ wsX2_setWaiting := fun w h => List.mem_cons_of_mem _ (List.mem_append_right _ h)
  have lk2 : Cond.fieldLink RX2 7 "SealStrait$Fraction" "lower" "J" ∈ wsX2_setWaiting := by decide +kernel
  have lk3 : Cond.methodLink RX2 16 Lib.MathLoose.max_long.x ∈ wsX2_setWaiting := by decide +kernel
  have lk4 : Cond.static Lib.MathLoose.max_long.x ∈ wsX2_setWaiting := by decide +kernel
  have lk5 : Cond.initialized "java/lang/Math" ∈ wsX2_setWaiting := by decide +kernel
  have lk6 : Cond.code Lib.MathLoose.max_long.x Lib.MathLoose.max_long.code 4 (some .long) ∈ wsX2_setWaiting := by decide +kernel
  have L2 : ∀ (n : Nat) (x1 : Int32) (x2 : Int32) (x3 : Int32) (x4 : Int64) (x6 : Int32) (v_upper : Int64) (v_lower : Int64) (y4 : Int64), evr (fun s => b_Fraction_setWaiting_2 x2 v_upper v_lower s.1 s.2) n (x4, x6) = some y4 → qG p l e ({ frames := 2, cells := 0, slots := 0, locals := 52 } : Room) s m args below meth c 7 (dC, dI) A A Q 0 0 ([(0, .ref o), (1, .int x1), (2, .int x2), (3, .int x3), (4, .long y4)]) [] ([(o, .inr (2, [.long v_upper, .long v_lower]))]) 55 → qG p l e ({ frames := 2, cells := 0, slots := 0, locals := 52 } : Room) s m args below meth c 7 (dC, dI) A A Q 0 0 ([(0, .ref o), (1, .int x1), (2, .int x2), (3, .int x3), (4, .long x4), (6, .int x6)]) [] ([(o, .inr (2, [.long v_upper, .long v_lower]))]) 23 := by
    clear hF
    intro n
    induction n with
    | zero => intro x1 x2 x3 x4 x6 v_upper v_lower y4 hF; exact (evr_0 hF).elim
    | succ n ih =>
      intro x1 x2 x3 x4 x6 v_upper v_lower y4 hF hk
      obtain ⟨o9, hB, hn, hx⟩ := evr_c hF
      have hF : b_Fraction_setWaiting_2 x2 v_upper v_lower x4 x6 = some o9 := hB
      unfold b_Fraction_setWaiting_2 at hF
      refine q_iload C dX2_setWaiting_23 5 rfl ?_
      refine q_iload_n C dX2_setWaiting_25 2 rfl rfl ?_
      refine q_icmp_gt (tgt := 55) C dX2_setWaiting_26 (by decide) (fun c1 => ?_) (fun c1 => ?_)
      · have hF := ite_t hF c1
        cases hF
        have e2 := hx _ rfl
        cases e2
        refine q_lsel [0, 1, 2, 3, 4] rfl ?_
        exact hk
      · have hF := ite_f hF c1
        refine q_lload C dX2_setWaiting_29 4 rfl ?_
        refine q_iload C dX2_setWaiting_31 5 rfl ?_
        refine q_i2l C dX2_setWaiting_33 ?_
        refine q_aload_n C dX2_setWaiting_34 0 rfl rfl ?_
        refine q_get (C0 := RX2) (T := TX2) (N := 2) (k0 := 1) C lk1 0 rfl rfl (by decide) lk2 rfl (v := .long v_lower) rfl dX2_setWaiting_35 ?_
        refine q_lmul C dX2_setWaiting_38 ?_
        refine q_aload_n C dX2_setWaiting_39 0 rfl rfl ?_
        refine q_get (C0 := RX2) (T := TX2) (N := 2) (k0 := 0) C lk1 0 rfl rfl (by decide) lk0 rfl (v := .long v_upper) rfl dX2_setWaiting_40 ?_
        refine q_mmaxL C lk3 lk4 lk5 lk6 (Nat.le_of_ble_eq_true rfl) (Nat.le_of_ble_eq_true rfl) (Nat.zero_le _) (Nat.zero_le _) dX2_setWaiting_43 ?_
        refine q_ladd C dX2_setWaiting_46 ?_
        refine q_lstore C ([(4, .long (x4 + (if v_upper < ((x6).toInt64 * v_lower) then ((x6).toInt64 * v_lower) else v_upper))), (0, .ref o), (1, .int x1), (2, .int x2), (3, .int x3), (6, .int x6)]) dX2_setWaiting_47 (by decide) rfl ?_
        refine q_iinc (v := (x6 + 1)) C ([(6, .int (x6 + 1)), (4, .long (x4 + (if v_upper < ((x6).toInt64 * v_lower) then ((x6).toInt64 * v_lower) else v_upper))), (0, .ref o), (1, .int x1), (2, .int x2), (3, .int x3)]) dX2_setWaiting_49 5 rfl rfl (by decide) rfl ?_
        refine q_goto (tgt := 23) C dX2_setWaiting_52 (by decide) ?_
        cases hF
        refine q_lsel [2, 3, 4, 5, 1, 0] rfl ?_
        exact ih x1 x2 x3 (x4 + (if v_upper < ((x6).toInt64 * v_lower) then ((x6).toInt64 * v_lower) else v_upper)) (x6 + 1) v_upper v_lower y4 (hn _ rfl) hk
  have L1 : ∀ (n : Nat) (x1 : Int32) (x2 : Int32) (x3 : Int32) (v_upper : Int64) (v_lower : Int64) (z_upper : Int64) (z_lower : Int64), evr (fun s => b_Fraction_setWaiting_1 x1 x2 s.1 s.2.1 s.2.2) n (x3, v_upper, v_lower) = some (z_upper, z_lower) → qG p l e ({ frames := 2, cells := 0, slots := 0, locals := 52 } : Room) s m args below meth c 7 (dC, dI) A A Q 0 0 ([(0, .ref o)]) [] ([(o, .inr (2, [.long z_upper, .long z_lower]))]) 80 → qG p l e ({ frames := 2, cells := 0, slots := 0, locals := 52 } : Room) s m args below meth c 7 (dC, dI) A A Q 0 0 ([(0, .ref o), (1, .int x1), (2, .int x2), (3, .int x3)]) [] ([(o, .inr (2, [.long v_upper, .long v_lower]))]) 12 := by
    clear hF
    intro n
    induction n with
    | zero => intro x1 x2 x3 v_upper v_lower z_upper z_lower hF; exact (evr_0 hF).elim
    | succ n ih =>
      intro x1 x2 x3 v_upper v_lower z_upper z_lower hF hk
      obtain ⟨o9, hB, hn, hx⟩ := evr_c hF
      have hF : b_Fraction_setWaiting_1 x1 x2 x3 v_upper v_lower = some o9 := hB
      unfold b_Fraction_setWaiting_1 at hF
      refine q_iload_n C dX2_setWaiting_12 3 rfl rfl ?_
      refine q_iload_n C dX2_setWaiting_13 1 rfl rfl ?_
      refine q_icmp_ge (tgt := 80) C dX2_setWaiting_14 (by decide) (fun c3 => ?_) (fun c3 => ?_)
      · have hF := ite_t hF c3
        cases hF
        have e4 := hx _ rfl
        cases e4
        refine q_lsel [0] rfl ?_
        exact hk
      · have hF := ite_f hF c3
        refine q_lconst (v := (0 : Int64)) C dX2_setWaiting_17 (by decide) ?_
        refine q_lstore C ([(4, .long (0 : Int64)), (0, .ref o), (1, .int x1), (2, .int x2), (3, .int x3)]) dX2_setWaiting_18 (by decide) rfl ?_
        refine q_iconst (v := (0 : Int32)) C dX2_setWaiting_20 (by decide) ?_
        refine q_istore C ([(6, .int (0 : Int32)), (4, .long (0 : Int64)), (0, .ref o), (1, .int x1), (2, .int x2), (3, .int x3)]) dX2_setWaiting_21 (by decide) rfl ?_
        obtain ⟨y4_5, hc6, hF⟩ := bind_c hF
        obtain ⟨n7, hc6⟩ := (ev_iff _ _ _).mp hc6
        refine q_lsel [2, 3, 4, 5, 1, 0] rfl ?_
        refine L2 n7 x1 x2 x3 (0 : Int64) (0 : Int32) v_upper v_lower y4_5 hc6 ?_
        refine q_aload_n C dX2_setWaiting_55 0 rfl rfl ?_
        refine q_lload C dX2_setWaiting_56 4 rfl ?_
        refine q_put (C0 := RX2) (T := TX2) (N := 2) (k0 := 0) C lk1 0 rfl rfl (by decide) lk0 rfl tyX2 tyX2_ok nmX2 rfl (v := .long y4_5) rfl rfl (Nat.le_of_ble_eq_true rfl) ([(o, .inr (2, [.long y4_5, .long v_lower]))]) rfl dX2_setWaiting_58 ?_
        refine q_aload_n C dX2_setWaiting_61 0 rfl rfl ?_
        refine q_dup C dX2_setWaiting_62 rfl ?_
        refine q_get (C0 := RX2) (T := TX2) (N := 2) (k0 := 1) C lk1 0 rfl rfl (by decide) lk2 rfl (v := .long v_lower) rfl dX2_setWaiting_63 ?_
        refine q_iload_n C dX2_setWaiting_66 2 rfl rfl ?_
        refine q_iconst (v := (1 : Int32)) C dX2_setWaiting_67 (by decide) ?_
        refine q_iadd C dX2_setWaiting_68 ?_
        refine q_i2l C dX2_setWaiting_69 ?_
        refine q_lmul C dX2_setWaiting_70 ?_
        refine q_put (C0 := RX2) (T := TX2) (N := 2) (k0 := 1) C lk1 0 rfl rfl (by decide) lk2 rfl tyX2 tyX2_ok nmX2 rfl (v := .long (v_lower * ((x2 + (1 : Int32))).toInt64)) rfl rfl (Nat.le_of_ble_eq_true rfl) ([(o, .inr (2, [.long y4_5, .long (v_lower * ((x2 + (1 : Int32))).toInt64)]))]) rfl dX2_setWaiting_71 ?_
        refine q_iinc (v := (x3 + 1)) C ([(3, .int (x3 + 1)), (0, .ref o), (1, .int x1), (2, .int x2), (4, .long y4_5)]) dX2_setWaiting_74 3 rfl rfl (by decide) rfl ?_
        refine q_goto (tgt := 12) C dX2_setWaiting_77 (by decide) ?_
        cases hF
        refine q_lsel [1, 2, 3, 0] rfl ?_
        exact ih x1 x2 (x3 + 1) y4_5 (v_lower * ((x2 + (1 : Int32))).toInt64) z_upper z_lower (hn _ rfl) hk
  unfold f_Fraction_setWaiting at hF
  refine q_aload_n C dX2_setWaiting_0 0 rfl rfl ?_
  refine q_lconst (v := (0 : Int64)) C dX2_setWaiting_1 (by decide) ?_
  refine q_put (C0 := RX2) (T := TX2) (N := 2) (k0 := 0) C lk1 0 rfl rfl (by decide) lk0 rfl tyX2 tyX2_ok nmX2 rfl (v := .long (0 : Int64)) rfl rfl (Nat.le_of_ble_eq_true rfl) ([(o, .inr (2, [.long (0 : Int64), .long v_lower]))]) rfl dX2_setWaiting_2 ?_
  refine q_aload_n C dX2_setWaiting_5 0 rfl rfl ?_
  refine q_lconst (v := (1 : Int64)) C dX2_setWaiting_6 (by decide) ?_
  refine q_put (C0 := RX2) (T := TX2) (N := 2) (k0 := 1) C lk1 0 rfl rfl (by decide) lk2 rfl tyX2 tyX2_ok nmX2 rfl (v := .long (1 : Int64)) rfl rfl (Nat.le_of_ble_eq_true rfl) ([(o, .inr (2, [.long (0 : Int64), .long (1 : Int64)]))]) rfl dX2_setWaiting_7 ?_
  refine q_iconst (v := (0 : Int32)) C dX2_setWaiting_10 (by decide) ?_
  refine q_istore_n C ([(3, .int (0 : Int32)), (0, .ref o), (1, .int p1), (2, .int p2)]) dX2_setWaiting_11 rfl (by decide) rfl ?_
  obtain ⟨⟨z8_upper, z8_lower⟩, hc9, hF⟩ := bind_c hF
  dsimp only at hF
  obtain ⟨n10, hc9⟩ := (ev_iff _ _ _).mp hc9
  refine q_lsel [1, 2, 3, 0] rfl ?_
  refine L1 n10 p1 p2 (0 : Int32) (0 : Int64) (1 : Int64) z8_upper z8_lower hc9 ?_
  refine q_aload_n C dX2_setWaiting_80 0 rfl rfl ?_
  obtain ⟨⟨u11_upper, u11_lower⟩, hc12, hF⟩ := bind_c hF
  dsimp only at hF
  refine q_rwv hA ([(o, .inr (2, [.long u11_upper, .long u11_lower]))]) [0] [] rfl rfl rfl (by decide) [0] rfl rfl (q_runV (As := []) (rest := []) C (fun sz => c_X2_reduce l dC dI cI cZ cQ o z8_upper z8_lower u11_upper u11_lower hc12 sz) (cwV 0 C.2.2.2.2.1 gX2_setWaiting_X2_reduce rfl rfl rfl (by decide +kernel) ⟨Nat.le_of_ble_eq_true rfl, Nat.le_of_ble_eq_true rfl⟩) 0 rfl rfl rfl [0] rfl rfl rfl rfl (Nat.le_of_ble_eq_true rfl) dX2_setWaiting_81 ⟨Nat.zero_le _, Nat.zero_le _⟩) ?_
  cases hF
  exact q_wretv C hr dX2_setWaiting_84 hQ
set_option maxRecDepth 100000 in
set_option maxHeartbeats 4000000 in
theorem c_X2_setDrift (l : Launch) (dC : Nat → ClassId) (dI : Nat → Nat → Nat) (cI cZ cQ : ClassId) (o : Nat) (v_upper : Int64) (v_lower : Int64) (p1 : Int32) (p2 : Int32) (p3 : Int32) (p4 : Int32) (p5 : Int32) (w_upper : Int64) (w_lower : Int64) (hF : f_Fraction_setDrift v_upper v_lower p1 p2 p3 p4 p5 = some (w_upper, w_lower)) (sz : Nat) : Met l yX2_setDrift wsX2_setDrift ({ frames := 2, cells := 0, slots := 0, locals := 52 } : Room) (qPc ([.ref o, .int p1, .int p2, .int p3, .int p4, .int p5]) (dC, dI) (qT cI cZ cQ) ([(o, .inr (2, [.long v_upper, .long v_lower]))]) sz) (qWv (dC, dI) ([(o, .inr (2, [.long w_upper, .long w_lower]))]) (va_A ([(o, .inr (2, [.long v_upper, .long v_lower]))]) sz)) 0 0 (va_A ([(o, .inr (2, [.long v_upper, .long v_lower]))]) sz) := by
  refine q_met_w (Qc := fun A => qWv (dC, dI) ([(o, .inr (2, [.long w_upper, .long w_lower]))]) A) (cc := cX2_setDrift) (own := RX2) (maxL := 11) (ret := none) (lv0 := [(0, .ref o), (1, .int p1), (2, .int p2), (3, .int p3), (4, .int p4), (5, .int p5)]) (by decide) rfl rfl rfl (Nat.le_of_ble_eq_true rfl) ?_
  intro p e s m args below meth c A hA C hr hnm Q hQ
  have lk0 : Cond.fieldLink RX2 7 "SealStrait$Fraction" "lower" "J" ∈ wsX2_setDrift := by decide +kernel
  have lk1 : ∀ w ∈ u_ws RX2 TX2 2, w ∈ wsX2_setDrift := fun w h => List.mem_cons_of_mem _ (List.mem_append_right _ h)
  have lk2 : Cond.constantLong RX2 25 (10 : Int64) ∈ wsX2_setDrift := by decide +kernel
  have lk3 : Cond.fieldLink RX2 13 "SealStrait$Fraction" "upper" "J" ∈ wsX2_setDrift := by decide +kernel
  have L1 : ∀ (n : Nat) (x2 : Int32) (x3 : Int32) (x4 : Int32) (x5 : Int32) (x6 : Int64) (x8 : Int64) (x10 : Int32) (v_upper : Int64) (v_lower : Int64) (y6 : Int64) (y8 : Int64) (z_lower : Int64), evr (fun s => b_Fraction_setDrift_1 x2 x3 x4 s.1 s.2.1 s.2.2.1 s.2.2.2) n (x6, x8, x10, v_lower) = some (y6, y8, z_lower) → qG p l e ({ frames := 2, cells := 0, slots := 0, locals := 52 } : Room) s m args below meth c 11 (dC, dI) A A Q 0 0 ([(0, .ref o), (5, .int x5), (6, .long y6), (8, .long y8)]) [] ([(o, .inr (2, [.long v_upper, .long z_lower]))]) 72 → qG p l e ({ frames := 2, cells := 0, slots := 0, locals := 52 } : Room) s m args below meth c 11 (dC, dI) A A Q 0 0 ([(0, .ref o), (2, .int x2), (3, .int x3), (4, .int x4), (5, .int x5), (6, .long x6), (8, .long x8), (10, .int x10)]) [] ([(o, .inr (2, [.long v_upper, .long v_lower]))]) 15 := by
    clear hF
    intro n
    induction n with
    | zero => intro x2 x3 x4 x5 x6 x8 x10 v_upper v_lower y6 y8 z_lower hF; exact (evr_0 hF).elim
    | succ n ih =>
      intro x2 x3 x4 x5 x6 x8 x10 v_upper v_lower y6 y8 z_lower hF hk
      obtain ⟨o9, hB, hn, hx⟩ := evr_c hF
      have hF : b_Fraction_setDrift_1 x2 x3 x4 x6 x8 x10 v_lower = some o9 := hB
      unfold b_Fraction_setDrift_1 at hF
      refine q_iload C dX2_setDrift_15 7 rfl ?_
      refine q_iload C dX2_setDrift_17 3 rfl ?_
      refine q_icmp_ge (tgt := 72) C dX2_setDrift_19 (by decide) (fun c1 => ?_) (fun c1 => ?_)
      · have hF := ite_t hF c1
        cases hF
        have e2 := hx _ rfl
        cases e2
        refine q_lsel [0, 4, 5, 6] rfl ?_
        exact hk
      · have hF := ite_f hF c1
        refine q_lload C dX2_setDrift_22 5 rfl ?_
        refine q_bipush (v := (10 : Int32)) C dX2_setDrift_24 (by decide) ?_
        refine q_iload_n C dX2_setDrift_26 2 rfl rfl ?_
        refine q_isub C dX2_setDrift_27 ?_
        refine q_i2l C dX2_setDrift_28 ?_
        refine q_lmul C dX2_setDrift_29 ?_
        refine q_aload_n C dX2_setDrift_30 0 rfl rfl ?_
        refine q_get (C0 := RX2) (T := TX2) (N := 2) (k0 := 1) C lk1 0 rfl rfl (by decide) lk0 rfl (v := .long v_lower) rfl dX2_setDrift_31 ?_
        refine q_lload C dX2_setDrift_34 5 rfl ?_
        refine q_lsub C dX2_setDrift_36 ?_
        refine q_iload_n C dX2_setDrift_37 1 rfl rfl ?_
        refine q_i2l C dX2_setDrift_38 ?_
        refine q_lmul C dX2_setDrift_39 ?_
        refine q_ladd C dX2_setDrift_40 ?_
        refine q_lstore C ([(6, .long ((x6 * (((10 : Int32) - x3)).toInt64) + ((v_lower - x6) * (x2).toInt64))), (0, .ref o), (2, .int x2), (3, .int x3), (4, .int x4), (5, .int x5), (8, .long x8), (10, .int x10)]) dX2_setDrift_41 (by decide) rfl ?_
        refine q_lload C dX2_setDrift_43 6 rfl ?_
        refine q_ldc2 (v := (10 : Int64)) C lk2 dX2_setDrift_45 ?_
        refine q_lmul C dX2_setDrift_48 ?_
        refine q_lload C dX2_setDrift_49 0 rfl ?_
        refine q_ladd C dX2_setDrift_51 ?_
        refine q_lstore C ([(8, .long ((x8 * (10 : Int64)) + ((x6 * (((10 : Int32) - x3)).toInt64) + ((v_lower - x6) * (x2).toInt64)))), (6, .long ((x6 * (((10 : Int32) - x3)).toInt64) + ((v_lower - x6) * (x2).toInt64))), (0, .ref o), (2, .int x2), (3, .int x3), (4, .int x4), (5, .int x5), (10, .int x10)]) dX2_setDrift_52 (by decide) rfl ?_
        refine q_aload_n C dX2_setDrift_54 2 rfl rfl ?_
        refine q_dup C dX2_setDrift_55 rfl ?_
        refine q_get (C0 := RX2) (T := TX2) (N := 2) (k0 := 1) C lk1 0 rfl rfl (by decide) lk0 rfl (v := .long v_lower) rfl dX2_setDrift_56 ?_
        refine q_ldc2 (v := (10 : Int64)) C lk2 dX2_setDrift_59 ?_
        refine q_lmul C dX2_setDrift_62 ?_
        refine q_put (C0 := RX2) (T := TX2) (N := 2) (k0 := 1) C lk1 0 rfl rfl (by decide) lk0 rfl tyX2 tyX2_ok nmX2 rfl (v := .long (v_lower * (10 : Int64))) rfl rfl (Nat.le_of_ble_eq_true rfl) ([(o, .inr (2, [.long v_upper, .long (v_lower * (10 : Int64))]))]) rfl dX2_setDrift_63 ?_
        refine q_iinc (v := (x10 + 1)) C ([(10, .int (x10 + 1)), (8, .long ((x8 * (10 : Int64)) + ((x6 * (((10 : Int32) - x3)).toInt64) + ((v_lower - x6) * (x2).toInt64)))), (6, .long ((x6 * (((10 : Int32) - x3)).toInt64) + ((v_lower - x6) * (x2).toInt64))), (0, .ref o), (2, .int x2), (3, .int x3), (4, .int x4), (5, .int x5)]) dX2_setDrift_66 7 rfl rfl (by decide) rfl ?_
        refine q_goto (tgt := 15) C dX2_setDrift_69 (by decide) ?_
        cases hF
        refine q_lsel [3, 4, 5, 6, 7, 2, 1, 0] rfl ?_
        exact ih x2 x3 x4 x5 ((x6 * (((10 : Int32) - x3)).toInt64) + ((v_lower - x6) * (x2).toInt64)) ((x8 * (10 : Int64)) + ((x6 * (((10 : Int32) - x3)).toInt64) + ((v_lower - x6) * (x2).toInt64))) (x10 + 1) v_upper (v_lower * (10 : Int64)) y6 y8 z_lower (hn _ rfl) hk
  unfold f_Fraction_setDrift at hF
  refine q_iload_n C dX2_setDrift_0 1 rfl rfl ?_
  refine q_i2l C dX2_setDrift_1 ?_
  refine q_lstore C ([(6, .long (p1).toInt64), (0, .ref o), (1, .int p1), (2, .int p2), (3, .int p3), (4, .int p4), (5, .int p5)]) dX2_setDrift_2 (by decide) rfl ?_
  refine q_lconst (v := (0 : Int64)) C dX2_setDrift_4 (by decide) ?_
  refine q_lstore C ([(8, .long (0 : Int64)), (6, .long (p1).toInt64), (0, .ref o), (1, .int p1), (2, .int p2), (3, .int p3), (4, .int p4), (5, .int p5)]) dX2_setDrift_5 (by decide) rfl ?_
  refine q_aload_n C dX2_setDrift_7 2 rfl rfl ?_
  refine q_lconst (v := (1 : Int64)) C dX2_setDrift_8 (by decide) ?_
  refine q_put (C0 := RX2) (T := TX2) (N := 2) (k0 := 1) C lk1 0 rfl rfl (by decide) lk0 rfl tyX2 tyX2_ok nmX2 rfl (v := .long (1 : Int64)) rfl rfl (Nat.le_of_ble_eq_true rfl) ([(o, .inr (2, [.long v_upper, .long (1 : Int64)]))]) rfl dX2_setDrift_9 ?_
  refine q_iconst (v := (0 : Int32)) C dX2_setDrift_12 (by decide) ?_
  refine q_istore C ([(10, .int (0 : Int32)), (8, .long (0 : Int64)), (6, .long (p1).toInt64), (0, .ref o), (1, .int p1), (2, .int p2), (3, .int p3), (4, .int p4), (5, .int p5)]) dX2_setDrift_13 (by decide) rfl ?_
  obtain ⟨⟨y6_3, y8_3, z3_lower⟩, hc4, hF⟩ := bind_c hF
  dsimp only at hF
  obtain ⟨n5, hc4⟩ := (ev_iff _ _ _).mp hc4
  refine q_lsel [3, 5, 6, 7, 8, 2, 1, 0] rfl ?_
  refine L1 n5 p2 p3 p4 p5 (p1).toInt64 (0 : Int64) (0 : Int32) v_upper (1 : Int64) y6_3 y8_3 z3_lower hc4 ?_
  refine q_aload_n C dX2_setDrift_72 0 rfl rfl ?_
  refine q_iload C dX2_setDrift_73 1 rfl ?_
  refine q_if_ne (tgt := 83) C dX2_setDrift_75 (by decide) (fun c6 => ?_) (fun c6 => ?_)
  · have hF := ite_f hF c6
    refine q_lload C dX2_setDrift_83 3 rfl ?_
    refine q_put (C0 := RX2) (T := TX2) (N := 2) (k0 := 0) C lk1 0 rfl rfl (by decide) lk3 rfl tyX2 tyX2_ok nmX2 rfl (v := .long y8_3) rfl rfl (Nat.le_of_ble_eq_true rfl) ([(o, .inr (2, [.long y8_3, .long z3_lower]))]) rfl dX2_setDrift_85 ?_
    refine q_aload_n C dX2_setDrift_88 0 rfl rfl ?_
    obtain ⟨⟨u7_upper, u7_lower⟩, hc8, hF⟩ := bind_c hF
    dsimp only at hF
    refine q_rwv hA ([(o, .inr (2, [.long u7_upper, .long u7_lower]))]) [0] [] rfl rfl rfl (by decide) [0] rfl rfl (q_runV (As := []) (rest := []) C (fun sz => c_X2_reduce l dC dI cI cZ cQ o y8_3 z3_lower u7_upper u7_lower hc8 sz) (cwV 0 C.2.2.2.2.1 gX2_setDrift_X2_reduce rfl rfl rfl (by decide +kernel) ⟨Nat.le_of_ble_eq_true rfl, Nat.le_of_ble_eq_true rfl⟩) 0 rfl rfl rfl [0] rfl rfl rfl rfl (Nat.le_of_ble_eq_true rfl) dX2_setDrift_89 ⟨Nat.zero_le _, Nat.zero_le _⟩) ?_
    cases hF
    exact q_wretv C hr dX2_setDrift_92 hQ
  · have hF := ite_t hF c6
    refine q_lload C dX2_setDrift_78 2 rfl ?_
    refine q_goto (tgt := 85) C dX2_setDrift_80 (by decide) ?_
    refine q_put (C0 := RX2) (T := TX2) (N := 2) (k0 := 0) C lk1 0 rfl rfl (by decide) lk3 rfl tyX2 tyX2_ok nmX2 rfl (v := .long y6_3) rfl rfl (Nat.le_of_ble_eq_true rfl) ([(o, .inr (2, [.long y6_3, .long z3_lower]))]) rfl dX2_setDrift_85 ?_
    refine q_aload_n C dX2_setDrift_88 0 rfl rfl ?_
    obtain ⟨⟨u9_upper, u9_lower⟩, hc10, hF⟩ := bind_c hF
    dsimp only at hF
    refine q_rwv hA ([(o, .inr (2, [.long u9_upper, .long u9_lower]))]) [0] [] rfl rfl rfl (by decide) [0] rfl rfl (q_runV (As := []) (rest := []) C (fun sz => c_X2_reduce l dC dI cI cZ cQ o y6_3 z3_lower u9_upper u9_lower hc10 sz) (cwV 0 C.2.2.2.2.1 gX2_setDrift_X2_reduce rfl rfl rfl (by decide +kernel) ⟨Nat.le_of_ble_eq_true rfl, Nat.le_of_ble_eq_true rfl⟩) 0 rfl rfl rfl [0] rfl rfl rfl rfl (Nat.le_of_ble_eq_true rfl) dX2_setDrift_89 ⟨Nat.zero_le _, Nat.zero_le _⟩) ?_
    cases hF
    exact q_wretv C hr dX2_setDrift_92 hQ
set_option maxRecDepth 100000 in
set_option maxHeartbeats 4000000 in
theorem c_X2_leastWholeNotBelow (l : Launch) (dC : Nat → ClassId) (dI : Nat → Nat → Nat) (cI cZ cQ : ClassId) (o : Nat) (v_upper : Int64) (v_lower : Int64) (p1 : Int32) (R : Int32) (hF : f_Fraction_leastWholeNotBelow v_upper v_lower p1 = some R) (sz : Nat) : Met l yX2_leastWholeNotBelow wsX2_leastWholeNotBelow ({ frames := 0, cells := 0, slots := 0, locals := 0 } : Room) (qPc ([.ref o, .int p1]) (dC, dI) (qT cI cZ cQ) ([(o, .inr (2, [.long v_upper, .long v_lower]))]) sz) (qRi R) 0 0 (fun _ => False) := by
  refine q_met_r (cc := cX2_leastWholeNotBelow) (own := RX2) (maxL := 3) (ret := (some .int)) (lv0 := [(0, .ref o), (1, .int p1)]) (by decide) rfl rfl rfl (Nat.le_of_ble_eq_true rfl) ?_
  intro p e s m args below meth c C hr A A' Q hA0 hQ
  have lk0 : Cond.fieldLink RX2 7 "SealStrait$Fraction" "lower" "J" ∈ wsX2_leastWholeNotBelow := by decide +kernel
  have lk1 : ∀ w ∈ u_ws RX2 TX2 2, w ∈ wsX2_leastWholeNotBelow := fun w h => List.mem_cons_of_mem _ (List.mem_append_right _ h)
  have lk2 : Cond.fieldLink RX2 13 "SealStrait$Fraction" "upper" "J" ∈ wsX2_leastWholeNotBelow := by decide +kernel
  have L1 : ∀ (n : Nat) (x1 : Int32) (x2 : Int32), evr (fun s => b_Fraction_leastWholeNotBelow_1 x1 v_upper v_lower s) n x2 = some R → qG p l e ({ frames := 0, cells := 0, slots := 0, locals := 0 } : Room) s m args below meth c 3 (dC, dI) A A' Q 0 0 ([(0, .ref o), (1, .int x1), (2, .int x2)]) [] ([(o, .inr (2, [.long v_upper, .long v_lower]))]) 2 := by
    clear hF
    intro n
    induction n with
    | zero => intro x1 x2  hF; exact (evr_0 hF).elim
    | succ n ih =>
      intro x1 x2  hF
      obtain ⟨o9, hB, hn, hx⟩ := evr_c hF
      have hF : b_Fraction_leastWholeNotBelow_1 x1 v_upper v_lower x2 = some o9 := hB
      unfold b_Fraction_leastWholeNotBelow_1 at hF
      refine q_iload_n C dX2_leastWholeNotBelow_2 2 rfl rfl ?_
      refine q_iload_n C dX2_leastWholeNotBelow_3 1 rfl rfl ?_
      refine q_icmp_ge (tgt := 30) C dX2_leastWholeNotBelow_4 (by decide) (fun c1 => ?_) (fun c1 => ?_)
      · have hF := ite_t hF c1
        refine q_iload_n C dX2_leastWholeNotBelow_30 1 rfl rfl ?_
        cases hF
        have e2 := hx _ rfl
        cases e2
        exact q_ireti C hA0 hr dX2_leastWholeNotBelow_31 hQ
      · have hF := ite_f hF c1
        refine q_iload_n C dX2_leastWholeNotBelow_7 2 rfl rfl ?_
        refine q_i2l C dX2_leastWholeNotBelow_8 ?_
        refine q_aload_n C dX2_leastWholeNotBelow_9 0 rfl rfl ?_
        refine q_get (C0 := RX2) (T := TX2) (N := 2) (k0 := 1) C lk1 0 rfl rfl (by decide) lk0 rfl (v := .long v_lower) rfl dX2_leastWholeNotBelow_10 ?_
        refine q_lmul C dX2_leastWholeNotBelow_13 ?_
        refine q_aload_n C dX2_leastWholeNotBelow_14 0 rfl rfl ?_
        refine q_get (C0 := RX2) (T := TX2) (N := 2) (k0 := 0) C lk1 0 rfl rfl (by decide) lk2 rfl (v := .long v_upper) rfl dX2_leastWholeNotBelow_15 ?_
        refine q_lcmp C dX2_leastWholeNotBelow_18 ?_
        refine q_if_lt (tgt := 24) C dX2_leastWholeNotBelow_19 (by decide) (fun c3 => ?_) (fun c3 => ?_)
        · have hF := ite_t hF c3
          refine q_iinc (v := (x2 + 1)) C ([(2, .int (x2 + 1)), (0, .ref o), (1, .int x1)]) dX2_leastWholeNotBelow_24 2 rfl rfl (by decide) rfl ?_
          refine q_goto (tgt := 2) C dX2_leastWholeNotBelow_27 (by decide) ?_
          cases hF
          refine q_lsel [1, 2, 0] rfl ?_
          exact ih x1 (x2 + 1) (hn _ rfl)
        · have hF := ite_f hF c3
          refine q_iload_n C dX2_leastWholeNotBelow_22 2 rfl rfl ?_
          cases hF
          have e4 := hx _ rfl
          cases e4
          exact q_ireti C hA0 hr dX2_leastWholeNotBelow_23 hQ
  unfold f_Fraction_leastWholeNotBelow at hF
  refine q_iconst (v := (0 : Int32)) C dX2_leastWholeNotBelow_0 (by decide) ?_
  refine q_istore_n C ([(2, .int (0 : Int32)), (0, .ref o), (1, .int p1)]) dX2_leastWholeNotBelow_1 rfl (by decide) rfl ?_
  obtain ⟨n5, hF⟩ := (ev_iff _ _ _).mp hF
  refine q_lsel [1, 2, 0] rfl ?_
  exact L1 n5 p1 (0 : Int32) hF
set_option maxRecDepth 100000 in
set_option maxHeartbeats 4000000 in
theorem c_X2_part (l : Launch) (dC : Nat → ClassId) (dI : Nat → Nat → Nat) (cI cZ cQ : ClassId) (o : Nat) (v_upper : Int64) (v_lower : Int64) (p1 : Int32) (R : Int64) (hF : f_Fraction_part v_upper v_lower p1 = R) (sz : Nat) : Met l yX2_part wsX2_part ({ frames := 0, cells := 0, slots := 0, locals := 0 } : Room) (qPc ([.ref o, .int p1]) (dC, dI) (qT cI cZ cQ) ([(o, .inr (2, [.long v_upper, .long v_lower]))]) sz) (qRl R) 0 0 (fun _ => False) := by
  refine q_met_r (cc := cX2_part) (own := RX2) (maxL := 2) (ret := (some .long)) (lv0 := [(0, .ref o), (1, .int p1)]) (by decide) rfl rfl rfl (Nat.le_of_ble_eq_true rfl) ?_
  intro p e s m args below meth c C hr A A' Q hA0 hQ
  have lk0 : Cond.fieldLink RX2 7 "SealStrait$Fraction" "lower" "J" ∈ wsX2_part := by decide +kernel
  have lk1 : ∀ w ∈ u_ws RX2 TX2 2, w ∈ wsX2_part := fun w h => List.mem_cons_of_mem _ (List.mem_append_right _ h)
  have lk2 : Cond.fieldLink RX2 13 "SealStrait$Fraction" "upper" "J" ∈ wsX2_part := by decide +kernel
  unfold f_Fraction_part at hF
  refine q_iload_n C dX2_part_0 1 rfl rfl ?_
  refine q_if_ne (tgt := 11) C dX2_part_1 (by decide) (fun c1 => ?_) (fun c1 => ?_)
  · have hF := ite_f hF c1
    refine q_aload_n C dX2_part_11 0 rfl rfl ?_
    refine q_get (C0 := RX2) (T := TX2) (N := 2) (k0 := 1) C lk1 0 rfl rfl (by decide) lk0 rfl (v := .long v_lower) rfl dX2_part_12 ?_
    subst hF
    exact q_iretl C hA0 hr dX2_part_15 hQ
  · have hF := ite_t hF c1
    refine q_aload_n C dX2_part_4 0 rfl rfl ?_
    refine q_get (C0 := RX2) (T := TX2) (N := 2) (k0 := 0) C lk1 0 rfl rfl (by decide) lk2 rfl (v := .long v_upper) rfl dX2_part_5 ?_
    refine q_goto (tgt := 15) C dX2_part_8 (by decide) ?_
    subst hF
    exact q_iretl C hA0 hr dX2_part_15 hQ
set_option maxRecDepth 100000 in
set_option maxHeartbeats 4000000 in
theorem c_X3_winningNext (l : Launch) (dC : Nat → ClassId) (dI : Nat → Nat → Nat) (cI cZ cQ : ClassId) (o o_wins b3 b3_words b3_clashes : Nat) (v_wins : Nat → Int32) (v_a3_words : Nat → Int32) (p1 : Int32) (p2 : Int32) (R : Int32) (hF : f_Game_winningNext v_wins v_a3_words p1 p2 = some R) (sz : Nat) : Met l yX3_winningNext wsX3_winningNext ({ frames := 2, cells := 0, slots := 0, locals := 43 } : Room) (qPc ([.ref o, .int p1, .int p2, .ref b3]) (dC, dI) (qT cI cZ cQ) ([(o, .inr (3, [.ref o_wins])), (o_wins, .inl (cZ, 1024, .inl v_wins)), (b3, .inr (9, [.ref b3_words, .ref b3_clashes])), (b3_words, .inl (cI, 10, .inl v_a3_words))]) sz) (qRi R) 0 0 (fun _ => False) := by
  refine q_met_r (cc := cX3_winningNext) (own := RX3) (maxL := 6) (ret := (some .int)) (lv0 := [(0, .ref o), (1, .int p1), (2, .int p2), (3, .ref b3)]) (by decide) rfl rfl rfl (Nat.le_of_ble_eq_true rfl) ?_
  intro p e s m args below meth c C hr A A' Q hA0 hQ
  have lk0 : Cond.fieldLink RX3 9 "SealStrait$Game" "wins" "[Z" ∈ wsX3_winningNext := by decide +kernel
  have lk1 : ∀ w ∈ u_ws RX3 TX3 1, w ∈ wsX3_winningNext := fun w h => List.mem_cons_of_mem _ (List.mem_append_left _ (List.mem_append_right _ h))
  have L1 : ∀ (n : Nat) (x1 : Int32) (x2 : Int32) (x4 : Int32), evr (fun s => b_Game_winningNext_1 x1 x2 v_wins v_a3_words s) n x4 = some R → qG p l e ({ frames := 2, cells := 0, slots := 0, locals := 43 } : Room) s m args below meth c 6 (dC, dI) A A' Q 0 0 ([(0, .ref o), (1, .int x1), (2, .int x2), (3, .ref b3), (4, .int x4)]) [] ([(o, .inr (3, [.ref o_wins])), (o_wins, .inl (cZ, 1024, .inl v_wins)), (b3, .inr (9, [.ref b3_words, .ref b3_clashes])), (b3_words, .inl (cI, 10, .inl v_a3_words))]) 3 := by
    clear hF
    intro n
    induction n with
    | zero => intro x1 x2 x4  hF; exact (evr_0 hF).elim
    | succ n ih =>
      intro x1 x2 x4  hF
      obtain ⟨o9, hB, hn, hx⟩ := evr_c hF
      have hF : b_Game_winningNext_1 x1 x2 v_wins v_a3_words x4 = some o9 := hB
      unfold b_Game_winningNext_1 at hF
      refine q_iload C dX3_winningNext_3 4 rfl ?_
      refine q_bipush (v := (10 : Int32)) C dX3_winningNext_5 (by decide) ?_
      refine q_icmp_ge (tgt := 63) C dX3_winningNext_7 (by decide) (fun c1 => ?_) (fun c1 => ?_)
      · have hF := ite_t hF c1
        refine q_bipush (v := (-6 : Int32)) C dX3_winningNext_63 (by decide) ?_
        cases hF
        have e2 := hx _ rfl
        cases e2
        exact q_ireti C hA0 hr dX3_winningNext_65 hQ
      · have hF := ite_f hF c1
        refine q_iload_n C dX3_winningNext_10 1 rfl rfl ?_
        refine q_iconst (v := (1 : Int32)) C dX3_winningNext_11 (by decide) ?_
        refine q_iload C dX3_winningNext_12 4 rfl ?_
        refine q_ishl C dX3_winningNext_14 ?_
        refine q_ior C dX3_winningNext_15 ?_
        refine q_istore C ([(5, .int (x1 ||| ((1 : Int32) <<< (x4 &&& 31)))), (0, .ref o), (1, .int x1), (2, .int x2), (3, .ref b3), (4, .int x4)]) dX3_winningNext_16 (by decide) rfl ?_
        refine q_iload C dX3_winningNext_18 0 rfl ?_
        refine q_iload_n C dX3_winningNext_20 2 rfl rfl ?_
        refine q_icmp_eq (tgt := 57) C dX3_winningNext_21 (by decide) (fun c3 => ?_) (fun c3 => ?_)
        · have hF := ite_t hF c3
          refine q_iinc (v := (x4 + 1)) C ([(4, .int (x4 + 1)), (5, .int (x1 ||| ((1 : Int32) <<< (x4 &&& 31)))), (0, .ref o), (1, .int x1), (2, .int x2), (3, .ref b3)]) dX3_winningNext_57 5 rfl rfl (by decide) rfl ?_
          refine q_goto (tgt := 3) C dX3_winningNext_60 (by decide) ?_
          cases hF
          refine q_lsel [2, 3, 4, 5, 0] rfl ?_
          exact ih x1 x2 (x4 + 1) (hn _ rfl)
        · have hF := ite_f hF c3
          refine q_iload C dX3_winningNext_24 0 rfl ?_
          refine q_aload_n C dX3_winningNext_26 1 rfl rfl ?_
          refine q_get (C0 := RX3) (T := TX3) (N := 1) (k0 := 0) C lk1 0 rfl rfl (by decide) lk0 rfl (v := .ref o_wins) rfl dX3_winningNext_27 ?_
          refine q_alen (v := (1024 : Int32)) C 1 1 rfl rfl rfl dX3_winningNext_30 ?_
          refine q_icmp_ge (tgt := 57) C dX3_winningNext_31 (by decide) (fun c4 => ?_) (fun c4 => ?_)
          · have hF := ite_t hF c4
            refine q_iinc (v := (x4 + 1)) C ([(4, .int (x4 + 1)), (5, .int (x1 ||| ((1 : Int32) <<< (x4 &&& 31)))), (0, .ref o), (1, .int x1), (2, .int x2), (3, .ref b3)]) dX3_winningNext_57 5 rfl rfl (by decide) rfl ?_
            refine q_goto (tgt := 3) C dX3_winningNext_60 (by decide) ?_
            cases hF
            refine q_lsel [2, 3, 4, 5, 0] rfl ?_
            exact ih x1 x2 (x4 + 1) (hn _ rfl)
          · have hF := ite_f hF c4
            refine q_aload_n C dX3_winningNext_34 4 rfl rfl ?_
            refine q_iload C dX3_winningNext_35 5 rfl ?_
            obtain ⟨r5, hc6, hF⟩ := bind_c hF
            refine q_roi (q_runV (As := [.int x4]) (rest := []) C (fun sz => c_X9_wordsOf l dC dI cI cZ cQ b3 b3_words b3_clashes v_a3_words x4 r5 hc6 sz) (cwV 1 C.2.2.2.2.1 gX3_winningNext_X9_wordsOf rfl rfl rfl (by decide +kernel) ⟨Nat.le_of_ble_eq_true rfl, Nat.le_of_ble_eq_true rfl⟩) 2 rfl rfl rfl [2, 3] rfl rfl rfl rfl (Nat.le_of_ble_eq_true rfl) dX3_winningNext_37 ⟨Nat.zero_le _, Nat.zero_le _⟩) ?_
            refine q_iload_n C dX3_winningNext_40 3 rfl rfl ?_
            refine q_icmp_gt (tgt := 57) C dX3_winningNext_41 (by decide) (fun c7 => ?_) (fun c7 => ?_)
            · have hF := ite_t hF c7
              refine q_iinc (v := (x4 + 1)) C ([(4, .int (x4 + 1)), (5, .int (x1 ||| ((1 : Int32) <<< (x4 &&& 31)))), (0, .ref o), (1, .int x1), (2, .int x2), (3, .ref b3)]) dX3_winningNext_57 5 rfl rfl (by decide) rfl ?_
              refine q_goto (tgt := 3) C dX3_winningNext_60 (by decide) ?_
              cases hF
              refine q_lsel [2, 3, 4, 5, 0] rfl ?_
              exact ih x1 x2 (x4 + 1) (hn _ rfl)
            · have hF := ite_f hF c7
              refine q_aload_n C dX3_winningNext_44 1 rfl rfl ?_
              refine q_get (C0 := RX3) (T := TX3) (N := 1) (k0 := 0) C lk1 0 rfl rfl (by decide) lk0 rfl (v := .ref o_wins) rfl dX3_winningNext_45 ?_
              refine q_iload C dX3_winningNext_48 0 rfl ?_
              obtain ⟨hc8, hF⟩ := ite_c hF
              refine q_zald C 1 1 rfl rfl (ix_in hc8) dX3_winningNext_50 ?_
              refine q_if_ne (tgt := 57) C dX3_winningNext_51 (by decide) (fun c9 => ?_) (fun c9 => ?_)
              · have hF := ite_f hF c9
                refine q_iinc (v := (x4 + 1)) C ([(4, .int (x4 + 1)), (5, .int (x1 ||| ((1 : Int32) <<< (x4 &&& 31)))), (0, .ref o), (1, .int x1), (2, .int x2), (3, .ref b3)]) dX3_winningNext_57 5 rfl rfl (by decide) rfl ?_
                refine q_goto (tgt := 3) C dX3_winningNext_60 (by decide) ?_
                cases hF
                refine q_lsel [2, 3, 4, 5, 0] rfl ?_
                exact ih x1 x2 (x4 + 1) (hn _ rfl)
              · have hF := ite_t hF c9
                refine q_iload C dX3_winningNext_54 5 rfl ?_
                cases hF
                have e10 := hx _ rfl
                cases e10
                exact q_ireti C hA0 hr dX3_winningNext_56 hQ
  unfold f_Game_winningNext at hF
  refine q_iconst (v := (0 : Int32)) C dX3_winningNext_0 (by decide) ?_
  refine q_istore C ([(4, .int (0 : Int32)), (0, .ref o), (1, .int p1), (2, .int p2), (3, .ref b3)]) dX3_winningNext_1 (by decide) rfl ?_
  obtain ⟨n11, hF⟩ := (ev_iff _ _ _).mp hF
  refine q_lsel [1, 2, 3, 4, 0] rfl ?_
  exact L1 n11 p1 p2 (0 : Int32) hF
set_option maxRecDepth 100000 in
set_option maxHeartbeats 4000000 in
theorem c_X3_winningFirst (l : Launch) (dC : Nat → ClassId) (dI : Nat → Nat → Nat) (cI cZ cQ : ClassId) (o o_wins b1 b1_words b1_clashes : Nat) (v_wins : Nat → Int32) (v_a1_words : Nat → Int32) (p2 : Int32) (R : Int32) (w_wins : Nat → Int32) (hF : f_Game_winningFirst v_wins v_a1_words p2 = some (R, w_wins)) (sz : Nat) : Met l yX3_winningFirst wsX3_winningFirst ({ frames := 3, cells := 0, slots := 0, locals := 68 } : Room) (qPc ([.ref o, .ref b1, .int p2]) (dC, dI) (qT cI cZ cQ) ([(o, .inr (3, [.ref o_wins])), (o_wins, .inl (cZ, 1024, .inl v_wins)), (b1, .inr (9, [.ref b1_words, .ref b1_clashes])), (b1_words, .inl (cI, 10, .inl v_a1_words))]) sz) (qWi R (dC, dI) ([(o, .inr (3, [.ref o_wins])), (o_wins, .inl (cZ, 1024, .inl w_wins)), (b1, .inr (9, [.ref b1_words, .ref b1_clashes])), (b1_words, .inl (cI, 10, .inl v_a1_words))]) (va_A ([(o, .inr (3, [.ref o_wins])), (o_wins, .inl (cZ, 1024, .inl v_wins)), (b1, .inr (9, [.ref b1_words, .ref b1_clashes])), (b1_words, .inl (cI, 10, .inl v_a1_words))]) sz)) 0 0 (va_A ([(o, .inr (3, [.ref o_wins])), (o_wins, .inl (cZ, 1024, .inl v_wins)), (b1, .inr (9, [.ref b1_words, .ref b1_clashes])), (b1_words, .inl (cI, 10, .inl v_a1_words))]) sz) := by
  refine q_met_w (Qc := fun A => qWi R (dC, dI) ([(o, .inr (3, [.ref o_wins])), (o_wins, .inl (cZ, 1024, .inl w_wins)), (b1, .inr (9, [.ref b1_words, .ref b1_clashes])), (b1_words, .inl (cI, 10, .inl v_a1_words))]) A) (cc := cX3_winningFirst) (own := RX3) (maxL := 5) (ret := (some .int)) (lv0 := [(0, .ref o), (1, .ref b1), (2, .int p2)]) (by decide) rfl rfl rfl (Nat.le_of_ble_eq_true rfl) ?_
  intro p e s m args below meth c A hA C hr hnm Q hQ
  have lk0 : Cond.fieldLink RX3 9 "SealStrait$Game" "wins" "[Z" ∈ wsX3_winningFirst := by decide +kernel
  have lk1 : ∀ w ∈ u_ws RX3 TX3 1, w ∈ wsX3_winningFirst := fun w h => List.mem_cons_of_mem _ (List.mem_append_left _ (List.mem_append_right _ h))
  have L1 : ∀ (n : Nat) (x2 : Int32) (x3 : Int32) (x4 : Int32) (v_wins : Nat → Int32) (y3 : Int32) (z_wins : Nat → Int32), evr (fun s => b_Game_winningFirst_1 x2 v_a1_words s.1 s.2.1 s.2.2) n (x3, x4, v_wins) = some (y3, z_wins) → qG p l e ({ frames := 3, cells := 0, slots := 0, locals := 68 } : Room) s m args below meth c 5 (dC, dI) A A Q 0 0 ([(3, .int y3)]) [] ([(o, .inr (3, [.ref o_wins])), (o_wins, .inl (cZ, 1024, .inl z_wins)), (b1, .inr (9, [.ref b1_words, .ref b1_clashes])), (b1_words, .inl (cI, 10, .inl v_a1_words))]) 53 → qG p l e ({ frames := 3, cells := 0, slots := 0, locals := 68 } : Room) s m args below meth c 5 (dC, dI) A A Q 0 0 ([(0, .ref o), (1, .ref b1), (2, .int x2), (3, .int x3), (4, .int x4)]) [] ([(o, .inr (3, [.ref o_wins])), (o_wins, .inl (cZ, 1024, .inl v_wins)), (b1, .inr (9, [.ref b1_words, .ref b1_clashes])), (b1_words, .inl (cI, 10, .inl v_a1_words))]) 8 := by
    clear hF
    intro n
    induction n with
    | zero => intro x2 x3 x4 v_wins y3 z_wins hF; exact (evr_0 hF).elim
    | succ n ih =>
      intro x2 x3 x4 v_wins y3 z_wins hF hk
      obtain ⟨o9, hB, hn, hx⟩ := evr_c hF
      have hF : b_Game_winningFirst_1 x2 v_a1_words x3 x4 v_wins = some o9 := hB
      unfold b_Game_winningFirst_1 at hF
      refine q_iload C dX3_winningFirst_8 4 rfl ?_
      refine q_if_lt (tgt := 53) C dX3_winningFirst_10 (by decide) (fun c1 => ?_) (fun c1 => ?_)
      · have hF := ite_t hF c1
        cases hF
        have e2 := hx _ rfl
        cases e2
        refine q_lsel [3] rfl ?_
        exact hk
      · have hF := ite_f hF c1
        refine q_aload_n C dX3_winningFirst_13 0 rfl rfl ?_
        refine q_iload C dX3_winningFirst_14 4 rfl ?_
        refine q_iload_n C dX3_winningFirst_16 2 rfl rfl ?_
        refine q_aload_n C dX3_winningFirst_17 1 rfl rfl ?_
        refine q_iload C dX3_winningFirst_18 4 rfl ?_
        obtain ⟨r3, hc4, hF⟩ := bind_c hF
        refine q_roi (q_runV (As := [.int x4]) (rest := [.int x2, .int x4, .ref o]) C (fun sz => c_X9_wordsOfAll l dC dI cI cZ cQ b1 b1_words b1_clashes v_a1_words x4 r3 hc4 sz) (cwV 1 C.2.2.2.2.1 gX3_winningFirst_X9_wordsOfAll rfl rfl rfl (by decide +kernel) ⟨Nat.le_of_ble_eq_true rfl, Nat.le_of_ble_eq_true rfl⟩) 2 rfl rfl rfl [2, 3] rfl rfl rfl rfl (Nat.le_of_ble_eq_true rfl) dX3_winningFirst_20 ⟨Nat.zero_le _, Nat.zero_le _⟩) ?_
        refine q_isub C dX3_winningFirst_23 ?_
        refine q_aload_n C dX3_winningFirst_24 1 rfl rfl ?_
        obtain ⟨r5, hc6, hF⟩ := bind_c hF
        refine q_roi (q_runV (As := [.int x4, .int (x2 - r3), .ref b1]) (rest := []) C (fun sz => c_X3_winningNext l dC dI cI cZ cQ o o_wins b1 b1_words b1_clashes v_wins v_a1_words x4 (x2 - r3) r5 hc6 sz) (cwV 3 C.2.2.2.2.1 gX3_winningFirst_X3_winningNext rfl rfl rfl (by decide +kernel) ⟨Nat.le_of_ble_eq_true rfl, Nat.le_of_ble_eq_true rfl⟩) 0 rfl rfl rfl [0, 1, 2, 3] rfl rfl rfl rfl (Nat.le_of_ble_eq_true rfl) dX3_winningFirst_25 ⟨Nat.zero_le _, Nat.zero_le _⟩) ?_
        refine q_istore_n C ([(3, .int r5), (0, .ref o), (1, .ref b1), (2, .int x2), (4, .int x4)]) dX3_winningFirst_28 rfl (by decide) rfl ?_
        refine q_aload_n C dX3_winningFirst_29 1 rfl rfl ?_
        refine q_get (C0 := RX3) (T := TX3) (N := 1) (k0 := 0) C lk1 0 rfl rfl (by decide) lk0 rfl (v := .ref o_wins) rfl dX3_winningFirst_30 ?_
        refine q_iload C dX3_winningFirst_33 4 rfl ?_
        refine q_iload_n C dX3_winningFirst_35 0 rfl rfl ?_
        refine q_bipush (v := (-6 : Int32)) C dX3_winningFirst_36 (by decide) ?_
        refine q_icmp_eq (tgt := 45) C dX3_winningFirst_38 (by decide) (fun c7 => ?_) (fun c7 => ?_)
        · have hF := ite_t hF c7
          refine q_iconst (v := (0 : Int32)) C dX3_winningFirst_45 (by decide) ?_
          obtain ⟨hc8, hF⟩ := ite_c hF
          refine q_zast C 1 1 rfl rfl (ix_in hc8) ([(o, .inr (3, [.ref o_wins])), (o_wins, .inl (cZ, 1024, .inl (upd v_wins (x4).toNatClampNeg ((0 : Int32) &&& 1)))), (b1, .inr (9, [.ref b1_words, .ref b1_clashes])), (b1_words, .inl (cI, 10, .inl v_a1_words))]) rfl dX3_winningFirst_46 ?_
          refine q_iinc (v := (x4 + (-1))) C ([(4, .int (x4 + (-1))), (3, .int r5), (0, .ref o), (1, .ref b1), (2, .int x2)]) dX3_winningFirst_47 4 rfl rfl (by decide) rfl ?_
          refine q_goto (tgt := 8) C dX3_winningFirst_50 (by decide) ?_
          cases hF
          refine q_lsel [2, 3, 4, 1, 0] rfl ?_
          exact ih x2 r5 (x4 + (-1)) (upd v_wins (x4).toNatClampNeg ((0 : Int32) &&& 1)) y3 z_wins (hn _ rfl) hk
        · have hF := ite_f hF c7
          refine q_iconst (v := (1 : Int32)) C dX3_winningFirst_41 (by decide) ?_
          refine q_goto (tgt := 46) C dX3_winningFirst_42 (by decide) ?_
          obtain ⟨hc9, hF⟩ := ite_c hF
          refine q_zast C 1 1 rfl rfl (ix_in hc9) ([(o, .inr (3, [.ref o_wins])), (o_wins, .inl (cZ, 1024, .inl (upd v_wins (x4).toNatClampNeg ((1 : Int32) &&& 1)))), (b1, .inr (9, [.ref b1_words, .ref b1_clashes])), (b1_words, .inl (cI, 10, .inl v_a1_words))]) rfl dX3_winningFirst_46 ?_
          refine q_iinc (v := (x4 + (-1))) C ([(4, .int (x4 + (-1))), (3, .int r5), (0, .ref o), (1, .ref b1), (2, .int x2)]) dX3_winningFirst_47 4 rfl rfl (by decide) rfl ?_
          refine q_goto (tgt := 8) C dX3_winningFirst_50 (by decide) ?_
          cases hF
          refine q_lsel [2, 3, 4, 1, 0] rfl ?_
          exact ih x2 r5 (x4 + (-1)) (upd v_wins (x4).toNatClampNeg ((1 : Int32) &&& 1)) y3 z_wins (hn _ rfl) hk
  unfold f_Game_winningFirst at hF
  refine q_bipush (v := (-6 : Int32)) C dX3_winningFirst_0 (by decide) ?_
  refine q_istore_n C ([(3, .int (-6 : Int32)), (0, .ref o), (1, .ref b1), (2, .int p2)]) dX3_winningFirst_2 rfl (by decide) rfl ?_
  refine q_sipush (v := (1023 : Int32)) C dX3_winningFirst_3 (by decide) ?_
  refine q_istore C ([(4, .int (1023 : Int32)), (3, .int (-6 : Int32)), (0, .ref o), (1, .ref b1), (2, .int p2)]) dX3_winningFirst_6 (by decide) rfl ?_
  obtain ⟨⟨y3_10, z10_wins⟩, hc11, hF⟩ := bind_c hF
  dsimp only at hF
  obtain ⟨n12, hc11⟩ := (ev_iff _ _ _).mp hc11
  refine q_lsel [2, 3, 4, 1, 0] rfl ?_
  refine L1 n12 p2 (-6 : Int32) (1023 : Int32) v_wins y3_10 z10_wins hc11 ?_
  refine q_iload_n C dX3_winningFirst_53 0 rfl rfl ?_
  cases hF
  exact q_wreti C hr dX3_winningFirst_54 hQ
set_option maxRecDepth 100000 in
set_option maxHeartbeats 4000000 in
theorem c_X6_wantingOff (l : Launch) (dC : Nat → ClassId) (dI : Nat → Nat → Nat) (cI cZ cQ : ClassId) (o o_seen b3 b3_heads o_countRocks o_countWantings b3_sides b3_moods b3_moults : Nat) (v_seen : Nat → Int32) (v_a3_there : Int32) (v_a3_heads : Nat → Int32) (v_counts : Int32) (v_a3_month : Int32) (v_a3_lost : Int32) (p1 : Int32) (p2 : Int32) (R : Int32) (hF : f_Lookout_wantingOff v_seen v_a3_there v_a3_heads p1 p2 = some R) (sz : Nat) : Met l yX6_wantingOff wsX6_wantingOff ({ frames := 2, cells := 0, slots := 0, locals := 44 } : Room) (qPc ([.ref o, .int p1, .int p2, .ref b3]) (dC, dI) (qT cI cZ cQ) ([(o, .inr (6, [.ref o_seen, .int v_counts, .ref o_countRocks, .ref o_countWantings])), (o_seen, .inl (cI, 6, .inl v_seen)), (b3, .inr (8, [.int v_a3_there, .int v_a3_month, .int v_a3_lost, .ref b3_heads, .ref b3_sides, .ref b3_moods, .ref b3_moults])), (b3_heads, .inl (cI, 6, .inl v_a3_heads))]) sz) (qRi R) 0 0 (fun _ => False) := by
  refine q_met_r (cc := cX6_wantingOff) (own := RX6) (maxL := 4) (ret := (some .int)) (lv0 := [(0, .ref o), (1, .int p1), (2, .int p2), (3, .ref b3)]) (by decide) rfl rfl rfl (Nat.le_of_ble_eq_true rfl) ?_
  intro p e s m args below meth c C hr A A' Q hA0 hQ
  have lk0 : Cond.initialized RX11 ∈ wsX6_wantingOff := by decide +kernel
  have lk1 : Cond.static yX11_within ∈ wsX6_wantingOff := by decide +kernel
  have lk2 : (RX6, 31, yX11_within) ∈ qNest := by decide +kernel
  have lk3 : Cond.fieldLink RX6 9 "SealStrait$Lookout" "seen" "[I" ∈ wsX6_wantingOff := by decide +kernel
  have lk4 : ∀ w ∈ u_ws RX6 TX6 4, w ∈ wsX6_wantingOff := fun w h => List.mem_cons_of_mem _ (List.mem_append_left _ (List.mem_append_right _ h))
  unfold f_Lookout_wantingOff at hF
  refine q_iload_n C dX6_wantingOff_0 1 rfl rfl ?_
  refine q_iconst (v := (0 : Int32)) C dX6_wantingOff_1 (by decide) ?_
  refine q_iconst (v := (5 : Int32)) C dX6_wantingOff_2 (by decide) ?_
  refine q_roz (q_runSN (As := [.int p1, .int (0 : Int32), .int (5 : Int32)]) (rest := []) (n := 3) C (fun sz => c_X11_within l dC dI cI cZ cQ p1 (0 : Int32) (5 : Int32) (f_Strait_within p1 (0 : Int32) (5 : Int32)) rfl sz) gX6_wantingOff_X11_within_n31 rfl rfl rfl lk2 lk0 lk1 (by decide +kernel) ⟨Nat.le_of_ble_eq_true rfl, Nat.le_of_ble_eq_true rfl⟩ [] rfl rfl rfl rfl (Nat.le_of_ble_eq_true rfl) dX6_wantingOff_3 ⟨Nat.zero_le _, Nat.zero_le _⟩) (fun hz1 => ?_)
  refine q_if_eq (tgt := 24) C dX6_wantingOff_6 (by decide) (fun c2 => ?_) (fun c2 => ?_)
  · have hF := ite_t hF c2
    refine q_iconst (v := (0 : Int32)) C dX6_wantingOff_24 (by decide) ?_
    cases hF
    exact q_ireti C hA0 hr dX6_wantingOff_25 hQ
  · have hF := ite_f hF c2
    refine q_aload_n C dX6_wantingOff_9 3 rfl rfl ?_
    refine q_aload_n C dX6_wantingOff_10 0 rfl rfl ?_
    refine q_get (C0 := RX6) (T := TX6) (N := 4) (k0 := 0) C lk4 0 rfl rfl (by decide) lk3 rfl (v := .ref o_seen) rfl dX6_wantingOff_11 ?_
    refine q_iload_n C dX6_wantingOff_14 1 rfl rfl ?_
    obtain ⟨hc3, hF⟩ := ite_c hF
    refine q_iald C 1 0 rfl rfl (ix_in hc3) dX6_wantingOff_15 ?_
    refine q_iload_n C dX6_wantingOff_16 2 rfl rfl ?_
    refine q_iand C dX6_wantingOff_17 ?_
    obtain ⟨r4, hc5, hF⟩ := bind_c hF
    refine q_roi (q_runV (As := [.int ((v_seen (p1).toNatClampNeg) &&& p2)]) (rest := []) C (fun sz => c_X8_headsOf l dC dI cI cZ cQ b3 b3_heads b3_sides b3_moods b3_moults v_a3_there v_a3_heads v_a3_month v_a3_lost ((v_seen (p1).toNatClampNeg) &&& p2) r4 hc5 sz) (cwV 1 C.2.2.2.2.1 gX6_wantingOff_X8_headsOf rfl rfl rfl (by decide +kernel) ⟨Nat.le_of_ble_eq_true rfl, Nat.le_of_ble_eq_true rfl⟩) 2 rfl rfl rfl [2, 3] rfl rfl rfl rfl (Nat.le_of_ble_eq_true rfl) dX6_wantingOff_18 ⟨Nat.zero_le _, Nat.zero_le _⟩) ?_
    refine q_goto (tgt := 25) C dX6_wantingOff_21 (by decide) ?_
    cases hF
    exact q_ireti C hA0 hr dX6_wantingOff_25 hQ
set_option maxRecDepth 100000 in
set_option maxHeartbeats 4000000 in
theorem c_X6_allCountsFit (l : Launch) (dC : Nat → ClassId) (dI : Nat → Nat → Nat) (cI cZ cQ : ClassId) (o o_seen o_countRocks o_countWantings b2 b2_heads b2_sides b2_moods b2_moults : Nat) (v_seen : Nat → Int32) (v_counts : Int32) (v_countRocks : Nat → Int32) (v_countWantings : Nat → Int32) (v_a2_there : Int32) (v_a2_heads : Nat → Int32) (v_a2_month : Int32) (v_a2_lost : Int32) (p1 : Int32) (R : Int32) (hF : f_Lookout_allCountsFit v_seen v_counts v_countRocks v_countWantings v_a2_there v_a2_heads p1 = some R) (sz : Nat) : Met l yX6_allCountsFit wsX6_allCountsFit ({ frames := 3, cells := 0, slots := 0, locals := 67 } : Room) (qPc ([.ref o, .int p1, .ref b2]) (dC, dI) (qT cI cZ cQ) ([(o, .inr (6, [.ref o_seen, .int v_counts, .ref o_countRocks, .ref o_countWantings])), (o_seen, .inl (cI, 6, .inl v_seen)), (o_countRocks, .inl (cI, 8, .inl v_countRocks)), (o_countWantings, .inl (cI, 8, .inl v_countWantings)), (b2, .inr (8, [.int v_a2_there, .int v_a2_month, .int v_a2_lost, .ref b2_heads, .ref b2_sides, .ref b2_moods, .ref b2_moults])), (b2_heads, .inl (cI, 6, .inl v_a2_heads))]) sz) (qRz R) 0 0 (fun _ => False) := by
  refine q_met_r (cc := cX6_allCountsFit) (own := RX6) (maxL := 4) (ret := (some .boolean)) (lv0 := [(0, .ref o), (1, .int p1), (2, .ref b2)]) (by decide) rfl rfl rfl (Nat.le_of_ble_eq_true rfl) ?_
  intro p e s m args below meth c C hr A A' Q hA0 hQ
  have lk0 : Cond.fieldLink RX6 27 "SealStrait$Lookout" "counts" "I" ∈ wsX6_allCountsFit := by decide +kernel
  have lk1 : ∀ w ∈ u_ws RX6 TX6 4, w ∈ wsX6_allCountsFit := fun w h => List.mem_cons_of_mem _ (List.mem_append_left _ (List.mem_append_right _ h))
  have lk2 : Cond.fieldLink RX6 15 "SealStrait$Lookout" "countRocks" "[I" ∈ wsX6_allCountsFit := by decide +kernel
  have lk3 : Cond.fieldLink RX6 18 "SealStrait$Lookout" "countWantings" "[I" ∈ wsX6_allCountsFit := by decide +kernel
  have L1 : ∀ (n : Nat) (x1 : Int32) (x3 : Int32), evr (fun s => b_Lookout_allCountsFit_1 x1 v_seen v_counts v_countRocks v_countWantings v_a2_there v_a2_heads s) n x3 = some R → qG p l e ({ frames := 3, cells := 0, slots := 0, locals := 67 } : Room) s m args below meth c 4 (dC, dI) A A' Q 0 0 ([(0, .ref o), (1, .int x1), (2, .ref b2), (3, .int x3)]) [] ([(o, .inr (6, [.ref o_seen, .int v_counts, .ref o_countRocks, .ref o_countWantings])), (o_seen, .inl (cI, 6, .inl v_seen)), (o_countRocks, .inl (cI, 8, .inl v_countRocks)), (o_countWantings, .inl (cI, 8, .inl v_countWantings)), (b2, .inr (8, [.int v_a2_there, .int v_a2_month, .int v_a2_lost, .ref b2_heads, .ref b2_sides, .ref b2_moods, .ref b2_moults])), (b2_heads, .inl (cI, 6, .inl v_a2_heads))]) 2 := by
    clear hF
    intro n
    induction n with
    | zero => intro x1 x3  hF; exact (evr_0 hF).elim
    | succ n ih =>
      intro x1 x3  hF
      obtain ⟨o9, hB, hn, hx⟩ := evr_c hF
      have hF : b_Lookout_allCountsFit_1 x1 v_seen v_counts v_countRocks v_countWantings v_a2_there v_a2_heads x3 = some o9 := hB
      unfold b_Lookout_allCountsFit_1 at hF
      refine q_iload_n C dX6_allCountsFit_2 3 rfl rfl ?_
      refine q_aload_n C dX6_allCountsFit_3 0 rfl rfl ?_
      refine q_get (C0 := RX6) (T := TX6) (N := 4) (k0 := 1) C lk1 0 rfl rfl (by decide) lk0 rfl (v := .int v_counts) rfl dX6_allCountsFit_4 ?_
      refine q_icmp_ge (tgt := 45) C dX6_allCountsFit_7 (by decide) (fun c1 => ?_) (fun c1 => ?_)
      · have hF := ite_t hF c1
        refine q_iconst (v := (1 : Int32)) C dX6_allCountsFit_45 (by decide) ?_
        cases hF
        have e2 := hx _ rfl
        cases e2
        exact q_iretz C hA0 hr (Or.inr rfl) dX6_allCountsFit_46 hQ
      · have hF := ite_f hF c1
        refine q_iload_n C dX6_allCountsFit_10 3 rfl rfl ?_
        refine q_bipush (v := (8 : Int32)) C dX6_allCountsFit_11 (by decide) ?_
        refine q_icmp_ge (tgt := 45) C dX6_allCountsFit_13 (by decide) (fun c3 => ?_) (fun c3 => ?_)
        · have hF := ite_t hF c3
          refine q_iconst (v := (1 : Int32)) C dX6_allCountsFit_45 (by decide) ?_
          cases hF
          have e4 := hx _ rfl
          cases e4
          exact q_iretz C hA0 hr (Or.inr rfl) dX6_allCountsFit_46 hQ
        · have hF := ite_f hF c3
          refine q_aload_n C dX6_allCountsFit_16 0 rfl rfl ?_
          refine q_aload_n C dX6_allCountsFit_17 0 rfl rfl ?_
          refine q_get (C0 := RX6) (T := TX6) (N := 4) (k0 := 2) C lk1 0 rfl rfl (by decide) lk2 rfl (v := .ref o_countRocks) rfl dX6_allCountsFit_18 ?_
          refine q_iload_n C dX6_allCountsFit_21 3 rfl rfl ?_
          obtain ⟨hc5, hF⟩ := ite_c hF
          refine q_iald C 2 0 rfl rfl (ix_in hc5) dX6_allCountsFit_22 ?_
          refine q_iload_n C dX6_allCountsFit_23 1 rfl rfl ?_
          refine q_aload_n C dX6_allCountsFit_24 2 rfl rfl ?_
          obtain ⟨r6, hc7, hF⟩ := bind_c hF
          refine q_roi (q_runV (As := [.int (v_countRocks (x3).toNatClampNeg), .int x1, .ref b2]) (rest := []) C (fun sz => c_X6_wantingOff l dC dI cI cZ cQ o o_seen b2 b2_heads o_countRocks o_countWantings b2_sides b2_moods b2_moults v_seen v_a2_there v_a2_heads v_counts v_a2_month v_a2_lost (v_countRocks (x3).toNatClampNeg) x1 r6 hc7 sz) (cwV 3 C.2.2.2.2.1 gX6_allCountsFit_X6_wantingOff rfl rfl rfl (by decide +kernel) ⟨Nat.le_of_ble_eq_true rfl, Nat.le_of_ble_eq_true rfl⟩) 0 rfl rfl rfl [0, 1, 4, 5] rfl rfl rfl rfl (Nat.le_of_ble_eq_true rfl) dX6_allCountsFit_25 ⟨Nat.zero_le _, Nat.zero_le _⟩) ?_
          refine q_aload_n C dX6_allCountsFit_28 0 rfl rfl ?_
          refine q_get (C0 := RX6) (T := TX6) (N := 4) (k0 := 3) C lk1 0 rfl rfl (by decide) lk3 rfl (v := .ref o_countWantings) rfl dX6_allCountsFit_29 ?_
          refine q_iload_n C dX6_allCountsFit_32 3 rfl rfl ?_
          obtain ⟨hc8, hF⟩ := ite_c hF
          refine q_iald C 3 0 rfl rfl (ix_in hc8) dX6_allCountsFit_33 ?_
          refine q_icmp_eq (tgt := 39) C dX6_allCountsFit_34 (by decide) (fun c9 => ?_) (fun c9 => ?_)
          · have hF := ite_t hF c9
            refine q_iinc (v := (x3 + 1)) C ([(3, .int (x3 + 1)), (0, .ref o), (1, .int x1), (2, .ref b2)]) dX6_allCountsFit_39 3 rfl rfl (by decide) rfl ?_
            refine q_goto (tgt := 2) C dX6_allCountsFit_42 (by decide) ?_
            cases hF
            refine q_lsel [1, 2, 3, 0] rfl ?_
            exact ih x1 (x3 + 1) (hn _ rfl)
          · have hF := ite_f hF c9
            refine q_iconst (v := (0 : Int32)) C dX6_allCountsFit_37 (by decide) ?_
            cases hF
            have e10 := hx _ rfl
            cases e10
            exact q_iretz C hA0 hr (Or.inl rfl) dX6_allCountsFit_38 hQ
  unfold f_Lookout_allCountsFit at hF
  refine q_iconst (v := (0 : Int32)) C dX6_allCountsFit_0 (by decide) ?_
  refine q_istore_n C ([(3, .int (0 : Int32)), (0, .ref o), (1, .int p1), (2, .ref b2)]) dX6_allCountsFit_1 rfl (by decide) rfl ?_
  obtain ⟨n11, hF⟩ := (ev_iff _ _ _).mp hF
  refine q_lsel [1, 2, 3, 0] rfl ?_
  exact L1 n11 p1 (0 : Int32) hF
set_option maxRecDepth 100000 in
set_option maxHeartbeats 4000000 in
theorem c_X4_findSets (l : Launch) (dC : Nat → ClassId) (dI : Nat → Nat → Nat) (cI cZ cQ : ClassId) (o o_sets b1 b1_seen b1_countRocks b1_countWantings b2 b2_heads o_tally b2_sides b2_moods b2_moults : Nat) (v_size : Int32) (v_sets : Nat → Int32) (v_a1_seen : Nat → Int32) (v_a1_counts : Int32) (v_a1_countRocks : Nat → Int32) (v_a1_countWantings : Nat → Int32) (v_a2_there : Int32) (v_a2_heads : Nat → Int32) (v_nextRock : Int32) (v_leftAtMost : Int32) (v_a2_month : Int32) (v_a2_lost : Int32) (w_size : Int32) (w_sets : Nat → Int32) (hF : f_Guess_findSets v_size v_sets v_a1_seen v_a1_counts v_a1_countRocks v_a1_countWantings v_a2_there v_a2_heads = some (w_size, w_sets)) (sz : Nat) : Met l yX4_findSets wsX4_findSets ({ frames := 4, cells := 0, slots := 0, locals := 90 } : Room) (qPc ([.ref o, .ref b1, .ref b2]) (dC, dI) (qT cI cZ cQ) ([(o, .inr (4, [.int v_size, .ref o_sets, .int v_nextRock, .int v_leftAtMost, .ref o_tally])), (o_sets, .inl (cI, 64, .inl v_sets)), (b1, .inr (6, [.ref b1_seen, .int v_a1_counts, .ref b1_countRocks, .ref b1_countWantings])), (b1_seen, .inl (cI, 6, .inl v_a1_seen)), (b1_countRocks, .inl (cI, 8, .inl v_a1_countRocks)), (b1_countWantings, .inl (cI, 8, .inl v_a1_countWantings)), (b2, .inr (8, [.int v_a2_there, .int v_a2_month, .int v_a2_lost, .ref b2_heads, .ref b2_sides, .ref b2_moods, .ref b2_moults])), (b2_heads, .inl (cI, 6, .inl v_a2_heads))]) sz) (qWv (dC, dI) ([(o, .inr (4, [.int w_size, .ref o_sets, .int v_nextRock, .int v_leftAtMost, .ref o_tally])), (o_sets, .inl (cI, 64, .inl w_sets)), (b1, .inr (6, [.ref b1_seen, .int v_a1_counts, .ref b1_countRocks, .ref b1_countWantings])), (b1_seen, .inl (cI, 6, .inl v_a1_seen)), (b1_countRocks, .inl (cI, 8, .inl v_a1_countRocks)), (b1_countWantings, .inl (cI, 8, .inl v_a1_countWantings)), (b2, .inr (8, [.int v_a2_there, .int v_a2_month, .int v_a2_lost, .ref b2_heads, .ref b2_sides, .ref b2_moods, .ref b2_moults])), (b2_heads, .inl (cI, 6, .inl v_a2_heads))]) (va_A ([(o, .inr (4, [.int v_size, .ref o_sets, .int v_nextRock, .int v_leftAtMost, .ref o_tally])), (o_sets, .inl (cI, 64, .inl v_sets)), (b1, .inr (6, [.ref b1_seen, .int v_a1_counts, .ref b1_countRocks, .ref b1_countWantings])), (b1_seen, .inl (cI, 6, .inl v_a1_seen)), (b1_countRocks, .inl (cI, 8, .inl v_a1_countRocks)), (b1_countWantings, .inl (cI, 8, .inl v_a1_countWantings)), (b2, .inr (8, [.int v_a2_there, .int v_a2_month, .int v_a2_lost, .ref b2_heads, .ref b2_sides, .ref b2_moods, .ref b2_moults])), (b2_heads, .inl (cI, 6, .inl v_a2_heads))]) sz)) 0 0 (va_A ([(o, .inr (4, [.int v_size, .ref o_sets, .int v_nextRock, .int v_leftAtMost, .ref o_tally])), (o_sets, .inl (cI, 64, .inl v_sets)), (b1, .inr (6, [.ref b1_seen, .int v_a1_counts, .ref b1_countRocks, .ref b1_countWantings])), (b1_seen, .inl (cI, 6, .inl v_a1_seen)), (b1_countRocks, .inl (cI, 8, .inl v_a1_countRocks)), (b1_countWantings, .inl (cI, 8, .inl v_a1_countWantings)), (b2, .inr (8, [.int v_a2_there, .int v_a2_month, .int v_a2_lost, .ref b2_heads, .ref b2_sides, .ref b2_moods, .ref b2_moults])), (b2_heads, .inl (cI, 6, .inl v_a2_heads))]) sz) := by
  refine q_met_w (Qc := fun A => qWv (dC, dI) ([(o, .inr (4, [.int w_size, .ref o_sets, .int v_nextRock, .int v_leftAtMost, .ref o_tally])), (o_sets, .inl (cI, 64, .inl w_sets)), (b1, .inr (6, [.ref b1_seen, .int v_a1_counts, .ref b1_countRocks, .ref b1_countWantings])), (b1_seen, .inl (cI, 6, .inl v_a1_seen)), (b1_countRocks, .inl (cI, 8, .inl v_a1_countRocks)), (b1_countWantings, .inl (cI, 8, .inl v_a1_countWantings)), (b2, .inr (8, [.int v_a2_there, .int v_a2_month, .int v_a2_lost, .ref b2_heads, .ref b2_sides, .ref b2_moods, .ref b2_moults])), (b2_heads, .inl (cI, 6, .inl v_a2_heads))]) A) (cc := cX4_findSets) (own := RX4) (maxL := 5) (ret := none) (lv0 := [(0, .ref o), (1, .ref b1), (2, .ref b2)]) (by decide) rfl rfl rfl (Nat.le_of_ble_eq_true rfl) ?_
  intro p e s m args below meth c A hA C hr hnm Q hQ
  have lk0 : Cond.fieldLink RX4 18 "SealStrait$Guess" "size" "I" ∈ wsX4_findSets := by decide +kernel
  have lk1 : ∀ w ∈ u_ws RX4 TX4 5, w ∈ wsX4_findSets := fun w h => List.mem_cons_of_mem _ (List.mem_append_left _ (List.mem_append_left _ (List.mem_append_right _ h)))
  have lk2 : Cond.fieldLink RX4 22 "SealStrait$Sea" "there" "I" ∈ wsX4_findSets := by decide +kernel
  have lk3 : ∀ w ∈ u_ws RX8 TX8 7, w ∈ wsX4_findSets := fun w h => List.mem_cons_of_mem _ (List.mem_append_left _ (List.mem_append_right _ h))
  have lk4 : Cond.fieldLink RX4 9 "SealStrait$Guess" "sets" "[I" ∈ wsX4_findSets := by decide +kernel
  have L1 : ∀ (n : Nat) (x3 : Int32) (v_size : Int32) (v_sets : Nat → Int32) (z_size : Int32) (z_sets : Nat → Int32), evr (fun s => b_Guess_findSets_1 v_a1_seen v_a1_counts v_a1_countRocks v_a1_countWantings v_a2_there v_a2_heads s.1 s.2.1 s.2.2) n (x3, v_size, v_sets) = some (z_size, z_sets) → qG p l e ({ frames := 4, cells := 0, slots := 0, locals := 90 } : Room) s m args below meth c 5 (dC, dI) A A Q 0 0 ([]) [] ([(o, .inr (4, [.int z_size, .ref o_sets, .int v_nextRock, .int v_leftAtMost, .ref o_tally])), (o_sets, .inl (cI, 64, .inl z_sets)), (b1, .inr (6, [.ref b1_seen, .int v_a1_counts, .ref b1_countRocks, .ref b1_countWantings])), (b1_seen, .inl (cI, 6, .inl v_a1_seen)), (b1_countRocks, .inl (cI, 8, .inl v_a1_countRocks)), (b1_countWantings, .inl (cI, 8, .inl v_a1_countWantings)), (b2, .inr (8, [.int v_a2_there, .int v_a2_month, .int v_a2_lost, .ref b2_heads, .ref b2_sides, .ref b2_moods, .ref b2_moults])), (b2_heads, .inl (cI, 6, .inl v_a2_heads))]) 83 → qG p l e ({ frames := 4, cells := 0, slots := 0, locals := 90 } : Room) s m args below meth c 5 (dC, dI) A A Q 0 0 ([(0, .ref o), (1, .ref b1), (2, .ref b2), (3, .int x3)]) [] ([(o, .inr (4, [.int v_size, .ref o_sets, .int v_nextRock, .int v_leftAtMost, .ref o_tally])), (o_sets, .inl (cI, 64, .inl v_sets)), (b1, .inr (6, [.ref b1_seen, .int v_a1_counts, .ref b1_countRocks, .ref b1_countWantings])), (b1_seen, .inl (cI, 6, .inl v_a1_seen)), (b1_countRocks, .inl (cI, 8, .inl v_a1_countRocks)), (b1_countWantings, .inl (cI, 8, .inl v_a1_countWantings)), (b2, .inr (8, [.int v_a2_there, .int v_a2_month, .int v_a2_lost, .ref b2_heads, .ref b2_sides, .ref b2_moods, .ref b2_moults])), (b2_heads, .inl (cI, 6, .inl v_a2_heads))]) 7 := by
    clear hF
    intro n
    induction n with
    | zero => intro x3 v_size v_sets z_size z_sets hF; exact (evr_0 hF).elim
    | succ n ih =>
      intro x3 v_size v_sets z_size z_sets hF hk
      obtain ⟨o9, hB, hn, hx⟩ := evr_c hF
      have hF : b_Guess_findSets_1 v_a1_seen v_a1_counts v_a1_countRocks v_a1_countWantings v_a2_there v_a2_heads x3 v_size v_sets = some o9 := hB
      unfold b_Guess_findSets_1 at hF
      refine q_iload_n C dX4_findSets_7 3 rfl rfl ?_
      refine q_bipush (v := (63 : Int32)) C dX4_findSets_8 (by decide) ?_
      refine q_icmp_gt (tgt := 83) C dX4_findSets_10 (by decide) (fun c1 => ?_) (fun c1 => ?_)
      · have hF := ite_t hF c1
        cases hF
        have e2 := hx _ rfl
        cases e2
        refine q_lsel [] rfl ?_
        exact hk
      · have hF := ite_f hF c1
        refine q_iload_n C dX4_findSets_13 3 rfl rfl ?_
        refine q_aload_n C dX4_findSets_14 2 rfl rfl ?_
        refine q_get (C0 := RX8) (T := TX8) (N := 7) (k0 := 0) C lk3 6 rfl rfl (by decide) lk2 rfl (v := .int v_a2_there) rfl dX4_findSets_15 ?_
        refine q_iconst (v := (-1 : Int32)) C dX4_findSets_18 (by decide) ?_
        refine q_ixor C dX4_findSets_19 ?_
        refine q_iand C dX4_findSets_20 ?_
        refine q_if_ne (tgt := 28) C dX4_findSets_21 (by decide) (fun c3 => ?_) (fun c3 => ?_)
        · have hF := ite_f hF c3
          refine q_iconst (v := (0 : Int32)) C dX4_findSets_28 (by decide) ?_
          refine q_istore C ([(4, .int (0 : Int32)), (0, .ref o), (1, .ref b1), (2, .ref b2), (3, .int x3)]) dX4_findSets_29 (by decide) rfl ?_
          refine q_iload C dX4_findSets_31 0 rfl ?_
          refine q_if_eq (tgt := 77) C dX4_findSets_33 (by decide) (fun c4 => ?_) (fun c4 => ?_)
          · have hF := ite_t hF c4
            refine q_iinc (v := (x3 + 1)) C ([(3, .int (x3 + 1)), (4, .int (0 : Int32)), (0, .ref o), (1, .ref b1), (2, .ref b2)]) dX4_findSets_77 4 rfl rfl (by decide) rfl ?_
            refine q_goto (tgt := 7) C dX4_findSets_80 (by decide) ?_
            cases hF
            refine q_lsel [2, 3, 4, 0] rfl ?_
            exact ih (x3 + 1) v_size v_sets z_size z_sets (hn _ rfl) hk
          · have hF := ite_f hF c4
            refine q_aload_n C dX4_findSets_36 1 rfl rfl ?_
            refine q_get (C0 := RX4) (T := TX4) (N := 5) (k0 := 0) C lk1 0 rfl rfl (by decide) lk0 rfl (v := .int v_size) rfl dX4_findSets_37 ?_
            refine q_aload_n C dX4_findSets_40 1 rfl rfl ?_
            refine q_get (C0 := RX4) (T := TX4) (N := 5) (k0 := 1) C lk1 0 rfl rfl (by decide) lk4 rfl (v := .ref o_sets) rfl dX4_findSets_41 ?_
            refine q_alen (v := (64 : Int32)) C 1 0 rfl rfl rfl dX4_findSets_44 ?_
            refine q_icmp_ge (tgt := 77) C dX4_findSets_45 (by decide) (fun c5 => ?_) (fun c5 => ?_)
            · have hF := ite_t hF c5
              refine q_iinc (v := (x3 + 1)) C ([(3, .int (x3 + 1)), (4, .int (0 : Int32)), (0, .ref o), (1, .ref b1), (2, .ref b2)]) dX4_findSets_77 4 rfl rfl (by decide) rfl ?_
              refine q_goto (tgt := 7) C dX4_findSets_80 (by decide) ?_
              cases hF
              refine q_lsel [2, 3, 4, 0] rfl ?_
              exact ih (x3 + 1) v_size v_sets z_size z_sets (hn _ rfl) hk
            · have hF := ite_f hF c5
              refine q_aload_n C dX4_findSets_48 2 rfl rfl ?_
              refine q_iload_n C dX4_findSets_49 4 rfl rfl ?_
              refine q_aload_n C dX4_findSets_50 3 rfl rfl ?_
              obtain ⟨r6, hc7, hF⟩ := bind_c hF
              refine q_roz (q_runV (As := [.int x3, .ref b2]) (rest := []) C (fun sz => c_X6_allCountsFit l dC dI cI cZ cQ b1 b1_seen b1_countRocks b1_countWantings b2 b2_heads b2_sides b2_moods b2_moults v_a1_seen v_a1_counts v_a1_countRocks v_a1_countWantings v_a2_there v_a2_heads v_a2_month v_a2_lost x3 r6 hc7 sz) (cwV 2 C.2.2.2.2.1 gX4_findSets_X6_allCountsFit rfl rfl rfl (by decide +kernel) ⟨Nat.le_of_ble_eq_true rfl, Nat.le_of_ble_eq_true rfl⟩) 2 rfl rfl rfl [2, 3, 4, 5, 6, 7] rfl rfl rfl rfl (Nat.le_of_ble_eq_true rfl) dX4_findSets_51 ⟨Nat.zero_le _, Nat.zero_le _⟩) (fun hz6 => ?_)
              refine q_if_eq (tgt := 77) C dX4_findSets_54 (by decide) (fun c8 => ?_) (fun c8 => ?_)
              · have hF := ite_t hF c8
                refine q_iinc (v := (x3 + 1)) C ([(3, .int (x3 + 1)), (4, .int (0 : Int32)), (0, .ref o), (1, .ref b1), (2, .ref b2)]) dX4_findSets_77 4 rfl rfl (by decide) rfl ?_
                refine q_goto (tgt := 7) C dX4_findSets_80 (by decide) ?_
                cases hF
                refine q_lsel [2, 3, 4, 0] rfl ?_
                exact ih (x3 + 1) v_size v_sets z_size z_sets (hn _ rfl) hk
              · have hF := ite_f hF c8
                refine q_aload_n C dX4_findSets_57 1 rfl rfl ?_
                refine q_get (C0 := RX4) (T := TX4) (N := 5) (k0 := 1) C lk1 0 rfl rfl (by decide) lk4 rfl (v := .ref o_sets) rfl dX4_findSets_58 ?_
                refine q_aload_n C dX4_findSets_61 1 rfl rfl ?_
                refine q_get (C0 := RX4) (T := TX4) (N := 5) (k0 := 0) C lk1 0 rfl rfl (by decide) lk0 rfl (v := .int v_size) rfl dX4_findSets_62 ?_
                refine q_iload_n C dX4_findSets_65 4 rfl rfl ?_
                obtain ⟨hc9, hF⟩ := ite_c hF
                refine q_iast C 1 0 rfl rfl (ix_in hc9) ([(o, .inr (4, [.int v_size, .ref o_sets, .int v_nextRock, .int v_leftAtMost, .ref o_tally])), (o_sets, .inl (cI, 64, .inl (upd v_sets (v_size).toNatClampNeg x3))), (b1, .inr (6, [.ref b1_seen, .int v_a1_counts, .ref b1_countRocks, .ref b1_countWantings])), (b1_seen, .inl (cI, 6, .inl v_a1_seen)), (b1_countRocks, .inl (cI, 8, .inl v_a1_countRocks)), (b1_countWantings, .inl (cI, 8, .inl v_a1_countWantings)), (b2, .inr (8, [.int v_a2_there, .int v_a2_month, .int v_a2_lost, .ref b2_heads, .ref b2_sides, .ref b2_moods, .ref b2_moults])), (b2_heads, .inl (cI, 6, .inl v_a2_heads))]) rfl dX4_findSets_66 ?_
                refine q_aload_n C dX4_findSets_67 1 rfl rfl ?_
                refine q_dup C dX4_findSets_68 rfl ?_
                refine q_get (C0 := RX4) (T := TX4) (N := 5) (k0 := 0) C lk1 0 rfl rfl (by decide) lk0 rfl (v := .int v_size) rfl dX4_findSets_69 ?_
                refine q_iconst (v := (1 : Int32)) C dX4_findSets_72 (by decide) ?_
                refine q_iadd C dX4_findSets_73 ?_
                refine q_put (C0 := RX4) (T := TX4) (N := 5) (k0 := 0) C lk1 0 rfl rfl (by decide) lk0 rfl tyX4 tyX4_ok nmX4 rfl (v := .int (v_size + (1 : Int32))) rfl rfl (Nat.le_of_ble_eq_true rfl) ([(o, .inr (4, [.int (v_size + (1 : Int32)), .ref o_sets, .int v_nextRock, .int v_leftAtMost, .ref o_tally])), (o_sets, .inl (cI, 64, .inl (upd v_sets (v_size).toNatClampNeg x3))), (b1, .inr (6, [.ref b1_seen, .int v_a1_counts, .ref b1_countRocks, .ref b1_countWantings])), (b1_seen, .inl (cI, 6, .inl v_a1_seen)), (b1_countRocks, .inl (cI, 8, .inl v_a1_countRocks)), (b1_countWantings, .inl (cI, 8, .inl v_a1_countWantings)), (b2, .inr (8, [.int v_a2_there, .int v_a2_month, .int v_a2_lost, .ref b2_heads, .ref b2_sides, .ref b2_moods, .ref b2_moults])), (b2_heads, .inl (cI, 6, .inl v_a2_heads))]) rfl dX4_findSets_74 ?_
                refine q_iinc (v := (x3 + 1)) C ([(3, .int (x3 + 1)), (4, .int (0 : Int32)), (0, .ref o), (1, .ref b1), (2, .ref b2)]) dX4_findSets_77 4 rfl rfl (by decide) rfl ?_
                refine q_goto (tgt := 7) C dX4_findSets_80 (by decide) ?_
                cases hF
                refine q_lsel [2, 3, 4, 0] rfl ?_
                exact ih (x3 + 1) (v_size + (1 : Int32)) (upd v_sets (v_size).toNatClampNeg x3) z_size z_sets (hn _ rfl) hk
        · have hF := ite_t hF c3
          refine q_iconst (v := (1 : Int32)) C dX4_findSets_24 (by decide) ?_
          refine q_goto (tgt := 29) C dX4_findSets_25 (by decide) ?_
          refine q_istore C ([(4, .int (1 : Int32)), (0, .ref o), (1, .ref b1), (2, .ref b2), (3, .int x3)]) dX4_findSets_29 (by decide) rfl ?_
          refine q_iload C dX4_findSets_31 0 rfl ?_
          refine q_if_eq (tgt := 77) C dX4_findSets_33 (by decide) (fun c10 => ?_) (fun c10 => ?_)
          · have hF := ite_t hF c10
            refine q_iinc (v := (x3 + 1)) C ([(3, .int (x3 + 1)), (4, .int (1 : Int32)), (0, .ref o), (1, .ref b1), (2, .ref b2)]) dX4_findSets_77 4 rfl rfl (by decide) rfl ?_
            refine q_goto (tgt := 7) C dX4_findSets_80 (by decide) ?_
            cases hF
            refine q_lsel [2, 3, 4, 0] rfl ?_
            exact ih (x3 + 1) v_size v_sets z_size z_sets (hn _ rfl) hk
          · have hF := ite_f hF c10
            refine q_aload_n C dX4_findSets_36 1 rfl rfl ?_
            refine q_get (C0 := RX4) (T := TX4) (N := 5) (k0 := 0) C lk1 0 rfl rfl (by decide) lk0 rfl (v := .int v_size) rfl dX4_findSets_37 ?_
            refine q_aload_n C dX4_findSets_40 1 rfl rfl ?_
            refine q_get (C0 := RX4) (T := TX4) (N := 5) (k0 := 1) C lk1 0 rfl rfl (by decide) lk4 rfl (v := .ref o_sets) rfl dX4_findSets_41 ?_
            refine q_alen (v := (64 : Int32)) C 1 0 rfl rfl rfl dX4_findSets_44 ?_
            refine q_icmp_ge (tgt := 77) C dX4_findSets_45 (by decide) (fun c11 => ?_) (fun c11 => ?_)
            · have hF := ite_t hF c11
              refine q_iinc (v := (x3 + 1)) C ([(3, .int (x3 + 1)), (4, .int (1 : Int32)), (0, .ref o), (1, .ref b1), (2, .ref b2)]) dX4_findSets_77 4 rfl rfl (by decide) rfl ?_
              refine q_goto (tgt := 7) C dX4_findSets_80 (by decide) ?_
              cases hF
              refine q_lsel [2, 3, 4, 0] rfl ?_
              exact ih (x3 + 1) v_size v_sets z_size z_sets (hn _ rfl) hk
            · have hF := ite_f hF c11
              refine q_aload_n C dX4_findSets_48 2 rfl rfl ?_
              refine q_iload_n C dX4_findSets_49 4 rfl rfl ?_
              refine q_aload_n C dX4_findSets_50 3 rfl rfl ?_
              obtain ⟨r12, hc13, hF⟩ := bind_c hF
              refine q_roz (q_runV (As := [.int x3, .ref b2]) (rest := []) C (fun sz => c_X6_allCountsFit l dC dI cI cZ cQ b1 b1_seen b1_countRocks b1_countWantings b2 b2_heads b2_sides b2_moods b2_moults v_a1_seen v_a1_counts v_a1_countRocks v_a1_countWantings v_a2_there v_a2_heads v_a2_month v_a2_lost x3 r12 hc13 sz) (cwV 2 C.2.2.2.2.1 gX4_findSets_X6_allCountsFit rfl rfl rfl (by decide +kernel) ⟨Nat.le_of_ble_eq_true rfl, Nat.le_of_ble_eq_true rfl⟩) 2 rfl rfl rfl [2, 3, 4, 5, 6, 7] rfl rfl rfl rfl (Nat.le_of_ble_eq_true rfl) dX4_findSets_51 ⟨Nat.zero_le _, Nat.zero_le _⟩) (fun hz12 => ?_)
              refine q_if_eq (tgt := 77) C dX4_findSets_54 (by decide) (fun c14 => ?_) (fun c14 => ?_)
              · have hF := ite_t hF c14
                refine q_iinc (v := (x3 + 1)) C ([(3, .int (x3 + 1)), (4, .int (1 : Int32)), (0, .ref o), (1, .ref b1), (2, .ref b2)]) dX4_findSets_77 4 rfl rfl (by decide) rfl ?_
                refine q_goto (tgt := 7) C dX4_findSets_80 (by decide) ?_
                cases hF
                refine q_lsel [2, 3, 4, 0] rfl ?_
                exact ih (x3 + 1) v_size v_sets z_size z_sets (hn _ rfl) hk
              · have hF := ite_f hF c14
                refine q_aload_n C dX4_findSets_57 1 rfl rfl ?_
                refine q_get (C0 := RX4) (T := TX4) (N := 5) (k0 := 1) C lk1 0 rfl rfl (by decide) lk4 rfl (v := .ref o_sets) rfl dX4_findSets_58 ?_
                refine q_aload_n C dX4_findSets_61 1 rfl rfl ?_
                refine q_get (C0 := RX4) (T := TX4) (N := 5) (k0 := 0) C lk1 0 rfl rfl (by decide) lk0 rfl (v := .int v_size) rfl dX4_findSets_62 ?_
                refine q_iload_n C dX4_findSets_65 4 rfl rfl ?_
                obtain ⟨hc15, hF⟩ := ite_c hF
                refine q_iast C 1 0 rfl rfl (ix_in hc15) ([(o, .inr (4, [.int v_size, .ref o_sets, .int v_nextRock, .int v_leftAtMost, .ref o_tally])), (o_sets, .inl (cI, 64, .inl (upd v_sets (v_size).toNatClampNeg x3))), (b1, .inr (6, [.ref b1_seen, .int v_a1_counts, .ref b1_countRocks, .ref b1_countWantings])), (b1_seen, .inl (cI, 6, .inl v_a1_seen)), (b1_countRocks, .inl (cI, 8, .inl v_a1_countRocks)), (b1_countWantings, .inl (cI, 8, .inl v_a1_countWantings)), (b2, .inr (8, [.int v_a2_there, .int v_a2_month, .int v_a2_lost, .ref b2_heads, .ref b2_sides, .ref b2_moods, .ref b2_moults])), (b2_heads, .inl (cI, 6, .inl v_a2_heads))]) rfl dX4_findSets_66 ?_
                refine q_aload_n C dX4_findSets_67 1 rfl rfl ?_
                refine q_dup C dX4_findSets_68 rfl ?_
                refine q_get (C0 := RX4) (T := TX4) (N := 5) (k0 := 0) C lk1 0 rfl rfl (by decide) lk0 rfl (v := .int v_size) rfl dX4_findSets_69 ?_
                refine q_iconst (v := (1 : Int32)) C dX4_findSets_72 (by decide) ?_
                refine q_iadd C dX4_findSets_73 ?_
                refine q_put (C0 := RX4) (T := TX4) (N := 5) (k0 := 0) C lk1 0 rfl rfl (by decide) lk0 rfl tyX4 tyX4_ok nmX4 rfl (v := .int (v_size + (1 : Int32))) rfl rfl (Nat.le_of_ble_eq_true rfl) ([(o, .inr (4, [.int (v_size + (1 : Int32)), .ref o_sets, .int v_nextRock, .int v_leftAtMost, .ref o_tally])), (o_sets, .inl (cI, 64, .inl (upd v_sets (v_size).toNatClampNeg x3))), (b1, .inr (6, [.ref b1_seen, .int v_a1_counts, .ref b1_countRocks, .ref b1_countWantings])), (b1_seen, .inl (cI, 6, .inl v_a1_seen)), (b1_countRocks, .inl (cI, 8, .inl v_a1_countRocks)), (b1_countWantings, .inl (cI, 8, .inl v_a1_countWantings)), (b2, .inr (8, [.int v_a2_there, .int v_a2_month, .int v_a2_lost, .ref b2_heads, .ref b2_sides, .ref b2_moods, .ref b2_moults])), (b2_heads, .inl (cI, 6, .inl v_a2_heads))]) rfl dX4_findSets_74 ?_
                refine q_iinc (v := (x3 + 1)) C ([(3, .int (x3 + 1)), (4, .int (1 : Int32)), (0, .ref o), (1, .ref b1), (2, .ref b2)]) dX4_findSets_77 4 rfl rfl (by decide) rfl ?_
                refine q_goto (tgt := 7) C dX4_findSets_80 (by decide) ?_
                cases hF
                refine q_lsel [2, 3, 4, 0] rfl ?_
                exact ih (x3 + 1) (v_size + (1 : Int32)) (upd v_sets (v_size).toNatClampNeg x3) z_size z_sets (hn _ rfl) hk
  unfold f_Guess_findSets at hF
  refine q_aload_n C dX4_findSets_0 0 rfl rfl ?_
  refine q_iconst (v := (0 : Int32)) C dX4_findSets_1 (by decide) ?_
  refine q_put (C0 := RX4) (T := TX4) (N := 5) (k0 := 0) C lk1 0 rfl rfl (by decide) lk0 rfl tyX4 tyX4_ok nmX4 rfl (v := .int (0 : Int32)) rfl rfl (Nat.le_of_ble_eq_true rfl) ([(o, .inr (4, [.int (0 : Int32), .ref o_sets, .int v_nextRock, .int v_leftAtMost, .ref o_tally])), (o_sets, .inl (cI, 64, .inl v_sets)), (b1, .inr (6, [.ref b1_seen, .int v_a1_counts, .ref b1_countRocks, .ref b1_countWantings])), (b1_seen, .inl (cI, 6, .inl v_a1_seen)), (b1_countRocks, .inl (cI, 8, .inl v_a1_countRocks)), (b1_countWantings, .inl (cI, 8, .inl v_a1_countWantings)), (b2, .inr (8, [.int v_a2_there, .int v_a2_month, .int v_a2_lost, .ref b2_heads, .ref b2_sides, .ref b2_moods, .ref b2_moults])), (b2_heads, .inl (cI, 6, .inl v_a2_heads))]) rfl dX4_findSets_2 ?_
  refine q_iconst (v := (0 : Int32)) C dX4_findSets_5 (by decide) ?_
  refine q_istore_n C ([(3, .int (0 : Int32)), (0, .ref o), (1, .ref b1), (2, .ref b2)]) dX4_findSets_6 rfl (by decide) rfl ?_
  obtain ⟨⟨z16_size, z16_sets⟩, hc17, hF⟩ := bind_c hF
  dsimp only at hF
  obtain ⟨n18, hc17⟩ := (ev_iff _ _ _).mp hc17
  refine q_lsel [1, 2, 3, 0] rfl ?_
  refine L1 n18 (0 : Int32) (0 : Int32) v_sets z16_size z16_sets hc17 ?_
  cases hF
  exact q_wretv C hr dX4_findSets_83 hQ
set_option maxRecDepth 100000 in
set_option maxHeartbeats 4000000 in
theorem c_X4_setAt (l : Launch) (dC : Nat → ClassId) (dI : Nat → Nat → Nat) (cI cZ cQ : ClassId) (o o_sets o_tally : Nat) (v_size : Int32) (v_sets : Nat → Int32) (v_nextRock : Int32) (v_leftAtMost : Int32) (p1 : Int32) (R : Int32) (hF : f_Guess_setAt v_size v_sets p1 = some R) (sz : Nat) : Met l yX4_setAt wsX4_setAt ({ frames := 0, cells := 0, slots := 0, locals := 0 } : Room) (qPc ([.ref o, .int p1]) (dC, dI) (qT cI cZ cQ) ([(o, .inr (4, [.int v_size, .ref o_sets, .int v_nextRock, .int v_leftAtMost, .ref o_tally])), (o_sets, .inl (cI, 64, .inl v_sets))]) sz) (qRi R) 0 0 (fun _ => False) := by
  refine q_met_r (cc := cX4_setAt) (own := RX4) (maxL := 2) (ret := (some .int)) (lv0 := [(0, .ref o), (1, .int p1)]) (by decide) rfl rfl rfl (Nat.le_of_ble_eq_true rfl) ?_
  intro p e s m args below meth c C hr A A' Q hA0 hQ
  have lk0 : Cond.fieldLink RX4 18 "SealStrait$Guess" "size" "I" ∈ wsX4_setAt := by decide +kernel
  have lk1 : ∀ w ∈ u_ws RX4 TX4 5, w ∈ wsX4_setAt := fun w h => List.mem_cons_of_mem _ (List.mem_append_right _ h)
  have lk2 : Cond.fieldLink RX4 9 "SealStrait$Guess" "sets" "[I" ∈ wsX4_setAt := by decide +kernel
  unfold f_Guess_setAt at hF
  refine q_iload_n C dX4_setAt_0 1 rfl rfl ?_
  refine q_if_lt (tgt := 30) C dX4_setAt_1 (by decide) (fun c1 => ?_) (fun c1 => ?_)
  · have hF := ite_t hF c1
    refine q_bipush (v := (-6 : Int32)) C dX4_setAt_30 (by decide) ?_
    cases hF
    exact q_ireti C hA0 hr dX4_setAt_32 hQ
  · have hF := ite_f hF c1
    refine q_iload_n C dX4_setAt_4 1 rfl rfl ?_
    refine q_aload_n C dX4_setAt_5 0 rfl rfl ?_
    refine q_get (C0 := RX4) (T := TX4) (N := 5) (k0 := 0) C lk1 0 rfl rfl (by decide) lk0 rfl (v := .int v_size) rfl dX4_setAt_6 ?_
    refine q_icmp_ge (tgt := 30) C dX4_setAt_9 (by decide) (fun c2 => ?_) (fun c2 => ?_)
    · have hF := ite_t hF c2
      refine q_bipush (v := (-6 : Int32)) C dX4_setAt_30 (by decide) ?_
      cases hF
      exact q_ireti C hA0 hr dX4_setAt_32 hQ
    · have hF := ite_f hF c2
      refine q_iload_n C dX4_setAt_12 1 rfl rfl ?_
      refine q_aload_n C dX4_setAt_13 0 rfl rfl ?_
      refine q_get (C0 := RX4) (T := TX4) (N := 5) (k0 := 1) C lk1 0 rfl rfl (by decide) lk2 rfl (v := .ref o_sets) rfl dX4_setAt_14 ?_
      refine q_alen (v := (64 : Int32)) C 1 0 rfl rfl rfl dX4_setAt_17 ?_
      refine q_icmp_ge (tgt := 30) C dX4_setAt_18 (by decide) (fun c3 => ?_) (fun c3 => ?_)
      · have hF := ite_t hF c3
        refine q_bipush (v := (-6 : Int32)) C dX4_setAt_30 (by decide) ?_
        cases hF
        exact q_ireti C hA0 hr dX4_setAt_32 hQ
      · have hF := ite_f hF c3
        refine q_aload_n C dX4_setAt_21 0 rfl rfl ?_
        refine q_get (C0 := RX4) (T := TX4) (N := 5) (k0 := 1) C lk1 0 rfl rfl (by decide) lk2 rfl (v := .ref o_sets) rfl dX4_setAt_22 ?_
        refine q_iload_n C dX4_setAt_25 1 rfl rfl ?_
        obtain ⟨hc4, hF⟩ := ite_c hF
        refine q_iald C 1 0 rfl rfl (ix_in hc4) dX4_setAt_26 ?_
        refine q_goto (tgt := 32) C dX4_setAt_27 (by decide) ?_
        cases hF
        exact q_ireti C hA0 hr dX4_setAt_32 hQ
set_option maxRecDepth 100000 in
set_option maxHeartbeats 4000000 in
theorem c_X4_mostAlike (l : Launch) (dC : Nat → ClassId) (dI : Nat → Nat → Nat) (cI cZ cQ : ClassId) (o o_sets o_tally b2 b2_seen b3 b3_heads b2_countRocks b2_countWantings b3_sides b3_moods b3_moults : Nat) (v_size : Int32) (v_sets : Nat → Int32) (v_tally : Nat → Int32) (v_a2_seen : Nat → Int32) (v_a3_there : Int32) (v_a3_heads : Nat → Int32) (v_nextRock : Int32) (v_leftAtMost : Int32) (v_a2_counts : Int32) (v_a3_month : Int32) (v_a3_lost : Int32) (p1 : Int32) (R : Int32) (w_tally : Nat → Int32) (hF : f_Guess_mostAlike v_size v_sets v_tally v_a2_seen v_a3_there v_a3_heads p1 = some (R, w_tally)) (sz : Nat) : Met l yX4_mostAlike wsX4_mostAlike ({ frames := 3, cells := 0, slots := 0, locals := 67 } : Room) (qPc ([.ref o, .int p1, .ref b2, .ref b3]) (dC, dI) (qT cI cZ cQ) ([(o, .inr (4, [.int v_size, .ref o_sets, .int v_nextRock, .int v_leftAtMost, .ref o_tally])), (o_sets, .inl (cI, 64, .inl v_sets)), (o_tally, .inl (cI, 595, .inl v_tally)), (b2, .inr (6, [.ref b2_seen, .int v_a2_counts, .ref b2_countRocks, .ref b2_countWantings])), (b2_seen, .inl (cI, 6, .inl v_a2_seen)), (b3, .inr (8, [.int v_a3_there, .int v_a3_month, .int v_a3_lost, .ref b3_heads, .ref b3_sides, .ref b3_moods, .ref b3_moults])), (b3_heads, .inl (cI, 6, .inl v_a3_heads))]) sz) (qWi R (dC, dI) ([(o, .inr (4, [.int v_size, .ref o_sets, .int v_nextRock, .int v_leftAtMost, .ref o_tally])), (o_sets, .inl (cI, 64, .inl v_sets)), (o_tally, .inl (cI, 595, .inl w_tally)), (b2, .inr (6, [.ref b2_seen, .int v_a2_counts, .ref b2_countRocks, .ref b2_countWantings])), (b2_seen, .inl (cI, 6, .inl v_a2_seen)), (b3, .inr (8, [.int v_a3_there, .int v_a3_month, .int v_a3_lost, .ref b3_heads, .ref b3_sides, .ref b3_moods, .ref b3_moults])), (b3_heads, .inl (cI, 6, .inl v_a3_heads))]) (va_A ([(o, .inr (4, [.int v_size, .ref o_sets, .int v_nextRock, .int v_leftAtMost, .ref o_tally])), (o_sets, .inl (cI, 64, .inl v_sets)), (o_tally, .inl (cI, 595, .inl v_tally)), (b2, .inr (6, [.ref b2_seen, .int v_a2_counts, .ref b2_countRocks, .ref b2_countWantings])), (b2_seen, .inl (cI, 6, .inl v_a2_seen)), (b3, .inr (8, [.int v_a3_there, .int v_a3_month, .int v_a3_lost, .ref b3_heads, .ref b3_sides, .ref b3_moods, .ref b3_moults])), (b3_heads, .inl (cI, 6, .inl v_a3_heads))]) sz)) 0 0 (va_A ([(o, .inr (4, [.int v_size, .ref o_sets, .int v_nextRock, .int v_leftAtMost, .ref o_tally])), (o_sets, .inl (cI, 64, .inl v_sets)), (o_tally, .inl (cI, 595, .inl v_tally)), (b2, .inr (6, [.ref b2_seen, .int v_a2_counts, .ref b2_countRocks, .ref b2_countWantings])), (b2_seen, .inl (cI, 6, .inl v_a2_seen)), (b3, .inr (8, [.int v_a3_there, .int v_a3_month, .int v_a3_lost, .ref b3_heads, .ref b3_sides, .ref b3_moods, .ref b3_moults])), (b3_heads, .inl (cI, 6, .inl v_a3_heads))]) sz) := by
  refine q_met_w (Qc := fun A => qWi R (dC, dI) ([(o, .inr (4, [.int v_size, .ref o_sets, .int v_nextRock, .int v_leftAtMost, .ref o_tally])), (o_sets, .inl (cI, 64, .inl v_sets)), (o_tally, .inl (cI, 595, .inl w_tally)), (b2, .inr (6, [.ref b2_seen, .int v_a2_counts, .ref b2_countRocks, .ref b2_countWantings])), (b2_seen, .inl (cI, 6, .inl v_a2_seen)), (b3, .inr (8, [.int v_a3_there, .int v_a3_month, .int v_a3_lost, .ref b3_heads, .ref b3_sides, .ref b3_moods, .ref b3_moults])), (b3_heads, .inl (cI, 6, .inl v_a3_heads))]) A) (cc := cX4_mostAlike) (own := RX4) (maxL := 7) (ret := (some .int)) (lv0 := [(0, .ref o), (1, .int p1), (2, .ref b2), (3, .ref b3)]) (by decide) rfl rfl rfl (Nat.le_of_ble_eq_true rfl) ?_
  intro p e s m args below meth c A hA C hr hnm Q hQ
  have lk0 : Cond.fieldLink RX4 15 "SealStrait$Guess" "tally" "[I" ∈ wsX4_mostAlike := by decide +kernel
  have lk1 : ∀ w ∈ u_ws RX4 TX4 5, w ∈ wsX4_mostAlike := fun w h => List.mem_cons_of_mem _ (List.mem_append_left _ (List.mem_append_left _ (List.mem_append_right _ h)))
  have lk2 : Cond.fieldLink RX4 18 "SealStrait$Guess" "size" "I" ∈ wsX4_mostAlike := by decide +kernel
  have lk3 : Cond.fieldLink RX4 9 "SealStrait$Guess" "sets" "[I" ∈ wsX4_mostAlike := by decide +kernel
  have lk4 : Cond.methodLink RX4 53 Lib.Math.max.name ∈ wsX4_mostAlike := by decide +kernel
  have lk5 : Cond.static Lib.Math.max.name ∈ wsX4_mostAlike := by decide +kernel
  have lk6 : Cond.initialized "java/lang/Math" ∈ wsX4_mostAlike := by decide +kernel
  have lk7 : Cond.code Lib.Math.max.name Lib.Math.max.code 2 (some .int) ∈ wsX4_mostAlike := by decide +kernel
  have L1 : ∀ (n : Nat) (x1 : Int32) (x4 : Int32) (x5 : Int32) (v_tally : Nat → Int32) (y4 : Int32) (z_tally : Nat → Int32), evr (fun s => b_Guess_mostAlike_1 x1 v_size v_sets v_a2_seen v_a3_there v_a3_heads s.1 s.2.1 s.2.2) n (x4, x5, v_tally) = some (y4, z_tally) → qG p l e ({ frames := 3, cells := 0, slots := 0, locals := 67 } : Room) s m args below meth c 7 (dC, dI) A A Q 0 0 ([(4, .int y4)]) [] ([(o, .inr (4, [.int v_size, .ref o_sets, .int v_nextRock, .int v_leftAtMost, .ref o_tally])), (o_sets, .inl (cI, 64, .inl v_sets)), (o_tally, .inl (cI, 595, .inl z_tally)), (b2, .inr (6, [.ref b2_seen, .int v_a2_counts, .ref b2_countRocks, .ref b2_countWantings])), (b2_seen, .inl (cI, 6, .inl v_a2_seen)), (b3, .inr (8, [.int v_a3_there, .int v_a3_month, .int v_a3_lost, .ref b3_heads, .ref b3_sides, .ref b3_moods, .ref b3_moults])), (b3_heads, .inl (cI, 6, .inl v_a3_heads))]) 94 → qG p l e ({ frames := 3, cells := 0, slots := 0, locals := 67 } : Room) s m args below meth c 7 (dC, dI) A A Q 0 0 ([(0, .ref o), (1, .int x1), (2, .ref b2), (3, .ref b3), (4, .int x4), (5, .int x5)]) [] ([(o, .inr (4, [.int v_size, .ref o_sets, .int v_nextRock, .int v_leftAtMost, .ref o_tally])), (o_sets, .inl (cI, 64, .inl v_sets)), (o_tally, .inl (cI, 595, .inl v_tally)), (b2, .inr (6, [.ref b2_seen, .int v_a2_counts, .ref b2_countRocks, .ref b2_countWantings])), (b2_seen, .inl (cI, 6, .inl v_a2_seen)), (b3, .inr (8, [.int v_a3_there, .int v_a3_month, .int v_a3_lost, .ref b3_heads, .ref b3_sides, .ref b3_moods, .ref b3_moults])), (b3_heads, .inl (cI, 6, .inl v_a3_heads))]) 14 := by
    clear hF
    intro n
    induction n with
    | zero => intro x1 x4 x5 v_tally y4 z_tally hF; exact (evr_0 hF).elim
    | succ n ih =>
      intro x1 x4 x5 v_tally y4 z_tally hF hk
      obtain ⟨o9, hB, hn, hx⟩ := evr_c hF
      have hF : b_Guess_mostAlike_1 x1 v_size v_sets v_a2_seen v_a3_there v_a3_heads x4 x5 v_tally = some o9 := hB
      unfold b_Guess_mostAlike_1 at hF
      refine q_iload C dX4_mostAlike_14 5 rfl ?_
      refine q_aload_n C dX4_mostAlike_16 0 rfl rfl ?_
      refine q_get (C0 := RX4) (T := TX4) (N := 5) (k0 := 0) C lk1 0 rfl rfl (by decide) lk2 rfl (v := .int v_size) rfl dX4_mostAlike_17 ?_
      refine q_icmp_ge (tgt := 94) C dX4_mostAlike_20 (by decide) (fun c1 => ?_) (fun c1 => ?_)
      · have hF := ite_t hF c1
        cases hF
        have e2 := hx _ rfl
        cases e2
        refine q_lsel [4] rfl ?_
        exact hk
      · have hF := ite_f hF c1
        refine q_iload C dX4_mostAlike_23 5 rfl ?_
        refine q_aload_n C dX4_mostAlike_25 0 rfl rfl ?_
        refine q_get (C0 := RX4) (T := TX4) (N := 5) (k0 := 1) C lk1 0 rfl rfl (by decide) lk3 rfl (v := .ref o_sets) rfl dX4_mostAlike_26 ?_
        refine q_alen (v := (64 : Int32)) C 1 0 rfl rfl rfl dX4_mostAlike_29 ?_
        refine q_icmp_ge (tgt := 94) C dX4_mostAlike_30 (by decide) (fun c3 => ?_) (fun c3 => ?_)
        · have hF := ite_t hF c3
          cases hF
          have e4 := hx _ rfl
          cases e4
          refine q_lsel [4] rfl ?_
          exact hk
        · have hF := ite_f hF c3
          refine q_aload_n C dX4_mostAlike_33 2 rfl rfl ?_
          refine q_iload_n C dX4_mostAlike_34 1 rfl rfl ?_
          refine q_aload_n C dX4_mostAlike_35 0 rfl rfl ?_
          refine q_get (C0 := RX4) (T := TX4) (N := 5) (k0 := 1) C lk1 0 rfl rfl (by decide) lk3 rfl (v := .ref o_sets) rfl dX4_mostAlike_36 ?_
          refine q_iload C dX4_mostAlike_39 5 rfl ?_
          obtain ⟨hc5, hF⟩ := ite_c hF
          refine q_iald C 1 0 rfl rfl (ix_in hc5) dX4_mostAlike_41 ?_
          refine q_aload_n C dX4_mostAlike_42 3 rfl rfl ?_
          obtain ⟨r6, hc7, hF⟩ := bind_c hF
          refine q_roi (q_runV (As := [.int x1, .int (v_sets (x5).toNatClampNeg), .ref b3]) (rest := []) C (fun sz => c_X6_wantingOff l dC dI cI cZ cQ b2 b2_seen b3 b3_heads b2_countRocks b2_countWantings b3_sides b3_moods b3_moults v_a2_seen v_a3_there v_a3_heads v_a2_counts v_a3_month v_a3_lost x1 (v_sets (x5).toNatClampNeg) r6 hc7 sz) (cwV 3 C.2.2.2.2.1 gX4_mostAlike_X6_wantingOff rfl rfl rfl (by decide +kernel) ⟨Nat.le_of_ble_eq_true rfl, Nat.le_of_ble_eq_true rfl⟩) 3 rfl rfl rfl [3, 4, 5, 6] rfl rfl rfl rfl (Nat.le_of_ble_eq_true rfl) dX4_mostAlike_43 ⟨Nat.zero_le _, Nat.zero_le _⟩) ?_
          refine q_istore C ([(6, .int r6), (0, .ref o), (1, .int x1), (2, .ref b2), (3, .ref b3), (4, .int x4), (5, .int x5)]) dX4_mostAlike_46 (by decide) rfl ?_
          refine q_iload C dX4_mostAlike_48 0 rfl ?_
          refine q_if_lt (tgt := 88) C dX4_mostAlike_50 (by decide) (fun c8 => ?_) (fun c8 => ?_)
          · have hF := ite_t hF c8
            refine q_iinc (v := (x5 + 1)) C ([(5, .int (x5 + 1)), (6, .int r6), (0, .ref o), (1, .int x1), (2, .ref b2), (3, .ref b3), (4, .int x4)]) dX4_mostAlike_88 6 rfl rfl (by decide) rfl ?_
            refine q_goto (tgt := 14) C dX4_mostAlike_91 (by decide) ?_
            cases hF
            refine q_lsel [2, 3, 4, 5, 6, 0] rfl ?_
            exact ih x1 x4 (x5 + 1) v_tally y4 z_tally (hn _ rfl) hk
          · have hF := ite_f hF c8
            refine q_iload C dX4_mostAlike_53 0 rfl ?_
            refine q_aload_n C dX4_mostAlike_55 1 rfl rfl ?_
            refine q_get (C0 := RX4) (T := TX4) (N := 5) (k0 := 4) C lk1 0 rfl rfl (by decide) lk0 rfl (v := .ref o_tally) rfl dX4_mostAlike_56 ?_
            refine q_alen (v := (595 : Int32)) C 2 0 rfl rfl rfl dX4_mostAlike_59 ?_
            refine q_icmp_ge (tgt := 88) C dX4_mostAlike_60 (by decide) (fun c9 => ?_) (fun c9 => ?_)
            · have hF := ite_t hF c9
              refine q_iinc (v := (x5 + 1)) C ([(5, .int (x5 + 1)), (6, .int r6), (0, .ref o), (1, .int x1), (2, .ref b2), (3, .ref b3), (4, .int x4)]) dX4_mostAlike_88 6 rfl rfl (by decide) rfl ?_
              refine q_goto (tgt := 14) C dX4_mostAlike_91 (by decide) ?_
              cases hF
              refine q_lsel [2, 3, 4, 5, 6, 0] rfl ?_
              exact ih x1 x4 (x5 + 1) v_tally y4 z_tally (hn _ rfl) hk
            · have hF := ite_f hF c9
              refine q_aload_n C dX4_mostAlike_63 1 rfl rfl ?_
              refine q_get (C0 := RX4) (T := TX4) (N := 5) (k0 := 4) C lk1 0 rfl rfl (by decide) lk0 rfl (v := .ref o_tally) rfl dX4_mostAlike_64 ?_
              refine q_iload C dX4_mostAlike_67 0 rfl ?_
              refine q_dup2 C dX4_mostAlike_69 rfl rfl ?_
              obtain ⟨hc10, hF⟩ := ite_c hF
              refine q_iald C 2 0 rfl rfl (ix_in hc10) dX4_mostAlike_70 ?_
              refine q_iconst (v := (1 : Int32)) C dX4_mostAlike_71 (by decide) ?_
              refine q_iadd C dX4_mostAlike_72 ?_
              obtain ⟨hc11, hF⟩ := ite_c hF
              refine q_iast C 2 0 rfl rfl (ix_in hc11) ([(o, .inr (4, [.int v_size, .ref o_sets, .int v_nextRock, .int v_leftAtMost, .ref o_tally])), (o_sets, .inl (cI, 64, .inl v_sets)), (o_tally, .inl (cI, 595, .inl (upd v_tally (r6).toNatClampNeg ((v_tally (r6).toNatClampNeg) + (1 : Int32))))), (b2, .inr (6, [.ref b2_seen, .int v_a2_counts, .ref b2_countRocks, .ref b2_countWantings])), (b2_seen, .inl (cI, 6, .inl v_a2_seen)), (b3, .inr (8, [.int v_a3_there, .int v_a3_month, .int v_a3_lost, .ref b3_heads, .ref b3_sides, .ref b3_moods, .ref b3_moults])), (b3_heads, .inl (cI, 6, .inl v_a3_heads))]) rfl dX4_mostAlike_73 ?_
              refine q_iload C dX4_mostAlike_74 5 rfl ?_
              refine q_aload_n C dX4_mostAlike_76 1 rfl rfl ?_
              refine q_get (C0 := RX4) (T := TX4) (N := 5) (k0 := 4) C lk1 0 rfl rfl (by decide) lk0 rfl (v := .ref o_tally) rfl dX4_mostAlike_77 ?_
              refine q_iload C dX4_mostAlike_80 0 rfl ?_
              obtain ⟨hc12, hF⟩ := ite_c hF
              refine q_iald C 2 0 rfl rfl (ix_in hc12) dX4_mostAlike_82 ?_
              refine q_mmax C lk4 lk5 lk6 lk7 (Nat.le_of_ble_eq_true rfl) (Nat.le_of_ble_eq_true rfl) (Nat.zero_le _) (Nat.zero_le _) dX4_mostAlike_83 ?_
              refine q_istore C ([(4, .int (if x4 < ((upd v_tally (r6).toNatClampNeg ((v_tally (r6).toNatClampNeg) + (1 : Int32))) (r6).toNatClampNeg) then ((upd v_tally (r6).toNatClampNeg ((v_tally (r6).toNatClampNeg) + (1 : Int32))) (r6).toNatClampNeg) else x4)), (6, .int r6), (0, .ref o), (1, .int x1), (2, .ref b2), (3, .ref b3), (5, .int x5)]) dX4_mostAlike_86 (by decide) rfl ?_
              refine q_iinc (v := (x5 + 1)) C ([(5, .int (x5 + 1)), (4, .int (if x4 < ((upd v_tally (r6).toNatClampNeg ((v_tally (r6).toNatClampNeg) + (1 : Int32))) (r6).toNatClampNeg) then ((upd v_tally (r6).toNatClampNeg ((v_tally (r6).toNatClampNeg) + (1 : Int32))) (r6).toNatClampNeg) else x4)), (6, .int r6), (0, .ref o), (1, .int x1), (2, .ref b2), (3, .ref b3)]) dX4_mostAlike_88 6 rfl rfl (by decide) rfl ?_
              refine q_goto (tgt := 14) C dX4_mostAlike_91 (by decide) ?_
              cases hF
              refine q_lsel [3, 4, 5, 6, 1, 0] rfl ?_
              exact ih x1 (if x4 < ((upd v_tally (r6).toNatClampNeg ((v_tally (r6).toNatClampNeg) + (1 : Int32))) (r6).toNatClampNeg) then ((upd v_tally (r6).toNatClampNeg ((v_tally (r6).toNatClampNeg) + (1 : Int32))) (r6).toNatClampNeg) else x4) (x5 + 1) (upd v_tally (r6).toNatClampNeg ((v_tally (r6).toNatClampNeg) + (1 : Int32))) y4 z_tally (hn _ rfl) hk
  unfold f_Guess_mostAlike at hF
  refine q_aload_n C dX4_mostAlike_0 0 rfl rfl ?_
  refine q_get (C0 := RX4) (T := TX4) (N := 5) (k0 := 4) C lk1 0 rfl rfl (by decide) lk0 rfl (v := .ref o_tally) rfl dX4_mostAlike_1 ?_
  refine q_iconst (v := (0 : Int32)) C dX4_mostAlike_4 (by decide) ?_
  obtain ⟨u13_a1, hc14, hF⟩ := bind_c hF
  refine q_rwv hA ([(o, .inr (4, [.int v_size, .ref o_sets, .int v_nextRock, .int v_leftAtMost, .ref o_tally])), (o_sets, .inl (cI, 64, .inl v_sets)), (o_tally, .inl (cI, 595, .inl u13_a1)), (b2, .inr (6, [.ref b2_seen, .int v_a2_counts, .ref b2_countRocks, .ref b2_countWantings])), (b2_seen, .inl (cI, 6, .inl v_a2_seen)), (b3, .inr (8, [.int v_a3_there, .int v_a3_month, .int v_a3_lost, .ref b3_heads, .ref b3_sides, .ref b3_moods, .ref b3_moults])), (b3_heads, .inl (cI, 6, .inl v_a3_heads))]) [2] [0, 1, 3, 4, 5, 6] rfl rfl rfl (by decide) [0, 1, 6, 2, 3, 4, 5] rfl rfl (q_runS (As := [.ref o_tally, .int (0 : Int32)]) (rest := []) C (fun sz => c_J7_fill_53178 l dC dI cI cZ cQ o_tally 595 v_tally (0 : Int32) u13_a1 hc14 sz) (va_cwS 2 C.2.2.2.2.1 gX4_mostAlike_J7_fill_53178 rfl rfl rfl (by decide +kernel) ⟨Nat.le_of_ble_eq_true rfl, Nat.le_of_ble_eq_true rfl⟩) [2] rfl rfl rfl rfl (Nat.le_of_ble_eq_true rfl) dX4_mostAlike_5 ⟨Nat.zero_le _, Nat.zero_le _⟩) ?_
  refine q_iconst (v := (0 : Int32)) C dX4_mostAlike_8 (by decide) ?_
  refine q_istore C ([(4, .int (0 : Int32)), (0, .ref o), (1, .int p1), (2, .ref b2), (3, .ref b3)]) dX4_mostAlike_9 (by decide) rfl ?_
  refine q_iconst (v := (0 : Int32)) C dX4_mostAlike_11 (by decide) ?_
  refine q_istore C ([(5, .int (0 : Int32)), (4, .int (0 : Int32)), (0, .ref o), (1, .int p1), (2, .ref b2), (3, .ref b3)]) dX4_mostAlike_12 (by decide) rfl ?_
  obtain ⟨⟨y4_15, z15_tally⟩, hc16, hF⟩ := bind_c hF
  dsimp only at hF
  obtain ⟨n17, hc16⟩ := (ev_iff _ _ _).mp hc16
  refine q_lsel [2, 3, 4, 5, 1, 0] rfl ?_
  refine L1 n17 p1 (0 : Int32) (0 : Int32) u13_a1 y4_15 z15_tally hc16 ?_
  refine q_iload C dX4_mostAlike_94 0 rfl ?_
  cases hF
  exact q_wreti C hr dX4_mostAlike_96 hQ
set_option maxRecDepth 100000 in
set_option maxHeartbeats 4000000 in
theorem c_X4_findNextRock (l : Launch) (dC : Nat → ClassId) (dI : Nat → Nat → Nat) (cI cZ cQ : ClassId) (o o_sets o_tally b1 b1_seen b2 b2_heads b1_countRocks b1_countWantings b2_sides b2_moods b2_moults : Nat) (v_size : Int32) (v_sets : Nat → Int32) (v_nextRock : Int32) (v_leftAtMost : Int32) (v_tally : Nat → Int32) (v_a1_seen : Nat → Int32) (v_a2_there : Int32) (v_a2_heads : Nat → Int32) (v_a1_counts : Int32) (v_a2_month : Int32) (v_a2_lost : Int32) (w_nextRock : Int32) (w_leftAtMost : Int32) (w_tally : Nat → Int32) (hF : f_Guess_findNextRock v_size v_sets v_nextRock v_leftAtMost v_tally v_a1_seen v_a2_there v_a2_heads = some (w_nextRock, w_leftAtMost, w_tally)) (sz : Nat) : Met l yX4_findNextRock wsX4_findNextRock ({ frames := 4, cells := 0, slots := 0, locals := 93 } : Room) (qPc ([.ref o, .ref b1, .ref b2]) (dC, dI) (qT cI cZ cQ) ([(o, .inr (4, [.int v_size, .ref o_sets, .int v_nextRock, .int v_leftAtMost, .ref o_tally])), (o_sets, .inl (cI, 64, .inl v_sets)), (o_tally, .inl (cI, 595, .inl v_tally)), (b1, .inr (6, [.ref b1_seen, .int v_a1_counts, .ref b1_countRocks, .ref b1_countWantings])), (b1_seen, .inl (cI, 6, .inl v_a1_seen)), (b2, .inr (8, [.int v_a2_there, .int v_a2_month, .int v_a2_lost, .ref b2_heads, .ref b2_sides, .ref b2_moods, .ref b2_moults])), (b2_heads, .inl (cI, 6, .inl v_a2_heads))]) sz) (qWv (dC, dI) ([(o, .inr (4, [.int v_size, .ref o_sets, .int w_nextRock, .int w_leftAtMost, .ref o_tally])), (o_sets, .inl (cI, 64, .inl v_sets)), (o_tally, .inl (cI, 595, .inl w_tally)), (b1, .inr (6, [.ref b1_seen, .int v_a1_counts, .ref b1_countRocks, .ref b1_countWantings])), (b1_seen, .inl (cI, 6, .inl v_a1_seen)), (b2, .inr (8, [.int v_a2_there, .int v_a2_month, .int v_a2_lost, .ref b2_heads, .ref b2_sides, .ref b2_moods, .ref b2_moults])), (b2_heads, .inl (cI, 6, .inl v_a2_heads))]) (va_A ([(o, .inr (4, [.int v_size, .ref o_sets, .int v_nextRock, .int v_leftAtMost, .ref o_tally])), (o_sets, .inl (cI, 64, .inl v_sets)), (o_tally, .inl (cI, 595, .inl v_tally)), (b1, .inr (6, [.ref b1_seen, .int v_a1_counts, .ref b1_countRocks, .ref b1_countWantings])), (b1_seen, .inl (cI, 6, .inl v_a1_seen)), (b2, .inr (8, [.int v_a2_there, .int v_a2_month, .int v_a2_lost, .ref b2_heads, .ref b2_sides, .ref b2_moods, .ref b2_moults])), (b2_heads, .inl (cI, 6, .inl v_a2_heads))]) sz)) 0 0 (va_A ([(o, .inr (4, [.int v_size, .ref o_sets, .int v_nextRock, .int v_leftAtMost, .ref o_tally])), (o_sets, .inl (cI, 64, .inl v_sets)), (o_tally, .inl (cI, 595, .inl v_tally)), (b1, .inr (6, [.ref b1_seen, .int v_a1_counts, .ref b1_countRocks, .ref b1_countWantings])), (b1_seen, .inl (cI, 6, .inl v_a1_seen)), (b2, .inr (8, [.int v_a2_there, .int v_a2_month, .int v_a2_lost, .ref b2_heads, .ref b2_sides, .ref b2_moods, .ref b2_moults])), (b2_heads, .inl (cI, 6, .inl v_a2_heads))]) sz) := by
  refine q_met_w (Qc := fun A => qWv (dC, dI) ([(o, .inr (4, [.int v_size, .ref o_sets, .int w_nextRock, .int w_leftAtMost, .ref o_tally])), (o_sets, .inl (cI, 64, .inl v_sets)), (o_tally, .inl (cI, 595, .inl w_tally)), (b1, .inr (6, [.ref b1_seen, .int v_a1_counts, .ref b1_countRocks, .ref b1_countWantings])), (b1_seen, .inl (cI, 6, .inl v_a1_seen)), (b2, .inr (8, [.int v_a2_there, .int v_a2_month, .int v_a2_lost, .ref b2_heads, .ref b2_sides, .ref b2_moods, .ref b2_moults])), (b2_heads, .inl (cI, 6, .inl v_a2_heads))]) A) (cc := cX4_findNextRock) (own := RX4) (maxL := 5) (ret := none) (lv0 := [(0, .ref o), (1, .ref b1), (2, .ref b2)]) (by decide) rfl rfl rfl (Nat.le_of_ble_eq_true rfl) ?_
  intro p e s m args below meth c A hA C hr hnm Q hQ
  have lk0 : Cond.fieldLink RX4 33 "SealStrait$Guess" "nextRock" "I" ∈ wsX4_findNextRock := by decide +kernel
  have lk1 : ∀ w ∈ u_ws RX4 TX4 5, w ∈ wsX4_findNextRock := fun w h => List.mem_cons_of_mem _ (List.mem_append_left _ (List.mem_append_left _ (List.mem_append_right _ h)))
  have lk2 : Cond.fieldLink RX4 36 "SealStrait$Guess" "leftAtMost" "I" ∈ wsX4_findNextRock := by decide +kernel
  have L1 : ∀ (n : Nat) (x3 : Int32) (v_nextRock : Int32) (v_leftAtMost : Int32) (v_tally : Nat → Int32) (z_nextRock : Int32) (z_leftAtMost : Int32) (z_tally : Nat → Int32), evr (fun s => b_Guess_findNextRock_1 v_size v_sets v_a1_seen v_a2_there v_a2_heads s.1 s.2.1 s.2.2.1 s.2.2.2) n (x3, v_nextRock, v_leftAtMost, v_tally) = some (z_nextRock, z_leftAtMost, z_tally) → qG p l e ({ frames := 4, cells := 0, slots := 0, locals := 93 } : Room) s m args below meth c 5 (dC, dI) A A Q 0 0 ([]) [] ([(o, .inr (4, [.int v_size, .ref o_sets, .int z_nextRock, .int z_leftAtMost, .ref o_tally])), (o_sets, .inl (cI, 64, .inl v_sets)), (o_tally, .inl (cI, 595, .inl z_tally)), (b1, .inr (6, [.ref b1_seen, .int v_a1_counts, .ref b1_countRocks, .ref b1_countWantings])), (b1_seen, .inl (cI, 6, .inl v_a1_seen)), (b2, .inr (8, [.int v_a2_there, .int v_a2_month, .int v_a2_lost, .ref b2_heads, .ref b2_sides, .ref b2_moods, .ref b2_moults])), (b2_heads, .inl (cI, 6, .inl v_a2_heads))]) 64 → qG p l e ({ frames := 4, cells := 0, slots := 0, locals := 93 } : Room) s m args below meth c 5 (dC, dI) A A Q 0 0 ([(0, .ref o), (1, .ref b1), (2, .ref b2), (3, .int x3)]) [] ([(o, .inr (4, [.int v_size, .ref o_sets, .int v_nextRock, .int v_leftAtMost, .ref o_tally])), (o_sets, .inl (cI, 64, .inl v_sets)), (o_tally, .inl (cI, 595, .inl v_tally)), (b1, .inr (6, [.ref b1_seen, .int v_a1_counts, .ref b1_countRocks, .ref b1_countWantings])), (b1_seen, .inl (cI, 6, .inl v_a1_seen)), (b2, .inr (8, [.int v_a2_there, .int v_a2_month, .int v_a2_lost, .ref b2_heads, .ref b2_sides, .ref b2_moods, .ref b2_moults])), (b2_heads, .inl (cI, 6, .inl v_a2_heads))]) 14 := by
    clear hF
    intro n
    induction n with
    | zero => intro x3 v_nextRock v_leftAtMost v_tally z_nextRock z_leftAtMost z_tally hF; exact (evr_0 hF).elim
    | succ n ih =>
      intro x3 v_nextRock v_leftAtMost v_tally z_nextRock z_leftAtMost z_tally hF hk
      obtain ⟨o9, hB, hn, hx⟩ := evr_c hF
      have hF : b_Guess_findNextRock_1 v_size v_sets v_a1_seen v_a2_there v_a2_heads x3 v_nextRock v_leftAtMost v_tally = some o9 := hB
      unfold b_Guess_findNextRock_1 at hF
      refine q_iload_n C dX4_findNextRock_14 3 rfl rfl ?_
      refine q_bipush (v := (6 : Int32)) C dX4_findNextRock_15 (by decide) ?_
      refine q_icmp_ge (tgt := 64) C dX4_findNextRock_17 (by decide) (fun c1 => ?_) (fun c1 => ?_)
      · have hF := ite_t hF c1
        cases hF
        have e2 := hx _ rfl
        cases e2
        refine q_lsel [] rfl ?_
        exact hk
      · have hF := ite_f hF c1
        refine q_aload_n C dX4_findNextRock_20 0 rfl rfl ?_
        refine q_iload_n C dX4_findNextRock_21 3 rfl rfl ?_
        refine q_aload_n C dX4_findNextRock_22 1 rfl rfl ?_
        refine q_aload_n C dX4_findNextRock_23 2 rfl rfl ?_
        obtain ⟨⟨r3, u3_tally⟩, hc4, hF⟩ := bind_c hF
        dsimp only at hF
        refine q_rwi hA ([(o, .inr (4, [.int v_size, .ref o_sets, .int v_nextRock, .int v_leftAtMost, .ref o_tally])), (o_sets, .inl (cI, 64, .inl v_sets)), (o_tally, .inl (cI, 595, .inl u3_tally)), (b1, .inr (6, [.ref b1_seen, .int v_a1_counts, .ref b1_countRocks, .ref b1_countWantings])), (b1_seen, .inl (cI, 6, .inl v_a1_seen)), (b2, .inr (8, [.int v_a2_there, .int v_a2_month, .int v_a2_lost, .ref b2_heads, .ref b2_sides, .ref b2_moods, .ref b2_moults])), (b2_heads, .inl (cI, 6, .inl v_a2_heads))]) [0, 1, 2, 3, 4, 5, 6] [] rfl rfl rfl (by decide) [0, 1, 2, 3, 4, 5, 6] rfl rfl (q_runV (As := [.int x3, .ref b1, .ref b2]) (rest := []) C (fun sz => c_X4_mostAlike l dC dI cI cZ cQ o o_sets o_tally b1 b1_seen b2 b2_heads b1_countRocks b1_countWantings b2_sides b2_moods b2_moults v_size v_sets v_tally v_a1_seen v_a2_there v_a2_heads v_nextRock v_leftAtMost v_a1_counts v_a2_month v_a2_lost x3 r3 u3_tally hc4 sz) (cwV 3 C.2.2.2.2.1 gX4_findNextRock_X4_mostAlike rfl rfl rfl (by decide +kernel) ⟨Nat.le_of_ble_eq_true rfl, Nat.le_of_ble_eq_true rfl⟩) 0 rfl rfl rfl [0, 1, 2, 3, 4, 5, 6] rfl rfl rfl rfl (Nat.le_of_ble_eq_true rfl) dX4_findNextRock_24 ⟨Nat.zero_le _, Nat.zero_le _⟩) ?_
        refine q_istore C ([(4, .int r3), (0, .ref o), (1, .ref b1), (2, .ref b2), (3, .int x3)]) dX4_findNextRock_27 (by decide) rfl ?_
        refine q_aload_n C dX4_findNextRock_29 1 rfl rfl ?_
        refine q_get (C0 := RX4) (T := TX4) (N := 5) (k0 := 2) C lk1 0 rfl rfl (by decide) lk0 rfl (v := .int v_nextRock) rfl dX4_findNextRock_30 ?_
        refine q_bipush (v := (-6 : Int32)) C dX4_findNextRock_33 (by decide) ?_
        refine q_icmp_eq (tgt := 47) C dX4_findNextRock_35 (by decide) (fun c5 => ?_) (fun c5 => ?_)
        · have hF := ite_t hF c5
          refine q_aload_n C dX4_findNextRock_47 1 rfl rfl ?_
          refine q_iload_n C dX4_findNextRock_48 4 rfl rfl ?_
          refine q_put (C0 := RX4) (T := TX4) (N := 5) (k0 := 2) C lk1 0 rfl rfl (by decide) lk0 rfl tyX4 tyX4_ok nmX4 rfl (v := .int x3) rfl rfl (Nat.le_of_ble_eq_true rfl) ([(o, .inr (4, [.int v_size, .ref o_sets, .int x3, .int v_leftAtMost, .ref o_tally])), (o_sets, .inl (cI, 64, .inl v_sets)), (o_tally, .inl (cI, 595, .inl u3_tally)), (b1, .inr (6, [.ref b1_seen, .int v_a1_counts, .ref b1_countRocks, .ref b1_countWantings])), (b1_seen, .inl (cI, 6, .inl v_a1_seen)), (b2, .inr (8, [.int v_a2_there, .int v_a2_month, .int v_a2_lost, .ref b2_heads, .ref b2_sides, .ref b2_moods, .ref b2_moults])), (b2_heads, .inl (cI, 6, .inl v_a2_heads))]) rfl dX4_findNextRock_49 ?_
          refine q_aload_n C dX4_findNextRock_52 1 rfl rfl ?_
          refine q_iload C dX4_findNextRock_53 0 rfl ?_
          refine q_put (C0 := RX4) (T := TX4) (N := 5) (k0 := 3) C lk1 0 rfl rfl (by decide) lk2 rfl tyX4 tyX4_ok nmX4 rfl (v := .int r3) rfl rfl (Nat.le_of_ble_eq_true rfl) ([(o, .inr (4, [.int v_size, .ref o_sets, .int x3, .int r3, .ref o_tally])), (o_sets, .inl (cI, 64, .inl v_sets)), (o_tally, .inl (cI, 595, .inl u3_tally)), (b1, .inr (6, [.ref b1_seen, .int v_a1_counts, .ref b1_countRocks, .ref b1_countWantings])), (b1_seen, .inl (cI, 6, .inl v_a1_seen)), (b2, .inr (8, [.int v_a2_there, .int v_a2_month, .int v_a2_lost, .ref b2_heads, .ref b2_sides, .ref b2_moods, .ref b2_moults])), (b2_heads, .inl (cI, 6, .inl v_a2_heads))]) rfl dX4_findNextRock_55 ?_
          refine q_iinc (v := (x3 + 1)) C ([(3, .int (x3 + 1)), (4, .int r3), (0, .ref o), (1, .ref b1), (2, .ref b2)]) dX4_findNextRock_58 4 rfl rfl (by decide) rfl ?_
          refine q_goto (tgt := 14) C dX4_findNextRock_61 (by decide) ?_
          cases hF
          refine q_lsel [2, 3, 4, 0] rfl ?_
          exact ih (x3 + 1) x3 r3 u3_tally z_nextRock z_leftAtMost z_tally (hn _ rfl) hk
        · have hF := ite_f hF c5
          refine q_iload C dX4_findNextRock_38 0 rfl ?_
          refine q_aload_n C dX4_findNextRock_40 1 rfl rfl ?_
          refine q_get (C0 := RX4) (T := TX4) (N := 5) (k0 := 3) C lk1 0 rfl rfl (by decide) lk2 rfl (v := .int v_leftAtMost) rfl dX4_findNextRock_41 ?_
          refine q_icmp_ge (tgt := 58) C dX4_findNextRock_44 (by decide) (fun c6 => ?_) (fun c6 => ?_)
          · have hF := ite_t hF c6
            refine q_iinc (v := (x3 + 1)) C ([(3, .int (x3 + 1)), (4, .int r3), (0, .ref o), (1, .ref b1), (2, .ref b2)]) dX4_findNextRock_58 4 rfl rfl (by decide) rfl ?_
            refine q_goto (tgt := 14) C dX4_findNextRock_61 (by decide) ?_
            cases hF
            refine q_lsel [2, 3, 4, 0] rfl ?_
            exact ih (x3 + 1) v_nextRock v_leftAtMost u3_tally z_nextRock z_leftAtMost z_tally (hn _ rfl) hk
          · have hF := ite_f hF c6
            refine q_aload_n C dX4_findNextRock_47 1 rfl rfl ?_
            refine q_iload_n C dX4_findNextRock_48 4 rfl rfl ?_
            refine q_put (C0 := RX4) (T := TX4) (N := 5) (k0 := 2) C lk1 0 rfl rfl (by decide) lk0 rfl tyX4 tyX4_ok nmX4 rfl (v := .int x3) rfl rfl (Nat.le_of_ble_eq_true rfl) ([(o, .inr (4, [.int v_size, .ref o_sets, .int x3, .int v_leftAtMost, .ref o_tally])), (o_sets, .inl (cI, 64, .inl v_sets)), (o_tally, .inl (cI, 595, .inl u3_tally)), (b1, .inr (6, [.ref b1_seen, .int v_a1_counts, .ref b1_countRocks, .ref b1_countWantings])), (b1_seen, .inl (cI, 6, .inl v_a1_seen)), (b2, .inr (8, [.int v_a2_there, .int v_a2_month, .int v_a2_lost, .ref b2_heads, .ref b2_sides, .ref b2_moods, .ref b2_moults])), (b2_heads, .inl (cI, 6, .inl v_a2_heads))]) rfl dX4_findNextRock_49 ?_
            refine q_aload_n C dX4_findNextRock_52 1 rfl rfl ?_
            refine q_iload C dX4_findNextRock_53 0 rfl ?_
            refine q_put (C0 := RX4) (T := TX4) (N := 5) (k0 := 3) C lk1 0 rfl rfl (by decide) lk2 rfl tyX4 tyX4_ok nmX4 rfl (v := .int r3) rfl rfl (Nat.le_of_ble_eq_true rfl) ([(o, .inr (4, [.int v_size, .ref o_sets, .int x3, .int r3, .ref o_tally])), (o_sets, .inl (cI, 64, .inl v_sets)), (o_tally, .inl (cI, 595, .inl u3_tally)), (b1, .inr (6, [.ref b1_seen, .int v_a1_counts, .ref b1_countRocks, .ref b1_countWantings])), (b1_seen, .inl (cI, 6, .inl v_a1_seen)), (b2, .inr (8, [.int v_a2_there, .int v_a2_month, .int v_a2_lost, .ref b2_heads, .ref b2_sides, .ref b2_moods, .ref b2_moults])), (b2_heads, .inl (cI, 6, .inl v_a2_heads))]) rfl dX4_findNextRock_55 ?_
            refine q_iinc (v := (x3 + 1)) C ([(3, .int (x3 + 1)), (4, .int r3), (0, .ref o), (1, .ref b1), (2, .ref b2)]) dX4_findNextRock_58 4 rfl rfl (by decide) rfl ?_
            refine q_goto (tgt := 14) C dX4_findNextRock_61 (by decide) ?_
            cases hF
            refine q_lsel [2, 3, 4, 0] rfl ?_
            exact ih (x3 + 1) x3 r3 u3_tally z_nextRock z_leftAtMost z_tally (hn _ rfl) hk
  unfold f_Guess_findNextRock at hF
  refine q_aload_n C dX4_findNextRock_0 0 rfl rfl ?_
  refine q_bipush (v := (-6 : Int32)) C dX4_findNextRock_1 (by decide) ?_
  refine q_put (C0 := RX4) (T := TX4) (N := 5) (k0 := 2) C lk1 0 rfl rfl (by decide) lk0 rfl tyX4 tyX4_ok nmX4 rfl (v := .int (-6 : Int32)) rfl rfl (Nat.le_of_ble_eq_true rfl) ([(o, .inr (4, [.int v_size, .ref o_sets, .int (-6 : Int32), .int v_leftAtMost, .ref o_tally])), (o_sets, .inl (cI, 64, .inl v_sets)), (o_tally, .inl (cI, 595, .inl v_tally)), (b1, .inr (6, [.ref b1_seen, .int v_a1_counts, .ref b1_countRocks, .ref b1_countWantings])), (b1_seen, .inl (cI, 6, .inl v_a1_seen)), (b2, .inr (8, [.int v_a2_there, .int v_a2_month, .int v_a2_lost, .ref b2_heads, .ref b2_sides, .ref b2_moods, .ref b2_moults])), (b2_heads, .inl (cI, 6, .inl v_a2_heads))]) rfl dX4_findNextRock_3 ?_
  refine q_aload_n C dX4_findNextRock_6 0 rfl rfl ?_
  refine q_bipush (v := (-6 : Int32)) C dX4_findNextRock_7 (by decide) ?_
  refine q_put (C0 := RX4) (T := TX4) (N := 5) (k0 := 3) C lk1 0 rfl rfl (by decide) lk2 rfl tyX4 tyX4_ok nmX4 rfl (v := .int (-6 : Int32)) rfl rfl (Nat.le_of_ble_eq_true rfl) ([(o, .inr (4, [.int v_size, .ref o_sets, .int (-6 : Int32), .int (-6 : Int32), .ref o_tally])), (o_sets, .inl (cI, 64, .inl v_sets)), (o_tally, .inl (cI, 595, .inl v_tally)), (b1, .inr (6, [.ref b1_seen, .int v_a1_counts, .ref b1_countRocks, .ref b1_countWantings])), (b1_seen, .inl (cI, 6, .inl v_a1_seen)), (b2, .inr (8, [.int v_a2_there, .int v_a2_month, .int v_a2_lost, .ref b2_heads, .ref b2_sides, .ref b2_moods, .ref b2_moults])), (b2_heads, .inl (cI, 6, .inl v_a2_heads))]) rfl dX4_findNextRock_9 ?_
  refine q_iconst (v := (0 : Int32)) C dX4_findNextRock_12 (by decide) ?_
  refine q_istore_n C ([(3, .int (0 : Int32)), (0, .ref o), (1, .ref b1), (2, .ref b2)]) dX4_findNextRock_13 rfl (by decide) rfl ?_
  obtain ⟨⟨z7_nextRock, z7_leftAtMost, z7_tally⟩, hc8, hF⟩ := bind_c hF
  dsimp only at hF
  obtain ⟨n9, hc8⟩ := (ev_iff _ _ _).mp hc8
  refine q_lsel [1, 2, 3, 0] rfl ?_
  refine L1 n9 (0 : Int32) (-6 : Int32) (-6 : Int32) v_tally z7_nextRock z7_leftAtMost z7_tally hc8 ?_
  cases hF
  exact q_wretv C hr dX4_findNextRock_64 hQ
set_option maxRecDepth 100000 in
set_option maxHeartbeats 4000000 in
theorem c_X6_copyFrom (l : Launch) (dC : Nat → ClassId) (dI : Nat → Nat → Nat) (cI cZ cQ : ClassId) (o o_seen o_countRocks o_countWantings b1 b1_seen b1_countRocks b1_countWantings : Nat) (v_seen : Nat → Int32) (v_counts : Int32) (v_countRocks : Nat → Int32) (v_countWantings : Nat → Int32) (v_a1_seen : Nat → Int32) (v_a1_counts : Int32) (v_a1_countRocks : Nat → Int32) (v_a1_countWantings : Nat → Int32) (w_seen : Nat → Int32) (w_counts : Int32) (w_countRocks : Nat → Int32) (w_countWantings : Nat → Int32) (hF : f_Lookout_copyFrom v_seen v_counts v_countRocks v_countWantings v_a1_seen v_a1_counts v_a1_countRocks v_a1_countWantings = some (w_seen, w_counts, w_countRocks, w_countWantings)) (sz : Nat) : Met l yX6_copyFrom wsX6_copyFrom ({ frames := 0, cells := 0, slots := 0, locals := 0 } : Room) (qPc ([.ref o, .ref b1]) (dC, dI) (qT cI cZ cQ) ([(o, .inr (6, [.ref o_seen, .int v_counts, .ref o_countRocks, .ref o_countWantings])), (o_seen, .inl (cI, 6, .inl v_seen)), (o_countRocks, .inl (cI, 8, .inl v_countRocks)), (o_countWantings, .inl (cI, 8, .inl v_countWantings)), (b1, .inr (6, [.ref b1_seen, .int v_a1_counts, .ref b1_countRocks, .ref b1_countWantings])), (b1_seen, .inl (cI, 6, .inl v_a1_seen)), (b1_countRocks, .inl (cI, 8, .inl v_a1_countRocks)), (b1_countWantings, .inl (cI, 8, .inl v_a1_countWantings))]) sz) (qWv (dC, dI) ([(o, .inr (6, [.ref o_seen, .int w_counts, .ref o_countRocks, .ref o_countWantings])), (o_seen, .inl (cI, 6, .inl w_seen)), (o_countRocks, .inl (cI, 8, .inl w_countRocks)), (o_countWantings, .inl (cI, 8, .inl w_countWantings)), (b1, .inr (6, [.ref b1_seen, .int v_a1_counts, .ref b1_countRocks, .ref b1_countWantings])), (b1_seen, .inl (cI, 6, .inl v_a1_seen)), (b1_countRocks, .inl (cI, 8, .inl v_a1_countRocks)), (b1_countWantings, .inl (cI, 8, .inl v_a1_countWantings))]) (va_A ([(o, .inr (6, [.ref o_seen, .int v_counts, .ref o_countRocks, .ref o_countWantings])), (o_seen, .inl (cI, 6, .inl v_seen)), (o_countRocks, .inl (cI, 8, .inl v_countRocks)), (o_countWantings, .inl (cI, 8, .inl v_countWantings)), (b1, .inr (6, [.ref b1_seen, .int v_a1_counts, .ref b1_countRocks, .ref b1_countWantings])), (b1_seen, .inl (cI, 6, .inl v_a1_seen)), (b1_countRocks, .inl (cI, 8, .inl v_a1_countRocks)), (b1_countWantings, .inl (cI, 8, .inl v_a1_countWantings))]) sz)) 0 0 (va_A ([(o, .inr (6, [.ref o_seen, .int v_counts, .ref o_countRocks, .ref o_countWantings])), (o_seen, .inl (cI, 6, .inl v_seen)), (o_countRocks, .inl (cI, 8, .inl v_countRocks)), (o_countWantings, .inl (cI, 8, .inl v_countWantings)), (b1, .inr (6, [.ref b1_seen, .int v_a1_counts, .ref b1_countRocks, .ref b1_countWantings])), (b1_seen, .inl (cI, 6, .inl v_a1_seen)), (b1_countRocks, .inl (cI, 8, .inl v_a1_countRocks)), (b1_countWantings, .inl (cI, 8, .inl v_a1_countWantings))]) sz) := by
  refine q_met_w (Qc := fun A => qWv (dC, dI) ([(o, .inr (6, [.ref o_seen, .int w_counts, .ref o_countRocks, .ref o_countWantings])), (o_seen, .inl (cI, 6, .inl w_seen)), (o_countRocks, .inl (cI, 8, .inl w_countRocks)), (o_countWantings, .inl (cI, 8, .inl w_countWantings)), (b1, .inr (6, [.ref b1_seen, .int v_a1_counts, .ref b1_countRocks, .ref b1_countWantings])), (b1_seen, .inl (cI, 6, .inl v_a1_seen)), (b1_countRocks, .inl (cI, 8, .inl v_a1_countRocks)), (b1_countWantings, .inl (cI, 8, .inl v_a1_countWantings))]) A) (cc := cX6_copyFrom) (own := RX6) (maxL := 3) (ret := none) (lv0 := [(0, .ref o), (1, .ref b1)]) (by decide) rfl rfl rfl (Nat.le_of_ble_eq_true rfl) ?_
  intro p e s m args below meth c A hA C hr hnm Q hQ
  have lk0 : Cond.fieldLink RX6 9 "SealStrait$Lookout" "seen" "[I" ∈ wsX6_copyFrom := by decide +kernel
  have lk1 : ∀ w ∈ u_ws RX6 TX6 4, w ∈ wsX6_copyFrom := fun w h => List.mem_cons_of_mem _ (List.mem_append_right _ h)
  have lk2 : Cond.fieldLink RX6 27 "SealStrait$Lookout" "counts" "I" ∈ wsX6_copyFrom := by decide +kernel
  have lk3 : Cond.fieldLink RX6 15 "SealStrait$Lookout" "countRocks" "[I" ∈ wsX6_copyFrom := by decide +kernel
  have lk4 : Cond.fieldLink RX6 18 "SealStrait$Lookout" "countWantings" "[I" ∈ wsX6_copyFrom := by decide +kernel
  have L1 : ∀ (n : Nat) (x2 : Int32) (v_seen : Nat → Int32) (v_counts : Int32) (v_countRocks : Nat → Int32) (v_countWantings : Nat → Int32) (z_seen : Nat → Int32), evr (fun s => b_Lookout_copyFrom_1 v_a1_seen s.1 s.2) n (x2, v_seen) = some z_seen → qG p l e ({ frames := 0, cells := 0, slots := 0, locals := 0 } : Room) s m args below meth c 3 (dC, dI) A A Q 0 0 ([(0, .ref o), (1, .ref b1)]) [] ([(o, .inr (6, [.ref o_seen, .int v_counts, .ref o_countRocks, .ref o_countWantings])), (o_seen, .inl (cI, 6, .inl z_seen)), (o_countRocks, .inl (cI, 8, .inl v_countRocks)), (o_countWantings, .inl (cI, 8, .inl v_countWantings)), (b1, .inr (6, [.ref b1_seen, .int v_a1_counts, .ref b1_countRocks, .ref b1_countWantings])), (b1_seen, .inl (cI, 6, .inl v_a1_seen)), (b1_countRocks, .inl (cI, 8, .inl v_a1_countRocks)), (b1_countWantings, .inl (cI, 8, .inl v_a1_countWantings))]) 26 → qG p l e ({ frames := 0, cells := 0, slots := 0, locals := 0 } : Room) s m args below meth c 3 (dC, dI) A A Q 0 0 ([(0, .ref o), (1, .ref b1), (2, .int x2)]) [] ([(o, .inr (6, [.ref o_seen, .int v_counts, .ref o_countRocks, .ref o_countWantings])), (o_seen, .inl (cI, 6, .inl v_seen)), (o_countRocks, .inl (cI, 8, .inl v_countRocks)), (o_countWantings, .inl (cI, 8, .inl v_countWantings)), (b1, .inr (6, [.ref b1_seen, .int v_a1_counts, .ref b1_countRocks, .ref b1_countWantings])), (b1_seen, .inl (cI, 6, .inl v_a1_seen)), (b1_countRocks, .inl (cI, 8, .inl v_a1_countRocks)), (b1_countWantings, .inl (cI, 8, .inl v_a1_countWantings))]) 2 := by
    clear hF
    intro n
    induction n with
    | zero => intro x2 v_seen v_counts v_countRocks v_countWantings z_seen hF; exact (evr_0 hF).elim
    | succ n ih =>
      intro x2 v_seen v_counts v_countRocks v_countWantings z_seen hF hk
      obtain ⟨o9, hB, hn, hx⟩ := evr_c hF
      have hF : b_Lookout_copyFrom_1 v_a1_seen x2 v_seen = some o9 := hB
      unfold b_Lookout_copyFrom_1 at hF
      refine q_iload_n C dX6_copyFrom_2 2 rfl rfl ?_
      refine q_bipush (v := (6 : Int32)) C dX6_copyFrom_3 (by decide) ?_
      refine q_icmp_ge (tgt := 26) C dX6_copyFrom_5 (by decide) (fun c1 => ?_) (fun c1 => ?_)
      · have hF := ite_t hF c1
        cases hF
        have e2 := hx _ rfl
        cases e2
        refine q_lsel [0, 1] rfl ?_
        exact hk
      · have hF := ite_f hF c1
        refine q_aload_n C dX6_copyFrom_8 0 rfl rfl ?_
        refine q_get (C0 := RX6) (T := TX6) (N := 4) (k0 := 0) C lk1 0 rfl rfl (by decide) lk0 rfl (v := .ref o_seen) rfl dX6_copyFrom_9 ?_
        refine q_iload_n C dX6_copyFrom_12 2 rfl rfl ?_
        refine q_aload_n C dX6_copyFrom_13 1 rfl rfl ?_
        refine q_get (C0 := RX6) (T := TX6) (N := 4) (k0 := 0) C lk1 4 rfl rfl (by decide) lk0 rfl (v := .ref b1_seen) rfl dX6_copyFrom_14 ?_
        refine q_iload_n C dX6_copyFrom_17 2 rfl rfl ?_
        obtain ⟨hc3, hF⟩ := ite_c hF
        refine q_iald C 5 0 rfl rfl (ix_in hc3) dX6_copyFrom_18 ?_
        obtain ⟨hc4, hF⟩ := ite_c hF
        refine q_iast C 1 0 rfl rfl (ix_in hc4) ([(o, .inr (6, [.ref o_seen, .int v_counts, .ref o_countRocks, .ref o_countWantings])), (o_seen, .inl (cI, 6, .inl (upd v_seen (x2).toNatClampNeg (v_a1_seen (x2).toNatClampNeg)))), (o_countRocks, .inl (cI, 8, .inl v_countRocks)), (o_countWantings, .inl (cI, 8, .inl v_countWantings)), (b1, .inr (6, [.ref b1_seen, .int v_a1_counts, .ref b1_countRocks, .ref b1_countWantings])), (b1_seen, .inl (cI, 6, .inl v_a1_seen)), (b1_countRocks, .inl (cI, 8, .inl v_a1_countRocks)), (b1_countWantings, .inl (cI, 8, .inl v_a1_countWantings))]) rfl dX6_copyFrom_19 ?_
        refine q_iinc (v := (x2 + 1)) C ([(2, .int (x2 + 1)), (0, .ref o), (1, .ref b1)]) dX6_copyFrom_20 2 rfl rfl (by decide) rfl ?_
        refine q_goto (tgt := 2) C dX6_copyFrom_23 (by decide) ?_
        cases hF
        refine q_lsel [1, 2, 0] rfl ?_
        exact ih (x2 + 1) (upd v_seen (x2).toNatClampNeg (v_a1_seen (x2).toNatClampNeg)) v_counts v_countRocks v_countWantings z_seen (hn _ rfl) hk
  have L2 : ∀ (n : Nat) (x2 : Int32) (v_seen : Nat → Int32) (v_counts : Int32) (v_countRocks : Nat → Int32) (v_countWantings : Nat → Int32) (z_countRocks : Nat → Int32) (z_countWantings : Nat → Int32), evr (fun s => b_Lookout_copyFrom_2 v_a1_countRocks v_a1_countWantings s.1 s.2.1 s.2.2) n (x2, v_countRocks, v_countWantings) = some (z_countRocks, z_countWantings) → qG p l e ({ frames := 0, cells := 0, slots := 0, locals := 0 } : Room) s m args below meth c 3 (dC, dI) A A Q 0 0 ([]) [] ([(o, .inr (6, [.ref o_seen, .int v_counts, .ref o_countRocks, .ref o_countWantings])), (o_seen, .inl (cI, 6, .inl v_seen)), (o_countRocks, .inl (cI, 8, .inl z_countRocks)), (o_countWantings, .inl (cI, 8, .inl z_countWantings)), (b1, .inr (6, [.ref b1_seen, .int v_a1_counts, .ref b1_countRocks, .ref b1_countWantings])), (b1_seen, .inl (cI, 6, .inl v_a1_seen)), (b1_countRocks, .inl (cI, 8, .inl v_a1_countRocks)), (b1_countWantings, .inl (cI, 8, .inl v_a1_countWantings))]) 72 → qG p l e ({ frames := 0, cells := 0, slots := 0, locals := 0 } : Room) s m args below meth c 3 (dC, dI) A A Q 0 0 ([(0, .ref o), (1, .ref b1), (2, .int x2)]) [] ([(o, .inr (6, [.ref o_seen, .int v_counts, .ref o_countRocks, .ref o_countWantings])), (o_seen, .inl (cI, 6, .inl v_seen)), (o_countRocks, .inl (cI, 8, .inl v_countRocks)), (o_countWantings, .inl (cI, 8, .inl v_countWantings)), (b1, .inr (6, [.ref b1_seen, .int v_a1_counts, .ref b1_countRocks, .ref b1_countWantings])), (b1_seen, .inl (cI, 6, .inl v_a1_seen)), (b1_countRocks, .inl (cI, 8, .inl v_a1_countRocks)), (b1_countWantings, .inl (cI, 8, .inl v_a1_countWantings))]) 36 := by
    clear hF
    intro n
    induction n with
    | zero => intro x2 v_seen v_counts v_countRocks v_countWantings z_countRocks z_countWantings hF; exact (evr_0 hF).elim
    | succ n ih =>
      intro x2 v_seen v_counts v_countRocks v_countWantings z_countRocks z_countWantings hF hk
      obtain ⟨o9, hB, hn, hx⟩ := evr_c hF
      have hF : b_Lookout_copyFrom_2 v_a1_countRocks v_a1_countWantings x2 v_countRocks v_countWantings = some o9 := hB
      unfold b_Lookout_copyFrom_2 at hF
      refine q_iload_n C dX6_copyFrom_36 2 rfl rfl ?_
      refine q_bipush (v := (8 : Int32)) C dX6_copyFrom_37 (by decide) ?_
      refine q_icmp_ge (tgt := 72) C dX6_copyFrom_39 (by decide) (fun c5 => ?_) (fun c5 => ?_)
      · have hF := ite_t hF c5
        cases hF
        have e6 := hx _ rfl
        cases e6
        refine q_lsel [] rfl ?_
        exact hk
      · have hF := ite_f hF c5
        refine q_aload_n C dX6_copyFrom_42 0 rfl rfl ?_
        refine q_get (C0 := RX6) (T := TX6) (N := 4) (k0 := 2) C lk1 0 rfl rfl (by decide) lk3 rfl (v := .ref o_countRocks) rfl dX6_copyFrom_43 ?_
        refine q_iload_n C dX6_copyFrom_46 2 rfl rfl ?_
        refine q_aload_n C dX6_copyFrom_47 1 rfl rfl ?_
        refine q_get (C0 := RX6) (T := TX6) (N := 4) (k0 := 2) C lk1 4 rfl rfl (by decide) lk3 rfl (v := .ref b1_countRocks) rfl dX6_copyFrom_48 ?_
        refine q_iload_n C dX6_copyFrom_51 2 rfl rfl ?_
        obtain ⟨hc7, hF⟩ := ite_c hF
        refine q_iald C 6 0 rfl rfl (ix_in hc7) dX6_copyFrom_52 ?_
        obtain ⟨hc8, hF⟩ := ite_c hF
        refine q_iast C 2 0 rfl rfl (ix_in hc8) ([(o, .inr (6, [.ref o_seen, .int v_counts, .ref o_countRocks, .ref o_countWantings])), (o_seen, .inl (cI, 6, .inl v_seen)), (o_countRocks, .inl (cI, 8, .inl (upd v_countRocks (x2).toNatClampNeg (v_a1_countRocks (x2).toNatClampNeg)))), (o_countWantings, .inl (cI, 8, .inl v_countWantings)), (b1, .inr (6, [.ref b1_seen, .int v_a1_counts, .ref b1_countRocks, .ref b1_countWantings])), (b1_seen, .inl (cI, 6, .inl v_a1_seen)), (b1_countRocks, .inl (cI, 8, .inl v_a1_countRocks)), (b1_countWantings, .inl (cI, 8, .inl v_a1_countWantings))]) rfl dX6_copyFrom_53 ?_
        refine q_aload_n C dX6_copyFrom_54 0 rfl rfl ?_
        refine q_get (C0 := RX6) (T := TX6) (N := 4) (k0 := 3) C lk1 0 rfl rfl (by decide) lk4 rfl (v := .ref o_countWantings) rfl dX6_copyFrom_55 ?_
        refine q_iload_n C dX6_copyFrom_58 2 rfl rfl ?_
        refine q_aload_n C dX6_copyFrom_59 1 rfl rfl ?_
        refine q_get (C0 := RX6) (T := TX6) (N := 4) (k0 := 3) C lk1 4 rfl rfl (by decide) lk4 rfl (v := .ref b1_countWantings) rfl dX6_copyFrom_60 ?_
        refine q_iload_n C dX6_copyFrom_63 2 rfl rfl ?_
        obtain ⟨hc9, hF⟩ := ite_c hF
        refine q_iald C 7 0 rfl rfl (ix_in hc9) dX6_copyFrom_64 ?_
        obtain ⟨hc10, hF⟩ := ite_c hF
        refine q_iast C 3 0 rfl rfl (ix_in hc10) ([(o, .inr (6, [.ref o_seen, .int v_counts, .ref o_countRocks, .ref o_countWantings])), (o_seen, .inl (cI, 6, .inl v_seen)), (o_countRocks, .inl (cI, 8, .inl (upd v_countRocks (x2).toNatClampNeg (v_a1_countRocks (x2).toNatClampNeg)))), (o_countWantings, .inl (cI, 8, .inl (upd v_countWantings (x2).toNatClampNeg (v_a1_countWantings (x2).toNatClampNeg)))), (b1, .inr (6, [.ref b1_seen, .int v_a1_counts, .ref b1_countRocks, .ref b1_countWantings])), (b1_seen, .inl (cI, 6, .inl v_a1_seen)), (b1_countRocks, .inl (cI, 8, .inl v_a1_countRocks)), (b1_countWantings, .inl (cI, 8, .inl v_a1_countWantings))]) rfl dX6_copyFrom_65 ?_
        refine q_iinc (v := (x2 + 1)) C ([(2, .int (x2 + 1)), (0, .ref o), (1, .ref b1)]) dX6_copyFrom_66 2 rfl rfl (by decide) rfl ?_
        refine q_goto (tgt := 36) C dX6_copyFrom_69 (by decide) ?_
        cases hF
        refine q_lsel [1, 2, 0] rfl ?_
        exact ih (x2 + 1) v_seen v_counts (upd v_countRocks (x2).toNatClampNeg (v_a1_countRocks (x2).toNatClampNeg)) (upd v_countWantings (x2).toNatClampNeg (v_a1_countWantings (x2).toNatClampNeg)) z_countRocks z_countWantings (hn _ rfl) hk
  unfold f_Lookout_copyFrom at hF
  refine q_iconst (v := (0 : Int32)) C dX6_copyFrom_0 (by decide) ?_
  refine q_istore_n C ([(2, .int (0 : Int32)), (0, .ref o), (1, .ref b1)]) dX6_copyFrom_1 rfl (by decide) rfl ?_
  obtain ⟨z11_seen, hc12, hF⟩ := bind_c hF
  obtain ⟨n13, hc12⟩ := (ev_iff _ _ _).mp hc12
  refine q_lsel [1, 2, 0] rfl ?_
  refine L1 n13 (0 : Int32) v_seen v_counts v_countRocks v_countWantings z11_seen hc12 ?_
  refine q_aload_n C dX6_copyFrom_26 0 rfl rfl ?_
  refine q_aload_n C dX6_copyFrom_27 1 rfl rfl ?_
  refine q_get (C0 := RX6) (T := TX6) (N := 4) (k0 := 1) C lk1 4 rfl rfl (by decide) lk2 rfl (v := .int v_a1_counts) rfl dX6_copyFrom_28 ?_
  refine q_put (C0 := RX6) (T := TX6) (N := 4) (k0 := 1) C lk1 0 rfl rfl (by decide) lk2 rfl tyX6 tyX6_ok nmX6 rfl (v := .int v_a1_counts) rfl rfl (Nat.le_of_ble_eq_true rfl) ([(o, .inr (6, [.ref o_seen, .int v_a1_counts, .ref o_countRocks, .ref o_countWantings])), (o_seen, .inl (cI, 6, .inl z11_seen)), (o_countRocks, .inl (cI, 8, .inl v_countRocks)), (o_countWantings, .inl (cI, 8, .inl v_countWantings)), (b1, .inr (6, [.ref b1_seen, .int v_a1_counts, .ref b1_countRocks, .ref b1_countWantings])), (b1_seen, .inl (cI, 6, .inl v_a1_seen)), (b1_countRocks, .inl (cI, 8, .inl v_a1_countRocks)), (b1_countWantings, .inl (cI, 8, .inl v_a1_countWantings))]) rfl dX6_copyFrom_31 ?_
  refine q_iconst (v := (0 : Int32)) C dX6_copyFrom_34 (by decide) ?_
  refine q_istore_n C ([(2, .int (0 : Int32)), (0, .ref o), (1, .ref b1)]) dX6_copyFrom_35 rfl (by decide) rfl ?_
  obtain ⟨⟨z14_countRocks, z14_countWantings⟩, hc15, hF⟩ := bind_c hF
  dsimp only at hF
  obtain ⟨n16, hc15⟩ := (ev_iff _ _ _).mp hc15
  refine q_lsel [1, 2, 0] rfl ?_
  refine L2 n16 (0 : Int32) z11_seen v_a1_counts v_countRocks v_countWantings z14_countRocks z14_countWantings hc15 ?_
  cases hF
  exact q_wretv C hr dX6_copyFrom_72 hQ
set_option maxRecDepth 100000 in
set_option maxHeartbeats 4000000 in
theorem c_X6_addCount (l : Launch) (dC : Nat → ClassId) (dI : Nat → Nat → Nat) (cI cZ cQ : ClassId) (o o_countRocks o_countWantings o_seen : Nat) (v_counts : Int32) (v_countRocks : Nat → Int32) (v_countWantings : Nat → Int32) (p1 : Int32) (p2 : Int32) (R : Int32) (w_counts : Int32) (w_countRocks : Nat → Int32) (w_countWantings : Nat → Int32) (hF : f_Lookout_addCount v_counts v_countRocks v_countWantings p1 p2 = some (R, w_counts, w_countRocks, w_countWantings)) (sz : Nat) : Met l yX6_addCount wsX6_addCount ({ frames := 0, cells := 0, slots := 0, locals := 0 } : Room) (qPc ([.ref o, .int p1, .int p2]) (dC, dI) (qT cI cZ cQ) ([(o, .inr (6, [.ref o_seen, .int v_counts, .ref o_countRocks, .ref o_countWantings])), (o_countRocks, .inl (cI, 8, .inl v_countRocks)), (o_countWantings, .inl (cI, 8, .inl v_countWantings))]) sz) (qWz R (dC, dI) ([(o, .inr (6, [.ref o_seen, .int w_counts, .ref o_countRocks, .ref o_countWantings])), (o_countRocks, .inl (cI, 8, .inl w_countRocks)), (o_countWantings, .inl (cI, 8, .inl w_countWantings))]) (va_A ([(o, .inr (6, [.ref o_seen, .int v_counts, .ref o_countRocks, .ref o_countWantings])), (o_countRocks, .inl (cI, 8, .inl v_countRocks)), (o_countWantings, .inl (cI, 8, .inl v_countWantings))]) sz)) 0 0 (va_A ([(o, .inr (6, [.ref o_seen, .int v_counts, .ref o_countRocks, .ref o_countWantings])), (o_countRocks, .inl (cI, 8, .inl v_countRocks)), (o_countWantings, .inl (cI, 8, .inl v_countWantings))]) sz) := by
  refine q_met_w (Qc := fun A => qWz R (dC, dI) ([(o, .inr (6, [.ref o_seen, .int w_counts, .ref o_countRocks, .ref o_countWantings])), (o_countRocks, .inl (cI, 8, .inl w_countRocks)), (o_countWantings, .inl (cI, 8, .inl w_countWantings))]) A) (cc := cX6_addCount) (own := RX6) (maxL := 3) (ret := (some .boolean)) (lv0 := [(0, .ref o), (1, .int p1), (2, .int p2)]) (by decide) rfl rfl rfl (Nat.le_of_ble_eq_true rfl) ?_
  intro p e s m args below meth c A hA C hr hnm Q hQ
  have lk0 : Cond.fieldLink RX6 27 "SealStrait$Lookout" "counts" "I" ∈ wsX6_addCount := by decide +kernel
  have lk1 : ∀ w ∈ u_ws RX6 TX6 4, w ∈ wsX6_addCount := fun w h => List.mem_cons_of_mem _ (List.mem_append_right _ h)
  have lk2 : Cond.fieldLink RX6 15 "SealStrait$Lookout" "countRocks" "[I" ∈ wsX6_addCount := by decide +kernel
  have lk3 : Cond.fieldLink RX6 18 "SealStrait$Lookout" "countWantings" "[I" ∈ wsX6_addCount := by decide +kernel
  unfold f_Lookout_addCount at hF
  refine q_aload_n C dX6_addCount_0 0 rfl rfl ?_
  refine q_get (C0 := RX6) (T := TX6) (N := 4) (k0 := 1) C lk1 0 rfl rfl (by decide) lk0 rfl (v := .int v_counts) rfl dX6_addCount_1 ?_
  refine q_bipush (v := (8 : Int32)) C dX6_addCount_4 (by decide) ?_
  refine q_icmp_lt (tgt := 11) C dX6_addCount_6 (by decide) (fun c1 => ?_) (fun c1 => ?_)
  · have hF := ite_t hF c1
    refine q_aload_n C dX6_addCount_11 0 rfl rfl ?_
    refine q_get (C0 := RX6) (T := TX6) (N := 4) (k0 := 2) C lk1 0 rfl rfl (by decide) lk2 rfl (v := .ref o_countRocks) rfl dX6_addCount_12 ?_
    refine q_aload_n C dX6_addCount_15 0 rfl rfl ?_
    refine q_get (C0 := RX6) (T := TX6) (N := 4) (k0 := 1) C lk1 0 rfl rfl (by decide) lk0 rfl (v := .int v_counts) rfl dX6_addCount_16 ?_
    refine q_iload_n C dX6_addCount_19 1 rfl rfl ?_
    obtain ⟨hc2, hF⟩ := ite_c hF
    refine q_iast C 1 0 rfl rfl (ix_in hc2) ([(o, .inr (6, [.ref o_seen, .int v_counts, .ref o_countRocks, .ref o_countWantings])), (o_countRocks, .inl (cI, 8, .inl (upd v_countRocks (v_counts).toNatClampNeg p1))), (o_countWantings, .inl (cI, 8, .inl v_countWantings))]) rfl dX6_addCount_20 ?_
    refine q_aload_n C dX6_addCount_21 0 rfl rfl ?_
    refine q_get (C0 := RX6) (T := TX6) (N := 4) (k0 := 3) C lk1 0 rfl rfl (by decide) lk3 rfl (v := .ref o_countWantings) rfl dX6_addCount_22 ?_
    refine q_aload_n C dX6_addCount_25 0 rfl rfl ?_
    refine q_get (C0 := RX6) (T := TX6) (N := 4) (k0 := 1) C lk1 0 rfl rfl (by decide) lk0 rfl (v := .int v_counts) rfl dX6_addCount_26 ?_
    refine q_iload_n C dX6_addCount_29 2 rfl rfl ?_
    obtain ⟨hc3, hF⟩ := ite_c hF
    refine q_iast C 2 0 rfl rfl (ix_in hc3) ([(o, .inr (6, [.ref o_seen, .int v_counts, .ref o_countRocks, .ref o_countWantings])), (o_countRocks, .inl (cI, 8, .inl (upd v_countRocks (v_counts).toNatClampNeg p1))), (o_countWantings, .inl (cI, 8, .inl (upd v_countWantings (v_counts).toNatClampNeg p2)))]) rfl dX6_addCount_30 ?_
    refine q_aload_n C dX6_addCount_31 0 rfl rfl ?_
    refine q_dup C dX6_addCount_32 rfl ?_
    refine q_get (C0 := RX6) (T := TX6) (N := 4) (k0 := 1) C lk1 0 rfl rfl (by decide) lk0 rfl (v := .int v_counts) rfl dX6_addCount_33 ?_
    refine q_iconst (v := (1 : Int32)) C dX6_addCount_36 (by decide) ?_
    refine q_iadd C dX6_addCount_37 ?_
    refine q_put (C0 := RX6) (T := TX6) (N := 4) (k0 := 1) C lk1 0 rfl rfl (by decide) lk0 rfl tyX6 tyX6_ok nmX6 rfl (v := .int (v_counts + (1 : Int32))) rfl rfl (Nat.le_of_ble_eq_true rfl) ([(o, .inr (6, [.ref o_seen, .int (v_counts + (1 : Int32)), .ref o_countRocks, .ref o_countWantings])), (o_countRocks, .inl (cI, 8, .inl (upd v_countRocks (v_counts).toNatClampNeg p1))), (o_countWantings, .inl (cI, 8, .inl (upd v_countWantings (v_counts).toNatClampNeg p2)))]) rfl dX6_addCount_38 ?_
    refine q_iconst (v := (1 : Int32)) C dX6_addCount_41 (by decide) ?_
    cases hF
    exact q_wretz C hr (Or.inr rfl) dX6_addCount_42 hQ
  · have hF := ite_f hF c1
    refine q_iconst (v := (0 : Int32)) C dX6_addCount_9 (by decide) ?_
    cases hF
    exact q_wretz C hr (Or.inl rfl) dX6_addCount_10 hQ
set_option maxRecDepth 100000 in
set_option maxHeartbeats 4000000 in
theorem c_X10_begin (l : Launch) (dC : Nat → ClassId) (dI : Nat → Nat → Nat) (cI cZ cQ : ClassId) (o o_sea o_sea_heads o_sea_sides o_sea_moods o_sea_moults b1 b1_signs b2 b2_heads b2_sides b2_moods b2_moults o_act : Nat) (v_sea_there : Int32) (v_sea_month : Int32) (v_sea_lost : Int32) (v_sea_heads : Nat → Int32) (v_sea_sides : Nat → Int32) (v_sea_moods : Nat → Int32) (v_sea_moults : Nat → Int32) (v_isFaulty : Int32) (v_acts : Int32) (v_why : Int32) (v_readings : Int32) (v_signedAll : Int32) (v_a1_signs : Nat → Int32) (v_a1_size : Int32) (v_a2_there : Int32) (v_a2_month : Int32) (v_a2_lost : Int32) (v_a2_heads : Nat → Int32) (v_a2_sides : Nat → Int32) (v_a2_moods : Nat → Int32) (v_a2_moults : Nat → Int32) (w_sea_there : Int32) (w_sea_month : Int32) (w_sea_lost : Int32) (w_sea_heads : Nat → Int32) (w_sea_sides : Nat → Int32) (w_sea_moods : Nat → Int32) (w_sea_moults : Nat → Int32) (w_isFaulty : Int32) (w_acts : Int32) (w_why : Int32) (w_readings : Int32) (w_signedAll : Int32) (hF : f_Trial_begin v_sea_there v_sea_month v_sea_lost v_sea_heads v_sea_sides v_sea_moods v_sea_moults v_isFaulty v_acts v_why v_readings v_signedAll v_a1_signs v_a1_size v_a2_there v_a2_month v_a2_lost v_a2_heads v_a2_sides v_a2_moods v_a2_moults = some (w_sea_there, w_sea_month, w_sea_lost, w_sea_heads, w_sea_sides, w_sea_moods, w_sea_moults, w_isFaulty, w_acts, w_why, w_readings, w_signedAll)) (sz : Nat) : Met l yX10_begin wsX10_begin ({ frames := 4, cells := 0, slots := 0, locals := 85 } : Room) (qPc ([.ref o, .ref b1, .ref b2]) (dC, dI) (qT cI cZ cQ) ([(o, .inr (10, [.ref o_sea, .ref o_act, .int v_isFaulty, .int v_acts, .int v_why, .int v_readings, .int v_signedAll])), (o_sea, .inr (8, [.int v_sea_there, .int v_sea_month, .int v_sea_lost, .ref o_sea_heads, .ref o_sea_sides, .ref o_sea_moods, .ref o_sea_moults])), (o_sea_heads, .inl (cI, 6, .inl v_sea_heads)), (o_sea_sides, .inl (cI, 6, .inl v_sea_sides)), (o_sea_moods, .inl (cI, 6, .inl v_sea_moods)), (o_sea_moults, .inl (cI, 6, .inl v_sea_moults)), (b1, .inr (7, [.ref b1_signs, .int v_a1_size])), (b1_signs, .inl (cI, 60, .inl v_a1_signs)), (b2, .inr (8, [.int v_a2_there, .int v_a2_month, .int v_a2_lost, .ref b2_heads, .ref b2_sides, .ref b2_moods, .ref b2_moults])), (b2_heads, .inl (cI, 6, .inl v_a2_heads)), (b2_sides, .inl (cI, 6, .inl v_a2_sides)), (b2_moods, .inl (cI, 6, .inl v_a2_moods)), (b2_moults, .inl (cI, 6, .inl v_a2_moults))]) sz) (qWv (dC, dI) ([(o, .inr (10, [.ref o_sea, .ref o_act, .int w_isFaulty, .int w_acts, .int w_why, .int w_readings, .int w_signedAll])), (o_sea, .inr (8, [.int w_sea_there, .int w_sea_month, .int w_sea_lost, .ref o_sea_heads, .ref o_sea_sides, .ref o_sea_moods, .ref o_sea_moults])), (o_sea_heads, .inl (cI, 6, .inl w_sea_heads)), (o_sea_sides, .inl (cI, 6, .inl w_sea_sides)), (o_sea_moods, .inl (cI, 6, .inl w_sea_moods)), (o_sea_moults, .inl (cI, 6, .inl w_sea_moults)), (b1, .inr (7, [.ref b1_signs, .int v_a1_size])), (b1_signs, .inl (cI, 60, .inl v_a1_signs)), (b2, .inr (8, [.int v_a2_there, .int v_a2_month, .int v_a2_lost, .ref b2_heads, .ref b2_sides, .ref b2_moods, .ref b2_moults])), (b2_heads, .inl (cI, 6, .inl v_a2_heads)), (b2_sides, .inl (cI, 6, .inl v_a2_sides)), (b2_moods, .inl (cI, 6, .inl v_a2_moods)), (b2_moults, .inl (cI, 6, .inl v_a2_moults))]) (va_A ([(o, .inr (10, [.ref o_sea, .ref o_act, .int v_isFaulty, .int v_acts, .int v_why, .int v_readings, .int v_signedAll])), (o_sea, .inr (8, [.int v_sea_there, .int v_sea_month, .int v_sea_lost, .ref o_sea_heads, .ref o_sea_sides, .ref o_sea_moods, .ref o_sea_moults])), (o_sea_heads, .inl (cI, 6, .inl v_sea_heads)), (o_sea_sides, .inl (cI, 6, .inl v_sea_sides)), (o_sea_moods, .inl (cI, 6, .inl v_sea_moods)), (o_sea_moults, .inl (cI, 6, .inl v_sea_moults)), (b1, .inr (7, [.ref b1_signs, .int v_a1_size])), (b1_signs, .inl (cI, 60, .inl v_a1_signs)), (b2, .inr (8, [.int v_a2_there, .int v_a2_month, .int v_a2_lost, .ref b2_heads, .ref b2_sides, .ref b2_moods, .ref b2_moults])), (b2_heads, .inl (cI, 6, .inl v_a2_heads)), (b2_sides, .inl (cI, 6, .inl v_a2_sides)), (b2_moods, .inl (cI, 6, .inl v_a2_moods)), (b2_moults, .inl (cI, 6, .inl v_a2_moults))]) sz)) 0 0 (va_A ([(o, .inr (10, [.ref o_sea, .ref o_act, .int v_isFaulty, .int v_acts, .int v_why, .int v_readings, .int v_signedAll])), (o_sea, .inr (8, [.int v_sea_there, .int v_sea_month, .int v_sea_lost, .ref o_sea_heads, .ref o_sea_sides, .ref o_sea_moods, .ref o_sea_moults])), (o_sea_heads, .inl (cI, 6, .inl v_sea_heads)), (o_sea_sides, .inl (cI, 6, .inl v_sea_sides)), (o_sea_moods, .inl (cI, 6, .inl v_sea_moods)), (o_sea_moults, .inl (cI, 6, .inl v_sea_moults)), (b1, .inr (7, [.ref b1_signs, .int v_a1_size])), (b1_signs, .inl (cI, 60, .inl v_a1_signs)), (b2, .inr (8, [.int v_a2_there, .int v_a2_month, .int v_a2_lost, .ref b2_heads, .ref b2_sides, .ref b2_moods, .ref b2_moults])), (b2_heads, .inl (cI, 6, .inl v_a2_heads)), (b2_sides, .inl (cI, 6, .inl v_a2_sides)), (b2_moods, .inl (cI, 6, .inl v_a2_moods)), (b2_moults, .inl (cI, 6, .inl v_a2_moults))]) sz) := by
  refine q_met_w (Qc := fun A => qWv (dC, dI) ([(o, .inr (10, [.ref o_sea, .ref o_act, .int w_isFaulty, .int w_acts, .int w_why, .int w_readings, .int w_signedAll])), (o_sea, .inr (8, [.int w_sea_there, .int w_sea_month, .int w_sea_lost, .ref o_sea_heads, .ref o_sea_sides, .ref o_sea_moods, .ref o_sea_moults])), (o_sea_heads, .inl (cI, 6, .inl w_sea_heads)), (o_sea_sides, .inl (cI, 6, .inl w_sea_sides)), (o_sea_moods, .inl (cI, 6, .inl w_sea_moods)), (o_sea_moults, .inl (cI, 6, .inl w_sea_moults)), (b1, .inr (7, [.ref b1_signs, .int v_a1_size])), (b1_signs, .inl (cI, 60, .inl v_a1_signs)), (b2, .inr (8, [.int v_a2_there, .int v_a2_month, .int v_a2_lost, .ref b2_heads, .ref b2_sides, .ref b2_moods, .ref b2_moults])), (b2_heads, .inl (cI, 6, .inl v_a2_heads)), (b2_sides, .inl (cI, 6, .inl v_a2_sides)), (b2_moods, .inl (cI, 6, .inl v_a2_moods)), (b2_moults, .inl (cI, 6, .inl v_a2_moults))]) A) (cc := cX10_begin) (own := RX10) (maxL := 3) (ret := none) (lv0 := [(0, .ref o), (1, .ref b1), (2, .ref b2)]) (by decide) rfl rfl rfl (Nat.le_of_ble_eq_true rfl) ?_
  intro p e s m args below meth c A hA C hr hnm Q hQ
  have lk0 : Cond.fieldLink RX10 12 "SealStrait$Trial" "sea" "LSealStrait$Sea;" ∈ wsX10_begin := by decide +kernel
  have lk1 : ∀ w ∈ u_ws RX10 TX10 7, w ∈ wsX10_begin := fun w h => List.mem_cons_of_mem _ (List.mem_append_left _ (List.mem_append_left _ (List.mem_append_right _ h)))
  have lk2 : Cond.fieldLink RX10 35 "SealStrait$Trial" "isFaulty" "Z" ∈ wsX10_begin := by decide +kernel
  have lk3 : Cond.fieldLink RX10 58 "SealStrait$Trial" "acts" "I" ∈ wsX10_begin := by decide +kernel
  have lk4 : Cond.fieldLink RX10 47 "SealStrait$Trial" "why" "I" ∈ wsX10_begin := by decide +kernel
  have lk5 : Cond.fieldLink RX10 69 "SealStrait$Trial" "readings" "I" ∈ wsX10_begin := by decide +kernel
  have lk6 : Cond.fieldLink RX10 72 "SealStrait$Sea" "there" "I" ∈ wsX10_begin := by decide +kernel
  have lk7 : ∀ w ∈ u_ws RX8 TX8 7, w ∈ wsX10_begin := fun w h => List.mem_cons_of_mem _ (List.mem_append_left _ (List.mem_append_right _ h))
  have lk8 : Cond.fieldLink RX10 75 "SealStrait$Trial" "signedAll" "I" ∈ wsX10_begin := by decide +kernel
  unfold f_Trial_begin at hF
  refine q_aload_n C dX10_begin_0 0 rfl rfl ?_
  refine q_get (C0 := RX10) (T := TX10) (N := 7) (k0 := 0) C lk1 0 rfl rfl (by decide) lk0 rfl (v := .ref o_sea) rfl dX10_begin_1 ?_
  refine q_aload_n C dX10_begin_4 2 rfl rfl ?_
  obtain ⟨⟨u1_there, u1_month, u1_lost, u1_heads, u1_sides, u1_moods, u1_moults⟩, hc2, hF⟩ := bind_c hF
  dsimp only at hF
  refine q_rwv hA ([(o, .inr (10, [.ref o_sea, .ref o_act, .int v_isFaulty, .int v_acts, .int v_why, .int v_readings, .int v_signedAll])), (o_sea, .inr (8, [.int u1_there, .int u1_month, .int u1_lost, .ref o_sea_heads, .ref o_sea_sides, .ref o_sea_moods, .ref o_sea_moults])), (o_sea_heads, .inl (cI, 6, .inl u1_heads)), (o_sea_sides, .inl (cI, 6, .inl u1_sides)), (o_sea_moods, .inl (cI, 6, .inl u1_moods)), (o_sea_moults, .inl (cI, 6, .inl u1_moults)), (b1, .inr (7, [.ref b1_signs, .int v_a1_size])), (b1_signs, .inl (cI, 60, .inl v_a1_signs)), (b2, .inr (8, [.int v_a2_there, .int v_a2_month, .int v_a2_lost, .ref b2_heads, .ref b2_sides, .ref b2_moods, .ref b2_moults])), (b2_heads, .inl (cI, 6, .inl v_a2_heads)), (b2_sides, .inl (cI, 6, .inl v_a2_sides)), (b2_moods, .inl (cI, 6, .inl v_a2_moods)), (b2_moults, .inl (cI, 6, .inl v_a2_moults))]) [1, 2, 3, 4, 5, 8, 9, 10, 11, 12] [0, 6, 7] rfl rfl rfl (by decide) [0, 3, 4, 5, 6, 7, 1, 2, 8, 9, 10, 11, 12] rfl rfl (q_runV (As := [.ref b2]) (rest := []) C (fun sz => c_X8_copyFrom l dC dI cI cZ cQ o_sea o_sea_heads o_sea_sides o_sea_moods o_sea_moults b2 b2_heads b2_sides b2_moods b2_moults v_sea_there v_sea_month v_sea_lost v_sea_heads v_sea_sides v_sea_moods v_sea_moults v_a2_there v_a2_month v_a2_lost v_a2_heads v_a2_sides v_a2_moods v_a2_moults u1_there u1_month u1_lost u1_heads u1_sides u1_moods u1_moults hc2 sz) (cwV 1 C.2.2.2.2.1 gX10_begin_X8_copyFrom rfl rfl rfl (by decide +kernel) ⟨Nat.le_of_ble_eq_true rfl, Nat.le_of_ble_eq_true rfl⟩) 1 rfl rfl rfl [1, 2, 3, 4, 5, 8, 9, 10, 11, 12] rfl rfl rfl rfl (Nat.le_of_ble_eq_true rfl) dX10_begin_5 ⟨Nat.zero_le _, Nat.zero_le _⟩) ?_
  refine q_aload_n C dX10_begin_8 0 rfl rfl ?_
  refine q_aload_n C dX10_begin_9 1 rfl rfl ?_
  obtain ⟨r3, hc4, hF⟩ := bind_c hF
  refine q_roi (q_runV (As := []) (rest := [.ref o]) C (fun sz => c_X7_faultPlace l dC dI cI cZ cQ b1 b1_signs v_a1_signs v_a1_size r3 hc4 sz) (cwV 0 C.2.2.2.2.1 gX10_begin_X7_faultPlace rfl rfl rfl (by decide +kernel) ⟨Nat.le_of_ble_eq_true rfl, Nat.le_of_ble_eq_true rfl⟩) 6 rfl rfl rfl [6, 7] rfl rfl rfl rfl (Nat.le_of_ble_eq_true rfl) dX10_begin_10 ⟨Nat.zero_le _, Nat.zero_le _⟩) ?_
  refine q_bipush (v := (-6 : Int32)) C dX10_begin_13 (by decide) ?_
  refine q_icmp_eq (tgt := 22) C dX10_begin_15 (by decide) (fun c5 => ?_) (fun c5 => ?_)
  · have hF := ite_t hF c5
    refine q_iconst (v := (0 : Int32)) C dX10_begin_22 (by decide) ?_
    refine q_put (C0 := RX10) (T := TX10) (N := 7) (k0 := 2) C lk1 0 rfl rfl (by decide) lk2 rfl tyX10 tyX10_ok nmX10 rfl (v := .int (0 : Int32)) (q_nb (Or.inl rfl)) (q_fb (Or.inl rfl)) (Nat.le_of_ble_eq_true rfl) ([(o, .inr (10, [.ref o_sea, .ref o_act, .int (0 : Int32), .int v_acts, .int v_why, .int v_readings, .int v_signedAll])), (o_sea, .inr (8, [.int u1_there, .int u1_month, .int u1_lost, .ref o_sea_heads, .ref o_sea_sides, .ref o_sea_moods, .ref o_sea_moults])), (o_sea_heads, .inl (cI, 6, .inl u1_heads)), (o_sea_sides, .inl (cI, 6, .inl u1_sides)), (o_sea_moods, .inl (cI, 6, .inl u1_moods)), (o_sea_moults, .inl (cI, 6, .inl u1_moults)), (b1, .inr (7, [.ref b1_signs, .int v_a1_size])), (b1_signs, .inl (cI, 60, .inl v_a1_signs)), (b2, .inr (8, [.int v_a2_there, .int v_a2_month, .int v_a2_lost, .ref b2_heads, .ref b2_sides, .ref b2_moods, .ref b2_moults])), (b2_heads, .inl (cI, 6, .inl v_a2_heads)), (b2_sides, .inl (cI, 6, .inl v_a2_sides)), (b2_moods, .inl (cI, 6, .inl v_a2_moods)), (b2_moults, .inl (cI, 6, .inl v_a2_moults))]) rfl dX10_begin_23 ?_
    refine q_aload_n C dX10_begin_26 0 rfl rfl ?_
    refine q_iconst (v := (0 : Int32)) C dX10_begin_27 (by decide) ?_
    refine q_put (C0 := RX10) (T := TX10) (N := 7) (k0 := 3) C lk1 0 rfl rfl (by decide) lk3 rfl tyX10 tyX10_ok nmX10 rfl (v := .int (0 : Int32)) rfl rfl (Nat.le_of_ble_eq_true rfl) ([(o, .inr (10, [.ref o_sea, .ref o_act, .int (0 : Int32), .int (0 : Int32), .int v_why, .int v_readings, .int v_signedAll])), (o_sea, .inr (8, [.int u1_there, .int u1_month, .int u1_lost, .ref o_sea_heads, .ref o_sea_sides, .ref o_sea_moods, .ref o_sea_moults])), (o_sea_heads, .inl (cI, 6, .inl u1_heads)), (o_sea_sides, .inl (cI, 6, .inl u1_sides)), (o_sea_moods, .inl (cI, 6, .inl u1_moods)), (o_sea_moults, .inl (cI, 6, .inl u1_moults)), (b1, .inr (7, [.ref b1_signs, .int v_a1_size])), (b1_signs, .inl (cI, 60, .inl v_a1_signs)), (b2, .inr (8, [.int v_a2_there, .int v_a2_month, .int v_a2_lost, .ref b2_heads, .ref b2_sides, .ref b2_moods, .ref b2_moults])), (b2_heads, .inl (cI, 6, .inl v_a2_heads)), (b2_sides, .inl (cI, 6, .inl v_a2_sides)), (b2_moods, .inl (cI, 6, .inl v_a2_moods)), (b2_moults, .inl (cI, 6, .inl v_a2_moults))]) rfl dX10_begin_28 ?_
    refine q_aload_n C dX10_begin_31 0 rfl rfl ?_
    refine q_iconst (v := (0 : Int32)) C dX10_begin_32 (by decide) ?_
    refine q_put (C0 := RX10) (T := TX10) (N := 7) (k0 := 4) C lk1 0 rfl rfl (by decide) lk4 rfl tyX10 tyX10_ok nmX10 rfl (v := .int (0 : Int32)) rfl rfl (Nat.le_of_ble_eq_true rfl) ([(o, .inr (10, [.ref o_sea, .ref o_act, .int (0 : Int32), .int (0 : Int32), .int (0 : Int32), .int v_readings, .int v_signedAll])), (o_sea, .inr (8, [.int u1_there, .int u1_month, .int u1_lost, .ref o_sea_heads, .ref o_sea_sides, .ref o_sea_moods, .ref o_sea_moults])), (o_sea_heads, .inl (cI, 6, .inl u1_heads)), (o_sea_sides, .inl (cI, 6, .inl u1_sides)), (o_sea_moods, .inl (cI, 6, .inl u1_moods)), (o_sea_moults, .inl (cI, 6, .inl u1_moults)), (b1, .inr (7, [.ref b1_signs, .int v_a1_size])), (b1_signs, .inl (cI, 60, .inl v_a1_signs)), (b2, .inr (8, [.int v_a2_there, .int v_a2_month, .int v_a2_lost, .ref b2_heads, .ref b2_sides, .ref b2_moods, .ref b2_moults])), (b2_heads, .inl (cI, 6, .inl v_a2_heads)), (b2_sides, .inl (cI, 6, .inl v_a2_sides)), (b2_moods, .inl (cI, 6, .inl v_a2_moods)), (b2_moults, .inl (cI, 6, .inl v_a2_moults))]) rfl dX10_begin_33 ?_
    refine q_aload_n C dX10_begin_36 0 rfl rfl ?_
    refine q_iconst (v := (0 : Int32)) C dX10_begin_37 (by decide) ?_
    refine q_put (C0 := RX10) (T := TX10) (N := 7) (k0 := 5) C lk1 0 rfl rfl (by decide) lk5 rfl tyX10 tyX10_ok nmX10 rfl (v := .int (0 : Int32)) rfl rfl (Nat.le_of_ble_eq_true rfl) ([(o, .inr (10, [.ref o_sea, .ref o_act, .int (0 : Int32), .int (0 : Int32), .int (0 : Int32), .int (0 : Int32), .int v_signedAll])), (o_sea, .inr (8, [.int u1_there, .int u1_month, .int u1_lost, .ref o_sea_heads, .ref o_sea_sides, .ref o_sea_moods, .ref o_sea_moults])), (o_sea_heads, .inl (cI, 6, .inl u1_heads)), (o_sea_sides, .inl (cI, 6, .inl u1_sides)), (o_sea_moods, .inl (cI, 6, .inl u1_moods)), (o_sea_moults, .inl (cI, 6, .inl u1_moults)), (b1, .inr (7, [.ref b1_signs, .int v_a1_size])), (b1_signs, .inl (cI, 60, .inl v_a1_signs)), (b2, .inr (8, [.int v_a2_there, .int v_a2_month, .int v_a2_lost, .ref b2_heads, .ref b2_sides, .ref b2_moods, .ref b2_moults])), (b2_heads, .inl (cI, 6, .inl v_a2_heads)), (b2_sides, .inl (cI, 6, .inl v_a2_sides)), (b2_moods, .inl (cI, 6, .inl v_a2_moods)), (b2_moults, .inl (cI, 6, .inl v_a2_moults))]) rfl dX10_begin_38 ?_
    refine q_aload_n C dX10_begin_41 0 rfl rfl ?_
    refine q_aload_n C dX10_begin_42 2 rfl rfl ?_
    refine q_get (C0 := RX8) (T := TX8) (N := 7) (k0 := 0) C lk7 8 rfl rfl (by decide) lk6 rfl (v := .int v_a2_there) rfl dX10_begin_43 ?_
    refine q_put (C0 := RX10) (T := TX10) (N := 7) (k0 := 6) C lk1 0 rfl rfl (by decide) lk8 rfl tyX10 tyX10_ok nmX10 rfl (v := .int v_a2_there) rfl rfl (Nat.le_of_ble_eq_true rfl) ([(o, .inr (10, [.ref o_sea, .ref o_act, .int (0 : Int32), .int (0 : Int32), .int (0 : Int32), .int (0 : Int32), .int v_a2_there])), (o_sea, .inr (8, [.int u1_there, .int u1_month, .int u1_lost, .ref o_sea_heads, .ref o_sea_sides, .ref o_sea_moods, .ref o_sea_moults])), (o_sea_heads, .inl (cI, 6, .inl u1_heads)), (o_sea_sides, .inl (cI, 6, .inl u1_sides)), (o_sea_moods, .inl (cI, 6, .inl u1_moods)), (o_sea_moults, .inl (cI, 6, .inl u1_moults)), (b1, .inr (7, [.ref b1_signs, .int v_a1_size])), (b1_signs, .inl (cI, 60, .inl v_a1_signs)), (b2, .inr (8, [.int v_a2_there, .int v_a2_month, .int v_a2_lost, .ref b2_heads, .ref b2_sides, .ref b2_moods, .ref b2_moults])), (b2_heads, .inl (cI, 6, .inl v_a2_heads)), (b2_sides, .inl (cI, 6, .inl v_a2_sides)), (b2_moods, .inl (cI, 6, .inl v_a2_moods)), (b2_moults, .inl (cI, 6, .inl v_a2_moults))]) rfl dX10_begin_46 ?_
    cases hF
    exact q_wretv C hr dX10_begin_49 hQ
  · have hF := ite_f hF c5
    refine q_iconst (v := (1 : Int32)) C dX10_begin_18 (by decide) ?_
    refine q_goto (tgt := 23) C dX10_begin_19 (by decide) ?_
    refine q_put (C0 := RX10) (T := TX10) (N := 7) (k0 := 2) C lk1 0 rfl rfl (by decide) lk2 rfl tyX10 tyX10_ok nmX10 rfl (v := .int (1 : Int32)) (q_nb (Or.inr rfl)) (q_fb (Or.inr rfl)) (Nat.le_of_ble_eq_true rfl) ([(o, .inr (10, [.ref o_sea, .ref o_act, .int (1 : Int32), .int v_acts, .int v_why, .int v_readings, .int v_signedAll])), (o_sea, .inr (8, [.int u1_there, .int u1_month, .int u1_lost, .ref o_sea_heads, .ref o_sea_sides, .ref o_sea_moods, .ref o_sea_moults])), (o_sea_heads, .inl (cI, 6, .inl u1_heads)), (o_sea_sides, .inl (cI, 6, .inl u1_sides)), (o_sea_moods, .inl (cI, 6, .inl u1_moods)), (o_sea_moults, .inl (cI, 6, .inl u1_moults)), (b1, .inr (7, [.ref b1_signs, .int v_a1_size])), (b1_signs, .inl (cI, 60, .inl v_a1_signs)), (b2, .inr (8, [.int v_a2_there, .int v_a2_month, .int v_a2_lost, .ref b2_heads, .ref b2_sides, .ref b2_moods, .ref b2_moults])), (b2_heads, .inl (cI, 6, .inl v_a2_heads)), (b2_sides, .inl (cI, 6, .inl v_a2_sides)), (b2_moods, .inl (cI, 6, .inl v_a2_moods)), (b2_moults, .inl (cI, 6, .inl v_a2_moults))]) rfl dX10_begin_23 ?_
    refine q_aload_n C dX10_begin_26 0 rfl rfl ?_
    refine q_iconst (v := (0 : Int32)) C dX10_begin_27 (by decide) ?_
    refine q_put (C0 := RX10) (T := TX10) (N := 7) (k0 := 3) C lk1 0 rfl rfl (by decide) lk3 rfl tyX10 tyX10_ok nmX10 rfl (v := .int (0 : Int32)) rfl rfl (Nat.le_of_ble_eq_true rfl) ([(o, .inr (10, [.ref o_sea, .ref o_act, .int (1 : Int32), .int (0 : Int32), .int v_why, .int v_readings, .int v_signedAll])), (o_sea, .inr (8, [.int u1_there, .int u1_month, .int u1_lost, .ref o_sea_heads, .ref o_sea_sides, .ref o_sea_moods, .ref o_sea_moults])), (o_sea_heads, .inl (cI, 6, .inl u1_heads)), (o_sea_sides, .inl (cI, 6, .inl u1_sides)), (o_sea_moods, .inl (cI, 6, .inl u1_moods)), (o_sea_moults, .inl (cI, 6, .inl u1_moults)), (b1, .inr (7, [.ref b1_signs, .int v_a1_size])), (b1_signs, .inl (cI, 60, .inl v_a1_signs)), (b2, .inr (8, [.int v_a2_there, .int v_a2_month, .int v_a2_lost, .ref b2_heads, .ref b2_sides, .ref b2_moods, .ref b2_moults])), (b2_heads, .inl (cI, 6, .inl v_a2_heads)), (b2_sides, .inl (cI, 6, .inl v_a2_sides)), (b2_moods, .inl (cI, 6, .inl v_a2_moods)), (b2_moults, .inl (cI, 6, .inl v_a2_moults))]) rfl dX10_begin_28 ?_
    refine q_aload_n C dX10_begin_31 0 rfl rfl ?_
    refine q_iconst (v := (0 : Int32)) C dX10_begin_32 (by decide) ?_
    refine q_put (C0 := RX10) (T := TX10) (N := 7) (k0 := 4) C lk1 0 rfl rfl (by decide) lk4 rfl tyX10 tyX10_ok nmX10 rfl (v := .int (0 : Int32)) rfl rfl (Nat.le_of_ble_eq_true rfl) ([(o, .inr (10, [.ref o_sea, .ref o_act, .int (1 : Int32), .int (0 : Int32), .int (0 : Int32), .int v_readings, .int v_signedAll])), (o_sea, .inr (8, [.int u1_there, .int u1_month, .int u1_lost, .ref o_sea_heads, .ref o_sea_sides, .ref o_sea_moods, .ref o_sea_moults])), (o_sea_heads, .inl (cI, 6, .inl u1_heads)), (o_sea_sides, .inl (cI, 6, .inl u1_sides)), (o_sea_moods, .inl (cI, 6, .inl u1_moods)), (o_sea_moults, .inl (cI, 6, .inl u1_moults)), (b1, .inr (7, [.ref b1_signs, .int v_a1_size])), (b1_signs, .inl (cI, 60, .inl v_a1_signs)), (b2, .inr (8, [.int v_a2_there, .int v_a2_month, .int v_a2_lost, .ref b2_heads, .ref b2_sides, .ref b2_moods, .ref b2_moults])), (b2_heads, .inl (cI, 6, .inl v_a2_heads)), (b2_sides, .inl (cI, 6, .inl v_a2_sides)), (b2_moods, .inl (cI, 6, .inl v_a2_moods)), (b2_moults, .inl (cI, 6, .inl v_a2_moults))]) rfl dX10_begin_33 ?_
    refine q_aload_n C dX10_begin_36 0 rfl rfl ?_
    refine q_iconst (v := (0 : Int32)) C dX10_begin_37 (by decide) ?_
    refine q_put (C0 := RX10) (T := TX10) (N := 7) (k0 := 5) C lk1 0 rfl rfl (by decide) lk5 rfl tyX10 tyX10_ok nmX10 rfl (v := .int (0 : Int32)) rfl rfl (Nat.le_of_ble_eq_true rfl) ([(o, .inr (10, [.ref o_sea, .ref o_act, .int (1 : Int32), .int (0 : Int32), .int (0 : Int32), .int (0 : Int32), .int v_signedAll])), (o_sea, .inr (8, [.int u1_there, .int u1_month, .int u1_lost, .ref o_sea_heads, .ref o_sea_sides, .ref o_sea_moods, .ref o_sea_moults])), (o_sea_heads, .inl (cI, 6, .inl u1_heads)), (o_sea_sides, .inl (cI, 6, .inl u1_sides)), (o_sea_moods, .inl (cI, 6, .inl u1_moods)), (o_sea_moults, .inl (cI, 6, .inl u1_moults)), (b1, .inr (7, [.ref b1_signs, .int v_a1_size])), (b1_signs, .inl (cI, 60, .inl v_a1_signs)), (b2, .inr (8, [.int v_a2_there, .int v_a2_month, .int v_a2_lost, .ref b2_heads, .ref b2_sides, .ref b2_moods, .ref b2_moults])), (b2_heads, .inl (cI, 6, .inl v_a2_heads)), (b2_sides, .inl (cI, 6, .inl v_a2_sides)), (b2_moods, .inl (cI, 6, .inl v_a2_moods)), (b2_moults, .inl (cI, 6, .inl v_a2_moults))]) rfl dX10_begin_38 ?_
    refine q_aload_n C dX10_begin_41 0 rfl rfl ?_
    refine q_aload_n C dX10_begin_42 2 rfl rfl ?_
    refine q_get (C0 := RX8) (T := TX8) (N := 7) (k0 := 0) C lk7 8 rfl rfl (by decide) lk6 rfl (v := .int v_a2_there) rfl dX10_begin_43 ?_
    refine q_put (C0 := RX10) (T := TX10) (N := 7) (k0 := 6) C lk1 0 rfl rfl (by decide) lk8 rfl tyX10 tyX10_ok nmX10 rfl (v := .int v_a2_there) rfl rfl (Nat.le_of_ble_eq_true rfl) ([(o, .inr (10, [.ref o_sea, .ref o_act, .int (1 : Int32), .int (0 : Int32), .int (0 : Int32), .int (0 : Int32), .int v_a2_there])), (o_sea, .inr (8, [.int u1_there, .int u1_month, .int u1_lost, .ref o_sea_heads, .ref o_sea_sides, .ref o_sea_moods, .ref o_sea_moults])), (o_sea_heads, .inl (cI, 6, .inl u1_heads)), (o_sea_sides, .inl (cI, 6, .inl u1_sides)), (o_sea_moods, .inl (cI, 6, .inl u1_moods)), (o_sea_moults, .inl (cI, 6, .inl u1_moults)), (b1, .inr (7, [.ref b1_signs, .int v_a1_size])), (b1_signs, .inl (cI, 60, .inl v_a1_signs)), (b2, .inr (8, [.int v_a2_there, .int v_a2_month, .int v_a2_lost, .ref b2_heads, .ref b2_sides, .ref b2_moods, .ref b2_moults])), (b2_heads, .inl (cI, 6, .inl v_a2_heads)), (b2_sides, .inl (cI, 6, .inl v_a2_sides)), (b2_moods, .inl (cI, 6, .inl v_a2_moods)), (b2_moults, .inl (cI, 6, .inl v_a2_moults))]) rfl dX10_begin_46 ?_
    cases hF
    exact q_wretv C hr dX10_begin_49 hQ
set_option maxRecDepth 100000 in
set_option maxHeartbeats 4000000 in
theorem c_X10_noteReading (l : Launch) (dC : Nat → ClassId) (dI : Nat → Nat → Nat) (cI cZ cQ : ClassId) (o o_sea o_sea_heads o_sea_moods o_sea_moults o_act b1 b1_words o_sea_sides b1_clashes : Nat) (v_sea_there : Int32) (v_sea_month : Int32) (v_sea_heads : Nat → Int32) (v_sea_moods : Nat → Int32) (v_sea_moults : Nat → Int32) (v_act_kind : Int32) (v_act_one : Int32) (v_readings : Int32) (v_signedAll : Int32) (v_a1_words : Nat → Int32) (v_isFaulty : Int32) (v_acts : Int32) (v_why : Int32) (v_sea_lost : Int32) (v_act_other : Int32) (w_readings : Int32) (w_signedAll : Int32) (hF : f_Trial_noteReading v_sea_there v_sea_month v_sea_heads v_sea_moods v_sea_moults v_act_kind v_act_one v_readings v_signedAll v_a1_words = some (w_readings, w_signedAll)) (sz : Nat) : Met l yX10_noteReading wsX10_noteReading ({ frames := 3, cells := 0, slots := 0, locals := 65 } : Room) (qPc ([.ref o, .ref b1]) (dC, dI) (qT cI cZ cQ) ([(o, .inr (10, [.ref o_sea, .ref o_act, .int v_isFaulty, .int v_acts, .int v_why, .int v_readings, .int v_signedAll])), (o_sea, .inr (8, [.int v_sea_there, .int v_sea_month, .int v_sea_lost, .ref o_sea_heads, .ref o_sea_sides, .ref o_sea_moods, .ref o_sea_moults])), (o_sea_heads, .inl (cI, 6, .inl v_sea_heads)), (o_sea_moods, .inl (cI, 6, .inl v_sea_moods)), (o_sea_moults, .inl (cI, 6, .inl v_sea_moults)), (o_act, .inr (0, [.int v_act_kind, .int v_act_one, .int v_act_other])), (b1, .inr (9, [.ref b1_words, .ref b1_clashes])), (b1_words, .inl (cI, 10, .inl v_a1_words))]) sz) (qWv (dC, dI) ([(o, .inr (10, [.ref o_sea, .ref o_act, .int v_isFaulty, .int v_acts, .int v_why, .int w_readings, .int w_signedAll])), (o_sea, .inr (8, [.int v_sea_there, .int v_sea_month, .int v_sea_lost, .ref o_sea_heads, .ref o_sea_sides, .ref o_sea_moods, .ref o_sea_moults])), (o_sea_heads, .inl (cI, 6, .inl v_sea_heads)), (o_sea_moods, .inl (cI, 6, .inl v_sea_moods)), (o_sea_moults, .inl (cI, 6, .inl v_sea_moults)), (o_act, .inr (0, [.int v_act_kind, .int v_act_one, .int v_act_other])), (b1, .inr (9, [.ref b1_words, .ref b1_clashes])), (b1_words, .inl (cI, 10, .inl v_a1_words))]) (va_A ([(o, .inr (10, [.ref o_sea, .ref o_act, .int v_isFaulty, .int v_acts, .int v_why, .int v_readings, .int v_signedAll])), (o_sea, .inr (8, [.int v_sea_there, .int v_sea_month, .int v_sea_lost, .ref o_sea_heads, .ref o_sea_sides, .ref o_sea_moods, .ref o_sea_moults])), (o_sea_heads, .inl (cI, 6, .inl v_sea_heads)), (o_sea_moods, .inl (cI, 6, .inl v_sea_moods)), (o_sea_moults, .inl (cI, 6, .inl v_sea_moults)), (o_act, .inr (0, [.int v_act_kind, .int v_act_one, .int v_act_other])), (b1, .inr (9, [.ref b1_words, .ref b1_clashes])), (b1_words, .inl (cI, 10, .inl v_a1_words))]) sz)) 0 0 (va_A ([(o, .inr (10, [.ref o_sea, .ref o_act, .int v_isFaulty, .int v_acts, .int v_why, .int v_readings, .int v_signedAll])), (o_sea, .inr (8, [.int v_sea_there, .int v_sea_month, .int v_sea_lost, .ref o_sea_heads, .ref o_sea_sides, .ref o_sea_moods, .ref o_sea_moults])), (o_sea_heads, .inl (cI, 6, .inl v_sea_heads)), (o_sea_moods, .inl (cI, 6, .inl v_sea_moods)), (o_sea_moults, .inl (cI, 6, .inl v_sea_moults)), (o_act, .inr (0, [.int v_act_kind, .int v_act_one, .int v_act_other])), (b1, .inr (9, [.ref b1_words, .ref b1_clashes])), (b1_words, .inl (cI, 10, .inl v_a1_words))]) sz) := by
  refine q_met_w (Qc := fun A => qWv (dC, dI) ([(o, .inr (10, [.ref o_sea, .ref o_act, .int v_isFaulty, .int v_acts, .int v_why, .int w_readings, .int w_signedAll])), (o_sea, .inr (8, [.int v_sea_there, .int v_sea_month, .int v_sea_lost, .ref o_sea_heads, .ref o_sea_sides, .ref o_sea_moods, .ref o_sea_moults])), (o_sea_heads, .inl (cI, 6, .inl v_sea_heads)), (o_sea_moods, .inl (cI, 6, .inl v_sea_moods)), (o_sea_moults, .inl (cI, 6, .inl v_sea_moults)), (o_act, .inr (0, [.int v_act_kind, .int v_act_one, .int v_act_other])), (b1, .inr (9, [.ref b1_words, .ref b1_clashes])), (b1_words, .inl (cI, 10, .inl v_a1_words))]) A) (cc := cX10_noteReading) (own := RX10) (maxL := 2) (ret := none) (lv0 := [(0, .ref o), (1, .ref b1)]) (by decide) rfl rfl rfl (Nat.le_of_ble_eq_true rfl) ?_
  intro p e s m args below meth c A hA C hr hnm Q hQ
  have lk0 : Cond.fieldLink RX10 21 "SealStrait$Trial" "act" "LSealStrait$Act;" ∈ wsX10_noteReading := by decide +kernel
  have lk1 : ∀ w ∈ u_ws RX10 TX10 7, w ∈ wsX10_noteReading := fun w h => List.mem_cons_of_mem _ (List.mem_append_left _ (List.mem_append_left _ (List.mem_append_left _ (List.mem_append_right _ h))))
  have lk2 : Cond.fieldLink RX10 78 "SealStrait$Act" "kind" "I" ∈ wsX10_noteReading := by decide +kernel
  have lk3 : ∀ w ∈ u_ws RX0 TX0 3, w ∈ wsX10_noteReading := fun w h => List.mem_cons_of_mem _ (List.mem_append_left _ (List.mem_append_left _ (List.mem_append_right _ h)))
  have lk4 : Cond.fieldLink RX10 69 "SealStrait$Trial" "readings" "I" ∈ wsX10_noteReading := by decide +kernel
  have lk5 : Cond.fieldLink RX10 75 "SealStrait$Trial" "signedAll" "I" ∈ wsX10_noteReading := by decide +kernel
  have lk6 : Cond.fieldLink RX10 12 "SealStrait$Trial" "sea" "LSealStrait$Sea;" ∈ wsX10_noteReading := by decide +kernel
  have lk7 : Cond.fieldLink RX10 81 "SealStrait$Act" "one" "I" ∈ wsX10_noteReading := by decide +kernel
  unfold f_Trial_noteReading at hF
  refine q_aload_n C dX10_noteReading_0 0 rfl rfl ?_
  refine q_get (C0 := RX10) (T := TX10) (N := 7) (k0 := 1) C lk1 0 rfl rfl (by decide) lk0 rfl (v := .ref o_act) rfl dX10_noteReading_1 ?_
  refine q_get (C0 := RX0) (T := TX0) (N := 3) (k0 := 0) C lk3 5 rfl rfl (by decide) lk2 rfl (v := .int v_act_kind) rfl dX10_noteReading_4 ?_
  refine q_if_ne (tgt := 47) C dX10_noteReading_7 (by decide) (fun c1 => ?_) (fun c1 => ?_)
  · have hF := ite_f hF c1
    cases hF
    exact q_wretv C hr dX10_noteReading_47 hQ
  · have hF := ite_t hF c1
    refine q_aload_n C dX10_noteReading_10 0 rfl rfl ?_
    refine q_dup C dX10_noteReading_11 rfl ?_
    refine q_get (C0 := RX10) (T := TX10) (N := 7) (k0 := 5) C lk1 0 rfl rfl (by decide) lk4 rfl (v := .int v_readings) rfl dX10_noteReading_12 ?_
    refine q_iconst (v := (1 : Int32)) C dX10_noteReading_15 (by decide) ?_
    refine q_iadd C dX10_noteReading_16 ?_
    refine q_put (C0 := RX10) (T := TX10) (N := 7) (k0 := 5) C lk1 0 rfl rfl (by decide) lk4 rfl tyX10 tyX10_ok nmX10 rfl (v := .int (v_readings + (1 : Int32))) rfl rfl (Nat.le_of_ble_eq_true rfl) ([(o, .inr (10, [.ref o_sea, .ref o_act, .int v_isFaulty, .int v_acts, .int v_why, .int (v_readings + (1 : Int32)), .int v_signedAll])), (o_sea, .inr (8, [.int v_sea_there, .int v_sea_month, .int v_sea_lost, .ref o_sea_heads, .ref o_sea_sides, .ref o_sea_moods, .ref o_sea_moults])), (o_sea_heads, .inl (cI, 6, .inl v_sea_heads)), (o_sea_moods, .inl (cI, 6, .inl v_sea_moods)), (o_sea_moults, .inl (cI, 6, .inl v_sea_moults)), (o_act, .inr (0, [.int v_act_kind, .int v_act_one, .int v_act_other])), (b1, .inr (9, [.ref b1_words, .ref b1_clashes])), (b1_words, .inl (cI, 10, .inl v_a1_words))]) rfl dX10_noteReading_17 ?_
    refine q_aload_n C dX10_noteReading_20 0 rfl rfl ?_
    refine q_dup C dX10_noteReading_21 rfl ?_
    refine q_get (C0 := RX10) (T := TX10) (N := 7) (k0 := 6) C lk1 0 rfl rfl (by decide) lk5 rfl (v := .int v_signedAll) rfl dX10_noteReading_22 ?_
    refine q_aload_n C dX10_noteReading_25 0 rfl rfl ?_
    refine q_get (C0 := RX10) (T := TX10) (N := 7) (k0 := 0) C lk1 0 rfl rfl (by decide) lk6 rfl (v := .ref o_sea) rfl dX10_noteReading_26 ?_
    refine q_aload_n C dX10_noteReading_29 1 rfl rfl ?_
    refine q_aload_n C dX10_noteReading_30 0 rfl rfl ?_
    refine q_get (C0 := RX10) (T := TX10) (N := 7) (k0 := 1) C lk1 0 rfl rfl (by decide) lk0 rfl (v := .ref o_act) rfl dX10_noteReading_31 ?_
    refine q_get (C0 := RX0) (T := TX0) (N := 3) (k0 := 1) C lk3 5 rfl rfl (by decide) lk7 rfl (v := .int v_act_one) rfl dX10_noteReading_34 ?_
    obtain ⟨r2, hc3, hF⟩ := bind_c hF
    refine q_roi (q_runV (As := [.int v_act_one]) (rest := [.ref o_sea, .int v_signedAll, .ref o]) C (fun sz => c_X9_wordsOf l dC dI cI cZ cQ b1 b1_words b1_clashes v_a1_words v_act_one r2 hc3 sz) (cwV 1 C.2.2.2.2.1 gX10_noteReading_X9_wordsOf rfl rfl rfl (by decide +kernel) ⟨Nat.le_of_ble_eq_true rfl, Nat.le_of_ble_eq_true rfl⟩) 6 rfl rfl rfl [6, 7] rfl rfl rfl rfl (Nat.le_of_ble_eq_true rfl) dX10_noteReading_37 ⟨Nat.zero_le _, Nat.zero_le _⟩) ?_
    obtain ⟨r4, hc5, hF⟩ := bind_c hF
    refine q_roi (q_runV (As := [.int r2]) (rest := [.int v_signedAll, .ref o]) C (fun sz => c_X8_signers l dC dI cI cZ cQ o_sea o_sea_heads o_sea_moods o_sea_moults o_sea_sides v_sea_there v_sea_month v_sea_heads v_sea_moods v_sea_moults v_sea_lost r2 r4 hc5 sz) (cwV 1 C.2.2.2.2.1 gX10_noteReading_X8_signers rfl rfl rfl (by decide +kernel) ⟨Nat.le_of_ble_eq_true rfl, Nat.le_of_ble_eq_true rfl⟩) 1 rfl rfl rfl [1, 2, 3, 4] rfl rfl rfl rfl (Nat.le_of_ble_eq_true rfl) dX10_noteReading_40 ⟨Nat.zero_le _, Nat.zero_le _⟩) ?_
    refine q_iand C dX10_noteReading_43 ?_
    refine q_put (C0 := RX10) (T := TX10) (N := 7) (k0 := 6) C lk1 0 rfl rfl (by decide) lk5 rfl tyX10 tyX10_ok nmX10 rfl (v := .int (v_signedAll &&& r4)) rfl rfl (Nat.le_of_ble_eq_true rfl) ([(o, .inr (10, [.ref o_sea, .ref o_act, .int v_isFaulty, .int v_acts, .int v_why, .int (v_readings + (1 : Int32)), .int (v_signedAll &&& r4)])), (o_sea, .inr (8, [.int v_sea_there, .int v_sea_month, .int v_sea_lost, .ref o_sea_heads, .ref o_sea_sides, .ref o_sea_moods, .ref o_sea_moults])), (o_sea_heads, .inl (cI, 6, .inl v_sea_heads)), (o_sea_moods, .inl (cI, 6, .inl v_sea_moods)), (o_sea_moults, .inl (cI, 6, .inl v_sea_moults)), (o_act, .inr (0, [.int v_act_kind, .int v_act_one, .int v_act_other])), (b1, .inr (9, [.ref b1_words, .ref b1_clashes])), (b1_words, .inl (cI, 10, .inl v_a1_words))]) rfl dX10_noteReading_44 ?_
    cases hF
    exact q_wretv C hr dX10_noteReading_47 hQ
set_option maxRecDepth 100000 in
set_option maxHeartbeats 4000000 in
theorem c_X10_run (l : Launch) (dC : Nat → ClassId) (dI : Nat → Nat → Nat) (cI cZ cQ : ClassId) (o o_sea o_sea_heads o_sea_sides o_sea_moods o_sea_moults o_act b1 b1_signs b2 b2_heads b2_sides b2_moods b2_moults b3 b3_words b3_clashes : Nat) (v_sea_there : Int32) (v_sea_month : Int32) (v_sea_lost : Int32) (v_sea_heads : Nat → Int32) (v_sea_sides : Nat → Int32) (v_sea_moods : Nat → Int32) (v_sea_moults : Nat → Int32) (v_act_kind : Int32) (v_act_one : Int32) (v_act_other : Int32) (v_isFaulty : Int32) (v_acts : Int32) (v_why : Int32) (v_readings : Int32) (v_signedAll : Int32) (v_a1_signs : Nat → Int32) (v_a1_size : Int32) (v_a2_there : Int32) (v_a2_month : Int32) (v_a2_lost : Int32) (v_a2_heads : Nat → Int32) (v_a2_sides : Nat → Int32) (v_a2_moods : Nat → Int32) (v_a2_moults : Nat → Int32) (v_a3_words : Nat → Int32) (w_sea_there : Int32) (w_sea_month : Int32) (w_sea_lost : Int32) (w_sea_heads : Nat → Int32) (w_sea_sides : Nat → Int32) (w_sea_moods : Nat → Int32) (w_sea_moults : Nat → Int32) (w_act_kind : Int32) (w_act_one : Int32) (w_act_other : Int32) (w_isFaulty : Int32) (w_acts : Int32) (w_why : Int32) (w_readings : Int32) (w_signedAll : Int32) (hF : f_Trial_run v_sea_there v_sea_month v_sea_lost v_sea_heads v_sea_sides v_sea_moods v_sea_moults v_act_kind v_act_one v_act_other v_isFaulty v_acts v_why v_readings v_signedAll v_a1_signs v_a1_size v_a2_there v_a2_month v_a2_lost v_a2_heads v_a2_sides v_a2_moods v_a2_moults v_a3_words = some (w_sea_there, w_sea_month, w_sea_lost, w_sea_heads, w_sea_sides, w_sea_moods, w_sea_moults, w_act_kind, w_act_one, w_act_other, w_isFaulty, w_acts, w_why, w_readings, w_signedAll)) (sz : Nat) : Met l yX10_run wsX10_run ({ frames := 5, cells := 0, slots := 0, locals := 110 } : Room) (qPc ([.ref o, .ref b1, .ref b2, .ref b3]) (dC, dI) (qT cI cZ cQ) ([(o, .inr (10, [.ref o_sea, .ref o_act, .int v_isFaulty, .int v_acts, .int v_why, .int v_readings, .int v_signedAll])), (o_sea, .inr (8, [.int v_sea_there, .int v_sea_month, .int v_sea_lost, .ref o_sea_heads, .ref o_sea_sides, .ref o_sea_moods, .ref o_sea_moults])), (o_sea_heads, .inl (cI, 6, .inl v_sea_heads)), (o_sea_sides, .inl (cI, 6, .inl v_sea_sides)), (o_sea_moods, .inl (cI, 6, .inl v_sea_moods)), (o_sea_moults, .inl (cI, 6, .inl v_sea_moults)), (o_act, .inr (0, [.int v_act_kind, .int v_act_one, .int v_act_other])), (b1, .inr (7, [.ref b1_signs, .int v_a1_size])), (b1_signs, .inl (cI, 60, .inl v_a1_signs)), (b2, .inr (8, [.int v_a2_there, .int v_a2_month, .int v_a2_lost, .ref b2_heads, .ref b2_sides, .ref b2_moods, .ref b2_moults])), (b2_heads, .inl (cI, 6, .inl v_a2_heads)), (b2_sides, .inl (cI, 6, .inl v_a2_sides)), (b2_moods, .inl (cI, 6, .inl v_a2_moods)), (b2_moults, .inl (cI, 6, .inl v_a2_moults)), (b3, .inr (9, [.ref b3_words, .ref b3_clashes])), (b3_words, .inl (cI, 10, .inl v_a3_words))]) sz) (qWv (dC, dI) ([(o, .inr (10, [.ref o_sea, .ref o_act, .int w_isFaulty, .int w_acts, .int w_why, .int w_readings, .int w_signedAll])), (o_sea, .inr (8, [.int w_sea_there, .int w_sea_month, .int w_sea_lost, .ref o_sea_heads, .ref o_sea_sides, .ref o_sea_moods, .ref o_sea_moults])), (o_sea_heads, .inl (cI, 6, .inl w_sea_heads)), (o_sea_sides, .inl (cI, 6, .inl w_sea_sides)), (o_sea_moods, .inl (cI, 6, .inl w_sea_moods)), (o_sea_moults, .inl (cI, 6, .inl w_sea_moults)), (o_act, .inr (0, [.int w_act_kind, .int w_act_one, .int w_act_other])), (b1, .inr (7, [.ref b1_signs, .int v_a1_size])), (b1_signs, .inl (cI, 60, .inl v_a1_signs)), (b2, .inr (8, [.int v_a2_there, .int v_a2_month, .int v_a2_lost, .ref b2_heads, .ref b2_sides, .ref b2_moods, .ref b2_moults])), (b2_heads, .inl (cI, 6, .inl v_a2_heads)), (b2_sides, .inl (cI, 6, .inl v_a2_sides)), (b2_moods, .inl (cI, 6, .inl v_a2_moods)), (b2_moults, .inl (cI, 6, .inl v_a2_moults)), (b3, .inr (9, [.ref b3_words, .ref b3_clashes])), (b3_words, .inl (cI, 10, .inl v_a3_words))]) (va_A ([(o, .inr (10, [.ref o_sea, .ref o_act, .int v_isFaulty, .int v_acts, .int v_why, .int v_readings, .int v_signedAll])), (o_sea, .inr (8, [.int v_sea_there, .int v_sea_month, .int v_sea_lost, .ref o_sea_heads, .ref o_sea_sides, .ref o_sea_moods, .ref o_sea_moults])), (o_sea_heads, .inl (cI, 6, .inl v_sea_heads)), (o_sea_sides, .inl (cI, 6, .inl v_sea_sides)), (o_sea_moods, .inl (cI, 6, .inl v_sea_moods)), (o_sea_moults, .inl (cI, 6, .inl v_sea_moults)), (o_act, .inr (0, [.int v_act_kind, .int v_act_one, .int v_act_other])), (b1, .inr (7, [.ref b1_signs, .int v_a1_size])), (b1_signs, .inl (cI, 60, .inl v_a1_signs)), (b2, .inr (8, [.int v_a2_there, .int v_a2_month, .int v_a2_lost, .ref b2_heads, .ref b2_sides, .ref b2_moods, .ref b2_moults])), (b2_heads, .inl (cI, 6, .inl v_a2_heads)), (b2_sides, .inl (cI, 6, .inl v_a2_sides)), (b2_moods, .inl (cI, 6, .inl v_a2_moods)), (b2_moults, .inl (cI, 6, .inl v_a2_moults)), (b3, .inr (9, [.ref b3_words, .ref b3_clashes])), (b3_words, .inl (cI, 10, .inl v_a3_words))]) sz)) 0 0 (va_A ([(o, .inr (10, [.ref o_sea, .ref o_act, .int v_isFaulty, .int v_acts, .int v_why, .int v_readings, .int v_signedAll])), (o_sea, .inr (8, [.int v_sea_there, .int v_sea_month, .int v_sea_lost, .ref o_sea_heads, .ref o_sea_sides, .ref o_sea_moods, .ref o_sea_moults])), (o_sea_heads, .inl (cI, 6, .inl v_sea_heads)), (o_sea_sides, .inl (cI, 6, .inl v_sea_sides)), (o_sea_moods, .inl (cI, 6, .inl v_sea_moods)), (o_sea_moults, .inl (cI, 6, .inl v_sea_moults)), (o_act, .inr (0, [.int v_act_kind, .int v_act_one, .int v_act_other])), (b1, .inr (7, [.ref b1_signs, .int v_a1_size])), (b1_signs, .inl (cI, 60, .inl v_a1_signs)), (b2, .inr (8, [.int v_a2_there, .int v_a2_month, .int v_a2_lost, .ref b2_heads, .ref b2_sides, .ref b2_moods, .ref b2_moults])), (b2_heads, .inl (cI, 6, .inl v_a2_heads)), (b2_sides, .inl (cI, 6, .inl v_a2_sides)), (b2_moods, .inl (cI, 6, .inl v_a2_moods)), (b2_moults, .inl (cI, 6, .inl v_a2_moults)), (b3, .inr (9, [.ref b3_words, .ref b3_clashes])), (b3_words, .inl (cI, 10, .inl v_a3_words))]) sz) := by
  refine q_met_w (Qc := fun A => qWv (dC, dI) ([(o, .inr (10, [.ref o_sea, .ref o_act, .int w_isFaulty, .int w_acts, .int w_why, .int w_readings, .int w_signedAll])), (o_sea, .inr (8, [.int w_sea_there, .int w_sea_month, .int w_sea_lost, .ref o_sea_heads, .ref o_sea_sides, .ref o_sea_moods, .ref o_sea_moults])), (o_sea_heads, .inl (cI, 6, .inl w_sea_heads)), (o_sea_sides, .inl (cI, 6, .inl w_sea_sides)), (o_sea_moods, .inl (cI, 6, .inl w_sea_moods)), (o_sea_moults, .inl (cI, 6, .inl w_sea_moults)), (o_act, .inr (0, [.int w_act_kind, .int w_act_one, .int w_act_other])), (b1, .inr (7, [.ref b1_signs, .int v_a1_size])), (b1_signs, .inl (cI, 60, .inl v_a1_signs)), (b2, .inr (8, [.int v_a2_there, .int v_a2_month, .int v_a2_lost, .ref b2_heads, .ref b2_sides, .ref b2_moods, .ref b2_moults])), (b2_heads, .inl (cI, 6, .inl v_a2_heads)), (b2_sides, .inl (cI, 6, .inl v_a2_sides)), (b2_moods, .inl (cI, 6, .inl v_a2_moods)), (b2_moults, .inl (cI, 6, .inl v_a2_moults)), (b3, .inr (9, [.ref b3_words, .ref b3_clashes])), (b3_words, .inl (cI, 10, .inl v_a3_words))]) A) (cc := cX10_run) (own := RX10) (maxL := 6) (ret := none) (lv0 := [(0, .ref o), (1, .ref b1), (2, .ref b2), (3, .ref b3)]) (by decide) rfl rfl rfl (Nat.le_of_ble_eq_true rfl) ?_
  intro p e s m args below meth c A hA C hr hnm Q hQ
  have lk0 : Cond.fieldLink RX10 31 "SealStrait$Pad" "size" "I" ∈ wsX10_run := by decide +kernel
  have lk1 : ∀ w ∈ u_ws RX7 TX7 2, w ∈ wsX10_run := fun w h => List.mem_cons_of_mem _ (List.mem_append_left _ (List.mem_append_left _ (List.mem_append_left _ (List.mem_append_left _ (List.mem_append_right _ h)))))
  have lk2 : Cond.fieldLink RX10 35 "SealStrait$Trial" "isFaulty" "Z" ∈ wsX10_run := by decide +kernel
  have lk3 : ∀ w ∈ u_ws RX10 TX10 7, w ∈ wsX10_run := fun w h => List.mem_cons_of_mem _ (List.mem_append_left _ (List.mem_append_left _ (List.mem_append_left _ (List.mem_append_right _ h))))
  have lk4 : Cond.fieldLink RX10 21 "SealStrait$Trial" "act" "LSealStrait$Act;" ∈ wsX10_run := by decide +kernel
  have lk5 : Cond.fieldLink RX10 12 "SealStrait$Trial" "sea" "LSealStrait$Sea;" ∈ wsX10_run := by decide +kernel
  have lk6 : Cond.fieldLink RX10 47 "SealStrait$Trial" "why" "I" ∈ wsX10_run := by decide +kernel
  have lk7 : Cond.fieldLink RX10 58 "SealStrait$Trial" "acts" "I" ∈ wsX10_run := by decide +kernel
  have L1 : ∀ (n : Nat) (x4 : Int32) (x5 : Int32) (v_sea_there : Int32) (v_sea_month : Int32) (v_sea_lost : Int32) (v_sea_heads : Nat → Int32) (v_sea_sides : Nat → Int32) (v_sea_moods : Nat → Int32) (v_sea_moults : Nat → Int32) (v_act_kind : Int32) (v_act_one : Int32) (v_act_other : Int32) (v_isFaulty : Int32) (v_acts : Int32) (v_why : Int32) (v_readings : Int32) (v_signedAll : Int32), evr (fun s => b_Trial_run_1 v_sea_moults v_isFaulty v_a1_signs v_a1_size v_a3_words s.1 s.2.1 s.2.2.1 s.2.2.2.1 s.2.2.2.2.1 s.2.2.2.2.2.1 s.2.2.2.2.2.2.1 s.2.2.2.2.2.2.2.1 s.2.2.2.2.2.2.2.2.1 s.2.2.2.2.2.2.2.2.2.1 s.2.2.2.2.2.2.2.2.2.2.1 s.2.2.2.2.2.2.2.2.2.2.2.1 s.2.2.2.2.2.2.2.2.2.2.2.2.1 s.2.2.2.2.2.2.2.2.2.2.2.2.2.1 s.2.2.2.2.2.2.2.2.2.2.2.2.2.2) n (x4, x5, v_sea_there, v_sea_month, v_sea_lost, v_sea_heads, v_sea_sides, v_sea_moods, v_act_kind, v_act_one, v_act_other, v_acts, v_why, v_readings, v_signedAll) = some (w_sea_there, w_sea_month, w_sea_lost, w_sea_heads, w_sea_sides, w_sea_moods, w_sea_moults, w_act_kind, w_act_one, w_act_other, w_isFaulty, w_acts, w_why, w_readings, w_signedAll) → qG p l e ({ frames := 5, cells := 0, slots := 0, locals := 110 } : Room) s m args below meth c 6 (dC, dI) A A Q 0 0 ([(0, .ref o), (1, .ref b1), (3, .ref b3), (4, .int x4), (5, .int x5)]) [] ([(o, .inr (10, [.ref o_sea, .ref o_act, .int v_isFaulty, .int v_acts, .int v_why, .int v_readings, .int v_signedAll])), (o_sea, .inr (8, [.int v_sea_there, .int v_sea_month, .int v_sea_lost, .ref o_sea_heads, .ref o_sea_sides, .ref o_sea_moods, .ref o_sea_moults])), (o_sea_heads, .inl (cI, 6, .inl v_sea_heads)), (o_sea_sides, .inl (cI, 6, .inl v_sea_sides)), (o_sea_moods, .inl (cI, 6, .inl v_sea_moods)), (o_sea_moults, .inl (cI, 6, .inl v_sea_moults)), (o_act, .inr (0, [.int v_act_kind, .int v_act_one, .int v_act_other])), (b1, .inr (7, [.ref b1_signs, .int v_a1_size])), (b1_signs, .inl (cI, 60, .inl v_a1_signs)), (b2, .inr (8, [.int v_a2_there, .int v_a2_month, .int v_a2_lost, .ref b2_heads, .ref b2_sides, .ref b2_moods, .ref b2_moults])), (b2_heads, .inl (cI, 6, .inl v_a2_heads)), (b2_sides, .inl (cI, 6, .inl v_a2_sides)), (b2_moods, .inl (cI, 6, .inl v_a2_moods)), (b2_moults, .inl (cI, 6, .inl v_a2_moults)), (b3, .inr (9, [.ref b3_words, .ref b3_clashes])), (b3_words, .inl (cI, 10, .inl v_a3_words))]) 12 := by
    clear hF
    intro n
    induction n with
    | zero => intro x4 x5 v_sea_there v_sea_month v_sea_lost v_sea_heads v_sea_sides v_sea_moods v_sea_moults v_act_kind v_act_one v_act_other v_isFaulty v_acts v_why v_readings v_signedAll  hF; exact (evr_0 hF).elim
    | succ n ih =>
      intro x4 x5 v_sea_there v_sea_month v_sea_lost v_sea_heads v_sea_sides v_sea_moods v_sea_moults v_act_kind v_act_one v_act_other v_isFaulty v_acts v_why v_readings v_signedAll  hF
      obtain ⟨o9, hB, hn, hx⟩ := evr_c hF
      have hF : b_Trial_run_1 v_sea_moults v_isFaulty v_a1_signs v_a1_size v_a3_words x4 x5 v_sea_there v_sea_month v_sea_lost v_sea_heads v_sea_sides v_sea_moods v_act_kind v_act_one v_act_other v_acts v_why v_readings v_signedAll = some o9 := hB
      unfold b_Trial_run_1 at hF
      refine q_iload C dX10_run_12 4 rfl ?_
      refine q_bipush (v := (60 : Int32)) C dX10_run_14 (by decide) ?_
      refine q_icmp_ge (tgt := 107) C dX10_run_16 (by decide) (fun c1 => ?_) (fun c1 => ?_)
      · have hF := ite_t hF c1
        cases hF
        have e2 := hx _ rfl
        cases e2
        exact q_wretv C hr dX10_run_107 hQ
      · have hF := ite_f hF c1
        refine q_iload C dX10_run_19 3 rfl ?_
        refine q_aload_n C dX10_run_21 1 rfl rfl ?_
        refine q_get (C0 := RX7) (T := TX7) (N := 2) (k0 := 1) C lk1 7 rfl rfl (by decide) lk0 rfl (v := .int v_a1_size) rfl dX10_run_22 ?_
        refine q_icmp_ge (tgt := 107) C dX10_run_25 (by decide) (fun c3 => ?_) (fun c3 => ?_)
        · have hF := ite_t hF c3
          cases hF
          have e4 := hx _ rfl
          cases e4
          exact q_wretv C hr dX10_run_107 hQ
        · have hF := ite_f hF c3
          refine q_aload_n C dX10_run_28 0 rfl rfl ?_
          refine q_get (C0 := RX10) (T := TX10) (N := 7) (k0 := 2) C lk3 0 rfl rfl (by decide) lk2 rfl (v := .int v_isFaulty) rfl dX10_run_29 ?_
          refine q_if_ne (tgt := 107) C dX10_run_32 (by decide) (fun c5 => ?_) (fun c5 => ?_)
          · have hF := ite_f hF c5
            cases hF
            have e6 := hx _ rfl
            cases e6
            exact q_wretv C hr dX10_run_107 hQ
          · have hF := ite_t hF c5
            refine q_iload C dX10_run_35 3 rfl ?_
            refine q_aload_n C dX10_run_37 0 rfl rfl ?_
            refine q_get (C0 := RX10) (T := TX10) (N := 7) (k0 := 1) C lk3 0 rfl rfl (by decide) lk4 rfl (v := .ref o_act) rfl dX10_run_38 ?_
            refine q_aload_n C dX10_run_41 1 rfl rfl ?_
            refine q_iload C dX10_run_42 3 rfl ?_
            obtain ⟨⟨r7, u7_kind, u7_one, u7_other⟩, hc8, hF⟩ := bind_c hF
            dsimp only at hF
            refine q_rwi hA ([(o, .inr (10, [.ref o_sea, .ref o_act, .int v_isFaulty, .int v_acts, .int v_why, .int v_readings, .int v_signedAll])), (o_sea, .inr (8, [.int v_sea_there, .int v_sea_month, .int v_sea_lost, .ref o_sea_heads, .ref o_sea_sides, .ref o_sea_moods, .ref o_sea_moults])), (o_sea_heads, .inl (cI, 6, .inl v_sea_heads)), (o_sea_sides, .inl (cI, 6, .inl v_sea_sides)), (o_sea_moods, .inl (cI, 6, .inl v_sea_moods)), (o_sea_moults, .inl (cI, 6, .inl v_sea_moults)), (o_act, .inr (0, [.int u7_kind, .int u7_one, .int u7_other])), (b1, .inr (7, [.ref b1_signs, .int v_a1_size])), (b1_signs, .inl (cI, 60, .inl v_a1_signs)), (b2, .inr (8, [.int v_a2_there, .int v_a2_month, .int v_a2_lost, .ref b2_heads, .ref b2_sides, .ref b2_moods, .ref b2_moults])), (b2_heads, .inl (cI, 6, .inl v_a2_heads)), (b2_sides, .inl (cI, 6, .inl v_a2_sides)), (b2_moods, .inl (cI, 6, .inl v_a2_moods)), (b2_moults, .inl (cI, 6, .inl v_a2_moults)), (b3, .inr (9, [.ref b3_words, .ref b3_clashes])), (b3_words, .inl (cI, 10, .inl v_a3_words))]) [6, 7, 8] [0, 1, 2, 3, 4, 5, 9, 10, 11, 12, 13, 14, 15] rfl rfl rfl (by decide) [0, 1, 2, 3, 4, 5, 13, 14, 15, 6, 7, 8, 9, 10, 11, 12] rfl rfl (q_runV (As := [.ref b1, .int x4]) (rest := [.int x4]) C (fun sz => c_X0_takeFrom l dC dI cI cZ cQ o_act b1 b1_signs v_act_kind v_act_one v_act_other v_a1_signs v_a1_size x4 r7 u7_kind u7_one u7_other hc8 sz) (cwV 2 C.2.2.2.2.1 gX10_run_X0_takeFrom rfl rfl rfl (by decide +kernel) ⟨Nat.le_of_ble_eq_true rfl, Nat.le_of_ble_eq_true rfl⟩) 6 rfl rfl rfl [6, 7, 8] rfl rfl rfl rfl (Nat.le_of_ble_eq_true rfl) dX10_run_44 ⟨Nat.zero_le _, Nat.zero_le _⟩) ?_
            refine q_iadd C dX10_run_47 ?_
            refine q_istore C ([(4, .int (x4 + r7)), (0, .ref o), (1, .ref b1), (3, .ref b3), (5, .int x5)]) dX10_run_48 (by decide) rfl ?_
            refine q_aload_n C dX10_run_50 1 rfl rfl ?_
            refine q_aload_n C dX10_run_51 1 rfl rfl ?_
            refine q_get (C0 := RX10) (T := TX10) (N := 7) (k0 := 0) C lk3 0 rfl rfl (by decide) lk5 rfl (v := .ref o_sea) rfl dX10_run_52 ?_
            refine q_aload_n C dX10_run_55 1 rfl rfl ?_
            refine q_get (C0 := RX10) (T := TX10) (N := 7) (k0 := 1) C lk3 0 rfl rfl (by decide) lk4 rfl (v := .ref o_act) rfl dX10_run_56 ?_
            refine q_aload_n C dX10_run_59 3 rfl rfl ?_
            obtain ⟨r9, hc10, hF⟩ := bind_c hF
            refine q_roi (q_runV (As := [.ref o_act, .ref b3]) (rest := [.ref o]) C (fun sz => c_X8_whyNot l dC dI cI cZ cQ o_sea o_sea_heads o_sea_sides o_sea_moods o_sea_moults o_act b3 b3_words b3_clashes v_sea_there v_sea_month v_sea_heads v_sea_sides v_sea_moods v_sea_moults u7_kind u7_one u7_other v_a3_words v_sea_lost r9 hc10 sz) (cwV 2 C.2.2.2.2.1 gX10_run_X8_whyNot rfl rfl rfl (by decide +kernel) ⟨Nat.le_of_ble_eq_true rfl, Nat.le_of_ble_eq_true rfl⟩) 1 rfl rfl rfl [1, 2, 3, 4, 5, 6, 14, 15] rfl rfl rfl rfl (Nat.le_of_ble_eq_true rfl) dX10_run_60 ⟨Nat.zero_le _, Nat.zero_le _⟩) ?_
            refine q_put (C0 := RX10) (T := TX10) (N := 7) (k0 := 4) C lk3 0 rfl rfl (by decide) lk6 rfl tyX10 tyX10_ok nmX10 rfl (v := .int r9) rfl rfl (Nat.le_of_ble_eq_true rfl) ([(o, .inr (10, [.ref o_sea, .ref o_act, .int v_isFaulty, .int v_acts, .int r9, .int v_readings, .int v_signedAll])), (o_sea, .inr (8, [.int v_sea_there, .int v_sea_month, .int v_sea_lost, .ref o_sea_heads, .ref o_sea_sides, .ref o_sea_moods, .ref o_sea_moults])), (o_sea_heads, .inl (cI, 6, .inl v_sea_heads)), (o_sea_sides, .inl (cI, 6, .inl v_sea_sides)), (o_sea_moods, .inl (cI, 6, .inl v_sea_moods)), (o_sea_moults, .inl (cI, 6, .inl v_sea_moults)), (o_act, .inr (0, [.int u7_kind, .int u7_one, .int u7_other])), (b1, .inr (7, [.ref b1_signs, .int v_a1_size])), (b1_signs, .inl (cI, 60, .inl v_a1_signs)), (b2, .inr (8, [.int v_a2_there, .int v_a2_month, .int v_a2_lost, .ref b2_heads, .ref b2_sides, .ref b2_moods, .ref b2_moults])), (b2_heads, .inl (cI, 6, .inl v_a2_heads)), (b2_sides, .inl (cI, 6, .inl v_a2_sides)), (b2_moods, .inl (cI, 6, .inl v_a2_moods)), (b2_moults, .inl (cI, 6, .inl v_a2_moults)), (b3, .inr (9, [.ref b3_words, .ref b3_clashes])), (b3_words, .inl (cI, 10, .inl v_a3_words))]) rfl dX10_run_63 ?_
            refine q_aload_n C dX10_run_66 1 rfl rfl ?_
            refine q_get (C0 := RX10) (T := TX10) (N := 7) (k0 := 4) C lk3 0 rfl rfl (by decide) lk6 rfl (v := .int r9) rfl dX10_run_67 ?_
            refine q_if_eq (tgt := 74) C dX10_run_70 (by decide) (fun c11 => ?_) (fun c11 => ?_)
            · have hF := ite_t hF c11
              refine q_aload_n C dX10_run_74 1 rfl rfl ?_
              refine q_aload_n C dX10_run_75 3 rfl rfl ?_
              obtain ⟨⟨u12_readings, u12_signedAll⟩, hc13, hF⟩ := bind_c hF
              dsimp only at hF
              refine q_rwv hA ([(o, .inr (10, [.ref o_sea, .ref o_act, .int v_isFaulty, .int v_acts, .int r9, .int u12_readings, .int u12_signedAll])), (o_sea, .inr (8, [.int v_sea_there, .int v_sea_month, .int v_sea_lost, .ref o_sea_heads, .ref o_sea_sides, .ref o_sea_moods, .ref o_sea_moults])), (o_sea_heads, .inl (cI, 6, .inl v_sea_heads)), (o_sea_sides, .inl (cI, 6, .inl v_sea_sides)), (o_sea_moods, .inl (cI, 6, .inl v_sea_moods)), (o_sea_moults, .inl (cI, 6, .inl v_sea_moults)), (o_act, .inr (0, [.int u7_kind, .int u7_one, .int u7_other])), (b1, .inr (7, [.ref b1_signs, .int v_a1_size])), (b1_signs, .inl (cI, 60, .inl v_a1_signs)), (b2, .inr (8, [.int v_a2_there, .int v_a2_month, .int v_a2_lost, .ref b2_heads, .ref b2_sides, .ref b2_moods, .ref b2_moults])), (b2_heads, .inl (cI, 6, .inl v_a2_heads)), (b2_sides, .inl (cI, 6, .inl v_a2_sides)), (b2_moods, .inl (cI, 6, .inl v_a2_moods)), (b2_moults, .inl (cI, 6, .inl v_a2_moults)), (b3, .inr (9, [.ref b3_words, .ref b3_clashes])), (b3_words, .inl (cI, 10, .inl v_a3_words))]) [0, 1, 2, 4, 5, 6, 14, 15] [3, 7, 8, 9, 10, 11, 12, 13] rfl rfl rfl (by decide) [8, 9, 10, 0, 11, 12, 13, 1, 2, 3, 4, 5, 6, 7, 14, 15] rfl rfl (q_runV (As := [.ref b3]) (rest := []) C (fun sz => c_X10_noteReading l dC dI cI cZ cQ o o_sea o_sea_heads o_sea_moods o_sea_moults o_act b3 b3_words o_sea_sides b3_clashes v_sea_there v_sea_month v_sea_heads v_sea_moods v_sea_moults u7_kind u7_one v_readings v_signedAll v_a3_words v_isFaulty v_acts r9 v_sea_lost u7_other u12_readings u12_signedAll hc13 sz) (cwV 1 C.2.2.2.2.1 gX10_run_X10_noteReading rfl rfl rfl (by decide +kernel) ⟨Nat.le_of_ble_eq_true rfl, Nat.le_of_ble_eq_true rfl⟩) 0 rfl rfl rfl [0, 1, 2, 4, 5, 6, 14, 15] rfl rfl rfl rfl (Nat.le_of_ble_eq_true rfl) dX10_run_76 ⟨Nat.zero_le _, Nat.zero_le _⟩) ?_
              refine q_aload_n C dX10_run_79 1 rfl rfl ?_
              refine q_get (C0 := RX10) (T := TX10) (N := 7) (k0 := 0) C lk3 0 rfl rfl (by decide) lk5 rfl (v := .ref o_sea) rfl dX10_run_80 ?_
              refine q_aload_n C dX10_run_83 1 rfl rfl ?_
              refine q_get (C0 := RX10) (T := TX10) (N := 7) (k0 := 1) C lk3 0 rfl rfl (by decide) lk4 rfl (v := .ref o_act) rfl dX10_run_84 ?_
              refine q_aload_n C dX10_run_87 3 rfl rfl ?_
              obtain ⟨⟨u14_there, u14_month, u14_lost, u14_heads, u14_sides, u14_moods⟩, hc15, hF⟩ := bind_c hF
              dsimp only at hF
              refine q_rwv hA ([(o, .inr (10, [.ref o_sea, .ref o_act, .int v_isFaulty, .int v_acts, .int r9, .int u12_readings, .int u12_signedAll])), (o_sea, .inr (8, [.int u14_there, .int u14_month, .int u14_lost, .ref o_sea_heads, .ref o_sea_sides, .ref o_sea_moods, .ref o_sea_moults])), (o_sea_heads, .inl (cI, 6, .inl u14_heads)), (o_sea_sides, .inl (cI, 6, .inl u14_sides)), (o_sea_moods, .inl (cI, 6, .inl u14_moods)), (o_sea_moults, .inl (cI, 6, .inl v_sea_moults)), (o_act, .inr (0, [.int u7_kind, .int u7_one, .int u7_other])), (b1, .inr (7, [.ref b1_signs, .int v_a1_size])), (b1_signs, .inl (cI, 60, .inl v_a1_signs)), (b2, .inr (8, [.int v_a2_there, .int v_a2_month, .int v_a2_lost, .ref b2_heads, .ref b2_sides, .ref b2_moods, .ref b2_moults])), (b2_heads, .inl (cI, 6, .inl v_a2_heads)), (b2_sides, .inl (cI, 6, .inl v_a2_sides)), (b2_moods, .inl (cI, 6, .inl v_a2_moods)), (b2_moults, .inl (cI, 6, .inl v_a2_moults)), (b3, .inr (9, [.ref b3_words, .ref b3_clashes])), (b3_words, .inl (cI, 10, .inl v_a3_words))]) [1, 2, 3, 4, 5, 6, 14, 15] [0, 7, 8, 9, 10, 11, 12, 13] rfl rfl rfl (by decide) [0, 8, 9, 10, 11, 12, 13, 1, 2, 3, 4, 5, 6, 7, 14, 15] rfl rfl (q_runV (As := [.ref o_act, .ref b3]) (rest := []) C (fun sz => c_X8_perform l dC dI cI cZ cQ o_sea o_sea_heads o_sea_sides o_sea_moods o_sea_moults o_act b3 b3_words b3_clashes v_sea_there v_sea_month v_sea_lost v_sea_heads v_sea_sides v_sea_moods v_sea_moults u7_kind u7_one u7_other v_a3_words u14_there u14_month u14_lost u14_heads u14_sides u14_moods hc15 sz) (cwV 2 C.2.2.2.2.1 gX10_run_X8_perform rfl rfl rfl (by decide +kernel) ⟨Nat.le_of_ble_eq_true rfl, Nat.le_of_ble_eq_true rfl⟩) 1 rfl rfl rfl [1, 2, 3, 4, 5, 6, 14, 15] rfl rfl rfl rfl (Nat.le_of_ble_eq_true rfl) dX10_run_88 ⟨Nat.zero_le _, Nat.zero_le _⟩) ?_
              refine q_aload_n C dX10_run_91 1 rfl rfl ?_
              refine q_dup C dX10_run_92 rfl ?_
              refine q_get (C0 := RX10) (T := TX10) (N := 7) (k0 := 3) C lk3 0 rfl rfl (by decide) lk7 rfl (v := .int v_acts) rfl dX10_run_93 ?_
              refine q_iconst (v := (1 : Int32)) C dX10_run_96 (by decide) ?_
              refine q_iadd C dX10_run_97 ?_
              refine q_put (C0 := RX10) (T := TX10) (N := 7) (k0 := 3) C lk3 0 rfl rfl (by decide) lk7 rfl tyX10 tyX10_ok nmX10 rfl (v := .int (v_acts + (1 : Int32))) rfl rfl (Nat.le_of_ble_eq_true rfl) ([(o, .inr (10, [.ref o_sea, .ref o_act, .int v_isFaulty, .int (v_acts + (1 : Int32)), .int r9, .int u12_readings, .int u12_signedAll])), (o_sea, .inr (8, [.int u14_there, .int u14_month, .int u14_lost, .ref o_sea_heads, .ref o_sea_sides, .ref o_sea_moods, .ref o_sea_moults])), (o_sea_heads, .inl (cI, 6, .inl u14_heads)), (o_sea_sides, .inl (cI, 6, .inl u14_sides)), (o_sea_moods, .inl (cI, 6, .inl u14_moods)), (o_sea_moults, .inl (cI, 6, .inl v_sea_moults)), (o_act, .inr (0, [.int u7_kind, .int u7_one, .int u7_other])), (b1, .inr (7, [.ref b1_signs, .int v_a1_size])), (b1_signs, .inl (cI, 60, .inl v_a1_signs)), (b2, .inr (8, [.int v_a2_there, .int v_a2_month, .int v_a2_lost, .ref b2_heads, .ref b2_sides, .ref b2_moods, .ref b2_moults])), (b2_heads, .inl (cI, 6, .inl v_a2_heads)), (b2_sides, .inl (cI, 6, .inl v_a2_sides)), (b2_moods, .inl (cI, 6, .inl v_a2_moods)), (b2_moults, .inl (cI, 6, .inl v_a2_moults)), (b3, .inr (9, [.ref b3_words, .ref b3_clashes])), (b3_words, .inl (cI, 10, .inl v_a3_words))]) rfl dX10_run_98 ?_
              refine q_iinc (v := (x5 + 1)) C ([(5, .int (x5 + 1)), (4, .int (x4 + r7)), (0, .ref o), (1, .ref b1), (3, .ref b3)]) dX10_run_101 4 rfl rfl (by decide) rfl ?_
              refine q_goto (tgt := 12) C dX10_run_104 (by decide) ?_
              cases hF
              refine q_lsel [2, 3, 4, 1, 0] rfl ?_
              exact ih (x4 + r7) (x5 + 1) u14_there u14_month u14_lost u14_heads u14_sides u14_moods v_sea_moults u7_kind u7_one u7_other v_isFaulty (v_acts + (1 : Int32)) r9 u12_readings u12_signedAll (hn _ rfl)
            · have hF := ite_f hF c11
              cases hF
              have e16 := hx _ rfl
              cases e16
              exact q_wretv C hr dX10_run_73 hQ
  unfold f_Trial_run at hF
  refine q_aload_n C dX10_run_0 0 rfl rfl ?_
  refine q_aload_n C dX10_run_1 1 rfl rfl ?_
  refine q_aload_n C dX10_run_2 2 rfl rfl ?_
  obtain ⟨⟨u17_sea_there, u17_sea_month, u17_sea_lost, u17_sea_heads, u17_sea_sides, u17_sea_moods, u17_sea_moults, u17_isFaulty, u17_acts, u17_why, u17_readings, u17_signedAll⟩, hc18, hF⟩ := bind_c hF
  dsimp only at hF
  refine q_rwv hA ([(o, .inr (10, [.ref o_sea, .ref o_act, .int u17_isFaulty, .int u17_acts, .int u17_why, .int u17_readings, .int u17_signedAll])), (o_sea, .inr (8, [.int u17_sea_there, .int u17_sea_month, .int u17_sea_lost, .ref o_sea_heads, .ref o_sea_sides, .ref o_sea_moods, .ref o_sea_moults])), (o_sea_heads, .inl (cI, 6, .inl u17_sea_heads)), (o_sea_sides, .inl (cI, 6, .inl u17_sea_sides)), (o_sea_moods, .inl (cI, 6, .inl u17_sea_moods)), (o_sea_moults, .inl (cI, 6, .inl u17_sea_moults)), (o_act, .inr (0, [.int v_act_kind, .int v_act_one, .int v_act_other])), (b1, .inr (7, [.ref b1_signs, .int v_a1_size])), (b1_signs, .inl (cI, 60, .inl v_a1_signs)), (b2, .inr (8, [.int v_a2_there, .int v_a2_month, .int v_a2_lost, .ref b2_heads, .ref b2_sides, .ref b2_moods, .ref b2_moults])), (b2_heads, .inl (cI, 6, .inl v_a2_heads)), (b2_sides, .inl (cI, 6, .inl v_a2_sides)), (b2_moods, .inl (cI, 6, .inl v_a2_moods)), (b2_moults, .inl (cI, 6, .inl v_a2_moults)), (b3, .inr (9, [.ref b3_words, .ref b3_clashes])), (b3_words, .inl (cI, 10, .inl v_a3_words))]) [0, 1, 2, 3, 4, 5, 7, 8, 9, 10, 11, 12, 13] [6, 14, 15] rfl rfl rfl (by decide) [3, 4, 5, 6, 7, 8, 0, 9, 10, 11, 12, 13, 14, 15, 1, 2] rfl rfl (q_runV (As := [.ref b1, .ref b2]) (rest := []) C (fun sz => c_X10_begin l dC dI cI cZ cQ o o_sea o_sea_heads o_sea_sides o_sea_moods o_sea_moults b1 b1_signs b2 b2_heads b2_sides b2_moods b2_moults o_act v_sea_there v_sea_month v_sea_lost v_sea_heads v_sea_sides v_sea_moods v_sea_moults v_isFaulty v_acts v_why v_readings v_signedAll v_a1_signs v_a1_size v_a2_there v_a2_month v_a2_lost v_a2_heads v_a2_sides v_a2_moods v_a2_moults u17_sea_there u17_sea_month u17_sea_lost u17_sea_heads u17_sea_sides u17_sea_moods u17_sea_moults u17_isFaulty u17_acts u17_why u17_readings u17_signedAll hc18 sz) (cwV 2 C.2.2.2.2.1 gX10_run_X10_begin rfl rfl rfl (by decide +kernel) ⟨Nat.le_of_ble_eq_true rfl, Nat.le_of_ble_eq_true rfl⟩) 0 rfl rfl rfl [0, 1, 2, 3, 4, 5, 7, 8, 9, 10, 11, 12, 13] rfl rfl rfl rfl (Nat.le_of_ble_eq_true rfl) dX10_run_3 ⟨Nat.zero_le _, Nat.zero_le _⟩) ?_
  refine q_iconst (v := (0 : Int32)) C dX10_run_6 (by decide) ?_
  refine q_istore C ([(4, .int (0 : Int32)), (0, .ref o), (1, .ref b1), (2, .ref b2), (3, .ref b3)]) dX10_run_7 (by decide) rfl ?_
  refine q_iconst (v := (0 : Int32)) C dX10_run_9 (by decide) ?_
  refine q_istore C ([(5, .int (0 : Int32)), (4, .int (0 : Int32)), (0, .ref o), (1, .ref b1), (2, .ref b2), (3, .ref b3)]) dX10_run_10 (by decide) rfl ?_
  obtain ⟨n19, hF⟩ := (ev_iff _ _ _).mp hF
  refine q_lsel [2, 3, 5, 1, 0] rfl ?_
  exact L1 n19 (0 : Int32) (0 : Int32) u17_sea_there u17_sea_month u17_sea_lost u17_sea_heads u17_sea_sides u17_sea_moods u17_sea_moults v_act_kind v_act_one v_act_other u17_isFaulty u17_acts u17_why u17_readings u17_signedAll hF
set_option maxRecDepth 100000 in
set_option maxHeartbeats 4000000 in
theorem c_X10_allCanBe (l : Launch) (dC : Nat → ClassId) (dI : Nat → Nat → Nat) (cI cZ cQ : ClassId) (o o_sea o_act : Nat) (v_isFaulty : Int32) (v_why : Int32) (v_acts : Int32) (v_readings : Int32) (v_signedAll : Int32) (R : Int32) (hF : f_Trial_allCanBe v_isFaulty v_why = R) (sz : Nat) : Met l yX10_allCanBe wsX10_allCanBe ({ frames := 0, cells := 0, slots := 0, locals := 0 } : Room) (qPc ([.ref o]) (dC, dI) (qT cI cZ cQ) ([(o, .inr (10, [.ref o_sea, .ref o_act, .int v_isFaulty, .int v_acts, .int v_why, .int v_readings, .int v_signedAll]))]) sz) (qRz R) 0 0 (fun _ => False) := by
  refine q_met_r (cc := cX10_allCanBe) (own := RX10) (maxL := 1) (ret := (some .boolean)) (lv0 := [(0, .ref o)]) (by decide) rfl rfl rfl (Nat.le_of_ble_eq_true rfl) ?_
  intro p e s m args below meth c C hr A A' Q hA0 hQ
  have lk0 : Cond.fieldLink RX10 35 "SealStrait$Trial" "isFaulty" "Z" ∈ wsX10_allCanBe := by decide +kernel
  have lk1 : ∀ w ∈ u_ws RX10 TX10 7, w ∈ wsX10_allCanBe := fun w h => List.mem_cons_of_mem _ (List.mem_append_right _ h)
  have lk2 : Cond.fieldLink RX10 47 "SealStrait$Trial" "why" "I" ∈ wsX10_allCanBe := by decide +kernel
  unfold f_Trial_allCanBe at hF
  refine q_aload_n C dX10_allCanBe_0 0 rfl rfl ?_
  refine q_get (C0 := RX10) (T := TX10) (N := 7) (k0 := 2) C lk1 0 rfl rfl (by decide) lk0 rfl (v := .int v_isFaulty) rfl dX10_allCanBe_1 ?_
  refine q_if_ne (tgt := 18) C dX10_allCanBe_4 (by decide) (fun c1 => ?_) (fun c1 => ?_)
  · have hF := ite_f hF c1
    refine q_iconst (v := (0 : Int32)) C dX10_allCanBe_18 (by decide) ?_
    subst hF
    exact q_iretz C hA0 hr (Or.inl rfl) dX10_allCanBe_19 hQ
  · have hF := ite_t hF c1
    refine q_aload_n C dX10_allCanBe_7 0 rfl rfl ?_
    refine q_get (C0 := RX10) (T := TX10) (N := 7) (k0 := 4) C lk1 0 rfl rfl (by decide) lk2 rfl (v := .int v_why) rfl dX10_allCanBe_8 ?_
    refine q_if_ne (tgt := 18) C dX10_allCanBe_11 (by decide) (fun c2 => ?_) (fun c2 => ?_)
    · have hF := ite_f hF c2
      refine q_iconst (v := (0 : Int32)) C dX10_allCanBe_18 (by decide) ?_
      subst hF
      exact q_iretz C hA0 hr (Or.inl rfl) dX10_allCanBe_19 hQ
    · have hF := ite_t hF c2
      refine q_iconst (v := (1 : Int32)) C dX10_allCanBe_14 (by decide) ?_
      refine q_goto (tgt := 19) C dX10_allCanBe_15 (by decide) ?_
      subst hF
      exact q_iretz C hA0 hr (Or.inr rfl) dX10_allCanBe_19 hQ
set_option maxRecDepth 100000 in
set_option maxHeartbeats 4000000 in
theorem c_X10_runYear (l : Launch) (dC : Nat → ClassId) (dI : Nat → Nat → Nat) (cI cZ cQ : ClassId) (o o_sea o_sea_heads o_sea_sides o_sea_moods o_sea_moults o_act b3 b3_heads b3_sides b3_moods b3_moults b4 b4_words b4_clashes : Nat) (v_sea_there : Int32) (v_sea_month : Int32) (v_sea_lost : Int32) (v_sea_heads : Nat → Int32) (v_sea_sides : Nat → Int32) (v_sea_moods : Nat → Int32) (v_sea_moults : Nat → Int32) (v_act_kind : Int32) (v_act_one : Int32) (v_act_other : Int32) (v_a3_there : Int32) (v_a3_month : Int32) (v_a3_lost : Int32) (v_a3_heads : Nat → Int32) (v_a3_sides : Nat → Int32) (v_a3_moods : Nat → Int32) (v_a3_moults : Nat → Int32) (v_a4_words : Nat → Int32) (v_isFaulty : Int32) (v_acts : Int32) (v_why : Int32) (v_readings : Int32) (v_signedAll : Int32) (p1 : Int32) (p2 : Int32) (w_sea_there : Int32) (w_sea_month : Int32) (w_sea_lost : Int32) (w_sea_heads : Nat → Int32) (w_sea_sides : Nat → Int32) (w_sea_moods : Nat → Int32) (w_sea_moults : Nat → Int32) (w_act_kind : Int32) (w_act_one : Int32) (w_act_other : Int32) (hF : f_Trial_runYear v_sea_there v_sea_month v_sea_lost v_sea_heads v_sea_sides v_sea_moods v_sea_moults v_act_kind v_act_one v_act_other v_a3_there v_a3_month v_a3_lost v_a3_heads v_a3_sides v_a3_moods v_a3_moults v_a4_words p1 p2 = some (w_sea_there, w_sea_month, w_sea_lost, w_sea_heads, w_sea_sides, w_sea_moods, w_sea_moults, w_act_kind, w_act_one, w_act_other)) (sz : Nat) : Met l yX10_runYear wsX10_runYear ({ frames := 5, cells := 0, slots := 0, locals := 110 } : Room) (qPc ([.ref o, .int p1, .int p2, .ref b3, .ref b4]) (dC, dI) (qT cI cZ cQ) ([(o, .inr (10, [.ref o_sea, .ref o_act, .int v_isFaulty, .int v_acts, .int v_why, .int v_readings, .int v_signedAll])), (o_sea, .inr (8, [.int v_sea_there, .int v_sea_month, .int v_sea_lost, .ref o_sea_heads, .ref o_sea_sides, .ref o_sea_moods, .ref o_sea_moults])), (o_sea_heads, .inl (cI, 6, .inl v_sea_heads)), (o_sea_sides, .inl (cI, 6, .inl v_sea_sides)), (o_sea_moods, .inl (cI, 6, .inl v_sea_moods)), (o_sea_moults, .inl (cI, 6, .inl v_sea_moults)), (o_act, .inr (0, [.int v_act_kind, .int v_act_one, .int v_act_other])), (b3, .inr (8, [.int v_a3_there, .int v_a3_month, .int v_a3_lost, .ref b3_heads, .ref b3_sides, .ref b3_moods, .ref b3_moults])), (b3_heads, .inl (cI, 6, .inl v_a3_heads)), (b3_sides, .inl (cI, 6, .inl v_a3_sides)), (b3_moods, .inl (cI, 6, .inl v_a3_moods)), (b3_moults, .inl (cI, 6, .inl v_a3_moults)), (b4, .inr (9, [.ref b4_words, .ref b4_clashes])), (b4_words, .inl (cI, 10, .inl v_a4_words))]) sz) (qWv (dC, dI) ([(o, .inr (10, [.ref o_sea, .ref o_act, .int v_isFaulty, .int v_acts, .int v_why, .int v_readings, .int v_signedAll])), (o_sea, .inr (8, [.int w_sea_there, .int w_sea_month, .int w_sea_lost, .ref o_sea_heads, .ref o_sea_sides, .ref o_sea_moods, .ref o_sea_moults])), (o_sea_heads, .inl (cI, 6, .inl w_sea_heads)), (o_sea_sides, .inl (cI, 6, .inl w_sea_sides)), (o_sea_moods, .inl (cI, 6, .inl w_sea_moods)), (o_sea_moults, .inl (cI, 6, .inl w_sea_moults)), (o_act, .inr (0, [.int w_act_kind, .int w_act_one, .int w_act_other])), (b3, .inr (8, [.int v_a3_there, .int v_a3_month, .int v_a3_lost, .ref b3_heads, .ref b3_sides, .ref b3_moods, .ref b3_moults])), (b3_heads, .inl (cI, 6, .inl v_a3_heads)), (b3_sides, .inl (cI, 6, .inl v_a3_sides)), (b3_moods, .inl (cI, 6, .inl v_a3_moods)), (b3_moults, .inl (cI, 6, .inl v_a3_moults)), (b4, .inr (9, [.ref b4_words, .ref b4_clashes])), (b4_words, .inl (cI, 10, .inl v_a4_words))]) (va_A ([(o, .inr (10, [.ref o_sea, .ref o_act, .int v_isFaulty, .int v_acts, .int v_why, .int v_readings, .int v_signedAll])), (o_sea, .inr (8, [.int v_sea_there, .int v_sea_month, .int v_sea_lost, .ref o_sea_heads, .ref o_sea_sides, .ref o_sea_moods, .ref o_sea_moults])), (o_sea_heads, .inl (cI, 6, .inl v_sea_heads)), (o_sea_sides, .inl (cI, 6, .inl v_sea_sides)), (o_sea_moods, .inl (cI, 6, .inl v_sea_moods)), (o_sea_moults, .inl (cI, 6, .inl v_sea_moults)), (o_act, .inr (0, [.int v_act_kind, .int v_act_one, .int v_act_other])), (b3, .inr (8, [.int v_a3_there, .int v_a3_month, .int v_a3_lost, .ref b3_heads, .ref b3_sides, .ref b3_moods, .ref b3_moults])), (b3_heads, .inl (cI, 6, .inl v_a3_heads)), (b3_sides, .inl (cI, 6, .inl v_a3_sides)), (b3_moods, .inl (cI, 6, .inl v_a3_moods)), (b3_moults, .inl (cI, 6, .inl v_a3_moults)), (b4, .inr (9, [.ref b4_words, .ref b4_clashes])), (b4_words, .inl (cI, 10, .inl v_a4_words))]) sz)) 0 0 (va_A ([(o, .inr (10, [.ref o_sea, .ref o_act, .int v_isFaulty, .int v_acts, .int v_why, .int v_readings, .int v_signedAll])), (o_sea, .inr (8, [.int v_sea_there, .int v_sea_month, .int v_sea_lost, .ref o_sea_heads, .ref o_sea_sides, .ref o_sea_moods, .ref o_sea_moults])), (o_sea_heads, .inl (cI, 6, .inl v_sea_heads)), (o_sea_sides, .inl (cI, 6, .inl v_sea_sides)), (o_sea_moods, .inl (cI, 6, .inl v_sea_moods)), (o_sea_moults, .inl (cI, 6, .inl v_sea_moults)), (o_act, .inr (0, [.int v_act_kind, .int v_act_one, .int v_act_other])), (b3, .inr (8, [.int v_a3_there, .int v_a3_month, .int v_a3_lost, .ref b3_heads, .ref b3_sides, .ref b3_moods, .ref b3_moults])), (b3_heads, .inl (cI, 6, .inl v_a3_heads)), (b3_sides, .inl (cI, 6, .inl v_a3_sides)), (b3_moods, .inl (cI, 6, .inl v_a3_moods)), (b3_moults, .inl (cI, 6, .inl v_a3_moults)), (b4, .inr (9, [.ref b4_words, .ref b4_clashes])), (b4_words, .inl (cI, 10, .inl v_a4_words))]) sz) := by
  refine q_met_w (Qc := fun A => qWv (dC, dI) ([(o, .inr (10, [.ref o_sea, .ref o_act, .int v_isFaulty, .int v_acts, .int v_why, .int v_readings, .int v_signedAll])), (o_sea, .inr (8, [.int w_sea_there, .int w_sea_month, .int w_sea_lost, .ref o_sea_heads, .ref o_sea_sides, .ref o_sea_moods, .ref o_sea_moults])), (o_sea_heads, .inl (cI, 6, .inl w_sea_heads)), (o_sea_sides, .inl (cI, 6, .inl w_sea_sides)), (o_sea_moods, .inl (cI, 6, .inl w_sea_moods)), (o_sea_moults, .inl (cI, 6, .inl w_sea_moults)), (o_act, .inr (0, [.int w_act_kind, .int w_act_one, .int w_act_other])), (b3, .inr (8, [.int v_a3_there, .int v_a3_month, .int v_a3_lost, .ref b3_heads, .ref b3_sides, .ref b3_moods, .ref b3_moults])), (b3_heads, .inl (cI, 6, .inl v_a3_heads)), (b3_sides, .inl (cI, 6, .inl v_a3_sides)), (b3_moods, .inl (cI, 6, .inl v_a3_moods)), (b3_moults, .inl (cI, 6, .inl v_a3_moults)), (b4, .inr (9, [.ref b4_words, .ref b4_clashes])), (b4_words, .inl (cI, 10, .inl v_a4_words))]) A) (cc := cX10_runYear) (own := RX10) (maxL := 7) (ret := none) (lv0 := [(0, .ref o), (1, .int p1), (2, .int p2), (3, .ref b3), (4, .ref b4)]) (by decide) rfl rfl rfl (Nat.le_of_ble_eq_true rfl) ?_
  intro p e s m args below meth c A hA C hr hnm Q hQ
  have lk0 : Cond.fieldLink RX10 12 "SealStrait$Trial" "sea" "LSealStrait$Sea;" ∈ wsX10_runYear := by decide +kernel
  have lk1 : ∀ w ∈ u_ws RX10 TX10 7, w ∈ wsX10_runYear := fun w h => List.mem_cons_of_mem _ (List.mem_append_left _ (List.mem_append_left _ (List.mem_append_left _ (List.mem_append_right _ h))))
  have lk2 : Cond.constant RX10 93 (65537 : Int32) ∈ wsX10_runYear := by decide +kernel
  have lk3 : Cond.fieldLink RX10 21 "SealStrait$Trial" "act" "LSealStrait$Act;" ∈ wsX10_runYear := by decide +kernel
  have L1 : ∀ (n : Nat) (x2 : Int32) (x5 : Int32) (x6 : Int32) (v_sea_there : Int32) (v_sea_month : Int32) (v_sea_lost : Int32) (v_sea_heads : Nat → Int32) (v_sea_sides : Nat → Int32) (v_sea_moods : Nat → Int32) (v_sea_moults : Nat → Int32) (v_act_kind : Int32) (v_act_one : Int32) (v_act_other : Int32) (z_sea_there : Int32) (z_sea_month : Int32) (z_sea_lost : Int32) (z_sea_heads : Nat → Int32) (z_sea_sides : Nat → Int32) (z_sea_moods : Nat → Int32) (z_act_kind : Int32) (z_act_one : Int32) (z_act_other : Int32), evr (fun s => b_Trial_runYear_1 x2 v_sea_moults v_a4_words s.1 s.2.1 s.2.2.1 s.2.2.2.1 s.2.2.2.2.1 s.2.2.2.2.2.1 s.2.2.2.2.2.2.1 s.2.2.2.2.2.2.2.1 s.2.2.2.2.2.2.2.2.1 s.2.2.2.2.2.2.2.2.2.1 s.2.2.2.2.2.2.2.2.2.2) n (x5, x6, v_sea_there, v_sea_month, v_sea_lost, v_sea_heads, v_sea_sides, v_sea_moods, v_act_kind, v_act_one, v_act_other) = some (z_sea_there, z_sea_month, z_sea_lost, z_sea_heads, z_sea_sides, z_sea_moods, z_act_kind, z_act_one, z_act_other) → qG p l e ({ frames := 5, cells := 0, slots := 0, locals := 110 } : Room) s m args below meth c 7 (dC, dI) A A Q 0 0 ([]) [] ([(o, .inr (10, [.ref o_sea, .ref o_act, .int v_isFaulty, .int v_acts, .int v_why, .int v_readings, .int v_signedAll])), (o_sea, .inr (8, [.int z_sea_there, .int z_sea_month, .int z_sea_lost, .ref o_sea_heads, .ref o_sea_sides, .ref o_sea_moods, .ref o_sea_moults])), (o_sea_heads, .inl (cI, 6, .inl z_sea_heads)), (o_sea_sides, .inl (cI, 6, .inl z_sea_sides)), (o_sea_moods, .inl (cI, 6, .inl z_sea_moods)), (o_sea_moults, .inl (cI, 6, .inl v_sea_moults)), (o_act, .inr (0, [.int z_act_kind, .int z_act_one, .int z_act_other])), (b3, .inr (8, [.int v_a3_there, .int v_a3_month, .int v_a3_lost, .ref b3_heads, .ref b3_sides, .ref b3_moods, .ref b3_moults])), (b3_heads, .inl (cI, 6, .inl v_a3_heads)), (b3_sides, .inl (cI, 6, .inl v_a3_sides)), (b3_moods, .inl (cI, 6, .inl v_a3_moods)), (b3_moults, .inl (cI, 6, .inl v_a3_moults)), (b4, .inr (9, [.ref b4_words, .ref b4_clashes])), (b4_words, .inl (cI, 10, .inl v_a4_words))]) 77 → qG p l e ({ frames := 5, cells := 0, slots := 0, locals := 110 } : Room) s m args below meth c 7 (dC, dI) A A Q 0 0 ([(0, .ref o), (2, .int x2), (4, .ref b4), (5, .int x5), (6, .int x6)]) [] ([(o, .inr (10, [.ref o_sea, .ref o_act, .int v_isFaulty, .int v_acts, .int v_why, .int v_readings, .int v_signedAll])), (o_sea, .inr (8, [.int v_sea_there, .int v_sea_month, .int v_sea_lost, .ref o_sea_heads, .ref o_sea_sides, .ref o_sea_moods, .ref o_sea_moults])), (o_sea_heads, .inl (cI, 6, .inl v_sea_heads)), (o_sea_sides, .inl (cI, 6, .inl v_sea_sides)), (o_sea_moods, .inl (cI, 6, .inl v_sea_moods)), (o_sea_moults, .inl (cI, 6, .inl v_sea_moults)), (o_act, .inr (0, [.int v_act_kind, .int v_act_one, .int v_act_other])), (b3, .inr (8, [.int v_a3_there, .int v_a3_month, .int v_a3_lost, .ref b3_heads, .ref b3_sides, .ref b3_moods, .ref b3_moults])), (b3_heads, .inl (cI, 6, .inl v_a3_heads)), (b3_sides, .inl (cI, 6, .inl v_a3_sides)), (b3_moods, .inl (cI, 6, .inl v_a3_moods)), (b3_moults, .inl (cI, 6, .inl v_a3_moults)), (b4, .inr (9, [.ref b4_words, .ref b4_clashes])), (b4_words, .inl (cI, 10, .inl v_a4_words))]) 14 := by
    clear hF
    intro n
    induction n with
    | zero => intro x2 x5 x6 v_sea_there v_sea_month v_sea_lost v_sea_heads v_sea_sides v_sea_moods v_sea_moults v_act_kind v_act_one v_act_other z_sea_there z_sea_month z_sea_lost z_sea_heads z_sea_sides z_sea_moods z_act_kind z_act_one z_act_other hF; exact (evr_0 hF).elim
    | succ n ih =>
      intro x2 x5 x6 v_sea_there v_sea_month v_sea_lost v_sea_heads v_sea_sides v_sea_moods v_sea_moults v_act_kind v_act_one v_act_other z_sea_there z_sea_month z_sea_lost z_sea_heads z_sea_sides z_sea_moods z_act_kind z_act_one z_act_other hF hk
      obtain ⟨o9, hB, hn, hx⟩ := evr_c hF
      have hF : b_Trial_runYear_1 x2 v_sea_moults v_a4_words x5 x6 v_sea_there v_sea_month v_sea_lost v_sea_heads v_sea_sides v_sea_moods v_act_kind v_act_one v_act_other = some o9 := hB
      unfold b_Trial_runYear_1 at hF
      refine q_iload C dX10_runYear_14 4 rfl ?_
      refine q_iload_n C dX10_runYear_16 1 rfl rfl ?_
      refine q_icmp_ge (tgt := 77) C dX10_runYear_17 (by decide) (fun c1 => ?_) (fun c1 => ?_)
      · have hF := ite_t hF c1
        cases hF
        have e2 := hx _ rfl
        cases e2
        refine q_lsel [] rfl ?_
        exact hk
      · have hF := ite_f hF c1
        refine q_bipush (v := (75 : Int32)) C dX10_runYear_20 (by decide) ?_
        refine q_iload C dX10_runYear_22 3 rfl ?_
        refine q_imul C dX10_runYear_24 ?_
        refine q_bipush (v := (74 : Int32)) C dX10_runYear_25 (by decide) ?_
        refine q_iadd C dX10_runYear_27 ?_
        refine q_ldc (v := (65537 : Int32)) C lk2 dX10_runYear_28 ?_
        refine q_irem C dX10_runYear_30 (by decide) ?_
        refine q_istore C ([(5, .int ((((75 : Int32) * x5) + (74 : Int32)) - (((75 : Int32) * x5) + (74 : Int32)) / (65537 : Int32) * (65537 : Int32))), (0, .ref o), (2, .int x2), (4, .ref b4), (6, .int x6)]) dX10_runYear_31 (by decide) rfl ?_
        refine q_aload_n C dX10_runYear_33 1 rfl rfl ?_
        refine q_get (C0 := RX10) (T := TX10) (N := 7) (k0 := 1) C lk1 0 rfl rfl (by decide) lk3 rfl (v := .ref o_act) rfl dX10_runYear_34 ?_
        refine q_iload C dX10_runYear_37 0 rfl ?_
        obtain ⟨⟨u3_kind, u3_one, u3_other⟩, hc4, hF⟩ := bind_c hF
        dsimp only at hF
        refine q_rwv hA ([(o, .inr (10, [.ref o_sea, .ref o_act, .int v_isFaulty, .int v_acts, .int v_why, .int v_readings, .int v_signedAll])), (o_sea, .inr (8, [.int v_sea_there, .int v_sea_month, .int v_sea_lost, .ref o_sea_heads, .ref o_sea_sides, .ref o_sea_moods, .ref o_sea_moults])), (o_sea_heads, .inl (cI, 6, .inl v_sea_heads)), (o_sea_sides, .inl (cI, 6, .inl v_sea_sides)), (o_sea_moods, .inl (cI, 6, .inl v_sea_moods)), (o_sea_moults, .inl (cI, 6, .inl v_sea_moults)), (o_act, .inr (0, [.int u3_kind, .int u3_one, .int u3_other])), (b3, .inr (8, [.int v_a3_there, .int v_a3_month, .int v_a3_lost, .ref b3_heads, .ref b3_sides, .ref b3_moods, .ref b3_moults])), (b3_heads, .inl (cI, 6, .inl v_a3_heads)), (b3_sides, .inl (cI, 6, .inl v_a3_sides)), (b3_moods, .inl (cI, 6, .inl v_a3_moods)), (b3_moults, .inl (cI, 6, .inl v_a3_moults)), (b4, .inr (9, [.ref b4_words, .ref b4_clashes])), (b4_words, .inl (cI, 10, .inl v_a4_words))]) [6] [0, 1, 2, 3, 4, 5, 7, 8, 9, 10, 11, 12, 13] rfl rfl rfl (by decide) [0, 1, 2, 3, 4, 5, 13, 6, 7, 8, 9, 10, 11, 12] rfl rfl (q_runV (As := [.int ((((75 : Int32) * x5) + (74 : Int32)) - (((75 : Int32) * x5) + (74 : Int32)) / (65537 : Int32) * (65537 : Int32))]) (rest := []) C (fun sz => c_X0_draw l dC dI cI cZ cQ o_act v_act_kind v_act_one v_act_other ((((75 : Int32) * x5) + (74 : Int32)) - (((75 : Int32) * x5) + (74 : Int32)) / (65537 : Int32) * (65537 : Int32)) u3_kind u3_one u3_other hc4 sz) (cwV 1 C.2.2.2.2.1 gX10_runYear_X0_draw rfl rfl rfl (by decide +kernel) ⟨Nat.le_of_ble_eq_true rfl, Nat.le_of_ble_eq_true rfl⟩) 6 rfl rfl rfl [6] rfl rfl rfl rfl (Nat.le_of_ble_eq_true rfl) dX10_runYear_39 ⟨Nat.zero_le _, Nat.zero_le _⟩) ?_
        refine q_aload_n C dX10_runYear_42 1 rfl rfl ?_
        refine q_get (C0 := RX10) (T := TX10) (N := 7) (k0 := 0) C lk1 0 rfl rfl (by decide) lk0 rfl (v := .ref o_sea) rfl dX10_runYear_43 ?_
        refine q_aload_n C dX10_runYear_46 1 rfl rfl ?_
        refine q_get (C0 := RX10) (T := TX10) (N := 7) (k0 := 1) C lk1 0 rfl rfl (by decide) lk3 rfl (v := .ref o_act) rfl dX10_runYear_47 ?_
        refine q_aload C dX10_runYear_50 3 rfl ?_
        obtain ⟨r5, hc6, hF⟩ := bind_c hF
        refine q_roi (q_runV (As := [.ref o_act, .ref b4]) (rest := []) C (fun sz => c_X8_whyNot l dC dI cI cZ cQ o_sea o_sea_heads o_sea_sides o_sea_moods o_sea_moults o_act b4 b4_words b4_clashes v_sea_there v_sea_month v_sea_heads v_sea_sides v_sea_moods v_sea_moults u3_kind u3_one u3_other v_a4_words v_sea_lost r5 hc6 sz) (cwV 2 C.2.2.2.2.1 gX10_runYear_X8_whyNot rfl rfl rfl (by decide +kernel) ⟨Nat.le_of_ble_eq_true rfl, Nat.le_of_ble_eq_true rfl⟩) 1 rfl rfl rfl [1, 2, 3, 4, 5, 6, 12, 13] rfl rfl rfl rfl (Nat.le_of_ble_eq_true rfl) dX10_runYear_52 ⟨Nat.zero_le _, Nat.zero_le _⟩) ?_
        refine q_if_ne (tgt := 71) C dX10_runYear_55 (by decide) (fun c7 => ?_) (fun c7 => ?_)
        · have hF := ite_f hF c7
          refine q_iinc (v := (x6 + 1)) C ([(6, .int (x6 + 1)), (5, .int ((((75 : Int32) * x5) + (74 : Int32)) - (((75 : Int32) * x5) + (74 : Int32)) / (65537 : Int32) * (65537 : Int32))), (0, .ref o), (2, .int x2), (4, .ref b4)]) dX10_runYear_71 4 rfl rfl (by decide) rfl ?_
          refine q_goto (tgt := 14) C dX10_runYear_74 (by decide) ?_
          cases hF
          refine q_lsel [2, 3, 4, 1, 0] rfl ?_
          exact ih x2 ((((75 : Int32) * x5) + (74 : Int32)) - (((75 : Int32) * x5) + (74 : Int32)) / (65537 : Int32) * (65537 : Int32)) (x6 + 1) v_sea_there v_sea_month v_sea_lost v_sea_heads v_sea_sides v_sea_moods v_sea_moults u3_kind u3_one u3_other z_sea_there z_sea_month z_sea_lost z_sea_heads z_sea_sides z_sea_moods z_act_kind z_act_one z_act_other (hn _ rfl) hk
        · have hF := ite_t hF c7
          refine q_aload_n C dX10_runYear_58 1 rfl rfl ?_
          refine q_get (C0 := RX10) (T := TX10) (N := 7) (k0 := 0) C lk1 0 rfl rfl (by decide) lk0 rfl (v := .ref o_sea) rfl dX10_runYear_59 ?_
          refine q_aload_n C dX10_runYear_62 1 rfl rfl ?_
          refine q_get (C0 := RX10) (T := TX10) (N := 7) (k0 := 1) C lk1 0 rfl rfl (by decide) lk3 rfl (v := .ref o_act) rfl dX10_runYear_63 ?_
          refine q_aload C dX10_runYear_66 3 rfl ?_
          obtain ⟨⟨u8_there, u8_month, u8_lost, u8_heads, u8_sides, u8_moods⟩, hc9, hF⟩ := bind_c hF
          dsimp only at hF
          refine q_rwv hA ([(o, .inr (10, [.ref o_sea, .ref o_act, .int v_isFaulty, .int v_acts, .int v_why, .int v_readings, .int v_signedAll])), (o_sea, .inr (8, [.int u8_there, .int u8_month, .int u8_lost, .ref o_sea_heads, .ref o_sea_sides, .ref o_sea_moods, .ref o_sea_moults])), (o_sea_heads, .inl (cI, 6, .inl u8_heads)), (o_sea_sides, .inl (cI, 6, .inl u8_sides)), (o_sea_moods, .inl (cI, 6, .inl u8_moods)), (o_sea_moults, .inl (cI, 6, .inl v_sea_moults)), (o_act, .inr (0, [.int u3_kind, .int u3_one, .int u3_other])), (b3, .inr (8, [.int v_a3_there, .int v_a3_month, .int v_a3_lost, .ref b3_heads, .ref b3_sides, .ref b3_moods, .ref b3_moults])), (b3_heads, .inl (cI, 6, .inl v_a3_heads)), (b3_sides, .inl (cI, 6, .inl v_a3_sides)), (b3_moods, .inl (cI, 6, .inl v_a3_moods)), (b3_moults, .inl (cI, 6, .inl v_a3_moults)), (b4, .inr (9, [.ref b4_words, .ref b4_clashes])), (b4_words, .inl (cI, 10, .inl v_a4_words))]) [1, 2, 3, 4, 5, 6, 12, 13] [0, 7, 8, 9, 10, 11] rfl rfl rfl (by decide) [0, 6, 7, 8, 9, 10, 11, 1, 2, 3, 4, 5, 12, 13] rfl rfl (q_runV (As := [.ref o_act, .ref b4]) (rest := []) C (fun sz => c_X8_perform l dC dI cI cZ cQ o_sea o_sea_heads o_sea_sides o_sea_moods o_sea_moults o_act b4 b4_words b4_clashes v_sea_there v_sea_month v_sea_lost v_sea_heads v_sea_sides v_sea_moods v_sea_moults u3_kind u3_one u3_other v_a4_words u8_there u8_month u8_lost u8_heads u8_sides u8_moods hc9 sz) (cwV 2 C.2.2.2.2.1 gX10_runYear_X8_perform rfl rfl rfl (by decide +kernel) ⟨Nat.le_of_ble_eq_true rfl, Nat.le_of_ble_eq_true rfl⟩) 1 rfl rfl rfl [1, 2, 3, 4, 5, 6, 12, 13] rfl rfl rfl rfl (Nat.le_of_ble_eq_true rfl) dX10_runYear_68 ⟨Nat.zero_le _, Nat.zero_le _⟩) ?_
          refine q_iinc (v := (x6 + 1)) C ([(6, .int (x6 + 1)), (5, .int ((((75 : Int32) * x5) + (74 : Int32)) - (((75 : Int32) * x5) + (74 : Int32)) / (65537 : Int32) * (65537 : Int32))), (0, .ref o), (2, .int x2), (4, .ref b4)]) dX10_runYear_71 4 rfl rfl (by decide) rfl ?_
          refine q_goto (tgt := 14) C dX10_runYear_74 (by decide) ?_
          cases hF
          refine q_lsel [2, 3, 4, 1, 0] rfl ?_
          exact ih x2 ((((75 : Int32) * x5) + (74 : Int32)) - (((75 : Int32) * x5) + (74 : Int32)) / (65537 : Int32) * (65537 : Int32)) (x6 + 1) u8_there u8_month u8_lost u8_heads u8_sides u8_moods v_sea_moults u3_kind u3_one u3_other z_sea_there z_sea_month z_sea_lost z_sea_heads z_sea_sides z_sea_moods z_act_kind z_act_one z_act_other (hn _ rfl) hk
  unfold f_Trial_runYear at hF
  refine q_aload_n C dX10_runYear_0 0 rfl rfl ?_
  refine q_get (C0 := RX10) (T := TX10) (N := 7) (k0 := 0) C lk1 0 rfl rfl (by decide) lk0 rfl (v := .ref o_sea) rfl dX10_runYear_1 ?_
  refine q_aload_n C dX10_runYear_4 3 rfl rfl ?_
  obtain ⟨⟨u10_there, u10_month, u10_lost, u10_heads, u10_sides, u10_moods, u10_moults⟩, hc11, hF⟩ := bind_c hF
  dsimp only at hF
  refine q_rwv hA ([(o, .inr (10, [.ref o_sea, .ref o_act, .int v_isFaulty, .int v_acts, .int v_why, .int v_readings, .int v_signedAll])), (o_sea, .inr (8, [.int u10_there, .int u10_month, .int u10_lost, .ref o_sea_heads, .ref o_sea_sides, .ref o_sea_moods, .ref o_sea_moults])), (o_sea_heads, .inl (cI, 6, .inl u10_heads)), (o_sea_sides, .inl (cI, 6, .inl u10_sides)), (o_sea_moods, .inl (cI, 6, .inl u10_moods)), (o_sea_moults, .inl (cI, 6, .inl u10_moults)), (o_act, .inr (0, [.int v_act_kind, .int v_act_one, .int v_act_other])), (b3, .inr (8, [.int v_a3_there, .int v_a3_month, .int v_a3_lost, .ref b3_heads, .ref b3_sides, .ref b3_moods, .ref b3_moults])), (b3_heads, .inl (cI, 6, .inl v_a3_heads)), (b3_sides, .inl (cI, 6, .inl v_a3_sides)), (b3_moods, .inl (cI, 6, .inl v_a3_moods)), (b3_moults, .inl (cI, 6, .inl v_a3_moults)), (b4, .inr (9, [.ref b4_words, .ref b4_clashes])), (b4_words, .inl (cI, 10, .inl v_a4_words))]) [1, 2, 3, 4, 5, 7, 8, 9, 10, 11] [0, 6, 12, 13] rfl rfl rfl (by decide) [0, 4, 5, 6, 7, 8, 1, 9, 10, 11, 12, 13, 2, 3] rfl rfl (q_runV (As := [.ref b3]) (rest := []) C (fun sz => c_X8_copyFrom l dC dI cI cZ cQ o_sea o_sea_heads o_sea_sides o_sea_moods o_sea_moults b3 b3_heads b3_sides b3_moods b3_moults v_sea_there v_sea_month v_sea_lost v_sea_heads v_sea_sides v_sea_moods v_sea_moults v_a3_there v_a3_month v_a3_lost v_a3_heads v_a3_sides v_a3_moods v_a3_moults u10_there u10_month u10_lost u10_heads u10_sides u10_moods u10_moults hc11 sz) (cwV 1 C.2.2.2.2.1 gX10_runYear_X8_copyFrom rfl rfl rfl (by decide +kernel) ⟨Nat.le_of_ble_eq_true rfl, Nat.le_of_ble_eq_true rfl⟩) 1 rfl rfl rfl [1, 2, 3, 4, 5, 7, 8, 9, 10, 11] rfl rfl rfl rfl (Nat.le_of_ble_eq_true rfl) dX10_runYear_5 ⟨Nat.zero_le _, Nat.zero_le _⟩) ?_
  refine q_iload_n C dX10_runYear_8 1 rfl rfl ?_
  refine q_istore C ([(5, .int p1), (0, .ref o), (1, .int p1), (2, .int p2), (3, .ref b3), (4, .ref b4)]) dX10_runYear_9 (by decide) rfl ?_
  refine q_iconst (v := (0 : Int32)) C dX10_runYear_11 (by decide) ?_
  refine q_istore C ([(6, .int (0 : Int32)), (5, .int p1), (0, .ref o), (1, .int p1), (2, .int p2), (3, .ref b3), (4, .ref b4)]) dX10_runYear_12 (by decide) rfl ?_
  obtain ⟨⟨z12_sea_there, z12_sea_month, z12_sea_lost, z12_sea_heads, z12_sea_sides, z12_sea_moods, z12_act_kind, z12_act_one, z12_act_other⟩, hc13, hF⟩ := bind_c hF
  dsimp only at hF
  obtain ⟨n14, hc13⟩ := (ev_iff _ _ _).mp hc13
  refine q_lsel [2, 4, 6, 1, 0] rfl ?_
  refine L1 n14 p2 p1 (0 : Int32) u10_there u10_month u10_lost u10_heads u10_sides u10_moods u10_moults v_act_kind v_act_one v_act_other z12_sea_there z12_sea_month z12_sea_lost z12_sea_heads z12_sea_sides z12_sea_moods z12_act_kind z12_act_one z12_act_other hc13 ?_
  cases hF
  exact q_wretv C hr dX10_runYear_77 hQ
