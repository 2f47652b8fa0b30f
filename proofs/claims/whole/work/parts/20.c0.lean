set_option maxRecDepth 100000 in
set_option maxHeartbeats 4000000 in
theorem c_X0_set (l : Launch) (dC : Nat → ClassId) (dI : Nat → Nat → Nat) (cI cZ cQ : ClassId) (o : Nat) (v_kind : Int32) (v_one : Int32) (v_other : Int32) (p1 : Int32) (p2 : Int32) (p3 : Int32) (w_kind : Int32) (w_one : Int32) (w_other : Int32) (hF : f_Act_set v_kind v_one v_other p1 p2 p3 = some (w_kind, w_one, w_other)) (sz : Nat) : Met l yX0_set wsX0_set ({ frames := 0, cells := 0, slots := 0, locals := 0 } : Room) (qPc ([.ref o, .int p1, .int p2, .int p3]) (dC, dI) (qT cI cZ cQ) ([(o, .inr (0, [.int v_kind, .int v_one, .int v_other]))]) sz) (qWv (dC, dI) ([(o, .inr (0, [.int w_kind, .int w_one, .int w_other]))]) (va_A ([(o, .inr (0, [.int v_kind, .int v_one, .int v_other]))]) sz)) 0 0 (va_A ([(o, .inr (0, [.int v_kind, .int v_one, .int v_other]))]) sz) := by
  refine q_met_w (Qc := fun A => qWv (dC, dI) ([(o, .inr (0, [.int w_kind, .int w_one, .int w_other]))]) A) (cc := cX0_set) (own := RX0) (maxL := 4) (ret := none) (lv0 := [(0, .ref o), (1, .int p1), (2, .int p2), (3, .int p3)]) (by decide) rfl rfl rfl (Nat.le_of_ble_eq_true rfl) ?_
  intro p e s m args below meth c A hA C hr hnm Q hQ
  have lk0 : Cond.fieldLink RX0 9 "SealStrait$Act" "kind" "I" ∈ wsX0_set := by decide +kernel
  have lk1 : ∀ w ∈ u_ws RX0 TX0 3, w ∈ wsX0_set := fun w h => List.mem_cons_of_mem _ (List.mem_append_right _ h)
  have lk2 : Cond.fieldLink RX0 15 "SealStrait$Act" "one" "I" ∈ wsX0_set := by decide +kernel
  have lk3 : Cond.fieldLink RX0 18 "SealStrait$Act" "other" "I" ∈ wsX0_set := by decide +kernel
  unfold f_Act_set at hF
  refine q_aload_n C dX0_set_0 0 rfl rfl ?_
  refine q_iload_n C dX0_set_1 1 rfl rfl ?_
  refine q_put (C0 := RX0) (T := TX0) (N := 3) (k0 := 0) C lk1 0 rfl rfl (by decide) lk0 rfl tyX0 tyX0_ok nmX0 rfl (v := .int p1) rfl rfl (Nat.le_of_ble_eq_true rfl) ([(o, .inr (0, [.int p1, .int v_one, .int v_other]))]) rfl dX0_set_2 ?_
  refine q_aload_n C dX0_set_5 0 rfl rfl ?_
  refine q_iload_n C dX0_set_6 2 rfl rfl ?_
  refine q_put (C0 := RX0) (T := TX0) (N := 3) (k0 := 1) C lk1 0 rfl rfl (by decide) lk2 rfl tyX0 tyX0_ok nmX0 rfl (v := .int p2) rfl rfl (Nat.le_of_ble_eq_true rfl) ([(o, .inr (0, [.int p1, .int p2, .int v_other]))]) rfl dX0_set_7 ?_
  refine q_aload_n C dX0_set_10 0 rfl rfl ?_
  refine q_iload_n C dX0_set_11 3 rfl rfl ?_
  refine q_put (C0 := RX0) (T := TX0) (N := 3) (k0 := 2) C lk1 0 rfl rfl (by decide) lk3 rfl tyX0 tyX0_ok nmX0 rfl (v := .int p3) rfl rfl (Nat.le_of_ble_eq_true rfl) ([(o, .inr (0, [.int p1, .int p2, .int p3]))]) rfl dX0_set_12 ?_
  cases hF
  exact q_wretv C hr dX0_set_15 hQ
set_option maxRecDepth 100000 in
set_option maxHeartbeats 4000000 in
theorem c_X7_signAt (l : Launch) (dC : Nat → ClassId) (dI : Nat → Nat → Nat) (cI cZ cQ : ClassId) (o o_signs : Nat) (v_signs : Nat → Int32) (v_size : Int32) (p1 : Int32) (R : Int32) (hF : f_Pad_signAt v_signs v_size p1 = some R) (sz : Nat) : Met l yX7_signAt wsX7_signAt ({ frames := 0, cells := 0, slots := 0, locals := 0 } : Room) (qPc ([.ref o, .int p1]) (dC, dI) (qT cI cZ cQ) ([(o, .inr (7, [.ref o_signs, .int v_size])), (o_signs, .inl (cI, 60, .inl v_signs))]) sz) (qRi R) 0 0 (fun _ => False) := by
  refine q_met_r (cc := cX7_signAt) (own := RX7) (maxL := 2) (ret := (some .int)) (lv0 := [(0, .ref o), (1, .int p1)]) (by decide) rfl rfl rfl (Nat.le_of_ble_eq_true rfl) ?_
  intro p e s m args below meth c C hr A A' Q hA0 hQ
  have lk0 : Cond.fieldLink RX7 15 "SealStrait$Pad" "size" "I" ∈ wsX7_signAt := by decide +kernel
  have lk1 : ∀ w ∈ u_ws RX7 TX7 2, w ∈ wsX7_signAt := fun w h => List.mem_cons_of_mem _ (List.mem_append_right _ h)
  have lk2 : Cond.fieldLink RX7 11 "SealStrait$Pad" "signs" "[I" ∈ wsX7_signAt := by decide +kernel
  unfold f_Pad_signAt at hF
  refine q_iload_n C dX7_signAt_0 1 rfl rfl ?_
  refine q_if_lt (tgt := 27) C dX7_signAt_1 (by decide) (fun c1 => ?_) (fun c1 => ?_)
  · have hF := ite_t hF c1
    refine q_iconst (v := (0 : Int32)) C dX7_signAt_27 (by decide) ?_
    cases hF
    exact q_ireti C hA0 hr dX7_signAt_28 hQ
  · have hF := ite_f hF c1
    refine q_iload_n C dX7_signAt_4 1 rfl rfl ?_
    refine q_aload_n C dX7_signAt_5 0 rfl rfl ?_
    refine q_get (C0 := RX7) (T := TX7) (N := 2) (k0 := 1) C lk1 0 rfl rfl (by decide) lk0 rfl (v := .int v_size) rfl dX7_signAt_6 ?_
    refine q_icmp_ge (tgt := 27) C dX7_signAt_9 (by decide) (fun c2 => ?_) (fun c2 => ?_)
    · have hF := ite_t hF c2
      refine q_iconst (v := (0 : Int32)) C dX7_signAt_27 (by decide) ?_
      cases hF
      exact q_ireti C hA0 hr dX7_signAt_28 hQ
    · have hF := ite_f hF c2
      refine q_iload_n C dX7_signAt_12 1 rfl rfl ?_
      refine q_bipush (v := (60 : Int32)) C dX7_signAt_13 (by decide) ?_
      refine q_icmp_ge (tgt := 27) C dX7_signAt_15 (by decide) (fun c3 => ?_) (fun c3 => ?_)
      · have hF := ite_t hF c3
        refine q_iconst (v := (0 : Int32)) C dX7_signAt_27 (by decide) ?_
        cases hF
        exact q_ireti C hA0 hr dX7_signAt_28 hQ
      · have hF := ite_f hF c3
        refine q_aload_n C dX7_signAt_18 0 rfl rfl ?_
        refine q_get (C0 := RX7) (T := TX7) (N := 2) (k0 := 0) C lk1 0 rfl rfl (by decide) lk2 rfl (v := .ref o_signs) rfl dX7_signAt_19 ?_
        refine q_iload_n C dX7_signAt_22 1 rfl rfl ?_
        obtain ⟨hc4, hF⟩ := ite_c hF
        refine q_iald C 1 0 rfl rfl (ix_in hc4) dX7_signAt_23 ?_
        refine q_goto (tgt := 28) C dX7_signAt_24 (by decide) ?_
        cases hF
        exact q_ireti C hA0 hr dX7_signAt_28 hQ
set_option maxRecDepth 100000 in
set_option maxHeartbeats 4000000 in
theorem c_X11_within (l : Launch) (dC : Nat → ClassId) (dI : Nat → Nat → Nat) (cI cZ cQ : ClassId) (p1 : Int32) (p2 : Int32) (p3 : Int32) (R : Int32) (hF : f_Strait_within p1 p2 p3 = R) (sz : Nat) : Met l yX11_within wsX11_within ({ frames := 0, cells := 0, slots := 0, locals := 0 } : Room) (qPc ([.int p1, .int p2, .int p3]) (dC, dI) (qT cI cZ cQ) ([]) sz) (qRz R) 0 0 (fun _ => False) := by
  refine q_met_r (cc := cX11_within) (own := RX11) (maxL := 3) (ret := (some .boolean)) (lv0 := [(0, .int p1), (1, .int p2), (2, .int p3)]) (by decide) rfl rfl rfl (Nat.le_of_ble_eq_true rfl) ?_
  intro p e s m args below meth c C hr A A' Q hA0 hQ
  unfold f_Strait_within at hF
  refine q_iload_n C dX11_within_0 0 rfl rfl ?_
  refine q_iload_n C dX11_within_1 1 rfl rfl ?_
  refine q_icmp_lt (tgt := 14) C dX11_within_2 (by decide) (fun c1 => ?_) (fun c1 => ?_)
  · have hF := ite_t hF c1
    refine q_iconst (v := (0 : Int32)) C dX11_within_14 (by decide) ?_
    subst hF
    exact q_iretz C hA0 hr (Or.inl rfl) dX11_within_15 hQ
  · have hF := ite_f hF c1
    refine q_iload_n C dX11_within_5 0 rfl rfl ?_
    refine q_iload_n C dX11_within_6 2 rfl rfl ?_
    refine q_icmp_gt (tgt := 14) C dX11_within_7 (by decide) (fun c2 => ?_) (fun c2 => ?_)
    · have hF := ite_t hF c2
      refine q_iconst (v := (0 : Int32)) C dX11_within_14 (by decide) ?_
      subst hF
      exact q_iretz C hA0 hr (Or.inl rfl) dX11_within_15 hQ
    · have hF := ite_f hF c2
      refine q_iconst (v := (1 : Int32)) C dX11_within_10 (by decide) ?_
      refine q_goto (tgt := 15) C dX11_within_11 (by decide) ?_
      subst hF
      exact q_iretz C hA0 hr (Or.inr rfl) dX11_within_15 hQ
set_option maxRecDepth 100000 in
set_option maxHeartbeats 4000000 in
theorem c_X7_isHerd (l : Launch) (dC : Nat → ClassId) (dI : Nat → Nat → Nat) (cI cZ cQ : ClassId) (p1 : Int32) (R : Int32) (hF : f_Pad_isHerd p1 = R) (sz : Nat) : Met l yX7_isHerd wsX7_isHerd ({ frames := 1, cells := 0, slots := 0, locals := 22 } : Room) (qPc ([.int p1]) (dC, dI) (qT cI cZ cQ) ([]) sz) (qRz R) 0 0 (fun _ => False) := by
  refine q_met_r (cc := cX7_isHerd) (own := RX7) (maxL := 1) (ret := (some .boolean)) (lv0 := [(0, .int p1)]) (by decide) rfl rfl rfl (Nat.le_of_ble_eq_true rfl) ?_
  intro p e s m args below meth c C hr A A' Q hA0 hQ
  have lk0 : Cond.initialized RX11 ∈ wsX7_isHerd := by decide +kernel
  have lk1 : Cond.static yX11_within ∈ wsX7_isHerd := by decide +kernel
  have lk2 : (RX7, 30, yX11_within) ∈ qNest := by decide +kernel
  unfold f_Pad_isHerd at hF
  refine q_iload_n C dX7_isHerd_0 0 rfl rfl ?_
  refine q_bipush (v := (65 : Int32)) C dX7_isHerd_1 (by decide) ?_
  refine q_bipush (v := (70 : Int32)) C dX7_isHerd_3 (by decide) ?_
  refine q_roz (q_runSN (As := [.int p1, .int (65 : Int32), .int (70 : Int32)]) (rest := []) (n := 3) C (fun sz => c_X11_within l dC dI cI cZ cQ p1 (65 : Int32) (70 : Int32) (f_Strait_within p1 (65 : Int32) (70 : Int32)) rfl sz) gX7_isHerd_X11_within_n30 rfl rfl rfl lk2 lk0 lk1 (by decide +kernel) ⟨Nat.le_of_ble_eq_true rfl, Nat.le_of_ble_eq_true rfl⟩ [] rfl rfl rfl rfl (Nat.le_of_ble_eq_true rfl) dX7_isHerd_5 ⟨Nat.zero_le _, Nat.zero_le _⟩) (fun hz1 => ?_)
  subst hF
  exact q_iretz C hA0 hr hz1 dX7_isHerd_8 hQ
set_option maxRecDepth 100000 in
set_option maxHeartbeats 4000000 in
theorem c_X0_takeFrom (l : Launch) (dC : Nat → ClassId) (dI : Nat → Nat → Nat) (cI cZ cQ : ClassId) (o b1 b1_signs : Nat) (v_kind : Int32) (v_one : Int32) (v_other : Int32) (v_a1_signs : Nat → Int32) (v_a1_size : Int32) (p2 : Int32) (R : Int32) (w_kind : Int32) (w_one : Int32) (w_other : Int32) (hF : f_Act_takeFrom v_kind v_one v_other v_a1_signs v_a1_size p2 = some (R, w_kind, w_one, w_other)) (sz : Nat) : Met l yX0_takeFrom wsX0_takeFrom ({ frames := 2, cells := 0, slots := 0, locals := 42 } : Room) (qPc ([.ref o, .ref b1, .int p2]) (dC, dI) (qT cI cZ cQ) ([(o, .inr (0, [.int v_kind, .int v_one, .int v_other])), (b1, .inr (7, [.ref b1_signs, .int v_a1_size])), (b1_signs, .inl (cI, 60, .inl v_a1_signs))]) sz) (qWi R (dC, dI) ([(o, .inr (0, [.int w_kind, .int w_one, .int w_other])), (b1, .inr (7, [.ref b1_signs, .int v_a1_size])), (b1_signs, .inl (cI, 60, .inl v_a1_signs))]) (va_A ([(o, .inr (0, [.int v_kind, .int v_one, .int v_other])), (b1, .inr (7, [.ref b1_signs, .int v_a1_size])), (b1_signs, .inl (cI, 60, .inl v_a1_signs))]) sz)) 0 0 (va_A ([(o, .inr (0, [.int v_kind, .int v_one, .int v_other])), (b1, .inr (7, [.ref b1_signs, .int v_a1_size])), (b1_signs, .inl (cI, 60, .inl v_a1_signs))]) sz) := by
  refine q_met_w (Qc := fun A => qWi R (dC, dI) ([(o, .inr (0, [.int w_kind, .int w_one, .int w_other])), (b1, .inr (7, [.ref b1_signs, .int v_a1_size])), (b1_signs, .inl (cI, 60, .inl v_a1_signs))]) A) (cc := cX0_takeFrom) (own := RX0) (maxL := 5) (ret := (some .int)) (lv0 := [(0, .ref o), (1, .ref b1), (2, .int p2)]) (by decide) rfl rfl rfl (Nat.le_of_ble_eq_true rfl) ?_
  intro p e s m args below meth c A hA C hr hnm Q hQ
  unfold f_Act_takeFrom at hF
  refine q_aload_n C dX0_takeFrom_0 1 rfl rfl ?_
  refine q_iload_n C dX0_takeFrom_1 2 rfl rfl ?_
  obtain ⟨r1, hc2, hF⟩ := bind_c hF
  refine q_roi (q_runV (As := [.int p2]) (rest := []) C (fun sz => c_X7_signAt l dC dI cI cZ cQ b1 b1_signs v_a1_signs v_a1_size p2 r1 hc2 sz) (cwV 1 C.2.2.2.2.1 gX0_takeFrom_X7_signAt rfl rfl rfl (by decide +kernel) ⟨Nat.le_of_ble_eq_true rfl, Nat.le_of_ble_eq_true rfl⟩) 1 rfl rfl rfl [1, 2] rfl rfl rfl rfl (Nat.le_of_ble_eq_true rfl) dX0_takeFrom_2 ⟨Nat.zero_le _, Nat.zero_le _⟩) ?_
  refine q_istore_n C ([(3, .int r1), (0, .ref o), (1, .ref b1), (2, .int p2)]) dX0_takeFrom_5 rfl (by decide) rfl ?_
  refine q_iload_n C dX0_takeFrom_6 0 rfl rfl ?_
  refine q_roz (q_runS (As := [.int r1]) (rest := []) C (fun sz => c_X7_isHerd l dC dI cI cZ cQ r1 (f_Pad_isHerd r1) rfl sz) (va_cwS 1 C.2.2.2.2.1 gX0_takeFrom_X7_isHerd rfl rfl rfl (by decide +kernel) ⟨Nat.le_of_ble_eq_true rfl, Nat.le_of_ble_eq_true rfl⟩) [] rfl rfl rfl rfl (Nat.le_of_ble_eq_true rfl) dX0_takeFrom_7 ⟨Nat.zero_le _, Nat.zero_le _⟩) (fun hz3 => ?_)
  refine q_if_ne (tgt := 35) C dX0_takeFrom_10 (by decide) (fun c4 => ?_) (fun c4 => ?_)
  · have hF := ite_f hF c4
    refine q_aload_n C dX0_takeFrom_35 2 rfl rfl ?_
    refine q_iload_n C dX0_takeFrom_36 3 rfl rfl ?_
    refine q_iconst (v := (1 : Int32)) C dX0_takeFrom_37 (by decide) ?_
    refine q_iadd C dX0_takeFrom_38 ?_
    obtain ⟨r5, hc6, hF⟩ := bind_c hF
    refine q_roi (q_runV (As := [.int (p2 + (1 : Int32))]) (rest := []) C (fun sz => c_X7_signAt l dC dI cI cZ cQ b1 b1_signs v_a1_signs v_a1_size (p2 + (1 : Int32)) r5 hc6 sz) (cwV 1 C.2.2.2.2.1 gX0_takeFrom_X7_signAt rfl rfl rfl (by decide +kernel) ⟨Nat.le_of_ble_eq_true rfl, Nat.le_of_ble_eq_true rfl⟩) 1 rfl rfl rfl [1, 2] rfl rfl rfl rfl (Nat.le_of_ble_eq_true rfl) dX0_takeFrom_39 ⟨Nat.zero_le _, Nat.zero_le _⟩) ?_
    refine q_istore C ([(4, .int r5), (3, .int r1), (0, .ref o), (1, .ref b1), (2, .int p2)]) dX0_takeFrom_42 (by decide) rfl ?_
    refine q_iload C dX0_takeFrom_44 0 rfl ?_
    refine q_bipush (v := (38 : Int32)) C dX0_takeFrom_46 (by decide) ?_
    refine q_icmp_ne (tgt := 72) C dX0_takeFrom_48 (by decide) (fun c7 => ?_) (fun c7 => ?_)
    · have hF := ite_f hF c7
      refine q_aload_n C dX0_takeFrom_72 2 rfl rfl ?_
      refine q_iload C dX0_takeFrom_73 0 rfl ?_
      refine q_bipush (v := (63 : Int32)) C dX0_takeFrom_75 (by decide) ?_
      refine q_icmp_ne (tgt := 84) C dX0_takeFrom_77 (by decide) (fun c8 => ?_) (fun c8 => ?_)
      · have hF := ite_f hF c8
        refine q_iconst (v := (2 : Int32)) C dX0_takeFrom_84 (by decide) ?_
        refine q_iload_n C dX0_takeFrom_85 1 rfl rfl ?_
        refine q_bipush (v := (65 : Int32)) C dX0_takeFrom_86 (by decide) ?_
        refine q_isub C dX0_takeFrom_88 ?_
        refine q_iconst (v := (0 : Int32)) C dX0_takeFrom_89 (by decide) ?_
        obtain ⟨⟨u9_kind, u9_one, u9_other⟩, hc10, hF⟩ := bind_c hF
        dsimp only at hF
        refine q_rwv hA ([(o, .inr (0, [.int u9_kind, .int u9_one, .int u9_other])), (b1, .inr (7, [.ref b1_signs, .int v_a1_size])), (b1_signs, .inl (cI, 60, .inl v_a1_signs))]) [0] [1, 2] rfl rfl rfl (by decide) [2, 0, 1] rfl rfl (q_runV (As := [.int (2 : Int32), .int (r1 - (65 : Int32)), .int (0 : Int32)]) (rest := []) C (fun sz => c_X0_set l dC dI cI cZ cQ o v_kind v_one v_other (2 : Int32) (r1 - (65 : Int32)) (0 : Int32) u9_kind u9_one u9_other hc10 sz) (cwV 3 C.2.2.2.2.1 gX0_takeFrom_X0_set rfl rfl rfl (by decide +kernel) ⟨Nat.le_of_ble_eq_true rfl, Nat.le_of_ble_eq_true rfl⟩) 0 rfl rfl rfl [0] rfl rfl rfl rfl (Nat.le_of_ble_eq_true rfl) dX0_takeFrom_90 ⟨Nat.zero_le _, Nat.zero_le _⟩) ?_
        refine q_iconst (v := (2 : Int32)) C dX0_takeFrom_93 (by decide) ?_
        cases hF
        exact q_wreti C hr dX0_takeFrom_94 hQ
      · have hF := ite_t hF c8
        refine q_iconst (v := (1 : Int32)) C dX0_takeFrom_80 (by decide) ?_
        refine q_goto (tgt := 85) C dX0_takeFrom_81 (by decide) ?_
        refine q_iload_n C dX0_takeFrom_85 1 rfl rfl ?_
        refine q_bipush (v := (65 : Int32)) C dX0_takeFrom_86 (by decide) ?_
        refine q_isub C dX0_takeFrom_88 ?_
        refine q_iconst (v := (0 : Int32)) C dX0_takeFrom_89 (by decide) ?_
        obtain ⟨⟨u11_kind, u11_one, u11_other⟩, hc12, hF⟩ := bind_c hF
        dsimp only at hF
        refine q_rwv hA ([(o, .inr (0, [.int u11_kind, .int u11_one, .int u11_other])), (b1, .inr (7, [.ref b1_signs, .int v_a1_size])), (b1_signs, .inl (cI, 60, .inl v_a1_signs))]) [0] [1, 2] rfl rfl rfl (by decide) [2, 0, 1] rfl rfl (q_runV (As := [.int (1 : Int32), .int (r1 - (65 : Int32)), .int (0 : Int32)]) (rest := []) C (fun sz => c_X0_set l dC dI cI cZ cQ o v_kind v_one v_other (1 : Int32) (r1 - (65 : Int32)) (0 : Int32) u11_kind u11_one u11_other hc12 sz) (cwV 3 C.2.2.2.2.1 gX0_takeFrom_X0_set rfl rfl rfl (by decide +kernel) ⟨Nat.le_of_ble_eq_true rfl, Nat.le_of_ble_eq_true rfl⟩) 0 rfl rfl rfl [0] rfl rfl rfl rfl (Nat.le_of_ble_eq_true rfl) dX0_takeFrom_90 ⟨Nat.zero_le _, Nat.zero_le _⟩) ?_
        refine q_iconst (v := (2 : Int32)) C dX0_takeFrom_93 (by decide) ?_
        cases hF
        exact q_wreti C hr dX0_takeFrom_94 hQ
    · have hF := ite_t hF c7
      refine q_aload_n C dX0_takeFrom_51 2 rfl rfl ?_
      refine q_iconst (v := (3 : Int32)) C dX0_takeFrom_52 (by decide) ?_
      refine q_iload_n C dX0_takeFrom_53 1 rfl rfl ?_
      refine q_bipush (v := (65 : Int32)) C dX0_takeFrom_54 (by decide) ?_
      refine q_isub C dX0_takeFrom_56 ?_
      refine q_aload_n C dX0_takeFrom_57 3 rfl rfl ?_
      refine q_iload_n C dX0_takeFrom_58 4 rfl rfl ?_
      refine q_iconst (v := (2 : Int32)) C dX0_takeFrom_59 (by decide) ?_
      refine q_iadd C dX0_takeFrom_60 ?_
      obtain ⟨r13, hc14, hF⟩ := bind_c hF
      refine q_roi (q_runV (As := [.int (p2 + (2 : Int32))]) (rest := [.int (r1 - (65 : Int32)), .int (3 : Int32), .ref o]) C (fun sz => c_X7_signAt l dC dI cI cZ cQ b1 b1_signs v_a1_signs v_a1_size (p2 + (2 : Int32)) r13 hc14 sz) (cwV 1 C.2.2.2.2.1 gX0_takeFrom_X7_signAt rfl rfl rfl (by decide +kernel) ⟨Nat.le_of_ble_eq_true rfl, Nat.le_of_ble_eq_true rfl⟩) 1 rfl rfl rfl [1, 2] rfl rfl rfl rfl (Nat.le_of_ble_eq_true rfl) dX0_takeFrom_61 ⟨Nat.zero_le _, Nat.zero_le _⟩) ?_
      refine q_bipush (v := (65 : Int32)) C dX0_takeFrom_64 (by decide) ?_
      refine q_isub C dX0_takeFrom_66 ?_
      obtain ⟨⟨u15_kind, u15_one, u15_other⟩, hc16, hF⟩ := bind_c hF
      dsimp only at hF
      refine q_rwv hA ([(o, .inr (0, [.int u15_kind, .int u15_one, .int u15_other])), (b1, .inr (7, [.ref b1_signs, .int v_a1_size])), (b1_signs, .inl (cI, 60, .inl v_a1_signs))]) [0] [1, 2] rfl rfl rfl (by decide) [2, 0, 1] rfl rfl (q_runV (As := [.int (3 : Int32), .int (r1 - (65 : Int32)), .int (r13 - (65 : Int32))]) (rest := []) C (fun sz => c_X0_set l dC dI cI cZ cQ o v_kind v_one v_other (3 : Int32) (r1 - (65 : Int32)) (r13 - (65 : Int32)) u15_kind u15_one u15_other hc16 sz) (cwV 3 C.2.2.2.2.1 gX0_takeFrom_X0_set rfl rfl rfl (by decide +kernel) ⟨Nat.le_of_ble_eq_true rfl, Nat.le_of_ble_eq_true rfl⟩) 0 rfl rfl rfl [0] rfl rfl rfl rfl (Nat.le_of_ble_eq_true rfl) dX0_takeFrom_67 ⟨Nat.zero_le _, Nat.zero_le _⟩) ?_
      refine q_iconst (v := (3 : Int32)) C dX0_takeFrom_70 (by decide) ?_
      cases hF
      exact q_wreti C hr dX0_takeFrom_71 hQ
  · have hF := ite_t hF c4
    refine q_aload_n C dX0_takeFrom_13 1 rfl rfl ?_
    refine q_iload_n C dX0_takeFrom_14 0 rfl rfl ?_
    refine q_bipush (v := (46 : Int32)) C dX0_takeFrom_15 (by decide) ?_
    refine q_icmp_ne (tgt := 24) C dX0_takeFrom_17 (by decide) (fun c17 => ?_) (fun c17 => ?_)
    · have hF := ite_f hF c17
      refine q_iconst (v := (0 : Int32)) C dX0_takeFrom_24 (by decide) ?_
      refine q_iload_n C dX0_takeFrom_25 0 rfl rfl ?_
      refine q_bipush (v := (97 : Int32)) C dX0_takeFrom_26 (by decide) ?_
      refine q_isub C dX0_takeFrom_28 ?_
      refine q_iconst (v := (0 : Int32)) C dX0_takeFrom_29 (by decide) ?_
      obtain ⟨⟨u18_kind, u18_one, u18_other⟩, hc19, hF⟩ := bind_c hF
      dsimp only at hF
      refine q_rwv hA ([(o, .inr (0, [.int u18_kind, .int u18_one, .int u18_other])), (b1, .inr (7, [.ref b1_signs, .int v_a1_size])), (b1_signs, .inl (cI, 60, .inl v_a1_signs))]) [0] [1, 2] rfl rfl rfl (by decide) [2, 0, 1] rfl rfl (q_runV (As := [.int (0 : Int32), .int (r1 - (97 : Int32)), .int (0 : Int32)]) (rest := []) C (fun sz => c_X0_set l dC dI cI cZ cQ o v_kind v_one v_other (0 : Int32) (r1 - (97 : Int32)) (0 : Int32) u18_kind u18_one u18_other hc19 sz) (cwV 3 C.2.2.2.2.1 gX0_takeFrom_X0_set rfl rfl rfl (by decide +kernel) ⟨Nat.le_of_ble_eq_true rfl, Nat.le_of_ble_eq_true rfl⟩) 0 rfl rfl rfl [0] rfl rfl rfl rfl (Nat.le_of_ble_eq_true rfl) dX0_takeFrom_30 ⟨Nat.zero_le _, Nat.zero_le _⟩) ?_
      refine q_iconst (v := (1 : Int32)) C dX0_takeFrom_33 (by decide) ?_
      cases hF
      exact q_wreti C hr dX0_takeFrom_34 hQ
    · have hF := ite_t hF c17
      refine q_iconst (v := (4 : Int32)) C dX0_takeFrom_20 (by decide) ?_
      refine q_goto (tgt := 25) C dX0_takeFrom_21 (by decide) ?_
      refine q_iload_n C dX0_takeFrom_25 0 rfl rfl ?_
      refine q_bipush (v := (97 : Int32)) C dX0_takeFrom_26 (by decide) ?_
      refine q_isub C dX0_takeFrom_28 ?_
      refine q_iconst (v := (0 : Int32)) C dX0_takeFrom_29 (by decide) ?_
      obtain ⟨⟨u20_kind, u20_one, u20_other⟩, hc21, hF⟩ := bind_c hF
      dsimp only at hF
      refine q_rwv hA ([(o, .inr (0, [.int u20_kind, .int u20_one, .int u20_other])), (b1, .inr (7, [.ref b1_signs, .int v_a1_size])), (b1_signs, .inl (cI, 60, .inl v_a1_signs))]) [0] [1, 2] rfl rfl rfl (by decide) [2, 0, 1] rfl rfl (q_runV (As := [.int (4 : Int32), .int (r1 - (97 : Int32)), .int (0 : Int32)]) (rest := []) C (fun sz => c_X0_set l dC dI cI cZ cQ o v_kind v_one v_other (4 : Int32) (r1 - (97 : Int32)) (0 : Int32) u20_kind u20_one u20_other hc21 sz) (cwV 3 C.2.2.2.2.1 gX0_takeFrom_X0_set rfl rfl rfl (by decide +kernel) ⟨Nat.le_of_ble_eq_true rfl, Nat.le_of_ble_eq_true rfl⟩) 0 rfl rfl rfl [0] rfl rfl rfl rfl (Nat.le_of_ble_eq_true rfl) dX0_takeFrom_30 ⟨Nat.zero_le _, Nat.zero_le _⟩) ?_
      refine q_iconst (v := (1 : Int32)) C dX0_takeFrom_33 (by decide) ?_
      cases hF
      exact q_wreti C hr dX0_takeFrom_34 hQ
set_option maxRecDepth 100000 in
set_option maxHeartbeats 4000000 in
theorem c_X0_draw (l : Launch) (dC : Nat → ClassId) (dI : Nat → Nat → Nat) (cI cZ cQ : ClassId) (o : Nat) (v_kind : Int32) (v_one : Int32) (v_other : Int32) (p1 : Int32) (w_kind : Int32) (w_one : Int32) (w_other : Int32) (hF : f_Act_draw v_kind v_one v_other p1 = some (w_kind, w_one, w_other)) (sz : Nat) : Met l yX0_draw wsX0_draw ({ frames := 1, cells := 0, slots := 0, locals := 23 } : Room) (qPc ([.ref o, .int p1]) (dC, dI) (qT cI cZ cQ) ([(o, .inr (0, [.int v_kind, .int v_one, .int v_other]))]) sz) (qWv (dC, dI) ([(o, .inr (0, [.int w_kind, .int w_one, .int w_other]))]) (va_A ([(o, .inr (0, [.int v_kind, .int v_one, .int v_other]))]) sz)) 0 0 (va_A ([(o, .inr (0, [.int v_kind, .int v_one, .int v_other]))]) sz) := by
  refine q_met_w (Qc := fun A => qWv (dC, dI) ([(o, .inr (0, [.int w_kind, .int w_one, .int w_other]))]) A) (cc := cX0_draw) (own := RX0) (maxL := 3) (ret := none) (lv0 := [(0, .ref o), (1, .int p1)]) (by decide) rfl rfl rfl (Nat.le_of_ble_eq_true rfl) ?_
  intro p e s m args below meth c A hA C hr hnm Q hQ
  unfold f_Act_draw at hF
  refine q_iload_n C dX0_draw_0 1 rfl rfl ?_
  refine q_bipush (v := (8 : Int32)) C dX0_draw_1 (by decide) ?_
  refine q_idiv C dX0_draw_3 (by decide) ?_
  refine q_istore_n C ([(2, .int (p1 / (8 : Int32))), (0, .ref o), (1, .int p1)]) dX0_draw_4 rfl (by decide) rfl ?_
  refine q_iload_n C dX0_draw_5 2 rfl rfl ?_
  refine q_bipush (v := (8 : Int32)) C dX0_draw_6 (by decide) ?_
  refine q_irem C dX0_draw_8 (by decide) ?_
  by_cases c1 : (p1 - p1 / (8 : Int32) * (8 : Int32)) = (4 : Int32)
  · have hF := ite_t hF c1
    refine q_tab (tgt := 40) C dX0_draw_9 4 (by rw [c1]; decide) (by decide) (by decide) rfl (by decide) ?_
    refine q_aload_n C dX0_draw_40 1 rfl rfl ?_
    refine q_iconst (v := (1 : Int32)) C dX0_draw_41 (by decide) ?_
    refine q_iload_n C dX0_draw_42 0 rfl rfl ?_
    refine q_bipush (v := (6 : Int32)) C dX0_draw_43 (by decide) ?_
    refine q_irem C dX0_draw_45 (by decide) ?_
    refine q_iconst (v := (0 : Int32)) C dX0_draw_46 (by decide) ?_
    obtain ⟨⟨u2_kind, u2_one, u2_other⟩, hc3, hF⟩ := bind_c hF
    dsimp only at hF
    refine q_rwv hA ([(o, .inr (0, [.int u2_kind, .int u2_one, .int u2_other]))]) [0] [] rfl rfl rfl (by decide) [0] rfl rfl (q_runV (As := [.int (1 : Int32), .int ((p1 / (8 : Int32)) - (p1 / (8 : Int32)) / (6 : Int32) * (6 : Int32)), .int (0 : Int32)]) (rest := []) C (fun sz => c_X0_set l dC dI cI cZ cQ o v_kind v_one v_other (1 : Int32) ((p1 / (8 : Int32)) - (p1 / (8 : Int32)) / (6 : Int32) * (6 : Int32)) (0 : Int32) u2_kind u2_one u2_other hc3 sz) (cwV 3 C.2.2.2.2.1 gX0_draw_X0_set rfl rfl rfl (by decide +kernel) ⟨Nat.le_of_ble_eq_true rfl, Nat.le_of_ble_eq_true rfl⟩) 0 rfl rfl rfl [0] rfl rfl rfl rfl (Nat.le_of_ble_eq_true rfl) dX0_draw_47 ⟨Nat.zero_le _, Nat.zero_le _⟩) ?_
    refine q_goto (tgt := 105) C dX0_draw_50 (by decide) ?_
    cases hF
    exact q_wretv C hr dX0_draw_105 hQ
  · have hF := ite_f hF c1
    by_cases c4 : (p1 - p1 / (8 : Int32) * (8 : Int32)) = (5 : Int32)
    · have hF := ite_t hF c4
      refine q_tab (tgt := 53) C dX0_draw_9 5 (by rw [c4]; decide) (by decide) (by decide) rfl (by decide) ?_
      refine q_aload_n C dX0_draw_53 1 rfl rfl ?_
      refine q_iconst (v := (2 : Int32)) C dX0_draw_54 (by decide) ?_
      refine q_iload_n C dX0_draw_55 0 rfl rfl ?_
      refine q_bipush (v := (6 : Int32)) C dX0_draw_56 (by decide) ?_
      refine q_irem C dX0_draw_58 (by decide) ?_
      refine q_iconst (v := (0 : Int32)) C dX0_draw_59 (by decide) ?_
      obtain ⟨⟨u5_kind, u5_one, u5_other⟩, hc6, hF⟩ := bind_c hF
      dsimp only at hF
      refine q_rwv hA ([(o, .inr (0, [.int u5_kind, .int u5_one, .int u5_other]))]) [0] [] rfl rfl rfl (by decide) [0] rfl rfl (q_runV (As := [.int (2 : Int32), .int ((p1 / (8 : Int32)) - (p1 / (8 : Int32)) / (6 : Int32) * (6 : Int32)), .int (0 : Int32)]) (rest := []) C (fun sz => c_X0_set l dC dI cI cZ cQ o v_kind v_one v_other (2 : Int32) ((p1 / (8 : Int32)) - (p1 / (8 : Int32)) / (6 : Int32) * (6 : Int32)) (0 : Int32) u5_kind u5_one u5_other hc6 sz) (cwV 3 C.2.2.2.2.1 gX0_draw_X0_set rfl rfl rfl (by decide +kernel) ⟨Nat.le_of_ble_eq_true rfl, Nat.le_of_ble_eq_true rfl⟩) 0 rfl rfl rfl [0] rfl rfl rfl rfl (Nat.le_of_ble_eq_true rfl) dX0_draw_60 ⟨Nat.zero_le _, Nat.zero_le _⟩) ?_
      refine q_goto (tgt := 105) C dX0_draw_63 (by decide) ?_
      cases hF
      exact q_wretv C hr dX0_draw_105 hQ
    · have hF := ite_f hF c4
      by_cases c7 : (p1 - p1 / (8 : Int32) * (8 : Int32)) = (6 : Int32)
      · have hF := ite_t hF c7
        refine q_tab (tgt := 66) C dX0_draw_9 6 (by rw [c7]; decide) (by decide) (by decide) rfl (by decide) ?_
        refine q_aload_n C dX0_draw_66 1 rfl rfl ?_
        refine q_iconst (v := (3 : Int32)) C dX0_draw_67 (by decide) ?_
        refine q_iload_n C dX0_draw_68 0 rfl rfl ?_
        refine q_bipush (v := (6 : Int32)) C dX0_draw_69 (by decide) ?_
        refine q_irem C dX0_draw_71 (by decide) ?_
        refine q_iload_n C dX0_draw_72 0 rfl rfl ?_
        refine q_bipush (v := (6 : Int32)) C dX0_draw_73 (by decide) ?_
        refine q_idiv C dX0_draw_75 (by decide) ?_
        refine q_bipush (v := (6 : Int32)) C dX0_draw_76 (by decide) ?_
        refine q_irem C dX0_draw_78 (by decide) ?_
        obtain ⟨⟨u8_kind, u8_one, u8_other⟩, hc9, hF⟩ := bind_c hF
        dsimp only at hF
        refine q_rwv hA ([(o, .inr (0, [.int u8_kind, .int u8_one, .int u8_other]))]) [0] [] rfl rfl rfl (by decide) [0] rfl rfl (q_runV (As := [.int (3 : Int32), .int ((p1 / (8 : Int32)) - (p1 / (8 : Int32)) / (6 : Int32) * (6 : Int32)), .int (((p1 / (8 : Int32)) / (6 : Int32)) - ((p1 / (8 : Int32)) / (6 : Int32)) / (6 : Int32) * (6 : Int32))]) (rest := []) C (fun sz => c_X0_set l dC dI cI cZ cQ o v_kind v_one v_other (3 : Int32) ((p1 / (8 : Int32)) - (p1 / (8 : Int32)) / (6 : Int32) * (6 : Int32)) (((p1 / (8 : Int32)) / (6 : Int32)) - ((p1 / (8 : Int32)) / (6 : Int32)) / (6 : Int32) * (6 : Int32)) u8_kind u8_one u8_other hc9 sz) (cwV 3 C.2.2.2.2.1 gX0_draw_X0_set rfl rfl rfl (by decide +kernel) ⟨Nat.le_of_ble_eq_true rfl, Nat.le_of_ble_eq_true rfl⟩) 0 rfl rfl rfl [0] rfl rfl rfl rfl (Nat.le_of_ble_eq_true rfl) dX0_draw_79 ⟨Nat.zero_le _, Nat.zero_le _⟩) ?_
        refine q_goto (tgt := 105) C dX0_draw_82 (by decide) ?_
        cases hF
        exact q_wretv C hr dX0_draw_105 hQ
      · have hF := ite_f hF c7
        by_cases c10 : (p1 - p1 / (8 : Int32) * (8 : Int32)) = (7 : Int32)
        · have hF := ite_t hF c10
          refine q_tab (tgt := 85) C dX0_draw_9 7 (by rw [c10]; decide) (by decide) (by decide) rfl (by decide) ?_
          refine q_aload_n C dX0_draw_85 1 rfl rfl ?_
          refine q_iconst (v := (4 : Int32)) C dX0_draw_86 (by decide) ?_
          refine q_iconst (v := (0 : Int32)) C dX0_draw_87 (by decide) ?_
          refine q_iconst (v := (0 : Int32)) C dX0_draw_88 (by decide) ?_
          obtain ⟨⟨u11_kind, u11_one, u11_other⟩, hc12, hF⟩ := bind_c hF
          dsimp only at hF
          refine q_rwv hA ([(o, .inr (0, [.int u11_kind, .int u11_one, .int u11_other]))]) [0] [] rfl rfl rfl (by decide) [0] rfl rfl (q_runV (As := [.int (4 : Int32), .int (0 : Int32), .int (0 : Int32)]) (rest := []) C (fun sz => c_X0_set l dC dI cI cZ cQ o v_kind v_one v_other (4 : Int32) (0 : Int32) (0 : Int32) u11_kind u11_one u11_other hc12 sz) (cwV 3 C.2.2.2.2.1 gX0_draw_X0_set rfl rfl rfl (by decide +kernel) ⟨Nat.le_of_ble_eq_true rfl, Nat.le_of_ble_eq_true rfl⟩) 0 rfl rfl rfl [0] rfl rfl rfl rfl (Nat.le_of_ble_eq_true rfl) dX0_draw_89 ⟨Nat.zero_le _, Nat.zero_le _⟩) ?_
          refine q_goto (tgt := 105) C dX0_draw_92 (by decide) ?_
          cases hF
          exact q_wretv C hr dX0_draw_105 hQ
        · have hF := ite_f hF c10
          refine q_tabD (tgt := 95) C dX0_draw_9 (by have c1t := lv_neT c1 (show (4 : Int32).toInt = 4 by decide); have c4t := lv_neT c4 (show (5 : Int32).toInt = 5 by decide); have c7t := lv_neT c7 (show (6 : Int32).toInt = 6 by decide); have c10t := lv_neT c10 (show (7 : Int32).toInt = 7 by decide); omega) (by decide) ?_
          refine q_aload_n C dX0_draw_95 1 rfl rfl ?_
          refine q_iconst (v := (0 : Int32)) C dX0_draw_96 (by decide) ?_
          refine q_iload_n C dX0_draw_97 0 rfl rfl ?_
          refine q_bipush (v := (10 : Int32)) C dX0_draw_98 (by decide) ?_
          refine q_irem C dX0_draw_100 (by decide) ?_
          refine q_iconst (v := (0 : Int32)) C dX0_draw_101 (by decide) ?_
          obtain ⟨⟨u13_kind, u13_one, u13_other⟩, hc14, hF⟩ := bind_c hF
          dsimp only at hF
          refine q_rwv hA ([(o, .inr (0, [.int u13_kind, .int u13_one, .int u13_other]))]) [0] [] rfl rfl rfl (by decide) [0] rfl rfl (q_runV (As := [.int (0 : Int32), .int ((p1 / (8 : Int32)) - (p1 / (8 : Int32)) / (10 : Int32) * (10 : Int32)), .int (0 : Int32)]) (rest := []) C (fun sz => c_X0_set l dC dI cI cZ cQ o v_kind v_one v_other (0 : Int32) ((p1 / (8 : Int32)) - (p1 / (8 : Int32)) / (10 : Int32) * (10 : Int32)) (0 : Int32) u13_kind u13_one u13_other hc14 sz) (cwV 3 C.2.2.2.2.1 gX0_draw_X0_set rfl rfl rfl (by decide +kernel) ⟨Nat.le_of_ble_eq_true rfl, Nat.le_of_ble_eq_true rfl⟩) 0 rfl rfl rfl [0] rfl rfl rfl rfl (Nat.le_of_ble_eq_true rfl) dX0_draw_102 ⟨Nat.zero_le _, Nat.zero_le _⟩) ?_
          cases hF
          exact q_wretv C hr dX0_draw_105 hQ
set_option maxRecDepth 100000 in
set_option maxHeartbeats 4000000 in
theorem c_J7_fill_53178 (l : Launch) (dC : Nat → ClassId) (dI : Nat → Nat → Nat) (cI cZ cQ : ClassId) (b1 : Nat) (n1 : Nat) (v_a1 : Nat → Int32) (p2 : Int32) (w_a1 : Nat → Int32) (hF : f_Arrays_fill n1 v_a1 p2 = some w_a1) (sz : Nat) : Met l yJ7_fill_53178 wsJ7_fill_53178 ({ frames := 0, cells := 0, slots := 0, locals := 0 } : Room) (qPc ([.ref b1, .int p2]) (dC, dI) (qT cI cZ cQ) ([(b1, .inl (cI, n1, .inl v_a1))]) sz) (qWv (dC, dI) ([(b1, .inl (cI, n1, .inl w_a1))]) (va_A ([(b1, .inl (cI, n1, .inl v_a1))]) sz)) 0 0 (va_A ([(b1, .inl (cI, n1, .inl v_a1))]) sz) := by
  refine q_met_w (Qc := fun A => qWv (dC, dI) ([(b1, .inl (cI, n1, .inl w_a1))]) A) (cc := cJ7_fill_53178) (own := RJ7) (maxL := 4) (ret := none) (lv0 := [(0, .ref b1), (1, .int p2)]) (by decide) rfl rfl rfl (Nat.le_of_ble_eq_true rfl) ?_
  intro p e s m args below meth c A hA C hr hnm Q hQ
  have L1 : ∀ (n : Nat) (x1 : Int32) (x2 : Int32) (x3 : Int32) (v_a1 : Nat → Int32) (z_a1 : Nat → Int32), evr (fun s => b_Arrays_fill_1 n1 x1 x3 s.1 s.2) n (x2, v_a1) = some z_a1 → qG p l e ({ frames := 0, cells := 0, slots := 0, locals := 0 } : Room) s m args below meth c 4 (dC, dI) A A Q 0 0 ([]) [] ([(b1, .inl (cI, n1, .inl z_a1))]) 20 → qG p l e ({ frames := 0, cells := 0, slots := 0, locals := 0 } : Room) s m args below meth c 4 (dC, dI) A A Q 0 0 ([(0, .ref b1), (1, .int x1), (2, .int x2), (3, .int x3)]) [] ([(b1, .inl (cI, n1, .inl v_a1))]) 5 := by
    clear hF
    intro n
    induction n with
    | zero => intro x1 x2 x3 v_a1 z_a1 hF; exact (evr_0 hF).elim
    | succ n ih =>
      intro x1 x2 x3 v_a1 z_a1 hF hk
      obtain ⟨o9, hB, hn, hx⟩ := evr_c hF
      have hF : b_Arrays_fill_1 n1 x1 x3 x2 v_a1 = some o9 := hB
      unfold b_Arrays_fill_1 at hF
      refine q_iload_n C dJ7_fill_53178_5 2 rfl rfl ?_
      refine q_iload_n C dJ7_fill_53178_6 3 rfl rfl ?_
      refine q_icmp_ge (tgt := 20) C dJ7_fill_53178_7 (by decide) (fun c1 => ?_) (fun c1 => ?_)
      · have hF := ite_t hF c1
        cases hF
        have e2 := hx _ rfl
        cases e2
        refine q_lsel [] rfl ?_
        exact hk
      · have hF := ite_f hF c1
        refine q_aload_n C dJ7_fill_53178_10 0 rfl rfl ?_
        refine q_iload_n C dJ7_fill_53178_11 2 rfl rfl ?_
        refine q_iload_n C dJ7_fill_53178_12 1 rfl rfl ?_
        obtain ⟨hc3, hF⟩ := ite_c hF
        refine q_iast C 0 0 rfl rfl (ix_in hc3) ([(b1, .inl (cI, n1, .inl (upd v_a1 (x2).toNatClampNeg x1)))]) rfl dJ7_fill_53178_13 ?_
        refine q_iinc (v := (x2 + 1)) C ([(2, .int (x2 + 1)), (0, .ref b1), (1, .int x1), (3, .int x3)]) dJ7_fill_53178_14 2 rfl rfl (by decide) rfl ?_
        refine q_goto (tgt := 5) C dJ7_fill_53178_17 (by decide) ?_
        cases hF
        refine q_lsel [1, 2, 0, 3] rfl ?_
        exact ih x1 (x2 + 1) x3 (upd v_a1 (x2).toNatClampNeg x1) z_a1 (hn _ rfl) hk
  unfold f_Arrays_fill at hF
  refine q_iconst (v := (0 : Int32)) C dJ7_fill_53178_0 (by decide) ?_
  refine q_istore_n C ([(2, .int (0 : Int32)), (0, .ref b1), (1, .int p2)]) dJ7_fill_53178_1 rfl (by decide) rfl ?_
  refine q_aload_n C dJ7_fill_53178_2 1 rfl rfl ?_
  refine q_alen (v := (Int32.ofNat n1)) C 0 0 rfl rfl rfl dJ7_fill_53178_3 ?_
  refine q_istore_n C ([(3, .int (Int32.ofNat n1)), (2, .int (0 : Int32)), (0, .ref b1), (1, .int p2)]) dJ7_fill_53178_4 rfl (by decide) rfl ?_
  obtain ⟨z4_a1, hc5, hF⟩ := bind_c hF
  obtain ⟨n6, hc5⟩ := (ev_iff _ _ _).mp hc5
  refine q_lsel [2, 3, 1, 0] rfl ?_
  refine L1 n6 p2 (0 : Int32) (Int32.ofNat n1) v_a1 z4_a1 hc5 ?_
  cases hF
  exact q_wretv C hr dJ7_fill_53178_20 hQ
set_option maxRecDepth 100000 in
set_option maxHeartbeats 4000000 in
theorem c_X8_isThere (l : Launch) (dC : Nat → ClassId) (dI : Nat → Nat → Nat) (cI cZ cQ : ClassId) (o o_heads o_sides o_moods o_moults : Nat) (v_there : Int32) (v_month : Int32) (v_lost : Int32) (p1 : Int32) (R : Int32) (hF : f_Sea_isThere v_there p1 = R) (sz : Nat) : Met l yX8_isThere wsX8_isThere ({ frames := 0, cells := 0, slots := 0, locals := 0 } : Room) (qPc ([.ref o, .int p1]) (dC, dI) (qT cI cZ cQ) ([(o, .inr (8, [.int v_there, .int v_month, .int v_lost, .ref o_heads, .ref o_sides, .ref o_moods, .ref o_moults]))]) sz) (qRz R) 0 0 (fun _ => False) := by
  refine q_met_r (cc := cX8_isThere) (own := RX8) (maxL := 2) (ret := (some .boolean)) (lv0 := [(0, .ref o), (1, .int p1)]) (by decide) rfl rfl rfl (Nat.le_of_ble_eq_true rfl) ?_
  intro p e s m args below meth c C hr A A' Q hA0 hQ
  have lk0 : Cond.fieldLink RX8 24 "SealStrait$Sea" "there" "I" ∈ wsX8_isThere := by decide +kernel
  have lk1 : ∀ w ∈ u_ws RX8 TX8 7, w ∈ wsX8_isThere := fun w h => List.mem_cons_of_mem _ (List.mem_append_right _ h)
  unfold f_Sea_isThere at hF
  refine q_iload_n C dX8_isThere_0 1 rfl rfl ?_
  refine q_if_lt (tgt := 26) C dX8_isThere_1 (by decide) (fun c1 => ?_) (fun c1 => ?_)
  · have hF := ite_t hF c1
    refine q_iconst (v := (0 : Int32)) C dX8_isThere_26 (by decide) ?_
    subst hF
    exact q_iretz C hA0 hr (Or.inl rfl) dX8_isThere_27 hQ
  · have hF := ite_f hF c1
    refine q_iload_n C dX8_isThere_4 1 rfl rfl ?_
    refine q_bipush (v := (6 : Int32)) C dX8_isThere_5 (by decide) ?_
    refine q_icmp_ge (tgt := 26) C dX8_isThere_7 (by decide) (fun c2 => ?_) (fun c2 => ?_)
    · have hF := ite_t hF c2
      refine q_iconst (v := (0 : Int32)) C dX8_isThere_26 (by decide) ?_
      subst hF
      exact q_iretz C hA0 hr (Or.inl rfl) dX8_isThere_27 hQ
    · have hF := ite_f hF c2
      refine q_aload_n C dX8_isThere_10 0 rfl rfl ?_
      refine q_get (C0 := RX8) (T := TX8) (N := 7) (k0 := 0) C lk1 0 rfl rfl (by decide) lk0 rfl (v := .int v_there) rfl dX8_isThere_11 ?_
      refine q_iload_n C dX8_isThere_14 1 rfl rfl ?_
      refine q_ishr C dX8_isThere_15 ?_
      refine q_iconst (v := (1 : Int32)) C dX8_isThere_16 (by decide) ?_
      refine q_iand C dX8_isThere_17 ?_
      refine q_iconst (v := (1 : Int32)) C dX8_isThere_18 (by decide) ?_
      refine q_icmp_ne (tgt := 26) C dX8_isThere_19 (by decide) (fun c3 => ?_) (fun c3 => ?_)
      · have hF := ite_f hF c3
        refine q_iconst (v := (0 : Int32)) C dX8_isThere_26 (by decide) ?_
        subst hF
        exact q_iretz C hA0 hr (Or.inl rfl) dX8_isThere_27 hQ
      · have hF := ite_t hF c3
        refine q_iconst (v := (1 : Int32)) C dX8_isThere_22 (by decide) ?_
        refine q_goto (tgt := 27) C dX8_isThere_23 (by decide) ?_
        subst hF
        exact q_iretz C hA0 hr (Or.inr rfl) dX8_isThere_27 hQ
set_option maxRecDepth 100000 in
set_option maxHeartbeats 4000000 in
theorem c_X8_listens (l : Launch) (dC : Nat → ClassId) (dI : Nat → Nat → Nat) (cI cZ cQ : ClassId) (o o_heads o_moults o_sides o_moods : Nat) (v_there : Int32) (v_month : Int32) (v_heads : Nat → Int32) (v_moults : Nat → Int32) (v_lost : Int32) (p1 : Int32) (R : Int32) (hF : f_Sea_listens v_there v_month v_heads v_moults p1 = some R) (sz : Nat) : Met l yX8_listens wsX8_listens ({ frames := 1, cells := 0, slots := 0, locals := 21 } : Room) (qPc ([.ref o, .int p1]) (dC, dI) (qT cI cZ cQ) ([(o, .inr (8, [.int v_there, .int v_month, .int v_lost, .ref o_heads, .ref o_sides, .ref o_moods, .ref o_moults])), (o_heads, .inl (cI, 6, .inl v_heads)), (o_moults, .inl (cI, 6, .inl v_moults))]) sz) (qRz R) 0 0 (fun _ => False) := by
  refine q_met_r (cc := cX8_listens) (own := RX8) (maxL := 2) (ret := (some .boolean)) (lv0 := [(0, .ref o), (1, .int p1)]) (by decide) rfl rfl rfl (Nat.le_of_ble_eq_true rfl) ?_
  intro p e s m args below meth c C hr A A' Q hA0 hQ
  have lk0 : Cond.fieldLink RX8 9 "SealStrait$Sea" "heads" "[I" ∈ wsX8_listens := by decide +kernel
  have lk1 : ∀ w ∈ u_ws RX8 TX8 7, w ∈ wsX8_listens := fun w h => List.mem_cons_of_mem _ (List.mem_append_right _ h)
  have lk2 : Cond.fieldLink RX8 21 "SealStrait$Sea" "moults" "[I" ∈ wsX8_listens := by decide +kernel
  have lk3 : Cond.fieldLink RX8 28 "SealStrait$Sea" "month" "I" ∈ wsX8_listens := by decide +kernel
  unfold f_Sea_listens at hF
  refine q_aload_n C dX8_listens_0 0 rfl rfl ?_
  refine q_iload_n C dX8_listens_1 1 rfl rfl ?_
  refine q_roz (q_runV (As := [.int p1]) (rest := []) C (fun sz => c_X8_isThere l dC dI cI cZ cQ o o_heads o_sides o_moods o_moults v_there v_month v_lost p1 (f_Sea_isThere v_there p1) rfl sz) (cwV 1 C.2.2.2.2.1 gX8_listens_X8_isThere rfl rfl rfl (by decide +kernel) ⟨Nat.le_of_ble_eq_true rfl, Nat.le_of_ble_eq_true rfl⟩) 0 rfl rfl rfl [0] rfl rfl rfl rfl (Nat.le_of_ble_eq_true rfl) dX8_listens_2 ⟨Nat.zero_le _, Nat.zero_le _⟩) (fun hz1 => ?_)
  refine q_if_eq (tgt := 37) C dX8_listens_5 (by decide) (fun c2 => ?_) (fun c2 => ?_)
  · have hF := ite_t hF c2
    refine q_iconst (v := (0 : Int32)) C dX8_listens_37 (by decide) ?_
    cases hF
    exact q_iretz C hA0 hr (Or.inl rfl) dX8_listens_38 hQ
  · have hF := ite_f hF c2
    refine q_aload_n C dX8_listens_8 0 rfl rfl ?_
    refine q_get (C0 := RX8) (T := TX8) (N := 7) (k0 := 3) C lk1 0 rfl rfl (by decide) lk0 rfl (v := .ref o_heads) rfl dX8_listens_9 ?_
    refine q_iload_n C dX8_listens_12 1 rfl rfl ?_
    obtain ⟨hc3, hF⟩ := ite_c hF
    refine q_iald C 1 0 rfl rfl (ix_in hc3) dX8_listens_13 ?_
    refine q_if_le (tgt := 37) C dX8_listens_14 (by decide) (fun c4 => ?_) (fun c4 => ?_)
    · have hF := ite_t hF c4
      refine q_iconst (v := (0 : Int32)) C dX8_listens_37 (by decide) ?_
      cases hF
      exact q_iretz C hA0 hr (Or.inl rfl) dX8_listens_38 hQ
    · have hF := ite_f hF c4
      refine q_aload_n C dX8_listens_17 0 rfl rfl ?_
      refine q_get (C0 := RX8) (T := TX8) (N := 7) (k0 := 6) C lk1 0 rfl rfl (by decide) lk2 rfl (v := .ref o_moults) rfl dX8_listens_18 ?_
      refine q_iload_n C dX8_listens_21 1 rfl rfl ?_
      obtain ⟨hc5, hF⟩ := ite_c hF
      refine q_iald C 2 0 rfl rfl (ix_in hc5) dX8_listens_22 ?_
      refine q_aload_n C dX8_listens_23 0 rfl rfl ?_
      refine q_get (C0 := RX8) (T := TX8) (N := 7) (k0 := 1) C lk1 0 rfl rfl (by decide) lk3 rfl (v := .int v_month) rfl dX8_listens_24 ?_
      refine q_bipush (v := (12 : Int32)) C dX8_listens_27 (by decide) ?_
      refine q_irem C dX8_listens_29 (by decide) ?_
      refine q_icmp_eq (tgt := 37) C dX8_listens_30 (by decide) (fun c6 => ?_) (fun c6 => ?_)
      · have hF := ite_t hF c6
        refine q_iconst (v := (0 : Int32)) C dX8_listens_37 (by decide) ?_
        cases hF
        exact q_iretz C hA0 hr (Or.inl rfl) dX8_listens_38 hQ
      · have hF := ite_f hF c6
        refine q_iconst (v := (1 : Int32)) C dX8_listens_33 (by decide) ?_
        refine q_goto (tgt := 38) C dX8_listens_34 (by decide) ?_
        cases hF
        exact q_iretz C hA0 hr (Or.inr rfl) dX8_listens_38 hQ
set_option maxRecDepth 100000 in
set_option maxHeartbeats 4000000 in
theorem c_X9_wordsOf (l : Launch) (dC : Nat → ClassId) (dI : Nat → Nat → Nat) (cI cZ cQ : ClassId) (o o_words o_clashes : Nat) (v_words : Nat → Int32) (p1 : Int32) (R : Int32) (hF : f_Treaty_wordsOf v_words p1 = some R) (sz : Nat) : Met l yX9_wordsOf wsX9_wordsOf ({ frames := 1, cells := 0, slots := 0, locals := 22 } : Room) (qPc ([.ref o, .int p1]) (dC, dI) (qT cI cZ cQ) ([(o, .inr (9, [.ref o_words, .ref o_clashes])), (o_words, .inl (cI, 10, .inl v_words))]) sz) (qRi R) 0 0 (fun _ => False) := by
  refine q_met_r (cc := cX9_wordsOf) (own := RX9) (maxL := 2) (ret := (some .int)) (lv0 := [(0, .ref o), (1, .int p1)]) (by decide) rfl rfl rfl (Nat.le_of_ble_eq_true rfl) ?_
  intro p e s m args below meth c C hr A A' Q hA0 hQ
  have lk0 : Cond.initialized RX11 ∈ wsX9_wordsOf := by decide +kernel
  have lk1 : Cond.static yX11_within ∈ wsX9_wordsOf := by decide +kernel
  have lk2 : (RX9, 24, yX11_within) ∈ qNest := by decide +kernel
  have lk3 : Cond.fieldLink RX9 9 "SealStrait$Treaty" "words" "[I" ∈ wsX9_wordsOf := by decide +kernel
  have lk4 : ∀ w ∈ u_ws RX9 TX9 2, w ∈ wsX9_wordsOf := fun w h => List.mem_cons_of_mem _ (List.mem_append_right _ h)
  unfold f_Treaty_wordsOf at hF
  refine q_iload_n C dX9_wordsOf_0 1 rfl rfl ?_
  refine q_iconst (v := (0 : Int32)) C dX9_wordsOf_1 (by decide) ?_
  refine q_bipush (v := (9 : Int32)) C dX9_wordsOf_2 (by decide) ?_
  refine q_roz (q_runSN (As := [.int p1, .int (0 : Int32), .int (9 : Int32)]) (rest := []) (n := 3) C (fun sz => c_X11_within l dC dI cI cZ cQ p1 (0 : Int32) (9 : Int32) (f_Strait_within p1 (0 : Int32) (9 : Int32)) rfl sz) gX9_wordsOf_X11_within_n24 rfl rfl rfl lk2 lk0 lk1 (by decide +kernel) ⟨Nat.le_of_ble_eq_true rfl, Nat.le_of_ble_eq_true rfl⟩ [] rfl rfl rfl rfl (Nat.le_of_ble_eq_true rfl) dX9_wordsOf_4 ⟨Nat.zero_le _, Nat.zero_le _⟩) (fun hz1 => ?_)
  refine q_if_eq (tgt := 19) C dX9_wordsOf_7 (by decide) (fun c2 => ?_) (fun c2 => ?_)
  · have hF := ite_t hF c2
    refine q_iconst (v := (3 : Int32)) C dX9_wordsOf_19 (by decide) ?_
    cases hF
    exact q_ireti C hA0 hr dX9_wordsOf_20 hQ
  · have hF := ite_f hF c2
    refine q_aload_n C dX9_wordsOf_10 0 rfl rfl ?_
    refine q_get (C0 := RX9) (T := TX9) (N := 2) (k0 := 0) C lk4 0 rfl rfl (by decide) lk3 rfl (v := .ref o_words) rfl dX9_wordsOf_11 ?_
    refine q_iload_n C dX9_wordsOf_14 1 rfl rfl ?_
    obtain ⟨hc3, hF⟩ := ite_c hF
    refine q_iald C 1 0 rfl rfl (ix_in hc3) dX9_wordsOf_15 ?_
    refine q_goto (tgt := 20) C dX9_wordsOf_16 (by decide) ?_
    cases hF
    exact q_ireti C hA0 hr dX9_wordsOf_20 hQ
set_option maxRecDepth 100000 in
set_option maxHeartbeats 4000000 in
theorem c_X11_has (l : Launch) (dC : Nat → ClassId) (dI : Nat → Nat → Nat) (cI cZ cQ : ClassId) (p1 : Int32) (p2 : Int32) (R : Int32) (hF : f_Strait_has p1 p2 = R) (sz : Nat) : Met l yX11_has wsX11_has ({ frames := 0, cells := 0, slots := 0, locals := 0 } : Room) (qPc ([.int p1, .int p2]) (dC, dI) (qT cI cZ cQ) ([]) sz) (qRz R) 0 0 (fun _ => False) := by
  refine q_met_r (cc := cX11_has) (own := RX11) (maxL := 2) (ret := (some .boolean)) (lv0 := [(0, .int p1), (1, .int p2)]) (by decide) rfl rfl rfl (Nat.le_of_ble_eq_true rfl) ?_
  intro p e s m args below meth c C hr A A' Q hA0 hQ
  unfold f_Strait_has at hF
  refine q_iload_n C dX11_has_0 0 rfl rfl ?_
  refine q_iload_n C dX11_has_1 1 rfl rfl ?_
  refine q_ishr C dX11_has_2 ?_
  refine q_iconst (v := (1 : Int32)) C dX11_has_3 (by decide) ?_
  refine q_iand C dX11_has_4 ?_
  refine q_iconst (v := (1 : Int32)) C dX11_has_5 (by decide) ?_
  refine q_icmp_ne (tgt := 13) C dX11_has_6 (by decide) (fun c1 => ?_) (fun c1 => ?_)
  · have hF := ite_f hF c1
    refine q_iconst (v := (0 : Int32)) C dX11_has_13 (by decide) ?_
    subst hF
    exact q_iretz C hA0 hr (Or.inl rfl) dX11_has_14 hQ
  · have hF := ite_t hF c1
    refine q_iconst (v := (1 : Int32)) C dX11_has_9 (by decide) ?_
    refine q_goto (tgt := 14) C dX11_has_10 (by decide) ?_
    subst hF
    exact q_iretz C hA0 hr (Or.inr rfl) dX11_has_14 hQ
set_option maxRecDepth 100000 in
set_option maxHeartbeats 4000000 in
theorem c_X9_wordsOfAll (l : Launch) (dC : Nat → ClassId) (dI : Nat → Nat → Nat) (cI cZ cQ : ClassId) (o o_words o_clashes : Nat) (v_words : Nat → Int32) (p1 : Int32) (R : Int32) (hF : f_Treaty_wordsOfAll v_words p1 = some R) (sz : Nat) : Met l yX9_wordsOfAll wsX9_wordsOfAll ({ frames := 1, cells := 0, slots := 0, locals := 21 } : Room) (qPc ([.ref o, .int p1]) (dC, dI) (qT cI cZ cQ) ([(o, .inr (9, [.ref o_words, .ref o_clashes])), (o_words, .inl (cI, 10, .inl v_words))]) sz) (qRi R) 0 0 (fun _ => False) := by
  refine q_met_r (cc := cX9_wordsOfAll) (own := RX9) (maxL := 4) (ret := (some .int)) (lv0 := [(0, .ref o), (1, .int p1)]) (by decide) rfl rfl rfl (Nat.le_of_ble_eq_true rfl) ?_
  intro p e s m args below meth c C hr A A' Q hA0 hQ
  have lk0 : Cond.initialized RX11 ∈ wsX9_wordsOfAll := by decide +kernel
  have lk1 : Cond.static yX11_has ∈ wsX9_wordsOfAll := by decide +kernel
  have lk2 : (RX9, 28, yX11_has) ∈ qNest := by decide +kernel
  have lk3 : Cond.fieldLink RX9 9 "SealStrait$Treaty" "words" "[I" ∈ wsX9_wordsOfAll := by decide +kernel
  have lk4 : ∀ w ∈ u_ws RX9 TX9 2, w ∈ wsX9_wordsOfAll := fun w h => List.mem_cons_of_mem _ (List.mem_append_right _ h)
  have L1 : ∀ (n : Nat) (x1 : Int32) (x2 : Int32) (x3 : Int32) (y2 : Int32), evr (fun s => b_Treaty_wordsOfAll_1 x1 v_words s.1 s.2) n (x2, x3) = some y2 → qG p l e ({ frames := 1, cells := 0, slots := 0, locals := 21 } : Room) s m args below meth c 4 (dC, dI) A A' Q 0 0 ([(2, .int y2)]) [] ([(o, .inr (9, [.ref o_words, .ref o_clashes])), (o_words, .inl (cI, 10, .inl v_words))]) 33 → qG p l e ({ frames := 1, cells := 0, slots := 0, locals := 21 } : Room) s m args below meth c 4 (dC, dI) A A' Q 0 0 ([(0, .ref o), (1, .int x1), (2, .int x2), (3, .int x3)]) [] ([(o, .inr (9, [.ref o_words, .ref o_clashes])), (o_words, .inl (cI, 10, .inl v_words))]) 4 := by
    clear hF
    intro n
    induction n with
    | zero => intro x1 x2 x3 y2 hF; exact (evr_0 hF).elim
    | succ n ih =>
      intro x1 x2 x3 y2 hF hk
      obtain ⟨o9, hB, hn, hx⟩ := evr_c hF
      have hF : b_Treaty_wordsOfAll_1 x1 v_words x2 x3 = some o9 := hB
      unfold b_Treaty_wordsOfAll_1 at hF
      refine q_iload_n C dX9_wordsOfAll_4 3 rfl rfl ?_
      refine q_bipush (v := (10 : Int32)) C dX9_wordsOfAll_5 (by decide) ?_
      refine q_icmp_ge (tgt := 33) C dX9_wordsOfAll_7 (by decide) (fun c1 => ?_) (fun c1 => ?_)
      · have hF := ite_t hF c1
        cases hF
        have e2 := hx _ rfl
        cases e2
        refine q_lsel [2] rfl ?_
        exact hk
      · have hF := ite_f hF c1
        refine q_iload_n C dX9_wordsOfAll_10 1 rfl rfl ?_
        refine q_iload_n C dX9_wordsOfAll_11 3 rfl rfl ?_
        refine q_roz (q_runSN (As := [.int x1, .int x3]) (rest := []) (n := 2) C (fun sz => c_X11_has l dC dI cI cZ cQ x1 x3 (f_Strait_has x1 x3) rfl sz) gX9_wordsOfAll_X11_has_n28 rfl rfl rfl lk2 lk0 lk1 (by decide +kernel) ⟨Nat.le_of_ble_eq_true rfl, Nat.le_of_ble_eq_true rfl⟩ [] rfl rfl rfl rfl (Nat.le_of_ble_eq_true rfl) dX9_wordsOfAll_12 ⟨Nat.zero_le _, Nat.zero_le _⟩) (fun hz3 => ?_)
        refine q_if_eq (tgt := 27) C dX9_wordsOfAll_15 (by decide) (fun c4 => ?_) (fun c4 => ?_)
        · have hF := ite_t hF c4
          refine q_iinc (v := (x3 + 1)) C ([(3, .int (x3 + 1)), (0, .ref o), (1, .int x1), (2, .int x2)]) dX9_wordsOfAll_27 3 rfl rfl (by decide) rfl ?_
          refine q_goto (tgt := 4) C dX9_wordsOfAll_30 (by decide) ?_
          cases hF
          refine q_lsel [1, 2, 3, 0] rfl ?_
          exact ih x1 x2 (x3 + 1) y2 (hn _ rfl) hk
        · have hF := ite_f hF c4
          refine q_iload_n C dX9_wordsOfAll_18 2 rfl rfl ?_
          refine q_aload_n C dX9_wordsOfAll_19 0 rfl rfl ?_
          refine q_get (C0 := RX9) (T := TX9) (N := 2) (k0 := 0) C lk4 0 rfl rfl (by decide) lk3 rfl (v := .ref o_words) rfl dX9_wordsOfAll_20 ?_
          refine q_iload_n C dX9_wordsOfAll_23 3 rfl rfl ?_
          obtain ⟨hc5, hF⟩ := ite_c hF
          refine q_iald C 1 0 rfl rfl (ix_in hc5) dX9_wordsOfAll_24 ?_
          refine q_iadd C dX9_wordsOfAll_25 ?_
          refine q_istore_n C ([(2, .int (x2 + (v_words (x3).toNatClampNeg))), (0, .ref o), (1, .int x1), (3, .int x3)]) dX9_wordsOfAll_26 rfl (by decide) rfl ?_
          refine q_iinc (v := (x3 + 1)) C ([(3, .int (x3 + 1)), (2, .int (x2 + (v_words (x3).toNatClampNeg))), (0, .ref o), (1, .int x1)]) dX9_wordsOfAll_27 3 rfl rfl (by decide) rfl ?_
          refine q_goto (tgt := 4) C dX9_wordsOfAll_30 (by decide) ?_
          cases hF
          refine q_lsel [2, 3, 1, 0] rfl ?_
          exact ih x1 (x2 + (v_words (x3).toNatClampNeg)) (x3 + 1) y2 (hn _ rfl) hk
  unfold f_Treaty_wordsOfAll at hF
  refine q_iconst (v := (0 : Int32)) C dX9_wordsOfAll_0 (by decide) ?_
  refine q_istore_n C ([(2, .int (0 : Int32)), (0, .ref o), (1, .int p1)]) dX9_wordsOfAll_1 rfl (by decide) rfl ?_
  refine q_iconst (v := (0 : Int32)) C dX9_wordsOfAll_2 (by decide) ?_
  refine q_istore_n C ([(3, .int (0 : Int32)), (2, .int (0 : Int32)), (0, .ref o), (1, .int p1)]) dX9_wordsOfAll_3 rfl (by decide) rfl ?_
  obtain ⟨y2_6, hc7, hF⟩ := bind_c hF
  obtain ⟨n8, hc7⟩ := (ev_iff _ _ _).mp hc7
  refine q_lsel [2, 3, 1, 0] rfl ?_
  refine L1 n8 p1 (0 : Int32) (0 : Int32) y2_6 hc7 ?_
  refine q_iload_n C dX9_wordsOfAll_33 0 rfl rfl ?_
  cases hF
  exact q_ireti C hA0 hr dX9_wordsOfAll_34 hQ
set_option maxRecDepth 100000 in
set_option maxHeartbeats 4000000 in
theorem c_X8_headsOf (l : Launch) (dC : Nat → ClassId) (dI : Nat → Nat → Nat) (cI cZ cQ : ClassId) (o o_heads o_sides o_moods o_moults : Nat) (v_there : Int32) (v_heads : Nat → Int32) (v_month : Int32) (v_lost : Int32) (p1 : Int32) (R : Int32) (hF : f_Sea_headsOf v_there v_heads p1 = some R) (sz : Nat) : Met l yX8_headsOf wsX8_headsOf ({ frames := 1, cells := 0, slots := 0, locals := 21 } : Room) (qPc ([.ref o, .int p1]) (dC, dI) (qT cI cZ cQ) ([(o, .inr (8, [.int v_there, .int v_month, .int v_lost, .ref o_heads, .ref o_sides, .ref o_moods, .ref o_moults])), (o_heads, .inl (cI, 6, .inl v_heads))]) sz) (qRi R) 0 0 (fun _ => False) := by
  refine q_met_r (cc := cX8_headsOf) (own := RX8) (maxL := 4) (ret := (some .int)) (lv0 := [(0, .ref o), (1, .int p1)]) (by decide) rfl rfl rfl (Nat.le_of_ble_eq_true rfl) ?_
  intro p e s m args below meth c C hr A A' Q hA0 hQ
  have lk0 : Cond.initialized RX11 ∈ wsX8_headsOf := by decide +kernel
  have lk1 : Cond.static yX11_has ∈ wsX8_headsOf := by decide +kernel
  have lk2 : (RX8, 45, yX11_has) ∈ qNest := by decide +kernel
  have lk3 : Cond.fieldLink RX8 9 "SealStrait$Sea" "heads" "[I" ∈ wsX8_headsOf := by decide +kernel
  have lk4 : ∀ w ∈ u_ws RX8 TX8 7, w ∈ wsX8_headsOf := fun w h => List.mem_cons_of_mem _ (List.mem_append_right _ h)
  have L1 : ∀ (n : Nat) (x1 : Int32) (x2 : Int32) (x3 : Int32) (y2 : Int32), evr (fun s => b_Sea_headsOf_1 x1 v_there v_heads s.1 s.2) n (x2, x3) = some y2 → qG p l e ({ frames := 1, cells := 0, slots := 0, locals := 21 } : Room) s m args below meth c 4 (dC, dI) A A' Q 0 0 ([(2, .int y2)]) [] ([(o, .inr (8, [.int v_there, .int v_month, .int v_lost, .ref o_heads, .ref o_sides, .ref o_moods, .ref o_moults])), (o_heads, .inl (cI, 6, .inl v_heads))]) 41 → qG p l e ({ frames := 1, cells := 0, slots := 0, locals := 21 } : Room) s m args below meth c 4 (dC, dI) A A' Q 0 0 ([(0, .ref o), (1, .int x1), (2, .int x2), (3, .int x3)]) [] ([(o, .inr (8, [.int v_there, .int v_month, .int v_lost, .ref o_heads, .ref o_sides, .ref o_moods, .ref o_moults])), (o_heads, .inl (cI, 6, .inl v_heads))]) 4 := by
    clear hF
    intro n
    induction n with
    | zero => intro x1 x2 x3 y2 hF; exact (evr_0 hF).elim
    | succ n ih =>
      intro x1 x2 x3 y2 hF hk
      obtain ⟨o9, hB, hn, hx⟩ := evr_c hF
      have hF : b_Sea_headsOf_1 x1 v_there v_heads x2 x3 = some o9 := hB
      unfold b_Sea_headsOf_1 at hF
      refine q_iload_n C dX8_headsOf_4 3 rfl rfl ?_
      refine q_bipush (v := (6 : Int32)) C dX8_headsOf_5 (by decide) ?_
      refine q_icmp_ge (tgt := 41) C dX8_headsOf_7 (by decide) (fun c1 => ?_) (fun c1 => ?_)
      · have hF := ite_t hF c1
        cases hF
        have e2 := hx _ rfl
        cases e2
        refine q_lsel [2] rfl ?_
        exact hk
      · have hF := ite_f hF c1
        refine q_iload_n C dX8_headsOf_10 1 rfl rfl ?_
        refine q_iload_n C dX8_headsOf_11 3 rfl rfl ?_
        refine q_roz (q_runSN (As := [.int x1, .int x3]) (rest := []) (n := 2) C (fun sz => c_X11_has l dC dI cI cZ cQ x1 x3 (f_Strait_has x1 x3) rfl sz) gX8_headsOf_X11_has_n45 rfl rfl rfl lk2 lk0 lk1 (by decide +kernel) ⟨Nat.le_of_ble_eq_true rfl, Nat.le_of_ble_eq_true rfl⟩ [] rfl rfl rfl rfl (Nat.le_of_ble_eq_true rfl) dX8_headsOf_12 ⟨Nat.zero_le _, Nat.zero_le _⟩) (fun hz3 => ?_)
        refine q_if_eq (tgt := 35) C dX8_headsOf_15 (by decide) (fun c4 => ?_) (fun c4 => ?_)
        · have hF := ite_t hF c4
          refine q_iinc (v := (x3 + 1)) C ([(3, .int (x3 + 1)), (0, .ref o), (1, .int x1), (2, .int x2)]) dX8_headsOf_35 3 rfl rfl (by decide) rfl ?_
          refine q_goto (tgt := 4) C dX8_headsOf_38 (by decide) ?_
          cases hF
          refine q_lsel [1, 2, 3, 0] rfl ?_
          exact ih x1 x2 (x3 + 1) y2 (hn _ rfl) hk
        · have hF := ite_f hF c4
          refine q_aload_n C dX8_headsOf_18 0 rfl rfl ?_
          refine q_iload_n C dX8_headsOf_19 3 rfl rfl ?_
          refine q_roz (q_runV (As := [.int x3]) (rest := []) C (fun sz => c_X8_isThere l dC dI cI cZ cQ o o_heads o_sides o_moods o_moults v_there v_month v_lost x3 (f_Sea_isThere v_there x3) rfl sz) (cwV 1 C.2.2.2.2.1 gX8_headsOf_X8_isThere rfl rfl rfl (by decide +kernel) ⟨Nat.le_of_ble_eq_true rfl, Nat.le_of_ble_eq_true rfl⟩) 0 rfl rfl rfl [0] rfl rfl rfl rfl (Nat.le_of_ble_eq_true rfl) dX8_headsOf_20 ⟨Nat.zero_le _, Nat.zero_le _⟩) (fun hz5 => ?_)
          refine q_if_eq (tgt := 35) C dX8_headsOf_23 (by decide) (fun c6 => ?_) (fun c6 => ?_)
          · have hF := ite_t hF c6
            refine q_iinc (v := (x3 + 1)) C ([(3, .int (x3 + 1)), (0, .ref o), (1, .int x1), (2, .int x2)]) dX8_headsOf_35 3 rfl rfl (by decide) rfl ?_
            refine q_goto (tgt := 4) C dX8_headsOf_38 (by decide) ?_
            cases hF
            refine q_lsel [1, 2, 3, 0] rfl ?_
            exact ih x1 x2 (x3 + 1) y2 (hn _ rfl) hk
          · have hF := ite_f hF c6
            refine q_iload_n C dX8_headsOf_26 2 rfl rfl ?_
            refine q_aload_n C dX8_headsOf_27 0 rfl rfl ?_
            refine q_get (C0 := RX8) (T := TX8) (N := 7) (k0 := 3) C lk4 0 rfl rfl (by decide) lk3 rfl (v := .ref o_heads) rfl dX8_headsOf_28 ?_
            refine q_iload_n C dX8_headsOf_31 3 rfl rfl ?_
            obtain ⟨hc7, hF⟩ := ite_c hF
            refine q_iald C 1 0 rfl rfl (ix_in hc7) dX8_headsOf_32 ?_
            refine q_iadd C dX8_headsOf_33 ?_
            refine q_istore_n C ([(2, .int (x2 + (v_heads (x3).toNatClampNeg))), (0, .ref o), (1, .int x1), (3, .int x3)]) dX8_headsOf_34 rfl (by decide) rfl ?_
            refine q_iinc (v := (x3 + 1)) C ([(3, .int (x3 + 1)), (2, .int (x2 + (v_heads (x3).toNatClampNeg))), (0, .ref o), (1, .int x1)]) dX8_headsOf_35 3 rfl rfl (by decide) rfl ?_
            refine q_goto (tgt := 4) C dX8_headsOf_38 (by decide) ?_
            cases hF
            refine q_lsel [2, 3, 1, 0] rfl ?_
            exact ih x1 (x2 + (v_heads (x3).toNatClampNeg)) (x3 + 1) y2 (hn _ rfl) hk
  unfold f_Sea_headsOf at hF
  refine q_iconst (v := (0 : Int32)) C dX8_headsOf_0 (by decide) ?_
  refine q_istore_n C ([(2, .int (0 : Int32)), (0, .ref o), (1, .int p1)]) dX8_headsOf_1 rfl (by decide) rfl ?_
  refine q_iconst (v := (0 : Int32)) C dX8_headsOf_2 (by decide) ?_
  refine q_istore_n C ([(3, .int (0 : Int32)), (2, .int (0 : Int32)), (0, .ref o), (1, .int p1)]) dX8_headsOf_3 rfl (by decide) rfl ?_
  obtain ⟨y2_8, hc9, hF⟩ := bind_c hF
  obtain ⟨n10, hc9⟩ := (ev_iff _ _ _).mp hc9
  refine q_lsel [2, 3, 1, 0] rfl ?_
  refine L1 n10 p1 (0 : Int32) (0 : Int32) y2_8 hc9 ?_
  refine q_iload_n C dX8_headsOf_41 0 rfl rfl ?_
  cases hF
  exact q_ireti C hA0 hr dX8_headsOf_42 hQ
set_option maxRecDepth 100000 in
set_option maxHeartbeats 4000000 in
theorem c_X7_write (l : Launch) (dC : Nat → ClassId) (dI : Nat → Nat → Nat) (cI cZ cQ : ClassId) (o o_signs : Nat) (v_signs : Nat → Int32) (v_size : Int32) (p1 : Int32) (R : Int32) (w_signs : Nat → Int32) (w_size : Int32) (hF : f_Pad_write v_signs v_size p1 = some (R, w_signs, w_size)) (sz : Nat) : Met l yX7_write wsX7_write ({ frames := 0, cells := 0, slots := 0, locals := 0 } : Room) (qPc ([.ref o, .int p1]) (dC, dI) (qT cI cZ cQ) ([(o, .inr (7, [.ref o_signs, .int v_size])), (o_signs, .inl (cI, 60, .inl v_signs))]) sz) (qWz R (dC, dI) ([(o, .inr (7, [.ref o_signs, .int w_size])), (o_signs, .inl (cI, 60, .inl w_signs))]) (va_A ([(o, .inr (7, [.ref o_signs, .int v_size])), (o_signs, .inl (cI, 60, .inl v_signs))]) sz)) 0 0 (va_A ([(o, .inr (7, [.ref o_signs, .int v_size])), (o_signs, .inl (cI, 60, .inl v_signs))]) sz) := by
  refine q_met_w (Qc := fun A => qWz R (dC, dI) ([(o, .inr (7, [.ref o_signs, .int w_size])), (o_signs, .inl (cI, 60, .inl w_signs))]) A) (cc := cX7_write) (own := RX7) (maxL := 2) (ret := (some .boolean)) (lv0 := [(0, .ref o), (1, .int p1)]) (by decide) rfl rfl rfl (Nat.le_of_ble_eq_true rfl) ?_
  intro p e s m args below meth c A hA C hr hnm Q hQ
  have lk0 : Cond.fieldLink RX7 15 "SealStrait$Pad" "size" "I" ∈ wsX7_write := by decide +kernel
  have lk1 : ∀ w ∈ u_ws RX7 TX7 2, w ∈ wsX7_write := fun w h => List.mem_cons_of_mem _ (List.mem_append_right _ h)
  have lk2 : Cond.fieldLink RX7 11 "SealStrait$Pad" "signs" "[I" ∈ wsX7_write := by decide +kernel
  unfold f_Pad_write at hF
  refine q_aload_n C dX7_write_0 0 rfl rfl ?_
  refine q_get (C0 := RX7) (T := TX7) (N := 2) (k0 := 1) C lk1 0 rfl rfl (by decide) lk0 rfl (v := .int v_size) rfl dX7_write_1 ?_
  refine q_bipush (v := (60 : Int32)) C dX7_write_4 (by decide) ?_
  refine q_icmp_lt (tgt := 11) C dX7_write_6 (by decide) (fun c1 => ?_) (fun c1 => ?_)
  · have hF := ite_t hF c1
    refine q_aload_n C dX7_write_11 0 rfl rfl ?_
    refine q_get (C0 := RX7) (T := TX7) (N := 2) (k0 := 0) C lk1 0 rfl rfl (by decide) lk2 rfl (v := .ref o_signs) rfl dX7_write_12 ?_
    refine q_aload_n C dX7_write_15 0 rfl rfl ?_
    refine q_get (C0 := RX7) (T := TX7) (N := 2) (k0 := 1) C lk1 0 rfl rfl (by decide) lk0 rfl (v := .int v_size) rfl dX7_write_16 ?_
    refine q_iload_n C dX7_write_19 1 rfl rfl ?_
    obtain ⟨hc2, hF⟩ := ite_c hF
    refine q_iast C 1 0 rfl rfl (ix_in hc2) ([(o, .inr (7, [.ref o_signs, .int v_size])), (o_signs, .inl (cI, 60, .inl (upd v_signs (v_size).toNatClampNeg p1)))]) rfl dX7_write_20 ?_
    refine q_aload_n C dX7_write_21 0 rfl rfl ?_
    refine q_dup C dX7_write_22 rfl ?_
    refine q_get (C0 := RX7) (T := TX7) (N := 2) (k0 := 1) C lk1 0 rfl rfl (by decide) lk0 rfl (v := .int v_size) rfl dX7_write_23 ?_
    refine q_iconst (v := (1 : Int32)) C dX7_write_26 (by decide) ?_
    refine q_iadd C dX7_write_27 ?_
    refine q_put (C0 := RX7) (T := TX7) (N := 2) (k0 := 1) C lk1 0 rfl rfl (by decide) lk0 rfl tyX7 tyX7_ok nmX7 rfl (v := .int (v_size + (1 : Int32))) rfl rfl (Nat.le_of_ble_eq_true rfl) ([(o, .inr (7, [.ref o_signs, .int (v_size + (1 : Int32))])), (o_signs, .inl (cI, 60, .inl (upd v_signs (v_size).toNatClampNeg p1)))]) rfl dX7_write_28 ?_
    refine q_iconst (v := (1 : Int32)) C dX7_write_31 (by decide) ?_
    cases hF
    exact q_wretz C hr (Or.inr rfl) dX7_write_32 hQ
  · have hF := ite_f hF c1
    refine q_iconst (v := (0 : Int32)) C dX7_write_9 (by decide) ?_
    cases hF
    exact q_wretz C hr (Or.inl rfl) dX7_write_10 hQ
set_option maxRecDepth 100000 in
set_option maxHeartbeats 4000000 in
theorem c_X7_isClause (l : Launch) (dC : Nat → ClassId) (dI : Nat → Nat → Nat) (cI cZ cQ : ClassId) (p1 : Int32) (R : Int32) (hF : f_Pad_isClause p1 = R) (sz : Nat) : Met l yX7_isClause wsX7_isClause ({ frames := 1, cells := 0, slots := 0, locals := 22 } : Room) (qPc ([.int p1]) (dC, dI) (qT cI cZ cQ) ([]) sz) (qRz R) 0 0 (fun _ => False) := by
  refine q_met_r (cc := cX7_isClause) (own := RX7) (maxL := 1) (ret := (some .boolean)) (lv0 := [(0, .int p1)]) (by decide) rfl rfl rfl (Nat.le_of_ble_eq_true rfl) ?_
  intro p e s m args below meth c C hr A A' Q hA0 hQ
  have lk0 : Cond.initialized RX11 ∈ wsX7_isClause := by decide +kernel
  have lk1 : Cond.static yX11_within ∈ wsX7_isClause := by decide +kernel
  have lk2 : (RX7, 30, yX11_within) ∈ qNest := by decide +kernel
  unfold f_Pad_isClause at hF
  refine q_iload_n C dX7_isClause_0 0 rfl rfl ?_
  refine q_bipush (v := (97 : Int32)) C dX7_isClause_1 (by decide) ?_
  refine q_bipush (v := (106 : Int32)) C dX7_isClause_3 (by decide) ?_
  refine q_roz (q_runSN (As := [.int p1, .int (97 : Int32), .int (106 : Int32)]) (rest := []) (n := 3) C (fun sz => c_X11_within l dC dI cI cZ cQ p1 (97 : Int32) (106 : Int32) (f_Strait_within p1 (97 : Int32) (106 : Int32)) rfl sz) gX7_isClause_X11_within_n30 rfl rfl rfl lk2 lk0 lk1 (by decide +kernel) ⟨Nat.le_of_ble_eq_true rfl, Nat.le_of_ble_eq_true rfl⟩ [] rfl rfl rfl rfl (Nat.le_of_ble_eq_true rfl) dX7_isClause_5 ⟨Nat.zero_le _, Nat.zero_le _⟩) (fun hz1 => ?_)
  subst hF
  exact q_iretz C hA0 hr hz1 dX7_isClause_8 hQ
set_option maxRecDepth 100000 in
set_option maxHeartbeats 4000000 in
theorem c_X7_awaitedBehind (l : Launch) (dC : Nat → ClassId) (dI : Nat → Nat → Nat) (cI cZ cQ : ClassId) (p1 : Int32) (p2 : Int32) (R : Int32) (hF : f_Pad_awaitedBehind p1 p2 = R) (sz : Nat) : Met l yX7_awaitedBehind wsX7_awaitedBehind ({ frames := 2, cells := 0, slots := 0, locals := 42 } : Room) (qPc ([.int p1, .int p2]) (dC, dI) (qT cI cZ cQ) ([]) sz) (qRi R) 0 0 (fun _ => False) := by
  refine q_met_r (cc := cX7_awaitedBehind) (own := RX7) (maxL := 2) (ret := (some .int)) (lv0 := [(0, .int p1), (1, .int p2)]) (by decide) rfl rfl rfl (Nat.le_of_ble_eq_true rfl) ?_
  intro p e s m args below meth c C hr A A' Q hA0 hQ
  unfold f_Pad_awaitedBehind at hF
  refine q_iload_n C dX7_awaitedBehind_0 0 rfl rfl ?_
  refine q_if_ne (tgt := 32) C dX7_awaitedBehind_1 (by decide) (fun c1 => ?_) (fun c1 => ?_)
  · have hF := ite_f hF c1
    refine q_iload_n C dX7_awaitedBehind_32 0 rfl rfl ?_
    refine q_iconst (v := (1 : Int32)) C dX7_awaitedBehind_33 (by decide) ?_
    refine q_icmp_ne (tgt := 63) C dX7_awaitedBehind_34 (by decide) (fun c2 => ?_) (fun c2 => ?_)
    · have hF := ite_f hF c2
      refine q_iload_n C dX7_awaitedBehind_63 1 rfl rfl ?_
      refine q_roz (q_runS (As := [.int p2]) (rest := []) C (fun sz => c_X7_isHerd l dC dI cI cZ cQ p2 (f_Pad_isHerd p2) rfl sz) (va_cwS 1 C.2.2.2.2.1 gX7_awaitedBehind_X7_isHerd rfl rfl rfl (by decide +kernel) ⟨Nat.le_of_ble_eq_true rfl, Nat.le_of_ble_eq_true rfl⟩) [] rfl rfl rfl rfl (Nat.le_of_ble_eq_true rfl) dX7_awaitedBehind_64 ⟨Nat.zero_le _, Nat.zero_le _⟩) (fun hz3 => ?_)
      refine q_if_eq (tgt := 74) C dX7_awaitedBehind_67 (by decide) (fun c4 => ?_) (fun c4 => ?_)
      · have hF := ite_t hF c4
        refine q_iconst (v := (3 : Int32)) C dX7_awaitedBehind_74 (by decide) ?_
        subst hF
        exact q_ireti C hA0 hr dX7_awaitedBehind_75 hQ
      · have hF := ite_f hF c4
        refine q_iconst (v := (0 : Int32)) C dX7_awaitedBehind_70 (by decide) ?_
        refine q_goto (tgt := 75) C dX7_awaitedBehind_71 (by decide) ?_
        subst hF
        exact q_ireti C hA0 hr dX7_awaitedBehind_75 hQ
    · have hF := ite_t hF c2
      refine q_iload_n C dX7_awaitedBehind_37 1 rfl rfl ?_
      refine q_bipush (v := (38 : Int32)) C dX7_awaitedBehind_38 (by decide) ?_
      refine q_icmp_ne (tgt := 45) C dX7_awaitedBehind_40 (by decide) (fun c5 => ?_) (fun c5 => ?_)
      · have hF := ite_f hF c5
        refine q_iload_n C dX7_awaitedBehind_45 1 rfl rfl ?_
        refine q_bipush (v := (63 : Int32)) C dX7_awaitedBehind_46 (by decide) ?_
        refine q_icmp_eq (tgt := 57) C dX7_awaitedBehind_48 (by decide) (fun c6 => ?_) (fun c6 => ?_)
        · have hF := ite_t hF c6
          refine q_iconst (v := (0 : Int32)) C dX7_awaitedBehind_57 (by decide) ?_
          refine q_goto (tgt := 62) C dX7_awaitedBehind_58 (by decide) ?_
          subst hF
          exact q_ireti C hA0 hr dX7_awaitedBehind_62 hQ
        · have hF := ite_f hF c6
          refine q_iload_n C dX7_awaitedBehind_51 1 rfl rfl ?_
          refine q_bipush (v := (33 : Int32)) C dX7_awaitedBehind_52 (by decide) ?_
          refine q_icmp_ne (tgt := 61) C dX7_awaitedBehind_54 (by decide) (fun c7 => ?_) (fun c7 => ?_)
          · have hF := ite_f hF c7
            refine q_iconst (v := (3 : Int32)) C dX7_awaitedBehind_61 (by decide) ?_
            subst hF
            exact q_ireti C hA0 hr dX7_awaitedBehind_62 hQ
          · have hF := ite_t hF c7
            refine q_iconst (v := (0 : Int32)) C dX7_awaitedBehind_57 (by decide) ?_
            refine q_goto (tgt := 62) C dX7_awaitedBehind_58 (by decide) ?_
            subst hF
            exact q_ireti C hA0 hr dX7_awaitedBehind_62 hQ
      · have hF := ite_t hF c5
        refine q_iconst (v := (2 : Int32)) C dX7_awaitedBehind_43 (by decide) ?_
        subst hF
        exact q_ireti C hA0 hr dX7_awaitedBehind_44 hQ
  · have hF := ite_t hF c1
    refine q_iload_n C dX7_awaitedBehind_4 1 rfl rfl ?_
    refine q_roz (q_runS (As := [.int p2]) (rest := []) C (fun sz => c_X7_isHerd l dC dI cI cZ cQ p2 (f_Pad_isHerd p2) rfl sz) (va_cwS 1 C.2.2.2.2.1 gX7_awaitedBehind_X7_isHerd rfl rfl rfl (by decide +kernel) ⟨Nat.le_of_ble_eq_true rfl, Nat.le_of_ble_eq_true rfl⟩) [] rfl rfl rfl rfl (Nat.le_of_ble_eq_true rfl) dX7_awaitedBehind_5 ⟨Nat.zero_le _, Nat.zero_le _⟩) (fun hz8 => ?_)
    refine q_if_eq (tgt := 13) C dX7_awaitedBehind_8 (by decide) (fun c9 => ?_) (fun c9 => ?_)
    · have hF := ite_t hF c9
      refine q_iload_n C dX7_awaitedBehind_13 1 rfl rfl ?_
      refine q_roz (q_runS (As := [.int p2]) (rest := []) C (fun sz => c_X7_isClause l dC dI cI cZ cQ p2 (f_Pad_isClause p2) rfl sz) (va_cwS 1 C.2.2.2.2.1 gX7_awaitedBehind_X7_isClause rfl rfl rfl (by decide +kernel) ⟨Nat.le_of_ble_eq_true rfl, Nat.le_of_ble_eq_true rfl⟩) [] rfl rfl rfl rfl (Nat.le_of_ble_eq_true rfl) dX7_awaitedBehind_14 ⟨Nat.zero_le _, Nat.zero_le _⟩) (fun hz10 => ?_)
      refine q_if_ne (tgt := 26) C dX7_awaitedBehind_17 (by decide) (fun c11 => ?_) (fun c11 => ?_)
      · have hF := ite_f hF c11
        refine q_iconst (v := (0 : Int32)) C dX7_awaitedBehind_26 (by decide) ?_
        refine q_goto (tgt := 31) C dX7_awaitedBehind_27 (by decide) ?_
        subst hF
        exact q_ireti C hA0 hr dX7_awaitedBehind_31 hQ
      · have hF := ite_t hF c11
        refine q_iload_n C dX7_awaitedBehind_20 1 rfl rfl ?_
        refine q_bipush (v := (46 : Int32)) C dX7_awaitedBehind_21 (by decide) ?_
        refine q_icmp_ne (tgt := 30) C dX7_awaitedBehind_23 (by decide) (fun c12 => ?_) (fun c12 => ?_)
        · have hF := ite_f hF c12
          refine q_iconst (v := (3 : Int32)) C dX7_awaitedBehind_30 (by decide) ?_
          subst hF
          exact q_ireti C hA0 hr dX7_awaitedBehind_31 hQ
        · have hF := ite_t hF c12
          refine q_iconst (v := (0 : Int32)) C dX7_awaitedBehind_26 (by decide) ?_
          refine q_goto (tgt := 31) C dX7_awaitedBehind_27 (by decide) ?_
          subst hF
          exact q_ireti C hA0 hr dX7_awaitedBehind_31 hQ
    · have hF := ite_f hF c9
      refine q_iconst (v := (1 : Int32)) C dX7_awaitedBehind_11 (by decide) ?_
      subst hF
      exact q_ireti C hA0 hr dX7_awaitedBehind_12 hQ
set_option maxRecDepth 100000 in
set_option maxHeartbeats 4000000 in
theorem c_X7_faultPlace (l : Launch) (dC : Nat → ClassId) (dI : Nat → Nat → Nat) (cI cZ cQ : ClassId) (o o_signs : Nat) (v_signs : Nat → Int32) (v_size : Int32) (R : Int32) (hF : f_Pad_faultPlace v_signs v_size = some R) (sz : Nat) : Met l yX7_faultPlace wsX7_faultPlace ({ frames := 3, cells := 0, slots := 0, locals := 63 } : Room) (qPc ([.ref o]) (dC, dI) (qT cI cZ cQ) ([(o, .inr (7, [.ref o_signs, .int v_size])), (o_signs, .inl (cI, 60, .inl v_signs))]) sz) (qRi R) 0 0 (fun _ => False) := by
  refine q_met_r (cc := cX7_faultPlace) (own := RX7) (maxL := 3) (ret := (some .int)) (lv0 := [(0, .ref o)]) (by decide) rfl rfl rfl (Nat.le_of_ble_eq_true rfl) ?_
  intro p e s m args below meth c C hr A A' Q hA0 hQ
  have lk0 : Cond.fieldLink RX7 15 "SealStrait$Pad" "size" "I" ∈ wsX7_faultPlace := by decide +kernel
  have lk1 : ∀ w ∈ u_ws RX7 TX7 2, w ∈ wsX7_faultPlace := fun w h => List.mem_cons_of_mem _ (List.mem_append_right _ h)
  have lk2 : Cond.fieldLink RX7 11 "SealStrait$Pad" "signs" "[I" ∈ wsX7_faultPlace := by decide +kernel
  have L1 : ∀ (n : Nat) (x1 : Int32) (x2 : Int32), evr (fun s => b_Pad_faultPlace_1 v_signs v_size s.1 s.2) n (x1, x2) = some R → qG p l e ({ frames := 3, cells := 0, slots := 0, locals := 63 } : Room) s m args below meth c 3 (dC, dI) A A' Q 0 0 ([(0, .ref o), (1, .int x1), (2, .int x2)]) [] ([(o, .inr (7, [.ref o_signs, .int v_size])), (o_signs, .inl (cI, 60, .inl v_signs))]) 4 := by
    clear hF
    intro n
    induction n with
    | zero => intro x1 x2  hF; exact (evr_0 hF).elim
    | succ n ih =>
      intro x1 x2  hF
      obtain ⟨o9, hB, hn, hx⟩ := evr_c hF
      have hF : b_Pad_faultPlace_1 v_signs v_size x1 x2 = some o9 := hB
      unfold b_Pad_faultPlace_1 at hF
      refine q_iload_n C dX7_faultPlace_4 2 rfl rfl ?_
      refine q_aload_n C dX7_faultPlace_5 0 rfl rfl ?_
      refine q_get (C0 := RX7) (T := TX7) (N := 2) (k0 := 1) C lk1 0 rfl rfl (by decide) lk0 rfl (v := .int v_size) rfl dX7_faultPlace_6 ?_
      refine q_icmp_ge (tgt := 42) C dX7_faultPlace_9 (by decide) (fun c1 => ?_) (fun c1 => ?_)
      · have hF := ite_t hF c1
        refine q_iload_n C dX7_faultPlace_42 1 rfl rfl ?_
        refine q_if_ne (tgt := 51) C dX7_faultPlace_43 (by decide) (fun c2 => ?_) (fun c2 => ?_)
        · have hF := ite_f hF c2
          refine q_aload_n C dX7_faultPlace_51 0 rfl rfl ?_
          refine q_get (C0 := RX7) (T := TX7) (N := 2) (k0 := 1) C lk1 0 rfl rfl (by decide) lk0 rfl (v := .int v_size) rfl dX7_faultPlace_52 ?_
          cases hF
          have e3 := hx _ rfl
          cases e3
          exact q_ireti C hA0 hr dX7_faultPlace_55 hQ
        · have hF := ite_t hF c2
          refine q_bipush (v := (-6 : Int32)) C dX7_faultPlace_46 (by decide) ?_
          refine q_goto (tgt := 55) C dX7_faultPlace_48 (by decide) ?_
          cases hF
          have e4 := hx _ rfl
          cases e4
          exact q_ireti C hA0 hr dX7_faultPlace_55 hQ
      · have hF := ite_f hF c1
        refine q_iload_n C dX7_faultPlace_12 2 rfl rfl ?_
        refine q_bipush (v := (60 : Int32)) C dX7_faultPlace_13 (by decide) ?_
        refine q_icmp_ge (tgt := 42) C dX7_faultPlace_15 (by decide) (fun c5 => ?_) (fun c5 => ?_)
        · have hF := ite_t hF c5
          refine q_iload_n C dX7_faultPlace_42 1 rfl rfl ?_
          refine q_if_ne (tgt := 51) C dX7_faultPlace_43 (by decide) (fun c6 => ?_) (fun c6 => ?_)
          · have hF := ite_f hF c6
            refine q_aload_n C dX7_faultPlace_51 0 rfl rfl ?_
            refine q_get (C0 := RX7) (T := TX7) (N := 2) (k0 := 1) C lk1 0 rfl rfl (by decide) lk0 rfl (v := .int v_size) rfl dX7_faultPlace_52 ?_
            cases hF
            have e7 := hx _ rfl
            cases e7
            exact q_ireti C hA0 hr dX7_faultPlace_55 hQ
          · have hF := ite_t hF c6
            refine q_bipush (v := (-6 : Int32)) C dX7_faultPlace_46 (by decide) ?_
            refine q_goto (tgt := 55) C dX7_faultPlace_48 (by decide) ?_
            cases hF
            have e8 := hx _ rfl
            cases e8
            exact q_ireti C hA0 hr dX7_faultPlace_55 hQ
        · have hF := ite_f hF c5
          refine q_iload_n C dX7_faultPlace_18 1 rfl rfl ?_
          refine q_aload_n C dX7_faultPlace_19 0 rfl rfl ?_
          refine q_get (C0 := RX7) (T := TX7) (N := 2) (k0 := 0) C lk1 0 rfl rfl (by decide) lk2 rfl (v := .ref o_signs) rfl dX7_faultPlace_20 ?_
          refine q_iload_n C dX7_faultPlace_23 2 rfl rfl ?_
          obtain ⟨hc9, hF⟩ := ite_c hF
          refine q_iald C 1 0 rfl rfl (ix_in hc9) dX7_faultPlace_24 ?_
          refine q_roi (q_runS (As := [.int x1, .int (v_signs (x2).toNatClampNeg)]) (rest := []) C (fun sz => c_X7_awaitedBehind l dC dI cI cZ cQ x1 (v_signs (x2).toNatClampNeg) (f_Pad_awaitedBehind x1 (v_signs (x2).toNatClampNeg)) rfl sz) (va_cwS 2 C.2.2.2.2.1 gX7_faultPlace_X7_awaitedBehind rfl rfl rfl (by decide +kernel) ⟨Nat.le_of_ble_eq_true rfl, Nat.le_of_ble_eq_true rfl⟩) [] rfl rfl rfl rfl (Nat.le_of_ble_eq_true rfl) dX7_faultPlace_25 ⟨Nat.zero_le _, Nat.zero_le _⟩) ?_
          refine q_istore_n C ([(1, .int (f_Pad_awaitedBehind x1 (v_signs (x2).toNatClampNeg))), (0, .ref o), (2, .int x2)]) dX7_faultPlace_28 rfl (by decide) rfl ?_
          refine q_iload_n C dX7_faultPlace_29 0 rfl rfl ?_
          refine q_iconst (v := (3 : Int32)) C dX7_faultPlace_30 (by decide) ?_
          refine q_icmp_ne (tgt := 36) C dX7_faultPlace_31 (by decide) (fun c11 => ?_) (fun c11 => ?_)
          · have hF := ite_f hF c11
            refine q_iinc (v := (x2 + 1)) C ([(2, .int (x2 + 1)), (1, .int (f_Pad_awaitedBehind x1 (v_signs (x2).toNatClampNeg))), (0, .ref o)]) dX7_faultPlace_36 2 rfl rfl (by decide) rfl ?_
            refine q_goto (tgt := 4) C dX7_faultPlace_39 (by decide) ?_
            cases hF
            refine q_lsel [2, 1, 0] rfl ?_
            exact ih (f_Pad_awaitedBehind x1 (v_signs (x2).toNatClampNeg)) (x2 + 1) (hn _ rfl)
          · have hF := ite_t hF c11
            refine q_iload_n C dX7_faultPlace_34 2 rfl rfl ?_
            cases hF
            have e12 := hx _ rfl
            cases e12
            exact q_ireti C hA0 hr dX7_faultPlace_35 hQ
  unfold f_Pad_faultPlace at hF
  refine q_iconst (v := (0 : Int32)) C dX7_faultPlace_0 (by decide) ?_
  refine q_istore_n C ([(1, .int (0 : Int32)), (0, .ref o)]) dX7_faultPlace_1 rfl (by decide) rfl ?_
  refine q_iconst (v := (0 : Int32)) C dX7_faultPlace_2 (by decide) ?_
  refine q_istore_n C ([(2, .int (0 : Int32)), (1, .int (0 : Int32)), (0, .ref o)]) dX7_faultPlace_3 rfl (by decide) rfl ?_
  obtain ⟨n13, hF⟩ := (ev_iff _ _ _).mp hF
  refine q_lsel [2, 1, 0] rfl ?_
  exact L1 n13 (0 : Int32) (0 : Int32) hF
set_option maxRecDepth 100000 in
set_option maxHeartbeats 4000000 in
theorem c_X8_copyFrom (l : Launch) (dC : Nat → ClassId) (dI : Nat → Nat → Nat) (cI cZ cQ : ClassId) (o o_heads o_sides o_moods o_moults b1 b1_heads b1_sides b1_moods b1_moults : Nat) (v_there : Int32) (v_month : Int32) (v_lost : Int32) (v_heads : Nat → Int32) (v_sides : Nat → Int32) (v_moods : Nat → Int32) (v_moults : Nat → Int32) (v_a1_there : Int32) (v_a1_month : Int32) (v_a1_lost : Int32) (v_a1_heads : Nat → Int32) (v_a1_sides : Nat → Int32) (v_a1_moods : Nat → Int32) (v_a1_moults : Nat → Int32) (w_there : Int32) (w_month : Int32) (w_lost : Int32) (w_heads : Nat → Int32) (w_sides : Nat → Int32) (w_moods : Nat → Int32) (w_moults : Nat → Int32) (hF : f_Sea_copyFrom v_there v_month v_lost v_heads v_sides v_moods v_moults v_a1_there v_a1_month v_a1_lost v_a1_heads v_a1_sides v_a1_moods v_a1_moults = some (w_there, w_month, w_lost, w_heads, w_sides, w_moods, w_moults)) (sz : Nat) : Met l yX8_copyFrom wsX8_copyFrom ({ frames := 0, cells := 0, slots := 0, locals := 0 } : Room) (qPc ([.ref o, .ref b1]) (dC, dI) (qT cI cZ cQ) ([(o, .inr (8, [.int v_there, .int v_month, .int v_lost, .ref o_heads, .ref o_sides, .ref o_moods, .ref o_moults])), (o_heads, .inl (cI, 6, .inl v_heads)), (o_sides, .inl (cI, 6, .inl v_sides)), (o_moods, .inl (cI, 6, .inl v_moods)), (o_moults, .inl (cI, 6, .inl v_moults)), (b1, .inr (8, [.int v_a1_there, .int v_a1_month, .int v_a1_lost, .ref b1_heads, .ref b1_sides, .ref b1_moods, .ref b1_moults])), (b1_heads, .inl (cI, 6, .inl v_a1_heads)), (b1_sides, .inl (cI, 6, .inl v_a1_sides)), (b1_moods, .inl (cI, 6, .inl v_a1_moods)), (b1_moults, .inl (cI, 6, .inl v_a1_moults))]) sz) (qWv (dC, dI) ([(o, .inr (8, [.int w_there, .int w_month, .int w_lost, .ref o_heads, .ref o_sides, .ref o_moods, .ref o_moults])), (o_heads, .inl (cI, 6, .inl w_heads)), (o_sides, .inl (cI, 6, .inl w_sides)), (o_moods, .inl (cI, 6, .inl w_moods)), (o_moults, .inl (cI, 6, .inl w_moults)), (b1, .inr (8, [.int v_a1_there, .int v_a1_month, .int v_a1_lost, .ref b1_heads, .ref b1_sides, .ref b1_moods, .ref b1_moults])), (b1_heads, .inl (cI, 6, .inl v_a1_heads)), (b1_sides, .inl (cI, 6, .inl v_a1_sides)), (b1_moods, .inl (cI, 6, .inl v_a1_moods)), (b1_moults, .inl (cI, 6, .inl v_a1_moults))]) (va_A ([(o, .inr (8, [.int v_there, .int v_month, .int v_lost, .ref o_heads, .ref o_sides, .ref o_moods, .ref o_moults])), (o_heads, .inl (cI, 6, .inl v_heads)), (o_sides, .inl (cI, 6, .inl v_sides)), (o_moods, .inl (cI, 6, .inl v_moods)), (o_moults, .inl (cI, 6, .inl v_moults)), (b1, .inr (8, [.int v_a1_there, .int v_a1_month, .int v_a1_lost, .ref b1_heads, .ref b1_sides, .ref b1_moods, .ref b1_moults])), (b1_heads, .inl (cI, 6, .inl v_a1_heads)), (b1_sides, .inl (cI, 6, .inl v_a1_sides)), (b1_moods, .inl (cI, 6, .inl v_a1_moods)), (b1_moults, .inl (cI, 6, .inl v_a1_moults))]) sz)) 0 0 (va_A ([(o, .inr (8, [.int v_there, .int v_month, .int v_lost, .ref o_heads, .ref o_sides, .ref o_moods, .ref o_moults])), (o_heads, .inl (cI, 6, .inl v_heads)), (o_sides, .inl (cI, 6, .inl v_sides)), (o_moods, .inl (cI, 6, .inl v_moods)), (o_moults, .inl (cI, 6, .inl v_moults)), (b1, .inr (8, [.int v_a1_there, .int v_a1_month, .int v_a1_lost, .ref b1_heads, .ref b1_sides, .ref b1_moods, .ref b1_moults])), (b1_heads, .inl (cI, 6, .inl v_a1_heads)), (b1_sides, .inl (cI, 6, .inl v_a1_sides)), (b1_moods, .inl (cI, 6, .inl v_a1_moods)), (b1_moults, .inl (cI, 6, .inl v_a1_moults))]) sz) := by
  refine q_met_w (Qc := fun A => qWv (dC, dI) ([(o, .inr (8, [.int w_there, .int w_month, .int w_lost, .ref o_heads, .ref o_sides, .ref o_moods, .ref o_moults])), (o_heads, .inl (cI, 6, .inl w_heads)), (o_sides, .inl (cI, 6, .inl w_sides)), (o_moods, .inl (cI, 6, .inl w_moods)), (o_moults, .inl (cI, 6, .inl w_moults)), (b1, .inr (8, [.int v_a1_there, .int v_a1_month, .int v_a1_lost, .ref b1_heads, .ref b1_sides, .ref b1_moods, .ref b1_moults])), (b1_heads, .inl (cI, 6, .inl v_a1_heads)), (b1_sides, .inl (cI, 6, .inl v_a1_sides)), (b1_moods, .inl (cI, 6, .inl v_a1_moods)), (b1_moults, .inl (cI, 6, .inl v_a1_moults))]) A) (cc := cX8_copyFrom) (own := RX8) (maxL := 3) (ret := none) (lv0 := [(0, .ref o), (1, .ref b1)]) (by decide) rfl rfl rfl (Nat.le_of_ble_eq_true rfl) ?_
  intro p e s m args below meth c A hA C hr hnm Q hQ
  have lk0 : Cond.fieldLink RX8 24 "SealStrait$Sea" "there" "I" ∈ wsX8_copyFrom := by decide +kernel
  have lk1 : ∀ w ∈ u_ws RX8 TX8 7, w ∈ wsX8_copyFrom := fun w h => List.mem_cons_of_mem _ (List.mem_append_right _ h)
  have lk2 : Cond.fieldLink RX8 28 "SealStrait$Sea" "month" "I" ∈ wsX8_copyFrom := by decide +kernel
  have lk3 : Cond.fieldLink RX8 31 "SealStrait$Sea" "lost" "I" ∈ wsX8_copyFrom := by decide +kernel
  have lk4 : Cond.fieldLink RX8 9 "SealStrait$Sea" "heads" "[I" ∈ wsX8_copyFrom := by decide +kernel
  have lk5 : Cond.fieldLink RX8 15 "SealStrait$Sea" "sides" "[I" ∈ wsX8_copyFrom := by decide +kernel
  have lk6 : Cond.fieldLink RX8 18 "SealStrait$Sea" "moods" "[I" ∈ wsX8_copyFrom := by decide +kernel
  have lk7 : Cond.fieldLink RX8 21 "SealStrait$Sea" "moults" "[I" ∈ wsX8_copyFrom := by decide +kernel
  have L1 : ∀ (n : Nat) (x2 : Int32) (v_there : Int32) (v_month : Int32) (v_lost : Int32) (v_heads : Nat → Int32) (v_sides : Nat → Int32) (v_moods : Nat → Int32) (v_moults : Nat → Int32) (z_heads : Nat → Int32) (z_sides : Nat → Int32) (z_moods : Nat → Int32) (z_moults : Nat → Int32), evr (fun s => b_Sea_copyFrom_1 v_a1_heads v_a1_sides v_a1_moods v_a1_moults s.1 s.2.1 s.2.2.1 s.2.2.2.1 s.2.2.2.2) n (x2, v_heads, v_sides, v_moods, v_moults) = some (z_heads, z_sides, z_moods, z_moults) → qG p l e ({ frames := 0, cells := 0, slots := 0, locals := 0 } : Room) s m args below meth c 3 (dC, dI) A A Q 0 0 ([]) [] ([(o, .inr (8, [.int v_there, .int v_month, .int v_lost, .ref o_heads, .ref o_sides, .ref o_moods, .ref o_moults])), (o_heads, .inl (cI, 6, .inl z_heads)), (o_sides, .inl (cI, 6, .inl z_sides)), (o_moods, .inl (cI, 6, .inl z_moods)), (o_moults, .inl (cI, 6, .inl z_moults)), (b1, .inr (8, [.int v_a1_there, .int v_a1_month, .int v_a1_lost, .ref b1_heads, .ref b1_sides, .ref b1_moods, .ref b1_moults])), (b1_heads, .inl (cI, 6, .inl v_a1_heads)), (b1_sides, .inl (cI, 6, .inl v_a1_sides)), (b1_moods, .inl (cI, 6, .inl v_a1_moods)), (b1_moults, .inl (cI, 6, .inl v_a1_moults))]) 86 → qG p l e ({ frames := 0, cells := 0, slots := 0, locals := 0 } : Room) s m args below meth c 3 (dC, dI) A A Q 0 0 ([(0, .ref o), (1, .ref b1), (2, .int x2)]) [] ([(o, .inr (8, [.int v_there, .int v_month, .int v_lost, .ref o_heads, .ref o_sides, .ref o_moods, .ref o_moults])), (o_heads, .inl (cI, 6, .inl v_heads)), (o_sides, .inl (cI, 6, .inl v_sides)), (o_moods, .inl (cI, 6, .inl v_moods)), (o_moults, .inl (cI, 6, .inl v_moults)), (b1, .inr (8, [.int v_a1_there, .int v_a1_month, .int v_a1_lost, .ref b1_heads, .ref b1_sides, .ref b1_moods, .ref b1_moults])), (b1_heads, .inl (cI, 6, .inl v_a1_heads)), (b1_sides, .inl (cI, 6, .inl v_a1_sides)), (b1_moods, .inl (cI, 6, .inl v_a1_moods)), (b1_moults, .inl (cI, 6, .inl v_a1_moults))]) 26 := by
    clear hF
    intro n
    induction n with
    | zero => intro x2 v_there v_month v_lost v_heads v_sides v_moods v_moults z_heads z_sides z_moods z_moults hF; exact (evr_0 hF).elim
    | succ n ih =>
      intro x2 v_there v_month v_lost v_heads v_sides v_moods v_moults z_heads z_sides z_moods z_moults hF hk
      obtain ⟨o9, hB, hn, hx⟩ := evr_c hF
      have hF : b_Sea_copyFrom_1 v_a1_heads v_a1_sides v_a1_moods v_a1_moults x2 v_heads v_sides v_moods v_moults = some o9 := hB
      unfold b_Sea_copyFrom_1 at hF
      refine q_iload_n C dX8_copyFrom_26 2 rfl rfl ?_
      refine q_bipush (v := (6 : Int32)) C dX8_copyFrom_27 (by decide) ?_
      refine q_icmp_ge (tgt := 86) C dX8_copyFrom_29 (by decide) (fun c1 => ?_) (fun c1 => ?_)
      · have hF := ite_t hF c1
        cases hF
        have e2 := hx _ rfl
        cases e2
        refine q_lsel [] rfl ?_
        exact hk
      · have hF := ite_f hF c1
        refine q_aload_n C dX8_copyFrom_32 0 rfl rfl ?_
        refine q_get (C0 := RX8) (T := TX8) (N := 7) (k0 := 3) C lk1 0 rfl rfl (by decide) lk4 rfl (v := .ref o_heads) rfl dX8_copyFrom_33 ?_
        refine q_iload_n C dX8_copyFrom_36 2 rfl rfl ?_
        refine q_aload_n C dX8_copyFrom_37 1 rfl rfl ?_
        refine q_get (C0 := RX8) (T := TX8) (N := 7) (k0 := 3) C lk1 5 rfl rfl (by decide) lk4 rfl (v := .ref b1_heads) rfl dX8_copyFrom_38 ?_
        refine q_iload_n C dX8_copyFrom_41 2 rfl rfl ?_
        obtain ⟨hc3, hF⟩ := ite_c hF
        refine q_iald C 6 0 rfl rfl (ix_in hc3) dX8_copyFrom_42 ?_
        obtain ⟨hc4, hF⟩ := ite_c hF
        refine q_iast C 1 0 rfl rfl (ix_in hc4) ([(o, .inr (8, [.int v_there, .int v_month, .int v_lost, .ref o_heads, .ref o_sides, .ref o_moods, .ref o_moults])), (o_heads, .inl (cI, 6, .inl (upd v_heads (x2).toNatClampNeg (v_a1_heads (x2).toNatClampNeg)))), (o_sides, .inl (cI, 6, .inl v_sides)), (o_moods, .inl (cI, 6, .inl v_moods)), (o_moults, .inl (cI, 6, .inl v_moults)), (b1, .inr (8, [.int v_a1_there, .int v_a1_month, .int v_a1_lost, .ref b1_heads, .ref b1_sides, .ref b1_moods, .ref b1_moults])), (b1_heads, .inl (cI, 6, .inl v_a1_heads)), (b1_sides, .inl (cI, 6, .inl v_a1_sides)), (b1_moods, .inl (cI, 6, .inl v_a1_moods)), (b1_moults, .inl (cI, 6, .inl v_a1_moults))]) rfl dX8_copyFrom_43 ?_
        refine q_aload_n C dX8_copyFrom_44 0 rfl rfl ?_
        refine q_get (C0 := RX8) (T := TX8) (N := 7) (k0 := 4) C lk1 0 rfl rfl (by decide) lk5 rfl (v := .ref o_sides) rfl dX8_copyFrom_45 ?_
        refine q_iload_n C dX8_copyFrom_48 2 rfl rfl ?_
        refine q_aload_n C dX8_copyFrom_49 1 rfl rfl ?_
        refine q_get (C0 := RX8) (T := TX8) (N := 7) (k0 := 4) C lk1 5 rfl rfl (by decide) lk5 rfl (v := .ref b1_sides) rfl dX8_copyFrom_50 ?_
        refine q_iload_n C dX8_copyFrom_53 2 rfl rfl ?_
        obtain ⟨hc5, hF⟩ := ite_c hF
        refine q_iald C 7 0 rfl rfl (ix_in hc5) dX8_copyFrom_54 ?_
        obtain ⟨hc6, hF⟩ := ite_c hF
        refine q_iast C 2 0 rfl rfl (ix_in hc6) ([(o, .inr (8, [.int v_there, .int v_month, .int v_lost, .ref o_heads, .ref o_sides, .ref o_moods, .ref o_moults])), (o_heads, .inl (cI, 6, .inl (upd v_heads (x2).toNatClampNeg (v_a1_heads (x2).toNatClampNeg)))), (o_sides, .inl (cI, 6, .inl (upd v_sides (x2).toNatClampNeg (v_a1_sides (x2).toNatClampNeg)))), (o_moods, .inl (cI, 6, .inl v_moods)), (o_moults, .inl (cI, 6, .inl v_moults)), (b1, .inr (8, [.int v_a1_there, .int v_a1_month, .int v_a1_lost, .ref b1_heads, .ref b1_sides, .ref b1_moods, .ref b1_moults])), (b1_heads, .inl (cI, 6, .inl v_a1_heads)), (b1_sides, .inl (cI, 6, .inl v_a1_sides)), (b1_moods, .inl (cI, 6, .inl v_a1_moods)), (b1_moults, .inl (cI, 6, .inl v_a1_moults))]) rfl dX8_copyFrom_55 ?_
        refine q_aload_n C dX8_copyFrom_56 0 rfl rfl ?_
        refine q_get (C0 := RX8) (T := TX8) (N := 7) (k0 := 5) C lk1 0 rfl rfl (by decide) lk6 rfl (v := .ref o_moods) rfl dX8_copyFrom_57 ?_
        refine q_iload_n C dX8_copyFrom_60 2 rfl rfl ?_
        refine q_aload_n C dX8_copyFrom_61 1 rfl rfl ?_
        refine q_get (C0 := RX8) (T := TX8) (N := 7) (k0 := 5) C lk1 5 rfl rfl (by decide) lk6 rfl (v := .ref b1_moods) rfl dX8_copyFrom_62 ?_
        refine q_iload_n C dX8_copyFrom_65 2 rfl rfl ?_
        obtain ⟨hc7, hF⟩ := ite_c hF
        refine q_iald C 8 0 rfl rfl (ix_in hc7) dX8_copyFrom_66 ?_
        obtain ⟨hc8, hF⟩ := ite_c hF
        refine q_iast C 3 0 rfl rfl (ix_in hc8) ([(o, .inr (8, [.int v_there, .int v_month, .int v_lost, .ref o_heads, .ref o_sides, .ref o_moods, .ref o_moults])), (o_heads, .inl (cI, 6, .inl (upd v_heads (x2).toNatClampNeg (v_a1_heads (x2).toNatClampNeg)))), (o_sides, .inl (cI, 6, .inl (upd v_sides (x2).toNatClampNeg (v_a1_sides (x2).toNatClampNeg)))), (o_moods, .inl (cI, 6, .inl (upd v_moods (x2).toNatClampNeg (v_a1_moods (x2).toNatClampNeg)))), (o_moults, .inl (cI, 6, .inl v_moults)), (b1, .inr (8, [.int v_a1_there, .int v_a1_month, .int v_a1_lost, .ref b1_heads, .ref b1_sides, .ref b1_moods, .ref b1_moults])), (b1_heads, .inl (cI, 6, .inl v_a1_heads)), (b1_sides, .inl (cI, 6, .inl v_a1_sides)), (b1_moods, .inl (cI, 6, .inl v_a1_moods)), (b1_moults, .inl (cI, 6, .inl v_a1_moults))]) rfl dX8_copyFrom_67 ?_
        refine q_aload_n C dX8_copyFrom_68 0 rfl rfl ?_
        refine q_get (C0 := RX8) (T := TX8) (N := 7) (k0 := 6) C lk1 0 rfl rfl (by decide) lk7 rfl (v := .ref o_moults) rfl dX8_copyFrom_69 ?_
        refine q_iload_n C dX8_copyFrom_72 2 rfl rfl ?_
        refine q_aload_n C dX8_copyFrom_73 1 rfl rfl ?_
        refine q_get (C0 := RX8) (T := TX8) (N := 7) (k0 := 6) C lk1 5 rfl rfl (by decide) lk7 rfl (v := .ref b1_moults) rfl dX8_copyFrom_74 ?_
        refine q_iload_n C dX8_copyFrom_77 2 rfl rfl ?_
        obtain ⟨hc9, hF⟩ := ite_c hF
        refine q_iald C 9 0 rfl rfl (ix_in hc9) dX8_copyFrom_78 ?_
        obtain ⟨hc10, hF⟩ := ite_c hF
        refine q_iast C 4 0 rfl rfl (ix_in hc10) ([(o, .inr (8, [.int v_there, .int v_month, .int v_lost, .ref o_heads, .ref o_sides, .ref o_moods, .ref o_moults])), (o_heads, .inl (cI, 6, .inl (upd v_heads (x2).toNatClampNeg (v_a1_heads (x2).toNatClampNeg)))), (o_sides, .inl (cI, 6, .inl (upd v_sides (x2).toNatClampNeg (v_a1_sides (x2).toNatClampNeg)))), (o_moods, .inl (cI, 6, .inl (upd v_moods (x2).toNatClampNeg (v_a1_moods (x2).toNatClampNeg)))), (o_moults, .inl (cI, 6, .inl (upd v_moults (x2).toNatClampNeg (v_a1_moults (x2).toNatClampNeg)))), (b1, .inr (8, [.int v_a1_there, .int v_a1_month, .int v_a1_lost, .ref b1_heads, .ref b1_sides, .ref b1_moods, .ref b1_moults])), (b1_heads, .inl (cI, 6, .inl v_a1_heads)), (b1_sides, .inl (cI, 6, .inl v_a1_sides)), (b1_moods, .inl (cI, 6, .inl v_a1_moods)), (b1_moults, .inl (cI, 6, .inl v_a1_moults))]) rfl dX8_copyFrom_79 ?_
        refine q_iinc (v := (x2 + 1)) C ([(2, .int (x2 + 1)), (0, .ref o), (1, .ref b1)]) dX8_copyFrom_80 2 rfl rfl (by decide) rfl ?_
        refine q_goto (tgt := 26) C dX8_copyFrom_83 (by decide) ?_
        cases hF
        refine q_lsel [1, 2, 0] rfl ?_
        exact ih (x2 + 1) v_there v_month v_lost (upd v_heads (x2).toNatClampNeg (v_a1_heads (x2).toNatClampNeg)) (upd v_sides (x2).toNatClampNeg (v_a1_sides (x2).toNatClampNeg)) (upd v_moods (x2).toNatClampNeg (v_a1_moods (x2).toNatClampNeg)) (upd v_moults (x2).toNatClampNeg (v_a1_moults (x2).toNatClampNeg)) z_heads z_sides z_moods z_moults (hn _ rfl) hk
  unfold f_Sea_copyFrom at hF
  refine q_aload_n C dX8_copyFrom_0 0 rfl rfl ?_
  refine q_aload_n C dX8_copyFrom_1 1 rfl rfl ?_
  refine q_get (C0 := RX8) (T := TX8) (N := 7) (k0 := 0) C lk1 5 rfl rfl (by decide) lk0 rfl (v := .int v_a1_there) rfl dX8_copyFrom_2 ?_
  refine q_put (C0 := RX8) (T := TX8) (N := 7) (k0 := 0) C lk1 0 rfl rfl (by decide) lk0 rfl tyX8 tyX8_ok nmX8 rfl (v := .int v_a1_there) rfl rfl (Nat.le_of_ble_eq_true rfl) ([(o, .inr (8, [.int v_a1_there, .int v_month, .int v_lost, .ref o_heads, .ref o_sides, .ref o_moods, .ref o_moults])), (o_heads, .inl (cI, 6, .inl v_heads)), (o_sides, .inl (cI, 6, .inl v_sides)), (o_moods, .inl (cI, 6, .inl v_moods)), (o_moults, .inl (cI, 6, .inl v_moults)), (b1, .inr (8, [.int v_a1_there, .int v_a1_month, .int v_a1_lost, .ref b1_heads, .ref b1_sides, .ref b1_moods, .ref b1_moults])), (b1_heads, .inl (cI, 6, .inl v_a1_heads)), (b1_sides, .inl (cI, 6, .inl v_a1_sides)), (b1_moods, .inl (cI, 6, .inl v_a1_moods)), (b1_moults, .inl (cI, 6, .inl v_a1_moults))]) rfl dX8_copyFrom_5 ?_
  refine q_aload_n C dX8_copyFrom_8 0 rfl rfl ?_
  refine q_aload_n C dX8_copyFrom_9 1 rfl rfl ?_
  refine q_get (C0 := RX8) (T := TX8) (N := 7) (k0 := 1) C lk1 5 rfl rfl (by decide) lk2 rfl (v := .int v_a1_month) rfl dX8_copyFrom_10 ?_
  refine q_put (C0 := RX8) (T := TX8) (N := 7) (k0 := 1) C lk1 0 rfl rfl (by decide) lk2 rfl tyX8 tyX8_ok nmX8 rfl (v := .int v_a1_month) rfl rfl (Nat.le_of_ble_eq_true rfl) ([(o, .inr (8, [.int v_a1_there, .int v_a1_month, .int v_lost, .ref o_heads, .ref o_sides, .ref o_moods, .ref o_moults])), (o_heads, .inl (cI, 6, .inl v_heads)), (o_sides, .inl (cI, 6, .inl v_sides)), (o_moods, .inl (cI, 6, .inl v_moods)), (o_moults, .inl (cI, 6, .inl v_moults)), (b1, .inr (8, [.int v_a1_there, .int v_a1_month, .int v_a1_lost, .ref b1_heads, .ref b1_sides, .ref b1_moods, .ref b1_moults])), (b1_heads, .inl (cI, 6, .inl v_a1_heads)), (b1_sides, .inl (cI, 6, .inl v_a1_sides)), (b1_moods, .inl (cI, 6, .inl v_a1_moods)), (b1_moults, .inl (cI, 6, .inl v_a1_moults))]) rfl dX8_copyFrom_13 ?_
  refine q_aload_n C dX8_copyFrom_16 0 rfl rfl ?_
  refine q_aload_n C dX8_copyFrom_17 1 rfl rfl ?_
  refine q_get (C0 := RX8) (T := TX8) (N := 7) (k0 := 2) C lk1 5 rfl rfl (by decide) lk3 rfl (v := .int v_a1_lost) rfl dX8_copyFrom_18 ?_
  refine q_put (C0 := RX8) (T := TX8) (N := 7) (k0 := 2) C lk1 0 rfl rfl (by decide) lk3 rfl tyX8 tyX8_ok nmX8 rfl (v := .int v_a1_lost) rfl rfl (Nat.le_of_ble_eq_true rfl) ([(o, .inr (8, [.int v_a1_there, .int v_a1_month, .int v_a1_lost, .ref o_heads, .ref o_sides, .ref o_moods, .ref o_moults])), (o_heads, .inl (cI, 6, .inl v_heads)), (o_sides, .inl (cI, 6, .inl v_sides)), (o_moods, .inl (cI, 6, .inl v_moods)), (o_moults, .inl (cI, 6, .inl v_moults)), (b1, .inr (8, [.int v_a1_there, .int v_a1_month, .int v_a1_lost, .ref b1_heads, .ref b1_sides, .ref b1_moods, .ref b1_moults])), (b1_heads, .inl (cI, 6, .inl v_a1_heads)), (b1_sides, .inl (cI, 6, .inl v_a1_sides)), (b1_moods, .inl (cI, 6, .inl v_a1_moods)), (b1_moults, .inl (cI, 6, .inl v_a1_moults))]) rfl dX8_copyFrom_21 ?_
  refine q_iconst (v := (0 : Int32)) C dX8_copyFrom_24 (by decide) ?_
  refine q_istore_n C ([(2, .int (0 : Int32)), (0, .ref o), (1, .ref b1)]) dX8_copyFrom_25 rfl (by decide) rfl ?_
  obtain ⟨⟨z11_heads, z11_sides, z11_moods, z11_moults⟩, hc12, hF⟩ := bind_c hF
  dsimp only at hF
  obtain ⟨n13, hc12⟩ := (ev_iff _ _ _).mp hc12
  refine q_lsel [1, 2, 0] rfl ?_
  refine L1 n13 (0 : Int32) v_a1_there v_a1_month v_a1_lost v_heads v_sides v_moods v_moults z11_heads z11_sides z11_moods z11_moults hc12 ?_
  cases hF
  exact q_wretv C hr dX8_copyFrom_86 hQ
set_option maxRecDepth 100000 in
set_option maxHeartbeats 4000000 in
theorem c_X8_settle (l : Launch) (dC : Nat → ClassId) (dI : Nat → Nat → Nat) (cI cZ cQ : ClassId) (o o_heads o_sides o_moods o_moults : Nat) (v_there : Int32) (v_heads : Nat → Int32) (v_sides : Nat → Int32) (v_moods : Nat → Int32) (v_moults : Nat → Int32) (v_month : Int32) (v_lost : Int32) (p1 : Int32) (p2 : Int32) (p3 : Int32) (p4 : Int32) (p5 : Int32) (w_there : Int32) (w_heads : Nat → Int32) (w_sides : Nat → Int32) (w_moods : Nat → Int32) (w_moults : Nat → Int32) (hF : f_Sea_settle v_there v_heads v_sides v_moods v_moults p1 p2 p3 p4 p5 = some (w_there, w_heads, w_sides, w_moods, w_moults)) (sz : Nat) : Met l yX8_settle wsX8_settle ({ frames := 1, cells := 0, slots := 0, locals := 22 } : Room) (qPc ([.ref o, .int p1, .int p2, .int p3, .int p4, .int p5]) (dC, dI) (qT cI cZ cQ) ([(o, .inr (8, [.int v_there, .int v_month, .int v_lost, .ref o_heads, .ref o_sides, .ref o_moods, .ref o_moults])), (o_heads, .inl (cI, 6, .inl v_heads)), (o_sides, .inl (cI, 6, .inl v_sides)), (o_moods, .inl (cI, 6, .inl v_moods)), (o_moults, .inl (cI, 6, .inl v_moults))]) sz) (qWv (dC, dI) ([(o, .inr (8, [.int w_there, .int v_month, .int v_lost, .ref o_heads, .ref o_sides, .ref o_moods, .ref o_moults])), (o_heads, .inl (cI, 6, .inl w_heads)), (o_sides, .inl (cI, 6, .inl w_sides)), (o_moods, .inl (cI, 6, .inl w_moods)), (o_moults, .inl (cI, 6, .inl w_moults))]) (va_A ([(o, .inr (8, [.int v_there, .int v_month, .int v_lost, .ref o_heads, .ref o_sides, .ref o_moods, .ref o_moults])), (o_heads, .inl (cI, 6, .inl v_heads)), (o_sides, .inl (cI, 6, .inl v_sides)), (o_moods, .inl (cI, 6, .inl v_moods)), (o_moults, .inl (cI, 6, .inl v_moults))]) sz)) 0 0 (va_A ([(o, .inr (8, [.int v_there, .int v_month, .int v_lost, .ref o_heads, .ref o_sides, .ref o_moods, .ref o_moults])), (o_heads, .inl (cI, 6, .inl v_heads)), (o_sides, .inl (cI, 6, .inl v_sides)), (o_moods, .inl (cI, 6, .inl v_moods)), (o_moults, .inl (cI, 6, .inl v_moults))]) sz) := by
  refine q_met_w (Qc := fun A => qWv (dC, dI) ([(o, .inr (8, [.int w_there, .int v_month, .int v_lost, .ref o_heads, .ref o_sides, .ref o_moods, .ref o_moults])), (o_heads, .inl (cI, 6, .inl w_heads)), (o_sides, .inl (cI, 6, .inl w_sides)), (o_moods, .inl (cI, 6, .inl w_moods)), (o_moults, .inl (cI, 6, .inl w_moults))]) A) (cc := cX8_settle) (own := RX8) (maxL := 6) (ret := none) (lv0 := [(0, .ref o), (1, .int p1), (2, .int p2), (3, .int p3), (4, .int p4), (5, .int p5)]) (by decide) rfl rfl rfl (Nat.le_of_ble_eq_true rfl) ?_
  intro p e s m args below meth c A hA C hr hnm Q hQ
  have lk0 : Cond.initialized RX11 ∈ wsX8_settle := by decide +kernel
  have lk1 : Cond.static yX11_within ∈ wsX8_settle := by decide +kernel
  have lk2 : (RX8, 34, yX11_within) ∈ qNest := by decide +kernel
  have lk3 : Cond.fieldLink RX8 24 "SealStrait$Sea" "there" "I" ∈ wsX8_settle := by decide +kernel
  have lk4 : ∀ w ∈ u_ws RX8 TX8 7, w ∈ wsX8_settle := fun w h => List.mem_cons_of_mem _ (List.mem_append_right _ h)
  have lk5 : Cond.fieldLink RX8 9 "SealStrait$Sea" "heads" "[I" ∈ wsX8_settle := by decide +kernel
  have lk6 : Cond.fieldLink RX8 15 "SealStrait$Sea" "sides" "[I" ∈ wsX8_settle := by decide +kernel
  have lk7 : Cond.fieldLink RX8 18 "SealStrait$Sea" "moods" "[I" ∈ wsX8_settle := by decide +kernel
  have lk8 : Cond.fieldLink RX8 21 "SealStrait$Sea" "moults" "[I" ∈ wsX8_settle := by decide +kernel
  unfold f_Sea_settle at hF
  refine q_iload_n C dX8_settle_0 1 rfl rfl ?_
  refine q_iconst (v := (0 : Int32)) C dX8_settle_1 (by decide) ?_
  refine q_iconst (v := (5 : Int32)) C dX8_settle_2 (by decide) ?_
  refine q_roz (q_runSN (As := [.int p1, .int (0 : Int32), .int (5 : Int32)]) (rest := []) (n := 3) C (fun sz => c_X11_within l dC dI cI cZ cQ p1 (0 : Int32) (5 : Int32) (f_Strait_within p1 (0 : Int32) (5 : Int32)) rfl sz) gX8_settle_X11_within_n34 rfl rfl rfl lk2 lk0 lk1 (by decide +kernel) ⟨Nat.le_of_ble_eq_true rfl, Nat.le_of_ble_eq_true rfl⟩ [] rfl rfl rfl rfl (Nat.le_of_ble_eq_true rfl) dX8_settle_3 ⟨Nat.zero_le _, Nat.zero_le _⟩) (fun hz1 => ?_)
  refine q_if_ne (tgt := 10) C dX8_settle_6 (by decide) (fun c2 => ?_) (fun c2 => ?_)
  · have hF := ite_f hF c2
    refine q_aload_n C dX8_settle_10 0 rfl rfl ?_
    refine q_dup C dX8_settle_11 rfl ?_
    refine q_get (C0 := RX8) (T := TX8) (N := 7) (k0 := 0) C lk4 0 rfl rfl (by decide) lk3 rfl (v := .int v_there) rfl dX8_settle_12 ?_
    refine q_iconst (v := (1 : Int32)) C dX8_settle_15 (by decide) ?_
    refine q_iload_n C dX8_settle_16 1 rfl rfl ?_
    refine q_ishl C dX8_settle_17 ?_
    refine q_ior C dX8_settle_18 ?_
    refine q_put (C0 := RX8) (T := TX8) (N := 7) (k0 := 0) C lk4 0 rfl rfl (by decide) lk3 rfl tyX8 tyX8_ok nmX8 rfl (v := .int (v_there ||| ((1 : Int32) <<< (p1 &&& 31)))) rfl rfl (Nat.le_of_ble_eq_true rfl) ([(o, .inr (8, [.int (v_there ||| ((1 : Int32) <<< (p1 &&& 31))), .int v_month, .int v_lost, .ref o_heads, .ref o_sides, .ref o_moods, .ref o_moults])), (o_heads, .inl (cI, 6, .inl v_heads)), (o_sides, .inl (cI, 6, .inl v_sides)), (o_moods, .inl (cI, 6, .inl v_moods)), (o_moults, .inl (cI, 6, .inl v_moults))]) rfl dX8_settle_19 ?_
    refine q_aload_n C dX8_settle_22 0 rfl rfl ?_
    refine q_get (C0 := RX8) (T := TX8) (N := 7) (k0 := 3) C lk4 0 rfl rfl (by decide) lk5 rfl (v := .ref o_heads) rfl dX8_settle_23 ?_
    refine q_iload_n C dX8_settle_26 1 rfl rfl ?_
    refine q_iload_n C dX8_settle_27 2 rfl rfl ?_
    obtain ⟨hc3, hF⟩ := ite_c hF
    refine q_iast C 1 0 rfl rfl (ix_in hc3) ([(o, .inr (8, [.int (v_there ||| ((1 : Int32) <<< (p1 &&& 31))), .int v_month, .int v_lost, .ref o_heads, .ref o_sides, .ref o_moods, .ref o_moults])), (o_heads, .inl (cI, 6, .inl (upd v_heads (p1).toNatClampNeg p2))), (o_sides, .inl (cI, 6, .inl v_sides)), (o_moods, .inl (cI, 6, .inl v_moods)), (o_moults, .inl (cI, 6, .inl v_moults))]) rfl dX8_settle_28 ?_
    refine q_aload_n C dX8_settle_29 0 rfl rfl ?_
    refine q_get (C0 := RX8) (T := TX8) (N := 7) (k0 := 4) C lk4 0 rfl rfl (by decide) lk6 rfl (v := .ref o_sides) rfl dX8_settle_30 ?_
    refine q_iload_n C dX8_settle_33 1 rfl rfl ?_
    refine q_iload_n C dX8_settle_34 3 rfl rfl ?_
    obtain ⟨hc4, hF⟩ := ite_c hF
    refine q_iast C 2 0 rfl rfl (ix_in hc4) ([(o, .inr (8, [.int (v_there ||| ((1 : Int32) <<< (p1 &&& 31))), .int v_month, .int v_lost, .ref o_heads, .ref o_sides, .ref o_moods, .ref o_moults])), (o_heads, .inl (cI, 6, .inl (upd v_heads (p1).toNatClampNeg p2))), (o_sides, .inl (cI, 6, .inl (upd v_sides (p1).toNatClampNeg p3))), (o_moods, .inl (cI, 6, .inl v_moods)), (o_moults, .inl (cI, 6, .inl v_moults))]) rfl dX8_settle_35 ?_
    refine q_aload_n C dX8_settle_36 0 rfl rfl ?_
    refine q_get (C0 := RX8) (T := TX8) (N := 7) (k0 := 5) C lk4 0 rfl rfl (by decide) lk7 rfl (v := .ref o_moods) rfl dX8_settle_37 ?_
    refine q_iload_n C dX8_settle_40 1 rfl rfl ?_
    refine q_iload C dX8_settle_41 4 rfl ?_
    obtain ⟨hc5, hF⟩ := ite_c hF
    refine q_iast C 3 0 rfl rfl (ix_in hc5) ([(o, .inr (8, [.int (v_there ||| ((1 : Int32) <<< (p1 &&& 31))), .int v_month, .int v_lost, .ref o_heads, .ref o_sides, .ref o_moods, .ref o_moults])), (o_heads, .inl (cI, 6, .inl (upd v_heads (p1).toNatClampNeg p2))), (o_sides, .inl (cI, 6, .inl (upd v_sides (p1).toNatClampNeg p3))), (o_moods, .inl (cI, 6, .inl (upd v_moods (p1).toNatClampNeg p4))), (o_moults, .inl (cI, 6, .inl v_moults))]) rfl dX8_settle_43 ?_
    refine q_aload_n C dX8_settle_44 0 rfl rfl ?_
    refine q_get (C0 := RX8) (T := TX8) (N := 7) (k0 := 6) C lk4 0 rfl rfl (by decide) lk8 rfl (v := .ref o_moults) rfl dX8_settle_45 ?_
    refine q_iload_n C dX8_settle_48 1 rfl rfl ?_
    refine q_iload C dX8_settle_49 5 rfl ?_
    obtain ⟨hc6, hF⟩ := ite_c hF
    refine q_iast C 4 0 rfl rfl (ix_in hc6) ([(o, .inr (8, [.int (v_there ||| ((1 : Int32) <<< (p1 &&& 31))), .int v_month, .int v_lost, .ref o_heads, .ref o_sides, .ref o_moods, .ref o_moults])), (o_heads, .inl (cI, 6, .inl (upd v_heads (p1).toNatClampNeg p2))), (o_sides, .inl (cI, 6, .inl (upd v_sides (p1).toNatClampNeg p3))), (o_moods, .inl (cI, 6, .inl (upd v_moods (p1).toNatClampNeg p4))), (o_moults, .inl (cI, 6, .inl (upd v_moults (p1).toNatClampNeg p5)))]) rfl dX8_settle_51 ?_
    cases hF
    exact q_wretv C hr dX8_settle_52 hQ
  · have hF := ite_t hF c2
    cases hF
    exact q_wretv C hr dX8_settle_9 hQ
set_option maxRecDepth 100000 in
set_option maxHeartbeats 4000000 in
theorem c_X8_traitOf (l : Launch) (dC : Nat → ClassId) (dI : Nat → Nat → Nat) (cI cZ cQ : ClassId) (o o_heads o_sides o_moods o_moults : Nat) (v_there : Int32) (v_heads : Nat → Int32) (v_sides : Nat → Int32) (v_moods : Nat → Int32) (v_moults : Nat → Int32) (v_month : Int32) (v_lost : Int32) (p1 : Int32) (p2 : Int32) (R : Int32) (hF : f_Sea_traitOf v_there v_heads v_sides v_moods v_moults p1 p2 = some R) (sz : Nat) : Met l yX8_traitOf wsX8_traitOf ({ frames := 1, cells := 0, slots := 0, locals := 21 } : Room) (qPc ([.ref o, .int p1, .int p2]) (dC, dI) (qT cI cZ cQ) ([(o, .inr (8, [.int v_there, .int v_month, .int v_lost, .ref o_heads, .ref o_sides, .ref o_moods, .ref o_moults])), (o_heads, .inl (cI, 6, .inl v_heads)), (o_sides, .inl (cI, 6, .inl v_sides)), (o_moods, .inl (cI, 6, .inl v_moods)), (o_moults, .inl (cI, 6, .inl v_moults))]) sz) (qRi R) 0 0 (fun _ => False) := by
  refine q_met_r (cc := cX8_traitOf) (own := RX8) (maxL := 3) (ret := (some .int)) (lv0 := [(0, .ref o), (1, .int p1), (2, .int p2)]) (by decide) rfl rfl rfl (Nat.le_of_ble_eq_true rfl) ?_
  intro p e s m args below meth c C hr A A' Q hA0 hQ
  have lk0 : Cond.fieldLink RX8 9 "SealStrait$Sea" "heads" "[I" ∈ wsX8_traitOf := by decide +kernel
  have lk1 : ∀ w ∈ u_ws RX8 TX8 7, w ∈ wsX8_traitOf := fun w h => List.mem_cons_of_mem _ (List.mem_append_right _ h)
  have lk2 : Cond.fieldLink RX8 15 "SealStrait$Sea" "sides" "[I" ∈ wsX8_traitOf := by decide +kernel
  have lk3 : Cond.fieldLink RX8 18 "SealStrait$Sea" "moods" "[I" ∈ wsX8_traitOf := by decide +kernel
  have lk4 : Cond.fieldLink RX8 21 "SealStrait$Sea" "moults" "[I" ∈ wsX8_traitOf := by decide +kernel
  unfold f_Sea_traitOf at hF
  refine q_aload_n C dX8_traitOf_0 0 rfl rfl ?_
  refine q_iload_n C dX8_traitOf_1 1 rfl rfl ?_
  refine q_roz (q_runV (As := [.int p1]) (rest := []) C (fun sz => c_X8_isThere l dC dI cI cZ cQ o o_heads o_sides o_moods o_moults v_there v_month v_lost p1 (f_Sea_isThere v_there p1) rfl sz) (cwV 1 C.2.2.2.2.1 gX8_traitOf_X8_isThere rfl rfl rfl (by decide +kernel) ⟨Nat.le_of_ble_eq_true rfl, Nat.le_of_ble_eq_true rfl⟩) 0 rfl rfl rfl [0] rfl rfl rfl rfl (Nat.le_of_ble_eq_true rfl) dX8_traitOf_2 ⟨Nat.zero_le _, Nat.zero_le _⟩) (fun hz1 => ?_)
  refine q_if_ne (tgt := 11) C dX8_traitOf_5 (by decide) (fun c2 => ?_) (fun c2 => ?_)
  · have hF := ite_f hF c2
    refine q_iload_n C dX8_traitOf_11 2 rfl rfl ?_
    by_cases c3 : p2 = (0 : Int32)
    · have hF := ite_t hF c3
      refine q_tab (tgt := 44) C dX8_traitOf_12 0 (by rw [c3]; decide) (by decide) (by decide) rfl (by decide) ?_
      refine q_aload_n C dX8_traitOf_44 0 rfl rfl ?_
      refine q_get (C0 := RX8) (T := TX8) (N := 7) (k0 := 3) C lk1 0 rfl rfl (by decide) lk0 rfl (v := .ref o_heads) rfl dX8_traitOf_45 ?_
      refine q_iload_n C dX8_traitOf_48 1 rfl rfl ?_
      obtain ⟨hc4, hF⟩ := ite_c hF
      refine q_iald C 1 0 rfl rfl (ix_in hc4) dX8_traitOf_49 ?_
      cases hF
      exact q_ireti C hA0 hr dX8_traitOf_50 hQ
    · have hF := ite_f hF c3
      by_cases c5 : p2 = (1 : Int32)
      · have hF := ite_t hF c5
        refine q_tab (tgt := 51) C dX8_traitOf_12 1 (by rw [c5]; decide) (by decide) (by decide) rfl (by decide) ?_
        refine q_aload_n C dX8_traitOf_51 0 rfl rfl ?_
        refine q_get (C0 := RX8) (T := TX8) (N := 7) (k0 := 4) C lk1 0 rfl rfl (by decide) lk2 rfl (v := .ref o_sides) rfl dX8_traitOf_52 ?_
        refine q_iload_n C dX8_traitOf_55 1 rfl rfl ?_
        obtain ⟨hc6, hF⟩ := ite_c hF
        refine q_iald C 2 0 rfl rfl (ix_in hc6) dX8_traitOf_56 ?_
        cases hF
        exact q_ireti C hA0 hr dX8_traitOf_57 hQ
      · have hF := ite_f hF c5
        by_cases c7 : p2 = (2 : Int32)
        · have hF := ite_t hF c7
          refine q_tab (tgt := 58) C dX8_traitOf_12 2 (by rw [c7]; decide) (by decide) (by decide) rfl (by decide) ?_
          refine q_aload_n C dX8_traitOf_58 0 rfl rfl ?_
          refine q_get (C0 := RX8) (T := TX8) (N := 7) (k0 := 5) C lk1 0 rfl rfl (by decide) lk3 rfl (v := .ref o_moods) rfl dX8_traitOf_59 ?_
          refine q_iload_n C dX8_traitOf_62 1 rfl rfl ?_
          obtain ⟨hc8, hF⟩ := ite_c hF
          refine q_iald C 3 0 rfl rfl (ix_in hc8) dX8_traitOf_63 ?_
          cases hF
          exact q_ireti C hA0 hr dX8_traitOf_64 hQ
        · have hF := ite_f hF c7
          by_cases c9 : p2 = (3 : Int32)
          · have hF := ite_t hF c9
            refine q_tab (tgt := 65) C dX8_traitOf_12 3 (by rw [c9]; decide) (by decide) (by decide) rfl (by decide) ?_
            refine q_aload_n C dX8_traitOf_65 0 rfl rfl ?_
            refine q_get (C0 := RX8) (T := TX8) (N := 7) (k0 := 6) C lk1 0 rfl rfl (by decide) lk4 rfl (v := .ref o_moults) rfl dX8_traitOf_66 ?_
            refine q_iload_n C dX8_traitOf_69 1 rfl rfl ?_
            obtain ⟨hc10, hF⟩ := ite_c hF
            refine q_iald C 4 0 rfl rfl (ix_in hc10) dX8_traitOf_70 ?_
            cases hF
            exact q_ireti C hA0 hr dX8_traitOf_71 hQ
          · have hF := ite_f hF c9
            refine q_tabD (tgt := 72) C dX8_traitOf_12 (by have c3t := lv_neT c3 (show (0 : Int32).toInt = 0 by decide); have c5t := lv_neT c5 (show (1 : Int32).toInt = 1 by decide); have c7t := lv_neT c7 (show (2 : Int32).toInt = 2 by decide); have c9t := lv_neT c9 (show (3 : Int32).toInt = 3 by decide); omega) (by decide) ?_
            refine q_bipush (v := (-2 : Int32)) C dX8_traitOf_72 (by decide) ?_
            cases hF
            exact q_ireti C hA0 hr dX8_traitOf_74 hQ
  · have hF := ite_t hF c2
    refine q_bipush (v := (-2 : Int32)) C dX8_traitOf_8 (by decide) ?_
    cases hF
    exact q_ireti C hA0 hr dX8_traitOf_10 hQ
set_option maxRecDepth 100000 in
set_option maxHeartbeats 4000000 in
theorem c_X8_signers (l : Launch) (dC : Nat → ClassId) (dI : Nat → Nat → Nat) (cI cZ cQ : ClassId) (o o_heads o_moods o_moults o_sides : Nat) (v_there : Int32) (v_month : Int32) (v_heads : Nat → Int32) (v_moods : Nat → Int32) (v_moults : Nat → Int32) (v_lost : Int32) (p1 : Int32) (R : Int32) (hF : f_Sea_signers v_there v_month v_heads v_moods v_moults p1 = some R) (sz : Nat) : Met l yX8_signers wsX8_signers ({ frames := 2, cells := 0, slots := 0, locals := 42 } : Room) (qPc ([.ref o, .int p1]) (dC, dI) (qT cI cZ cQ) ([(o, .inr (8, [.int v_there, .int v_month, .int v_lost, .ref o_heads, .ref o_sides, .ref o_moods, .ref o_moults])), (o_heads, .inl (cI, 6, .inl v_heads)), (o_moods, .inl (cI, 6, .inl v_moods)), (o_moults, .inl (cI, 6, .inl v_moults))]) sz) (qRi R) 0 0 (fun _ => False) := by
  refine q_met_r (cc := cX8_signers) (own := RX8) (maxL := 4) (ret := (some .int)) (lv0 := [(0, .ref o), (1, .int p1)]) (by decide) rfl rfl rfl (Nat.le_of_ble_eq_true rfl) ?_
  intro p e s m args below meth c C hr A A' Q hA0 hQ
  have lk0 : Cond.fieldLink RX8 18 "SealStrait$Sea" "moods" "[I" ∈ wsX8_signers := by decide +kernel
  have lk1 : ∀ w ∈ u_ws RX8 TX8 7, w ∈ wsX8_signers := fun w h => List.mem_cons_of_mem _ (List.mem_append_right _ h)
  have L1 : ∀ (n : Nat) (x1 : Int32) (x2 : Int32) (x3 : Int32) (y2 : Int32), evr (fun s => b_Sea_signers_1 x1 v_there v_month v_heads v_moods v_moults s.1 s.2) n (x2, x3) = some y2 → qG p l e ({ frames := 2, cells := 0, slots := 0, locals := 42 } : Room) s m args below meth c 4 (dC, dI) A A' Q 0 0 ([(2, .int y2)]) [] ([(o, .inr (8, [.int v_there, .int v_month, .int v_lost, .ref o_heads, .ref o_sides, .ref o_moods, .ref o_moults])), (o_heads, .inl (cI, 6, .inl v_heads)), (o_moods, .inl (cI, 6, .inl v_moods)), (o_moults, .inl (cI, 6, .inl v_moults))]) 40 → qG p l e ({ frames := 2, cells := 0, slots := 0, locals := 42 } : Room) s m args below meth c 4 (dC, dI) A A' Q 0 0 ([(0, .ref o), (1, .int x1), (2, .int x2), (3, .int x3)]) [] ([(o, .inr (8, [.int v_there, .int v_month, .int v_lost, .ref o_heads, .ref o_sides, .ref o_moods, .ref o_moults])), (o_heads, .inl (cI, 6, .inl v_heads)), (o_moods, .inl (cI, 6, .inl v_moods)), (o_moults, .inl (cI, 6, .inl v_moults))]) 4 := by
    clear hF
    intro n
    induction n with
    | zero => intro x1 x2 x3 y2 hF; exact (evr_0 hF).elim
    | succ n ih =>
      intro x1 x2 x3 y2 hF hk
      obtain ⟨o9, hB, hn, hx⟩ := evr_c hF
      have hF : b_Sea_signers_1 x1 v_there v_month v_heads v_moods v_moults x2 x3 = some o9 := hB
      unfold b_Sea_signers_1 at hF
      refine q_iload_n C dX8_signers_4 3 rfl rfl ?_
      refine q_bipush (v := (6 : Int32)) C dX8_signers_5 (by decide) ?_
      refine q_icmp_ge (tgt := 40) C dX8_signers_7 (by decide) (fun c1 => ?_) (fun c1 => ?_)
      · have hF := ite_t hF c1
        cases hF
        have e2 := hx _ rfl
        cases e2
        refine q_lsel [2] rfl ?_
        exact hk
      · have hF := ite_f hF c1
        refine q_aload_n C dX8_signers_10 0 rfl rfl ?_
        refine q_iload_n C dX8_signers_11 3 rfl rfl ?_
        obtain ⟨r3, hc4, hF⟩ := bind_c hF
        refine q_roz (q_runV (As := [.int x3]) (rest := []) C (fun sz => c_X8_listens l dC dI cI cZ cQ o o_heads o_moults o_sides o_moods v_there v_month v_heads v_moults v_lost x3 r3 hc4 sz) (cwV 1 C.2.2.2.2.1 gX8_signers_X8_listens rfl rfl rfl (by decide +kernel) ⟨Nat.le_of_ble_eq_true rfl, Nat.le_of_ble_eq_true rfl⟩) 0 rfl rfl rfl [0, 1, 3] rfl rfl rfl rfl (Nat.le_of_ble_eq_true rfl) dX8_signers_12 ⟨Nat.zero_le _, Nat.zero_le _⟩) (fun hz3 => ?_)
        refine q_if_eq (tgt := 34) C dX8_signers_15 (by decide) (fun c5 => ?_) (fun c5 => ?_)
        · have hF := ite_t hF c5
          refine q_iinc (v := (x3 + 1)) C ([(3, .int (x3 + 1)), (0, .ref o), (1, .int x1), (2, .int x2)]) dX8_signers_34 3 rfl rfl (by decide) rfl ?_
          refine q_goto (tgt := 4) C dX8_signers_37 (by decide) ?_
          cases hF
          refine q_lsel [1, 2, 3, 0] rfl ?_
          exact ih x1 x2 (x3 + 1) y2 (hn _ rfl) hk
        · have hF := ite_f hF c5
          refine q_aload_n C dX8_signers_18 0 rfl rfl ?_
          refine q_get (C0 := RX8) (T := TX8) (N := 7) (k0 := 5) C lk1 0 rfl rfl (by decide) lk0 rfl (v := .ref o_moods) rfl dX8_signers_19 ?_
          refine q_iload_n C dX8_signers_22 3 rfl rfl ?_
          obtain ⟨hc6, hF⟩ := ite_c hF
          refine q_iald C 2 0 rfl rfl (ix_in hc6) dX8_signers_23 ?_
          refine q_iload_n C dX8_signers_24 1 rfl rfl ?_
          refine q_icmp_lt (tgt := 34) C dX8_signers_25 (by decide) (fun c7 => ?_) (fun c7 => ?_)
          · have hF := ite_t hF c7
            refine q_iinc (v := (x3 + 1)) C ([(3, .int (x3 + 1)), (0, .ref o), (1, .int x1), (2, .int x2)]) dX8_signers_34 3 rfl rfl (by decide) rfl ?_
            refine q_goto (tgt := 4) C dX8_signers_37 (by decide) ?_
            cases hF
            refine q_lsel [1, 2, 3, 0] rfl ?_
            exact ih x1 x2 (x3 + 1) y2 (hn _ rfl) hk
          · have hF := ite_f hF c7
            refine q_iload_n C dX8_signers_28 2 rfl rfl ?_
            refine q_iconst (v := (1 : Int32)) C dX8_signers_29 (by decide) ?_
            refine q_iload_n C dX8_signers_30 3 rfl rfl ?_
            refine q_ishl C dX8_signers_31 ?_
            refine q_ior C dX8_signers_32 ?_
            refine q_istore_n C ([(2, .int (x2 ||| ((1 : Int32) <<< (x3 &&& 31)))), (0, .ref o), (1, .int x1), (3, .int x3)]) dX8_signers_33 rfl (by decide) rfl ?_
            refine q_iinc (v := (x3 + 1)) C ([(3, .int (x3 + 1)), (2, .int (x2 ||| ((1 : Int32) <<< (x3 &&& 31)))), (0, .ref o), (1, .int x1)]) dX8_signers_34 3 rfl rfl (by decide) rfl ?_
            refine q_goto (tgt := 4) C dX8_signers_37 (by decide) ?_
            cases hF
            refine q_lsel [2, 3, 1, 0] rfl ?_
            exact ih x1 (x2 ||| ((1 : Int32) <<< (x3 &&& 31))) (x3 + 1) y2 (hn _ rfl) hk
  unfold f_Sea_signers at hF
  refine q_iconst (v := (0 : Int32)) C dX8_signers_0 (by decide) ?_
  refine q_istore_n C ([(2, .int (0 : Int32)), (0, .ref o), (1, .int p1)]) dX8_signers_1 rfl (by decide) rfl ?_
  refine q_iconst (v := (0 : Int32)) C dX8_signers_2 (by decide) ?_
  refine q_istore_n C ([(3, .int (0 : Int32)), (2, .int (0 : Int32)), (0, .ref o), (1, .int p1)]) dX8_signers_3 rfl (by decide) rfl ?_
  obtain ⟨y2_8, hc9, hF⟩ := bind_c hF
  obtain ⟨n10, hc9⟩ := (ev_iff _ _ _).mp hc9
  refine q_lsel [2, 3, 1, 0] rfl ?_
  refine L1 n10 p1 (0 : Int32) (0 : Int32) y2_8 hc9 ?_
  refine q_iload_n C dX8_signers_40 0 rfl rfl ?_
  cases hF
  exact q_ireti C hA0 hr dX8_signers_41 hQ
set_option maxRecDepth 100000 in
set_option maxHeartbeats 4000000 in
theorem c_X8_headsOnSideOne (l : Launch) (dC : Nat → ClassId) (dI : Nat → Nat → Nat) (cI cZ cQ : ClassId) (o o_heads o_sides o_moods o_moults : Nat) (v_there : Int32) (v_heads : Nat → Int32) (v_sides : Nat → Int32) (v_month : Int32) (v_lost : Int32) (R : Int32) (hF : f_Sea_headsOnSideOne v_there v_heads v_sides = some R) (sz : Nat) : Met l yX8_headsOnSideOne wsX8_headsOnSideOne ({ frames := 1, cells := 0, slots := 0, locals := 21 } : Room) (qPc ([.ref o]) (dC, dI) (qT cI cZ cQ) ([(o, .inr (8, [.int v_there, .int v_month, .int v_lost, .ref o_heads, .ref o_sides, .ref o_moods, .ref o_moults])), (o_heads, .inl (cI, 6, .inl v_heads)), (o_sides, .inl (cI, 6, .inl v_sides))]) sz) (qRi R) 0 0 (fun _ => False) := by
  refine q_met_r (cc := cX8_headsOnSideOne) (own := RX8) (maxL := 3) (ret := (some .int)) (lv0 := [(0, .ref o)]) (by decide) rfl rfl rfl (Nat.le_of_ble_eq_true rfl) ?_
  intro p e s m args below meth c C hr A A' Q hA0 hQ
  have lk0 : Cond.fieldLink RX8 15 "SealStrait$Sea" "sides" "[I" ∈ wsX8_headsOnSideOne := by decide +kernel
  have lk1 : ∀ w ∈ u_ws RX8 TX8 7, w ∈ wsX8_headsOnSideOne := fun w h => List.mem_cons_of_mem _ (List.mem_append_right _ h)
  have lk2 : Cond.fieldLink RX8 9 "SealStrait$Sea" "heads" "[I" ∈ wsX8_headsOnSideOne := by decide +kernel
  have L1 : ∀ (n : Nat) (x1 : Int32) (x2 : Int32) (y1 : Int32), evr (fun s => b_Sea_headsOnSideOne_1 v_there v_heads v_sides s.1 s.2) n (x1, x2) = some y1 → qG p l e ({ frames := 1, cells := 0, slots := 0, locals := 21 } : Room) s m args below meth c 3 (dC, dI) A A' Q 0 0 ([(1, .int y1)]) [] ([(o, .inr (8, [.int v_there, .int v_month, .int v_lost, .ref o_heads, .ref o_sides, .ref o_moods, .ref o_moults])), (o_heads, .inl (cI, 6, .inl v_heads)), (o_sides, .inl (cI, 6, .inl v_sides))]) 43 → qG p l e ({ frames := 1, cells := 0, slots := 0, locals := 21 } : Room) s m args below meth c 3 (dC, dI) A A' Q 0 0 ([(0, .ref o), (1, .int x1), (2, .int x2)]) [] ([(o, .inr (8, [.int v_there, .int v_month, .int v_lost, .ref o_heads, .ref o_sides, .ref o_moods, .ref o_moults])), (o_heads, .inl (cI, 6, .inl v_heads)), (o_sides, .inl (cI, 6, .inl v_sides))]) 4 := by
    clear hF
    intro n
    induction n with
    | zero => intro x1 x2 y1 hF; exact (evr_0 hF).elim
    | succ n ih =>
      intro x1 x2 y1 hF hk
      obtain ⟨o9, hB, hn, hx⟩ := evr_c hF
      have hF : b_Sea_headsOnSideOne_1 v_there v_heads v_sides x1 x2 = some o9 := hB
      unfold b_Sea_headsOnSideOne_1 at hF
      refine q_iload_n C dX8_headsOnSideOne_4 2 rfl rfl ?_
      refine q_bipush (v := (6 : Int32)) C dX8_headsOnSideOne_5 (by decide) ?_
      refine q_icmp_ge (tgt := 43) C dX8_headsOnSideOne_7 (by decide) (fun c1 => ?_) (fun c1 => ?_)
      · have hF := ite_t hF c1
        cases hF
        have e2 := hx _ rfl
        cases e2
        refine q_lsel [1] rfl ?_
        exact hk
      · have hF := ite_f hF c1
        refine q_aload_n C dX8_headsOnSideOne_10 0 rfl rfl ?_
        refine q_iload_n C dX8_headsOnSideOne_11 2 rfl rfl ?_
        refine q_roz (q_runV (As := [.int x2]) (rest := []) C (fun sz => c_X8_isThere l dC dI cI cZ cQ o o_heads o_sides o_moods o_moults v_there v_month v_lost x2 (f_Sea_isThere v_there x2) rfl sz) (cwV 1 C.2.2.2.2.1 gX8_headsOnSideOne_X8_isThere rfl rfl rfl (by decide +kernel) ⟨Nat.le_of_ble_eq_true rfl, Nat.le_of_ble_eq_true rfl⟩) 0 rfl rfl rfl [0] rfl rfl rfl rfl (Nat.le_of_ble_eq_true rfl) dX8_headsOnSideOne_12 ⟨Nat.zero_le _, Nat.zero_le _⟩) (fun hz3 => ?_)
        refine q_if_eq (tgt := 37) C dX8_headsOnSideOne_15 (by decide) (fun c4 => ?_) (fun c4 => ?_)
        · have hF := ite_t hF c4
          refine q_iinc (v := (x2 + 1)) C ([(2, .int (x2 + 1)), (0, .ref o), (1, .int x1)]) dX8_headsOnSideOne_37 2 rfl rfl (by decide) rfl ?_
          refine q_goto (tgt := 4) C dX8_headsOnSideOne_40 (by decide) ?_
          cases hF
          refine q_lsel [1, 2, 0] rfl ?_
          exact ih x1 (x2 + 1) y1 (hn _ rfl) hk
        · have hF := ite_f hF c4
          refine q_aload_n C dX8_headsOnSideOne_18 0 rfl rfl ?_
          refine q_get (C0 := RX8) (T := TX8) (N := 7) (k0 := 4) C lk1 0 rfl rfl (by decide) lk0 rfl (v := .ref o_sides) rfl dX8_headsOnSideOne_19 ?_
          refine q_iload_n C dX8_headsOnSideOne_22 2 rfl rfl ?_
          obtain ⟨hc5, hF⟩ := ite_c hF
          refine q_iald C 2 0 rfl rfl (ix_in hc5) dX8_headsOnSideOne_23 ?_
          refine q_iconst (v := (1 : Int32)) C dX8_headsOnSideOne_24 (by decide) ?_
          refine q_icmp_ne (tgt := 37) C dX8_headsOnSideOne_25 (by decide) (fun c6 => ?_) (fun c6 => ?_)
          · have hF := ite_f hF c6
            refine q_iinc (v := (x2 + 1)) C ([(2, .int (x2 + 1)), (0, .ref o), (1, .int x1)]) dX8_headsOnSideOne_37 2 rfl rfl (by decide) rfl ?_
            refine q_goto (tgt := 4) C dX8_headsOnSideOne_40 (by decide) ?_
            cases hF
            refine q_lsel [1, 2, 0] rfl ?_
            exact ih x1 (x2 + 1) y1 (hn _ rfl) hk
          · have hF := ite_t hF c6
            refine q_iload_n C dX8_headsOnSideOne_28 1 rfl rfl ?_
            refine q_aload_n C dX8_headsOnSideOne_29 0 rfl rfl ?_
            refine q_get (C0 := RX8) (T := TX8) (N := 7) (k0 := 3) C lk1 0 rfl rfl (by decide) lk2 rfl (v := .ref o_heads) rfl dX8_headsOnSideOne_30 ?_
            refine q_iload_n C dX8_headsOnSideOne_33 2 rfl rfl ?_
            obtain ⟨hc7, hF⟩ := ite_c hF
            refine q_iald C 1 0 rfl rfl (ix_in hc7) dX8_headsOnSideOne_34 ?_
            refine q_iadd C dX8_headsOnSideOne_35 ?_
            refine q_istore_n C ([(1, .int (x1 + (v_heads (x2).toNatClampNeg))), (0, .ref o), (2, .int x2)]) dX8_headsOnSideOne_36 rfl (by decide) rfl ?_
            refine q_iinc (v := (x2 + 1)) C ([(2, .int (x2 + 1)), (1, .int (x1 + (v_heads (x2).toNatClampNeg))), (0, .ref o)]) dX8_headsOnSideOne_37 2 rfl rfl (by decide) rfl ?_
            refine q_goto (tgt := 4) C dX8_headsOnSideOne_40 (by decide) ?_
            cases hF
            refine q_lsel [2, 1, 0] rfl ?_
            exact ih (x1 + (v_heads (x2).toNatClampNeg)) (x2 + 1) y1 (hn _ rfl) hk
  unfold f_Sea_headsOnSideOne at hF
  refine q_iconst (v := (0 : Int32)) C dX8_headsOnSideOne_0 (by decide) ?_
  refine q_istore_n C ([(1, .int (0 : Int32)), (0, .ref o)]) dX8_headsOnSideOne_1 rfl (by decide) rfl ?_
  refine q_iconst (v := (0 : Int32)) C dX8_headsOnSideOne_2 (by decide) ?_
  refine q_istore_n C ([(2, .int (0 : Int32)), (1, .int (0 : Int32)), (0, .ref o)]) dX8_headsOnSideOne_3 rfl (by decide) rfl ?_
  obtain ⟨y1_8, hc9, hF⟩ := bind_c hF
  obtain ⟨n10, hc9⟩ := (ev_iff _ _ _).mp hc9
  refine q_lsel [2, 1, 0] rfl ?_
  refine L1 n10 (0 : Int32) (0 : Int32) y1_8 hc9 ?_
  refine q_iload_n C dX8_headsOnSideOne_43 0 rfl rfl ?_
  cases hF
  exact q_ireti C hA0 hr dX8_headsOnSideOne_44 hQ
set_option maxRecDepth 100000 in
set_option maxHeartbeats 4000000 in
theorem c_X8_allMoods (l : Launch) (dC : Nat → ClassId) (dI : Nat → Nat → Nat) (cI cZ cQ : ClassId) (o o_moods o_heads o_sides o_moults : Nat) (v_there : Int32) (v_moods : Nat → Int32) (v_month : Int32) (v_lost : Int32) (R : Int32) (hF : f_Sea_allMoods v_there v_moods = some R) (sz : Nat) : Met l yX8_allMoods wsX8_allMoods ({ frames := 1, cells := 0, slots := 0, locals := 21 } : Room) (qPc ([.ref o]) (dC, dI) (qT cI cZ cQ) ([(o, .inr (8, [.int v_there, .int v_month, .int v_lost, .ref o_heads, .ref o_sides, .ref o_moods, .ref o_moults])), (o_moods, .inl (cI, 6, .inl v_moods))]) sz) (qRi R) 0 0 (fun _ => False) := by
  refine q_met_r (cc := cX8_allMoods) (own := RX8) (maxL := 3) (ret := (some .int)) (lv0 := [(0, .ref o)]) (by decide) rfl rfl rfl (Nat.le_of_ble_eq_true rfl) ?_
  intro p e s m args below meth c C hr A A' Q hA0 hQ
  have lk0 : Cond.fieldLink RX8 18 "SealStrait$Sea" "moods" "[I" ∈ wsX8_allMoods := by decide +kernel
  have lk1 : ∀ w ∈ u_ws RX8 TX8 7, w ∈ wsX8_allMoods := fun w h => List.mem_cons_of_mem _ (List.mem_append_right _ h)
  have L1 : ∀ (n : Nat) (x1 : Int32) (x2 : Int32) (y1 : Int32), evr (fun s => b_Sea_allMoods_1 v_there v_moods s.1 s.2) n (x1, x2) = some y1 → qG p l e ({ frames := 1, cells := 0, slots := 0, locals := 21 } : Room) s m args below meth c 3 (dC, dI) A A' Q 0 0 ([(1, .int y1)]) [] ([(o, .inr (8, [.int v_there, .int v_month, .int v_lost, .ref o_heads, .ref o_sides, .ref o_moods, .ref o_moults])), (o_moods, .inl (cI, 6, .inl v_moods))]) 33 → qG p l e ({ frames := 1, cells := 0, slots := 0, locals := 21 } : Room) s m args below meth c 3 (dC, dI) A A' Q 0 0 ([(0, .ref o), (1, .int x1), (2, .int x2)]) [] ([(o, .inr (8, [.int v_there, .int v_month, .int v_lost, .ref o_heads, .ref o_sides, .ref o_moods, .ref o_moults])), (o_moods, .inl (cI, 6, .inl v_moods))]) 4 := by
    clear hF
    intro n
    induction n with
    | zero => intro x1 x2 y1 hF; exact (evr_0 hF).elim
    | succ n ih =>
      intro x1 x2 y1 hF hk
      obtain ⟨o9, hB, hn, hx⟩ := evr_c hF
      have hF : b_Sea_allMoods_1 v_there v_moods x1 x2 = some o9 := hB
      unfold b_Sea_allMoods_1 at hF
      refine q_iload_n C dX8_allMoods_4 2 rfl rfl ?_
      refine q_bipush (v := (6 : Int32)) C dX8_allMoods_5 (by decide) ?_
      refine q_icmp_ge (tgt := 33) C dX8_allMoods_7 (by decide) (fun c1 => ?_) (fun c1 => ?_)
      · have hF := ite_t hF c1
        cases hF
        have e2 := hx _ rfl
        cases e2
        refine q_lsel [1] rfl ?_
        exact hk
      · have hF := ite_f hF c1
        refine q_aload_n C dX8_allMoods_10 0 rfl rfl ?_
        refine q_iload_n C dX8_allMoods_11 2 rfl rfl ?_
        refine q_roz (q_runV (As := [.int x2]) (rest := []) C (fun sz => c_X8_isThere l dC dI cI cZ cQ o o_heads o_sides o_moods o_moults v_there v_month v_lost x2 (f_Sea_isThere v_there x2) rfl sz) (cwV 1 C.2.2.2.2.1 gX8_allMoods_X8_isThere rfl rfl rfl (by decide +kernel) ⟨Nat.le_of_ble_eq_true rfl, Nat.le_of_ble_eq_true rfl⟩) 0 rfl rfl rfl [0] rfl rfl rfl rfl (Nat.le_of_ble_eq_true rfl) dX8_allMoods_12 ⟨Nat.zero_le _, Nat.zero_le _⟩) (fun hz3 => ?_)
        refine q_if_eq (tgt := 27) C dX8_allMoods_15 (by decide) (fun c4 => ?_) (fun c4 => ?_)
        · have hF := ite_t hF c4
          refine q_iinc (v := (x2 + 1)) C ([(2, .int (x2 + 1)), (0, .ref o), (1, .int x1)]) dX8_allMoods_27 2 rfl rfl (by decide) rfl ?_
          refine q_goto (tgt := 4) C dX8_allMoods_30 (by decide) ?_
          cases hF
          refine q_lsel [1, 2, 0] rfl ?_
          exact ih x1 (x2 + 1) y1 (hn _ rfl) hk
        · have hF := ite_f hF c4
          refine q_iload_n C dX8_allMoods_18 1 rfl rfl ?_
          refine q_aload_n C dX8_allMoods_19 0 rfl rfl ?_
          refine q_get (C0 := RX8) (T := TX8) (N := 7) (k0 := 5) C lk1 0 rfl rfl (by decide) lk0 rfl (v := .ref o_moods) rfl dX8_allMoods_20 ?_
          refine q_iload_n C dX8_allMoods_23 2 rfl rfl ?_
          obtain ⟨hc5, hF⟩ := ite_c hF
          refine q_iald C 1 0 rfl rfl (ix_in hc5) dX8_allMoods_24 ?_
          refine q_iadd C dX8_allMoods_25 ?_
          refine q_istore_n C ([(1, .int (x1 + (v_moods (x2).toNatClampNeg))), (0, .ref o), (2, .int x2)]) dX8_allMoods_26 rfl (by decide) rfl ?_
          refine q_iinc (v := (x2 + 1)) C ([(2, .int (x2 + 1)), (1, .int (x1 + (v_moods (x2).toNatClampNeg))), (0, .ref o)]) dX8_allMoods_27 2 rfl rfl (by decide) rfl ?_
          refine q_goto (tgt := 4) C dX8_allMoods_30 (by decide) ?_
          cases hF
          refine q_lsel [2, 1, 0] rfl ?_
          exact ih (x1 + (v_moods (x2).toNatClampNeg)) (x2 + 1) y1 (hn _ rfl) hk
  unfold f_Sea_allMoods at hF
  refine q_iconst (v := (0 : Int32)) C dX8_allMoods_0 (by decide) ?_
  refine q_istore_n C ([(1, .int (0 : Int32)), (0, .ref o)]) dX8_allMoods_1 rfl (by decide) rfl ?_
  refine q_iconst (v := (0 : Int32)) C dX8_allMoods_2 (by decide) ?_
  refine q_istore_n C ([(2, .int (0 : Int32)), (1, .int (0 : Int32)), (0, .ref o)]) dX8_allMoods_3 rfl (by decide) rfl ?_
  obtain ⟨y1_6, hc7, hF⟩ := bind_c hF
  obtain ⟨n8, hc7⟩ := (ev_iff _ _ _).mp hc7
  refine q_lsel [2, 1, 0] rfl ?_
  refine L1 n8 (0 : Int32) (0 : Int32) y1_6 hc7 ?_
  refine q_iload_n C dX8_allMoods_33 0 rfl rfl ?_
  cases hF
  exact q_ireti C hA0 hr dX8_allMoods_34 hQ
set_option maxRecDepth 100000 in
set_option maxHeartbeats 4000000 in
theorem c_X8_hasHeads (l : Launch) (dC : Nat → ClassId) (dI : Nat → Nat → Nat) (cI cZ cQ : ClassId) (o o_heads o_sides o_moods o_moults : Nat) (v_there : Int32) (v_heads : Nat → Int32) (v_month : Int32) (v_lost : Int32) (R : Int32) (hF : f_Sea_hasHeads v_there v_heads = some R) (sz : Nat) : Met l yX8_hasHeads wsX8_hasHeads ({ frames := 1, cells := 0, slots := 0, locals := 21 } : Room) (qPc ([.ref o]) (dC, dI) (qT cI cZ cQ) ([(o, .inr (8, [.int v_there, .int v_month, .int v_lost, .ref o_heads, .ref o_sides, .ref o_moods, .ref o_moults])), (o_heads, .inl (cI, 6, .inl v_heads))]) sz) (qRz R) 0 0 (fun _ => False) := by
  refine q_met_r (cc := cX8_hasHeads) (own := RX8) (maxL := 2) (ret := (some .boolean)) (lv0 := [(0, .ref o)]) (by decide) rfl rfl rfl (Nat.le_of_ble_eq_true rfl) ?_
  intro p e s m args below meth c C hr A A' Q hA0 hQ
  have lk0 : Cond.fieldLink RX8 9 "SealStrait$Sea" "heads" "[I" ∈ wsX8_hasHeads := by decide +kernel
  have lk1 : ∀ w ∈ u_ws RX8 TX8 7, w ∈ wsX8_hasHeads := fun w h => List.mem_cons_of_mem _ (List.mem_append_right _ h)
  have L1 : ∀ (n : Nat) (x1 : Int32), evr (fun s => b_Sea_hasHeads_1 v_there v_heads s) n x1 = some R → qG p l e ({ frames := 1, cells := 0, slots := 0, locals := 21 } : Room) s m args below meth c 2 (dC, dI) A A' Q 0 0 ([(0, .ref o), (1, .int x1)]) [] ([(o, .inr (8, [.int v_there, .int v_month, .int v_lost, .ref o_heads, .ref o_sides, .ref o_moods, .ref o_moults])), (o_heads, .inl (cI, 6, .inl v_heads))]) 2 := by
    clear hF
    intro n
    induction n with
    | zero => intro x1  hF; exact (evr_0 hF).elim
    | succ n ih =>
      intro x1  hF
      obtain ⟨o9, hB, hn, hx⟩ := evr_c hF
      have hF : b_Sea_hasHeads_1 v_there v_heads x1 = some o9 := hB
      unfold b_Sea_hasHeads_1 at hF
      refine q_iload_n C dX8_hasHeads_2 1 rfl rfl ?_
      refine q_bipush (v := (6 : Int32)) C dX8_hasHeads_3 (by decide) ?_
      refine q_icmp_ge (tgt := 33) C dX8_hasHeads_5 (by decide) (fun c1 => ?_) (fun c1 => ?_)
      · have hF := ite_t hF c1
        refine q_iconst (v := (0 : Int32)) C dX8_hasHeads_33 (by decide) ?_
        cases hF
        have e2 := hx _ rfl
        cases e2
        exact q_iretz C hA0 hr (Or.inl rfl) dX8_hasHeads_34 hQ
      · have hF := ite_f hF c1
        refine q_aload_n C dX8_hasHeads_8 0 rfl rfl ?_
        refine q_iload_n C dX8_hasHeads_9 1 rfl rfl ?_
        refine q_roz (q_runV (As := [.int x1]) (rest := []) C (fun sz => c_X8_isThere l dC dI cI cZ cQ o o_heads o_sides o_moods o_moults v_there v_month v_lost x1 (f_Sea_isThere v_there x1) rfl sz) (cwV 1 C.2.2.2.2.1 gX8_hasHeads_X8_isThere rfl rfl rfl (by decide +kernel) ⟨Nat.le_of_ble_eq_true rfl, Nat.le_of_ble_eq_true rfl⟩) 0 rfl rfl rfl [0] rfl rfl rfl rfl (Nat.le_of_ble_eq_true rfl) dX8_hasHeads_10 ⟨Nat.zero_le _, Nat.zero_le _⟩) (fun hz3 => ?_)
        refine q_if_eq (tgt := 27) C dX8_hasHeads_13 (by decide) (fun c4 => ?_) (fun c4 => ?_)
        · have hF := ite_t hF c4
          refine q_iinc (v := (x1 + 1)) C ([(1, .int (x1 + 1)), (0, .ref o)]) dX8_hasHeads_27 1 rfl rfl (by decide) rfl ?_
          refine q_goto (tgt := 2) C dX8_hasHeads_30 (by decide) ?_
          cases hF
          refine q_lsel [1, 0] rfl ?_
          exact ih (x1 + 1) (hn _ rfl)
        · have hF := ite_f hF c4
          refine q_aload_n C dX8_hasHeads_16 0 rfl rfl ?_
          refine q_get (C0 := RX8) (T := TX8) (N := 7) (k0 := 3) C lk1 0 rfl rfl (by decide) lk0 rfl (v := .ref o_heads) rfl dX8_hasHeads_17 ?_
          refine q_iload_n C dX8_hasHeads_20 1 rfl rfl ?_
          obtain ⟨hc5, hF⟩ := ite_c hF
          refine q_iald C 1 0 rfl rfl (ix_in hc5) dX8_hasHeads_21 ?_
          refine q_if_le (tgt := 27) C dX8_hasHeads_22 (by decide) (fun c6 => ?_) (fun c6 => ?_)
          · have hF := ite_t hF c6
            refine q_iinc (v := (x1 + 1)) C ([(1, .int (x1 + 1)), (0, .ref o)]) dX8_hasHeads_27 1 rfl rfl (by decide) rfl ?_
            refine q_goto (tgt := 2) C dX8_hasHeads_30 (by decide) ?_
            cases hF
            refine q_lsel [1, 0] rfl ?_
            exact ih (x1 + 1) (hn _ rfl)
          · have hF := ite_f hF c6
            refine q_iconst (v := (1 : Int32)) C dX8_hasHeads_25 (by decide) ?_
            cases hF
            have e7 := hx _ rfl
            cases e7
            exact q_iretz C hA0 hr (Or.inr rfl) dX8_hasHeads_26 hQ
  unfold f_Sea_hasHeads at hF
  refine q_iconst (v := (0 : Int32)) C dX8_hasHeads_0 (by decide) ?_
  refine q_istore_n C ([(1, .int (0 : Int32)), (0, .ref o)]) dX8_hasHeads_1 rfl (by decide) rfl ?_
  obtain ⟨n8, hF⟩ := (ev_iff _ _ _).mp hF
  refine q_lsel [1, 0] rfl ?_
  exact L1 n8 (0 : Int32) hF
set_option maxRecDepth 100000 in
set_option maxHeartbeats 4000000 in
theorem c_X8_nextToGet (l : Launch) (dC : Nat → ClassId) (dI : Nat → Nat → Nat) (cI cZ cQ : ClassId) (o o_heads b1 o_sides o_moods o_moults : Nat) (v_there : Int32) (v_heads : Nat → Int32) (v_a1 : Nat → Int32) (v_month : Int32) (v_lost : Int32) (R : Int32) (hF : f_Sea_nextToGet v_there v_heads v_a1 = some R) (sz : Nat) : Met l yX8_nextToGet wsX8_nextToGet ({ frames := 1, cells := 0, slots := 0, locals := 21 } : Room) (qPc ([.ref o, .ref b1]) (dC, dI) (qT cI cZ cQ) ([(o, .inr (8, [.int v_there, .int v_month, .int v_lost, .ref o_heads, .ref o_sides, .ref o_moods, .ref o_moults])), (o_heads, .inl (cI, 6, .inl v_heads)), (b1, .inl (cI, 6, .inl v_a1))]) sz) (qRi R) 0 0 (fun _ => False) := by
  refine q_met_r (cc := cX8_nextToGet) (own := RX8) (maxL := 7) (ret := (some .int)) (lv0 := [(0, .ref o), (1, .ref b1)]) (by decide) rfl rfl rfl (Nat.le_of_ble_eq_true rfl) ?_
  intro p e s m args below meth c C hr A A' Q hA0 hQ
  have lk0 : Cond.fieldLink RX8 9 "SealStrait$Sea" "heads" "[I" ∈ wsX8_nextToGet := by decide +kernel
  have lk1 : ∀ w ∈ u_ws RX8 TX8 7, w ∈ wsX8_nextToGet := fun w h => List.mem_cons_of_mem _ (List.mem_append_right _ h)
  have L1 : ∀ (n : Nat) (x2 : Int32) (x3 : Int32) (x4 : Int32) (x5 : Int32) (y2 : Int32), evr (fun s => b_Sea_nextToGet_1 v_there v_heads v_a1 s.1 s.2.1 s.2.2.1 s.2.2.2) n (x2, x3, x4, x5) = some y2 → qG p l e ({ frames := 1, cells := 0, slots := 0, locals := 21 } : Room) s m args below meth c 7 (dC, dI) A A' Q 0 0 ([(2, .int y2)]) [] ([(o, .inr (8, [.int v_there, .int v_month, .int v_lost, .ref o_heads, .ref o_sides, .ref o_moods, .ref o_moults])), (o_heads, .inl (cI, 6, .inl v_heads)), (b1, .inl (cI, 6, .inl v_a1))]) 80 → qG p l e ({ frames := 1, cells := 0, slots := 0, locals := 21 } : Room) s m args below meth c 7 (dC, dI) A A' Q 0 0 ([(0, .ref o), (1, .ref b1), (2, .int x2), (3, .int x3), (4, .int x4), (5, .int x5)]) [] ([(o, .inr (8, [.int v_there, .int v_month, .int v_lost, .ref o_heads, .ref o_sides, .ref o_moods, .ref o_moults])), (o_heads, .inl (cI, 6, .inl v_heads)), (b1, .inl (cI, 6, .inl v_a1))]) 11 := by
    clear hF
    intro n
    induction n with
    | zero => intro x2 x3 x4 x5 y2 hF; exact (evr_0 hF).elim
    | succ n ih =>
      intro x2 x3 x4 x5 y2 hF hk
      obtain ⟨o9, hB, hn, hx⟩ := evr_c hF
      have hF : b_Sea_nextToGet_1 v_there v_heads v_a1 x2 x3 x4 x5 = some o9 := hB
      unfold b_Sea_nextToGet_1 at hF
      refine q_iload C dX8_nextToGet_11 5 rfl ?_
      refine q_bipush (v := (6 : Int32)) C dX8_nextToGet_13 (by decide) ?_
      refine q_icmp_ge (tgt := 80) C dX8_nextToGet_15 (by decide) (fun c1 => ?_) (fun c1 => ?_)
      · have hF := ite_t hF c1
        cases hF
        have e2 := hx _ rfl
        cases e2
        refine q_lsel [2] rfl ?_
        exact hk
      · have hF := ite_f hF c1
        refine q_iload C dX8_nextToGet_18 5 rfl ?_
        refine q_aload_n C dX8_nextToGet_20 1 rfl rfl ?_
        refine q_alen (v := (6 : Int32)) C 2 0 rfl rfl rfl dX8_nextToGet_21 ?_
        refine q_icmp_ge (tgt := 80) C dX8_nextToGet_22 (by decide) (fun c3 => ?_) (fun c3 => ?_)
        · have hF := ite_t hF c3
          cases hF
          have e4 := hx _ rfl
          cases e4
          refine q_lsel [2] rfl ?_
          exact hk
        · have hF := ite_f hF c3
          refine q_aload_n C dX8_nextToGet_25 1 rfl rfl ?_
          refine q_iload C dX8_nextToGet_26 5 rfl ?_
          obtain ⟨hc5, hF⟩ := ite_c hF
          refine q_iald C 2 0 rfl rfl (ix_in hc5) dX8_nextToGet_28 ?_
          refine q_iconst (v := (1 : Int32)) C dX8_nextToGet_29 (by decide) ?_
          refine q_iadd C dX8_nextToGet_30 ?_
          refine q_istore C ([(6, .int ((v_a1 (x5).toNatClampNeg) + (1 : Int32))), (0, .ref o), (1, .ref b1), (2, .int x2), (3, .int x3), (4, .int x4), (5, .int x5)]) dX8_nextToGet_31 (by decide) rfl ?_
          refine q_aload_n C dX8_nextToGet_33 1 rfl rfl ?_
          refine q_iload C dX8_nextToGet_34 6 rfl ?_
          refine q_roz (q_runV (As := [.int x5]) (rest := []) C (fun sz => c_X8_isThere l dC dI cI cZ cQ o o_heads o_sides o_moods o_moults v_there v_month v_lost x5 (f_Sea_isThere v_there x5) rfl sz) (cwV 1 C.2.2.2.2.1 gX8_nextToGet_X8_isThere rfl rfl rfl (by decide +kernel) ⟨Nat.le_of_ble_eq_true rfl, Nat.le_of_ble_eq_true rfl⟩) 0 rfl rfl rfl [0] rfl rfl rfl rfl (Nat.le_of_ble_eq_true rfl) dX8_nextToGet_36 ⟨Nat.zero_le _, Nat.zero_le _⟩) (fun hz6 => ?_)
          refine q_if_eq (tgt := 74) C dX8_nextToGet_39 (by decide) (fun c7 => ?_) (fun c7 => ?_)
          · have hF := ite_t hF c7
            refine q_iinc (v := (x5 + 1)) C ([(5, .int (x5 + 1)), (6, .int ((v_a1 (x5).toNatClampNeg) + (1 : Int32))), (0, .ref o), (1, .ref b1), (2, .int x2), (3, .int x3), (4, .int x4)]) dX8_nextToGet_74 6 rfl rfl (by decide) rfl ?_
            refine q_goto (tgt := 11) C dX8_nextToGet_77 (by decide) ?_
            cases hF
            refine q_lsel [2, 3, 4, 5, 6, 0] rfl ?_
            exact ih x2 x3 x4 (x5 + 1) y2 (hn _ rfl) hk
          · have hF := ite_f hF c7
            refine q_aload_n C dX8_nextToGet_42 1 rfl rfl ?_
            refine q_get (C0 := RX8) (T := TX8) (N := 7) (k0 := 3) C lk1 0 rfl rfl (by decide) lk0 rfl (v := .ref o_heads) rfl dX8_nextToGet_43 ?_
            refine q_iload C dX8_nextToGet_46 6 rfl ?_
            obtain ⟨hc8, hF⟩ := ite_c hF
            refine q_iald C 1 0 rfl rfl (ix_in hc8) dX8_nextToGet_48 ?_
            refine q_iload C dX8_nextToGet_49 5 rfl ?_
            refine q_imul C dX8_nextToGet_51 ?_
            refine q_iload_n C dX8_nextToGet_52 4 rfl rfl ?_
            refine q_iload C dX8_nextToGet_53 0 rfl ?_
            refine q_imul C dX8_nextToGet_55 ?_
            refine q_icmp_le (tgt := 74) C dX8_nextToGet_56 (by decide) (fun c9 => ?_) (fun c9 => ?_)
            · have hF := ite_t hF c9
              refine q_iinc (v := (x5 + 1)) C ([(5, .int (x5 + 1)), (6, .int ((v_a1 (x5).toNatClampNeg) + (1 : Int32))), (0, .ref o), (1, .ref b1), (2, .int x2), (3, .int x3), (4, .int x4)]) dX8_nextToGet_74 6 rfl rfl (by decide) rfl ?_
              refine q_goto (tgt := 11) C dX8_nextToGet_77 (by decide) ?_
              cases hF
              refine q_lsel [2, 3, 4, 5, 6, 0] rfl ?_
              exact ih x2 x3 x4 (x5 + 1) y2 (hn _ rfl) hk
            · have hF := ite_f hF c9
              refine q_iload C dX8_nextToGet_59 6 rfl ?_
              refine q_istore_n C ([(2, .int x5), (6, .int ((v_a1 (x5).toNatClampNeg) + (1 : Int32))), (0, .ref o), (1, .ref b1), (3, .int x3), (4, .int x4), (5, .int x5)]) dX8_nextToGet_61 rfl (by decide) rfl ?_
              refine q_aload_n C dX8_nextToGet_62 2 rfl rfl ?_
              refine q_get (C0 := RX8) (T := TX8) (N := 7) (k0 := 3) C lk1 0 rfl rfl (by decide) lk0 rfl (v := .ref o_heads) rfl dX8_nextToGet_63 ?_
              refine q_iload C dX8_nextToGet_66 6 rfl ?_
              obtain ⟨hc10, hF⟩ := ite_c hF
              refine q_iald C 1 0 rfl rfl (ix_in hc10) dX8_nextToGet_68 ?_
              refine q_istore_n C ([(3, .int (v_heads (x5).toNatClampNeg)), (2, .int x5), (6, .int ((v_a1 (x5).toNatClampNeg) + (1 : Int32))), (0, .ref o), (1, .ref b1), (4, .int x4), (5, .int x5)]) dX8_nextToGet_69 rfl (by decide) rfl ?_
              refine q_iload C dX8_nextToGet_70 2 rfl ?_
              refine q_istore C ([(4, .int ((v_a1 (x5).toNatClampNeg) + (1 : Int32))), (3, .int (v_heads (x5).toNatClampNeg)), (2, .int x5), (6, .int ((v_a1 (x5).toNatClampNeg) + (1 : Int32))), (0, .ref o), (1, .ref b1), (5, .int x5)]) dX8_nextToGet_72 (by decide) rfl ?_
              refine q_iinc (v := (x5 + 1)) C ([(5, .int (x5 + 1)), (4, .int ((v_a1 (x5).toNatClampNeg) + (1 : Int32))), (3, .int (v_heads (x5).toNatClampNeg)), (2, .int x5), (6, .int ((v_a1 (x5).toNatClampNeg) + (1 : Int32))), (0, .ref o), (1, .ref b1)]) dX8_nextToGet_74 6 rfl rfl (by decide) rfl ?_
              refine q_goto (tgt := 11) C dX8_nextToGet_77 (by decide) ?_
              cases hF
              refine q_lsel [5, 6, 3, 2, 1, 0] rfl ?_
              exact ih x5 (v_heads (x5).toNatClampNeg) ((v_a1 (x5).toNatClampNeg) + (1 : Int32)) (x5 + 1) y2 (hn _ rfl) hk
  unfold f_Sea_nextToGet at hF
  refine q_bipush (v := (-6 : Int32)) C dX8_nextToGet_0 (by decide) ?_
  refine q_istore_n C ([(2, .int (-6 : Int32)), (0, .ref o), (1, .ref b1)]) dX8_nextToGet_2 rfl (by decide) rfl ?_
  refine q_iconst (v := (0 : Int32)) C dX8_nextToGet_3 (by decide) ?_
  refine q_istore_n C ([(3, .int (0 : Int32)), (2, .int (-6 : Int32)), (0, .ref o), (1, .ref b1)]) dX8_nextToGet_4 rfl (by decide) rfl ?_
  refine q_iconst (v := (1 : Int32)) C dX8_nextToGet_5 (by decide) ?_
  refine q_istore C ([(4, .int (1 : Int32)), (3, .int (0 : Int32)), (2, .int (-6 : Int32)), (0, .ref o), (1, .ref b1)]) dX8_nextToGet_6 (by decide) rfl ?_
  refine q_iconst (v := (0 : Int32)) C dX8_nextToGet_8 (by decide) ?_
  refine q_istore C ([(5, .int (0 : Int32)), (4, .int (1 : Int32)), (3, .int (0 : Int32)), (2, .int (-6 : Int32)), (0, .ref o), (1, .ref b1)]) dX8_nextToGet_9 (by decide) rfl ?_
  obtain ⟨y2_11, hc12, hF⟩ := bind_c hF
  obtain ⟨n13, hc12⟩ := (ev_iff _ _ _).mp hc12
  refine q_lsel [4, 5, 3, 2, 1, 0] rfl ?_
  refine L1 n13 (-6 : Int32) (0 : Int32) (1 : Int32) (0 : Int32) y2_11 hc12 ?_
  refine q_iload_n C dX8_nextToGet_80 0 rfl rfl ?_
  cases hF
  exact q_ireti C hA0 hr dX8_nextToGet_81 hQ
set_option maxRecDepth 100000 in
set_option maxHeartbeats 4000000 in
theorem c_X8_whyNoJoining (l : Launch) (dC : Nat → ClassId) (dI : Nat → Nat → Nat) (cI cZ cQ : ClassId) (o o_sides o_heads o_moods o_moults : Nat) (v_there : Int32) (v_sides : Nat → Int32) (v_month : Int32) (v_lost : Int32) (p1 : Int32) (p2 : Int32) (R : Int32) (hF : f_Sea_whyNoJoining v_there v_sides p1 p2 = some R) (sz : Nat) : Met l yX8_whyNoJoining wsX8_whyNoJoining ({ frames := 1, cells := 0, slots := 0, locals := 21 } : Room) (qPc ([.ref o, .int p1, .int p2]) (dC, dI) (qT cI cZ cQ) ([(o, .inr (8, [.int v_there, .int v_month, .int v_lost, .ref o_heads, .ref o_sides, .ref o_moods, .ref o_moults])), (o_sides, .inl (cI, 6, .inl v_sides))]) sz) (qRi R) 0 0 (fun _ => False) := by
  refine q_met_r (cc := cX8_whyNoJoining) (own := RX8) (maxL := 3) (ret := (some .int)) (lv0 := [(0, .ref o), (1, .int p1), (2, .int p2)]) (by decide) rfl rfl rfl (Nat.le_of_ble_eq_true rfl) ?_
  intro p e s m args below meth c C hr A A' Q hA0 hQ
  have lk0 : Cond.fieldLink RX8 15 "SealStrait$Sea" "sides" "[I" ∈ wsX8_whyNoJoining := by decide +kernel
  have lk1 : ∀ w ∈ u_ws RX8 TX8 7, w ∈ wsX8_whyNoJoining := fun w h => List.mem_cons_of_mem _ (List.mem_append_right _ h)
  unfold f_Sea_whyNoJoining at hF
  refine q_aload_n C dX8_whyNoJoining_0 0 rfl rfl ?_
  refine q_iload_n C dX8_whyNoJoining_1 1 rfl rfl ?_
  refine q_roz (q_runV (As := [.int p1]) (rest := []) C (fun sz => c_X8_isThere l dC dI cI cZ cQ o o_heads o_sides o_moods o_moults v_there v_month v_lost p1 (f_Sea_isThere v_there p1) rfl sz) (cwV 1 C.2.2.2.2.1 gX8_whyNoJoining_X8_isThere rfl rfl rfl (by decide +kernel) ⟨Nat.le_of_ble_eq_true rfl, Nat.le_of_ble_eq_true rfl⟩) 0 rfl rfl rfl [0] rfl rfl rfl rfl (Nat.le_of_ble_eq_true rfl) dX8_whyNoJoining_2 ⟨Nat.zero_le _, Nat.zero_le _⟩) (fun hz1 => ?_)
  refine q_if_eq (tgt := 16) C dX8_whyNoJoining_5 (by decide) (fun c2 => ?_) (fun c2 => ?_)
  · have hF := ite_t hF c2
    refine q_iconst (v := (1 : Int32)) C dX8_whyNoJoining_16 (by decide) ?_
    cases hF
    exact q_ireti C hA0 hr dX8_whyNoJoining_17 hQ
  · have hF := ite_f hF c2
    refine q_aload_n C dX8_whyNoJoining_8 0 rfl rfl ?_
    refine q_iload_n C dX8_whyNoJoining_9 2 rfl rfl ?_
    refine q_roz (q_runV (As := [.int p2]) (rest := []) C (fun sz => c_X8_isThere l dC dI cI cZ cQ o o_heads o_sides o_moods o_moults v_there v_month v_lost p2 (f_Sea_isThere v_there p2) rfl sz) (cwV 1 C.2.2.2.2.1 gX8_whyNoJoining_X8_isThere rfl rfl rfl (by decide +kernel) ⟨Nat.le_of_ble_eq_true rfl, Nat.le_of_ble_eq_true rfl⟩) 0 rfl rfl rfl [0] rfl rfl rfl rfl (Nat.le_of_ble_eq_true rfl) dX8_whyNoJoining_10 ⟨Nat.zero_le _, Nat.zero_le _⟩) (fun hz3 => ?_)
    refine q_if_ne (tgt := 18) C dX8_whyNoJoining_13 (by decide) (fun c4 => ?_) (fun c4 => ?_)
    · have hF := ite_f hF c4
      refine q_iload_n C dX8_whyNoJoining_18 1 rfl rfl ?_
      refine q_iload_n C dX8_whyNoJoining_19 2 rfl rfl ?_
      refine q_icmp_eq (tgt := 38) C dX8_whyNoJoining_20 (by decide) (fun c5 => ?_) (fun c5 => ?_)
      · have hF := ite_t hF c5
        refine q_iconst (v := (5 : Int32)) C dX8_whyNoJoining_38 (by decide) ?_
        refine q_goto (tgt := 43) C dX8_whyNoJoining_39 (by decide) ?_
        cases hF
        exact q_ireti C hA0 hr dX8_whyNoJoining_43 hQ
      · have hF := ite_f hF c5
        refine q_aload_n C dX8_whyNoJoining_23 0 rfl rfl ?_
        refine q_get (C0 := RX8) (T := TX8) (N := 7) (k0 := 4) C lk1 0 rfl rfl (by decide) lk0 rfl (v := .ref o_sides) rfl dX8_whyNoJoining_24 ?_
        refine q_iload_n C dX8_whyNoJoining_27 1 rfl rfl ?_
        obtain ⟨hc6, hF⟩ := ite_c hF
        refine q_iald C 1 0 rfl rfl (ix_in hc6) dX8_whyNoJoining_28 ?_
        refine q_aload_n C dX8_whyNoJoining_29 0 rfl rfl ?_
        refine q_get (C0 := RX8) (T := TX8) (N := 7) (k0 := 4) C lk1 0 rfl rfl (by decide) lk0 rfl (v := .ref o_sides) rfl dX8_whyNoJoining_30 ?_
        refine q_iload_n C dX8_whyNoJoining_33 2 rfl rfl ?_
        obtain ⟨hc7, hF⟩ := ite_c hF
        refine q_iald C 1 0 rfl rfl (ix_in hc7) dX8_whyNoJoining_34 ?_
        refine q_icmp_eq (tgt := 42) C dX8_whyNoJoining_35 (by decide) (fun c8 => ?_) (fun c8 => ?_)
        · have hF := ite_t hF c8
          refine q_iconst (v := (0 : Int32)) C dX8_whyNoJoining_42 (by decide) ?_
          cases hF
          exact q_ireti C hA0 hr dX8_whyNoJoining_43 hQ
        · have hF := ite_f hF c8
          refine q_iconst (v := (5 : Int32)) C dX8_whyNoJoining_38 (by decide) ?_
          refine q_goto (tgt := 43) C dX8_whyNoJoining_39 (by decide) ?_
          cases hF
          exact q_ireti C hA0 hr dX8_whyNoJoining_43 hQ
    · have hF := ite_t hF c4
      refine q_iconst (v := (1 : Int32)) C dX8_whyNoJoining_16 (by decide) ?_
      cases hF
      exact q_ireti C hA0 hr dX8_whyNoJoining_17 hQ
set_option maxRecDepth 100000 in
set_option maxHeartbeats 4000000 in
theorem c_X8_whyNoNet (l : Launch) (dC : Nat → ClassId) (dI : Nat → Nat → Nat) (cI cZ cQ : ClassId) (o o_heads o_sides o_moods o_moults : Nat) (v_there : Int32) (v_heads : Nat → Int32) (v_month : Int32) (v_lost : Int32) (p1 : Int32) (R : Int32) (hF : f_Sea_whyNoNet v_there v_heads p1 = some R) (sz : Nat) : Met l yX8_whyNoNet wsX8_whyNoNet ({ frames := 1, cells := 0, slots := 0, locals := 21 } : Room) (qPc ([.ref o, .int p1]) (dC, dI) (qT cI cZ cQ) ([(o, .inr (8, [.int v_there, .int v_month, .int v_lost, .ref o_heads, .ref o_sides, .ref o_moods, .ref o_moults])), (o_heads, .inl (cI, 6, .inl v_heads))]) sz) (qRi R) 0 0 (fun _ => False) := by
  refine q_met_r (cc := cX8_whyNoNet) (own := RX8) (maxL := 2) (ret := (some .int)) (lv0 := [(0, .ref o), (1, .int p1)]) (by decide) rfl rfl rfl (Nat.le_of_ble_eq_true rfl) ?_
  intro p e s m args below meth c C hr A A' Q hA0 hQ
  have lk0 : Cond.fieldLink RX8 9 "SealStrait$Sea" "heads" "[I" ∈ wsX8_whyNoNet := by decide +kernel
  have lk1 : ∀ w ∈ u_ws RX8 TX8 7, w ∈ wsX8_whyNoNet := fun w h => List.mem_cons_of_mem _ (List.mem_append_right _ h)
  unfold f_Sea_whyNoNet at hF
  refine q_aload_n C dX8_whyNoNet_0 0 rfl rfl ?_
  refine q_iload_n C dX8_whyNoNet_1 1 rfl rfl ?_
  refine q_roz (q_runV (As := [.int p1]) (rest := []) C (fun sz => c_X8_isThere l dC dI cI cZ cQ o o_heads o_sides o_moods o_moults v_there v_month v_lost p1 (f_Sea_isThere v_there p1) rfl sz) (cwV 1 C.2.2.2.2.1 gX8_whyNoNet_X8_isThere rfl rfl rfl (by decide +kernel) ⟨Nat.le_of_ble_eq_true rfl, Nat.le_of_ble_eq_true rfl⟩) 0 rfl rfl rfl [0] rfl rfl rfl rfl (Nat.le_of_ble_eq_true rfl) dX8_whyNoNet_2 ⟨Nat.zero_le _, Nat.zero_le _⟩) (fun hz1 => ?_)
  refine q_if_ne (tgt := 10) C dX8_whyNoNet_5 (by decide) (fun c2 => ?_) (fun c2 => ?_)
  · have hF := ite_f hF c2
    refine q_aload_n C dX8_whyNoNet_10 0 rfl rfl ?_
    refine q_get (C0 := RX8) (T := TX8) (N := 7) (k0 := 3) C lk1 0 rfl rfl (by decide) lk0 rfl (v := .ref o_heads) rfl dX8_whyNoNet_11 ?_
    refine q_iload_n C dX8_whyNoNet_14 1 rfl rfl ?_
    obtain ⟨hc3, hF⟩ := ite_c hF
    refine q_iald C 1 0 rfl rfl (ix_in hc3) dX8_whyNoNet_15 ?_
    refine q_iconst (v := (5 : Int32)) C dX8_whyNoNet_16 (by decide) ?_
    refine q_icmp_ge (tgt := 24) C dX8_whyNoNet_17 (by decide) (fun c4 => ?_) (fun c4 => ?_)
    · have hF := ite_t hF c4
      refine q_iconst (v := (0 : Int32)) C dX8_whyNoNet_24 (by decide) ?_
      cases hF
      exact q_ireti C hA0 hr dX8_whyNoNet_25 hQ
    · have hF := ite_f hF c4
      refine q_iconst (v := (4 : Int32)) C dX8_whyNoNet_20 (by decide) ?_
      refine q_goto (tgt := 25) C dX8_whyNoNet_21 (by decide) ?_
      cases hF
      exact q_ireti C hA0 hr dX8_whyNoNet_25 hQ
  · have hF := ite_t hF c2
    refine q_iconst (v := (1 : Int32)) C dX8_whyNoNet_8 (by decide) ?_
    cases hF
    exact q_ireti C hA0 hr dX8_whyNoNet_9 hQ
set_option maxRecDepth 100000 in
set_option maxHeartbeats 4000000 in
theorem c_X8_whyNoWhistle (l : Launch) (dC : Nat → ClassId) (dI : Nat → Nat → Nat) (cI cZ cQ : ClassId) (o o_moods o_heads o_sides o_moults : Nat) (v_there : Int32) (v_moods : Nat → Int32) (v_month : Int32) (v_lost : Int32) (p1 : Int32) (R : Int32) (hF : f_Sea_whyNoWhistle v_there v_moods p1 = some R) (sz : Nat) : Met l yX8_whyNoWhistle wsX8_whyNoWhistle ({ frames := 1, cells := 0, slots := 0, locals := 21 } : Room) (qPc ([.ref o, .int p1]) (dC, dI) (qT cI cZ cQ) ([(o, .inr (8, [.int v_there, .int v_month, .int v_lost, .ref o_heads, .ref o_sides, .ref o_moods, .ref o_moults])), (o_moods, .inl (cI, 6, .inl v_moods))]) sz) (qRi R) 0 0 (fun _ => False) := by
  refine q_met_r (cc := cX8_whyNoWhistle) (own := RX8) (maxL := 2) (ret := (some .int)) (lv0 := [(0, .ref o), (1, .int p1)]) (by decide) rfl rfl rfl (Nat.le_of_ble_eq_true rfl) ?_
  intro p e s m args below meth c C hr A A' Q hA0 hQ
  have lk0 : Cond.fieldLink RX8 18 "SealStrait$Sea" "moods" "[I" ∈ wsX8_whyNoWhistle := by decide +kernel
  have lk1 : ∀ w ∈ u_ws RX8 TX8 7, w ∈ wsX8_whyNoWhistle := fun w h => List.mem_cons_of_mem _ (List.mem_append_right _ h)
  unfold f_Sea_whyNoWhistle at hF
  refine q_aload_n C dX8_whyNoWhistle_0 0 rfl rfl ?_
  refine q_iload_n C dX8_whyNoWhistle_1 1 rfl rfl ?_
  refine q_roz (q_runV (As := [.int p1]) (rest := []) C (fun sz => c_X8_isThere l dC dI cI cZ cQ o o_heads o_sides o_moods o_moults v_there v_month v_lost p1 (f_Sea_isThere v_there p1) rfl sz) (cwV 1 C.2.2.2.2.1 gX8_whyNoWhistle_X8_isThere rfl rfl rfl (by decide +kernel) ⟨Nat.le_of_ble_eq_true rfl, Nat.le_of_ble_eq_true rfl⟩) 0 rfl rfl rfl [0] rfl rfl rfl rfl (Nat.le_of_ble_eq_true rfl) dX8_whyNoWhistle_2 ⟨Nat.zero_le _, Nat.zero_le _⟩) (fun hz1 => ?_)
  refine q_if_ne (tgt := 10) C dX8_whyNoWhistle_5 (by decide) (fun c2 => ?_) (fun c2 => ?_)
  · have hF := ite_f hF c2
    refine q_aload_n C dX8_whyNoWhistle_10 0 rfl rfl ?_
    refine q_get (C0 := RX8) (T := TX8) (N := 7) (k0 := 5) C lk1 0 rfl rfl (by decide) lk0 rfl (v := .ref o_moods) rfl dX8_whyNoWhistle_11 ?_
    refine q_iload_n C dX8_whyNoWhistle_14 1 rfl rfl ?_
    obtain ⟨hc3, hF⟩ := ite_c hF
    refine q_iald C 1 0 rfl rfl (ix_in hc3) dX8_whyNoWhistle_15 ?_
    refine q_bipush (v := (9 : Int32)) C dX8_whyNoWhistle_16 (by decide) ?_
    refine q_icmp_lt (tgt := 25) C dX8_whyNoWhistle_18 (by decide) (fun c4 => ?_) (fun c4 => ?_)
    · have hF := ite_t hF c4
      refine q_iconst (v := (0 : Int32)) C dX8_whyNoWhistle_25 (by decide) ?_
      cases hF
      exact q_ireti C hA0 hr dX8_whyNoWhistle_26 hQ
    · have hF := ite_f hF c4
      refine q_iconst (v := (3 : Int32)) C dX8_whyNoWhistle_21 (by decide) ?_
      refine q_goto (tgt := 26) C dX8_whyNoWhistle_22 (by decide) ?_
      cases hF
      exact q_ireti C hA0 hr dX8_whyNoWhistle_26 hQ
  · have hF := ite_t hF c2
    refine q_iconst (v := (1 : Int32)) C dX8_whyNoWhistle_8 (by decide) ?_
    cases hF
    exact q_ireti C hA0 hr dX8_whyNoWhistle_9 hQ
set_option maxRecDepth 100000 in
set_option maxHeartbeats 4000000 in
theorem c_X8_whyNot (l : Launch) (dC : Nat → ClassId) (dI : Nat → Nat → Nat) (cI cZ cQ : ClassId) (o o_heads o_sides o_moods o_moults b1 b2 b2_words b2_clashes : Nat) (v_there : Int32) (v_month : Int32) (v_heads : Nat → Int32) (v_sides : Nat → Int32) (v_moods : Nat → Int32) (v_moults : Nat → Int32) (v_a1_kind : Int32) (v_a1_one : Int32) (v_a1_other : Int32) (v_a2_words : Nat → Int32) (v_lost : Int32) (R : Int32) (hF : f_Sea_whyNot v_there v_month v_heads v_sides v_moods v_moults v_a1_kind v_a1_one v_a1_other v_a2_words = some R) (sz : Nat) : Met l yX8_whyNot wsX8_whyNot ({ frames := 3, cells := 0, slots := 0, locals := 65 } : Room) (qPc ([.ref o, .ref b1, .ref b2]) (dC, dI) (qT cI cZ cQ) ([(o, .inr (8, [.int v_there, .int v_month, .int v_lost, .ref o_heads, .ref o_sides, .ref o_moods, .ref o_moults])), (o_heads, .inl (cI, 6, .inl v_heads)), (o_sides, .inl (cI, 6, .inl v_sides)), (o_moods, .inl (cI, 6, .inl v_moods)), (o_moults, .inl (cI, 6, .inl v_moults)), (b1, .inr (0, [.int v_a1_kind, .int v_a1_one, .int v_a1_other])), (b2, .inr (9, [.ref b2_words, .ref b2_clashes])), (b2_words, .inl (cI, 10, .inl v_a2_words))]) sz) (qRi R) 0 0 (fun _ => False) := by
  refine q_met_r (cc := cX8_whyNot) (own := RX8) (maxL := 3) (ret := (some .int)) (lv0 := [(0, .ref o), (1, .ref b1), (2, .ref b2)]) (by decide) rfl rfl rfl (Nat.le_of_ble_eq_true rfl) ?_
  intro p e s m args below meth c C hr A A' Q hA0 hQ
  have lk0 : Cond.fieldLink RX8 49 "SealStrait$Act" "kind" "I" ∈ wsX8_whyNot := by decide +kernel
  have lk1 : ∀ w ∈ u_ws RX0 TX0 3, w ∈ wsX8_whyNot := fun w h => List.mem_cons_of_mem _ (List.mem_append_left _ (List.mem_append_left _ (List.mem_append_right _ h)))
  have lk2 : Cond.fieldLink RX8 54 "SealStrait$Act" "one" "I" ∈ wsX8_whyNot := by decide +kernel
  have lk3 : Cond.fieldLink RX8 72 "SealStrait$Act" "other" "I" ∈ wsX8_whyNot := by decide +kernel
  have lk4 : Cond.fieldLink RX8 28 "SealStrait$Sea" "month" "I" ∈ wsX8_whyNot := by decide +kernel
  have lk5 : ∀ w ∈ u_ws RX8 TX8 7, w ∈ wsX8_whyNot := fun w h => List.mem_cons_of_mem _ (List.mem_append_left _ (List.mem_append_right _ h))
  unfold f_Sea_whyNot at hF
  refine q_aload_n C dX8_whyNot_0 1 rfl rfl ?_
  refine q_get (C0 := RX0) (T := TX0) (N := 3) (k0 := 0) C lk1 5 rfl rfl (by decide) lk0 rfl (v := .int v_a1_kind) rfl dX8_whyNot_1 ?_
  by_cases c1 : v_a1_kind = (0 : Int32)
  · have hF := ite_t hF c1
    refine q_tab (tgt := 36) C dX8_whyNot_4 0 (by rw [c1]; decide) (by decide) (by decide) rfl (by decide) ?_
    refine q_aload_n C dX8_whyNot_36 0 rfl rfl ?_
    refine q_aload_n C dX8_whyNot_37 2 rfl rfl ?_
    refine q_aload_n C dX8_whyNot_38 1 rfl rfl ?_
    refine q_get (C0 := RX0) (T := TX0) (N := 3) (k0 := 1) C lk1 5 rfl rfl (by decide) lk2 rfl (v := .int v_a1_one) rfl dX8_whyNot_39 ?_
    obtain ⟨r2, hc3, hF⟩ := bind_c hF
    refine q_roi (q_runV (As := [.int v_a1_one]) (rest := [.ref o]) C (fun sz => c_X9_wordsOf l dC dI cI cZ cQ b2 b2_words b2_clashes v_a2_words v_a1_one r2 hc3 sz) (cwV 1 C.2.2.2.2.1 gX8_whyNot_X9_wordsOf rfl rfl rfl (by decide +kernel) ⟨Nat.le_of_ble_eq_true rfl, Nat.le_of_ble_eq_true rfl⟩) 6 rfl rfl rfl [6, 7] rfl rfl rfl rfl (Nat.le_of_ble_eq_true rfl) dX8_whyNot_42 ⟨Nat.zero_le _, Nat.zero_le _⟩) ?_
    obtain ⟨r4, hc5, hF⟩ := bind_c hF
    refine q_roi (q_runV (As := [.int r2]) (rest := []) C (fun sz => c_X8_signers l dC dI cI cZ cQ o o_heads o_moods o_moults o_sides v_there v_month v_heads v_moods v_moults v_lost r2 r4 hc5 sz) (cwV 1 C.2.2.2.2.1 gX8_whyNot_X8_signers rfl rfl rfl (by decide +kernel) ⟨Nat.le_of_ble_eq_true rfl, Nat.le_of_ble_eq_true rfl⟩) 0 rfl rfl rfl [0, 1, 3, 4] rfl rfl rfl rfl (Nat.le_of_ble_eq_true rfl) dX8_whyNot_45 ⟨Nat.zero_le _, Nat.zero_le _⟩) ?_
    refine q_if_ne (tgt := 55) C dX8_whyNot_48 (by decide) (fun c6 => ?_) (fun c6 => ?_)
    · have hF := ite_f hF c6
      refine q_iconst (v := (0 : Int32)) C dX8_whyNot_55 (by decide) ?_
      cases hF
      exact q_ireti C hA0 hr dX8_whyNot_56 hQ
    · have hF := ite_t hF c6
      refine q_iconst (v := (2 : Int32)) C dX8_whyNot_51 (by decide) ?_
      refine q_goto (tgt := 56) C dX8_whyNot_52 (by decide) ?_
      cases hF
      exact q_ireti C hA0 hr dX8_whyNot_56 hQ
  · have hF := ite_f hF c1
    by_cases c7 : v_a1_kind = (1 : Int32)
    · have hF := ite_t hF c7
      refine q_tab (tgt := 57) C dX8_whyNot_4 1 (by rw [c7]; decide) (by decide) (by decide) rfl (by decide) ?_
      refine q_aload_n C dX8_whyNot_57 0 rfl rfl ?_
      refine q_aload_n C dX8_whyNot_58 1 rfl rfl ?_
      refine q_get (C0 := RX0) (T := TX0) (N := 3) (k0 := 1) C lk1 5 rfl rfl (by decide) lk2 rfl (v := .int v_a1_one) rfl dX8_whyNot_59 ?_
      obtain ⟨r8, hc9, hF⟩ := bind_c hF
      refine q_roi (q_runV (As := [.int v_a1_one]) (rest := []) C (fun sz => c_X8_whyNoWhistle l dC dI cI cZ cQ o o_moods o_heads o_sides o_moults v_there v_moods v_month v_lost v_a1_one r8 hc9 sz) (cwV 1 C.2.2.2.2.1 gX8_whyNot_X8_whyNoWhistle rfl rfl rfl (by decide +kernel) ⟨Nat.le_of_ble_eq_true rfl, Nat.le_of_ble_eq_true rfl⟩) 0 rfl rfl rfl [0, 3] rfl rfl rfl rfl (Nat.le_of_ble_eq_true rfl) dX8_whyNot_62 ⟨Nat.zero_le _, Nat.zero_le _⟩) ?_
      cases hF
      exact q_ireti C hA0 hr dX8_whyNot_65 hQ
    · have hF := ite_f hF c7
      by_cases c10 : v_a1_kind = (2 : Int32)
      · have hF := ite_t hF c10
        refine q_tab (tgt := 66) C dX8_whyNot_4 2 (by rw [c10]; decide) (by decide) (by decide) rfl (by decide) ?_
        refine q_aload_n C dX8_whyNot_66 0 rfl rfl ?_
        refine q_aload_n C dX8_whyNot_67 1 rfl rfl ?_
        refine q_get (C0 := RX0) (T := TX0) (N := 3) (k0 := 1) C lk1 5 rfl rfl (by decide) lk2 rfl (v := .int v_a1_one) rfl dX8_whyNot_68 ?_
        obtain ⟨r11, hc12, hF⟩ := bind_c hF
        refine q_roi (q_runV (As := [.int v_a1_one]) (rest := []) C (fun sz => c_X8_whyNoNet l dC dI cI cZ cQ o o_heads o_sides o_moods o_moults v_there v_heads v_month v_lost v_a1_one r11 hc12 sz) (cwV 1 C.2.2.2.2.1 gX8_whyNot_X8_whyNoNet rfl rfl rfl (by decide +kernel) ⟨Nat.le_of_ble_eq_true rfl, Nat.le_of_ble_eq_true rfl⟩) 0 rfl rfl rfl [0, 1] rfl rfl rfl rfl (Nat.le_of_ble_eq_true rfl) dX8_whyNot_71 ⟨Nat.zero_le _, Nat.zero_le _⟩) ?_
        cases hF
        exact q_ireti C hA0 hr dX8_whyNot_74 hQ
      · have hF := ite_f hF c10
        by_cases c13 : v_a1_kind = (3 : Int32)
        · have hF := ite_t hF c13
          refine q_tab (tgt := 75) C dX8_whyNot_4 3 (by rw [c13]; decide) (by decide) (by decide) rfl (by decide) ?_
          refine q_aload_n C dX8_whyNot_75 0 rfl rfl ?_
          refine q_aload_n C dX8_whyNot_76 1 rfl rfl ?_
          refine q_get (C0 := RX0) (T := TX0) (N := 3) (k0 := 1) C lk1 5 rfl rfl (by decide) lk2 rfl (v := .int v_a1_one) rfl dX8_whyNot_77 ?_
          refine q_aload_n C dX8_whyNot_80 1 rfl rfl ?_
          refine q_get (C0 := RX0) (T := TX0) (N := 3) (k0 := 2) C lk1 5 rfl rfl (by decide) lk3 rfl (v := .int v_a1_other) rfl dX8_whyNot_81 ?_
          obtain ⟨r14, hc15, hF⟩ := bind_c hF
          refine q_roi (q_runV (As := [.int v_a1_one, .int v_a1_other]) (rest := []) C (fun sz => c_X8_whyNoJoining l dC dI cI cZ cQ o o_sides o_heads o_moods o_moults v_there v_sides v_month v_lost v_a1_one v_a1_other r14 hc15 sz) (cwV 2 C.2.2.2.2.1 gX8_whyNot_X8_whyNoJoining rfl rfl rfl (by decide +kernel) ⟨Nat.le_of_ble_eq_true rfl, Nat.le_of_ble_eq_true rfl⟩) 0 rfl rfl rfl [0, 2] rfl rfl rfl rfl (Nat.le_of_ble_eq_true rfl) dX8_whyNot_84 ⟨Nat.zero_le _, Nat.zero_le _⟩) ?_
          cases hF
          exact q_ireti C hA0 hr dX8_whyNot_87 hQ
        · have hF := ite_f hF c13
          refine q_tabD (tgt := 88) C dX8_whyNot_4 (by have c1t := lv_neT c1 (show (0 : Int32).toInt = 0 by decide); have c7t := lv_neT c7 (show (1 : Int32).toInt = 1 by decide); have c10t := lv_neT c10 (show (2 : Int32).toInt = 2 by decide); have c13t := lv_neT c13 (show (3 : Int32).toInt = 3 by decide); omega) (by decide) ?_
          refine q_aload_n C dX8_whyNot_88 0 rfl rfl ?_
          refine q_get (C0 := RX8) (T := TX8) (N := 7) (k0 := 1) C lk5 0 rfl rfl (by decide) lk4 rfl (v := .int v_month) rfl dX8_whyNot_89 ?_
          refine q_sipush (v := (999 : Int32)) C dX8_whyNot_92 (by decide) ?_
          refine q_icmp_lt (tgt := 103) C dX8_whyNot_95 (by decide) (fun c16 => ?_) (fun c16 => ?_)
          · have hF := ite_t hF c16
            refine q_iconst (v := (0 : Int32)) C dX8_whyNot_103 (by decide) ?_
            cases hF
            exact q_ireti C hA0 hr dX8_whyNot_104 hQ
          · have hF := ite_f hF c16
            refine q_bipush (v := (6 : Int32)) C dX8_whyNot_98 (by decide) ?_
            refine q_goto (tgt := 104) C dX8_whyNot_100 (by decide) ?_
            cases hF
            exact q_ireti C hA0 hr dX8_whyNot_104 hQ
set_option maxRecDepth 100000 in
set_option maxHeartbeats 4000000 in
theorem c_X8_cheer (l : Launch) (dC : Nat → ClassId) (dI : Nat → Nat → Nat) (cI cZ cQ : ClassId) (o o_moods o_heads o_sides o_moults : Nat) (v_there : Int32) (v_moods : Nat → Int32) (v_month : Int32) (v_lost : Int32) (p1 : Int32) (p2 : Int32) (w_moods : Nat → Int32) (hF : f_Sea_cheer v_there v_moods p1 p2 = some w_moods) (sz : Nat) : Met l yX8_cheer wsX8_cheer ({ frames := 1, cells := 0, slots := 0, locals := 21 } : Room) (qPc ([.ref o, .int p1, .int p2]) (dC, dI) (qT cI cZ cQ) ([(o, .inr (8, [.int v_there, .int v_month, .int v_lost, .ref o_heads, .ref o_sides, .ref o_moods, .ref o_moults])), (o_moods, .inl (cI, 6, .inl v_moods))]) sz) (qWv (dC, dI) ([(o, .inr (8, [.int v_there, .int v_month, .int v_lost, .ref o_heads, .ref o_sides, .ref o_moods, .ref o_moults])), (o_moods, .inl (cI, 6, .inl w_moods))]) (va_A ([(o, .inr (8, [.int v_there, .int v_month, .int v_lost, .ref o_heads, .ref o_sides, .ref o_moods, .ref o_moults])), (o_moods, .inl (cI, 6, .inl v_moods))]) sz)) 0 0 (va_A ([(o, .inr (8, [.int v_there, .int v_month, .int v_lost, .ref o_heads, .ref o_sides, .ref o_moods, .ref o_moults])), (o_moods, .inl (cI, 6, .inl v_moods))]) sz) := by
  refine q_met_w (Qc := fun A => qWv (dC, dI) ([(o, .inr (8, [.int v_there, .int v_month, .int v_lost, .ref o_heads, .ref o_sides, .ref o_moods, .ref o_moults])), (o_moods, .inl (cI, 6, .inl w_moods))]) A) (cc := cX8_cheer) (own := RX8) (maxL := 3) (ret := none) (lv0 := [(0, .ref o), (1, .int p1), (2, .int p2)]) (by decide) rfl rfl rfl (Nat.le_of_ble_eq_true rfl) ?_
  intro p e s m args below meth c A hA C hr hnm Q hQ
  have lk0 : Cond.fieldLink RX8 18 "SealStrait$Sea" "moods" "[I" ∈ wsX8_cheer := by decide +kernel
  have lk1 : ∀ w ∈ u_ws RX8 TX8 7, w ∈ wsX8_cheer := fun w h => List.mem_cons_of_mem _ (List.mem_append_right _ h)
  have lk2 : Cond.methodLink RX8 96 Lib.Math.min.name ∈ wsX8_cheer := by decide +kernel
  have lk3 : Cond.static Lib.Math.min.name ∈ wsX8_cheer := by decide +kernel
  have lk4 : Cond.initialized "java/lang/Math" ∈ wsX8_cheer := by decide +kernel
  have lk5 : Cond.code Lib.Math.min.name Lib.Math.min.code 2 (some .int) ∈ wsX8_cheer := by decide +kernel
  unfold f_Sea_cheer at hF
  refine q_aload_n C dX8_cheer_0 0 rfl rfl ?_
  refine q_iload_n C dX8_cheer_1 1 rfl rfl ?_
  refine q_roz (q_runV (As := [.int p1]) (rest := []) C (fun sz => c_X8_isThere l dC dI cI cZ cQ o o_heads o_sides o_moods o_moults v_there v_month v_lost p1 (f_Sea_isThere v_there p1) rfl sz) (cwV 1 C.2.2.2.2.1 gX8_cheer_X8_isThere rfl rfl rfl (by decide +kernel) ⟨Nat.le_of_ble_eq_true rfl, Nat.le_of_ble_eq_true rfl⟩) 0 rfl rfl rfl [0] rfl rfl rfl rfl (Nat.le_of_ble_eq_true rfl) dX8_cheer_2 ⟨Nat.zero_le _, Nat.zero_le _⟩) (fun hz1 => ?_)
  refine q_if_eq (tgt := 27) C dX8_cheer_5 (by decide) (fun c2 => ?_) (fun c2 => ?_)
  · have hF := ite_t hF c2
    cases hF
    exact q_wretv C hr dX8_cheer_27 hQ
  · have hF := ite_f hF c2
    refine q_aload_n C dX8_cheer_8 0 rfl rfl ?_
    refine q_get (C0 := RX8) (T := TX8) (N := 7) (k0 := 5) C lk1 0 rfl rfl (by decide) lk0 rfl (v := .ref o_moods) rfl dX8_cheer_9 ?_
    refine q_iload_n C dX8_cheer_12 1 rfl rfl ?_
    refine q_bipush (v := (9 : Int32)) C dX8_cheer_13 (by decide) ?_
    refine q_aload_n C dX8_cheer_15 0 rfl rfl ?_
    refine q_get (C0 := RX8) (T := TX8) (N := 7) (k0 := 5) C lk1 0 rfl rfl (by decide) lk0 rfl (v := .ref o_moods) rfl dX8_cheer_16 ?_
    refine q_iload_n C dX8_cheer_19 1 rfl rfl ?_
    obtain ⟨hc3, hF⟩ := ite_c hF
    refine q_iald C 1 0 rfl rfl (ix_in hc3) dX8_cheer_20 ?_
    refine q_iload_n C dX8_cheer_21 2 rfl rfl ?_
    refine q_iadd C dX8_cheer_22 ?_
    refine q_mmin C lk2 lk3 lk4 lk5 (Nat.le_of_ble_eq_true rfl) (Nat.le_of_ble_eq_true rfl) (Nat.zero_le _) (Nat.zero_le _) dX8_cheer_23 ?_
    obtain ⟨hc4, hF⟩ := ite_c hF
    refine q_iast C 1 0 rfl rfl (ix_in hc4) ([(o, .inr (8, [.int v_there, .int v_month, .int v_lost, .ref o_heads, .ref o_sides, .ref o_moods, .ref o_moults])), (o_moods, .inl (cI, 6, .inl (upd v_moods (p1).toNatClampNeg (if ((v_moods (p1).toNatClampNeg) + p2) < (9 : Int32) then ((v_moods (p1).toNatClampNeg) + p2) else (9 : Int32)))))]) rfl dX8_cheer_26 ?_
    cases hF
    exact q_wretv C hr dX8_cheer_27 hQ
set_option maxRecDepth 100000 in
set_option maxHeartbeats 4000000 in
theorem c_X8_passMonth (l : Launch) (dC : Nat → ClassId) (dI : Nat → Nat → Nat) (cI cZ cQ : ClassId) (o o_heads o_moods o_moults o_sides : Nat) (v_there : Int32) (v_month : Int32) (v_heads : Nat → Int32) (v_moods : Nat → Int32) (v_moults : Nat → Int32) (v_lost : Int32) (w_month : Int32) (w_heads : Nat → Int32) (w_moods : Nat → Int32) (hF : f_Sea_passMonth v_there v_month v_heads v_moods v_moults = some (w_month, w_heads, w_moods)) (sz : Nat) : Met l yX8_passMonth wsX8_passMonth ({ frames := 2, cells := 0, slots := 0, locals := 43 } : Room) (qPc ([.ref o]) (dC, dI) (qT cI cZ cQ) ([(o, .inr (8, [.int v_there, .int v_month, .int v_lost, .ref o_heads, .ref o_sides, .ref o_moods, .ref o_moults])), (o_heads, .inl (cI, 6, .inl v_heads)), (o_moods, .inl (cI, 6, .inl v_moods)), (o_moults, .inl (cI, 6, .inl v_moults))]) sz) (qWv (dC, dI) ([(o, .inr (8, [.int v_there, .int w_month, .int v_lost, .ref o_heads, .ref o_sides, .ref o_moods, .ref o_moults])), (o_heads, .inl (cI, 6, .inl w_heads)), (o_moods, .inl (cI, 6, .inl w_moods)), (o_moults, .inl (cI, 6, .inl v_moults))]) (va_A ([(o, .inr (8, [.int v_there, .int v_month, .int v_lost, .ref o_heads, .ref o_sides, .ref o_moods, .ref o_moults])), (o_heads, .inl (cI, 6, .inl v_heads)), (o_moods, .inl (cI, 6, .inl v_moods)), (o_moults, .inl (cI, 6, .inl v_moults))]) sz)) 0 0 (va_A ([(o, .inr (8, [.int v_there, .int v_month, .int v_lost, .ref o_heads, .ref o_sides, .ref o_moods, .ref o_moults])), (o_heads, .inl (cI, 6, .inl v_heads)), (o_moods, .inl (cI, 6, .inl v_moods)), (o_moults, .inl (cI, 6, .inl v_moults))]) sz) := by
  refine q_met_w (Qc := fun A => qWv (dC, dI) ([(o, .inr (8, [.int v_there, .int w_month, .int v_lost, .ref o_heads, .ref o_sides, .ref o_moods, .ref o_moults])), (o_heads, .inl (cI, 6, .inl w_heads)), (o_moods, .inl (cI, 6, .inl w_moods)), (o_moults, .inl (cI, 6, .inl v_moults))]) A) (cc := cX8_passMonth) (own := RX8) (maxL := 2) (ret := none) (lv0 := [(0, .ref o)]) (by decide) rfl rfl rfl (Nat.le_of_ble_eq_true rfl) ?_
  intro p e s m args below meth c A hA C hr hnm Q hQ
  have lk0 : Cond.fieldLink RX8 9 "SealStrait$Sea" "heads" "[I" ∈ wsX8_passMonth := by decide +kernel
  have lk1 : ∀ w ∈ u_ws RX8 TX8 7, w ∈ wsX8_passMonth := fun w h => List.mem_cons_of_mem _ (List.mem_append_right _ h)
  have lk2 : Cond.fieldLink RX8 21 "SealStrait$Sea" "moults" "[I" ∈ wsX8_passMonth := by decide +kernel
  have lk3 : Cond.fieldLink RX8 28 "SealStrait$Sea" "month" "I" ∈ wsX8_passMonth := by decide +kernel
  have lk4 : Cond.methodLink RX8 96 Lib.Math.min.name ∈ wsX8_passMonth := by decide +kernel
  have lk5 : Cond.static Lib.Math.min.name ∈ wsX8_passMonth := by decide +kernel
  have lk6 : Cond.initialized "java/lang/Math" ∈ wsX8_passMonth := by decide +kernel
  have lk7 : Cond.code Lib.Math.min.name Lib.Math.min.code 2 (some .int) ∈ wsX8_passMonth := by decide +kernel
  have L1 : ∀ (n : Nat) (x1 : Int32) (v_month : Int32) (v_heads : Nat → Int32) (v_moods : Nat → Int32) (z_heads : Nat → Int32) (z_moods : Nat → Int32), evr (fun s => b_Sea_passMonth_1 v_month v_there v_moults s.1 s.2.1 s.2.2) n (x1, v_heads, v_moods) = some (z_heads, z_moods) → qG p l e ({ frames := 2, cells := 0, slots := 0, locals := 43 } : Room) s m args below meth c 2 (dC, dI) A A Q 0 0 ([(0, .ref o)]) [] ([(o, .inr (8, [.int v_there, .int v_month, .int v_lost, .ref o_heads, .ref o_sides, .ref o_moods, .ref o_moults])), (o_heads, .inl (cI, 6, .inl z_heads)), (o_moods, .inl (cI, 6, .inl z_moods)), (o_moults, .inl (cI, 6, .inl v_moults))]) 73 → qG p l e ({ frames := 2, cells := 0, slots := 0, locals := 43 } : Room) s m args below meth c 2 (dC, dI) A A Q 0 0 ([(0, .ref o), (1, .int x1)]) [] ([(o, .inr (8, [.int v_there, .int v_month, .int v_lost, .ref o_heads, .ref o_sides, .ref o_moods, .ref o_moults])), (o_heads, .inl (cI, 6, .inl v_heads)), (o_moods, .inl (cI, 6, .inl v_moods)), (o_moults, .inl (cI, 6, .inl v_moults))]) 2 := by
    clear hF
    intro n
    induction n with
    | zero => intro x1 v_month v_heads v_moods z_heads z_moods hF; exact (evr_0 hF).elim
    | succ n ih =>
      intro x1 v_month v_heads v_moods z_heads z_moods hF hk
      obtain ⟨o9, hB, hn, hx⟩ := evr_c hF
      have hF : b_Sea_passMonth_1 v_month v_there v_moults x1 v_heads v_moods = some o9 := hB
      unfold b_Sea_passMonth_1 at hF
      refine q_iload_n C dX8_passMonth_2 1 rfl rfl ?_
      refine q_bipush (v := (6 : Int32)) C dX8_passMonth_3 (by decide) ?_
      refine q_icmp_ge (tgt := 73) C dX8_passMonth_5 (by decide) (fun c1 => ?_) (fun c1 => ?_)
      · have hF := ite_t hF c1
        cases hF
        have e2 := hx _ rfl
        cases e2
        refine q_lsel [0] rfl ?_
        exact hk
      · have hF := ite_f hF c1
        refine q_aload_n C dX8_passMonth_8 0 rfl rfl ?_
        refine q_iload_n C dX8_passMonth_9 1 rfl rfl ?_
        refine q_iconst (v := (2 : Int32)) C dX8_passMonth_10 (by decide) ?_
        obtain ⟨u3_moods, hc4, hF⟩ := bind_c hF
        refine q_rwv hA ([(o, .inr (8, [.int v_there, .int v_month, .int v_lost, .ref o_heads, .ref o_sides, .ref o_moods, .ref o_moults])), (o_heads, .inl (cI, 6, .inl v_heads)), (o_moods, .inl (cI, 6, .inl u3_moods)), (o_moults, .inl (cI, 6, .inl v_moults))]) [0, 2] [1, 3] rfl rfl rfl (by decide) [2, 0, 3, 1] rfl rfl (q_runV (As := [.int x1, .int (2 : Int32)]) (rest := []) C (fun sz => c_X8_cheer l dC dI cI cZ cQ o o_moods o_heads o_sides o_moults v_there v_moods v_month v_lost x1 (2 : Int32) u3_moods hc4 sz) (cwV 2 C.2.2.2.2.1 gX8_passMonth_X8_cheer rfl rfl rfl (by decide +kernel) ⟨Nat.le_of_ble_eq_true rfl, Nat.le_of_ble_eq_true rfl⟩) 0 rfl rfl rfl [0, 2] rfl rfl rfl rfl (Nat.le_of_ble_eq_true rfl) dX8_passMonth_11 ⟨Nat.zero_le _, Nat.zero_le _⟩) ?_
        refine q_aload_n C dX8_passMonth_14 0 rfl rfl ?_
        refine q_iload_n C dX8_passMonth_15 1 rfl rfl ?_
        refine q_roz (q_runV (As := [.int x1]) (rest := []) C (fun sz => c_X8_isThere l dC dI cI cZ cQ o o_heads o_sides o_moods o_moults v_there v_month v_lost x1 (f_Sea_isThere v_there x1) rfl sz) (cwV 1 C.2.2.2.2.1 gX8_passMonth_X8_isThere rfl rfl rfl (by decide +kernel) ⟨Nat.le_of_ble_eq_true rfl, Nat.le_of_ble_eq_true rfl⟩) 0 rfl rfl rfl [0] rfl rfl rfl rfl (Nat.le_of_ble_eq_true rfl) dX8_passMonth_16 ⟨Nat.zero_le _, Nat.zero_le _⟩) (fun hz5 => ?_)
        refine q_if_eq (tgt := 67) C dX8_passMonth_19 (by decide) (fun c6 => ?_) (fun c6 => ?_)
        · have hF := ite_t hF c6
          refine q_iinc (v := (x1 + 1)) C ([(1, .int (x1 + 1)), (0, .ref o)]) dX8_passMonth_67 1 rfl rfl (by decide) rfl ?_
          refine q_goto (tgt := 2) C dX8_passMonth_70 (by decide) ?_
          cases hF
          refine q_lsel [1, 0] rfl ?_
          exact ih (x1 + 1) v_month v_heads u3_moods z_heads z_moods (hn _ rfl) hk
        · have hF := ite_f hF c6
          refine q_aload_n C dX8_passMonth_22 0 rfl rfl ?_
          refine q_get (C0 := RX8) (T := TX8) (N := 7) (k0 := 3) C lk1 0 rfl rfl (by decide) lk0 rfl (v := .ref o_heads) rfl dX8_passMonth_23 ?_
          refine q_iload_n C dX8_passMonth_26 1 rfl rfl ?_
          obtain ⟨hc7, hF⟩ := ite_c hF
          refine q_iald C 1 0 rfl rfl (ix_in hc7) dX8_passMonth_27 ?_
          refine q_iconst (v := (2 : Int32)) C dX8_passMonth_28 (by decide) ?_
          refine q_icmp_lt (tgt := 67) C dX8_passMonth_29 (by decide) (fun c8 => ?_) (fun c8 => ?_)
          · have hF := ite_t hF c8
            refine q_iinc (v := (x1 + 1)) C ([(1, .int (x1 + 1)), (0, .ref o)]) dX8_passMonth_67 1 rfl rfl (by decide) rfl ?_
            refine q_goto (tgt := 2) C dX8_passMonth_70 (by decide) ?_
            cases hF
            refine q_lsel [1, 0] rfl ?_
            exact ih (x1 + 1) v_month v_heads u3_moods z_heads z_moods (hn _ rfl) hk
          · have hF := ite_f hF c8
            refine q_aload_n C dX8_passMonth_32 0 rfl rfl ?_
            refine q_get (C0 := RX8) (T := TX8) (N := 7) (k0 := 6) C lk1 0 rfl rfl (by decide) lk2 rfl (v := .ref o_moults) rfl dX8_passMonth_33 ?_
            refine q_iload_n C dX8_passMonth_36 1 rfl rfl ?_
            obtain ⟨hc9, hF⟩ := ite_c hF
            refine q_iald C 3 0 rfl rfl (ix_in hc9) dX8_passMonth_37 ?_
            refine q_aload_n C dX8_passMonth_38 0 rfl rfl ?_
            refine q_get (C0 := RX8) (T := TX8) (N := 7) (k0 := 1) C lk1 0 rfl rfl (by decide) lk3 rfl (v := .int v_month) rfl dX8_passMonth_39 ?_
            refine q_bipush (v := (12 : Int32)) C dX8_passMonth_42 (by decide) ?_
            refine q_irem C dX8_passMonth_44 (by decide) ?_
            refine q_icmp_eq (tgt := 67) C dX8_passMonth_45 (by decide) (fun c10 => ?_) (fun c10 => ?_)
            · have hF := ite_t hF c10
              refine q_iinc (v := (x1 + 1)) C ([(1, .int (x1 + 1)), (0, .ref o)]) dX8_passMonth_67 1 rfl rfl (by decide) rfl ?_
              refine q_goto (tgt := 2) C dX8_passMonth_70 (by decide) ?_
              cases hF
              refine q_lsel [1, 0] rfl ?_
              exact ih (x1 + 1) v_month v_heads u3_moods z_heads z_moods (hn _ rfl) hk
            · have hF := ite_f hF c10
              refine q_aload_n C dX8_passMonth_48 0 rfl rfl ?_
              refine q_get (C0 := RX8) (T := TX8) (N := 7) (k0 := 3) C lk1 0 rfl rfl (by decide) lk0 rfl (v := .ref o_heads) rfl dX8_passMonth_49 ?_
              refine q_iload_n C dX8_passMonth_52 1 rfl rfl ?_
              refine q_bipush (v := (99 : Int32)) C dX8_passMonth_53 (by decide) ?_
              refine q_aload_n C dX8_passMonth_55 0 rfl rfl ?_
              refine q_get (C0 := RX8) (T := TX8) (N := 7) (k0 := 3) C lk1 0 rfl rfl (by decide) lk0 rfl (v := .ref o_heads) rfl dX8_passMonth_56 ?_
              refine q_iload_n C dX8_passMonth_59 1 rfl rfl ?_
              obtain ⟨hc11, hF⟩ := ite_c hF
              refine q_iald C 1 0 rfl rfl (ix_in hc11) dX8_passMonth_60 ?_
              refine q_iconst (v := (1 : Int32)) C dX8_passMonth_61 (by decide) ?_
              refine q_iadd C dX8_passMonth_62 ?_
              refine q_mmin C lk4 lk5 lk6 lk7 (Nat.le_of_ble_eq_true rfl) (Nat.le_of_ble_eq_true rfl) (Nat.zero_le _) (Nat.zero_le _) dX8_passMonth_63 ?_
              obtain ⟨hc12, hF⟩ := ite_c hF
              refine q_iast C 1 0 rfl rfl (ix_in hc12) ([(o, .inr (8, [.int v_there, .int v_month, .int v_lost, .ref o_heads, .ref o_sides, .ref o_moods, .ref o_moults])), (o_heads, .inl (cI, 6, .inl (upd v_heads (x1).toNatClampNeg (if ((v_heads (x1).toNatClampNeg) + (1 : Int32)) < (99 : Int32) then ((v_heads (x1).toNatClampNeg) + (1 : Int32)) else (99 : Int32))))), (o_moods, .inl (cI, 6, .inl u3_moods)), (o_moults, .inl (cI, 6, .inl v_moults))]) rfl dX8_passMonth_66 ?_
              refine q_iinc (v := (x1 + 1)) C ([(1, .int (x1 + 1)), (0, .ref o)]) dX8_passMonth_67 1 rfl rfl (by decide) rfl ?_
              refine q_goto (tgt := 2) C dX8_passMonth_70 (by decide) ?_
              cases hF
              refine q_lsel [1, 0] rfl ?_
              exact ih (x1 + 1) v_month (upd v_heads (x1).toNatClampNeg (if ((v_heads (x1).toNatClampNeg) + (1 : Int32)) < (99 : Int32) then ((v_heads (x1).toNatClampNeg) + (1 : Int32)) else (99 : Int32))) u3_moods z_heads z_moods (hn _ rfl) hk
  unfold f_Sea_passMonth at hF
  refine q_iconst (v := (0 : Int32)) C dX8_passMonth_0 (by decide) ?_
  refine q_istore_n C ([(1, .int (0 : Int32)), (0, .ref o)]) dX8_passMonth_1 rfl (by decide) rfl ?_
  obtain ⟨⟨z13_heads, z13_moods⟩, hc14, hF⟩ := bind_c hF
  dsimp only at hF
  obtain ⟨n15, hc14⟩ := (ev_iff _ _ _).mp hc14
  refine q_lsel [1, 0] rfl ?_
  refine L1 n15 (0 : Int32) v_month v_heads v_moods z13_heads z13_moods hc14 ?_
  refine q_aload_n C dX8_passMonth_73 0 rfl rfl ?_
  refine q_dup C dX8_passMonth_74 rfl ?_
  refine q_get (C0 := RX8) (T := TX8) (N := 7) (k0 := 1) C lk1 0 rfl rfl (by decide) lk3 rfl (v := .int v_month) rfl dX8_passMonth_75 ?_
  refine q_iconst (v := (1 : Int32)) C dX8_passMonth_78 (by decide) ?_
  refine q_iadd C dX8_passMonth_79 ?_
  refine q_put (C0 := RX8) (T := TX8) (N := 7) (k0 := 1) C lk1 0 rfl rfl (by decide) lk3 rfl tyX8 tyX8_ok nmX8 rfl (v := .int (v_month + (1 : Int32))) rfl rfl (Nat.le_of_ble_eq_true rfl) ([(o, .inr (8, [.int v_there, .int (v_month + (1 : Int32)), .int v_lost, .ref o_heads, .ref o_sides, .ref o_moods, .ref o_moults])), (o_heads, .inl (cI, 6, .inl z13_heads)), (o_moods, .inl (cI, 6, .inl z13_moods)), (o_moults, .inl (cI, 6, .inl v_moults))]) rfl dX8_passMonth_80 ?_
  cases hF
  exact q_wretv C hr dX8_passMonth_83 hQ
set_option maxRecDepth 100000 in
set_option maxHeartbeats 4000000 in
theorem c_X8_joinTo (l : Launch) (dC : Nat → ClassId) (dI : Nat → Nat → Nat) (cI cZ cQ : ClassId) (o o_heads o_sides o_moods o_moults : Nat) (v_there : Int32) (v_heads : Nat → Int32) (v_month : Int32) (v_lost : Int32) (p1 : Int32) (p2 : Int32) (w_there : Int32) (w_heads : Nat → Int32) (hF : f_Sea_joinTo v_there v_heads p1 p2 = some (w_there, w_heads)) (sz : Nat) : Met l yX8_joinTo wsX8_joinTo ({ frames := 1, cells := 0, slots := 0, locals := 21 } : Room) (qPc ([.ref o, .int p1, .int p2]) (dC, dI) (qT cI cZ cQ) ([(o, .inr (8, [.int v_there, .int v_month, .int v_lost, .ref o_heads, .ref o_sides, .ref o_moods, .ref o_moults])), (o_heads, .inl (cI, 6, .inl v_heads))]) sz) (qWv (dC, dI) ([(o, .inr (8, [.int w_there, .int v_month, .int v_lost, .ref o_heads, .ref o_sides, .ref o_moods, .ref o_moults])), (o_heads, .inl (cI, 6, .inl w_heads))]) (va_A ([(o, .inr (8, [.int v_there, .int v_month, .int v_lost, .ref o_heads, .ref o_sides, .ref o_moods, .ref o_moults])), (o_heads, .inl (cI, 6, .inl v_heads))]) sz)) 0 0 (va_A ([(o, .inr (8, [.int v_there, .int v_month, .int v_lost, .ref o_heads, .ref o_sides, .ref o_moods, .ref o_moults])), (o_heads, .inl (cI, 6, .inl v_heads))]) sz) := by
  refine q_met_w (Qc := fun A => qWv (dC, dI) ([(o, .inr (8, [.int w_there, .int v_month, .int v_lost, .ref o_heads, .ref o_sides, .ref o_moods, .ref o_moults])), (o_heads, .inl (cI, 6, .inl w_heads))]) A) (cc := cX8_joinTo) (own := RX8) (maxL := 3) (ret := none) (lv0 := [(0, .ref o), (1, .int p1), (2, .int p2)]) (by decide) rfl rfl rfl (Nat.le_of_ble_eq_true rfl) ?_
  intro p e s m args below meth c A hA C hr hnm Q hQ
  have lk0 : Cond.fieldLink RX8 9 "SealStrait$Sea" "heads" "[I" ∈ wsX8_joinTo := by decide +kernel
  have lk1 : ∀ w ∈ u_ws RX8 TX8 7, w ∈ wsX8_joinTo := fun w h => List.mem_cons_of_mem _ (List.mem_append_right _ h)
  have lk2 : Cond.methodLink RX8 96 Lib.Math.min.name ∈ wsX8_joinTo := by decide +kernel
  have lk3 : Cond.static Lib.Math.min.name ∈ wsX8_joinTo := by decide +kernel
  have lk4 : Cond.initialized "java/lang/Math" ∈ wsX8_joinTo := by decide +kernel
  have lk5 : Cond.code Lib.Math.min.name Lib.Math.min.code 2 (some .int) ∈ wsX8_joinTo := by decide +kernel
  have lk6 : Cond.fieldLink RX8 24 "SealStrait$Sea" "there" "I" ∈ wsX8_joinTo := by decide +kernel
  unfold f_Sea_joinTo at hF
  refine q_aload_n C dX8_joinTo_0 0 rfl rfl ?_
  refine q_iload_n C dX8_joinTo_1 1 rfl rfl ?_
  refine q_roz (q_runV (As := [.int p1]) (rest := []) C (fun sz => c_X8_isThere l dC dI cI cZ cQ o o_heads o_sides o_moods o_moults v_there v_month v_lost p1 (f_Sea_isThere v_there p1) rfl sz) (cwV 1 C.2.2.2.2.1 gX8_joinTo_X8_isThere rfl rfl rfl (by decide +kernel) ⟨Nat.le_of_ble_eq_true rfl, Nat.le_of_ble_eq_true rfl⟩) 0 rfl rfl rfl [0] rfl rfl rfl rfl (Nat.le_of_ble_eq_true rfl) dX8_joinTo_2 ⟨Nat.zero_le _, Nat.zero_le _⟩) (fun hz1 => ?_)
  refine q_if_eq (tgt := 54) C dX8_joinTo_5 (by decide) (fun c2 => ?_) (fun c2 => ?_)
  · have hF := ite_t hF c2
    cases hF
    exact q_wretv C hr dX8_joinTo_54 hQ
  · have hF := ite_f hF c2
    refine q_aload_n C dX8_joinTo_8 0 rfl rfl ?_
    refine q_iload_n C dX8_joinTo_9 2 rfl rfl ?_
    refine q_roz (q_runV (As := [.int p2]) (rest := []) C (fun sz => c_X8_isThere l dC dI cI cZ cQ o o_heads o_sides o_moods o_moults v_there v_month v_lost p2 (f_Sea_isThere v_there p2) rfl sz) (cwV 1 C.2.2.2.2.1 gX8_joinTo_X8_isThere rfl rfl rfl (by decide +kernel) ⟨Nat.le_of_ble_eq_true rfl, Nat.le_of_ble_eq_true rfl⟩) 0 rfl rfl rfl [0] rfl rfl rfl rfl (Nat.le_of_ble_eq_true rfl) dX8_joinTo_10 ⟨Nat.zero_le _, Nat.zero_le _⟩) (fun hz3 => ?_)
    refine q_if_eq (tgt := 54) C dX8_joinTo_13 (by decide) (fun c4 => ?_) (fun c4 => ?_)
    · have hF := ite_t hF c4
      cases hF
      exact q_wretv C hr dX8_joinTo_54 hQ
    · have hF := ite_f hF c4
      refine q_aload_n C dX8_joinTo_16 0 rfl rfl ?_
      refine q_get (C0 := RX8) (T := TX8) (N := 7) (k0 := 3) C lk1 0 rfl rfl (by decide) lk0 rfl (v := .ref o_heads) rfl dX8_joinTo_17 ?_
      refine q_iload_n C dX8_joinTo_20 1 rfl rfl ?_
      refine q_bipush (v := (99 : Int32)) C dX8_joinTo_21 (by decide) ?_
      refine q_aload_n C dX8_joinTo_23 0 rfl rfl ?_
      refine q_get (C0 := RX8) (T := TX8) (N := 7) (k0 := 3) C lk1 0 rfl rfl (by decide) lk0 rfl (v := .ref o_heads) rfl dX8_joinTo_24 ?_
      refine q_iload_n C dX8_joinTo_27 1 rfl rfl ?_
      obtain ⟨hc5, hF⟩ := ite_c hF
      refine q_iald C 1 0 rfl rfl (ix_in hc5) dX8_joinTo_28 ?_
      refine q_aload_n C dX8_joinTo_29 0 rfl rfl ?_
      refine q_get (C0 := RX8) (T := TX8) (N := 7) (k0 := 3) C lk1 0 rfl rfl (by decide) lk0 rfl (v := .ref o_heads) rfl dX8_joinTo_30 ?_
      refine q_iload_n C dX8_joinTo_33 2 rfl rfl ?_
      obtain ⟨hc6, hF⟩ := ite_c hF
      refine q_iald C 1 0 rfl rfl (ix_in hc6) dX8_joinTo_34 ?_
      refine q_iadd C dX8_joinTo_35 ?_
      refine q_mmin C lk2 lk3 lk4 lk5 (Nat.le_of_ble_eq_true rfl) (Nat.le_of_ble_eq_true rfl) (Nat.zero_le _) (Nat.zero_le _) dX8_joinTo_36 ?_
      obtain ⟨hc7, hF⟩ := ite_c hF
      refine q_iast C 1 0 rfl rfl (ix_in hc7) ([(o, .inr (8, [.int v_there, .int v_month, .int v_lost, .ref o_heads, .ref o_sides, .ref o_moods, .ref o_moults])), (o_heads, .inl (cI, 6, .inl (upd v_heads (p1).toNatClampNeg (if ((v_heads (p1).toNatClampNeg) + (v_heads (p2).toNatClampNeg)) < (99 : Int32) then ((v_heads (p1).toNatClampNeg) + (v_heads (p2).toNatClampNeg)) else (99 : Int32)))))]) rfl dX8_joinTo_39 ?_
      refine q_aload_n C dX8_joinTo_40 0 rfl rfl ?_
      refine q_dup C dX8_joinTo_41 rfl ?_
      refine q_get (C0 := RX8) (T := TX8) (N := 7) (k0 := 0) C lk1 0 rfl rfl (by decide) lk6 rfl (v := .int v_there) rfl dX8_joinTo_42 ?_
      refine q_iconst (v := (1 : Int32)) C dX8_joinTo_45 (by decide) ?_
      refine q_iload_n C dX8_joinTo_46 2 rfl rfl ?_
      refine q_ishl C dX8_joinTo_47 ?_
      refine q_iconst (v := (-1 : Int32)) C dX8_joinTo_48 (by decide) ?_
      refine q_ixor C dX8_joinTo_49 ?_
      refine q_iand C dX8_joinTo_50 ?_
      refine q_put (C0 := RX8) (T := TX8) (N := 7) (k0 := 0) C lk1 0 rfl rfl (by decide) lk6 rfl tyX8 tyX8_ok nmX8 rfl (v := .int (v_there &&& (((1 : Int32) <<< (p2 &&& 31)) ^^^ (-1 : Int32)))) rfl rfl (Nat.le_of_ble_eq_true rfl) ([(o, .inr (8, [.int (v_there &&& (((1 : Int32) <<< (p2 &&& 31)) ^^^ (-1 : Int32))), .int v_month, .int v_lost, .ref o_heads, .ref o_sides, .ref o_moods, .ref o_moults])), (o_heads, .inl (cI, 6, .inl (upd v_heads (p1).toNatClampNeg (if ((v_heads (p1).toNatClampNeg) + (v_heads (p2).toNatClampNeg)) < (99 : Int32) then ((v_heads (p1).toNatClampNeg) + (v_heads (p2).toNatClampNeg)) else (99 : Int32)))))]) rfl dX8_joinTo_51 ?_
      cases hF
      exact q_wretv C hr dX8_joinTo_54 hQ
set_option maxRecDepth 100000 in
set_option maxHeartbeats 4000000 in
theorem c_X8_takeNet (l : Launch) (dC : Nat → ClassId) (dI : Nat → Nat → Nat) (cI cZ cQ : ClassId) (o o_heads o_sides o_moods o_moults : Nat) (v_there : Int32) (v_lost : Int32) (v_heads : Nat → Int32) (v_month : Int32) (p1 : Int32) (w_lost : Int32) (w_heads : Nat → Int32) (hF : f_Sea_takeNet v_there v_lost v_heads p1 = some (w_lost, w_heads)) (sz : Nat) : Met l yX8_takeNet wsX8_takeNet ({ frames := 1, cells := 0, slots := 0, locals := 21 } : Room) (qPc ([.ref o, .int p1]) (dC, dI) (qT cI cZ cQ) ([(o, .inr (8, [.int v_there, .int v_month, .int v_lost, .ref o_heads, .ref o_sides, .ref o_moods, .ref o_moults])), (o_heads, .inl (cI, 6, .inl v_heads))]) sz) (qWv (dC, dI) ([(o, .inr (8, [.int v_there, .int v_month, .int w_lost, .ref o_heads, .ref o_sides, .ref o_moods, .ref o_moults])), (o_heads, .inl (cI, 6, .inl w_heads))]) (va_A ([(o, .inr (8, [.int v_there, .int v_month, .int v_lost, .ref o_heads, .ref o_sides, .ref o_moods, .ref o_moults])), (o_heads, .inl (cI, 6, .inl v_heads))]) sz)) 0 0 (va_A ([(o, .inr (8, [.int v_there, .int v_month, .int v_lost, .ref o_heads, .ref o_sides, .ref o_moods, .ref o_moults])), (o_heads, .inl (cI, 6, .inl v_heads))]) sz) := by
  refine q_met_w (Qc := fun A => qWv (dC, dI) ([(o, .inr (8, [.int v_there, .int v_month, .int w_lost, .ref o_heads, .ref o_sides, .ref o_moods, .ref o_moults])), (o_heads, .inl (cI, 6, .inl w_heads))]) A) (cc := cX8_takeNet) (own := RX8) (maxL := 2) (ret := none) (lv0 := [(0, .ref o), (1, .int p1)]) (by decide) rfl rfl rfl (Nat.le_of_ble_eq_true rfl) ?_
  intro p e s m args below meth c A hA C hr hnm Q hQ
  have lk0 : Cond.fieldLink RX8 9 "SealStrait$Sea" "heads" "[I" ∈ wsX8_takeNet := by decide +kernel
  have lk1 : ∀ w ∈ u_ws RX8 TX8 7, w ∈ wsX8_takeNet := fun w h => List.mem_cons_of_mem _ (List.mem_append_right _ h)
  have lk2 : Cond.fieldLink RX8 31 "SealStrait$Sea" "lost" "I" ∈ wsX8_takeNet := by decide +kernel
  unfold f_Sea_takeNet at hF
  refine q_aload_n C dX8_takeNet_0 0 rfl rfl ?_
  refine q_iload_n C dX8_takeNet_1 1 rfl rfl ?_
  refine q_roz (q_runV (As := [.int p1]) (rest := []) C (fun sz => c_X8_isThere l dC dI cI cZ cQ o o_heads o_sides o_moods o_moults v_there v_month v_lost p1 (f_Sea_isThere v_there p1) rfl sz) (cwV 1 C.2.2.2.2.1 gX8_takeNet_X8_isThere rfl rfl rfl (by decide +kernel) ⟨Nat.le_of_ble_eq_true rfl, Nat.le_of_ble_eq_true rfl⟩) 0 rfl rfl rfl [0] rfl rfl rfl rfl (Nat.le_of_ble_eq_true rfl) dX8_takeNet_2 ⟨Nat.zero_le _, Nat.zero_le _⟩) (fun hz1 => ?_)
  refine q_if_eq (tgt := 28) C dX8_takeNet_5 (by decide) (fun c2 => ?_) (fun c2 => ?_)
  · have hF := ite_t hF c2
    cases hF
    exact q_wretv C hr dX8_takeNet_28 hQ
  · have hF := ite_f hF c2
    refine q_aload_n C dX8_takeNet_8 0 rfl rfl ?_
    refine q_get (C0 := RX8) (T := TX8) (N := 7) (k0 := 3) C lk1 0 rfl rfl (by decide) lk0 rfl (v := .ref o_heads) rfl dX8_takeNet_9 ?_
    refine q_iload_n C dX8_takeNet_12 1 rfl rfl ?_
    refine q_dup2 C dX8_takeNet_13 rfl rfl ?_
    obtain ⟨hc3, hF⟩ := ite_c hF
    refine q_iald C 1 0 rfl rfl (ix_in hc3) dX8_takeNet_14 ?_
    refine q_iconst (v := (5 : Int32)) C dX8_takeNet_15 (by decide) ?_
    refine q_isub C dX8_takeNet_16 ?_
    obtain ⟨hc4, hF⟩ := ite_c hF
    refine q_iast C 1 0 rfl rfl (ix_in hc4) ([(o, .inr (8, [.int v_there, .int v_month, .int v_lost, .ref o_heads, .ref o_sides, .ref o_moods, .ref o_moults])), (o_heads, .inl (cI, 6, .inl (upd v_heads (p1).toNatClampNeg ((v_heads (p1).toNatClampNeg) - (5 : Int32)))))]) rfl dX8_takeNet_17 ?_
    refine q_aload_n C dX8_takeNet_18 0 rfl rfl ?_
    refine q_dup C dX8_takeNet_19 rfl ?_
    refine q_get (C0 := RX8) (T := TX8) (N := 7) (k0 := 2) C lk1 0 rfl rfl (by decide) lk2 rfl (v := .int v_lost) rfl dX8_takeNet_20 ?_
    refine q_iconst (v := (5 : Int32)) C dX8_takeNet_23 (by decide) ?_
    refine q_iadd C dX8_takeNet_24 ?_
    refine q_put (C0 := RX8) (T := TX8) (N := 7) (k0 := 2) C lk1 0 rfl rfl (by decide) lk2 rfl tyX8 tyX8_ok nmX8 rfl (v := .int (v_lost + (5 : Int32))) rfl rfl (Nat.le_of_ble_eq_true rfl) ([(o, .inr (8, [.int v_there, .int v_month, .int (v_lost + (5 : Int32)), .ref o_heads, .ref o_sides, .ref o_moods, .ref o_moults])), (o_heads, .inl (cI, 6, .inl (upd v_heads (p1).toNatClampNeg ((v_heads (p1).toNatClampNeg) - (5 : Int32)))))]) rfl dX8_takeNet_25 ?_
    cases hF
    exact q_wretv C hr dX8_takeNet_28 hQ
set_option maxRecDepth 100000 in
set_option maxHeartbeats 4000000 in
theorem c_X8_readAloud (l : Launch) (dC : Nat → ClassId) (dI : Nat → Nat → Nat) (cI cZ cQ : ClassId) (o o_heads o_sides o_moods o_moults : Nat) (v_there : Int32) (v_month : Int32) (v_heads : Nat → Int32) (v_sides : Nat → Int32) (v_moods : Nat → Int32) (v_moults : Nat → Int32) (v_lost : Int32) (p1 : Int32) (w_sides : Nat → Int32) (w_moods : Nat → Int32) (hF : f_Sea_readAloud v_there v_month v_heads v_sides v_moods v_moults p1 = some (w_sides, w_moods)) (sz : Nat) : Met l yX8_readAloud wsX8_readAloud ({ frames := 3, cells := 0, slots := 0, locals := 65 } : Room) (qPc ([.ref o, .int p1]) (dC, dI) (qT cI cZ cQ) ([(o, .inr (8, [.int v_there, .int v_month, .int v_lost, .ref o_heads, .ref o_sides, .ref o_moods, .ref o_moults])), (o_heads, .inl (cI, 6, .inl v_heads)), (o_sides, .inl (cI, 6, .inl v_sides)), (o_moods, .inl (cI, 6, .inl v_moods)), (o_moults, .inl (cI, 6, .inl v_moults))]) sz) (qWv (dC, dI) ([(o, .inr (8, [.int v_there, .int v_month, .int v_lost, .ref o_heads, .ref o_sides, .ref o_moods, .ref o_moults])), (o_heads, .inl (cI, 6, .inl v_heads)), (o_sides, .inl (cI, 6, .inl w_sides)), (o_moods, .inl (cI, 6, .inl w_moods)), (o_moults, .inl (cI, 6, .inl v_moults))]) (va_A ([(o, .inr (8, [.int v_there, .int v_month, .int v_lost, .ref o_heads, .ref o_sides, .ref o_moods, .ref o_moults])), (o_heads, .inl (cI, 6, .inl v_heads)), (o_sides, .inl (cI, 6, .inl v_sides)), (o_moods, .inl (cI, 6, .inl v_moods)), (o_moults, .inl (cI, 6, .inl v_moults))]) sz)) 0 0 (va_A ([(o, .inr (8, [.int v_there, .int v_month, .int v_lost, .ref o_heads, .ref o_sides, .ref o_moods, .ref o_moults])), (o_heads, .inl (cI, 6, .inl v_heads)), (o_sides, .inl (cI, 6, .inl v_sides)), (o_moods, .inl (cI, 6, .inl v_moods)), (o_moults, .inl (cI, 6, .inl v_moults))]) sz) := by
  refine q_met_w (Qc := fun A => qWv (dC, dI) ([(o, .inr (8, [.int v_there, .int v_month, .int v_lost, .ref o_heads, .ref o_sides, .ref o_moods, .ref o_moults])), (o_heads, .inl (cI, 6, .inl v_heads)), (o_sides, .inl (cI, 6, .inl w_sides)), (o_moods, .inl (cI, 6, .inl w_moods)), (o_moults, .inl (cI, 6, .inl v_moults))]) A) (cc := cX8_readAloud) (own := RX8) (maxL := 4) (ret := none) (lv0 := [(0, .ref o), (1, .int p1)]) (by decide) rfl rfl rfl (Nat.le_of_ble_eq_true rfl) ?_
  intro p e s m args below meth c A hA C hr hnm Q hQ
  have lk0 : Cond.initialized RX11 ∈ wsX8_readAloud := by decide +kernel
  have lk1 : Cond.static yX11_has ∈ wsX8_readAloud := by decide +kernel
  have lk2 : (RX8, 45, yX11_has) ∈ qNest := by decide +kernel
  have lk3 : Cond.fieldLink RX8 15 "SealStrait$Sea" "sides" "[I" ∈ wsX8_readAloud := by decide +kernel
  have lk4 : ∀ w ∈ u_ws RX8 TX8 7, w ∈ wsX8_readAloud := fun w h => List.mem_cons_of_mem _ (List.mem_append_right _ h)
  have lk5 : Cond.fieldLink RX8 18 "SealStrait$Sea" "moods" "[I" ∈ wsX8_readAloud := by decide +kernel
  have L1 : ∀ (n : Nat) (x1 : Int32) (x2 : Int32) (x3 : Int32) (v_sides : Nat → Int32) (v_moods : Nat → Int32) (z_sides : Nat → Int32) (z_moods : Nat → Int32), evr (fun s => b_Sea_readAloud_1 x1 x2 v_there s.1 s.2.1 s.2.2) n (x3, v_sides, v_moods) = some (z_sides, z_moods) → qG p l e ({ frames := 3, cells := 0, slots := 0, locals := 65 } : Room) s m args below meth c 4 (dC, dI) A A Q 0 0 ([]) [] ([(o, .inr (8, [.int v_there, .int v_month, .int v_lost, .ref o_heads, .ref o_sides, .ref o_moods, .ref o_moults])), (o_heads, .inl (cI, 6, .inl v_heads)), (o_sides, .inl (cI, 6, .inl z_sides)), (o_moods, .inl (cI, 6, .inl z_moods)), (o_moults, .inl (cI, 6, .inl v_moults))]) 61 → qG p l e ({ frames := 3, cells := 0, slots := 0, locals := 65 } : Room) s m args below meth c 4 (dC, dI) A A Q 0 0 ([(0, .ref o), (1, .int x1), (2, .int x2), (3, .int x3)]) [] ([(o, .inr (8, [.int v_there, .int v_month, .int v_lost, .ref o_heads, .ref o_sides, .ref o_moods, .ref o_moults])), (o_heads, .inl (cI, 6, .inl v_heads)), (o_sides, .inl (cI, 6, .inl v_sides)), (o_moods, .inl (cI, 6, .inl v_moods)), (o_moults, .inl (cI, 6, .inl v_moults))]) 8 := by
    clear hF
    intro n
    induction n with
    | zero => intro x1 x2 x3 v_sides v_moods z_sides z_moods hF; exact (evr_0 hF).elim
    | succ n ih =>
      intro x1 x2 x3 v_sides v_moods z_sides z_moods hF hk
      obtain ⟨o9, hB, hn, hx⟩ := evr_c hF
      have hF : b_Sea_readAloud_1 x1 x2 v_there x3 v_sides v_moods = some o9 := hB
      unfold b_Sea_readAloud_1 at hF
      refine q_iload_n C dX8_readAloud_8 3 rfl rfl ?_
      refine q_bipush (v := (6 : Int32)) C dX8_readAloud_9 (by decide) ?_
      refine q_icmp_ge (tgt := 61) C dX8_readAloud_11 (by decide) (fun c1 => ?_) (fun c1 => ?_)
      · have hF := ite_t hF c1
        cases hF
        have e2 := hx _ rfl
        cases e2
        refine q_lsel [] rfl ?_
        exact hk
      · have hF := ite_f hF c1
        refine q_iload_n C dX8_readAloud_14 2 rfl rfl ?_
        refine q_iload_n C dX8_readAloud_15 3 rfl rfl ?_
        refine q_roz (q_runSN (As := [.int x2, .int x3]) (rest := []) (n := 2) C (fun sz => c_X11_has l dC dI cI cZ cQ x2 x3 (f_Strait_has x2 x3) rfl sz) gX8_readAloud_X11_has_n45 rfl rfl rfl lk2 lk0 lk1 (by decide +kernel) ⟨Nat.le_of_ble_eq_true rfl, Nat.le_of_ble_eq_true rfl⟩ [] rfl rfl rfl rfl (Nat.le_of_ble_eq_true rfl) dX8_readAloud_16 ⟨Nat.zero_le _, Nat.zero_le _⟩) (fun hz3 => ?_)
        refine q_if_eq (tgt := 49) C dX8_readAloud_19 (by decide) (fun c4 => ?_) (fun c4 => ?_)
        · have hF := ite_t hF c4
          refine q_aload_n C dX8_readAloud_49 0 rfl rfl ?_
          refine q_iload_n C dX8_readAloud_50 3 rfl rfl ?_
          refine q_iconst (v := (1 : Int32)) C dX8_readAloud_51 (by decide) ?_
          obtain ⟨u5_moods, hc6, hF⟩ := bind_c hF
          refine q_rwv hA ([(o, .inr (8, [.int v_there, .int v_month, .int v_lost, .ref o_heads, .ref o_sides, .ref o_moods, .ref o_moults])), (o_heads, .inl (cI, 6, .inl v_heads)), (o_sides, .inl (cI, 6, .inl v_sides)), (o_moods, .inl (cI, 6, .inl u5_moods)), (o_moults, .inl (cI, 6, .inl v_moults))]) [0, 3] [1, 2, 4] rfl rfl rfl (by decide) [3, 0, 1, 4, 2] rfl rfl (q_runV (As := [.int x3, .int (1 : Int32)]) (rest := []) C (fun sz => c_X8_cheer l dC dI cI cZ cQ o o_moods o_heads o_sides o_moults v_there v_moods v_month v_lost x3 (1 : Int32) u5_moods hc6 sz) (cwV 2 C.2.2.2.2.1 gX8_readAloud_X8_cheer rfl rfl rfl (by decide +kernel) ⟨Nat.le_of_ble_eq_true rfl, Nat.le_of_ble_eq_true rfl⟩) 0 rfl rfl rfl [0, 3] rfl rfl rfl rfl (Nat.le_of_ble_eq_true rfl) dX8_readAloud_52 ⟨Nat.zero_le _, Nat.zero_le _⟩) ?_
          refine q_iinc (v := (x3 + 1)) C ([(3, .int (x3 + 1)), (0, .ref o), (1, .int x1), (2, .int x2)]) dX8_readAloud_55 3 rfl rfl (by decide) rfl ?_
          refine q_goto (tgt := 8) C dX8_readAloud_58 (by decide) ?_
          cases hF
          refine q_lsel [1, 2, 3, 0] rfl ?_
          exact ih x1 x2 (x3 + 1) v_sides u5_moods z_sides z_moods (hn _ rfl) hk
        · have hF := ite_f hF c4
          refine q_aload_n C dX8_readAloud_22 0 rfl rfl ?_
          refine q_get (C0 := RX8) (T := TX8) (N := 7) (k0 := 4) C lk4 0 rfl rfl (by decide) lk3 rfl (v := .ref o_sides) rfl dX8_readAloud_23 ?_
          refine q_iload_n C dX8_readAloud_26 3 rfl rfl ?_
          refine q_iconst (v := (1 : Int32)) C dX8_readAloud_27 (by decide) ?_
          refine q_aload_n C dX8_readAloud_28 0 rfl rfl ?_
          refine q_get (C0 := RX8) (T := TX8) (N := 7) (k0 := 4) C lk4 0 rfl rfl (by decide) lk3 rfl (v := .ref o_sides) rfl dX8_readAloud_29 ?_
          refine q_iload_n C dX8_readAloud_32 3 rfl rfl ?_
          obtain ⟨hc7, hF⟩ := ite_c hF
          refine q_iald C 2 0 rfl rfl (ix_in hc7) dX8_readAloud_33 ?_
          refine q_isub C dX8_readAloud_34 ?_
          obtain ⟨hc8, hF⟩ := ite_c hF
          refine q_iast C 2 0 rfl rfl (ix_in hc8) ([(o, .inr (8, [.int v_there, .int v_month, .int v_lost, .ref o_heads, .ref o_sides, .ref o_moods, .ref o_moults])), (o_heads, .inl (cI, 6, .inl v_heads)), (o_sides, .inl (cI, 6, .inl (upd v_sides (x3).toNatClampNeg ((1 : Int32) - (v_sides (x3).toNatClampNeg))))), (o_moods, .inl (cI, 6, .inl v_moods)), (o_moults, .inl (cI, 6, .inl v_moults))]) rfl dX8_readAloud_35 ?_
          refine q_aload_n C dX8_readAloud_36 0 rfl rfl ?_
          refine q_get (C0 := RX8) (T := TX8) (N := 7) (k0 := 5) C lk4 0 rfl rfl (by decide) lk5 rfl (v := .ref o_moods) rfl dX8_readAloud_37 ?_
          refine q_iload_n C dX8_readAloud_40 3 rfl rfl ?_
          refine q_dup2 C dX8_readAloud_41 rfl rfl ?_
          obtain ⟨hc9, hF⟩ := ite_c hF
          refine q_iald C 3 0 rfl rfl (ix_in hc9) dX8_readAloud_42 ?_
          refine q_iload_n C dX8_readAloud_43 1 rfl rfl ?_
          refine q_isub C dX8_readAloud_44 ?_
          obtain ⟨hc10, hF⟩ := ite_c hF
          refine q_iast C 3 0 rfl rfl (ix_in hc10) ([(o, .inr (8, [.int v_there, .int v_month, .int v_lost, .ref o_heads, .ref o_sides, .ref o_moods, .ref o_moults])), (o_heads, .inl (cI, 6, .inl v_heads)), (o_sides, .inl (cI, 6, .inl (upd v_sides (x3).toNatClampNeg ((1 : Int32) - (v_sides (x3).toNatClampNeg))))), (o_moods, .inl (cI, 6, .inl (upd v_moods (x3).toNatClampNeg ((v_moods (x3).toNatClampNeg) - x1)))), (o_moults, .inl (cI, 6, .inl v_moults))]) rfl dX8_readAloud_45 ?_
          refine q_goto (tgt := 55) C dX8_readAloud_46 (by decide) ?_
          refine q_iinc (v := (x3 + 1)) C ([(3, .int (x3 + 1)), (0, .ref o), (1, .int x1), (2, .int x2)]) dX8_readAloud_55 3 rfl rfl (by decide) rfl ?_
          refine q_goto (tgt := 8) C dX8_readAloud_58 (by decide) ?_
          cases hF
          refine q_lsel [1, 2, 3, 0] rfl ?_
          exact ih x1 x2 (x3 + 1) (upd v_sides (x3).toNatClampNeg ((1 : Int32) - (v_sides (x3).toNatClampNeg))) (upd v_moods (x3).toNatClampNeg ((v_moods (x3).toNatClampNeg) - x1)) z_sides z_moods (hn _ rfl) hk
  unfold f_Sea_readAloud at hF
  refine q_aload_n C dX8_readAloud_0 0 rfl rfl ?_
  refine q_iload_n C dX8_readAloud_1 1 rfl rfl ?_
  obtain ⟨r11, hc12, hF⟩ := bind_c hF
  refine q_roi (q_runV (As := [.int p1]) (rest := []) C (fun sz => c_X8_signers l dC dI cI cZ cQ o o_heads o_moods o_moults o_sides v_there v_month v_heads v_moods v_moults v_lost p1 r11 hc12 sz) (cwV 1 C.2.2.2.2.1 gX8_readAloud_X8_signers rfl rfl rfl (by decide +kernel) ⟨Nat.le_of_ble_eq_true rfl, Nat.le_of_ble_eq_true rfl⟩) 0 rfl rfl rfl [0, 1, 3, 4] rfl rfl rfl rfl (Nat.le_of_ble_eq_true rfl) dX8_readAloud_2 ⟨Nat.zero_le _, Nat.zero_le _⟩) ?_
  refine q_istore_n C ([(2, .int r11), (0, .ref o), (1, .int p1)]) dX8_readAloud_5 rfl (by decide) rfl ?_
  refine q_iconst (v := (0 : Int32)) C dX8_readAloud_6 (by decide) ?_
  refine q_istore_n C ([(3, .int (0 : Int32)), (2, .int r11), (0, .ref o), (1, .int p1)]) dX8_readAloud_7 rfl (by decide) rfl ?_
  obtain ⟨⟨z13_sides, z13_moods⟩, hc14, hF⟩ := bind_c hF
  dsimp only at hF
  obtain ⟨n15, hc14⟩ := (ev_iff _ _ _).mp hc14
  refine q_lsel [2, 3, 1, 0] rfl ?_
  refine L1 n15 p1 r11 (0 : Int32) v_sides v_moods z13_sides z13_moods hc14 ?_
  cases hF
  exact q_wretv C hr dX8_readAloud_61 hQ
set_option maxRecDepth 100000 in
set_option maxHeartbeats 4000000 in
theorem c_X8_perform (l : Launch) (dC : Nat → ClassId) (dI : Nat → Nat → Nat) (cI cZ cQ : ClassId) (o o_heads o_sides o_moods o_moults b1 b2 b2_words b2_clashes : Nat) (v_there : Int32) (v_month : Int32) (v_lost : Int32) (v_heads : Nat → Int32) (v_sides : Nat → Int32) (v_moods : Nat → Int32) (v_moults : Nat → Int32) (v_a1_kind : Int32) (v_a1_one : Int32) (v_a1_other : Int32) (v_a2_words : Nat → Int32) (w_there : Int32) (w_month : Int32) (w_lost : Int32) (w_heads : Nat → Int32) (w_sides : Nat → Int32) (w_moods : Nat → Int32) (hF : f_Sea_perform v_there v_month v_lost v_heads v_sides v_moods v_moults v_a1_kind v_a1_one v_a1_other v_a2_words = some (w_there, w_month, w_lost, w_heads, w_sides, w_moods)) (sz : Nat) : Met l yX8_perform wsX8_perform ({ frames := 4, cells := 0, slots := 0, locals := 88 } : Room) (qPc ([.ref o, .ref b1, .ref b2]) (dC, dI) (qT cI cZ cQ) ([(o, .inr (8, [.int v_there, .int v_month, .int v_lost, .ref o_heads, .ref o_sides, .ref o_moods, .ref o_moults])), (o_heads, .inl (cI, 6, .inl v_heads)), (o_sides, .inl (cI, 6, .inl v_sides)), (o_moods, .inl (cI, 6, .inl v_moods)), (o_moults, .inl (cI, 6, .inl v_moults)), (b1, .inr (0, [.int v_a1_kind, .int v_a1_one, .int v_a1_other])), (b2, .inr (9, [.ref b2_words, .ref b2_clashes])), (b2_words, .inl (cI, 10, .inl v_a2_words))]) sz) (qWv (dC, dI) ([(o, .inr (8, [.int w_there, .int w_month, .int w_lost, .ref o_heads, .ref o_sides, .ref o_moods, .ref o_moults])), (o_heads, .inl (cI, 6, .inl w_heads)), (o_sides, .inl (cI, 6, .inl w_sides)), (o_moods, .inl (cI, 6, .inl w_moods)), (o_moults, .inl (cI, 6, .inl v_moults)), (b1, .inr (0, [.int v_a1_kind, .int v_a1_one, .int v_a1_other])), (b2, .inr (9, [.ref b2_words, .ref b2_clashes])), (b2_words, .inl (cI, 10, .inl v_a2_words))]) (va_A ([(o, .inr (8, [.int v_there, .int v_month, .int v_lost, .ref o_heads, .ref o_sides, .ref o_moods, .ref o_moults])), (o_heads, .inl (cI, 6, .inl v_heads)), (o_sides, .inl (cI, 6, .inl v_sides)), (o_moods, .inl (cI, 6, .inl v_moods)), (o_moults, .inl (cI, 6, .inl v_moults)), (b1, .inr (0, [.int v_a1_kind, .int v_a1_one, .int v_a1_other])), (b2, .inr (9, [.ref b2_words, .ref b2_clashes])), (b2_words, .inl (cI, 10, .inl v_a2_words))]) sz)) 0 0 (va_A ([(o, .inr (8, [.int v_there, .int v_month, .int v_lost, .ref o_heads, .ref o_sides, .ref o_moods, .ref o_moults])), (o_heads, .inl (cI, 6, .inl v_heads)), (o_sides, .inl (cI, 6, .inl v_sides)), (o_moods, .inl (cI, 6, .inl v_moods)), (o_moults, .inl (cI, 6, .inl v_moults)), (b1, .inr (0, [.int v_a1_kind, .int v_a1_one, .int v_a1_other])), (b2, .inr (9, [.ref b2_words, .ref b2_clashes])), (b2_words, .inl (cI, 10, .inl v_a2_words))]) sz) := by
  refine q_met_w (Qc := fun A => qWv (dC, dI) ([(o, .inr (8, [.int w_there, .int w_month, .int w_lost, .ref o_heads, .ref o_sides, .ref o_moods, .ref o_moults])), (o_heads, .inl (cI, 6, .inl w_heads)), (o_sides, .inl (cI, 6, .inl w_sides)), (o_moods, .inl (cI, 6, .inl w_moods)), (o_moults, .inl (cI, 6, .inl v_moults)), (b1, .inr (0, [.int v_a1_kind, .int v_a1_one, .int v_a1_other])), (b2, .inr (9, [.ref b2_words, .ref b2_clashes])), (b2_words, .inl (cI, 10, .inl v_a2_words))]) A) (cc := cX8_perform) (own := RX8) (maxL := 3) (ret := none) (lv0 := [(0, .ref o), (1, .ref b1), (2, .ref b2)]) (by decide) rfl rfl rfl (Nat.le_of_ble_eq_true rfl) ?_
  intro p e s m args below meth c A hA C hr hnm Q hQ
  have lk0 : Cond.fieldLink RX8 49 "SealStrait$Act" "kind" "I" ∈ wsX8_perform := by decide +kernel
  have lk1 : ∀ w ∈ u_ws RX0 TX0 3, w ∈ wsX8_perform := fun w h => List.mem_cons_of_mem _ (List.mem_append_left _ (List.mem_append_left _ (List.mem_append_right _ h)))
  have lk2 : Cond.fieldLink RX8 54 "SealStrait$Act" "one" "I" ∈ wsX8_perform := by decide +kernel
  have lk3 : Cond.fieldLink RX8 72 "SealStrait$Act" "other" "I" ∈ wsX8_perform := by decide +kernel
  unfold f_Sea_perform at hF
  refine q_aload_n C dX8_perform_0 1 rfl rfl ?_
  refine q_get (C0 := RX0) (T := TX0) (N := 3) (k0 := 0) C lk1 5 rfl rfl (by decide) lk0 rfl (v := .int v_a1_kind) rfl dX8_perform_1 ?_
  by_cases c1 : v_a1_kind = (0 : Int32)
  · have hF := ite_t hF c1
    refine q_tab (tgt := 36) C dX8_perform_4 0 (by rw [c1]; decide) (by decide) (by decide) rfl (by decide) ?_
    refine q_aload_n C dX8_perform_36 0 rfl rfl ?_
    refine q_aload_n C dX8_perform_37 2 rfl rfl ?_
    refine q_aload_n C dX8_perform_38 1 rfl rfl ?_
    refine q_get (C0 := RX0) (T := TX0) (N := 3) (k0 := 1) C lk1 5 rfl rfl (by decide) lk2 rfl (v := .int v_a1_one) rfl dX8_perform_39 ?_
    obtain ⟨r2, hc3, hF⟩ := bind_c hF
    refine q_roi (q_runV (As := [.int v_a1_one]) (rest := [.ref o]) C (fun sz => c_X9_wordsOf l dC dI cI cZ cQ b2 b2_words b2_clashes v_a2_words v_a1_one r2 hc3 sz) (cwV 1 C.2.2.2.2.1 gX8_perform_X9_wordsOf rfl rfl rfl (by decide +kernel) ⟨Nat.le_of_ble_eq_true rfl, Nat.le_of_ble_eq_true rfl⟩) 6 rfl rfl rfl [6, 7] rfl rfl rfl rfl (Nat.le_of_ble_eq_true rfl) dX8_perform_42 ⟨Nat.zero_le _, Nat.zero_le _⟩) ?_
    obtain ⟨⟨u4_sides, u4_moods⟩, hc5, hF⟩ := bind_c hF
    dsimp only at hF
    refine q_rwv hA ([(o, .inr (8, [.int v_there, .int v_month, .int v_lost, .ref o_heads, .ref o_sides, .ref o_moods, .ref o_moults])), (o_heads, .inl (cI, 6, .inl v_heads)), (o_sides, .inl (cI, 6, .inl u4_sides)), (o_moods, .inl (cI, 6, .inl u4_moods)), (o_moults, .inl (cI, 6, .inl v_moults)), (b1, .inr (0, [.int v_a1_kind, .int v_a1_one, .int v_a1_other])), (b2, .inr (9, [.ref b2_words, .ref b2_clashes])), (b2_words, .inl (cI, 10, .inl v_a2_words))]) [0, 1, 2, 3, 4] [5, 6, 7] rfl rfl rfl (by decide) [3, 4, 5, 6, 7, 0, 1, 2] rfl rfl (q_runV (As := [.int r2]) (rest := []) C (fun sz => c_X8_readAloud l dC dI cI cZ cQ o o_heads o_sides o_moods o_moults v_there v_month v_heads v_sides v_moods v_moults v_lost r2 u4_sides u4_moods hc5 sz) (cwV 1 C.2.2.2.2.1 gX8_perform_X8_readAloud rfl rfl rfl (by decide +kernel) ⟨Nat.le_of_ble_eq_true rfl, Nat.le_of_ble_eq_true rfl⟩) 0 rfl rfl rfl [0, 1, 2, 3, 4] rfl rfl rfl rfl (Nat.le_of_ble_eq_true rfl) dX8_perform_45 ⟨Nat.zero_le _, Nat.zero_le _⟩) ?_
    refine q_goto (tgt := 93) C dX8_perform_48 (by decide) ?_
    cases hF
    exact q_wretv C hr dX8_perform_93 hQ
  · have hF := ite_f hF c1
    by_cases c6 : v_a1_kind = (1 : Int32)
    · have hF := ite_t hF c6
      refine q_tab (tgt := 51) C dX8_perform_4 1 (by rw [c6]; decide) (by decide) (by decide) rfl (by decide) ?_
      refine q_aload_n C dX8_perform_51 0 rfl rfl ?_
      refine q_aload_n C dX8_perform_52 1 rfl rfl ?_
      refine q_get (C0 := RX0) (T := TX0) (N := 3) (k0 := 1) C lk1 5 rfl rfl (by decide) lk2 rfl (v := .int v_a1_one) rfl dX8_perform_53 ?_
      refine q_iconst (v := (3 : Int32)) C dX8_perform_56 (by decide) ?_
      obtain ⟨u7_moods, hc8, hF⟩ := bind_c hF
      refine q_rwv hA ([(o, .inr (8, [.int v_there, .int v_month, .int v_lost, .ref o_heads, .ref o_sides, .ref o_moods, .ref o_moults])), (o_heads, .inl (cI, 6, .inl v_heads)), (o_sides, .inl (cI, 6, .inl v_sides)), (o_moods, .inl (cI, 6, .inl u7_moods)), (o_moults, .inl (cI, 6, .inl v_moults)), (b1, .inr (0, [.int v_a1_kind, .int v_a1_one, .int v_a1_other])), (b2, .inr (9, [.ref b2_words, .ref b2_clashes])), (b2_words, .inl (cI, 10, .inl v_a2_words))]) [0, 3] [1, 2, 4, 5, 6, 7] rfl rfl rfl (by decide) [6, 0, 1, 7, 2, 3, 4, 5] rfl rfl (q_runV (As := [.int v_a1_one, .int (3 : Int32)]) (rest := []) C (fun sz => c_X8_cheer l dC dI cI cZ cQ o o_moods o_heads o_sides o_moults v_there v_moods v_month v_lost v_a1_one (3 : Int32) u7_moods hc8 sz) (cwV 2 C.2.2.2.2.1 gX8_perform_X8_cheer rfl rfl rfl (by decide +kernel) ⟨Nat.le_of_ble_eq_true rfl, Nat.le_of_ble_eq_true rfl⟩) 0 rfl rfl rfl [0, 3] rfl rfl rfl rfl (Nat.le_of_ble_eq_true rfl) dX8_perform_57 ⟨Nat.zero_le _, Nat.zero_le _⟩) ?_
      refine q_goto (tgt := 93) C dX8_perform_60 (by decide) ?_
      cases hF
      exact q_wretv C hr dX8_perform_93 hQ
    · have hF := ite_f hF c6
      by_cases c9 : v_a1_kind = (2 : Int32)
      · have hF := ite_t hF c9
        refine q_tab (tgt := 63) C dX8_perform_4 2 (by rw [c9]; decide) (by decide) (by decide) rfl (by decide) ?_
        refine q_aload_n C dX8_perform_63 0 rfl rfl ?_
        refine q_aload_n C dX8_perform_64 1 rfl rfl ?_
        refine q_get (C0 := RX0) (T := TX0) (N := 3) (k0 := 1) C lk1 5 rfl rfl (by decide) lk2 rfl (v := .int v_a1_one) rfl dX8_perform_65 ?_
        obtain ⟨⟨u10_lost, u10_heads⟩, hc11, hF⟩ := bind_c hF
        dsimp only at hF
        refine q_rwv hA ([(o, .inr (8, [.int v_there, .int v_month, .int u10_lost, .ref o_heads, .ref o_sides, .ref o_moods, .ref o_moults])), (o_heads, .inl (cI, 6, .inl u10_heads)), (o_sides, .inl (cI, 6, .inl v_sides)), (o_moods, .inl (cI, 6, .inl v_moods)), (o_moults, .inl (cI, 6, .inl v_moults)), (b1, .inr (0, [.int v_a1_kind, .int v_a1_one, .int v_a1_other])), (b2, .inr (9, [.ref b2_words, .ref b2_clashes])), (b2_words, .inl (cI, 10, .inl v_a2_words))]) [0, 1] [2, 3, 4, 5, 6, 7] rfl rfl rfl (by decide) [6, 7, 0, 1, 2, 3, 4, 5] rfl rfl (q_runV (As := [.int v_a1_one]) (rest := []) C (fun sz => c_X8_takeNet l dC dI cI cZ cQ o o_heads o_sides o_moods o_moults v_there v_lost v_heads v_month v_a1_one u10_lost u10_heads hc11 sz) (cwV 1 C.2.2.2.2.1 gX8_perform_X8_takeNet rfl rfl rfl (by decide +kernel) ⟨Nat.le_of_ble_eq_true rfl, Nat.le_of_ble_eq_true rfl⟩) 0 rfl rfl rfl [0, 1] rfl rfl rfl rfl (Nat.le_of_ble_eq_true rfl) dX8_perform_68 ⟨Nat.zero_le _, Nat.zero_le _⟩) ?_
        refine q_goto (tgt := 93) C dX8_perform_71 (by decide) ?_
        cases hF
        exact q_wretv C hr dX8_perform_93 hQ
      · have hF := ite_f hF c9
        by_cases c12 : v_a1_kind = (3 : Int32)
        · have hF := ite_t hF c12
          refine q_tab (tgt := 74) C dX8_perform_4 3 (by rw [c12]; decide) (by decide) (by decide) rfl (by decide) ?_
          refine q_aload_n C dX8_perform_74 0 rfl rfl ?_
          refine q_aload_n C dX8_perform_75 1 rfl rfl ?_
          refine q_get (C0 := RX0) (T := TX0) (N := 3) (k0 := 1) C lk1 5 rfl rfl (by decide) lk2 rfl (v := .int v_a1_one) rfl dX8_perform_76 ?_
          refine q_aload_n C dX8_perform_79 1 rfl rfl ?_
          refine q_get (C0 := RX0) (T := TX0) (N := 3) (k0 := 2) C lk1 5 rfl rfl (by decide) lk3 rfl (v := .int v_a1_other) rfl dX8_perform_80 ?_
          obtain ⟨⟨u13_there, u13_heads⟩, hc14, hF⟩ := bind_c hF
          dsimp only at hF
          refine q_rwv hA ([(o, .inr (8, [.int u13_there, .int v_month, .int v_lost, .ref o_heads, .ref o_sides, .ref o_moods, .ref o_moults])), (o_heads, .inl (cI, 6, .inl u13_heads)), (o_sides, .inl (cI, 6, .inl v_sides)), (o_moods, .inl (cI, 6, .inl v_moods)), (o_moults, .inl (cI, 6, .inl v_moults)), (b1, .inr (0, [.int v_a1_kind, .int v_a1_one, .int v_a1_other])), (b2, .inr (9, [.ref b2_words, .ref b2_clashes])), (b2_words, .inl (cI, 10, .inl v_a2_words))]) [0, 1] [2, 3, 4, 5, 6, 7] rfl rfl rfl (by decide) [6, 7, 0, 1, 2, 3, 4, 5] rfl rfl (q_runV (As := [.int v_a1_one, .int v_a1_other]) (rest := []) C (fun sz => c_X8_joinTo l dC dI cI cZ cQ o o_heads o_sides o_moods o_moults v_there v_heads v_month v_lost v_a1_one v_a1_other u13_there u13_heads hc14 sz) (cwV 2 C.2.2.2.2.1 gX8_perform_X8_joinTo rfl rfl rfl (by decide +kernel) ⟨Nat.le_of_ble_eq_true rfl, Nat.le_of_ble_eq_true rfl⟩) 0 rfl rfl rfl [0, 1] rfl rfl rfl rfl (Nat.le_of_ble_eq_true rfl) dX8_perform_83 ⟨Nat.zero_le _, Nat.zero_le _⟩) ?_
          refine q_goto (tgt := 93) C dX8_perform_86 (by decide) ?_
          cases hF
          exact q_wretv C hr dX8_perform_93 hQ
        · have hF := ite_f hF c12
          refine q_tabD (tgt := 89) C dX8_perform_4 (by have c1t := lv_neT c1 (show (0 : Int32).toInt = 0 by decide); have c6t := lv_neT c6 (show (1 : Int32).toInt = 1 by decide); have c9t := lv_neT c9 (show (2 : Int32).toInt = 2 by decide); have c12t := lv_neT c12 (show (3 : Int32).toInt = 3 by decide); omega) (by decide) ?_
          refine q_aload_n C dX8_perform_89 0 rfl rfl ?_
          obtain ⟨⟨u15_month, u15_heads, u15_moods⟩, hc16, hF⟩ := bind_c hF
          dsimp only at hF
          refine q_rwv hA ([(o, .inr (8, [.int v_there, .int u15_month, .int v_lost, .ref o_heads, .ref o_sides, .ref o_moods, .ref o_moults])), (o_heads, .inl (cI, 6, .inl u15_heads)), (o_sides, .inl (cI, 6, .inl v_sides)), (o_moods, .inl (cI, 6, .inl u15_moods)), (o_moults, .inl (cI, 6, .inl v_moults)), (b1, .inr (0, [.int v_a1_kind, .int v_a1_one, .int v_a1_other])), (b2, .inr (9, [.ref b2_words, .ref b2_clashes])), (b2_words, .inl (cI, 10, .inl v_a2_words))]) [0, 1, 3, 4] [2, 5, 6, 7] rfl rfl rfl (by decide) [4, 5, 0, 6, 7, 1, 2, 3] rfl rfl (q_runV (As := []) (rest := []) C (fun sz => c_X8_passMonth l dC dI cI cZ cQ o o_heads o_moods o_moults o_sides v_there v_month v_heads v_moods v_moults v_lost u15_month u15_heads u15_moods hc16 sz) (cwV 0 C.2.2.2.2.1 gX8_perform_X8_passMonth rfl rfl rfl (by decide +kernel) ⟨Nat.le_of_ble_eq_true rfl, Nat.le_of_ble_eq_true rfl⟩) 0 rfl rfl rfl [0, 1, 3, 4] rfl rfl rfl rfl (Nat.le_of_ble_eq_true rfl) dX8_perform_90 ⟨Nat.zero_le _, Nat.zero_le _⟩) ?_
          cases hF
          exact q_wretv C hr dX8_perform_93 hQ
set_option maxRecDepth 100000 in
set_option maxHeartbeats 4000000 in
theorem c_X9_copyFrom (l : Launch) (dC : Nat → ClassId) (dI : Nat → Nat → Nat) (cI cZ cQ : ClassId) (o o_words o_clashes b1 b1_words b1_clashes : Nat) (v_words : Nat → Int32) (v_clashes : Nat → Int32) (v_a1_words : Nat → Int32) (v_a1_clashes : Nat → Int32) (w_words : Nat → Int32) (w_clashes : Nat → Int32) (hF : f_Treaty_copyFrom v_words v_clashes v_a1_words v_a1_clashes = some (w_words, w_clashes)) (sz : Nat) : Met l yX9_copyFrom wsX9_copyFrom ({ frames := 0, cells := 0, slots := 0, locals := 0 } : Room) (qPc ([.ref o, .ref b1]) (dC, dI) (qT cI cZ cQ) ([(o, .inr (9, [.ref o_words, .ref o_clashes])), (o_words, .inl (cI, 10, .inl v_words)), (o_clashes, .inl (cI, 10, .inl v_clashes)), (b1, .inr (9, [.ref b1_words, .ref b1_clashes])), (b1_words, .inl (cI, 10, .inl v_a1_words)), (b1_clashes, .inl (cI, 10, .inl v_a1_clashes))]) sz) (qWv (dC, dI) ([(o, .inr (9, [.ref o_words, .ref o_clashes])), (o_words, .inl (cI, 10, .inl w_words)), (o_clashes, .inl (cI, 10, .inl w_clashes)), (b1, .inr (9, [.ref b1_words, .ref b1_clashes])), (b1_words, .inl (cI, 10, .inl v_a1_words)), (b1_clashes, .inl (cI, 10, .inl v_a1_clashes))]) (va_A ([(o, .inr (9, [.ref o_words, .ref o_clashes])), (o_words, .inl (cI, 10, .inl v_words)), (o_clashes, .inl (cI, 10, .inl v_clashes)), (b1, .inr (9, [.ref b1_words, .ref b1_clashes])), (b1_words, .inl (cI, 10, .inl v_a1_words)), (b1_clashes, .inl (cI, 10, .inl v_a1_clashes))]) sz)) 0 0 (va_A ([(o, .inr (9, [.ref o_words, .ref o_clashes])), (o_words, .inl (cI, 10, .inl v_words)), (o_clashes, .inl (cI, 10, .inl v_clashes)), (b1, .inr (9, [.ref b1_words, .ref b1_clashes])), (b1_words, .inl (cI, 10, .inl v_a1_words)), (b1_clashes, .inl (cI, 10, .inl v_a1_clashes))]) sz) := by
  refine q_met_w (Qc := fun A => qWv (dC, dI) ([(o, .inr (9, [.ref o_words, .ref o_clashes])), (o_words, .inl (cI, 10, .inl w_words)), (o_clashes, .inl (cI, 10, .inl w_clashes)), (b1, .inr (9, [.ref b1_words, .ref b1_clashes])), (b1_words, .inl (cI, 10, .inl v_a1_words)), (b1_clashes, .inl (cI, 10, .inl v_a1_clashes))]) A) (cc := cX9_copyFrom) (own := RX9) (maxL := 3) (ret := none) (lv0 := [(0, .ref o), (1, .ref b1)]) (by decide) rfl rfl rfl (Nat.le_of_ble_eq_true rfl) ?_
  intro p e s m args below meth c A hA C hr hnm Q hQ
  have lk0 : Cond.fieldLink RX9 9 "SealStrait$Treaty" "words" "[I" ∈ wsX9_copyFrom := by decide +kernel
  have lk1 : ∀ w ∈ u_ws RX9 TX9 2, w ∈ wsX9_copyFrom := fun w h => List.mem_cons_of_mem _ (List.mem_append_right _ h)
  have lk2 : Cond.fieldLink RX9 15 "SealStrait$Treaty" "clashes" "[I" ∈ wsX9_copyFrom := by decide +kernel
  have L1 : ∀ (n : Nat) (x2 : Int32) (v_words : Nat → Int32) (v_clashes : Nat → Int32) (z_words : Nat → Int32) (z_clashes : Nat → Int32), evr (fun s => b_Treaty_copyFrom_1 v_a1_words v_a1_clashes s.1 s.2.1 s.2.2) n (x2, v_words, v_clashes) = some (z_words, z_clashes) → qG p l e ({ frames := 0, cells := 0, slots := 0, locals := 0 } : Room) s m args below meth c 3 (dC, dI) A A Q 0 0 ([]) [] ([(o, .inr (9, [.ref o_words, .ref o_clashes])), (o_words, .inl (cI, 10, .inl z_words)), (o_clashes, .inl (cI, 10, .inl z_clashes)), (b1, .inr (9, [.ref b1_words, .ref b1_clashes])), (b1_words, .inl (cI, 10, .inl v_a1_words)), (b1_clashes, .inl (cI, 10, .inl v_a1_clashes))]) 38 → qG p l e ({ frames := 0, cells := 0, slots := 0, locals := 0 } : Room) s m args below meth c 3 (dC, dI) A A Q 0 0 ([(0, .ref o), (1, .ref b1), (2, .int x2)]) [] ([(o, .inr (9, [.ref o_words, .ref o_clashes])), (o_words, .inl (cI, 10, .inl v_words)), (o_clashes, .inl (cI, 10, .inl v_clashes)), (b1, .inr (9, [.ref b1_words, .ref b1_clashes])), (b1_words, .inl (cI, 10, .inl v_a1_words)), (b1_clashes, .inl (cI, 10, .inl v_a1_clashes))]) 2 := by
    clear hF
    intro n
    induction n with
    | zero => intro x2 v_words v_clashes z_words z_clashes hF; exact (evr_0 hF).elim
    | succ n ih =>
      intro x2 v_words v_clashes z_words z_clashes hF hk
      obtain ⟨o9, hB, hn, hx⟩ := evr_c hF
      have hF : b_Treaty_copyFrom_1 v_a1_words v_a1_clashes x2 v_words v_clashes = some o9 := hB
      unfold b_Treaty_copyFrom_1 at hF
      refine q_iload_n C dX9_copyFrom_2 2 rfl rfl ?_
      refine q_bipush (v := (10 : Int32)) C dX9_copyFrom_3 (by decide) ?_
      refine q_icmp_ge (tgt := 38) C dX9_copyFrom_5 (by decide) (fun c1 => ?_) (fun c1 => ?_)
      · have hF := ite_t hF c1
        cases hF
        have e2 := hx _ rfl
        cases e2
        refine q_lsel [] rfl ?_
        exact hk
      · have hF := ite_f hF c1
        refine q_aload_n C dX9_copyFrom_8 0 rfl rfl ?_
        refine q_get (C0 := RX9) (T := TX9) (N := 2) (k0 := 0) C lk1 0 rfl rfl (by decide) lk0 rfl (v := .ref o_words) rfl dX9_copyFrom_9 ?_
        refine q_iload_n C dX9_copyFrom_12 2 rfl rfl ?_
        refine q_aload_n C dX9_copyFrom_13 1 rfl rfl ?_
        refine q_get (C0 := RX9) (T := TX9) (N := 2) (k0 := 0) C lk1 3 rfl rfl (by decide) lk0 rfl (v := .ref b1_words) rfl dX9_copyFrom_14 ?_
        refine q_iload_n C dX9_copyFrom_17 2 rfl rfl ?_
        obtain ⟨hc3, hF⟩ := ite_c hF
        refine q_iald C 4 0 rfl rfl (ix_in hc3) dX9_copyFrom_18 ?_
        obtain ⟨hc4, hF⟩ := ite_c hF
        refine q_iast C 1 0 rfl rfl (ix_in hc4) ([(o, .inr (9, [.ref o_words, .ref o_clashes])), (o_words, .inl (cI, 10, .inl (upd v_words (x2).toNatClampNeg (v_a1_words (x2).toNatClampNeg)))), (o_clashes, .inl (cI, 10, .inl v_clashes)), (b1, .inr (9, [.ref b1_words, .ref b1_clashes])), (b1_words, .inl (cI, 10, .inl v_a1_words)), (b1_clashes, .inl (cI, 10, .inl v_a1_clashes))]) rfl dX9_copyFrom_19 ?_
        refine q_aload_n C dX9_copyFrom_20 0 rfl rfl ?_
        refine q_get (C0 := RX9) (T := TX9) (N := 2) (k0 := 1) C lk1 0 rfl rfl (by decide) lk2 rfl (v := .ref o_clashes) rfl dX9_copyFrom_21 ?_
        refine q_iload_n C dX9_copyFrom_24 2 rfl rfl ?_
        refine q_aload_n C dX9_copyFrom_25 1 rfl rfl ?_
        refine q_get (C0 := RX9) (T := TX9) (N := 2) (k0 := 1) C lk1 3 rfl rfl (by decide) lk2 rfl (v := .ref b1_clashes) rfl dX9_copyFrom_26 ?_
        refine q_iload_n C dX9_copyFrom_29 2 rfl rfl ?_
        obtain ⟨hc5, hF⟩ := ite_c hF
        refine q_iald C 5 0 rfl rfl (ix_in hc5) dX9_copyFrom_30 ?_
        obtain ⟨hc6, hF⟩ := ite_c hF
        refine q_iast C 2 0 rfl rfl (ix_in hc6) ([(o, .inr (9, [.ref o_words, .ref o_clashes])), (o_words, .inl (cI, 10, .inl (upd v_words (x2).toNatClampNeg (v_a1_words (x2).toNatClampNeg)))), (o_clashes, .inl (cI, 10, .inl (upd v_clashes (x2).toNatClampNeg (v_a1_clashes (x2).toNatClampNeg)))), (b1, .inr (9, [.ref b1_words, .ref b1_clashes])), (b1_words, .inl (cI, 10, .inl v_a1_words)), (b1_clashes, .inl (cI, 10, .inl v_a1_clashes))]) rfl dX9_copyFrom_31 ?_
        refine q_iinc (v := (x2 + 1)) C ([(2, .int (x2 + 1)), (0, .ref o), (1, .ref b1)]) dX9_copyFrom_32 2 rfl rfl (by decide) rfl ?_
        refine q_goto (tgt := 2) C dX9_copyFrom_35 (by decide) ?_
        cases hF
        refine q_lsel [1, 2, 0] rfl ?_
        exact ih (x2 + 1) (upd v_words (x2).toNatClampNeg (v_a1_words (x2).toNatClampNeg)) (upd v_clashes (x2).toNatClampNeg (v_a1_clashes (x2).toNatClampNeg)) z_words z_clashes (hn _ rfl) hk
  unfold f_Treaty_copyFrom at hF
  refine q_iconst (v := (0 : Int32)) C dX9_copyFrom_0 (by decide) ?_
  refine q_istore_n C ([(2, .int (0 : Int32)), (0, .ref o), (1, .ref b1)]) dX9_copyFrom_1 rfl (by decide) rfl ?_
  obtain ⟨⟨z7_words, z7_clashes⟩, hc8, hF⟩ := bind_c hF
  dsimp only at hF
  obtain ⟨n9, hc8⟩ := (ev_iff _ _ _).mp hc8
  refine q_lsel [1, 2, 0] rfl ?_
  refine L1 n9 (0 : Int32) v_words v_clashes z7_words z7_clashes hc8 ?_
  cases hF
  exact q_wretv C hr dX9_copyFrom_38 hQ
set_option maxRecDepth 100000 in
set_option maxHeartbeats 4000000 in
theorem c_X9_setClash (l : Launch) (dC : Nat → ClassId) (dI : Nat → Nat → Nat) (cI cZ cQ : ClassId) (o o_clashes o_words : Nat) (v_clashes : Nat → Int32) (p1 : Int32) (p2 : Int32) (p3 : Int32) (w_clashes : Nat → Int32) (hF : f_Treaty_setClash v_clashes p1 p2 p3 = some w_clashes) (sz : Nat) : Met l yX9_setClash wsX9_setClash ({ frames := 1, cells := 0, slots := 0, locals := 22 } : Room) (qPc ([.ref o, .int p1, .int p2, .int p3]) (dC, dI) (qT cI cZ cQ) ([(o, .inr (9, [.ref o_words, .ref o_clashes])), (o_clashes, .inl (cI, 10, .inl v_clashes))]) sz) (qWv (dC, dI) ([(o, .inr (9, [.ref o_words, .ref o_clashes])), (o_clashes, .inl (cI, 10, .inl w_clashes))]) (va_A ([(o, .inr (9, [.ref o_words, .ref o_clashes])), (o_clashes, .inl (cI, 10, .inl v_clashes))]) sz)) 0 0 (va_A ([(o, .inr (9, [.ref o_words, .ref o_clashes])), (o_clashes, .inl (cI, 10, .inl v_clashes))]) sz) := by
  refine q_met_w (Qc := fun A => qWv (dC, dI) ([(o, .inr (9, [.ref o_words, .ref o_clashes])), (o_clashes, .inl (cI, 10, .inl w_clashes))]) A) (cc := cX9_setClash) (own := RX9) (maxL := 4) (ret := none) (lv0 := [(0, .ref o), (1, .int p1), (2, .int p2), (3, .int p3)]) (by decide) rfl rfl rfl (Nat.le_of_ble_eq_true rfl) ?_
  intro p e s m args below meth c A hA C hr hnm Q hQ
  have lk0 : Cond.initialized RX11 ∈ wsX9_setClash := by decide +kernel
  have lk1 : Cond.static yX11_within ∈ wsX9_setClash := by decide +kernel
  have lk2 : (RX9, 24, yX11_within) ∈ qNest := by decide +kernel
  have lk3 : Cond.fieldLink RX9 15 "SealStrait$Treaty" "clashes" "[I" ∈ wsX9_setClash := by decide +kernel
  have lk4 : ∀ w ∈ u_ws RX9 TX9 2, w ∈ wsX9_setClash := fun w h => List.mem_cons_of_mem _ (List.mem_append_right _ h)
  unfold f_Treaty_setClash at hF
  refine q_iload_n C dX9_setClash_0 1 rfl rfl ?_
  refine q_iconst (v := (0 : Int32)) C dX9_setClash_1 (by decide) ?_
  refine q_bipush (v := (9 : Int32)) C dX9_setClash_2 (by decide) ?_
  refine q_roz (q_runSN (As := [.int p1, .int (0 : Int32), .int (9 : Int32)]) (rest := []) (n := 3) C (fun sz => c_X11_within l dC dI cI cZ cQ p1 (0 : Int32) (9 : Int32) (f_Strait_within p1 (0 : Int32) (9 : Int32)) rfl sz) gX9_setClash_X11_within_n24 rfl rfl rfl lk2 lk0 lk1 (by decide +kernel) ⟨Nat.le_of_ble_eq_true rfl, Nat.le_of_ble_eq_true rfl⟩ [] rfl rfl rfl rfl (Nat.le_of_ble_eq_true rfl) dX9_setClash_4 ⟨Nat.zero_le _, Nat.zero_le _⟩) (fun hz1 => ?_)
  refine q_if_ne (tgt := 11) C dX9_setClash_7 (by decide) (fun c2 => ?_) (fun c2 => ?_)
  · have hF := ite_f hF c2
    refine q_iload_n C dX9_setClash_11 3 rfl rfl ?_
    refine q_if_eq (tgt := 30) C dX9_setClash_12 (by decide) (fun c3 => ?_) (fun c3 => ?_)
    · have hF := ite_t hF c3
      refine q_aload_n C dX9_setClash_30 0 rfl rfl ?_
      refine q_get (C0 := RX9) (T := TX9) (N := 2) (k0 := 1) C lk4 0 rfl rfl (by decide) lk3 rfl (v := .ref o_clashes) rfl dX9_setClash_31 ?_
      refine q_iload_n C dX9_setClash_34 1 rfl rfl ?_
      refine q_dup2 C dX9_setClash_35 rfl rfl ?_
      obtain ⟨hc4, hF⟩ := ite_c hF
      refine q_iald C 1 0 rfl rfl (ix_in hc4) dX9_setClash_36 ?_
      refine q_iconst (v := (1 : Int32)) C dX9_setClash_37 (by decide) ?_
      refine q_iload_n C dX9_setClash_38 2 rfl rfl ?_
      refine q_ishl C dX9_setClash_39 ?_
      refine q_iconst (v := (-1 : Int32)) C dX9_setClash_40 (by decide) ?_
      refine q_ixor C dX9_setClash_41 ?_
      refine q_iand C dX9_setClash_42 ?_
      obtain ⟨hc5, hF⟩ := ite_c hF
      refine q_iast C 1 0 rfl rfl (ix_in hc5) ([(o, .inr (9, [.ref o_words, .ref o_clashes])), (o_clashes, .inl (cI, 10, .inl (upd v_clashes (p1).toNatClampNeg ((v_clashes (p1).toNatClampNeg) &&& (((1 : Int32) <<< (p2 &&& 31)) ^^^ (-1 : Int32))))))]) rfl dX9_setClash_43 ?_
      cases hF
      exact q_wretv C hr dX9_setClash_44 hQ
    · have hF := ite_f hF c3
      refine q_aload_n C dX9_setClash_15 0 rfl rfl ?_
      refine q_get (C0 := RX9) (T := TX9) (N := 2) (k0 := 1) C lk4 0 rfl rfl (by decide) lk3 rfl (v := .ref o_clashes) rfl dX9_setClash_16 ?_
      refine q_iload_n C dX9_setClash_19 1 rfl rfl ?_
      refine q_dup2 C dX9_setClash_20 rfl rfl ?_
      obtain ⟨hc6, hF⟩ := ite_c hF
      refine q_iald C 1 0 rfl rfl (ix_in hc6) dX9_setClash_21 ?_
      refine q_iconst (v := (1 : Int32)) C dX9_setClash_22 (by decide) ?_
      refine q_iload_n C dX9_setClash_23 2 rfl rfl ?_
      refine q_ishl C dX9_setClash_24 ?_
      refine q_ior C dX9_setClash_25 ?_
      obtain ⟨hc7, hF⟩ := ite_c hF
      refine q_iast C 1 0 rfl rfl (ix_in hc7) ([(o, .inr (9, [.ref o_words, .ref o_clashes])), (o_clashes, .inl (cI, 10, .inl (upd v_clashes (p1).toNatClampNeg ((v_clashes (p1).toNatClampNeg) ||| ((1 : Int32) <<< (p2 &&& 31))))))]) rfl dX9_setClash_26 ?_
      refine q_goto (tgt := 44) C dX9_setClash_27 (by decide) ?_
      cases hF
      exact q_wretv C hr dX9_setClash_44 hQ
  · have hF := ite_t hF c2
    cases hF
    exact q_wretv C hr dX9_setClash_10 hQ
set_option maxRecDepth 100000 in
set_option maxHeartbeats 4000000 in
theorem c_J6_bitCount_0f7a4 (l : Launch) (dC : Nat → ClassId) (dI : Nat → Nat → Nat) (cI cZ cQ : ClassId) (p1 : Int32) (R : Int32) (hF : f_Integer_bitCount p1 = R) (sz : Nat) : Met l yJ6_bitCount_0f7a4 wsJ6_bitCount_0f7a4 ({ frames := 0, cells := 0, slots := 0, locals := 0 } : Room) (qPc ([.int p1]) (dC, dI) (qT cI cZ cQ) ([]) sz) (qRi R) 0 0 (fun _ => False) := by
  refine q_met_r (cc := cJ6_bitCount_0f7a4) (own := RJ6) (maxL := 1) (ret := (some .int)) (lv0 := [(0, .int p1)]) (by decide) rfl rfl rfl (Nat.le_of_ble_eq_true rfl) ?_
  intro p e s m args below meth c C hr A A' Q hA0 hQ
  have lk0 : Cond.constant RJ6 265 (1431655765 : Int32) ∈ wsJ6_bitCount_0f7a4 := by decide +kernel
  have lk1 : Cond.constant RJ6 266 (858993459 : Int32) ∈ wsJ6_bitCount_0f7a4 := by decide +kernel
  have lk2 : Cond.constant RJ6 267 (252645135 : Int32) ∈ wsJ6_bitCount_0f7a4 := by decide +kernel
  unfold f_Integer_bitCount at hF
  refine q_iload_n C dJ6_bitCount_0f7a4_0 0 rfl rfl ?_
  refine q_iload_n C dJ6_bitCount_0f7a4_1 0 rfl rfl ?_
  refine q_iconst (v := (1 : Int32)) C dJ6_bitCount_0f7a4_2 (by decide) ?_
  refine q_iushr C dJ6_bitCount_0f7a4_3 ?_
  refine q_ldcw (v := (1431655765 : Int32)) C lk0 dJ6_bitCount_0f7a4_4 ?_
  refine q_iand C dJ6_bitCount_0f7a4_7 ?_
  refine q_isub C dJ6_bitCount_0f7a4_8 ?_
  refine q_istore_n C ([(0, .int (p1 - ((((p1).toUInt32 >>> (((1 : Int32)).toUInt32 &&& Int32.toUInt32 31)).toInt32) &&& (1431655765 : Int32))))]) dJ6_bitCount_0f7a4_9 rfl (by decide) rfl ?_
  refine q_iload_n C dJ6_bitCount_0f7a4_10 0 rfl rfl ?_
  refine q_ldcw (v := (858993459 : Int32)) C lk1 dJ6_bitCount_0f7a4_11 ?_
  refine q_iand C dJ6_bitCount_0f7a4_14 ?_
  refine q_iload_n C dJ6_bitCount_0f7a4_15 0 rfl rfl ?_
  refine q_iconst (v := (2 : Int32)) C dJ6_bitCount_0f7a4_16 (by decide) ?_
  refine q_iushr C dJ6_bitCount_0f7a4_17 ?_
  refine q_ldcw (v := (858993459 : Int32)) C lk1 dJ6_bitCount_0f7a4_18 ?_
  refine q_iand C dJ6_bitCount_0f7a4_21 ?_
  refine q_iadd C dJ6_bitCount_0f7a4_22 ?_
  refine q_istore_n C ([(0, .int (((p1 - ((((p1).toUInt32 >>> (((1 : Int32)).toUInt32 &&& Int32.toUInt32 31)).toInt32) &&& (1431655765 : Int32))) &&& (858993459 : Int32)) + (((((p1 - ((((p1).toUInt32 >>> (((1 : Int32)).toUInt32 &&& Int32.toUInt32 31)).toInt32) &&& (1431655765 : Int32)))).toUInt32 >>> (((2 : Int32)).toUInt32 &&& Int32.toUInt32 31)).toInt32) &&& (858993459 : Int32))))]) dJ6_bitCount_0f7a4_23 rfl (by decide) rfl ?_
  refine q_iload_n C dJ6_bitCount_0f7a4_24 0 rfl rfl ?_
  refine q_iload_n C dJ6_bitCount_0f7a4_25 0 rfl rfl ?_
  refine q_iconst (v := (4 : Int32)) C dJ6_bitCount_0f7a4_26 (by decide) ?_
  refine q_iushr C dJ6_bitCount_0f7a4_27 ?_
  refine q_iadd C dJ6_bitCount_0f7a4_28 ?_
  refine q_ldcw (v := (252645135 : Int32)) C lk2 dJ6_bitCount_0f7a4_29 ?_
  refine q_iand C dJ6_bitCount_0f7a4_32 ?_
  refine q_istore_n C ([(0, .int (((((p1 - ((((p1).toUInt32 >>> (((1 : Int32)).toUInt32 &&& Int32.toUInt32 31)).toInt32) &&& (1431655765 : Int32))) &&& (858993459 : Int32)) + (((((p1 - ((((p1).toUInt32 >>> (((1 : Int32)).toUInt32 &&& Int32.toUInt32 31)).toInt32) &&& (1431655765 : Int32)))).toUInt32 >>> (((2 : Int32)).toUInt32 &&& Int32.toUInt32 31)).toInt32) &&& (858993459 : Int32))) + ((((((p1 - ((((p1).toUInt32 >>> (((1 : Int32)).toUInt32 &&& Int32.toUInt32 31)).toInt32) &&& (1431655765 : Int32))) &&& (858993459 : Int32)) + (((((p1 - ((((p1).toUInt32 >>> (((1 : Int32)).toUInt32 &&& Int32.toUInt32 31)).toInt32) &&& (1431655765 : Int32)))).toUInt32 >>> (((2 : Int32)).toUInt32 &&& Int32.toUInt32 31)).toInt32) &&& (858993459 : Int32)))).toUInt32 >>> (((4 : Int32)).toUInt32 &&& Int32.toUInt32 31)).toInt32)) &&& (252645135 : Int32)))]) dJ6_bitCount_0f7a4_33 rfl (by decide) rfl ?_
  refine q_iload_n C dJ6_bitCount_0f7a4_34 0 rfl rfl ?_
  refine q_iload_n C dJ6_bitCount_0f7a4_35 0 rfl rfl ?_
  refine q_bipush (v := (8 : Int32)) C dJ6_bitCount_0f7a4_36 (by decide) ?_
  refine q_iushr C dJ6_bitCount_0f7a4_38 ?_
  refine q_iadd C dJ6_bitCount_0f7a4_39 ?_
  refine q_istore_n C ([(0, .int ((((((p1 - ((((p1).toUInt32 >>> (((1 : Int32)).toUInt32 &&& Int32.toUInt32 31)).toInt32) &&& (1431655765 : Int32))) &&& (858993459 : Int32)) + (((((p1 - ((((p1).toUInt32 >>> (((1 : Int32)).toUInt32 &&& Int32.toUInt32 31)).toInt32) &&& (1431655765 : Int32)))).toUInt32 >>> (((2 : Int32)).toUInt32 &&& Int32.toUInt32 31)).toInt32) &&& (858993459 : Int32))) + ((((((p1 - ((((p1).toUInt32 >>> (((1 : Int32)).toUInt32 &&& Int32.toUInt32 31)).toInt32) &&& (1431655765 : Int32))) &&& (858993459 : Int32)) + (((((p1 - ((((p1).toUInt32 >>> (((1 : Int32)).toUInt32 &&& Int32.toUInt32 31)).toInt32) &&& (1431655765 : Int32)))).toUInt32 >>> (((2 : Int32)).toUInt32 &&& Int32.toUInt32 31)).toInt32) &&& (858993459 : Int32)))).toUInt32 >>> (((4 : Int32)).toUInt32 &&& Int32.toUInt32 31)).toInt32)) &&& (252645135 : Int32)) + ((((((((p1 - ((((p1).toUInt32 >>> (((1 : Int32)).toUInt32 &&& Int32.toUInt32 31)).toInt32) &&& (1431655765 : Int32))) &&& (858993459 : Int32)) + (((((p1 - ((((p1).toUInt32 >>> (((1 : Int32)).toUInt32 &&& Int32.toUInt32 31)).toInt32) &&& (1431655765 : Int32)))).toUInt32 >>> (((2 : Int32)).toUInt32 &&& Int32.toUInt32 31)).toInt32) &&& (858993459 : Int32))) + ((((((p1 - ((((p1).toUInt32 >>> (((1 : Int32)).toUInt32 &&& Int32.toUInt32 31)).toInt32) &&& (1431655765 : Int32))) &&& (858993459 : Int32)) + (((((p1 - ((((p1).toUInt32 >>> (((1 : Int32)).toUInt32 &&& Int32.toUInt32 31)).toInt32) &&& (1431655765 : Int32)))).toUInt32 >>> (((2 : Int32)).toUInt32 &&& Int32.toUInt32 31)).toInt32) &&& (858993459 : Int32)))).toUInt32 >>> (((4 : Int32)).toUInt32 &&& Int32.toUInt32 31)).toInt32)) &&& (252645135 : Int32))).toUInt32 >>> (((8 : Int32)).toUInt32 &&& Int32.toUInt32 31)).toInt32)))]) dJ6_bitCount_0f7a4_40 rfl (by decide) rfl ?_
  refine q_iload_n C dJ6_bitCount_0f7a4_41 0 rfl rfl ?_
  refine q_iload_n C dJ6_bitCount_0f7a4_42 0 rfl rfl ?_
  refine q_bipush (v := (16 : Int32)) C dJ6_bitCount_0f7a4_43 (by decide) ?_
  refine q_iushr C dJ6_bitCount_0f7a4_45 ?_
  refine q_iadd C dJ6_bitCount_0f7a4_46 ?_
  refine q_istore_n C ([(0, .int (((((((p1 - ((((p1).toUInt32 >>> (((1 : Int32)).toUInt32 &&& Int32.toUInt32 31)).toInt32) &&& (1431655765 : Int32))) &&& (858993459 : Int32)) + (((((p1 - ((((p1).toUInt32 >>> (((1 : Int32)).toUInt32 &&& Int32.toUInt32 31)).toInt32) &&& (1431655765 : Int32)))).toUInt32 >>> (((2 : Int32)).toUInt32 &&& Int32.toUInt32 31)).toInt32) &&& (858993459 : Int32))) + ((((((p1 - ((((p1).toUInt32 >>> (((1 : Int32)).toUInt32 &&& Int32.toUInt32 31)).toInt32) &&& (1431655765 : Int32))) &&& (858993459 : Int32)) + (((((p1 - ((((p1).toUInt32 >>> (((1 : Int32)).toUInt32 &&& Int32.toUInt32 31)).toInt32) &&& (1431655765 : Int32)))).toUInt32 >>> (((2 : Int32)).toUInt32 &&& Int32.toUInt32 31)).toInt32) &&& (858993459 : Int32)))).toUInt32 >>> (((4 : Int32)).toUInt32 &&& Int32.toUInt32 31)).toInt32)) &&& (252645135 : Int32)) + ((((((((p1 - ((((p1).toUInt32 >>> (((1 : Int32)).toUInt32 &&& Int32.toUInt32 31)).toInt32) &&& (1431655765 : Int32))) &&& (858993459 : Int32)) + (((((p1 - ((((p1).toUInt32 >>> (((1 : Int32)).toUInt32 &&& Int32.toUInt32 31)).toInt32) &&& (1431655765 : Int32)))).toUInt32 >>> (((2 : Int32)).toUInt32 &&& Int32.toUInt32 31)).toInt32) &&& (858993459 : Int32))) + ((((((p1 - ((((p1).toUInt32 >>> (((1 : Int32)).toUInt32 &&& Int32.toUInt32 31)).toInt32) &&& (1431655765 : Int32))) &&& (858993459 : Int32)) + (((((p1 - ((((p1).toUInt32 >>> (((1 : Int32)).toUInt32 &&& Int32.toUInt32 31)).toInt32) &&& (1431655765 : Int32)))).toUInt32 >>> (((2 : Int32)).toUInt32 &&& Int32.toUInt32 31)).toInt32) &&& (858993459 : Int32)))).toUInt32 >>> (((4 : Int32)).toUInt32 &&& Int32.toUInt32 31)).toInt32)) &&& (252645135 : Int32))).toUInt32 >>> (((8 : Int32)).toUInt32 &&& Int32.toUInt32 31)).toInt32)) + (((((((((p1 - ((((p1).toUInt32 >>> (((1 : Int32)).toUInt32 &&& Int32.toUInt32 31)).toInt32) &&& (1431655765 : Int32))) &&& (858993459 : Int32)) + (((((p1 - ((((p1).toUInt32 >>> (((1 : Int32)).toUInt32 &&& Int32.toUInt32 31)).toInt32) &&& (1431655765 : Int32)))).toUInt32 >>> (((2 : Int32)).toUInt32 &&& Int32.toUInt32 31)).toInt32) &&& (858993459 : Int32))) + ((((((p1 - ((((p1).toUInt32 >>> (((1 : Int32)).toUInt32 &&& Int32.toUInt32 31)).toInt32) &&& (1431655765 : Int32))) &&& (858993459 : Int32)) + (((((p1 - ((((p1).toUInt32 >>> (((1 : Int32)).toUInt32 &&& Int32.toUInt32 31)).toInt32) &&& (1431655765 : Int32)))).toUInt32 >>> (((2 : Int32)).toUInt32 &&& Int32.toUInt32 31)).toInt32) &&& (858993459 : Int32)))).toUInt32 >>> (((4 : Int32)).toUInt32 &&& Int32.toUInt32 31)).toInt32)) &&& (252645135 : Int32)) + ((((((((p1 - ((((p1).toUInt32 >>> (((1 : Int32)).toUInt32 &&& Int32.toUInt32 31)).toInt32) &&& (1431655765 : Int32))) &&& (858993459 : Int32)) + (((((p1 - ((((p1).toUInt32 >>> (((1 : Int32)).toUInt32 &&& Int32.toUInt32 31)).toInt32) &&& (1431655765 : Int32)))).toUInt32 >>> (((2 : Int32)).toUInt32 &&& Int32.toUInt32 31)).toInt32) &&& (858993459 : Int32))) + ((((((p1 - ((((p1).toUInt32 >>> (((1 : Int32)).toUInt32 &&& Int32.toUInt32 31)).toInt32) &&& (1431655765 : Int32))) &&& (858993459 : Int32)) + (((((p1 - ((((p1).toUInt32 >>> (((1 : Int32)).toUInt32 &&& Int32.toUInt32 31)).toInt32) &&& (1431655765 : Int32)))).toUInt32 >>> (((2 : Int32)).toUInt32 &&& Int32.toUInt32 31)).toInt32) &&& (858993459 : Int32)))).toUInt32 >>> (((4 : Int32)).toUInt32 &&& Int32.toUInt32 31)).toInt32)) &&& (252645135 : Int32))).toUInt32 >>> (((8 : Int32)).toUInt32 &&& Int32.toUInt32 31)).toInt32))).toUInt32 >>> (((16 : Int32)).toUInt32 &&& Int32.toUInt32 31)).toInt32)))]) dJ6_bitCount_0f7a4_47 rfl (by decide) rfl ?_
  refine q_iload_n C dJ6_bitCount_0f7a4_48 0 rfl rfl ?_
  refine q_bipush (v := (63 : Int32)) C dJ6_bitCount_0f7a4_49 (by decide) ?_
  refine q_iand C dJ6_bitCount_0f7a4_51 ?_
  subst hF
  exact q_ireti C hA0 hr dJ6_bitCount_0f7a4_52 hQ
set_option maxRecDepth 100000 in
set_option maxHeartbeats 4000000 in
theorem c_X9_clashingPairs (l : Launch) (dC : Nat → ClassId) (dI : Nat → Nat → Nat) (cI cZ cQ : ClassId) (o o_clashes o_words : Nat) (v_clashes : Nat → Int32) (R : Int32) (hF : f_Treaty_clashingPairs v_clashes = some R) (sz : Nat) : Met l yX9_clashingPairs wsX9_clashingPairs ({ frames := 1, cells := 0, slots := 0, locals := 20 } : Room) (qPc ([.ref o]) (dC, dI) (qT cI cZ cQ) ([(o, .inr (9, [.ref o_words, .ref o_clashes])), (o_clashes, .inl (cI, 10, .inl v_clashes))]) sz) (qRi R) 0 0 (fun _ => False) := by
  refine q_met_r (cc := cX9_clashingPairs) (own := RX9) (maxL := 3) (ret := (some .int)) (lv0 := [(0, .ref o)]) (by decide) rfl rfl rfl (Nat.le_of_ble_eq_true rfl) ?_
  intro p e s m args below meth c C hr A A' Q hA0 hQ
  have lk0 : Cond.fieldLink RX9 15 "SealStrait$Treaty" "clashes" "[I" ∈ wsX9_clashingPairs := by decide +kernel
  have lk1 : ∀ w ∈ u_ws RX9 TX9 2, w ∈ wsX9_clashingPairs := fun w h => List.mem_cons_of_mem _ (List.mem_append_right _ h)
  have L1 : ∀ (n : Nat) (x1 : Int32) (x2 : Int32) (y1 : Int32), evr (fun s => b_Treaty_clashingPairs_1 v_clashes s.1 s.2) n (x1, x2) = some y1 → qG p l e ({ frames := 1, cells := 0, slots := 0, locals := 20 } : Room) s m args below meth c 3 (dC, dI) A A' Q 0 0 ([(1, .int y1)]) [] ([(o, .inr (9, [.ref o_words, .ref o_clashes])), (o_clashes, .inl (cI, 10, .inl v_clashes))]) 28 → qG p l e ({ frames := 1, cells := 0, slots := 0, locals := 20 } : Room) s m args below meth c 3 (dC, dI) A A' Q 0 0 ([(0, .ref o), (1, .int x1), (2, .int x2)]) [] ([(o, .inr (9, [.ref o_words, .ref o_clashes])), (o_clashes, .inl (cI, 10, .inl v_clashes))]) 4 := by
    clear hF
    intro n
    induction n with
    | zero => intro x1 x2 y1 hF; exact (evr_0 hF).elim
    | succ n ih =>
      intro x1 x2 y1 hF hk
      obtain ⟨o9, hB, hn, hx⟩ := evr_c hF
      have hF : b_Treaty_clashingPairs_1 v_clashes x1 x2 = some o9 := hB
      unfold b_Treaty_clashingPairs_1 at hF
      refine q_iload_n C dX9_clashingPairs_4 2 rfl rfl ?_
      refine q_bipush (v := (10 : Int32)) C dX9_clashingPairs_5 (by decide) ?_
      refine q_icmp_ge (tgt := 28) C dX9_clashingPairs_7 (by decide) (fun c1 => ?_) (fun c1 => ?_)
      · have hF := ite_t hF c1
        cases hF
        have e2 := hx _ rfl
        cases e2
        refine q_lsel [1] rfl ?_
        exact hk
      · have hF := ite_f hF c1
        refine q_iload_n C dX9_clashingPairs_10 1 rfl rfl ?_
        refine q_aload_n C dX9_clashingPairs_11 0 rfl rfl ?_
        refine q_get (C0 := RX9) (T := TX9) (N := 2) (k0 := 1) C lk1 0 rfl rfl (by decide) lk0 rfl (v := .ref o_clashes) rfl dX9_clashingPairs_12 ?_
        refine q_iload_n C dX9_clashingPairs_15 2 rfl rfl ?_
        obtain ⟨hc3, hF⟩ := ite_c hF
        refine q_iald C 1 0 rfl rfl (ix_in hc3) dX9_clashingPairs_16 ?_
        refine q_roi (q_runS (As := [.int (v_clashes (x2).toNatClampNeg)]) (rest := [.int x1]) C (fun sz => c_J6_bitCount_0f7a4 l dC dI cI cZ cQ (v_clashes (x2).toNatClampNeg) (f_Integer_bitCount (v_clashes (x2).toNatClampNeg)) rfl sz) (va_cwS 1 C.2.2.2.2.1 gX9_clashingPairs_J6_bitCount_0f7a4 rfl rfl rfl (by decide +kernel) ⟨Nat.le_of_ble_eq_true rfl, Nat.le_of_ble_eq_true rfl⟩) [] rfl rfl rfl rfl (Nat.le_of_ble_eq_true rfl) dX9_clashingPairs_17 ⟨Nat.zero_le _, Nat.zero_le _⟩) ?_
        refine q_iadd C dX9_clashingPairs_20 ?_
        refine q_istore_n C ([(1, .int (x1 + (f_Integer_bitCount (v_clashes (x2).toNatClampNeg)))), (0, .ref o), (2, .int x2)]) dX9_clashingPairs_21 rfl (by decide) rfl ?_
        refine q_iinc (v := (x2 + 1)) C ([(2, .int (x2 + 1)), (1, .int (x1 + (f_Integer_bitCount (v_clashes (x2).toNatClampNeg)))), (0, .ref o)]) dX9_clashingPairs_22 2 rfl rfl (by decide) rfl ?_
        refine q_goto (tgt := 4) C dX9_clashingPairs_25 (by decide) ?_
        cases hF
        refine q_lsel [2, 1, 0] rfl ?_
        exact ih (x1 + (f_Integer_bitCount (v_clashes (x2).toNatClampNeg))) (x2 + 1) y1 (hn _ rfl) hk
  unfold f_Treaty_clashingPairs at hF
  refine q_iconst (v := (0 : Int32)) C dX9_clashingPairs_0 (by decide) ?_
  refine q_istore_n C ([(1, .int (0 : Int32)), (0, .ref o)]) dX9_clashingPairs_1 rfl (by decide) rfl ?_
  refine q_iconst (v := (0 : Int32)) C dX9_clashingPairs_2 (by decide) ?_
  refine q_istore_n C ([(2, .int (0 : Int32)), (1, .int (0 : Int32)), (0, .ref o)]) dX9_clashingPairs_3 rfl (by decide) rfl ?_
  obtain ⟨y1_5, hc6, hF⟩ := bind_c hF
  obtain ⟨n7, hc6⟩ := (ev_iff _ _ _).mp hc6
  refine q_lsel [2, 1, 0] rfl ?_
  refine L1 n7 (0 : Int32) (0 : Int32) y1_5 hc6 ?_
  refine q_iload_n C dX9_clashingPairs_28 0 rfl rfl ?_
  refine q_iconst (v := (2 : Int32)) C dX9_clashingPairs_29 (by decide) ?_
  refine q_idiv C dX9_clashingPairs_30 (by decide) ?_
  cases hF
  exact q_ireti C hA0 hr dX9_clashingPairs_31 hQ
set_option maxRecDepth 100000 in
set_option maxHeartbeats 4000000 in
theorem c_X9_isQuiet (l : Launch) (dC : Nat → ClassId) (dI : Nat → Nat → Nat) (cI cZ cQ : ClassId) (o o_clashes o_words : Nat) (v_clashes : Nat → Int32) (p1 : Int32) (R : Int32) (hF : f_Treaty_isQuiet v_clashes p1 = some R) (sz : Nat) : Met l yX9_isQuiet wsX9_isQuiet ({ frames := 1, cells := 0, slots := 0, locals := 21 } : Room) (qPc ([.ref o, .int p1]) (dC, dI) (qT cI cZ cQ) ([(o, .inr (9, [.ref o_words, .ref o_clashes])), (o_clashes, .inl (cI, 10, .inl v_clashes))]) sz) (qRz R) 0 0 (fun _ => False) := by
  refine q_met_r (cc := cX9_isQuiet) (own := RX9) (maxL := 3) (ret := (some .boolean)) (lv0 := [(0, .ref o), (1, .int p1)]) (by decide) rfl rfl rfl (Nat.le_of_ble_eq_true rfl) ?_
  intro p e s m args below meth c C hr A A' Q hA0 hQ
  have lk0 : Cond.initialized RX11 ∈ wsX9_isQuiet := by decide +kernel
  have lk1 : Cond.static yX11_has ∈ wsX9_isQuiet := by decide +kernel
  have lk2 : (RX9, 28, yX11_has) ∈ qNest := by decide +kernel
  have lk3 : Cond.fieldLink RX9 15 "SealStrait$Treaty" "clashes" "[I" ∈ wsX9_isQuiet := by decide +kernel
  have lk4 : ∀ w ∈ u_ws RX9 TX9 2, w ∈ wsX9_isQuiet := fun w h => List.mem_cons_of_mem _ (List.mem_append_right _ h)
  have L1 : ∀ (n : Nat) (x1 : Int32) (x2 : Int32), evr (fun s => b_Treaty_isQuiet_1 x1 v_clashes s) n x2 = some R → qG p l e ({ frames := 1, cells := 0, slots := 0, locals := 21 } : Room) s m args below meth c 3 (dC, dI) A A' Q 0 0 ([(0, .ref o), (1, .int x1), (2, .int x2)]) [] ([(o, .inr (9, [.ref o_words, .ref o_clashes])), (o_clashes, .inl (cI, 10, .inl v_clashes))]) 2 := by
    clear hF
    intro n
    induction n with
    | zero => intro x1 x2  hF; exact (evr_0 hF).elim
    | succ n ih =>
      intro x1 x2  hF
      obtain ⟨o9, hB, hn, hx⟩ := evr_c hF
      have hF : b_Treaty_isQuiet_1 x1 v_clashes x2 = some o9 := hB
      unfold b_Treaty_isQuiet_1 at hF
      refine q_iload_n C dX9_isQuiet_2 2 rfl rfl ?_
      refine q_bipush (v := (10 : Int32)) C dX9_isQuiet_3 (by decide) ?_
      refine q_icmp_ge (tgt := 35) C dX9_isQuiet_5 (by decide) (fun c1 => ?_) (fun c1 => ?_)
      · have hF := ite_t hF c1
        refine q_iconst (v := (1 : Int32)) C dX9_isQuiet_35 (by decide) ?_
        cases hF
        have e2 := hx _ rfl
        cases e2
        exact q_iretz C hA0 hr (Or.inr rfl) dX9_isQuiet_36 hQ
      · have hF := ite_f hF c1
        refine q_iload_n C dX9_isQuiet_8 1 rfl rfl ?_
        refine q_iload_n C dX9_isQuiet_9 2 rfl rfl ?_
        refine q_roz (q_runSN (As := [.int x1, .int x2]) (rest := []) (n := 2) C (fun sz => c_X11_has l dC dI cI cZ cQ x1 x2 (f_Strait_has x1 x2) rfl sz) gX9_isQuiet_X11_has_n28 rfl rfl rfl lk2 lk0 lk1 (by decide +kernel) ⟨Nat.le_of_ble_eq_true rfl, Nat.le_of_ble_eq_true rfl⟩ [] rfl rfl rfl rfl (Nat.le_of_ble_eq_true rfl) dX9_isQuiet_10 ⟨Nat.zero_le _, Nat.zero_le _⟩) (fun hz3 => ?_)
        refine q_if_eq (tgt := 29) C dX9_isQuiet_13 (by decide) (fun c4 => ?_) (fun c4 => ?_)
        · have hF := ite_t hF c4
          refine q_iinc (v := (x2 + 1)) C ([(2, .int (x2 + 1)), (0, .ref o), (1, .int x1)]) dX9_isQuiet_29 2 rfl rfl (by decide) rfl ?_
          refine q_goto (tgt := 2) C dX9_isQuiet_32 (by decide) ?_
          cases hF
          refine q_lsel [1, 2, 0] rfl ?_
          exact ih x1 (x2 + 1) (hn _ rfl)
        · have hF := ite_f hF c4
          refine q_aload_n C dX9_isQuiet_16 0 rfl rfl ?_
          refine q_get (C0 := RX9) (T := TX9) (N := 2) (k0 := 1) C lk4 0 rfl rfl (by decide) lk3 rfl (v := .ref o_clashes) rfl dX9_isQuiet_17 ?_
          refine q_iload_n C dX9_isQuiet_20 2 rfl rfl ?_
          obtain ⟨hc5, hF⟩ := ite_c hF
          refine q_iald C 1 0 rfl rfl (ix_in hc5) dX9_isQuiet_21 ?_
          refine q_iload_n C dX9_isQuiet_22 1 rfl rfl ?_
          refine q_iand C dX9_isQuiet_23 ?_
          refine q_if_eq (tgt := 29) C dX9_isQuiet_24 (by decide) (fun c6 => ?_) (fun c6 => ?_)
          · have hF := ite_t hF c6
            refine q_iinc (v := (x2 + 1)) C ([(2, .int (x2 + 1)), (0, .ref o), (1, .int x1)]) dX9_isQuiet_29 2 rfl rfl (by decide) rfl ?_
            refine q_goto (tgt := 2) C dX9_isQuiet_32 (by decide) ?_
            cases hF
            refine q_lsel [1, 2, 0] rfl ?_
            exact ih x1 (x2 + 1) (hn _ rfl)
          · have hF := ite_f hF c6
            refine q_iconst (v := (0 : Int32)) C dX9_isQuiet_27 (by decide) ?_
            cases hF
            have e7 := hx _ rfl
            cases e7
            exact q_iretz C hA0 hr (Or.inl rfl) dX9_isQuiet_28 hQ
  unfold f_Treaty_isQuiet at hF
  refine q_iconst (v := (0 : Int32)) C dX9_isQuiet_0 (by decide) ?_
  refine q_istore_n C ([(2, .int (0 : Int32)), (0, .ref o), (1, .int p1)]) dX9_isQuiet_1 rfl (by decide) rfl ?_
  obtain ⟨n8, hF⟩ := (ev_iff _ _ _).mp hF
  refine q_lsel [1, 2, 0] rfl ?_
  exact L1 n8 p1 (0 : Int32) hF
set_option maxRecDepth 100000 in
set_option maxHeartbeats 4000000 in
theorem c_X9_leastToDrop (l : Launch) (dC : Nat → ClassId) (dI : Nat → Nat → Nat) (cI cZ cQ : ClassId) (o o_clashes o_words : Nat) (v_clashes : Nat → Int32) (p1 : Int32) (R : Int32) (hF : f_Treaty_leastToDrop v_clashes p1 = some R) (sz : Nat) : Met l yX9_leastToDrop wsX9_leastToDrop ({ frames := 2, cells := 0, slots := 0, locals := 43 } : Room) (qPc ([.ref o, .int p1]) (dC, dI) (qT cI cZ cQ) ([(o, .inr (9, [.ref o_words, .ref o_clashes])), (o_clashes, .inl (cI, 10, .inl v_clashes))]) sz) (qRi R) 0 0 (fun _ => False) := by
  refine q_met_r (cc := cX9_leastToDrop) (own := RX9) (maxL := 6) (ret := (some .int)) (lv0 := [(0, .ref o), (1, .int p1)]) (by decide) rfl rfl rfl (Nat.le_of_ble_eq_true rfl) ?_
  intro p e s m args below meth c C hr A A' Q hA0 hQ
  have L1 : ∀ (n : Nat) (x1 : Int32) (x2 : Int32) (x3 : Int32) (x4 : Int32) (y2 : Int32), evr (fun s => b_Treaty_leastToDrop_1 x1 v_clashes s.1 s.2.1 s.2.2) n (x2, x3, x4) = some y2 → qG p l e ({ frames := 2, cells := 0, slots := 0, locals := 43 } : Room) s m args below meth c 6 (dC, dI) A A' Q 0 0 ([(2, .int y2)]) [] ([(o, .inr (9, [.ref o_words, .ref o_clashes])), (o_clashes, .inl (cI, 10, .inl v_clashes))]) 74 → qG p l e ({ frames := 2, cells := 0, slots := 0, locals := 43 } : Room) s m args below meth c 6 (dC, dI) A A' Q 0 0 ([(0, .ref o), (1, .int x1), (2, .int x2), (3, .int x3), (4, .int x4)]) [] ([(o, .inr (9, [.ref o_words, .ref o_clashes])), (o_clashes, .inl (cI, 10, .inl v_clashes))]) 8 := by
    clear hF
    intro n
    induction n with
    | zero => intro x1 x2 x3 x4 y2 hF; exact (evr_0 hF).elim
    | succ n ih =>
      intro x1 x2 x3 x4 y2 hF hk
      obtain ⟨o9, hB, hn, hx⟩ := evr_c hF
      have hF : b_Treaty_leastToDrop_1 x1 v_clashes x2 x3 x4 = some o9 := hB
      unfold b_Treaty_leastToDrop_1 at hF
      refine q_iload C dX9_leastToDrop_8 4 rfl ?_
      refine q_sipush (v := (1023 : Int32)) C dX9_leastToDrop_10 (by decide) ?_
      refine q_icmp_gt (tgt := 74) C dX9_leastToDrop_13 (by decide) (fun c1 => ?_) (fun c1 => ?_)
      · have hF := ite_t hF c1
        cases hF
        have e2 := hx _ rfl
        cases e2
        refine q_lsel [2] rfl ?_
        exact hk
      · have hF := ite_f hF c1
        refine q_iload C dX9_leastToDrop_16 4 rfl ?_
        refine q_iload_n C dX9_leastToDrop_18 1 rfl rfl ?_
        refine q_iconst (v := (-1 : Int32)) C dX9_leastToDrop_19 (by decide) ?_
        refine q_ixor C dX9_leastToDrop_20 ?_
        refine q_iand C dX9_leastToDrop_21 ?_
        refine q_if_ne (tgt := 29) C dX9_leastToDrop_22 (by decide) (fun c3 => ?_) (fun c3 => ?_)
        · have hF := ite_f hF c3
          refine q_iconst (v := (0 : Int32)) C dX9_leastToDrop_29 (by decide) ?_
          refine q_istore C ([(5, .int (0 : Int32)), (0, .ref o), (1, .int x1), (2, .int x2), (3, .int x3), (4, .int x4)]) dX9_leastToDrop_30 (by decide) rfl ?_
          refine q_iload C dX9_leastToDrop_32 0 rfl ?_
          refine q_if_eq (tgt := 68) C dX9_leastToDrop_34 (by decide) (fun c4 => ?_) (fun c4 => ?_)
          · have hF := ite_t hF c4
            refine q_iinc (v := (x4 + 1)) C ([(4, .int (x4 + 1)), (5, .int (0 : Int32)), (0, .ref o), (1, .int x1), (2, .int x2), (3, .int x3)]) dX9_leastToDrop_68 5 rfl rfl (by decide) rfl ?_
            refine q_goto (tgt := 8) C dX9_leastToDrop_71 (by decide) ?_
            cases hF
            refine q_lsel [2, 3, 4, 5, 0] rfl ?_
            exact ih x1 x2 x3 (x4 + 1) y2 (hn _ rfl) hk
          · have hF := ite_f hF c4
            refine q_iload C dX9_leastToDrop_37 5 rfl ?_
            refine q_roi (q_runS (As := [.int x4]) (rest := []) C (fun sz => c_J6_bitCount_0f7a4 l dC dI cI cZ cQ x4 (f_Integer_bitCount x4) rfl sz) (va_cwS 1 C.2.2.2.2.1 gX9_leastToDrop_J6_bitCount_0f7a4 rfl rfl rfl (by decide +kernel) ⟨Nat.le_of_ble_eq_true rfl, Nat.le_of_ble_eq_true rfl⟩) [] rfl rfl rfl rfl (Nat.le_of_ble_eq_true rfl) dX9_leastToDrop_39 ⟨Nat.zero_le _, Nat.zero_le _⟩) ?_
            refine q_iload_n C dX9_leastToDrop_42 4 rfl rfl ?_
            refine q_icmp_ge (tgt := 68) C dX9_leastToDrop_43 (by decide) (fun c6 => ?_) (fun c6 => ?_)
            · have hF := ite_t hF c6
              refine q_iinc (v := (x4 + 1)) C ([(4, .int (x4 + 1)), (5, .int (0 : Int32)), (0, .ref o), (1, .int x1), (2, .int x2), (3, .int x3)]) dX9_leastToDrop_68 5 rfl rfl (by decide) rfl ?_
              refine q_goto (tgt := 8) C dX9_leastToDrop_71 (by decide) ?_
              cases hF
              refine q_lsel [2, 3, 4, 5, 0] rfl ?_
              exact ih x1 x2 x3 (x4 + 1) y2 (hn _ rfl) hk
            · have hF := ite_f hF c6
              refine q_aload_n C dX9_leastToDrop_46 1 rfl rfl ?_
              refine q_iload_n C dX9_leastToDrop_47 2 rfl rfl ?_
              refine q_iload C dX9_leastToDrop_48 5 rfl ?_
              refine q_iconst (v := (-1 : Int32)) C dX9_leastToDrop_50 (by decide) ?_
              refine q_ixor C dX9_leastToDrop_51 ?_
              refine q_iand C dX9_leastToDrop_52 ?_
              obtain ⟨r7, hc8, hF⟩ := bind_c hF
              refine q_roz (q_runV (As := [.int (x1 &&& (x4 ^^^ (-1 : Int32)))]) (rest := []) C (fun sz => c_X9_isQuiet l dC dI cI cZ cQ o o_clashes o_words v_clashes (x1 &&& (x4 ^^^ (-1 : Int32))) r7 hc8 sz) (cwV 1 C.2.2.2.2.1 gX9_leastToDrop_X9_isQuiet rfl rfl rfl (by decide +kernel) ⟨Nat.le_of_ble_eq_true rfl, Nat.le_of_ble_eq_true rfl⟩) 0 rfl rfl rfl [0, 1] rfl rfl rfl rfl (Nat.le_of_ble_eq_true rfl) dX9_leastToDrop_53 ⟨Nat.zero_le _, Nat.zero_le _⟩) (fun hz7 => ?_)
              refine q_if_eq (tgt := 68) C dX9_leastToDrop_56 (by decide) (fun c9 => ?_) (fun c9 => ?_)
              · have hF := ite_t hF c9
                refine q_iinc (v := (x4 + 1)) C ([(4, .int (x4 + 1)), (5, .int (0 : Int32)), (0, .ref o), (1, .int x1), (2, .int x2), (3, .int x3)]) dX9_leastToDrop_68 5 rfl rfl (by decide) rfl ?_
                refine q_goto (tgt := 8) C dX9_leastToDrop_71 (by decide) ?_
                cases hF
                refine q_lsel [2, 3, 4, 5, 0] rfl ?_
                exact ih x1 x2 x3 (x4 + 1) y2 (hn _ rfl) hk
              · have hF := ite_f hF c9
                refine q_iload C dX9_leastToDrop_59 5 rfl ?_
                refine q_istore_n C ([(2, .int x4), (5, .int (0 : Int32)), (0, .ref o), (1, .int x1), (3, .int x3), (4, .int x4)]) dX9_leastToDrop_61 rfl (by decide) rfl ?_
                refine q_iload C dX9_leastToDrop_62 5 rfl ?_
                refine q_roi (q_runS (As := [.int x4]) (rest := []) C (fun sz => c_J6_bitCount_0f7a4 l dC dI cI cZ cQ x4 (f_Integer_bitCount x4) rfl sz) (va_cwS 1 C.2.2.2.2.1 gX9_leastToDrop_J6_bitCount_0f7a4 rfl rfl rfl (by decide +kernel) ⟨Nat.le_of_ble_eq_true rfl, Nat.le_of_ble_eq_true rfl⟩) [] rfl rfl rfl rfl (Nat.le_of_ble_eq_true rfl) dX9_leastToDrop_64 ⟨Nat.zero_le _, Nat.zero_le _⟩) ?_
                refine q_istore_n C ([(3, .int (f_Integer_bitCount x4)), (2, .int x4), (5, .int (0 : Int32)), (0, .ref o), (1, .int x1), (4, .int x4)]) dX9_leastToDrop_67 rfl (by decide) rfl ?_
                refine q_iinc (v := (x4 + 1)) C ([(4, .int (x4 + 1)), (3, .int (f_Integer_bitCount x4)), (2, .int x4), (5, .int (0 : Int32)), (0, .ref o), (1, .int x1)]) dX9_leastToDrop_68 5 rfl rfl (by decide) rfl ?_
                refine q_goto (tgt := 8) C dX9_leastToDrop_71 (by decide) ?_
                cases hF
                refine q_lsel [4, 5, 2, 1, 0] rfl ?_
                exact ih x1 x4 (f_Integer_bitCount x4) (x4 + 1) y2 (hn _ rfl) hk
        · have hF := ite_t hF c3
          refine q_iconst (v := (1 : Int32)) C dX9_leastToDrop_25 (by decide) ?_
          refine q_goto (tgt := 30) C dX9_leastToDrop_26 (by decide) ?_
          refine q_istore C ([(5, .int (1 : Int32)), (0, .ref o), (1, .int x1), (2, .int x2), (3, .int x3), (4, .int x4)]) dX9_leastToDrop_30 (by decide) rfl ?_
          refine q_iload C dX9_leastToDrop_32 0 rfl ?_
          refine q_if_eq (tgt := 68) C dX9_leastToDrop_34 (by decide) (fun c11 => ?_) (fun c11 => ?_)
          · have hF := ite_t hF c11
            refine q_iinc (v := (x4 + 1)) C ([(4, .int (x4 + 1)), (5, .int (1 : Int32)), (0, .ref o), (1, .int x1), (2, .int x2), (3, .int x3)]) dX9_leastToDrop_68 5 rfl rfl (by decide) rfl ?_
            refine q_goto (tgt := 8) C dX9_leastToDrop_71 (by decide) ?_
            cases hF
            refine q_lsel [2, 3, 4, 5, 0] rfl ?_
            exact ih x1 x2 x3 (x4 + 1) y2 (hn _ rfl) hk
          · have hF := ite_f hF c11
            refine q_iload C dX9_leastToDrop_37 5 rfl ?_
            refine q_roi (q_runS (As := [.int x4]) (rest := []) C (fun sz => c_J6_bitCount_0f7a4 l dC dI cI cZ cQ x4 (f_Integer_bitCount x4) rfl sz) (va_cwS 1 C.2.2.2.2.1 gX9_leastToDrop_J6_bitCount_0f7a4 rfl rfl rfl (by decide +kernel) ⟨Nat.le_of_ble_eq_true rfl, Nat.le_of_ble_eq_true rfl⟩) [] rfl rfl rfl rfl (Nat.le_of_ble_eq_true rfl) dX9_leastToDrop_39 ⟨Nat.zero_le _, Nat.zero_le _⟩) ?_
            refine q_iload_n C dX9_leastToDrop_42 4 rfl rfl ?_
            refine q_icmp_ge (tgt := 68) C dX9_leastToDrop_43 (by decide) (fun c13 => ?_) (fun c13 => ?_)
            · have hF := ite_t hF c13
              refine q_iinc (v := (x4 + 1)) C ([(4, .int (x4 + 1)), (5, .int (1 : Int32)), (0, .ref o), (1, .int x1), (2, .int x2), (3, .int x3)]) dX9_leastToDrop_68 5 rfl rfl (by decide) rfl ?_
              refine q_goto (tgt := 8) C dX9_leastToDrop_71 (by decide) ?_
              cases hF
              refine q_lsel [2, 3, 4, 5, 0] rfl ?_
              exact ih x1 x2 x3 (x4 + 1) y2 (hn _ rfl) hk
            · have hF := ite_f hF c13
              refine q_aload_n C dX9_leastToDrop_46 1 rfl rfl ?_
              refine q_iload_n C dX9_leastToDrop_47 2 rfl rfl ?_
              refine q_iload C dX9_leastToDrop_48 5 rfl ?_
              refine q_iconst (v := (-1 : Int32)) C dX9_leastToDrop_50 (by decide) ?_
              refine q_ixor C dX9_leastToDrop_51 ?_
              refine q_iand C dX9_leastToDrop_52 ?_
              obtain ⟨r14, hc15, hF⟩ := bind_c hF
              refine q_roz (q_runV (As := [.int (x1 &&& (x4 ^^^ (-1 : Int32)))]) (rest := []) C (fun sz => c_X9_isQuiet l dC dI cI cZ cQ o o_clashes o_words v_clashes (x1 &&& (x4 ^^^ (-1 : Int32))) r14 hc15 sz) (cwV 1 C.2.2.2.2.1 gX9_leastToDrop_X9_isQuiet rfl rfl rfl (by decide +kernel) ⟨Nat.le_of_ble_eq_true rfl, Nat.le_of_ble_eq_true rfl⟩) 0 rfl rfl rfl [0, 1] rfl rfl rfl rfl (Nat.le_of_ble_eq_true rfl) dX9_leastToDrop_53 ⟨Nat.zero_le _, Nat.zero_le _⟩) (fun hz14 => ?_)
              refine q_if_eq (tgt := 68) C dX9_leastToDrop_56 (by decide) (fun c16 => ?_) (fun c16 => ?_)
              · have hF := ite_t hF c16
                refine q_iinc (v := (x4 + 1)) C ([(4, .int (x4 + 1)), (5, .int (1 : Int32)), (0, .ref o), (1, .int x1), (2, .int x2), (3, .int x3)]) dX9_leastToDrop_68 5 rfl rfl (by decide) rfl ?_
                refine q_goto (tgt := 8) C dX9_leastToDrop_71 (by decide) ?_
                cases hF
                refine q_lsel [2, 3, 4, 5, 0] rfl ?_
                exact ih x1 x2 x3 (x4 + 1) y2 (hn _ rfl) hk
              · have hF := ite_f hF c16
                refine q_iload C dX9_leastToDrop_59 5 rfl ?_
                refine q_istore_n C ([(2, .int x4), (5, .int (1 : Int32)), (0, .ref o), (1, .int x1), (3, .int x3), (4, .int x4)]) dX9_leastToDrop_61 rfl (by decide) rfl ?_
                refine q_iload C dX9_leastToDrop_62 5 rfl ?_
                refine q_roi (q_runS (As := [.int x4]) (rest := []) C (fun sz => c_J6_bitCount_0f7a4 l dC dI cI cZ cQ x4 (f_Integer_bitCount x4) rfl sz) (va_cwS 1 C.2.2.2.2.1 gX9_leastToDrop_J6_bitCount_0f7a4 rfl rfl rfl (by decide +kernel) ⟨Nat.le_of_ble_eq_true rfl, Nat.le_of_ble_eq_true rfl⟩) [] rfl rfl rfl rfl (Nat.le_of_ble_eq_true rfl) dX9_leastToDrop_64 ⟨Nat.zero_le _, Nat.zero_le _⟩) ?_
                refine q_istore_n C ([(3, .int (f_Integer_bitCount x4)), (2, .int x4), (5, .int (1 : Int32)), (0, .ref o), (1, .int x1), (4, .int x4)]) dX9_leastToDrop_67 rfl (by decide) rfl ?_
                refine q_iinc (v := (x4 + 1)) C ([(4, .int (x4 + 1)), (3, .int (f_Integer_bitCount x4)), (2, .int x4), (5, .int (1 : Int32)), (0, .ref o), (1, .int x1)]) dX9_leastToDrop_68 5 rfl rfl (by decide) rfl ?_
                refine q_goto (tgt := 8) C dX9_leastToDrop_71 (by decide) ?_
                cases hF
                refine q_lsel [4, 5, 2, 1, 0] rfl ?_
                exact ih x1 x4 (f_Integer_bitCount x4) (x4 + 1) y2 (hn _ rfl) hk
  unfold f_Treaty_leastToDrop at hF
  refine q_iload_n C dX9_leastToDrop_0 1 rfl rfl ?_
  refine q_istore_n C ([(2, .int p1), (0, .ref o), (1, .int p1)]) dX9_leastToDrop_1 rfl (by decide) rfl ?_
  refine q_bipush (v := (11 : Int32)) C dX9_leastToDrop_2 (by decide) ?_
  refine q_istore_n C ([(3, .int (11 : Int32)), (2, .int p1), (0, .ref o), (1, .int p1)]) dX9_leastToDrop_4 rfl (by decide) rfl ?_
  refine q_iconst (v := (0 : Int32)) C dX9_leastToDrop_5 (by decide) ?_
  refine q_istore C ([(4, .int (0 : Int32)), (3, .int (11 : Int32)), (2, .int p1), (0, .ref o), (1, .int p1)]) dX9_leastToDrop_6 (by decide) rfl ?_
  obtain ⟨y2_18, hc19, hF⟩ := bind_c hF
  obtain ⟨n20, hc19⟩ := (ev_iff _ _ _).mp hc19
  refine q_lsel [3, 4, 2, 1, 0] rfl ?_
  refine L1 n20 p1 p1 (11 : Int32) (0 : Int32) y2_18 hc19 ?_
  refine q_iload_n C dX9_leastToDrop_74 0 rfl rfl ?_
  cases hF
  exact q_ireti C hA0 hr dX9_leastToDrop_75 hQ
