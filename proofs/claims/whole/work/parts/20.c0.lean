set_option maxRecDepth 100000 in
set_option maxHeartbeats 4000000 in
theorem c_X0_set (l : Launch) (dC : Nat → ClassId) (dI : Nat → Nat → Nat) (cI cZ cQ : ClassId) (o : Nat) (v_kind : Int32) (v_one : Int32) (v_other : Int32) (p1 : Int32) (p2 : Int32) (p3 : Int32) (w_kind : Int32) (w_one : Int32) (w_other : Int32) (hF : f_Act_set v_kind v_one v_other p1 p2 p3 = some (w_kind, w_one, w_other)) (sz : Nat) : Met l yX0_set wsX0_set ({ frames := 0, cells := 0, slots := 0, locals := 0 } : Room) (qPc ([.ref o, .int p1, .int p2, .int p3]) (dC, dI) (qT cI cZ cQ) ([(o, .inr (0, [.int v_kind, .int v_one, .int v_other]))]) sz) (qWv (dC, dI) ([(o, .inr (0, [.int w_kind, .int w_one, .int w_other]))]) (va_A ([(o, .inr (0, [.int v_kind, .int v_one, .int v_other]))]) sz)) 0 0 (va_A ([(o, .inr (0, [.int v_kind, .int v_one, .int v_other]))]) sz) := by
  refine q_met_w (Qc := fun A => qWv (dC, dI) ([(o, .inr (0, [.int w_kind, .int w_one, .int w_other]))]) A) (cc := cX0_set) (own := RX0) (maxL := 4) (ret := none) (lv0 := [(0, .ref o), (1, .int p1), (2, .int p2), (3, .int p3)]) (by decide) rfl rfl rfl (Nat.le_of_ble_eq_true rfl) ?_
  intro p e s m args below meth c A hA C hr hnm Q hQ
  have lk0 : Cond.fieldLink RX0 9 "SealStrait$Act" "kind" "I" ∈ wsX0_set := by decide +kernel
  have lk1 : ∀ w ∈ u_ws RX0 TX0 3, w ∈ wsX0_set := fun w h => List.mem_cons_of_mem _ (List.mem_append_right _ h)
  have lk2 : Cond.fieldLink RX0 15 "SealStrait$Act" "one" "I" ∈ wsX0_set := by decide +kernel
  have lk3 : Cond.fieldLink RX0 18 "SealStrait$Act" "other" "I" ∈ wsX0_set := by decide +kernel
  unfold f_Act_set at hF
  refine q_aload_n C dX0_set_0 0 rfl rfl ?_
  refine q_iload_n C dX0_set_1 1 rfl rfl ?_
  refine q_put (C0 := RX0) (T := TX0) (N := 3) (k0 := 0) C lk1 0 rfl rfl (by decide) lk0 rfl tyX0 tyX0_ok nmX0 rfl (v := .int p1) rfl rfl (Nat.le_of_ble_eq_true rfl) ([(o, .inr (0, [.int p1, .int v_one, .int v_other]))]) rfl dX0_set_2 ?_
  refine q_aload_n C dX0_set_5 0 rfl rfl ?_
  refine q_iload_n C dX0_set_6 2 rfl rfl ?_
  refine q_put (C0 := RX0) (T := TX0) (N := 3) (k0 := 1) C lk1 0 rfl rfl (by decide) lk2 rfl tyX0 tyX0_ok nmX0 rfl (v := .int p2) rfl rfl (Nat.le_of_ble_eq_true rfl) ([(o, .inr (0, [.int p1, .int p2, .int v_other]))]) rfl dX0_set_7 ?_
  refine q_aload_n C dX0_set_10 0 rfl rfl ?_
  refine q_iload_n C dX0_set_11 3 rfl rfl ?_
  refine q_put (C0 := RX0) (T := TX0) (N := 3) (k0 := 2) C lk1 0 rfl rfl (by decide) lk3 rfl tyX0 tyX0_ok nmX0 rfl (v := .int p3) rfl rfl (Nat.le_of_ble_eq_true rfl) ([(o, .inr (0, [.int p1, .int p2, .int p3]))]) rfl dX0_set_12 ?_
  cases hF
  exact q_wretv C hr dX0_set_15 hQ
set_option maxRecDepth 100000 in
set_option maxHeartbeats 4000000 in
theorem c_X7_signAt (l : Launch) (dC : Nat → ClassId) (dI : Nat → Nat → Nat) (cI cZ cQ : ClassId) (o o_signs : Nat) (v_signs : Nat → Int32) (v_size : Int32) (p1 : Int32) (R : Int32) (hF : f_Pad_signAt v_signs v_size p1 = some R) (sz : Nat) : Met l yX7_signAt wsX7_signAt ({ frames := 0, cells := 0, slots := 0, locals := 0 } : Room) (qPc ([.ref o, .int p1]) (dC, dI) (qT cI cZ cQ) ([(o, .inr (7, [.ref o_signs, .int v_size])), (o_signs, .inl (cI, 60, .inl v_signs))]) sz) (qRi R) 0 0 (fun _ => False) := by
  refine q_met_r (cc := cX7_signAt) (own := RX7) (maxL := 2) (ret := (some .int)) (lv0 := [(0, .ref o), (1, .int p1)]) (by decide) rfl rfl rfl (Nat.le_of_ble_eq_true rfl) ?_
  intro p e s m args below meth c C hr A A' Q hA0 hQ
  have lk0 : Cond.fieldLink RX7 15 "SealStrait$Pad" "size" "I" ∈ wsX7_signAt := by decide +kernel
  have lk1 : ∀ w ∈ u_ws RX7 TX7 2, w ∈ wsX7_signAt := fun w h => List.mem_cons_of_mem _ (List.mem_append_right _ h)
  have lk2 : Cond.fieldLink RX7 11 "SealStrait$Pad" "signs" "[I" ∈ wsX7_signAt := by decide +kernel
  unfold f_Pad_signAt at hF
  refine q_iload_n C dX7_signAt_0 1 rfl rfl ?_
  refine q_if_lt (tgt := 27) C dX7_signAt_1 (by decide) (fun c1 => ?_) (fun c1 => ?_)
  · have hF := ite_t hF c1
    refine q_iconst (v := (0 : Int32)) C dX7_signAt_27 (by decide) ?_
    cases hF
    exact q_ireti C hA0 hr dX7_signAt_28 hQ
  · have hF := ite_f hF c1
    refine q_iload_n C dX7_signAt_4 1 rfl rfl ?_
    refine q_aload_n C dX7_signAt_5 0 rfl rfl ?_
    refine q_get (C0 := RX7) (T := TX7) (N := 2) (k0 := 1) C lk1 0 rfl rfl (by decide) lk0 rfl (v := .int v_size) rfl dX7_signAt_6 ?_
    refine q_icmp_ge (tgt := 27) C dX7_signAt_9 (by decide) (fun c2 => ?_) (fun c2 => ?_)
    · have hF := ite_t hF c2
      refine q_iconst (v := (0 : Int32)) C dX7_signAt_27 (by decide) ?_
      cases hF
      exact q_ireti C hA0 hr dX7_signAt_28 hQ
    · have hF := ite_f hF c2
      refine q_iload_n C dX7_signAt_12 1 rfl rfl ?_
      refine q_bipush (v := (60 : Int32)) C dX7_signAt_13 (by decide) ?_
      refine q_icmp_ge (tgt := 27) C dX7_signAt_15 (by decide) (fun c3 => ?_) (fun c3 => ?_)
      · have hF := ite_t hF c3
        refine q_iconst (v := (0 : Int32)) C dX7_signAt_27 (by decide) ?_
        cases hF
        exact q_ireti C hA0 hr dX7_signAt_28 hQ
      · have hF := ite_f hF c3
        refine q_aload_n C dX7_signAt_18 0 rfl rfl ?_
        refine q_get (C0 := RX7) (T := TX7) (N := 2) (k0 := 0) C lk1 0 rfl rfl (by decide) lk2 rfl (v := .ref o_signs) rfl dX7_signAt_19 ?_
        refine q_iload_n C dX7_signAt_22 1 rfl rfl ?_
        obtain ⟨hc4, hF⟩ := ite_c hF
        refine q_iald C 1 0 rfl rfl (ix_in hc4) dX7_signAt_23 ?_
        refine q_goto (tgt := 28) C dX7_signAt_24 (by decide) ?_
        cases hF
        exact q_ireti C hA0 hr dX7_signAt_28 hQ
set_option maxRecDepth 100000 in
set_option maxHeartbeats 4000000 in
theorem c_X11_within (l : Launch) (dC : Nat → ClassId) (dI : Nat → Nat → Nat) (cI cZ cQ : ClassId) (p1 : Int32) (p2 : Int32) (p3 : Int32) (R : Int32) (hF : f_Strait_within p1 p2 p3 = R) (sz : Nat) : Met l yX11_within wsX11_within ({ frames := 0, cells := 0, slots := 0, locals := 0 } : Room) (qPc ([.int p1, .int p2, .int p3]) (dC, dI) (qT cI cZ cQ) ([]) sz) (qRz R) 0 0 (fun _ => False) := by
  refine q_met_r (cc := cX11_within) (own := RX11) (maxL := 3) (ret := (some .boolean)) (lv0 := [(0, .int p1), (1, .int p2), (2, .int p3)]) (by decide) rfl rfl rfl (Nat.le_of_ble_eq_true rfl) ?_
  intro p e s m args below meth c C hr A A' Q hA0 hQ
  unfold f_Strait_within at hF
  refine q_iload_n C dX11_within_0 0 rfl rfl ?_
  refine q_iload_n C dX11_within_1 1 rfl rfl ?_
  refine q_icmp_lt (tgt := 14) C dX11_within_2 (by decide) (fun c1 => ?_) (fun c1 => ?_)
  · have hF := ite_t hF c1
    refine q_iconst (v := (0 : Int32)) C dX11_within_14 (by decide) ?_
    subst hF
    exact q_iretz C hA0 hr (Or.inl rfl) dX11_within_15 hQ
  · have hF := ite_f hF c1
    refine q_iload_n C dX11_within_5 0 rfl rfl ?_
    refine q_iload_n C dX11_within_6 2 rfl rfl ?_
    refine q_icmp_gt (tgt := 14) C dX11_within_7 (by decide) (fun c2 => ?_) (fun c2 => ?_)
    · have hF := ite_t hF c2
      refine q_iconst (v := (0 : Int32)) C dX11_within_14 (by decide) ?_
      subst hF
      exact q_iretz C hA0 hr (Or.inl rfl) dX11_within_15 hQ
    · have hF := ite_f hF c2
      refine q_iconst (v := (1 : Int32)) C dX11_within_10 (by decide) ?_
      refine q_goto (tgt := 15) C dX11_within_11 (by decide) ?_
      subst hF
      exact q_iretz C hA0 hr (Or.inr rfl) dX11_within_15 hQ
set_option maxRecDepth 100000 in
set_option maxHeartbeats 4000000 in
theorem c_X7_isHerd (l : Launch) (dC : Nat → ClassId) (dI : Nat → Nat → Nat) (cI cZ cQ : ClassId) (p1 : Int32) (R : Int32) (hF : f_Pad_isHerd p1 = R) (sz : Nat) : Met l yX7_isHerd wsX7_isHerd ({ frames := 1, cells := 0, slots := 0, locals := 22 } : Room) (qPc ([.int p1]) (dC, dI) (qT cI cZ cQ) ([]) sz) (qRz R) 0 0 (fun _ => False) := by
  refine q_met_r (cc := cX7_isHerd) (own := RX7) (maxL := 1) (ret := (some .boolean)) (lv0 := [(0, .int p1)]) (by decide) rfl rfl rfl (Nat.le_of_ble_eq_true rfl) ?_
  intro p e s m args below meth c C hr A A' Q hA0 hQ
  have lk0 : Cond.initialized RX11 ∈ wsX7_isHerd := by decide +kernel
  have lk1 : Cond.static yX11_within ∈ wsX7_isHerd := by decide +kernel
  have lk2 : (RX7, 30, yX11_within) ∈ qNest := by decide +kernel
  unfold f_Pad_isHerd at hF
  refine q_iload_n C dX7_isHerd_0 0 rfl rfl ?_
  refine q_bipush (v := (65 : Int32)) C dX7_isHerd_1 (by decide) ?_
  refine q_bipush (v := (70 : Int32)) C dX7_isHerd_3 (by decide) ?_
  refine q_roz (q_runSN (As := [.int p1, .int (65 : Int32), .int (70 : Int32)]) (rest := []) (n := 3) C (fun sz => c_X11_within l dC dI cI cZ cQ p1 (65 : Int32) (70 : Int32) (f_Strait_within p1 (65 : Int32) (70 : Int32)) rfl sz) gX7_isHerd_X11_within_n30 rfl rfl rfl lk2 lk0 lk1 (by decide +kernel) ⟨Nat.le_of_ble_eq_true rfl, Nat.le_of_ble_eq_true rfl⟩ [] rfl rfl rfl rfl (Nat.le_of_ble_eq_true rfl) dX7_isHerd_5 ⟨Nat.zero_le _, Nat.zero_le _⟩) (fun hz1 => ?_)
  subst hF
  exact q_iretz C hA0 hr hz1 dX7_isHerd_8 hQ
set_option maxRecDepth 100000 in
set_option maxHeartbeats 4000000 in
theorem c_X0_takeFrom (l : Launch) (dC : Nat → ClassId) (dI : Nat → Nat → Nat) (cI cZ cQ : ClassId) (o b1 b1_signs : Nat) (v_kind : Int32) (v_one : Int32) (v_other : Int32) (v_a1_signs : Nat → Int32) (v_a1_size : Int32) (p2 : Int32) (R : Int32) (w_kind : Int32) (w_one : Int32) (w_other : Int32) (hF : f_Act_takeFrom v_kind v_one v_other v_a1_signs v_a1_size p2 = some (R, w_kind, w_one, w_other)) (sz : Nat) : Met l yX0_takeFrom wsX0_takeFrom ({ frames := 2, cells := 0, slots := 0, locals := 42 } : Room) (qPc ([.ref o, .ref b1, .int p2]) (dC, dI) (qT cI cZ cQ) ([(o, .inr (0, [.int v_kind, .int v_one, .int v_other])), (b1, .inr (7, [.ref b1_signs, .int v_a1_size])), (b1_signs, .inl (cI, 60, .inl v_a1_signs))]) sz) (qWi R (dC, dI) ([(o, .inr (0, [.int w_kind, .int w_one, .int w_other])), (b1, .inr (7, [.ref b1_signs, .int v_a1_size])), (b1_signs, .inl (cI, 60, .inl v_a1_signs))]) (va_A ([(o, .inr (0, [.int v_kind, .int v_one, .int v_other])), (b1, .inr (7, [.ref b1_signs, .int v_a1_size])), (b1_signs, .inl (cI, 60, .inl v_a1_signs))]) sz)) 0 0 (va_A ([(o, .inr (0, [.int v_kind, .int v_one, .int v_other])), (b1, .inr (7, [.ref b1_signs, .int v_a1_size])), (b1_signs, .inl (cI, 60, .inl v_a1_signs))]) sz) := by
  refine q_met_w (Qc := fun A => qWi R (dC, dI) ([(o, .inr (0, [.int w_kind, .int w_one, .int w_other])), (b1, .inr (7, [.ref b1_signs, .int v_a1_size])), (b1_signs, .inl (cI, 60, .inl v_a1_signs))]) A) (cc := cX0_takeFrom) (own := RX0) (maxL := 5) (ret := (some .int)) (lv0 := [(0, .ref o), (1, .ref b1), (2, .int p2)]) (by decide) rfl rfl rfl (Nat.le_of_ble_eq_true rfl) ?_
  intro p e s m args below meth c A hA C hr hnm Q hQ
  unfold f_Act_takeFrom at hF
  refine q_aload_n C dX0_takeFrom_0 1 rfl rfl ?_
  refine q_iload_n C dX0_takeFrom_1 2 rfl rfl ?_
  obtain ⟨r1, hc2, hF⟩ := bind_c hF
  refine q_roi (q_runV (As := [.int p2]) (rest := []) C (fun sz => c_X7_signAt l dC dI cI cZ cQ b1 b1_signs v_a1_signs v_a1_size p2 r1 hc2 sz) (cwV 1 C.2.2.2.2.1 gX0_takeFrom_X7_signAt rfl rfl rfl (by decide +kernel) ⟨Nat.le_of_ble_eq_true rfl, Nat.le_of_ble_eq_true rfl⟩) 1 rfl rfl rfl [1, 2] rfl rfl rfl rfl (Nat.le_of_ble_eq_true rfl) dX0_takeFrom_2 ⟨Nat.zero_le _, Nat.zero_le _⟩) ?_
  refine q_istore_n C ([(3, .int r1), (0, .ref o), (1, .ref b1), (2, .int p2)]) dX0_takeFrom_5 rfl (by decide) rfl ?_
  refine q_iload_n C dX0_takeFrom_6 0 rfl rfl ?_
  refine q_roz (q_runS (As := [.int r1]) (rest := []) C (fun sz => c_X7_isHerd l dC dI cI cZ cQ r1 (f_Pad_isHerd r1) rfl sz) (va_cwS 1 C.2.2.2.2.1 gX0_takeFrom_X7_isHerd rfl rfl rfl (by decide +kernel) ⟨Nat.le_of_ble_eq_true rfl, Nat.le_of_ble_eq_true rfl⟩) [] rfl rfl rfl rfl (Nat.le_of_ble_eq_true rfl) dX0_takeFrom_7 ⟨Nat.zero_le _, Nat.zero_le _⟩) (fun hz3 => ?_)
  refine q_if_ne (tgt := 35) C dX0_takeFrom_10 (by decide) (fun c4 => ?_) (fun c4 => ?_)
  · have hF := ite_f hF c4
    refine q_aload_n C dX0_takeFrom_35 2 rfl rfl ?_
    refine q_iload_n C dX0_takeFrom_36 3 rfl rfl ?_
    refine q_iconst (v := (1 : Int32)) C dX0_takeFrom_37 (by decide) ?_
    refine q_iadd C dX0_takeFrom_38 ?_
    obtain ⟨r5, hc6, hF⟩ := bind_c hF
    refine q_roi (q_runV (As := [.int (p2 + (1 : Int32))]) (rest := []) C (fun sz => c_X7_signAt l dC dI cI cZ cQ b1 b1_signs v_a1_signs v_a1_size (p2 + (1 : Int32)) r5 hc6 sz) (cwV 1 C.2.2.2.2.1 gX0_takeFrom_X7_signAt rfl rfl rfl (by decide +kernel) ⟨Nat.le_of_ble_eq_true rfl, Nat.le_of_ble_eq_true rfl⟩) 1 rfl rfl rfl [1, 2] rfl rfl rfl rfl (Nat.le_of_ble_eq_true rfl) dX0_takeFrom_39 ⟨Nat.zero_le _, Nat.zero_le _⟩) ?_
    refine q_istore C ([(4, .int r5), (3, .int r1), (0, .ref o), (1, .ref b1), (2, .int p2)]) dX0_takeFrom_42 (by decide) rfl ?_
    refine q_iload C dX0_takeFrom_44 0 rfl ?_
    refine q_bipush (v := (38 : Int32)) C dX0_takeFrom_46 (by decide) ?_
    refine q_icmp_ne (tgt := 72) C dX0_takeFrom_48 (by decide) (fun c7 => ?_) (fun c7 => ?_)
    · have hF := ite_f hF c7
      refine q_aload_n C dX0_takeFrom_72 2 rfl rfl ?_
      refine q_iload C dX0_takeFrom_73 0 rfl ?_
      refine q_bipush (v := (63 : Int32)) C dX0_takeFrom_75 (by decide) ?_
      refine q_icmp_ne (tgt := 84) C dX0_takeFrom_77 (by decide) (fun c8 => ?_) (fun c8 => ?_)
      · have hF := ite_f hF c8
        refine q_iconst (v := (2 : Int32)) C dX0_takeFrom_84 (by decide) ?_
        refine q_iload_n C dX0_takeFrom_85 1 rfl rfl ?_
        refine q_bipush (v := (65 : Int32)) C dX0_takeFrom_86 (by decide) ?_
        refine q_isub C dX0_takeFrom_88 ?_
        refine q_iconst (v := (0 : Int32)) C dX0_takeFrom_89 (by decide) ?_
        obtain ⟨⟨u9_kind, u9_one, u9_other⟩, hc10, hF⟩ := bind_c hF
        dsimp only at hF
        refine q_rwv hA ([(o, .inr (0, [.int u9_kind, .int u9_one, .int u9_other])), (b1, .inr (7, [.ref b1_signs, .int v_a1_size])), (b1_signs, .inl (cI, 60, .inl v_a1_signs))]) [0] [1, 2] rfl rfl rfl (by decide) [2, 0, 1] rfl rfl (q_runV (As := [.int (2 : Int32), .int (r1 - (65 : Int32)), .int (0 : Int32)]) (rest := []) C (fun sz => c_X0_set l dC dI cI cZ cQ o v_kind v_one v_other (2 : Int32) (r1 - (65 : Int32)) (0 : Int32) u9_kind u9_one u9_other hc10 sz) (cwV 3 C.2.2.2.2.1 gX0_takeFrom_X0_set rfl rfl rfl (by decide +kernel) ⟨Nat.le_of_ble_eq_true rfl, Nat.le_of_ble_eq_true rfl⟩) 0 rfl rfl rfl [0] rfl rfl rfl rfl (Nat.le_of_ble_eq_true rfl) dX0_takeFrom_90 ⟨Nat.zero_le _, Nat.zero_le _⟩) ?_
        refine q_iconst (v := (2 : Int32)) C dX0_takeFrom_93 (by decide) ?_
        cases hF
        exact q_wreti C hr dX0_takeFrom_94 hQ
      · have hF := ite_t hF c8
        refine q_iconst (v := (1 : Int32)) C dX0_takeFrom_80 (by decide) ?_
        refine q_goto (tgt := 85) C dX0_takeFrom_81 (by decide) ?_
        refine q_iload_n C dX0_takeFrom_85 1 rfl rfl ?_
        refine q_bipush (v := (65 : Int32)) C dX0_takeFrom_86 (by decide) ?_
        refine q_isub C dX0_takeFrom_88 ?_
        refine q_iconst (v := (0 : Int32)) C dX0_takeFrom_89 (by decide) ?_
        obtain ⟨⟨u11_kind, u11_one, u11_other⟩, hc12, hF⟩ := bind_c hF
        dsimp only at hF
        refine q_rwv hA ([(o, .inr (0, [.int u11_kind, .int u11_one, .int u11_other])), (b1, .inr (7, [.ref b1_signs, .int v_a1_size])), (b1_signs, .inl (cI, 60, .inl v_a1_signs))]) [0] [1, 2] rfl rfl rfl (by decide) [2, 0, 1] rfl rfl (q_runV (As := [.int (1 : Int32), .int (r1 - (65 : Int32)), .int (0 : Int32)]) (rest := []) C (fun sz => c_X0_set l dC dI cI cZ cQ o v_kind v_one v_other (1 : Int32) (r1 - (65 : Int32)) (0 : Int32) u11_kind u11_one u11_other hc12 sz) (cwV 3 C.2.2.2.2.1 gX0_takeFrom_X0_set rfl rfl rfl (by decide +kernel) ⟨Nat.le_of_ble_eq_true rfl, Nat.le_of_ble_eq_true rfl⟩) 0 rfl rfl rfl [0] rfl rfl rfl rfl (Nat.le_of_ble_eq_true rfl) dX0_takeFrom_90 ⟨Nat.zero_le _, Nat.zero_le _⟩) ?_
        refine q_iconst (v := (2 : Int32)) C dX0_takeFrom_93 (by decide) ?_
        cases hF
        exact q_wreti C hr dX0_takeFrom_94 hQ
    · have hF := ite_t hF c7
      refine q_aload_n C dX0_takeFrom_51 2 rfl rfl ?_
      refine q_iconst (v := (3 : Int32)) C dX0_takeFrom_52 (by decide) ?_
      refine q_iload_n C dX0_takeFrom_53 1 rfl rfl ?_
      refine q_bipush (v := (65 : Int32)) C dX0_takeFrom_54 (by decide) ?_
      refine q_isub C dX0_takeFrom_56 ?_
      refine q_aload_n C dX0_takeFrom_57 3 rfl rfl ?_
      refine q_iload_n C dX0_takeFrom_58 4 rfl rfl ?_
      refine q_iconst (v := (2 : Int32)) C dX0_takeFrom_59 (by decide) ?_
      refine q_iadd C dX0_takeFrom_60 ?_
      obtain ⟨r13, hc14, hF⟩ := bind_c hF
      refine q_roi (q_runV (As := [.int (p2 + (2 : Int32))]) (rest := [.int (r1 - (65 : Int32)), .int (3 : Int32), .ref o]) C (fun sz => c_X7_signAt l dC dI cI cZ cQ b1 b1_signs v_a1_signs v_a1_size (p2 + (2 : Int32)) r13 hc14 sz) (cwV 1 C.2.2.2.2.1 gX0_takeFrom_X7_signAt rfl rfl rfl (by decide +kernel) ⟨Nat.le_of_ble_eq_true rfl, Nat.le_of_ble_eq_true rfl⟩) 1 rfl rfl rfl [1, 2] rfl rfl rfl rfl (Nat.le_of_ble_eq_true rfl) dX0_takeFrom_61 ⟨Nat.zero_le _, Nat.zero_le _⟩) ?_
      refine q_bipush (v := (65 : Int32)) C dX0_takeFrom_64 (by decide) ?_
      refine q_isub C dX0_takeFrom_66 ?_
      obtain ⟨⟨u15_kind, u15_one, u15_other⟩, hc16, hF⟩ := bind_c hF
      dsimp only at hF
      refine q_rwv hA ([(o, .inr (0, [.int u15_kind, .int u15_one, .int u15_other])), (b1, .inr (7, [.ref b1_signs, .int v_a1_size])), (b1_signs, .inl (cI, 60, .inl v_a1_signs))]) [0] [1, 2] rfl rfl rfl (by decide) [2, 0, 1] rfl rfl (q_runV (As := [.int (3 : Int32), .int (r1 - (65 : Int32)), .int (r13 - (65 : Int32))]) (rest := []) C (fun sz => c_X0_set l dC dI cI cZ cQ o v_kind v_one v_other (3 : Int32) (r1 - (65 : Int32)) (r13 - (65 : Int32)) u15_kind u15_one u15_other hc16 sz) (cwV 3 C.2.2.2.2.1 gX0_takeFrom_X0_set rfl rfl rfl (by decide +kernel) ⟨Nat.le_of_ble_eq_true rfl, Nat.le_of_ble_eq_true rfl⟩) 0 rfl rfl rfl [0] rfl rfl rfl rfl (Nat.le_of_ble_eq_true rfl) dX0_takeFrom_67 ⟨Nat.zero_le _, Nat.zero_le _⟩) ?_
      refine q_iconst (v := (3 : Int32)) C dX0_takeFrom_70 (by decide) ?_
      cases hF
      exact q_wreti C hr dX0_takeFrom_71 hQ
  · have hF := ite_t hF c4
    refine q_aload_n C dX0_takeFrom_13 1 rfl rfl ?_
    refine q_iload_n C dX0_takeFrom_14 0 rfl rfl ?_
    refine q_bipush (v := (46 : Int32)) C dX0_takeFrom_15 (by decide) ?_
    refine q_icmp_ne (tgt := 24) C dX0_takeFrom_17 (by decide) (fun c17 => ?_) (fun c17 => ?_)
    · have hF := ite_f hF c17
      refine q_iconst (v := (0 : Int32)) C dX0_takeFrom_24 (by decide) ?_
      refine q_iload_n C dX0_takeFrom_25 0 rfl rfl ?_
      refine q_bipush (v := (97 : Int32)) C dX0_takeFrom_26 (by decide) ?_
      refine q_isub C dX0_takeFrom_28 ?_
      refine q_iconst (v := (0 : Int32)) C dX0_takeFrom_29 (by decide) ?_
      obtain ⟨⟨u18_kind, u18_one, u18_other⟩, hc19, hF⟩ := bind_c hF
      dsimp only at hF
      refine q_rwv hA ([(o, .inr (0, [.int u18_kind, .int u18_one, .int u18_other])), (b1, .inr (7, [.ref b1_signs, .int v_a1_size])), (b1_signs, .inl (cI, 60, .inl v_a1_signs))]) [0] [1, 2] rfl rfl rfl (by decide) [2, 0, 1] rfl rfl (q_runV (As := [.int (0 : Int32), .int (r1 - (97 : Int32)), .int (0 : Int32)]) (rest := []) C (fun sz => c_X0_set l dC dI cI cZ cQ o v_kind v_one v_other (0 : Int32) (r1 - (97 : Int32)) (0 : Int32) u18_kind u18_one u18_other hc19 sz) (cwV 3 C.2.2.2.2.1 gX0_takeFrom_X0_set rfl rfl rfl (by decide +kernel) ⟨Nat.le_of_ble_eq_true rfl, Nat.le_of_ble_eq_true rfl⟩) 0 rfl rfl rfl [0] rfl rfl rfl rfl (Nat.le_of_ble_eq_true rfl) dX0_takeFrom_30 ⟨Nat.zero_le _, Nat.zero_le _⟩) ?_
      refine q_iconst (v := (1 : Int32)) C dX0_takeFrom_33 (by decide) ?_
      cases hF
      exact q_wreti C hr dX0_takeFrom_34 hQ
    · have hF := ite_t hF c17
      refine q_iconst (v := (4 : Int32)) C dX0_takeFrom_20 (by decide) ?_
      refine q_goto (tgt := 25) C dX0_takeFrom_21 (by decide) ?_
      refine q_iload_n C dX0_takeFrom_25 0 rfl rfl ?_
      refine q_bipush (v := (97 : Int32)) C dX0_takeFrom_26 (by decide) ?_
      refine q_isub C dX0_takeFrom_28 ?_
      refine q_iconst (v := (0 : Int32)) C dX0_takeFrom_29 (by decide) ?_
      obtain ⟨⟨u20_kind, u20_one, u20_other⟩, hc21, hF⟩ := bind_c hF
      dsimp only at hF
      refine q_rwv hA ([(o, .inr (0, [.int u20_kind, .int u20_one, .int u20_other])), (b1, .inr (7, [.ref b1_signs, .int v_a1_size])), (b1_signs, .inl (cI, 60, .inl v_a1_signs))]) [0] [1, 2] rfl rfl rfl (by decide) [2, 0, 1] rfl rfl (q_runV (As := [.int (4 : Int32), .int (r1 - (97 : Int32)), .int (0 : Int32)]) (rest := []) C (fun sz => c_X0_set l dC dI cI cZ cQ o v_kind v_one v_other (4 : Int32) (r1 - (97 : Int32)) (0 : Int32) u20_kind u20_one u20_other hc21 sz) (cwV 3 C.2.2.2.2.1 gX0_takeFrom_X0_set rfl rfl rfl (by decide +kernel) ⟨Nat.le_of_ble_eq_true rfl, Nat.le_of_ble_eq_true rfl⟩) 0 rfl rfl rfl [0] rfl rfl rfl rfl (Nat.le_of_ble_eq_true rfl) dX0_takeFrom_30 ⟨Nat.zero_le _, Nat.zero_le _⟩) ?_
      refine q_iconst (v := (1 : Int32)) C dX0_takeFrom_33 (by decide) ?_
      cases hF
      exact q_wreti C hr dX0_takeFrom_34 hQ
set_option maxRecDepth 100000 in
set_option maxHeartbeats 4000000 in
theorem c_X0_draw (l : Launch) (dC : Nat → ClassId) (dI : Nat → Nat → Nat) (cI cZ cQ : ClassId) (o : Nat) (v_kind : Int32) (v_one : Int32) (v_other : Int32) (p1 : Int32) (w_kind : Int32) (w_one : Int32) (w_other : Int32) (hF : f_Act_draw v_kind v_one v_other p1 = some (w_kind, w_one, w_other)) (sz : Nat) : Met l yX0_draw wsX0_draw ({ frames := 1, cells := 0, slots := 0, locals := 23 } : Room) (qPc ([.ref o, .int p1]) (dC, dI) (qT cI cZ cQ) ([(o, .inr (0, [.int v_kind, .int v_one, .int v_other]))]) sz) (qWv (dC, dI) ([(o, .inr (0, [.int w_kind, .int w_one, .int w_other]))]) (va_A ([(o, .inr (0, [.int v_kind, .int v_one, .int v_other]))]) sz)) 0 0 (va_A ([(o, .inr (0, [.int v_kind, .int v_one, .int v_other]))]) sz) := by
  refine q_met_w (Qc := fun A => qWv (dC, dI) ([(o, .inr (0, [.int w_kind, .int w_one, .int w_other]))]) A) (cc := cX0_draw) (own := RX0) (maxL := 3) (ret := none) (lv0 := [(0, .ref o), (1, .int p1)]) (by decide) rfl rfl rfl (Nat.le_of_ble_eq_true rfl) ?_
  intro p e s m args below meth c A hA C hr hnm Q hQ
  unfold f_Act_draw at hF
  refine q_iload_n C dX0_draw_0 1 rfl rfl ?_
  refine q_bipush (v := (8 : Int32)) C dX0_draw_1 (by decide) ?_
  refine q_idiv C dX0_draw_3 (by decide) ?_
  refine q_istore_n C ([(2, .int (p1 / (8 : Int32))), (0, .ref o), (1, .int p1)]) dX0_draw_4 rfl (by decide) rfl ?_
  refine q_iload_n C dX0_draw_5 2 rfl rfl ?_
  refine q_bipush (v := (8 : Int32)) C dX0_draw_6 (by decide) ?_
  refine q_irem C dX0_draw_8 (by decide) ?_
  by_cases c1 : (p1 - p1 / (8 : Int32) * (8 : Int32)) = (4 : Int32)
  · have hF := ite_t hF c1
    refine q_tab (tgt := 40) C dX0_draw_9 4 (by rw [c1]; decide) (by decide) (by decide) rfl (by decide) ?_
    refine q_aload_n C dX0_draw_40 1 rfl rfl ?_
    refine q_iconst (v := (1 : Int32)) C dX0_draw_41 (by decide) ?_
    refine q_iload_n C dX0_draw_42 0 rfl rfl ?_
    refine q_bipush (v := (6 : Int32)) C dX0_draw_43 (by decide) ?_
    refine q_irem C dX0_draw_45 (by decide) ?_
    refine q_iconst (v := (0 : Int32)) C dX0_draw_46 (by decide) ?_
    obtain ⟨⟨u2_kind, u2_one, u2_other⟩, hc3, hF⟩ := bind_c hF
    dsimp only at hF
    refine q_rwv hA ([(o, .inr (0, [.int u2_kind, .int u2_one, .int u2_other]))]) [0] [] rfl rfl rfl (by decide) [0] rfl rfl (q_runV (As := [.int (1 : Int32), .int ((p1 / (8 : Int32)) - (p1 / (8 : Int32)) / (6 : Int32) * (6 : Int32)), .int (0 : Int32)]) (rest := []) C (fun sz => c_X0_set l dC dI cI cZ cQ o v_kind v_one v_other (1 : Int32) ((p1 / (8 : Int32)) - (p1 / (8 : Int32)) / (6 : Int32) * (6 : Int32)) (0 : Int32) u2_kind u2_one u2_other hc3 sz) (cwV 3 C.2.2.2.2.1 gX0_draw_X0_set rfl rfl rfl (by decide +kernel) ⟨Nat.le_of_ble_eq_true rfl, Nat.le_of_ble_eq_true rfl⟩) 0 rfl rfl rfl [0] rfl rfl rfl rfl (Nat.le_of_ble_eq_true rfl) dX0_draw_47 ⟨Nat.zero_le _, Nat.zero_le _⟩) ?_
    refine q_goto (tgt := 105) C dX0_draw_50 (by decide) ?_
    cases hF
    exact q_wretv C hr dX0_draw_105 hQ
  · have hF := ite_f hF c1
    by_cases c4 : (p1 - p1 / (8 : Int32) * (8 : Int32)) = (5 : Int32)
    · have hF := ite_t hF c4
      refine q_tab (tgt := 53) C dX0_draw_9 5 (by rw [c4]; decide) (by decide) (by decide) rfl (by decide) ?_
      refine q_aload_n C dX0_draw_53 1 rfl rfl ?_
      refine q_iconst (v := (2 : Int32)) C dX0_draw_54 (by decide) ?_
      refine q_iload_n C dX0_draw_55 0 rfl rfl ?_
      refine q_bipush (v := (6 : Int32)) C dX0_draw_56 (by decide) ?_
      refine q_irem C dX0_draw_58 (by decide) ?_
      refine q_iconst (v := (0 : Int32)) C dX0_draw_59 (by decide) ?_
      obtain ⟨⟨u5_kind, u5_one, u5_other⟩, hc6, hF⟩ := bind_c hF
      dsimp only at hF
      refine q_rwv hA ([(o, .inr (0, [.int u5_kind, .int u5_one, .int u5_other]))]) [0] [] rfl rfl rfl (by decide) [0] rfl rfl (q_runV (As := [.int (2 : Int32), .int ((p1 / (8 : Int32)) - (p1 / (8 : Int32)) / (6 : Int32) * (6 : Int32)), .int (0 : Int32)]) (rest := []) C (fun sz => c_X0_set l dC dI cI cZ cQ o v_kind v_one v_other (2 : Int32) ((p1 / (8 : Int32)) - (p1 / (8 : Int32)) / (6 : Int32) * (6 : Int32)) (0 : Int32) u5_kind u5_one u5_other hc6 sz) (cwV 3 C.2.2.2.2.1 gX0_draw_X0_set rfl rfl rfl (by decide +kernel) ⟨Nat.le_of_ble_eq_true rfl, Nat.le_of_ble_eq_true rfl⟩) 0 rfl rfl rfl [0] rfl rfl rfl rfl (Nat.le_of_ble_eq_true rfl) dX0_draw_60 ⟨Nat.zero_le _, Nat.zero_le _⟩) ?_
      refine q_goto (tgt := 105) C dX0_draw_63 (by decide) ?_
      cases hF
      exact q_wretv C hr dX0_draw_105 hQ
    · have hF := ite_f hF c4
      by_cases c7 : (p1 - p1 / (8 : Int32) * (8 : Int32)) = (6 : Int32)
      · have hF := ite_t hF c7
        refine q_tab (tgt := 66) C dX0_draw_9 6 (by rw [c7]; decide) (by decide) (by decide) rfl (by decide) ?_
        refine q_aload_n C dX0_draw_66 1 rfl rfl ?_
        refine q_iconst (v := (3 : Int32)) C dX0_draw_67 (by decide) ?_
        refine q_iload_n C dX0_draw_68 0 rfl rfl ?_
        refine q_bipush (v := (6 : Int32)) C dX0_draw_69 (by decide) ?_
        refine q_irem C dX0_draw_71 (by decide) ?_
        refine q_iload_n C dX0_draw_72 0 rfl rfl ?_
        refine q_bipush (v := (6 : Int32)) C dX0_draw_73 (by decide) ?_
        refine q_idiv C dX0_draw_75 (by decide) ?_
        refine q_bipush (v := (6 : Int32)) C dX0_draw_76 (by decide) ?_
        refine q_irem C dX0_draw_78 (by decide) ?_
        obtain ⟨⟨u8_kind, u8_one, u8_other⟩, hc9, hF⟩ := bind_c hF
        dsimp only at hF
        refine q_rwv hA ([(o, .inr (0, [.int u8_kind, .int u8_one, .int u8_other]))]) [0] [] rfl rfl rfl (by decide) [0] rfl rfl (q_runV (As := [.int (3 : Int32), .int ((p1 / (8 : Int32)) - (p1 / (8 : Int32)) / (6 : Int32) * (6 : Int32)), .int (((p1 / (8 : Int32)) / (6 : Int32)) - ((p1 / (8 : Int32)) / (6 : Int32)) / (6 : Int32) * (6 : Int32))]) (rest := []) C (fun sz => c_X0_set l dC dI cI cZ cQ o v_kind v_one v_other (3 : Int32) ((p1 / (8 : Int32)) - (p1 / (8 : Int32)) / (6 : Int32) * (6 : Int32)) (((p1 / (8 : Int32)) / (6 : Int32)) - ((p1 / (8 : Int32)) / (6 : Int32)) / (6 : Int32) * (6 : Int32)) u8_kind u8_one u8_other hc9 sz) (cwV 3 C.2.2.2.2.1 gX0_draw_X0_set rfl rfl rfl (by decide +kernel) ⟨Nat.le_of_ble_eq_true rfl, Nat.le_of_ble_eq_true rfl⟩) 0 rfl rfl rfl [0] rfl rfl rfl rfl (Nat.le_of_ble_eq_true rfl) dX0_draw_79 ⟨Nat.zero_le _, Nat.zero_le _⟩) ?_
        refine q_goto (tgt := 105) C dX0_draw_82 (by decide) ?_
        cases hF
        exact q_wretv C hr dX0_draw_105 hQ
      · have hF := ite_f hF c7
        by_cases c10 : (p1 - p1 / (8 : Int32) * (8 : Int32)) = (7 : Int32)
        · have hF := ite_t hF c10
          refine q_tab (tgt := 85) C dX0_draw_9 7 (by rw [c10]; decide) (by decide) (by decide) rfl (by decide) ?_
          refine q_aload_n C dX0_draw_85 1 rfl rfl ?_
          refine q_iconst (v := (4 : Int32)) C dX0_draw_86 (by decide) ?_
          refine q_iconst (v := (0 : Int32)) C dX0_draw_87 (by decide) ?_
          refine q_iconst (v := (0 : Int32)) C dX0_draw_88 (by decide) ?_
          obtain ⟨⟨u11_kind, u11_one, u11_other⟩, hc12, hF⟩ := bind_c hF
          dsimp only at hF
          refine q_rwv hA ([(o, .inr (0, [.int u11_kind, .int u11_one, .int u11_other]))]) [0] [] rfl rfl rfl (by decide) [0] rfl rfl (q_runV (As := [.int (4 : Int32), .int (0 : Int32), .int (0 : Int32)]) (rest := []) C (fun sz => c_X0_set l dC dI cI cZ cQ o v_kind v_one v_other (4 : Int32) (0 : Int32) (0 : Int32) u11_kind u11_one u11_other hc12 sz) (cwV 3 C.2.2.2.2.1 gX0_draw_X0_set rfl rfl rfl (by decide +kernel) ⟨Nat.le_of_ble_eq_true rfl, Nat.le_of_ble_eq_true rfl⟩) 0 rfl rfl rfl [0] rfl rfl rfl rfl (Nat.le_of_ble_eq_true rfl) dX0_draw_89 ⟨Nat.zero_le _, Nat.zero_le _⟩) ?_
          refine q_goto (tgt := 105) C dX0_draw_92 (by decide) ?_
          cases hF
          exact q_wretv C hr dX0_draw_105 hQ
        · have hF := ite_f hF c10
          refine q_tabD (tgt := 95) C dX0_draw_9 (by have c1t := lv_neT c1 (show (4 : Int32).toInt = 4 by decide); have c4t := lv_neT c4 (show (5 : Int32).toInt = 5 by decide); have c7t := lv_neT c7 (show (6 : Int32).toInt = 6 by decide); have c10t := lv_neT c10 (show (7 : Int32).toInt = 7 by decide); omega) (by decide) ?_
          refine q_aload_n C dX0_draw_95 1 rfl rfl ?_
          refine q_iconst (v := (0 : Int32)) C dX0_draw_96 (by decide) ?_
          refine q_iload_n C dX0_draw_97 0 rfl rfl ?_
          refine q_bipush (v := (10 : Int32)) C dX0_draw_98 (by decide) ?_
          refine q_irem C dX0_draw_100 (by decide) ?_
          refine q_iconst (v := (0 : Int32)) C dX0_draw_101 (by decide) ?_
          obtain ⟨⟨u13_kind, u13_one, u13_other⟩, hc14, hF⟩ := bind_c hF
          dsimp only at hF
          refine q_rwv hA ([(o, .inr (0, [.int u13_kind, .int u13_one, .int u13_other]))]) [0] [] rfl rfl rfl (by decide) [0] rfl rfl (q_runV (As := [.int (0 : Int32), .int ((p1 / (8 : Int32)) - (p1 / (8 : Int32)) / (10 : Int32) * (10 : Int32)), .int (0 : Int32)]) (rest := []) C (fun sz => c_X0_set l dC dI cI cZ cQ o v_kind v_one v_other (0 : Int32) ((p1 / (8 : Int32)) - (p1 / (8 : Int32)) / (10 : Int32) * (10 : Int32)) (0 : Int32) u13_kind u13_one u13_other hc14 sz) (cwV 3 C.2.2.2.2.1 gX0_draw_X0_set rfl rfl rfl (by decide +kernel) ⟨Nat.le_of_ble_eq_true rfl, Nat.le_of_ble_eq_true rfl⟩) 0 rfl rfl rfl [0] rfl rfl rfl rfl (Nat.le_of_ble_eq_true rfl) dX0_draw_102 ⟨Nat.zero_le _, Nat.zero_le _⟩) ?_
          cases hF
          exact q_wretv C hr dX0_draw_105 hQ
set_option maxRecDepth 100000 in
set_option maxHeartbeats 4000000 in
theorem c_J7_fill_53178 (l : Launch) (dC : Nat → ClassId) (dI : Nat → Nat → Nat) (cI cZ cQ : ClassId) (b1 : Nat) (n1 : Nat) (v_a1 : Nat → Int32) (p2 : Int32) (w_a1 : Nat → Int32) (hF : f_Arrays_fill n1 v_a1 p2 = some w_a1) (sz : Nat) : Met l yJ7_fill_53178 wsJ7_fill_53178 ({ frames := 0, cells := 0, slots := 0, locals := 0 } : Room) (qPc ([.ref b1, .int p2]) (dC, dI) (qT cI cZ cQ) ([(b1, .inl (cI, n1, .inl v_a1))]) sz) (qWv (dC, dI) ([(b1, .inl (cI, n1, .inl w_a1))]) (va_A ([(b1, .inl (cI, n1, .inl v_a1))]) sz)) 0 0 (va_A ([(b1, .inl (cI, n1, .inl v_a1))]) sz) := by
  refine q_met_w (Qc := fun A => qWv (dC, dI) ([(b1, .inl (cI, n1, .inl w_a1))]) A) (cc := cJ7_fill_53178) (own := RJ7) (maxL := 4) (ret := none) (lv0 := [(0, .ref b1), (1, .int p2)]) (by decide) rfl rfl rfl (Nat.le_of_ble_eq_true rfl) ?_
  intro p e s m args below meth c A hA C hr hnm Q hQ
  have L1 : ∀ (n : Nat) (x1 : Int32) (x2 : Int32) (x3 : Int32) (v_a1 : Nat → Int32) (z_a1 : Nat → Int32), evr (fun s => b_Arrays_fill_1 n1 x1 x3 s.1 s.2) n (x2, v_a1) = some z_a1 → qG p l e ({ frames := 0, cells := 0, slots := 0, locals := 0 } : Room) s m args below meth c 4 (dC, dI) A A Q 0 0 ([]) [] ([(b1, .inl (cI, n1, .inl z_a1))]) 20 → qG p l e ({ frames := 0, cells := 0, slots := 0, locals := 0 } : Room) s m args below meth c 4 (dC, dI) A A Q 0 0 ([(0, .ref b1), (1, .int x1), (2, .int x2), (3, .int x3)]) [] ([(b1, .inl (cI, n1, .inl v_a1))]) 5 := by
    clear hF
    intro n
    induction n with
    | zero => intro x1 x2 x3 v_a1 z_a1 hF; exact (evr_0 hF).elim
    | succ n ih =>
      intro x1 x2 x3 v_a1 z_a1 hF hk
      obtain ⟨o9, hB, hn, hx⟩ := evr_c hF
      have hF : b_Arrays_fill_1 n1 x1 x3 x2 v_a1 = some o9 := hB
      unfold b_Arrays_fill_1 at hF
      refine q_iload_n C dJ7_fill_53178_5 2 rfl rfl ?_
      refine q_iload_n C dJ7_fill_53178_6 3 rfl rfl ?_
      refine q_icmp_ge (tgt := 20) C dJ7_fill_53178_7 (by decide) (fun c1 => ?_) (fun c1 => ?_)
      · have hF := ite_t hF c1
        cases hF
        have e2 := hx _ rfl
        cases e2
        refine q_lsel [] rfl ?_
        exact hk
      · have hF := ite_f hF c1
        refine q_aload_n C dJ7_fill_53178_10 0 rfl rfl ?_
        refine q_iload_n C dJ7_fill_53178_11 2 rfl rfl ?_
        refine q_iload_n C dJ7_fill_53178_12 1 rfl rfl ?_
        obtain ⟨hc3, hF⟩ := ite_c hF
        refine q_iast C 0 0 rfl rfl (ix_in hc3) ([(b1, .inl (cI, n1, .inl (upd v_a1 (x2).toNatClampNeg x1)))]) rfl dJ7_fill_53178_13 ?_
        refine q_iinc (v := (x2 + 1)) C ([(2, .int (x2 + 1)), (0, .ref b1), (1, .int x1), (3, .int x3)]) dJ7_fill_53178_14 2 rfl rfl (by decide) rfl ?_
        refine q_goto (tgt := 5) C dJ7_fill_53178_17 (by decide) ?_
        cases hF
        refine q_lsel [1, 2, 0, 3] rfl ?_
        exact ih x1 (x2 + 1) x3 (upd v_a1 (x2).toNatClampNeg x1) z_a1 (hn _ rfl) hk
  unfold f_Arrays_fill at hF
  refine q_iconst (v := (0 : Int32)) C dJ7_fill_53178_0 (by decide) ?_
  refine q_istore_n C ([(2, .int (0 : Int32)), (0, .ref b1), (1, .int p2)]) dJ7_fill_53178_1 rfl (by decide) rfl ?_
  refine q_aload_n C dJ7_fill_53178_2 1 rfl rfl ?_
  refine q_alen (v := (Int32.ofNat n1)) C 0 0 rfl rfl rfl dJ7_fill_53178_3 ?_
  refine q_istore_n C ([(3, .int (Int32.ofNat n1)), (2, .int (0 : Int32)), (0, .ref b1), (1, .int p2)]) dJ7_fill_53178_4 rfl (by decide) rfl ?_
  obtain ⟨z4_a1, hc5, hF⟩ := bind_c hF
  obtain ⟨n6, hc5⟩ := (ev_iff _ _ _).mp hc5
  refine q_lsel [2, 3, 1, 0] rfl ?_
  refine L1 n6 p2 (0 : Int32) (Int32.ofNat n1) v_a1 z4_a1 hc5 ?_
  cases hF
  exact q_wretv C hr dJ7_fill_53178_20 hQ
set_option maxRecDepth 100000 in
set_option maxHeartbeats 4000000 in
theorem c_X7_write (l : Launch) (dC : Nat → ClassId) (dI : Nat → Nat → Nat) (cI cZ cQ : ClassId) (o o_signs : Nat) (v_signs : Nat → Int32) (v_size : Int32) (p1 : Int32) (R : Int32) (w_signs : Nat → Int32) (w_size : Int32) (hF : f_Pad_write v_signs v_size p1 = some (R, w_signs, w_size)) (sz : Nat) : Met l yX7_write wsX7_write ({ frames := 0, cells := 0, slots := 0, locals := 0 } : Room) (qPc ([.ref o, .int p1]) (dC, dI) (qT cI cZ cQ) ([(o, .inr (7, [.ref o_signs, .int v_size])), (o_signs, .inl (cI, 60, .inl v_signs))]) sz) (qWz R (dC, dI) ([(o, .inr (7, [.ref o_signs, .int w_size])), (o_signs, .inl (cI, 60, .inl w_signs))]) (va_A ([(o, .inr (7, [.ref o_signs, .int v_size])), (o_signs, .inl (cI, 60, .inl v_signs))]) sz)) 0 0 (va_A ([(o, .inr (7, [.ref o_signs, .int v_size])), (o_signs, .inl (cI, 60, .inl v_signs))]) sz) := by
  refine q_met_w (Qc := fun A => qWz R (dC, dI) ([(o, .inr (7, [.ref o_signs, .int w_size])), (o_signs, .inl (cI, 60, .inl w_signs))]) A) (cc := cX7_write) (own := RX7) (maxL := 2) (ret := (some .boolean)) (lv0 := [(0, .ref o), (1, .int p1)]) (by decide) rfl rfl rfl (Nat.le_of_ble_eq_true rfl) ?_
  intro p e s m args below meth c A hA C hr hnm Q hQ
  have lk0 : Cond.fieldLink RX7 15 "SealStrait$Pad" "size" "I" ∈ wsX7_write := by decide +kernel
  have lk1 : ∀ w ∈ u_ws RX7 TX7 2, w ∈ wsX7_write := fun w h => List.mem_cons_of_mem _ (List.mem_append_right _ h)
  have lk2 : Cond.fieldLink RX7 11 "SealStrait$Pad" "signs" "[I" ∈ wsX7_write := by decide +kernel
  unfold f_Pad_write at hF
  refine q_aload_n C dX7_write_0 0 rfl rfl ?_
  refine q_get (C0 := RX7) (T := TX7) (N := 2) (k0 := 1) C lk1 0 rfl rfl (by decide) lk0 rfl (v := .int v_size) rfl dX7_write_1 ?_
  refine q_bipush (v := (60 : Int32)) C dX7_write_4 (by decide) ?_
  refine q_icmp_lt (tgt := 11) C dX7_write_6 (by decide) (fun c1 => ?_) (fun c1 => ?_)
  · have hF := ite_t hF c1
    refine q_aload_n C dX7_write_11 0 rfl rfl ?_
    refine q_get (C0 := RX7) (T := TX7) (N := 2) (k0 := 0) C lk1 0 rfl rfl (by decide) lk2 rfl (v := .ref o_signs) rfl dX7_write_12 ?_
    refine q_aload_n C dX7_write_15 0 rfl rfl ?_
    refine q_get (C0 := RX7) (T := TX7) (N := 2) (k0 := 1) C lk1 0 rfl rfl (by decide) lk0 rfl (v := .int v_size) rfl dX7_write_16 ?_
    refine q_iload_n C dX7_write_19 1 rfl rfl ?_
    obtain ⟨hc2, hF⟩ := ite_c hF
    refine q_iast C 1 0 rfl rfl (ix_in hc2) ([(o, .inr (7, [.ref o_signs, .int v_size])), (o_signs, .inl (cI, 60, .inl (upd v_signs (v_size).toNatClampNeg p1)))]) rfl dX7_write_20 ?_
    refine q_aload_n C dX7_write_21 0 rfl rfl ?_
    refine q_dup C dX7_write_22 rfl ?_
    refine q_get (C0 := RX7) (T := TX7) (N := 2) (k0 := 1) C lk1 0 rfl rfl (by decide) lk0 rfl (v := .int v_size) rfl dX7_write_23 ?_
    refine q_iconst (v := (1 : Int32)) C dX7_write_26 (by decide) ?_
    refine q_iadd C dX7_write_27 ?_
    refine q_put (C0 := RX7) (T := TX7) (N := 2) (k0 := 1) C lk1 0 rfl rfl (by decide) lk0 rfl tyX7 tyX7_ok nmX7 rfl (v := .int (v_size + (1 : Int32))) rfl rfl (Nat.le_of_ble_eq_true rfl) ([(o, .inr (7, [.ref o_signs, .int (v_size + (1 : Int32))])), (o_signs, .inl (cI, 60, .inl (upd v_signs (v_size).toNatClampNeg p1)))]) rfl dX7_write_28 ?_
    refine q_iconst (v := (1 : Int32)) C dX7_write_31 (by decide) ?_
    cases hF
    exact q_wretz C hr (Or.inr rfl) dX7_write_32 hQ
  · have hF := ite_f hF c1
    refine q_iconst (v := (0 : Int32)) C dX7_write_9 (by decide) ?_
    cases hF
    exact q_wretz C hr (Or.inl rfl) dX7_write_10 hQ
set_option maxRecDepth 100000 in
set_option maxHeartbeats 4000000 in
theorem c_X7_isClause (l : Launch) (dC : Nat → ClassId) (dI : Nat → Nat → Nat) (cI cZ cQ : ClassId) (p1 : Int32) (R : Int32) (hF : f_Pad_isClause p1 = R) (sz : Nat) : Met l yX7_isClause wsX7_isClause ({ frames := 1, cells := 0, slots := 0, locals := 22 } : Room) (qPc ([.int p1]) (dC, dI) (qT cI cZ cQ) ([]) sz) (qRz R) 0 0 (fun _ => False) := by
  refine q_met_r (cc := cX7_isClause) (own := RX7) (maxL := 1) (ret := (some .boolean)) (lv0 := [(0, .int p1)]) (by decide) rfl rfl rfl (Nat.le_of_ble_eq_true rfl) ?_
  intro p e s m args below meth c C hr A A' Q hA0 hQ
  have lk0 : Cond.initialized RX11 ∈ wsX7_isClause := by decide +kernel
  have lk1 : Cond.static yX11_within ∈ wsX7_isClause := by decide +kernel
  have lk2 : (RX7, 30, yX11_within) ∈ qNest := by decide +kernel
  unfold f_Pad_isClause at hF
  refine q_iload_n C dX7_isClause_0 0 rfl rfl ?_
  refine q_bipush (v := (97 : Int32)) C dX7_isClause_1 (by decide) ?_
  refine q_bipush (v := (106 : Int32)) C dX7_isClause_3 (by decide) ?_
  refine q_roz (q_runSN (As := [.int p1, .int (97 : Int32), .int (106 : Int32)]) (rest := []) (n := 3) C (fun sz => c_X11_within l dC dI cI cZ cQ p1 (97 : Int32) (106 : Int32) (f_Strait_within p1 (97 : Int32) (106 : Int32)) rfl sz) gX7_isClause_X11_within_n30 rfl rfl rfl lk2 lk0 lk1 (by decide +kernel) ⟨Nat.le_of_ble_eq_true rfl, Nat.le_of_ble_eq_true rfl⟩ [] rfl rfl rfl rfl (Nat.le_of_ble_eq_true rfl) dX7_isClause_5 ⟨Nat.zero_le _, Nat.zero_le _⟩) (fun hz1 => ?_)
  subst hF
  exact q_iretz C hA0 hr hz1 dX7_isClause_8 hQ
set_option maxRecDepth 100000 in
set_option maxHeartbeats 4000000 in
theorem c_X7_awaitedBehind (l : Launch) (dC : Nat → ClassId) (dI : Nat → Nat → Nat) (cI cZ cQ : ClassId) (p1 : Int32) (p2 : Int32) (R : Int32) (hF : f_Pad_awaitedBehind p1 p2 = R) (sz : Nat) : Met l yX7_awaitedBehind wsX7_awaitedBehind ({ frames := 2, cells := 0, slots := 0, locals := 42 } : Room) (qPc ([.int p1, .int p2]) (dC, dI) (qT cI cZ cQ) ([]) sz) (qRi R) 0 0 (fun _ => False) := by
  refine q_met_r (cc := cX7_awaitedBehind) (own := RX7) (maxL := 2) (ret := (some .int)) (lv0 := [(0, .int p1), (1, .int p2)]) (by decide) rfl rfl rfl (Nat.le_of_ble_eq_true rfl) ?_
  intro p e s m args below meth c C hr A A' Q hA0 hQ
  unfold f_Pad_awaitedBehind at hF
  refine q_iload_n C dX7_awaitedBehind_0 0 rfl rfl ?_
  refine q_if_ne (tgt := 32) C dX7_awaitedBehind_1 (by decide) (fun c1 => ?_) (fun c1 => ?_)
  · have hF := ite_f hF c1
    refine q_iload_n C dX7_awaitedBehind_32 0 rfl rfl ?_
    refine q_iconst (v := (1 : Int32)) C dX7_awaitedBehind_33 (by decide) ?_
    refine q_icmp_ne (tgt := 63) C dX7_awaitedBehind_34 (by decide) (fun c2 => ?_) (fun c2 => ?_)
    · have hF := ite_f hF c2
      refine q_iload_n C dX7_awaitedBehind_63 1 rfl rfl ?_
      refine q_roz (q_runS (As := [.int p2]) (rest := []) C (fun sz => c_X7_isHerd l dC dI cI cZ cQ p2 (f_Pad_isHerd p2) rfl sz) (va_cwS 1 C.2.2.2.2.1 gX7_awaitedBehind_X7_isHerd rfl rfl rfl (by decide +kernel) ⟨Nat.le_of_ble_eq_true rfl, Nat.le_of_ble_eq_true rfl⟩) [] rfl rfl rfl rfl (Nat.le_of_ble_eq_true rfl) dX7_awaitedBehind_64 ⟨Nat.zero_le _, Nat.zero_le _⟩) (fun hz3 => ?_)
      refine q_if_eq (tgt := 74) C dX7_awaitedBehind_67 (by decide) (fun c4 => ?_) (fun c4 => ?_)
      · have hF := ite_t hF c4
        refine q_iconst (v := (3 : Int32)) C dX7_awaitedBehind_74 (by decide) ?_
        subst hF
        exact q_ireti C hA0 hr dX7_awaitedBehind_75 hQ
      · have hF := ite_f hF c4
        refine q_iconst (v := (0 : Int32)) C dX7_awaitedBehind_70 (by decide) ?_
        refine q_goto (tgt := 75) C dX7_awaitedBehind_71 (by decide) ?_
        subst hF
        exact q_ireti C hA0 hr dX7_awaitedBehind_75 hQ
    · have hF := ite_t hF c2
      refine q_iload_n C dX7_awaitedBehind_37 1 rfl rfl ?_
      refine q_bipush (v := (38 : Int32)) C dX7_awaitedBehind_38 (by decide) ?_
      refine q_icmp_ne (tgt := 45) C dX7_awaitedBehind_40 (by decide) (fun c5 => ?_) (fun c5 => ?_)
      · have hF := ite_f hF c5
        refine q_iload_n C dX7_awaitedBehind_45 1 rfl rfl ?_
        refine q_bipush (v := (63 : Int32)) C dX7_awaitedBehind_46 (by decide) ?_
        refine q_icmp_eq (tgt := 57) C dX7_awaitedBehind_48 (by decide) (fun c6 => ?_) (fun c6 => ?_)
        · have hF := ite_t hF c6
          refine q_iconst (v := (0 : Int32)) C dX7_awaitedBehind_57 (by decide) ?_
          refine q_goto (tgt := 62) C dX7_awaitedBehind_58 (by decide) ?_
          subst hF
          exact q_ireti C hA0 hr dX7_awaitedBehind_62 hQ
        · have hF := ite_f hF c6
          refine q_iload_n C dX7_awaitedBehind_51 1 rfl rfl ?_
          refine q_bipush (v := (33 : Int32)) C dX7_awaitedBehind_52 (by decide) ?_
          refine q_icmp_ne (tgt := 61) C dX7_awaitedBehind_54 (by decide) (fun c7 => ?_) (fun c7 => ?_)
          · have hF := ite_f hF c7
            refine q_iconst (v := (3 : Int32)) C dX7_awaitedBehind_61 (by decide) ?_
            subst hF
            exact q_ireti C hA0 hr dX7_awaitedBehind_62 hQ
          · have hF := ite_t hF c7
            refine q_iconst (v := (0 : Int32)) C dX7_awaitedBehind_57 (by decide) ?_
            refine q_goto (tgt := 62) C dX7_awaitedBehind_58 (by decide) ?_
            subst hF
            exact q_ireti C hA0 hr dX7_awaitedBehind_62 hQ
      · have hF := ite_t hF c5
        refine q_iconst (v := (2 : Int32)) C dX7_awaitedBehind_43 (by decide) ?_
        subst hF
        exact q_ireti C hA0 hr dX7_awaitedBehind_44 hQ
  · have hF := ite_t hF c1
    refine q_iload_n C dX7_awaitedBehind_4 1 rfl rfl ?_
    refine q_roz (q_runS (As := [.int p2]) (rest := []) C (fun sz => c_X7_isHerd l dC dI cI cZ cQ p2 (f_Pad_isHerd p2) rfl sz) (va_cwS 1 C.2.2.2.2.1 gX7_awaitedBehind_X7_isHerd rfl rfl rfl (by decide +kernel) ⟨Nat.le_of_ble_eq_true rfl, Nat.le_of_ble_eq_true rfl⟩) [] rfl rfl rfl rfl (Nat.le_of_ble_eq_true rfl) dX7_awaitedBehind_5 ⟨Nat.zero_le _, Nat.zero_le _⟩) (fun hz8 => ?_)
    refine q_if_eq (tgt := 13) C dX7_awaitedBehind_8 (by decide) (fun c9 => ?_) (fun c9 => ?_)
    · have hF := ite_t hF c9
      refine q_iload_n C dX7_awaitedBehind_13 1 rfl rfl ?_
      refine q_roz (q_runS (As := [.int p2]) (rest := []) C (fun sz => c_X7_isClause l dC dI cI cZ cQ p2 (f_Pad_isClause p2) rfl sz) (va_cwS 1 C.2.2.2.2.1 gX7_awaitedBehind_X7_isClause rfl rfl rfl (by decide +kernel) ⟨Nat.le_of_ble_eq_true rfl, Nat.le_of_ble_eq_true rfl⟩) [] rfl rfl rfl rfl (Nat.le_of_ble_eq_true rfl) dX7_awaitedBehind_14 ⟨Nat.zero_le _, Nat.zero_le _⟩) (fun hz10 => ?_)
      refine q_if_ne (tgt := 26) C dX7_awaitedBehind_17 (by decide) (fun c11 => ?_) (fun c11 => ?_)
      · have hF := ite_f hF c11
        refine q_iconst (v := (0 : Int32)) C dX7_awaitedBehind_26 (by decide) ?_
        refine q_goto (tgt := 31) C dX7_awaitedBehind_27 (by decide) ?_
        subst hF
        exact q_ireti C hA0 hr dX7_awaitedBehind_31 hQ
      · have hF := ite_t hF c11
        refine q_iload_n C dX7_awaitedBehind_20 1 rfl rfl ?_
        refine q_bipush (v := (46 : Int32)) C dX7_awaitedBehind_21 (by decide) ?_
        refine q_icmp_ne (tgt := 30) C dX7_awaitedBehind_23 (by decide) (fun c12 => ?_) (fun c12 => ?_)
        · have hF := ite_f hF c12
          refine q_iconst (v := (3 : Int32)) C dX7_awaitedBehind_30 (by decide) ?_
          subst hF
          exact q_ireti C hA0 hr dX7_awaitedBehind_31 hQ
        · have hF := ite_t hF c12
          refine q_iconst (v := (0 : Int32)) C dX7_awaitedBehind_26 (by decide) ?_
          refine q_goto (tgt := 31) C dX7_awaitedBehind_27 (by decide) ?_
          subst hF
          exact q_ireti C hA0 hr dX7_awaitedBehind_31 hQ
    · have hF := ite_f hF c9
      refine q_iconst (v := (1 : Int32)) C dX7_awaitedBehind_11 (by decide) ?_
      subst hF
      exact q_ireti C hA0 hr dX7_awaitedBehind_12 hQ
set_option maxRecDepth 100000 in
set_option maxHeartbeats 4000000 in
theorem c_X7_faultPlace (l : Launch) (dC : Nat → ClassId) (dI : Nat → Nat → Nat) (cI cZ cQ : ClassId) (o o_signs : Nat) (v_signs : Nat → Int32) (v_size : Int32) (R : Int32) (hF : f_Pad_faultPlace v_signs v_size = some R) (sz : Nat) : Met l yX7_faultPlace wsX7_faultPlace ({ frames := 3, cells := 0, slots := 0, locals := 63 } : Room) (qPc ([.ref o]) (dC, dI) (qT cI cZ cQ) ([(o, .inr (7, [.ref o_signs, .int v_size])), (o_signs, .inl (cI, 60, .inl v_signs))]) sz) (qRi R) 0 0 (fun _ => False) := by
  refine q_met_r (cc := cX7_faultPlace) (own := RX7) (maxL := 3) (ret := (some .int)) (lv0 := [(0, .ref o)]) (by decide) rfl rfl rfl (Nat.le_of_ble_eq_true rfl) ?_
  intro p e s m args below meth c C hr A A' Q hA0 hQ
  have lk0 : Cond.fieldLink RX7 15 "SealStrait$Pad" "size" "I" ∈ wsX7_faultPlace := by decide +kernel
  have lk1 : ∀ w ∈ u_ws RX7 TX7 2, w ∈ wsX7_faultPlace := fun w h => List.mem_cons_of_mem _ (List.mem_append_right _ h)
  have lk2 : Cond.fieldLink RX7 11 "SealStrait$Pad" "signs" "[I" ∈ wsX7_faultPlace := by decide +kernel
  have L1 : ∀ (n : Nat) (x1 : Int32) (x2 : Int32) (v_signs : Nat → Int32) (v_size : Int32), evr (fun s => b_Pad_faultPlace_1 v_signs v_size s.1 s.2) n (x1, x2) = some R → qG p l e ({ frames := 3, cells := 0, slots := 0, locals := 63 } : Room) s m args below meth c 3 (dC, dI) A A' Q 0 0 ([(0, .ref o), (1, .int x1), (2, .int x2)]) [] ([(o, .inr (7, [.ref o_signs, .int v_size])), (o_signs, .inl (cI, 60, .inl v_signs))]) 4 := by
    clear hF
    intro n
    induction n with
    | zero => intro x1 x2 v_signs v_size  hF; exact (evr_0 hF).elim
    | succ n ih =>
      intro x1 x2 v_signs v_size  hF
      obtain ⟨o9, hB, hn, hx⟩ := evr_c hF
      have hF : b_Pad_faultPlace_1 v_signs v_size x1 x2 = some o9 := hB
      unfold b_Pad_faultPlace_1 at hF
      refine q_iload_n C dX7_faultPlace_4 2 rfl rfl ?_
      refine q_aload_n C dX7_faultPlace_5 0 rfl rfl ?_
      refine q_get (C0 := RX7) (T := TX7) (N := 2) (k0 := 1) C lk1 0 rfl rfl (by decide) lk0 rfl (v := .int v_size) rfl dX7_faultPlace_6 ?_
      refine q_icmp_ge (tgt := 42) C dX7_faultPlace_9 (by decide) (fun c1 => ?_) (fun c1 => ?_)
      · have hF := ite_t hF c1
        refine q_iload_n C dX7_faultPlace_42 1 rfl rfl ?_
        refine q_if_ne (tgt := 51) C dX7_faultPlace_43 (by decide) (fun c2 => ?_) (fun c2 => ?_)
        · have hF := ite_f hF c2
          refine q_aload_n C dX7_faultPlace_51 0 rfl rfl ?_
          refine q_get (C0 := RX7) (T := TX7) (N := 2) (k0 := 1) C lk1 0 rfl rfl (by decide) lk0 rfl (v := .int v_size) rfl dX7_faultPlace_52 ?_
          cases hF
          have e3 := hx _ rfl
          cases e3
          exact q_ireti C hA0 hr dX7_faultPlace_55 hQ
        · have hF := ite_t hF c2
          refine q_bipush (v := (-6 : Int32)) C dX7_faultPlace_46 (by decide) ?_
          refine q_goto (tgt := 55) C dX7_faultPlace_48 (by decide) ?_
          cases hF
          have e4 := hx _ rfl
          cases e4
          exact q_ireti C hA0 hr dX7_faultPlace_55 hQ
      · have hF := ite_f hF c1
        refine q_iload_n C dX7_faultPlace_12 2 rfl rfl ?_
        refine q_bipush (v := (60 : Int32)) C dX7_faultPlace_13 (by decide) ?_
        refine q_icmp_ge (tgt := 42) C dX7_faultPlace_15 (by decide) (fun c5 => ?_) (fun c5 => ?_)
        · have hF := ite_t hF c5
          refine q_iload_n C dX7_faultPlace_42 1 rfl rfl ?_
          refine q_if_ne (tgt := 51) C dX7_faultPlace_43 (by decide) (fun c6 => ?_) (fun c6 => ?_)
          · have hF := ite_f hF c6
            refine q_aload_n C dX7_faultPlace_51 0 rfl rfl ?_
            refine q_get (C0 := RX7) (T := TX7) (N := 2) (k0 := 1) C lk1 0 rfl rfl (by decide) lk0 rfl (v := .int v_size) rfl dX7_faultPlace_52 ?_
            cases hF
            have e7 := hx _ rfl
            cases e7
            exact q_ireti C hA0 hr dX7_faultPlace_55 hQ
          · have hF := ite_t hF c6
            refine q_bipush (v := (-6 : Int32)) C dX7_faultPlace_46 (by decide) ?_
            refine q_goto (tgt := 55) C dX7_faultPlace_48 (by decide) ?_
            cases hF
            have e8 := hx _ rfl
            cases e8
            exact q_ireti C hA0 hr dX7_faultPlace_55 hQ
        · have hF := ite_f hF c5
          refine q_iload_n C dX7_faultPlace_18 1 rfl rfl ?_
          refine q_aload_n C dX7_faultPlace_19 0 rfl rfl ?_
          refine q_get (C0 := RX7) (T := TX7) (N := 2) (k0 := 0) C lk1 0 rfl rfl (by decide) lk2 rfl (v := .ref o_signs) rfl dX7_faultPlace_20 ?_
          refine q_iload_n C dX7_faultPlace_23 2 rfl rfl ?_
          obtain ⟨hc9, hF⟩ := ite_c hF
          refine q_iald C 1 0 rfl rfl (ix_in hc9) dX7_faultPlace_24 ?_
          refine q_roi (q_runS (As := [.int x1, .int (v_signs (x2).toNatClampNeg)]) (rest := []) C (fun sz => c_X7_awaitedBehind l dC dI cI cZ cQ x1 (v_signs (x2).toNatClampNeg) (f_Pad_awaitedBehind x1 (v_signs (x2).toNatClampNeg)) rfl sz) (va_cwS 2 C.2.2.2.2.1 gX7_faultPlace_X7_awaitedBehind rfl rfl rfl (by decide +kernel) ⟨Nat.le_of_ble_eq_true rfl, Nat.le_of_ble_eq_true rfl⟩) [] rfl rfl rfl rfl (Nat.le_of_ble_eq_true rfl) dX7_faultPlace_25 ⟨Nat.zero_le _, Nat.zero_le _⟩) ?_
          refine q_istore_n C ([(1, .int (f_Pad_awaitedBehind x1 (v_signs (x2).toNatClampNeg))), (0, .ref o), (2, .int x2)]) dX7_faultPlace_28 rfl (by decide) rfl ?_
          refine q_iload_n C dX7_faultPlace_29 0 rfl rfl ?_
          refine q_iconst (v := (3 : Int32)) C dX7_faultPlace_30 (by decide) ?_
          refine q_icmp_ne (tgt := 36) C dX7_faultPlace_31 (by decide) (fun c11 => ?_) (fun c11 => ?_)
          · have hF := ite_f hF c11
            refine q_iinc (v := (x2 + 1)) C ([(2, .int (x2 + 1)), (1, .int (f_Pad_awaitedBehind x1 (v_signs (x2).toNatClampNeg))), (0, .ref o)]) dX7_faultPlace_36 2 rfl rfl (by decide) rfl ?_
            refine q_goto (tgt := 4) C dX7_faultPlace_39 (by decide) ?_
            cases hF
            refine q_lsel [2, 1, 0] rfl ?_
            exact ih (f_Pad_awaitedBehind x1 (v_signs (x2).toNatClampNeg)) (x2 + 1) v_signs v_size (hn _ rfl)
          · have hF := ite_t hF c11
            refine q_iload_n C dX7_faultPlace_34 2 rfl rfl ?_
            cases hF
            have e12 := hx _ rfl
            cases e12
            exact q_ireti C hA0 hr dX7_faultPlace_35 hQ
  unfold f_Pad_faultPlace at hF
  refine q_iconst (v := (0 : Int32)) C dX7_faultPlace_0 (by decide) ?_
  refine q_istore_n C ([(1, .int (0 : Int32)), (0, .ref o)]) dX7_faultPlace_1 rfl (by decide) rfl ?_
  refine q_iconst (v := (0 : Int32)) C dX7_faultPlace_2 (by decide) ?_
  refine q_istore_n C ([(2, .int (0 : Int32)), (1, .int (0 : Int32)), (0, .ref o)]) dX7_faultPlace_3 rfl (by decide) rfl ?_
  obtain ⟨n13, hF⟩ := (ev_iff _ _ _).mp hF
  refine q_lsel [2, 1, 0] rfl ?_
  exact L1 n13 (0 : Int32) (0 : Int32) v_signs v_size hF
set_option maxRecDepth 100000 in
set_option maxHeartbeats 4000000 in
theorem c_J6_bitCount_0f7a4 (l : Launch) (dC : Nat → ClassId) (dI : Nat → Nat → Nat) (cI cZ cQ : ClassId) (p1 : Int32) (R : Int32) (hF : f_Integer_bitCount p1 = R) (sz : Nat) : Met l yJ6_bitCount_0f7a4 wsJ6_bitCount_0f7a4 ({ frames := 0, cells := 0, slots := 0, locals := 0 } : Room) (qPc ([.int p1]) (dC, dI) (qT cI cZ cQ) ([]) sz) (qRi R) 0 0 (fun _ => False) := by
  refine q_met_r (cc := cJ6_bitCount_0f7a4) (own := RJ6) (maxL := 1) (ret := (some .int)) (lv0 := [(0, .int p1)]) (by decide) rfl rfl rfl (Nat.le_of_ble_eq_true rfl) ?_
  intro p e s m args below meth c C hr A A' Q hA0 hQ
  have lk0 : Cond.constant RJ6 265 (1431655765 : Int32) ∈ wsJ6_bitCount_0f7a4 := by decide +kernel
  have lk1 : Cond.constant RJ6 266 (858993459 : Int32) ∈ wsJ6_bitCount_0f7a4 := by decide +kernel
  have lk2 : Cond.constant RJ6 267 (252645135 : Int32) ∈ wsJ6_bitCount_0f7a4 := by decide +kernel
  unfold f_Integer_bitCount at hF
  refine q_iload_n C dJ6_bitCount_0f7a4_0 0 rfl rfl ?_
  refine q_iload_n C dJ6_bitCount_0f7a4_1 0 rfl rfl ?_
  refine q_iconst (v := (1 : Int32)) C dJ6_bitCount_0f7a4_2 (by decide) ?_
  refine q_iushr C dJ6_bitCount_0f7a4_3 ?_
  refine q_ldcw (v := (1431655765 : Int32)) C lk0 dJ6_bitCount_0f7a4_4 ?_
  refine q_iand C dJ6_bitCount_0f7a4_7 ?_
  refine q_isub C dJ6_bitCount_0f7a4_8 ?_
  refine q_istore_n C ([(0, .int (p1 - ((((p1).toUInt32 >>> (((1 : Int32)).toUInt32 &&& Int32.toUInt32 31)).toInt32) &&& (1431655765 : Int32))))]) dJ6_bitCount_0f7a4_9 rfl (by decide) rfl ?_
  refine q_iload_n C dJ6_bitCount_0f7a4_10 0 rfl rfl ?_
  refine q_ldcw (v := (858993459 : Int32)) C lk1 dJ6_bitCount_0f7a4_11 ?_
  refine q_iand C dJ6_bitCount_0f7a4_14 ?_
  refine q_iload_n C dJ6_bitCount_0f7a4_15 0 rfl rfl ?_
  refine q_iconst (v := (2 : Int32)) C dJ6_bitCount_0f7a4_16 (by decide) ?_
  refine q_iushr C dJ6_bitCount_0f7a4_17 ?_
  refine q_ldcw (v := (858993459 : Int32)) C lk1 dJ6_bitCount_0f7a4_18 ?_
  refine q_iand C dJ6_bitCount_0f7a4_21 ?_
  refine q_iadd C dJ6_bitCount_0f7a4_22 ?_
  refine q_istore_n C ([(0, .int (((p1 - ((((p1).toUInt32 >>> (((1 : Int32)).toUInt32 &&& Int32.toUInt32 31)).toInt32) &&& (1431655765 : Int32))) &&& (858993459 : Int32)) + (((((p1 - ((((p1).toUInt32 >>> (((1 : Int32)).toUInt32 &&& Int32.toUInt32 31)).toInt32) &&& (1431655765 : Int32)))).toUInt32 >>> (((2 : Int32)).toUInt32 &&& Int32.toUInt32 31)).toInt32) &&& (858993459 : Int32))))]) dJ6_bitCount_0f7a4_23 rfl (by decide) rfl ?_
  refine q_iload_n C dJ6_bitCount_0f7a4_24 0 rfl rfl ?_
  refine q_iload_n C dJ6_bitCount_0f7a4_25 0 rfl rfl ?_
  refine q_iconst (v := (4 : Int32)) C dJ6_bitCount_0f7a4_26 (by decide) ?_
  refine q_iushr C dJ6_bitCount_0f7a4_27 ?_
  refine q_iadd C dJ6_bitCount_0f7a4_28 ?_
  refine q_ldcw (v := (252645135 : Int32)) C lk2 dJ6_bitCount_0f7a4_29 ?_
  refine q_iand C dJ6_bitCount_0f7a4_32 ?_
  refine q_istore_n C ([(0, .int (((((p1 - ((((p1).toUInt32 >>> (((1 : Int32)).toUInt32 &&& Int32.toUInt32 31)).toInt32) &&& (1431655765 : Int32))) &&& (858993459 : Int32)) + (((((p1 - ((((p1).toUInt32 >>> (((1 : Int32)).toUInt32 &&& Int32.toUInt32 31)).toInt32) &&& (1431655765 : Int32)))).toUInt32 >>> (((2 : Int32)).toUInt32 &&& Int32.toUInt32 31)).toInt32) &&& (858993459 : Int32))) + ((((((p1 - ((((p1).toUInt32 >>> (((1 : Int32)).toUInt32 &&& Int32.toUInt32 31)).toInt32) &&& (1431655765 : Int32))) &&& (858993459 : Int32)) + (((((p1 - ((((p1).toUInt32 >>> (((1 : Int32)).toUInt32 &&& Int32.toUInt32 31)).toInt32) &&& (1431655765 : Int32)))).toUInt32 >>> (((2 : Int32)).toUInt32 &&& Int32.toUInt32 31)).toInt32) &&& (858993459 : Int32)))).toUInt32 >>> (((4 : Int32)).toUInt32 &&& Int32.toUInt32 31)).toInt32)) &&& (252645135 : Int32)))]) dJ6_bitCount_0f7a4_33 rfl (by decide) rfl ?_
  refine q_iload_n C dJ6_bitCount_0f7a4_34 0 rfl rfl ?_
  refine q_iload_n C dJ6_bitCount_0f7a4_35 0 rfl rfl ?_
  refine q_bipush (v := (8 : Int32)) C dJ6_bitCount_0f7a4_36 (by decide) ?_
  refine q_iushr C dJ6_bitCount_0f7a4_38 ?_
  refine q_iadd C dJ6_bitCount_0f7a4_39 ?_
  refine q_istore_n C ([(0, .int ((((((p1 - ((((p1).toUInt32 >>> (((1 : Int32)).toUInt32 &&& Int32.toUInt32 31)).toInt32) &&& (1431655765 : Int32))) &&& (858993459 : Int32)) + (((((p1 - ((((p1).toUInt32 >>> (((1 : Int32)).toUInt32 &&& Int32.toUInt32 31)).toInt32) &&& (1431655765 : Int32)))).toUInt32 >>> (((2 : Int32)).toUInt32 &&& Int32.toUInt32 31)).toInt32) &&& (858993459 : Int32))) + ((((((p1 - ((((p1).toUInt32 >>> (((1 : Int32)).toUInt32 &&& Int32.toUInt32 31)).toInt32) &&& (1431655765 : Int32))) &&& (858993459 : Int32)) + (((((p1 - ((((p1).toUInt32 >>> (((1 : Int32)).toUInt32 &&& Int32.toUInt32 31)).toInt32) &&& (1431655765 : Int32)))).toUInt32 >>> (((2 : Int32)).toUInt32 &&& Int32.toUInt32 31)).toInt32) &&& (858993459 : Int32)))).toUInt32 >>> (((4 : Int32)).toUInt32 &&& Int32.toUInt32 31)).toInt32)) &&& (252645135 : Int32)) + ((((((((p1 - ((((p1).toUInt32 >>> (((1 : Int32)).toUInt32 &&& Int32.toUInt32 31)).toInt32) &&& (1431655765 : Int32))) &&& (858993459 : Int32)) + (((((p1 - ((((p1).toUInt32 >>> (((1 : Int32)).toUInt32 &&& Int32.toUInt32 31)).toInt32) &&& (1431655765 : Int32)))).toUInt32 >>> (((2 : Int32)).toUInt32 &&& Int32.toUInt32 31)).toInt32) &&& (858993459 : Int32))) + ((((((p1 - ((((p1).toUInt32 >>> (((1 : Int32)).toUInt32 &&& Int32.toUInt32 31)).toInt32) &&& (1431655765 : Int32))) &&& (858993459 : Int32)) + (((((p1 - ((((p1).toUInt32 >>> (((1 : Int32)).toUInt32 &&& Int32.toUInt32 31)).toInt32) &&& (1431655765 : Int32)))).toUInt32 >>> (((2 : Int32)).toUInt32 &&& Int32.toUInt32 31)).toInt32) &&& (858993459 : Int32)))).toUInt32 >>> (((4 : Int32)).toUInt32 &&& Int32.toUInt32 31)).toInt32)) &&& (252645135 : Int32))).toUInt32 >>> (((8 : Int32)).toUInt32 &&& Int32.toUInt32 31)).toInt32)))]) dJ6_bitCount_0f7a4_40 rfl (by decide) rfl ?_
  refine q_iload_n C dJ6_bitCount_0f7a4_41 0 rfl rfl ?_
  refine q_iload_n C dJ6_bitCount_0f7a4_42 0 rfl rfl ?_
  refine q_bipush (v := (16 : Int32)) C dJ6_bitCount_0f7a4_43 (by decide) ?_
  refine q_iushr C dJ6_bitCount_0f7a4_45 ?_
  refine q_iadd C dJ6_bitCount_0f7a4_46 ?_
  refine q_istore_n C ([(0, .int (((((((p1 - ((((p1).toUInt32 >>> (((1 : Int32)).toUInt32 &&& Int32.toUInt32 31)).toInt32) &&& (1431655765 : Int32))) &&& (858993459 : Int32)) + (((((p1 - ((((p1).toUInt32 >>> (((1 : Int32)).toUInt32 &&& Int32.toUInt32 31)).toInt32) &&& (1431655765 : Int32)))).toUInt32 >>> (((2 : Int32)).toUInt32 &&& Int32.toUInt32 31)).toInt32) &&& (858993459 : Int32))) + ((((((p1 - ((((p1).toUInt32 >>> (((1 : Int32)).toUInt32 &&& Int32.toUInt32 31)).toInt32) &&& (1431655765 : Int32))) &&& (858993459 : Int32)) + (((((p1 - ((((p1).toUInt32 >>> (((1 : Int32)).toUInt32 &&& Int32.toUInt32 31)).toInt32) &&& (1431655765 : Int32)))).toUInt32 >>> (((2 : Int32)).toUInt32 &&& Int32.toUInt32 31)).toInt32) &&& (858993459 : Int32)))).toUInt32 >>> (((4 : Int32)).toUInt32 &&& Int32.toUInt32 31)).toInt32)) &&& (252645135 : Int32)) + ((((((((p1 - ((((p1).toUInt32 >>> (((1 : Int32)).toUInt32 &&& Int32.toUInt32 31)).toInt32) &&& (1431655765 : Int32))) &&& (858993459 : Int32)) + (((((p1 - ((((p1).toUInt32 >>> (((1 : Int32)).toUInt32 &&& Int32.toUInt32 31)).toInt32) &&& (1431655765 : Int32)))).toUInt32 >>> (((2 : Int32)).toUInt32 &&& Int32.toUInt32 31)).toInt32) &&& (858993459 : Int32))) + ((((((p1 - ((((p1).toUInt32 >>> (((1 : Int32)).toUInt32 &&& Int32.toUInt32 31)).toInt32) &&& (1431655765 : Int32))) &&& (858993459 : Int32)) + (((((p1 - ((((p1).toUInt32 >>> (((1 : Int32)).toUInt32 &&& Int32.toUInt32 31)).toInt32) &&& (1431655765 : Int32)))).toUInt32 >>> (((2 : Int32)).toUInt32 &&& Int32.toUInt32 31)).toInt32) &&& (858993459 : Int32)))).toUInt32 >>> (((4 : Int32)).toUInt32 &&& Int32.toUInt32 31)).toInt32)) &&& (252645135 : Int32))).toUInt32 >>> (((8 : Int32)).toUInt32 &&& Int32.toUInt32 31)).toInt32)) + (((((((((p1 - ((((p1).toUInt32 >>> (((1 : Int32)).toUInt32 &&& Int32.toUInt32 31)).toInt32) &&& (1431655765 : Int32))) &&& (858993459 : Int32)) + (((((p1 - ((((p1).toUInt32 >>> (((1 : Int32)).toUInt32 &&& Int32.toUInt32 31)).toInt32) &&& (1431655765 : Int32)))).toUInt32 >>> (((2 : Int32)).toUInt32 &&& Int32.toUInt32 31)).toInt32) &&& (858993459 : Int32))) + ((((((p1 - ((((p1).toUInt32 >>> (((1 : Int32)).toUInt32 &&& Int32.toUInt32 31)).toInt32) &&& (1431655765 : Int32))) &&& (858993459 : Int32)) + (((((p1 - ((((p1).toUInt32 >>> (((1 : Int32)).toUInt32 &&& Int32.toUInt32 31)).toInt32) &&& (1431655765 : Int32)))).toUInt32 >>> (((2 : Int32)).toUInt32 &&& Int32.toUInt32 31)).toInt32) &&& (858993459 : Int32)))).toUInt32 >>> (((4 : Int32)).toUInt32 &&& Int32.toUInt32 31)).toInt32)) &&& (252645135 : Int32)) + ((((((((p1 - ((((p1).toUInt32 >>> (((1 : Int32)).toUInt32 &&& Int32.toUInt32 31)).toInt32) &&& (1431655765 : Int32))) &&& (858993459 : Int32)) + (((((p1 - ((((p1).toUInt32 >>> (((1 : Int32)).toUInt32 &&& Int32.toUInt32 31)).toInt32) &&& (1431655765 : Int32)))).toUInt32 >>> (((2 : Int32)).toUInt32 &&& Int32.toUInt32 31)).toInt32) &&& (858993459 : Int32))) + ((((((p1 - ((((p1).toUInt32 >>> (((1 : Int32)).toUInt32 &&& Int32.toUInt32 31)).toInt32) &&& (1431655765 : Int32))) &&& (858993459 : Int32)) + (((((p1 - ((((p1).toUInt32 >>> (((1 : Int32)).toUInt32 &&& Int32.toUInt32 31)).toInt32) &&& (1431655765 : Int32)))).toUInt32 >>> (((2 : Int32)).toUInt32 &&& Int32.toUInt32 31)).toInt32) &&& (858993459 : Int32)))).toUInt32 >>> (((4 : Int32)).toUInt32 &&& Int32.toUInt32 31)).toInt32)) &&& (252645135 : Int32))).toUInt32 >>> (((8 : Int32)).toUInt32 &&& Int32.toUInt32 31)).toInt32))).toUInt32 >>> (((16 : Int32)).toUInt32 &&& Int32.toUInt32 31)).toInt32)))]) dJ6_bitCount_0f7a4_47 rfl (by decide) rfl ?_
  refine q_iload_n C dJ6_bitCount_0f7a4_48 0 rfl rfl ?_
  refine q_bipush (v := (63 : Int32)) C dJ6_bitCount_0f7a4_49 (by decide) ?_
  refine q_iand C dJ6_bitCount_0f7a4_51 ?_
  subst hF
  exact q_ireti C hA0 hr dJ6_bitCount_0f7a4_52 hQ
