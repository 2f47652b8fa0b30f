set_option maxRecDepth 100000 in
set_option maxHeartbeats 4000000 in
theorem c_X11_herd (l : Launch) (dC : Nat → ClassId) (dI : Nat → Nat → Nat) (cI cZ cQ : ClassId) (o o_sea o_sea_heads o_sea_sides o_sea_moods o_sea_moults o_treaty o_lookout o_pad o_images o_trial o_bringing o_guess o_game o_fraction o_got : Nat) (v_sea_there : Int32) (v_sea_heads : Nat → Int32) (v_sea_sides : Nat → Int32) (v_sea_moods : Nat → Int32) (v_sea_moults : Nat → Int32) (v_sea_month : Int32) (v_sea_lost : Int32) (p1 : Int32) (p2 : Int32) (p3 : Int32) (p4 : Int32) (p5 : Int32) (R : Int32) (w_sea_there : Int32) (w_sea_heads : Nat → Int32) (w_sea_sides : Nat → Int32) (w_sea_moods : Nat → Int32) (w_sea_moults : Nat → Int32) (hF : f_Strait_herd v_sea_there v_sea_heads v_sea_sides v_sea_moods v_sea_moults p1 p2 p3 p4 p5 = some (R, w_sea_there, w_sea_heads, w_sea_sides, w_sea_moods, w_sea_moults)) (sz : Nat) : Met l yX11_herd wsX11_herd ({ frames := 2, cells := 0, slots := 0, locals := 47 } : Room) (qPc ([.ref o, .int p1, .int p2, .int p3, .int p4, .int p5]) (dC, dI) (qT cI cZ cQ) ([(o, .inr (11, [.ref o_sea, .ref o_treaty, .ref o_lookout, .ref o_pad, .ref o_images, .ref o_trial, .ref o_bringing, .ref o_guess, .ref o_game, .ref o_fraction, .ref o_got])), (o_sea, .inr (8, [.int v_sea_there, .int v_sea_month, .int v_sea_lost, .ref o_sea_heads, .ref o_sea_sides, .ref o_sea_moods, .ref o_sea_moults])), (o_sea_heads, .inl (cI, 6, .inl v_sea_heads)), (o_sea_sides, .inl (cI, 6, .inl v_sea_sides)), (o_sea_moods, .inl (cI, 6, .inl v_sea_moods)), (o_sea_moults, .inl (cI, 6, .inl v_sea_moults))]) sz) (qWi R (dC, dI) ([(o, .inr (11, [.ref o_sea, .ref o_treaty, .ref o_lookout, .ref o_pad, .ref o_images, .ref o_trial, .ref o_bringing, .ref o_guess, .ref o_game, .ref o_fraction, .ref o_got])), (o_sea, .inr (8, [.int w_sea_there, .int v_sea_month, .int v_sea_lost, .ref o_sea_heads, .ref o_sea_sides, .ref o_sea_moods, .ref o_sea_moults])), (o_sea_heads, .inl (cI, 6, .inl w_sea_heads)), (o_sea_sides, .inl (cI, 6, .inl w_sea_sides)), (o_sea_moods, .inl (cI, 6, .inl w_sea_moods)), (o_sea_moults, .inl (cI, 6, .inl w_sea_moults))]) (va_A ([(o, .inr (11, [.ref o_sea, .ref o_treaty, .ref o_lookout, .ref o_pad, .ref o_images, .ref o_trial, .ref o_bringing, .ref o_guess, .ref o_game, .ref o_fraction, .ref o_got])), (o_sea, .inr (8, [.int v_sea_there, .int v_sea_month, .int v_sea_lost, .ref o_sea_heads, .ref o_sea_sides, .ref o_sea_moods, .ref o_sea_moults])), (o_sea_heads, .inl (cI, 6, .inl v_sea_heads)), (o_sea_sides, .inl (cI, 6, .inl v_sea_sides)), (o_sea_moods, .inl (cI, 6, .inl v_sea_moods)), (o_sea_moults, .inl (cI, 6, .inl v_sea_moults))]) sz)) 0 0 (va_A ([(o, .inr (11, [.ref o_sea, .ref o_treaty, .ref o_lookout, .ref o_pad, .ref o_images, .ref o_trial, .ref o_bringing, .ref o_guess, .ref o_game, .ref o_fraction, .ref o_got])), (o_sea, .inr (8, [.int v_sea_there, .int v_sea_month, .int v_sea_lost, .ref o_sea_heads, .ref o_sea_sides, .ref o_sea_moods, .ref o_sea_moults])), (o_sea_heads, .inl (cI, 6, .inl v_sea_heads)), (o_sea_sides, .inl (cI, 6, .inl v_sea_sides)), (o_sea_moods, .inl (cI, 6, .inl v_sea_moods)), (o_sea_moults, .inl (cI, 6, .inl v_sea_moults))]) sz) := by
  refine q_met_w (Qc := fun A => qWi R (dC, dI) ([(o, .inr (11, [.ref o_sea, .ref o_treaty, .ref o_lookout, .ref o_pad, .ref o_images, .ref o_trial, .ref o_bringing, .ref o_guess, .ref o_game, .ref o_fraction, .ref o_got])), (o_sea, .inr (8, [.int w_sea_there, .int v_sea_month, .int v_sea_lost, .ref o_sea_heads, .ref o_sea_sides, .ref o_sea_moods, .ref o_sea_moults])), (o_sea_heads, .inl (cI, 6, .inl w_sea_heads)), (o_sea_sides, .inl (cI, 6, .inl w_sea_sides)), (o_sea_moods, .inl (cI, 6, .inl w_sea_moods)), (o_sea_moults, .inl (cI, 6, .inl w_sea_moults))]) A) (cc := cX11_herd) (own := RX11) (maxL := 6) (ret := (some .int)) (lv0 := [(0, .ref o), (1, .int p1), (2, .int p2), (3, .int p3), (4, .int p4), (5, .int p5)]) (by decide) rfl rfl rfl (Nat.le_of_ble_eq_true rfl) ?_
  intro p e s m args below meth c A hA C hr hnm Q hQ
  have lk0 : Cond.fieldLink RX11 12 "SealStrait" "sea" "LSealStrait$Sea;" ∈ wsX11_herd := by decide +kernel
  have lk1 : ∀ w ∈ u_ws RX11 TX11 11, w ∈ wsX11_herd := fun w h => List.mem_cons_of_mem _ (List.mem_append_left _ (List.mem_append_right _ h))
  have lk2 : Cond.fieldLink RX11 90 "SealStrait$Sea" "there" "I" ∈ wsX11_herd := by decide +kernel
  have lk3 : ∀ w ∈ u_ws RX8 TX8 7, w ∈ wsX11_herd := fun w h => List.mem_cons_of_mem _ (List.mem_append_right _ h)
  unfold f_Strait_herd at hF
  refine q_iload_n C dX11_herd_0 1 rfl rfl ?_
  refine q_iconst (v := (0 : Int32)) C dX11_herd_1 (by decide) ?_
  refine q_iconst (v := (5 : Int32)) C dX11_herd_2 (by decide) ?_
  refine q_roz (q_runS (As := [.int p1, .int (0 : Int32), .int (5 : Int32)]) (rest := []) C (fun sz => c_X11_within l dC dI cI cZ cQ p1 (0 : Int32) (5 : Int32) (f_Strait_within p1 (0 : Int32) (5 : Int32)) rfl sz) (va_cwS 3 C.2.2.2.2.1 gX11_herd_X11_within rfl rfl rfl (by decide +kernel) ⟨Nat.le_of_ble_eq_true rfl, Nat.le_of_ble_eq_true rfl⟩) [] rfl rfl rfl rfl (Nat.le_of_ble_eq_true rfl) dX11_herd_3 ⟨Nat.zero_le _, Nat.zero_le _⟩) (fun hz1 => ?_)
  refine q_if_ne (tgt := 11) C dX11_herd_6 (by decide) (fun c2 => ?_) (fun c2 => ?_)
  · have hF := ite_f hF c2
    refine q_iload_n C dX11_herd_11 2 rfl rfl ?_
    refine q_iconst (v := (0 : Int32)) C dX11_herd_12 (by decide) ?_
    refine q_bipush (v := (99 : Int32)) C dX11_herd_13 (by decide) ?_
    refine q_roz (q_runS (As := [.int p2, .int (0 : Int32), .int (99 : Int32)]) (rest := []) C (fun sz => c_X11_within l dC dI cI cZ cQ p2 (0 : Int32) (99 : Int32) (f_Strait_within p2 (0 : Int32) (99 : Int32)) rfl sz) (va_cwS 3 C.2.2.2.2.1 gX11_herd_X11_within rfl rfl rfl (by decide +kernel) ⟨Nat.le_of_ble_eq_true rfl, Nat.le_of_ble_eq_true rfl⟩) [] rfl rfl rfl rfl (Nat.le_of_ble_eq_true rfl) dX11_herd_15 ⟨Nat.zero_le _, Nat.zero_le _⟩) (fun hz3 => ?_)
    refine q_if_eq (tgt := 52) C dX11_herd_18 (by decide) (fun c4 => ?_) (fun c4 => ?_)
    · have hF := ite_t hF c4
      refine q_bipush (v := (-2 : Int32)) C dX11_herd_52 (by decide) ?_
      cases hF
      exact q_wreti C hr dX11_herd_54 hQ
    · have hF := ite_f hF c4
      refine q_iload_n C dX11_herd_21 3 rfl rfl ?_
      refine q_iconst (v := (0 : Int32)) C dX11_herd_22 (by decide) ?_
      refine q_iconst (v := (1 : Int32)) C dX11_herd_23 (by decide) ?_
      refine q_roz (q_runS (As := [.int p3, .int (0 : Int32), .int (1 : Int32)]) (rest := []) C (fun sz => c_X11_within l dC dI cI cZ cQ p3 (0 : Int32) (1 : Int32) (f_Strait_within p3 (0 : Int32) (1 : Int32)) rfl sz) (va_cwS 3 C.2.2.2.2.1 gX11_herd_X11_within rfl rfl rfl (by decide +kernel) ⟨Nat.le_of_ble_eq_true rfl, Nat.le_of_ble_eq_true rfl⟩) [] rfl rfl rfl rfl (Nat.le_of_ble_eq_true rfl) dX11_herd_24 ⟨Nat.zero_le _, Nat.zero_le _⟩) (fun hz5 => ?_)
      refine q_if_eq (tgt := 52) C dX11_herd_27 (by decide) (fun c6 => ?_) (fun c6 => ?_)
      · have hF := ite_t hF c6
        refine q_bipush (v := (-2 : Int32)) C dX11_herd_52 (by decide) ?_
        cases hF
        exact q_wreti C hr dX11_herd_54 hQ
      · have hF := ite_f hF c6
        refine q_iload C dX11_herd_30 4 rfl ?_
        refine q_iconst (v := (0 : Int32)) C dX11_herd_32 (by decide) ?_
        refine q_bipush (v := (9 : Int32)) C dX11_herd_33 (by decide) ?_
        refine q_roz (q_runS (As := [.int p4, .int (0 : Int32), .int (9 : Int32)]) (rest := []) C (fun sz => c_X11_within l dC dI cI cZ cQ p4 (0 : Int32) (9 : Int32) (f_Strait_within p4 (0 : Int32) (9 : Int32)) rfl sz) (va_cwS 3 C.2.2.2.2.1 gX11_herd_X11_within rfl rfl rfl (by decide +kernel) ⟨Nat.le_of_ble_eq_true rfl, Nat.le_of_ble_eq_true rfl⟩) [] rfl rfl rfl rfl (Nat.le_of_ble_eq_true rfl) dX11_herd_35 ⟨Nat.zero_le _, Nat.zero_le _⟩) (fun hz7 => ?_)
        refine q_if_eq (tgt := 52) C dX11_herd_38 (by decide) (fun c8 => ?_) (fun c8 => ?_)
        · have hF := ite_t hF c8
          refine q_bipush (v := (-2 : Int32)) C dX11_herd_52 (by decide) ?_
          cases hF
          exact q_wreti C hr dX11_herd_54 hQ
        · have hF := ite_f hF c8
          refine q_iload C dX11_herd_41 5 rfl ?_
          refine q_iconst (v := (0 : Int32)) C dX11_herd_43 (by decide) ?_
          refine q_bipush (v := (11 : Int32)) C dX11_herd_44 (by decide) ?_
          refine q_roz (q_runS (As := [.int p5, .int (0 : Int32), .int (11 : Int32)]) (rest := []) C (fun sz => c_X11_within l dC dI cI cZ cQ p5 (0 : Int32) (11 : Int32) (f_Strait_within p5 (0 : Int32) (11 : Int32)) rfl sz) (va_cwS 3 C.2.2.2.2.1 gX11_herd_X11_within rfl rfl rfl (by decide +kernel) ⟨Nat.le_of_ble_eq_true rfl, Nat.le_of_ble_eq_true rfl⟩) [] rfl rfl rfl rfl (Nat.le_of_ble_eq_true rfl) dX11_herd_46 ⟨Nat.zero_le _, Nat.zero_le _⟩) (fun hz9 => ?_)
          refine q_if_ne (tgt := 55) C dX11_herd_49 (by decide) (fun c10 => ?_) (fun c10 => ?_)
          · have hF := ite_f hF c10
            refine q_aload_n C dX11_herd_55 0 rfl rfl ?_
            refine q_get (C0 := RX11) (T := TX11) (N := 11) (k0 := 0) C lk1 0 rfl rfl (by decide) lk0 rfl (v := .ref o_sea) rfl dX11_herd_56 ?_
            refine q_iload_n C dX11_herd_59 1 rfl rfl ?_
            refine q_iload_n C dX11_herd_60 2 rfl rfl ?_
            refine q_iload_n C dX11_herd_61 3 rfl rfl ?_
            refine q_iload C dX11_herd_62 4 rfl ?_
            refine q_iload C dX11_herd_64 5 rfl ?_
            obtain ⟨⟨u11_there, u11_heads, u11_sides, u11_moods, u11_moults⟩, hc12, hF⟩ := bind_c hF
            dsimp only at hF
            refine q_rwv hA ([(o, .inr (11, [.ref o_sea, .ref o_treaty, .ref o_lookout, .ref o_pad, .ref o_images, .ref o_trial, .ref o_bringing, .ref o_guess, .ref o_game, .ref o_fraction, .ref o_got])), (o_sea, .inr (8, [.int u11_there, .int v_sea_month, .int v_sea_lost, .ref o_sea_heads, .ref o_sea_sides, .ref o_sea_moods, .ref o_sea_moults])), (o_sea_heads, .inl (cI, 6, .inl u11_heads)), (o_sea_sides, .inl (cI, 6, .inl u11_sides)), (o_sea_moods, .inl (cI, 6, .inl u11_moods)), (o_sea_moults, .inl (cI, 6, .inl u11_moults))]) [1, 2, 3, 4, 5] [0] rfl rfl rfl (by decide) [0, 1, 2, 3, 4, 5] rfl rfl (q_runV (As := [.int p1, .int p2, .int p3, .int p4, .int p5]) (rest := []) C (fun sz => c_X8_settle l dC dI cI cZ cQ o_sea o_sea_heads o_sea_sides o_sea_moods o_sea_moults v_sea_there v_sea_heads v_sea_sides v_sea_moods v_sea_moults v_sea_month v_sea_lost p1 p2 p3 p4 p5 u11_there u11_heads u11_sides u11_moods u11_moults hc12 sz) (cwV 5 C.2.2.2.2.1 gX11_herd_X8_settle rfl rfl rfl (by decide +kernel) ⟨Nat.le_of_ble_eq_true rfl, Nat.le_of_ble_eq_true rfl⟩) 1 rfl rfl rfl [1, 2, 3, 4, 5] rfl rfl rfl rfl (Nat.le_of_ble_eq_true rfl) dX11_herd_66 ⟨Nat.zero_le _, Nat.zero_le _⟩) ?_
            refine q_aload_n C dX11_herd_69 0 rfl rfl ?_
            refine q_get (C0 := RX11) (T := TX11) (N := 11) (k0 := 0) C lk1 0 rfl rfl (by decide) lk0 rfl (v := .ref o_sea) rfl dX11_herd_70 ?_
            refine q_get (C0 := RX8) (T := TX8) (N := 7) (k0 := 0) C lk3 1 rfl rfl (by decide) lk2 rfl (v := .int u11_there) rfl dX11_herd_73 ?_
            refine q_roi (q_runS (As := [.int u11_there]) (rest := []) C (fun sz => c_J6_bitCount_0f7a4 l dC dI cI cZ cQ u11_there (f_Integer_bitCount u11_there) rfl sz) (va_cwS 1 C.2.2.2.2.1 gX11_herd_J6_bitCount_0f7a4 rfl rfl rfl (by decide +kernel) ⟨Nat.le_of_ble_eq_true rfl, Nat.le_of_ble_eq_true rfl⟩) [] rfl rfl rfl rfl (Nat.le_of_ble_eq_true rfl) dX11_herd_76 ⟨Nat.zero_le _, Nat.zero_le _⟩) ?_
            cases hF
            exact q_wreti C hr dX11_herd_79 hQ
          · have hF := ite_t hF c10
            refine q_bipush (v := (-2 : Int32)) C dX11_herd_52 (by decide) ?_
            cases hF
            exact q_wreti C hr dX11_herd_54 hQ
  · have hF := ite_t hF c2
    refine q_iconst (v := (-1 : Int32)) C dX11_herd_9 (by decide) ?_
    cases hF
    exact q_wreti C hr dX11_herd_10 hQ
set_option maxRecDepth 100000 in
set_option maxHeartbeats 4000000 in
theorem c_X11_clause (l : Launch) (dC : Nat → ClassId) (dI : Nat → Nat → Nat) (cI cZ cQ : ClassId) (o o_treaty o_treaty_words o_sea o_lookout o_pad o_images o_trial o_bringing o_guess o_game o_fraction o_got o_treaty_clashes : Nat) (v_treaty_words : Nat → Int32) (p1 : Int32) (p2 : Int32) (R : Int32) (w_treaty_words : Nat → Int32) (hF : f_Strait_clause v_treaty_words p1 p2 = some (R, w_treaty_words)) (sz : Nat) : Met l yX11_clause wsX11_clause ({ frames := 1, cells := 0, slots := 0, locals := 22 } : Room) (qPc ([.ref o, .int p1, .int p2]) (dC, dI) (qT cI cZ cQ) ([(o, .inr (11, [.ref o_sea, .ref o_treaty, .ref o_lookout, .ref o_pad, .ref o_images, .ref o_trial, .ref o_bringing, .ref o_guess, .ref o_game, .ref o_fraction, .ref o_got])), (o_treaty, .inr (9, [.ref o_treaty_words, .ref o_treaty_clashes])), (o_treaty_words, .inl (cI, 10, .inl v_treaty_words))]) sz) (qWi R (dC, dI) ([(o, .inr (11, [.ref o_sea, .ref o_treaty, .ref o_lookout, .ref o_pad, .ref o_images, .ref o_trial, .ref o_bringing, .ref o_guess, .ref o_game, .ref o_fraction, .ref o_got])), (o_treaty, .inr (9, [.ref o_treaty_words, .ref o_treaty_clashes])), (o_treaty_words, .inl (cI, 10, .inl w_treaty_words))]) (va_A ([(o, .inr (11, [.ref o_sea, .ref o_treaty, .ref o_lookout, .ref o_pad, .ref o_images, .ref o_trial, .ref o_bringing, .ref o_guess, .ref o_game, .ref o_fraction, .ref o_got])), (o_treaty, .inr (9, [.ref o_treaty_words, .ref o_treaty_clashes])), (o_treaty_words, .inl (cI, 10, .inl v_treaty_words))]) sz)) 0 0 (va_A ([(o, .inr (11, [.ref o_sea, .ref o_treaty, .ref o_lookout, .ref o_pad, .ref o_images, .ref o_trial, .ref o_bringing, .ref o_guess, .ref o_game, .ref o_fraction, .ref o_got])), (o_treaty, .inr (9, [.ref o_treaty_words, .ref o_treaty_clashes])), (o_treaty_words, .inl (cI, 10, .inl v_treaty_words))]) sz) := by
  refine q_met_w (Qc := fun A => qWi R (dC, dI) ([(o, .inr (11, [.ref o_sea, .ref o_treaty, .ref o_lookout, .ref o_pad, .ref o_images, .ref o_trial, .ref o_bringing, .ref o_guess, .ref o_game, .ref o_fraction, .ref o_got])), (o_treaty, .inr (9, [.ref o_treaty_words, .ref o_treaty_clashes])), (o_treaty_words, .inl (cI, 10, .inl w_treaty_words))]) A) (cc := cX11_clause) (own := RX11) (maxL := 4) (ret := (some .int)) (lv0 := [(0, .ref o), (1, .int p1), (2, .int p2)]) (by decide) rfl rfl rfl (Nat.le_of_ble_eq_true rfl) ?_
  intro p e s m args below meth c A hA C hr hnm Q hQ
  have lk0 : Cond.fieldLink RX11 19 "SealStrait" "treaty" "LSealStrait$Treaty;" ∈ wsX11_clause := by decide +kernel
  have lk1 : ∀ w ∈ u_ws RX11 TX11 11, w ∈ wsX11_clause := fun w h => List.mem_cons_of_mem _ (List.mem_append_left _ (List.mem_append_right _ h))
  have lk2 : Cond.fieldLink RX11 100 "SealStrait$Treaty" "words" "[I" ∈ wsX11_clause := by decide +kernel
  have lk3 : ∀ w ∈ u_ws RX9 TX9 2, w ∈ wsX11_clause := fun w h => List.mem_cons_of_mem _ (List.mem_append_right _ h)
  unfold f_Strait_clause at hF
  refine q_iload_n C dX11_clause_0 1 rfl rfl ?_
  refine q_iconst (v := (0 : Int32)) C dX11_clause_1 (by decide) ?_
  refine q_bipush (v := (9 : Int32)) C dX11_clause_2 (by decide) ?_
  refine q_roz (q_runS (As := [.int p1, .int (0 : Int32), .int (9 : Int32)]) (rest := []) C (fun sz => c_X11_within l dC dI cI cZ cQ p1 (0 : Int32) (9 : Int32) (f_Strait_within p1 (0 : Int32) (9 : Int32)) rfl sz) (va_cwS 3 C.2.2.2.2.1 gX11_clause_X11_within rfl rfl rfl (by decide +kernel) ⟨Nat.le_of_ble_eq_true rfl, Nat.le_of_ble_eq_true rfl⟩) [] rfl rfl rfl rfl (Nat.le_of_ble_eq_true rfl) dX11_clause_4 ⟨Nat.zero_le _, Nat.zero_le _⟩) (fun hz1 => ?_)
  refine q_if_ne (tgt := 12) C dX11_clause_7 (by decide) (fun c2 => ?_) (fun c2 => ?_)
  · have hF := ite_f hF c2
    refine q_iload_n C dX11_clause_12 2 rfl rfl ?_
    refine q_iconst (v := (1 : Int32)) C dX11_clause_13 (by decide) ?_
    refine q_bipush (v := (9 : Int32)) C dX11_clause_14 (by decide) ?_
    refine q_roz (q_runS (As := [.int p2, .int (1 : Int32), .int (9 : Int32)]) (rest := []) C (fun sz => c_X11_within l dC dI cI cZ cQ p2 (1 : Int32) (9 : Int32) (f_Strait_within p2 (1 : Int32) (9 : Int32)) rfl sz) (va_cwS 3 C.2.2.2.2.1 gX11_clause_X11_within rfl rfl rfl (by decide +kernel) ⟨Nat.le_of_ble_eq_true rfl, Nat.le_of_ble_eq_true rfl⟩) [] rfl rfl rfl rfl (Nat.le_of_ble_eq_true rfl) dX11_clause_16 ⟨Nat.zero_le _, Nat.zero_le _⟩) (fun hz3 => ?_)
    refine q_if_ne (tgt := 25) C dX11_clause_19 (by decide) (fun c4 => ?_) (fun c4 => ?_)
    · have hF := ite_f hF c4
      refine q_aload_n C dX11_clause_25 0 rfl rfl ?_
      refine q_get (C0 := RX11) (T := TX11) (N := 11) (k0 := 1) C lk1 0 rfl rfl (by decide) lk0 rfl (v := .ref o_treaty) rfl dX11_clause_26 ?_
      refine q_get (C0 := RX9) (T := TX9) (N := 2) (k0 := 0) C lk3 1 rfl rfl (by decide) lk2 rfl (v := .ref o_treaty_words) rfl dX11_clause_29 ?_
      refine q_iload_n C dX11_clause_32 1 rfl rfl ?_
      obtain ⟨hc5, hF⟩ := ite_c hF
      refine q_iald C 2 0 rfl rfl (ix_in hc5) dX11_clause_33 ?_
      refine q_istore_n C ([(3, .int (v_treaty_words (p1).toNatClampNeg)), (0, .ref o), (1, .int p1), (2, .int p2)]) dX11_clause_34 rfl (by decide) rfl ?_
      refine q_aload_n C dX11_clause_35 1 rfl rfl ?_
      refine q_get (C0 := RX11) (T := TX11) (N := 11) (k0 := 1) C lk1 0 rfl rfl (by decide) lk0 rfl (v := .ref o_treaty) rfl dX11_clause_36 ?_
      refine q_get (C0 := RX9) (T := TX9) (N := 2) (k0 := 0) C lk3 1 rfl rfl (by decide) lk2 rfl (v := .ref o_treaty_words) rfl dX11_clause_39 ?_
      refine q_iload_n C dX11_clause_42 2 rfl rfl ?_
      refine q_iload_n C dX11_clause_43 3 rfl rfl ?_
      obtain ⟨hc6, hF⟩ := ite_c hF
      refine q_iast C 2 0 rfl rfl (ix_in hc6) ([(o, .inr (11, [.ref o_sea, .ref o_treaty, .ref o_lookout, .ref o_pad, .ref o_images, .ref o_trial, .ref o_bringing, .ref o_guess, .ref o_game, .ref o_fraction, .ref o_got])), (o_treaty, .inr (9, [.ref o_treaty_words, .ref o_treaty_clashes])), (o_treaty_words, .inl (cI, 10, .inl (upd v_treaty_words (p1).toNatClampNeg p2)))]) rfl dX11_clause_44 ?_
      refine q_iload_n C dX11_clause_45 0 rfl rfl ?_
      cases hF
      exact q_wreti C hr dX11_clause_46 hQ
    · have hF := ite_t hF c4
      refine q_bipush (v := (-2 : Int32)) C dX11_clause_22 (by decide) ?_
      cases hF
      exact q_wreti C hr dX11_clause_24 hQ
  · have hF := ite_t hF c2
    refine q_iconst (v := (-1 : Int32)) C dX11_clause_10 (by decide) ?_
    cases hF
    exact q_wreti C hr dX11_clause_11 hQ
set_option maxRecDepth 100000 in
set_option maxHeartbeats 4000000 in
theorem c_X11_clash (l : Launch) (dC : Nat → ClassId) (dI : Nat → Nat → Nat) (cI cZ cQ : ClassId) (o o_treaty o_treaty_clashes o_sea o_lookout o_pad o_images o_trial o_bringing o_guess o_game o_fraction o_got o_treaty_words : Nat) (v_treaty_clashes : Nat → Int32) (p1 : Int32) (p2 : Int32) (p3 : Int32) (R : Int32) (w_treaty_clashes : Nat → Int32) (hF : f_Strait_clash v_treaty_clashes p1 p2 p3 = some (R, w_treaty_clashes)) (sz : Nat) : Met l yX11_clash wsX11_clash ({ frames := 2, cells := 0, slots := 0, locals := 45 } : Room) (qPc ([.ref o, .int p1, .int p2, .int p3]) (dC, dI) (qT cI cZ cQ) ([(o, .inr (11, [.ref o_sea, .ref o_treaty, .ref o_lookout, .ref o_pad, .ref o_images, .ref o_trial, .ref o_bringing, .ref o_guess, .ref o_game, .ref o_fraction, .ref o_got])), (o_treaty, .inr (9, [.ref o_treaty_words, .ref o_treaty_clashes])), (o_treaty_clashes, .inl (cI, 10, .inl v_treaty_clashes))]) sz) (qWi R (dC, dI) ([(o, .inr (11, [.ref o_sea, .ref o_treaty, .ref o_lookout, .ref o_pad, .ref o_images, .ref o_trial, .ref o_bringing, .ref o_guess, .ref o_game, .ref o_fraction, .ref o_got])), (o_treaty, .inr (9, [.ref o_treaty_words, .ref o_treaty_clashes])), (o_treaty_clashes, .inl (cI, 10, .inl w_treaty_clashes))]) (va_A ([(o, .inr (11, [.ref o_sea, .ref o_treaty, .ref o_lookout, .ref o_pad, .ref o_images, .ref o_trial, .ref o_bringing, .ref o_guess, .ref o_game, .ref o_fraction, .ref o_got])), (o_treaty, .inr (9, [.ref o_treaty_words, .ref o_treaty_clashes])), (o_treaty_clashes, .inl (cI, 10, .inl v_treaty_clashes))]) sz)) 0 0 (va_A ([(o, .inr (11, [.ref o_sea, .ref o_treaty, .ref o_lookout, .ref o_pad, .ref o_images, .ref o_trial, .ref o_bringing, .ref o_guess, .ref o_game, .ref o_fraction, .ref o_got])), (o_treaty, .inr (9, [.ref o_treaty_words, .ref o_treaty_clashes])), (o_treaty_clashes, .inl (cI, 10, .inl v_treaty_clashes))]) sz) := by
  refine q_met_w (Qc := fun A => qWi R (dC, dI) ([(o, .inr (11, [.ref o_sea, .ref o_treaty, .ref o_lookout, .ref o_pad, .ref o_images, .ref o_trial, .ref o_bringing, .ref o_guess, .ref o_game, .ref o_fraction, .ref o_got])), (o_treaty, .inr (9, [.ref o_treaty_words, .ref o_treaty_clashes])), (o_treaty_clashes, .inl (cI, 10, .inl w_treaty_clashes))]) A) (cc := cX11_clash) (own := RX11) (maxL := 4) (ret := (some .int)) (lv0 := [(0, .ref o), (1, .int p1), (2, .int p2), (3, .int p3)]) (by decide) rfl rfl rfl (Nat.le_of_ble_eq_true rfl) ?_
  intro p e s m args below meth c A hA C hr hnm Q hQ
  have lk0 : Cond.fieldLink RX11 19 "SealStrait" "treaty" "LSealStrait$Treaty;" ∈ wsX11_clash := by decide +kernel
  have lk1 : ∀ w ∈ u_ws RX11 TX11 11, w ∈ wsX11_clash := fun w h => List.mem_cons_of_mem _ (List.mem_append_left _ (List.mem_append_right _ h))
  unfold f_Strait_clash at hF
  refine q_iload_n C dX11_clash_0 1 rfl rfl ?_
  refine q_iconst (v := (0 : Int32)) C dX11_clash_1 (by decide) ?_
  refine q_bipush (v := (9 : Int32)) C dX11_clash_2 (by decide) ?_
  refine q_roz (q_runS (As := [.int p1, .int (0 : Int32), .int (9 : Int32)]) (rest := []) C (fun sz => c_X11_within l dC dI cI cZ cQ p1 (0 : Int32) (9 : Int32) (f_Strait_within p1 (0 : Int32) (9 : Int32)) rfl sz) (va_cwS 3 C.2.2.2.2.1 gX11_clash_X11_within rfl rfl rfl (by decide +kernel) ⟨Nat.le_of_ble_eq_true rfl, Nat.le_of_ble_eq_true rfl⟩) [] rfl rfl rfl rfl (Nat.le_of_ble_eq_true rfl) dX11_clash_4 ⟨Nat.zero_le _, Nat.zero_le _⟩) (fun hz1 => ?_)
  refine q_if_eq (tgt := 25) C dX11_clash_7 (by decide) (fun c2 => ?_) (fun c2 => ?_)
  · have hF := ite_t hF c2
    refine q_iconst (v := (-1 : Int32)) C dX11_clash_25 (by decide) ?_
    cases hF
    exact q_wreti C hr dX11_clash_26 hQ
  · have hF := ite_f hF c2
    refine q_iload_n C dX11_clash_10 2 rfl rfl ?_
    refine q_iconst (v := (0 : Int32)) C dX11_clash_11 (by decide) ?_
    refine q_bipush (v := (9 : Int32)) C dX11_clash_12 (by decide) ?_
    refine q_roz (q_runS (As := [.int p2, .int (0 : Int32), .int (9 : Int32)]) (rest := []) C (fun sz => c_X11_within l dC dI cI cZ cQ p2 (0 : Int32) (9 : Int32) (f_Strait_within p2 (0 : Int32) (9 : Int32)) rfl sz) (va_cwS 3 C.2.2.2.2.1 gX11_clash_X11_within rfl rfl rfl (by decide +kernel) ⟨Nat.le_of_ble_eq_true rfl, Nat.le_of_ble_eq_true rfl⟩) [] rfl rfl rfl rfl (Nat.le_of_ble_eq_true rfl) dX11_clash_14 ⟨Nat.zero_le _, Nat.zero_le _⟩) (fun hz3 => ?_)
    refine q_if_eq (tgt := 25) C dX11_clash_17 (by decide) (fun c4 => ?_) (fun c4 => ?_)
    · have hF := ite_t hF c4
      refine q_iconst (v := (-1 : Int32)) C dX11_clash_25 (by decide) ?_
      cases hF
      exact q_wreti C hr dX11_clash_26 hQ
    · have hF := ite_f hF c4
      refine q_iload_n C dX11_clash_20 1 rfl rfl ?_
      refine q_iload_n C dX11_clash_21 2 rfl rfl ?_
      refine q_icmp_ne (tgt := 27) C dX11_clash_22 (by decide) (fun c5 => ?_) (fun c5 => ?_)
      · have hF := ite_f hF c5
        refine q_aload_n C dX11_clash_27 0 rfl rfl ?_
        refine q_get (C0 := RX11) (T := TX11) (N := 11) (k0 := 1) C lk1 0 rfl rfl (by decide) lk0 rfl (v := .ref o_treaty) rfl dX11_clash_28 ?_
        refine q_iload_n C dX11_clash_31 1 rfl rfl ?_
        refine q_iload_n C dX11_clash_32 2 rfl rfl ?_
        refine q_iload_n C dX11_clash_33 3 rfl rfl ?_
        obtain ⟨u6_clashes, hc7, hF⟩ := bind_c hF
        refine q_rwv hA ([(o, .inr (11, [.ref o_sea, .ref o_treaty, .ref o_lookout, .ref o_pad, .ref o_images, .ref o_trial, .ref o_bringing, .ref o_guess, .ref o_game, .ref o_fraction, .ref o_got])), (o_treaty, .inr (9, [.ref o_treaty_words, .ref o_treaty_clashes])), (o_treaty_clashes, .inl (cI, 10, .inl u6_clashes))]) [1, 2] [0] rfl rfl rfl (by decide) [0, 1, 2] rfl rfl (q_runV (As := [.int p1, .int p2, .int p3]) (rest := []) C (fun sz => c_X9_setClash l dC dI cI cZ cQ o_treaty o_treaty_clashes o_treaty_words v_treaty_clashes p1 p2 p3 u6_clashes hc7 sz) (cwV 3 C.2.2.2.2.1 gX11_clash_X9_setClash rfl rfl rfl (by decide +kernel) ⟨Nat.le_of_ble_eq_true rfl, Nat.le_of_ble_eq_true rfl⟩) 1 rfl rfl rfl [1, 2] rfl rfl rfl rfl (Nat.le_of_ble_eq_true rfl) dX11_clash_34 ⟨Nat.zero_le _, Nat.zero_le _⟩) ?_
        refine q_aload_n C dX11_clash_37 0 rfl rfl ?_
        refine q_get (C0 := RX11) (T := TX11) (N := 11) (k0 := 1) C lk1 0 rfl rfl (by decide) lk0 rfl (v := .ref o_treaty) rfl dX11_clash_38 ?_
        refine q_iload_n C dX11_clash_41 2 rfl rfl ?_
        refine q_iload_n C dX11_clash_42 1 rfl rfl ?_
        refine q_iload_n C dX11_clash_43 3 rfl rfl ?_
        obtain ⟨u8_clashes, hc9, hF⟩ := bind_c hF
        refine q_rwv hA ([(o, .inr (11, [.ref o_sea, .ref o_treaty, .ref o_lookout, .ref o_pad, .ref o_images, .ref o_trial, .ref o_bringing, .ref o_guess, .ref o_game, .ref o_fraction, .ref o_got])), (o_treaty, .inr (9, [.ref o_treaty_words, .ref o_treaty_clashes])), (o_treaty_clashes, .inl (cI, 10, .inl u8_clashes))]) [1, 2] [0] rfl rfl rfl (by decide) [0, 1, 2] rfl rfl (q_runV (As := [.int p2, .int p1, .int p3]) (rest := []) C (fun sz => c_X9_setClash l dC dI cI cZ cQ o_treaty o_treaty_clashes o_treaty_words u6_clashes p2 p1 p3 u8_clashes hc9 sz) (cwV 3 C.2.2.2.2.1 gX11_clash_X9_setClash rfl rfl rfl (by decide +kernel) ⟨Nat.le_of_ble_eq_true rfl, Nat.le_of_ble_eq_true rfl⟩) 1 rfl rfl rfl [1, 2] rfl rfl rfl rfl (Nat.le_of_ble_eq_true rfl) dX11_clash_44 ⟨Nat.zero_le _, Nat.zero_le _⟩) ?_
        refine q_aload_n C dX11_clash_47 0 rfl rfl ?_
        refine q_get (C0 := RX11) (T := TX11) (N := 11) (k0 := 1) C lk1 0 rfl rfl (by decide) lk0 rfl (v := .ref o_treaty) rfl dX11_clash_48 ?_
        obtain ⟨r10, hc11, hF⟩ := bind_c hF
        refine q_roi (q_runV (As := []) (rest := []) C (fun sz => c_X9_clashingPairs l dC dI cI cZ cQ o_treaty o_treaty_clashes o_treaty_words u8_clashes r10 hc11 sz) (cwV 0 C.2.2.2.2.1 gX11_clash_X9_clashingPairs rfl rfl rfl (by decide +kernel) ⟨Nat.le_of_ble_eq_true rfl, Nat.le_of_ble_eq_true rfl⟩) 1 rfl rfl rfl [1, 2] rfl rfl rfl rfl (Nat.le_of_ble_eq_true rfl) dX11_clash_51 ⟨Nat.zero_le _, Nat.zero_le _⟩) ?_
        cases hF
        exact q_wreti C hr dX11_clash_54 hQ
      · have hF := ite_t hF c5
        refine q_iconst (v := (-1 : Int32)) C dX11_clash_25 (by decide) ?_
        cases hF
        exact q_wreti C hr dX11_clash_26 hQ
set_option maxRecDepth 100000 in
set_option maxHeartbeats 4000000 in
theorem c_X11_rock (l : Launch) (dC : Nat → ClassId) (dI : Nat → Nat → Nat) (cI cZ cQ : ClassId) (o o_lookout o_lookout_seen o_sea o_treaty o_pad o_images o_trial o_bringing o_guess o_game o_fraction o_got o_lookout_countRocks o_lookout_countWantings : Nat) (v_lookout_seen : Nat → Int32) (v_lookout_counts : Int32) (p1 : Int32) (p2 : Int32) (R : Int32) (w_lookout_seen : Nat → Int32) (hF : f_Strait_rock v_lookout_seen p1 p2 = some (R, w_lookout_seen)) (sz : Nat) : Met l yX11_rock wsX11_rock ({ frames := 1, cells := 0, slots := 0, locals := 22 } : Room) (qPc ([.ref o, .int p1, .int p2]) (dC, dI) (qT cI cZ cQ) ([(o, .inr (11, [.ref o_sea, .ref o_treaty, .ref o_lookout, .ref o_pad, .ref o_images, .ref o_trial, .ref o_bringing, .ref o_guess, .ref o_game, .ref o_fraction, .ref o_got])), (o_lookout, .inr (6, [.ref o_lookout_seen, .int v_lookout_counts, .ref o_lookout_countRocks, .ref o_lookout_countWantings])), (o_lookout_seen, .inl (cI, 6, .inl v_lookout_seen))]) sz) (qWi R (dC, dI) ([(o, .inr (11, [.ref o_sea, .ref o_treaty, .ref o_lookout, .ref o_pad, .ref o_images, .ref o_trial, .ref o_bringing, .ref o_guess, .ref o_game, .ref o_fraction, .ref o_got])), (o_lookout, .inr (6, [.ref o_lookout_seen, .int v_lookout_counts, .ref o_lookout_countRocks, .ref o_lookout_countWantings])), (o_lookout_seen, .inl (cI, 6, .inl w_lookout_seen))]) (va_A ([(o, .inr (11, [.ref o_sea, .ref o_treaty, .ref o_lookout, .ref o_pad, .ref o_images, .ref o_trial, .ref o_bringing, .ref o_guess, .ref o_game, .ref o_fraction, .ref o_got])), (o_lookout, .inr (6, [.ref o_lookout_seen, .int v_lookout_counts, .ref o_lookout_countRocks, .ref o_lookout_countWantings])), (o_lookout_seen, .inl (cI, 6, .inl v_lookout_seen))]) sz)) 0 0 (va_A ([(o, .inr (11, [.ref o_sea, .ref o_treaty, .ref o_lookout, .ref o_pad, .ref o_images, .ref o_trial, .ref o_bringing, .ref o_guess, .ref o_game, .ref o_fraction, .ref o_got])), (o_lookout, .inr (6, [.ref o_lookout_seen, .int v_lookout_counts, .ref o_lookout_countRocks, .ref o_lookout_countWantings])), (o_lookout_seen, .inl (cI, 6, .inl v_lookout_seen))]) sz) := by
  refine q_met_w (Qc := fun A => qWi R (dC, dI) ([(o, .inr (11, [.ref o_sea, .ref o_treaty, .ref o_lookout, .ref o_pad, .ref o_images, .ref o_trial, .ref o_bringing, .ref o_guess, .ref o_game, .ref o_fraction, .ref o_got])), (o_lookout, .inr (6, [.ref o_lookout_seen, .int v_lookout_counts, .ref o_lookout_countRocks, .ref o_lookout_countWantings])), (o_lookout_seen, .inl (cI, 6, .inl w_lookout_seen))]) A) (cc := cX11_rock) (own := RX11) (maxL := 4) (ret := (some .int)) (lv0 := [(0, .ref o), (1, .int p1), (2, .int p2)]) (by decide) rfl rfl rfl (Nat.le_of_ble_eq_true rfl) ?_
  intro p e s m args below meth c A hA C hr hnm Q hQ
  have lk0 : Cond.fieldLink RX11 26 "SealStrait" "lookout" "LSealStrait$Lookout;" ∈ wsX11_rock := by decide +kernel
  have lk1 : ∀ w ∈ u_ws RX11 TX11 11, w ∈ wsX11_rock := fun w h => List.mem_cons_of_mem _ (List.mem_append_left _ (List.mem_append_right _ h))
  have lk2 : Cond.fieldLink RX11 111 "SealStrait$Lookout" "seen" "[I" ∈ wsX11_rock := by decide +kernel
  have lk3 : ∀ w ∈ u_ws RX6 TX6 4, w ∈ wsX11_rock := fun w h => List.mem_cons_of_mem _ (List.mem_append_right _ h)
  unfold f_Strait_rock at hF
  refine q_iload_n C dX11_rock_0 1 rfl rfl ?_
  refine q_iconst (v := (0 : Int32)) C dX11_rock_1 (by decide) ?_
  refine q_iconst (v := (5 : Int32)) C dX11_rock_2 (by decide) ?_
  refine q_roz (q_runS (As := [.int p1, .int (0 : Int32), .int (5 : Int32)]) (rest := []) C (fun sz => c_X11_within l dC dI cI cZ cQ p1 (0 : Int32) (5 : Int32) (f_Strait_within p1 (0 : Int32) (5 : Int32)) rfl sz) (va_cwS 3 C.2.2.2.2.1 gX11_rock_X11_within rfl rfl rfl (by decide +kernel) ⟨Nat.le_of_ble_eq_true rfl, Nat.le_of_ble_eq_true rfl⟩) [] rfl rfl rfl rfl (Nat.le_of_ble_eq_true rfl) dX11_rock_3 ⟨Nat.zero_le _, Nat.zero_le _⟩) (fun hz1 => ?_)
  refine q_if_ne (tgt := 11) C dX11_rock_6 (by decide) (fun c2 => ?_) (fun c2 => ?_)
  · have hF := ite_f hF c2
    refine q_iload_n C dX11_rock_11 2 rfl rfl ?_
    refine q_iconst (v := (0 : Int32)) C dX11_rock_12 (by decide) ?_
    refine q_bipush (v := (63 : Int32)) C dX11_rock_13 (by decide) ?_
    refine q_roz (q_runS (As := [.int p2, .int (0 : Int32), .int (63 : Int32)]) (rest := []) C (fun sz => c_X11_within l dC dI cI cZ cQ p2 (0 : Int32) (63 : Int32) (f_Strait_within p2 (0 : Int32) (63 : Int32)) rfl sz) (va_cwS 3 C.2.2.2.2.1 gX11_rock_X11_within rfl rfl rfl (by decide +kernel) ⟨Nat.le_of_ble_eq_true rfl, Nat.le_of_ble_eq_true rfl⟩) [] rfl rfl rfl rfl (Nat.le_of_ble_eq_true rfl) dX11_rock_15 ⟨Nat.zero_le _, Nat.zero_le _⟩) (fun hz3 => ?_)
    refine q_if_ne (tgt := 24) C dX11_rock_18 (by decide) (fun c4 => ?_) (fun c4 => ?_)
    · have hF := ite_f hF c4
      refine q_aload_n C dX11_rock_24 0 rfl rfl ?_
      refine q_get (C0 := RX11) (T := TX11) (N := 11) (k0 := 2) C lk1 0 rfl rfl (by decide) lk0 rfl (v := .ref o_lookout) rfl dX11_rock_25 ?_
      refine q_get (C0 := RX6) (T := TX6) (N := 4) (k0 := 0) C lk3 1 rfl rfl (by decide) lk2 rfl (v := .ref o_lookout_seen) rfl dX11_rock_28 ?_
      refine q_iload_n C dX11_rock_31 1 rfl rfl ?_
      obtain ⟨hc5, hF⟩ := ite_c hF
      refine q_iald C 2 0 rfl rfl (ix_in hc5) dX11_rock_32 ?_
      refine q_istore_n C ([(3, .int (v_lookout_seen (p1).toNatClampNeg)), (0, .ref o), (1, .int p1), (2, .int p2)]) dX11_rock_33 rfl (by decide) rfl ?_
      refine q_aload_n C dX11_rock_34 1 rfl rfl ?_
      refine q_get (C0 := RX11) (T := TX11) (N := 11) (k0 := 2) C lk1 0 rfl rfl (by decide) lk0 rfl (v := .ref o_lookout) rfl dX11_rock_35 ?_
      refine q_get (C0 := RX6) (T := TX6) (N := 4) (k0 := 0) C lk3 1 rfl rfl (by decide) lk2 rfl (v := .ref o_lookout_seen) rfl dX11_rock_38 ?_
      refine q_iload_n C dX11_rock_41 2 rfl rfl ?_
      refine q_iload_n C dX11_rock_42 3 rfl rfl ?_
      obtain ⟨hc6, hF⟩ := ite_c hF
      refine q_iast C 2 0 rfl rfl (ix_in hc6) ([(o, .inr (11, [.ref o_sea, .ref o_treaty, .ref o_lookout, .ref o_pad, .ref o_images, .ref o_trial, .ref o_bringing, .ref o_guess, .ref o_game, .ref o_fraction, .ref o_got])), (o_lookout, .inr (6, [.ref o_lookout_seen, .int v_lookout_counts, .ref o_lookout_countRocks, .ref o_lookout_countWantings])), (o_lookout_seen, .inl (cI, 6, .inl (upd v_lookout_seen (p1).toNatClampNeg p2)))]) rfl dX11_rock_43 ?_
      refine q_iload_n C dX11_rock_44 0 rfl rfl ?_
      cases hF
      exact q_wreti C hr dX11_rock_45 hQ
    · have hF := ite_t hF c4
      refine q_bipush (v := (-2 : Int32)) C dX11_rock_21 (by decide) ?_
      cases hF
      exact q_wreti C hr dX11_rock_23 hQ
  · have hF := ite_t hF c2
    refine q_iconst (v := (-1 : Int32)) C dX11_rock_9 (by decide) ?_
    cases hF
    exact q_wreti C hr dX11_rock_10 hQ
set_option maxRecDepth 100000 in
set_option maxHeartbeats 4000000 in
theorem c_X11_say (l : Launch) (dC : Nat → ClassId) (dI : Nat → Nat → Nat) (cI cZ cQ : ClassId) (o o_pad o_pad_signs o_sea o_treaty o_lookout o_images o_trial o_bringing o_guess o_game o_fraction o_got : Nat) (v_pad_signs : Nat → Int32) (v_pad_size : Int32) (p1 : Int32) (R : Int32) (w_pad_signs : Nat → Int32) (w_pad_size : Int32) (hF : f_Strait_say v_pad_signs v_pad_size p1 = some (R, w_pad_signs, w_pad_size)) (sz : Nat) : Met l yX11_say wsX11_say ({ frames := 1, cells := 0, slots := 0, locals := 22 } : Room) (qPc ([.ref o, .int p1]) (dC, dI) (qT cI cZ cQ) ([(o, .inr (11, [.ref o_sea, .ref o_treaty, .ref o_lookout, .ref o_pad, .ref o_images, .ref o_trial, .ref o_bringing, .ref o_guess, .ref o_game, .ref o_fraction, .ref o_got])), (o_pad, .inr (7, [.ref o_pad_signs, .int v_pad_size])), (o_pad_signs, .inl (cI, 60, .inl v_pad_signs))]) sz) (qWi R (dC, dI) ([(o, .inr (11, [.ref o_sea, .ref o_treaty, .ref o_lookout, .ref o_pad, .ref o_images, .ref o_trial, .ref o_bringing, .ref o_guess, .ref o_game, .ref o_fraction, .ref o_got])), (o_pad, .inr (7, [.ref o_pad_signs, .int w_pad_size])), (o_pad_signs, .inl (cI, 60, .inl w_pad_signs))]) (va_A ([(o, .inr (11, [.ref o_sea, .ref o_treaty, .ref o_lookout, .ref o_pad, .ref o_images, .ref o_trial, .ref o_bringing, .ref o_guess, .ref o_game, .ref o_fraction, .ref o_got])), (o_pad, .inr (7, [.ref o_pad_signs, .int v_pad_size])), (o_pad_signs, .inl (cI, 60, .inl v_pad_signs))]) sz)) 0 0 (va_A ([(o, .inr (11, [.ref o_sea, .ref o_treaty, .ref o_lookout, .ref o_pad, .ref o_images, .ref o_trial, .ref o_bringing, .ref o_guess, .ref o_game, .ref o_fraction, .ref o_got])), (o_pad, .inr (7, [.ref o_pad_signs, .int v_pad_size])), (o_pad_signs, .inl (cI, 60, .inl v_pad_signs))]) sz) := by
  refine q_met_w (Qc := fun A => qWi R (dC, dI) ([(o, .inr (11, [.ref o_sea, .ref o_treaty, .ref o_lookout, .ref o_pad, .ref o_images, .ref o_trial, .ref o_bringing, .ref o_guess, .ref o_game, .ref o_fraction, .ref o_got])), (o_pad, .inr (7, [.ref o_pad_signs, .int w_pad_size])), (o_pad_signs, .inl (cI, 60, .inl w_pad_signs))]) A) (cc := cX11_say) (own := RX11) (maxL := 2) (ret := (some .int)) (lv0 := [(0, .ref o), (1, .int p1)]) (by decide) rfl rfl rfl (Nat.le_of_ble_eq_true rfl) ?_
  intro p e s m args below meth c A hA C hr hnm Q hQ
  have lk0 : Cond.fieldLink RX11 33 "SealStrait" "pad" "LSealStrait$Pad;" ∈ wsX11_say := by decide +kernel
  have lk1 : ∀ w ∈ u_ws RX11 TX11 11, w ∈ wsX11_say := fun w h => List.mem_cons_of_mem _ (List.mem_append_left _ (List.mem_append_right _ h))
  have lk2 : Cond.fieldLink RX11 118 "SealStrait$Pad" "size" "I" ∈ wsX11_say := by decide +kernel
  have lk3 : ∀ w ∈ u_ws RX7 TX7 2, w ∈ wsX11_say := fun w h => List.mem_cons_of_mem _ (List.mem_append_right _ h)
  unfold f_Strait_say at hF
  refine q_iload_n C dX11_say_0 1 rfl rfl ?_
  refine q_bipush (v := (33 : Int32)) C dX11_say_1 (by decide) ?_
  refine q_bipush (v := (126 : Int32)) C dX11_say_3 (by decide) ?_
  refine q_roz (q_runS (As := [.int p1, .int (33 : Int32), .int (126 : Int32)]) (rest := []) C (fun sz => c_X11_within l dC dI cI cZ cQ p1 (33 : Int32) (126 : Int32) (f_Strait_within p1 (33 : Int32) (126 : Int32)) rfl sz) (va_cwS 3 C.2.2.2.2.1 gX11_say_X11_within rfl rfl rfl (by decide +kernel) ⟨Nat.le_of_ble_eq_true rfl, Nat.le_of_ble_eq_true rfl⟩) [] rfl rfl rfl rfl (Nat.le_of_ble_eq_true rfl) dX11_say_5 ⟨Nat.zero_le _, Nat.zero_le _⟩) (fun hz1 => ?_)
  refine q_if_ne (tgt := 14) C dX11_say_8 (by decide) (fun c2 => ?_) (fun c2 => ?_)
  · have hF := ite_f hF c2
    refine q_aload_n C dX11_say_14 0 rfl rfl ?_
    refine q_get (C0 := RX11) (T := TX11) (N := 11) (k0 := 3) C lk1 0 rfl rfl (by decide) lk0 rfl (v := .ref o_pad) rfl dX11_say_15 ?_
    refine q_iload_n C dX11_say_18 1 rfl rfl ?_
    obtain ⟨⟨r3, u3_signs, u3_size⟩, hc4, hF⟩ := bind_c hF
    dsimp only at hF
    refine q_rwz hA ([(o, .inr (11, [.ref o_sea, .ref o_treaty, .ref o_lookout, .ref o_pad, .ref o_images, .ref o_trial, .ref o_bringing, .ref o_guess, .ref o_game, .ref o_fraction, .ref o_got])), (o_pad, .inr (7, [.ref o_pad_signs, .int u3_size])), (o_pad_signs, .inl (cI, 60, .inl u3_signs))]) [1, 2] [0] rfl rfl rfl (by decide) [0, 1, 2] rfl rfl (q_runV (As := [.int p1]) (rest := []) C (fun sz => c_X7_write l dC dI cI cZ cQ o_pad o_pad_signs v_pad_signs v_pad_size p1 r3 u3_signs u3_size hc4 sz) (cwV 1 C.2.2.2.2.1 gX11_say_X7_write rfl rfl rfl (by decide +kernel) ⟨Nat.le_of_ble_eq_true rfl, Nat.le_of_ble_eq_true rfl⟩) 1 rfl rfl rfl [1, 2] rfl rfl rfl rfl (Nat.le_of_ble_eq_true rfl) dX11_say_19 ⟨Nat.zero_le _, Nat.zero_le _⟩) (fun hz3 => ?_)
    refine q_if_ne (tgt := 28) C dX11_say_22 (by decide) (fun c5 => ?_) (fun c5 => ?_)
    · have hF := ite_f hF c5
      refine q_aload_n C dX11_say_28 0 rfl rfl ?_
      refine q_get (C0 := RX11) (T := TX11) (N := 11) (k0 := 3) C lk1 0 rfl rfl (by decide) lk0 rfl (v := .ref o_pad) rfl dX11_say_29 ?_
      refine q_get (C0 := RX7) (T := TX7) (N := 2) (k0 := 1) C lk3 1 rfl rfl (by decide) lk2 rfl (v := .int u3_size) rfl dX11_say_32 ?_
      cases hF
      exact q_wreti C hr dX11_say_35 hQ
    · have hF := ite_t hF c5
      refine q_bipush (v := (-4 : Int32)) C dX11_say_25 (by decide) ?_
      cases hF
      exact q_wreti C hr dX11_say_27 hQ
  · have hF := ite_t hF c2
    refine q_bipush (v := (-2 : Int32)) C dX11_say_11 (by decide) ?_
    cases hF
    exact q_wreti C hr dX11_say_13 hQ
set_option maxRecDepth 100000 in
set_option maxHeartbeats 4000000 in
theorem c_X11_wipe (l : Launch) (dC : Nat → ClassId) (dI : Nat → Nat → Nat) (cI cZ cQ : ClassId) (o o_pad o_sea o_treaty o_lookout o_images o_trial o_bringing o_guess o_game o_fraction o_got o_pad_signs : Nat) (v_pad_size : Int32) (R : Int32) (w_pad_size : Int32) (hF : f_Strait_wipe v_pad_size = some (R, w_pad_size)) (sz : Nat) : Met l yX11_wipe wsX11_wipe ({ frames := 0, cells := 0, slots := 0, locals := 0 } : Room) (qPc ([.ref o]) (dC, dI) (qT cI cZ cQ) ([(o, .inr (11, [.ref o_sea, .ref o_treaty, .ref o_lookout, .ref o_pad, .ref o_images, .ref o_trial, .ref o_bringing, .ref o_guess, .ref o_game, .ref o_fraction, .ref o_got])), (o_pad, .inr (7, [.ref o_pad_signs, .int v_pad_size]))]) sz) (qWi R (dC, dI) ([(o, .inr (11, [.ref o_sea, .ref o_treaty, .ref o_lookout, .ref o_pad, .ref o_images, .ref o_trial, .ref o_bringing, .ref o_guess, .ref o_game, .ref o_fraction, .ref o_got])), (o_pad, .inr (7, [.ref o_pad_signs, .int w_pad_size]))]) (va_A ([(o, .inr (11, [.ref o_sea, .ref o_treaty, .ref o_lookout, .ref o_pad, .ref o_images, .ref o_trial, .ref o_bringing, .ref o_guess, .ref o_game, .ref o_fraction, .ref o_got])), (o_pad, .inr (7, [.ref o_pad_signs, .int v_pad_size]))]) sz)) 0 0 (va_A ([(o, .inr (11, [.ref o_sea, .ref o_treaty, .ref o_lookout, .ref o_pad, .ref o_images, .ref o_trial, .ref o_bringing, .ref o_guess, .ref o_game, .ref o_fraction, .ref o_got])), (o_pad, .inr (7, [.ref o_pad_signs, .int v_pad_size]))]) sz) := by
  refine q_met_w (Qc := fun A => qWi R (dC, dI) ([(o, .inr (11, [.ref o_sea, .ref o_treaty, .ref o_lookout, .ref o_pad, .ref o_images, .ref o_trial, .ref o_bringing, .ref o_guess, .ref o_game, .ref o_fraction, .ref o_got])), (o_pad, .inr (7, [.ref o_pad_signs, .int w_pad_size]))]) A) (cc := cX11_wipe) (own := RX11) (maxL := 2) (ret := (some .int)) (lv0 := [(0, .ref o)]) (by decide) rfl rfl rfl (Nat.le_of_ble_eq_true rfl) ?_
  intro p e s m args below meth c A hA C hr hnm Q hQ
  have lk0 : Cond.fieldLink RX11 33 "SealStrait" "pad" "LSealStrait$Pad;" ∈ wsX11_wipe := by decide +kernel
  have lk1 : ∀ w ∈ u_ws RX11 TX11 11, w ∈ wsX11_wipe := fun w h => List.mem_cons_of_mem _ (List.mem_append_left _ (List.mem_append_right _ h))
  have lk2 : Cond.fieldLink RX11 118 "SealStrait$Pad" "size" "I" ∈ wsX11_wipe := by decide +kernel
  have lk3 : ∀ w ∈ u_ws RX7 TX7 2, w ∈ wsX11_wipe := fun w h => List.mem_cons_of_mem _ (List.mem_append_right _ h)
  unfold f_Strait_wipe at hF
  refine q_aload_n C dX11_wipe_0 0 rfl rfl ?_
  refine q_get (C0 := RX11) (T := TX11) (N := 11) (k0 := 3) C lk1 0 rfl rfl (by decide) lk0 rfl (v := .ref o_pad) rfl dX11_wipe_1 ?_
  refine q_get (C0 := RX7) (T := TX7) (N := 2) (k0 := 1) C lk3 1 rfl rfl (by decide) lk2 rfl (v := .int v_pad_size) rfl dX11_wipe_4 ?_
  refine q_istore_n C ([(1, .int v_pad_size), (0, .ref o)]) dX11_wipe_7 rfl (by decide) rfl ?_
  refine q_aload_n C dX11_wipe_8 1 rfl rfl ?_
  refine q_get (C0 := RX11) (T := TX11) (N := 11) (k0 := 3) C lk1 0 rfl rfl (by decide) lk0 rfl (v := .ref o_pad) rfl dX11_wipe_9 ?_
  refine q_iconst (v := (0 : Int32)) C dX11_wipe_12 (by decide) ?_
  refine q_put (C0 := RX7) (T := TX7) (N := 2) (k0 := 1) C lk3 1 rfl rfl (by decide) lk2 rfl tyX7 tyX7_ok nmX7 rfl (v := .int (0 : Int32)) rfl rfl (Nat.le_of_ble_eq_true rfl) ([(o, .inr (11, [.ref o_sea, .ref o_treaty, .ref o_lookout, .ref o_pad, .ref o_images, .ref o_trial, .ref o_bringing, .ref o_guess, .ref o_game, .ref o_fraction, .ref o_got])), (o_pad, .inr (7, [.ref o_pad_signs, .int (0 : Int32)]))]) rfl dX11_wipe_13 ?_
  refine q_iload_n C dX11_wipe_16 0 rfl rfl ?_
  cases hF
  exact q_wreti C hr dX11_wipe_17 hQ
set_option maxRecDepth 100000 in
set_option maxHeartbeats 4000000 in
theorem c_X11_fault (l : Launch) (dC : Nat → ClassId) (dI : Nat → Nat → Nat) (cI cZ cQ : ClassId) (o o_pad o_pad_signs o_sea o_treaty o_lookout o_images o_trial o_bringing o_guess o_game o_fraction o_got : Nat) (v_pad_signs : Nat → Int32) (v_pad_size : Int32) (R : Int32) (hF : f_Strait_fault v_pad_signs v_pad_size = some R) (sz : Nat) : Met l yX11_fault wsX11_fault ({ frames := 4, cells := 0, slots := 0, locals := 85 } : Room) (qPc ([.ref o]) (dC, dI) (qT cI cZ cQ) ([(o, .inr (11, [.ref o_sea, .ref o_treaty, .ref o_lookout, .ref o_pad, .ref o_images, .ref o_trial, .ref o_bringing, .ref o_guess, .ref o_game, .ref o_fraction, .ref o_got])), (o_pad, .inr (7, [.ref o_pad_signs, .int v_pad_size])), (o_pad_signs, .inl (cI, 60, .inl v_pad_signs))]) sz) (qRi R) 0 0 (fun _ => False) := by
  refine q_met_r (cc := cX11_fault) (own := RX11) (maxL := 1) (ret := (some .int)) (lv0 := [(0, .ref o)]) (by decide) rfl rfl rfl (Nat.le_of_ble_eq_true rfl) ?_
  intro p e s m args below meth c C hr A A' Q hA0 hQ
  have lk0 : Cond.fieldLink RX11 33 "SealStrait" "pad" "LSealStrait$Pad;" ∈ wsX11_fault := by decide +kernel
  have lk1 : ∀ w ∈ u_ws RX11 TX11 11, w ∈ wsX11_fault := fun w h => List.mem_cons_of_mem _ (List.mem_append_left _ (List.mem_append_right _ h))
  unfold f_Strait_fault at hF
  refine q_aload_n C dX11_fault_0 0 rfl rfl ?_
  refine q_get (C0 := RX11) (T := TX11) (N := 11) (k0 := 3) C lk1 0 rfl rfl (by decide) lk0 rfl (v := .ref o_pad) rfl dX11_fault_1 ?_
  obtain ⟨r1, hc2, hF⟩ := bind_c hF
  refine q_roi (q_runV (As := []) (rest := []) C (fun sz => c_X7_faultPlace l dC dI cI cZ cQ o_pad o_pad_signs v_pad_signs v_pad_size r1 hc2 sz) (cwV 0 C.2.2.2.2.1 gX11_fault_X7_faultPlace rfl rfl rfl (by decide +kernel) ⟨Nat.le_of_ble_eq_true rfl, Nat.le_of_ble_eq_true rfl⟩) 1 rfl rfl rfl [1, 2] rfl rfl rfl rfl (Nat.le_of_ble_eq_true rfl) dX11_fault_4 ⟨Nat.zero_le _, Nat.zero_le _⟩) ?_
  cases hF
  exact q_ireti C hA0 hr dX11_fault_7 hQ
set_option maxRecDepth 100000 in
set_option maxHeartbeats 4000000 in
theorem c_X11_judge (l : Launch) (dC : Nat → ClassId) (dI : Nat → Nat → Nat) (cI cZ cQ : ClassId) (o o_sea o_sea_heads o_sea_sides o_sea_moods o_sea_moults o_treaty o_treaty_words o_pad o_pad_signs o_trial o_trial_sea o_trial_sea_heads o_trial_sea_sides o_trial_sea_moods o_trial_sea_moults o_trial_act o_lookout o_images o_bringing o_guess o_game o_fraction o_got o_treaty_clashes : Nat) (v_sea_there : Int32) (v_sea_month : Int32) (v_sea_lost : Int32) (v_sea_heads : Nat → Int32) (v_sea_sides : Nat → Int32) (v_sea_moods : Nat → Int32) (v_sea_moults : Nat → Int32) (v_treaty_words : Nat → Int32) (v_pad_signs : Nat → Int32) (v_pad_size : Int32) (v_trial_sea_there : Int32) (v_trial_sea_month : Int32) (v_trial_sea_lost : Int32) (v_trial_sea_heads : Nat → Int32) (v_trial_sea_sides : Nat → Int32) (v_trial_sea_moods : Nat → Int32) (v_trial_sea_moults : Nat → Int32) (v_trial_act_kind : Int32) (v_trial_act_one : Int32) (v_trial_act_other : Int32) (v_trial_isFaulty : Int32) (v_trial_acts : Int32) (v_trial_why : Int32) (v_trial_readings : Int32) (v_trial_signedAll : Int32) (p1 : Int32) (R : Int32) (w_trial_sea_there : Int32) (w_trial_sea_month : Int32) (w_trial_sea_lost : Int32) (w_trial_sea_heads : Nat → Int32) (w_trial_sea_sides : Nat → Int32) (w_trial_sea_moods : Nat → Int32) (w_trial_sea_moults : Nat → Int32) (w_trial_act_kind : Int32) (w_trial_act_one : Int32) (w_trial_act_other : Int32) (w_trial_isFaulty : Int32) (w_trial_acts : Int32) (w_trial_why : Int32) (w_trial_readings : Int32) (w_trial_signedAll : Int32) (hF : f_Strait_judge v_sea_there v_sea_month v_sea_lost v_sea_heads v_sea_sides v_sea_moods v_sea_moults v_treaty_words v_pad_signs v_pad_size v_trial_sea_there v_trial_sea_month v_trial_sea_lost v_trial_sea_heads v_trial_sea_sides v_trial_sea_moods v_trial_sea_moults v_trial_act_kind v_trial_act_one v_trial_act_other v_trial_isFaulty v_trial_acts v_trial_why v_trial_readings v_trial_signedAll p1 = some (R, w_trial_sea_there, w_trial_sea_month, w_trial_sea_lost, w_trial_sea_heads, w_trial_sea_sides, w_trial_sea_moods, w_trial_sea_moults, w_trial_act_kind, w_trial_act_one, w_trial_act_other, w_trial_isFaulty, w_trial_acts, w_trial_why, w_trial_readings, w_trial_signedAll)) (sz : Nat) : Met l yX11_judge wsX11_judge ({ frames := 6, cells := 0, slots := 0, locals := 135 } : Room) (qPc ([.ref o, .int p1]) (dC, dI) (qT cI cZ cQ) ([(o, .inr (11, [.ref o_sea, .ref o_treaty, .ref o_lookout, .ref o_pad, .ref o_images, .ref o_trial, .ref o_bringing, .ref o_guess, .ref o_game, .ref o_fraction, .ref o_got])), (o_sea, .inr (8, [.int v_sea_there, .int v_sea_month, .int v_sea_lost, .ref o_sea_heads, .ref o_sea_sides, .ref o_sea_moods, .ref o_sea_moults])), (o_sea_heads, .inl (cI, 6, .inl v_sea_heads)), (o_sea_sides, .inl (cI, 6, .inl v_sea_sides)), (o_sea_moods, .inl (cI, 6, .inl v_sea_moods)), (o_sea_moults, .inl (cI, 6, .inl v_sea_moults)), (o_treaty, .inr (9, [.ref o_treaty_words, .ref o_treaty_clashes])), (o_treaty_words, .inl (cI, 10, .inl v_treaty_words)), (o_pad, .inr (7, [.ref o_pad_signs, .int v_pad_size])), (o_pad_signs, .inl (cI, 60, .inl v_pad_signs)), (o_trial, .inr (10, [.ref o_trial_sea, .ref o_trial_act, .int v_trial_isFaulty, .int v_trial_acts, .int v_trial_why, .int v_trial_readings, .int v_trial_signedAll])), (o_trial_sea, .inr (8, [.int v_trial_sea_there, .int v_trial_sea_month, .int v_trial_sea_lost, .ref o_trial_sea_heads, .ref o_trial_sea_sides, .ref o_trial_sea_moods, .ref o_trial_sea_moults])), (o_trial_sea_heads, .inl (cI, 6, .inl v_trial_sea_heads)), (o_trial_sea_sides, .inl (cI, 6, .inl v_trial_sea_sides)), (o_trial_sea_moods, .inl (cI, 6, .inl v_trial_sea_moods)), (o_trial_sea_moults, .inl (cI, 6, .inl v_trial_sea_moults)), (o_trial_act, .inr (0, [.int v_trial_act_kind, .int v_trial_act_one, .int v_trial_act_other]))]) sz) (qWi R (dC, dI) ([(o, .inr (11, [.ref o_sea, .ref o_treaty, .ref o_lookout, .ref o_pad, .ref o_images, .ref o_trial, .ref o_bringing, .ref o_guess, .ref o_game, .ref o_fraction, .ref o_got])), (o_sea, .inr (8, [.int v_sea_there, .int v_sea_month, .int v_sea_lost, .ref o_sea_heads, .ref o_sea_sides, .ref o_sea_moods, .ref o_sea_moults])), (o_sea_heads, .inl (cI, 6, .inl v_sea_heads)), (o_sea_sides, .inl (cI, 6, .inl v_sea_sides)), (o_sea_moods, .inl (cI, 6, .inl v_sea_moods)), (o_sea_moults, .inl (cI, 6, .inl v_sea_moults)), (o_treaty, .inr (9, [.ref o_treaty_words, .ref o_treaty_clashes])), (o_treaty_words, .inl (cI, 10, .inl v_treaty_words)), (o_pad, .inr (7, [.ref o_pad_signs, .int v_pad_size])), (o_pad_signs, .inl (cI, 60, .inl v_pad_signs)), (o_trial, .inr (10, [.ref o_trial_sea, .ref o_trial_act, .int w_trial_isFaulty, .int w_trial_acts, .int w_trial_why, .int w_trial_readings, .int w_trial_signedAll])), (o_trial_sea, .inr (8, [.int w_trial_sea_there, .int w_trial_sea_month, .int w_trial_sea_lost, .ref o_trial_sea_heads, .ref o_trial_sea_sides, .ref o_trial_sea_moods, .ref o_trial_sea_moults])), (o_trial_sea_heads, .inl (cI, 6, .inl w_trial_sea_heads)), (o_trial_sea_sides, .inl (cI, 6, .inl w_trial_sea_sides)), (o_trial_sea_moods, .inl (cI, 6, .inl w_trial_sea_moods)), (o_trial_sea_moults, .inl (cI, 6, .inl w_trial_sea_moults)), (o_trial_act, .inr (0, [.int w_trial_act_kind, .int w_trial_act_one, .int w_trial_act_other]))]) (va_A ([(o, .inr (11, [.ref o_sea, .ref o_treaty, .ref o_lookout, .ref o_pad, .ref o_images, .ref o_trial, .ref o_bringing, .ref o_guess, .ref o_game, .ref o_fraction, .ref o_got])), (o_sea, .inr (8, [.int v_sea_there, .int v_sea_month, .int v_sea_lost, .ref o_sea_heads, .ref o_sea_sides, .ref o_sea_moods, .ref o_sea_moults])), (o_sea_heads, .inl (cI, 6, .inl v_sea_heads)), (o_sea_sides, .inl (cI, 6, .inl v_sea_sides)), (o_sea_moods, .inl (cI, 6, .inl v_sea_moods)), (o_sea_moults, .inl (cI, 6, .inl v_sea_moults)), (o_treaty, .inr (9, [.ref o_treaty_words, .ref o_treaty_clashes])), (o_treaty_words, .inl (cI, 10, .inl v_treaty_words)), (o_pad, .inr (7, [.ref o_pad_signs, .int v_pad_size])), (o_pad_signs, .inl (cI, 60, .inl v_pad_signs)), (o_trial, .inr (10, [.ref o_trial_sea, .ref o_trial_act, .int v_trial_isFaulty, .int v_trial_acts, .int v_trial_why, .int v_trial_readings, .int v_trial_signedAll])), (o_trial_sea, .inr (8, [.int v_trial_sea_there, .int v_trial_sea_month, .int v_trial_sea_lost, .ref o_trial_sea_heads, .ref o_trial_sea_sides, .ref o_trial_sea_moods, .ref o_trial_sea_moults])), (o_trial_sea_heads, .inl (cI, 6, .inl v_trial_sea_heads)), (o_trial_sea_sides, .inl (cI, 6, .inl v_trial_sea_sides)), (o_trial_sea_moods, .inl (cI, 6, .inl v_trial_sea_moods)), (o_trial_sea_moults, .inl (cI, 6, .inl v_trial_sea_moults)), (o_trial_act, .inr (0, [.int v_trial_act_kind, .int v_trial_act_one, .int v_trial_act_other]))]) sz)) 0 0 (va_A ([(o, .inr (11, [.ref o_sea, .ref o_treaty, .ref o_lookout, .ref o_pad, .ref o_images, .ref o_trial, .ref o_bringing, .ref o_guess, .ref o_game, .ref o_fraction, .ref o_got])), (o_sea, .inr (8, [.int v_sea_there, .int v_sea_month, .int v_sea_lost, .ref o_sea_heads, .ref o_sea_sides, .ref o_sea_moods, .ref o_sea_moults])), (o_sea_heads, .inl (cI, 6, .inl v_sea_heads)), (o_sea_sides, .inl (cI, 6, .inl v_sea_sides)), (o_sea_moods, .inl (cI, 6, .inl v_sea_moods)), (o_sea_moults, .inl (cI, 6, .inl v_sea_moults)), (o_treaty, .inr (9, [.ref o_treaty_words, .ref o_treaty_clashes])), (o_treaty_words, .inl (cI, 10, .inl v_treaty_words)), (o_pad, .inr (7, [.ref o_pad_signs, .int v_pad_size])), (o_pad_signs, .inl (cI, 60, .inl v_pad_signs)), (o_trial, .inr (10, [.ref o_trial_sea, .ref o_trial_act, .int v_trial_isFaulty, .int v_trial_acts, .int v_trial_why, .int v_trial_readings, .int v_trial_signedAll])), (o_trial_sea, .inr (8, [.int v_trial_sea_there, .int v_trial_sea_month, .int v_trial_sea_lost, .ref o_trial_sea_heads, .ref o_trial_sea_sides, .ref o_trial_sea_moods, .ref o_trial_sea_moults])), (o_trial_sea_heads, .inl (cI, 6, .inl v_trial_sea_heads)), (o_trial_sea_sides, .inl (cI, 6, .inl v_trial_sea_sides)), (o_trial_sea_moods, .inl (cI, 6, .inl v_trial_sea_moods)), (o_trial_sea_moults, .inl (cI, 6, .inl v_trial_sea_moults)), (o_trial_act, .inr (0, [.int v_trial_act_kind, .int v_trial_act_one, .int v_trial_act_other]))]) sz) := by
  refine q_met_w (Qc := fun A => qWi R (dC, dI) ([(o, .inr (11, [.ref o_sea, .ref o_treaty, .ref o_lookout, .ref o_pad, .ref o_images, .ref o_trial, .ref o_bringing, .ref o_guess, .ref o_game, .ref o_fraction, .ref o_got])), (o_sea, .inr (8, [.int v_sea_there, .int v_sea_month, .int v_sea_lost, .ref o_sea_heads, .ref o_sea_sides, .ref o_sea_moods, .ref o_sea_moults])), (o_sea_heads, .inl (cI, 6, .inl v_sea_heads)), (o_sea_sides, .inl (cI, 6, .inl v_sea_sides)), (o_sea_moods, .inl (cI, 6, .inl v_sea_moods)), (o_sea_moults, .inl (cI, 6, .inl v_sea_moults)), (o_treaty, .inr (9, [.ref o_treaty_words, .ref o_treaty_clashes])), (o_treaty_words, .inl (cI, 10, .inl v_treaty_words)), (o_pad, .inr (7, [.ref o_pad_signs, .int v_pad_size])), (o_pad_signs, .inl (cI, 60, .inl v_pad_signs)), (o_trial, .inr (10, [.ref o_trial_sea, .ref o_trial_act, .int w_trial_isFaulty, .int w_trial_acts, .int w_trial_why, .int w_trial_readings, .int w_trial_signedAll])), (o_trial_sea, .inr (8, [.int w_trial_sea_there, .int w_trial_sea_month, .int w_trial_sea_lost, .ref o_trial_sea_heads, .ref o_trial_sea_sides, .ref o_trial_sea_moods, .ref o_trial_sea_moults])), (o_trial_sea_heads, .inl (cI, 6, .inl w_trial_sea_heads)), (o_trial_sea_sides, .inl (cI, 6, .inl w_trial_sea_sides)), (o_trial_sea_moods, .inl (cI, 6, .inl w_trial_sea_moods)), (o_trial_sea_moults, .inl (cI, 6, .inl w_trial_sea_moults)), (o_trial_act, .inr (0, [.int w_trial_act_kind, .int w_trial_act_one, .int w_trial_act_other]))]) A) (cc := cX11_judge) (own := RX11) (maxL := 2) (ret := (some .int)) (lv0 := [(0, .ref o), (1, .int p1)]) (by decide) rfl rfl rfl (Nat.le_of_ble_eq_true rfl) ?_
  intro p e s m args below meth c A hA C hr hnm Q hQ
  have lk0 : Cond.fieldLink RX11 46 "SealStrait" "trial" "LSealStrait$Trial;" ∈ wsX11_judge := by decide +kernel
  have lk1 : ∀ w ∈ u_ws RX11 TX11 11, w ∈ wsX11_judge := fun w h => List.mem_cons_of_mem _ (List.mem_append_left _ (List.mem_append_left _ (List.mem_append_left _ (List.mem_append_left _ (List.mem_append_left _ (List.mem_append_right _ h))))))
  have lk2 : Cond.fieldLink RX11 33 "SealStrait" "pad" "LSealStrait$Pad;" ∈ wsX11_judge := by decide +kernel
  have lk3 : Cond.fieldLink RX11 12 "SealStrait" "sea" "LSealStrait$Sea;" ∈ wsX11_judge := by decide +kernel
  have lk4 : Cond.fieldLink RX11 19 "SealStrait" "treaty" "LSealStrait$Treaty;" ∈ wsX11_judge := by decide +kernel
  have lk5 : Cond.fieldLink RX11 128 "SealStrait$Trial" "isFaulty" "Z" ∈ wsX11_judge := by decide +kernel
  have lk6 : ∀ w ∈ u_ws RX10 TX10 7, w ∈ wsX11_judge := fun w h => List.mem_cons_of_mem _ (List.mem_append_left _ (List.mem_append_left _ (List.mem_append_left _ (List.mem_append_left _ (List.mem_append_right _ h)))))
  have lk7 : Cond.fieldLink RX11 132 "SealStrait$Trial" "why" "I" ∈ wsX11_judge := by decide +kernel
  have lk8 : Cond.fieldLink RX11 135 "SealStrait$Trial" "acts" "I" ∈ wsX11_judge := by decide +kernel
  unfold f_Strait_judge at hF
  refine q_iload_n C dX11_judge_0 1 rfl rfl ?_
  refine q_iconst (v := (0 : Int32)) C dX11_judge_1 (by decide) ?_
  refine q_iconst (v := (1 : Int32)) C dX11_judge_2 (by decide) ?_
  refine q_roz (q_runS (As := [.int p1, .int (0 : Int32), .int (1 : Int32)]) (rest := []) C (fun sz => c_X11_within l dC dI cI cZ cQ p1 (0 : Int32) (1 : Int32) (f_Strait_within p1 (0 : Int32) (1 : Int32)) rfl sz) (va_cwS 3 C.2.2.2.2.1 gX11_judge_X11_within rfl rfl rfl (by decide +kernel) ⟨Nat.le_of_ble_eq_true rfl, Nat.le_of_ble_eq_true rfl⟩) [] rfl rfl rfl rfl (Nat.le_of_ble_eq_true rfl) dX11_judge_3 ⟨Nat.zero_le _, Nat.zero_le _⟩) (fun hz1 => ?_)
  refine q_if_ne (tgt := 12) C dX11_judge_6 (by decide) (fun c2 => ?_) (fun c2 => ?_)
  · have hF := ite_f hF c2
    refine q_aload_n C dX11_judge_12 0 rfl rfl ?_
    refine q_get (C0 := RX11) (T := TX11) (N := 11) (k0 := 5) C lk1 0 rfl rfl (by decide) lk0 rfl (v := .ref o_trial) rfl dX11_judge_13 ?_
    refine q_aload_n C dX11_judge_16 0 rfl rfl ?_
    refine q_get (C0 := RX11) (T := TX11) (N := 11) (k0 := 3) C lk1 0 rfl rfl (by decide) lk2 rfl (v := .ref o_pad) rfl dX11_judge_17 ?_
    refine q_aload_n C dX11_judge_20 0 rfl rfl ?_
    refine q_get (C0 := RX11) (T := TX11) (N := 11) (k0 := 0) C lk1 0 rfl rfl (by decide) lk3 rfl (v := .ref o_sea) rfl dX11_judge_21 ?_
    refine q_aload_n C dX11_judge_24 0 rfl rfl ?_
    refine q_get (C0 := RX11) (T := TX11) (N := 11) (k0 := 1) C lk1 0 rfl rfl (by decide) lk4 rfl (v := .ref o_treaty) rfl dX11_judge_25 ?_
    obtain ⟨⟨u3_sea_there, u3_sea_month, u3_sea_lost, u3_sea_heads, u3_sea_sides, u3_sea_moods, u3_sea_moults, u3_act_kind, u3_act_one, u3_act_other, u3_isFaulty, u3_acts, u3_why, u3_readings, u3_signedAll⟩, hc4, hF⟩ := bind_c hF
    dsimp only at hF
    refine q_rwv hA ([(o, .inr (11, [.ref o_sea, .ref o_treaty, .ref o_lookout, .ref o_pad, .ref o_images, .ref o_trial, .ref o_bringing, .ref o_guess, .ref o_game, .ref o_fraction, .ref o_got])), (o_sea, .inr (8, [.int v_sea_there, .int v_sea_month, .int v_sea_lost, .ref o_sea_heads, .ref o_sea_sides, .ref o_sea_moods, .ref o_sea_moults])), (o_sea_heads, .inl (cI, 6, .inl v_sea_heads)), (o_sea_sides, .inl (cI, 6, .inl v_sea_sides)), (o_sea_moods, .inl (cI, 6, .inl v_sea_moods)), (o_sea_moults, .inl (cI, 6, .inl v_sea_moults)), (o_treaty, .inr (9, [.ref o_treaty_words, .ref o_treaty_clashes])), (o_treaty_words, .inl (cI, 10, .inl v_treaty_words)), (o_pad, .inr (7, [.ref o_pad_signs, .int v_pad_size])), (o_pad_signs, .inl (cI, 60, .inl v_pad_signs)), (o_trial, .inr (10, [.ref o_trial_sea, .ref o_trial_act, .int u3_isFaulty, .int u3_acts, .int u3_why, .int u3_readings, .int u3_signedAll])), (o_trial_sea, .inr (8, [.int u3_sea_there, .int u3_sea_month, .int u3_sea_lost, .ref o_trial_sea_heads, .ref o_trial_sea_sides, .ref o_trial_sea_moods, .ref o_trial_sea_moults])), (o_trial_sea_heads, .inl (cI, 6, .inl u3_sea_heads)), (o_trial_sea_sides, .inl (cI, 6, .inl u3_sea_sides)), (o_trial_sea_moods, .inl (cI, 6, .inl u3_sea_moods)), (o_trial_sea_moults, .inl (cI, 6, .inl u3_sea_moults)), (o_trial_act, .inr (0, [.int u3_act_kind, .int u3_act_one, .int u3_act_other]))]) [10, 11, 12, 13, 14, 15, 16, 8, 9, 1, 2, 3, 4, 5, 6, 7] [0] rfl rfl rfl (by decide) [0, 10, 11, 12, 13, 14, 15, 16, 8, 9, 1, 2, 3, 4, 5, 6, 7] rfl rfl (q_runV (As := [.ref o_pad, .ref o_sea, .ref o_treaty]) (rest := []) C (fun sz => c_X10_run l dC dI cI cZ cQ o_trial o_trial_sea o_trial_sea_heads o_trial_sea_sides o_trial_sea_moods o_trial_sea_moults o_trial_act o_pad o_pad_signs o_sea o_sea_heads o_sea_sides o_sea_moods o_sea_moults o_treaty o_treaty_words o_treaty_clashes v_trial_sea_there v_trial_sea_month v_trial_sea_lost v_trial_sea_heads v_trial_sea_sides v_trial_sea_moods v_trial_sea_moults v_trial_act_kind v_trial_act_one v_trial_act_other v_trial_isFaulty v_trial_acts v_trial_why v_trial_readings v_trial_signedAll v_pad_signs v_pad_size v_sea_there v_sea_month v_sea_lost v_sea_heads v_sea_sides v_sea_moods v_sea_moults v_treaty_words u3_sea_there u3_sea_month u3_sea_lost u3_sea_heads u3_sea_sides u3_sea_moods u3_sea_moults u3_act_kind u3_act_one u3_act_other u3_isFaulty u3_acts u3_why u3_readings u3_signedAll hc4 sz) (cwV 3 C.2.2.2.2.1 gX11_judge_X10_run rfl rfl rfl (by decide +kernel) ⟨Nat.le_of_ble_eq_true rfl, Nat.le_of_ble_eq_true rfl⟩) 10 rfl rfl rfl [10, 11, 12, 13, 14, 15, 16, 8, 9, 1, 2, 3, 4, 5, 6, 7] rfl rfl rfl rfl (Nat.le_of_ble_eq_true rfl) dX11_judge_28 ⟨Nat.zero_le _, Nat.zero_le _⟩) ?_
    refine q_aload_n C dX11_judge_31 0 rfl rfl ?_
    refine q_get (C0 := RX11) (T := TX11) (N := 11) (k0 := 5) C lk1 0 rfl rfl (by decide) lk0 rfl (v := .ref o_trial) rfl dX11_judge_32 ?_
    refine q_get (C0 := RX10) (T := TX10) (N := 7) (k0 := 2) C lk6 10 rfl rfl (by decide) lk5 rfl (v := .int u3_isFaulty) rfl dX11_judge_35 ?_
    refine q_if_eq (tgt := 44) C dX11_judge_38 (by decide) (fun c5 => ?_) (fun c5 => ?_)
    · have hF := ite_t hF c5
      refine q_aload_n C dX11_judge_44 0 rfl rfl ?_
      refine q_get (C0 := RX11) (T := TX11) (N := 11) (k0 := 5) C lk1 0 rfl rfl (by decide) lk0 rfl (v := .ref o_trial) rfl dX11_judge_45 ?_
      refine q_get (C0 := RX10) (T := TX10) (N := 7) (k0 := 4) C lk6 10 rfl rfl (by decide) lk7 rfl (v := .int u3_why) rfl dX11_judge_48 ?_
      refine q_if_ne (tgt := 57) C dX11_judge_51 (by decide) (fun c6 => ?_) (fun c6 => ?_)
      · have hF := ite_f hF c6
        refine q_iload_n C dX11_judge_57 1 rfl rfl ?_
        refine q_if_ne (tgt := 71) C dX11_judge_58 (by decide) (fun c7 => ?_) (fun c7 => ?_)
        · have hF := ite_f hF c7
          refine q_aload_n C dX11_judge_71 0 rfl rfl ?_
          refine q_get (C0 := RX11) (T := TX11) (N := 11) (k0 := 5) C lk1 0 rfl rfl (by decide) lk0 rfl (v := .ref o_trial) rfl dX11_judge_72 ?_
          refine q_get (C0 := RX10) (T := TX10) (N := 7) (k0 := 4) C lk6 10 rfl rfl (by decide) lk7 rfl (v := .int u3_why) rfl dX11_judge_75 ?_
          cases hF
          exact q_wreti C hr dX11_judge_78 hQ
        · have hF := ite_t hF c7
          refine q_aload_n C dX11_judge_61 0 rfl rfl ?_
          refine q_get (C0 := RX11) (T := TX11) (N := 11) (k0 := 5) C lk1 0 rfl rfl (by decide) lk0 rfl (v := .ref o_trial) rfl dX11_judge_62 ?_
          refine q_get (C0 := RX10) (T := TX10) (N := 7) (k0 := 3) C lk6 10 rfl rfl (by decide) lk8 rfl (v := .int u3_acts) rfl dX11_judge_65 ?_
          refine q_goto (tgt := 78) C dX11_judge_68 (by decide) ?_
          cases hF
          exact q_wreti C hr dX11_judge_78 hQ
      · have hF := ite_t hF c6
        refine q_bipush (v := (-6 : Int32)) C dX11_judge_54 (by decide) ?_
        cases hF
        exact q_wreti C hr dX11_judge_56 hQ
    · have hF := ite_f hF c5
      refine q_bipush (v := (-5 : Int32)) C dX11_judge_41 (by decide) ?_
      cases hF
      exact q_wreti C hr dX11_judge_43 hQ
  · have hF := ite_t hF c2
    refine q_bipush (v := (-2 : Int32)) C dX11_judge_9 (by decide) ?_
    cases hF
    exact q_wreti C hr dX11_judge_11 hQ
set_option maxRecDepth 100000 in
set_option maxHeartbeats 4000000 in
theorem c_X11_done (l : Launch) (dC : Nat → ClassId) (dI : Nat → Nat → Nat) (cI cZ cQ : ClassId) (o o_sea o_sea_heads o_sea_sides o_sea_moods o_sea_moults o_treaty o_treaty_words o_pad o_pad_signs o_trial o_trial_sea o_trial_sea_heads o_trial_sea_sides o_trial_sea_moods o_trial_sea_moults o_trial_act o_lookout o_images o_bringing o_guess o_game o_fraction o_got o_treaty_clashes : Nat) (v_sea_there : Int32) (v_sea_month : Int32) (v_sea_lost : Int32) (v_sea_heads : Nat → Int32) (v_sea_sides : Nat → Int32) (v_sea_moods : Nat → Int32) (v_sea_moults : Nat → Int32) (v_treaty_words : Nat → Int32) (v_pad_signs : Nat → Int32) (v_pad_size : Int32) (v_trial_sea_there : Int32) (v_trial_sea_month : Int32) (v_trial_sea_lost : Int32) (v_trial_sea_heads : Nat → Int32) (v_trial_sea_sides : Nat → Int32) (v_trial_sea_moods : Nat → Int32) (v_trial_sea_moults : Nat → Int32) (v_trial_act_kind : Int32) (v_trial_act_one : Int32) (v_trial_act_other : Int32) (v_trial_isFaulty : Int32) (v_trial_acts : Int32) (v_trial_why : Int32) (v_trial_readings : Int32) (v_trial_signedAll : Int32) (R : Int32) (w_sea_there : Int32) (w_sea_month : Int32) (w_sea_lost : Int32) (w_sea_heads : Nat → Int32) (w_sea_sides : Nat → Int32) (w_sea_moods : Nat → Int32) (w_sea_moults : Nat → Int32) (w_pad_size : Int32) (w_trial_sea_there : Int32) (w_trial_sea_month : Int32) (w_trial_sea_lost : Int32) (w_trial_sea_heads : Nat → Int32) (w_trial_sea_sides : Nat → Int32) (w_trial_sea_moods : Nat → Int32) (w_trial_sea_moults : Nat → Int32) (w_trial_act_kind : Int32) (w_trial_act_one : Int32) (w_trial_act_other : Int32) (w_trial_isFaulty : Int32) (w_trial_acts : Int32) (w_trial_why : Int32) (w_trial_readings : Int32) (w_trial_signedAll : Int32) (hF : f_Strait_done v_sea_there v_sea_month v_sea_lost v_sea_heads v_sea_sides v_sea_moods v_sea_moults v_treaty_words v_pad_signs v_pad_size v_trial_sea_there v_trial_sea_month v_trial_sea_lost v_trial_sea_heads v_trial_sea_sides v_trial_sea_moods v_trial_sea_moults v_trial_act_kind v_trial_act_one v_trial_act_other v_trial_isFaulty v_trial_acts v_trial_why v_trial_readings v_trial_signedAll = some (R, w_sea_there, w_sea_month, w_sea_lost, w_sea_heads, w_sea_sides, w_sea_moods, w_sea_moults, w_pad_size, w_trial_sea_there, w_trial_sea_month, w_trial_sea_lost, w_trial_sea_heads, w_trial_sea_sides, w_trial_sea_moods, w_trial_sea_moults, w_trial_act_kind, w_trial_act_one, w_trial_act_other, w_trial_isFaulty, w_trial_acts, w_trial_why, w_trial_readings, w_trial_signedAll)) (sz : Nat) : Met l yX11_done wsX11_done ({ frames := 6, cells := 0, slots := 0, locals := 135 } : Room) (qPc ([.ref o]) (dC, dI) (qT cI cZ cQ) ([(o, .inr (11, [.ref o_sea, .ref o_treaty, .ref o_lookout, .ref o_pad, .ref o_images, .ref o_trial, .ref o_bringing, .ref o_guess, .ref o_game, .ref o_fraction, .ref o_got])), (o_sea, .inr (8, [.int v_sea_there, .int v_sea_month, .int v_sea_lost, .ref o_sea_heads, .ref o_sea_sides, .ref o_sea_moods, .ref o_sea_moults])), (o_sea_heads, .inl (cI, 6, .inl v_sea_heads)), (o_sea_sides, .inl (cI, 6, .inl v_sea_sides)), (o_sea_moods, .inl (cI, 6, .inl v_sea_moods)), (o_sea_moults, .inl (cI, 6, .inl v_sea_moults)), (o_treaty, .inr (9, [.ref o_treaty_words, .ref o_treaty_clashes])), (o_treaty_words, .inl (cI, 10, .inl v_treaty_words)), (o_pad, .inr (7, [.ref o_pad_signs, .int v_pad_size])), (o_pad_signs, .inl (cI, 60, .inl v_pad_signs)), (o_trial, .inr (10, [.ref o_trial_sea, .ref o_trial_act, .int v_trial_isFaulty, .int v_trial_acts, .int v_trial_why, .int v_trial_readings, .int v_trial_signedAll])), (o_trial_sea, .inr (8, [.int v_trial_sea_there, .int v_trial_sea_month, .int v_trial_sea_lost, .ref o_trial_sea_heads, .ref o_trial_sea_sides, .ref o_trial_sea_moods, .ref o_trial_sea_moults])), (o_trial_sea_heads, .inl (cI, 6, .inl v_trial_sea_heads)), (o_trial_sea_sides, .inl (cI, 6, .inl v_trial_sea_sides)), (o_trial_sea_moods, .inl (cI, 6, .inl v_trial_sea_moods)), (o_trial_sea_moults, .inl (cI, 6, .inl v_trial_sea_moults)), (o_trial_act, .inr (0, [.int v_trial_act_kind, .int v_trial_act_one, .int v_trial_act_other]))]) sz) (qWi R (dC, dI) ([(o, .inr (11, [.ref o_sea, .ref o_treaty, .ref o_lookout, .ref o_pad, .ref o_images, .ref o_trial, .ref o_bringing, .ref o_guess, .ref o_game, .ref o_fraction, .ref o_got])), (o_sea, .inr (8, [.int w_sea_there, .int w_sea_month, .int w_sea_lost, .ref o_sea_heads, .ref o_sea_sides, .ref o_sea_moods, .ref o_sea_moults])), (o_sea_heads, .inl (cI, 6, .inl w_sea_heads)), (o_sea_sides, .inl (cI, 6, .inl w_sea_sides)), (o_sea_moods, .inl (cI, 6, .inl w_sea_moods)), (o_sea_moults, .inl (cI, 6, .inl w_sea_moults)), (o_treaty, .inr (9, [.ref o_treaty_words, .ref o_treaty_clashes])), (o_treaty_words, .inl (cI, 10, .inl v_treaty_words)), (o_pad, .inr (7, [.ref o_pad_signs, .int w_pad_size])), (o_pad_signs, .inl (cI, 60, .inl v_pad_signs)), (o_trial, .inr (10, [.ref o_trial_sea, .ref o_trial_act, .int w_trial_isFaulty, .int w_trial_acts, .int w_trial_why, .int w_trial_readings, .int w_trial_signedAll])), (o_trial_sea, .inr (8, [.int w_trial_sea_there, .int w_trial_sea_month, .int w_trial_sea_lost, .ref o_trial_sea_heads, .ref o_trial_sea_sides, .ref o_trial_sea_moods, .ref o_trial_sea_moults])), (o_trial_sea_heads, .inl (cI, 6, .inl w_trial_sea_heads)), (o_trial_sea_sides, .inl (cI, 6, .inl w_trial_sea_sides)), (o_trial_sea_moods, .inl (cI, 6, .inl w_trial_sea_moods)), (o_trial_sea_moults, .inl (cI, 6, .inl w_trial_sea_moults)), (o_trial_act, .inr (0, [.int w_trial_act_kind, .int w_trial_act_one, .int w_trial_act_other]))]) (va_A ([(o, .inr (11, [.ref o_sea, .ref o_treaty, .ref o_lookout, .ref o_pad, .ref o_images, .ref o_trial, .ref o_bringing, .ref o_guess, .ref o_game, .ref o_fraction, .ref o_got])), (o_sea, .inr (8, [.int v_sea_there, .int v_sea_month, .int v_sea_lost, .ref o_sea_heads, .ref o_sea_sides, .ref o_sea_moods, .ref o_sea_moults])), (o_sea_heads, .inl (cI, 6, .inl v_sea_heads)), (o_sea_sides, .inl (cI, 6, .inl v_sea_sides)), (o_sea_moods, .inl (cI, 6, .inl v_sea_moods)), (o_sea_moults, .inl (cI, 6, .inl v_sea_moults)), (o_treaty, .inr (9, [.ref o_treaty_words, .ref o_treaty_clashes])), (o_treaty_words, .inl (cI, 10, .inl v_treaty_words)), (o_pad, .inr (7, [.ref o_pad_signs, .int v_pad_size])), (o_pad_signs, .inl (cI, 60, .inl v_pad_signs)), (o_trial, .inr (10, [.ref o_trial_sea, .ref o_trial_act, .int v_trial_isFaulty, .int v_trial_acts, .int v_trial_why, .int v_trial_readings, .int v_trial_signedAll])), (o_trial_sea, .inr (8, [.int v_trial_sea_there, .int v_trial_sea_month, .int v_trial_sea_lost, .ref o_trial_sea_heads, .ref o_trial_sea_sides, .ref o_trial_sea_moods, .ref o_trial_sea_moults])), (o_trial_sea_heads, .inl (cI, 6, .inl v_trial_sea_heads)), (o_trial_sea_sides, .inl (cI, 6, .inl v_trial_sea_sides)), (o_trial_sea_moods, .inl (cI, 6, .inl v_trial_sea_moods)), (o_trial_sea_moults, .inl (cI, 6, .inl v_trial_sea_moults)), (o_trial_act, .inr (0, [.int v_trial_act_kind, .int v_trial_act_one, .int v_trial_act_other]))]) sz)) 0 0 (va_A ([(o, .inr (11, [.ref o_sea, .ref o_treaty, .ref o_lookout, .ref o_pad, .ref o_images, .ref o_trial, .ref o_bringing, .ref o_guess, .ref o_game, .ref o_fraction, .ref o_got])), (o_sea, .inr (8, [.int v_sea_there, .int v_sea_month, .int v_sea_lost, .ref o_sea_heads, .ref o_sea_sides, .ref o_sea_moods, .ref o_sea_moults])), (o_sea_heads, .inl (cI, 6, .inl v_sea_heads)), (o_sea_sides, .inl (cI, 6, .inl v_sea_sides)), (o_sea_moods, .inl (cI, 6, .inl v_sea_moods)), (o_sea_moults, .inl (cI, 6, .inl v_sea_moults)), (o_treaty, .inr (9, [.ref o_treaty_words, .ref o_treaty_clashes])), (o_treaty_words, .inl (cI, 10, .inl v_treaty_words)), (o_pad, .inr (7, [.ref o_pad_signs, .int v_pad_size])), (o_pad_signs, .inl (cI, 60, .inl v_pad_signs)), (o_trial, .inr (10, [.ref o_trial_sea, .ref o_trial_act, .int v_trial_isFaulty, .int v_trial_acts, .int v_trial_why, .int v_trial_readings, .int v_trial_signedAll])), (o_trial_sea, .inr (8, [.int v_trial_sea_there, .int v_trial_sea_month, .int v_trial_sea_lost, .ref o_trial_sea_heads, .ref o_trial_sea_sides, .ref o_trial_sea_moods, .ref o_trial_sea_moults])), (o_trial_sea_heads, .inl (cI, 6, .inl v_trial_sea_heads)), (o_trial_sea_sides, .inl (cI, 6, .inl v_trial_sea_sides)), (o_trial_sea_moods, .inl (cI, 6, .inl v_trial_sea_moods)), (o_trial_sea_moults, .inl (cI, 6, .inl v_trial_sea_moults)), (o_trial_act, .inr (0, [.int v_trial_act_kind, .int v_trial_act_one, .int v_trial_act_other]))]) sz) := by
  refine q_met_w (Qc := fun A => qWi R (dC, dI) ([(o, .inr (11, [.ref o_sea, .ref o_treaty, .ref o_lookout, .ref o_pad, .ref o_images, .ref o_trial, .ref o_bringing, .ref o_guess, .ref o_game, .ref o_fraction, .ref o_got])), (o_sea, .inr (8, [.int w_sea_there, .int w_sea_month, .int w_sea_lost, .ref o_sea_heads, .ref o_sea_sides, .ref o_sea_moods, .ref o_sea_moults])), (o_sea_heads, .inl (cI, 6, .inl w_sea_heads)), (o_sea_sides, .inl (cI, 6, .inl w_sea_sides)), (o_sea_moods, .inl (cI, 6, .inl w_sea_moods)), (o_sea_moults, .inl (cI, 6, .inl w_sea_moults)), (o_treaty, .inr (9, [.ref o_treaty_words, .ref o_treaty_clashes])), (o_treaty_words, .inl (cI, 10, .inl v_treaty_words)), (o_pad, .inr (7, [.ref o_pad_signs, .int w_pad_size])), (o_pad_signs, .inl (cI, 60, .inl v_pad_signs)), (o_trial, .inr (10, [.ref o_trial_sea, .ref o_trial_act, .int w_trial_isFaulty, .int w_trial_acts, .int w_trial_why, .int w_trial_readings, .int w_trial_signedAll])), (o_trial_sea, .inr (8, [.int w_trial_sea_there, .int w_trial_sea_month, .int w_trial_sea_lost, .ref o_trial_sea_heads, .ref o_trial_sea_sides, .ref o_trial_sea_moods, .ref o_trial_sea_moults])), (o_trial_sea_heads, .inl (cI, 6, .inl w_trial_sea_heads)), (o_trial_sea_sides, .inl (cI, 6, .inl w_trial_sea_sides)), (o_trial_sea_moods, .inl (cI, 6, .inl w_trial_sea_moods)), (o_trial_sea_moults, .inl (cI, 6, .inl w_trial_sea_moults)), (o_trial_act, .inr (0, [.int w_trial_act_kind, .int w_trial_act_one, .int w_trial_act_other]))]) A) (cc := cX11_done) (own := RX11) (maxL := 1) (ret := (some .int)) (lv0 := [(0, .ref o)]) (by decide) rfl rfl rfl (Nat.le_of_ble_eq_true rfl) ?_
  intro p e s m args below meth c A hA C hr hnm Q hQ
  have lk0 : Cond.fieldLink RX11 46 "SealStrait" "trial" "LSealStrait$Trial;" ∈ wsX11_done := by decide +kernel
  have lk1 : ∀ w ∈ u_ws RX11 TX11 11, w ∈ wsX11_done := fun w h => List.mem_cons_of_mem _ (List.mem_append_left _ (List.mem_append_left _ (List.mem_append_left _ (List.mem_append_left _ (List.mem_append_left _ (List.mem_append_right _ h))))))
  have lk2 : Cond.fieldLink RX11 33 "SealStrait" "pad" "LSealStrait$Pad;" ∈ wsX11_done := by decide +kernel
  have lk3 : Cond.fieldLink RX11 12 "SealStrait" "sea" "LSealStrait$Sea;" ∈ wsX11_done := by decide +kernel
  have lk4 : Cond.fieldLink RX11 19 "SealStrait" "treaty" "LSealStrait$Treaty;" ∈ wsX11_done := by decide +kernel
  have lk5 : Cond.fieldLink RX11 142 "SealStrait$Trial" "sea" "LSealStrait$Sea;" ∈ wsX11_done := by decide +kernel
  have lk6 : ∀ w ∈ u_ws RX10 TX10 7, w ∈ wsX11_done := fun w h => List.mem_cons_of_mem _ (List.mem_append_left _ (List.mem_append_left _ (List.mem_append_left _ (List.mem_append_left _ (List.mem_append_right _ h)))))
  have lk7 : Cond.fieldLink RX11 118 "SealStrait$Pad" "size" "I" ∈ wsX11_done := by decide +kernel
  have lk8 : ∀ w ∈ u_ws RX7 TX7 2, w ∈ wsX11_done := fun w h => List.mem_cons_of_mem _ (List.mem_append_left _ (List.mem_append_left _ (List.mem_append_left _ (List.mem_append_right _ h))))
  have lk9 : Cond.fieldLink RX11 135 "SealStrait$Trial" "acts" "I" ∈ wsX11_done := by decide +kernel
  unfold f_Strait_done at hF
  refine q_aload_n C dX11_done_0 0 rfl rfl ?_
  refine q_get (C0 := RX11) (T := TX11) (N := 11) (k0 := 5) C lk1 0 rfl rfl (by decide) lk0 rfl (v := .ref o_trial) rfl dX11_done_1 ?_
  refine q_aload_n C dX11_done_4 0 rfl rfl ?_
  refine q_get (C0 := RX11) (T := TX11) (N := 11) (k0 := 3) C lk1 0 rfl rfl (by decide) lk2 rfl (v := .ref o_pad) rfl dX11_done_5 ?_
  refine q_aload_n C dX11_done_8 0 rfl rfl ?_
  refine q_get (C0 := RX11) (T := TX11) (N := 11) (k0 := 0) C lk1 0 rfl rfl (by decide) lk3 rfl (v := .ref o_sea) rfl dX11_done_9 ?_
  refine q_aload_n C dX11_done_12 0 rfl rfl ?_
  refine q_get (C0 := RX11) (T := TX11) (N := 11) (k0 := 1) C lk1 0 rfl rfl (by decide) lk4 rfl (v := .ref o_treaty) rfl dX11_done_13 ?_
  obtain ⟨⟨u1_sea_there, u1_sea_month, u1_sea_lost, u1_sea_heads, u1_sea_sides, u1_sea_moods, u1_sea_moults, u1_act_kind, u1_act_one, u1_act_other, u1_isFaulty, u1_acts, u1_why, u1_readings, u1_signedAll⟩, hc2, hF⟩ := bind_c hF
  dsimp only at hF
  refine q_rwv hA ([(o, .inr (11, [.ref o_sea, .ref o_treaty, .ref o_lookout, .ref o_pad, .ref o_images, .ref o_trial, .ref o_bringing, .ref o_guess, .ref o_game, .ref o_fraction, .ref o_got])), (o_sea, .inr (8, [.int v_sea_there, .int v_sea_month, .int v_sea_lost, .ref o_sea_heads, .ref o_sea_sides, .ref o_sea_moods, .ref o_sea_moults])), (o_sea_heads, .inl (cI, 6, .inl v_sea_heads)), (o_sea_sides, .inl (cI, 6, .inl v_sea_sides)), (o_sea_moods, .inl (cI, 6, .inl v_sea_moods)), (o_sea_moults, .inl (cI, 6, .inl v_sea_moults)), (o_treaty, .inr (9, [.ref o_treaty_words, .ref o_treaty_clashes])), (o_treaty_words, .inl (cI, 10, .inl v_treaty_words)), (o_pad, .inr (7, [.ref o_pad_signs, .int v_pad_size])), (o_pad_signs, .inl (cI, 60, .inl v_pad_signs)), (o_trial, .inr (10, [.ref o_trial_sea, .ref o_trial_act, .int u1_isFaulty, .int u1_acts, .int u1_why, .int u1_readings, .int u1_signedAll])), (o_trial_sea, .inr (8, [.int u1_sea_there, .int u1_sea_month, .int u1_sea_lost, .ref o_trial_sea_heads, .ref o_trial_sea_sides, .ref o_trial_sea_moods, .ref o_trial_sea_moults])), (o_trial_sea_heads, .inl (cI, 6, .inl u1_sea_heads)), (o_trial_sea_sides, .inl (cI, 6, .inl u1_sea_sides)), (o_trial_sea_moods, .inl (cI, 6, .inl u1_sea_moods)), (o_trial_sea_moults, .inl (cI, 6, .inl u1_sea_moults)), (o_trial_act, .inr (0, [.int u1_act_kind, .int u1_act_one, .int u1_act_other]))]) [10, 11, 12, 13, 14, 15, 16, 8, 9, 1, 2, 3, 4, 5, 6, 7] [0] rfl rfl rfl (by decide) [0, 10, 11, 12, 13, 14, 15, 16, 8, 9, 1, 2, 3, 4, 5, 6, 7] rfl rfl (q_runV (As := [.ref o_pad, .ref o_sea, .ref o_treaty]) (rest := []) C (fun sz => c_X10_run l dC dI cI cZ cQ o_trial o_trial_sea o_trial_sea_heads o_trial_sea_sides o_trial_sea_moods o_trial_sea_moults o_trial_act o_pad o_pad_signs o_sea o_sea_heads o_sea_sides o_sea_moods o_sea_moults o_treaty o_treaty_words o_treaty_clashes v_trial_sea_there v_trial_sea_month v_trial_sea_lost v_trial_sea_heads v_trial_sea_sides v_trial_sea_moods v_trial_sea_moults v_trial_act_kind v_trial_act_one v_trial_act_other v_trial_isFaulty v_trial_acts v_trial_why v_trial_readings v_trial_signedAll v_pad_signs v_pad_size v_sea_there v_sea_month v_sea_lost v_sea_heads v_sea_sides v_sea_moods v_sea_moults v_treaty_words u1_sea_there u1_sea_month u1_sea_lost u1_sea_heads u1_sea_sides u1_sea_moods u1_sea_moults u1_act_kind u1_act_one u1_act_other u1_isFaulty u1_acts u1_why u1_readings u1_signedAll hc2 sz) (cwV 3 C.2.2.2.2.1 gX11_done_X10_run rfl rfl rfl (by decide +kernel) ⟨Nat.le_of_ble_eq_true rfl, Nat.le_of_ble_eq_true rfl⟩) 10 rfl rfl rfl [10, 11, 12, 13, 14, 15, 16, 8, 9, 1, 2, 3, 4, 5, 6, 7] rfl rfl rfl rfl (Nat.le_of_ble_eq_true rfl) dX11_done_16 ⟨Nat.zero_le _, Nat.zero_le _⟩) ?_
  refine q_aload_n C dX11_done_19 0 rfl rfl ?_
  refine q_get (C0 := RX11) (T := TX11) (N := 11) (k0 := 5) C lk1 0 rfl rfl (by decide) lk0 rfl (v := .ref o_trial) rfl dX11_done_20 ?_
  refine q_roz (q_runV (As := []) (rest := []) C (fun sz => c_X10_allCanBe l dC dI cI cZ cQ o_trial o_trial_sea o_trial_act u1_isFaulty u1_why u1_acts u1_readings u1_signedAll (f_Trial_allCanBe u1_isFaulty u1_why) rfl sz) (cwV 0 C.2.2.2.2.1 gX11_done_X10_allCanBe rfl rfl rfl (by decide +kernel) ⟨Nat.le_of_ble_eq_true rfl, Nat.le_of_ble_eq_true rfl⟩) 10 rfl rfl rfl [10] rfl rfl rfl rfl (Nat.le_of_ble_eq_true rfl) dX11_done_23 ⟨Nat.zero_le _, Nat.zero_le _⟩) (fun hz3 => ?_)
  refine q_if_ne (tgt := 32) C dX11_done_26 (by decide) (fun c4 => ?_) (fun c4 => ?_)
  · have hF := ite_f hF c4
    refine q_aload_n C dX11_done_32 0 rfl rfl ?_
    refine q_get (C0 := RX11) (T := TX11) (N := 11) (k0 := 0) C lk1 0 rfl rfl (by decide) lk3 rfl (v := .ref o_sea) rfl dX11_done_33 ?_
    refine q_aload_n C dX11_done_36 0 rfl rfl ?_
    refine q_get (C0 := RX11) (T := TX11) (N := 11) (k0 := 5) C lk1 0 rfl rfl (by decide) lk0 rfl (v := .ref o_trial) rfl dX11_done_37 ?_
    refine q_get (C0 := RX10) (T := TX10) (N := 7) (k0 := 0) C lk6 10 rfl rfl (by decide) lk5 rfl (v := .ref o_trial_sea) rfl dX11_done_40 ?_
    obtain ⟨⟨u5_there, u5_month, u5_lost, u5_heads, u5_sides, u5_moods, u5_moults⟩, hc6, hF⟩ := bind_c hF
    dsimp only at hF
    refine q_rwv hA ([(o, .inr (11, [.ref o_sea, .ref o_treaty, .ref o_lookout, .ref o_pad, .ref o_images, .ref o_trial, .ref o_bringing, .ref o_guess, .ref o_game, .ref o_fraction, .ref o_got])), (o_sea, .inr (8, [.int u5_there, .int u5_month, .int u5_lost, .ref o_sea_heads, .ref o_sea_sides, .ref o_sea_moods, .ref o_sea_moults])), (o_sea_heads, .inl (cI, 6, .inl u5_heads)), (o_sea_sides, .inl (cI, 6, .inl u5_sides)), (o_sea_moods, .inl (cI, 6, .inl u5_moods)), (o_sea_moults, .inl (cI, 6, .inl u5_moults)), (o_treaty, .inr (9, [.ref o_treaty_words, .ref o_treaty_clashes])), (o_treaty_words, .inl (cI, 10, .inl v_treaty_words)), (o_pad, .inr (7, [.ref o_pad_signs, .int v_pad_size])), (o_pad_signs, .inl (cI, 60, .inl v_pad_signs)), (o_trial, .inr (10, [.ref o_trial_sea, .ref o_trial_act, .int u1_isFaulty, .int u1_acts, .int u1_why, .int u1_readings, .int u1_signedAll])), (o_trial_sea, .inr (8, [.int u1_sea_there, .int u1_sea_month, .int u1_sea_lost, .ref o_trial_sea_heads, .ref o_trial_sea_sides, .ref o_trial_sea_moods, .ref o_trial_sea_moults])), (o_trial_sea_heads, .inl (cI, 6, .inl u1_sea_heads)), (o_trial_sea_sides, .inl (cI, 6, .inl u1_sea_sides)), (o_trial_sea_moods, .inl (cI, 6, .inl u1_sea_moods)), (o_trial_sea_moults, .inl (cI, 6, .inl u1_sea_moults)), (o_trial_act, .inr (0, [.int u1_act_kind, .int u1_act_one, .int u1_act_other]))]) [1, 2, 3, 4, 5, 11, 12, 13, 14, 15] [0, 6, 7, 8, 9, 10, 16] rfl rfl rfl (by decide) [0, 7, 8, 9, 10, 11, 1, 2, 3, 4, 5, 12, 13, 14, 15, 16, 6] rfl rfl (q_runV (As := [.ref o_trial_sea]) (rest := []) C (fun sz => c_X8_copyFrom l dC dI cI cZ cQ o_sea o_sea_heads o_sea_sides o_sea_moods o_sea_moults o_trial_sea o_trial_sea_heads o_trial_sea_sides o_trial_sea_moods o_trial_sea_moults v_sea_there v_sea_month v_sea_lost v_sea_heads v_sea_sides v_sea_moods v_sea_moults u1_sea_there u1_sea_month u1_sea_lost u1_sea_heads u1_sea_sides u1_sea_moods u1_sea_moults u5_there u5_month u5_lost u5_heads u5_sides u5_moods u5_moults hc6 sz) (cwV 1 C.2.2.2.2.1 gX11_done_X8_copyFrom rfl rfl rfl (by decide +kernel) ⟨Nat.le_of_ble_eq_true rfl, Nat.le_of_ble_eq_true rfl⟩) 1 rfl rfl rfl [1, 2, 3, 4, 5, 11, 12, 13, 14, 15] rfl rfl rfl rfl (Nat.le_of_ble_eq_true rfl) dX11_done_43 ⟨Nat.zero_le _, Nat.zero_le _⟩) ?_
    refine q_aload_n C dX11_done_46 0 rfl rfl ?_
    refine q_get (C0 := RX11) (T := TX11) (N := 11) (k0 := 3) C lk1 0 rfl rfl (by decide) lk2 rfl (v := .ref o_pad) rfl dX11_done_47 ?_
    refine q_iconst (v := (0 : Int32)) C dX11_done_50 (by decide) ?_
    refine q_put (C0 := RX7) (T := TX7) (N := 2) (k0 := 1) C lk8 8 rfl rfl (by decide) lk7 rfl tyX7 tyX7_ok nmX7 rfl (v := .int (0 : Int32)) rfl rfl (Nat.le_of_ble_eq_true rfl) ([(o, .inr (11, [.ref o_sea, .ref o_treaty, .ref o_lookout, .ref o_pad, .ref o_images, .ref o_trial, .ref o_bringing, .ref o_guess, .ref o_game, .ref o_fraction, .ref o_got])), (o_sea, .inr (8, [.int u5_there, .int u5_month, .int u5_lost, .ref o_sea_heads, .ref o_sea_sides, .ref o_sea_moods, .ref o_sea_moults])), (o_sea_heads, .inl (cI, 6, .inl u5_heads)), (o_sea_sides, .inl (cI, 6, .inl u5_sides)), (o_sea_moods, .inl (cI, 6, .inl u5_moods)), (o_sea_moults, .inl (cI, 6, .inl u5_moults)), (o_treaty, .inr (9, [.ref o_treaty_words, .ref o_treaty_clashes])), (o_treaty_words, .inl (cI, 10, .inl v_treaty_words)), (o_pad, .inr (7, [.ref o_pad_signs, .int (0 : Int32)])), (o_pad_signs, .inl (cI, 60, .inl v_pad_signs)), (o_trial, .inr (10, [.ref o_trial_sea, .ref o_trial_act, .int u1_isFaulty, .int u1_acts, .int u1_why, .int u1_readings, .int u1_signedAll])), (o_trial_sea, .inr (8, [.int u1_sea_there, .int u1_sea_month, .int u1_sea_lost, .ref o_trial_sea_heads, .ref o_trial_sea_sides, .ref o_trial_sea_moods, .ref o_trial_sea_moults])), (o_trial_sea_heads, .inl (cI, 6, .inl u1_sea_heads)), (o_trial_sea_sides, .inl (cI, 6, .inl u1_sea_sides)), (o_trial_sea_moods, .inl (cI, 6, .inl u1_sea_moods)), (o_trial_sea_moults, .inl (cI, 6, .inl u1_sea_moults)), (o_trial_act, .inr (0, [.int u1_act_kind, .int u1_act_one, .int u1_act_other]))]) rfl dX11_done_51 ?_
    refine q_aload_n C dX11_done_54 0 rfl rfl ?_
    refine q_get (C0 := RX11) (T := TX11) (N := 11) (k0 := 5) C lk1 0 rfl rfl (by decide) lk0 rfl (v := .ref o_trial) rfl dX11_done_55 ?_
    refine q_get (C0 := RX10) (T := TX10) (N := 7) (k0 := 3) C lk6 10 rfl rfl (by decide) lk9 rfl (v := .int u1_acts) rfl dX11_done_58 ?_
    cases hF
    exact q_wreti C hr dX11_done_61 hQ
  · have hF := ite_t hF c4
    refine q_bipush (v := (-5 : Int32)) C dX11_done_29 (by decide) ?_
    cases hF
    exact q_wreti C hr dX11_done_31 hQ
set_option maxRecDepth 100000 in
set_option maxHeartbeats 4000000 in
theorem c_X11_behind (l : Launch) (dC : Nat → ClassId) (dI : Nat → Nat → Nat) (cI cZ cQ : ClassId) (o o_sea o_sea_heads o_sea_sides o_sea_moods o_sea_moults o_treaty o_treaty_words o_pad o_pad_signs o_trial o_trial_sea o_trial_sea_heads o_trial_sea_sides o_trial_sea_moods o_trial_sea_moults o_trial_act o_lookout o_images o_bringing o_guess o_game o_fraction o_got o_treaty_clashes : Nat) (v_sea_there : Int32) (v_sea_month : Int32) (v_sea_lost : Int32) (v_sea_heads : Nat → Int32) (v_sea_sides : Nat → Int32) (v_sea_moods : Nat → Int32) (v_sea_moults : Nat → Int32) (v_treaty_words : Nat → Int32) (v_pad_signs : Nat → Int32) (v_pad_size : Int32) (v_trial_sea_there : Int32) (v_trial_sea_month : Int32) (v_trial_sea_lost : Int32) (v_trial_sea_heads : Nat → Int32) (v_trial_sea_sides : Nat → Int32) (v_trial_sea_moods : Nat → Int32) (v_trial_sea_moults : Nat → Int32) (v_trial_act_kind : Int32) (v_trial_act_one : Int32) (v_trial_act_other : Int32) (v_trial_isFaulty : Int32) (v_trial_acts : Int32) (v_trial_why : Int32) (v_trial_readings : Int32) (v_trial_signedAll : Int32) (p1 : Int32) (p2 : Int32) (R : Int32) (w_trial_sea_there : Int32) (w_trial_sea_month : Int32) (w_trial_sea_lost : Int32) (w_trial_sea_heads : Nat → Int32) (w_trial_sea_sides : Nat → Int32) (w_trial_sea_moods : Nat → Int32) (w_trial_sea_moults : Nat → Int32) (w_trial_act_kind : Int32) (w_trial_act_one : Int32) (w_trial_act_other : Int32) (w_trial_isFaulty : Int32) (w_trial_acts : Int32) (w_trial_why : Int32) (w_trial_readings : Int32) (w_trial_signedAll : Int32) (hF : f_Strait_behind v_sea_there v_sea_month v_sea_lost v_sea_heads v_sea_sides v_sea_moods v_sea_moults v_treaty_words v_pad_signs v_pad_size v_trial_sea_there v_trial_sea_month v_trial_sea_lost v_trial_sea_heads v_trial_sea_sides v_trial_sea_moods v_trial_sea_moults v_trial_act_kind v_trial_act_one v_trial_act_other v_trial_isFaulty v_trial_acts v_trial_why v_trial_readings v_trial_signedAll p1 p2 = some (R, w_trial_sea_there, w_trial_sea_month, w_trial_sea_lost, w_trial_sea_heads, w_trial_sea_sides, w_trial_sea_moods, w_trial_sea_moults, w_trial_act_kind, w_trial_act_one, w_trial_act_other, w_trial_isFaulty, w_trial_acts, w_trial_why, w_trial_readings, w_trial_signedAll)) (sz : Nat) : Met l yX11_behind wsX11_behind ({ frames := 6, cells := 0, slots := 0, locals := 135 } : Room) (qPc ([.ref o, .int p1, .int p2]) (dC, dI) (qT cI cZ cQ) ([(o, .inr (11, [.ref o_sea, .ref o_treaty, .ref o_lookout, .ref o_pad, .ref o_images, .ref o_trial, .ref o_bringing, .ref o_guess, .ref o_game, .ref o_fraction, .ref o_got])), (o_sea, .inr (8, [.int v_sea_there, .int v_sea_month, .int v_sea_lost, .ref o_sea_heads, .ref o_sea_sides, .ref o_sea_moods, .ref o_sea_moults])), (o_sea_heads, .inl (cI, 6, .inl v_sea_heads)), (o_sea_sides, .inl (cI, 6, .inl v_sea_sides)), (o_sea_moods, .inl (cI, 6, .inl v_sea_moods)), (o_sea_moults, .inl (cI, 6, .inl v_sea_moults)), (o_treaty, .inr (9, [.ref o_treaty_words, .ref o_treaty_clashes])), (o_treaty_words, .inl (cI, 10, .inl v_treaty_words)), (o_pad, .inr (7, [.ref o_pad_signs, .int v_pad_size])), (o_pad_signs, .inl (cI, 60, .inl v_pad_signs)), (o_trial, .inr (10, [.ref o_trial_sea, .ref o_trial_act, .int v_trial_isFaulty, .int v_trial_acts, .int v_trial_why, .int v_trial_readings, .int v_trial_signedAll])), (o_trial_sea, .inr (8, [.int v_trial_sea_there, .int v_trial_sea_month, .int v_trial_sea_lost, .ref o_trial_sea_heads, .ref o_trial_sea_sides, .ref o_trial_sea_moods, .ref o_trial_sea_moults])), (o_trial_sea_heads, .inl (cI, 6, .inl v_trial_sea_heads)), (o_trial_sea_sides, .inl (cI, 6, .inl v_trial_sea_sides)), (o_trial_sea_moods, .inl (cI, 6, .inl v_trial_sea_moods)), (o_trial_sea_moults, .inl (cI, 6, .inl v_trial_sea_moults)), (o_trial_act, .inr (0, [.int v_trial_act_kind, .int v_trial_act_one, .int v_trial_act_other]))]) sz) (qWi R (dC, dI) ([(o, .inr (11, [.ref o_sea, .ref o_treaty, .ref o_lookout, .ref o_pad, .ref o_images, .ref o_trial, .ref o_bringing, .ref o_guess, .ref o_game, .ref o_fraction, .ref o_got])), (o_sea, .inr (8, [.int v_sea_there, .int v_sea_month, .int v_sea_lost, .ref o_sea_heads, .ref o_sea_sides, .ref o_sea_moods, .ref o_sea_moults])), (o_sea_heads, .inl (cI, 6, .inl v_sea_heads)), (o_sea_sides, .inl (cI, 6, .inl v_sea_sides)), (o_sea_moods, .inl (cI, 6, .inl v_sea_moods)), (o_sea_moults, .inl (cI, 6, .inl v_sea_moults)), (o_treaty, .inr (9, [.ref o_treaty_words, .ref o_treaty_clashes])), (o_treaty_words, .inl (cI, 10, .inl v_treaty_words)), (o_pad, .inr (7, [.ref o_pad_signs, .int v_pad_size])), (o_pad_signs, .inl (cI, 60, .inl v_pad_signs)), (o_trial, .inr (10, [.ref o_trial_sea, .ref o_trial_act, .int w_trial_isFaulty, .int w_trial_acts, .int w_trial_why, .int w_trial_readings, .int w_trial_signedAll])), (o_trial_sea, .inr (8, [.int w_trial_sea_there, .int w_trial_sea_month, .int w_trial_sea_lost, .ref o_trial_sea_heads, .ref o_trial_sea_sides, .ref o_trial_sea_moods, .ref o_trial_sea_moults])), (o_trial_sea_heads, .inl (cI, 6, .inl w_trial_sea_heads)), (o_trial_sea_sides, .inl (cI, 6, .inl w_trial_sea_sides)), (o_trial_sea_moods, .inl (cI, 6, .inl w_trial_sea_moods)), (o_trial_sea_moults, .inl (cI, 6, .inl w_trial_sea_moults)), (o_trial_act, .inr (0, [.int w_trial_act_kind, .int w_trial_act_one, .int w_trial_act_other]))]) (va_A ([(o, .inr (11, [.ref o_sea, .ref o_treaty, .ref o_lookout, .ref o_pad, .ref o_images, .ref o_trial, .ref o_bringing, .ref o_guess, .ref o_game, .ref o_fraction, .ref o_got])), (o_sea, .inr (8, [.int v_sea_there, .int v_sea_month, .int v_sea_lost, .ref o_sea_heads, .ref o_sea_sides, .ref o_sea_moods, .ref o_sea_moults])), (o_sea_heads, .inl (cI, 6, .inl v_sea_heads)), (o_sea_sides, .inl (cI, 6, .inl v_sea_sides)), (o_sea_moods, .inl (cI, 6, .inl v_sea_moods)), (o_sea_moults, .inl (cI, 6, .inl v_sea_moults)), (o_treaty, .inr (9, [.ref o_treaty_words, .ref o_treaty_clashes])), (o_treaty_words, .inl (cI, 10, .inl v_treaty_words)), (o_pad, .inr (7, [.ref o_pad_signs, .int v_pad_size])), (o_pad_signs, .inl (cI, 60, .inl v_pad_signs)), (o_trial, .inr (10, [.ref o_trial_sea, .ref o_trial_act, .int v_trial_isFaulty, .int v_trial_acts, .int v_trial_why, .int v_trial_readings, .int v_trial_signedAll])), (o_trial_sea, .inr (8, [.int v_trial_sea_there, .int v_trial_sea_month, .int v_trial_sea_lost, .ref o_trial_sea_heads, .ref o_trial_sea_sides, .ref o_trial_sea_moods, .ref o_trial_sea_moults])), (o_trial_sea_heads, .inl (cI, 6, .inl v_trial_sea_heads)), (o_trial_sea_sides, .inl (cI, 6, .inl v_trial_sea_sides)), (o_trial_sea_moods, .inl (cI, 6, .inl v_trial_sea_moods)), (o_trial_sea_moults, .inl (cI, 6, .inl v_trial_sea_moults)), (o_trial_act, .inr (0, [.int v_trial_act_kind, .int v_trial_act_one, .int v_trial_act_other]))]) sz)) 0 0 (va_A ([(o, .inr (11, [.ref o_sea, .ref o_treaty, .ref o_lookout, .ref o_pad, .ref o_images, .ref o_trial, .ref o_bringing, .ref o_guess, .ref o_game, .ref o_fraction, .ref o_got])), (o_sea, .inr (8, [.int v_sea_there, .int v_sea_month, .int v_sea_lost, .ref o_sea_heads, .ref o_sea_sides, .ref o_sea_moods, .ref o_sea_moults])), (o_sea_heads, .inl (cI, 6, .inl v_sea_heads)), (o_sea_sides, .inl (cI, 6, .inl v_sea_sides)), (o_sea_moods, .inl (cI, 6, .inl v_sea_moods)), (o_sea_moults, .inl (cI, 6, .inl v_sea_moults)), (o_treaty, .inr (9, [.ref o_treaty_words, .ref o_treaty_clashes])), (o_treaty_words, .inl (cI, 10, .inl v_treaty_words)), (o_pad, .inr (7, [.ref o_pad_signs, .int v_pad_size])), (o_pad_signs, .inl (cI, 60, .inl v_pad_signs)), (o_trial, .inr (10, [.ref o_trial_sea, .ref o_trial_act, .int v_trial_isFaulty, .int v_trial_acts, .int v_trial_why, .int v_trial_readings, .int v_trial_signedAll])), (o_trial_sea, .inr (8, [.int v_trial_sea_there, .int v_trial_sea_month, .int v_trial_sea_lost, .ref o_trial_sea_heads, .ref o_trial_sea_sides, .ref o_trial_sea_moods, .ref o_trial_sea_moults])), (o_trial_sea_heads, .inl (cI, 6, .inl v_trial_sea_heads)), (o_trial_sea_sides, .inl (cI, 6, .inl v_trial_sea_sides)), (o_trial_sea_moods, .inl (cI, 6, .inl v_trial_sea_moods)), (o_trial_sea_moults, .inl (cI, 6, .inl v_trial_sea_moults)), (o_trial_act, .inr (0, [.int v_trial_act_kind, .int v_trial_act_one, .int v_trial_act_other]))]) sz) := by
  refine q_met_w (Qc := fun A => qWi R (dC, dI) ([(o, .inr (11, [.ref o_sea, .ref o_treaty, .ref o_lookout, .ref o_pad, .ref o_images, .ref o_trial, .ref o_bringing, .ref o_guess, .ref o_game, .ref o_fraction, .ref o_got])), (o_sea, .inr (8, [.int v_sea_there, .int v_sea_month, .int v_sea_lost, .ref o_sea_heads, .ref o_sea_sides, .ref o_sea_moods, .ref o_sea_moults])), (o_sea_heads, .inl (cI, 6, .inl v_sea_heads)), (o_sea_sides, .inl (cI, 6, .inl v_sea_sides)), (o_sea_moods, .inl (cI, 6, .inl v_sea_moods)), (o_sea_moults, .inl (cI, 6, .inl v_sea_moults)), (o_treaty, .inr (9, [.ref o_treaty_words, .ref o_treaty_clashes])), (o_treaty_words, .inl (cI, 10, .inl v_treaty_words)), (o_pad, .inr (7, [.ref o_pad_signs, .int v_pad_size])), (o_pad_signs, .inl (cI, 60, .inl v_pad_signs)), (o_trial, .inr (10, [.ref o_trial_sea, .ref o_trial_act, .int w_trial_isFaulty, .int w_trial_acts, .int w_trial_why, .int w_trial_readings, .int w_trial_signedAll])), (o_trial_sea, .inr (8, [.int w_trial_sea_there, .int w_trial_sea_month, .int w_trial_sea_lost, .ref o_trial_sea_heads, .ref o_trial_sea_sides, .ref o_trial_sea_moods, .ref o_trial_sea_moults])), (o_trial_sea_heads, .inl (cI, 6, .inl w_trial_sea_heads)), (o_trial_sea_sides, .inl (cI, 6, .inl w_trial_sea_sides)), (o_trial_sea_moods, .inl (cI, 6, .inl w_trial_sea_moods)), (o_trial_sea_moults, .inl (cI, 6, .inl w_trial_sea_moults)), (o_trial_act, .inr (0, [.int w_trial_act_kind, .int w_trial_act_one, .int w_trial_act_other]))]) A) (cc := cX11_behind) (own := RX11) (maxL := 3) (ret := (some .int)) (lv0 := [(0, .ref o), (1, .int p1), (2, .int p2)]) (by decide) rfl rfl rfl (Nat.le_of_ble_eq_true rfl) ?_
  intro p e s m args below meth c A hA C hr hnm Q hQ
  have lk0 : Cond.fieldLink RX11 12 "SealStrait" "sea" "LSealStrait$Sea;" ∈ wsX11_behind := by decide +kernel
  have lk1 : ∀ w ∈ u_ws RX11 TX11 11, w ∈ wsX11_behind := fun w h => List.mem_cons_of_mem _ (List.mem_append_left _ (List.mem_append_left _ (List.mem_append_left _ (List.mem_append_left _ (List.mem_append_left _ (List.mem_append_right _ h))))))
  have lk2 : Cond.fieldLink RX11 46 "SealStrait" "trial" "LSealStrait$Trial;" ∈ wsX11_behind := by decide +kernel
  have lk3 : Cond.fieldLink RX11 33 "SealStrait" "pad" "LSealStrait$Pad;" ∈ wsX11_behind := by decide +kernel
  have lk4 : Cond.fieldLink RX11 19 "SealStrait" "treaty" "LSealStrait$Treaty;" ∈ wsX11_behind := by decide +kernel
  have lk5 : Cond.fieldLink RX11 142 "SealStrait$Trial" "sea" "LSealStrait$Sea;" ∈ wsX11_behind := by decide +kernel
  have lk6 : ∀ w ∈ u_ws RX10 TX10 7, w ∈ wsX11_behind := fun w h => List.mem_cons_of_mem _ (List.mem_append_left _ (List.mem_append_left _ (List.mem_append_left _ (List.mem_append_left _ (List.mem_append_right _ h)))))
  unfold f_Strait_behind at hF
  refine q_aload_n C dX11_behind_0 0 rfl rfl ?_
  refine q_get (C0 := RX11) (T := TX11) (N := 11) (k0 := 0) C lk1 0 rfl rfl (by decide) lk0 rfl (v := .ref o_sea) rfl dX11_behind_1 ?_
  refine q_iload_n C dX11_behind_4 1 rfl rfl ?_
  refine q_roz (q_runV (As := [.int p1]) (rest := []) C (fun sz => c_X8_isThere l dC dI cI cZ cQ o_sea o_sea_heads o_sea_sides o_sea_moods o_sea_moults v_sea_there v_sea_month v_sea_lost p1 (f_Sea_isThere v_sea_there p1) rfl sz) (cwV 1 C.2.2.2.2.1 gX11_behind_X8_isThere rfl rfl rfl (by decide +kernel) ⟨Nat.le_of_ble_eq_true rfl, Nat.le_of_ble_eq_true rfl⟩) 1 rfl rfl rfl [1] rfl rfl rfl rfl (Nat.le_of_ble_eq_true rfl) dX11_behind_5 ⟨Nat.zero_le _, Nat.zero_le _⟩) (fun hz1 => ?_)
  refine q_if_ne (tgt := 13) C dX11_behind_8 (by decide) (fun c2 => ?_) (fun c2 => ?_)
  · have hF := ite_f hF c2
    refine q_iload_n C dX11_behind_13 2 rfl rfl ?_
    refine q_iconst (v := (0 : Int32)) C dX11_behind_14 (by decide) ?_
    refine q_iconst (v := (2 : Int32)) C dX11_behind_15 (by decide) ?_
    refine q_roz (q_runS (As := [.int p2, .int (0 : Int32), .int (2 : Int32)]) (rest := []) C (fun sz => c_X11_within l dC dI cI cZ cQ p2 (0 : Int32) (2 : Int32) (f_Strait_within p2 (0 : Int32) (2 : Int32)) rfl sz) (va_cwS 3 C.2.2.2.2.1 gX11_behind_X11_within rfl rfl rfl (by decide +kernel) ⟨Nat.le_of_ble_eq_true rfl, Nat.le_of_ble_eq_true rfl⟩) [] rfl rfl rfl rfl (Nat.le_of_ble_eq_true rfl) dX11_behind_16 ⟨Nat.zero_le _, Nat.zero_le _⟩) (fun hz3 => ?_)
    refine q_if_ne (tgt := 25) C dX11_behind_19 (by decide) (fun c4 => ?_) (fun c4 => ?_)
    · have hF := ite_f hF c4
      refine q_aload_n C dX11_behind_25 0 rfl rfl ?_
      refine q_get (C0 := RX11) (T := TX11) (N := 11) (k0 := 5) C lk1 0 rfl rfl (by decide) lk2 rfl (v := .ref o_trial) rfl dX11_behind_26 ?_
      refine q_aload_n C dX11_behind_29 0 rfl rfl ?_
      refine q_get (C0 := RX11) (T := TX11) (N := 11) (k0 := 3) C lk1 0 rfl rfl (by decide) lk3 rfl (v := .ref o_pad) rfl dX11_behind_30 ?_
      refine q_aload_n C dX11_behind_33 0 rfl rfl ?_
      refine q_get (C0 := RX11) (T := TX11) (N := 11) (k0 := 0) C lk1 0 rfl rfl (by decide) lk0 rfl (v := .ref o_sea) rfl dX11_behind_34 ?_
      refine q_aload_n C dX11_behind_37 0 rfl rfl ?_
      refine q_get (C0 := RX11) (T := TX11) (N := 11) (k0 := 1) C lk1 0 rfl rfl (by decide) lk4 rfl (v := .ref o_treaty) rfl dX11_behind_38 ?_
      obtain ⟨⟨u5_sea_there, u5_sea_month, u5_sea_lost, u5_sea_heads, u5_sea_sides, u5_sea_moods, u5_sea_moults, u5_act_kind, u5_act_one, u5_act_other, u5_isFaulty, u5_acts, u5_why, u5_readings, u5_signedAll⟩, hc6, hF⟩ := bind_c hF
      dsimp only at hF
      refine q_rwv hA ([(o, .inr (11, [.ref o_sea, .ref o_treaty, .ref o_lookout, .ref o_pad, .ref o_images, .ref o_trial, .ref o_bringing, .ref o_guess, .ref o_game, .ref o_fraction, .ref o_got])), (o_sea, .inr (8, [.int v_sea_there, .int v_sea_month, .int v_sea_lost, .ref o_sea_heads, .ref o_sea_sides, .ref o_sea_moods, .ref o_sea_moults])), (o_sea_heads, .inl (cI, 6, .inl v_sea_heads)), (o_sea_sides, .inl (cI, 6, .inl v_sea_sides)), (o_sea_moods, .inl (cI, 6, .inl v_sea_moods)), (o_sea_moults, .inl (cI, 6, .inl v_sea_moults)), (o_treaty, .inr (9, [.ref o_treaty_words, .ref o_treaty_clashes])), (o_treaty_words, .inl (cI, 10, .inl v_treaty_words)), (o_pad, .inr (7, [.ref o_pad_signs, .int v_pad_size])), (o_pad_signs, .inl (cI, 60, .inl v_pad_signs)), (o_trial, .inr (10, [.ref o_trial_sea, .ref o_trial_act, .int u5_isFaulty, .int u5_acts, .int u5_why, .int u5_readings, .int u5_signedAll])), (o_trial_sea, .inr (8, [.int u5_sea_there, .int u5_sea_month, .int u5_sea_lost, .ref o_trial_sea_heads, .ref o_trial_sea_sides, .ref o_trial_sea_moods, .ref o_trial_sea_moults])), (o_trial_sea_heads, .inl (cI, 6, .inl u5_sea_heads)), (o_trial_sea_sides, .inl (cI, 6, .inl u5_sea_sides)), (o_trial_sea_moods, .inl (cI, 6, .inl u5_sea_moods)), (o_trial_sea_moults, .inl (cI, 6, .inl u5_sea_moults)), (o_trial_act, .inr (0, [.int u5_act_kind, .int u5_act_one, .int u5_act_other]))]) [10, 11, 12, 13, 14, 15, 16, 8, 9, 1, 2, 3, 4, 5, 6, 7] [0] rfl rfl rfl (by decide) [0, 10, 11, 12, 13, 14, 15, 16, 8, 9, 1, 2, 3, 4, 5, 6, 7] rfl rfl (q_runV (As := [.ref o_pad, .ref o_sea, .ref o_treaty]) (rest := []) C (fun sz => c_X10_run l dC dI cI cZ cQ o_trial o_trial_sea o_trial_sea_heads o_trial_sea_sides o_trial_sea_moods o_trial_sea_moults o_trial_act o_pad o_pad_signs o_sea o_sea_heads o_sea_sides o_sea_moods o_sea_moults o_treaty o_treaty_words o_treaty_clashes v_trial_sea_there v_trial_sea_month v_trial_sea_lost v_trial_sea_heads v_trial_sea_sides v_trial_sea_moods v_trial_sea_moults v_trial_act_kind v_trial_act_one v_trial_act_other v_trial_isFaulty v_trial_acts v_trial_why v_trial_readings v_trial_signedAll v_pad_signs v_pad_size v_sea_there v_sea_month v_sea_lost v_sea_heads v_sea_sides v_sea_moods v_sea_moults v_treaty_words u5_sea_there u5_sea_month u5_sea_lost u5_sea_heads u5_sea_sides u5_sea_moods u5_sea_moults u5_act_kind u5_act_one u5_act_other u5_isFaulty u5_acts u5_why u5_readings u5_signedAll hc6 sz) (cwV 3 C.2.2.2.2.1 gX11_behind_X10_run rfl rfl rfl (by decide +kernel) ⟨Nat.le_of_ble_eq_true rfl, Nat.le_of_ble_eq_true rfl⟩) 10 rfl rfl rfl [10, 11, 12, 13, 14, 15, 16, 8, 9, 1, 2, 3, 4, 5, 6, 7] rfl rfl rfl rfl (Nat.le_of_ble_eq_true rfl) dX11_behind_41 ⟨Nat.zero_le _, Nat.zero_le _⟩) ?_
      refine q_aload_n C dX11_behind_44 0 rfl rfl ?_
      refine q_get (C0 := RX11) (T := TX11) (N := 11) (k0 := 5) C lk1 0 rfl rfl (by decide) lk2 rfl (v := .ref o_trial) rfl dX11_behind_45 ?_
      refine q_roz (q_runV (As := []) (rest := []) C (fun sz => c_X10_allCanBe l dC dI cI cZ cQ o_trial o_trial_sea o_trial_act u5_isFaulty u5_why u5_acts u5_readings u5_signedAll (f_Trial_allCanBe u5_isFaulty u5_why) rfl sz) (cwV 0 C.2.2.2.2.1 gX11_behind_X10_allCanBe rfl rfl rfl (by decide +kernel) ⟨Nat.le_of_ble_eq_true rfl, Nat.le_of_ble_eq_true rfl⟩) 10 rfl rfl rfl [10] rfl rfl rfl rfl (Nat.le_of_ble_eq_true rfl) dX11_behind_48 ⟨Nat.zero_le _, Nat.zero_le _⟩) (fun hz7 => ?_)
      refine q_if_ne (tgt := 57) C dX11_behind_51 (by decide) (fun c8 => ?_) (fun c8 => ?_)
      · have hF := ite_f hF c8
        refine q_aload_n C dX11_behind_57 0 rfl rfl ?_
        refine q_get (C0 := RX11) (T := TX11) (N := 11) (k0 := 5) C lk1 0 rfl rfl (by decide) lk2 rfl (v := .ref o_trial) rfl dX11_behind_58 ?_
        refine q_get (C0 := RX10) (T := TX10) (N := 7) (k0 := 0) C lk6 10 rfl rfl (by decide) lk5 rfl (v := .ref o_trial_sea) rfl dX11_behind_61 ?_
        refine q_iload_n C dX11_behind_64 1 rfl rfl ?_
        refine q_roz (q_runV (As := [.int p1]) (rest := []) C (fun sz => c_X8_isThere l dC dI cI cZ cQ o_trial_sea o_trial_sea_heads o_trial_sea_sides o_trial_sea_moods o_trial_sea_moults u5_sea_there u5_sea_month u5_sea_lost p1 (f_Sea_isThere u5_sea_there p1) rfl sz) (cwV 1 C.2.2.2.2.1 gX11_behind_X8_isThere rfl rfl rfl (by decide +kernel) ⟨Nat.le_of_ble_eq_true rfl, Nat.le_of_ble_eq_true rfl⟩) 11 rfl rfl rfl [11] rfl rfl rfl rfl (Nat.le_of_ble_eq_true rfl) dX11_behind_65 ⟨Nat.zero_le _, Nat.zero_le _⟩) (fun hz9 => ?_)
        refine q_if_eq (tgt := 86) C dX11_behind_68 (by decide) (fun c10 => ?_) (fun c10 => ?_)
        · have hF := ite_t hF c10
          refine q_bipush (v := (-6 : Int32)) C dX11_behind_86 (by decide) ?_
          cases hF
          exact q_wreti C hr dX11_behind_88 hQ
        · have hF := ite_f hF c10
          refine q_aload_n C dX11_behind_71 0 rfl rfl ?_
          refine q_get (C0 := RX11) (T := TX11) (N := 11) (k0 := 5) C lk1 0 rfl rfl (by decide) lk2 rfl (v := .ref o_trial) rfl dX11_behind_72 ?_
          refine q_get (C0 := RX10) (T := TX10) (N := 7) (k0 := 0) C lk6 10 rfl rfl (by decide) lk5 rfl (v := .ref o_trial_sea) rfl dX11_behind_75 ?_
          refine q_iload_n C dX11_behind_78 1 rfl rfl ?_
          refine q_iload_n C dX11_behind_79 2 rfl rfl ?_
          obtain ⟨r11, hc12, hF⟩ := bind_c hF
          refine q_roi (q_runV (As := [.int p1, .int p2]) (rest := []) C (fun sz => c_X8_traitOf l dC dI cI cZ cQ o_trial_sea o_trial_sea_heads o_trial_sea_sides o_trial_sea_moods o_trial_sea_moults u5_sea_there u5_sea_heads u5_sea_sides u5_sea_moods u5_sea_moults u5_sea_month u5_sea_lost p1 p2 r11 hc12 sz) (cwV 2 C.2.2.2.2.1 gX11_behind_X8_traitOf rfl rfl rfl (by decide +kernel) ⟨Nat.le_of_ble_eq_true rfl, Nat.le_of_ble_eq_true rfl⟩) 11 rfl rfl rfl [11, 12, 13, 14, 15] rfl rfl rfl rfl (Nat.le_of_ble_eq_true rfl) dX11_behind_80 ⟨Nat.zero_le _, Nat.zero_le _⟩) ?_
          refine q_goto (tgt := 88) C dX11_behind_83 (by decide) ?_
          cases hF
          exact q_wreti C hr dX11_behind_88 hQ
      · have hF := ite_t hF c8
        refine q_bipush (v := (-5 : Int32)) C dX11_behind_54 (by decide) ?_
        cases hF
        exact q_wreti C hr dX11_behind_56 hQ
    · have hF := ite_t hF c4
      refine q_bipush (v := (-2 : Int32)) C dX11_behind_22 (by decide) ?_
      cases hF
      exact q_wreti C hr dX11_behind_24 hQ
  · have hF := ite_t hF c2
    refine q_iconst (v := (-1 : Int32)) C dX11_behind_11 (by decide) ?_
    cases hF
    exact q_wreti C hr dX11_behind_12 hQ
set_option maxRecDepth 100000 in
set_option maxHeartbeats 4000000 in
theorem c_X11_then (l : Launch) (dC : Nat → ClassId) (dI : Nat → Nat → Nat) (cI cZ cQ : ClassId) (o o_sea o_sea_heads o_sea_sides o_sea_moods o_sea_moults o_treaty o_treaty_words o_pad o_pad_signs o_trial o_trial_sea o_trial_sea_heads o_trial_sea_sides o_trial_sea_moods o_trial_sea_moults o_trial_act o_lookout o_images o_bringing o_guess o_game o_fraction o_got o_treaty_clashes : Nat) (v_sea_there : Int32) (v_sea_month : Int32) (v_sea_lost : Int32) (v_sea_heads : Nat → Int32) (v_sea_sides : Nat → Int32) (v_sea_moods : Nat → Int32) (v_sea_moults : Nat → Int32) (v_treaty_words : Nat → Int32) (v_pad_signs : Nat → Int32) (v_pad_size : Int32) (v_trial_sea_there : Int32) (v_trial_sea_month : Int32) (v_trial_sea_lost : Int32) (v_trial_sea_heads : Nat → Int32) (v_trial_sea_sides : Nat → Int32) (v_trial_sea_moods : Nat → Int32) (v_trial_sea_moults : Nat → Int32) (v_trial_act_kind : Int32) (v_trial_act_one : Int32) (v_trial_act_other : Int32) (v_trial_isFaulty : Int32) (v_trial_acts : Int32) (v_trial_why : Int32) (v_trial_readings : Int32) (v_trial_signedAll : Int32) (p1 : Int32) (R : Int32) (w_trial_sea_there : Int32) (w_trial_sea_month : Int32) (w_trial_sea_lost : Int32) (w_trial_sea_heads : Nat → Int32) (w_trial_sea_sides : Nat → Int32) (w_trial_sea_moods : Nat → Int32) (w_trial_sea_moults : Nat → Int32) (w_trial_act_kind : Int32) (w_trial_act_one : Int32) (w_trial_act_other : Int32) (w_trial_isFaulty : Int32) (w_trial_acts : Int32) (w_trial_why : Int32) (w_trial_readings : Int32) (w_trial_signedAll : Int32) (hF : f_Strait_then v_sea_there v_sea_month v_sea_lost v_sea_heads v_sea_sides v_sea_moods v_sea_moults v_treaty_words v_pad_signs v_pad_size v_trial_sea_there v_trial_sea_month v_trial_sea_lost v_trial_sea_heads v_trial_sea_sides v_trial_sea_moods v_trial_sea_moults v_trial_act_kind v_trial_act_one v_trial_act_other v_trial_isFaulty v_trial_acts v_trial_why v_trial_readings v_trial_signedAll p1 = some (R, w_trial_sea_there, w_trial_sea_month, w_trial_sea_lost, w_trial_sea_heads, w_trial_sea_sides, w_trial_sea_moods, w_trial_sea_moults, w_trial_act_kind, w_trial_act_one, w_trial_act_other, w_trial_isFaulty, w_trial_acts, w_trial_why, w_trial_readings, w_trial_signedAll)) (sz : Nat) : Met l yX11_then wsX11_then ({ frames := 6, cells := 0, slots := 0, locals := 135 } : Room) (qPc ([.ref o, .int p1]) (dC, dI) (qT cI cZ cQ) ([(o, .inr (11, [.ref o_sea, .ref o_treaty, .ref o_lookout, .ref o_pad, .ref o_images, .ref o_trial, .ref o_bringing, .ref o_guess, .ref o_game, .ref o_fraction, .ref o_got])), (o_sea, .inr (8, [.int v_sea_there, .int v_sea_month, .int v_sea_lost, .ref o_sea_heads, .ref o_sea_sides, .ref o_sea_moods, .ref o_sea_moults])), (o_sea_heads, .inl (cI, 6, .inl v_sea_heads)), (o_sea_sides, .inl (cI, 6, .inl v_sea_sides)), (o_sea_moods, .inl (cI, 6, .inl v_sea_moods)), (o_sea_moults, .inl (cI, 6, .inl v_sea_moults)), (o_treaty, .inr (9, [.ref o_treaty_words, .ref o_treaty_clashes])), (o_treaty_words, .inl (cI, 10, .inl v_treaty_words)), (o_pad, .inr (7, [.ref o_pad_signs, .int v_pad_size])), (o_pad_signs, .inl (cI, 60, .inl v_pad_signs)), (o_trial, .inr (10, [.ref o_trial_sea, .ref o_trial_act, .int v_trial_isFaulty, .int v_trial_acts, .int v_trial_why, .int v_trial_readings, .int v_trial_signedAll])), (o_trial_sea, .inr (8, [.int v_trial_sea_there, .int v_trial_sea_month, .int v_trial_sea_lost, .ref o_trial_sea_heads, .ref o_trial_sea_sides, .ref o_trial_sea_moods, .ref o_trial_sea_moults])), (o_trial_sea_heads, .inl (cI, 6, .inl v_trial_sea_heads)), (o_trial_sea_sides, .inl (cI, 6, .inl v_trial_sea_sides)), (o_trial_sea_moods, .inl (cI, 6, .inl v_trial_sea_moods)), (o_trial_sea_moults, .inl (cI, 6, .inl v_trial_sea_moults)), (o_trial_act, .inr (0, [.int v_trial_act_kind, .int v_trial_act_one, .int v_trial_act_other]))]) sz) (qWi R (dC, dI) ([(o, .inr (11, [.ref o_sea, .ref o_treaty, .ref o_lookout, .ref o_pad, .ref o_images, .ref o_trial, .ref o_bringing, .ref o_guess, .ref o_game, .ref o_fraction, .ref o_got])), (o_sea, .inr (8, [.int v_sea_there, .int v_sea_month, .int v_sea_lost, .ref o_sea_heads, .ref o_sea_sides, .ref o_sea_moods, .ref o_sea_moults])), (o_sea_heads, .inl (cI, 6, .inl v_sea_heads)), (o_sea_sides, .inl (cI, 6, .inl v_sea_sides)), (o_sea_moods, .inl (cI, 6, .inl v_sea_moods)), (o_sea_moults, .inl (cI, 6, .inl v_sea_moults)), (o_treaty, .inr (9, [.ref o_treaty_words, .ref o_treaty_clashes])), (o_treaty_words, .inl (cI, 10, .inl v_treaty_words)), (o_pad, .inr (7, [.ref o_pad_signs, .int v_pad_size])), (o_pad_signs, .inl (cI, 60, .inl v_pad_signs)), (o_trial, .inr (10, [.ref o_trial_sea, .ref o_trial_act, .int w_trial_isFaulty, .int w_trial_acts, .int w_trial_why, .int w_trial_readings, .int w_trial_signedAll])), (o_trial_sea, .inr (8, [.int w_trial_sea_there, .int w_trial_sea_month, .int w_trial_sea_lost, .ref o_trial_sea_heads, .ref o_trial_sea_sides, .ref o_trial_sea_moods, .ref o_trial_sea_moults])), (o_trial_sea_heads, .inl (cI, 6, .inl w_trial_sea_heads)), (o_trial_sea_sides, .inl (cI, 6, .inl w_trial_sea_sides)), (o_trial_sea_moods, .inl (cI, 6, .inl w_trial_sea_moods)), (o_trial_sea_moults, .inl (cI, 6, .inl w_trial_sea_moults)), (o_trial_act, .inr (0, [.int w_trial_act_kind, .int w_trial_act_one, .int w_trial_act_other]))]) (va_A ([(o, .inr (11, [.ref o_sea, .ref o_treaty, .ref o_lookout, .ref o_pad, .ref o_images, .ref o_trial, .ref o_bringing, .ref o_guess, .ref o_game, .ref o_fraction, .ref o_got])), (o_sea, .inr (8, [.int v_sea_there, .int v_sea_month, .int v_sea_lost, .ref o_sea_heads, .ref o_sea_sides, .ref o_sea_moods, .ref o_sea_moults])), (o_sea_heads, .inl (cI, 6, .inl v_sea_heads)), (o_sea_sides, .inl (cI, 6, .inl v_sea_sides)), (o_sea_moods, .inl (cI, 6, .inl v_sea_moods)), (o_sea_moults, .inl (cI, 6, .inl v_sea_moults)), (o_treaty, .inr (9, [.ref o_treaty_words, .ref o_treaty_clashes])), (o_treaty_words, .inl (cI, 10, .inl v_treaty_words)), (o_pad, .inr (7, [.ref o_pad_signs, .int v_pad_size])), (o_pad_signs, .inl (cI, 60, .inl v_pad_signs)), (o_trial, .inr (10, [.ref o_trial_sea, .ref o_trial_act, .int v_trial_isFaulty, .int v_trial_acts, .int v_trial_why, .int v_trial_readings, .int v_trial_signedAll])), (o_trial_sea, .inr (8, [.int v_trial_sea_there, .int v_trial_sea_month, .int v_trial_sea_lost, .ref o_trial_sea_heads, .ref o_trial_sea_sides, .ref o_trial_sea_moods, .ref o_trial_sea_moults])), (o_trial_sea_heads, .inl (cI, 6, .inl v_trial_sea_heads)), (o_trial_sea_sides, .inl (cI, 6, .inl v_trial_sea_sides)), (o_trial_sea_moods, .inl (cI, 6, .inl v_trial_sea_moods)), (o_trial_sea_moults, .inl (cI, 6, .inl v_trial_sea_moults)), (o_trial_act, .inr (0, [.int v_trial_act_kind, .int v_trial_act_one, .int v_trial_act_other]))]) sz)) 0 0 (va_A ([(o, .inr (11, [.ref o_sea, .ref o_treaty, .ref o_lookout, .ref o_pad, .ref o_images, .ref o_trial, .ref o_bringing, .ref o_guess, .ref o_game, .ref o_fraction, .ref o_got])), (o_sea, .inr (8, [.int v_sea_there, .int v_sea_month, .int v_sea_lost, .ref o_sea_heads, .ref o_sea_sides, .ref o_sea_moods, .ref o_sea_moults])), (o_sea_heads, .inl (cI, 6, .inl v_sea_heads)), (o_sea_sides, .inl (cI, 6, .inl v_sea_sides)), (o_sea_moods, .inl (cI, 6, .inl v_sea_moods)), (o_sea_moults, .inl (cI, 6, .inl v_sea_moults)), (o_treaty, .inr (9, [.ref o_treaty_words, .ref o_treaty_clashes])), (o_treaty_words, .inl (cI, 10, .inl v_treaty_words)), (o_pad, .inr (7, [.ref o_pad_signs, .int v_pad_size])), (o_pad_signs, .inl (cI, 60, .inl v_pad_signs)), (o_trial, .inr (10, [.ref o_trial_sea, .ref o_trial_act, .int v_trial_isFaulty, .int v_trial_acts, .int v_trial_why, .int v_trial_readings, .int v_trial_signedAll])), (o_trial_sea, .inr (8, [.int v_trial_sea_there, .int v_trial_sea_month, .int v_trial_sea_lost, .ref o_trial_sea_heads, .ref o_trial_sea_sides, .ref o_trial_sea_moods, .ref o_trial_sea_moults])), (o_trial_sea_heads, .inl (cI, 6, .inl v_trial_sea_heads)), (o_trial_sea_sides, .inl (cI, 6, .inl v_trial_sea_sides)), (o_trial_sea_moods, .inl (cI, 6, .inl v_trial_sea_moods)), (o_trial_sea_moults, .inl (cI, 6, .inl v_trial_sea_moults)), (o_trial_act, .inr (0, [.int v_trial_act_kind, .int v_trial_act_one, .int v_trial_act_other]))]) sz) := by
  refine q_met_w (Qc := fun A => qWi R (dC, dI) ([(o, .inr (11, [.ref o_sea, .ref o_treaty, .ref o_lookout, .ref o_pad, .ref o_images, .ref o_trial, .ref o_bringing, .ref o_guess, .ref o_game, .ref o_fraction, .ref o_got])), (o_sea, .inr (8, [.int v_sea_there, .int v_sea_month, .int v_sea_lost, .ref o_sea_heads, .ref o_sea_sides, .ref o_sea_moods, .ref o_sea_moults])), (o_sea_heads, .inl (cI, 6, .inl v_sea_heads)), (o_sea_sides, .inl (cI, 6, .inl v_sea_sides)), (o_sea_moods, .inl (cI, 6, .inl v_sea_moods)), (o_sea_moults, .inl (cI, 6, .inl v_sea_moults)), (o_treaty, .inr (9, [.ref o_treaty_words, .ref o_treaty_clashes])), (o_treaty_words, .inl (cI, 10, .inl v_treaty_words)), (o_pad, .inr (7, [.ref o_pad_signs, .int v_pad_size])), (o_pad_signs, .inl (cI, 60, .inl v_pad_signs)), (o_trial, .inr (10, [.ref o_trial_sea, .ref o_trial_act, .int w_trial_isFaulty, .int w_trial_acts, .int w_trial_why, .int w_trial_readings, .int w_trial_signedAll])), (o_trial_sea, .inr (8, [.int w_trial_sea_there, .int w_trial_sea_month, .int w_trial_sea_lost, .ref o_trial_sea_heads, .ref o_trial_sea_sides, .ref o_trial_sea_moods, .ref o_trial_sea_moults])), (o_trial_sea_heads, .inl (cI, 6, .inl w_trial_sea_heads)), (o_trial_sea_sides, .inl (cI, 6, .inl w_trial_sea_sides)), (o_trial_sea_moods, .inl (cI, 6, .inl w_trial_sea_moods)), (o_trial_sea_moults, .inl (cI, 6, .inl w_trial_sea_moults)), (o_trial_act, .inr (0, [.int w_trial_act_kind, .int w_trial_act_one, .int w_trial_act_other]))]) A) (cc := cX11_then) (own := RX11) (maxL := 2) (ret := (some .int)) (lv0 := [(0, .ref o), (1, .int p1)]) (by decide) rfl rfl rfl (Nat.le_of_ble_eq_true rfl) ?_
  intro p e s m args below meth c A hA C hr hnm Q hQ
  have lk0 : Cond.fieldLink RX11 46 "SealStrait" "trial" "LSealStrait$Trial;" ∈ wsX11_then := by decide +kernel
  have lk1 : ∀ w ∈ u_ws RX11 TX11 11, w ∈ wsX11_then := fun w h => List.mem_cons_of_mem _ (List.mem_append_left _ (List.mem_append_left _ (List.mem_append_left _ (List.mem_append_left _ (List.mem_append_left _ (List.mem_append_right _ h))))))
  have lk2 : Cond.fieldLink RX11 33 "SealStrait" "pad" "LSealStrait$Pad;" ∈ wsX11_then := by decide +kernel
  have lk3 : Cond.fieldLink RX11 12 "SealStrait" "sea" "LSealStrait$Sea;" ∈ wsX11_then := by decide +kernel
  have lk4 : Cond.fieldLink RX11 19 "SealStrait" "treaty" "LSealStrait$Treaty;" ∈ wsX11_then := by decide +kernel
  have lk5 : Cond.fieldLink RX11 142 "SealStrait$Trial" "sea" "LSealStrait$Sea;" ∈ wsX11_then := by decide +kernel
  have lk6 : ∀ w ∈ u_ws RX10 TX10 7, w ∈ wsX11_then := fun w h => List.mem_cons_of_mem _ (List.mem_append_left _ (List.mem_append_left _ (List.mem_append_left _ (List.mem_append_left _ (List.mem_append_right _ h)))))
  have lk7 : Cond.fieldLink RX11 157 "SealStrait$Sea" "lost" "I" ∈ wsX11_then := by decide +kernel
  have lk8 : ∀ w ∈ u_ws RX8 TX8 7, w ∈ wsX11_then := fun w h => List.mem_cons_of_mem _ (List.mem_append_left _ (List.mem_append_left _ (List.mem_append_left _ (List.mem_append_right _ h))))
  have lk9 : Cond.fieldLink RX11 160 "SealStrait$Sea" "month" "I" ∈ wsX11_then := by decide +kernel
  have lk10 : Cond.fieldLink RX11 163 "SealStrait$Trial" "readings" "I" ∈ wsX11_then := by decide +kernel
  have lk11 : Cond.fieldLink RX11 166 "SealStrait$Trial" "signedAll" "I" ∈ wsX11_then := by decide +kernel
  unfold f_Strait_then at hF
  refine q_iload_n C dX11_then_0 1 rfl rfl ?_
  refine q_iconst (v := (0 : Int32)) C dX11_then_1 (by decide) ?_
  refine q_iconst (v := (4 : Int32)) C dX11_then_2 (by decide) ?_
  refine q_roz (q_runS (As := [.int p1, .int (0 : Int32), .int (4 : Int32)]) (rest := []) C (fun sz => c_X11_within l dC dI cI cZ cQ p1 (0 : Int32) (4 : Int32) (f_Strait_within p1 (0 : Int32) (4 : Int32)) rfl sz) (va_cwS 3 C.2.2.2.2.1 gX11_then_X11_within rfl rfl rfl (by decide +kernel) ⟨Nat.le_of_ble_eq_true rfl, Nat.le_of_ble_eq_true rfl⟩) [] rfl rfl rfl rfl (Nat.le_of_ble_eq_true rfl) dX11_then_3 ⟨Nat.zero_le _, Nat.zero_le _⟩) (fun hz1 => ?_)
  refine q_if_ne (tgt := 12) C dX11_then_6 (by decide) (fun c2 => ?_) (fun c2 => ?_)
  · have hF := ite_f hF c2
    refine q_aload_n C dX11_then_12 0 rfl rfl ?_
    refine q_get (C0 := RX11) (T := TX11) (N := 11) (k0 := 5) C lk1 0 rfl rfl (by decide) lk0 rfl (v := .ref o_trial) rfl dX11_then_13 ?_
    refine q_aload_n C dX11_then_16 0 rfl rfl ?_
    refine q_get (C0 := RX11) (T := TX11) (N := 11) (k0 := 3) C lk1 0 rfl rfl (by decide) lk2 rfl (v := .ref o_pad) rfl dX11_then_17 ?_
    refine q_aload_n C dX11_then_20 0 rfl rfl ?_
    refine q_get (C0 := RX11) (T := TX11) (N := 11) (k0 := 0) C lk1 0 rfl rfl (by decide) lk3 rfl (v := .ref o_sea) rfl dX11_then_21 ?_
    refine q_aload_n C dX11_then_24 0 rfl rfl ?_
    refine q_get (C0 := RX11) (T := TX11) (N := 11) (k0 := 1) C lk1 0 rfl rfl (by decide) lk4 rfl (v := .ref o_treaty) rfl dX11_then_25 ?_
    obtain ⟨⟨u3_sea_there, u3_sea_month, u3_sea_lost, u3_sea_heads, u3_sea_sides, u3_sea_moods, u3_sea_moults, u3_act_kind, u3_act_one, u3_act_other, u3_isFaulty, u3_acts, u3_why, u3_readings, u3_signedAll⟩, hc4, hF⟩ := bind_c hF
    dsimp only at hF
    refine q_rwv hA ([(o, .inr (11, [.ref o_sea, .ref o_treaty, .ref o_lookout, .ref o_pad, .ref o_images, .ref o_trial, .ref o_bringing, .ref o_guess, .ref o_game, .ref o_fraction, .ref o_got])), (o_sea, .inr (8, [.int v_sea_there, .int v_sea_month, .int v_sea_lost, .ref o_sea_heads, .ref o_sea_sides, .ref o_sea_moods, .ref o_sea_moults])), (o_sea_heads, .inl (cI, 6, .inl v_sea_heads)), (o_sea_sides, .inl (cI, 6, .inl v_sea_sides)), (o_sea_moods, .inl (cI, 6, .inl v_sea_moods)), (o_sea_moults, .inl (cI, 6, .inl v_sea_moults)), (o_treaty, .inr (9, [.ref o_treaty_words, .ref o_treaty_clashes])), (o_treaty_words, .inl (cI, 10, .inl v_treaty_words)), (o_pad, .inr (7, [.ref o_pad_signs, .int v_pad_size])), (o_pad_signs, .inl (cI, 60, .inl v_pad_signs)), (o_trial, .inr (10, [.ref o_trial_sea, .ref o_trial_act, .int u3_isFaulty, .int u3_acts, .int u3_why, .int u3_readings, .int u3_signedAll])), (o_trial_sea, .inr (8, [.int u3_sea_there, .int u3_sea_month, .int u3_sea_lost, .ref o_trial_sea_heads, .ref o_trial_sea_sides, .ref o_trial_sea_moods, .ref o_trial_sea_moults])), (o_trial_sea_heads, .inl (cI, 6, .inl u3_sea_heads)), (o_trial_sea_sides, .inl (cI, 6, .inl u3_sea_sides)), (o_trial_sea_moods, .inl (cI, 6, .inl u3_sea_moods)), (o_trial_sea_moults, .inl (cI, 6, .inl u3_sea_moults)), (o_trial_act, .inr (0, [.int u3_act_kind, .int u3_act_one, .int u3_act_other]))]) [10, 11, 12, 13, 14, 15, 16, 8, 9, 1, 2, 3, 4, 5, 6, 7] [0] rfl rfl rfl (by decide) [0, 10, 11, 12, 13, 14, 15, 16, 8, 9, 1, 2, 3, 4, 5, 6, 7] rfl rfl (q_runV (As := [.ref o_pad, .ref o_sea, .ref o_treaty]) (rest := []) C (fun sz => c_X10_run l dC dI cI cZ cQ o_trial o_trial_sea o_trial_sea_heads o_trial_sea_sides o_trial_sea_moods o_trial_sea_moults o_trial_act o_pad o_pad_signs o_sea o_sea_heads o_sea_sides o_sea_moods o_sea_moults o_treaty o_treaty_words o_treaty_clashes v_trial_sea_there v_trial_sea_month v_trial_sea_lost v_trial_sea_heads v_trial_sea_sides v_trial_sea_moods v_trial_sea_moults v_trial_act_kind v_trial_act_one v_trial_act_other v_trial_isFaulty v_trial_acts v_trial_why v_trial_readings v_trial_signedAll v_pad_signs v_pad_size v_sea_there v_sea_month v_sea_lost v_sea_heads v_sea_sides v_sea_moods v_sea_moults v_treaty_words u3_sea_there u3_sea_month u3_sea_lost u3_sea_heads u3_sea_sides u3_sea_moods u3_sea_moults u3_act_kind u3_act_one u3_act_other u3_isFaulty u3_acts u3_why u3_readings u3_signedAll hc4 sz) (cwV 3 C.2.2.2.2.1 gX11_then_X10_run rfl rfl rfl (by decide +kernel) ⟨Nat.le_of_ble_eq_true rfl, Nat.le_of_ble_eq_true rfl⟩) 10 rfl rfl rfl [10, 11, 12, 13, 14, 15, 16, 8, 9, 1, 2, 3, 4, 5, 6, 7] rfl rfl rfl rfl (Nat.le_of_ble_eq_true rfl) dX11_then_28 ⟨Nat.zero_le _, Nat.zero_le _⟩) ?_
    refine q_aload_n C dX11_then_31 0 rfl rfl ?_
    refine q_get (C0 := RX11) (T := TX11) (N := 11) (k0 := 5) C lk1 0 rfl rfl (by decide) lk0 rfl (v := .ref o_trial) rfl dX11_then_32 ?_
    refine q_roz (q_runV (As := []) (rest := []) C (fun sz => c_X10_allCanBe l dC dI cI cZ cQ o_trial o_trial_sea o_trial_act u3_isFaulty u3_why u3_acts u3_readings u3_signedAll (f_Trial_allCanBe u3_isFaulty u3_why) rfl sz) (cwV 0 C.2.2.2.2.1 gX11_then_X10_allCanBe rfl rfl rfl (by decide +kernel) ⟨Nat.le_of_ble_eq_true rfl, Nat.le_of_ble_eq_true rfl⟩) 10 rfl rfl rfl [10] rfl rfl rfl rfl (Nat.le_of_ble_eq_true rfl) dX11_then_35 ⟨Nat.zero_le _, Nat.zero_le _⟩) (fun hz5 => ?_)
    refine q_if_ne (tgt := 44) C dX11_then_38 (by decide) (fun c6 => ?_) (fun c6 => ?_)
    · have hF := ite_f hF c6
      refine q_iload_n C dX11_then_44 1 rfl rfl ?_
      by_cases c7 : p1 = (0 : Int32)
      · have hF := ite_t hF c7
        refine q_tab (tgt := 76) C dX11_then_45 0 (by rw [c7]; decide) (by decide) (by decide) rfl (by decide) ?_
        refine q_aload_n C dX11_then_76 0 rfl rfl ?_
        refine q_get (C0 := RX11) (T := TX11) (N := 11) (k0 := 5) C lk1 0 rfl rfl (by decide) lk0 rfl (v := .ref o_trial) rfl dX11_then_77 ?_
        refine q_get (C0 := RX10) (T := TX10) (N := 7) (k0 := 0) C lk6 10 rfl rfl (by decide) lk5 rfl (v := .ref o_trial_sea) rfl dX11_then_80 ?_
        obtain ⟨r8, hc9, hF⟩ := bind_c hF
        refine q_roi (q_runV (As := []) (rest := []) C (fun sz => c_X8_headsOnSideOne l dC dI cI cZ cQ o_trial_sea o_trial_sea_heads o_trial_sea_sides o_trial_sea_moods o_trial_sea_moults u3_sea_there u3_sea_heads u3_sea_sides u3_sea_month u3_sea_lost r8 hc9 sz) (cwV 0 C.2.2.2.2.1 gX11_then_X8_headsOnSideOne rfl rfl rfl (by decide +kernel) ⟨Nat.le_of_ble_eq_true rfl, Nat.le_of_ble_eq_true rfl⟩) 11 rfl rfl rfl [11, 12, 13] rfl rfl rfl rfl (Nat.le_of_ble_eq_true rfl) dX11_then_83 ⟨Nat.zero_le _, Nat.zero_le _⟩) ?_
        cases hF
        exact q_wreti C hr dX11_then_86 hQ
      · have hF := ite_f hF c7
        by_cases c10 : p1 = (1 : Int32)
        · have hF := ite_t hF c10
          refine q_tab (tgt := 87) C dX11_then_45 1 (by rw [c10]; decide) (by decide) (by decide) rfl (by decide) ?_
          refine q_aload_n C dX11_then_87 0 rfl rfl ?_
          refine q_get (C0 := RX11) (T := TX11) (N := 11) (k0 := 5) C lk1 0 rfl rfl (by decide) lk0 rfl (v := .ref o_trial) rfl dX11_then_88 ?_
          refine q_get (C0 := RX10) (T := TX10) (N := 7) (k0 := 0) C lk6 10 rfl rfl (by decide) lk5 rfl (v := .ref o_trial_sea) rfl dX11_then_91 ?_
          refine q_get (C0 := RX8) (T := TX8) (N := 7) (k0 := 2) C lk8 11 rfl rfl (by decide) lk7 rfl (v := .int u3_sea_lost) rfl dX11_then_94 ?_
          cases hF
          exact q_wreti C hr dX11_then_97 hQ
        · have hF := ite_f hF c10
          by_cases c11 : p1 = (2 : Int32)
          · have hF := ite_t hF c11
            refine q_tab (tgt := 98) C dX11_then_45 2 (by rw [c11]; decide) (by decide) (by decide) rfl (by decide) ?_
            refine q_aload_n C dX11_then_98 0 rfl rfl ?_
            refine q_get (C0 := RX11) (T := TX11) (N := 11) (k0 := 5) C lk1 0 rfl rfl (by decide) lk0 rfl (v := .ref o_trial) rfl dX11_then_99 ?_
            refine q_get (C0 := RX10) (T := TX10) (N := 7) (k0 := 0) C lk6 10 rfl rfl (by decide) lk5 rfl (v := .ref o_trial_sea) rfl dX11_then_102 ?_
            refine q_get (C0 := RX8) (T := TX8) (N := 7) (k0 := 1) C lk8 11 rfl rfl (by decide) lk9 rfl (v := .int u3_sea_month) rfl dX11_then_105 ?_
            cases hF
            exact q_wreti C hr dX11_then_108 hQ
          · have hF := ite_f hF c11
            by_cases c12 : p1 = (3 : Int32)
            · have hF := ite_t hF c12
              refine q_tab (tgt := 109) C dX11_then_45 3 (by rw [c12]; decide) (by decide) (by decide) rfl (by decide) ?_
              refine q_aload_n C dX11_then_109 0 rfl rfl ?_
              refine q_get (C0 := RX11) (T := TX11) (N := 11) (k0 := 5) C lk1 0 rfl rfl (by decide) lk0 rfl (v := .ref o_trial) rfl dX11_then_110 ?_
              refine q_get (C0 := RX10) (T := TX10) (N := 7) (k0 := 5) C lk6 10 rfl rfl (by decide) lk10 rfl (v := .int u3_readings) rfl dX11_then_113 ?_
              cases hF
              exact q_wreti C hr dX11_then_116 hQ
            · have hF := ite_f hF c12
              refine q_tabD (tgt := 117) C dX11_then_45 (by have c7t := lv_neT c7 (show (0 : Int32).toInt = 0 by decide); have c10t := lv_neT c10 (show (1 : Int32).toInt = 1 by decide); have c11t := lv_neT c11 (show (2 : Int32).toInt = 2 by decide); have c12t := lv_neT c12 (show (3 : Int32).toInt = 3 by decide); omega) (by decide) ?_
              refine q_aload_n C dX11_then_117 0 rfl rfl ?_
              refine q_get (C0 := RX11) (T := TX11) (N := 11) (k0 := 5) C lk1 0 rfl rfl (by decide) lk0 rfl (v := .ref o_trial) rfl dX11_then_118 ?_
              refine q_get (C0 := RX10) (T := TX10) (N := 7) (k0 := 6) C lk6 10 rfl rfl (by decide) lk11 rfl (v := .int u3_signedAll) rfl dX11_then_121 ?_
              cases hF
              exact q_wreti C hr dX11_then_124 hQ
    · have hF := ite_t hF c6
      refine q_bipush (v := (-5 : Int32)) C dX11_then_41 (by decide) ?_
      cases hF
      exact q_wreti C hr dX11_then_43 hQ
  · have hF := ite_t hF c2
    refine q_bipush (v := (-2 : Int32)) C dX11_then_9 (by decide) ?_
    cases hF
    exact q_wreti C hr dX11_then_11 hQ
set_option maxRecDepth 100000 in
set_option maxHeartbeats 4000000 in
theorem c_X11_who (l : Launch) (dC : Nat → ClassId) (dI : Nat → Nat → Nat) (cI cZ cQ : ClassId) (o o_sea o_sea_heads o_sea_moods o_sea_moults o_treaty o_treaty_words o_lookout o_pad o_images o_trial o_bringing o_guess o_game o_fraction o_got o_sea_sides o_treaty_clashes : Nat) (v_sea_there : Int32) (v_sea_month : Int32) (v_sea_heads : Nat → Int32) (v_sea_moods : Nat → Int32) (v_sea_moults : Nat → Int32) (v_treaty_words : Nat → Int32) (v_sea_lost : Int32) (p1 : Int32) (R : Int32) (hF : f_Strait_who v_sea_there v_sea_month v_sea_heads v_sea_moods v_sea_moults v_treaty_words p1 = some R) (sz : Nat) : Met l yX11_who wsX11_who ({ frames := 3, cells := 0, slots := 0, locals := 65 } : Room) (qPc ([.ref o, .int p1]) (dC, dI) (qT cI cZ cQ) ([(o, .inr (11, [.ref o_sea, .ref o_treaty, .ref o_lookout, .ref o_pad, .ref o_images, .ref o_trial, .ref o_bringing, .ref o_guess, .ref o_game, .ref o_fraction, .ref o_got])), (o_sea, .inr (8, [.int v_sea_there, .int v_sea_month, .int v_sea_lost, .ref o_sea_heads, .ref o_sea_sides, .ref o_sea_moods, .ref o_sea_moults])), (o_sea_heads, .inl (cI, 6, .inl v_sea_heads)), (o_sea_moods, .inl (cI, 6, .inl v_sea_moods)), (o_sea_moults, .inl (cI, 6, .inl v_sea_moults)), (o_treaty, .inr (9, [.ref o_treaty_words, .ref o_treaty_clashes])), (o_treaty_words, .inl (cI, 10, .inl v_treaty_words))]) sz) (qRi R) 0 0 (fun _ => False) := by
  refine q_met_r (cc := cX11_who) (own := RX11) (maxL := 2) (ret := (some .int)) (lv0 := [(0, .ref o), (1, .int p1)]) (by decide) rfl rfl rfl (Nat.le_of_ble_eq_true rfl) ?_
  intro p e s m args below meth c C hr A A' Q hA0 hQ
  have lk0 : Cond.fieldLink RX11 12 "SealStrait" "sea" "LSealStrait$Sea;" ∈ wsX11_who := by decide +kernel
  have lk1 : ∀ w ∈ u_ws RX11 TX11 11, w ∈ wsX11_who := fun w h => List.mem_cons_of_mem _ (List.mem_append_left _ (List.mem_append_left _ (List.mem_append_right _ h)))
  have lk2 : Cond.fieldLink RX11 19 "SealStrait" "treaty" "LSealStrait$Treaty;" ∈ wsX11_who := by decide +kernel
  have lk3 : Cond.fieldLink RX11 100 "SealStrait$Treaty" "words" "[I" ∈ wsX11_who := by decide +kernel
  have lk4 : ∀ w ∈ u_ws RX9 TX9 2, w ∈ wsX11_who := fun w h => List.mem_cons_of_mem _ (List.mem_append_left _ (List.mem_append_right _ h))
  unfold f_Strait_who at hF
  refine q_iload_n C dX11_who_0 1 rfl rfl ?_
  refine q_iconst (v := (0 : Int32)) C dX11_who_1 (by decide) ?_
  refine q_bipush (v := (9 : Int32)) C dX11_who_2 (by decide) ?_
  refine q_roz (q_runS (As := [.int p1, .int (0 : Int32), .int (9 : Int32)]) (rest := []) C (fun sz => c_X11_within l dC dI cI cZ cQ p1 (0 : Int32) (9 : Int32) (f_Strait_within p1 (0 : Int32) (9 : Int32)) rfl sz) (va_cwS 3 C.2.2.2.2.1 gX11_who_X11_within rfl rfl rfl (by decide +kernel) ⟨Nat.le_of_ble_eq_true rfl, Nat.le_of_ble_eq_true rfl⟩) [] rfl rfl rfl rfl (Nat.le_of_ble_eq_true rfl) dX11_who_4 ⟨Nat.zero_le _, Nat.zero_le _⟩) (fun hz1 => ?_)
  refine q_if_ne (tgt := 12) C dX11_who_7 (by decide) (fun c2 => ?_) (fun c2 => ?_)
  · have hF := ite_f hF c2
    refine q_aload_n C dX11_who_12 0 rfl rfl ?_
    refine q_get (C0 := RX11) (T := TX11) (N := 11) (k0 := 0) C lk1 0 rfl rfl (by decide) lk0 rfl (v := .ref o_sea) rfl dX11_who_13 ?_
    refine q_aload_n C dX11_who_16 0 rfl rfl ?_
    refine q_get (C0 := RX11) (T := TX11) (N := 11) (k0 := 1) C lk1 0 rfl rfl (by decide) lk2 rfl (v := .ref o_treaty) rfl dX11_who_17 ?_
    refine q_get (C0 := RX9) (T := TX9) (N := 2) (k0 := 0) C lk4 5 rfl rfl (by decide) lk3 rfl (v := .ref o_treaty_words) rfl dX11_who_20 ?_
    refine q_iload_n C dX11_who_23 1 rfl rfl ?_
    obtain ⟨hc3, hF⟩ := ite_c hF
    refine q_iald C 6 0 rfl rfl (ix_in hc3) dX11_who_24 ?_
    obtain ⟨r4, hc5, hF⟩ := bind_c hF
    refine q_roi (q_runV (As := [.int (v_treaty_words (p1).toNatClampNeg)]) (rest := []) C (fun sz => c_X8_signers l dC dI cI cZ cQ o_sea o_sea_heads o_sea_moods o_sea_moults o_sea_sides v_sea_there v_sea_month v_sea_heads v_sea_moods v_sea_moults v_sea_lost (v_treaty_words (p1).toNatClampNeg) r4 hc5 sz) (cwV 1 C.2.2.2.2.1 gX11_who_X8_signers rfl rfl rfl (by decide +kernel) ⟨Nat.le_of_ble_eq_true rfl, Nat.le_of_ble_eq_true rfl⟩) 1 rfl rfl rfl [1, 2, 3, 4] rfl rfl rfl rfl (Nat.le_of_ble_eq_true rfl) dX11_who_25 ⟨Nat.zero_le _, Nat.zero_le _⟩) ?_
    cases hF
    exact q_ireti C hA0 hr dX11_who_28 hQ
  · have hF := ite_t hF c2
    refine q_iconst (v := (-1 : Int32)) C dX11_who_10 (by decide) ?_
    cases hF
    exact q_ireti C hA0 hr dX11_who_11 hQ
set_option maxRecDepth 100000 in
set_option maxHeartbeats 4000000 in
theorem c_X11_bring (l : Launch) (dC : Nat → ClassId) (dI : Nat → Nat → Nat) (cI cZ cQ : ClassId) (o o_sea o_sea_heads o_sea_sides o_sea_moods o_sea_moults o_treaty o_treaty_words o_bringing o_bringing_steps o_bringing_firsts o_bringing_queue o_lookout o_pad o_images o_trial o_guess o_game o_fraction o_got o_treaty_clashes : Nat) (v_sea_there : Int32) (v_sea_month : Int32) (v_sea_heads : Nat → Int32) (v_sea_sides : Nat → Int32) (v_sea_moods : Nat → Int32) (v_sea_moults : Nat → Int32) (v_treaty_words : Nat → Int32) (v_bringing_steps : Nat → Int32) (v_bringing_firsts : Nat → Int32) (v_bringing_queue : Nat → Int32) (v_bringing_size : Int32) (v_bringing_oneListens : Int32) (v_bringing_otherListens : Int32) (v_bringing_fewest : Int32) (v_bringing_firstClause : Int32) (v_sea_lost : Int32) (p1 : Int32) (p2 : Int32) (p3 : Int32) (p4 : Int32) (p5 : Int32) (R : Int32) (w_bringing_steps : Nat → Int32) (w_bringing_firsts : Nat → Int32) (w_bringing_queue : Nat → Int32) (w_bringing_size : Int32) (w_bringing_oneListens : Int32) (w_bringing_otherListens : Int32) (w_bringing_fewest : Int32) (w_bringing_firstClause : Int32) (hF : f_Strait_bring v_sea_there v_sea_month v_sea_heads v_sea_sides v_sea_moods v_sea_moults v_treaty_words v_bringing_steps v_bringing_firsts v_bringing_queue v_bringing_size v_bringing_oneListens v_bringing_otherListens v_bringing_fewest v_bringing_firstClause p1 p2 p3 p4 p5 = some (R, w_bringing_steps, w_bringing_firsts, w_bringing_queue, w_bringing_size, w_bringing_oneListens, w_bringing_otherListens, w_bringing_fewest, w_bringing_firstClause)) (sz : Nat) : Met l yX11_bring wsX11_bring ({ frames := 4, cells := 0, slots := 0, locals := 98 } : Room) (qPc ([.ref o, .int p1, .int p2, .int p3, .int p4, .int p5]) (dC, dI) (qT cI cZ cQ) ([(o, .inr (11, [.ref o_sea, .ref o_treaty, .ref o_lookout, .ref o_pad, .ref o_images, .ref o_trial, .ref o_bringing, .ref o_guess, .ref o_game, .ref o_fraction, .ref o_got])), (o_sea, .inr (8, [.int v_sea_there, .int v_sea_month, .int v_sea_lost, .ref o_sea_heads, .ref o_sea_sides, .ref o_sea_moods, .ref o_sea_moults])), (o_sea_heads, .inl (cI, 6, .inl v_sea_heads)), (o_sea_sides, .inl (cI, 6, .inl v_sea_sides)), (o_sea_moods, .inl (cI, 6, .inl v_sea_moods)), (o_sea_moults, .inl (cI, 6, .inl v_sea_moults)), (o_treaty, .inr (9, [.ref o_treaty_words, .ref o_treaty_clashes])), (o_treaty_words, .inl (cI, 10, .inl v_treaty_words)), (o_bringing, .inr (1, [.ref o_bringing_steps, .ref o_bringing_firsts, .ref o_bringing_queue, .int v_bringing_size, .int v_bringing_oneListens, .int v_bringing_otherListens, .int v_bringing_fewest, .int v_bringing_firstClause])), (o_bringing_steps, .inl (cI, 400, .inl v_bringing_steps)), (o_bringing_firsts, .inl (cI, 400, .inl v_bringing_firsts)), (o_bringing_queue, .inl (cI, 400, .inl v_bringing_queue))]) sz) (qWi R (dC, dI) ([(o, .inr (11, [.ref o_sea, .ref o_treaty, .ref o_lookout, .ref o_pad, .ref o_images, .ref o_trial, .ref o_bringing, .ref o_guess, .ref o_game, .ref o_fraction, .ref o_got])), (o_sea, .inr (8, [.int v_sea_there, .int v_sea_month, .int v_sea_lost, .ref o_sea_heads, .ref o_sea_sides, .ref o_sea_moods, .ref o_sea_moults])), (o_sea_heads, .inl (cI, 6, .inl v_sea_heads)), (o_sea_sides, .inl (cI, 6, .inl v_sea_sides)), (o_sea_moods, .inl (cI, 6, .inl v_sea_moods)), (o_sea_moults, .inl (cI, 6, .inl v_sea_moults)), (o_treaty, .inr (9, [.ref o_treaty_words, .ref o_treaty_clashes])), (o_treaty_words, .inl (cI, 10, .inl v_treaty_words)), (o_bringing, .inr (1, [.ref o_bringing_steps, .ref o_bringing_firsts, .ref o_bringing_queue, .int w_bringing_size, .int w_bringing_oneListens, .int w_bringing_otherListens, .int w_bringing_fewest, .int w_bringing_firstClause])), (o_bringing_steps, .inl (cI, 400, .inl w_bringing_steps)), (o_bringing_firsts, .inl (cI, 400, .inl w_bringing_firsts)), (o_bringing_queue, .inl (cI, 400, .inl w_bringing_queue))]) (va_A ([(o, .inr (11, [.ref o_sea, .ref o_treaty, .ref o_lookout, .ref o_pad, .ref o_images, .ref o_trial, .ref o_bringing, .ref o_guess, .ref o_game, .ref o_fraction, .ref o_got])), (o_sea, .inr (8, [.int v_sea_there, .int v_sea_month, .int v_sea_lost, .ref o_sea_heads, .ref o_sea_sides, .ref o_sea_moods, .ref o_sea_moults])), (o_sea_heads, .inl (cI, 6, .inl v_sea_heads)), (o_sea_sides, .inl (cI, 6, .inl v_sea_sides)), (o_sea_moods, .inl (cI, 6, .inl v_sea_moods)), (o_sea_moults, .inl (cI, 6, .inl v_sea_moults)), (o_treaty, .inr (9, [.ref o_treaty_words, .ref o_treaty_clashes])), (o_treaty_words, .inl (cI, 10, .inl v_treaty_words)), (o_bringing, .inr (1, [.ref o_bringing_steps, .ref o_bringing_firsts, .ref o_bringing_queue, .int v_bringing_size, .int v_bringing_oneListens, .int v_bringing_otherListens, .int v_bringing_fewest, .int v_bringing_firstClause])), (o_bringing_steps, .inl (cI, 400, .inl v_bringing_steps)), (o_bringing_firsts, .inl (cI, 400, .inl v_bringing_firsts)), (o_bringing_queue, .inl (cI, 400, .inl v_bringing_queue))]) sz)) 0 0 (va_A ([(o, .inr (11, [.ref o_sea, .ref o_treaty, .ref o_lookout, .ref o_pad, .ref o_images, .ref o_trial, .ref o_bringing, .ref o_guess, .ref o_game, .ref o_fraction, .ref o_got])), (o_sea, .inr (8, [.int v_sea_there, .int v_sea_month, .int v_sea_lost, .ref o_sea_heads, .ref o_sea_sides, .ref o_sea_moods, .ref o_sea_moults])), (o_sea_heads, .inl (cI, 6, .inl v_sea_heads)), (o_sea_sides, .inl (cI, 6, .inl v_sea_sides)), (o_sea_moods, .inl (cI, 6, .inl v_sea_moods)), (o_sea_moults, .inl (cI, 6, .inl v_sea_moults)), (o_treaty, .inr (9, [.ref o_treaty_words, .ref o_treaty_clashes])), (o_treaty_words, .inl (cI, 10, .inl v_treaty_words)), (o_bringing, .inr (1, [.ref o_bringing_steps, .ref o_bringing_firsts, .ref o_bringing_queue, .int v_bringing_size, .int v_bringing_oneListens, .int v_bringing_otherListens, .int v_bringing_fewest, .int v_bringing_firstClause])), (o_bringing_steps, .inl (cI, 400, .inl v_bringing_steps)), (o_bringing_firsts, .inl (cI, 400, .inl v_bringing_firsts)), (o_bringing_queue, .inl (cI, 400, .inl v_bringing_queue))]) sz) := by
  refine q_met_w (Qc := fun A => qWi R (dC, dI) ([(o, .inr (11, [.ref o_sea, .ref o_treaty, .ref o_lookout, .ref o_pad, .ref o_images, .ref o_trial, .ref o_bringing, .ref o_guess, .ref o_game, .ref o_fraction, .ref o_got])), (o_sea, .inr (8, [.int v_sea_there, .int v_sea_month, .int v_sea_lost, .ref o_sea_heads, .ref o_sea_sides, .ref o_sea_moods, .ref o_sea_moults])), (o_sea_heads, .inl (cI, 6, .inl v_sea_heads)), (o_sea_sides, .inl (cI, 6, .inl v_sea_sides)), (o_sea_moods, .inl (cI, 6, .inl v_sea_moods)), (o_sea_moults, .inl (cI, 6, .inl v_sea_moults)), (o_treaty, .inr (9, [.ref o_treaty_words, .ref o_treaty_clashes])), (o_treaty_words, .inl (cI, 10, .inl v_treaty_words)), (o_bringing, .inr (1, [.ref o_bringing_steps, .ref o_bringing_firsts, .ref o_bringing_queue, .int w_bringing_size, .int w_bringing_oneListens, .int w_bringing_otherListens, .int w_bringing_fewest, .int w_bringing_firstClause])), (o_bringing_steps, .inl (cI, 400, .inl w_bringing_steps)), (o_bringing_firsts, .inl (cI, 400, .inl w_bringing_firsts)), (o_bringing_queue, .inl (cI, 400, .inl w_bringing_queue))]) A) (cc := cX11_bring) (own := RX11) (maxL := 6) (ret := (some .int)) (lv0 := [(0, .ref o), (1, .int p1), (2, .int p2), (3, .int p3), (4, .int p4), (5, .int p5)]) (by decide) rfl rfl rfl (Nat.le_of_ble_eq_true rfl) ?_
  intro p e s m args below meth c A hA C hr hnm Q hQ
  have lk0 : Cond.fieldLink RX11 12 "SealStrait" "sea" "LSealStrait$Sea;" ∈ wsX11_bring := by decide +kernel
  have lk1 : ∀ w ∈ u_ws RX11 TX11 11, w ∈ wsX11_bring := fun w h => List.mem_cons_of_mem _ (List.mem_append_left _ (List.mem_append_left _ (List.mem_append_left _ (List.mem_append_right _ h))))
  have lk2 : Cond.fieldLink RX11 53 "SealStrait" "bringing" "LSealStrait$Bringing;" ∈ wsX11_bring := by decide +kernel
  have lk3 : Cond.fieldLink RX11 19 "SealStrait" "treaty" "LSealStrait$Treaty;" ∈ wsX11_bring := by decide +kernel
  have lk4 : Cond.fieldLink RX11 183 "SealStrait$Bringing" "firstClause" "I" ∈ wsX11_bring := by decide +kernel
  have lk5 : ∀ w ∈ u_ws RX1 TX1 8, w ∈ wsX11_bring := fun w h => List.mem_cons_of_mem _ (List.mem_append_left _ (List.mem_append_left _ (List.mem_append_right _ h)))
  have lk6 : Cond.fieldLink RX11 180 "SealStrait$Bringing" "fewest" "I" ∈ wsX11_bring := by decide +kernel
  unfold f_Strait_bring at hF
  refine q_aload_n C dX11_bring_0 0 rfl rfl ?_
  refine q_get (C0 := RX11) (T := TX11) (N := 11) (k0 := 0) C lk1 0 rfl rfl (by decide) lk0 rfl (v := .ref o_sea) rfl dX11_bring_1 ?_
  refine q_iload_n C dX11_bring_4 1 rfl rfl ?_
  refine q_roz (q_runV (As := [.int p1]) (rest := []) C (fun sz => c_X8_isThere l dC dI cI cZ cQ o_sea o_sea_heads o_sea_sides o_sea_moods o_sea_moults v_sea_there v_sea_month v_sea_lost p1 (f_Sea_isThere v_sea_there p1) rfl sz) (cwV 1 C.2.2.2.2.1 gX11_bring_X8_isThere rfl rfl rfl (by decide +kernel) ⟨Nat.le_of_ble_eq_true rfl, Nat.le_of_ble_eq_true rfl⟩) 1 rfl rfl rfl [1] rfl rfl rfl rfl (Nat.le_of_ble_eq_true rfl) dX11_bring_5 ⟨Nat.zero_le _, Nat.zero_le _⟩) (fun hz1 => ?_)
  refine q_if_eq (tgt := 27) C dX11_bring_8 (by decide) (fun c2 => ?_) (fun c2 => ?_)
  · have hF := ite_t hF c2
    refine q_iconst (v := (-1 : Int32)) C dX11_bring_27 (by decide) ?_
    cases hF
    exact q_wreti C hr dX11_bring_28 hQ
  · have hF := ite_f hF c2
    refine q_aload_n C dX11_bring_11 0 rfl rfl ?_
    refine q_get (C0 := RX11) (T := TX11) (N := 11) (k0 := 0) C lk1 0 rfl rfl (by decide) lk0 rfl (v := .ref o_sea) rfl dX11_bring_12 ?_
    refine q_iload_n C dX11_bring_15 3 rfl rfl ?_
    refine q_roz (q_runV (As := [.int p3]) (rest := []) C (fun sz => c_X8_isThere l dC dI cI cZ cQ o_sea o_sea_heads o_sea_sides o_sea_moods o_sea_moults v_sea_there v_sea_month v_sea_lost p3 (f_Sea_isThere v_sea_there p3) rfl sz) (cwV 1 C.2.2.2.2.1 gX11_bring_X8_isThere rfl rfl rfl (by decide +kernel) ⟨Nat.le_of_ble_eq_true rfl, Nat.le_of_ble_eq_true rfl⟩) 1 rfl rfl rfl [1] rfl rfl rfl rfl (Nat.le_of_ble_eq_true rfl) dX11_bring_16 ⟨Nat.zero_le _, Nat.zero_le _⟩) (fun hz3 => ?_)
    refine q_if_eq (tgt := 27) C dX11_bring_19 (by decide) (fun c4 => ?_) (fun c4 => ?_)
    · have hF := ite_t hF c4
      refine q_iconst (v := (-1 : Int32)) C dX11_bring_27 (by decide) ?_
      cases hF
      exact q_wreti C hr dX11_bring_28 hQ
    · have hF := ite_f hF c4
      refine q_iload_n C dX11_bring_22 1 rfl rfl ?_
      refine q_iload_n C dX11_bring_23 3 rfl rfl ?_
      refine q_icmp_ne (tgt := 29) C dX11_bring_24 (by decide) (fun c5 => ?_) (fun c5 => ?_)
      · have hF := ite_f hF c5
        refine q_iload_n C dX11_bring_29 2 rfl rfl ?_
        refine q_iconst (v := (0 : Int32)) C dX11_bring_30 (by decide) ?_
        refine q_iconst (v := (1 : Int32)) C dX11_bring_31 (by decide) ?_
        refine q_roz (q_runS (As := [.int p2, .int (0 : Int32), .int (1 : Int32)]) (rest := []) C (fun sz => c_X11_within l dC dI cI cZ cQ p2 (0 : Int32) (1 : Int32) (f_Strait_within p2 (0 : Int32) (1 : Int32)) rfl sz) (va_cwS 3 C.2.2.2.2.1 gX11_bring_X11_within rfl rfl rfl (by decide +kernel) ⟨Nat.le_of_ble_eq_true rfl, Nat.le_of_ble_eq_true rfl⟩) [] rfl rfl rfl rfl (Nat.le_of_ble_eq_true rfl) dX11_bring_32 ⟨Nat.zero_le _, Nat.zero_le _⟩) (fun hz6 => ?_)
        refine q_if_eq (tgt := 58) C dX11_bring_35 (by decide) (fun c7 => ?_) (fun c7 => ?_)
        · have hF := ite_t hF c7
          refine q_bipush (v := (-2 : Int32)) C dX11_bring_58 (by decide) ?_
          cases hF
          exact q_wreti C hr dX11_bring_60 hQ
        · have hF := ite_f hF c7
          refine q_iload C dX11_bring_38 4 rfl ?_
          refine q_iconst (v := (0 : Int32)) C dX11_bring_40 (by decide) ?_
          refine q_iconst (v := (1 : Int32)) C dX11_bring_41 (by decide) ?_
          refine q_roz (q_runS (As := [.int p4, .int (0 : Int32), .int (1 : Int32)]) (rest := []) C (fun sz => c_X11_within l dC dI cI cZ cQ p4 (0 : Int32) (1 : Int32) (f_Strait_within p4 (0 : Int32) (1 : Int32)) rfl sz) (va_cwS 3 C.2.2.2.2.1 gX11_bring_X11_within rfl rfl rfl (by decide +kernel) ⟨Nat.le_of_ble_eq_true rfl, Nat.le_of_ble_eq_true rfl⟩) [] rfl rfl rfl rfl (Nat.le_of_ble_eq_true rfl) dX11_bring_42 ⟨Nat.zero_le _, Nat.zero_le _⟩) (fun hz8 => ?_)
          refine q_if_eq (tgt := 58) C dX11_bring_45 (by decide) (fun c9 => ?_) (fun c9 => ?_)
          · have hF := ite_t hF c9
            refine q_bipush (v := (-2 : Int32)) C dX11_bring_58 (by decide) ?_
            cases hF
            exact q_wreti C hr dX11_bring_60 hQ
          · have hF := ite_f hF c9
            refine q_iload C dX11_bring_48 5 rfl ?_
            refine q_iconst (v := (0 : Int32)) C dX11_bring_50 (by decide) ?_
            refine q_iconst (v := (1 : Int32)) C dX11_bring_51 (by decide) ?_
            refine q_roz (q_runS (As := [.int p5, .int (0 : Int32), .int (1 : Int32)]) (rest := []) C (fun sz => c_X11_within l dC dI cI cZ cQ p5 (0 : Int32) (1 : Int32) (f_Strait_within p5 (0 : Int32) (1 : Int32)) rfl sz) (va_cwS 3 C.2.2.2.2.1 gX11_bring_X11_within rfl rfl rfl (by decide +kernel) ⟨Nat.le_of_ble_eq_true rfl, Nat.le_of_ble_eq_true rfl⟩) [] rfl rfl rfl rfl (Nat.le_of_ble_eq_true rfl) dX11_bring_52 ⟨Nat.zero_le _, Nat.zero_le _⟩) (fun hz10 => ?_)
            refine q_if_ne (tgt := 61) C dX11_bring_55 (by decide) (fun c11 => ?_) (fun c11 => ?_)
            · have hF := ite_f hF c11
              refine q_aload_n C dX11_bring_61 0 rfl rfl ?_
              refine q_get (C0 := RX11) (T := TX11) (N := 11) (k0 := 6) C lk1 0 rfl rfl (by decide) lk2 rfl (v := .ref o_bringing) rfl dX11_bring_62 ?_
              refine q_aload_n C dX11_bring_65 0 rfl rfl ?_
              refine q_get (C0 := RX11) (T := TX11) (N := 11) (k0 := 0) C lk1 0 rfl rfl (by decide) lk0 rfl (v := .ref o_sea) rfl dX11_bring_66 ?_
              refine q_iload_n C dX11_bring_69 1 rfl rfl ?_
              refine q_iload_n C dX11_bring_70 3 rfl rfl ?_
              obtain ⟨⟨u12_steps, u12_firsts, u12_queue, u12_size, u12_oneListens, u12_otherListens⟩, hc13, hF⟩ := bind_c hF
              dsimp only at hF
              refine q_rwv hA ([(o, .inr (11, [.ref o_sea, .ref o_treaty, .ref o_lookout, .ref o_pad, .ref o_images, .ref o_trial, .ref o_bringing, .ref o_guess, .ref o_game, .ref o_fraction, .ref o_got])), (o_sea, .inr (8, [.int v_sea_there, .int v_sea_month, .int v_sea_lost, .ref o_sea_heads, .ref o_sea_sides, .ref o_sea_moods, .ref o_sea_moults])), (o_sea_heads, .inl (cI, 6, .inl v_sea_heads)), (o_sea_sides, .inl (cI, 6, .inl v_sea_sides)), (o_sea_moods, .inl (cI, 6, .inl v_sea_moods)), (o_sea_moults, .inl (cI, 6, .inl v_sea_moults)), (o_treaty, .inr (9, [.ref o_treaty_words, .ref o_treaty_clashes])), (o_treaty_words, .inl (cI, 10, .inl v_treaty_words)), (o_bringing, .inr (1, [.ref o_bringing_steps, .ref o_bringing_firsts, .ref o_bringing_queue, .int u12_size, .int u12_oneListens, .int u12_otherListens, .int v_bringing_fewest, .int v_bringing_firstClause])), (o_bringing_steps, .inl (cI, 400, .inl u12_steps)), (o_bringing_firsts, .inl (cI, 400, .inl u12_firsts)), (o_bringing_queue, .inl (cI, 400, .inl u12_queue))]) [8, 9, 10, 11, 1, 2, 3, 4, 5] [0, 6, 7] rfl rfl rfl (by decide) [0, 7, 8, 9, 10, 11, 1, 2, 3, 4, 5, 6] rfl rfl (q_runV (As := [.ref o_sea, .int p1, .int p3]) (rest := []) C (fun sz => c_X1_begin l dC dI cI cZ cQ o_bringing o_bringing_steps o_bringing_firsts o_bringing_queue o_sea o_sea_heads o_sea_sides o_sea_moods o_sea_moults v_bringing_steps v_bringing_firsts v_bringing_queue v_bringing_size v_bringing_oneListens v_bringing_otherListens v_sea_there v_sea_month v_sea_heads v_sea_sides v_sea_moods v_sea_moults v_bringing_fewest v_bringing_firstClause v_sea_lost p1 p3 u12_steps u12_firsts u12_queue u12_size u12_oneListens u12_otherListens hc13 sz) (cwV 3 C.2.2.2.2.1 gX11_bring_X1_begin rfl rfl rfl (by decide +kernel) ⟨Nat.le_of_ble_eq_true rfl, Nat.le_of_ble_eq_true rfl⟩) 8 rfl rfl rfl [8, 9, 10, 11, 1, 2, 3, 4, 5] rfl rfl rfl rfl (Nat.le_of_ble_eq_true rfl) dX11_bring_71 ⟨Nat.zero_le _, Nat.zero_le _⟩) ?_
              refine q_aload_n C dX11_bring_74 0 rfl rfl ?_
              refine q_get (C0 := RX11) (T := TX11) (N := 11) (k0 := 6) C lk1 0 rfl rfl (by decide) lk2 rfl (v := .ref o_bringing) rfl dX11_bring_75 ?_
              refine q_aload_n C dX11_bring_78 0 rfl rfl ?_
              refine q_get (C0 := RX11) (T := TX11) (N := 11) (k0 := 1) C lk1 0 rfl rfl (by decide) lk3 rfl (v := .ref o_treaty) rfl dX11_bring_79 ?_
              refine q_iload_n C dX11_bring_82 2 rfl rfl ?_
              refine q_iload C dX11_bring_83 4 rfl ?_
              obtain ⟨⟨u14_steps, u14_firsts, u14_queue, u14_size, u14_fewest, u14_firstClause⟩, hc15, hF⟩ := bind_c hF
              dsimp only at hF
              refine q_rwv hA ([(o, .inr (11, [.ref o_sea, .ref o_treaty, .ref o_lookout, .ref o_pad, .ref o_images, .ref o_trial, .ref o_bringing, .ref o_guess, .ref o_game, .ref o_fraction, .ref o_got])), (o_sea, .inr (8, [.int v_sea_there, .int v_sea_month, .int v_sea_lost, .ref o_sea_heads, .ref o_sea_sides, .ref o_sea_moods, .ref o_sea_moults])), (o_sea_heads, .inl (cI, 6, .inl v_sea_heads)), (o_sea_sides, .inl (cI, 6, .inl v_sea_sides)), (o_sea_moods, .inl (cI, 6, .inl v_sea_moods)), (o_sea_moults, .inl (cI, 6, .inl v_sea_moults)), (o_treaty, .inr (9, [.ref o_treaty_words, .ref o_treaty_clashes])), (o_treaty_words, .inl (cI, 10, .inl v_treaty_words)), (o_bringing, .inr (1, [.ref o_bringing_steps, .ref o_bringing_firsts, .ref o_bringing_queue, .int u14_size, .int u12_oneListens, .int u12_otherListens, .int u14_fewest, .int u14_firstClause])), (o_bringing_steps, .inl (cI, 400, .inl u14_steps)), (o_bringing_firsts, .inl (cI, 400, .inl u14_firsts)), (o_bringing_queue, .inl (cI, 400, .inl u14_queue))]) [8, 9, 10, 11, 6, 7] [0, 1, 2, 3, 4, 5] rfl rfl rfl (by decide) [0, 1, 2, 3, 4, 5, 10, 11, 6, 7, 8, 9] rfl rfl (q_runV (As := [.ref o_treaty, .int p2, .int p4]) (rest := []) C (fun sz => c_X1_search l dC dI cI cZ cQ o_bringing o_bringing_steps o_bringing_firsts o_bringing_queue o_treaty o_treaty_words o_treaty_clashes u12_steps u12_firsts u12_queue u12_size u12_oneListens u12_otherListens v_bringing_fewest v_bringing_firstClause v_treaty_words p2 p4 u14_steps u14_firsts u14_queue u14_size u14_fewest u14_firstClause hc15 sz) (cwV 3 C.2.2.2.2.1 gX11_bring_X1_search rfl rfl rfl (by decide +kernel) ⟨Nat.le_of_ble_eq_true rfl, Nat.le_of_ble_eq_true rfl⟩) 8 rfl rfl rfl [8, 9, 10, 11, 6, 7] rfl rfl rfl rfl (Nat.le_of_ble_eq_true rfl) dX11_bring_85 ⟨Nat.zero_le _, Nat.zero_le _⟩) ?_
              refine q_iload C dX11_bring_88 5 rfl ?_
              refine q_if_ne (tgt := 103) C dX11_bring_90 (by decide) (fun c16 => ?_) (fun c16 => ?_)
              · have hF := ite_f hF c16
                refine q_aload_n C dX11_bring_103 0 rfl rfl ?_
                refine q_get (C0 := RX11) (T := TX11) (N := 11) (k0 := 6) C lk1 0 rfl rfl (by decide) lk2 rfl (v := .ref o_bringing) rfl dX11_bring_104 ?_
                refine q_get (C0 := RX1) (T := TX1) (N := 8) (k0 := 7) C lk5 8 rfl rfl (by decide) lk4 rfl (v := .int u14_firstClause) rfl dX11_bring_107 ?_
                cases hF
                exact q_wreti C hr dX11_bring_110 hQ
              · have hF := ite_t hF c16
                refine q_aload_n C dX11_bring_93 0 rfl rfl ?_
                refine q_get (C0 := RX11) (T := TX11) (N := 11) (k0 := 6) C lk1 0 rfl rfl (by decide) lk2 rfl (v := .ref o_bringing) rfl dX11_bring_94 ?_
                refine q_get (C0 := RX1) (T := TX1) (N := 8) (k0 := 6) C lk5 8 rfl rfl (by decide) lk6 rfl (v := .int u14_fewest) rfl dX11_bring_97 ?_
                refine q_goto (tgt := 110) C dX11_bring_100 (by decide) ?_
                cases hF
                exact q_wreti C hr dX11_bring_110 hQ
            · have hF := ite_t hF c11
              refine q_bipush (v := (-2 : Int32)) C dX11_bring_58 (by decide) ?_
              cases hF
              exact q_wreti C hr dX11_bring_60 hQ
      · have hF := ite_t hF c5
        refine q_iconst (v := (-1 : Int32)) C dX11_bring_27 (by decide) ?_
        cases hF
        exact q_wreti C hr dX11_bring_28 hQ
set_option maxRecDepth 100000 in
set_option maxHeartbeats 4000000 in
theorem c_X11_drop (l : Launch) (dC : Nat → ClassId) (dI : Nat → Nat → Nat) (cI cZ cQ : ClassId) (o o_treaty o_treaty_clashes o_sea o_lookout o_pad o_images o_trial o_bringing o_guess o_game o_fraction o_got o_treaty_words : Nat) (v_treaty_clashes : Nat → Int32) (p1 : Int32) (p2 : Int32) (R : Int32) (hF : f_Strait_drop v_treaty_clashes p1 p2 = some R) (sz : Nat) : Met l yX11_drop wsX11_drop ({ frames := 3, cells := 0, slots := 0, locals := 68 } : Room) (qPc ([.ref o, .int p1, .int p2]) (dC, dI) (qT cI cZ cQ) ([(o, .inr (11, [.ref o_sea, .ref o_treaty, .ref o_lookout, .ref o_pad, .ref o_images, .ref o_trial, .ref o_bringing, .ref o_guess, .ref o_game, .ref o_fraction, .ref o_got])), (o_treaty, .inr (9, [.ref o_treaty_words, .ref o_treaty_clashes])), (o_treaty_clashes, .inl (cI, 10, .inl v_treaty_clashes))]) sz) (qRi R) 0 0 (fun _ => False) := by
  refine q_met_r (cc := cX11_drop) (own := RX11) (maxL := 4) (ret := (some .int)) (lv0 := [(0, .ref o), (1, .int p1), (2, .int p2)]) (by decide) rfl rfl rfl (Nat.le_of_ble_eq_true rfl) ?_
  intro p e s m args below meth c C hr A A' Q hA0 hQ
  have lk0 : Cond.fieldLink RX11 19 "SealStrait" "treaty" "LSealStrait$Treaty;" ∈ wsX11_drop := by decide +kernel
  have lk1 : ∀ w ∈ u_ws RX11 TX11 11, w ∈ wsX11_drop := fun w h => List.mem_cons_of_mem _ (List.mem_append_left _ (List.mem_append_right _ h))
  unfold f_Strait_drop at hF
  refine q_iload_n C dX11_drop_0 1 rfl rfl ?_
  refine q_iconst (v := (0 : Int32)) C dX11_drop_1 (by decide) ?_
  refine q_sipush (v := (1023 : Int32)) C dX11_drop_2 (by decide) ?_
  refine q_roz (q_runS (As := [.int p1, .int (0 : Int32), .int (1023 : Int32)]) (rest := []) C (fun sz => c_X11_within l dC dI cI cZ cQ p1 (0 : Int32) (1023 : Int32) (f_Strait_within p1 (0 : Int32) (1023 : Int32)) rfl sz) (va_cwS 3 C.2.2.2.2.1 gX11_drop_X11_within rfl rfl rfl (by decide +kernel) ⟨Nat.le_of_ble_eq_true rfl, Nat.le_of_ble_eq_true rfl⟩) [] rfl rfl rfl rfl (Nat.le_of_ble_eq_true rfl) dX11_drop_5 ⟨Nat.zero_le _, Nat.zero_le _⟩) (fun hz1 => ?_)
  refine q_if_eq (tgt := 20) C dX11_drop_8 (by decide) (fun c2 => ?_) (fun c2 => ?_)
  · have hF := ite_t hF c2
    refine q_bipush (v := (-2 : Int32)) C dX11_drop_20 (by decide) ?_
    cases hF
    exact q_ireti C hA0 hr dX11_drop_22 hQ
  · have hF := ite_f hF c2
    refine q_iload_n C dX11_drop_11 2 rfl rfl ?_
    refine q_iconst (v := (0 : Int32)) C dX11_drop_12 (by decide) ?_
    refine q_iconst (v := (1 : Int32)) C dX11_drop_13 (by decide) ?_
    refine q_roz (q_runS (As := [.int p2, .int (0 : Int32), .int (1 : Int32)]) (rest := []) C (fun sz => c_X11_within l dC dI cI cZ cQ p2 (0 : Int32) (1 : Int32) (f_Strait_within p2 (0 : Int32) (1 : Int32)) rfl sz) (va_cwS 3 C.2.2.2.2.1 gX11_drop_X11_within rfl rfl rfl (by decide +kernel) ⟨Nat.le_of_ble_eq_true rfl, Nat.le_of_ble_eq_true rfl⟩) [] rfl rfl rfl rfl (Nat.le_of_ble_eq_true rfl) dX11_drop_14 ⟨Nat.zero_le _, Nat.zero_le _⟩) (fun hz3 => ?_)
    refine q_if_ne (tgt := 23) C dX11_drop_17 (by decide) (fun c4 => ?_) (fun c4 => ?_)
    · have hF := ite_f hF c4
      refine q_aload_n C dX11_drop_23 0 rfl rfl ?_
      refine q_get (C0 := RX11) (T := TX11) (N := 11) (k0 := 1) C lk1 0 rfl rfl (by decide) lk0 rfl (v := .ref o_treaty) rfl dX11_drop_24 ?_
      refine q_iload_n C dX11_drop_27 1 rfl rfl ?_
      obtain ⟨r5, hc6, hF⟩ := bind_c hF
      refine q_roi (q_runV (As := [.int p1]) (rest := []) C (fun sz => c_X9_leastToDrop l dC dI cI cZ cQ o_treaty o_treaty_clashes o_treaty_words v_treaty_clashes p1 r5 hc6 sz) (cwV 1 C.2.2.2.2.1 gX11_drop_X9_leastToDrop rfl rfl rfl (by decide +kernel) ⟨Nat.le_of_ble_eq_true rfl, Nat.le_of_ble_eq_true rfl⟩) 1 rfl rfl rfl [1, 2] rfl rfl rfl rfl (Nat.le_of_ble_eq_true rfl) dX11_drop_28 ⟨Nat.zero_le _, Nat.zero_le _⟩) ?_
      refine q_istore_n C ([(3, .int r5), (0, .ref o), (1, .int p1), (2, .int p2)]) dX11_drop_31 rfl (by decide) rfl ?_
      refine q_iload_n C dX11_drop_32 3 rfl rfl ?_
      refine q_if_ne (tgt := 43) C dX11_drop_33 (by decide) (fun c7 => ?_) (fun c7 => ?_)
      · have hF := ite_f hF c7
        refine q_iload_n C dX11_drop_43 0 rfl rfl ?_
        cases hF
        exact q_ireti C hA0 hr dX11_drop_44 hQ
      · have hF := ite_t hF c7
        refine q_iload_n C dX11_drop_36 0 rfl rfl ?_
        refine q_roi (q_runS (As := [.int r5]) (rest := []) C (fun sz => c_J6_bitCount_0f7a4 l dC dI cI cZ cQ r5 (f_Integer_bitCount r5) rfl sz) (va_cwS 1 C.2.2.2.2.1 gX11_drop_J6_bitCount_0f7a4 rfl rfl rfl (by decide +kernel) ⟨Nat.le_of_ble_eq_true rfl, Nat.le_of_ble_eq_true rfl⟩) [] rfl rfl rfl rfl (Nat.le_of_ble_eq_true rfl) dX11_drop_37 ⟨Nat.zero_le _, Nat.zero_le _⟩) ?_
        refine q_goto (tgt := 44) C dX11_drop_40 (by decide) ?_
        cases hF
        exact q_ireti C hA0 hr dX11_drop_44 hQ
    · have hF := ite_t hF c4
      refine q_bipush (v := (-2 : Int32)) C dX11_drop_20 (by decide) ?_
      cases hF
      exact q_ireti C hA0 hr dX11_drop_22 hQ
set_option maxRecDepth 100000 in
set_option maxHeartbeats 4000000 in
theorem c_X11_share (l : Launch) (dC : Nat → ClassId) (dI : Nat → Nat → Nat) (cI cZ cQ : ClassId) (o o_sea o_sea_heads o_got o_treaty o_lookout o_pad o_images o_trial o_bringing o_guess o_game o_fraction o_sea_sides o_sea_moods o_sea_moults : Nat) (v_sea_there : Int32) (v_sea_heads : Nat → Int32) (v_got : Nat → Int32) (v_sea_month : Int32) (v_sea_lost : Int32) (p1 : Int32) (p2 : Int32) (R : Int32) (w_got : Nat → Int32) (hF : f_Strait_share v_sea_there v_sea_heads v_got p1 p2 = some (R, w_got)) (sz : Nat) : Met l yX11_share wsX11_share ({ frames := 2, cells := 0, slots := 0, locals := 47 } : Room) (qPc ([.ref o, .int p1, .int p2]) (dC, dI) (qT cI cZ cQ) ([(o, .inr (11, [.ref o_sea, .ref o_treaty, .ref o_lookout, .ref o_pad, .ref o_images, .ref o_trial, .ref o_bringing, .ref o_guess, .ref o_game, .ref o_fraction, .ref o_got])), (o_sea, .inr (8, [.int v_sea_there, .int v_sea_month, .int v_sea_lost, .ref o_sea_heads, .ref o_sea_sides, .ref o_sea_moods, .ref o_sea_moults])), (o_sea_heads, .inl (cI, 6, .inl v_sea_heads)), (o_got, .inl (cI, 6, .inl v_got))]) sz) (qWi R (dC, dI) ([(o, .inr (11, [.ref o_sea, .ref o_treaty, .ref o_lookout, .ref o_pad, .ref o_images, .ref o_trial, .ref o_bringing, .ref o_guess, .ref o_game, .ref o_fraction, .ref o_got])), (o_sea, .inr (8, [.int v_sea_there, .int v_sea_month, .int v_sea_lost, .ref o_sea_heads, .ref o_sea_sides, .ref o_sea_moods, .ref o_sea_moults])), (o_sea_heads, .inl (cI, 6, .inl v_sea_heads)), (o_got, .inl (cI, 6, .inl w_got))]) (va_A ([(o, .inr (11, [.ref o_sea, .ref o_treaty, .ref o_lookout, .ref o_pad, .ref o_images, .ref o_trial, .ref o_bringing, .ref o_guess, .ref o_game, .ref o_fraction, .ref o_got])), (o_sea, .inr (8, [.int v_sea_there, .int v_sea_month, .int v_sea_lost, .ref o_sea_heads, .ref o_sea_sides, .ref o_sea_moods, .ref o_sea_moults])), (o_sea_heads, .inl (cI, 6, .inl v_sea_heads)), (o_got, .inl (cI, 6, .inl v_got))]) sz)) 0 0 (va_A ([(o, .inr (11, [.ref o_sea, .ref o_treaty, .ref o_lookout, .ref o_pad, .ref o_images, .ref o_trial, .ref o_bringing, .ref o_guess, .ref o_game, .ref o_fraction, .ref o_got])), (o_sea, .inr (8, [.int v_sea_there, .int v_sea_month, .int v_sea_lost, .ref o_sea_heads, .ref o_sea_sides, .ref o_sea_moods, .ref o_sea_moults])), (o_sea_heads, .inl (cI, 6, .inl v_sea_heads)), (o_got, .inl (cI, 6, .inl v_got))]) sz) := by
  refine q_met_w (Qc := fun A => qWi R (dC, dI) ([(o, .inr (11, [.ref o_sea, .ref o_treaty, .ref o_lookout, .ref o_pad, .ref o_images, .ref o_trial, .ref o_bringing, .ref o_guess, .ref o_game, .ref o_fraction, .ref o_got])), (o_sea, .inr (8, [.int v_sea_there, .int v_sea_month, .int v_sea_lost, .ref o_sea_heads, .ref o_sea_sides, .ref o_sea_moods, .ref o_sea_moults])), (o_sea_heads, .inl (cI, 6, .inl v_sea_heads)), (o_got, .inl (cI, 6, .inl w_got))]) A) (cc := cX11_share) (own := RX11) (maxL := 5) (ret := (some .int)) (lv0 := [(0, .ref o), (1, .int p1), (2, .int p2)]) (by decide) rfl rfl rfl (Nat.le_of_ble_eq_true rfl) ?_
  intro p e s m args below meth c A hA C hr hnm Q hQ
  have lk0 : Cond.fieldLink RX11 12 "SealStrait" "sea" "LSealStrait$Sea;" ∈ wsX11_share := by decide +kernel
  have lk1 : ∀ w ∈ u_ws RX11 TX11 11, w ∈ wsX11_share := fun w h => List.mem_cons_of_mem _ (List.mem_append_left _ (List.mem_append_right _ h))
  have lk2 : Cond.fieldLink RX11 78 "SealStrait" "got" "[I" ∈ wsX11_share := by decide +kernel
  have L1 : ∀ (n : Nat) (x1 : Int32) (x2 : Int32) (x3 : Int32) (v_got : Nat → Int32) (z_got : Nat → Int32), evr (fun s => b_Strait_share_1 x2 v_sea_there v_sea_heads s.1 s.2) n (x3, v_got) = some z_got → qG p l e ({ frames := 2, cells := 0, slots := 0, locals := 47 } : Room) s m args below meth c 5 (dC, dI) A A Q 0 0 ([(0, .ref o), (1, .int x1)]) [] ([(o, .inr (11, [.ref o_sea, .ref o_treaty, .ref o_lookout, .ref o_pad, .ref o_images, .ref o_trial, .ref o_bringing, .ref o_guess, .ref o_game, .ref o_fraction, .ref o_got])), (o_sea, .inr (8, [.int v_sea_there, .int v_sea_month, .int v_sea_lost, .ref o_sea_heads, .ref o_sea_sides, .ref o_sea_moods, .ref o_sea_moults])), (o_sea_heads, .inl (cI, 6, .inl v_sea_heads)), (o_got, .inl (cI, 6, .inl z_got))]) 94 → qG p l e ({ frames := 2, cells := 0, slots := 0, locals := 47 } : Room) s m args below meth c 5 (dC, dI) A A Q 0 0 ([(0, .ref o), (1, .int x1), (2, .int x2), (3, .int x3)]) [] ([(o, .inr (11, [.ref o_sea, .ref o_treaty, .ref o_lookout, .ref o_pad, .ref o_images, .ref o_trial, .ref o_bringing, .ref o_guess, .ref o_game, .ref o_fraction, .ref o_got])), (o_sea, .inr (8, [.int v_sea_there, .int v_sea_month, .int v_sea_lost, .ref o_sea_heads, .ref o_sea_sides, .ref o_sea_moods, .ref o_sea_moults])), (o_sea_heads, .inl (cI, 6, .inl v_sea_heads)), (o_got, .inl (cI, 6, .inl v_got))]) 49 := by
    clear hF
    intro n
    induction n with
    | zero => intro x1 x2 x3 v_got z_got hF; exact (evr_0 hF).elim
    | succ n ih =>
      intro x1 x2 x3 v_got z_got hF hk
      obtain ⟨o9, hB, hn, hx⟩ := evr_c hF
      have hF : b_Strait_share_1 x2 v_sea_there v_sea_heads x3 v_got = some o9 := hB
      unfold b_Strait_share_1 at hF
      refine q_iload_n C dX11_share_49 3 rfl rfl ?_
      refine q_iload_n C dX11_share_50 2 rfl rfl ?_
      refine q_icmp_ge (tgt := 94) C dX11_share_51 (by decide) (fun c1 => ?_) (fun c1 => ?_)
      · have hF := ite_t hF c1
        cases hF
        have e2 := hx _ rfl
        cases e2
        refine q_lsel [0, 1] rfl ?_
        exact hk
      · have hF := ite_f hF c1
        refine q_aload_n C dX11_share_54 0 rfl rfl ?_
        refine q_get (C0 := RX11) (T := TX11) (N := 11) (k0 := 0) C lk1 0 rfl rfl (by decide) lk0 rfl (v := .ref o_sea) rfl dX11_share_55 ?_
        refine q_aload_n C dX11_share_58 0 rfl rfl ?_
        refine q_get (C0 := RX11) (T := TX11) (N := 11) (k0 := 10) C lk1 0 rfl rfl (by decide) lk2 rfl (v := .ref o_got) rfl dX11_share_59 ?_
        obtain ⟨r3, hc4, hF⟩ := bind_c hF
        refine q_roi (q_runV (As := [.ref o_got]) (rest := []) C (fun sz => c_X8_nextToGet l dC dI cI cZ cQ o_sea o_sea_heads o_got o_sea_sides o_sea_moods o_sea_moults v_sea_there v_sea_heads v_got v_sea_month v_sea_lost r3 hc4 sz) (cwV 1 C.2.2.2.2.1 gX11_share_X8_nextToGet rfl rfl rfl (by decide +kernel) ⟨Nat.le_of_ble_eq_true rfl, Nat.le_of_ble_eq_true rfl⟩) 1 rfl rfl rfl [1, 2, 3] rfl rfl rfl rfl (Nat.le_of_ble_eq_true rfl) dX11_share_62 ⟨Nat.zero_le _, Nat.zero_le _⟩) ?_
        refine q_istore C ([(4, .int r3), (0, .ref o), (1, .int x1), (2, .int x2), (3, .int x3)]) dX11_share_65 (by decide) rfl ?_
        refine q_iload C dX11_share_67 0 rfl ?_
        refine q_iconst (v := (0 : Int32)) C dX11_share_69 (by decide) ?_
        refine q_iconst (v := (5 : Int32)) C dX11_share_70 (by decide) ?_
        refine q_roz (q_runS (As := [.int r3, .int (0 : Int32), .int (5 : Int32)]) (rest := []) C (fun sz => c_X11_within l dC dI cI cZ cQ r3 (0 : Int32) (5 : Int32) (f_Strait_within r3 (0 : Int32) (5 : Int32)) rfl sz) (va_cwS 3 C.2.2.2.2.1 gX11_share_X11_within rfl rfl rfl (by decide +kernel) ⟨Nat.le_of_ble_eq_true rfl, Nat.le_of_ble_eq_true rfl⟩) [] rfl rfl rfl rfl (Nat.le_of_ble_eq_true rfl) dX11_share_71 ⟨Nat.zero_le _, Nat.zero_le _⟩) (fun hz5 => ?_)
        refine q_if_eq (tgt := 88) C dX11_share_74 (by decide) (fun c6 => ?_) (fun c6 => ?_)
        · have hF := ite_t hF c6
          refine q_iinc (v := (x3 + 1)) C ([(3, .int (x3 + 1)), (4, .int r3), (0, .ref o), (1, .int x1), (2, .int x2)]) dX11_share_88 4 rfl rfl (by decide) rfl ?_
          refine q_goto (tgt := 49) C dX11_share_91 (by decide) ?_
          cases hF
          refine q_lsel [2, 3, 4, 0] rfl ?_
          exact ih x1 x2 (x3 + 1) v_got z_got (hn _ rfl) hk
        · have hF := ite_f hF c6
          refine q_aload_n C dX11_share_77 1 rfl rfl ?_
          refine q_get (C0 := RX11) (T := TX11) (N := 11) (k0 := 10) C lk1 0 rfl rfl (by decide) lk2 rfl (v := .ref o_got) rfl dX11_share_78 ?_
          refine q_iload C dX11_share_81 0 rfl ?_
          refine q_dup2 C dX11_share_83 rfl rfl ?_
          obtain ⟨hc7, hF⟩ := ite_c hF
          refine q_iald C 3 0 rfl rfl (ix_in hc7) dX11_share_84 ?_
          refine q_iconst (v := (1 : Int32)) C dX11_share_85 (by decide) ?_
          refine q_iadd C dX11_share_86 ?_
          obtain ⟨hc8, hF⟩ := ite_c hF
          refine q_iast C 3 0 rfl rfl (ix_in hc8) ([(o, .inr (11, [.ref o_sea, .ref o_treaty, .ref o_lookout, .ref o_pad, .ref o_images, .ref o_trial, .ref o_bringing, .ref o_guess, .ref o_game, .ref o_fraction, .ref o_got])), (o_sea, .inr (8, [.int v_sea_there, .int v_sea_month, .int v_sea_lost, .ref o_sea_heads, .ref o_sea_sides, .ref o_sea_moods, .ref o_sea_moults])), (o_sea_heads, .inl (cI, 6, .inl v_sea_heads)), (o_got, .inl (cI, 6, .inl (upd v_got (r3).toNatClampNeg ((v_got (r3).toNatClampNeg) + (1 : Int32)))))]) rfl dX11_share_87 ?_
          refine q_iinc (v := (x3 + 1)) C ([(3, .int (x3 + 1)), (4, .int r3), (0, .ref o), (1, .int x1), (2, .int x2)]) dX11_share_88 4 rfl rfl (by decide) rfl ?_
          refine q_goto (tgt := 49) C dX11_share_91 (by decide) ?_
          cases hF
          refine q_lsel [2, 3, 4, 0] rfl ?_
          exact ih x1 x2 (x3 + 1) (upd v_got (r3).toNatClampNeg ((v_got (r3).toNatClampNeg) + (1 : Int32))) z_got (hn _ rfl) hk
  unfold f_Strait_share at hF
  refine q_aload_n C dX11_share_0 0 rfl rfl ?_
  refine q_get (C0 := RX11) (T := TX11) (N := 11) (k0 := 0) C lk1 0 rfl rfl (by decide) lk0 rfl (v := .ref o_sea) rfl dX11_share_1 ?_
  refine q_iload_n C dX11_share_4 1 rfl rfl ?_
  refine q_roz (q_runV (As := [.int p1]) (rest := []) C (fun sz => c_X8_isThere l dC dI cI cZ cQ o_sea o_sea_heads o_sea_sides o_sea_moods o_sea_moults v_sea_there v_sea_month v_sea_lost p1 (f_Sea_isThere v_sea_there p1) rfl sz) (cwV 1 C.2.2.2.2.1 gX11_share_X8_isThere rfl rfl rfl (by decide +kernel) ⟨Nat.le_of_ble_eq_true rfl, Nat.le_of_ble_eq_true rfl⟩) 1 rfl rfl rfl [1] rfl rfl rfl rfl (Nat.le_of_ble_eq_true rfl) dX11_share_5 ⟨Nat.zero_le _, Nat.zero_le _⟩) (fun hz9 => ?_)
  refine q_if_ne (tgt := 13) C dX11_share_8 (by decide) (fun c10 => ?_) (fun c10 => ?_)
  · have hF := ite_f hF c10
    refine q_iload_n C dX11_share_13 2 rfl rfl ?_
    refine q_iconst (v := (0 : Int32)) C dX11_share_14 (by decide) ?_
    refine q_bipush (v := (99 : Int32)) C dX11_share_15 (by decide) ?_
    refine q_roz (q_runS (As := [.int p2, .int (0 : Int32), .int (99 : Int32)]) (rest := []) C (fun sz => c_X11_within l dC dI cI cZ cQ p2 (0 : Int32) (99 : Int32) (f_Strait_within p2 (0 : Int32) (99 : Int32)) rfl sz) (va_cwS 3 C.2.2.2.2.1 gX11_share_X11_within rfl rfl rfl (by decide +kernel) ⟨Nat.le_of_ble_eq_true rfl, Nat.le_of_ble_eq_true rfl⟩) [] rfl rfl rfl rfl (Nat.le_of_ble_eq_true rfl) dX11_share_17 ⟨Nat.zero_le _, Nat.zero_le _⟩) (fun hz11 => ?_)
    refine q_if_ne (tgt := 26) C dX11_share_20 (by decide) (fun c12 => ?_) (fun c12 => ?_)
    · have hF := ite_f hF c12
      refine q_aload_n C dX11_share_26 0 rfl rfl ?_
      refine q_get (C0 := RX11) (T := TX11) (N := 11) (k0 := 0) C lk1 0 rfl rfl (by decide) lk0 rfl (v := .ref o_sea) rfl dX11_share_27 ?_
      obtain ⟨r13, hc14, hF⟩ := bind_c hF
      refine q_roz (q_runV (As := []) (rest := []) C (fun sz => c_X8_hasHeads l dC dI cI cZ cQ o_sea o_sea_heads o_sea_sides o_sea_moods o_sea_moults v_sea_there v_sea_heads v_sea_month v_sea_lost r13 hc14 sz) (cwV 0 C.2.2.2.2.1 gX11_share_X8_hasHeads rfl rfl rfl (by decide +kernel) ⟨Nat.le_of_ble_eq_true rfl, Nat.le_of_ble_eq_true rfl⟩) 1 rfl rfl rfl [1, 2] rfl rfl rfl rfl (Nat.le_of_ble_eq_true rfl) dX11_share_30 ⟨Nat.zero_le _, Nat.zero_le _⟩) (fun hz13 => ?_)
      refine q_if_ne (tgt := 39) C dX11_share_33 (by decide) (fun c15 => ?_) (fun c15 => ?_)
      · have hF := ite_f hF c15
        refine q_aload_n C dX11_share_39 0 rfl rfl ?_
        refine q_get (C0 := RX11) (T := TX11) (N := 11) (k0 := 10) C lk1 0 rfl rfl (by decide) lk2 rfl (v := .ref o_got) rfl dX11_share_40 ?_
        refine q_iconst (v := (0 : Int32)) C dX11_share_43 (by decide) ?_
        obtain ⟨u16_a1, hc17, hF⟩ := bind_c hF
        refine q_rwv hA ([(o, .inr (11, [.ref o_sea, .ref o_treaty, .ref o_lookout, .ref o_pad, .ref o_images, .ref o_trial, .ref o_bringing, .ref o_guess, .ref o_game, .ref o_fraction, .ref o_got])), (o_sea, .inr (8, [.int v_sea_there, .int v_sea_month, .int v_sea_lost, .ref o_sea_heads, .ref o_sea_sides, .ref o_sea_moods, .ref o_sea_moults])), (o_sea_heads, .inl (cI, 6, .inl v_sea_heads)), (o_got, .inl (cI, 6, .inl u16_a1))]) [3] [0, 1, 2] rfl rfl rfl (by decide) [0, 1, 2, 3] rfl rfl (q_runS (As := [.ref o_got, .int (0 : Int32)]) (rest := []) C (fun sz => c_J7_fill_53178 l dC dI cI cZ cQ o_got 6 v_got (0 : Int32) u16_a1 hc17 sz) (va_cwS 2 C.2.2.2.2.1 gX11_share_J7_fill_53178 rfl rfl rfl (by decide +kernel) ⟨Nat.le_of_ble_eq_true rfl, Nat.le_of_ble_eq_true rfl⟩) [3] rfl rfl rfl rfl (Nat.le_of_ble_eq_true rfl) dX11_share_44 ⟨Nat.zero_le _, Nat.zero_le _⟩) ?_
        refine q_iconst (v := (0 : Int32)) C dX11_share_47 (by decide) ?_
        refine q_istore_n C ([(3, .int (0 : Int32)), (0, .ref o), (1, .int p1), (2, .int p2)]) dX11_share_48 rfl (by decide) rfl ?_
        obtain ⟨z18_got, hc19, hF⟩ := bind_c hF
        obtain ⟨n20, hc19⟩ := (ev_iff _ _ _).mp hc19
        refine q_lsel [1, 2, 3, 0] rfl ?_
        refine L1 n20 p1 p2 (0 : Int32) u16_a1 z18_got hc19 ?_
        refine q_aload_n C dX11_share_94 0 rfl rfl ?_
        refine q_get (C0 := RX11) (T := TX11) (N := 11) (k0 := 10) C lk1 0 rfl rfl (by decide) lk2 rfl (v := .ref o_got) rfl dX11_share_95 ?_
        refine q_iload_n C dX11_share_98 1 rfl rfl ?_
        obtain ⟨hc21, hF⟩ := ite_c hF
        refine q_iald C 3 0 rfl rfl (ix_in hc21) dX11_share_99 ?_
        cases hF
        exact q_wreti C hr dX11_share_100 hQ
      · have hF := ite_t hF c15
        refine q_bipush (v := (-6 : Int32)) C dX11_share_36 (by decide) ?_
        cases hF
        exact q_wreti C hr dX11_share_38 hQ
    · have hF := ite_t hF c12
      refine q_bipush (v := (-2 : Int32)) C dX11_share_23 (by decide) ?_
      cases hF
      exact q_wreti C hr dX11_share_25 hQ
  · have hF := ite_t hF c10
    refine q_iconst (v := (-1 : Int32)) C dX11_share_11 (by decide) ?_
    cases hF
    exact q_wreti C hr dX11_share_12 hQ
set_option maxRecDepth 100000 in
set_option maxHeartbeats 4000000 in
theorem c_X11_waitIsAsTold (l : Launch) (dC : Nat → ClassId) (dI : Nat → Nat → Nat) (cI cZ cQ : ClassId) (p1 : Int32) (p2 : Int32) (R : Int32) (hF : f_Strait_waitIsAsTold p1 p2 = R) (sz : Nat) : Met l yX11_waitIsAsTold wsX11_waitIsAsTold ({ frames := 1, cells := 0, slots := 0, locals := 22 } : Room) (qPc ([.int p1, .int p2]) (dC, dI) (qT cI cZ cQ) ([]) sz) (qRz R) 0 0 (fun _ => False) := by
  refine q_met_r (cc := cX11_waitIsAsTold) (own := RX11) (maxL := 2) (ret := (some .boolean)) (lv0 := [(0, .int p1), (1, .int p2)]) (by decide) rfl rfl rfl (Nat.le_of_ble_eq_true rfl) ?_
  intro p e s m args below meth c C hr A A' Q hA0 hQ
  unfold f_Strait_waitIsAsTold at hF
  refine q_iload_n C dX11_waitIsAsTold_0 0 rfl rfl ?_
  refine q_iconst (v := (1 : Int32)) C dX11_waitIsAsTold_1 (by decide) ?_
  refine q_bipush (v := (12 : Int32)) C dX11_waitIsAsTold_2 (by decide) ?_
  refine q_roz (q_runS (As := [.int p1, .int (1 : Int32), .int (12 : Int32)]) (rest := []) C (fun sz => c_X11_within l dC dI cI cZ cQ p1 (1 : Int32) (12 : Int32) (f_Strait_within p1 (1 : Int32) (12 : Int32)) rfl sz) (va_cwS 3 C.2.2.2.2.1 gX11_waitIsAsTold_X11_within rfl rfl rfl (by decide +kernel) ⟨Nat.le_of_ble_eq_true rfl, Nat.le_of_ble_eq_true rfl⟩) [] rfl rfl rfl rfl (Nat.le_of_ble_eq_true rfl) dX11_waitIsAsTold_4 ⟨Nat.zero_le _, Nat.zero_le _⟩) (fun hz1 => ?_)
  refine q_if_eq (tgt := 24) C dX11_waitIsAsTold_7 (by decide) (fun c2 => ?_) (fun c2 => ?_)
  · have hF := ite_t hF c2
    refine q_iconst (v := (0 : Int32)) C dX11_waitIsAsTold_24 (by decide) ?_
    subst hF
    exact q_iretz C hA0 hr (Or.inl rfl) dX11_waitIsAsTold_25 hQ
  · have hF := ite_f hF c2
    refine q_iload_n C dX11_waitIsAsTold_10 1 rfl rfl ?_
    refine q_iconst (v := (1 : Int32)) C dX11_waitIsAsTold_11 (by decide) ?_
    refine q_bipush (v := (9 : Int32)) C dX11_waitIsAsTold_12 (by decide) ?_
    refine q_roz (q_runS (As := [.int p2, .int (1 : Int32), .int (9 : Int32)]) (rest := []) C (fun sz => c_X11_within l dC dI cI cZ cQ p2 (1 : Int32) (9 : Int32) (f_Strait_within p2 (1 : Int32) (9 : Int32)) rfl sz) (va_cwS 3 C.2.2.2.2.1 gX11_waitIsAsTold_X11_within rfl rfl rfl (by decide +kernel) ⟨Nat.le_of_ble_eq_true rfl, Nat.le_of_ble_eq_true rfl⟩) [] rfl rfl rfl rfl (Nat.le_of_ble_eq_true rfl) dX11_waitIsAsTold_14 ⟨Nat.zero_le _, Nat.zero_le _⟩) (fun hz3 => ?_)
    refine q_if_eq (tgt := 24) C dX11_waitIsAsTold_17 (by decide) (fun c4 => ?_) (fun c4 => ?_)
    · have hF := ite_t hF c4
      refine q_iconst (v := (0 : Int32)) C dX11_waitIsAsTold_24 (by decide) ?_
      subst hF
      exact q_iretz C hA0 hr (Or.inl rfl) dX11_waitIsAsTold_25 hQ
    · have hF := ite_f hF c4
      refine q_iconst (v := (1 : Int32)) C dX11_waitIsAsTold_20 (by decide) ?_
      refine q_goto (tgt := 25) C dX11_waitIsAsTold_21 (by decide) ?_
      subst hF
      exact q_iretz C hA0 hr (Or.inr rfl) dX11_waitIsAsTold_25 hQ
set_option maxRecDepth 100000 in
set_option maxHeartbeats 4000000 in
theorem c_X11_waiting (l : Launch) (dC : Nat → ClassId) (dI : Nat → Nat → Nat) (cI cZ cQ : ClassId) (o o_fraction o_sea o_treaty o_lookout o_pad o_images o_trial o_bringing o_guess o_game o_got : Nat) (v_fraction_upper : Int64) (v_fraction_lower : Int64) (p1 : Int32) (p2 : Int32) (p3 : Int32) (R : Int64) (w_fraction_upper : Int64) (w_fraction_lower : Int64) (hF : f_Strait_waiting v_fraction_upper v_fraction_lower p1 p2 p3 = some (R, w_fraction_upper, w_fraction_lower)) (sz : Nat) : Met l yX11_waiting wsX11_waiting ({ frames := 3, cells := 0, slots := 0, locals := 78 } : Room) (qPc ([.ref o, .int p1, .int p2, .int p3]) (dC, dI) (qT cI cZ cQ) ([(o, .inr (11, [.ref o_sea, .ref o_treaty, .ref o_lookout, .ref o_pad, .ref o_images, .ref o_trial, .ref o_bringing, .ref o_guess, .ref o_game, .ref o_fraction, .ref o_got])), (o_fraction, .inr (2, [.long v_fraction_upper, .long v_fraction_lower]))]) sz) (qWl R (dC, dI) ([(o, .inr (11, [.ref o_sea, .ref o_treaty, .ref o_lookout, .ref o_pad, .ref o_images, .ref o_trial, .ref o_bringing, .ref o_guess, .ref o_game, .ref o_fraction, .ref o_got])), (o_fraction, .inr (2, [.long w_fraction_upper, .long w_fraction_lower]))]) (va_A ([(o, .inr (11, [.ref o_sea, .ref o_treaty, .ref o_lookout, .ref o_pad, .ref o_images, .ref o_trial, .ref o_bringing, .ref o_guess, .ref o_game, .ref o_fraction, .ref o_got])), (o_fraction, .inr (2, [.long v_fraction_upper, .long v_fraction_lower]))]) sz)) 0 0 (va_A ([(o, .inr (11, [.ref o_sea, .ref o_treaty, .ref o_lookout, .ref o_pad, .ref o_images, .ref o_trial, .ref o_bringing, .ref o_guess, .ref o_game, .ref o_fraction, .ref o_got])), (o_fraction, .inr (2, [.long v_fraction_upper, .long v_fraction_lower]))]) sz) := by
  refine q_met_w (Qc := fun A => qWl R (dC, dI) ([(o, .inr (11, [.ref o_sea, .ref o_treaty, .ref o_lookout, .ref o_pad, .ref o_images, .ref o_trial, .ref o_bringing, .ref o_guess, .ref o_game, .ref o_fraction, .ref o_got])), (o_fraction, .inr (2, [.long w_fraction_upper, .long w_fraction_lower]))]) A) (cc := cX11_waiting) (own := RX11) (maxL := 4) (ret := (some .long)) (lv0 := [(0, .ref o), (1, .int p1), (2, .int p2), (3, .int p3)]) (by decide) rfl rfl rfl (Nat.le_of_ble_eq_true rfl) ?_
  intro p e s m args below meth c A hA C hr hnm Q hQ
  have lk0 : Cond.constantLong RX11 206 (-1000000000000000002 : Int64) ∈ wsX11_waiting := by decide +kernel
  have lk1 : Cond.fieldLink RX11 74 "SealStrait" "fraction" "LSealStrait$Fraction;" ∈ wsX11_waiting := by decide +kernel
  have lk2 : ∀ w ∈ u_ws RX11 TX11 11, w ∈ wsX11_waiting := fun w h => List.mem_cons_of_mem _ (List.mem_append_left _ (List.mem_append_right _ h))
  unfold f_Strait_waiting at hF
  refine q_iload_n C dX11_waiting_0 1 rfl rfl ?_
  refine q_iload_n C dX11_waiting_1 2 rfl rfl ?_
  refine q_roz (q_runS (As := [.int p1, .int p2]) (rest := []) C (fun sz => c_X11_waitIsAsTold l dC dI cI cZ cQ p1 p2 (f_Strait_waitIsAsTold p1 p2) rfl sz) (va_cwS 2 C.2.2.2.2.1 gX11_waiting_X11_waitIsAsTold rfl rfl rfl (by decide +kernel) ⟨Nat.le_of_ble_eq_true rfl, Nat.le_of_ble_eq_true rfl⟩) [] rfl rfl rfl rfl (Nat.le_of_ble_eq_true rfl) dX11_waiting_2 ⟨Nat.zero_le _, Nat.zero_le _⟩) (fun hz1 => ?_)
  refine q_if_eq (tgt := 17) C dX11_waiting_5 (by decide) (fun c2 => ?_) (fun c2 => ?_)
  · have hF := ite_t hF c2
    refine q_ldc2 (v := (-1000000000000000002 : Int64)) C lk0 dX11_waiting_17 ?_
    cases hF
    exact q_wretl C hr dX11_waiting_20 hQ
  · have hF := ite_f hF c2
    refine q_iload_n C dX11_waiting_8 3 rfl rfl ?_
    refine q_iconst (v := (0 : Int32)) C dX11_waiting_9 (by decide) ?_
    refine q_iconst (v := (1 : Int32)) C dX11_waiting_10 (by decide) ?_
    refine q_roz (q_runS (As := [.int p3, .int (0 : Int32), .int (1 : Int32)]) (rest := []) C (fun sz => c_X11_within l dC dI cI cZ cQ p3 (0 : Int32) (1 : Int32) (f_Strait_within p3 (0 : Int32) (1 : Int32)) rfl sz) (va_cwS 3 C.2.2.2.2.1 gX11_waiting_X11_within rfl rfl rfl (by decide +kernel) ⟨Nat.le_of_ble_eq_true rfl, Nat.le_of_ble_eq_true rfl⟩) [] rfl rfl rfl rfl (Nat.le_of_ble_eq_true rfl) dX11_waiting_11 ⟨Nat.zero_le _, Nat.zero_le _⟩) (fun hz3 => ?_)
    refine q_if_ne (tgt := 21) C dX11_waiting_14 (by decide) (fun c4 => ?_) (fun c4 => ?_)
    · have hF := ite_f hF c4
      refine q_aload_n C dX11_waiting_21 0 rfl rfl ?_
      refine q_get (C0 := RX11) (T := TX11) (N := 11) (k0 := 9) C lk2 0 rfl rfl (by decide) lk1 rfl (v := .ref o_fraction) rfl dX11_waiting_22 ?_
      refine q_iload_n C dX11_waiting_25 1 rfl rfl ?_
      refine q_iload_n C dX11_waiting_26 2 rfl rfl ?_
      obtain ⟨⟨u5_upper, u5_lower⟩, hc6, hF⟩ := bind_c hF
      dsimp only at hF
      refine q_rwv hA ([(o, .inr (11, [.ref o_sea, .ref o_treaty, .ref o_lookout, .ref o_pad, .ref o_images, .ref o_trial, .ref o_bringing, .ref o_guess, .ref o_game, .ref o_fraction, .ref o_got])), (o_fraction, .inr (2, [.long u5_upper, .long u5_lower]))]) [1] [0] rfl rfl rfl (by decide) [0, 1] rfl rfl (q_runV (As := [.int p1, .int p2]) (rest := []) C (fun sz => c_X2_setWaiting l dC dI cI cZ cQ o_fraction v_fraction_upper v_fraction_lower p1 p2 u5_upper u5_lower hc6 sz) (cwV 2 C.2.2.2.2.1 gX11_waiting_X2_setWaiting rfl rfl rfl (by decide +kernel) ⟨Nat.le_of_ble_eq_true rfl, Nat.le_of_ble_eq_true rfl⟩) 1 rfl rfl rfl [1] rfl rfl rfl rfl (Nat.le_of_ble_eq_true rfl) dX11_waiting_27 ⟨Nat.zero_le _, Nat.zero_le _⟩) ?_
      refine q_aload_n C dX11_waiting_30 0 rfl rfl ?_
      refine q_get (C0 := RX11) (T := TX11) (N := 11) (k0 := 9) C lk2 0 rfl rfl (by decide) lk1 rfl (v := .ref o_fraction) rfl dX11_waiting_31 ?_
      refine q_iload_n C dX11_waiting_34 3 rfl rfl ?_
      refine q_rol (q_runV (As := [.int p3]) (rest := []) C (fun sz => c_X2_part l dC dI cI cZ cQ o_fraction u5_upper u5_lower p3 (f_Fraction_part u5_upper u5_lower p3) rfl sz) (cwV 1 C.2.2.2.2.1 gX11_waiting_X2_part rfl rfl rfl (by decide +kernel) ⟨Nat.le_of_ble_eq_true rfl, Nat.le_of_ble_eq_true rfl⟩) 1 rfl rfl rfl [1] rfl rfl rfl rfl (Nat.le_of_ble_eq_true rfl) dX11_waiting_35 ⟨Nat.zero_le _, Nat.zero_le _⟩) ?_
      cases hF
      exact q_wretl C hr dX11_waiting_38 hQ
    · have hF := ite_t hF c4
      refine q_ldc2 (v := (-1000000000000000002 : Int64)) C lk0 dX11_waiting_17 ?_
      cases hF
      exact q_wretl C hr dX11_waiting_20 hQ
set_option maxRecDepth 100000 in
set_option maxHeartbeats 4000000 in
theorem c_X11_reads (l : Launch) (dC : Nat → ClassId) (dI : Nat → Nat → Nat) (cI cZ cQ : ClassId) (o o_fraction o_sea o_treaty o_lookout o_pad o_images o_trial o_bringing o_guess o_game o_got : Nat) (v_fraction_upper : Int64) (v_fraction_lower : Int64) (p1 : Int32) (p2 : Int32) (R : Int32) (w_fraction_upper : Int64) (w_fraction_lower : Int64) (hF : f_Strait_reads v_fraction_upper v_fraction_lower p1 p2 = some (R, w_fraction_upper, w_fraction_lower)) (sz : Nat) : Met l yX11_reads wsX11_reads ({ frames := 3, cells := 0, slots := 0, locals := 78 } : Room) (qPc ([.ref o, .int p1, .int p2]) (dC, dI) (qT cI cZ cQ) ([(o, .inr (11, [.ref o_sea, .ref o_treaty, .ref o_lookout, .ref o_pad, .ref o_images, .ref o_trial, .ref o_bringing, .ref o_guess, .ref o_game, .ref o_fraction, .ref o_got])), (o_fraction, .inr (2, [.long v_fraction_upper, .long v_fraction_lower]))]) sz) (qWi R (dC, dI) ([(o, .inr (11, [.ref o_sea, .ref o_treaty, .ref o_lookout, .ref o_pad, .ref o_images, .ref o_trial, .ref o_bringing, .ref o_guess, .ref o_game, .ref o_fraction, .ref o_got])), (o_fraction, .inr (2, [.long w_fraction_upper, .long w_fraction_lower]))]) (va_A ([(o, .inr (11, [.ref o_sea, .ref o_treaty, .ref o_lookout, .ref o_pad, .ref o_images, .ref o_trial, .ref o_bringing, .ref o_guess, .ref o_game, .ref o_fraction, .ref o_got])), (o_fraction, .inr (2, [.long v_fraction_upper, .long v_fraction_lower]))]) sz)) 0 0 (va_A ([(o, .inr (11, [.ref o_sea, .ref o_treaty, .ref o_lookout, .ref o_pad, .ref o_images, .ref o_trial, .ref o_bringing, .ref o_guess, .ref o_game, .ref o_fraction, .ref o_got])), (o_fraction, .inr (2, [.long v_fraction_upper, .long v_fraction_lower]))]) sz) := by
  refine q_met_w (Qc := fun A => qWi R (dC, dI) ([(o, .inr (11, [.ref o_sea, .ref o_treaty, .ref o_lookout, .ref o_pad, .ref o_images, .ref o_trial, .ref o_bringing, .ref o_guess, .ref o_game, .ref o_fraction, .ref o_got])), (o_fraction, .inr (2, [.long w_fraction_upper, .long w_fraction_lower]))]) A) (cc := cX11_reads) (own := RX11) (maxL := 3) (ret := (some .int)) (lv0 := [(0, .ref o), (1, .int p1), (2, .int p2)]) (by decide) rfl rfl rfl (Nat.le_of_ble_eq_true rfl) ?_
  intro p e s m args below meth c A hA C hr hnm Q hQ
  have lk0 : Cond.fieldLink RX11 74 "SealStrait" "fraction" "LSealStrait$Fraction;" ∈ wsX11_reads := by decide +kernel
  have lk1 : ∀ w ∈ u_ws RX11 TX11 11, w ∈ wsX11_reads := fun w h => List.mem_cons_of_mem _ (List.mem_append_left _ (List.mem_append_right _ h))
  unfold f_Strait_reads at hF
  refine q_iload_n C dX11_reads_0 1 rfl rfl ?_
  refine q_iload_n C dX11_reads_1 2 rfl rfl ?_
  refine q_roz (q_runS (As := [.int p1, .int p2]) (rest := []) C (fun sz => c_X11_waitIsAsTold l dC dI cI cZ cQ p1 p2 (f_Strait_waitIsAsTold p1 p2) rfl sz) (va_cwS 2 C.2.2.2.2.1 gX11_reads_X11_waitIsAsTold rfl rfl rfl (by decide +kernel) ⟨Nat.le_of_ble_eq_true rfl, Nat.le_of_ble_eq_true rfl⟩) [] rfl rfl rfl rfl (Nat.le_of_ble_eq_true rfl) dX11_reads_2 ⟨Nat.zero_le _, Nat.zero_le _⟩) (fun hz1 => ?_)
  refine q_if_ne (tgt := 11) C dX11_reads_5 (by decide) (fun c2 => ?_) (fun c2 => ?_)
  · have hF := ite_f hF c2
    refine q_aload_n C dX11_reads_11 0 rfl rfl ?_
    refine q_get (C0 := RX11) (T := TX11) (N := 11) (k0 := 9) C lk1 0 rfl rfl (by decide) lk0 rfl (v := .ref o_fraction) rfl dX11_reads_12 ?_
    refine q_iload_n C dX11_reads_15 1 rfl rfl ?_
    refine q_iconst (v := (1 : Int32)) C dX11_reads_16 (by decide) ?_
    refine q_isub C dX11_reads_17 ?_
    refine q_iload_n C dX11_reads_18 2 rfl rfl ?_
    obtain ⟨⟨u3_upper, u3_lower⟩, hc4, hF⟩ := bind_c hF
    dsimp only at hF
    refine q_rwv hA ([(o, .inr (11, [.ref o_sea, .ref o_treaty, .ref o_lookout, .ref o_pad, .ref o_images, .ref o_trial, .ref o_bringing, .ref o_guess, .ref o_game, .ref o_fraction, .ref o_got])), (o_fraction, .inr (2, [.long u3_upper, .long u3_lower]))]) [1] [0] rfl rfl rfl (by decide) [0, 1] rfl rfl (q_runV (As := [.int (p1 - (1 : Int32)), .int p2]) (rest := []) C (fun sz => c_X2_setWaiting l dC dI cI cZ cQ o_fraction v_fraction_upper v_fraction_lower (p1 - (1 : Int32)) p2 u3_upper u3_lower hc4 sz) (cwV 2 C.2.2.2.2.1 gX11_reads_X2_setWaiting rfl rfl rfl (by decide +kernel) ⟨Nat.le_of_ble_eq_true rfl, Nat.le_of_ble_eq_true rfl⟩) 1 rfl rfl rfl [1] rfl rfl rfl rfl (Nat.le_of_ble_eq_true rfl) dX11_reads_19 ⟨Nat.zero_le _, Nat.zero_le _⟩) ?_
    refine q_aload_n C dX11_reads_22 0 rfl rfl ?_
    refine q_get (C0 := RX11) (T := TX11) (N := 11) (k0 := 9) C lk1 0 rfl rfl (by decide) lk0 rfl (v := .ref o_fraction) rfl dX11_reads_23 ?_
    refine q_iload_n C dX11_reads_26 2 rfl rfl ?_
    obtain ⟨r5, hc6, hF⟩ := bind_c hF
    refine q_roi (q_runV (As := [.int p2]) (rest := []) C (fun sz => c_X2_leastWholeNotBelow l dC dI cI cZ cQ o_fraction u3_upper u3_lower p2 r5 hc6 sz) (cwV 1 C.2.2.2.2.1 gX11_reads_X2_leastWholeNotBelow rfl rfl rfl (by decide +kernel) ⟨Nat.le_of_ble_eq_true rfl, Nat.le_of_ble_eq_true rfl⟩) 1 rfl rfl rfl [1] rfl rfl rfl rfl (Nat.le_of_ble_eq_true rfl) dX11_reads_27 ⟨Nat.zero_le _, Nat.zero_le _⟩) ?_
    cases hF
    exact q_wreti C hr dX11_reads_30 hQ
  · have hF := ite_t hF c2
    refine q_bipush (v := (-2 : Int32)) C dX11_reads_8 (by decide) ?_
    cases hF
    exact q_wreti C hr dX11_reads_10 hQ
set_option maxRecDepth 100000 in
set_option maxHeartbeats 4000000 in
theorem c_X11_counted (l : Launch) (dC : Nat → ClassId) (dI : Nat → Nat → Nat) (cI cZ cQ : ClassId) (o o_lookout o_lookout_countRocks o_lookout_countWantings o_sea o_treaty o_pad o_images o_trial o_bringing o_guess o_game o_fraction o_got o_lookout_seen : Nat) (v_lookout_counts : Int32) (v_lookout_countRocks : Nat → Int32) (v_lookout_countWantings : Nat → Int32) (p1 : Int32) (p2 : Int32) (R : Int32) (w_lookout_counts : Int32) (w_lookout_countRocks : Nat → Int32) (w_lookout_countWantings : Nat → Int32) (hF : f_Strait_counted v_lookout_counts v_lookout_countRocks v_lookout_countWantings p1 p2 = some (R, w_lookout_counts, w_lookout_countRocks, w_lookout_countWantings)) (sz : Nat) : Met l yX11_counted wsX11_counted ({ frames := 1, cells := 0, slots := 0, locals := 22 } : Room) (qPc ([.ref o, .int p1, .int p2]) (dC, dI) (qT cI cZ cQ) ([(o, .inr (11, [.ref o_sea, .ref o_treaty, .ref o_lookout, .ref o_pad, .ref o_images, .ref o_trial, .ref o_bringing, .ref o_guess, .ref o_game, .ref o_fraction, .ref o_got])), (o_lookout, .inr (6, [.ref o_lookout_seen, .int v_lookout_counts, .ref o_lookout_countRocks, .ref o_lookout_countWantings])), (o_lookout_countRocks, .inl (cI, 8, .inl v_lookout_countRocks)), (o_lookout_countWantings, .inl (cI, 8, .inl v_lookout_countWantings))]) sz) (qWi R (dC, dI) ([(o, .inr (11, [.ref o_sea, .ref o_treaty, .ref o_lookout, .ref o_pad, .ref o_images, .ref o_trial, .ref o_bringing, .ref o_guess, .ref o_game, .ref o_fraction, .ref o_got])), (o_lookout, .inr (6, [.ref o_lookout_seen, .int w_lookout_counts, .ref o_lookout_countRocks, .ref o_lookout_countWantings])), (o_lookout_countRocks, .inl (cI, 8, .inl w_lookout_countRocks)), (o_lookout_countWantings, .inl (cI, 8, .inl w_lookout_countWantings))]) (va_A ([(o, .inr (11, [.ref o_sea, .ref o_treaty, .ref o_lookout, .ref o_pad, .ref o_images, .ref o_trial, .ref o_bringing, .ref o_guess, .ref o_game, .ref o_fraction, .ref o_got])), (o_lookout, .inr (6, [.ref o_lookout_seen, .int v_lookout_counts, .ref o_lookout_countRocks, .ref o_lookout_countWantings])), (o_lookout_countRocks, .inl (cI, 8, .inl v_lookout_countRocks)), (o_lookout_countWantings, .inl (cI, 8, .inl v_lookout_countWantings))]) sz)) 0 0 (va_A ([(o, .inr (11, [.ref o_sea, .ref o_treaty, .ref o_lookout, .ref o_pad, .ref o_images, .ref o_trial, .ref o_bringing, .ref o_guess, .ref o_game, .ref o_fraction, .ref o_got])), (o_lookout, .inr (6, [.ref o_lookout_seen, .int v_lookout_counts, .ref o_lookout_countRocks, .ref o_lookout_countWantings])), (o_lookout_countRocks, .inl (cI, 8, .inl v_lookout_countRocks)), (o_lookout_countWantings, .inl (cI, 8, .inl v_lookout_countWantings))]) sz) := by
  refine q_met_w (Qc := fun A => qWi R (dC, dI) ([(o, .inr (11, [.ref o_sea, .ref o_treaty, .ref o_lookout, .ref o_pad, .ref o_images, .ref o_trial, .ref o_bringing, .ref o_guess, .ref o_game, .ref o_fraction, .ref o_got])), (o_lookout, .inr (6, [.ref o_lookout_seen, .int w_lookout_counts, .ref o_lookout_countRocks, .ref o_lookout_countWantings])), (o_lookout_countRocks, .inl (cI, 8, .inl w_lookout_countRocks)), (o_lookout_countWantings, .inl (cI, 8, .inl w_lookout_countWantings))]) A) (cc := cX11_counted) (own := RX11) (maxL := 3) (ret := (some .int)) (lv0 := [(0, .ref o), (1, .int p1), (2, .int p2)]) (by decide) rfl rfl rfl (Nat.le_of_ble_eq_true rfl) ?_
  intro p e s m args below meth c A hA C hr hnm Q hQ
  have lk0 : Cond.fieldLink RX11 26 "SealStrait" "lookout" "LSealStrait$Lookout;" ∈ wsX11_counted := by decide +kernel
  have lk1 : ∀ w ∈ u_ws RX11 TX11 11, w ∈ wsX11_counted := fun w h => List.mem_cons_of_mem _ (List.mem_append_left _ (List.mem_append_right _ h))
  have lk2 : Cond.fieldLink RX11 222 "SealStrait$Lookout" "counts" "I" ∈ wsX11_counted := by decide +kernel
  have lk3 : ∀ w ∈ u_ws RX6 TX6 4, w ∈ wsX11_counted := fun w h => List.mem_cons_of_mem _ (List.mem_append_right _ h)
  unfold f_Strait_counted at hF
  refine q_iload_n C dX11_counted_0 1 rfl rfl ?_
  refine q_iconst (v := (0 : Int32)) C dX11_counted_1 (by decide) ?_
  refine q_iconst (v := (5 : Int32)) C dX11_counted_2 (by decide) ?_
  refine q_roz (q_runS (As := [.int p1, .int (0 : Int32), .int (5 : Int32)]) (rest := []) C (fun sz => c_X11_within l dC dI cI cZ cQ p1 (0 : Int32) (5 : Int32) (f_Strait_within p1 (0 : Int32) (5 : Int32)) rfl sz) (va_cwS 3 C.2.2.2.2.1 gX11_counted_X11_within rfl rfl rfl (by decide +kernel) ⟨Nat.le_of_ble_eq_true rfl, Nat.le_of_ble_eq_true rfl⟩) [] rfl rfl rfl rfl (Nat.le_of_ble_eq_true rfl) dX11_counted_3 ⟨Nat.zero_le _, Nat.zero_le _⟩) (fun hz1 => ?_)
  refine q_if_ne (tgt := 11) C dX11_counted_6 (by decide) (fun c2 => ?_) (fun c2 => ?_)
  · have hF := ite_f hF c2
    refine q_iload_n C dX11_counted_11 2 rfl rfl ?_
    refine q_iconst (v := (0 : Int32)) C dX11_counted_12 (by decide) ?_
    refine q_sipush (v := (999 : Int32)) C dX11_counted_13 (by decide) ?_
    refine q_roz (q_runS (As := [.int p2, .int (0 : Int32), .int (999 : Int32)]) (rest := []) C (fun sz => c_X11_within l dC dI cI cZ cQ p2 (0 : Int32) (999 : Int32) (f_Strait_within p2 (0 : Int32) (999 : Int32)) rfl sz) (va_cwS 3 C.2.2.2.2.1 gX11_counted_X11_within rfl rfl rfl (by decide +kernel) ⟨Nat.le_of_ble_eq_true rfl, Nat.le_of_ble_eq_true rfl⟩) [] rfl rfl rfl rfl (Nat.le_of_ble_eq_true rfl) dX11_counted_16 ⟨Nat.zero_le _, Nat.zero_le _⟩) (fun hz3 => ?_)
    refine q_if_ne (tgt := 25) C dX11_counted_19 (by decide) (fun c4 => ?_) (fun c4 => ?_)
    · have hF := ite_f hF c4
      refine q_aload_n C dX11_counted_25 0 rfl rfl ?_
      refine q_get (C0 := RX11) (T := TX11) (N := 11) (k0 := 2) C lk1 0 rfl rfl (by decide) lk0 rfl (v := .ref o_lookout) rfl dX11_counted_26 ?_
      refine q_iload_n C dX11_counted_29 1 rfl rfl ?_
      refine q_iload_n C dX11_counted_30 2 rfl rfl ?_
      obtain ⟨⟨r5, u5_counts, u5_countRocks, u5_countWantings⟩, hc6, hF⟩ := bind_c hF
      dsimp only at hF
      refine q_rwz hA ([(o, .inr (11, [.ref o_sea, .ref o_treaty, .ref o_lookout, .ref o_pad, .ref o_images, .ref o_trial, .ref o_bringing, .ref o_guess, .ref o_game, .ref o_fraction, .ref o_got])), (o_lookout, .inr (6, [.ref o_lookout_seen, .int u5_counts, .ref o_lookout_countRocks, .ref o_lookout_countWantings])), (o_lookout_countRocks, .inl (cI, 8, .inl u5_countRocks)), (o_lookout_countWantings, .inl (cI, 8, .inl u5_countWantings))]) [1, 2, 3] [0] rfl rfl rfl (by decide) [0, 1, 2, 3] rfl rfl (q_runV (As := [.int p1, .int p2]) (rest := []) C (fun sz => c_X6_addCount l dC dI cI cZ cQ o_lookout o_lookout_countRocks o_lookout_countWantings o_lookout_seen v_lookout_counts v_lookout_countRocks v_lookout_countWantings p1 p2 r5 u5_counts u5_countRocks u5_countWantings hc6 sz) (cwV 2 C.2.2.2.2.1 gX11_counted_X6_addCount rfl rfl rfl (by decide +kernel) ⟨Nat.le_of_ble_eq_true rfl, Nat.le_of_ble_eq_true rfl⟩) 1 rfl rfl rfl [1, 2, 3] rfl rfl rfl rfl (Nat.le_of_ble_eq_true rfl) dX11_counted_31 ⟨Nat.zero_le _, Nat.zero_le _⟩) (fun hz5 => ?_)
      refine q_if_ne (tgt := 40) C dX11_counted_34 (by decide) (fun c7 => ?_) (fun c7 => ?_)
      · have hF := ite_f hF c7
        refine q_aload_n C dX11_counted_40 0 rfl rfl ?_
        refine q_get (C0 := RX11) (T := TX11) (N := 11) (k0 := 2) C lk1 0 rfl rfl (by decide) lk0 rfl (v := .ref o_lookout) rfl dX11_counted_41 ?_
        refine q_get (C0 := RX6) (T := TX6) (N := 4) (k0 := 1) C lk3 1 rfl rfl (by decide) lk2 rfl (v := .int u5_counts) rfl dX11_counted_44 ?_
        cases hF
        exact q_wreti C hr dX11_counted_47 hQ
      · have hF := ite_t hF c7
        refine q_bipush (v := (-4 : Int32)) C dX11_counted_37 (by decide) ?_
        cases hF
        exact q_wreti C hr dX11_counted_39 hQ
    · have hF := ite_t hF c4
      refine q_bipush (v := (-2 : Int32)) C dX11_counted_22 (by decide) ?_
      cases hF
      exact q_wreti C hr dX11_counted_24 hQ
  · have hF := ite_t hF c2
    refine q_iconst (v := (-1 : Int32)) C dX11_counted_9 (by decide) ?_
    cases hF
    exact q_wreti C hr dX11_counted_10 hQ
set_option maxRecDepth 100000 in
set_option maxHeartbeats 4000000 in
theorem c_X11_forget (l : Launch) (dC : Nat → ClassId) (dI : Nat → Nat → Nat) (cI cZ cQ : ClassId) (o o_lookout o_sea o_treaty o_pad o_images o_trial o_bringing o_guess o_game o_fraction o_got o_lookout_seen o_lookout_countRocks o_lookout_countWantings : Nat) (v_lookout_counts : Int32) (R : Int32) (w_lookout_counts : Int32) (hF : f_Strait_forget v_lookout_counts = some (R, w_lookout_counts)) (sz : Nat) : Met l yX11_forget wsX11_forget ({ frames := 0, cells := 0, slots := 0, locals := 0 } : Room) (qPc ([.ref o]) (dC, dI) (qT cI cZ cQ) ([(o, .inr (11, [.ref o_sea, .ref o_treaty, .ref o_lookout, .ref o_pad, .ref o_images, .ref o_trial, .ref o_bringing, .ref o_guess, .ref o_game, .ref o_fraction, .ref o_got])), (o_lookout, .inr (6, [.ref o_lookout_seen, .int v_lookout_counts, .ref o_lookout_countRocks, .ref o_lookout_countWantings]))]) sz) (qWi R (dC, dI) ([(o, .inr (11, [.ref o_sea, .ref o_treaty, .ref o_lookout, .ref o_pad, .ref o_images, .ref o_trial, .ref o_bringing, .ref o_guess, .ref o_game, .ref o_fraction, .ref o_got])), (o_lookout, .inr (6, [.ref o_lookout_seen, .int w_lookout_counts, .ref o_lookout_countRocks, .ref o_lookout_countWantings]))]) (va_A ([(o, .inr (11, [.ref o_sea, .ref o_treaty, .ref o_lookout, .ref o_pad, .ref o_images, .ref o_trial, .ref o_bringing, .ref o_guess, .ref o_game, .ref o_fraction, .ref o_got])), (o_lookout, .inr (6, [.ref o_lookout_seen, .int v_lookout_counts, .ref o_lookout_countRocks, .ref o_lookout_countWantings]))]) sz)) 0 0 (va_A ([(o, .inr (11, [.ref o_sea, .ref o_treaty, .ref o_lookout, .ref o_pad, .ref o_images, .ref o_trial, .ref o_bringing, .ref o_guess, .ref o_game, .ref o_fraction, .ref o_got])), (o_lookout, .inr (6, [.ref o_lookout_seen, .int v_lookout_counts, .ref o_lookout_countRocks, .ref o_lookout_countWantings]))]) sz) := by
  refine q_met_w (Qc := fun A => qWi R (dC, dI) ([(o, .inr (11, [.ref o_sea, .ref o_treaty, .ref o_lookout, .ref o_pad, .ref o_images, .ref o_trial, .ref o_bringing, .ref o_guess, .ref o_game, .ref o_fraction, .ref o_got])), (o_lookout, .inr (6, [.ref o_lookout_seen, .int w_lookout_counts, .ref o_lookout_countRocks, .ref o_lookout_countWantings]))]) A) (cc := cX11_forget) (own := RX11) (maxL := 2) (ret := (some .int)) (lv0 := [(0, .ref o)]) (by decide) rfl rfl rfl (Nat.le_of_ble_eq_true rfl) ?_
  intro p e s m args below meth c A hA C hr hnm Q hQ
  have lk0 : Cond.fieldLink RX11 26 "SealStrait" "lookout" "LSealStrait$Lookout;" ∈ wsX11_forget := by decide +kernel
  have lk1 : ∀ w ∈ u_ws RX11 TX11 11, w ∈ wsX11_forget := fun w h => List.mem_cons_of_mem _ (List.mem_append_left _ (List.mem_append_right _ h))
  have lk2 : Cond.fieldLink RX11 222 "SealStrait$Lookout" "counts" "I" ∈ wsX11_forget := by decide +kernel
  have lk3 : ∀ w ∈ u_ws RX6 TX6 4, w ∈ wsX11_forget := fun w h => List.mem_cons_of_mem _ (List.mem_append_right _ h)
  unfold f_Strait_forget at hF
  refine q_aload_n C dX11_forget_0 0 rfl rfl ?_
  refine q_get (C0 := RX11) (T := TX11) (N := 11) (k0 := 2) C lk1 0 rfl rfl (by decide) lk0 rfl (v := .ref o_lookout) rfl dX11_forget_1 ?_
  refine q_get (C0 := RX6) (T := TX6) (N := 4) (k0 := 1) C lk3 1 rfl rfl (by decide) lk2 rfl (v := .int v_lookout_counts) rfl dX11_forget_4 ?_
  refine q_istore_n C ([(1, .int v_lookout_counts), (0, .ref o)]) dX11_forget_7 rfl (by decide) rfl ?_
  refine q_aload_n C dX11_forget_8 1 rfl rfl ?_
  refine q_get (C0 := RX11) (T := TX11) (N := 11) (k0 := 2) C lk1 0 rfl rfl (by decide) lk0 rfl (v := .ref o_lookout) rfl dX11_forget_9 ?_
  refine q_iconst (v := (0 : Int32)) C dX11_forget_12 (by decide) ?_
  refine q_put (C0 := RX6) (T := TX6) (N := 4) (k0 := 1) C lk3 1 rfl rfl (by decide) lk2 rfl tyX6 tyX6_ok nmX6 rfl (v := .int (0 : Int32)) rfl rfl (Nat.le_of_ble_eq_true rfl) ([(o, .inr (11, [.ref o_sea, .ref o_treaty, .ref o_lookout, .ref o_pad, .ref o_images, .ref o_trial, .ref o_bringing, .ref o_guess, .ref o_game, .ref o_fraction, .ref o_got])), (o_lookout, .inr (6, [.ref o_lookout_seen, .int (0 : Int32), .ref o_lookout_countRocks, .ref o_lookout_countWantings]))]) rfl dX11_forget_13 ?_
  refine q_iload_n C dX11_forget_16 0 rfl rfl ?_
  cases hF
  exact q_wreti C hr dX11_forget_17 hQ
set_option maxRecDepth 100000 in
set_option maxHeartbeats 4000000 in
theorem c_X11_went (l : Launch) (dC : Nat → ClassId) (dI : Nat → Nat → Nat) (cI cZ cQ : ClassId) (o o_sea o_sea_heads o_lookout o_lookout_seen o_lookout_countRocks o_lookout_countWantings o_guess o_guess_sets o_treaty o_pad o_images o_trial o_bringing o_game o_fraction o_got o_sea_sides o_sea_moods o_sea_moults o_guess_tally : Nat) (v_sea_there : Int32) (v_sea_heads : Nat → Int32) (v_lookout_seen : Nat → Int32) (v_lookout_counts : Int32) (v_lookout_countRocks : Nat → Int32) (v_lookout_countWantings : Nat → Int32) (v_guess_size : Int32) (v_guess_sets : Nat → Int32) (v_sea_month : Int32) (v_sea_lost : Int32) (v_guess_nextRock : Int32) (v_guess_leftAtMost : Int32) (p1 : Int32) (R : Int32) (w_guess_size : Int32) (w_guess_sets : Nat → Int32) (hF : f_Strait_went v_sea_there v_sea_heads v_lookout_seen v_lookout_counts v_lookout_countRocks v_lookout_countWantings v_guess_size v_guess_sets p1 = some (R, w_guess_size, w_guess_sets)) (sz : Nat) : Met l yX11_went wsX11_went ({ frames := 5, cells := 0, slots := 0, locals := 114 } : Room) (qPc ([.ref o, .int p1]) (dC, dI) (qT cI cZ cQ) ([(o, .inr (11, [.ref o_sea, .ref o_treaty, .ref o_lookout, .ref o_pad, .ref o_images, .ref o_trial, .ref o_bringing, .ref o_guess, .ref o_game, .ref o_fraction, .ref o_got])), (o_sea, .inr (8, [.int v_sea_there, .int v_sea_month, .int v_sea_lost, .ref o_sea_heads, .ref o_sea_sides, .ref o_sea_moods, .ref o_sea_moults])), (o_sea_heads, .inl (cI, 6, .inl v_sea_heads)), (o_lookout, .inr (6, [.ref o_lookout_seen, .int v_lookout_counts, .ref o_lookout_countRocks, .ref o_lookout_countWantings])), (o_lookout_seen, .inl (cI, 6, .inl v_lookout_seen)), (o_lookout_countRocks, .inl (cI, 8, .inl v_lookout_countRocks)), (o_lookout_countWantings, .inl (cI, 8, .inl v_lookout_countWantings)), (o_guess, .inr (4, [.int v_guess_size, .ref o_guess_sets, .int v_guess_nextRock, .int v_guess_leftAtMost, .ref o_guess_tally])), (o_guess_sets, .inl (cI, 64, .inl v_guess_sets))]) sz) (qWi R (dC, dI) ([(o, .inr (11, [.ref o_sea, .ref o_treaty, .ref o_lookout, .ref o_pad, .ref o_images, .ref o_trial, .ref o_bringing, .ref o_guess, .ref o_game, .ref o_fraction, .ref o_got])), (o_sea, .inr (8, [.int v_sea_there, .int v_sea_month, .int v_sea_lost, .ref o_sea_heads, .ref o_sea_sides, .ref o_sea_moods, .ref o_sea_moults])), (o_sea_heads, .inl (cI, 6, .inl v_sea_heads)), (o_lookout, .inr (6, [.ref o_lookout_seen, .int v_lookout_counts, .ref o_lookout_countRocks, .ref o_lookout_countWantings])), (o_lookout_seen, .inl (cI, 6, .inl v_lookout_seen)), (o_lookout_countRocks, .inl (cI, 8, .inl v_lookout_countRocks)), (o_lookout_countWantings, .inl (cI, 8, .inl v_lookout_countWantings)), (o_guess, .inr (4, [.int w_guess_size, .ref o_guess_sets, .int v_guess_nextRock, .int v_guess_leftAtMost, .ref o_guess_tally])), (o_guess_sets, .inl (cI, 64, .inl w_guess_sets))]) (va_A ([(o, .inr (11, [.ref o_sea, .ref o_treaty, .ref o_lookout, .ref o_pad, .ref o_images, .ref o_trial, .ref o_bringing, .ref o_guess, .ref o_game, .ref o_fraction, .ref o_got])), (o_sea, .inr (8, [.int v_sea_there, .int v_sea_month, .int v_sea_lost, .ref o_sea_heads, .ref o_sea_sides, .ref o_sea_moods, .ref o_sea_moults])), (o_sea_heads, .inl (cI, 6, .inl v_sea_heads)), (o_lookout, .inr (6, [.ref o_lookout_seen, .int v_lookout_counts, .ref o_lookout_countRocks, .ref o_lookout_countWantings])), (o_lookout_seen, .inl (cI, 6, .inl v_lookout_seen)), (o_lookout_countRocks, .inl (cI, 8, .inl v_lookout_countRocks)), (o_lookout_countWantings, .inl (cI, 8, .inl v_lookout_countWantings)), (o_guess, .inr (4, [.int v_guess_size, .ref o_guess_sets, .int v_guess_nextRock, .int v_guess_leftAtMost, .ref o_guess_tally])), (o_guess_sets, .inl (cI, 64, .inl v_guess_sets))]) sz)) 0 0 (va_A ([(o, .inr (11, [.ref o_sea, .ref o_treaty, .ref o_lookout, .ref o_pad, .ref o_images, .ref o_trial, .ref o_bringing, .ref o_guess, .ref o_game, .ref o_fraction, .ref o_got])), (o_sea, .inr (8, [.int v_sea_there, .int v_sea_month, .int v_sea_lost, .ref o_sea_heads, .ref o_sea_sides, .ref o_sea_moods, .ref o_sea_moults])), (o_sea_heads, .inl (cI, 6, .inl v_sea_heads)), (o_lookout, .inr (6, [.ref o_lookout_seen, .int v_lookout_counts, .ref o_lookout_countRocks, .ref o_lookout_countWantings])), (o_lookout_seen, .inl (cI, 6, .inl v_lookout_seen)), (o_lookout_countRocks, .inl (cI, 8, .inl v_lookout_countRocks)), (o_lookout_countWantings, .inl (cI, 8, .inl v_lookout_countWantings)), (o_guess, .inr (4, [.int v_guess_size, .ref o_guess_sets, .int v_guess_nextRock, .int v_guess_leftAtMost, .ref o_guess_tally])), (o_guess_sets, .inl (cI, 64, .inl v_guess_sets))]) sz) := by
  refine q_met_w (Qc := fun A => qWi R (dC, dI) ([(o, .inr (11, [.ref o_sea, .ref o_treaty, .ref o_lookout, .ref o_pad, .ref o_images, .ref o_trial, .ref o_bringing, .ref o_guess, .ref o_game, .ref o_fraction, .ref o_got])), (o_sea, .inr (8, [.int v_sea_there, .int v_sea_month, .int v_sea_lost, .ref o_sea_heads, .ref o_sea_sides, .ref o_sea_moods, .ref o_sea_moults])), (o_sea_heads, .inl (cI, 6, .inl v_sea_heads)), (o_lookout, .inr (6, [.ref o_lookout_seen, .int v_lookout_counts, .ref o_lookout_countRocks, .ref o_lookout_countWantings])), (o_lookout_seen, .inl (cI, 6, .inl v_lookout_seen)), (o_lookout_countRocks, .inl (cI, 8, .inl v_lookout_countRocks)), (o_lookout_countWantings, .inl (cI, 8, .inl v_lookout_countWantings)), (o_guess, .inr (4, [.int w_guess_size, .ref o_guess_sets, .int v_guess_nextRock, .int v_guess_leftAtMost, .ref o_guess_tally])), (o_guess_sets, .inl (cI, 64, .inl w_guess_sets))]) A) (cc := cX11_went) (own := RX11) (maxL := 2) (ret := (some .int)) (lv0 := [(0, .ref o), (1, .int p1)]) (by decide) rfl rfl rfl (Nat.le_of_ble_eq_true rfl) ?_
  intro p e s m args below meth c A hA C hr hnm Q hQ
  have lk0 : Cond.fieldLink RX11 60 "SealStrait" "guess" "LSealStrait$Guess;" ∈ wsX11_went := by decide +kernel
  have lk1 : ∀ w ∈ u_ws RX11 TX11 11, w ∈ wsX11_went := fun w h => List.mem_cons_of_mem _ (List.mem_append_left _ (List.mem_append_left _ (List.mem_append_left _ (List.mem_append_right _ h))))
  have lk2 : Cond.fieldLink RX11 26 "SealStrait" "lookout" "LSealStrait$Lookout;" ∈ wsX11_went := by decide +kernel
  have lk3 : Cond.fieldLink RX11 12 "SealStrait" "sea" "LSealStrait$Sea;" ∈ wsX11_went := by decide +kernel
  have lk4 : Cond.fieldLink RX11 229 "SealStrait$Guess" "size" "I" ∈ wsX11_went := by decide +kernel
  have lk5 : ∀ w ∈ u_ws RX4 TX4 5, w ∈ wsX11_went := fun w h => List.mem_cons_of_mem _ (List.mem_append_left _ (List.mem_append_left _ (List.mem_append_right _ h)))
  unfold f_Strait_went at hF
  refine q_iload_n C dX11_went_0 1 rfl rfl ?_
  refine q_iconst (v := (-1 : Int32)) C dX11_went_1 (by decide) ?_
  refine q_icmp_ge (tgt := 8) C dX11_went_2 (by decide) (fun c1 => ?_) (fun c1 => ?_)
  · have hF := ite_t hF c1
    refine q_aload_n C dX11_went_8 0 rfl rfl ?_
    refine q_get (C0 := RX11) (T := TX11) (N := 11) (k0 := 7) C lk1 0 rfl rfl (by decide) lk0 rfl (v := .ref o_guess) rfl dX11_went_9 ?_
    refine q_aload_n C dX11_went_12 0 rfl rfl ?_
    refine q_get (C0 := RX11) (T := TX11) (N := 11) (k0 := 2) C lk1 0 rfl rfl (by decide) lk2 rfl (v := .ref o_lookout) rfl dX11_went_13 ?_
    refine q_aload_n C dX11_went_16 0 rfl rfl ?_
    refine q_get (C0 := RX11) (T := TX11) (N := 11) (k0 := 0) C lk1 0 rfl rfl (by decide) lk3 rfl (v := .ref o_sea) rfl dX11_went_17 ?_
    obtain ⟨⟨u2_size, u2_sets⟩, hc3, hF⟩ := bind_c hF
    dsimp only at hF
    refine q_rwv hA ([(o, .inr (11, [.ref o_sea, .ref o_treaty, .ref o_lookout, .ref o_pad, .ref o_images, .ref o_trial, .ref o_bringing, .ref o_guess, .ref o_game, .ref o_fraction, .ref o_got])), (o_sea, .inr (8, [.int v_sea_there, .int v_sea_month, .int v_sea_lost, .ref o_sea_heads, .ref o_sea_sides, .ref o_sea_moods, .ref o_sea_moults])), (o_sea_heads, .inl (cI, 6, .inl v_sea_heads)), (o_lookout, .inr (6, [.ref o_lookout_seen, .int v_lookout_counts, .ref o_lookout_countRocks, .ref o_lookout_countWantings])), (o_lookout_seen, .inl (cI, 6, .inl v_lookout_seen)), (o_lookout_countRocks, .inl (cI, 8, .inl v_lookout_countRocks)), (o_lookout_countWantings, .inl (cI, 8, .inl v_lookout_countWantings)), (o_guess, .inr (4, [.int u2_size, .ref o_guess_sets, .int v_guess_nextRock, .int v_guess_leftAtMost, .ref o_guess_tally])), (o_guess_sets, .inl (cI, 64, .inl u2_sets))]) [7, 8, 3, 4, 5, 6, 1, 2] [0] rfl rfl rfl (by decide) [0, 7, 8, 3, 4, 5, 6, 1, 2] rfl rfl (q_runV (As := [.ref o_lookout, .ref o_sea]) (rest := []) C (fun sz => c_X4_findSets l dC dI cI cZ cQ o_guess o_guess_sets o_lookout o_lookout_seen o_lookout_countRocks o_lookout_countWantings o_sea o_sea_heads o_guess_tally o_sea_sides o_sea_moods o_sea_moults v_guess_size v_guess_sets v_lookout_seen v_lookout_counts v_lookout_countRocks v_lookout_countWantings v_sea_there v_sea_heads v_guess_nextRock v_guess_leftAtMost v_sea_month v_sea_lost u2_size u2_sets hc3 sz) (cwV 2 C.2.2.2.2.1 gX11_went_X4_findSets rfl rfl rfl (by decide +kernel) ⟨Nat.le_of_ble_eq_true rfl, Nat.le_of_ble_eq_true rfl⟩) 7 rfl rfl rfl [7, 8, 3, 4, 5, 6, 1, 2] rfl rfl rfl rfl (Nat.le_of_ble_eq_true rfl) dX11_went_20 ⟨Nat.zero_le _, Nat.zero_le _⟩) ?_
    refine q_iload_n C dX11_went_23 1 rfl rfl ?_
    refine q_iconst (v := (-1 : Int32)) C dX11_went_24 (by decide) ?_
    refine q_icmp_ne (tgt := 38) C dX11_went_25 (by decide) (fun c4 => ?_) (fun c4 => ?_)
    · have hF := ite_f hF c4
      refine q_aload_n C dX11_went_38 0 rfl rfl ?_
      refine q_get (C0 := RX11) (T := TX11) (N := 11) (k0 := 7) C lk1 0 rfl rfl (by decide) lk0 rfl (v := .ref o_guess) rfl dX11_went_39 ?_
      refine q_iload_n C dX11_went_42 1 rfl rfl ?_
      obtain ⟨r5, hc6, hF⟩ := bind_c hF
      refine q_roi (q_runV (As := [.int p1]) (rest := []) C (fun sz => c_X4_setAt l dC dI cI cZ cQ o_guess o_guess_sets o_guess_tally u2_size u2_sets v_guess_nextRock v_guess_leftAtMost p1 r5 hc6 sz) (cwV 1 C.2.2.2.2.1 gX11_went_X4_setAt rfl rfl rfl (by decide +kernel) ⟨Nat.le_of_ble_eq_true rfl, Nat.le_of_ble_eq_true rfl⟩) 7 rfl rfl rfl [7, 8] rfl rfl rfl rfl (Nat.le_of_ble_eq_true rfl) dX11_went_43 ⟨Nat.zero_le _, Nat.zero_le _⟩) ?_
      cases hF
      exact q_wreti C hr dX11_went_46 hQ
    · have hF := ite_t hF c4
      refine q_aload_n C dX11_went_28 0 rfl rfl ?_
      refine q_get (C0 := RX11) (T := TX11) (N := 11) (k0 := 7) C lk1 0 rfl rfl (by decide) lk0 rfl (v := .ref o_guess) rfl dX11_went_29 ?_
      refine q_get (C0 := RX4) (T := TX4) (N := 5) (k0 := 0) C lk5 7 rfl rfl (by decide) lk4 rfl (v := .int u2_size) rfl dX11_went_32 ?_
      refine q_goto (tgt := 46) C dX11_went_35 (by decide) ?_
      cases hF
      exact q_wreti C hr dX11_went_46 hQ
  · have hF := ite_f hF c1
    refine q_bipush (v := (-6 : Int32)) C dX11_went_5 (by decide) ?_
    cases hF
    exact q_wreti C hr dX11_went_7 hQ
set_option maxRecDepth 100000 in
set_option maxHeartbeats 4000000 in
theorem c_X11_ask (l : Launch) (dC : Nat → ClassId) (dI : Nat → Nat → Nat) (cI cZ cQ : ClassId) (o o_sea o_sea_heads o_lookout o_lookout_seen o_lookout_countRocks o_lookout_countWantings o_guess o_guess_sets o_guess_tally o_treaty o_pad o_images o_trial o_bringing o_game o_fraction o_got o_sea_sides o_sea_moods o_sea_moults : Nat) (v_sea_there : Int32) (v_sea_heads : Nat → Int32) (v_lookout_seen : Nat → Int32) (v_lookout_counts : Int32) (v_lookout_countRocks : Nat → Int32) (v_lookout_countWantings : Nat → Int32) (v_guess_size : Int32) (v_guess_sets : Nat → Int32) (v_guess_nextRock : Int32) (v_guess_leftAtMost : Int32) (v_guess_tally : Nat → Int32) (v_sea_month : Int32) (v_sea_lost : Int32) (p1 : Int32) (R : Int32) (w_guess_size : Int32) (w_guess_sets : Nat → Int32) (w_guess_nextRock : Int32) (w_guess_leftAtMost : Int32) (w_guess_tally : Nat → Int32) (hF : f_Strait_ask v_sea_there v_sea_heads v_lookout_seen v_lookout_counts v_lookout_countRocks v_lookout_countWantings v_guess_size v_guess_sets v_guess_nextRock v_guess_leftAtMost v_guess_tally p1 = some (R, w_guess_size, w_guess_sets, w_guess_nextRock, w_guess_leftAtMost, w_guess_tally)) (sz : Nat) : Met l yX11_ask wsX11_ask ({ frames := 5, cells := 0, slots := 0, locals := 117 } : Room) (qPc ([.ref o, .int p1]) (dC, dI) (qT cI cZ cQ) ([(o, .inr (11, [.ref o_sea, .ref o_treaty, .ref o_lookout, .ref o_pad, .ref o_images, .ref o_trial, .ref o_bringing, .ref o_guess, .ref o_game, .ref o_fraction, .ref o_got])), (o_sea, .inr (8, [.int v_sea_there, .int v_sea_month, .int v_sea_lost, .ref o_sea_heads, .ref o_sea_sides, .ref o_sea_moods, .ref o_sea_moults])), (o_sea_heads, .inl (cI, 6, .inl v_sea_heads)), (o_lookout, .inr (6, [.ref o_lookout_seen, .int v_lookout_counts, .ref o_lookout_countRocks, .ref o_lookout_countWantings])), (o_lookout_seen, .inl (cI, 6, .inl v_lookout_seen)), (o_lookout_countRocks, .inl (cI, 8, .inl v_lookout_countRocks)), (o_lookout_countWantings, .inl (cI, 8, .inl v_lookout_countWantings)), (o_guess, .inr (4, [.int v_guess_size, .ref o_guess_sets, .int v_guess_nextRock, .int v_guess_leftAtMost, .ref o_guess_tally])), (o_guess_sets, .inl (cI, 64, .inl v_guess_sets)), (o_guess_tally, .inl (cI, 595, .inl v_guess_tally))]) sz) (qWi R (dC, dI) ([(o, .inr (11, [.ref o_sea, .ref o_treaty, .ref o_lookout, .ref o_pad, .ref o_images, .ref o_trial, .ref o_bringing, .ref o_guess, .ref o_game, .ref o_fraction, .ref o_got])), (o_sea, .inr (8, [.int v_sea_there, .int v_sea_month, .int v_sea_lost, .ref o_sea_heads, .ref o_sea_sides, .ref o_sea_moods, .ref o_sea_moults])), (o_sea_heads, .inl (cI, 6, .inl v_sea_heads)), (o_lookout, .inr (6, [.ref o_lookout_seen, .int v_lookout_counts, .ref o_lookout_countRocks, .ref o_lookout_countWantings])), (o_lookout_seen, .inl (cI, 6, .inl v_lookout_seen)), (o_lookout_countRocks, .inl (cI, 8, .inl v_lookout_countRocks)), (o_lookout_countWantings, .inl (cI, 8, .inl v_lookout_countWantings)), (o_guess, .inr (4, [.int w_guess_size, .ref o_guess_sets, .int w_guess_nextRock, .int w_guess_leftAtMost, .ref o_guess_tally])), (o_guess_sets, .inl (cI, 64, .inl w_guess_sets)), (o_guess_tally, .inl (cI, 595, .inl w_guess_tally))]) (va_A ([(o, .inr (11, [.ref o_sea, .ref o_treaty, .ref o_lookout, .ref o_pad, .ref o_images, .ref o_trial, .ref o_bringing, .ref o_guess, .ref o_game, .ref o_fraction, .ref o_got])), (o_sea, .inr (8, [.int v_sea_there, .int v_sea_month, .int v_sea_lost, .ref o_sea_heads, .ref o_sea_sides, .ref o_sea_moods, .ref o_sea_moults])), (o_sea_heads, .inl (cI, 6, .inl v_sea_heads)), (o_lookout, .inr (6, [.ref o_lookout_seen, .int v_lookout_counts, .ref o_lookout_countRocks, .ref o_lookout_countWantings])), (o_lookout_seen, .inl (cI, 6, .inl v_lookout_seen)), (o_lookout_countRocks, .inl (cI, 8, .inl v_lookout_countRocks)), (o_lookout_countWantings, .inl (cI, 8, .inl v_lookout_countWantings)), (o_guess, .inr (4, [.int v_guess_size, .ref o_guess_sets, .int v_guess_nextRock, .int v_guess_leftAtMost, .ref o_guess_tally])), (o_guess_sets, .inl (cI, 64, .inl v_guess_sets)), (o_guess_tally, .inl (cI, 595, .inl v_guess_tally))]) sz)) 0 0 (va_A ([(o, .inr (11, [.ref o_sea, .ref o_treaty, .ref o_lookout, .ref o_pad, .ref o_images, .ref o_trial, .ref o_bringing, .ref o_guess, .ref o_game, .ref o_fraction, .ref o_got])), (o_sea, .inr (8, [.int v_sea_there, .int v_sea_month, .int v_sea_lost, .ref o_sea_heads, .ref o_sea_sides, .ref o_sea_moods, .ref o_sea_moults])), (o_sea_heads, .inl (cI, 6, .inl v_sea_heads)), (o_lookout, .inr (6, [.ref o_lookout_seen, .int v_lookout_counts, .ref o_lookout_countRocks, .ref o_lookout_countWantings])), (o_lookout_seen, .inl (cI, 6, .inl v_lookout_seen)), (o_lookout_countRocks, .inl (cI, 8, .inl v_lookout_countRocks)), (o_lookout_countWantings, .inl (cI, 8, .inl v_lookout_countWantings)), (o_guess, .inr (4, [.int v_guess_size, .ref o_guess_sets, .int v_guess_nextRock, .int v_guess_leftAtMost, .ref o_guess_tally])), (o_guess_sets, .inl (cI, 64, .inl v_guess_sets)), (o_guess_tally, .inl (cI, 595, .inl v_guess_tally))]) sz) := by
  refine q_met_w (Qc := fun A => qWi R (dC, dI) ([(o, .inr (11, [.ref o_sea, .ref o_treaty, .ref o_lookout, .ref o_pad, .ref o_images, .ref o_trial, .ref o_bringing, .ref o_guess, .ref o_game, .ref o_fraction, .ref o_got])), (o_sea, .inr (8, [.int v_sea_there, .int v_sea_month, .int v_sea_lost, .ref o_sea_heads, .ref o_sea_sides, .ref o_sea_moods, .ref o_sea_moults])), (o_sea_heads, .inl (cI, 6, .inl v_sea_heads)), (o_lookout, .inr (6, [.ref o_lookout_seen, .int v_lookout_counts, .ref o_lookout_countRocks, .ref o_lookout_countWantings])), (o_lookout_seen, .inl (cI, 6, .inl v_lookout_seen)), (o_lookout_countRocks, .inl (cI, 8, .inl v_lookout_countRocks)), (o_lookout_countWantings, .inl (cI, 8, .inl v_lookout_countWantings)), (o_guess, .inr (4, [.int w_guess_size, .ref o_guess_sets, .int w_guess_nextRock, .int w_guess_leftAtMost, .ref o_guess_tally])), (o_guess_sets, .inl (cI, 64, .inl w_guess_sets)), (o_guess_tally, .inl (cI, 595, .inl w_guess_tally))]) A) (cc := cX11_ask) (own := RX11) (maxL := 2) (ret := (some .int)) (lv0 := [(0, .ref o), (1, .int p1)]) (by decide) rfl rfl rfl (Nat.le_of_ble_eq_true rfl) ?_
  intro p e s m args below meth c A hA C hr hnm Q hQ
  have lk0 : Cond.fieldLink RX11 60 "SealStrait" "guess" "LSealStrait$Guess;" ∈ wsX11_ask := by decide +kernel
  have lk1 : ∀ w ∈ u_ws RX11 TX11 11, w ∈ wsX11_ask := fun w h => List.mem_cons_of_mem _ (List.mem_append_left _ (List.mem_append_left _ (List.mem_append_left _ (List.mem_append_right _ h))))
  have lk2 : Cond.fieldLink RX11 26 "SealStrait" "lookout" "LSealStrait$Lookout;" ∈ wsX11_ask := by decide +kernel
  have lk3 : Cond.fieldLink RX11 12 "SealStrait" "sea" "LSealStrait$Sea;" ∈ wsX11_ask := by decide +kernel
  have lk4 : Cond.fieldLink RX11 229 "SealStrait$Guess" "size" "I" ∈ wsX11_ask := by decide +kernel
  have lk5 : ∀ w ∈ u_ws RX4 TX4 5, w ∈ wsX11_ask := fun w h => List.mem_cons_of_mem _ (List.mem_append_left _ (List.mem_append_left _ (List.mem_append_right _ h)))
  have lk6 : Cond.fieldLink RX11 239 "SealStrait$Guess" "leftAtMost" "I" ∈ wsX11_ask := by decide +kernel
  have lk7 : Cond.fieldLink RX11 236 "SealStrait$Guess" "nextRock" "I" ∈ wsX11_ask := by decide +kernel
  unfold f_Strait_ask at hF
  refine q_iload_n C dX11_ask_0 1 rfl rfl ?_
  refine q_iconst (v := (0 : Int32)) C dX11_ask_1 (by decide) ?_
  refine q_iconst (v := (1 : Int32)) C dX11_ask_2 (by decide) ?_
  refine q_roz (q_runS (As := [.int p1, .int (0 : Int32), .int (1 : Int32)]) (rest := []) C (fun sz => c_X11_within l dC dI cI cZ cQ p1 (0 : Int32) (1 : Int32) (f_Strait_within p1 (0 : Int32) (1 : Int32)) rfl sz) (va_cwS 3 C.2.2.2.2.1 gX11_ask_X11_within rfl rfl rfl (by decide +kernel) ⟨Nat.le_of_ble_eq_true rfl, Nat.le_of_ble_eq_true rfl⟩) [] rfl rfl rfl rfl (Nat.le_of_ble_eq_true rfl) dX11_ask_3 ⟨Nat.zero_le _, Nat.zero_le _⟩) (fun hz1 => ?_)
  refine q_if_ne (tgt := 12) C dX11_ask_6 (by decide) (fun c2 => ?_) (fun c2 => ?_)
  · have hF := ite_f hF c2
    refine q_aload_n C dX11_ask_12 0 rfl rfl ?_
    refine q_get (C0 := RX11) (T := TX11) (N := 11) (k0 := 7) C lk1 0 rfl rfl (by decide) lk0 rfl (v := .ref o_guess) rfl dX11_ask_13 ?_
    refine q_aload_n C dX11_ask_16 0 rfl rfl ?_
    refine q_get (C0 := RX11) (T := TX11) (N := 11) (k0 := 2) C lk1 0 rfl rfl (by decide) lk2 rfl (v := .ref o_lookout) rfl dX11_ask_17 ?_
    refine q_aload_n C dX11_ask_20 0 rfl rfl ?_
    refine q_get (C0 := RX11) (T := TX11) (N := 11) (k0 := 0) C lk1 0 rfl rfl (by decide) lk3 rfl (v := .ref o_sea) rfl dX11_ask_21 ?_
    obtain ⟨⟨u3_size, u3_sets⟩, hc4, hF⟩ := bind_c hF
    dsimp only at hF
    refine q_rwv hA ([(o, .inr (11, [.ref o_sea, .ref o_treaty, .ref o_lookout, .ref o_pad, .ref o_images, .ref o_trial, .ref o_bringing, .ref o_guess, .ref o_game, .ref o_fraction, .ref o_got])), (o_sea, .inr (8, [.int v_sea_there, .int v_sea_month, .int v_sea_lost, .ref o_sea_heads, .ref o_sea_sides, .ref o_sea_moods, .ref o_sea_moults])), (o_sea_heads, .inl (cI, 6, .inl v_sea_heads)), (o_lookout, .inr (6, [.ref o_lookout_seen, .int v_lookout_counts, .ref o_lookout_countRocks, .ref o_lookout_countWantings])), (o_lookout_seen, .inl (cI, 6, .inl v_lookout_seen)), (o_lookout_countRocks, .inl (cI, 8, .inl v_lookout_countRocks)), (o_lookout_countWantings, .inl (cI, 8, .inl v_lookout_countWantings)), (o_guess, .inr (4, [.int u3_size, .ref o_guess_sets, .int v_guess_nextRock, .int v_guess_leftAtMost, .ref o_guess_tally])), (o_guess_sets, .inl (cI, 64, .inl u3_sets)), (o_guess_tally, .inl (cI, 595, .inl v_guess_tally))]) [7, 8, 3, 4, 5, 6, 1, 2] [0, 9] rfl rfl rfl (by decide) [0, 8, 9, 4, 5, 6, 7, 2, 3, 1] rfl rfl (q_runV (As := [.ref o_lookout, .ref o_sea]) (rest := []) C (fun sz => c_X4_findSets l dC dI cI cZ cQ o_guess o_guess_sets o_lookout o_lookout_seen o_lookout_countRocks o_lookout_countWantings o_sea o_sea_heads o_guess_tally o_sea_sides o_sea_moods o_sea_moults v_guess_size v_guess_sets v_lookout_seen v_lookout_counts v_lookout_countRocks v_lookout_countWantings v_sea_there v_sea_heads v_guess_nextRock v_guess_leftAtMost v_sea_month v_sea_lost u3_size u3_sets hc4 sz) (cwV 2 C.2.2.2.2.1 gX11_ask_X4_findSets rfl rfl rfl (by decide +kernel) ⟨Nat.le_of_ble_eq_true rfl, Nat.le_of_ble_eq_true rfl⟩) 7 rfl rfl rfl [7, 8, 3, 4, 5, 6, 1, 2] rfl rfl rfl rfl (Nat.le_of_ble_eq_true rfl) dX11_ask_24 ⟨Nat.zero_le _, Nat.zero_le _⟩) ?_
    refine q_aload_n C dX11_ask_27 0 rfl rfl ?_
    refine q_get (C0 := RX11) (T := TX11) (N := 11) (k0 := 7) C lk1 0 rfl rfl (by decide) lk0 rfl (v := .ref o_guess) rfl dX11_ask_28 ?_
    refine q_get (C0 := RX4) (T := TX4) (N := 5) (k0 := 0) C lk5 7 rfl rfl (by decide) lk4 rfl (v := .int u3_size) rfl dX11_ask_31 ?_
    refine q_if_ne (tgt := 40) C dX11_ask_34 (by decide) (fun c5 => ?_) (fun c5 => ?_)
    · have hF := ite_f hF c5
      refine q_aload_n C dX11_ask_40 0 rfl rfl ?_
      refine q_get (C0 := RX11) (T := TX11) (N := 11) (k0 := 7) C lk1 0 rfl rfl (by decide) lk0 rfl (v := .ref o_guess) rfl dX11_ask_41 ?_
      refine q_aload_n C dX11_ask_44 0 rfl rfl ?_
      refine q_get (C0 := RX11) (T := TX11) (N := 11) (k0 := 2) C lk1 0 rfl rfl (by decide) lk2 rfl (v := .ref o_lookout) rfl dX11_ask_45 ?_
      refine q_aload_n C dX11_ask_48 0 rfl rfl ?_
      refine q_get (C0 := RX11) (T := TX11) (N := 11) (k0 := 0) C lk1 0 rfl rfl (by decide) lk3 rfl (v := .ref o_sea) rfl dX11_ask_49 ?_
      obtain ⟨⟨u6_nextRock, u6_leftAtMost, u6_tally⟩, hc7, hF⟩ := bind_c hF
      dsimp only at hF
      refine q_rwv hA ([(o, .inr (11, [.ref o_sea, .ref o_treaty, .ref o_lookout, .ref o_pad, .ref o_images, .ref o_trial, .ref o_bringing, .ref o_guess, .ref o_game, .ref o_fraction, .ref o_got])), (o_sea, .inr (8, [.int v_sea_there, .int v_sea_month, .int v_sea_lost, .ref o_sea_heads, .ref o_sea_sides, .ref o_sea_moods, .ref o_sea_moults])), (o_sea_heads, .inl (cI, 6, .inl v_sea_heads)), (o_lookout, .inr (6, [.ref o_lookout_seen, .int v_lookout_counts, .ref o_lookout_countRocks, .ref o_lookout_countWantings])), (o_lookout_seen, .inl (cI, 6, .inl v_lookout_seen)), (o_lookout_countRocks, .inl (cI, 8, .inl v_lookout_countRocks)), (o_lookout_countWantings, .inl (cI, 8, .inl v_lookout_countWantings)), (o_guess, .inr (4, [.int u3_size, .ref o_guess_sets, .int u6_nextRock, .int u6_leftAtMost, .ref o_guess_tally])), (o_guess_sets, .inl (cI, 64, .inl u3_sets)), (o_guess_tally, .inl (cI, 595, .inl u6_tally))]) [7, 8, 9, 3, 4, 1, 2] [0, 5, 6] rfl rfl rfl (by decide) [0, 8, 9, 6, 7, 1, 2, 3, 4, 5] rfl rfl (q_runV (As := [.ref o_lookout, .ref o_sea]) (rest := []) C (fun sz => c_X4_findNextRock l dC dI cI cZ cQ o_guess o_guess_sets o_guess_tally o_lookout o_lookout_seen o_sea o_sea_heads o_lookout_countRocks o_lookout_countWantings o_sea_sides o_sea_moods o_sea_moults u3_size u3_sets v_guess_nextRock v_guess_leftAtMost v_guess_tally v_lookout_seen v_sea_there v_sea_heads v_lookout_counts v_sea_month v_sea_lost u6_nextRock u6_leftAtMost u6_tally hc7 sz) (cwV 2 C.2.2.2.2.1 gX11_ask_X4_findNextRock rfl rfl rfl (by decide +kernel) ⟨Nat.le_of_ble_eq_true rfl, Nat.le_of_ble_eq_true rfl⟩) 7 rfl rfl rfl [7, 8, 9, 3, 4, 1, 2] rfl rfl rfl rfl (Nat.le_of_ble_eq_true rfl) dX11_ask_52 ⟨Nat.zero_le _, Nat.zero_le _⟩) ?_
      refine q_iload_n C dX11_ask_55 1 rfl rfl ?_
      refine q_if_ne (tgt := 69) C dX11_ask_56 (by decide) (fun c8 => ?_) (fun c8 => ?_)
      · have hF := ite_f hF c8
        refine q_aload_n C dX11_ask_69 0 rfl rfl ?_
        refine q_get (C0 := RX11) (T := TX11) (N := 11) (k0 := 7) C lk1 0 rfl rfl (by decide) lk0 rfl (v := .ref o_guess) rfl dX11_ask_70 ?_
        refine q_get (C0 := RX4) (T := TX4) (N := 5) (k0 := 3) C lk5 7 rfl rfl (by decide) lk6 rfl (v := .int u6_leftAtMost) rfl dX11_ask_73 ?_
        cases hF
        exact q_wreti C hr dX11_ask_76 hQ
      · have hF := ite_t hF c8
        refine q_aload_n C dX11_ask_59 0 rfl rfl ?_
        refine q_get (C0 := RX11) (T := TX11) (N := 11) (k0 := 7) C lk1 0 rfl rfl (by decide) lk0 rfl (v := .ref o_guess) rfl dX11_ask_60 ?_
        refine q_get (C0 := RX4) (T := TX4) (N := 5) (k0 := 2) C lk5 7 rfl rfl (by decide) lk7 rfl (v := .int u6_nextRock) rfl dX11_ask_63 ?_
        refine q_goto (tgt := 76) C dX11_ask_66 (by decide) ?_
        cases hF
        exact q_wreti C hr dX11_ask_76 hQ
    · have hF := ite_t hF c5
      refine q_bipush (v := (-6 : Int32)) C dX11_ask_37 (by decide) ?_
      cases hF
      exact q_wreti C hr dX11_ask_39 hQ
  · have hF := ite_t hF c2
    refine q_bipush (v := (-2 : Int32)) C dX11_ask_9 (by decide) ?_
    cases hF
    exact q_wreti C hr dX11_ask_11 hQ
set_option maxRecDepth 100000 in
set_option maxHeartbeats 4000000 in
theorem c_X11_turning (l : Launch) (dC : Nat → ClassId) (dI : Nat → Nat → Nat) (cI cZ cQ : ClassId) (o o_treaty o_treaty_words o_game o_game_wins o_sea o_lookout o_pad o_images o_trial o_bringing o_guess o_fraction o_got o_treaty_clashes : Nat) (v_treaty_words : Nat → Int32) (v_game_wins : Nat → Int32) (p1 : Int32) (p2 : Int32) (R : Int32) (w_game_wins : Nat → Int32) (hF : f_Strait_turning v_treaty_words v_game_wins p1 p2 = some (R, w_game_wins)) (sz : Nat) : Met l yX11_turning wsX11_turning ({ frames := 4, cells := 0, slots := 0, locals := 92 } : Room) (qPc ([.ref o, .int p1, .int p2]) (dC, dI) (qT cI cZ cQ) ([(o, .inr (11, [.ref o_sea, .ref o_treaty, .ref o_lookout, .ref o_pad, .ref o_images, .ref o_trial, .ref o_bringing, .ref o_guess, .ref o_game, .ref o_fraction, .ref o_got])), (o_treaty, .inr (9, [.ref o_treaty_words, .ref o_treaty_clashes])), (o_treaty_words, .inl (cI, 10, .inl v_treaty_words)), (o_game, .inr (3, [.ref o_game_wins])), (o_game_wins, .inl (cZ, 1024, .inl v_game_wins))]) sz) (qWi R (dC, dI) ([(o, .inr (11, [.ref o_sea, .ref o_treaty, .ref o_lookout, .ref o_pad, .ref o_images, .ref o_trial, .ref o_bringing, .ref o_guess, .ref o_game, .ref o_fraction, .ref o_got])), (o_treaty, .inr (9, [.ref o_treaty_words, .ref o_treaty_clashes])), (o_treaty_words, .inl (cI, 10, .inl v_treaty_words)), (o_game, .inr (3, [.ref o_game_wins])), (o_game_wins, .inl (cZ, 1024, .inl w_game_wins))]) (va_A ([(o, .inr (11, [.ref o_sea, .ref o_treaty, .ref o_lookout, .ref o_pad, .ref o_images, .ref o_trial, .ref o_bringing, .ref o_guess, .ref o_game, .ref o_fraction, .ref o_got])), (o_treaty, .inr (9, [.ref o_treaty_words, .ref o_treaty_clashes])), (o_treaty_words, .inl (cI, 10, .inl v_treaty_words)), (o_game, .inr (3, [.ref o_game_wins])), (o_game_wins, .inl (cZ, 1024, .inl v_game_wins))]) sz)) 0 0 (va_A ([(o, .inr (11, [.ref o_sea, .ref o_treaty, .ref o_lookout, .ref o_pad, .ref o_images, .ref o_trial, .ref o_bringing, .ref o_guess, .ref o_game, .ref o_fraction, .ref o_got])), (o_treaty, .inr (9, [.ref o_treaty_words, .ref o_treaty_clashes])), (o_treaty_words, .inl (cI, 10, .inl v_treaty_words)), (o_game, .inr (3, [.ref o_game_wins])), (o_game_wins, .inl (cZ, 1024, .inl v_game_wins))]) sz) := by
  refine q_met_w (Qc := fun A => qWi R (dC, dI) ([(o, .inr (11, [.ref o_sea, .ref o_treaty, .ref o_lookout, .ref o_pad, .ref o_images, .ref o_trial, .ref o_bringing, .ref o_guess, .ref o_game, .ref o_fraction, .ref o_got])), (o_treaty, .inr (9, [.ref o_treaty_words, .ref o_treaty_clashes])), (o_treaty_words, .inl (cI, 10, .inl v_treaty_words)), (o_game, .inr (3, [.ref o_game_wins])), (o_game_wins, .inl (cZ, 1024, .inl w_game_wins))]) A) (cc := cX11_turning) (own := RX11) (maxL := 4) (ret := (some .int)) (lv0 := [(0, .ref o), (1, .int p1), (2, .int p2)]) (by decide) rfl rfl rfl (Nat.le_of_ble_eq_true rfl) ?_
  intro p e s m args below meth c A hA C hr hnm Q hQ
  have lk0 : Cond.fieldLink RX11 67 "SealStrait" "game" "LSealStrait$Game;" ∈ wsX11_turning := by decide +kernel
  have lk1 : ∀ w ∈ u_ws RX11 TX11 11, w ∈ wsX11_turning := fun w h => List.mem_cons_of_mem _ (List.mem_append_left _ (List.mem_append_left _ (List.mem_append_right _ h)))
  have lk2 : Cond.fieldLink RX11 19 "SealStrait" "treaty" "LSealStrait$Treaty;" ∈ wsX11_turning := by decide +kernel
  unfold f_Strait_turning at hF
  refine q_iload_n C dX11_turning_0 1 rfl rfl ?_
  refine q_iconst (v := (0 : Int32)) C dX11_turning_1 (by decide) ?_
  refine q_bipush (v := (30 : Int32)) C dX11_turning_2 (by decide) ?_
  refine q_roz (q_runS (As := [.int p1, .int (0 : Int32), .int (30 : Int32)]) (rest := []) C (fun sz => c_X11_within l dC dI cI cZ cQ p1 (0 : Int32) (30 : Int32) (f_Strait_within p1 (0 : Int32) (30 : Int32)) rfl sz) (va_cwS 3 C.2.2.2.2.1 gX11_turning_X11_within rfl rfl rfl (by decide +kernel) ⟨Nat.le_of_ble_eq_true rfl, Nat.le_of_ble_eq_true rfl⟩) [] rfl rfl rfl rfl (Nat.le_of_ble_eq_true rfl) dX11_turning_4 ⟨Nat.zero_le _, Nat.zero_le _⟩) (fun hz1 => ?_)
  refine q_if_eq (tgt := 19) C dX11_turning_7 (by decide) (fun c2 => ?_) (fun c2 => ?_)
  · have hF := ite_t hF c2
    refine q_bipush (v := (-2 : Int32)) C dX11_turning_19 (by decide) ?_
    cases hF
    exact q_wreti C hr dX11_turning_21 hQ
  · have hF := ite_f hF c2
    refine q_iload_n C dX11_turning_10 2 rfl rfl ?_
    refine q_iconst (v := (0 : Int32)) C dX11_turning_11 (by decide) ?_
    refine q_iconst (v := (1 : Int32)) C dX11_turning_12 (by decide) ?_
    refine q_roz (q_runS (As := [.int p2, .int (0 : Int32), .int (1 : Int32)]) (rest := []) C (fun sz => c_X11_within l dC dI cI cZ cQ p2 (0 : Int32) (1 : Int32) (f_Strait_within p2 (0 : Int32) (1 : Int32)) rfl sz) (va_cwS 3 C.2.2.2.2.1 gX11_turning_X11_within rfl rfl rfl (by decide +kernel) ⟨Nat.le_of_ble_eq_true rfl, Nat.le_of_ble_eq_true rfl⟩) [] rfl rfl rfl rfl (Nat.le_of_ble_eq_true rfl) dX11_turning_13 ⟨Nat.zero_le _, Nat.zero_le _⟩) (fun hz3 => ?_)
    refine q_if_ne (tgt := 22) C dX11_turning_16 (by decide) (fun c4 => ?_) (fun c4 => ?_)
    · have hF := ite_f hF c4
      refine q_aload_n C dX11_turning_22 0 rfl rfl ?_
      refine q_get (C0 := RX11) (T := TX11) (N := 11) (k0 := 8) C lk1 0 rfl rfl (by decide) lk0 rfl (v := .ref o_game) rfl dX11_turning_23 ?_
      refine q_aload_n C dX11_turning_26 0 rfl rfl ?_
      refine q_get (C0 := RX11) (T := TX11) (N := 11) (k0 := 1) C lk1 0 rfl rfl (by decide) lk2 rfl (v := .ref o_treaty) rfl dX11_turning_27 ?_
      refine q_iload_n C dX11_turning_30 1 rfl rfl ?_
      obtain ⟨⟨r5, u5_wins⟩, hc6, hF⟩ := bind_c hF
      dsimp only at hF
      refine q_rwi hA ([(o, .inr (11, [.ref o_sea, .ref o_treaty, .ref o_lookout, .ref o_pad, .ref o_images, .ref o_trial, .ref o_bringing, .ref o_guess, .ref o_game, .ref o_fraction, .ref o_got])), (o_treaty, .inr (9, [.ref o_treaty_words, .ref o_treaty_clashes])), (o_treaty_words, .inl (cI, 10, .inl v_treaty_words)), (o_game, .inr (3, [.ref o_game_wins])), (o_game_wins, .inl (cZ, 1024, .inl u5_wins))]) [3, 4, 1, 2] [0] rfl rfl rfl (by decide) [0, 3, 4, 1, 2] rfl rfl (q_runV (As := [.ref o_treaty, .int p1]) (rest := []) C (fun sz => c_X3_winningFirst l dC dI cI cZ cQ o_game o_game_wins o_treaty o_treaty_words o_treaty_clashes v_game_wins v_treaty_words p1 r5 u5_wins hc6 sz) (cwV 2 C.2.2.2.2.1 gX11_turning_X3_winningFirst rfl rfl rfl (by decide +kernel) ⟨Nat.le_of_ble_eq_true rfl, Nat.le_of_ble_eq_true rfl⟩) 3 rfl rfl rfl [3, 4, 1, 2] rfl rfl rfl rfl (Nat.le_of_ble_eq_true rfl) dX11_turning_31 ⟨Nat.zero_le _, Nat.zero_le _⟩) ?_
      refine q_istore_n C ([(3, .int r5), (0, .ref o), (1, .int p1), (2, .int p2)]) dX11_turning_34 rfl (by decide) rfl ?_
      refine q_iload_n C dX11_turning_35 3 rfl rfl ?_
      refine q_iconst (v := (1 : Int32)) C dX11_turning_36 (by decide) ?_
      refine q_icmp_ne (tgt := 42) C dX11_turning_37 (by decide) (fun c7 => ?_) (fun c7 => ?_)
      · have hF := ite_f hF c7
        refine q_iload_n C dX11_turning_42 0 rfl rfl ?_
        refine q_bipush (v := (-6 : Int32)) C dX11_turning_43 (by decide) ?_
        refine q_icmp_ne (tgt := 52) C dX11_turning_45 (by decide) (fun c8 => ?_) (fun c8 => ?_)
        · have hF := ite_f hF c8
          refine q_iconst (v := (1 : Int32)) C dX11_turning_52 (by decide) ?_
          cases hF
          exact q_wreti C hr dX11_turning_53 hQ
        · have hF := ite_t hF c8
          refine q_iconst (v := (0 : Int32)) C dX11_turning_48 (by decide) ?_
          refine q_goto (tgt := 53) C dX11_turning_49 (by decide) ?_
          cases hF
          exact q_wreti C hr dX11_turning_53 hQ
      · have hF := ite_t hF c7
        refine q_iload_n C dX11_turning_40 0 rfl rfl ?_
        cases hF
        exact q_wreti C hr dX11_turning_41 hQ
    · have hF := ite_t hF c4
      refine q_bipush (v := (-2 : Int32)) C dX11_turning_19 (by decide) ?_
      cases hF
      exact q_wreti C hr dX11_turning_21 hQ
set_option maxRecDepth 100000 in
set_option maxHeartbeats 4000000 in
theorem c_X11_drift (l : Launch) (dC : Nat → ClassId) (dI : Nat → Nat → Nat) (cI cZ cQ : ClassId) (o o_fraction o_sea o_treaty o_lookout o_pad o_images o_trial o_bringing o_guess o_game o_got : Nat) (v_fraction_upper : Int64) (v_fraction_lower : Int64) (p1 : Int32) (p2 : Int32) (p3 : Int32) (p4 : Int32) (p5 : Int32) (p6 : Int32) (R : Int64) (w_fraction_upper : Int64) (w_fraction_lower : Int64) (hF : f_Strait_drift v_fraction_upper v_fraction_lower p1 p2 p3 p4 p5 p6 = some (R, w_fraction_upper, w_fraction_lower)) (sz : Nat) : Met l yX11_drift wsX11_drift ({ frames := 3, cells := 0, slots := 0, locals := 82 } : Room) (qPc ([.ref o, .int p1, .int p2, .int p3, .int p4, .int p5, .int p6]) (dC, dI) (qT cI cZ cQ) ([(o, .inr (11, [.ref o_sea, .ref o_treaty, .ref o_lookout, .ref o_pad, .ref o_images, .ref o_trial, .ref o_bringing, .ref o_guess, .ref o_game, .ref o_fraction, .ref o_got])), (o_fraction, .inr (2, [.long v_fraction_upper, .long v_fraction_lower]))]) sz) (qWl R (dC, dI) ([(o, .inr (11, [.ref o_sea, .ref o_treaty, .ref o_lookout, .ref o_pad, .ref o_images, .ref o_trial, .ref o_bringing, .ref o_guess, .ref o_game, .ref o_fraction, .ref o_got])), (o_fraction, .inr (2, [.long w_fraction_upper, .long w_fraction_lower]))]) (va_A ([(o, .inr (11, [.ref o_sea, .ref o_treaty, .ref o_lookout, .ref o_pad, .ref o_images, .ref o_trial, .ref o_bringing, .ref o_guess, .ref o_game, .ref o_fraction, .ref o_got])), (o_fraction, .inr (2, [.long v_fraction_upper, .long v_fraction_lower]))]) sz)) 0 0 (va_A ([(o, .inr (11, [.ref o_sea, .ref o_treaty, .ref o_lookout, .ref o_pad, .ref o_images, .ref o_trial, .ref o_bringing, .ref o_guess, .ref o_game, .ref o_fraction, .ref o_got])), (o_fraction, .inr (2, [.long v_fraction_upper, .long v_fraction_lower]))]) sz) := by
  refine q_met_w (Qc := fun A => qWl R (dC, dI) ([(o, .inr (11, [.ref o_sea, .ref o_treaty, .ref o_lookout, .ref o_pad, .ref o_images, .ref o_trial, .ref o_bringing, .ref o_guess, .ref o_game, .ref o_fraction, .ref o_got])), (o_fraction, .inr (2, [.long w_fraction_upper, .long w_fraction_lower]))]) A) (cc := cX11_drift) (own := RX11) (maxL := 7) (ret := (some .long)) (lv0 := [(0, .ref o), (1, .int p1), (2, .int p2), (3, .int p3), (4, .int p4), (5, .int p5), (6, .int p6)]) (by decide) rfl rfl rfl (Nat.le_of_ble_eq_true rfl) ?_
  intro p e s m args below meth c A hA C hr hnm Q hQ
  have lk0 : Cond.constantLong RX11 206 (-1000000000000000002 : Int64) ∈ wsX11_drift := by decide +kernel
  have lk1 : Cond.fieldLink RX11 74 "SealStrait" "fraction" "LSealStrait$Fraction;" ∈ wsX11_drift := by decide +kernel
  have lk2 : ∀ w ∈ u_ws RX11 TX11 11, w ∈ wsX11_drift := fun w h => List.mem_cons_of_mem _ (List.mem_append_left _ (List.mem_append_right _ h))
  unfold f_Strait_drift at hF
  refine q_iload_n C dX11_drift_0 1 rfl rfl ?_
  refine q_iconst (v := (0 : Int32)) C dX11_drift_1 (by decide) ?_
  refine q_iconst (v := (1 : Int32)) C dX11_drift_2 (by decide) ?_
  refine q_roz (q_runS (As := [.int p1, .int (0 : Int32), .int (1 : Int32)]) (rest := []) C (fun sz => c_X11_within l dC dI cI cZ cQ p1 (0 : Int32) (1 : Int32) (f_Strait_within p1 (0 : Int32) (1 : Int32)) rfl sz) (va_cwS 3 C.2.2.2.2.1 gX11_drift_X11_within rfl rfl rfl (by decide +kernel) ⟨Nat.le_of_ble_eq_true rfl, Nat.le_of_ble_eq_true rfl⟩) [] rfl rfl rfl rfl (Nat.le_of_ble_eq_true rfl) dX11_drift_3 ⟨Nat.zero_le _, Nat.zero_le _⟩) (fun hz1 => ?_)
  refine q_if_eq (tgt := 70) C dX11_drift_6 (by decide) (fun c2 => ?_) (fun c2 => ?_)
  · have hF := ite_t hF c2
    refine q_ldc2 (v := (-1000000000000000002 : Int64)) C lk0 dX11_drift_70 ?_
    cases hF
    exact q_wretl C hr dX11_drift_73 hQ
  · have hF := ite_f hF c2
    refine q_iload_n C dX11_drift_9 2 rfl rfl ?_
    refine q_iconst (v := (0 : Int32)) C dX11_drift_10 (by decide) ?_
    refine q_bipush (v := (10 : Int32)) C dX11_drift_11 (by decide) ?_
    refine q_roz (q_runS (As := [.int p2, .int (0 : Int32), .int (10 : Int32)]) (rest := []) C (fun sz => c_X11_within l dC dI cI cZ cQ p2 (0 : Int32) (10 : Int32) (f_Strait_within p2 (0 : Int32) (10 : Int32)) rfl sz) (va_cwS 3 C.2.2.2.2.1 gX11_drift_X11_within rfl rfl rfl (by decide +kernel) ⟨Nat.le_of_ble_eq_true rfl, Nat.le_of_ble_eq_true rfl⟩) [] rfl rfl rfl rfl (Nat.le_of_ble_eq_true rfl) dX11_drift_13 ⟨Nat.zero_le _, Nat.zero_le _⟩) (fun hz3 => ?_)
    refine q_if_eq (tgt := 70) C dX11_drift_16 (by decide) (fun c4 => ?_) (fun c4 => ?_)
    · have hF := ite_t hF c4
      refine q_ldc2 (v := (-1000000000000000002 : Int64)) C lk0 dX11_drift_70 ?_
      cases hF
      exact q_wretl C hr dX11_drift_73 hQ
    · have hF := ite_f hF c4
      refine q_iload_n C dX11_drift_19 3 rfl rfl ?_
      refine q_iconst (v := (0 : Int32)) C dX11_drift_20 (by decide) ?_
      refine q_bipush (v := (10 : Int32)) C dX11_drift_21 (by decide) ?_
      refine q_roz (q_runS (As := [.int p3, .int (0 : Int32), .int (10 : Int32)]) (rest := []) C (fun sz => c_X11_within l dC dI cI cZ cQ p3 (0 : Int32) (10 : Int32) (f_Strait_within p3 (0 : Int32) (10 : Int32)) rfl sz) (va_cwS 3 C.2.2.2.2.1 gX11_drift_X11_within rfl rfl rfl (by decide +kernel) ⟨Nat.le_of_ble_eq_true rfl, Nat.le_of_ble_eq_true rfl⟩) [] rfl rfl rfl rfl (Nat.le_of_ble_eq_true rfl) dX11_drift_23 ⟨Nat.zero_le _, Nat.zero_le _⟩) (fun hz5 => ?_)
      refine q_if_eq (tgt := 70) C dX11_drift_26 (by decide) (fun c6 => ?_) (fun c6 => ?_)
      · have hF := ite_t hF c6
        refine q_ldc2 (v := (-1000000000000000002 : Int64)) C lk0 dX11_drift_70 ?_
        cases hF
        exact q_wretl C hr dX11_drift_73 hQ
      · have hF := ite_f hF c6
        refine q_iload C dX11_drift_29 5 rfl ?_
        refine q_iconst (v := (0 : Int32)) C dX11_drift_31 (by decide) ?_
        refine q_iconst (v := (1 : Int32)) C dX11_drift_32 (by decide) ?_
        refine q_roz (q_runS (As := [.int p5, .int (0 : Int32), .int (1 : Int32)]) (rest := []) C (fun sz => c_X11_within l dC dI cI cZ cQ p5 (0 : Int32) (1 : Int32) (f_Strait_within p5 (0 : Int32) (1 : Int32)) rfl sz) (va_cwS 3 C.2.2.2.2.1 gX11_drift_X11_within rfl rfl rfl (by decide +kernel) ⟨Nat.le_of_ble_eq_true rfl, Nat.le_of_ble_eq_true rfl⟩) [] rfl rfl rfl rfl (Nat.le_of_ble_eq_true rfl) dX11_drift_33 ⟨Nat.zero_le _, Nat.zero_le _⟩) (fun hz7 => ?_)
        refine q_if_eq (tgt := 70) C dX11_drift_36 (by decide) (fun c8 => ?_) (fun c8 => ?_)
        · have hF := ite_t hF c8
          refine q_ldc2 (v := (-1000000000000000002 : Int64)) C lk0 dX11_drift_70 ?_
          cases hF
          exact q_wretl C hr dX11_drift_73 hQ
        · have hF := ite_f hF c8
          refine q_iload C dX11_drift_39 6 rfl ?_
          refine q_iconst (v := (0 : Int32)) C dX11_drift_41 (by decide) ?_
          refine q_iconst (v := (1 : Int32)) C dX11_drift_42 (by decide) ?_
          refine q_roz (q_runS (As := [.int p6, .int (0 : Int32), .int (1 : Int32)]) (rest := []) C (fun sz => c_X11_within l dC dI cI cZ cQ p6 (0 : Int32) (1 : Int32) (f_Strait_within p6 (0 : Int32) (1 : Int32)) rfl sz) (va_cwS 3 C.2.2.2.2.1 gX11_drift_X11_within rfl rfl rfl (by decide +kernel) ⟨Nat.le_of_ble_eq_true rfl, Nat.le_of_ble_eq_true rfl⟩) [] rfl rfl rfl rfl (Nat.le_of_ble_eq_true rfl) dX11_drift_43 ⟨Nat.zero_le _, Nat.zero_le _⟩) (fun hz9 => ?_)
          refine q_if_eq (tgt := 70) C dX11_drift_46 (by decide) (fun c10 => ?_) (fun c10 => ?_)
          · have hF := ite_t hF c10
            refine q_ldc2 (v := (-1000000000000000002 : Int64)) C lk0 dX11_drift_70 ?_
            cases hF
            exact q_wretl C hr dX11_drift_73 hQ
          · have hF := ite_f hF c10
            refine q_iload C dX11_drift_49 4 rfl ?_
            refine q_iconst (v := (0 : Int32)) C dX11_drift_51 (by decide) ?_
            refine q_iload C dX11_drift_52 5 rfl ?_
            refine q_if_ne (tgt := 62) C dX11_drift_54 (by decide) (fun c11 => ?_) (fun c11 => ?_)
            · have hF := ite_f hF c11
              refine q_bipush (v := (16 : Int32)) C dX11_drift_62 (by decide) ?_
              refine q_roz (q_runS (As := [.int p4, .int (0 : Int32), .int (16 : Int32)]) (rest := []) C (fun sz => c_X11_within l dC dI cI cZ cQ p4 (0 : Int32) (16 : Int32) (f_Strait_within p4 (0 : Int32) (16 : Int32)) rfl sz) (va_cwS 3 C.2.2.2.2.1 gX11_drift_X11_within rfl rfl rfl (by decide +kernel) ⟨Nat.le_of_ble_eq_true rfl, Nat.le_of_ble_eq_true rfl⟩) [] rfl rfl rfl rfl (Nat.le_of_ble_eq_true rfl) dX11_drift_64 ⟨Nat.zero_le _, Nat.zero_le _⟩) (fun hz12 => ?_)
              refine q_if_ne (tgt := 74) C dX11_drift_67 (by decide) (fun c13 => ?_) (fun c13 => ?_)
              · have hF := ite_f hF c13
                refine q_aload_n C dX11_drift_74 0 rfl rfl ?_
                refine q_get (C0 := RX11) (T := TX11) (N := 11) (k0 := 9) C lk2 0 rfl rfl (by decide) lk1 rfl (v := .ref o_fraction) rfl dX11_drift_75 ?_
                refine q_iload_n C dX11_drift_78 1 rfl rfl ?_
                refine q_iload_n C dX11_drift_79 2 rfl rfl ?_
                refine q_iload_n C dX11_drift_80 3 rfl rfl ?_
                refine q_iload C dX11_drift_81 4 rfl ?_
                refine q_iload C dX11_drift_83 5 rfl ?_
                obtain ⟨⟨u14_upper, u14_lower⟩, hc15, hF⟩ := bind_c hF
                dsimp only at hF
                refine q_rwv hA ([(o, .inr (11, [.ref o_sea, .ref o_treaty, .ref o_lookout, .ref o_pad, .ref o_images, .ref o_trial, .ref o_bringing, .ref o_guess, .ref o_game, .ref o_fraction, .ref o_got])), (o_fraction, .inr (2, [.long u14_upper, .long u14_lower]))]) [1] [0] rfl rfl rfl (by decide) [0, 1] rfl rfl (q_runV (As := [.int p1, .int p2, .int p3, .int p4, .int p5]) (rest := []) C (fun sz => c_X2_setDrift l dC dI cI cZ cQ o_fraction v_fraction_upper v_fraction_lower p1 p2 p3 p4 p5 u14_upper u14_lower hc15 sz) (cwV 5 C.2.2.2.2.1 gX11_drift_X2_setDrift rfl rfl rfl (by decide +kernel) ⟨Nat.le_of_ble_eq_true rfl, Nat.le_of_ble_eq_true rfl⟩) 1 rfl rfl rfl [1] rfl rfl rfl rfl (Nat.le_of_ble_eq_true rfl) dX11_drift_85 ⟨Nat.zero_le _, Nat.zero_le _⟩) ?_
                refine q_aload_n C dX11_drift_88 0 rfl rfl ?_
                refine q_get (C0 := RX11) (T := TX11) (N := 11) (k0 := 9) C lk2 0 rfl rfl (by decide) lk1 rfl (v := .ref o_fraction) rfl dX11_drift_89 ?_
                refine q_iload C dX11_drift_92 6 rfl ?_
                refine q_rol (q_runV (As := [.int p6]) (rest := []) C (fun sz => c_X2_part l dC dI cI cZ cQ o_fraction u14_upper u14_lower p6 (f_Fraction_part u14_upper u14_lower p6) rfl sz) (cwV 1 C.2.2.2.2.1 gX11_drift_X2_part rfl rfl rfl (by decide +kernel) ⟨Nat.le_of_ble_eq_true rfl, Nat.le_of_ble_eq_true rfl⟩) 1 rfl rfl rfl [1] rfl rfl rfl rfl (Nat.le_of_ble_eq_true rfl) dX11_drift_94 ⟨Nat.zero_le _, Nat.zero_le _⟩) ?_
                cases hF
                exact q_wretl C hr dX11_drift_97 hQ
              · have hF := ite_t hF c13
                refine q_ldc2 (v := (-1000000000000000002 : Int64)) C lk0 dX11_drift_70 ?_
                cases hF
                exact q_wretl C hr dX11_drift_73 hQ
            · have hF := ite_t hF c11
              refine q_bipush (v := (17 : Int32)) C dX11_drift_57 (by decide) ?_
              refine q_goto (tgt := 64) C dX11_drift_59 (by decide) ?_
              refine q_roz (q_runS (As := [.int p4, .int (0 : Int32), .int (17 : Int32)]) (rest := []) C (fun sz => c_X11_within l dC dI cI cZ cQ p4 (0 : Int32) (17 : Int32) (f_Strait_within p4 (0 : Int32) (17 : Int32)) rfl sz) (va_cwS 3 C.2.2.2.2.1 gX11_drift_X11_within rfl rfl rfl (by decide +kernel) ⟨Nat.le_of_ble_eq_true rfl, Nat.le_of_ble_eq_true rfl⟩) [] rfl rfl rfl rfl (Nat.le_of_ble_eq_true rfl) dX11_drift_64 ⟨Nat.zero_le _, Nat.zero_le _⟩) (fun hz17 => ?_)
              refine q_if_ne (tgt := 74) C dX11_drift_67 (by decide) (fun c18 => ?_) (fun c18 => ?_)
              · have hF := ite_f hF c18
                refine q_aload_n C dX11_drift_74 0 rfl rfl ?_
                refine q_get (C0 := RX11) (T := TX11) (N := 11) (k0 := 9) C lk2 0 rfl rfl (by decide) lk1 rfl (v := .ref o_fraction) rfl dX11_drift_75 ?_
                refine q_iload_n C dX11_drift_78 1 rfl rfl ?_
                refine q_iload_n C dX11_drift_79 2 rfl rfl ?_
                refine q_iload_n C dX11_drift_80 3 rfl rfl ?_
                refine q_iload C dX11_drift_81 4 rfl ?_
                refine q_iload C dX11_drift_83 5 rfl ?_
                obtain ⟨⟨u19_upper, u19_lower⟩, hc20, hF⟩ := bind_c hF
                dsimp only at hF
                refine q_rwv hA ([(o, .inr (11, [.ref o_sea, .ref o_treaty, .ref o_lookout, .ref o_pad, .ref o_images, .ref o_trial, .ref o_bringing, .ref o_guess, .ref o_game, .ref o_fraction, .ref o_got])), (o_fraction, .inr (2, [.long u19_upper, .long u19_lower]))]) [1] [0] rfl rfl rfl (by decide) [0, 1] rfl rfl (q_runV (As := [.int p1, .int p2, .int p3, .int p4, .int p5]) (rest := []) C (fun sz => c_X2_setDrift l dC dI cI cZ cQ o_fraction v_fraction_upper v_fraction_lower p1 p2 p3 p4 p5 u19_upper u19_lower hc20 sz) (cwV 5 C.2.2.2.2.1 gX11_drift_X2_setDrift rfl rfl rfl (by decide +kernel) ⟨Nat.le_of_ble_eq_true rfl, Nat.le_of_ble_eq_true rfl⟩) 1 rfl rfl rfl [1] rfl rfl rfl rfl (Nat.le_of_ble_eq_true rfl) dX11_drift_85 ⟨Nat.zero_le _, Nat.zero_le _⟩) ?_
                refine q_aload_n C dX11_drift_88 0 rfl rfl ?_
                refine q_get (C0 := RX11) (T := TX11) (N := 11) (k0 := 9) C lk2 0 rfl rfl (by decide) lk1 rfl (v := .ref o_fraction) rfl dX11_drift_89 ?_
                refine q_iload C dX11_drift_92 6 rfl ?_
                refine q_rol (q_runV (As := [.int p6]) (rest := []) C (fun sz => c_X2_part l dC dI cI cZ cQ o_fraction u19_upper u19_lower p6 (f_Fraction_part u19_upper u19_lower p6) rfl sz) (cwV 1 C.2.2.2.2.1 gX11_drift_X2_part rfl rfl rfl (by decide +kernel) ⟨Nat.le_of_ble_eq_true rfl, Nat.le_of_ble_eq_true rfl⟩) 1 rfl rfl rfl [1] rfl rfl rfl rfl (Nat.le_of_ble_eq_true rfl) dX11_drift_94 ⟨Nat.zero_le _, Nat.zero_le _⟩) ?_
                cases hF
                exact q_wretl C hr dX11_drift_97 hQ
              · have hF := ite_t hF c18
                refine q_ldc2 (v := (-1000000000000000002 : Int64)) C lk0 dX11_drift_70 ?_
                cases hF
                exact q_wretl C hr dX11_drift_73 hQ
set_option maxRecDepth 100000 in
set_option maxHeartbeats 4000000 in
theorem c_X11_year (l : Launch) (dC : Nat → ClassId) (dI : Nat → Nat → Nat) (cI cZ cQ : ClassId) (o o_sea o_sea_heads o_sea_sides o_sea_moods o_sea_moults o_treaty o_treaty_words o_trial o_trial_sea o_trial_sea_heads o_trial_sea_sides o_trial_sea_moods o_trial_sea_moults o_trial_act o_lookout o_pad o_images o_bringing o_guess o_game o_fraction o_got o_treaty_clashes : Nat) (v_sea_there : Int32) (v_sea_month : Int32) (v_sea_lost : Int32) (v_sea_heads : Nat → Int32) (v_sea_sides : Nat → Int32) (v_sea_moods : Nat → Int32) (v_sea_moults : Nat → Int32) (v_treaty_words : Nat → Int32) (v_trial_sea_there : Int32) (v_trial_sea_month : Int32) (v_trial_sea_lost : Int32) (v_trial_sea_heads : Nat → Int32) (v_trial_sea_sides : Nat → Int32) (v_trial_sea_moods : Nat → Int32) (v_trial_sea_moults : Nat → Int32) (v_trial_act_kind : Int32) (v_trial_act_one : Int32) (v_trial_act_other : Int32) (v_trial_isFaulty : Int32) (v_trial_acts : Int32) (v_trial_why : Int32) (v_trial_readings : Int32) (v_trial_signedAll : Int32) (p1 : Int32) (p2 : Int32) (p3 : Int32) (R : Int32) (w_trial_sea_there : Int32) (w_trial_sea_month : Int32) (w_trial_sea_lost : Int32) (w_trial_sea_heads : Nat → Int32) (w_trial_sea_sides : Nat → Int32) (w_trial_sea_moods : Nat → Int32) (w_trial_sea_moults : Nat → Int32) (w_trial_act_kind : Int32) (w_trial_act_one : Int32) (w_trial_act_other : Int32) (hF : f_Strait_year v_sea_there v_sea_month v_sea_lost v_sea_heads v_sea_sides v_sea_moods v_sea_moults v_treaty_words v_trial_sea_there v_trial_sea_month v_trial_sea_lost v_trial_sea_heads v_trial_sea_sides v_trial_sea_moods v_trial_sea_moults v_trial_act_kind v_trial_act_one v_trial_act_other p1 p2 p3 = some (R, w_trial_sea_there, w_trial_sea_month, w_trial_sea_lost, w_trial_sea_heads, w_trial_sea_sides, w_trial_sea_moods, w_trial_sea_moults, w_trial_act_kind, w_trial_act_one, w_trial_act_other)) (sz : Nat) : Met l yX11_year wsX11_year ({ frames := 6, cells := 0, slots := 0, locals := 136 } : Room) (qPc ([.ref o, .int p1, .int p2, .int p3]) (dC, dI) (qT cI cZ cQ) ([(o, .inr (11, [.ref o_sea, .ref o_treaty, .ref o_lookout, .ref o_pad, .ref o_images, .ref o_trial, .ref o_bringing, .ref o_guess, .ref o_game, .ref o_fraction, .ref o_got])), (o_sea, .inr (8, [.int v_sea_there, .int v_sea_month, .int v_sea_lost, .ref o_sea_heads, .ref o_sea_sides, .ref o_sea_moods, .ref o_sea_moults])), (o_sea_heads, .inl (cI, 6, .inl v_sea_heads)), (o_sea_sides, .inl (cI, 6, .inl v_sea_sides)), (o_sea_moods, .inl (cI, 6, .inl v_sea_moods)), (o_sea_moults, .inl (cI, 6, .inl v_sea_moults)), (o_treaty, .inr (9, [.ref o_treaty_words, .ref o_treaty_clashes])), (o_treaty_words, .inl (cI, 10, .inl v_treaty_words)), (o_trial, .inr (10, [.ref o_trial_sea, .ref o_trial_act, .int v_trial_isFaulty, .int v_trial_acts, .int v_trial_why, .int v_trial_readings, .int v_trial_signedAll])), (o_trial_sea, .inr (8, [.int v_trial_sea_there, .int v_trial_sea_month, .int v_trial_sea_lost, .ref o_trial_sea_heads, .ref o_trial_sea_sides, .ref o_trial_sea_moods, .ref o_trial_sea_moults])), (o_trial_sea_heads, .inl (cI, 6, .inl v_trial_sea_heads)), (o_trial_sea_sides, .inl (cI, 6, .inl v_trial_sea_sides)), (o_trial_sea_moods, .inl (cI, 6, .inl v_trial_sea_moods)), (o_trial_sea_moults, .inl (cI, 6, .inl v_trial_sea_moults)), (o_trial_act, .inr (0, [.int v_trial_act_kind, .int v_trial_act_one, .int v_trial_act_other]))]) sz) (qWi R (dC, dI) ([(o, .inr (11, [.ref o_sea, .ref o_treaty, .ref o_lookout, .ref o_pad, .ref o_images, .ref o_trial, .ref o_bringing, .ref o_guess, .ref o_game, .ref o_fraction, .ref o_got])), (o_sea, .inr (8, [.int v_sea_there, .int v_sea_month, .int v_sea_lost, .ref o_sea_heads, .ref o_sea_sides, .ref o_sea_moods, .ref o_sea_moults])), (o_sea_heads, .inl (cI, 6, .inl v_sea_heads)), (o_sea_sides, .inl (cI, 6, .inl v_sea_sides)), (o_sea_moods, .inl (cI, 6, .inl v_sea_moods)), (o_sea_moults, .inl (cI, 6, .inl v_sea_moults)), (o_treaty, .inr (9, [.ref o_treaty_words, .ref o_treaty_clashes])), (o_treaty_words, .inl (cI, 10, .inl v_treaty_words)), (o_trial, .inr (10, [.ref o_trial_sea, .ref o_trial_act, .int v_trial_isFaulty, .int v_trial_acts, .int v_trial_why, .int v_trial_readings, .int v_trial_signedAll])), (o_trial_sea, .inr (8, [.int w_trial_sea_there, .int w_trial_sea_month, .int w_trial_sea_lost, .ref o_trial_sea_heads, .ref o_trial_sea_sides, .ref o_trial_sea_moods, .ref o_trial_sea_moults])), (o_trial_sea_heads, .inl (cI, 6, .inl w_trial_sea_heads)), (o_trial_sea_sides, .inl (cI, 6, .inl w_trial_sea_sides)), (o_trial_sea_moods, .inl (cI, 6, .inl w_trial_sea_moods)), (o_trial_sea_moults, .inl (cI, 6, .inl w_trial_sea_moults)), (o_trial_act, .inr (0, [.int w_trial_act_kind, .int w_trial_act_one, .int w_trial_act_other]))]) (va_A ([(o, .inr (11, [.ref o_sea, .ref o_treaty, .ref o_lookout, .ref o_pad, .ref o_images, .ref o_trial, .ref o_bringing, .ref o_guess, .ref o_game, .ref o_fraction, .ref o_got])), (o_sea, .inr (8, [.int v_sea_there, .int v_sea_month, .int v_sea_lost, .ref o_sea_heads, .ref o_sea_sides, .ref o_sea_moods, .ref o_sea_moults])), (o_sea_heads, .inl (cI, 6, .inl v_sea_heads)), (o_sea_sides, .inl (cI, 6, .inl v_sea_sides)), (o_sea_moods, .inl (cI, 6, .inl v_sea_moods)), (o_sea_moults, .inl (cI, 6, .inl v_sea_moults)), (o_treaty, .inr (9, [.ref o_treaty_words, .ref o_treaty_clashes])), (o_treaty_words, .inl (cI, 10, .inl v_treaty_words)), (o_trial, .inr (10, [.ref o_trial_sea, .ref o_trial_act, .int v_trial_isFaulty, .int v_trial_acts, .int v_trial_why, .int v_trial_readings, .int v_trial_signedAll])), (o_trial_sea, .inr (8, [.int v_trial_sea_there, .int v_trial_sea_month, .int v_trial_sea_lost, .ref o_trial_sea_heads, .ref o_trial_sea_sides, .ref o_trial_sea_moods, .ref o_trial_sea_moults])), (o_trial_sea_heads, .inl (cI, 6, .inl v_trial_sea_heads)), (o_trial_sea_sides, .inl (cI, 6, .inl v_trial_sea_sides)), (o_trial_sea_moods, .inl (cI, 6, .inl v_trial_sea_moods)), (o_trial_sea_moults, .inl (cI, 6, .inl v_trial_sea_moults)), (o_trial_act, .inr (0, [.int v_trial_act_kind, .int v_trial_act_one, .int v_trial_act_other]))]) sz)) 0 0 (va_A ([(o, .inr (11, [.ref o_sea, .ref o_treaty, .ref o_lookout, .ref o_pad, .ref o_images, .ref o_trial, .ref o_bringing, .ref o_guess, .ref o_game, .ref o_fraction, .ref o_got])), (o_sea, .inr (8, [.int v_sea_there, .int v_sea_month, .int v_sea_lost, .ref o_sea_heads, .ref o_sea_sides, .ref o_sea_moods, .ref o_sea_moults])), (o_sea_heads, .inl (cI, 6, .inl v_sea_heads)), (o_sea_sides, .inl (cI, 6, .inl v_sea_sides)), (o_sea_moods, .inl (cI, 6, .inl v_sea_moods)), (o_sea_moults, .inl (cI, 6, .inl v_sea_moults)), (o_treaty, .inr (9, [.ref o_treaty_words, .ref o_treaty_clashes])), (o_treaty_words, .inl (cI, 10, .inl v_treaty_words)), (o_trial, .inr (10, [.ref o_trial_sea, .ref o_trial_act, .int v_trial_isFaulty, .int v_trial_acts, .int v_trial_why, .int v_trial_readings, .int v_trial_signedAll])), (o_trial_sea, .inr (8, [.int v_trial_sea_there, .int v_trial_sea_month, .int v_trial_sea_lost, .ref o_trial_sea_heads, .ref o_trial_sea_sides, .ref o_trial_sea_moods, .ref o_trial_sea_moults])), (o_trial_sea_heads, .inl (cI, 6, .inl v_trial_sea_heads)), (o_trial_sea_sides, .inl (cI, 6, .inl v_trial_sea_sides)), (o_trial_sea_moods, .inl (cI, 6, .inl v_trial_sea_moods)), (o_trial_sea_moults, .inl (cI, 6, .inl v_trial_sea_moults)), (o_trial_act, .inr (0, [.int v_trial_act_kind, .int v_trial_act_one, .int v_trial_act_other]))]) sz) := by
  refine q_met_w (Qc := fun A => qWi R (dC, dI) ([(o, .inr (11, [.ref o_sea, .ref o_treaty, .ref o_lookout, .ref o_pad, .ref o_images, .ref o_trial, .ref o_bringing, .ref o_guess, .ref o_game, .ref o_fraction, .ref o_got])), (o_sea, .inr (8, [.int v_sea_there, .int v_sea_month, .int v_sea_lost, .ref o_sea_heads, .ref o_sea_sides, .ref o_sea_moods, .ref o_sea_moults])), (o_sea_heads, .inl (cI, 6, .inl v_sea_heads)), (o_sea_sides, .inl (cI, 6, .inl v_sea_sides)), (o_sea_moods, .inl (cI, 6, .inl v_sea_moods)), (o_sea_moults, .inl (cI, 6, .inl v_sea_moults)), (o_treaty, .inr (9, [.ref o_treaty_words, .ref o_treaty_clashes])), (o_treaty_words, .inl (cI, 10, .inl v_treaty_words)), (o_trial, .inr (10, [.ref o_trial_sea, .ref o_trial_act, .int v_trial_isFaulty, .int v_trial_acts, .int v_trial_why, .int v_trial_readings, .int v_trial_signedAll])), (o_trial_sea, .inr (8, [.int w_trial_sea_there, .int w_trial_sea_month, .int w_trial_sea_lost, .ref o_trial_sea_heads, .ref o_trial_sea_sides, .ref o_trial_sea_moods, .ref o_trial_sea_moults])), (o_trial_sea_heads, .inl (cI, 6, .inl w_trial_sea_heads)), (o_trial_sea_sides, .inl (cI, 6, .inl w_trial_sea_sides)), (o_trial_sea_moods, .inl (cI, 6, .inl w_trial_sea_moods)), (o_trial_sea_moults, .inl (cI, 6, .inl w_trial_sea_moults)), (o_trial_act, .inr (0, [.int w_trial_act_kind, .int w_trial_act_one, .int w_trial_act_other]))]) A) (cc := cX11_year) (own := RX11) (maxL := 4) (ret := (some .int)) (lv0 := [(0, .ref o), (1, .int p1), (2, .int p2), (3, .int p3)]) (by decide) rfl rfl rfl (Nat.le_of_ble_eq_true rfl) ?_
  intro p e s m args below meth c A hA C hr hnm Q hQ
  have lk0 : Cond.fieldLink RX11 46 "SealStrait" "trial" "LSealStrait$Trial;" ∈ wsX11_year := by decide +kernel
  have lk1 : ∀ w ∈ u_ws RX11 TX11 11, w ∈ wsX11_year := fun w h => List.mem_cons_of_mem _ (List.mem_append_left _ (List.mem_append_left _ (List.mem_append_left _ (List.mem_append_left _ (List.mem_append_right _ h)))))
  have lk2 : Cond.fieldLink RX11 12 "SealStrait" "sea" "LSealStrait$Sea;" ∈ wsX11_year := by decide +kernel
  have lk3 : Cond.fieldLink RX11 19 "SealStrait" "treaty" "LSealStrait$Treaty;" ∈ wsX11_year := by decide +kernel
  have lk4 : Cond.fieldLink RX11 142 "SealStrait$Trial" "sea" "LSealStrait$Sea;" ∈ wsX11_year := by decide +kernel
  have lk5 : ∀ w ∈ u_ws RX10 TX10 7, w ∈ wsX11_year := fun w h => List.mem_cons_of_mem _ (List.mem_append_left _ (List.mem_append_left _ (List.mem_append_left _ (List.mem_append_right _ h))))
  have lk6 : Cond.fieldLink RX11 157 "SealStrait$Sea" "lost" "I" ∈ wsX11_year := by decide +kernel
  have lk7 : ∀ w ∈ u_ws RX8 TX8 7, w ∈ wsX11_year := fun w h => List.mem_cons_of_mem _ (List.mem_append_left _ (List.mem_append_left _ (List.mem_append_right _ h)))
  unfold f_Strait_year at hF
  refine q_iload_n C dX11_year_0 1 rfl rfl ?_
  refine q_iconst (v := (0 : Int32)) C dX11_year_1 (by decide) ?_
  refine q_sipush (v := (9999 : Int32)) C dX11_year_2 (by decide) ?_
  refine q_roz (q_runS (As := [.int p1, .int (0 : Int32), .int (9999 : Int32)]) (rest := []) C (fun sz => c_X11_within l dC dI cI cZ cQ p1 (0 : Int32) (9999 : Int32) (f_Strait_within p1 (0 : Int32) (9999 : Int32)) rfl sz) (va_cwS 3 C.2.2.2.2.1 gX11_year_X11_within rfl rfl rfl (by decide +kernel) ⟨Nat.le_of_ble_eq_true rfl, Nat.le_of_ble_eq_true rfl⟩) [] rfl rfl rfl rfl (Nat.le_of_ble_eq_true rfl) dX11_year_5 ⟨Nat.zero_le _, Nat.zero_le _⟩) (fun hz1 => ?_)
  refine q_if_eq (tgt := 30) C dX11_year_8 (by decide) (fun c2 => ?_) (fun c2 => ?_)
  · have hF := ite_t hF c2
    refine q_bipush (v := (-2 : Int32)) C dX11_year_30 (by decide) ?_
    cases hF
    exact q_wreti C hr dX11_year_32 hQ
  · have hF := ite_f hF c2
    refine q_iload_n C dX11_year_11 2 rfl rfl ?_
    refine q_iconst (v := (1 : Int32)) C dX11_year_12 (by decide) ?_
    refine q_bipush (v := (99 : Int32)) C dX11_year_13 (by decide) ?_
    refine q_roz (q_runS (As := [.int p2, .int (1 : Int32), .int (99 : Int32)]) (rest := []) C (fun sz => c_X11_within l dC dI cI cZ cQ p2 (1 : Int32) (99 : Int32) (f_Strait_within p2 (1 : Int32) (99 : Int32)) rfl sz) (va_cwS 3 C.2.2.2.2.1 gX11_year_X11_within rfl rfl rfl (by decide +kernel) ⟨Nat.le_of_ble_eq_true rfl, Nat.le_of_ble_eq_true rfl⟩) [] rfl rfl rfl rfl (Nat.le_of_ble_eq_true rfl) dX11_year_15 ⟨Nat.zero_le _, Nat.zero_le _⟩) (fun hz3 => ?_)
    refine q_if_eq (tgt := 30) C dX11_year_18 (by decide) (fun c4 => ?_) (fun c4 => ?_)
    · have hF := ite_t hF c4
      refine q_bipush (v := (-2 : Int32)) C dX11_year_30 (by decide) ?_
      cases hF
      exact q_wreti C hr dX11_year_32 hQ
    · have hF := ite_f hF c4
      refine q_iload_n C dX11_year_21 3 rfl rfl ?_
      refine q_iconst (v := (0 : Int32)) C dX11_year_22 (by decide) ?_
      refine q_iconst (v := (2 : Int32)) C dX11_year_23 (by decide) ?_
      refine q_roz (q_runS (As := [.int p3, .int (0 : Int32), .int (2 : Int32)]) (rest := []) C (fun sz => c_X11_within l dC dI cI cZ cQ p3 (0 : Int32) (2 : Int32) (f_Strait_within p3 (0 : Int32) (2 : Int32)) rfl sz) (va_cwS 3 C.2.2.2.2.1 gX11_year_X11_within rfl rfl rfl (by decide +kernel) ⟨Nat.le_of_ble_eq_true rfl, Nat.le_of_ble_eq_true rfl⟩) [] rfl rfl rfl rfl (Nat.le_of_ble_eq_true rfl) dX11_year_24 ⟨Nat.zero_le _, Nat.zero_le _⟩) (fun hz5 => ?_)
      refine q_if_ne (tgt := 33) C dX11_year_27 (by decide) (fun c6 => ?_) (fun c6 => ?_)
      · have hF := ite_f hF c6
        refine q_aload_n C dX11_year_33 0 rfl rfl ?_
        refine q_get (C0 := RX11) (T := TX11) (N := 11) (k0 := 5) C lk1 0 rfl rfl (by decide) lk0 rfl (v := .ref o_trial) rfl dX11_year_34 ?_
        refine q_iload_n C dX11_year_37 1 rfl rfl ?_
        refine q_iload_n C dX11_year_38 2 rfl rfl ?_
        refine q_aload_n C dX11_year_39 0 rfl rfl ?_
        refine q_get (C0 := RX11) (T := TX11) (N := 11) (k0 := 0) C lk1 0 rfl rfl (by decide) lk2 rfl (v := .ref o_sea) rfl dX11_year_40 ?_
        refine q_aload_n C dX11_year_43 0 rfl rfl ?_
        refine q_get (C0 := RX11) (T := TX11) (N := 11) (k0 := 1) C lk1 0 rfl rfl (by decide) lk3 rfl (v := .ref o_treaty) rfl dX11_year_44 ?_
        obtain ⟨⟨u7_sea_there, u7_sea_month, u7_sea_lost, u7_sea_heads, u7_sea_sides, u7_sea_moods, u7_sea_moults, u7_act_kind, u7_act_one, u7_act_other⟩, hc8, hF⟩ := bind_c hF
        dsimp only at hF
        refine q_rwv hA ([(o, .inr (11, [.ref o_sea, .ref o_treaty, .ref o_lookout, .ref o_pad, .ref o_images, .ref o_trial, .ref o_bringing, .ref o_guess, .ref o_game, .ref o_fraction, .ref o_got])), (o_sea, .inr (8, [.int v_sea_there, .int v_sea_month, .int v_sea_lost, .ref o_sea_heads, .ref o_sea_sides, .ref o_sea_moods, .ref o_sea_moults])), (o_sea_heads, .inl (cI, 6, .inl v_sea_heads)), (o_sea_sides, .inl (cI, 6, .inl v_sea_sides)), (o_sea_moods, .inl (cI, 6, .inl v_sea_moods)), (o_sea_moults, .inl (cI, 6, .inl v_sea_moults)), (o_treaty, .inr (9, [.ref o_treaty_words, .ref o_treaty_clashes])), (o_treaty_words, .inl (cI, 10, .inl v_treaty_words)), (o_trial, .inr (10, [.ref o_trial_sea, .ref o_trial_act, .int v_trial_isFaulty, .int v_trial_acts, .int v_trial_why, .int v_trial_readings, .int v_trial_signedAll])), (o_trial_sea, .inr (8, [.int u7_sea_there, .int u7_sea_month, .int u7_sea_lost, .ref o_trial_sea_heads, .ref o_trial_sea_sides, .ref o_trial_sea_moods, .ref o_trial_sea_moults])), (o_trial_sea_heads, .inl (cI, 6, .inl u7_sea_heads)), (o_trial_sea_sides, .inl (cI, 6, .inl u7_sea_sides)), (o_trial_sea_moods, .inl (cI, 6, .inl u7_sea_moods)), (o_trial_sea_moults, .inl (cI, 6, .inl u7_sea_moults)), (o_trial_act, .inr (0, [.int u7_act_kind, .int u7_act_one, .int u7_act_other]))]) [8, 9, 10, 11, 12, 13, 14, 1, 2, 3, 4, 5, 6, 7] [0] rfl rfl rfl (by decide) [0, 8, 9, 10, 11, 12, 13, 14, 1, 2, 3, 4, 5, 6, 7] rfl rfl (q_runV (As := [.int p1, .int p2, .ref o_sea, .ref o_treaty]) (rest := []) C (fun sz => c_X10_runYear l dC dI cI cZ cQ o_trial o_trial_sea o_trial_sea_heads o_trial_sea_sides o_trial_sea_moods o_trial_sea_moults o_trial_act o_sea o_sea_heads o_sea_sides o_sea_moods o_sea_moults o_treaty o_treaty_words o_treaty_clashes v_trial_sea_there v_trial_sea_month v_trial_sea_lost v_trial_sea_heads v_trial_sea_sides v_trial_sea_moods v_trial_sea_moults v_trial_act_kind v_trial_act_one v_trial_act_other v_sea_there v_sea_month v_sea_lost v_sea_heads v_sea_sides v_sea_moods v_sea_moults v_treaty_words v_trial_isFaulty v_trial_acts v_trial_why v_trial_readings v_trial_signedAll p1 p2 u7_sea_there u7_sea_month u7_sea_lost u7_sea_heads u7_sea_sides u7_sea_moods u7_sea_moults u7_act_kind u7_act_one u7_act_other hc8 sz) (cwV 4 C.2.2.2.2.1 gX11_year_X10_runYear rfl rfl rfl (by decide +kernel) ⟨Nat.le_of_ble_eq_true rfl, Nat.le_of_ble_eq_true rfl⟩) 8 rfl rfl rfl [8, 9, 10, 11, 12, 13, 14, 1, 2, 3, 4, 5, 6, 7] rfl rfl rfl rfl (Nat.le_of_ble_eq_true rfl) dX11_year_47 ⟨Nat.zero_le _, Nat.zero_le _⟩) ?_
        refine q_iload_n C dX11_year_50 3 rfl rfl ?_
        by_cases c9 : p3 = (0 : Int32)
        · have hF := ite_t hF c9
          refine q_lookup (off := 25) (tgt := 76) C dX11_year_51 (by decide) (by rw [c9]; decide) (by decide) ?_
          refine q_aload_n C dX11_year_76 0 rfl rfl ?_
          refine q_get (C0 := RX11) (T := TX11) (N := 11) (k0 := 5) C lk1 0 rfl rfl (by decide) lk0 rfl (v := .ref o_trial) rfl dX11_year_77 ?_
          refine q_get (C0 := RX10) (T := TX10) (N := 7) (k0 := 0) C lk5 8 rfl rfl (by decide) lk4 rfl (v := .ref o_trial_sea) rfl dX11_year_80 ?_
          obtain ⟨r10, hc11, hF⟩ := bind_c hF
          refine q_roi (q_runV (As := []) (rest := []) C (fun sz => c_X8_headsOnSideOne l dC dI cI cZ cQ o_trial_sea o_trial_sea_heads o_trial_sea_sides o_trial_sea_moods o_trial_sea_moults u7_sea_there u7_sea_heads u7_sea_sides u7_sea_month u7_sea_lost r10 hc11 sz) (cwV 0 C.2.2.2.2.1 gX11_year_X8_headsOnSideOne rfl rfl rfl (by decide +kernel) ⟨Nat.le_of_ble_eq_true rfl, Nat.le_of_ble_eq_true rfl⟩) 9 rfl rfl rfl [9, 10, 11] rfl rfl rfl rfl (Nat.le_of_ble_eq_true rfl) dX11_year_83 ⟨Nat.zero_le _, Nat.zero_le _⟩) ?_
          cases hF
          exact q_wreti C hr dX11_year_86 hQ
        · have hF := ite_f hF c9
          by_cases c12 : p3 = (1 : Int32)
          · have hF := ite_t hF c12
            refine q_lookup (off := 36) (tgt := 87) C dX11_year_51 (by decide) (by rw [c12]; decide) (by decide) ?_
            refine q_aload_n C dX11_year_87 0 rfl rfl ?_
            refine q_get (C0 := RX11) (T := TX11) (N := 11) (k0 := 5) C lk1 0 rfl rfl (by decide) lk0 rfl (v := .ref o_trial) rfl dX11_year_88 ?_
            refine q_get (C0 := RX10) (T := TX10) (N := 7) (k0 := 0) C lk5 8 rfl rfl (by decide) lk4 rfl (v := .ref o_trial_sea) rfl dX11_year_91 ?_
            refine q_get (C0 := RX8) (T := TX8) (N := 7) (k0 := 2) C lk7 9 rfl rfl (by decide) lk6 rfl (v := .int u7_sea_lost) rfl dX11_year_94 ?_
            cases hF
            exact q_wreti C hr dX11_year_97 hQ
          · have hF := ite_f hF c12
            refine q_lookup (off := 47) (tgt := 98) C dX11_year_51 (by decide) (by rw [lv_osw c9 (show (0 : Int32).toInt = 0 by decide)]; rw [lv_osw c12 (show (1 : Int32).toInt = 1 by decide)]; rfl) (by decide) ?_
            refine q_aload_n C dX11_year_98 0 rfl rfl ?_
            refine q_get (C0 := RX11) (T := TX11) (N := 11) (k0 := 5) C lk1 0 rfl rfl (by decide) lk0 rfl (v := .ref o_trial) rfl dX11_year_99 ?_
            refine q_get (C0 := RX10) (T := TX10) (N := 7) (k0 := 0) C lk5 8 rfl rfl (by decide) lk4 rfl (v := .ref o_trial_sea) rfl dX11_year_102 ?_
            obtain ⟨r13, hc14, hF⟩ := bind_c hF
            refine q_roi (q_runV (As := []) (rest := []) C (fun sz => c_X8_allMoods l dC dI cI cZ cQ o_trial_sea o_trial_sea_moods o_trial_sea_heads o_trial_sea_sides o_trial_sea_moults u7_sea_there u7_sea_moods u7_sea_month u7_sea_lost r13 hc14 sz) (cwV 0 C.2.2.2.2.1 gX11_year_X8_allMoods rfl rfl rfl (by decide +kernel) ⟨Nat.le_of_ble_eq_true rfl, Nat.le_of_ble_eq_true rfl⟩) 9 rfl rfl rfl [9, 12] rfl rfl rfl rfl (Nat.le_of_ble_eq_true rfl) dX11_year_105 ⟨Nat.zero_le _, Nat.zero_le _⟩) ?_
            cases hF
            exact q_wreti C hr dX11_year_108 hQ
      · have hF := ite_t hF c6
        refine q_bipush (v := (-2 : Int32)) C dX11_year_30 (by decide) ?_
        cases hF
        exact q_wreti C hr dX11_year_32 hQ
set_option maxRecDepth 100000 in
set_option maxHeartbeats 4000000 in
theorem c_X11_told (l : Launch) (dC : Nat → ClassId) (dI : Nat → Nat → Nat) (cI cZ cQ : ClassId) (o o_sea o_sea_heads o_sea_sides o_sea_moods o_sea_moults o_treaty o_treaty_words o_treaty_clashes o_lookout o_lookout_seen o_pad o_images o_trial o_bringing o_guess o_game o_fraction o_got o_lookout_countRocks o_lookout_countWantings o_pad_signs : Nat) (v_sea_there : Int32) (v_sea_month : Int32) (v_sea_lost : Int32) (v_sea_heads : Nat → Int32) (v_sea_sides : Nat → Int32) (v_sea_moods : Nat → Int32) (v_sea_moults : Nat → Int32) (v_treaty_words : Nat → Int32) (v_treaty_clashes : Nat → Int32) (v_lookout_seen : Nat → Int32) (v_lookout_counts : Int32) (v_pad_size : Int32) (p1 : Int32) (R : Int32) (hF : f_Strait_told v_sea_there v_sea_month v_sea_lost v_sea_heads v_sea_sides v_sea_moods v_sea_moults v_treaty_words v_treaty_clashes v_lookout_seen v_lookout_counts v_pad_size p1 = some R) (sz : Nat) : Met l yX11_told wsX11_told ({ frames := 2, cells := 0, slots := 0, locals := 43 } : Room) (qPc ([.ref o, .int p1]) (dC, dI) (qT cI cZ cQ) ([(o, .inr (11, [.ref o_sea, .ref o_treaty, .ref o_lookout, .ref o_pad, .ref o_images, .ref o_trial, .ref o_bringing, .ref o_guess, .ref o_game, .ref o_fraction, .ref o_got])), (o_sea, .inr (8, [.int v_sea_there, .int v_sea_month, .int v_sea_lost, .ref o_sea_heads, .ref o_sea_sides, .ref o_sea_moods, .ref o_sea_moults])), (o_sea_heads, .inl (cI, 6, .inl v_sea_heads)), (o_sea_sides, .inl (cI, 6, .inl v_sea_sides)), (o_sea_moods, .inl (cI, 6, .inl v_sea_moods)), (o_sea_moults, .inl (cI, 6, .inl v_sea_moults)), (o_treaty, .inr (9, [.ref o_treaty_words, .ref o_treaty_clashes])), (o_treaty_words, .inl (cI, 10, .inl v_treaty_words)), (o_treaty_clashes, .inl (cI, 10, .inl v_treaty_clashes)), (o_lookout, .inr (6, [.ref o_lookout_seen, .int v_lookout_counts, .ref o_lookout_countRocks, .ref o_lookout_countWantings])), (o_lookout_seen, .inl (cI, 6, .inl v_lookout_seen)), (o_pad, .inr (7, [.ref o_pad_signs, .int v_pad_size]))]) sz) (qRi R) 0 0 (fun _ => False) := by
  refine q_met_r (cc := cX11_told) (own := RX11) (maxL := 2) (ret := (some .int)) (lv0 := [(0, .ref o), (1, .int p1)]) (by decide) rfl rfl rfl (Nat.le_of_ble_eq_true rfl) ?_
  intro p e s m args below meth c C hr A A' Q hA0 hQ
  have lk0 : Cond.fieldLink RX11 33 "SealStrait" "pad" "LSealStrait$Pad;" ∈ wsX11_told := by decide +kernel
  have lk1 : ∀ w ∈ u_ws RX11 TX11 11, w ∈ wsX11_told := fun w h => List.mem_cons_of_mem _ (List.mem_append_left _ (List.mem_append_left _ (List.mem_append_left _ (List.mem_append_left _ (List.mem_append_right _ h)))))
  have lk2 : Cond.fieldLink RX11 118 "SealStrait$Pad" "size" "I" ∈ wsX11_told := by decide +kernel
  have lk3 : ∀ w ∈ u_ws RX7 TX7 2, w ∈ wsX11_told := fun w h => List.mem_cons_of_mem _ (List.mem_append_left _ (List.mem_append_right _ h))
  have lk4 : Cond.fieldLink RX11 12 "SealStrait" "sea" "LSealStrait$Sea;" ∈ wsX11_told := by decide +kernel
  have lk5 : Cond.fieldLink RX11 90 "SealStrait$Sea" "there" "I" ∈ wsX11_told := by decide +kernel
  have lk6 : ∀ w ∈ u_ws RX8 TX8 7, w ∈ wsX11_told := fun w h => List.mem_cons_of_mem _ (List.mem_append_right _ h)
  have lk7 : Cond.fieldLink RX11 160 "SealStrait$Sea" "month" "I" ∈ wsX11_told := by decide +kernel
  have lk8 : Cond.fieldLink RX11 157 "SealStrait$Sea" "lost" "I" ∈ wsX11_told := by decide +kernel
  have lk9 : Cond.fieldLink RX11 26 "SealStrait" "lookout" "LSealStrait$Lookout;" ∈ wsX11_told := by decide +kernel
  have lk10 : Cond.fieldLink RX11 222 "SealStrait$Lookout" "counts" "I" ∈ wsX11_told := by decide +kernel
  have lk11 : ∀ w ∈ u_ws RX6 TX6 4, w ∈ wsX11_told := fun w h => List.mem_cons_of_mem _ (List.mem_append_left _ (List.mem_append_left _ (List.mem_append_right _ h)))
  have lk12 : Cond.fieldLink RX11 111 "SealStrait$Lookout" "seen" "[I" ∈ wsX11_told := by decide +kernel
  have lk13 : Cond.fieldLink RX11 19 "SealStrait" "treaty" "LSealStrait$Treaty;" ∈ wsX11_told := by decide +kernel
  have lk14 : Cond.fieldLink RX11 266 "SealStrait$Treaty" "clashes" "[I" ∈ wsX11_told := by decide +kernel
  have lk15 : ∀ w ∈ u_ws RX9 TX9 2, w ∈ wsX11_told := fun w h => List.mem_cons_of_mem _ (List.mem_append_left _ (List.mem_append_left _ (List.mem_append_left _ (List.mem_append_right _ h))))
  have lk16 : Cond.fieldLink RX11 100 "SealStrait$Treaty" "words" "[I" ∈ wsX11_told := by decide +kernel
  unfold f_Strait_told at hF
  refine q_iload_n C dX11_told_0 1 rfl rfl ?_
  refine q_bipush (v := (10 : Int32)) C dX11_told_1 (by decide) ?_
  refine q_bipush (v := (19 : Int32)) C dX11_told_3 (by decide) ?_
  refine q_roz (q_runS (As := [.int p1, .int (10 : Int32), .int (19 : Int32)]) (rest := []) C (fun sz => c_X11_within l dC dI cI cZ cQ p1 (10 : Int32) (19 : Int32) (f_Strait_within p1 (10 : Int32) (19 : Int32)) rfl sz) (va_cwS 3 C.2.2.2.2.1 gX11_told_X11_within rfl rfl rfl (by decide +kernel) ⟨Nat.le_of_ble_eq_true rfl, Nat.le_of_ble_eq_true rfl⟩) [] rfl rfl rfl rfl (Nat.le_of_ble_eq_true rfl) dX11_told_5 ⟨Nat.zero_le _, Nat.zero_le _⟩) (fun hz1 => ?_)
  refine q_if_eq (tgt := 24) C dX11_told_8 (by decide) (fun c2 => ?_) (fun c2 => ?_)
  · have hF := ite_t hF c2
    refine q_iload_n C dX11_told_24 1 rfl rfl ?_
    refine q_bipush (v := (20 : Int32)) C dX11_told_25 (by decide) ?_
    refine q_bipush (v := (29 : Int32)) C dX11_told_27 (by decide) ?_
    refine q_roz (q_runS (As := [.int p1, .int (20 : Int32), .int (29 : Int32)]) (rest := []) C (fun sz => c_X11_within l dC dI cI cZ cQ p1 (20 : Int32) (29 : Int32) (f_Strait_within p1 (20 : Int32) (29 : Int32)) rfl sz) (va_cwS 3 C.2.2.2.2.1 gX11_told_X11_within rfl rfl rfl (by decide +kernel) ⟨Nat.le_of_ble_eq_true rfl, Nat.le_of_ble_eq_true rfl⟩) [] rfl rfl rfl rfl (Nat.le_of_ble_eq_true rfl) dX11_told_29 ⟨Nat.zero_le _, Nat.zero_le _⟩) (fun hz3 => ?_)
    refine q_if_eq (tgt := 48) C dX11_told_32 (by decide) (fun c4 => ?_) (fun c4 => ?_)
    · have hF := ite_t hF c4
      refine q_iload_n C dX11_told_48 1 rfl rfl ?_
      refine q_bipush (v := (30 : Int32)) C dX11_told_49 (by decide) ?_
      refine q_bipush (v := (35 : Int32)) C dX11_told_51 (by decide) ?_
      refine q_roz (q_runS (As := [.int p1, .int (30 : Int32), .int (35 : Int32)]) (rest := []) C (fun sz => c_X11_within l dC dI cI cZ cQ p1 (30 : Int32) (35 : Int32) (f_Strait_within p1 (30 : Int32) (35 : Int32)) rfl sz) (va_cwS 3 C.2.2.2.2.1 gX11_told_X11_within rfl rfl rfl (by decide +kernel) ⟨Nat.le_of_ble_eq_true rfl, Nat.le_of_ble_eq_true rfl⟩) [] rfl rfl rfl rfl (Nat.le_of_ble_eq_true rfl) dX11_told_53 ⟨Nat.zero_le _, Nat.zero_le _⟩) (fun hz5 => ?_)
      refine q_if_eq (tgt := 72) C dX11_told_56 (by decide) (fun c6 => ?_) (fun c6 => ?_)
      · have hF := ite_t hF c6
        refine q_iload_n C dX11_told_72 1 rfl rfl ?_
        refine q_bipush (v := (100 : Int32)) C dX11_told_73 (by decide) ?_
        refine q_icmp_lt (tgt := 100) C dX11_told_75 (by decide) (fun c7 => ?_) (fun c7 => ?_)
        · have hF := ite_t hF c7
          refine q_iload_n C dX11_told_100 1 rfl rfl ?_
          by_cases c8 : p1 = (0 : Int32)
          · have hF := ite_t hF c8
            refine q_tab (tgt := 136) C dX11_told_101 0 (by rw [c8]; decide) (by decide) (by decide) rfl (by decide) ?_
            refine q_aload_n C dX11_told_136 0 rfl rfl ?_
            refine q_get (C0 := RX11) (T := TX11) (N := 11) (k0 := 3) C lk1 0 rfl rfl (by decide) lk0 rfl (v := .ref o_pad) rfl dX11_told_137 ?_
            refine q_get (C0 := RX7) (T := TX7) (N := 2) (k0 := 1) C lk3 11 rfl rfl (by decide) lk2 rfl (v := .int v_pad_size) rfl dX11_told_140 ?_
            cases hF
            exact q_ireti C hA0 hr dX11_told_143 hQ
          · have hF := ite_f hF c8
            by_cases c9 : p1 = (1 : Int32)
            · have hF := ite_t hF c9
              refine q_tab (tgt := 144) C dX11_told_101 1 (by rw [c9]; decide) (by decide) (by decide) rfl (by decide) ?_
              refine q_aload_n C dX11_told_144 0 rfl rfl ?_
              refine q_get (C0 := RX11) (T := TX11) (N := 11) (k0 := 0) C lk1 0 rfl rfl (by decide) lk4 rfl (v := .ref o_sea) rfl dX11_told_145 ?_
              refine q_get (C0 := RX8) (T := TX8) (N := 7) (k0 := 0) C lk6 1 rfl rfl (by decide) lk5 rfl (v := .int v_sea_there) rfl dX11_told_148 ?_
              cases hF
              exact q_ireti C hA0 hr dX11_told_151 hQ
            · have hF := ite_f hF c9
              by_cases c10 : p1 = (2 : Int32)
              · have hF := ite_t hF c10
                refine q_tab (tgt := 152) C dX11_told_101 2 (by rw [c10]; decide) (by decide) (by decide) rfl (by decide) ?_
                refine q_aload_n C dX11_told_152 0 rfl rfl ?_
                refine q_get (C0 := RX11) (T := TX11) (N := 11) (k0 := 0) C lk1 0 rfl rfl (by decide) lk4 rfl (v := .ref o_sea) rfl dX11_told_153 ?_
                refine q_get (C0 := RX8) (T := TX8) (N := 7) (k0 := 1) C lk6 1 rfl rfl (by decide) lk7 rfl (v := .int v_sea_month) rfl dX11_told_156 ?_
                cases hF
                exact q_ireti C hA0 hr dX11_told_159 hQ
              · have hF := ite_f hF c10
                by_cases c11 : p1 = (3 : Int32)
                · have hF := ite_t hF c11
                  refine q_tab (tgt := 160) C dX11_told_101 3 (by rw [c11]; decide) (by decide) (by decide) rfl (by decide) ?_
                  refine q_aload_n C dX11_told_160 0 rfl rfl ?_
                  refine q_get (C0 := RX11) (T := TX11) (N := 11) (k0 := 0) C lk1 0 rfl rfl (by decide) lk4 rfl (v := .ref o_sea) rfl dX11_told_161 ?_
                  refine q_get (C0 := RX8) (T := TX8) (N := 7) (k0 := 2) C lk6 1 rfl rfl (by decide) lk8 rfl (v := .int v_sea_lost) rfl dX11_told_164 ?_
                  cases hF
                  exact q_ireti C hA0 hr dX11_told_167 hQ
                · have hF := ite_f hF c11
                  by_cases c12 : p1 = (4 : Int32)
                  · have hF := ite_t hF c12
                    refine q_tab (tgt := 168) C dX11_told_101 4 (by rw [c12]; decide) (by decide) (by decide) rfl (by decide) ?_
                    refine q_aload_n C dX11_told_168 0 rfl rfl ?_
                    refine q_get (C0 := RX11) (T := TX11) (N := 11) (k0 := 2) C lk1 0 rfl rfl (by decide) lk9 rfl (v := .ref o_lookout) rfl dX11_told_169 ?_
                    refine q_get (C0 := RX6) (T := TX6) (N := 4) (k0 := 1) C lk11 9 rfl rfl (by decide) lk10 rfl (v := .int v_lookout_counts) rfl dX11_told_172 ?_
                    cases hF
                    exact q_ireti C hA0 hr dX11_told_175 hQ
                  · have hF := ite_f hF c12
                    refine q_tabD (tgt := 176) C dX11_told_101 (by have c8t := lv_neT c8 (show (0 : Int32).toInt = 0 by decide); have c9t := lv_neT c9 (show (1 : Int32).toInt = 1 by decide); have c10t := lv_neT c10 (show (2 : Int32).toInt = 2 by decide); have c11t := lv_neT c11 (show (3 : Int32).toInt = 3 by decide); have c12t := lv_neT c12 (show (4 : Int32).toInt = 4 by decide); omega) (by decide) ?_
                    refine q_bipush (v := (-2 : Int32)) C dX11_told_176 (by decide) ?_
                    cases hF
                    exact q_ireti C hA0 hr dX11_told_178 hQ
        · have hF := ite_f hF c7
          refine q_aload_n C dX11_told_78 0 rfl rfl ?_
          refine q_get (C0 := RX11) (T := TX11) (N := 11) (k0 := 0) C lk1 0 rfl rfl (by decide) lk4 rfl (v := .ref o_sea) rfl dX11_told_79 ?_
          refine q_iload_n C dX11_told_82 1 rfl rfl ?_
          refine q_bipush (v := (100 : Int32)) C dX11_told_83 (by decide) ?_
          refine q_isub C dX11_told_85 ?_
          refine q_bipush (v := (10 : Int32)) C dX11_told_86 (by decide) ?_
          refine q_idiv C dX11_told_88 (by decide) ?_
          refine q_iload_n C dX11_told_89 1 rfl rfl ?_
          refine q_bipush (v := (100 : Int32)) C dX11_told_90 (by decide) ?_
          refine q_isub C dX11_told_92 ?_
          refine q_bipush (v := (10 : Int32)) C dX11_told_93 (by decide) ?_
          refine q_irem C dX11_told_95 (by decide) ?_
          obtain ⟨r13, hc14, hF⟩ := bind_c hF
          refine q_roi (q_runV (As := [.int ((p1 - (100 : Int32)) / (10 : Int32)), .int ((p1 - (100 : Int32)) - (p1 - (100 : Int32)) / (10 : Int32) * (10 : Int32))]) (rest := []) C (fun sz => c_X8_traitOf l dC dI cI cZ cQ o_sea o_sea_heads o_sea_sides o_sea_moods o_sea_moults v_sea_there v_sea_heads v_sea_sides v_sea_moods v_sea_moults v_sea_month v_sea_lost ((p1 - (100 : Int32)) / (10 : Int32)) ((p1 - (100 : Int32)) - (p1 - (100 : Int32)) / (10 : Int32) * (10 : Int32)) r13 hc14 sz) (cwV 2 C.2.2.2.2.1 gX11_told_X8_traitOf rfl rfl rfl (by decide +kernel) ⟨Nat.le_of_ble_eq_true rfl, Nat.le_of_ble_eq_true rfl⟩) 1 rfl rfl rfl [1, 2, 3, 4, 5] rfl rfl rfl rfl (Nat.le_of_ble_eq_true rfl) dX11_told_96 ⟨Nat.zero_le _, Nat.zero_le _⟩) ?_
          cases hF
          exact q_ireti C hA0 hr dX11_told_99 hQ
      · have hF := ite_f hF c6
        refine q_aload_n C dX11_told_59 0 rfl rfl ?_
        refine q_get (C0 := RX11) (T := TX11) (N := 11) (k0 := 2) C lk1 0 rfl rfl (by decide) lk9 rfl (v := .ref o_lookout) rfl dX11_told_60 ?_
        refine q_get (C0 := RX6) (T := TX6) (N := 4) (k0 := 0) C lk11 9 rfl rfl (by decide) lk12 rfl (v := .ref o_lookout_seen) rfl dX11_told_63 ?_
        refine q_iload_n C dX11_told_66 1 rfl rfl ?_
        refine q_bipush (v := (30 : Int32)) C dX11_told_67 (by decide) ?_
        refine q_isub C dX11_told_69 ?_
        obtain ⟨hc15, hF⟩ := ite_c hF
        refine q_iald C 10 0 rfl rfl (ix_in hc15) dX11_told_70 ?_
        cases hF
        exact q_ireti C hA0 hr dX11_told_71 hQ
    · have hF := ite_f hF c4
      refine q_aload_n C dX11_told_35 0 rfl rfl ?_
      refine q_get (C0 := RX11) (T := TX11) (N := 11) (k0 := 1) C lk1 0 rfl rfl (by decide) lk13 rfl (v := .ref o_treaty) rfl dX11_told_36 ?_
      refine q_get (C0 := RX9) (T := TX9) (N := 2) (k0 := 1) C lk15 6 rfl rfl (by decide) lk14 rfl (v := .ref o_treaty_clashes) rfl dX11_told_39 ?_
      refine q_iload_n C dX11_told_42 1 rfl rfl ?_
      refine q_bipush (v := (20 : Int32)) C dX11_told_43 (by decide) ?_
      refine q_isub C dX11_told_45 ?_
      obtain ⟨hc16, hF⟩ := ite_c hF
      refine q_iald C 8 0 rfl rfl (ix_in hc16) dX11_told_46 ?_
      cases hF
      exact q_ireti C hA0 hr dX11_told_47 hQ
  · have hF := ite_f hF c2
    refine q_aload_n C dX11_told_11 0 rfl rfl ?_
    refine q_get (C0 := RX11) (T := TX11) (N := 11) (k0 := 1) C lk1 0 rfl rfl (by decide) lk13 rfl (v := .ref o_treaty) rfl dX11_told_12 ?_
    refine q_get (C0 := RX9) (T := TX9) (N := 2) (k0 := 0) C lk15 6 rfl rfl (by decide) lk16 rfl (v := .ref o_treaty_words) rfl dX11_told_15 ?_
    refine q_iload_n C dX11_told_18 1 rfl rfl ?_
    refine q_bipush (v := (10 : Int32)) C dX11_told_19 (by decide) ?_
    refine q_isub C dX11_told_21 ?_
    obtain ⟨hc17, hF⟩ := ite_c hF
    refine q_iald C 7 0 rfl rfl (ix_in hc17) dX11_told_22 ?_
    cases hF
    exact q_ireti C hA0 hr dX11_told_23 hQ
