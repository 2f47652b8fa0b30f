/-! the law: its switch, its loop -/
theorem and31 (x : Int32) : ∃ j, j < 32 ∧ x &&& 31 = nI j := by
  refine ⟨(x &&& 31).toBitVec.toNat, ?_, (nI_bv _).symm⟩
  rw [Int32.toBitVec_and, BitVec.toNat_and]
  have h : (31 : Int32).toBitVec.toNat = 31 := by decide
  rw [h]
  exact Nat.lt_of_le_of_lt Nat.and_le_right (by decide)
set_option maxRecDepth 100000 in
set_option maxHeartbeats 8000000 in
theorem l_body {p : Program} {l : Launch} {e : Env} {s : State} {m : MethodId} {below : List Frame} {meth : Method} {c : Code} {b L : Nat} {xs : Nat → Int32} {dC : Nat → ClassId} {dI : Nat → Nat → Nat} {cI cZ cQ : ClassId} {cells slots : Nat} {a g : Nat → Nat} {t : Nat} (hc : lwC p s m meth c b L xs (dC, dI) (qT cI cZ cQ)) (hf0 : cells + 13 ≤ 600000 ∧ slots + 82 ≤ 7302250) (ht : t + 7 ≤ L) {ws : va_W} (hI : LI cI cZ cQ a g ws) (kk : ∀ ws, LI cI cZ cQ a g ws → lG p l e s m below meth c b (dC, dI) (cells + 13) (slots + 82) (llv a g b t) [] ws 1027) : lG p l e s m below meth c b (dC, dI) cells slots (llv a g b t) [] ws 27 := by
  obtain ⟨n, nc, v_sea_there, v_sea_month, v_sea_lost, v_sea_heads, v_sea_sides, v_sea_moods, v_sea_moults, v_treaty_words, v_treaty_clashes, v_lookout_seen, v_lookout_countRocks, v_lookout_countWantings, v_pad_signs, v_images, v_trial_isFaulty, v_trial_acts, v_trial_why, v_trial_readings, v_trial_signedAll, v_trial_sea_there, v_trial_sea_month, v_trial_sea_lost, v_trial_sea_heads, v_trial_sea_sides, v_trial_sea_moods, v_trial_sea_moults, v_trial_act_kind, v_trial_act_one, v_trial_act_other, v_bringing_size, v_bringing_oneListens, v_bringing_otherListens, v_bringing_fewest, v_bringing_firstClause, v_bringing_steps, v_bringing_firsts, v_bringing_queue, v_guess_size, v_guess_nextRock, v_guess_leftAtMost, v_guess_sets, v_guess_tally, v_game_wins, v_fraction_upper, v_fraction_lower, v_got, u_book, u_moults, u_words, u_clashes, u_rocks, u_count, u_pad, u_image, u_isKept, u_readMany, u_signedAll, u_reason, u_acts, u_waitUp, u_waitLow, u_now, u_reached, u_queue, u_got, u_wins, w0, w1, rfl, hn, hcn, hR, he, i0, i1⟩ := hI
  have hc2 := hc
  obtain ⟨C, hX, hbl, hL, hret⟩ := hc
  have hbA : ¬ lA s b := Nat.not_le.mpr hbl
  unfold lG
  refine q_aload_n C dL_law_27 3 rfl rfl ?_
  refine q_iload_n C dL_law_28 0 rfl rfl ?_
  refine q_sld (j := t) C hX hbl hbA hL rfl (by omega) dL_law_29 ?_
  refine q_bipush (v := 31) C dL_law_30 (by decide) ?_
  refine q_iand C dL_law_32 ?_
  obtain ⟨j, hj, ej⟩ := and31 (xs t)
  rw [ej]
  match j, hj with
  | 0, _ => exact q_tab (tgt := 156) C dL_law_33 0 (nI_toInt (by decide)) (by decide) (by decide) rfl (by decide) (L_herd hc2 hf0 ht hn hcn hR he i0 i1 kk)
  | 1, _ => exact q_tab (tgt := 219) C dL_law_33 1 (nI_toInt (by decide)) (by decide) (by decide) rfl (by decide) (L_clause hc2 hf0 ht hn hcn hR he i0 i1 kk)
  | 2, _ => exact q_tab (tgt := 252) C dL_law_33 2 (nI_toInt (by decide)) (by decide) (by decide) rfl (by decide) (L_clash hc2 hf0 ht hn hcn hR he i0 i1 kk)
  | 3, _ => exact q_tab (tgt := 311) C dL_law_33 3 (nI_toInt (by decide)) (by decide) (by decide) rfl (by decide) (L_rock hc2 hf0 ht hn hcn hR he i0 i1 kk)
  | 4, _ => exact q_tab (tgt := 344) C dL_law_33 4 (nI_toInt (by decide)) (by decide) (by decide) rfl (by decide) (L_say hc2 hf0 ht hn hcn hR he i0 i1 kk)
  | 5, _ => exact q_tab (tgt := 367) C dL_law_33 5 (nI_toInt (by decide)) (by decide) (by decide) rfl (by decide) (L_wipe hc2 hf0 ht hn hcn hR he i0 i1 kk)
  | 6, _ => exact q_tab (tgt := 380) C dL_law_33 6 (nI_toInt (by decide)) (by decide) (by decide) rfl (by decide) (L_fault hc2 hf0 ht hn hcn hR he i0 i1 kk)
  | 7, _ => exact q_tab (tgt := 393) C dL_law_33 7 (nI_toInt (by decide)) (by decide) (by decide) rfl (by decide) (L_judge hc2 hf0 ht hn hcn hR he i0 i1 kk)
  | 8, _ => exact q_tab (tgt := 416) C dL_law_33 8 (nI_toInt (by decide)) (by decide) (by decide) rfl (by decide) (L_done hc2 hf0 ht hn hcn hR he i0 i1 kk)
  | 9, _ => exact q_tab (tgt := 429) C dL_law_33 9 (nI_toInt (by decide)) (by decide) (by decide) rfl (by decide) (L_behind hc2 hf0 ht hn hcn hR he i0 i1 kk)
  | 10, _ => exact q_tab (tgt := 462) C dL_law_33 10 (nI_toInt (by decide)) (by decide) (by decide) rfl (by decide) (L_then hc2 hf0 ht hn hcn hR he i0 i1 kk)
  | 11, _ => exact q_tab (tgt := 485) C dL_law_33 11 (nI_toInt (by decide)) (by decide) (by decide) rfl (by decide) (L_who hc2 hf0 ht hn hcn hR he i0 i1 kk)
  | 12, _ => exact q_tab (tgt := 508) C dL_law_33 12 (nI_toInt (by decide)) (by decide) (by decide) rfl (by decide) (L_bring hc2 hf0 ht hn hcn hR he i0 i1 kk)
  | 13, _ => exact q_tab (tgt := 571) C dL_law_33 13 (nI_toInt (by decide)) (by decide) (by decide) rfl (by decide) (L_drop hc2 hf0 ht hn hcn hR he i0 i1 kk)
  | 14, _ => exact q_tab (tgt := 604) C dL_law_33 14 (nI_toInt (by decide)) (by decide) (by decide) rfl (by decide) (L_share hc2 hf0 ht hn hcn hR he i0 i1 kk)
  | 15, _ => exact q_tab (tgt := 637) C dL_law_33 15 (nI_toInt (by decide)) (by decide) (by decide) rfl (by decide) (L_waiting hc2 hf0 ht hn hcn hR he i0 i1 kk)
  | 16, _ => exact q_tab (tgt := 681) C dL_law_33 16 (nI_toInt (by decide)) (by decide) (by decide) rfl (by decide) (L_reads hc2 hf0 ht hn hcn hR he i0 i1 kk)
  | 17, _ => exact q_tab (tgt := 714) C dL_law_33 17 (nI_toInt (by decide)) (by decide) (by decide) rfl (by decide) (L_counted hc2 hf0 ht hn hcn hR he i0 i1 kk)
  | 18, _ => exact q_tab (tgt := 747) C dL_law_33 18 (nI_toInt (by decide)) (by decide) (by decide) rfl (by decide) (L_forget hc2 hf0 ht hn hcn hR he i0 i1 kk)
  | 19, _ => exact q_tab (tgt := 760) C dL_law_33 19 (nI_toInt (by decide)) (by decide) (by decide) rfl (by decide) (L_went hc2 hf0 ht hn hcn hR he i0 i1 kk)
  | 20, _ => exact q_tab (tgt := 783) C dL_law_33 20 (nI_toInt (by decide)) (by decide) (by decide) rfl (by decide) (L_ask hc2 hf0 ht hn hcn hR he i0 i1 kk)
  | 21, _ => exact q_tab (tgt := 806) C dL_law_33 21 (nI_toInt (by decide)) (by decide) (by decide) rfl (by decide) (L_turning hc2 hf0 ht hn hcn hR he i0 i1 kk)
  | 22, _ => exact q_tab (tgt := 839) C dL_law_33 22 (nI_toInt (by decide)) (by decide) (by decide) rfl (by decide) (L_drift hc2 hf0 ht hn hcn hR he i0 i1 kk)
  | 23, _ => exact q_tab (tgt := 915) C dL_law_33 23 (nI_toInt (by decide)) (by decide) (by decide) rfl (by decide) (L_year hc2 hf0 ht hn hcn hR he i0 i1 kk)
  | 24, _ => exact q_tab (tgt := 958) C dL_law_33 24 (nI_toInt (by decide)) (by decide) (by decide) rfl (by decide) (L_image hc2 hf0 ht hn hcn hR he i0 i1 kk)
  | 25, _ => exact q_tab (tgt := 981) C dL_law_33 25 (nI_toInt (by decide)) (by decide) (by decide) rfl (by decide) (L_restore hc2 hf0 ht hn hcn hR he i0 i1 kk)
  | 26, _ => exact q_tab (tgt := 1004) C dL_law_33 26 (nI_toInt (by decide)) (by decide) (by decide) rfl (by decide) (L_told hc2 hf0 ht hn hcn hR he i0 i1 kk)
  | j + 27, hj => exact q_tabD (tgt := 1027) C dL_law_33 (Or.inr (by rw [nI_toInt (by omega)]; omega)) (by decide) (q_cells (Nat.le_add_right _ _) (Nat.le_add_right _ _) (kk _ ⟨n, nc, v_sea_there, v_sea_month, v_sea_lost, v_sea_heads, v_sea_sides, v_sea_moods, v_sea_moults, v_treaty_words, v_treaty_clashes, v_lookout_seen, v_lookout_countRocks, v_lookout_countWantings, v_pad_signs, v_images, v_trial_isFaulty, v_trial_acts, v_trial_why, v_trial_readings, v_trial_signedAll, v_trial_sea_there, v_trial_sea_month, v_trial_sea_lost, v_trial_sea_heads, v_trial_sea_sides, v_trial_sea_moods, v_trial_sea_moults, v_trial_act_kind, v_trial_act_one, v_trial_act_other, v_bringing_size, v_bringing_oneListens, v_bringing_otherListens, v_bringing_fewest, v_bringing_firstClause, v_bringing_steps, v_bringing_firsts, v_bringing_queue, v_guess_size, v_guess_nextRock, v_guess_leftAtMost, v_guess_sets, v_guess_tally, v_game_wins, v_fraction_upper, v_fraction_lower, v_got, u_book, u_moults, u_words, u_clashes, u_rocks, u_count, u_pad, u_image, u_isKept, u_readMany, u_signedAll, u_reason, u_acts, u_waitUp, u_waitLow, u_now, u_reached, u_queue, u_got, u_wins, w0, w1, rfl, hn, hcn, hR, he, i0, i1⟩))
set_option maxRecDepth 100000 in
theorem l_loop {p : Program} {l : Launch} {e : Env} {s : State} {m : MethodId} {below : List Frame} {meth : Method} {c : Code} {b L : Nat} {xs : Nat → Int32} {dC : Nat → ClassId} {dI : Nat → Nat → Nat} {cI cZ cQ : ClassId} {a g : Nat → Nat} (hc : lwC p s m meth c b L xs (dC, dI) (qT cI cZ cQ)) : ∀ (d t cells slots : Nat) (ws : va_W), L < t + 7 * d → t ≤ L + 7 → cells + 13 * d ≤ 600000 → slots + 82 * d ≤ 7302250 → LI cI cZ cQ a g ws → lG p l e s m below meth c b (dC, dI) cells slots (llv a g b t) [] ws 18 := by
  have hc2 := hc
  obtain ⟨C, hX, hbl, hL, hret⟩ := hc
  have hbA : ¬ lA s b := Nat.not_le.mpr hbl
  intro d
  induction d with
  | zero =>
    intro t cells slots ws h1 h2 h3 h4 hI
    unfold lG
    refine q_iload_n C dL_law_18 0 rfl rfl ?_
    refine q_aload_n C dL_law_19 3 rfl rfl ?_
    refine q_slen C hX hbl hbA dL_law_20 ?_
    refine q_bipush (v := 7) C dL_law_21 (by decide) ?_
    refine q_isub C dL_law_23 ?_
    have e7 : (7 : Int32).toInt = 7 := by decide
    have eL : (nI L - 7).toInt = (L : Int) - 7 := by
      rw [i_sub] <;> rw [nI_toInt (by omega), e7] <;> omega
    refine q_icmp_gt (tgt := 1033) C dL_law_24 (by decide) (fun _ => ?_) (fun z => absurd (by rw [i_lt, eL, nI_toInt (by omega)]; omega) z)
    refine q_iconst (v := 1) C dL_law_1033 (by decide) ?_
    exact fun H locs ls g1 g2 g3 g4 => W.widen (by omega) (by omega) (va_forget g4.2.2 (lw_ret C.1 C.2.1 hret C.2.2.2.2.2.2.2 dL_law_1034))
  | succ d ih =>
    intro t cells slots ws h1 h2 h3 h4 hI
    unfold lG
    refine q_iload_n C dL_law_18 0 rfl rfl ?_
    refine q_aload_n C dL_law_19 3 rfl rfl ?_
    refine q_slen C hX hbl hbA dL_law_20 ?_
    refine q_bipush (v := 7) C dL_law_21 (by decide) ?_
    refine q_isub C dL_law_23 ?_
    have e7 : (7 : Int32).toInt = 7 := by decide
    have eL : (nI L - 7).toInt = (L : Int) - 7 := by
      rw [i_sub] <;> rw [nI_toInt (by omega), e7] <;> omega
    refine q_icmp_gt (tgt := 1033) C dL_law_24 (by decide) (fun _ => ?_) (fun z => ?_)
    · refine q_iconst (v := 1) C dL_law_1033 (by decide) ?_
      exact fun H locs ls g1 g2 g3 g4 => W.widen (by omega) (by omega) (va_forget g4.2.2 (lw_ret C.1 C.2.1 hret C.2.2.2.2.2.2.2 dL_law_1034))
    · have ht : t + 7 ≤ L := by
        rw [i_lt, eL, nI_toInt (by omega)] at z
        omega
      refine l_body hc2 ⟨by omega, by omega⟩ ht hI (fun ws2 hI2 => ?_)
      unfold lG
      refine q_iinc C (llv a g b (t + 7)) dL_law_1027 0 rfl (v := nI (t + 7)) (nI_add t 7) (by decide) rfl ?_
      exact q_goto (tgt := 18) C dL_law_1030 (by decide) (ih (t + 7) (cells + 13) (slots + 82) ws2 (by omega) (by omega) (by omega) (by omega) hI2)
