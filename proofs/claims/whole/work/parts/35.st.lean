/-! the law: its start -/
theorem mn_0 : Cond.methodLinkNest RX11 11 yX8_init "SealStrait" ∈ lw_tbl := mt_1 (List.mem_of_getElem? (i := 27) (by decide +kernel))
theorem mn_1 : Cond.methodLinkNest RX11 32 yX7_init "SealStrait" ∈ lw_tbl := mt_1 (List.mem_of_getElem? (i := 103) (by decide +kernel))
theorem mn_2 : Cond.methodLinkNest RX11 45 yX10_init "SealStrait" ∈ lw_tbl := mt_1 (List.mem_of_getElem? (i := 120) (by decide +kernel))
theorem mn_3 : Cond.methodLinkNest RX10 11 yX8_init "SealStrait" ∈ lw_tbl := mt_1 (List.mem_of_getElem? (i := 125) (by decide +kernel))
theorem mn_4 : Cond.methodLinkNest RX10 20 yX0_init "SealStrait" ∈ lw_tbl := mt_1 (List.mem_of_getElem? (i := 128) (by decide +kernel))
theorem mn_5 : Cond.methodLinkNest RX11 52 yX1_init "SealStrait" ∈ lw_tbl := mt_1 (List.mem_of_getElem? (i := 177) (by decide +kernel))
theorem mn_6 : Cond.methodLinkNest RX11 59 yX4_init "SealStrait" ∈ lw_tbl := mt_1 (List.mem_of_getElem? (i := 210) (by decide +kernel))
theorem mn_7 : Cond.methodLinkNest RX11 66 yX3_init "SealStrait" ∈ lw_tbl := mt_1 (List.mem_of_getElem? (i := 235) (by decide +kernel))
theorem mn_8 : Cond.methodLinkNest RX11 73 yX2_init "SealStrait" ∈ lw_tbl := mt_2 (List.mem_of_getElem? (i := 6) (by decide +kernel))
theorem mn_9 : Cond.methodLinkNest RX8 34 yX11_within "SealStrait" ∈ lw_tbl := mt_2 (List.mem_of_getElem? (i := 62) (by decide +kernel))
theorem mn_10 : Cond.methodLinkNest RX9 24 yX11_within "SealStrait" ∈ lw_tbl := mt_2 (List.mem_of_getElem? (i := 81) (by decide +kernel))
theorem mn_11 : Cond.methodLinkNest RX7 30 yX11_within "SealStrait" ∈ lw_tbl := mt_2 (List.mem_of_getElem? (i := 117) (by decide +kernel))
theorem mn_12 : Cond.methodLinkNest RX8 45 yX11_has "SealStrait" ∈ lw_tbl := mt_2 (List.mem_of_getElem? (i := 197) (by decide +kernel))
theorem mn_13 : Cond.methodLinkNest RX1 58 yX11_within "SealStrait" ∈ lw_tbl := mt_3 (List.mem_of_getElem? (i := 28) (by decide +kernel))
theorem mn_14 : Cond.methodLinkNest RX9 28 yX11_has "SealStrait" ∈ lw_tbl := mt_3 (List.mem_of_getElem? (i := 54) (by decide +kernel))
theorem mn_15 : Cond.methodLinkNest RX6 31 yX11_within "SealStrait" ∈ lw_tbl := mt_3 (List.mem_of_getElem? (i := 130) (by decide +kernel))
theorem mn_16 : Cond.methodLinkNest RX11 256 yX5_init "SealStrait" ∈ lw_tbl := mt_3 (List.mem_of_getElem? (i := 204) (by decide +kernel))
theorem mn_17 : Cond.methodLinkNest RX5 9 yX8_init "SealStrait" ∈ lw_tbl := mt_3 (List.mem_of_getElem? (i := 209) (by decide +kernel))
theorem mn_ao : Cond.arrayOver (.object "SealStrait$Image") ∈ lw_tbl := mt_1 (List.mem_of_getElem? (i := 117) (by decide +kernel))
theorem l_nest {s : State} {b : Nat} (hts : ∀ w ∈ lw_tbl, w.before #[Value.ref b] s = true) : qN s := ⟨List.forall_mem_cons.mpr ⟨va_tabs rfl rfl (hts _ mn_0), List.forall_mem_cons.mpr ⟨va_tabs rfl rfl (hts _ mn_1), List.forall_mem_cons.mpr ⟨va_tabs rfl rfl (hts _ mn_2), List.forall_mem_cons.mpr ⟨va_tabs rfl rfl (hts _ mn_3), List.forall_mem_cons.mpr ⟨va_tabs rfl rfl (hts _ mn_4), List.forall_mem_cons.mpr ⟨va_tabs rfl rfl (hts _ mn_5), List.forall_mem_cons.mpr ⟨va_tabs rfl rfl (hts _ mn_6), List.forall_mem_cons.mpr ⟨va_tabs rfl rfl (hts _ mn_7), List.forall_mem_cons.mpr ⟨va_tabs rfl rfl (hts _ mn_8), List.forall_mem_cons.mpr ⟨va_tabs rfl rfl (hts _ mn_9), List.forall_mem_cons.mpr ⟨va_tabs rfl rfl (hts _ mn_10), List.forall_mem_cons.mpr ⟨va_tabs rfl rfl (hts _ mn_11), List.forall_mem_cons.mpr ⟨va_tabs rfl rfl (hts _ mn_12), List.forall_mem_cons.mpr ⟨va_tabs rfl rfl (hts _ mn_13), List.forall_mem_cons.mpr ⟨va_tabs rfl rfl (hts _ mn_14), List.forall_mem_cons.mpr ⟨va_tabs rfl rfl (hts _ mn_15), List.forall_mem_cons.mpr ⟨va_tabs rfl rfl (hts _ mn_16), List.forall_mem_cons.mpr ⟨va_tabs rfl rfl (hts _ mn_17), fun _ h => absurd h List.not_mem_nil⟩⟩⟩⟩⟩⟩⟩⟩⟩⟩⟩⟩⟩⟩⟩⟩⟩⟩, va_AO.of (hts _ mn_ao)⟩
theorem l_known {s : State} {b : Nat} (hts : ∀ w ∈ lw_tbl, w.before #[Value.ref b] s = true) : ∃ (dC : Nat → ClassId) (dI : Nat → Nat → Nat) (cI cZ cQ : ClassId), va_K (dC, dI) vwCl (qT cI cZ cQ) s := by
  obtain ⟨cX0, iX0, kX0⟩ := u_known (C := RX0) (T := TX0) (N := 3) (n := 3) hts (fun w h => (mu_X0 w h).1) (hts _ mw_89.1)
  obtain ⟨cX1, iX1, kX1⟩ := u_known (C := RX1) (T := TX1) (N := 8) (n := 8) hts (fun w h => (mu_X1 w h).1) (hts _ mw_45.1)
  obtain ⟨cX2, iX2, kX2⟩ := u_known (C := RX2) (T := TX2) (N := 2) (n := 2) hts (fun w h => (mu_X2 w h).1) (hts _ mw_33.1)
  obtain ⟨cX3, iX3, kX3⟩ := u_known (C := RX3) (T := TX3) (N := 1) (n := 1) hts (fun w h => (mu_X3 w h).1) (hts _ mw_37.1)
  obtain ⟨cX4, iX4, kX4⟩ := u_known (C := RX4) (T := TX4) (N := 5) (n := 5) hts (fun w h => (mu_X4 w h).1) (hts _ mw_41.1)
  obtain ⟨cX5, iX5, kX5⟩ := u_known (C := RX5) (T := TX5) (N := 3) (n := 3) hts (fun w h => (mu_X5 w h).1) (hts _ mw_625.1)
  obtain ⟨cX6, iX6, kX6⟩ := u_known (C := RX6) (T := TX6) (N := 4) (n := 4) hts (fun w h => (mu_X6 w h).1) (hts _ mw_11.1)
  obtain ⟨cX7, iX7, kX7⟩ := u_known (C := RX7) (T := TX7) (N := 2) (n := 2) hts (fun w h => (mu_X7 w h).1) (hts _ mw_7.1)
  obtain ⟨cX8, iX8, kX8⟩ := u_known (C := RX8) (T := TX8) (N := 7) (n := 7) hts (fun w h => (mu_X8 w h).1) (hts _ mw_19.1)
  obtain ⟨cX9, iX9, kX9⟩ := u_known (C := RX9) (T := TX9) (N := 2) (n := 2) hts (fun w h => (mu_X9 w h).1) (hts _ mw_15.1)
  obtain ⟨cX10, iX10, kX10⟩ := u_known (C := RX10) (T := TX10) (N := 7) (n := 7) hts (fun w h => (mu_X10 w h).1) (hts _ mw_1.1)
  obtain ⟨cX11, iX11, kX11⟩ := u_known (C := RX11) (T := TX11) (N := 11) (n := 11) hts (fun w h => (mu_X11 w h).1) (hts _ mw_809.1)
  obtain ⟨cX12, iX12, kX12⟩ := u_known (C := RX12) (T := TX12) (N := 22) (n := 22) hts (fun w h => (mu_X12 w h).1) (hts _ mw_811.1)
  obtain ⟨cI, kI2, pI, aI1, aI2, aI3⟩ := Cond.arrayClass_spec (hts _ mw_30.1)
  obtain ⟨cZ, kZ2, pZ, aZ1, aZ2, aZ3⟩ := Cond.arrayClass_spec (hts _ mw_101.1)
  obtain ⟨pQ, cQ, kQ2, aQ1, -, aQ2, aQ3, aQ4⟩ := Cond.arrayOver_spec (hts _ mn_ao)
  refine ⟨fun k => ([cX0, cX1, cX2, cX3, cX4, cX5, cX6, cX7, cX8, cX9, cX10, cX11, cX12] : List ClassId).getD k cX0, fun k => ([iX0, iX1, iX2, iX3, iX4, iX5, iX6, iX7, iX8, iX9, iX10, iX11, iX12] : List (Nat → Nat)).getD k iX0, cI, cZ, cQ, fun k q hq => ?_, fun k q hq => ?_⟩
  · match k, hq with
    | 0, hq => cases hq; exact kX0
    | 1, hq => cases hq; exact kX1
    | 2, hq => cases hq; exact kX2
    | 3, hq => cases hq; exact kX3
    | 4, hq => cases hq; exact kX4
    | 5, hq => cases hq; exact kX5
    | 6, hq => cases hq; exact kX6
    | 7, hq => cases hq; exact kX7
    | 8, hq => cases hq; exact kX8
    | 9, hq => cases hq; exact kX9
    | 10, hq => cases hq; exact kX10
    | 11, hq => cases hq; exact kX11
    | 12, hq => cases hq; exact kX12
    | k + 13, hq => cases hq
  · match k, hq with
    | 0, hq => cases hq; exact ⟨fun n z => ⟨fun k h => (by cases h), kI2, aI2, pI, aI3⟩, aI1⟩
    | 1, hq => cases hq; exact ⟨fun n z => ⟨fun k h => (by cases h), kZ2, aZ2, pZ, aZ3⟩, aZ1⟩
    | 2, hq => cases hq; exact ⟨fun n z => ⟨fun k h => (by cases h), kQ2, aQ2, pQ, aQ3⟩, kQ2, pQ, aQ2, aQ3, aQ1, aQ4⟩
    | k + 3, hq => cases hq
def aU (o : Nat) (u : Nat × Nat × Nat × Nat × Nat × Nat × Nat × Nat × Nat × Nat × Nat × Nat × Nat × Nat × Nat × Nat × Nat × Nat × Nat × Nat × Nat × Nat × Nat × Nat × Nat × Nat × Nat × Nat × Nat × Nat × Nat × Nat × Nat) : Nat → Nat := fun i => ([o, u.1, u.2.1, u.2.2.1, u.2.2.2.1, u.2.2.2.2.1, u.2.2.2.2.2.1, u.2.2.2.2.2.2.1, u.2.2.2.2.2.2.2.1, u.2.2.2.2.2.2.2.2.1, u.2.2.2.2.2.2.2.2.2.1, u.2.2.2.2.2.2.2.2.2.2.1, u.2.2.2.2.2.2.2.2.2.2.2.1, u.2.2.2.2.2.2.2.2.2.2.2.2.1, u.2.2.2.2.2.2.2.2.2.2.2.2.2.1, u.2.2.2.2.2.2.2.2.2.2.2.2.2.2.1, u.2.2.2.2.2.2.2.2.2.2.2.2.2.2.2.1, u.2.2.2.2.2.2.2.2.2.2.2.2.2.2.2.2.1, u.2.2.2.2.2.2.2.2.2.2.2.2.2.2.2.2.2.1, u.2.2.2.2.2.2.2.2.2.2.2.2.2.2.2.2.2.2.1, u.2.2.2.2.2.2.2.2.2.2.2.2.2.2.2.2.2.2.2.1, u.2.2.2.2.2.2.2.2.2.2.2.2.2.2.2.2.2.2.2.2.1, u.2.2.2.2.2.2.2.2.2.2.2.2.2.2.2.2.2.2.2.2.2.1, u.2.2.2.2.2.2.2.2.2.2.2.2.2.2.2.2.2.2.2.2.2.2.1, u.2.2.2.2.2.2.2.2.2.2.2.2.2.2.2.2.2.2.2.2.2.2.2.1, u.2.2.2.2.2.2.2.2.2.2.2.2.2.2.2.2.2.2.2.2.2.2.2.2.1, u.2.2.2.2.2.2.2.2.2.2.2.2.2.2.2.2.2.2.2.2.2.2.2.2.2.1, u.2.2.2.2.2.2.2.2.2.2.2.2.2.2.2.2.2.2.2.2.2.2.2.2.2.2.1, u.2.2.2.2.2.2.2.2.2.2.2.2.2.2.2.2.2.2.2.2.2.2.2.2.2.2.2.1, u.2.2.2.2.2.2.2.2.2.2.2.2.2.2.2.2.2.2.2.2.2.2.2.2.2.2.2.2.1, u.2.2.2.2.2.2.2.2.2.2.2.2.2.2.2.2.2.2.2.2.2.2.2.2.2.2.2.2.2.1, u.2.2.2.2.2.2.2.2.2.2.2.2.2.2.2.2.2.2.2.2.2.2.2.2.2.2.2.2.2.2.1, u.2.2.2.2.2.2.2.2.2.2.2.2.2.2.2.2.2.2.2.2.2.2.2.2.2.2.2.2.2.2.2.1, u.2.2.2.2.2.2.2.2.2.2.2.2.2.2.2.2.2.2.2.2.2.2.2.2.2.2.2.2.2.2.2.2] : List Nat).getD i 0
def gU (o : Nat) (u : Nat × Nat × Nat × Nat × Nat × Nat × Nat × Nat × Nat × Nat × Nat × Nat × Nat × Nat) : Nat → Nat := fun i => ([o, u.1, u.2.1, u.2.2.1, u.2.2.2.1, u.2.2.2.2.1, u.2.2.2.2.2.1, u.2.2.2.2.2.2.1, u.2.2.2.2.2.2.2.1, u.2.2.2.2.2.2.2.2.1, u.2.2.2.2.2.2.2.2.2.1, u.2.2.2.2.2.2.2.2.2.2.1, u.2.2.2.2.2.2.2.2.2.2.2.1, u.2.2.2.2.2.2.2.2.2.2.2.2.1, u.2.2.2.2.2.2.2.2.2.2.2.2.2] : List Nat).getD i 0
set_option maxRecDepth 100000 in
set_option maxHeartbeats 8000000 in
theorem l_start {p : Program} {l : Launch} {e : Env} {s : State} {m : MethodId} {below : List Frame} {meth : Method} {c : Code} {b L : Nat} {xs : Nat → Int32} {dC : Nat → ClassId} {dI : Nat → Nat → Nat} {cI cZ cQ : ClassId} (hc : lwC p s m meth c b L xs (dC, dI) (qT cI cZ cQ)) : qG p l e room_1 s m #[Value.ref b] below meth c 4 (dC, dI) (lA s) (lA s) (lw_Z below #[Value.ref b] s) 0 0 [(0, .ref b)] [] [] 0 := by
  have hc2 := hc
  obtain ⟨C, hX, hbl, hL, hret⟩ := hc
  have hA : ∀ q, s.heap.size ≤ q → lA s q := fun _ h => h
  refine q_new (C0 := RX11) (T := TX11) (N := 11) (ci := 11) (fs := [.null, .null, .null, .null, .null, .null, .null, .null, .null, .null, .null]) C hA (fun w h => (mu_X11 w h).1) tyX11 tyX11_ok mw_808.1 mw_809.1 mw_135.1 rfl (fun j hj => match j, hj with | 0, _ => rfl | 1, _ => rfl | 2, _ => rfl | 3, _ => rfl | 4, _ => rfl | 5, _ => rfl | 6, _ => rfl | 7, _ => rfl | 8, _ => rfl | 9, _ => rfl | 10, _ => rfl | k + 11, h => absurd h (by omega)) (Nat.le_of_ble_eq_true rfl) (Nat.le_of_ble_eq_true rfl) dL_law_0 (fun q => ?_)
  refine q_dup C dL_law_3 rfl ?_
  refine q_rnv hA (fun u => wX cI cZ cQ (aU q u) 0 0 0 (fun _ => 0) (fun _ => 0) (fun _ => 0) (fun _ => 0) (cp 10 (fun _ => 3) (fun _ => 0)) (fun _ => 0) (cp 6 (fun _ => 63) (fun _ => 0)) (nI 0) (fun _ => 0) (fun _ => 0) (fun _ => 0) (nI 0) (fun _ => none) 0 0 0 0 0 0 0 0 (fun _ => 0) (fun _ => 0) (fun _ => 0) (fun _ => 0) 0 0 0 0 0 0 0 0 (fun _ => 0) (fun _ => 0) (fun _ => 0) 0 0 0 (fun _ => 0) (fun _ => 0) (fun _ => 0) 0 1 (fun _ => 0)) [0] [] rfl rfl rfl (by decide) [0, 1, 2, 3, 4, 5, 6, 7, 8, 9, 10, 11, 12, 13, 14, 15, 16, 17, 18, 19, 20, 21, 22, 23, 24, 25, 26, 27, 28, 29, 30, 31, 32, 33] rfl (fun u => rfl) (q_runI (ret := none) (As := []) (rest := [.ref q]) C (fun sz => c_X11_init l dC dI cI cZ cQ q _ fill3 _ fill63 sz) (cwI 0 C.2.2.2.2.1 ggT_X11_init rfl rfl rfl (C.2.2.2.2.1 _ mw_135.1) (C.2.2.2.2.1 _ mw_812.1) (C.2.2.2.2.1 _ mw_813.1) rfl (by decide +kernel) ⟨Nat.le_of_ble_eq_true rfl, Nat.le_of_ble_eq_true rfl⟩) [0] rfl rfl rfl rfl (Nat.le_of_ble_eq_true rfl) dL_law_4 ⟨Nat.le_of_ble_eq_true rfl, Nat.le_of_ble_eq_true rfl⟩) (fun u => ?_)
  refine q_astore_n C [(1, .ref q), (0, .ref b)] dL_law_7 rfl (by decide) rfl ?_
  refine q_new (C0 := RX12) (T := TX12) (N := 22) (ci := 12) (fs := [.null, .null, .null, .null, .null, .null, .int 0, .null, .int 0, .null, .int 0, .int 0, .int 0, .int 0, .null, .null, .null, .long 0, .long 0, .null, .null, .null]) C hA (fun w h => (mu_X12 w h).1) tyX12 tyX12_ok mw_810.1 mw_811.1 mw_144.1 rfl (fun j hj => match j, hj with | 0, _ => rfl | 1, _ => rfl | 2, _ => rfl | 3, _ => rfl | 4, _ => rfl | 5, _ => rfl | 6, _ => rfl | 7, _ => rfl | 8, _ => rfl | 9, _ => rfl | 10, _ => rfl | 11, _ => rfl | 12, _ => rfl | 13, _ => rfl | 14, _ => rfl | 15, _ => rfl | 16, _ => rfl | 17, _ => rfl | 18, _ => rfl | 19, _ => rfl | 20, _ => rfl | 21, _ => rfl | k + 22, h => absurd h (by omega)) (Nat.le_of_ble_eq_true rfl) (Nat.le_of_ble_eq_true rfl) dL_law_8 (fun q2 => ?_)
  refine q_dup C dL_law_11 rfl ?_
  refine q_rnv hA (fun u2 => wX cI cZ cQ (aU q u) 0 0 0 (fun _ => 0) (fun _ => 0) (fun _ => 0) (fun _ => 0) (cp 10 (fun _ => 3) (fun _ => 0)) (fun _ => 0) (cp 6 (fun _ => 63) (fun _ => 0)) (nI 0) (fun _ => 0) (fun _ => 0) (fun _ => 0) (nI 0) (fun _ => none) 0 0 0 0 0 0 0 0 (fun _ => 0) (fun _ => 0) (fun _ => 0) (fun _ => 0) 0 0 0 0 0 0 0 0 (fun _ => 0) (fun _ => 0) (fun _ => 0) 0 0 0 (fun _ => 0) (fun _ => 0) (fun _ => 0) 0 1 (fun _ => 0) ++ (wM cI cZ (gU q2 u2) (fun _ => 0) (fun _ => 0) (cp 10 (fun _ => 3) (fun _ => 0)) (fun _ => 0) (cp 6 (fun _ => 63) (fun _ => 0)) (nI 0) (fun _ => 0) (fun _ => 0) (nI 0) (fun _ => 0) (fun _ => 0) 0 0 0 0 0 0 (fun _ => 0) (fun _ => 0) (fun _ => 0) (fun _ => 0) (fun _ => 0) ++ ([] ++ []))) [34] [0, 1, 2, 3, 4, 5, 6, 7, 8, 9, 10, 11, 12, 13, 14, 15, 16, 17, 18, 19, 20, 21, 22, 23, 24, 25, 26, 27, 28, 29, 30, 31, 32, 33] rfl rfl rfl (by decide) [0, 1, 2, 3, 4, 5, 6, 7, 8, 9, 10, 11, 12, 13, 14, 15, 16, 17, 18, 19, 20, 21, 22, 23, 24, 25, 26, 27, 28, 29, 30, 31, 32, 33, 34, 35, 36, 37, 38, 39, 40, 41, 42, 43, 44, 45, 46, 47, 48] rfl (fun u => rfl) (q_runI (ret := none) (As := []) (rest := [.ref q2]) C (fun sz => c_X12_init l dC dI cI cZ cQ q2 _ _ minit_ev sz) (cwI 0 C.2.2.2.2.1 ggT_X12_init rfl rfl rfl (C.2.2.2.2.1 _ mw_144.1) (C.2.2.2.2.1 _ mw_814.1) (C.2.2.2.2.1 _ mw_815.1) rfl (by decide +kernel) ⟨Nat.le_of_ble_eq_true rfl, Nat.le_of_ble_eq_true rfl⟩) [34] rfl rfl rfl rfl (Nat.le_of_ble_eq_true rfl) dL_law_12 ⟨Nat.le_of_ble_eq_true rfl, Nat.le_of_ble_eq_true rfl⟩) (fun u2 => ?_)
  refine q_astore_n C [(2, .ref q2), (1, .ref q), (0, .ref b)] dL_law_15 rfl (by decide) rfl ?_
  refine q_iconst (v := nI 0) C dL_law_16 (by decide) ?_
  refine q_istore_n C (llv (aU q u) (gU q2 u2) b 0) dL_law_17 rfl (by decide) rfl ?_
  refine q_cells (k := 49) (n := 5264) (Nat.le_of_ble_eq_true rfl) (Nat.le_of_ble_eq_true rfl) ?_
  exact l_loop hc2 513 0 49 5264 _ (by omega) (by omega) (Nat.le_of_ble_eq_true rfl) (Nat.le_of_ble_eq_true rfl) ⟨0, 0, 0, 0, 0, (fun _ => 0), (fun _ => 0), (fun _ => 0), (fun _ => 0), (cp 10 (fun _ => 3) (fun _ => 0)), (fun _ => 0), (cp 6 (fun _ => 63) (fun _ => 0)), (fun _ => 0), (fun _ => 0), (fun _ => 0), (fun _ => none), 0, 0, 0, 0, 0, 0, 0, 0, (fun _ => 0), (fun _ => 0), (fun _ => 0), (fun _ => 0), 0, 0, 0, 0, 0, 0, 0, 0, (fun _ => 0), (fun _ => 0), (fun _ => 0), 0, 0, 0, (fun _ => 0), (fun _ => 0), (fun _ => 0), 0, 1, (fun _ => 0), (fun _ => 0), (fun _ => 0), (cp 10 (fun _ => 3) (fun _ => 0)), (fun _ => 0), (cp 6 (fun _ => 63) (fun _ => 0)), (fun _ => 0), (fun _ => 0), (fun _ => 0), (fun _ => 0), 0, 0, 0, 0, 0, 0, (fun _ => 0), (fun _ => 0), (fun _ => 0), (fun _ => 0), (fun _ => 0), [], [], rfl, by decide, by decide, kR_0, fun _ _ => rfl, Or.inl ⟨rfl, rfl, rfl⟩, Or.inl ⟨rfl, rfl, rfl⟩⟩
