section
-- ===== PART A: goes FIRST, ahead of the names: the tables' words, and 'selects' of the private methods out of them =====
/-- a private method of a class that the tables say can be made, by its rows of tables_1 -/
def lw_okq (q : MethodName × Nat) : Prop := (q.1.cls ≠ "java/lang/invoke/MethodHandle" ∧ q.1.cls ≠ "java/lang/invoke/VarHandle") ∧ Cond.instantiable q.1.cls q.2 ∈ tables_1 ∧ Cond.privateMethod q.1 ∈ tables_1 ∧ Cond.instanceMethod q.1 ∈ tables_1
theorem lw_p0 : lw_okq (⟨"SealStrait$Trial", "begin", "(LSealStrait$Pad;LSealStrait$Sea;)V"⟩, 7) := ⟨⟨by decide +kernel, by decide +kernel⟩, List.mem_of_getElem? (i := 119) (by decide +kernel), List.mem_of_getElem? (i := 370) (by decide +kernel), List.mem_of_getElem? (i := 371) (by decide +kernel)⟩
theorem lw_p1 : lw_okq (⟨"SealStrait$Act", "set", "(III)V"⟩, 3) := ⟨⟨by decide +kernel, by decide +kernel⟩, List.mem_of_getElem? (i := 127) (by decide +kernel), List.mem_of_getElem? (i := 388) (by decide +kernel), List.mem_of_getElem? (i := 389) (by decide +kernel)⟩
theorem lw_p2 : lw_okq (⟨"SealStrait$Sea", "whyNoWhistle", "(I)I"⟩, 7) := ⟨⟨by decide +kernel, by decide +kernel⟩, List.mem_of_getElem? (i := 26) (by decide +kernel), List.mem_of_getElem? (i := 412) (by decide +kernel), List.mem_of_getElem? (i := 413) (by decide +kernel)⟩
theorem lw_p3 : lw_okq (⟨"SealStrait$Sea", "whyNoNet", "(I)I"⟩, 7) := ⟨⟨by decide +kernel, by decide +kernel⟩, List.mem_of_getElem? (i := 26) (by decide +kernel), List.mem_of_getElem? (i := 416) (by decide +kernel), List.mem_of_getElem? (i := 417) (by decide +kernel)⟩
theorem lw_p4 : lw_okq (⟨"SealStrait$Sea", "whyNoJoining", "(II)I"⟩, 7) := ⟨⟨by decide +kernel, by decide +kernel⟩, List.mem_of_getElem? (i := 26) (by decide +kernel), List.mem_of_getElem? (i := 420) (by decide +kernel), List.mem_of_getElem? (i := 421) (by decide +kernel)⟩
theorem lw_p5 : lw_okq (⟨"SealStrait$Trial", "noteReading", "(LSealStrait$Treaty;)V"⟩, 7) := ⟨⟨by decide +kernel, by decide +kernel⟩, List.mem_of_getElem? (i := 119) (by decide +kernel), List.mem_of_getElem? (i := 424) (by decide +kernel), List.mem_of_getElem? (i := 425) (by decide +kernel)⟩
theorem lw_p6 : lw_okq (⟨"SealStrait$Sea", "readAloud", "(I)V"⟩, 7) := ⟨⟨by decide +kernel, by decide +kernel⟩, List.mem_of_getElem? (i := 26) (by decide +kernel), List.mem_of_getElem? (i := 434) (by decide +kernel), List.mem_of_getElem? (i := 435) (by decide +kernel)⟩
theorem lw_p7 : lw_okq (⟨"SealStrait$Sea", "cheer", "(II)V"⟩, 7) := ⟨⟨by decide +kernel, by decide +kernel⟩, List.mem_of_getElem? (i := 26) (by decide +kernel), List.mem_of_getElem? (i := 441) (by decide +kernel), List.mem_of_getElem? (i := 442) (by decide +kernel)⟩
theorem lw_p8 : lw_okq (⟨"SealStrait$Sea", "takeNet", "(I)V"⟩, 7) := ⟨⟨by decide +kernel, by decide +kernel⟩, List.mem_of_getElem? (i := 26) (by decide +kernel), List.mem_of_getElem? (i := 448) (by decide +kernel), List.mem_of_getElem? (i := 449) (by decide +kernel)⟩
theorem lw_p9 : lw_okq (⟨"SealStrait$Sea", "joinTo", "(II)V"⟩, 7) := ⟨⟨by decide +kernel, by decide +kernel⟩, List.mem_of_getElem? (i := 26) (by decide +kernel), List.mem_of_getElem? (i := 452) (by decide +kernel), List.mem_of_getElem? (i := 453) (by decide +kernel)⟩
theorem lw_p10 : lw_okq (⟨"SealStrait$Sea", "passMonth", "()V"⟩, 7) := ⟨⟨by decide +kernel, by decide +kernel⟩, List.mem_of_getElem? (i := 26) (by decide +kernel), List.mem_of_getElem? (i := 456) (by decide +kernel), List.mem_of_getElem? (i := 457) (by decide +kernel)⟩
theorem lw_p11 : lw_okq (⟨"SealStrait$Bringing", "reach", "(III)V"⟩, 8) := ⟨⟨by decide +kernel, by decide +kernel⟩, List.mem_of_getElem? (i := 176) (by decide +kernel), List.mem_of_getElem? (i := 505) (by decide +kernel), List.mem_of_getElem? (i := 506) (by decide +kernel)⟩
theorem lw_p12 : lw_okq (⟨"SealStrait$Bringing", "goOnFrom", "(IIILSealStrait$Treaty;)V"⟩, 8) := ⟨⟨by decide +kernel, by decide +kernel⟩, List.mem_of_getElem? (i := 176) (by decide +kernel), List.mem_of_getElem? (i := 514) (by decide +kernel), List.mem_of_getElem? (i := 515) (by decide +kernel)⟩
theorem lw_p13 : lw_okq (⟨"SealStrait$Fraction", "reduce", "()V"⟩, 2) := ⟨⟨by decide +kernel, by decide +kernel⟩, List.mem_of_getElem? (i := 245) (by decide +kernel), List.mem_of_getElem? (i := 564) (by decide +kernel), List.mem_of_getElem? (i := 565) (by decide +kernel)⟩
theorem lw_p14 : lw_okq (⟨"SealStrait$Guess", "mostAlike", "(ILSealStrait$Lookout;LSealStrait$Sea;)I"⟩, 5) := ⟨⟨by decide +kernel, by decide +kernel⟩, List.mem_of_getElem? (i := 209) (by decide +kernel), List.mem_of_getElem? (i := 628) (by decide +kernel), List.mem_of_getElem? (i := 629) (by decide +kernel)⟩
theorem lw_p15 : lw_okq (⟨"SealStrait$Game", "winningNext", "(IILSealStrait$Treaty;)I"⟩, 1) := ⟨⟨by decide +kernel, by decide +kernel⟩, List.mem_of_getElem? (i := 234) (by decide +kernel), List.mem_of_getElem? (i := 649) (by decide +kernel), List.mem_of_getElem? (i := 650) (by decide +kernel)⟩
def lw_privs_1 : List (MethodName × Nat) := [(⟨"SealStrait$Trial", "begin", "(LSealStrait$Pad;LSealStrait$Sea;)V"⟩, 7), (⟨"SealStrait$Act", "set", "(III)V"⟩, 3), (⟨"SealStrait$Sea", "whyNoWhistle", "(I)I"⟩, 7), (⟨"SealStrait$Sea", "whyNoNet", "(I)I"⟩, 7), (⟨"SealStrait$Sea", "whyNoJoining", "(II)I"⟩, 7), (⟨"SealStrait$Trial", "noteReading", "(LSealStrait$Treaty;)V"⟩, 7), (⟨"SealStrait$Sea", "readAloud", "(I)V"⟩, 7), (⟨"SealStrait$Sea", "cheer", "(II)V"⟩, 7), (⟨"SealStrait$Sea", "takeNet", "(I)V"⟩, 7), (⟨"SealStrait$Sea", "joinTo", "(II)V"⟩, 7), (⟨"SealStrait$Sea", "passMonth", "()V"⟩, 7), (⟨"SealStrait$Bringing", "reach", "(III)V"⟩, 8), (⟨"SealStrait$Bringing", "goOnFrom", "(IIILSealStrait$Treaty;)V"⟩, 8), (⟨"SealStrait$Fraction", "reduce", "()V"⟩, 2), (⟨"SealStrait$Guess", "mostAlike", "(ILSealStrait$Lookout;LSealStrait$Sea;)I"⟩, 5), (⟨"SealStrait$Game", "winningNext", "(IILSealStrait$Treaty;)I"⟩, 1)]
theorem lw_r1 : ∀ q ∈ lw_privs_1, lw_okq q := List.forall_mem_cons.mpr ⟨lw_p0, List.forall_mem_cons.mpr ⟨lw_p1, List.forall_mem_cons.mpr ⟨lw_p2, List.forall_mem_cons.mpr ⟨lw_p3, List.forall_mem_cons.mpr ⟨lw_p4, List.forall_mem_cons.mpr ⟨lw_p5, List.forall_mem_cons.mpr ⟨lw_p6, List.forall_mem_cons.mpr ⟨lw_p7, List.forall_mem_cons.mpr ⟨lw_p8, List.forall_mem_cons.mpr ⟨lw_p9, List.forall_mem_cons.mpr ⟨lw_p10, List.forall_mem_cons.mpr ⟨lw_p11, List.forall_mem_cons.mpr ⟨lw_p12, List.forall_mem_cons.mpr ⟨lw_p13, List.forall_mem_cons.mpr ⟨lw_p14, List.forall_mem_cons.mpr ⟨lw_p15, fun _ h => absurd h List.not_mem_nil⟩⟩⟩⟩⟩⟩⟩⟩⟩⟩⟩⟩⟩⟩⟩⟩
theorem lw_p16 : lw_okq (⟨"SealStraitModel", "faultOf", "()I"⟩, 22) := ⟨⟨by decide +kernel, by decide +kernel⟩, List.mem_of_getElem? (i := 724) (by decide +kernel), List.mem_of_getElem? (i := 834) (by decide +kernel), List.mem_of_getElem? (i := 835) (by decide +kernel)⟩
theorem lw_p17 : lw_okq (⟨"SealStraitModel", "goSeasons", "()I"⟩, 22) := ⟨⟨by decide +kernel, by decide +kernel⟩, List.mem_of_getElem? (i := 724) (by decide +kernel), List.mem_of_getElem? (i := 842) (by decide +kernel), List.mem_of_getElem? (i := 843) (by decide +kernel)⟩
theorem lw_p18 : lw_okq (⟨"SealStraitModel", "asNow", "()V"⟩, 22) := ⟨⟨by decide +kernel, by decide +kernel⟩, List.mem_of_getElem? (i := 724) (by decide +kernel), List.mem_of_getElem? (i := 846) (by decide +kernel), List.mem_of_getElem? (i := 847) (by decide +kernel)⟩
theorem lw_p19 : lw_okq (⟨"SealStraitModel", "herdAct", "(III)I"⟩, 22) := ⟨⟨by decide +kernel, by decide +kernel⟩, List.mem_of_getElem? (i := 724) (by decide +kernel), List.mem_of_getElem? (i := 850) (by decide +kernel), List.mem_of_getElem? (i := 851) (by decide +kernel)⟩
theorem lw_p20 : lw_okq (⟨"SealStraitModel", "whistle", "(I)I"⟩, 22) := ⟨⟨by decide +kernel, by decide +kernel⟩, List.mem_of_getElem? (i := 724) (by decide +kernel), List.mem_of_getElem? (i := 854) (by decide +kernel), List.mem_of_getElem? (i := 855) (by decide +kernel)⟩
theorem lw_p21 : lw_okq (⟨"SealStraitModel", "stands", "(I)Z"⟩, 22) := ⟨⟨by decide +kernel, by decide +kernel⟩, List.mem_of_getElem? (i := 724) (by decide +kernel), List.mem_of_getElem? (i := 858) (by decide +kernel), List.mem_of_getElem? (i := 859) (by decide +kernel)⟩
theorem lw_p22 : lw_okq (⟨"SealStraitModel", "cheer", "(II)V"⟩, 22) := ⟨⟨by decide +kernel, by decide +kernel⟩, List.mem_of_getElem? (i := 724) (by decide +kernel), List.mem_of_getElem? (i := 865) (by decide +kernel), List.mem_of_getElem? (i := 866) (by decide +kernel)⟩
theorem lw_p23 : lw_okq (⟨"SealStraitModel", "net", "(I)I"⟩, 22) := ⟨⟨by decide +kernel, by decide +kernel⟩, List.mem_of_getElem? (i := 724) (by decide +kernel), List.mem_of_getElem? (i := 869) (by decide +kernel), List.mem_of_getElem? (i := 870) (by decide +kernel)⟩
theorem lw_p24 : lw_okq (⟨"SealStraitModel", "join", "(II)I"⟩, 22) := ⟨⟨by decide +kernel, by decide +kernel⟩, List.mem_of_getElem? (i := 724) (by decide +kernel), List.mem_of_getElem? (i := 873) (by decide +kernel), List.mem_of_getElem? (i := 874) (by decide +kernel)⟩
theorem lw_p25 : lw_okq (⟨"SealStraitModel", "endMonth", "()I"⟩, 22) := ⟨⟨by decide +kernel, by decide +kernel⟩, List.mem_of_getElem? (i := 724) (by decide +kernel), List.mem_of_getElem? (i := 877) (by decide +kernel), List.mem_of_getElem? (i := 878) (by decide +kernel)⟩
theorem lw_p26 : lw_okq (⟨"SealStraitModel", "read", "(I)I"⟩, 22) := ⟨⟨by decide +kernel, by decide +kernel⟩, List.mem_of_getElem? (i := 724) (by decide +kernel), List.mem_of_getElem? (i := 881) (by decide +kernel), List.mem_of_getElem? (i := 882) (by decide +kernel)⟩
theorem lw_p27 : lw_okq (⟨"SealStraitModel", "signers", "(I)I"⟩, 22) := ⟨⟨by decide +kernel, by decide +kernel⟩, List.mem_of_getElem? (i := 724) (by decide +kernel), List.mem_of_getElem? (i := 885) (by decide +kernel), List.mem_of_getElem? (i := 886) (by decide +kernel)⟩
theorem lw_p28 : lw_okq (⟨"SealStraitModel", "wouldSign", "(II)Z"⟩, 22) := ⟨⟨by decide +kernel, by decide +kernel⟩, List.mem_of_getElem? (i := 724) (by decide +kernel), List.mem_of_getElem? (i := 889) (by decide +kernel), List.mem_of_getElem? (i := 890) (by decide +kernel)⟩
theorem lw_p29 : lw_okq (⟨"SealStraitModel", "barOfSeasons", "()I"⟩, 22) := ⟨⟨by decide +kernel, by decide +kernel⟩, List.mem_of_getElem? (i := 724) (by decide +kernel), List.mem_of_getElem? (i := 897) (by decide +kernel), List.mem_of_getElem? (i := 898) (by decide +kernel)⟩
theorem lw_p30 : lw_okq (⟨"SealStraitModel", "isThere", "(I)Z"⟩, 22) := ⟨⟨by decide +kernel, by decide +kernel⟩, List.mem_of_getElem? (i := 724) (by decide +kernel), List.mem_of_getElem? (i := 905) (by decide +kernel), List.mem_of_getElem? (i := 906) (by decide +kernel)⟩
theorem lw_p31 : lw_okq (⟨"SealStraitModel", "headsBeyond", "()I"⟩, 22) := ⟨⟨by decide +kernel, by decide +kernel⟩, List.mem_of_getElem? (i := 724) (by decide +kernel), List.mem_of_getElem? (i := 913) (by decide +kernel), List.mem_of_getElem? (i := 914) (by decide +kernel)⟩
def lw_privs_2 : List (MethodName × Nat) := [(⟨"SealStraitModel", "faultOf", "()I"⟩, 22), (⟨"SealStraitModel", "goSeasons", "()I"⟩, 22), (⟨"SealStraitModel", "asNow", "()V"⟩, 22), (⟨"SealStraitModel", "herdAct", "(III)I"⟩, 22), (⟨"SealStraitModel", "whistle", "(I)I"⟩, 22), (⟨"SealStraitModel", "stands", "(I)Z"⟩, 22), (⟨"SealStraitModel", "cheer", "(II)V"⟩, 22), (⟨"SealStraitModel", "net", "(I)I"⟩, 22), (⟨"SealStraitModel", "join", "(II)I"⟩, 22), (⟨"SealStraitModel", "endMonth", "()I"⟩, 22), (⟨"SealStraitModel", "read", "(I)I"⟩, 22), (⟨"SealStraitModel", "signers", "(I)I"⟩, 22), (⟨"SealStraitModel", "wouldSign", "(II)Z"⟩, 22), (⟨"SealStraitModel", "barOfSeasons", "()I"⟩, 22), (⟨"SealStraitModel", "isThere", "(I)Z"⟩, 22), (⟨"SealStraitModel", "headsBeyond", "()I"⟩, 22)]
theorem lw_r2 : ∀ q ∈ lw_privs_2, lw_okq q := List.forall_mem_cons.mpr ⟨lw_p16, List.forall_mem_cons.mpr ⟨lw_p17, List.forall_mem_cons.mpr ⟨lw_p18, List.forall_mem_cons.mpr ⟨lw_p19, List.forall_mem_cons.mpr ⟨lw_p20, List.forall_mem_cons.mpr ⟨lw_p21, List.forall_mem_cons.mpr ⟨lw_p22, List.forall_mem_cons.mpr ⟨lw_p23, List.forall_mem_cons.mpr ⟨lw_p24, List.forall_mem_cons.mpr ⟨lw_p25, List.forall_mem_cons.mpr ⟨lw_p26, List.forall_mem_cons.mpr ⟨lw_p27, List.forall_mem_cons.mpr ⟨lw_p28, List.forall_mem_cons.mpr ⟨lw_p29, List.forall_mem_cons.mpr ⟨lw_p30, List.forall_mem_cons.mpr ⟨lw_p31, fun _ h => absurd h List.not_mem_nil⟩⟩⟩⟩⟩⟩⟩⟩⟩⟩⟩⟩⟩⟩⟩⟩
theorem lw_p32 : lw_okq (⟨"SealStraitModel", "heard", "(III)I"⟩, 22) := ⟨⟨by decide +kernel, by decide +kernel⟩, List.mem_of_getElem? (i := 724) (by decide +kernel), List.mem_of_getElem? (i := 925) (by decide +kernel), List.mem_of_getElem? (i := 926) (by decide +kernel)⟩
theorem lw_p33 : lw_okq (⟨"SealStraitModel", "layWait", "(II)V"⟩, 22) := ⟨⟨by decide +kernel, by decide +kernel⟩, List.mem_of_getElem? (i := 724) (by decide +kernel), List.mem_of_getElem? (i := 942) (by decide +kernel), List.mem_of_getElem? (i := 943) (by decide +kernel)⟩
theorem lw_p34 : lw_okq (⟨"SealStraitModel", "isFit", "(I)Z"⟩, 22) := ⟨⟨by decide +kernel, by decide +kernel⟩, List.mem_of_getElem? (i := 724) (by decide +kernel), List.mem_of_getElem? (i := 965) (by decide +kernel), List.mem_of_getElem? (i := 966) (by decide +kernel)⟩
theorem lw_p35 : lw_okq (⟨"SealStraitModel", "wantingOff", "(II)I"⟩, 22) := ⟨⟨by decide +kernel, by decide +kernel⟩, List.mem_of_getElem? (i := 724) (by decide +kernel), List.mem_of_getElem? (i := 969) (by decide +kernel), List.mem_of_getElem? (i := 970) (by decide +kernel)⟩
def lw_privs_3 : List (MethodName × Nat) := [(⟨"SealStraitModel", "heard", "(III)I"⟩, 22), (⟨"SealStraitModel", "layWait", "(II)V"⟩, 22), (⟨"SealStraitModel", "isFit", "(I)Z"⟩, 22), (⟨"SealStraitModel", "wantingOff", "(II)I"⟩, 22)]
theorem lw_r3 : ∀ q ∈ lw_privs_3, lw_okq q := List.forall_mem_cons.mpr ⟨lw_p32, List.forall_mem_cons.mpr ⟨lw_p33, List.forall_mem_cons.mpr ⟨lw_p34, List.forall_mem_cons.mpr ⟨lw_p35, fun _ h => absurd h List.not_mem_nil⟩⟩⟩⟩
def lw_privs : List (MethodName × Nat) := lw_privs_1 ++ (lw_privs_2 ++ (lw_privs_3))
def lw_tbl : List Cond := k2_sels lw_privs ++ tables_1
theorem lw_privs_ok : ∀ q ∈ lw_privs, lw_okq q := by
  show ∀ q ∈ lw_privs_1 ++ (lw_privs_2 ++ (lw_privs_3)), lw_okq q
  exact List.forall_mem_append.mpr ⟨lw_r1, List.forall_mem_append.mpr ⟨lw_r2, lw_r3⟩⟩
end
section
/-! ===== BEGIN words of one list among another's, by their places ===== -/
theorem goodIn_r {big : List Cond} (ws : List Cond) (ps : List Nat) (hp : ws = ps.filterMap (fun i => big[i]?)) (h : ws.all goodWord = true) : GoodIn big ws := by
  intro w hw
  have h1 := List.all_eq_true.mp h w hw
  rw [hp] at hw
  obtain ⟨i, -, hi⟩ := List.mem_filterMap.mp hw
  have hm : w ∈ big := by first | exact List.mem_of_getElem? hi | exact List.getElem?_mem hi
  exact ⟨hm, good_of_word h1⟩
theorem goodIn_app {big a b : List Cond} (ha : GoodIn big a) (hb : GoodIn big b) : GoodIn big (a ++ b) := fun w h => (List.mem_append.mp h).elim (ha w) (hb w)
theorem goodIn_ca {big a b : List Cond} {c : Cond} (ha : GoodIn big (c :: a)) (hb : GoodIn big b) : GoodIn big (c :: (a ++ b)) := fun w h => (List.mem_cons.mp h).elim (fun e => ha w (List.mem_cons.mpr (Or.inl e))) (fun h => (List.mem_append.mp h).elim (fun h => ha w (List.mem_cons.mpr (Or.inr h))) (hb w))
theorem goodIn_sub {big ws : List Cond} (hm : ∀ w ∈ ws, w ∈ big) (h : ws.all goodWord = true) : GoodIn big ws := fun w hw => ⟨hm w hw, good_of_word (List.all_eq_true.mp h w hw)⟩
/-! ===== END ===== -/

/-! ===== BEGIN printed: names, fields, word lists, decode rows ===== -/
def RX0 : String := "SealStrait$Act"
def TX0 : u_T := fun k => match k with
  | 0 => ("SealStrait$Act", "kind", "I", false)
  | 1 => ("SealStrait$Act", "one", "I", false)
  | _ => ("SealStrait$Act", "other", "I", false)
def tyX0 : Nat → FieldType := fun k => match k with
  | 0 => .int
  | 1 => .int
  | _ => .int
abbrev wsX00 : List Cond := u_ws RX0 TX0 3
theorem nmX0 : ∀ a, a < 3 → ∀ b, b < 3 → a ≠ b → (TX0 a).2.1 ≠ (TX0 b).2.1 := by decide +kernel
theorem tyX0_ok : ∀ k, k < 3 → parseFieldDescriptor (TX0 k).2.2.1 = some (tyX0 k) := by decide +kernel
abbrev cX0_init : ByteArray := prog_2_method_1_code
def yX0_init : MethodName := ⟨RX0, "<init>", "()V"⟩
abbrev cX0_set : ByteArray := prog_2_method_2_code
def yX0_set : MethodName := ⟨RX0, "set", "(III)V"⟩
abbrev cX0_takeFrom : ByteArray := prog_2_method_3_code
def yX0_takeFrom : MethodName := ⟨RX0, "takeFrom", "(LSealStrait$Pad;I)I"⟩
abbrev cX0_draw : ByteArray := prog_2_method_4_code
def yX0_draw : MethodName := ⟨RX0, "draw", "(I)V"⟩
def RX1 : String := "SealStrait$Bringing"
def TX1 : u_T := fun k => match k with
  | 0 => ("SealStrait$Bringing", "steps", "[I", true)
  | 1 => ("SealStrait$Bringing", "firsts", "[I", true)
  | 2 => ("SealStrait$Bringing", "queue", "[I", true)
  | 3 => ("SealStrait$Bringing", "size", "I", false)
  | 4 => ("SealStrait$Bringing", "oneListens", "Z", false)
  | 5 => ("SealStrait$Bringing", "otherListens", "Z", false)
  | 6 => ("SealStrait$Bringing", "fewest", "I", false)
  | _ => ("SealStrait$Bringing", "firstClause", "I", false)
def tyX1 : Nat → FieldType := fun k => match k with
  | 0 => .array .int
  | 1 => .array .int
  | 2 => .array .int
  | 3 => .int
  | 4 => .boolean
  | 5 => .boolean
  | 6 => .int
  | _ => .int
abbrev wsX10 : List Cond := u_ws RX1 TX1 8
theorem nmX1 : ∀ a, a < 8 → ∀ b, b < 8 → a ≠ b → (TX1 a).2.1 ≠ (TX1 b).2.1 := by decide +kernel
theorem tyX1_ok : ∀ k, k < 8 → parseFieldDescriptor (TX1 k).2.2.1 = some (tyX1 k) := by decide +kernel
abbrev cX1_init : ByteArray := prog_3_method_1_code
def yX1_init : MethodName := ⟨RX1, "<init>", "()V"⟩
abbrev cX1_begin : ByteArray := prog_3_method_2_code
def yX1_begin : MethodName := ⟨RX1, "begin", "(LSealStrait$Sea;II)V"⟩
abbrev cX1_search : ByteArray := prog_3_method_3_code
def yX1_search : MethodName := ⟨RX1, "search", "(LSealStrait$Treaty;II)V"⟩
abbrev cX1_goOnFrom : ByteArray := prog_3_method_4_code
def yX1_goOnFrom : MethodName := ⟨RX1, "goOnFrom", "(IIILSealStrait$Treaty;)V"⟩
abbrev cX1_reach : ByteArray := prog_3_method_5_code
def yX1_reach : MethodName := ⟨RX1, "reach", "(III)V"⟩
abbrev cX1_placeOf : ByteArray := prog_3_method_6_code
def yX1_placeOf : MethodName := ⟨RX1, "placeOf", "(LSealStrait$Sea;I)I"⟩
abbrev cX1_behindReading : ByteArray := prog_3_method_7_code
def yX1_behindReading : MethodName := ⟨RX1, "behindReading", "(IIZ)I"⟩
def RX2 : String := "SealStrait$Fraction"
def TX2 : u_T := fun k => match k with
  | 0 => ("SealStrait$Fraction", "upper", "J", false)
  | _ => ("SealStrait$Fraction", "lower", "J", false)
def tyX2 : Nat → FieldType := fun k => match k with
  | 0 => .long
  | _ => .long
abbrev wsX20 : List Cond := u_ws RX2 TX2 2
theorem nmX2 : ∀ a, a < 2 → ∀ b, b < 2 → a ≠ b → (TX2 a).2.1 ≠ (TX2 b).2.1 := by decide +kernel
theorem tyX2_ok : ∀ k, k < 2 → parseFieldDescriptor (TX2 k).2.2.1 = some (tyX2 k) := by decide +kernel
abbrev cX2_init : ByteArray := prog_4_method_1_code
def yX2_init : MethodName := ⟨RX2, "<init>", "()V"⟩
abbrev cX2_setWaiting : ByteArray := prog_4_method_2_code
def yX2_setWaiting : MethodName := ⟨RX2, "setWaiting", "(II)V"⟩
abbrev cX2_setDrift : ByteArray := prog_4_method_3_code
def yX2_setDrift : MethodName := ⟨RX2, "setDrift", "(IIIII)V"⟩
abbrev cX2_leastWholeNotBelow : ByteArray := prog_4_method_4_code
def yX2_leastWholeNotBelow : MethodName := ⟨RX2, "leastWholeNotBelow", "(I)I"⟩
abbrev cX2_part : ByteArray := prog_4_method_5_code
def yX2_part : MethodName := ⟨RX2, "part", "(I)J"⟩
abbrev cX2_reduce : ByteArray := prog_4_method_6_code
def yX2_reduce : MethodName := ⟨RX2, "reduce", "()V"⟩
abbrev cX2_commonDivisor : ByteArray := prog_4_method_7_code
def yX2_commonDivisor : MethodName := ⟨RX2, "commonDivisor", "(JJ)J"⟩
def RX3 : String := "SealStrait$Game"
def TX3 : u_T := fun k => match k with
  | _ => ("SealStrait$Game", "wins", "[Z", true)
def tyX3 : Nat → FieldType := fun k => match k with
  | _ => .array .boolean
abbrev wsX30 : List Cond := u_ws RX3 TX3 1
theorem nmX3 : ∀ a, a < 1 → ∀ b, b < 1 → a ≠ b → (TX3 a).2.1 ≠ (TX3 b).2.1 := by decide +kernel
theorem tyX3_ok : ∀ k, k < 1 → parseFieldDescriptor (TX3 k).2.2.1 = some (tyX3 k) := by decide +kernel
abbrev cX3_init : ByteArray := prog_5_method_1_code
def yX3_init : MethodName := ⟨RX3, "<init>", "()V"⟩
abbrev cX3_winningFirst : ByteArray := prog_5_method_2_code
def yX3_winningFirst : MethodName := ⟨RX3, "winningFirst", "(LSealStrait$Treaty;I)I"⟩
abbrev cX3_winningNext : ByteArray := prog_5_method_3_code
def yX3_winningNext : MethodName := ⟨RX3, "winningNext", "(IILSealStrait$Treaty;)I"⟩
def RX4 : String := "SealStrait$Guess"
def TX4 : u_T := fun k => match k with
  | 0 => ("SealStrait$Guess", "size", "I", false)
  | 1 => ("SealStrait$Guess", "sets", "[I", true)
  | 2 => ("SealStrait$Guess", "nextRock", "I", false)
  | 3 => ("SealStrait$Guess", "leftAtMost", "I", false)
  | _ => ("SealStrait$Guess", "tally", "[I", true)
def tyX4 : Nat → FieldType := fun k => match k with
  | 0 => .int
  | 1 => .array .int
  | 2 => .int
  | 3 => .int
  | _ => .array .int
abbrev wsX40 : List Cond := u_ws RX4 TX4 5
theorem nmX4 : ∀ a, a < 5 → ∀ b, b < 5 → a ≠ b → (TX4 a).2.1 ≠ (TX4 b).2.1 := by decide +kernel
theorem tyX4_ok : ∀ k, k < 5 → parseFieldDescriptor (TX4 k).2.2.1 = some (tyX4 k) := by decide +kernel
abbrev cX4_init : ByteArray := prog_6_method_1_code
def yX4_init : MethodName := ⟨RX4, "<init>", "()V"⟩
abbrev cX4_findSets : ByteArray := prog_6_method_2_code
def yX4_findSets : MethodName := ⟨RX4, "findSets", "(LSealStrait$Lookout;LSealStrait$Sea;)V"⟩
abbrev cX4_setAt : ByteArray := prog_6_method_3_code
def yX4_setAt : MethodName := ⟨RX4, "setAt", "(I)I"⟩
abbrev cX4_findNextRock : ByteArray := prog_6_method_4_code
def yX4_findNextRock : MethodName := ⟨RX4, "findNextRock", "(LSealStrait$Lookout;LSealStrait$Sea;)V"⟩
abbrev cX4_mostAlike : ByteArray := prog_6_method_5_code
def yX4_mostAlike : MethodName := ⟨RX4, "mostAlike", "(ILSealStrait$Lookout;LSealStrait$Sea;)I"⟩
def RX5 : String := "SealStrait$Image"
def TX5 : u_T := fun k => match k with
  | 0 => ("SealStrait$Image", "sea", "LSealStrait$Sea;", true)
  | 1 => ("SealStrait$Image", "treaty", "LSealStrait$Treaty;", true)
  | _ => ("SealStrait$Image", "lookout", "LSealStrait$Lookout;", true)
def tyX5 : Nat → FieldType := fun k => match k with
  | 0 => .object "SealStrait$Sea"
  | 1 => .object "SealStrait$Treaty"
  | _ => .object "SealStrait$Lookout"
abbrev wsX50 : List Cond := u_ws RX5 TX5 3
theorem nmX5 : ∀ a, a < 3 → ∀ b, b < 3 → a ≠ b → (TX5 a).2.1 ≠ (TX5 b).2.1 := by decide +kernel
theorem tyX5_ok : ∀ k, k < 3 → parseFieldDescriptor (TX5 k).2.2.1 = some (tyX5 k) := by decide +kernel
abbrev cX5_init : ByteArray := prog_7_method_1_code
def yX5_init : MethodName := ⟨RX5, "<init>", "()V"⟩
def RX6 : String := "SealStrait$Lookout"
def TX6 : u_T := fun k => match k with
  | 0 => ("SealStrait$Lookout", "seen", "[I", true)
  | 1 => ("SealStrait$Lookout", "counts", "I", false)
  | 2 => ("SealStrait$Lookout", "countRocks", "[I", true)
  | _ => ("SealStrait$Lookout", "countWantings", "[I", true)
def tyX6 : Nat → FieldType := fun k => match k with
  | 0 => .array .int
  | 1 => .int
  | 2 => .array .int
  | _ => .array .int
abbrev wsX60 : List Cond := u_ws RX6 TX6 4
theorem nmX6 : ∀ a, a < 4 → ∀ b, b < 4 → a ≠ b → (TX6 a).2.1 ≠ (TX6 b).2.1 := by decide +kernel
theorem tyX6_ok : ∀ k, k < 4 → parseFieldDescriptor (TX6 k).2.2.1 = some (tyX6 k) := by decide +kernel
abbrev cX6_init : ByteArray := prog_8_method_1_code
def yX6_init : MethodName := ⟨RX6, "<init>", "()V"⟩
abbrev cX6_copyFrom : ByteArray := prog_8_method_2_code
def yX6_copyFrom : MethodName := ⟨RX6, "copyFrom", "(LSealStrait$Lookout;)V"⟩
abbrev cX6_addCount : ByteArray := prog_8_method_3_code
def yX6_addCount : MethodName := ⟨RX6, "addCount", "(II)Z"⟩
abbrev cX6_wantingOff : ByteArray := prog_8_method_4_code
def yX6_wantingOff : MethodName := ⟨RX6, "wantingOff", "(IILSealStrait$Sea;)I"⟩
abbrev cX6_allCountsFit : ByteArray := prog_8_method_5_code
def yX6_allCountsFit : MethodName := ⟨RX6, "allCountsFit", "(ILSealStrait$Sea;)Z"⟩
def RX7 : String := "SealStrait$Pad"
def TX7 : u_T := fun k => match k with
  | 0 => ("SealStrait$Pad", "signs", "[I", true)
  | _ => ("SealStrait$Pad", "size", "I", false)
def tyX7 : Nat → FieldType := fun k => match k with
  | 0 => .array .int
  | _ => .int
abbrev wsX70 : List Cond := u_ws RX7 TX7 2
theorem nmX7 : ∀ a, a < 2 → ∀ b, b < 2 → a ≠ b → (TX7 a).2.1 ≠ (TX7 b).2.1 := by decide +kernel
theorem tyX7_ok : ∀ k, k < 2 → parseFieldDescriptor (TX7 k).2.2.1 = some (tyX7 k) := by decide +kernel
abbrev cX7_init : ByteArray := prog_9_method_1_code
def yX7_init : MethodName := ⟨RX7, "<init>", "()V"⟩
abbrev cX7_write : ByteArray := prog_9_method_2_code
def yX7_write : MethodName := ⟨RX7, "write", "(I)Z"⟩
abbrev cX7_signAt : ByteArray := prog_9_method_3_code
def yX7_signAt : MethodName := ⟨RX7, "signAt", "(I)I"⟩
abbrev cX7_faultPlace : ByteArray := prog_9_method_4_code
def yX7_faultPlace : MethodName := ⟨RX7, "faultPlace", "()I"⟩
abbrev cX7_awaitedBehind : ByteArray := prog_9_method_5_code
def yX7_awaitedBehind : MethodName := ⟨RX7, "awaitedBehind", "(II)I"⟩
abbrev cX7_isHerd : ByteArray := prog_9_method_6_code
def yX7_isHerd : MethodName := ⟨RX7, "isHerd", "(I)Z"⟩
abbrev cX7_isClause : ByteArray := prog_9_method_7_code
def yX7_isClause : MethodName := ⟨RX7, "isClause", "(I)Z"⟩
def RX8 : String := "SealStrait$Sea"
def TX8 : u_T := fun k => match k with
  | 0 => ("SealStrait$Sea", "there", "I", false)
  | 1 => ("SealStrait$Sea", "month", "I", false)
  | 2 => ("SealStrait$Sea", "lost", "I", false)
  | 3 => ("SealStrait$Sea", "heads", "[I", true)
  | 4 => ("SealStrait$Sea", "sides", "[I", true)
  | 5 => ("SealStrait$Sea", "moods", "[I", true)
  | _ => ("SealStrait$Sea", "moults", "[I", true)
def tyX8 : Nat → FieldType := fun k => match k with
  | 0 => .int
  | 1 => .int
  | 2 => .int
  | 3 => .array .int
  | 4 => .array .int
  | 5 => .array .int
  | _ => .array .int
abbrev wsX80 : List Cond := u_ws RX8 TX8 7
theorem nmX8 : ∀ a, a < 7 → ∀ b, b < 7 → a ≠ b → (TX8 a).2.1 ≠ (TX8 b).2.1 := by decide +kernel
theorem tyX8_ok : ∀ k, k < 7 → parseFieldDescriptor (TX8 k).2.2.1 = some (tyX8 k) := by decide +kernel
abbrev cX8_init : ByteArray := prog_10_method_1_code
def yX8_init : MethodName := ⟨RX8, "<init>", "()V"⟩
abbrev cX8_copyFrom : ByteArray := prog_10_method_2_code
def yX8_copyFrom : MethodName := ⟨RX8, "copyFrom", "(LSealStrait$Sea;)V"⟩
abbrev cX8_settle : ByteArray := prog_10_method_3_code
def yX8_settle : MethodName := ⟨RX8, "settle", "(IIIII)V"⟩
abbrev cX8_isThere : ByteArray := prog_10_method_4_code
def yX8_isThere : MethodName := ⟨RX8, "isThere", "(I)Z"⟩
abbrev cX8_traitOf : ByteArray := prog_10_method_5_code
def yX8_traitOf : MethodName := ⟨RX8, "traitOf", "(II)I"⟩
abbrev cX8_listens : ByteArray := prog_10_method_6_code
def yX8_listens : MethodName := ⟨RX8, "listens", "(I)Z"⟩
abbrev cX8_signers : ByteArray := prog_10_method_7_code
def yX8_signers : MethodName := ⟨RX8, "signers", "(I)I"⟩
abbrev cX8_headsOnSideOne : ByteArray := prog_10_method_8_code
def yX8_headsOnSideOne : MethodName := ⟨RX8, "headsOnSideOne", "()I"⟩
abbrev cX8_allMoods : ByteArray := prog_10_method_9_code
def yX8_allMoods : MethodName := ⟨RX8, "allMoods", "()I"⟩
abbrev cX8_hasHeads : ByteArray := prog_10_method_10_code
def yX8_hasHeads : MethodName := ⟨RX8, "hasHeads", "()Z"⟩
abbrev cX8_nextToGet : ByteArray := prog_10_method_11_code
def yX8_nextToGet : MethodName := ⟨RX8, "nextToGet", "([I)I"⟩
abbrev cX8_headsOf : ByteArray := prog_10_method_12_code
def yX8_headsOf : MethodName := ⟨RX8, "headsOf", "(I)I"⟩
abbrev cX8_whyNot : ByteArray := prog_10_method_13_code
def yX8_whyNot : MethodName := ⟨RX8, "whyNot", "(LSealStrait$Act;LSealStrait$Treaty;)I"⟩
abbrev cX8_whyNoWhistle : ByteArray := prog_10_method_14_code
def yX8_whyNoWhistle : MethodName := ⟨RX8, "whyNoWhistle", "(I)I"⟩
abbrev cX8_whyNoNet : ByteArray := prog_10_method_15_code
def yX8_whyNoNet : MethodName := ⟨RX8, "whyNoNet", "(I)I"⟩
abbrev cX8_whyNoJoining : ByteArray := prog_10_method_16_code
def yX8_whyNoJoining : MethodName := ⟨RX8, "whyNoJoining", "(II)I"⟩
abbrev cX8_perform : ByteArray := prog_10_method_17_code
def yX8_perform : MethodName := ⟨RX8, "perform", "(LSealStrait$Act;LSealStrait$Treaty;)V"⟩
abbrev cX8_cheer : ByteArray := prog_10_method_18_code
def yX8_cheer : MethodName := ⟨RX8, "cheer", "(II)V"⟩
abbrev cX8_readAloud : ByteArray := prog_10_method_19_code
def yX8_readAloud : MethodName := ⟨RX8, "readAloud", "(I)V"⟩
abbrev cX8_takeNet : ByteArray := prog_10_method_20_code
def yX8_takeNet : MethodName := ⟨RX8, "takeNet", "(I)V"⟩
abbrev cX8_joinTo : ByteArray := prog_10_method_21_code
def yX8_joinTo : MethodName := ⟨RX8, "joinTo", "(II)V"⟩
abbrev cX8_passMonth : ByteArray := prog_10_method_22_code
def yX8_passMonth : MethodName := ⟨RX8, "passMonth", "()V"⟩
def RX9 : String := "SealStrait$Treaty"
def TX9 : u_T := fun k => match k with
  | 0 => ("SealStrait$Treaty", "words", "[I", true)
  | _ => ("SealStrait$Treaty", "clashes", "[I", true)
def tyX9 : Nat → FieldType := fun k => match k with
  | 0 => .array .int
  | _ => .array .int
abbrev wsX90 : List Cond := u_ws RX9 TX9 2
theorem nmX9 : ∀ a, a < 2 → ∀ b, b < 2 → a ≠ b → (TX9 a).2.1 ≠ (TX9 b).2.1 := by decide +kernel
theorem tyX9_ok : ∀ k, k < 2 → parseFieldDescriptor (TX9 k).2.2.1 = some (tyX9 k) := by decide +kernel
abbrev cX9_init : ByteArray := prog_11_method_1_code
def yX9_init : MethodName := ⟨RX9, "<init>", "()V"⟩
abbrev cX9_copyFrom : ByteArray := prog_11_method_2_code
def yX9_copyFrom : MethodName := ⟨RX9, "copyFrom", "(LSealStrait$Treaty;)V"⟩
abbrev cX9_wordsOf : ByteArray := prog_11_method_3_code
def yX9_wordsOf : MethodName := ⟨RX9, "wordsOf", "(I)I"⟩
abbrev cX9_wordsOfAll : ByteArray := prog_11_method_4_code
def yX9_wordsOfAll : MethodName := ⟨RX9, "wordsOfAll", "(I)I"⟩
abbrev cX9_setClash : ByteArray := prog_11_method_5_code
def yX9_setClash : MethodName := ⟨RX9, "setClash", "(IIZ)V"⟩
abbrev cX9_clashingPairs : ByteArray := prog_11_method_6_code
def yX9_clashingPairs : MethodName := ⟨RX9, "clashingPairs", "()I"⟩
abbrev cX9_isQuiet : ByteArray := prog_11_method_7_code
def yX9_isQuiet : MethodName := ⟨RX9, "isQuiet", "(I)Z"⟩
abbrev cX9_leastToDrop : ByteArray := prog_11_method_8_code
def yX9_leastToDrop : MethodName := ⟨RX9, "leastToDrop", "(I)I"⟩
def RX10 : String := "SealStrait$Trial"
def TX10 : u_T := fun k => match k with
  | 0 => ("SealStrait$Trial", "sea", "LSealStrait$Sea;", true)
  | 1 => ("SealStrait$Trial", "act", "LSealStrait$Act;", true)
  | 2 => ("SealStrait$Trial", "isFaulty", "Z", false)
  | 3 => ("SealStrait$Trial", "acts", "I", false)
  | 4 => ("SealStrait$Trial", "why", "I", false)
  | 5 => ("SealStrait$Trial", "readings", "I", false)
  | _ => ("SealStrait$Trial", "signedAll", "I", false)
def tyX10 : Nat → FieldType := fun k => match k with
  | 0 => .object "SealStrait$Sea"
  | 1 => .object "SealStrait$Act"
  | 2 => .boolean
  | 3 => .int
  | 4 => .int
  | 5 => .int
  | _ => .int
abbrev wsX100 : List Cond := u_ws RX10 TX10 7
theorem nmX10 : ∀ a, a < 7 → ∀ b, b < 7 → a ≠ b → (TX10 a).2.1 ≠ (TX10 b).2.1 := by decide +kernel
theorem tyX10_ok : ∀ k, k < 7 → parseFieldDescriptor (TX10 k).2.2.1 = some (tyX10 k) := by decide +kernel
abbrev cX10_init : ByteArray := prog_12_method_1_code
def yX10_init : MethodName := ⟨RX10, "<init>", "()V"⟩
abbrev cX10_run : ByteArray := prog_12_method_2_code
def yX10_run : MethodName := ⟨RX10, "run", "(LSealStrait$Pad;LSealStrait$Sea;LSealStrait$Treaty;)V"⟩
abbrev cX10_begin : ByteArray := prog_12_method_3_code
def yX10_begin : MethodName := ⟨RX10, "begin", "(LSealStrait$Pad;LSealStrait$Sea;)V"⟩
abbrev cX10_allCanBe : ByteArray := prog_12_method_4_code
def yX10_allCanBe : MethodName := ⟨RX10, "allCanBe", "()Z"⟩
abbrev cX10_noteReading : ByteArray := prog_12_method_5_code
def yX10_noteReading : MethodName := ⟨RX10, "noteReading", "(LSealStrait$Treaty;)V"⟩
abbrev cX10_runYear : ByteArray := prog_12_method_6_code
def yX10_runYear : MethodName := ⟨RX10, "runYear", "(IILSealStrait$Sea;LSealStrait$Treaty;)V"⟩
def RX11 : String := "SealStrait"
def TX11 : u_T := fun k => match k with
  | 0 => ("SealStrait", "sea", "LSealStrait$Sea;", true)
  | 1 => ("SealStrait", "treaty", "LSealStrait$Treaty;", true)
  | 2 => ("SealStrait", "lookout", "LSealStrait$Lookout;", true)
  | 3 => ("SealStrait", "pad", "LSealStrait$Pad;", true)
  | 4 => ("SealStrait", "images", "[LSealStrait$Image;", true)
  | 5 => ("SealStrait", "trial", "LSealStrait$Trial;", true)
  | 6 => ("SealStrait", "bringing", "LSealStrait$Bringing;", true)
  | 7 => ("SealStrait", "guess", "LSealStrait$Guess;", true)
  | 8 => ("SealStrait", "game", "LSealStrait$Game;", true)
  | 9 => ("SealStrait", "fraction", "LSealStrait$Fraction;", true)
  | _ => ("SealStrait", "got", "[I", true)
def tyX11 : Nat → FieldType := fun k => match k with
  | 0 => .object "SealStrait$Sea"
  | 1 => .object "SealStrait$Treaty"
  | 2 => .object "SealStrait$Lookout"
  | 3 => .object "SealStrait$Pad"
  | 4 => .array (.object "SealStrait$Image")
  | 5 => .object "SealStrait$Trial"
  | 6 => .object "SealStrait$Bringing"
  | 7 => .object "SealStrait$Guess"
  | 8 => .object "SealStrait$Game"
  | 9 => .object "SealStrait$Fraction"
  | _ => .array .int
abbrev wsX110 : List Cond := u_ws RX11 TX11 11
theorem nmX11 : ∀ a, a < 11 → ∀ b, b < 11 → a ≠ b → (TX11 a).2.1 ≠ (TX11 b).2.1 := by decide +kernel
theorem tyX11_ok : ∀ k, k < 11 → parseFieldDescriptor (TX11 k).2.2.1 = some (tyX11 k) := by decide +kernel
abbrev cX11_init : ByteArray := prog_1_method_1_code
def yX11_init : MethodName := ⟨RX11, "<init>", "()V"⟩
abbrev cX11_herd : ByteArray := prog_1_method_2_code
def yX11_herd : MethodName := ⟨RX11, "herd", "(IIIII)I"⟩
abbrev cX11_clause : ByteArray := prog_1_method_3_code
def yX11_clause : MethodName := ⟨RX11, "clause", "(II)I"⟩
abbrev cX11_clash : ByteArray := prog_1_method_4_code
def yX11_clash : MethodName := ⟨RX11, "clash", "(IIZ)I"⟩
abbrev cX11_rock : ByteArray := prog_1_method_5_code
def yX11_rock : MethodName := ⟨RX11, "rock", "(II)I"⟩
abbrev cX11_say : ByteArray := prog_1_method_6_code
def yX11_say : MethodName := ⟨RX11, "say", "(I)I"⟩
abbrev cX11_wipe : ByteArray := prog_1_method_7_code
def yX11_wipe : MethodName := ⟨RX11, "wipe", "()I"⟩
abbrev cX11_fault : ByteArray := prog_1_method_8_code
def yX11_fault : MethodName := ⟨RX11, "fault", "()I"⟩
abbrev cX11_judge : ByteArray := prog_1_method_9_code
def yX11_judge : MethodName := ⟨RX11, "judge", "(I)I"⟩
abbrev cX11_done : ByteArray := prog_1_method_10_code
def yX11_done : MethodName := ⟨RX11, "done", "()I"⟩
abbrev cX11_behind : ByteArray := prog_1_method_11_code
def yX11_behind : MethodName := ⟨RX11, "behind", "(II)I"⟩
abbrev cX11_then : ByteArray := prog_1_method_12_code
def yX11_then : MethodName := ⟨RX11, "then", "(I)I"⟩
abbrev cX11_who : ByteArray := prog_1_method_13_code
def yX11_who : MethodName := ⟨RX11, "who", "(I)I"⟩
abbrev cX11_bring : ByteArray := prog_1_method_14_code
def yX11_bring : MethodName := ⟨RX11, "bring", "(IIIII)I"⟩
abbrev cX11_drop : ByteArray := prog_1_method_15_code
def yX11_drop : MethodName := ⟨RX11, "drop", "(II)I"⟩
abbrev cX11_share : ByteArray := prog_1_method_16_code
def yX11_share : MethodName := ⟨RX11, "share", "(II)I"⟩
abbrev cX11_waiting : ByteArray := prog_1_method_17_code
def yX11_waiting : MethodName := ⟨RX11, "waiting", "(III)J"⟩
abbrev cX11_reads : ByteArray := prog_1_method_18_code
def yX11_reads : MethodName := ⟨RX11, "reads", "(II)I"⟩
abbrev cX11_waitIsAsTold : ByteArray := prog_1_method_19_code
def yX11_waitIsAsTold : MethodName := ⟨RX11, "waitIsAsTold", "(II)Z"⟩
abbrev cX11_counted : ByteArray := prog_1_method_20_code
def yX11_counted : MethodName := ⟨RX11, "counted", "(II)I"⟩
abbrev cX11_forget : ByteArray := prog_1_method_21_code
def yX11_forget : MethodName := ⟨RX11, "forget", "()I"⟩
abbrev cX11_went : ByteArray := prog_1_method_22_code
def yX11_went : MethodName := ⟨RX11, "went", "(I)I"⟩
abbrev cX11_ask : ByteArray := prog_1_method_23_code
def yX11_ask : MethodName := ⟨RX11, "ask", "(I)I"⟩
abbrev cX11_turning : ByteArray := prog_1_method_24_code
def yX11_turning : MethodName := ⟨RX11, "turning", "(II)I"⟩
abbrev cX11_drift : ByteArray := prog_1_method_25_code
def yX11_drift : MethodName := ⟨RX11, "drift", "(IIIIII)J"⟩
abbrev cX11_year : ByteArray := prog_1_method_26_code
def yX11_year : MethodName := ⟨RX11, "year", "(III)I"⟩
abbrev cX11_image : ByteArray := prog_1_method_27_code
def yX11_image : MethodName := ⟨RX11, "image", "(I)I"⟩
abbrev cX11_restore : ByteArray := prog_1_method_28_code
def yX11_restore : MethodName := ⟨RX11, "restore", "(I)I"⟩
abbrev cX11_told : ByteArray := prog_1_method_29_code
def yX11_told : MethodName := ⟨RX11, "told", "(I)I"⟩
abbrev cX11_within : ByteArray := prog_1_method_30_code
def yX11_within : MethodName := ⟨RX11, "within", "(III)Z"⟩
abbrev cX11_has : ByteArray := prog_1_method_31_code
def yX11_has : MethodName := ⟨RX11, "has", "(II)Z"⟩
def RX12 : String := "SealStraitModel"
def TX12 : u_T := fun k => match k with
  | 0 => ("SealStraitModel", "book", "[I", true)
  | 1 => ("SealStraitModel", "now", "[I", true)
  | 2 => ("SealStraitModel", "moults", "[I", true)
  | 3 => ("SealStraitModel", "words", "[I", true)
  | 4 => ("SealStraitModel", "clashes", "[I", true)
  | 5 => ("SealStraitModel", "rocks", "[I", true)
  | 6 => ("SealStraitModel", "counts", "I", false)
  | 7 => ("SealStraitModel", "count", "[I", true)
  | 8 => ("SealStraitModel", "signs", "I", false)
  | 9 => ("SealStraitModel", "pad", "[I", true)
  | 10 => ("SealStraitModel", "readMany", "I", false)
  | 11 => ("SealStraitModel", "signedAll", "I", false)
  | 12 => ("SealStraitModel", "reason", "I", false)
  | 13 => ("SealStraitModel", "acts", "I", false)
  | 14 => ("SealStraitModel", "reached", "[I", true)
  | 15 => ("SealStraitModel", "queue", "[I", true)
  | 16 => ("SealStraitModel", "got", "[I", true)
  | 17 => ("SealStraitModel", "waitUp", "J", false)
  | 18 => ("SealStraitModel", "waitLow", "J", false)
  | 19 => ("SealStraitModel", "wins", "[I", true)
  | 20 => ("SealStraitModel", "image", "[I", true)
  | _ => ("SealStraitModel", "isKept", "[Z", true)
def tyX12 : Nat → FieldType := fun k => match k with
  | 0 => .array .int
  | 1 => .array .int
  | 2 => .array .int
  | 3 => .array .int
  | 4 => .array .int
  | 5 => .array .int
  | 6 => .int
  | 7 => .array .int
  | 8 => .int
  | 9 => .array .int
  | 10 => .int
  | 11 => .int
  | 12 => .int
  | 13 => .int
  | 14 => .array .int
  | 15 => .array .int
  | 16 => .array .int
  | 17 => .long
  | 18 => .long
  | 19 => .array .int
  | 20 => .array .int
  | _ => .array .boolean
abbrev wsX120 : List Cond := u_ws RX12 TX12 22
theorem nmX12 : ∀ a, a < 22 → ∀ b, b < 22 → a ≠ b → (TX12 a).2.1 ≠ (TX12 b).2.1 := by decide +kernel
theorem tyX12_ok : ∀ k, k < 22 → parseFieldDescriptor (TX12 k).2.2.1 = some (tyX12 k) := by decide +kernel
abbrev cX12_init : ByteArray := prog_14_method_1_code
def yX12_init : MethodName := ⟨RX12, "<init>", "()V"⟩
abbrev cX12_in : ByteArray := prog_14_method_2_code
def yX12_in : MethodName := ⟨RX12, "in", "(III)Z"⟩
abbrev cX12_has : ByteArray := prog_14_method_3_code
def yX12_has : MethodName := ⟨RX12, "has", "(II)Z"⟩
abbrev cX12_bits : ByteArray := prog_14_method_4_code
def yX12_bits : MethodName := ⟨RX12, "bits", "(I)I"⟩
abbrev cX12_isClause : ByteArray := prog_14_method_5_code
def yX12_isClause : MethodName := ⟨RX12, "isClause", "(I)Z"⟩
abbrev cX12_isThere : ByteArray := prog_14_method_6_code
def yX12_isThere : MethodName := ⟨RX12, "isThere", "(I)Z"⟩
abbrev cX12_herd : ByteArray := prog_14_method_7_code
def yX12_herd : MethodName := ⟨RX12, "herd", "(IIIII)I"⟩
abbrev cX12_clause : ByteArray := prog_14_method_8_code
def yX12_clause : MethodName := ⟨RX12, "clause", "(II)I"⟩
abbrev cX12_clash : ByteArray := prog_14_method_9_code
def yX12_clash : MethodName := ⟨RX12, "clash", "(IIZ)I"⟩
abbrev cX12_rock : ByteArray := prog_14_method_10_code
def yX12_rock : MethodName := ⟨RX12, "rock", "(II)I"⟩
abbrev cX12_say : ByteArray := prog_14_method_11_code
def yX12_say : MethodName := ⟨RX12, "say", "(I)I"⟩
abbrev cX12_wipe : ByteArray := prog_14_method_12_code
def yX12_wipe : MethodName := ⟨RX12, "wipe", "()I"⟩
abbrev cX12_faultOf : ByteArray := prog_14_method_13_code
def yX12_faultOf : MethodName := ⟨RX12, "faultOf", "()I"⟩
abbrev cX12_fault : ByteArray := prog_14_method_14_code
def yX12_fault : MethodName := ⟨RX12, "fault", "()I"⟩
abbrev cX12_asNow : ByteArray := prog_14_method_15_code
def yX12_asNow : MethodName := ⟨RX12, "asNow", "()V"⟩
abbrev cX12_stands : ByteArray := prog_14_method_16_code
def yX12_stands : MethodName := ⟨RX12, "stands", "(I)Z"⟩
abbrev cX12_wouldSign : ByteArray := prog_14_method_17_code
def yX12_wouldSign : MethodName := ⟨RX12, "wouldSign", "(II)Z"⟩
abbrev cX12_signers : ByteArray := prog_14_method_18_code
def yX12_signers : MethodName := ⟨RX12, "signers", "(I)I"⟩
abbrev cX12_cheer : ByteArray := prog_14_method_19_code
def yX12_cheer : MethodName := ⟨RX12, "cheer", "(II)V"⟩
abbrev cX12_read : ByteArray := prog_14_method_20_code
def yX12_read : MethodName := ⟨RX12, "read", "(I)I"⟩
abbrev cX12_whistle : ByteArray := prog_14_method_21_code
def yX12_whistle : MethodName := ⟨RX12, "whistle", "(I)I"⟩
abbrev cX12_net : ByteArray := prog_14_method_22_code
def yX12_net : MethodName := ⟨RX12, "net", "(I)I"⟩
abbrev cX12_join : ByteArray := prog_14_method_23_code
def yX12_join : MethodName := ⟨RX12, "join", "(II)I"⟩
abbrev cX12_endMonth : ByteArray := prog_14_method_24_code
def yX12_endMonth : MethodName := ⟨RX12, "endMonth", "()I"⟩
abbrev cX12_herdAct : ByteArray := prog_14_method_25_code
def yX12_herdAct : MethodName := ⟨RX12, "herdAct", "(III)I"⟩
abbrev cX12_goSeasons : ByteArray := prog_14_method_26_code
def yX12_goSeasons : MethodName := ⟨RX12, "goSeasons", "()I"⟩
abbrev cX12_judge : ByteArray := prog_14_method_27_code
def yX12_judge : MethodName := ⟨RX12, "judge", "(I)I"⟩
abbrev cX12_barOfSeasons : ByteArray := prog_14_method_28_code
def yX12_barOfSeasons : MethodName := ⟨RX12, "barOfSeasons", "()I"⟩
abbrev cX12_done : ByteArray := prog_14_method_29_code
def yX12_done : MethodName := ⟨RX12, "done", "()I"⟩
abbrev cX12_behind : ByteArray := prog_14_method_30_code
def yX12_behind : MethodName := ⟨RX12, "behind", "(II)I"⟩
abbrev cX12_headsBeyond : ByteArray := prog_14_method_31_code
def yX12_headsBeyond : MethodName := ⟨RX12, "headsBeyond", "()I"⟩
abbrev cX12_then : ByteArray := prog_14_method_32_code
def yX12_then : MethodName := ⟨RX12, "then", "(I)I"⟩
abbrev cX12_who : ByteArray := prog_14_method_33_code
def yX12_who : MethodName := ⟨RX12, "who", "(I)I"⟩
abbrev cX12_heard : ByteArray := prog_14_method_34_code
def yX12_heard : MethodName := ⟨RX12, "heard", "(III)I"⟩
abbrev cX12_bring : ByteArray := prog_14_method_35_code
def yX12_bring : MethodName := ⟨RX12, "bring", "(IIIII)I"⟩
abbrev cX12_drop : ByteArray := prog_14_method_36_code
def yX12_drop : MethodName := ⟨RX12, "drop", "(II)I"⟩
abbrev cX12_share : ByteArray := prog_14_method_37_code
def yX12_share : MethodName := ⟨RX12, "share", "(II)I"⟩
abbrev cX12_lowest : ByteArray := prog_14_method_38_code
def yX12_lowest : MethodName := ⟨RX12, "lowest", "(JJI)J"⟩
abbrev cX12_layWait : ByteArray := prog_14_method_39_code
def yX12_layWait : MethodName := ⟨RX12, "layWait", "(II)V"⟩
abbrev cX12_waiting : ByteArray := prog_14_method_40_code
def yX12_waiting : MethodName := ⟨RX12, "waiting", "(III)J"⟩
abbrev cX12_reads : ByteArray := prog_14_method_41_code
def yX12_reads : MethodName := ⟨RX12, "reads", "(II)I"⟩
abbrev cX12_counted : ByteArray := prog_14_method_42_code
def yX12_counted : MethodName := ⟨RX12, "counted", "(II)I"⟩
abbrev cX12_forget : ByteArray := prog_14_method_43_code
def yX12_forget : MethodName := ⟨RX12, "forget", "()I"⟩
abbrev cX12_wantingOff : ByteArray := prog_14_method_44_code
def yX12_wantingOff : MethodName := ⟨RX12, "wantingOff", "(II)I"⟩
abbrev cX12_isFit : ByteArray := prog_14_method_45_code
def yX12_isFit : MethodName := ⟨RX12, "isFit", "(I)Z"⟩
abbrev cX12_went : ByteArray := prog_14_method_46_code
def yX12_went : MethodName := ⟨RX12, "went", "(I)I"⟩
abbrev cX12_ask : ByteArray := prog_14_method_47_code
def yX12_ask : MethodName := ⟨RX12, "ask", "(I)I"⟩
abbrev cX12_turning : ByteArray := prog_14_method_48_code
def yX12_turning : MethodName := ⟨RX12, "turning", "(II)I"⟩
abbrev cX12_drift : ByteArray := prog_14_method_49_code
def yX12_drift : MethodName := ⟨RX12, "drift", "(IIIIII)J"⟩
abbrev cX12_year : ByteArray := prog_14_method_50_code
def yX12_year : MethodName := ⟨RX12, "year", "(III)I"⟩
abbrev cX12_image : ByteArray := prog_14_method_51_code
def yX12_image : MethodName := ⟨RX12, "image", "(I)I"⟩
abbrev cX12_restore : ByteArray := prog_14_method_52_code
def yX12_restore : MethodName := ⟨RX12, "restore", "(I)I"⟩
abbrev cX12_told : ByteArray := prog_14_method_53_code
def yX12_told : MethodName := ⟨RX12, "told", "(I)I"⟩
def RJ6 : String := "java/lang/Integer"
def TJ6 : u_T := fun k => match k with
  | _ => ("", "", "", false)
def tyJ6 : Nat → FieldType := fun k => match k with
  | _ => .int
abbrev wsJ60 : List Cond := u_ws RJ6 TJ6 0
theorem nmJ6 : ∀ a, a < 0 → ∀ b, b < 0 → a ≠ b → (TJ6 a).2.1 ≠ (TJ6 b).2.1 := by decide +kernel
theorem tyJ6_ok : ∀ k, k < 0 → parseFieldDescriptor (TJ6 k).2.2.1 = some (tyJ6 k) := by decide +kernel
abbrev cJ6_bitCount_0f7a4 : ByteArray := prog_15_method_49_code
def yJ6_bitCount_0f7a4 : MethodName := ⟨RJ6, "bitCount", "(I)I"⟩
def RJ9 : String := "java/lang/Math"
def TJ9 : u_T := fun k => match k with
  | _ => ("", "", "", false)
def tyJ9 : Nat → FieldType := fun k => match k with
  | _ => .int
abbrev wsJ90 : List Cond := u_ws RJ9 TJ9 0
theorem nmJ9 : ∀ a, a < 0 → ∀ b, b < 0 → a ≠ b → (TJ9 a).2.1 ≠ (TJ9 b).2.1 := by decide +kernel
theorem tyJ9_ok : ∀ k, k < 0 → parseFieldDescriptor (TJ9 k).2.2.1 = some (tyJ9 k) := by decide +kernel
abbrev cJ9_max_7cf53 : ByteArray := prog_16_method_65_code
def yJ9_max_7cf53 : MethodName := ⟨RJ9, "max", "(II)I"⟩
abbrev cJ9_max_f86c9 : ByteArray := prog_16_method_66_code
def yJ9_max_f86c9 : MethodName := ⟨RJ9, "max", "(JJ)J"⟩
abbrev cJ9_min_7cf53 : ByteArray := prog_16_method_69_code
def yJ9_min_7cf53 : MethodName := ⟨RJ9, "min", "(II)I"⟩
def RJ7 : String := "java/util/Arrays"
def TJ7 : u_T := fun k => match k with
  | _ => ("", "", "", false)
def tyJ7 : Nat → FieldType := fun k => match k with
  | _ => .int
abbrev wsJ70 : List Cond := u_ws RJ7 TJ7 0
theorem nmJ7 : ∀ a, a < 0 → ∀ b, b < 0 → a ≠ b → (TJ7 a).2.1 ≠ (TJ7 b).2.1 := by decide +kernel
theorem tyJ7_ok : ∀ k, k < 0 → parseFieldDescriptor (TJ7 k).2.2.1 = some (tyJ7 k) := by decide +kernel
abbrev cJ7_fill_53178 : ByteArray := prog_17_method_103_code
def yJ7_fill_53178 : MethodName := ⟨RJ7, "fill", "([II)V"⟩
def RL : String := "SealStraitLaw"
abbrev cL_law : ByteArray := code
def yL_law : MethodName := ⟨RL, "law", "([I)Z"⟩
def wsX0_init : List Cond := .code yX0_init cX0_init 1 none :: ([.methodLink RX0 3 objectInit, .instanceMethod objectInit, .code objectInit ⟨#[0xb1]⟩ 1 none])
def wsX0_set : List Cond := .code yX0_set cX0_set 4 none :: ([.fieldLink RX0 9 "SealStrait$Act" "kind" "I", .fieldLink RX0 15 "SealStrait$Act" "one" "I", .fieldLink RX0 18 "SealStrait$Act" "other" "I"] ++ wsX00)
def wsX7_signAt : List Cond := .code yX7_signAt cX7_signAt 2 (some .int) :: ([.fieldLink RX7 15 "SealStrait$Pad" "size" "I", .fieldLink RX7 11 "SealStrait$Pad" "signs" "[I"] ++ wsX70)
def wsX11_within : List Cond := .code yX11_within cX11_within 3 (some .boolean) :: ([])
def wsX7_isHerd : List Cond := .code yX7_isHerd cX7_isHerd 1 (some .boolean) :: ([.static yX11_within, .initialized RX11, .code yX11_within cX11_within 3 (some .boolean)])
def wsX0_takeFrom : List Cond := .code yX0_takeFrom cX0_takeFrom 5 (some .int) :: ([.methodLink RX0 21 yX7_signAt, .instanceMethod yX7_signAt, .selects RX7 yX7_signAt yX7_signAt, .initialized RX7, .code yX7_signAt cX7_signAt 2 (some .int), .fieldLink RX7 15 "SealStrait$Pad" "size" "I", .fieldLink RX7 11 "SealStrait$Pad" "signs" "[I", .methodLink RX0 27 yX7_isHerd, .static yX7_isHerd, .code yX7_isHerd cX7_isHerd 1 (some .boolean), .static yX11_within, .initialized RX11, .code yX11_within cX11_within 3 (some .boolean), .methodLink RX0 31 yX0_set, .instanceMethod yX0_set, .selects RX0 yX0_set yX0_set, .initialized RX0, .code yX0_set cX0_set 4 none, .fieldLink RX0 9 "SealStrait$Act" "kind" "I", .fieldLink RX0 15 "SealStrait$Act" "one" "I", .fieldLink RX0 18 "SealStrait$Act" "other" "I"] ++ wsX70 ++ wsX00)
def wsX0_draw : List Cond := .code yX0_draw cX0_draw 3 none :: ([.methodLink RX0 31 yX0_set, .instanceMethod yX0_set, .selects RX0 yX0_set yX0_set, .initialized RX0, .code yX0_set cX0_set 4 none, .fieldLink RX0 9 "SealStrait$Act" "kind" "I", .fieldLink RX0 15 "SealStrait$Act" "one" "I", .fieldLink RX0 18 "SealStrait$Act" "other" "I"] ++ wsX00)
def wsX1_init : List Cond := .code yX1_init cX1_init 1 none :: ([.methodLink RX1 5 objectInit, .instanceMethod objectInit, .code objectInit ⟨#[0xb1]⟩ 1 none, .arrayClass .int, .fieldLink RX1 11 "SealStrait$Bringing" "steps" "[I", .fieldLink RX1 15 "SealStrait$Bringing" "firsts" "[I", .fieldLink RX1 18 "SealStrait$Bringing" "queue" "[I"] ++ wsX10)
def wsJ7_fill_53178 : List Cond := .code yJ7_fill_53178 cJ7_fill_53178 4 none :: ([])
def wsX8_isThere : List Cond := .code yX8_isThere cX8_isThere 2 (some .boolean) :: ([.fieldLink RX8 24 "SealStrait$Sea" "there" "I"] ++ wsX80)
def wsX8_listens : List Cond := .code yX8_listens cX8_listens 2 (some .boolean) :: ([.fieldLink RX8 9 "SealStrait$Sea" "heads" "[I", .fieldLink RX8 21 "SealStrait$Sea" "moults" "[I", .fieldLink RX8 28 "SealStrait$Sea" "month" "I", .methodLink RX8 38 yX8_isThere, .instanceMethod yX8_isThere, .selects RX8 yX8_isThere yX8_isThere, .initialized RX8, .code yX8_isThere cX8_isThere 2 (some .boolean), .fieldLink RX8 24 "SealStrait$Sea" "there" "I"] ++ wsX80)
def wsX1_placeOf : List Cond := .code yX1_placeOf cX1_placeOf 2 (some .int) :: ([.fieldLink RX1 79 "SealStrait$Sea" "sides" "[I", .fieldLink RX1 82 "SealStrait$Sea" "moods" "[I", .methodLink RX1 76 yX8_isThere, .instanceMethod yX8_isThere, .selects RX8 yX8_isThere yX8_isThere, .initialized RX8, .code yX8_isThere cX8_isThere 2 (some .boolean), .fieldLink RX8 24 "SealStrait$Sea" "there" "I"] ++ wsX80)
def wsX1_reach : List Cond := .code yX1_reach cX1_reach 4 none :: ([.fieldLink RX1 27 "SealStrait$Bringing" "size" "I", .fieldLink RX1 11 "SealStrait$Bringing" "steps" "[I", .fieldLink RX1 15 "SealStrait$Bringing" "firsts" "[I", .fieldLink RX1 18 "SealStrait$Bringing" "queue" "[I", .static yX11_within, .initialized RX11, .code yX11_within cX11_within 3 (some .boolean)] ++ wsX10)
def wsX1_begin_r1 : List Cond := [Cond.fieldLink RX1 11 "SealStrait$Bringing" "steps" "[I", Cond.fieldLink RX1 27 "SealStrait$Bringing" "size" "I", Cond.fieldLink RX1 37 "SealStrait$Bringing" "oneListens" "Z", Cond.fieldLink RX1 41 "SealStrait$Bringing" "otherListens" "Z", Cond.methodLink RX1 21 yJ7_fill_53178, Cond.static yJ7_fill_53178, Cond.initialized RJ7, Cond.code yJ7_fill_53178 cJ7_fill_53178 4 none, Cond.methodLink RX1 31 yX8_listens, Cond.instanceMethod yX8_listens, Cond.selects RX8 yX8_listens yX8_listens, Cond.initialized RX8, Cond.code yX8_listens cX8_listens 2 (some .boolean), Cond.fieldLink RX8 9 "SealStrait$Sea" "heads" "[I", Cond.fieldLink RX8 21 "SealStrait$Sea" "moults" "[I", Cond.fieldLink RX8 28 "SealStrait$Sea" "month" "I", Cond.methodLink RX8 38 yX8_isThere, Cond.instanceMethod yX8_isThere, Cond.selects RX8 yX8_isThere yX8_isThere, Cond.code yX8_isThere cX8_isThere 2 (some .boolean), Cond.fieldLink RX8 24 "SealStrait$Sea" "there" "I", Cond.methodLink RX1 44 yX1_placeOf, Cond.static yX1_placeOf, Cond.initialized RX1]
def wsX1_begin_r2 : List Cond := [Cond.code yX1_placeOf cX1_placeOf 2 (some .int), Cond.fieldLink RX1 79 "SealStrait$Sea" "sides" "[I", Cond.fieldLink RX1 82 "SealStrait$Sea" "moods" "[I", Cond.methodLink RX1 76 yX8_isThere, Cond.methodLink RX1 48 yX1_reach, Cond.instanceMethod yX1_reach, Cond.selects RX1 yX1_reach yX1_reach, Cond.code yX1_reach cX1_reach 4 none, Cond.fieldLink RX1 15 "SealStrait$Bringing" "firsts" "[I", Cond.fieldLink RX1 18 "SealStrait$Bringing" "queue" "[I", Cond.static yX11_within, Cond.initialized RX11, Cond.code yX11_within cX11_within 3 (some .boolean)]
def wsX1_begin : List Cond := .code yX1_begin cX1_begin 4 none :: ((wsX1_begin_r1 ++ wsX1_begin_r2) ++ wsX10 ++ wsX80)
def wsX9_wordsOf : List Cond := .code yX9_wordsOf cX9_wordsOf 2 (some .int) :: ([.fieldLink RX9 9 "SealStrait$Treaty" "words" "[I", .static yX11_within, .initialized RX11, .code yX11_within cX11_within 3 (some .boolean)] ++ wsX90)
def wsX1_behindReading : List Cond := .code yX1_behindReading cX1_behindReading 5 (some .int) :: ([.methodLink RX1 85 Lib.Math.min.name, .static Lib.Math.min.name, .initialized "java/lang/Math", .code Lib.Math.min.name Lib.Math.min.code 2 (some .int)])
def wsX1_goOnFrom_r1 : List Cond := [Cond.fieldLink RX1 37 "SealStrait$Bringing" "oneListens" "Z", Cond.fieldLink RX1 41 "SealStrait$Bringing" "otherListens" "Z", Cond.methodLink RX1 66 yX9_wordsOf, Cond.instanceMethod yX9_wordsOf, Cond.selects RX9 yX9_wordsOf yX9_wordsOf, Cond.initialized RX9, Cond.code yX9_wordsOf cX9_wordsOf 2 (some .int), Cond.fieldLink RX9 9 "SealStrait$Treaty" "words" "[I", Cond.static yX11_within, Cond.initialized RX11, Cond.code yX11_within cX11_within 3 (some .boolean), Cond.methodLink RX1 72 yX1_behindReading, Cond.static yX1_behindReading, Cond.initialized RX1, Cond.code yX1_behindReading cX1_behindReading 5 (some .int), Cond.methodLink RX1 85 Lib.Math.min.name, Cond.static Lib.Math.min.name, Cond.initialized "java/lang/Math", Cond.code Lib.Math.min.name Lib.Math.min.code 2 (some .int), Cond.methodLink RX1 48 yX1_reach, Cond.instanceMethod yX1_reach, Cond.selects RX1 yX1_reach yX1_reach, Cond.code yX1_reach cX1_reach 4 none, Cond.fieldLink RX1 27 "SealStrait$Bringing" "size" "I"]
def wsX1_goOnFrom_r2 : List Cond := [Cond.fieldLink RX1 11 "SealStrait$Bringing" "steps" "[I", Cond.fieldLink RX1 15 "SealStrait$Bringing" "firsts" "[I", Cond.fieldLink RX1 18 "SealStrait$Bringing" "queue" "[I"]
def wsX1_goOnFrom : List Cond := .code yX1_goOnFrom cX1_goOnFrom 9 none :: ((wsX1_goOnFrom_r1 ++ wsX1_goOnFrom_r2) ++ wsX10 ++ wsX90)
def wsX1_search_r1 : List Cond := [Cond.fieldLink RX1 52 "SealStrait$Bringing" "fewest" "I", Cond.fieldLink RX1 55 "SealStrait$Bringing" "firstClause" "I", Cond.fieldLink RX1 27 "SealStrait$Bringing" "size" "I", Cond.fieldLink RX1 18 "SealStrait$Bringing" "queue" "[I", Cond.fieldLink RX1 11 "SealStrait$Bringing" "steps" "[I", Cond.fieldLink RX1 15 "SealStrait$Bringing" "firsts" "[I", Cond.static yX11_within, Cond.initialized RX11, Cond.code yX11_within cX11_within 3 (some .boolean), Cond.methodLink RX1 62 yX1_goOnFrom, Cond.instanceMethod yX1_goOnFrom, Cond.selects RX1 yX1_goOnFrom yX1_goOnFrom, Cond.initialized RX1, Cond.code yX1_goOnFrom cX1_goOnFrom 9 none, Cond.fieldLink RX1 37 "SealStrait$Bringing" "oneListens" "Z", Cond.fieldLink RX1 41 "SealStrait$Bringing" "otherListens" "Z", Cond.methodLink RX1 66 yX9_wordsOf, Cond.instanceMethod yX9_wordsOf, Cond.selects RX9 yX9_wordsOf yX9_wordsOf, Cond.initialized RX9, Cond.code yX9_wordsOf cX9_wordsOf 2 (some .int), Cond.fieldLink RX9 9 "SealStrait$Treaty" "words" "[I", Cond.methodLink RX1 72 yX1_behindReading, Cond.static yX1_behindReading]
def wsX1_search_r2 : List Cond := [Cond.code yX1_behindReading cX1_behindReading 5 (some .int), Cond.methodLink RX1 85 Lib.Math.min.name, Cond.static Lib.Math.min.name, Cond.initialized "java/lang/Math", Cond.code Lib.Math.min.name Lib.Math.min.code 2 (some .int), Cond.methodLink RX1 48 yX1_reach, Cond.instanceMethod yX1_reach, Cond.selects RX1 yX1_reach yX1_reach, Cond.code yX1_reach cX1_reach 4 none]
def wsX1_search : List Cond := .code yX1_search cX1_search 6 none :: ((wsX1_search_r1 ++ wsX1_search_r2) ++ wsX10 ++ wsX90)
def wsX2_init : List Cond := .code yX2_init cX2_init 1 none :: ([.methodLink RX2 1 objectInit, .instanceMethod objectInit, .code objectInit ⟨#[0xb1]⟩ 1 none, .fieldLink RX2 7 "SealStrait$Fraction" "lower" "J"] ++ wsX20)
def wsX2_commonDivisor : List Cond := .code yX2_commonDivisor cX2_commonDivisor 11 (some .long) :: ([])
def wsX2_reduce : List Cond := .code yX2_reduce cX2_reduce 3 none :: ([.fieldLink RX2 13 "SealStrait$Fraction" "upper" "J", .fieldLink RX2 7 "SealStrait$Fraction" "lower" "J", .methodLink RX2 27 yX2_commonDivisor, .static yX2_commonDivisor, .initialized RX2, .code yX2_commonDivisor cX2_commonDivisor 11 (some .long)] ++ wsX20)
def wsX2_setWaiting : List Cond := .code yX2_setWaiting cX2_setWaiting 7 none :: ([.fieldLink RX2 13 "SealStrait$Fraction" "upper" "J", .fieldLink RX2 7 "SealStrait$Fraction" "lower" "J", .methodLink RX2 16 Lib.MathLoose.max_long.x, .static Lib.MathLoose.max_long.x, .initialized "java/lang/Math", .code Lib.MathLoose.max_long.x Lib.MathLoose.max_long.code 4 (some .long), .methodLink RX2 22 yX2_reduce, .instanceMethod yX2_reduce, .selects RX2 yX2_reduce yX2_reduce, .initialized RX2, .code yX2_reduce cX2_reduce 3 none, .methodLink RX2 27 yX2_commonDivisor, .static yX2_commonDivisor, .code yX2_commonDivisor cX2_commonDivisor 11 (some .long)] ++ wsX20)
def wsX2_setDrift : List Cond := .code yX2_setDrift cX2_setDrift 11 none :: ([.fieldLink RX2 7 "SealStrait$Fraction" "lower" "J", .constantLong RX2 25 (10), .fieldLink RX2 13 "SealStrait$Fraction" "upper" "J", .methodLink RX2 22 yX2_reduce, .instanceMethod yX2_reduce, .selects RX2 yX2_reduce yX2_reduce, .initialized RX2, .code yX2_reduce cX2_reduce 3 none, .methodLink RX2 27 yX2_commonDivisor, .static yX2_commonDivisor, .code yX2_commonDivisor cX2_commonDivisor 11 (some .long)] ++ wsX20)
def wsX2_leastWholeNotBelow : List Cond := .code yX2_leastWholeNotBelow cX2_leastWholeNotBelow 3 (some .int) :: ([.fieldLink RX2 7 "SealStrait$Fraction" "lower" "J", .fieldLink RX2 13 "SealStrait$Fraction" "upper" "J"] ++ wsX20)
def wsX2_part : List Cond := .code yX2_part cX2_part 2 (some .long) :: ([.fieldLink RX2 13 "SealStrait$Fraction" "upper" "J", .fieldLink RX2 7 "SealStrait$Fraction" "lower" "J"] ++ wsX20)
def wsX3_init : List Cond := .code yX3_init cX3_init 1 none :: ([.methodLink RX3 3 objectInit, .instanceMethod objectInit, .code objectInit ⟨#[0xb1]⟩ 1 none, .arrayClass .boolean, .fieldLink RX3 9 "SealStrait$Game" "wins" "[Z"] ++ wsX30)
def wsX11_has : List Cond := .code yX11_has cX11_has 2 (some .boolean) :: ([])
def wsX9_wordsOfAll : List Cond := .code yX9_wordsOfAll cX9_wordsOfAll 4 (some .int) :: ([.fieldLink RX9 9 "SealStrait$Treaty" "words" "[I", .static yX11_has, .initialized RX11, .code yX11_has cX11_has 2 (some .boolean)] ++ wsX90)
def wsX3_winningNext : List Cond := .code yX3_winningNext cX3_winningNext 6 (some .int) :: ([.fieldLink RX3 9 "SealStrait$Game" "wins" "[Z", .methodLink RX3 25 yX9_wordsOf, .instanceMethod yX9_wordsOf, .selects RX9 yX9_wordsOf yX9_wordsOf, .initialized RX9, .code yX9_wordsOf cX9_wordsOf 2 (some .int), .fieldLink RX9 9 "SealStrait$Treaty" "words" "[I", .static yX11_within, .initialized RX11, .code yX11_within cX11_within 3 (some .boolean)] ++ wsX30 ++ wsX90)
def wsX3_winningFirst : List Cond := .code yX3_winningFirst cX3_winningFirst 5 (some .int) :: ([.fieldLink RX3 9 "SealStrait$Game" "wins" "[Z", .methodLink RX3 15 yX9_wordsOfAll, .instanceMethod yX9_wordsOfAll, .selects RX9 yX9_wordsOfAll yX9_wordsOfAll, .initialized RX9, .code yX9_wordsOfAll cX9_wordsOfAll 4 (some .int), .fieldLink RX9 9 "SealStrait$Treaty" "words" "[I", .static yX11_has, .initialized RX11, .code yX11_has cX11_has 2 (some .boolean), .methodLink RX3 21 yX3_winningNext, .instanceMethod yX3_winningNext, .selects RX3 yX3_winningNext yX3_winningNext, .initialized RX3, .code yX3_winningNext cX3_winningNext 6 (some .int), .methodLink RX3 25 yX9_wordsOf, .instanceMethod yX9_wordsOf, .selects RX9 yX9_wordsOf yX9_wordsOf, .code yX9_wordsOf cX9_wordsOf 2 (some .int), .static yX11_within, .code yX11_within cX11_within 3 (some .boolean)] ++ wsX30 ++ wsX90)
def wsX4_init : List Cond := .code yX4_init cX4_init 1 none :: ([.methodLink RX4 3 objectInit, .instanceMethod objectInit, .code objectInit ⟨#[0xb1]⟩ 1 none, .arrayClass .int, .fieldLink RX4 9 "SealStrait$Guess" "sets" "[I", .fieldLink RX4 15 "SealStrait$Guess" "tally" "[I"] ++ wsX40)
def wsX8_headsOf : List Cond := .code yX8_headsOf cX8_headsOf 4 (some .int) :: ([.fieldLink RX8 9 "SealStrait$Sea" "heads" "[I", .static yX11_has, .initialized RX11, .code yX11_has cX11_has 2 (some .boolean), .methodLink RX8 38 yX8_isThere, .instanceMethod yX8_isThere, .selects RX8 yX8_isThere yX8_isThere, .initialized RX8, .code yX8_isThere cX8_isThere 2 (some .boolean), .fieldLink RX8 24 "SealStrait$Sea" "there" "I"] ++ wsX80)
def wsX6_wantingOff : List Cond := .code yX6_wantingOff cX6_wantingOff 4 (some .int) :: ([.fieldLink RX6 9 "SealStrait$Lookout" "seen" "[I", .static yX11_within, .initialized RX11, .code yX11_within cX11_within 3 (some .boolean), .methodLink RX6 35 yX8_headsOf, .instanceMethod yX8_headsOf, .selects RX8 yX8_headsOf yX8_headsOf, .initialized RX8, .code yX8_headsOf cX8_headsOf 4 (some .int), .fieldLink RX8 9 "SealStrait$Sea" "heads" "[I", .static yX11_has, .code yX11_has cX11_has 2 (some .boolean), .methodLink RX8 38 yX8_isThere, .instanceMethod yX8_isThere, .selects RX8 yX8_isThere yX8_isThere, .code yX8_isThere cX8_isThere 2 (some .boolean), .fieldLink RX8 24 "SealStrait$Sea" "there" "I"] ++ wsX60 ++ wsX80)
def wsX6_allCountsFit_r1 : List Cond := [Cond.fieldLink RX6 27 "SealStrait$Lookout" "counts" "I", Cond.fieldLink RX6 15 "SealStrait$Lookout" "countRocks" "[I", Cond.fieldLink RX6 18 "SealStrait$Lookout" "countWantings" "[I", Cond.methodLink RX6 41 yX6_wantingOff, Cond.instanceMethod yX6_wantingOff, Cond.selects RX6 yX6_wantingOff yX6_wantingOff, Cond.initialized RX6, Cond.code yX6_wantingOff cX6_wantingOff 4 (some .int), Cond.fieldLink RX6 9 "SealStrait$Lookout" "seen" "[I", Cond.static yX11_within, Cond.initialized RX11, Cond.code yX11_within cX11_within 3 (some .boolean), Cond.methodLink RX6 35 yX8_headsOf, Cond.instanceMethod yX8_headsOf, Cond.selects RX8 yX8_headsOf yX8_headsOf, Cond.initialized RX8, Cond.code yX8_headsOf cX8_headsOf 4 (some .int), Cond.fieldLink RX8 9 "SealStrait$Sea" "heads" "[I", Cond.static yX11_has, Cond.code yX11_has cX11_has 2 (some .boolean), Cond.methodLink RX8 38 yX8_isThere, Cond.instanceMethod yX8_isThere, Cond.selects RX8 yX8_isThere yX8_isThere, Cond.code yX8_isThere cX8_isThere 2 (some .boolean)]
def wsX6_allCountsFit_r2 : List Cond := [Cond.fieldLink RX8 24 "SealStrait$Sea" "there" "I"]
def wsX6_allCountsFit : List Cond := .code yX6_allCountsFit cX6_allCountsFit 4 (some .boolean) :: ((wsX6_allCountsFit_r1 ++ wsX6_allCountsFit_r2) ++ wsX60 ++ wsX80)
def wsX4_findSets_r1 : List Cond := [Cond.fieldLink RX4 18 "SealStrait$Guess" "size" "I", Cond.fieldLink RX4 22 "SealStrait$Sea" "there" "I", Cond.fieldLink RX4 9 "SealStrait$Guess" "sets" "[I", Cond.methodLink RX4 27 yX6_allCountsFit, Cond.instanceMethod yX6_allCountsFit, Cond.selects RX6 yX6_allCountsFit yX6_allCountsFit, Cond.initialized RX6, Cond.code yX6_allCountsFit cX6_allCountsFit 4 (some .boolean), Cond.fieldLink RX6 27 "SealStrait$Lookout" "counts" "I", Cond.fieldLink RX6 15 "SealStrait$Lookout" "countRocks" "[I", Cond.fieldLink RX6 18 "SealStrait$Lookout" "countWantings" "[I", Cond.methodLink RX6 41 yX6_wantingOff, Cond.instanceMethod yX6_wantingOff, Cond.selects RX6 yX6_wantingOff yX6_wantingOff, Cond.code yX6_wantingOff cX6_wantingOff 4 (some .int), Cond.fieldLink RX6 9 "SealStrait$Lookout" "seen" "[I", Cond.static yX11_within, Cond.initialized RX11, Cond.code yX11_within cX11_within 3 (some .boolean), Cond.methodLink RX6 35 yX8_headsOf, Cond.instanceMethod yX8_headsOf, Cond.selects RX8 yX8_headsOf yX8_headsOf, Cond.initialized RX8, Cond.code yX8_headsOf cX8_headsOf 4 (some .int)]
def wsX4_findSets_r2 : List Cond := [Cond.fieldLink RX8 9 "SealStrait$Sea" "heads" "[I", Cond.static yX11_has, Cond.code yX11_has cX11_has 2 (some .boolean), Cond.methodLink RX8 38 yX8_isThere, Cond.instanceMethod yX8_isThere, Cond.selects RX8 yX8_isThere yX8_isThere, Cond.code yX8_isThere cX8_isThere 2 (some .boolean), Cond.fieldLink RX8 24 "SealStrait$Sea" "there" "I"]
def wsX4_findSets : List Cond := .code yX4_findSets cX4_findSets 5 none :: ((wsX4_findSets_r1 ++ wsX4_findSets_r2) ++ wsX40 ++ wsX80 ++ wsX60)
def wsX4_setAt : List Cond := .code yX4_setAt cX4_setAt 2 (some .int) :: ([.fieldLink RX4 18 "SealStrait$Guess" "size" "I", .fieldLink RX4 9 "SealStrait$Guess" "sets" "[I"] ++ wsX40)
def wsX4_mostAlike_r1 : List Cond := [Cond.fieldLink RX4 15 "SealStrait$Guess" "tally" "[I", Cond.fieldLink RX4 18 "SealStrait$Guess" "size" "I", Cond.fieldLink RX4 9 "SealStrait$Guess" "sets" "[I", Cond.methodLink RX4 53 Lib.Math.max.name, Cond.static Lib.Math.max.name, Cond.initialized "java/lang/Math", Cond.code Lib.Math.max.name Lib.Math.max.code 2 (some .int), Cond.methodLink RX4 43 yJ7_fill_53178, Cond.static yJ7_fill_53178, Cond.initialized RJ7, Cond.code yJ7_fill_53178 cJ7_fill_53178 4 none, Cond.methodLink RX4 49 yX6_wantingOff, Cond.instanceMethod yX6_wantingOff, Cond.selects RX6 yX6_wantingOff yX6_wantingOff, Cond.initialized RX6, Cond.code yX6_wantingOff cX6_wantingOff 4 (some .int), Cond.fieldLink RX6 9 "SealStrait$Lookout" "seen" "[I", Cond.static yX11_within, Cond.initialized RX11, Cond.code yX11_within cX11_within 3 (some .boolean), Cond.methodLink RX6 35 yX8_headsOf, Cond.instanceMethod yX8_headsOf, Cond.selects RX8 yX8_headsOf yX8_headsOf, Cond.initialized RX8]
def wsX4_mostAlike_r2 : List Cond := [Cond.code yX8_headsOf cX8_headsOf 4 (some .int), Cond.fieldLink RX8 9 "SealStrait$Sea" "heads" "[I", Cond.static yX11_has, Cond.code yX11_has cX11_has 2 (some .boolean), Cond.methodLink RX8 38 yX8_isThere, Cond.instanceMethod yX8_isThere, Cond.selects RX8 yX8_isThere yX8_isThere, Cond.code yX8_isThere cX8_isThere 2 (some .boolean), Cond.fieldLink RX8 24 "SealStrait$Sea" "there" "I"]
def wsX4_mostAlike : List Cond := .code yX4_mostAlike cX4_mostAlike 7 (some .int) :: ((wsX4_mostAlike_r1 ++ wsX4_mostAlike_r2) ++ wsX40 ++ wsX60 ++ wsX80)
def wsX4_findNextRock_r1 : List Cond := [Cond.fieldLink RX4 33 "SealStrait$Guess" "nextRock" "I", Cond.fieldLink RX4 36 "SealStrait$Guess" "leftAtMost" "I", Cond.methodLink RX4 39 yX4_mostAlike, Cond.instanceMethod yX4_mostAlike, Cond.selects RX4 yX4_mostAlike yX4_mostAlike, Cond.initialized RX4, Cond.code yX4_mostAlike cX4_mostAlike 7 (some .int), Cond.fieldLink RX4 15 "SealStrait$Guess" "tally" "[I", Cond.fieldLink RX4 18 "SealStrait$Guess" "size" "I", Cond.fieldLink RX4 9 "SealStrait$Guess" "sets" "[I", Cond.methodLink RX4 53 Lib.Math.max.name, Cond.static Lib.Math.max.name, Cond.initialized "java/lang/Math", Cond.code Lib.Math.max.name Lib.Math.max.code 2 (some .int), Cond.methodLink RX4 43 yJ7_fill_53178, Cond.static yJ7_fill_53178, Cond.initialized RJ7, Cond.code yJ7_fill_53178 cJ7_fill_53178 4 none, Cond.methodLink RX4 49 yX6_wantingOff, Cond.instanceMethod yX6_wantingOff, Cond.selects RX6 yX6_wantingOff yX6_wantingOff, Cond.initialized RX6, Cond.code yX6_wantingOff cX6_wantingOff 4 (some .int), Cond.fieldLink RX6 9 "SealStrait$Lookout" "seen" "[I"]
def wsX4_findNextRock_r2 : List Cond := [Cond.static yX11_within, Cond.initialized RX11, Cond.code yX11_within cX11_within 3 (some .boolean), Cond.methodLink RX6 35 yX8_headsOf, Cond.instanceMethod yX8_headsOf, Cond.selects RX8 yX8_headsOf yX8_headsOf, Cond.initialized RX8, Cond.code yX8_headsOf cX8_headsOf 4 (some .int), Cond.fieldLink RX8 9 "SealStrait$Sea" "heads" "[I", Cond.static yX11_has, Cond.code yX11_has cX11_has 2 (some .boolean), Cond.methodLink RX8 38 yX8_isThere, Cond.instanceMethod yX8_isThere, Cond.selects RX8 yX8_isThere yX8_isThere, Cond.code yX8_isThere cX8_isThere 2 (some .boolean), Cond.fieldLink RX8 24 "SealStrait$Sea" "there" "I"]
def wsX4_findNextRock : List Cond := .code yX4_findNextRock cX4_findNextRock 5 none :: ((wsX4_findNextRock_r1 ++ wsX4_findNextRock_r2) ++ wsX40 ++ wsX60 ++ wsX80)
def wsX8_init : List Cond := .code yX8_init cX8_init 1 none :: ([.methodLink RX8 3 objectInit, .instanceMethod objectInit, .code objectInit ⟨#[0xb1]⟩ 1 none, .arrayClass .int, .fieldLink RX8 9 "SealStrait$Sea" "heads" "[I", .fieldLink RX8 15 "SealStrait$Sea" "sides" "[I", .fieldLink RX8 18 "SealStrait$Sea" "moods" "[I", .fieldLink RX8 21 "SealStrait$Sea" "moults" "[I"] ++ wsX80)
def wsX9_init : List Cond := .code yX9_init cX9_init 1 none :: ([.methodLink RX9 3 objectInit, .instanceMethod objectInit, .code objectInit ⟨#[0xb1]⟩ 1 none, .arrayClass .int, .fieldLink RX9 9 "SealStrait$Treaty" "words" "[I", .fieldLink RX9 15 "SealStrait$Treaty" "clashes" "[I", .methodLink RX9 18 yJ7_fill_53178, .static yJ7_fill_53178, .initialized RJ7, .code yJ7_fill_53178 cJ7_fill_53178 4 none] ++ wsX90)
def wsX6_init : List Cond := .code yX6_init cX6_init 1 none :: ([.methodLink RX6 3 objectInit, .instanceMethod objectInit, .code objectInit ⟨#[0xb1]⟩ 1 none, .arrayClass .int, .fieldLink RX6 9 "SealStrait$Lookout" "seen" "[I", .fieldLink RX6 15 "SealStrait$Lookout" "countRocks" "[I", .fieldLink RX6 18 "SealStrait$Lookout" "countWantings" "[I", .methodLink RX6 21 yJ7_fill_53178, .static yJ7_fill_53178, .initialized RJ7, .code yJ7_fill_53178 cJ7_fill_53178 4 none] ++ wsX60)
def wsX5_init_r1 : List Cond := [Cond.methodLink RX5 1 objectInit, Cond.instanceMethod objectInit, Cond.code objectInit ⟨#[0xb1]⟩ 1 none, Cond.classLink RX5 7 RX8, Cond.instantiable RX8 7, Cond.initialized RX8, Cond.fieldLink RX5 10 "SealStrait$Image" "sea" "LSealStrait$Sea;", Cond.classLink RX5 16 RX9, Cond.instantiable RX9 2, Cond.initialized RX9, Cond.fieldLink RX5 19 "SealStrait$Image" "treaty" "LSealStrait$Treaty;", Cond.classLink RX5 23 RX6, Cond.instantiable RX6 4, Cond.initialized RX6, Cond.fieldLink RX5 26 "SealStrait$Image" "lookout" "LSealStrait$Lookout;", Cond.instanceMethod yX8_init, Cond.code yX8_init cX8_init 1 none, Cond.methodLink RX8 3 objectInit, Cond.arrayClass .int, Cond.fieldLink RX8 9 "SealStrait$Sea" "heads" "[I", Cond.fieldLink RX8 15 "SealStrait$Sea" "sides" "[I", Cond.fieldLink RX8 18 "SealStrait$Sea" "moods" "[I", Cond.fieldLink RX8 21 "SealStrait$Sea" "moults" "[I", Cond.methodLink RX5 18 yX9_init]
def wsX5_init_r2 : List Cond := [Cond.instanceMethod yX9_init, Cond.code yX9_init cX9_init 1 none, Cond.methodLink RX9 3 objectInit, Cond.fieldLink RX9 9 "SealStrait$Treaty" "words" "[I", Cond.fieldLink RX9 15 "SealStrait$Treaty" "clashes" "[I", Cond.methodLink RX9 18 yJ7_fill_53178, Cond.static yJ7_fill_53178, Cond.initialized RJ7, Cond.code yJ7_fill_53178 cJ7_fill_53178 4 none, Cond.methodLink RX5 25 yX6_init, Cond.instanceMethod yX6_init, Cond.code yX6_init cX6_init 1 none, Cond.methodLink RX6 3 objectInit, Cond.fieldLink RX6 9 "SealStrait$Lookout" "seen" "[I", Cond.fieldLink RX6 15 "SealStrait$Lookout" "countRocks" "[I", Cond.fieldLink RX6 18 "SealStrait$Lookout" "countWantings" "[I", Cond.methodLink RX6 21 yJ7_fill_53178]
def wsX5_init : List Cond := .code yX5_init cX5_init 1 none :: ((wsX5_init_r1 ++ wsX5_init_r2) ++ wsX80 ++ wsX50 ++ wsX90 ++ wsX60)
def wsX6_copyFrom : List Cond := .code yX6_copyFrom cX6_copyFrom 3 none :: ([.fieldLink RX6 9 "SealStrait$Lookout" "seen" "[I", .fieldLink RX6 27 "SealStrait$Lookout" "counts" "I", .fieldLink RX6 15 "SealStrait$Lookout" "countRocks" "[I", .fieldLink RX6 18 "SealStrait$Lookout" "countWantings" "[I"] ++ wsX60)
def wsX6_addCount : List Cond := .code yX6_addCount cX6_addCount 3 (some .boolean) :: ([.fieldLink RX6 27 "SealStrait$Lookout" "counts" "I", .fieldLink RX6 15 "SealStrait$Lookout" "countRocks" "[I", .fieldLink RX6 18 "SealStrait$Lookout" "countWantings" "[I"] ++ wsX60)
def wsX7_init : List Cond := .code yX7_init cX7_init 1 none :: ([.methodLink RX7 3 objectInit, .instanceMethod objectInit, .code objectInit ⟨#[0xb1]⟩ 1 none, .arrayClass .int, .fieldLink RX7 11 "SealStrait$Pad" "signs" "[I"] ++ wsX70)
def wsX7_write : List Cond := .code yX7_write cX7_write 2 (some .boolean) :: ([.fieldLink RX7 15 "SealStrait$Pad" "size" "I", .fieldLink RX7 11 "SealStrait$Pad" "signs" "[I"] ++ wsX70)
def wsX7_isClause : List Cond := .code yX7_isClause cX7_isClause 1 (some .boolean) :: ([.static yX11_within, .initialized RX11, .code yX11_within cX11_within 3 (some .boolean)])
def wsX7_awaitedBehind : List Cond := .code yX7_awaitedBehind cX7_awaitedBehind 2 (some .int) :: ([.methodLink RX7 23 yX7_isHerd, .static yX7_isHerd, .initialized RX7, .code yX7_isHerd cX7_isHerd 1 (some .boolean), .static yX11_within, .initialized RX11, .code yX11_within cX11_within 3 (some .boolean), .methodLink RX7 27 yX7_isClause, .static yX7_isClause, .code yX7_isClause cX7_isClause 1 (some .boolean)])
def wsX7_faultPlace : List Cond := .code yX7_faultPlace cX7_faultPlace 3 (some .int) :: ([.fieldLink RX7 15 "SealStrait$Pad" "size" "I", .fieldLink RX7 11 "SealStrait$Pad" "signs" "[I", .methodLink RX7 19 yX7_awaitedBehind, .static yX7_awaitedBehind, .initialized RX7, .code yX7_awaitedBehind cX7_awaitedBehind 2 (some .int), .methodLink RX7 23 yX7_isHerd, .static yX7_isHerd, .code yX7_isHerd cX7_isHerd 1 (some .boolean), .static yX11_within, .initialized RX11, .code yX11_within cX11_within 3 (some .boolean), .methodLink RX7 27 yX7_isClause, .static yX7_isClause, .code yX7_isClause cX7_isClause 1 (some .boolean)] ++ wsX70)
def wsX8_copyFrom : List Cond := .code yX8_copyFrom cX8_copyFrom 3 none :: ([.fieldLink RX8 24 "SealStrait$Sea" "there" "I", .fieldLink RX8 28 "SealStrait$Sea" "month" "I", .fieldLink RX8 31 "SealStrait$Sea" "lost" "I", .fieldLink RX8 9 "SealStrait$Sea" "heads" "[I", .fieldLink RX8 15 "SealStrait$Sea" "sides" "[I", .fieldLink RX8 18 "SealStrait$Sea" "moods" "[I", .fieldLink RX8 21 "SealStrait$Sea" "moults" "[I"] ++ wsX80)
def wsX8_settle : List Cond := .code yX8_settle cX8_settle 6 none :: ([.fieldLink RX8 24 "SealStrait$Sea" "there" "I", .fieldLink RX8 9 "SealStrait$Sea" "heads" "[I", .fieldLink RX8 15 "SealStrait$Sea" "sides" "[I", .fieldLink RX8 18 "SealStrait$Sea" "moods" "[I", .fieldLink RX8 21 "SealStrait$Sea" "moults" "[I", .static yX11_within, .initialized RX11, .code yX11_within cX11_within 3 (some .boolean)] ++ wsX80)
def wsX8_traitOf : List Cond := .code yX8_traitOf cX8_traitOf 3 (some .int) :: ([.fieldLink RX8 9 "SealStrait$Sea" "heads" "[I", .fieldLink RX8 15 "SealStrait$Sea" "sides" "[I", .fieldLink RX8 18 "SealStrait$Sea" "moods" "[I", .fieldLink RX8 21 "SealStrait$Sea" "moults" "[I", .methodLink RX8 38 yX8_isThere, .instanceMethod yX8_isThere, .selects RX8 yX8_isThere yX8_isThere, .initialized RX8, .code yX8_isThere cX8_isThere 2 (some .boolean), .fieldLink RX8 24 "SealStrait$Sea" "there" "I"] ++ wsX80)
def wsX8_signers : List Cond := .code yX8_signers cX8_signers 4 (some .int) :: ([.fieldLink RX8 18 "SealStrait$Sea" "moods" "[I", .methodLink RX8 42 yX8_listens, .instanceMethod yX8_listens, .selects RX8 yX8_listens yX8_listens, .initialized RX8, .code yX8_listens cX8_listens 2 (some .boolean), .fieldLink RX8 9 "SealStrait$Sea" "heads" "[I", .fieldLink RX8 21 "SealStrait$Sea" "moults" "[I", .fieldLink RX8 28 "SealStrait$Sea" "month" "I", .methodLink RX8 38 yX8_isThere, .instanceMethod yX8_isThere, .selects RX8 yX8_isThere yX8_isThere, .code yX8_isThere cX8_isThere 2 (some .boolean), .fieldLink RX8 24 "SealStrait$Sea" "there" "I"] ++ wsX80)
def wsX8_headsOnSideOne : List Cond := .code yX8_headsOnSideOne cX8_headsOnSideOne 3 (some .int) :: ([.fieldLink RX8 15 "SealStrait$Sea" "sides" "[I", .fieldLink RX8 9 "SealStrait$Sea" "heads" "[I", .methodLink RX8 38 yX8_isThere, .instanceMethod yX8_isThere, .selects RX8 yX8_isThere yX8_isThere, .initialized RX8, .code yX8_isThere cX8_isThere 2 (some .boolean), .fieldLink RX8 24 "SealStrait$Sea" "there" "I"] ++ wsX80)
def wsX8_allMoods : List Cond := .code yX8_allMoods cX8_allMoods 3 (some .int) :: ([.fieldLink RX8 18 "SealStrait$Sea" "moods" "[I", .methodLink RX8 38 yX8_isThere, .instanceMethod yX8_isThere, .selects RX8 yX8_isThere yX8_isThere, .initialized RX8, .code yX8_isThere cX8_isThere 2 (some .boolean), .fieldLink RX8 24 "SealStrait$Sea" "there" "I"] ++ wsX80)
def wsX8_hasHeads : List Cond := .code yX8_hasHeads cX8_hasHeads 2 (some .boolean) :: ([.fieldLink RX8 9 "SealStrait$Sea" "heads" "[I", .methodLink RX8 38 yX8_isThere, .instanceMethod yX8_isThere, .selects RX8 yX8_isThere yX8_isThere, .initialized RX8, .code yX8_isThere cX8_isThere 2 (some .boolean), .fieldLink RX8 24 "SealStrait$Sea" "there" "I"] ++ wsX80)
def wsX8_nextToGet : List Cond := .code yX8_nextToGet cX8_nextToGet 7 (some .int) :: ([.fieldLink RX8 9 "SealStrait$Sea" "heads" "[I", .methodLink RX8 38 yX8_isThere, .instanceMethod yX8_isThere, .selects RX8 yX8_isThere yX8_isThere, .initialized RX8, .code yX8_isThere cX8_isThere 2 (some .boolean), .fieldLink RX8 24 "SealStrait$Sea" "there" "I"] ++ wsX80)
def wsX8_whyNoWhistle : List Cond := .code yX8_whyNoWhistle cX8_whyNoWhistle 2 (some .int) :: ([.fieldLink RX8 18 "SealStrait$Sea" "moods" "[I", .methodLink RX8 38 yX8_isThere, .instanceMethod yX8_isThere, .selects RX8 yX8_isThere yX8_isThere, .initialized RX8, .code yX8_isThere cX8_isThere 2 (some .boolean), .fieldLink RX8 24 "SealStrait$Sea" "there" "I"] ++ wsX80)
def wsX8_whyNoNet : List Cond := .code yX8_whyNoNet cX8_whyNoNet 2 (some .int) :: ([.fieldLink RX8 9 "SealStrait$Sea" "heads" "[I", .methodLink RX8 38 yX8_isThere, .instanceMethod yX8_isThere, .selects RX8 yX8_isThere yX8_isThere, .initialized RX8, .code yX8_isThere cX8_isThere 2 (some .boolean), .fieldLink RX8 24 "SealStrait$Sea" "there" "I"] ++ wsX80)
def wsX8_whyNoJoining : List Cond := .code yX8_whyNoJoining cX8_whyNoJoining 3 (some .int) :: ([.fieldLink RX8 15 "SealStrait$Sea" "sides" "[I", .methodLink RX8 38 yX8_isThere, .instanceMethod yX8_isThere, .selects RX8 yX8_isThere yX8_isThere, .initialized RX8, .code yX8_isThere cX8_isThere 2 (some .boolean), .fieldLink RX8 24 "SealStrait$Sea" "there" "I"] ++ wsX80)
def wsX8_whyNot_r1 : List Cond := [Cond.fieldLink RX8 49 "SealStrait$Act" "kind" "I", Cond.fieldLink RX8 54 "SealStrait$Act" "one" "I", Cond.fieldLink RX8 72 "SealStrait$Act" "other" "I", Cond.fieldLink RX8 28 "SealStrait$Sea" "month" "I", Cond.methodLink RX8 57 yX9_wordsOf, Cond.instanceMethod yX9_wordsOf, Cond.selects RX9 yX9_wordsOf yX9_wordsOf, Cond.initialized RX9, Cond.code yX9_wordsOf cX9_wordsOf 2 (some .int), Cond.fieldLink RX9 9 "SealStrait$Treaty" "words" "[I", Cond.static yX11_within, Cond.initialized RX11, Cond.code yX11_within cX11_within 3 (some .boolean), Cond.methodLink RX8 63 yX8_signers, Cond.instanceMethod yX8_signers, Cond.selects RX8 yX8_signers yX8_signers, Cond.initialized RX8, Cond.code yX8_signers cX8_signers 4 (some .int), Cond.fieldLink RX8 18 "SealStrait$Sea" "moods" "[I", Cond.methodLink RX8 42 yX8_listens, Cond.instanceMethod yX8_listens, Cond.selects RX8 yX8_listens yX8_listens, Cond.code yX8_listens cX8_listens 2 (some .boolean), Cond.fieldLink RX8 9 "SealStrait$Sea" "heads" "[I"]
def wsX8_whyNot_r2 : List Cond := [Cond.fieldLink RX8 21 "SealStrait$Sea" "moults" "[I", Cond.methodLink RX8 38 yX8_isThere, Cond.instanceMethod yX8_isThere, Cond.selects RX8 yX8_isThere yX8_isThere, Cond.code yX8_isThere cX8_isThere 2 (some .boolean), Cond.fieldLink RX8 24 "SealStrait$Sea" "there" "I", Cond.methodLink RX8 66 yX8_whyNoWhistle, Cond.instanceMethod yX8_whyNoWhistle, Cond.selects RX8 yX8_whyNoWhistle yX8_whyNoWhistle, Cond.code yX8_whyNoWhistle cX8_whyNoWhistle 2 (some .int), Cond.methodLink RX8 69 yX8_whyNoNet, Cond.instanceMethod yX8_whyNoNet, Cond.selects RX8 yX8_whyNoNet yX8_whyNoNet, Cond.code yX8_whyNoNet cX8_whyNoNet 2 (some .int), Cond.methodLink RX8 75 yX8_whyNoJoining, Cond.instanceMethod yX8_whyNoJoining, Cond.selects RX8 yX8_whyNoJoining yX8_whyNoJoining, Cond.code yX8_whyNoJoining cX8_whyNoJoining 3 (some .int), Cond.fieldLink RX8 15 "SealStrait$Sea" "sides" "[I"]
def wsX8_whyNot : List Cond := .code yX8_whyNot cX8_whyNot 3 (some .int) :: ((wsX8_whyNot_r1 ++ wsX8_whyNot_r2) ++ wsX00 ++ wsX80 ++ wsX90)
def wsX8_cheer : List Cond := .code yX8_cheer cX8_cheer 3 none :: ([.fieldLink RX8 18 "SealStrait$Sea" "moods" "[I", .methodLink RX8 96 Lib.Math.min.name, .static Lib.Math.min.name, .initialized "java/lang/Math", .code Lib.Math.min.name Lib.Math.min.code 2 (some .int), .methodLink RX8 38 yX8_isThere, .instanceMethod yX8_isThere, .selects RX8 yX8_isThere yX8_isThere, .initialized RX8, .code yX8_isThere cX8_isThere 2 (some .boolean), .fieldLink RX8 24 "SealStrait$Sea" "there" "I"] ++ wsX80)
def wsX8_readAloud_r1 : List Cond := [Cond.fieldLink RX8 15 "SealStrait$Sea" "sides" "[I", Cond.fieldLink RX8 18 "SealStrait$Sea" "moods" "[I", Cond.methodLink RX8 63 yX8_signers, Cond.instanceMethod yX8_signers, Cond.selects RX8 yX8_signers yX8_signers, Cond.initialized RX8, Cond.code yX8_signers cX8_signers 4 (some .int), Cond.methodLink RX8 42 yX8_listens, Cond.instanceMethod yX8_listens, Cond.selects RX8 yX8_listens yX8_listens, Cond.code yX8_listens cX8_listens 2 (some .boolean), Cond.fieldLink RX8 9 "SealStrait$Sea" "heads" "[I", Cond.fieldLink RX8 21 "SealStrait$Sea" "moults" "[I", Cond.fieldLink RX8 28 "SealStrait$Sea" "month" "I", Cond.methodLink RX8 38 yX8_isThere, Cond.instanceMethod yX8_isThere, Cond.selects RX8 yX8_isThere yX8_isThere, Cond.code yX8_isThere cX8_isThere 2 (some .boolean), Cond.fieldLink RX8 24 "SealStrait$Sea" "there" "I", Cond.static yX11_has, Cond.initialized RX11, Cond.code yX11_has cX11_has 2 (some .boolean), Cond.methodLink RX8 83 yX8_cheer, Cond.instanceMethod yX8_cheer]
def wsX8_readAloud_r2 : List Cond := [Cond.selects RX8 yX8_cheer yX8_cheer, Cond.code yX8_cheer cX8_cheer 3 none, Cond.methodLink RX8 96 Lib.Math.min.name, Cond.static Lib.Math.min.name, Cond.initialized "java/lang/Math", Cond.code Lib.Math.min.name Lib.Math.min.code 2 (some .int)]
def wsX8_readAloud : List Cond := .code yX8_readAloud cX8_readAloud 4 none :: ((wsX8_readAloud_r1 ++ wsX8_readAloud_r2) ++ wsX80)
def wsX8_takeNet : List Cond := .code yX8_takeNet cX8_takeNet 2 none :: ([.fieldLink RX8 9 "SealStrait$Sea" "heads" "[I", .fieldLink RX8 31 "SealStrait$Sea" "lost" "I", .methodLink RX8 38 yX8_isThere, .instanceMethod yX8_isThere, .selects RX8 yX8_isThere yX8_isThere, .initialized RX8, .code yX8_isThere cX8_isThere 2 (some .boolean), .fieldLink RX8 24 "SealStrait$Sea" "there" "I"] ++ wsX80)
def wsX8_joinTo : List Cond := .code yX8_joinTo cX8_joinTo 3 none :: ([.fieldLink RX8 9 "SealStrait$Sea" "heads" "[I", .methodLink RX8 96 Lib.Math.min.name, .static Lib.Math.min.name, .initialized "java/lang/Math", .code Lib.Math.min.name Lib.Math.min.code 2 (some .int), .fieldLink RX8 24 "SealStrait$Sea" "there" "I", .methodLink RX8 38 yX8_isThere, .instanceMethod yX8_isThere, .selects RX8 yX8_isThere yX8_isThere, .initialized RX8, .code yX8_isThere cX8_isThere 2 (some .boolean)] ++ wsX80)
def wsX8_passMonth : List Cond := .code yX8_passMonth cX8_passMonth 2 none :: ([.fieldLink RX8 9 "SealStrait$Sea" "heads" "[I", .fieldLink RX8 21 "SealStrait$Sea" "moults" "[I", .fieldLink RX8 28 "SealStrait$Sea" "month" "I", .methodLink RX8 96 Lib.Math.min.name, .static Lib.Math.min.name, .initialized "java/lang/Math", .code Lib.Math.min.name Lib.Math.min.code 2 (some .int), .methodLink RX8 83 yX8_cheer, .instanceMethod yX8_cheer, .selects RX8 yX8_cheer yX8_cheer, .initialized RX8, .code yX8_cheer cX8_cheer 3 none, .fieldLink RX8 18 "SealStrait$Sea" "moods" "[I", .methodLink RX8 38 yX8_isThere, .instanceMethod yX8_isThere, .selects RX8 yX8_isThere yX8_isThere, .code yX8_isThere cX8_isThere 2 (some .boolean), .fieldLink RX8 24 "SealStrait$Sea" "there" "I"] ++ wsX80)
def wsX8_perform_r1 : List Cond := [Cond.fieldLink RX8 49 "SealStrait$Act" "kind" "I", Cond.fieldLink RX8 54 "SealStrait$Act" "one" "I", Cond.fieldLink RX8 72 "SealStrait$Act" "other" "I", Cond.methodLink RX8 57 yX9_wordsOf, Cond.instanceMethod yX9_wordsOf, Cond.selects RX9 yX9_wordsOf yX9_wordsOf, Cond.initialized RX9, Cond.code yX9_wordsOf cX9_wordsOf 2 (some .int), Cond.fieldLink RX9 9 "SealStrait$Treaty" "words" "[I", Cond.static yX11_within, Cond.initialized RX11, Cond.code yX11_within cX11_within 3 (some .boolean), Cond.methodLink RX8 79 yX8_readAloud, Cond.instanceMethod yX8_readAloud, Cond.selects RX8 yX8_readAloud yX8_readAloud, Cond.initialized RX8, Cond.code yX8_readAloud cX8_readAloud 4 none, Cond.fieldLink RX8 15 "SealStrait$Sea" "sides" "[I", Cond.fieldLink RX8 18 "SealStrait$Sea" "moods" "[I", Cond.methodLink RX8 63 yX8_signers, Cond.instanceMethod yX8_signers, Cond.selects RX8 yX8_signers yX8_signers, Cond.code yX8_signers cX8_signers 4 (some .int), Cond.methodLink RX8 42 yX8_listens]
def wsX8_perform_r2 : List Cond := [Cond.instanceMethod yX8_listens, Cond.selects RX8 yX8_listens yX8_listens, Cond.code yX8_listens cX8_listens 2 (some .boolean), Cond.fieldLink RX8 9 "SealStrait$Sea" "heads" "[I", Cond.fieldLink RX8 21 "SealStrait$Sea" "moults" "[I", Cond.fieldLink RX8 28 "SealStrait$Sea" "month" "I", Cond.methodLink RX8 38 yX8_isThere, Cond.instanceMethod yX8_isThere, Cond.selects RX8 yX8_isThere yX8_isThere, Cond.code yX8_isThere cX8_isThere 2 (some .boolean), Cond.fieldLink RX8 24 "SealStrait$Sea" "there" "I", Cond.static yX11_has, Cond.code yX11_has cX11_has 2 (some .boolean), Cond.methodLink RX8 83 yX8_cheer, Cond.instanceMethod yX8_cheer, Cond.selects RX8 yX8_cheer yX8_cheer, Cond.code yX8_cheer cX8_cheer 3 none, Cond.methodLink RX8 96 Lib.Math.min.name, Cond.static Lib.Math.min.name, Cond.initialized "java/lang/Math", Cond.code Lib.Math.min.name Lib.Math.min.code 2 (some .int), Cond.methodLink RX8 87 yX8_takeNet, Cond.instanceMethod yX8_takeNet, Cond.selects RX8 yX8_takeNet yX8_takeNet]
def wsX8_perform_r3 : List Cond := [Cond.code yX8_takeNet cX8_takeNet 2 none, Cond.fieldLink RX8 31 "SealStrait$Sea" "lost" "I", Cond.methodLink RX8 90 yX8_joinTo, Cond.instanceMethod yX8_joinTo, Cond.selects RX8 yX8_joinTo yX8_joinTo, Cond.code yX8_joinTo cX8_joinTo 3 none, Cond.methodLink RX8 93 yX8_passMonth, Cond.instanceMethod yX8_passMonth, Cond.selects RX8 yX8_passMonth yX8_passMonth, Cond.code yX8_passMonth cX8_passMonth 2 none]
def wsX8_perform : List Cond := .code yX8_perform cX8_perform 3 none :: ((wsX8_perform_r1 ++ (wsX8_perform_r2 ++ wsX8_perform_r3)) ++ wsX00 ++ wsX90 ++ wsX80)
def wsX9_copyFrom : List Cond := .code yX9_copyFrom cX9_copyFrom 3 none :: ([.fieldLink RX9 9 "SealStrait$Treaty" "words" "[I", .fieldLink RX9 15 "SealStrait$Treaty" "clashes" "[I"] ++ wsX90)
def wsX9_setClash : List Cond := .code yX9_setClash cX9_setClash 4 none :: ([.fieldLink RX9 15 "SealStrait$Treaty" "clashes" "[I", .static yX11_within, .initialized RX11, .code yX11_within cX11_within 3 (some .boolean)] ++ wsX90)
def wsJ6_bitCount_0f7a4 : List Cond := .code yJ6_bitCount_0f7a4 cJ6_bitCount_0f7a4 1 (some .int) :: ([.constant RJ6 265 (1431655765), .constant RJ6 266 (858993459), .constant RJ6 267 (252645135)])
def wsX9_clashingPairs : List Cond := .code yX9_clashingPairs cX9_clashingPairs 3 (some .int) :: ([.fieldLink RX9 15 "SealStrait$Treaty" "clashes" "[I", .methodLink RX9 32 yJ6_bitCount_0f7a4, .static yJ6_bitCount_0f7a4, .initialized RJ6, .code yJ6_bitCount_0f7a4 cJ6_bitCount_0f7a4 1 (some .int), .constant RJ6 265 (1431655765), .constant RJ6 266 (858993459), .constant RJ6 267 (252645135)] ++ wsX90)
def wsX9_isQuiet : List Cond := .code yX9_isQuiet cX9_isQuiet 3 (some .boolean) :: ([.fieldLink RX9 15 "SealStrait$Treaty" "clashes" "[I", .static yX11_has, .initialized RX11, .code yX11_has cX11_has 2 (some .boolean)] ++ wsX90)
def wsX9_leastToDrop : List Cond := .code yX9_leastToDrop cX9_leastToDrop 6 (some .int) :: ([.methodLink RX9 32 yJ6_bitCount_0f7a4, .static yJ6_bitCount_0f7a4, .initialized RJ6, .code yJ6_bitCount_0f7a4 cJ6_bitCount_0f7a4 1 (some .int), .constant RJ6 265 (1431655765), .constant RJ6 266 (858993459), .constant RJ6 267 (252645135), .methodLink RX9 38 yX9_isQuiet, .instanceMethod yX9_isQuiet, .selects RX9 yX9_isQuiet yX9_isQuiet, .initialized RX9, .code yX9_isQuiet cX9_isQuiet 3 (some .boolean), .fieldLink RX9 15 "SealStrait$Treaty" "clashes" "[I", .static yX11_has, .initialized RX11, .code yX11_has cX11_has 2 (some .boolean)] ++ wsX90)
def wsX10_init : List Cond := .code yX10_init cX10_init 1 none :: ([.methodLink RX10 3 objectInit, .instanceMethod objectInit, .code objectInit ⟨#[0xb1]⟩ 1 none, .classLink RX10 9 RX8, .instantiable RX8 7, .initialized RX8, .fieldLink RX10 12 "SealStrait$Trial" "sea" "LSealStrait$Sea;", .classLink RX10 18 RX0, .instantiable RX0 3, .initialized RX0, .fieldLink RX10 21 "SealStrait$Trial" "act" "LSealStrait$Act;", .instanceMethod yX8_init, .code yX8_init cX8_init 1 none, .methodLink RX8 3 objectInit, .arrayClass .int, .fieldLink RX8 9 "SealStrait$Sea" "heads" "[I", .fieldLink RX8 15 "SealStrait$Sea" "sides" "[I", .fieldLink RX8 18 "SealStrait$Sea" "moods" "[I", .fieldLink RX8 21 "SealStrait$Sea" "moults" "[I", .instanceMethod yX0_init, .code yX0_init cX0_init 1 none, .methodLink RX0 3 objectInit] ++ wsX80 ++ wsX100 ++ wsX00)
def wsX10_begin_r1 : List Cond := [Cond.fieldLink RX10 12 "SealStrait$Trial" "sea" "LSealStrait$Sea;", Cond.fieldLink RX10 35 "SealStrait$Trial" "isFaulty" "Z", Cond.fieldLink RX10 58 "SealStrait$Trial" "acts" "I", Cond.fieldLink RX10 47 "SealStrait$Trial" "why" "I", Cond.fieldLink RX10 69 "SealStrait$Trial" "readings" "I", Cond.fieldLink RX10 72 "SealStrait$Sea" "there" "I", Cond.fieldLink RX10 75 "SealStrait$Trial" "signedAll" "I", Cond.methodLink RX10 61 yX8_copyFrom, Cond.instanceMethod yX8_copyFrom, Cond.selects RX8 yX8_copyFrom yX8_copyFrom, Cond.initialized RX8, Cond.code yX8_copyFrom cX8_copyFrom 3 none, Cond.fieldLink RX8 24 "SealStrait$Sea" "there" "I", Cond.fieldLink RX8 28 "SealStrait$Sea" "month" "I", Cond.fieldLink RX8 31 "SealStrait$Sea" "lost" "I", Cond.fieldLink RX8 9 "SealStrait$Sea" "heads" "[I", Cond.fieldLink RX8 15 "SealStrait$Sea" "sides" "[I", Cond.fieldLink RX8 18 "SealStrait$Sea" "moods" "[I", Cond.fieldLink RX8 21 "SealStrait$Sea" "moults" "[I", Cond.methodLink RX10 65 yX7_faultPlace, Cond.instanceMethod yX7_faultPlace, Cond.selects RX7 yX7_faultPlace yX7_faultPlace, Cond.initialized RX7, Cond.code yX7_faultPlace cX7_faultPlace 3 (some .int)]
def wsX10_begin_r2 : List Cond := [Cond.fieldLink RX7 15 "SealStrait$Pad" "size" "I", Cond.fieldLink RX7 11 "SealStrait$Pad" "signs" "[I", Cond.methodLink RX7 19 yX7_awaitedBehind, Cond.static yX7_awaitedBehind, Cond.code yX7_awaitedBehind cX7_awaitedBehind 2 (some .int), Cond.methodLink RX7 23 yX7_isHerd, Cond.static yX7_isHerd, Cond.code yX7_isHerd cX7_isHerd 1 (some .boolean), Cond.static yX11_within, Cond.initialized RX11, Cond.code yX11_within cX11_within 3 (some .boolean), Cond.methodLink RX7 27 yX7_isClause, Cond.static yX7_isClause, Cond.code yX7_isClause cX7_isClause 1 (some .boolean)]
def wsX10_begin : List Cond := .code yX10_begin cX10_begin 3 none :: ((wsX10_begin_r1 ++ wsX10_begin_r2) ++ wsX100 ++ wsX80 ++ wsX70)
def wsX10_noteReading_r1 : List Cond := [Cond.fieldLink RX10 21 "SealStrait$Trial" "act" "LSealStrait$Act;", Cond.fieldLink RX10 78 "SealStrait$Act" "kind" "I", Cond.fieldLink RX10 69 "SealStrait$Trial" "readings" "I", Cond.fieldLink RX10 75 "SealStrait$Trial" "signedAll" "I", Cond.fieldLink RX10 12 "SealStrait$Trial" "sea" "LSealStrait$Sea;", Cond.fieldLink RX10 81 "SealStrait$Act" "one" "I", Cond.methodLink RX10 84 yX9_wordsOf, Cond.instanceMethod yX9_wordsOf, Cond.selects RX9 yX9_wordsOf yX9_wordsOf, Cond.initialized RX9, Cond.code yX9_wordsOf cX9_wordsOf 2 (some .int), Cond.fieldLink RX9 9 "SealStrait$Treaty" "words" "[I", Cond.static yX11_within, Cond.initialized RX11, Cond.code yX11_within cX11_within 3 (some .boolean), Cond.methodLink RX10 90 yX8_signers, Cond.instanceMethod yX8_signers, Cond.selects RX8 yX8_signers yX8_signers, Cond.initialized RX8, Cond.code yX8_signers cX8_signers 4 (some .int), Cond.fieldLink RX8 18 "SealStrait$Sea" "moods" "[I", Cond.methodLink RX8 42 yX8_listens, Cond.instanceMethod yX8_listens, Cond.selects RX8 yX8_listens yX8_listens]
def wsX10_noteReading_r2 : List Cond := [Cond.code yX8_listens cX8_listens 2 (some .boolean), Cond.fieldLink RX8 9 "SealStrait$Sea" "heads" "[I", Cond.fieldLink RX8 21 "SealStrait$Sea" "moults" "[I", Cond.fieldLink RX8 28 "SealStrait$Sea" "month" "I", Cond.methodLink RX8 38 yX8_isThere, Cond.instanceMethod yX8_isThere, Cond.selects RX8 yX8_isThere yX8_isThere, Cond.code yX8_isThere cX8_isThere 2 (some .boolean), Cond.fieldLink RX8 24 "SealStrait$Sea" "there" "I"]
def wsX10_noteReading : List Cond := .code yX10_noteReading cX10_noteReading 2 none :: ((wsX10_noteReading_r1 ++ wsX10_noteReading_r2) ++ wsX100 ++ wsX00 ++ wsX90 ++ wsX80)
def wsX10_run_r1 : List Cond := [Cond.fieldLink RX10 31 "SealStrait$Pad" "size" "I", Cond.fieldLink RX10 35 "SealStrait$Trial" "isFaulty" "Z", Cond.fieldLink RX10 21 "SealStrait$Trial" "act" "LSealStrait$Act;", Cond.fieldLink RX10 12 "SealStrait$Trial" "sea" "LSealStrait$Sea;", Cond.fieldLink RX10 47 "SealStrait$Trial" "why" "I", Cond.fieldLink RX10 58 "SealStrait$Trial" "acts" "I", Cond.methodLink RX10 25 yX10_begin, Cond.instanceMethod yX10_begin, Cond.selects RX10 yX10_begin yX10_begin, Cond.initialized RX10, Cond.code yX10_begin cX10_begin 3 none, Cond.fieldLink RX10 69 "SealStrait$Trial" "readings" "I", Cond.fieldLink RX10 72 "SealStrait$Sea" "there" "I", Cond.fieldLink RX10 75 "SealStrait$Trial" "signedAll" "I", Cond.methodLink RX10 61 yX8_copyFrom, Cond.instanceMethod yX8_copyFrom, Cond.selects RX8 yX8_copyFrom yX8_copyFrom, Cond.initialized RX8, Cond.code yX8_copyFrom cX8_copyFrom 3 none, Cond.fieldLink RX8 24 "SealStrait$Sea" "there" "I", Cond.fieldLink RX8 28 "SealStrait$Sea" "month" "I", Cond.fieldLink RX8 31 "SealStrait$Sea" "lost" "I", Cond.fieldLink RX8 9 "SealStrait$Sea" "heads" "[I", Cond.fieldLink RX8 15 "SealStrait$Sea" "sides" "[I"]
def wsX10_run_r2 : List Cond := [Cond.fieldLink RX8 18 "SealStrait$Sea" "moods" "[I", Cond.fieldLink RX8 21 "SealStrait$Sea" "moults" "[I", Cond.methodLink RX10 65 yX7_faultPlace, Cond.instanceMethod yX7_faultPlace, Cond.selects RX7 yX7_faultPlace yX7_faultPlace, Cond.initialized RX7, Cond.code yX7_faultPlace cX7_faultPlace 3 (some .int), Cond.fieldLink RX7 15 "SealStrait$Pad" "size" "I", Cond.fieldLink RX7 11 "SealStrait$Pad" "signs" "[I", Cond.methodLink RX7 19 yX7_awaitedBehind, Cond.static yX7_awaitedBehind, Cond.code yX7_awaitedBehind cX7_awaitedBehind 2 (some .int), Cond.methodLink RX7 23 yX7_isHerd, Cond.static yX7_isHerd, Cond.code yX7_isHerd cX7_isHerd 1 (some .boolean), Cond.static yX11_within, Cond.initialized RX11, Cond.code yX11_within cX11_within 3 (some .boolean), Cond.methodLink RX7 27 yX7_isClause, Cond.static yX7_isClause, Cond.code yX7_isClause cX7_isClause 1 (some .boolean), Cond.methodLink RX10 39 yX0_takeFrom, Cond.instanceMethod yX0_takeFrom, Cond.selects RX0 yX0_takeFrom yX0_takeFrom]
def wsX10_run_r3 : List Cond := [Cond.initialized RX0, Cond.code yX0_takeFrom cX0_takeFrom 5 (some .int), Cond.methodLink RX0 21 yX7_signAt, Cond.instanceMethod yX7_signAt, Cond.selects RX7 yX7_signAt yX7_signAt, Cond.code yX7_signAt cX7_signAt 2 (some .int), Cond.methodLink RX0 27 yX7_isHerd, Cond.methodLink RX0 31 yX0_set, Cond.instanceMethod yX0_set, Cond.selects RX0 yX0_set yX0_set, Cond.code yX0_set cX0_set 4 none, Cond.fieldLink RX0 9 "SealStrait$Act" "kind" "I", Cond.fieldLink RX0 15 "SealStrait$Act" "one" "I", Cond.fieldLink RX0 18 "SealStrait$Act" "other" "I", Cond.methodLink RX10 43 yX8_whyNot, Cond.instanceMethod yX8_whyNot, Cond.selects RX8 yX8_whyNot yX8_whyNot, Cond.code yX8_whyNot cX8_whyNot 3 (some .int), Cond.fieldLink RX8 49 "SealStrait$Act" "kind" "I", Cond.fieldLink RX8 54 "SealStrait$Act" "one" "I", Cond.fieldLink RX8 72 "SealStrait$Act" "other" "I", Cond.methodLink RX8 57 yX9_wordsOf, Cond.instanceMethod yX9_wordsOf, Cond.selects RX9 yX9_wordsOf yX9_wordsOf]
def wsX10_run_r4 : List Cond := [Cond.initialized RX9, Cond.code yX9_wordsOf cX9_wordsOf 2 (some .int), Cond.fieldLink RX9 9 "SealStrait$Treaty" "words" "[I", Cond.methodLink RX8 63 yX8_signers, Cond.instanceMethod yX8_signers, Cond.selects RX8 yX8_signers yX8_signers, Cond.code yX8_signers cX8_signers 4 (some .int), Cond.methodLink RX8 42 yX8_listens, Cond.instanceMethod yX8_listens, Cond.selects RX8 yX8_listens yX8_listens, Cond.code yX8_listens cX8_listens 2 (some .boolean), Cond.methodLink RX8 38 yX8_isThere, Cond.instanceMethod yX8_isThere, Cond.selects RX8 yX8_isThere yX8_isThere, Cond.code yX8_isThere cX8_isThere 2 (some .boolean), Cond.methodLink RX8 66 yX8_whyNoWhistle, Cond.instanceMethod yX8_whyNoWhistle, Cond.selects RX8 yX8_whyNoWhistle yX8_whyNoWhistle, Cond.code yX8_whyNoWhistle cX8_whyNoWhistle 2 (some .int), Cond.methodLink RX8 69 yX8_whyNoNet, Cond.instanceMethod yX8_whyNoNet, Cond.selects RX8 yX8_whyNoNet yX8_whyNoNet, Cond.code yX8_whyNoNet cX8_whyNoNet 2 (some .int), Cond.methodLink RX8 75 yX8_whyNoJoining]
def wsX10_run_r5 : List Cond := [Cond.instanceMethod yX8_whyNoJoining, Cond.selects RX8 yX8_whyNoJoining yX8_whyNoJoining, Cond.code yX8_whyNoJoining cX8_whyNoJoining 3 (some .int), Cond.methodLink RX10 50 yX10_noteReading, Cond.instanceMethod yX10_noteReading, Cond.selects RX10 yX10_noteReading yX10_noteReading, Cond.code yX10_noteReading cX10_noteReading 2 none, Cond.fieldLink RX10 78 "SealStrait$Act" "kind" "I", Cond.fieldLink RX10 81 "SealStrait$Act" "one" "I", Cond.methodLink RX10 84 yX9_wordsOf, Cond.methodLink RX10 90 yX8_signers, Cond.methodLink RX10 54 yX8_perform, Cond.instanceMethod yX8_perform, Cond.selects RX8 yX8_perform yX8_perform, Cond.code yX8_perform cX8_perform 3 none, Cond.methodLink RX8 79 yX8_readAloud, Cond.instanceMethod yX8_readAloud, Cond.selects RX8 yX8_readAloud yX8_readAloud, Cond.code yX8_readAloud cX8_readAloud 4 none, Cond.static yX11_has, Cond.code yX11_has cX11_has 2 (some .boolean), Cond.methodLink RX8 83 yX8_cheer, Cond.instanceMethod yX8_cheer, Cond.selects RX8 yX8_cheer yX8_cheer]
def wsX10_run_r6 : List Cond := [Cond.code yX8_cheer cX8_cheer 3 none, Cond.methodLink RX8 96 Lib.Math.min.name, Cond.static Lib.Math.min.name, Cond.initialized "java/lang/Math", Cond.code Lib.Math.min.name Lib.Math.min.code 2 (some .int), Cond.methodLink RX8 87 yX8_takeNet, Cond.instanceMethod yX8_takeNet, Cond.selects RX8 yX8_takeNet yX8_takeNet, Cond.code yX8_takeNet cX8_takeNet 2 none, Cond.methodLink RX8 90 yX8_joinTo, Cond.instanceMethod yX8_joinTo, Cond.selects RX8 yX8_joinTo yX8_joinTo, Cond.code yX8_joinTo cX8_joinTo 3 none, Cond.methodLink RX8 93 yX8_passMonth, Cond.instanceMethod yX8_passMonth, Cond.selects RX8 yX8_passMonth yX8_passMonth, Cond.code yX8_passMonth cX8_passMonth 2 none]
def wsX10_run : List Cond := .code yX10_run cX10_run 6 none :: ((wsX10_run_r1 ++ (wsX10_run_r2 ++ (wsX10_run_r3 ++ (wsX10_run_r4 ++ (wsX10_run_r5 ++ wsX10_run_r6))))) ++ wsX70 ++ wsX100 ++ wsX80 ++ wsX00 ++ wsX90)
def wsX10_allCanBe : List Cond := .code yX10_allCanBe cX10_allCanBe 1 (some .boolean) :: ([.fieldLink RX10 35 "SealStrait$Trial" "isFaulty" "Z", .fieldLink RX10 47 "SealStrait$Trial" "why" "I"] ++ wsX100)
def wsX10_runYear_r1 : List Cond := [Cond.fieldLink RX10 12 "SealStrait$Trial" "sea" "LSealStrait$Sea;", Cond.constant RX10 93 (65537), Cond.fieldLink RX10 21 "SealStrait$Trial" "act" "LSealStrait$Act;", Cond.methodLink RX10 61 yX8_copyFrom, Cond.instanceMethod yX8_copyFrom, Cond.selects RX8 yX8_copyFrom yX8_copyFrom, Cond.initialized RX8, Cond.code yX8_copyFrom cX8_copyFrom 3 none, Cond.fieldLink RX8 24 "SealStrait$Sea" "there" "I", Cond.fieldLink RX8 28 "SealStrait$Sea" "month" "I", Cond.fieldLink RX8 31 "SealStrait$Sea" "lost" "I", Cond.fieldLink RX8 9 "SealStrait$Sea" "heads" "[I", Cond.fieldLink RX8 15 "SealStrait$Sea" "sides" "[I", Cond.fieldLink RX8 18 "SealStrait$Sea" "moods" "[I", Cond.fieldLink RX8 21 "SealStrait$Sea" "moults" "[I", Cond.methodLink RX10 94 yX0_draw, Cond.instanceMethod yX0_draw, Cond.selects RX0 yX0_draw yX0_draw, Cond.initialized RX0, Cond.code yX0_draw cX0_draw 3 none, Cond.methodLink RX0 31 yX0_set, Cond.instanceMethod yX0_set, Cond.selects RX0 yX0_set yX0_set, Cond.code yX0_set cX0_set 4 none]
def wsX10_runYear_r2 : List Cond := [Cond.fieldLink RX0 9 "SealStrait$Act" "kind" "I", Cond.fieldLink RX0 15 "SealStrait$Act" "one" "I", Cond.fieldLink RX0 18 "SealStrait$Act" "other" "I", Cond.methodLink RX10 43 yX8_whyNot, Cond.instanceMethod yX8_whyNot, Cond.selects RX8 yX8_whyNot yX8_whyNot, Cond.code yX8_whyNot cX8_whyNot 3 (some .int), Cond.fieldLink RX8 49 "SealStrait$Act" "kind" "I", Cond.fieldLink RX8 54 "SealStrait$Act" "one" "I", Cond.fieldLink RX8 72 "SealStrait$Act" "other" "I", Cond.methodLink RX8 57 yX9_wordsOf, Cond.instanceMethod yX9_wordsOf, Cond.selects RX9 yX9_wordsOf yX9_wordsOf, Cond.initialized RX9, Cond.code yX9_wordsOf cX9_wordsOf 2 (some .int), Cond.fieldLink RX9 9 "SealStrait$Treaty" "words" "[I", Cond.static yX11_within, Cond.initialized RX11, Cond.code yX11_within cX11_within 3 (some .boolean), Cond.methodLink RX8 63 yX8_signers, Cond.instanceMethod yX8_signers, Cond.selects RX8 yX8_signers yX8_signers, Cond.code yX8_signers cX8_signers 4 (some .int), Cond.methodLink RX8 42 yX8_listens]
def wsX10_runYear_r3 : List Cond := [Cond.instanceMethod yX8_listens, Cond.selects RX8 yX8_listens yX8_listens, Cond.code yX8_listens cX8_listens 2 (some .boolean), Cond.methodLink RX8 38 yX8_isThere, Cond.instanceMethod yX8_isThere, Cond.selects RX8 yX8_isThere yX8_isThere, Cond.code yX8_isThere cX8_isThere 2 (some .boolean), Cond.methodLink RX8 66 yX8_whyNoWhistle, Cond.instanceMethod yX8_whyNoWhistle, Cond.selects RX8 yX8_whyNoWhistle yX8_whyNoWhistle, Cond.code yX8_whyNoWhistle cX8_whyNoWhistle 2 (some .int), Cond.methodLink RX8 69 yX8_whyNoNet, Cond.instanceMethod yX8_whyNoNet, Cond.selects RX8 yX8_whyNoNet yX8_whyNoNet, Cond.code yX8_whyNoNet cX8_whyNoNet 2 (some .int), Cond.methodLink RX8 75 yX8_whyNoJoining, Cond.instanceMethod yX8_whyNoJoining, Cond.selects RX8 yX8_whyNoJoining yX8_whyNoJoining, Cond.code yX8_whyNoJoining cX8_whyNoJoining 3 (some .int), Cond.methodLink RX10 54 yX8_perform, Cond.instanceMethod yX8_perform, Cond.selects RX8 yX8_perform yX8_perform, Cond.code yX8_perform cX8_perform 3 none, Cond.methodLink RX8 79 yX8_readAloud]
def wsX10_runYear_r4 : List Cond := [Cond.instanceMethod yX8_readAloud, Cond.selects RX8 yX8_readAloud yX8_readAloud, Cond.code yX8_readAloud cX8_readAloud 4 none, Cond.static yX11_has, Cond.code yX11_has cX11_has 2 (some .boolean), Cond.methodLink RX8 83 yX8_cheer, Cond.instanceMethod yX8_cheer, Cond.selects RX8 yX8_cheer yX8_cheer, Cond.code yX8_cheer cX8_cheer 3 none, Cond.methodLink RX8 96 Lib.Math.min.name, Cond.static Lib.Math.min.name, Cond.initialized "java/lang/Math", Cond.code Lib.Math.min.name Lib.Math.min.code 2 (some .int), Cond.methodLink RX8 87 yX8_takeNet, Cond.instanceMethod yX8_takeNet, Cond.selects RX8 yX8_takeNet yX8_takeNet, Cond.code yX8_takeNet cX8_takeNet 2 none, Cond.methodLink RX8 90 yX8_joinTo, Cond.instanceMethod yX8_joinTo, Cond.selects RX8 yX8_joinTo yX8_joinTo, Cond.code yX8_joinTo cX8_joinTo 3 none, Cond.methodLink RX8 93 yX8_passMonth, Cond.instanceMethod yX8_passMonth, Cond.selects RX8 yX8_passMonth yX8_passMonth]
def wsX10_runYear_r5 : List Cond := [Cond.code yX8_passMonth cX8_passMonth 2 none]
def wsX10_runYear : List Cond := .code yX10_runYear cX10_runYear 7 none :: ((wsX10_runYear_r1 ++ (wsX10_runYear_r2 ++ (wsX10_runYear_r3 ++ (wsX10_runYear_r4 ++ wsX10_runYear_r5)))) ++ wsX100 ++ wsX80 ++ wsX00 ++ wsX90)
def wsX11_init_r1 : List Cond := [Cond.methodLink RX11 3 objectInit, Cond.instanceMethod objectInit, Cond.code objectInit ⟨#[0xb1]⟩ 1 none, Cond.classLink RX11 9 RX8, Cond.instantiable RX8 7, Cond.initialized RX8, Cond.fieldLink RX11 12 "SealStrait" "sea" "LSealStrait$Sea;", Cond.classLink RX11 16 RX9, Cond.instantiable RX9 2, Cond.initialized RX9, Cond.fieldLink RX11 19 "SealStrait" "treaty" "LSealStrait$Treaty;", Cond.classLink RX11 23 RX6, Cond.instantiable RX6 4, Cond.initialized RX6, Cond.fieldLink RX11 26 "SealStrait" "lookout" "LSealStrait$Lookout;", Cond.classLink RX11 30 RX7, Cond.instantiable RX7 2, Cond.initialized RX7, Cond.fieldLink RX11 33 "SealStrait" "pad" "LSealStrait$Pad;", Cond.classLink RX11 37 RX5, Cond.fieldLink RX11 39 "SealStrait" "images" "[LSealStrait$Image;", Cond.classLink RX11 43 RX10, Cond.instantiable RX10 7, Cond.initialized RX10]
def wsX11_init_r2 : List Cond := [Cond.fieldLink RX11 46 "SealStrait" "trial" "LSealStrait$Trial;", Cond.classLink RX11 50 RX1, Cond.instantiable RX1 8, Cond.initialized RX1, Cond.fieldLink RX11 53 "SealStrait" "bringing" "LSealStrait$Bringing;", Cond.classLink RX11 57 RX4, Cond.instantiable RX4 5, Cond.initialized RX4, Cond.fieldLink RX11 60 "SealStrait" "guess" "LSealStrait$Guess;", Cond.classLink RX11 64 RX3, Cond.instantiable RX3 1, Cond.initialized RX3, Cond.fieldLink RX11 67 "SealStrait" "game" "LSealStrait$Game;", Cond.classLink RX11 71 RX2, Cond.instantiable RX2 2, Cond.initialized RX2, Cond.fieldLink RX11 74 "SealStrait" "fraction" "LSealStrait$Fraction;", Cond.arrayClass .int, Cond.fieldLink RX11 78 "SealStrait" "got" "[I", Cond.instanceMethod yX8_init, Cond.code yX8_init cX8_init 1 none, Cond.methodLink RX8 3 objectInit, Cond.fieldLink RX8 9 "SealStrait$Sea" "heads" "[I", Cond.fieldLink RX8 15 "SealStrait$Sea" "sides" "[I"]
def wsX11_init_r3 : List Cond := [Cond.fieldLink RX8 18 "SealStrait$Sea" "moods" "[I", Cond.fieldLink RX8 21 "SealStrait$Sea" "moults" "[I", Cond.methodLink RX11 18 yX9_init, Cond.instanceMethod yX9_init, Cond.code yX9_init cX9_init 1 none, Cond.methodLink RX9 3 objectInit, Cond.fieldLink RX9 9 "SealStrait$Treaty" "words" "[I", Cond.fieldLink RX9 15 "SealStrait$Treaty" "clashes" "[I", Cond.methodLink RX9 18 yJ7_fill_53178, Cond.static yJ7_fill_53178, Cond.initialized RJ7, Cond.code yJ7_fill_53178 cJ7_fill_53178 4 none, Cond.methodLink RX11 25 yX6_init, Cond.instanceMethod yX6_init, Cond.code yX6_init cX6_init 1 none, Cond.methodLink RX6 3 objectInit, Cond.fieldLink RX6 9 "SealStrait$Lookout" "seen" "[I", Cond.fieldLink RX6 15 "SealStrait$Lookout" "countRocks" "[I", Cond.fieldLink RX6 18 "SealStrait$Lookout" "countWantings" "[I", Cond.methodLink RX6 21 yJ7_fill_53178, Cond.instanceMethod yX7_init, Cond.code yX7_init cX7_init 1 none, Cond.methodLink RX7 3 objectInit, Cond.fieldLink RX7 11 "SealStrait$Pad" "signs" "[I"]
def wsX11_init_r4 : List Cond := [Cond.instanceMethod yX10_init, Cond.code yX10_init cX10_init 1 none, Cond.methodLink RX10 3 objectInit, Cond.classLink RX10 9 RX8, Cond.fieldLink RX10 12 "SealStrait$Trial" "sea" "LSealStrait$Sea;", Cond.classLink RX10 18 RX0, Cond.instantiable RX0 3, Cond.initialized RX0, Cond.fieldLink RX10 21 "SealStrait$Trial" "act" "LSealStrait$Act;", Cond.instanceMethod yX0_init, Cond.code yX0_init cX0_init 1 none, Cond.methodLink RX0 3 objectInit, Cond.instanceMethod yX1_init, Cond.code yX1_init cX1_init 1 none, Cond.methodLink RX1 5 objectInit, Cond.fieldLink RX1 11 "SealStrait$Bringing" "steps" "[I", Cond.fieldLink RX1 15 "SealStrait$Bringing" "firsts" "[I", Cond.fieldLink RX1 18 "SealStrait$Bringing" "queue" "[I", Cond.instanceMethod yX4_init, Cond.code yX4_init cX4_init 1 none, Cond.methodLink RX4 3 objectInit, Cond.fieldLink RX4 9 "SealStrait$Guess" "sets" "[I", Cond.fieldLink RX4 15 "SealStrait$Guess" "tally" "[I", Cond.instanceMethod yX3_init]
def wsX11_init_r5 : List Cond := [Cond.code yX3_init cX3_init 1 none, Cond.methodLink RX3 3 objectInit, Cond.arrayClass .boolean, Cond.fieldLink RX3 9 "SealStrait$Game" "wins" "[Z", Cond.instanceMethod yX2_init, Cond.code yX2_init cX2_init 1 none, Cond.methodLink RX2 1 objectInit, Cond.fieldLink RX2 7 "SealStrait$Fraction" "lower" "J"]
def wsX11_init : List Cond := .code yX11_init cX11_init 1 none :: ((wsX11_init_r1 ++ (wsX11_init_r2 ++ (wsX11_init_r3 ++ (wsX11_init_r4 ++ wsX11_init_r5)))) ++ wsX80 ++ wsX110 ++ wsX90 ++ wsX60 ++ wsX70 ++ wsX100 ++ wsX10 ++ wsX40 ++ wsX30 ++ wsX20 ++ wsX00)
def wsX11_herd : List Cond := .code yX11_herd cX11_herd 6 (some .int) :: ([.fieldLink RX11 12 "SealStrait" "sea" "LSealStrait$Sea;", .fieldLink RX11 90 "SealStrait$Sea" "there" "I", .methodLink RX11 82 yX11_within, .static yX11_within, .initialized RX11, .code yX11_within cX11_within 3 (some .boolean), .methodLink RX11 86 yX8_settle, .instanceMethod yX8_settle, .selects RX8 yX8_settle yX8_settle, .initialized RX8, .code yX8_settle cX8_settle 6 none, .fieldLink RX8 24 "SealStrait$Sea" "there" "I", .fieldLink RX8 9 "SealStrait$Sea" "heads" "[I", .fieldLink RX8 15 "SealStrait$Sea" "sides" "[I", .fieldLink RX8 18 "SealStrait$Sea" "moods" "[I", .fieldLink RX8 21 "SealStrait$Sea" "moults" "[I", .methodLink RX11 94 yJ6_bitCount_0f7a4, .static yJ6_bitCount_0f7a4, .initialized RJ6, .code yJ6_bitCount_0f7a4 cJ6_bitCount_0f7a4 1 (some .int), .constant RJ6 265 (1431655765), .constant RJ6 266 (858993459), .constant RJ6 267 (252645135)] ++ wsX110 ++ wsX80)
def wsX11_clause : List Cond := .code yX11_clause cX11_clause 4 (some .int) :: ([.fieldLink RX11 19 "SealStrait" "treaty" "LSealStrait$Treaty;", .fieldLink RX11 100 "SealStrait$Treaty" "words" "[I", .methodLink RX11 82 yX11_within, .static yX11_within, .initialized RX11, .code yX11_within cX11_within 3 (some .boolean)] ++ wsX110 ++ wsX90)
def wsX11_clash : List Cond := .code yX11_clash cX11_clash 4 (some .int) :: ([.fieldLink RX11 19 "SealStrait" "treaty" "LSealStrait$Treaty;", .methodLink RX11 82 yX11_within, .static yX11_within, .initialized RX11, .code yX11_within cX11_within 3 (some .boolean), .methodLink RX11 103 yX9_setClash, .instanceMethod yX9_setClash, .selects RX9 yX9_setClash yX9_setClash, .initialized RX9, .code yX9_setClash cX9_setClash 4 none, .fieldLink RX9 15 "SealStrait$Treaty" "clashes" "[I", .methodLink RX11 107 yX9_clashingPairs, .instanceMethod yX9_clashingPairs, .selects RX9 yX9_clashingPairs yX9_clashingPairs, .code yX9_clashingPairs cX9_clashingPairs 3 (some .int), .methodLink RX9 32 yJ6_bitCount_0f7a4, .static yJ6_bitCount_0f7a4, .initialized RJ6, .code yJ6_bitCount_0f7a4 cJ6_bitCount_0f7a4 1 (some .int), .constant RJ6 265 (1431655765), .constant RJ6 266 (858993459), .constant RJ6 267 (252645135)] ++ wsX110 ++ wsX90)
def wsX11_rock : List Cond := .code yX11_rock cX11_rock 4 (some .int) :: ([.fieldLink RX11 26 "SealStrait" "lookout" "LSealStrait$Lookout;", .fieldLink RX11 111 "SealStrait$Lookout" "seen" "[I", .methodLink RX11 82 yX11_within, .static yX11_within, .initialized RX11, .code yX11_within cX11_within 3 (some .boolean)] ++ wsX110 ++ wsX60)
def wsX11_say : List Cond := .code yX11_say cX11_say 2 (some .int) :: ([.fieldLink RX11 33 "SealStrait" "pad" "LSealStrait$Pad;", .fieldLink RX11 118 "SealStrait$Pad" "size" "I", .methodLink RX11 82 yX11_within, .static yX11_within, .initialized RX11, .code yX11_within cX11_within 3 (some .boolean), .methodLink RX11 114 yX7_write, .instanceMethod yX7_write, .selects RX7 yX7_write yX7_write, .initialized RX7, .code yX7_write cX7_write 2 (some .boolean), .fieldLink RX7 15 "SealStrait$Pad" "size" "I", .fieldLink RX7 11 "SealStrait$Pad" "signs" "[I"] ++ wsX110 ++ wsX70)
def wsX11_wipe : List Cond := .code yX11_wipe cX11_wipe 2 (some .int) :: ([.fieldLink RX11 33 "SealStrait" "pad" "LSealStrait$Pad;", .fieldLink RX11 118 "SealStrait$Pad" "size" "I"] ++ wsX110 ++ wsX70)
def wsX11_fault : List Cond := .code yX11_fault cX11_fault 1 (some .int) :: ([.fieldLink RX11 33 "SealStrait" "pad" "LSealStrait$Pad;", .methodLink RX11 121 yX7_faultPlace, .instanceMethod yX7_faultPlace, .selects RX7 yX7_faultPlace yX7_faultPlace, .initialized RX7, .code yX7_faultPlace cX7_faultPlace 3 (some .int), .fieldLink RX7 15 "SealStrait$Pad" "size" "I", .fieldLink RX7 11 "SealStrait$Pad" "signs" "[I", .methodLink RX7 19 yX7_awaitedBehind, .static yX7_awaitedBehind, .code yX7_awaitedBehind cX7_awaitedBehind 2 (some .int), .methodLink RX7 23 yX7_isHerd, .static yX7_isHerd, .code yX7_isHerd cX7_isHerd 1 (some .boolean), .static yX11_within, .initialized RX11, .code yX11_within cX11_within 3 (some .boolean), .methodLink RX7 27 yX7_isClause, .static yX7_isClause, .code yX7_isClause cX7_isClause 1 (some .boolean)] ++ wsX110 ++ wsX70)
def wsX11_judge_r1 : List Cond := [Cond.fieldLink RX11 46 "SealStrait" "trial" "LSealStrait$Trial;", Cond.fieldLink RX11 33 "SealStrait" "pad" "LSealStrait$Pad;", Cond.fieldLink RX11 12 "SealStrait" "sea" "LSealStrait$Sea;", Cond.fieldLink RX11 19 "SealStrait" "treaty" "LSealStrait$Treaty;", Cond.fieldLink RX11 128 "SealStrait$Trial" "isFaulty" "Z", Cond.fieldLink RX11 132 "SealStrait$Trial" "why" "I", Cond.fieldLink RX11 135 "SealStrait$Trial" "acts" "I", Cond.methodLink RX11 82 yX11_within, Cond.static yX11_within, Cond.initialized RX11, Cond.code yX11_within cX11_within 3 (some .boolean), Cond.methodLink RX11 124 yX10_run, Cond.instanceMethod yX10_run, Cond.selects RX10 yX10_run yX10_run, Cond.initialized RX10, Cond.code yX10_run cX10_run 6 none, Cond.fieldLink RX10 31 "SealStrait$Pad" "size" "I", Cond.fieldLink RX10 35 "SealStrait$Trial" "isFaulty" "Z", Cond.fieldLink RX10 21 "SealStrait$Trial" "act" "LSealStrait$Act;", Cond.fieldLink RX10 12 "SealStrait$Trial" "sea" "LSealStrait$Sea;", Cond.fieldLink RX10 47 "SealStrait$Trial" "why" "I", Cond.fieldLink RX10 58 "SealStrait$Trial" "acts" "I", Cond.methodLink RX10 25 yX10_begin, Cond.instanceMethod yX10_begin]
def wsX11_judge_r2 : List Cond := [Cond.selects RX10 yX10_begin yX10_begin, Cond.code yX10_begin cX10_begin 3 none, Cond.fieldLink RX10 69 "SealStrait$Trial" "readings" "I", Cond.fieldLink RX10 72 "SealStrait$Sea" "there" "I", Cond.fieldLink RX10 75 "SealStrait$Trial" "signedAll" "I", Cond.methodLink RX10 61 yX8_copyFrom, Cond.instanceMethod yX8_copyFrom, Cond.selects RX8 yX8_copyFrom yX8_copyFrom, Cond.initialized RX8, Cond.code yX8_copyFrom cX8_copyFrom 3 none, Cond.fieldLink RX8 24 "SealStrait$Sea" "there" "I", Cond.fieldLink RX8 28 "SealStrait$Sea" "month" "I", Cond.fieldLink RX8 31 "SealStrait$Sea" "lost" "I", Cond.fieldLink RX8 9 "SealStrait$Sea" "heads" "[I", Cond.fieldLink RX8 15 "SealStrait$Sea" "sides" "[I", Cond.fieldLink RX8 18 "SealStrait$Sea" "moods" "[I", Cond.fieldLink RX8 21 "SealStrait$Sea" "moults" "[I", Cond.methodLink RX10 65 yX7_faultPlace, Cond.instanceMethod yX7_faultPlace, Cond.selects RX7 yX7_faultPlace yX7_faultPlace, Cond.initialized RX7, Cond.code yX7_faultPlace cX7_faultPlace 3 (some .int), Cond.fieldLink RX7 15 "SealStrait$Pad" "size" "I", Cond.fieldLink RX7 11 "SealStrait$Pad" "signs" "[I"]
def wsX11_judge_r3 : List Cond := [Cond.methodLink RX7 19 yX7_awaitedBehind, Cond.static yX7_awaitedBehind, Cond.code yX7_awaitedBehind cX7_awaitedBehind 2 (some .int), Cond.methodLink RX7 23 yX7_isHerd, Cond.static yX7_isHerd, Cond.code yX7_isHerd cX7_isHerd 1 (some .boolean), Cond.methodLink RX7 27 yX7_isClause, Cond.static yX7_isClause, Cond.code yX7_isClause cX7_isClause 1 (some .boolean), Cond.methodLink RX10 39 yX0_takeFrom, Cond.instanceMethod yX0_takeFrom, Cond.selects RX0 yX0_takeFrom yX0_takeFrom, Cond.initialized RX0, Cond.code yX0_takeFrom cX0_takeFrom 5 (some .int), Cond.methodLink RX0 21 yX7_signAt, Cond.instanceMethod yX7_signAt, Cond.selects RX7 yX7_signAt yX7_signAt, Cond.code yX7_signAt cX7_signAt 2 (some .int), Cond.methodLink RX0 27 yX7_isHerd, Cond.methodLink RX0 31 yX0_set, Cond.instanceMethod yX0_set, Cond.selects RX0 yX0_set yX0_set, Cond.code yX0_set cX0_set 4 none, Cond.fieldLink RX0 9 "SealStrait$Act" "kind" "I"]
def wsX11_judge_r4 : List Cond := [Cond.fieldLink RX0 15 "SealStrait$Act" "one" "I", Cond.fieldLink RX0 18 "SealStrait$Act" "other" "I", Cond.methodLink RX10 43 yX8_whyNot, Cond.instanceMethod yX8_whyNot, Cond.selects RX8 yX8_whyNot yX8_whyNot, Cond.code yX8_whyNot cX8_whyNot 3 (some .int), Cond.fieldLink RX8 49 "SealStrait$Act" "kind" "I", Cond.fieldLink RX8 54 "SealStrait$Act" "one" "I", Cond.fieldLink RX8 72 "SealStrait$Act" "other" "I", Cond.methodLink RX8 57 yX9_wordsOf, Cond.instanceMethod yX9_wordsOf, Cond.selects RX9 yX9_wordsOf yX9_wordsOf, Cond.initialized RX9, Cond.code yX9_wordsOf cX9_wordsOf 2 (some .int), Cond.fieldLink RX9 9 "SealStrait$Treaty" "words" "[I", Cond.methodLink RX8 63 yX8_signers, Cond.instanceMethod yX8_signers, Cond.selects RX8 yX8_signers yX8_signers, Cond.code yX8_signers cX8_signers 4 (some .int), Cond.methodLink RX8 42 yX8_listens, Cond.instanceMethod yX8_listens, Cond.selects RX8 yX8_listens yX8_listens, Cond.code yX8_listens cX8_listens 2 (some .boolean), Cond.methodLink RX8 38 yX8_isThere]
def wsX11_judge_r5 : List Cond := [Cond.instanceMethod yX8_isThere, Cond.selects RX8 yX8_isThere yX8_isThere, Cond.code yX8_isThere cX8_isThere 2 (some .boolean), Cond.methodLink RX8 66 yX8_whyNoWhistle, Cond.instanceMethod yX8_whyNoWhistle, Cond.selects RX8 yX8_whyNoWhistle yX8_whyNoWhistle, Cond.code yX8_whyNoWhistle cX8_whyNoWhistle 2 (some .int), Cond.methodLink RX8 69 yX8_whyNoNet, Cond.instanceMethod yX8_whyNoNet, Cond.selects RX8 yX8_whyNoNet yX8_whyNoNet, Cond.code yX8_whyNoNet cX8_whyNoNet 2 (some .int), Cond.methodLink RX8 75 yX8_whyNoJoining, Cond.instanceMethod yX8_whyNoJoining, Cond.selects RX8 yX8_whyNoJoining yX8_whyNoJoining, Cond.code yX8_whyNoJoining cX8_whyNoJoining 3 (some .int), Cond.methodLink RX10 50 yX10_noteReading, Cond.instanceMethod yX10_noteReading, Cond.selects RX10 yX10_noteReading yX10_noteReading, Cond.code yX10_noteReading cX10_noteReading 2 none, Cond.fieldLink RX10 78 "SealStrait$Act" "kind" "I", Cond.fieldLink RX10 81 "SealStrait$Act" "one" "I", Cond.methodLink RX10 84 yX9_wordsOf, Cond.methodLink RX10 90 yX8_signers, Cond.methodLink RX10 54 yX8_perform]
def wsX11_judge_r6 : List Cond := [Cond.instanceMethod yX8_perform, Cond.selects RX8 yX8_perform yX8_perform, Cond.code yX8_perform cX8_perform 3 none, Cond.methodLink RX8 79 yX8_readAloud, Cond.instanceMethod yX8_readAloud, Cond.selects RX8 yX8_readAloud yX8_readAloud, Cond.code yX8_readAloud cX8_readAloud 4 none, Cond.static yX11_has, Cond.code yX11_has cX11_has 2 (some .boolean), Cond.methodLink RX8 83 yX8_cheer, Cond.instanceMethod yX8_cheer, Cond.selects RX8 yX8_cheer yX8_cheer, Cond.code yX8_cheer cX8_cheer 3 none, Cond.methodLink RX8 96 Lib.Math.min.name, Cond.static Lib.Math.min.name, Cond.initialized "java/lang/Math", Cond.code Lib.Math.min.name Lib.Math.min.code 2 (some .int), Cond.methodLink RX8 87 yX8_takeNet, Cond.instanceMethod yX8_takeNet, Cond.selects RX8 yX8_takeNet yX8_takeNet, Cond.code yX8_takeNet cX8_takeNet 2 none, Cond.methodLink RX8 90 yX8_joinTo, Cond.instanceMethod yX8_joinTo, Cond.selects RX8 yX8_joinTo yX8_joinTo]
def wsX11_judge_r7 : List Cond := [Cond.code yX8_joinTo cX8_joinTo 3 none, Cond.methodLink RX8 93 yX8_passMonth, Cond.instanceMethod yX8_passMonth, Cond.selects RX8 yX8_passMonth yX8_passMonth, Cond.code yX8_passMonth cX8_passMonth 2 none]
def wsX11_judge : List Cond := .code yX11_judge cX11_judge 2 (some .int) :: ((wsX11_judge_r1 ++ (wsX11_judge_r2 ++ (wsX11_judge_r3 ++ (wsX11_judge_r4 ++ (wsX11_judge_r5 ++ (wsX11_judge_r6 ++ wsX11_judge_r7)))))) ++ wsX110 ++ wsX100 ++ wsX70 ++ wsX80 ++ wsX00 ++ wsX90)
def wsX11_done_r1 : List Cond := [Cond.fieldLink RX11 46 "SealStrait" "trial" "LSealStrait$Trial;", Cond.fieldLink RX11 33 "SealStrait" "pad" "LSealStrait$Pad;", Cond.fieldLink RX11 12 "SealStrait" "sea" "LSealStrait$Sea;", Cond.fieldLink RX11 19 "SealStrait" "treaty" "LSealStrait$Treaty;", Cond.fieldLink RX11 142 "SealStrait$Trial" "sea" "LSealStrait$Sea;", Cond.fieldLink RX11 118 "SealStrait$Pad" "size" "I", Cond.fieldLink RX11 135 "SealStrait$Trial" "acts" "I", Cond.methodLink RX11 124 yX10_run, Cond.instanceMethod yX10_run, Cond.selects RX10 yX10_run yX10_run, Cond.initialized RX10, Cond.code yX10_run cX10_run 6 none, Cond.fieldLink RX10 31 "SealStrait$Pad" "size" "I", Cond.fieldLink RX10 35 "SealStrait$Trial" "isFaulty" "Z", Cond.fieldLink RX10 21 "SealStrait$Trial" "act" "LSealStrait$Act;", Cond.fieldLink RX10 12 "SealStrait$Trial" "sea" "LSealStrait$Sea;", Cond.fieldLink RX10 47 "SealStrait$Trial" "why" "I", Cond.fieldLink RX10 58 "SealStrait$Trial" "acts" "I", Cond.methodLink RX10 25 yX10_begin, Cond.instanceMethod yX10_begin, Cond.selects RX10 yX10_begin yX10_begin, Cond.code yX10_begin cX10_begin 3 none, Cond.fieldLink RX10 69 "SealStrait$Trial" "readings" "I", Cond.fieldLink RX10 72 "SealStrait$Sea" "there" "I"]
def wsX11_done_r2 : List Cond := [Cond.fieldLink RX10 75 "SealStrait$Trial" "signedAll" "I", Cond.methodLink RX10 61 yX8_copyFrom, Cond.instanceMethod yX8_copyFrom, Cond.selects RX8 yX8_copyFrom yX8_copyFrom, Cond.initialized RX8, Cond.code yX8_copyFrom cX8_copyFrom 3 none, Cond.fieldLink RX8 24 "SealStrait$Sea" "there" "I", Cond.fieldLink RX8 28 "SealStrait$Sea" "month" "I", Cond.fieldLink RX8 31 "SealStrait$Sea" "lost" "I", Cond.fieldLink RX8 9 "SealStrait$Sea" "heads" "[I", Cond.fieldLink RX8 15 "SealStrait$Sea" "sides" "[I", Cond.fieldLink RX8 18 "SealStrait$Sea" "moods" "[I", Cond.fieldLink RX8 21 "SealStrait$Sea" "moults" "[I", Cond.methodLink RX10 65 yX7_faultPlace, Cond.instanceMethod yX7_faultPlace, Cond.selects RX7 yX7_faultPlace yX7_faultPlace, Cond.initialized RX7, Cond.code yX7_faultPlace cX7_faultPlace 3 (some .int), Cond.fieldLink RX7 15 "SealStrait$Pad" "size" "I", Cond.fieldLink RX7 11 "SealStrait$Pad" "signs" "[I", Cond.methodLink RX7 19 yX7_awaitedBehind, Cond.static yX7_awaitedBehind, Cond.code yX7_awaitedBehind cX7_awaitedBehind 2 (some .int), Cond.methodLink RX7 23 yX7_isHerd]
def wsX11_done_r3 : List Cond := [Cond.static yX7_isHerd, Cond.code yX7_isHerd cX7_isHerd 1 (some .boolean), Cond.static yX11_within, Cond.initialized RX11, Cond.code yX11_within cX11_within 3 (some .boolean), Cond.methodLink RX7 27 yX7_isClause, Cond.static yX7_isClause, Cond.code yX7_isClause cX7_isClause 1 (some .boolean), Cond.methodLink RX10 39 yX0_takeFrom, Cond.instanceMethod yX0_takeFrom, Cond.selects RX0 yX0_takeFrom yX0_takeFrom, Cond.initialized RX0, Cond.code yX0_takeFrom cX0_takeFrom 5 (some .int), Cond.methodLink RX0 21 yX7_signAt, Cond.instanceMethod yX7_signAt, Cond.selects RX7 yX7_signAt yX7_signAt, Cond.code yX7_signAt cX7_signAt 2 (some .int), Cond.methodLink RX0 27 yX7_isHerd, Cond.methodLink RX0 31 yX0_set, Cond.instanceMethod yX0_set, Cond.selects RX0 yX0_set yX0_set, Cond.code yX0_set cX0_set 4 none, Cond.fieldLink RX0 9 "SealStrait$Act" "kind" "I", Cond.fieldLink RX0 15 "SealStrait$Act" "one" "I"]
def wsX11_done_r4 : List Cond := [Cond.fieldLink RX0 18 "SealStrait$Act" "other" "I", Cond.methodLink RX10 43 yX8_whyNot, Cond.instanceMethod yX8_whyNot, Cond.selects RX8 yX8_whyNot yX8_whyNot, Cond.code yX8_whyNot cX8_whyNot 3 (some .int), Cond.fieldLink RX8 49 "SealStrait$Act" "kind" "I", Cond.fieldLink RX8 54 "SealStrait$Act" "one" "I", Cond.fieldLink RX8 72 "SealStrait$Act" "other" "I", Cond.methodLink RX8 57 yX9_wordsOf, Cond.instanceMethod yX9_wordsOf, Cond.selects RX9 yX9_wordsOf yX9_wordsOf, Cond.initialized RX9, Cond.code yX9_wordsOf cX9_wordsOf 2 (some .int), Cond.fieldLink RX9 9 "SealStrait$Treaty" "words" "[I", Cond.methodLink RX8 63 yX8_signers, Cond.instanceMethod yX8_signers, Cond.selects RX8 yX8_signers yX8_signers, Cond.code yX8_signers cX8_signers 4 (some .int), Cond.methodLink RX8 42 yX8_listens, Cond.instanceMethod yX8_listens, Cond.selects RX8 yX8_listens yX8_listens, Cond.code yX8_listens cX8_listens 2 (some .boolean), Cond.methodLink RX8 38 yX8_isThere, Cond.instanceMethod yX8_isThere]
def wsX11_done_r5 : List Cond := [Cond.selects RX8 yX8_isThere yX8_isThere, Cond.code yX8_isThere cX8_isThere 2 (some .boolean), Cond.methodLink RX8 66 yX8_whyNoWhistle, Cond.instanceMethod yX8_whyNoWhistle, Cond.selects RX8 yX8_whyNoWhistle yX8_whyNoWhistle, Cond.code yX8_whyNoWhistle cX8_whyNoWhistle 2 (some .int), Cond.methodLink RX8 69 yX8_whyNoNet, Cond.instanceMethod yX8_whyNoNet, Cond.selects RX8 yX8_whyNoNet yX8_whyNoNet, Cond.code yX8_whyNoNet cX8_whyNoNet 2 (some .int), Cond.methodLink RX8 75 yX8_whyNoJoining, Cond.instanceMethod yX8_whyNoJoining, Cond.selects RX8 yX8_whyNoJoining yX8_whyNoJoining, Cond.code yX8_whyNoJoining cX8_whyNoJoining 3 (some .int), Cond.methodLink RX10 50 yX10_noteReading, Cond.instanceMethod yX10_noteReading, Cond.selects RX10 yX10_noteReading yX10_noteReading, Cond.code yX10_noteReading cX10_noteReading 2 none, Cond.fieldLink RX10 78 "SealStrait$Act" "kind" "I", Cond.fieldLink RX10 81 "SealStrait$Act" "one" "I", Cond.methodLink RX10 84 yX9_wordsOf, Cond.methodLink RX10 90 yX8_signers, Cond.methodLink RX10 54 yX8_perform, Cond.instanceMethod yX8_perform]
def wsX11_done_r6 : List Cond := [Cond.selects RX8 yX8_perform yX8_perform, Cond.code yX8_perform cX8_perform 3 none, Cond.methodLink RX8 79 yX8_readAloud, Cond.instanceMethod yX8_readAloud, Cond.selects RX8 yX8_readAloud yX8_readAloud, Cond.code yX8_readAloud cX8_readAloud 4 none, Cond.static yX11_has, Cond.code yX11_has cX11_has 2 (some .boolean), Cond.methodLink RX8 83 yX8_cheer, Cond.instanceMethod yX8_cheer, Cond.selects RX8 yX8_cheer yX8_cheer, Cond.code yX8_cheer cX8_cheer 3 none, Cond.methodLink RX8 96 Lib.Math.min.name, Cond.static Lib.Math.min.name, Cond.initialized "java/lang/Math", Cond.code Lib.Math.min.name Lib.Math.min.code 2 (some .int), Cond.methodLink RX8 87 yX8_takeNet, Cond.instanceMethod yX8_takeNet, Cond.selects RX8 yX8_takeNet yX8_takeNet, Cond.code yX8_takeNet cX8_takeNet 2 none, Cond.methodLink RX8 90 yX8_joinTo, Cond.instanceMethod yX8_joinTo, Cond.selects RX8 yX8_joinTo yX8_joinTo, Cond.code yX8_joinTo cX8_joinTo 3 none]
def wsX11_done_r7 : List Cond := [Cond.methodLink RX8 93 yX8_passMonth, Cond.instanceMethod yX8_passMonth, Cond.selects RX8 yX8_passMonth yX8_passMonth, Cond.code yX8_passMonth cX8_passMonth 2 none, Cond.methodLink RX11 138 yX10_allCanBe, Cond.instanceMethod yX10_allCanBe, Cond.selects RX10 yX10_allCanBe yX10_allCanBe, Cond.code yX10_allCanBe cX10_allCanBe 1 (some .boolean), Cond.methodLink RX11 143 yX8_copyFrom]
def wsX11_done : List Cond := .code yX11_done cX11_done 1 (some .int) :: ((wsX11_done_r1 ++ (wsX11_done_r2 ++ (wsX11_done_r3 ++ (wsX11_done_r4 ++ (wsX11_done_r5 ++ (wsX11_done_r6 ++ wsX11_done_r7)))))) ++ wsX110 ++ wsX100 ++ wsX70 ++ wsX80 ++ wsX00 ++ wsX90)
def wsX11_behind_r1 : List Cond := [Cond.fieldLink RX11 12 "SealStrait" "sea" "LSealStrait$Sea;", Cond.fieldLink RX11 46 "SealStrait" "trial" "LSealStrait$Trial;", Cond.fieldLink RX11 33 "SealStrait" "pad" "LSealStrait$Pad;", Cond.fieldLink RX11 19 "SealStrait" "treaty" "LSealStrait$Treaty;", Cond.fieldLink RX11 142 "SealStrait$Trial" "sea" "LSealStrait$Sea;", Cond.methodLink RX11 147 yX8_isThere, Cond.instanceMethod yX8_isThere, Cond.selects RX8 yX8_isThere yX8_isThere, Cond.initialized RX8, Cond.code yX8_isThere cX8_isThere 2 (some .boolean), Cond.fieldLink RX8 24 "SealStrait$Sea" "there" "I", Cond.methodLink RX11 82 yX11_within, Cond.static yX11_within, Cond.initialized RX11, Cond.code yX11_within cX11_within 3 (some .boolean), Cond.methodLink RX11 124 yX10_run, Cond.instanceMethod yX10_run, Cond.selects RX10 yX10_run yX10_run, Cond.initialized RX10, Cond.code yX10_run cX10_run 6 none, Cond.fieldLink RX10 31 "SealStrait$Pad" "size" "I", Cond.fieldLink RX10 35 "SealStrait$Trial" "isFaulty" "Z", Cond.fieldLink RX10 21 "SealStrait$Trial" "act" "LSealStrait$Act;", Cond.fieldLink RX10 12 "SealStrait$Trial" "sea" "LSealStrait$Sea;"]
def wsX11_behind_r2 : List Cond := [Cond.fieldLink RX10 47 "SealStrait$Trial" "why" "I", Cond.fieldLink RX10 58 "SealStrait$Trial" "acts" "I", Cond.methodLink RX10 25 yX10_begin, Cond.instanceMethod yX10_begin, Cond.selects RX10 yX10_begin yX10_begin, Cond.code yX10_begin cX10_begin 3 none, Cond.fieldLink RX10 69 "SealStrait$Trial" "readings" "I", Cond.fieldLink RX10 72 "SealStrait$Sea" "there" "I", Cond.fieldLink RX10 75 "SealStrait$Trial" "signedAll" "I", Cond.methodLink RX10 61 yX8_copyFrom, Cond.instanceMethod yX8_copyFrom, Cond.selects RX8 yX8_copyFrom yX8_copyFrom, Cond.code yX8_copyFrom cX8_copyFrom 3 none, Cond.fieldLink RX8 28 "SealStrait$Sea" "month" "I", Cond.fieldLink RX8 31 "SealStrait$Sea" "lost" "I", Cond.fieldLink RX8 9 "SealStrait$Sea" "heads" "[I", Cond.fieldLink RX8 15 "SealStrait$Sea" "sides" "[I", Cond.fieldLink RX8 18 "SealStrait$Sea" "moods" "[I", Cond.fieldLink RX8 21 "SealStrait$Sea" "moults" "[I", Cond.methodLink RX10 65 yX7_faultPlace, Cond.instanceMethod yX7_faultPlace, Cond.selects RX7 yX7_faultPlace yX7_faultPlace, Cond.initialized RX7, Cond.code yX7_faultPlace cX7_faultPlace 3 (some .int)]
def wsX11_behind_r3 : List Cond := [Cond.fieldLink RX7 15 "SealStrait$Pad" "size" "I", Cond.fieldLink RX7 11 "SealStrait$Pad" "signs" "[I", Cond.methodLink RX7 19 yX7_awaitedBehind, Cond.static yX7_awaitedBehind, Cond.code yX7_awaitedBehind cX7_awaitedBehind 2 (some .int), Cond.methodLink RX7 23 yX7_isHerd, Cond.static yX7_isHerd, Cond.code yX7_isHerd cX7_isHerd 1 (some .boolean), Cond.methodLink RX7 27 yX7_isClause, Cond.static yX7_isClause, Cond.code yX7_isClause cX7_isClause 1 (some .boolean), Cond.methodLink RX10 39 yX0_takeFrom, Cond.instanceMethod yX0_takeFrom, Cond.selects RX0 yX0_takeFrom yX0_takeFrom, Cond.initialized RX0, Cond.code yX0_takeFrom cX0_takeFrom 5 (some .int), Cond.methodLink RX0 21 yX7_signAt, Cond.instanceMethod yX7_signAt, Cond.selects RX7 yX7_signAt yX7_signAt, Cond.code yX7_signAt cX7_signAt 2 (some .int), Cond.methodLink RX0 27 yX7_isHerd, Cond.methodLink RX0 31 yX0_set, Cond.instanceMethod yX0_set, Cond.selects RX0 yX0_set yX0_set]
def wsX11_behind_r4 : List Cond := [Cond.code yX0_set cX0_set 4 none, Cond.fieldLink RX0 9 "SealStrait$Act" "kind" "I", Cond.fieldLink RX0 15 "SealStrait$Act" "one" "I", Cond.fieldLink RX0 18 "SealStrait$Act" "other" "I", Cond.methodLink RX10 43 yX8_whyNot, Cond.instanceMethod yX8_whyNot, Cond.selects RX8 yX8_whyNot yX8_whyNot, Cond.code yX8_whyNot cX8_whyNot 3 (some .int), Cond.fieldLink RX8 49 "SealStrait$Act" "kind" "I", Cond.fieldLink RX8 54 "SealStrait$Act" "one" "I", Cond.fieldLink RX8 72 "SealStrait$Act" "other" "I", Cond.methodLink RX8 57 yX9_wordsOf, Cond.instanceMethod yX9_wordsOf, Cond.selects RX9 yX9_wordsOf yX9_wordsOf, Cond.initialized RX9, Cond.code yX9_wordsOf cX9_wordsOf 2 (some .int), Cond.fieldLink RX9 9 "SealStrait$Treaty" "words" "[I", Cond.methodLink RX8 63 yX8_signers, Cond.instanceMethod yX8_signers, Cond.selects RX8 yX8_signers yX8_signers, Cond.code yX8_signers cX8_signers 4 (some .int), Cond.methodLink RX8 42 yX8_listens, Cond.instanceMethod yX8_listens, Cond.selects RX8 yX8_listens yX8_listens]
def wsX11_behind_r5 : List Cond := [Cond.code yX8_listens cX8_listens 2 (some .boolean), Cond.methodLink RX8 38 yX8_isThere, Cond.methodLink RX8 66 yX8_whyNoWhistle, Cond.instanceMethod yX8_whyNoWhistle, Cond.selects RX8 yX8_whyNoWhistle yX8_whyNoWhistle, Cond.code yX8_whyNoWhistle cX8_whyNoWhistle 2 (some .int), Cond.methodLink RX8 69 yX8_whyNoNet, Cond.instanceMethod yX8_whyNoNet, Cond.selects RX8 yX8_whyNoNet yX8_whyNoNet, Cond.code yX8_whyNoNet cX8_whyNoNet 2 (some .int), Cond.methodLink RX8 75 yX8_whyNoJoining, Cond.instanceMethod yX8_whyNoJoining, Cond.selects RX8 yX8_whyNoJoining yX8_whyNoJoining, Cond.code yX8_whyNoJoining cX8_whyNoJoining 3 (some .int), Cond.methodLink RX10 50 yX10_noteReading, Cond.instanceMethod yX10_noteReading, Cond.selects RX10 yX10_noteReading yX10_noteReading, Cond.code yX10_noteReading cX10_noteReading 2 none, Cond.fieldLink RX10 78 "SealStrait$Act" "kind" "I", Cond.fieldLink RX10 81 "SealStrait$Act" "one" "I", Cond.methodLink RX10 84 yX9_wordsOf, Cond.methodLink RX10 90 yX8_signers, Cond.methodLink RX10 54 yX8_perform, Cond.instanceMethod yX8_perform]
def wsX11_behind_r6 : List Cond := [Cond.selects RX8 yX8_perform yX8_perform, Cond.code yX8_perform cX8_perform 3 none, Cond.methodLink RX8 79 yX8_readAloud, Cond.instanceMethod yX8_readAloud, Cond.selects RX8 yX8_readAloud yX8_readAloud, Cond.code yX8_readAloud cX8_readAloud 4 none, Cond.static yX11_has, Cond.code yX11_has cX11_has 2 (some .boolean), Cond.methodLink RX8 83 yX8_cheer, Cond.instanceMethod yX8_cheer, Cond.selects RX8 yX8_cheer yX8_cheer, Cond.code yX8_cheer cX8_cheer 3 none, Cond.methodLink RX8 96 Lib.Math.min.name, Cond.static Lib.Math.min.name, Cond.initialized "java/lang/Math", Cond.code Lib.Math.min.name Lib.Math.min.code 2 (some .int), Cond.methodLink RX8 87 yX8_takeNet, Cond.instanceMethod yX8_takeNet, Cond.selects RX8 yX8_takeNet yX8_takeNet, Cond.code yX8_takeNet cX8_takeNet 2 none, Cond.methodLink RX8 90 yX8_joinTo, Cond.instanceMethod yX8_joinTo, Cond.selects RX8 yX8_joinTo yX8_joinTo, Cond.code yX8_joinTo cX8_joinTo 3 none]
def wsX11_behind_r7 : List Cond := [Cond.methodLink RX8 93 yX8_passMonth, Cond.instanceMethod yX8_passMonth, Cond.selects RX8 yX8_passMonth yX8_passMonth, Cond.code yX8_passMonth cX8_passMonth 2 none, Cond.methodLink RX11 138 yX10_allCanBe, Cond.instanceMethod yX10_allCanBe, Cond.selects RX10 yX10_allCanBe yX10_allCanBe, Cond.code yX10_allCanBe cX10_allCanBe 1 (some .boolean), Cond.methodLink RX11 150 yX8_traitOf, Cond.instanceMethod yX8_traitOf, Cond.selects RX8 yX8_traitOf yX8_traitOf, Cond.code yX8_traitOf cX8_traitOf 3 (some .int)]
def wsX11_behind : List Cond := .code yX11_behind cX11_behind 3 (some .int) :: ((wsX11_behind_r1 ++ (wsX11_behind_r2 ++ (wsX11_behind_r3 ++ (wsX11_behind_r4 ++ (wsX11_behind_r5 ++ (wsX11_behind_r6 ++ wsX11_behind_r7)))))) ++ wsX110 ++ wsX100 ++ wsX80 ++ wsX70 ++ wsX00 ++ wsX90)
def wsX11_then_r1 : List Cond := [Cond.fieldLink RX11 46 "SealStrait" "trial" "LSealStrait$Trial;", Cond.fieldLink RX11 33 "SealStrait" "pad" "LSealStrait$Pad;", Cond.fieldLink RX11 12 "SealStrait" "sea" "LSealStrait$Sea;", Cond.fieldLink RX11 19 "SealStrait" "treaty" "LSealStrait$Treaty;", Cond.fieldLink RX11 142 "SealStrait$Trial" "sea" "LSealStrait$Sea;", Cond.fieldLink RX11 157 "SealStrait$Sea" "lost" "I", Cond.fieldLink RX11 160 "SealStrait$Sea" "month" "I", Cond.fieldLink RX11 163 "SealStrait$Trial" "readings" "I", Cond.fieldLink RX11 166 "SealStrait$Trial" "signedAll" "I", Cond.methodLink RX11 82 yX11_within, Cond.static yX11_within, Cond.initialized RX11, Cond.code yX11_within cX11_within 3 (some .boolean), Cond.methodLink RX11 124 yX10_run, Cond.instanceMethod yX10_run, Cond.selects RX10 yX10_run yX10_run, Cond.initialized RX10, Cond.code yX10_run cX10_run 6 none, Cond.fieldLink RX10 31 "SealStrait$Pad" "size" "I", Cond.fieldLink RX10 35 "SealStrait$Trial" "isFaulty" "Z", Cond.fieldLink RX10 21 "SealStrait$Trial" "act" "LSealStrait$Act;", Cond.fieldLink RX10 12 "SealStrait$Trial" "sea" "LSealStrait$Sea;", Cond.fieldLink RX10 47 "SealStrait$Trial" "why" "I", Cond.fieldLink RX10 58 "SealStrait$Trial" "acts" "I"]
def wsX11_then_r2 : List Cond := [Cond.methodLink RX10 25 yX10_begin, Cond.instanceMethod yX10_begin, Cond.selects RX10 yX10_begin yX10_begin, Cond.code yX10_begin cX10_begin 3 none, Cond.fieldLink RX10 69 "SealStrait$Trial" "readings" "I", Cond.fieldLink RX10 72 "SealStrait$Sea" "there" "I", Cond.fieldLink RX10 75 "SealStrait$Trial" "signedAll" "I", Cond.methodLink RX10 61 yX8_copyFrom, Cond.instanceMethod yX8_copyFrom, Cond.selects RX8 yX8_copyFrom yX8_copyFrom, Cond.initialized RX8, Cond.code yX8_copyFrom cX8_copyFrom 3 none, Cond.fieldLink RX8 24 "SealStrait$Sea" "there" "I", Cond.fieldLink RX8 28 "SealStrait$Sea" "month" "I", Cond.fieldLink RX8 31 "SealStrait$Sea" "lost" "I", Cond.fieldLink RX8 9 "SealStrait$Sea" "heads" "[I", Cond.fieldLink RX8 15 "SealStrait$Sea" "sides" "[I", Cond.fieldLink RX8 18 "SealStrait$Sea" "moods" "[I", Cond.fieldLink RX8 21 "SealStrait$Sea" "moults" "[I", Cond.methodLink RX10 65 yX7_faultPlace, Cond.instanceMethod yX7_faultPlace, Cond.selects RX7 yX7_faultPlace yX7_faultPlace, Cond.initialized RX7, Cond.code yX7_faultPlace cX7_faultPlace 3 (some .int)]
def wsX11_then_r3 : List Cond := [Cond.fieldLink RX7 15 "SealStrait$Pad" "size" "I", Cond.fieldLink RX7 11 "SealStrait$Pad" "signs" "[I", Cond.methodLink RX7 19 yX7_awaitedBehind, Cond.static yX7_awaitedBehind, Cond.code yX7_awaitedBehind cX7_awaitedBehind 2 (some .int), Cond.methodLink RX7 23 yX7_isHerd, Cond.static yX7_isHerd, Cond.code yX7_isHerd cX7_isHerd 1 (some .boolean), Cond.methodLink RX7 27 yX7_isClause, Cond.static yX7_isClause, Cond.code yX7_isClause cX7_isClause 1 (some .boolean), Cond.methodLink RX10 39 yX0_takeFrom, Cond.instanceMethod yX0_takeFrom, Cond.selects RX0 yX0_takeFrom yX0_takeFrom, Cond.initialized RX0, Cond.code yX0_takeFrom cX0_takeFrom 5 (some .int), Cond.methodLink RX0 21 yX7_signAt, Cond.instanceMethod yX7_signAt, Cond.selects RX7 yX7_signAt yX7_signAt, Cond.code yX7_signAt cX7_signAt 2 (some .int), Cond.methodLink RX0 27 yX7_isHerd, Cond.methodLink RX0 31 yX0_set, Cond.instanceMethod yX0_set, Cond.selects RX0 yX0_set yX0_set]
def wsX11_then_r4 : List Cond := [Cond.code yX0_set cX0_set 4 none, Cond.fieldLink RX0 9 "SealStrait$Act" "kind" "I", Cond.fieldLink RX0 15 "SealStrait$Act" "one" "I", Cond.fieldLink RX0 18 "SealStrait$Act" "other" "I", Cond.methodLink RX10 43 yX8_whyNot, Cond.instanceMethod yX8_whyNot, Cond.selects RX8 yX8_whyNot yX8_whyNot, Cond.code yX8_whyNot cX8_whyNot 3 (some .int), Cond.fieldLink RX8 49 "SealStrait$Act" "kind" "I", Cond.fieldLink RX8 54 "SealStrait$Act" "one" "I", Cond.fieldLink RX8 72 "SealStrait$Act" "other" "I", Cond.methodLink RX8 57 yX9_wordsOf, Cond.instanceMethod yX9_wordsOf, Cond.selects RX9 yX9_wordsOf yX9_wordsOf, Cond.initialized RX9, Cond.code yX9_wordsOf cX9_wordsOf 2 (some .int), Cond.fieldLink RX9 9 "SealStrait$Treaty" "words" "[I", Cond.methodLink RX8 63 yX8_signers, Cond.instanceMethod yX8_signers, Cond.selects RX8 yX8_signers yX8_signers, Cond.code yX8_signers cX8_signers 4 (some .int), Cond.methodLink RX8 42 yX8_listens, Cond.instanceMethod yX8_listens, Cond.selects RX8 yX8_listens yX8_listens]
def wsX11_then_r5 : List Cond := [Cond.code yX8_listens cX8_listens 2 (some .boolean), Cond.methodLink RX8 38 yX8_isThere, Cond.instanceMethod yX8_isThere, Cond.selects RX8 yX8_isThere yX8_isThere, Cond.code yX8_isThere cX8_isThere 2 (some .boolean), Cond.methodLink RX8 66 yX8_whyNoWhistle, Cond.instanceMethod yX8_whyNoWhistle, Cond.selects RX8 yX8_whyNoWhistle yX8_whyNoWhistle, Cond.code yX8_whyNoWhistle cX8_whyNoWhistle 2 (some .int), Cond.methodLink RX8 69 yX8_whyNoNet, Cond.instanceMethod yX8_whyNoNet, Cond.selects RX8 yX8_whyNoNet yX8_whyNoNet, Cond.code yX8_whyNoNet cX8_whyNoNet 2 (some .int), Cond.methodLink RX8 75 yX8_whyNoJoining, Cond.instanceMethod yX8_whyNoJoining, Cond.selects RX8 yX8_whyNoJoining yX8_whyNoJoining, Cond.code yX8_whyNoJoining cX8_whyNoJoining 3 (some .int), Cond.methodLink RX10 50 yX10_noteReading, Cond.instanceMethod yX10_noteReading, Cond.selects RX10 yX10_noteReading yX10_noteReading, Cond.code yX10_noteReading cX10_noteReading 2 none, Cond.fieldLink RX10 78 "SealStrait$Act" "kind" "I", Cond.fieldLink RX10 81 "SealStrait$Act" "one" "I", Cond.methodLink RX10 84 yX9_wordsOf]
def wsX11_then_r6 : List Cond := [Cond.methodLink RX10 90 yX8_signers, Cond.methodLink RX10 54 yX8_perform, Cond.instanceMethod yX8_perform, Cond.selects RX8 yX8_perform yX8_perform, Cond.code yX8_perform cX8_perform 3 none, Cond.methodLink RX8 79 yX8_readAloud, Cond.instanceMethod yX8_readAloud, Cond.selects RX8 yX8_readAloud yX8_readAloud, Cond.code yX8_readAloud cX8_readAloud 4 none, Cond.static yX11_has, Cond.code yX11_has cX11_has 2 (some .boolean), Cond.methodLink RX8 83 yX8_cheer, Cond.instanceMethod yX8_cheer, Cond.selects RX8 yX8_cheer yX8_cheer, Cond.code yX8_cheer cX8_cheer 3 none, Cond.methodLink RX8 96 Lib.Math.min.name, Cond.static Lib.Math.min.name, Cond.initialized "java/lang/Math", Cond.code Lib.Math.min.name Lib.Math.min.code 2 (some .int), Cond.methodLink RX8 87 yX8_takeNet, Cond.instanceMethod yX8_takeNet, Cond.selects RX8 yX8_takeNet yX8_takeNet, Cond.code yX8_takeNet cX8_takeNet 2 none, Cond.methodLink RX8 90 yX8_joinTo]
def wsX11_then_r7 : List Cond := [Cond.instanceMethod yX8_joinTo, Cond.selects RX8 yX8_joinTo yX8_joinTo, Cond.code yX8_joinTo cX8_joinTo 3 none, Cond.methodLink RX8 93 yX8_passMonth, Cond.instanceMethod yX8_passMonth, Cond.selects RX8 yX8_passMonth yX8_passMonth, Cond.code yX8_passMonth cX8_passMonth 2 none, Cond.methodLink RX11 138 yX10_allCanBe, Cond.instanceMethod yX10_allCanBe, Cond.selects RX10 yX10_allCanBe yX10_allCanBe, Cond.code yX10_allCanBe cX10_allCanBe 1 (some .boolean), Cond.methodLink RX11 154 yX8_headsOnSideOne, Cond.instanceMethod yX8_headsOnSideOne, Cond.selects RX8 yX8_headsOnSideOne yX8_headsOnSideOne, Cond.code yX8_headsOnSideOne cX8_headsOnSideOne 3 (some .int)]
def wsX11_then : List Cond := .code yX11_then cX11_then 2 (some .int) :: ((wsX11_then_r1 ++ (wsX11_then_r2 ++ (wsX11_then_r3 ++ (wsX11_then_r4 ++ (wsX11_then_r5 ++ (wsX11_then_r6 ++ wsX11_then_r7)))))) ++ wsX110 ++ wsX100 ++ wsX80 ++ wsX70 ++ wsX00 ++ wsX90)
def wsX11_who_r1 : List Cond := [Cond.fieldLink RX11 12 "SealStrait" "sea" "LSealStrait$Sea;", Cond.fieldLink RX11 19 "SealStrait" "treaty" "LSealStrait$Treaty;", Cond.fieldLink RX11 100 "SealStrait$Treaty" "words" "[I", Cond.methodLink RX11 82 yX11_within, Cond.static yX11_within, Cond.initialized RX11, Cond.code yX11_within cX11_within 3 (some .boolean), Cond.methodLink RX11 169 yX8_signers, Cond.instanceMethod yX8_signers, Cond.selects RX8 yX8_signers yX8_signers, Cond.initialized RX8, Cond.code yX8_signers cX8_signers 4 (some .int), Cond.fieldLink RX8 18 "SealStrait$Sea" "moods" "[I", Cond.methodLink RX8 42 yX8_listens, Cond.instanceMethod yX8_listens, Cond.selects RX8 yX8_listens yX8_listens, Cond.code yX8_listens cX8_listens 2 (some .boolean), Cond.fieldLink RX8 9 "SealStrait$Sea" "heads" "[I", Cond.fieldLink RX8 21 "SealStrait$Sea" "moults" "[I", Cond.fieldLink RX8 28 "SealStrait$Sea" "month" "I", Cond.methodLink RX8 38 yX8_isThere, Cond.instanceMethod yX8_isThere, Cond.selects RX8 yX8_isThere yX8_isThere, Cond.code yX8_isThere cX8_isThere 2 (some .boolean)]
def wsX11_who_r2 : List Cond := [Cond.fieldLink RX8 24 "SealStrait$Sea" "there" "I"]
def wsX11_who : List Cond := .code yX11_who cX11_who 2 (some .int) :: ((wsX11_who_r1 ++ wsX11_who_r2) ++ wsX110 ++ wsX90 ++ wsX80)
def wsX11_bring_r1 : List Cond := [Cond.fieldLink RX11 12 "SealStrait" "sea" "LSealStrait$Sea;", Cond.fieldLink RX11 53 "SealStrait" "bringing" "LSealStrait$Bringing;", Cond.fieldLink RX11 19 "SealStrait" "treaty" "LSealStrait$Treaty;", Cond.fieldLink RX11 180 "SealStrait$Bringing" "fewest" "I", Cond.fieldLink RX11 183 "SealStrait$Bringing" "firstClause" "I", Cond.methodLink RX11 147 yX8_isThere, Cond.instanceMethod yX8_isThere, Cond.selects RX8 yX8_isThere yX8_isThere, Cond.initialized RX8, Cond.code yX8_isThere cX8_isThere 2 (some .boolean), Cond.fieldLink RX8 24 "SealStrait$Sea" "there" "I", Cond.methodLink RX11 82 yX11_within, Cond.static yX11_within, Cond.initialized RX11, Cond.code yX11_within cX11_within 3 (some .boolean), Cond.methodLink RX11 172 yX1_begin, Cond.instanceMethod yX1_begin, Cond.selects RX1 yX1_begin yX1_begin, Cond.initialized RX1, Cond.code yX1_begin cX1_begin 4 none, Cond.fieldLink RX1 11 "SealStrait$Bringing" "steps" "[I", Cond.fieldLink RX1 27 "SealStrait$Bringing" "size" "I", Cond.fieldLink RX1 37 "SealStrait$Bringing" "oneListens" "Z", Cond.fieldLink RX1 41 "SealStrait$Bringing" "otherListens" "Z"]
def wsX11_bring_r2 : List Cond := [Cond.methodLink RX1 21 yJ7_fill_53178, Cond.static yJ7_fill_53178, Cond.initialized RJ7, Cond.code yJ7_fill_53178 cJ7_fill_53178 4 none, Cond.methodLink RX1 31 yX8_listens, Cond.instanceMethod yX8_listens, Cond.selects RX8 yX8_listens yX8_listens, Cond.code yX8_listens cX8_listens 2 (some .boolean), Cond.fieldLink RX8 9 "SealStrait$Sea" "heads" "[I", Cond.fieldLink RX8 21 "SealStrait$Sea" "moults" "[I", Cond.fieldLink RX8 28 "SealStrait$Sea" "month" "I", Cond.methodLink RX8 38 yX8_isThere, Cond.methodLink RX1 44 yX1_placeOf, Cond.static yX1_placeOf, Cond.code yX1_placeOf cX1_placeOf 2 (some .int), Cond.fieldLink RX1 79 "SealStrait$Sea" "sides" "[I", Cond.fieldLink RX1 82 "SealStrait$Sea" "moods" "[I", Cond.methodLink RX1 76 yX8_isThere, Cond.methodLink RX1 48 yX1_reach, Cond.instanceMethod yX1_reach, Cond.selects RX1 yX1_reach yX1_reach, Cond.code yX1_reach cX1_reach 4 none, Cond.fieldLink RX1 15 "SealStrait$Bringing" "firsts" "[I", Cond.fieldLink RX1 18 "SealStrait$Bringing" "queue" "[I"]
def wsX11_bring_r3 : List Cond := [Cond.methodLink RX11 176 yX1_search, Cond.instanceMethod yX1_search, Cond.selects RX1 yX1_search yX1_search, Cond.code yX1_search cX1_search 6 none, Cond.fieldLink RX1 52 "SealStrait$Bringing" "fewest" "I", Cond.fieldLink RX1 55 "SealStrait$Bringing" "firstClause" "I", Cond.methodLink RX1 62 yX1_goOnFrom, Cond.instanceMethod yX1_goOnFrom, Cond.selects RX1 yX1_goOnFrom yX1_goOnFrom, Cond.code yX1_goOnFrom cX1_goOnFrom 9 none, Cond.methodLink RX1 66 yX9_wordsOf, Cond.instanceMethod yX9_wordsOf, Cond.selects RX9 yX9_wordsOf yX9_wordsOf, Cond.initialized RX9, Cond.code yX9_wordsOf cX9_wordsOf 2 (some .int), Cond.fieldLink RX9 9 "SealStrait$Treaty" "words" "[I", Cond.methodLink RX1 72 yX1_behindReading, Cond.static yX1_behindReading, Cond.code yX1_behindReading cX1_behindReading 5 (some .int), Cond.methodLink RX1 85 Lib.Math.min.name, Cond.static Lib.Math.min.name, Cond.initialized "java/lang/Math", Cond.code Lib.Math.min.name Lib.Math.min.code 2 (some .int)]
def wsX11_bring : List Cond := .code yX11_bring cX11_bring 6 (some .int) :: ((wsX11_bring_r1 ++ (wsX11_bring_r2 ++ wsX11_bring_r3)) ++ wsX110 ++ wsX10 ++ wsX80 ++ wsX90)
def wsX11_drop_r1 : List Cond := [Cond.fieldLink RX11 19 "SealStrait" "treaty" "LSealStrait$Treaty;", Cond.methodLink RX11 82 yX11_within, Cond.static yX11_within, Cond.initialized RX11, Cond.code yX11_within cX11_within 3 (some .boolean), Cond.methodLink RX11 186 yX9_leastToDrop, Cond.instanceMethod yX9_leastToDrop, Cond.selects RX9 yX9_leastToDrop yX9_leastToDrop, Cond.initialized RX9, Cond.code yX9_leastToDrop cX9_leastToDrop 6 (some .int), Cond.methodLink RX9 32 yJ6_bitCount_0f7a4, Cond.static yJ6_bitCount_0f7a4, Cond.initialized RJ6, Cond.code yJ6_bitCount_0f7a4 cJ6_bitCount_0f7a4 1 (some .int), Cond.constant RJ6 265 (1431655765), Cond.constant RJ6 266 (858993459), Cond.constant RJ6 267 (252645135), Cond.methodLink RX9 38 yX9_isQuiet, Cond.instanceMethod yX9_isQuiet, Cond.selects RX9 yX9_isQuiet yX9_isQuiet, Cond.code yX9_isQuiet cX9_isQuiet 3 (some .boolean), Cond.fieldLink RX9 15 "SealStrait$Treaty" "clashes" "[I", Cond.static yX11_has, Cond.code yX11_has cX11_has 2 (some .boolean)]
def wsX11_drop_r2 : List Cond := [Cond.methodLink RX11 94 yJ6_bitCount_0f7a4]
def wsX11_drop : List Cond := .code yX11_drop cX11_drop 4 (some .int) :: ((wsX11_drop_r1 ++ wsX11_drop_r2) ++ wsX110 ++ wsX90)
def wsX11_share_r1 : List Cond := [Cond.fieldLink RX11 12 "SealStrait" "sea" "LSealStrait$Sea;", Cond.fieldLink RX11 78 "SealStrait" "got" "[I", Cond.methodLink RX11 147 yX8_isThere, Cond.instanceMethod yX8_isThere, Cond.selects RX8 yX8_isThere yX8_isThere, Cond.initialized RX8, Cond.code yX8_isThere cX8_isThere 2 (some .boolean), Cond.fieldLink RX8 24 "SealStrait$Sea" "there" "I", Cond.methodLink RX11 82 yX11_within, Cond.static yX11_within, Cond.initialized RX11, Cond.code yX11_within cX11_within 3 (some .boolean), Cond.methodLink RX11 189 yX8_hasHeads, Cond.instanceMethod yX8_hasHeads, Cond.selects RX8 yX8_hasHeads yX8_hasHeads, Cond.code yX8_hasHeads cX8_hasHeads 2 (some .boolean), Cond.fieldLink RX8 9 "SealStrait$Sea" "heads" "[I", Cond.methodLink RX8 38 yX8_isThere, Cond.methodLink RX11 192 yJ7_fill_53178, Cond.static yJ7_fill_53178, Cond.initialized RJ7, Cond.code yJ7_fill_53178 cJ7_fill_53178 4 none, Cond.methodLink RX11 198 yX8_nextToGet, Cond.instanceMethod yX8_nextToGet]
def wsX11_share_r2 : List Cond := [Cond.selects RX8 yX8_nextToGet yX8_nextToGet, Cond.code yX8_nextToGet cX8_nextToGet 7 (some .int)]
def wsX11_share : List Cond := .code yX11_share cX11_share 5 (some .int) :: ((wsX11_share_r1 ++ wsX11_share_r2) ++ wsX110 ++ wsX80)
def wsX11_waitIsAsTold : List Cond := .code yX11_waitIsAsTold cX11_waitIsAsTold 2 (some .boolean) :: ([.methodLink RX11 82 yX11_within, .static yX11_within, .initialized RX11, .code yX11_within cX11_within 3 (some .boolean)])
def wsX11_waiting_r1 : List Cond := [Cond.constantLong RX11 206 (-1000000000000000002), Cond.fieldLink RX11 74 "SealStrait" "fraction" "LSealStrait$Fraction;", Cond.methodLink RX11 202 yX11_waitIsAsTold, Cond.static yX11_waitIsAsTold, Cond.initialized RX11, Cond.code yX11_waitIsAsTold cX11_waitIsAsTold 2 (some .boolean), Cond.methodLink RX11 82 yX11_within, Cond.static yX11_within, Cond.code yX11_within cX11_within 3 (some .boolean), Cond.methodLink RX11 208 yX2_setWaiting, Cond.instanceMethod yX2_setWaiting, Cond.selects RX2 yX2_setWaiting yX2_setWaiting, Cond.initialized RX2, Cond.code yX2_setWaiting cX2_setWaiting 7 none, Cond.fieldLink RX2 13 "SealStrait$Fraction" "upper" "J", Cond.fieldLink RX2 7 "SealStrait$Fraction" "lower" "J", Cond.methodLink RX2 16 Lib.MathLoose.max_long.x, Cond.static Lib.MathLoose.max_long.x, Cond.initialized "java/lang/Math", Cond.code Lib.MathLoose.max_long.x Lib.MathLoose.max_long.code 4 (some .long), Cond.methodLink RX2 22 yX2_reduce, Cond.instanceMethod yX2_reduce, Cond.selects RX2 yX2_reduce yX2_reduce, Cond.code yX2_reduce cX2_reduce 3 none]
def wsX11_waiting_r2 : List Cond := [Cond.methodLink RX2 27 yX2_commonDivisor, Cond.static yX2_commonDivisor, Cond.code yX2_commonDivisor cX2_commonDivisor 11 (some .long), Cond.methodLink RX11 212 yX2_part, Cond.instanceMethod yX2_part, Cond.selects RX2 yX2_part yX2_part, Cond.code yX2_part cX2_part 2 (some .long)]
def wsX11_waiting : List Cond := .code yX11_waiting cX11_waiting 4 (some .long) :: ((wsX11_waiting_r1 ++ wsX11_waiting_r2) ++ wsX110 ++ wsX20)
def wsX11_reads_r1 : List Cond := [Cond.fieldLink RX11 74 "SealStrait" "fraction" "LSealStrait$Fraction;", Cond.methodLink RX11 202 yX11_waitIsAsTold, Cond.static yX11_waitIsAsTold, Cond.initialized RX11, Cond.code yX11_waitIsAsTold cX11_waitIsAsTold 2 (some .boolean), Cond.methodLink RX11 82 yX11_within, Cond.static yX11_within, Cond.code yX11_within cX11_within 3 (some .boolean), Cond.methodLink RX11 208 yX2_setWaiting, Cond.instanceMethod yX2_setWaiting, Cond.selects RX2 yX2_setWaiting yX2_setWaiting, Cond.initialized RX2, Cond.code yX2_setWaiting cX2_setWaiting 7 none, Cond.fieldLink RX2 13 "SealStrait$Fraction" "upper" "J", Cond.fieldLink RX2 7 "SealStrait$Fraction" "lower" "J", Cond.methodLink RX2 16 Lib.MathLoose.max_long.x, Cond.static Lib.MathLoose.max_long.x, Cond.initialized "java/lang/Math", Cond.code Lib.MathLoose.max_long.x Lib.MathLoose.max_long.code 4 (some .long), Cond.methodLink RX2 22 yX2_reduce, Cond.instanceMethod yX2_reduce, Cond.selects RX2 yX2_reduce yX2_reduce, Cond.code yX2_reduce cX2_reduce 3 none, Cond.methodLink RX2 27 yX2_commonDivisor]
def wsX11_reads_r2 : List Cond := [Cond.static yX2_commonDivisor, Cond.code yX2_commonDivisor cX2_commonDivisor 11 (some .long), Cond.methodLink RX11 216 yX2_leastWholeNotBelow, Cond.instanceMethod yX2_leastWholeNotBelow, Cond.selects RX2 yX2_leastWholeNotBelow yX2_leastWholeNotBelow, Cond.code yX2_leastWholeNotBelow cX2_leastWholeNotBelow 3 (some .int)]
def wsX11_reads : List Cond := .code yX11_reads cX11_reads 3 (some .int) :: ((wsX11_reads_r1 ++ wsX11_reads_r2) ++ wsX110 ++ wsX20)
def wsX11_counted : List Cond := .code yX11_counted cX11_counted 3 (some .int) :: ([.fieldLink RX11 26 "SealStrait" "lookout" "LSealStrait$Lookout;", .fieldLink RX11 222 "SealStrait$Lookout" "counts" "I", .methodLink RX11 82 yX11_within, .static yX11_within, .initialized RX11, .code yX11_within cX11_within 3 (some .boolean), .methodLink RX11 219 yX6_addCount, .instanceMethod yX6_addCount, .selects RX6 yX6_addCount yX6_addCount, .initialized RX6, .code yX6_addCount cX6_addCount 3 (some .boolean), .fieldLink RX6 27 "SealStrait$Lookout" "counts" "I", .fieldLink RX6 15 "SealStrait$Lookout" "countRocks" "[I", .fieldLink RX6 18 "SealStrait$Lookout" "countWantings" "[I"] ++ wsX110 ++ wsX60)
def wsX11_forget : List Cond := .code yX11_forget cX11_forget 2 (some .int) :: ([.fieldLink RX11 26 "SealStrait" "lookout" "LSealStrait$Lookout;", .fieldLink RX11 222 "SealStrait$Lookout" "counts" "I"] ++ wsX110 ++ wsX60)
def wsX11_went_r1 : List Cond := [Cond.fieldLink RX11 60 "SealStrait" "guess" "LSealStrait$Guess;", Cond.fieldLink RX11 26 "SealStrait" "lookout" "LSealStrait$Lookout;", Cond.fieldLink RX11 12 "SealStrait" "sea" "LSealStrait$Sea;", Cond.fieldLink RX11 229 "SealStrait$Guess" "size" "I", Cond.methodLink RX11 225 yX4_findSets, Cond.instanceMethod yX4_findSets, Cond.selects RX4 yX4_findSets yX4_findSets, Cond.initialized RX4, Cond.code yX4_findSets cX4_findSets 5 none, Cond.fieldLink RX4 18 "SealStrait$Guess" "size" "I", Cond.fieldLink RX4 22 "SealStrait$Sea" "there" "I", Cond.fieldLink RX4 9 "SealStrait$Guess" "sets" "[I", Cond.methodLink RX4 27 yX6_allCountsFit, Cond.instanceMethod yX6_allCountsFit, Cond.selects RX6 yX6_allCountsFit yX6_allCountsFit, Cond.initialized RX6, Cond.code yX6_allCountsFit cX6_allCountsFit 4 (some .boolean), Cond.fieldLink RX6 27 "SealStrait$Lookout" "counts" "I", Cond.fieldLink RX6 15 "SealStrait$Lookout" "countRocks" "[I", Cond.fieldLink RX6 18 "SealStrait$Lookout" "countWantings" "[I", Cond.methodLink RX6 41 yX6_wantingOff, Cond.instanceMethod yX6_wantingOff, Cond.selects RX6 yX6_wantingOff yX6_wantingOff, Cond.code yX6_wantingOff cX6_wantingOff 4 (some .int)]
def wsX11_went_r2 : List Cond := [Cond.fieldLink RX6 9 "SealStrait$Lookout" "seen" "[I", Cond.static yX11_within, Cond.initialized RX11, Cond.code yX11_within cX11_within 3 (some .boolean), Cond.methodLink RX6 35 yX8_headsOf, Cond.instanceMethod yX8_headsOf, Cond.selects RX8 yX8_headsOf yX8_headsOf, Cond.initialized RX8, Cond.code yX8_headsOf cX8_headsOf 4 (some .int), Cond.fieldLink RX8 9 "SealStrait$Sea" "heads" "[I", Cond.static yX11_has, Cond.code yX11_has cX11_has 2 (some .boolean), Cond.methodLink RX8 38 yX8_isThere, Cond.instanceMethod yX8_isThere, Cond.selects RX8 yX8_isThere yX8_isThere, Cond.code yX8_isThere cX8_isThere 2 (some .boolean), Cond.fieldLink RX8 24 "SealStrait$Sea" "there" "I", Cond.methodLink RX11 230 yX4_setAt, Cond.instanceMethod yX4_setAt, Cond.selects RX4 yX4_setAt yX4_setAt, Cond.code yX4_setAt cX4_setAt 2 (some .int)]
def wsX11_went : List Cond := .code yX11_went cX11_went 2 (some .int) :: ((wsX11_went_r1 ++ wsX11_went_r2) ++ wsX110 ++ wsX40 ++ wsX80 ++ wsX60)
def wsX11_ask_r1 : List Cond := [Cond.fieldLink RX11 60 "SealStrait" "guess" "LSealStrait$Guess;", Cond.fieldLink RX11 26 "SealStrait" "lookout" "LSealStrait$Lookout;", Cond.fieldLink RX11 12 "SealStrait" "sea" "LSealStrait$Sea;", Cond.fieldLink RX11 229 "SealStrait$Guess" "size" "I", Cond.fieldLink RX11 236 "SealStrait$Guess" "nextRock" "I", Cond.fieldLink RX11 239 "SealStrait$Guess" "leftAtMost" "I", Cond.methodLink RX11 82 yX11_within, Cond.static yX11_within, Cond.initialized RX11, Cond.code yX11_within cX11_within 3 (some .boolean), Cond.methodLink RX11 225 yX4_findSets, Cond.instanceMethod yX4_findSets, Cond.selects RX4 yX4_findSets yX4_findSets, Cond.initialized RX4, Cond.code yX4_findSets cX4_findSets 5 none, Cond.fieldLink RX4 18 "SealStrait$Guess" "size" "I", Cond.fieldLink RX4 22 "SealStrait$Sea" "there" "I", Cond.fieldLink RX4 9 "SealStrait$Guess" "sets" "[I", Cond.methodLink RX4 27 yX6_allCountsFit, Cond.instanceMethod yX6_allCountsFit, Cond.selects RX6 yX6_allCountsFit yX6_allCountsFit, Cond.initialized RX6, Cond.code yX6_allCountsFit cX6_allCountsFit 4 (some .boolean), Cond.fieldLink RX6 27 "SealStrait$Lookout" "counts" "I"]
def wsX11_ask_r2 : List Cond := [Cond.fieldLink RX6 15 "SealStrait$Lookout" "countRocks" "[I", Cond.fieldLink RX6 18 "SealStrait$Lookout" "countWantings" "[I", Cond.methodLink RX6 41 yX6_wantingOff, Cond.instanceMethod yX6_wantingOff, Cond.selects RX6 yX6_wantingOff yX6_wantingOff, Cond.code yX6_wantingOff cX6_wantingOff 4 (some .int), Cond.fieldLink RX6 9 "SealStrait$Lookout" "seen" "[I", Cond.methodLink RX6 35 yX8_headsOf, Cond.instanceMethod yX8_headsOf, Cond.selects RX8 yX8_headsOf yX8_headsOf, Cond.initialized RX8, Cond.code yX8_headsOf cX8_headsOf 4 (some .int), Cond.fieldLink RX8 9 "SealStrait$Sea" "heads" "[I", Cond.static yX11_has, Cond.code yX11_has cX11_has 2 (some .boolean), Cond.methodLink RX8 38 yX8_isThere, Cond.instanceMethod yX8_isThere, Cond.selects RX8 yX8_isThere yX8_isThere, Cond.code yX8_isThere cX8_isThere 2 (some .boolean), Cond.fieldLink RX8 24 "SealStrait$Sea" "there" "I", Cond.methodLink RX11 233 yX4_findNextRock, Cond.instanceMethod yX4_findNextRock, Cond.selects RX4 yX4_findNextRock yX4_findNextRock, Cond.code yX4_findNextRock cX4_findNextRock 5 none]
def wsX11_ask_r3 : List Cond := [Cond.fieldLink RX4 33 "SealStrait$Guess" "nextRock" "I", Cond.fieldLink RX4 36 "SealStrait$Guess" "leftAtMost" "I", Cond.methodLink RX4 39 yX4_mostAlike, Cond.instanceMethod yX4_mostAlike, Cond.selects RX4 yX4_mostAlike yX4_mostAlike, Cond.code yX4_mostAlike cX4_mostAlike 7 (some .int), Cond.fieldLink RX4 15 "SealStrait$Guess" "tally" "[I", Cond.methodLink RX4 53 Lib.Math.max.name, Cond.static Lib.Math.max.name, Cond.initialized "java/lang/Math", Cond.code Lib.Math.max.name Lib.Math.max.code 2 (some .int), Cond.methodLink RX4 43 yJ7_fill_53178, Cond.static yJ7_fill_53178, Cond.initialized RJ7, Cond.code yJ7_fill_53178 cJ7_fill_53178 4 none, Cond.methodLink RX4 49 yX6_wantingOff]
def wsX11_ask : List Cond := .code yX11_ask cX11_ask 2 (some .int) :: ((wsX11_ask_r1 ++ (wsX11_ask_r2 ++ wsX11_ask_r3)) ++ wsX110 ++ wsX40 ++ wsX80 ++ wsX60)
def wsX11_turning_r1 : List Cond := [Cond.fieldLink RX11 67 "SealStrait" "game" "LSealStrait$Game;", Cond.fieldLink RX11 19 "SealStrait" "treaty" "LSealStrait$Treaty;", Cond.methodLink RX11 82 yX11_within, Cond.static yX11_within, Cond.initialized RX11, Cond.code yX11_within cX11_within 3 (some .boolean), Cond.methodLink RX11 242 yX3_winningFirst, Cond.instanceMethod yX3_winningFirst, Cond.selects RX3 yX3_winningFirst yX3_winningFirst, Cond.initialized RX3, Cond.code yX3_winningFirst cX3_winningFirst 5 (some .int), Cond.fieldLink RX3 9 "SealStrait$Game" "wins" "[Z", Cond.methodLink RX3 15 yX9_wordsOfAll, Cond.instanceMethod yX9_wordsOfAll, Cond.selects RX9 yX9_wordsOfAll yX9_wordsOfAll, Cond.initialized RX9, Cond.code yX9_wordsOfAll cX9_wordsOfAll 4 (some .int), Cond.fieldLink RX9 9 "SealStrait$Treaty" "words" "[I", Cond.static yX11_has, Cond.code yX11_has cX11_has 2 (some .boolean), Cond.methodLink RX3 21 yX3_winningNext, Cond.instanceMethod yX3_winningNext, Cond.selects RX3 yX3_winningNext yX3_winningNext, Cond.code yX3_winningNext cX3_winningNext 6 (some .int)]
def wsX11_turning_r2 : List Cond := [Cond.methodLink RX3 25 yX9_wordsOf, Cond.instanceMethod yX9_wordsOf, Cond.selects RX9 yX9_wordsOf yX9_wordsOf, Cond.code yX9_wordsOf cX9_wordsOf 2 (some .int)]
def wsX11_turning : List Cond := .code yX11_turning cX11_turning 4 (some .int) :: ((wsX11_turning_r1 ++ wsX11_turning_r2) ++ wsX110 ++ wsX30 ++ wsX90)
def wsX11_drift_r1 : List Cond := [Cond.constantLong RX11 206 (-1000000000000000002), Cond.fieldLink RX11 74 "SealStrait" "fraction" "LSealStrait$Fraction;", Cond.methodLink RX11 82 yX11_within, Cond.static yX11_within, Cond.initialized RX11, Cond.code yX11_within cX11_within 3 (some .boolean), Cond.methodLink RX11 246 yX2_setDrift, Cond.instanceMethod yX2_setDrift, Cond.selects RX2 yX2_setDrift yX2_setDrift, Cond.initialized RX2, Cond.code yX2_setDrift cX2_setDrift 11 none, Cond.fieldLink RX2 7 "SealStrait$Fraction" "lower" "J", Cond.constantLong RX2 25 (10), Cond.fieldLink RX2 13 "SealStrait$Fraction" "upper" "J", Cond.methodLink RX2 22 yX2_reduce, Cond.instanceMethod yX2_reduce, Cond.selects RX2 yX2_reduce yX2_reduce, Cond.code yX2_reduce cX2_reduce 3 none, Cond.methodLink RX2 27 yX2_commonDivisor, Cond.static yX2_commonDivisor, Cond.code yX2_commonDivisor cX2_commonDivisor 11 (some .long), Cond.methodLink RX11 212 yX2_part, Cond.instanceMethod yX2_part, Cond.selects RX2 yX2_part yX2_part]
def wsX11_drift_r2 : List Cond := [Cond.code yX2_part cX2_part 2 (some .long)]
def wsX11_drift : List Cond := .code yX11_drift cX11_drift 7 (some .long) :: ((wsX11_drift_r1 ++ wsX11_drift_r2) ++ wsX110 ++ wsX20)
def wsX11_year_r1 : List Cond := [Cond.fieldLink RX11 46 "SealStrait" "trial" "LSealStrait$Trial;", Cond.fieldLink RX11 12 "SealStrait" "sea" "LSealStrait$Sea;", Cond.fieldLink RX11 19 "SealStrait" "treaty" "LSealStrait$Treaty;", Cond.fieldLink RX11 142 "SealStrait$Trial" "sea" "LSealStrait$Sea;", Cond.fieldLink RX11 157 "SealStrait$Sea" "lost" "I", Cond.methodLink RX11 82 yX11_within, Cond.static yX11_within, Cond.initialized RX11, Cond.code yX11_within cX11_within 3 (some .boolean), Cond.methodLink RX11 249 yX10_runYear, Cond.instanceMethod yX10_runYear, Cond.selects RX10 yX10_runYear yX10_runYear, Cond.initialized RX10, Cond.code yX10_runYear cX10_runYear 7 none, Cond.fieldLink RX10 12 "SealStrait$Trial" "sea" "LSealStrait$Sea;", Cond.constant RX10 93 (65537), Cond.fieldLink RX10 21 "SealStrait$Trial" "act" "LSealStrait$Act;", Cond.methodLink RX10 61 yX8_copyFrom, Cond.instanceMethod yX8_copyFrom, Cond.selects RX8 yX8_copyFrom yX8_copyFrom, Cond.initialized RX8, Cond.code yX8_copyFrom cX8_copyFrom 3 none, Cond.fieldLink RX8 24 "SealStrait$Sea" "there" "I", Cond.fieldLink RX8 28 "SealStrait$Sea" "month" "I"]
def wsX11_year_r2 : List Cond := [Cond.fieldLink RX8 31 "SealStrait$Sea" "lost" "I", Cond.fieldLink RX8 9 "SealStrait$Sea" "heads" "[I", Cond.fieldLink RX8 15 "SealStrait$Sea" "sides" "[I", Cond.fieldLink RX8 18 "SealStrait$Sea" "moods" "[I", Cond.fieldLink RX8 21 "SealStrait$Sea" "moults" "[I", Cond.methodLink RX10 94 yX0_draw, Cond.instanceMethod yX0_draw, Cond.selects RX0 yX0_draw yX0_draw, Cond.initialized RX0, Cond.code yX0_draw cX0_draw 3 none, Cond.methodLink RX0 31 yX0_set, Cond.instanceMethod yX0_set, Cond.selects RX0 yX0_set yX0_set, Cond.code yX0_set cX0_set 4 none, Cond.fieldLink RX0 9 "SealStrait$Act" "kind" "I", Cond.fieldLink RX0 15 "SealStrait$Act" "one" "I", Cond.fieldLink RX0 18 "SealStrait$Act" "other" "I", Cond.methodLink RX10 43 yX8_whyNot, Cond.instanceMethod yX8_whyNot, Cond.selects RX8 yX8_whyNot yX8_whyNot, Cond.code yX8_whyNot cX8_whyNot 3 (some .int), Cond.fieldLink RX8 49 "SealStrait$Act" "kind" "I", Cond.fieldLink RX8 54 "SealStrait$Act" "one" "I", Cond.fieldLink RX8 72 "SealStrait$Act" "other" "I"]
def wsX11_year_r3 : List Cond := [Cond.methodLink RX8 57 yX9_wordsOf, Cond.instanceMethod yX9_wordsOf, Cond.selects RX9 yX9_wordsOf yX9_wordsOf, Cond.initialized RX9, Cond.code yX9_wordsOf cX9_wordsOf 2 (some .int), Cond.fieldLink RX9 9 "SealStrait$Treaty" "words" "[I", Cond.methodLink RX8 63 yX8_signers, Cond.instanceMethod yX8_signers, Cond.selects RX8 yX8_signers yX8_signers, Cond.code yX8_signers cX8_signers 4 (some .int), Cond.methodLink RX8 42 yX8_listens, Cond.instanceMethod yX8_listens, Cond.selects RX8 yX8_listens yX8_listens, Cond.code yX8_listens cX8_listens 2 (some .boolean), Cond.methodLink RX8 38 yX8_isThere, Cond.instanceMethod yX8_isThere, Cond.selects RX8 yX8_isThere yX8_isThere, Cond.code yX8_isThere cX8_isThere 2 (some .boolean), Cond.methodLink RX8 66 yX8_whyNoWhistle, Cond.instanceMethod yX8_whyNoWhistle, Cond.selects RX8 yX8_whyNoWhistle yX8_whyNoWhistle, Cond.code yX8_whyNoWhistle cX8_whyNoWhistle 2 (some .int), Cond.methodLink RX8 69 yX8_whyNoNet, Cond.instanceMethod yX8_whyNoNet]
def wsX11_year_r4 : List Cond := [Cond.selects RX8 yX8_whyNoNet yX8_whyNoNet, Cond.code yX8_whyNoNet cX8_whyNoNet 2 (some .int), Cond.methodLink RX8 75 yX8_whyNoJoining, Cond.instanceMethod yX8_whyNoJoining, Cond.selects RX8 yX8_whyNoJoining yX8_whyNoJoining, Cond.code yX8_whyNoJoining cX8_whyNoJoining 3 (some .int), Cond.methodLink RX10 54 yX8_perform, Cond.instanceMethod yX8_perform, Cond.selects RX8 yX8_perform yX8_perform, Cond.code yX8_perform cX8_perform 3 none, Cond.methodLink RX8 79 yX8_readAloud, Cond.instanceMethod yX8_readAloud, Cond.selects RX8 yX8_readAloud yX8_readAloud, Cond.code yX8_readAloud cX8_readAloud 4 none, Cond.static yX11_has, Cond.code yX11_has cX11_has 2 (some .boolean), Cond.methodLink RX8 83 yX8_cheer, Cond.instanceMethod yX8_cheer, Cond.selects RX8 yX8_cheer yX8_cheer, Cond.code yX8_cheer cX8_cheer 3 none, Cond.methodLink RX8 96 Lib.Math.min.name, Cond.static Lib.Math.min.name, Cond.initialized "java/lang/Math", Cond.code Lib.Math.min.name Lib.Math.min.code 2 (some .int)]
def wsX11_year_r5 : List Cond := [Cond.methodLink RX8 87 yX8_takeNet, Cond.instanceMethod yX8_takeNet, Cond.selects RX8 yX8_takeNet yX8_takeNet, Cond.code yX8_takeNet cX8_takeNet 2 none, Cond.methodLink RX8 90 yX8_joinTo, Cond.instanceMethod yX8_joinTo, Cond.selects RX8 yX8_joinTo yX8_joinTo, Cond.code yX8_joinTo cX8_joinTo 3 none, Cond.methodLink RX8 93 yX8_passMonth, Cond.instanceMethod yX8_passMonth, Cond.selects RX8 yX8_passMonth yX8_passMonth, Cond.code yX8_passMonth cX8_passMonth 2 none, Cond.methodLink RX11 154 yX8_headsOnSideOne, Cond.instanceMethod yX8_headsOnSideOne, Cond.selects RX8 yX8_headsOnSideOne yX8_headsOnSideOne, Cond.code yX8_headsOnSideOne cX8_headsOnSideOne 3 (some .int), Cond.methodLink RX11 253 yX8_allMoods, Cond.instanceMethod yX8_allMoods, Cond.selects RX8 yX8_allMoods yX8_allMoods, Cond.code yX8_allMoods cX8_allMoods 3 (some .int)]
def wsX11_year : List Cond := .code yX11_year cX11_year 4 (some .int) :: ((wsX11_year_r1 ++ (wsX11_year_r2 ++ (wsX11_year_r3 ++ (wsX11_year_r4 ++ wsX11_year_r5)))) ++ wsX110 ++ wsX100 ++ wsX80 ++ wsX00 ++ wsX90)
def wsX11_image_r1 : List Cond := [Cond.fieldLink RX11 39 "SealStrait" "images" "[LSealStrait$Image;", Cond.classLink RX11 37 RX5, Cond.instantiable RX5 3, Cond.initialized RX5, Cond.fieldLink RX11 257 "SealStrait$Image" "sea" "LSealStrait$Sea;", Cond.fieldLink RX11 12 "SealStrait" "sea" "LSealStrait$Sea;", Cond.fieldLink RX11 258 "SealStrait$Image" "treaty" "LSealStrait$Treaty;", Cond.fieldLink RX11 19 "SealStrait" "treaty" "LSealStrait$Treaty;", Cond.fieldLink RX11 262 "SealStrait$Image" "lookout" "LSealStrait$Lookout;", Cond.fieldLink RX11 26 "SealStrait" "lookout" "LSealStrait$Lookout;", Cond.methodLink RX11 82 yX11_within, Cond.static yX11_within, Cond.initialized RX11, Cond.code yX11_within cX11_within 3 (some .boolean), Cond.instanceMethod yX5_init, Cond.code yX5_init cX5_init 1 none, Cond.methodLink RX5 1 objectInit, Cond.instanceMethod objectInit, Cond.code objectInit ⟨#[0xb1]⟩ 1 none, Cond.classLink RX5 7 RX8, Cond.instantiable RX8 7, Cond.initialized RX8, Cond.fieldLink RX5 10 "SealStrait$Image" "sea" "LSealStrait$Sea;", Cond.classLink RX5 16 RX9]
def wsX11_image_r2 : List Cond := [Cond.instantiable RX9 2, Cond.initialized RX9, Cond.fieldLink RX5 19 "SealStrait$Image" "treaty" "LSealStrait$Treaty;", Cond.classLink RX5 23 RX6, Cond.instantiable RX6 4, Cond.initialized RX6, Cond.fieldLink RX5 26 "SealStrait$Image" "lookout" "LSealStrait$Lookout;", Cond.instanceMethod yX8_init, Cond.code yX8_init cX8_init 1 none, Cond.methodLink RX8 3 objectInit, Cond.arrayClass .int, Cond.fieldLink RX8 9 "SealStrait$Sea" "heads" "[I", Cond.fieldLink RX8 15 "SealStrait$Sea" "sides" "[I", Cond.fieldLink RX8 18 "SealStrait$Sea" "moods" "[I", Cond.fieldLink RX8 21 "SealStrait$Sea" "moults" "[I", Cond.methodLink RX5 18 yX9_init, Cond.instanceMethod yX9_init, Cond.code yX9_init cX9_init 1 none, Cond.methodLink RX9 3 objectInit, Cond.fieldLink RX9 9 "SealStrait$Treaty" "words" "[I", Cond.fieldLink RX9 15 "SealStrait$Treaty" "clashes" "[I", Cond.methodLink RX9 18 yJ7_fill_53178, Cond.static yJ7_fill_53178, Cond.initialized RJ7]
def wsX11_image_r3 : List Cond := [Cond.code yJ7_fill_53178 cJ7_fill_53178 4 none, Cond.methodLink RX5 25 yX6_init, Cond.instanceMethod yX6_init, Cond.code yX6_init cX6_init 1 none, Cond.methodLink RX6 3 objectInit, Cond.fieldLink RX6 9 "SealStrait$Lookout" "seen" "[I", Cond.fieldLink RX6 15 "SealStrait$Lookout" "countRocks" "[I", Cond.fieldLink RX6 18 "SealStrait$Lookout" "countWantings" "[I", Cond.methodLink RX6 21 yJ7_fill_53178, Cond.methodLink RX11 143 yX8_copyFrom, Cond.instanceMethod yX8_copyFrom, Cond.selects RX8 yX8_copyFrom yX8_copyFrom, Cond.code yX8_copyFrom cX8_copyFrom 3 none, Cond.fieldLink RX8 24 "SealStrait$Sea" "there" "I", Cond.fieldLink RX8 28 "SealStrait$Sea" "month" "I", Cond.fieldLink RX8 31 "SealStrait$Sea" "lost" "I", Cond.methodLink RX11 259 yX9_copyFrom, Cond.instanceMethod yX9_copyFrom, Cond.selects RX9 yX9_copyFrom yX9_copyFrom, Cond.code yX9_copyFrom cX9_copyFrom 3 none, Cond.methodLink RX11 263 yX6_copyFrom, Cond.instanceMethod yX6_copyFrom, Cond.selects RX6 yX6_copyFrom yX6_copyFrom, Cond.code yX6_copyFrom cX6_copyFrom 3 none]
def wsX11_image_r4 : List Cond := [Cond.fieldLink RX6 27 "SealStrait$Lookout" "counts" "I"]
def wsX11_image : List Cond := .code yX11_image cX11_image 3 (some .int) :: ((wsX11_image_r1 ++ (wsX11_image_r2 ++ (wsX11_image_r3 ++ wsX11_image_r4))) ++ wsX110 ++ wsX50 ++ wsX80 ++ wsX90 ++ wsX60)
def wsX11_restore_r1 : List Cond := [Cond.fieldLink RX11 39 "SealStrait" "images" "[LSealStrait$Image;", Cond.fieldLink RX11 12 "SealStrait" "sea" "LSealStrait$Sea;", Cond.fieldLink RX11 257 "SealStrait$Image" "sea" "LSealStrait$Sea;", Cond.fieldLink RX11 19 "SealStrait" "treaty" "LSealStrait$Treaty;", Cond.fieldLink RX11 258 "SealStrait$Image" "treaty" "LSealStrait$Treaty;", Cond.fieldLink RX11 26 "SealStrait" "lookout" "LSealStrait$Lookout;", Cond.fieldLink RX11 262 "SealStrait$Image" "lookout" "LSealStrait$Lookout;", Cond.methodLink RX11 82 yX11_within, Cond.static yX11_within, Cond.initialized RX11, Cond.code yX11_within cX11_within 3 (some .boolean), Cond.methodLink RX11 143 yX8_copyFrom, Cond.instanceMethod yX8_copyFrom, Cond.selects RX8 yX8_copyFrom yX8_copyFrom, Cond.initialized RX8, Cond.code yX8_copyFrom cX8_copyFrom 3 none, Cond.fieldLink RX8 24 "SealStrait$Sea" "there" "I", Cond.fieldLink RX8 28 "SealStrait$Sea" "month" "I", Cond.fieldLink RX8 31 "SealStrait$Sea" "lost" "I", Cond.fieldLink RX8 9 "SealStrait$Sea" "heads" "[I", Cond.fieldLink RX8 15 "SealStrait$Sea" "sides" "[I", Cond.fieldLink RX8 18 "SealStrait$Sea" "moods" "[I", Cond.fieldLink RX8 21 "SealStrait$Sea" "moults" "[I", Cond.methodLink RX11 259 yX9_copyFrom]
def wsX11_restore_r2 : List Cond := [Cond.instanceMethod yX9_copyFrom, Cond.selects RX9 yX9_copyFrom yX9_copyFrom, Cond.initialized RX9, Cond.code yX9_copyFrom cX9_copyFrom 3 none, Cond.fieldLink RX9 9 "SealStrait$Treaty" "words" "[I", Cond.fieldLink RX9 15 "SealStrait$Treaty" "clashes" "[I", Cond.methodLink RX11 263 yX6_copyFrom, Cond.instanceMethod yX6_copyFrom, Cond.selects RX6 yX6_copyFrom yX6_copyFrom, Cond.initialized RX6, Cond.code yX6_copyFrom cX6_copyFrom 3 none, Cond.fieldLink RX6 9 "SealStrait$Lookout" "seen" "[I", Cond.fieldLink RX6 27 "SealStrait$Lookout" "counts" "I", Cond.fieldLink RX6 15 "SealStrait$Lookout" "countRocks" "[I", Cond.fieldLink RX6 18 "SealStrait$Lookout" "countWantings" "[I"]
def wsX11_restore : List Cond := .code yX11_restore cX11_restore 3 (some .int) :: ((wsX11_restore_r1 ++ wsX11_restore_r2) ++ wsX110 ++ wsX50 ++ wsX80 ++ wsX90 ++ wsX60)
def wsX11_told_r1 : List Cond := [Cond.fieldLink RX11 19 "SealStrait" "treaty" "LSealStrait$Treaty;", Cond.fieldLink RX11 100 "SealStrait$Treaty" "words" "[I", Cond.fieldLink RX11 266 "SealStrait$Treaty" "clashes" "[I", Cond.fieldLink RX11 26 "SealStrait" "lookout" "LSealStrait$Lookout;", Cond.fieldLink RX11 111 "SealStrait$Lookout" "seen" "[I", Cond.fieldLink RX11 12 "SealStrait" "sea" "LSealStrait$Sea;", Cond.fieldLink RX11 33 "SealStrait" "pad" "LSealStrait$Pad;", Cond.fieldLink RX11 118 "SealStrait$Pad" "size" "I", Cond.fieldLink RX11 90 "SealStrait$Sea" "there" "I", Cond.fieldLink RX11 160 "SealStrait$Sea" "month" "I", Cond.fieldLink RX11 157 "SealStrait$Sea" "lost" "I", Cond.fieldLink RX11 222 "SealStrait$Lookout" "counts" "I", Cond.methodLink RX11 82 yX11_within, Cond.static yX11_within, Cond.initialized RX11, Cond.code yX11_within cX11_within 3 (some .boolean), Cond.methodLink RX11 150 yX8_traitOf, Cond.instanceMethod yX8_traitOf, Cond.selects RX8 yX8_traitOf yX8_traitOf, Cond.initialized RX8, Cond.code yX8_traitOf cX8_traitOf 3 (some .int), Cond.fieldLink RX8 9 "SealStrait$Sea" "heads" "[I", Cond.fieldLink RX8 15 "SealStrait$Sea" "sides" "[I", Cond.fieldLink RX8 18 "SealStrait$Sea" "moods" "[I"]
def wsX11_told_r2 : List Cond := [Cond.fieldLink RX8 21 "SealStrait$Sea" "moults" "[I", Cond.methodLink RX8 38 yX8_isThere, Cond.instanceMethod yX8_isThere, Cond.selects RX8 yX8_isThere yX8_isThere, Cond.code yX8_isThere cX8_isThere 2 (some .boolean), Cond.fieldLink RX8 24 "SealStrait$Sea" "there" "I"]
def wsX11_told : List Cond := .code yX11_told cX11_told 2 (some .int) :: ((wsX11_told_r1 ++ wsX11_told_r2) ++ wsX110 ++ wsX90 ++ wsX60 ++ wsX70 ++ wsX80)
def wsX12_init : List Cond := .code yX12_init cX12_init 2 none :: ([.methodLink RX12 1 objectInit, .instanceMethod objectInit, .code objectInit ⟨#[0xb1]⟩ 1 none, .arrayClass .int, .fieldLink RX12 7 "SealStraitModel" "book" "[I", .fieldLink RX12 13 "SealStraitModel" "now" "[I", .fieldLink RX12 16 "SealStraitModel" "moults" "[I", .fieldLink RX12 19 "SealStraitModel" "words" "[I", .fieldLink RX12 22 "SealStraitModel" "clashes" "[I", .fieldLink RX12 25 "SealStraitModel" "rocks" "[I", .fieldLink RX12 28 "SealStraitModel" "count" "[I", .fieldLink RX12 31 "SealStraitModel" "pad" "[I", .fieldLink RX12 34 "SealStraitModel" "reached" "[I", .fieldLink RX12 37 "SealStraitModel" "queue" "[I", .fieldLink RX12 40 "SealStraitModel" "got" "[I", .fieldLink RX12 43 "SealStraitModel" "wins" "[I", .fieldLink RX12 46 "SealStraitModel" "image" "[I", .arrayClass .boolean, .fieldLink RX12 49 "SealStraitModel" "isKept" "[Z"] ++ wsX120)
def wsX12_in : List Cond := .code yX12_in cX12_in 3 (some .boolean) :: ([])
def wsX12_has : List Cond := .code yX12_has cX12_has 2 (some .boolean) :: ([])
def wsX12_bits : List Cond := .code yX12_bits cX12_bits 3 (some .int) :: ([])
def wsX12_isClause : List Cond := .code yX12_isClause cX12_isClause 1 (some .boolean) :: ([.methodLink RX12 53 yX12_in, .static yX12_in, .initialized RX12, .code yX12_in cX12_in 3 (some .boolean)])
def wsX12_isThere : List Cond := .code yX12_isThere cX12_isThere 2 (some .boolean) :: ([.fieldLink RX12 7 "SealStraitModel" "book" "[I", .methodLink RX12 53 yX12_in, .static yX12_in, .initialized RX12, .code yX12_in cX12_in 3 (some .boolean), .methodLink RX12 57 yX12_has, .static yX12_has, .code yX12_has cX12_has 2 (some .boolean)] ++ wsX120)
def wsX12_herd : List Cond := .code yX12_herd cX12_herd 6 (some .int) :: ([.fieldLink RX12 7 "SealStraitModel" "book" "[I", .fieldLink RX12 16 "SealStraitModel" "moults" "[I", .methodLink RX12 53 yX12_in, .static yX12_in, .initialized RX12, .code yX12_in cX12_in 3 (some .boolean), .methodLink RX12 61 yX12_bits, .static yX12_bits, .code yX12_bits cX12_bits 3 (some .int)] ++ wsX120)
def wsX12_clause : List Cond := .code yX12_clause cX12_clause 4 (some .int) :: ([.fieldLink RX12 19 "SealStraitModel" "words" "[I", .methodLink RX12 65 yX12_isClause, .static yX12_isClause, .initialized RX12, .code yX12_isClause cX12_isClause 1 (some .boolean), .methodLink RX12 53 yX12_in, .static yX12_in, .code yX12_in cX12_in 3 (some .boolean)] ++ wsX120)
def wsX12_clash : List Cond := .code yX12_clash cX12_clash 6 (some .int) :: ([.fieldLink RX12 22 "SealStraitModel" "clashes" "[I", .methodLink RX12 65 yX12_isClause, .static yX12_isClause, .initialized RX12, .code yX12_isClause cX12_isClause 1 (some .boolean), .methodLink RX12 53 yX12_in, .static yX12_in, .code yX12_in cX12_in 3 (some .boolean), .methodLink RX12 61 yX12_bits, .static yX12_bits, .code yX12_bits cX12_bits 3 (some .int)] ++ wsX120)
def wsX12_rock : List Cond := .code yX12_rock cX12_rock 4 (some .int) :: ([.fieldLink RX12 25 "SealStraitModel" "rocks" "[I", .methodLink RX12 53 yX12_in, .static yX12_in, .initialized RX12, .code yX12_in cX12_in 3 (some .boolean)] ++ wsX120)
def wsX12_say : List Cond := .code yX12_say cX12_say 2 (some .int) :: ([.fieldLink RX12 69 "SealStraitModel" "signs" "I", .fieldLink RX12 31 "SealStraitModel" "pad" "[I", .methodLink RX12 53 yX12_in, .static yX12_in, .initialized RX12, .code yX12_in cX12_in 3 (some .boolean)] ++ wsX120)
def wsX12_wipe : List Cond := .code yX12_wipe cX12_wipe 2 (some .int) :: ([.fieldLink RX12 69 "SealStraitModel" "signs" "I"] ++ wsX120)
def wsX12_faultOf : List Cond := .code yX12_faultOf cX12_faultOf 6 (some .int) :: ([.fieldLink RX12 69 "SealStraitModel" "signs" "I", .fieldLink RX12 31 "SealStraitModel" "pad" "[I", .methodLink RX12 53 yX12_in, .static yX12_in, .initialized RX12, .code yX12_in cX12_in 3 (some .boolean)] ++ wsX120)
def wsX12_fault : List Cond := .code yX12_fault cX12_fault 1 (some .int) :: ([.methodLink RX12 73 yX12_faultOf, .instanceMethod yX12_faultOf, .selects RX12 yX12_faultOf yX12_faultOf, .initialized RX12, .code yX12_faultOf cX12_faultOf 6 (some .int), .fieldLink RX12 69 "SealStraitModel" "signs" "I", .fieldLink RX12 31 "SealStraitModel" "pad" "[I", .methodLink RX12 53 yX12_in, .static yX12_in, .code yX12_in cX12_in 3 (some .boolean)] ++ wsX120)
def wsX12_asNow : List Cond := .code yX12_asNow cX12_asNow 2 none :: ([.fieldLink RX12 13 "SealStraitModel" "now" "[I", .fieldLink RX12 7 "SealStraitModel" "book" "[I", .fieldLink RX12 77 "SealStraitModel" "readMany" "I", .fieldLink RX12 80 "SealStraitModel" "signedAll" "I"] ++ wsX120)
def wsX12_stands : List Cond := .code yX12_stands cX12_stands 2 (some .boolean) :: ([.fieldLink RX12 13 "SealStraitModel" "now" "[I", .methodLink RX12 53 yX12_in, .static yX12_in, .initialized RX12, .code yX12_in cX12_in 3 (some .boolean), .methodLink RX12 57 yX12_has, .static yX12_has, .code yX12_has cX12_has 2 (some .boolean)] ++ wsX120)
def wsX12_wouldSign : List Cond := .code yX12_wouldSign cX12_wouldSign 3 (some .boolean) :: ([.fieldLink RX12 13 "SealStraitModel" "now" "[I", .fieldLink RX12 16 "SealStraitModel" "moults" "[I", .fieldLink RX12 19 "SealStraitModel" "words" "[I", .methodLink RX12 83 yX12_stands, .instanceMethod yX12_stands, .selects RX12 yX12_stands yX12_stands, .initialized RX12, .code yX12_stands cX12_stands 2 (some .boolean), .methodLink RX12 53 yX12_in, .static yX12_in, .code yX12_in cX12_in 3 (some .boolean), .methodLink RX12 57 yX12_has, .static yX12_has, .code yX12_has cX12_has 2 (some .boolean)] ++ wsX120)
def wsX12_signers : List Cond := .code yX12_signers cX12_signers 4 (some .int) :: ([.methodLink RX12 86 yX12_wouldSign, .instanceMethod yX12_wouldSign, .selects RX12 yX12_wouldSign yX12_wouldSign, .initialized RX12, .code yX12_wouldSign cX12_wouldSign 3 (some .boolean), .fieldLink RX12 13 "SealStraitModel" "now" "[I", .fieldLink RX12 16 "SealStraitModel" "moults" "[I", .fieldLink RX12 19 "SealStraitModel" "words" "[I", .methodLink RX12 83 yX12_stands, .instanceMethod yX12_stands, .selects RX12 yX12_stands yX12_stands, .code yX12_stands cX12_stands 2 (some .boolean), .methodLink RX12 53 yX12_in, .static yX12_in, .code yX12_in cX12_in 3 (some .boolean), .methodLink RX12 57 yX12_has, .static yX12_has, .code yX12_has cX12_has 2 (some .boolean)] ++ wsX120)
def wsX12_cheer : List Cond := .code yX12_cheer cX12_cheer 3 none :: ([.fieldLink RX12 13 "SealStraitModel" "now" "[I"] ++ wsX120)
def wsX12_read_r1 : List Cond := [Cond.fieldLink RX12 13 "SealStraitModel" "now" "[I", Cond.fieldLink RX12 19 "SealStraitModel" "words" "[I", Cond.fieldLink RX12 77 "SealStraitModel" "readMany" "I", Cond.fieldLink RX12 80 "SealStraitModel" "signedAll" "I", Cond.methodLink RX12 89 yX12_signers, Cond.instanceMethod yX12_signers, Cond.selects RX12 yX12_signers yX12_signers, Cond.initialized RX12, Cond.code yX12_signers cX12_signers 4 (some .int), Cond.methodLink RX12 86 yX12_wouldSign, Cond.instanceMethod yX12_wouldSign, Cond.selects RX12 yX12_wouldSign yX12_wouldSign, Cond.code yX12_wouldSign cX12_wouldSign 3 (some .boolean), Cond.fieldLink RX12 16 "SealStraitModel" "moults" "[I", Cond.methodLink RX12 83 yX12_stands, Cond.instanceMethod yX12_stands, Cond.selects RX12 yX12_stands yX12_stands, Cond.code yX12_stands cX12_stands 2 (some .boolean), Cond.methodLink RX12 53 yX12_in, Cond.static yX12_in, Cond.code yX12_in cX12_in 3 (some .boolean), Cond.methodLink RX12 57 yX12_has, Cond.static yX12_has, Cond.code yX12_has cX12_has 2 (some .boolean)]
def wsX12_read_r2 : List Cond := [Cond.methodLink RX12 92 yX12_cheer, Cond.instanceMethod yX12_cheer, Cond.selects RX12 yX12_cheer yX12_cheer, Cond.code yX12_cheer cX12_cheer 3 none]
def wsX12_read : List Cond := .code yX12_read cX12_read 4 (some .int) :: ((wsX12_read_r1 ++ wsX12_read_r2) ++ wsX120)
def wsX12_whistle : List Cond := .code yX12_whistle cX12_whistle 2 (some .int) :: ([.fieldLink RX12 13 "SealStraitModel" "now" "[I", .methodLink RX12 83 yX12_stands, .instanceMethod yX12_stands, .selects RX12 yX12_stands yX12_stands, .initialized RX12, .code yX12_stands cX12_stands 2 (some .boolean), .methodLink RX12 53 yX12_in, .static yX12_in, .code yX12_in cX12_in 3 (some .boolean), .methodLink RX12 57 yX12_has, .static yX12_has, .code yX12_has cX12_has 2 (some .boolean), .methodLink RX12 92 yX12_cheer, .instanceMethod yX12_cheer, .selects RX12 yX12_cheer yX12_cheer, .code yX12_cheer cX12_cheer 3 none] ++ wsX120)
def wsX12_net : List Cond := .code yX12_net cX12_net 2 (some .int) :: ([.fieldLink RX12 13 "SealStraitModel" "now" "[I", .methodLink RX12 83 yX12_stands, .instanceMethod yX12_stands, .selects RX12 yX12_stands yX12_stands, .initialized RX12, .code yX12_stands cX12_stands 2 (some .boolean), .methodLink RX12 53 yX12_in, .static yX12_in, .code yX12_in cX12_in 3 (some .boolean), .methodLink RX12 57 yX12_has, .static yX12_has, .code yX12_has cX12_has 2 (some .boolean)] ++ wsX120)
def wsX12_join : List Cond := .code yX12_join cX12_join 3 (some .int) :: ([.fieldLink RX12 13 "SealStraitModel" "now" "[I", .methodLink RX12 83 yX12_stands, .instanceMethod yX12_stands, .selects RX12 yX12_stands yX12_stands, .initialized RX12, .code yX12_stands cX12_stands 2 (some .boolean), .methodLink RX12 53 yX12_in, .static yX12_in, .code yX12_in cX12_in 3 (some .boolean), .methodLink RX12 57 yX12_has, .static yX12_has, .code yX12_has cX12_has 2 (some .boolean)] ++ wsX120)
def wsX12_endMonth : List Cond := .code yX12_endMonth cX12_endMonth 2 (some .int) :: ([.fieldLink RX12 13 "SealStraitModel" "now" "[I", .fieldLink RX12 16 "SealStraitModel" "moults" "[I", .methodLink RX12 83 yX12_stands, .instanceMethod yX12_stands, .selects RX12 yX12_stands yX12_stands, .initialized RX12, .code yX12_stands cX12_stands 2 (some .boolean), .methodLink RX12 53 yX12_in, .static yX12_in, .code yX12_in cX12_in 3 (some .boolean), .methodLink RX12 57 yX12_has, .static yX12_has, .code yX12_has cX12_has 2 (some .boolean), .methodLink RX12 92 yX12_cheer, .instanceMethod yX12_cheer, .selects RX12 yX12_cheer yX12_cheer, .code yX12_cheer cX12_cheer 3 none] ++ wsX120)
def wsX12_herdAct_r1 : List Cond := [Cond.methodLink RX12 96 yX12_whistle, Cond.instanceMethod yX12_whistle, Cond.selects RX12 yX12_whistle yX12_whistle, Cond.initialized RX12, Cond.code yX12_whistle cX12_whistle 2 (some .int), Cond.fieldLink RX12 13 "SealStraitModel" "now" "[I", Cond.methodLink RX12 83 yX12_stands, Cond.instanceMethod yX12_stands, Cond.selects RX12 yX12_stands yX12_stands, Cond.code yX12_stands cX12_stands 2 (some .boolean), Cond.methodLink RX12 53 yX12_in, Cond.static yX12_in, Cond.code yX12_in cX12_in 3 (some .boolean), Cond.methodLink RX12 57 yX12_has, Cond.static yX12_has, Cond.code yX12_has cX12_has 2 (some .boolean), Cond.methodLink RX12 92 yX12_cheer, Cond.instanceMethod yX12_cheer, Cond.selects RX12 yX12_cheer yX12_cheer, Cond.code yX12_cheer cX12_cheer 3 none, Cond.methodLink RX12 99 yX12_net, Cond.instanceMethod yX12_net, Cond.selects RX12 yX12_net yX12_net, Cond.code yX12_net cX12_net 2 (some .int)]
def wsX12_herdAct_r2 : List Cond := [Cond.methodLink RX12 102 yX12_join, Cond.instanceMethod yX12_join, Cond.selects RX12 yX12_join yX12_join, Cond.code yX12_join cX12_join 3 (some .int)]
def wsX12_herdAct : List Cond := .code yX12_herdAct cX12_herdAct 4 (some .int) :: ((wsX12_herdAct_r1 ++ wsX12_herdAct_r2) ++ wsX120)
def wsX12_goSeasons_r1 : List Cond := [Cond.fieldLink RX12 109 "SealStraitModel" "acts" "I", Cond.fieldLink RX12 69 "SealStraitModel" "signs" "I", Cond.fieldLink RX12 31 "SealStraitModel" "pad" "[I", Cond.fieldLink RX12 116 "SealStraitModel" "reason" "I", Cond.methodLink RX12 106 yX12_asNow, Cond.instanceMethod yX12_asNow, Cond.selects RX12 yX12_asNow yX12_asNow, Cond.initialized RX12, Cond.code yX12_asNow cX12_asNow 2 none, Cond.fieldLink RX12 13 "SealStraitModel" "now" "[I", Cond.fieldLink RX12 7 "SealStraitModel" "book" "[I", Cond.fieldLink RX12 77 "SealStraitModel" "readMany" "I", Cond.fieldLink RX12 80 "SealStraitModel" "signedAll" "I", Cond.methodLink RX12 53 yX12_in, Cond.static yX12_in, Cond.code yX12_in cX12_in 3 (some .boolean), Cond.methodLink RX12 112 yX12_herdAct, Cond.instanceMethod yX12_herdAct, Cond.selects RX12 yX12_herdAct yX12_herdAct, Cond.code yX12_herdAct cX12_herdAct 4 (some .int), Cond.methodLink RX12 96 yX12_whistle, Cond.instanceMethod yX12_whistle, Cond.selects RX12 yX12_whistle yX12_whistle, Cond.code yX12_whistle cX12_whistle 2 (some .int)]
def wsX12_goSeasons_r2 : List Cond := [Cond.methodLink RX12 83 yX12_stands, Cond.instanceMethod yX12_stands, Cond.selects RX12 yX12_stands yX12_stands, Cond.code yX12_stands cX12_stands 2 (some .boolean), Cond.methodLink RX12 57 yX12_has, Cond.static yX12_has, Cond.code yX12_has cX12_has 2 (some .boolean), Cond.methodLink RX12 92 yX12_cheer, Cond.instanceMethod yX12_cheer, Cond.selects RX12 yX12_cheer yX12_cheer, Cond.code yX12_cheer cX12_cheer 3 none, Cond.methodLink RX12 99 yX12_net, Cond.instanceMethod yX12_net, Cond.selects RX12 yX12_net yX12_net, Cond.code yX12_net cX12_net 2 (some .int), Cond.methodLink RX12 102 yX12_join, Cond.instanceMethod yX12_join, Cond.selects RX12 yX12_join yX12_join, Cond.code yX12_join cX12_join 3 (some .int), Cond.methodLink RX12 119 yX12_endMonth, Cond.instanceMethod yX12_endMonth, Cond.selects RX12 yX12_endMonth yX12_endMonth, Cond.code yX12_endMonth cX12_endMonth 2 (some .int), Cond.fieldLink RX12 16 "SealStraitModel" "moults" "[I"]
def wsX12_goSeasons_r3 : List Cond := [Cond.methodLink RX12 122 yX12_read, Cond.instanceMethod yX12_read, Cond.selects RX12 yX12_read yX12_read, Cond.code yX12_read cX12_read 4 (some .int), Cond.fieldLink RX12 19 "SealStraitModel" "words" "[I", Cond.methodLink RX12 89 yX12_signers, Cond.instanceMethod yX12_signers, Cond.selects RX12 yX12_signers yX12_signers, Cond.code yX12_signers cX12_signers 4 (some .int), Cond.methodLink RX12 86 yX12_wouldSign, Cond.instanceMethod yX12_wouldSign, Cond.selects RX12 yX12_wouldSign yX12_wouldSign, Cond.code yX12_wouldSign cX12_wouldSign 3 (some .boolean)]
def wsX12_goSeasons : List Cond := .code yX12_goSeasons cX12_goSeasons 4 (some .int) :: ((wsX12_goSeasons_r1 ++ (wsX12_goSeasons_r2 ++ wsX12_goSeasons_r3)) ++ wsX120)
def wsX12_judge_r1 : List Cond := [Cond.fieldLink RX12 116 "SealStraitModel" "reason" "I", Cond.methodLink RX12 53 yX12_in, Cond.static yX12_in, Cond.initialized RX12, Cond.code yX12_in cX12_in 3 (some .boolean), Cond.methodLink RX12 73 yX12_faultOf, Cond.instanceMethod yX12_faultOf, Cond.selects RX12 yX12_faultOf yX12_faultOf, Cond.code yX12_faultOf cX12_faultOf 6 (some .int), Cond.fieldLink RX12 69 "SealStraitModel" "signs" "I", Cond.fieldLink RX12 31 "SealStraitModel" "pad" "[I", Cond.methodLink RX12 125 yX12_goSeasons, Cond.instanceMethod yX12_goSeasons, Cond.selects RX12 yX12_goSeasons yX12_goSeasons, Cond.code yX12_goSeasons cX12_goSeasons 4 (some .int), Cond.fieldLink RX12 109 "SealStraitModel" "acts" "I", Cond.methodLink RX12 106 yX12_asNow, Cond.instanceMethod yX12_asNow, Cond.selects RX12 yX12_asNow yX12_asNow, Cond.code yX12_asNow cX12_asNow 2 none, Cond.fieldLink RX12 13 "SealStraitModel" "now" "[I", Cond.fieldLink RX12 7 "SealStraitModel" "book" "[I", Cond.fieldLink RX12 77 "SealStraitModel" "readMany" "I", Cond.fieldLink RX12 80 "SealStraitModel" "signedAll" "I"]
def wsX12_judge_r2 : List Cond := [Cond.methodLink RX12 112 yX12_herdAct, Cond.instanceMethod yX12_herdAct, Cond.selects RX12 yX12_herdAct yX12_herdAct, Cond.code yX12_herdAct cX12_herdAct 4 (some .int), Cond.methodLink RX12 96 yX12_whistle, Cond.instanceMethod yX12_whistle, Cond.selects RX12 yX12_whistle yX12_whistle, Cond.code yX12_whistle cX12_whistle 2 (some .int), Cond.methodLink RX12 83 yX12_stands, Cond.instanceMethod yX12_stands, Cond.selects RX12 yX12_stands yX12_stands, Cond.code yX12_stands cX12_stands 2 (some .boolean), Cond.methodLink RX12 57 yX12_has, Cond.static yX12_has, Cond.code yX12_has cX12_has 2 (some .boolean), Cond.methodLink RX12 92 yX12_cheer, Cond.instanceMethod yX12_cheer, Cond.selects RX12 yX12_cheer yX12_cheer, Cond.code yX12_cheer cX12_cheer 3 none, Cond.methodLink RX12 99 yX12_net, Cond.instanceMethod yX12_net, Cond.selects RX12 yX12_net yX12_net, Cond.code yX12_net cX12_net 2 (some .int), Cond.methodLink RX12 102 yX12_join]
def wsX12_judge_r3 : List Cond := [Cond.instanceMethod yX12_join, Cond.selects RX12 yX12_join yX12_join, Cond.code yX12_join cX12_join 3 (some .int), Cond.methodLink RX12 119 yX12_endMonth, Cond.instanceMethod yX12_endMonth, Cond.selects RX12 yX12_endMonth yX12_endMonth, Cond.code yX12_endMonth cX12_endMonth 2 (some .int), Cond.fieldLink RX12 16 "SealStraitModel" "moults" "[I", Cond.methodLink RX12 122 yX12_read, Cond.instanceMethod yX12_read, Cond.selects RX12 yX12_read yX12_read, Cond.code yX12_read cX12_read 4 (some .int), Cond.fieldLink RX12 19 "SealStraitModel" "words" "[I", Cond.methodLink RX12 89 yX12_signers, Cond.instanceMethod yX12_signers, Cond.selects RX12 yX12_signers yX12_signers, Cond.code yX12_signers cX12_signers 4 (some .int), Cond.methodLink RX12 86 yX12_wouldSign, Cond.instanceMethod yX12_wouldSign, Cond.selects RX12 yX12_wouldSign yX12_wouldSign, Cond.code yX12_wouldSign cX12_wouldSign 3 (some .boolean)]
def wsX12_judge : List Cond := .code yX12_judge cX12_judge 3 (some .int) :: ((wsX12_judge_r1 ++ (wsX12_judge_r2 ++ wsX12_judge_r3)) ++ wsX120)
def wsX12_barOfSeasons_r1 : List Cond := [Cond.methodLink RX12 73 yX12_faultOf, Cond.instanceMethod yX12_faultOf, Cond.selects RX12 yX12_faultOf yX12_faultOf, Cond.initialized RX12, Cond.code yX12_faultOf cX12_faultOf 6 (some .int), Cond.fieldLink RX12 69 "SealStraitModel" "signs" "I", Cond.fieldLink RX12 31 "SealStraitModel" "pad" "[I", Cond.methodLink RX12 53 yX12_in, Cond.static yX12_in, Cond.code yX12_in cX12_in 3 (some .boolean), Cond.methodLink RX12 125 yX12_goSeasons, Cond.instanceMethod yX12_goSeasons, Cond.selects RX12 yX12_goSeasons yX12_goSeasons, Cond.code yX12_goSeasons cX12_goSeasons 4 (some .int), Cond.fieldLink RX12 109 "SealStraitModel" "acts" "I", Cond.fieldLink RX12 116 "SealStraitModel" "reason" "I", Cond.methodLink RX12 106 yX12_asNow, Cond.instanceMethod yX12_asNow, Cond.selects RX12 yX12_asNow yX12_asNow, Cond.code yX12_asNow cX12_asNow 2 none, Cond.fieldLink RX12 13 "SealStraitModel" "now" "[I", Cond.fieldLink RX12 7 "SealStraitModel" "book" "[I", Cond.fieldLink RX12 77 "SealStraitModel" "readMany" "I", Cond.fieldLink RX12 80 "SealStraitModel" "signedAll" "I"]
def wsX12_barOfSeasons_r2 : List Cond := [Cond.methodLink RX12 112 yX12_herdAct, Cond.instanceMethod yX12_herdAct, Cond.selects RX12 yX12_herdAct yX12_herdAct, Cond.code yX12_herdAct cX12_herdAct 4 (some .int), Cond.methodLink RX12 96 yX12_whistle, Cond.instanceMethod yX12_whistle, Cond.selects RX12 yX12_whistle yX12_whistle, Cond.code yX12_whistle cX12_whistle 2 (some .int), Cond.methodLink RX12 83 yX12_stands, Cond.instanceMethod yX12_stands, Cond.selects RX12 yX12_stands yX12_stands, Cond.code yX12_stands cX12_stands 2 (some .boolean), Cond.methodLink RX12 57 yX12_has, Cond.static yX12_has, Cond.code yX12_has cX12_has 2 (some .boolean), Cond.methodLink RX12 92 yX12_cheer, Cond.instanceMethod yX12_cheer, Cond.selects RX12 yX12_cheer yX12_cheer, Cond.code yX12_cheer cX12_cheer 3 none, Cond.methodLink RX12 99 yX12_net, Cond.instanceMethod yX12_net, Cond.selects RX12 yX12_net yX12_net, Cond.code yX12_net cX12_net 2 (some .int), Cond.methodLink RX12 102 yX12_join]
def wsX12_barOfSeasons_r3 : List Cond := [Cond.instanceMethod yX12_join, Cond.selects RX12 yX12_join yX12_join, Cond.code yX12_join cX12_join 3 (some .int), Cond.methodLink RX12 119 yX12_endMonth, Cond.instanceMethod yX12_endMonth, Cond.selects RX12 yX12_endMonth yX12_endMonth, Cond.code yX12_endMonth cX12_endMonth 2 (some .int), Cond.fieldLink RX12 16 "SealStraitModel" "moults" "[I", Cond.methodLink RX12 122 yX12_read, Cond.instanceMethod yX12_read, Cond.selects RX12 yX12_read yX12_read, Cond.code yX12_read cX12_read 4 (some .int), Cond.fieldLink RX12 19 "SealStraitModel" "words" "[I", Cond.methodLink RX12 89 yX12_signers, Cond.instanceMethod yX12_signers, Cond.selects RX12 yX12_signers yX12_signers, Cond.code yX12_signers cX12_signers 4 (some .int), Cond.methodLink RX12 86 yX12_wouldSign, Cond.instanceMethod yX12_wouldSign, Cond.selects RX12 yX12_wouldSign yX12_wouldSign, Cond.code yX12_wouldSign cX12_wouldSign 3 (some .boolean)]
def wsX12_barOfSeasons : List Cond := .code yX12_barOfSeasons cX12_barOfSeasons 1 (some .int) :: ((wsX12_barOfSeasons_r1 ++ (wsX12_barOfSeasons_r2 ++ wsX12_barOfSeasons_r3)) ++ wsX120)
def wsX12_done_r1 : List Cond := [Cond.fieldLink RX12 7 "SealStraitModel" "book" "[I", Cond.fieldLink RX12 13 "SealStraitModel" "now" "[I", Cond.fieldLink RX12 69 "SealStraitModel" "signs" "I", Cond.fieldLink RX12 109 "SealStraitModel" "acts" "I", Cond.methodLink RX12 128 yX12_barOfSeasons, Cond.instanceMethod yX12_barOfSeasons, Cond.selects RX12 yX12_barOfSeasons yX12_barOfSeasons, Cond.initialized RX12, Cond.code yX12_barOfSeasons cX12_barOfSeasons 1 (some .int), Cond.methodLink RX12 73 yX12_faultOf, Cond.instanceMethod yX12_faultOf, Cond.selects RX12 yX12_faultOf yX12_faultOf, Cond.code yX12_faultOf cX12_faultOf 6 (some .int), Cond.fieldLink RX12 31 "SealStraitModel" "pad" "[I", Cond.methodLink RX12 53 yX12_in, Cond.static yX12_in, Cond.code yX12_in cX12_in 3 (some .boolean), Cond.methodLink RX12 125 yX12_goSeasons, Cond.instanceMethod yX12_goSeasons, Cond.selects RX12 yX12_goSeasons yX12_goSeasons, Cond.code yX12_goSeasons cX12_goSeasons 4 (some .int), Cond.fieldLink RX12 116 "SealStraitModel" "reason" "I", Cond.methodLink RX12 106 yX12_asNow, Cond.instanceMethod yX12_asNow]
def wsX12_done_r2 : List Cond := [Cond.selects RX12 yX12_asNow yX12_asNow, Cond.code yX12_asNow cX12_asNow 2 none, Cond.fieldLink RX12 77 "SealStraitModel" "readMany" "I", Cond.fieldLink RX12 80 "SealStraitModel" "signedAll" "I", Cond.methodLink RX12 112 yX12_herdAct, Cond.instanceMethod yX12_herdAct, Cond.selects RX12 yX12_herdAct yX12_herdAct, Cond.code yX12_herdAct cX12_herdAct 4 (some .int), Cond.methodLink RX12 96 yX12_whistle, Cond.instanceMethod yX12_whistle, Cond.selects RX12 yX12_whistle yX12_whistle, Cond.code yX12_whistle cX12_whistle 2 (some .int), Cond.methodLink RX12 83 yX12_stands, Cond.instanceMethod yX12_stands, Cond.selects RX12 yX12_stands yX12_stands, Cond.code yX12_stands cX12_stands 2 (some .boolean), Cond.methodLink RX12 57 yX12_has, Cond.static yX12_has, Cond.code yX12_has cX12_has 2 (some .boolean), Cond.methodLink RX12 92 yX12_cheer, Cond.instanceMethod yX12_cheer, Cond.selects RX12 yX12_cheer yX12_cheer, Cond.code yX12_cheer cX12_cheer 3 none, Cond.methodLink RX12 99 yX12_net]
def wsX12_done_r3 : List Cond := [Cond.instanceMethod yX12_net, Cond.selects RX12 yX12_net yX12_net, Cond.code yX12_net cX12_net 2 (some .int), Cond.methodLink RX12 102 yX12_join, Cond.instanceMethod yX12_join, Cond.selects RX12 yX12_join yX12_join, Cond.code yX12_join cX12_join 3 (some .int), Cond.methodLink RX12 119 yX12_endMonth, Cond.instanceMethod yX12_endMonth, Cond.selects RX12 yX12_endMonth yX12_endMonth, Cond.code yX12_endMonth cX12_endMonth 2 (some .int), Cond.fieldLink RX12 16 "SealStraitModel" "moults" "[I", Cond.methodLink RX12 122 yX12_read, Cond.instanceMethod yX12_read, Cond.selects RX12 yX12_read yX12_read, Cond.code yX12_read cX12_read 4 (some .int), Cond.fieldLink RX12 19 "SealStraitModel" "words" "[I", Cond.methodLink RX12 89 yX12_signers, Cond.instanceMethod yX12_signers, Cond.selects RX12 yX12_signers yX12_signers, Cond.code yX12_signers cX12_signers 4 (some .int), Cond.methodLink RX12 86 yX12_wouldSign, Cond.instanceMethod yX12_wouldSign, Cond.selects RX12 yX12_wouldSign yX12_wouldSign]
def wsX12_done_r4 : List Cond := [Cond.code yX12_wouldSign cX12_wouldSign 3 (some .boolean)]
def wsX12_done : List Cond := .code yX12_done cX12_done 2 (some .int) :: ((wsX12_done_r1 ++ (wsX12_done_r2 ++ (wsX12_done_r3 ++ wsX12_done_r4))) ++ wsX120)
def wsX12_behind_r1 : List Cond := [Cond.fieldLink RX12 13 "SealStraitModel" "now" "[I", Cond.methodLink RX12 131 yX12_isThere, Cond.instanceMethod yX12_isThere, Cond.selects RX12 yX12_isThere yX12_isThere, Cond.initialized RX12, Cond.code yX12_isThere cX12_isThere 2 (some .boolean), Cond.fieldLink RX12 7 "SealStraitModel" "book" "[I", Cond.methodLink RX12 53 yX12_in, Cond.static yX12_in, Cond.code yX12_in cX12_in 3 (some .boolean), Cond.methodLink RX12 57 yX12_has, Cond.static yX12_has, Cond.code yX12_has cX12_has 2 (some .boolean), Cond.methodLink RX12 128 yX12_barOfSeasons, Cond.instanceMethod yX12_barOfSeasons, Cond.selects RX12 yX12_barOfSeasons yX12_barOfSeasons, Cond.code yX12_barOfSeasons cX12_barOfSeasons 1 (some .int), Cond.methodLink RX12 73 yX12_faultOf, Cond.instanceMethod yX12_faultOf, Cond.selects RX12 yX12_faultOf yX12_faultOf, Cond.code yX12_faultOf cX12_faultOf 6 (some .int), Cond.fieldLink RX12 69 "SealStraitModel" "signs" "I", Cond.fieldLink RX12 31 "SealStraitModel" "pad" "[I", Cond.methodLink RX12 125 yX12_goSeasons]
def wsX12_behind_r2 : List Cond := [Cond.instanceMethod yX12_goSeasons, Cond.selects RX12 yX12_goSeasons yX12_goSeasons, Cond.code yX12_goSeasons cX12_goSeasons 4 (some .int), Cond.fieldLink RX12 109 "SealStraitModel" "acts" "I", Cond.fieldLink RX12 116 "SealStraitModel" "reason" "I", Cond.methodLink RX12 106 yX12_asNow, Cond.instanceMethod yX12_asNow, Cond.selects RX12 yX12_asNow yX12_asNow, Cond.code yX12_asNow cX12_asNow 2 none, Cond.fieldLink RX12 77 "SealStraitModel" "readMany" "I", Cond.fieldLink RX12 80 "SealStraitModel" "signedAll" "I", Cond.methodLink RX12 112 yX12_herdAct, Cond.instanceMethod yX12_herdAct, Cond.selects RX12 yX12_herdAct yX12_herdAct, Cond.code yX12_herdAct cX12_herdAct 4 (some .int), Cond.methodLink RX12 96 yX12_whistle, Cond.instanceMethod yX12_whistle, Cond.selects RX12 yX12_whistle yX12_whistle, Cond.code yX12_whistle cX12_whistle 2 (some .int), Cond.methodLink RX12 83 yX12_stands, Cond.instanceMethod yX12_stands, Cond.selects RX12 yX12_stands yX12_stands, Cond.code yX12_stands cX12_stands 2 (some .boolean), Cond.methodLink RX12 92 yX12_cheer]
def wsX12_behind_r3 : List Cond := [Cond.instanceMethod yX12_cheer, Cond.selects RX12 yX12_cheer yX12_cheer, Cond.code yX12_cheer cX12_cheer 3 none, Cond.methodLink RX12 99 yX12_net, Cond.instanceMethod yX12_net, Cond.selects RX12 yX12_net yX12_net, Cond.code yX12_net cX12_net 2 (some .int), Cond.methodLink RX12 102 yX12_join, Cond.instanceMethod yX12_join, Cond.selects RX12 yX12_join yX12_join, Cond.code yX12_join cX12_join 3 (some .int), Cond.methodLink RX12 119 yX12_endMonth, Cond.instanceMethod yX12_endMonth, Cond.selects RX12 yX12_endMonth yX12_endMonth, Cond.code yX12_endMonth cX12_endMonth 2 (some .int), Cond.fieldLink RX12 16 "SealStraitModel" "moults" "[I", Cond.methodLink RX12 122 yX12_read, Cond.instanceMethod yX12_read, Cond.selects RX12 yX12_read yX12_read, Cond.code yX12_read cX12_read 4 (some .int), Cond.fieldLink RX12 19 "SealStraitModel" "words" "[I", Cond.methodLink RX12 89 yX12_signers, Cond.instanceMethod yX12_signers, Cond.selects RX12 yX12_signers yX12_signers]
def wsX12_behind_r4 : List Cond := [Cond.code yX12_signers cX12_signers 4 (some .int), Cond.methodLink RX12 86 yX12_wouldSign, Cond.instanceMethod yX12_wouldSign, Cond.selects RX12 yX12_wouldSign yX12_wouldSign, Cond.code yX12_wouldSign cX12_wouldSign 3 (some .boolean)]
def wsX12_behind : List Cond := .code yX12_behind cX12_behind 3 (some .int) :: ((wsX12_behind_r1 ++ (wsX12_behind_r2 ++ (wsX12_behind_r3 ++ wsX12_behind_r4))) ++ wsX120)
def wsX12_headsBeyond : List Cond := .code yX12_headsBeyond cX12_headsBeyond 3 (some .int) :: ([.fieldLink RX12 13 "SealStraitModel" "now" "[I", .methodLink RX12 83 yX12_stands, .instanceMethod yX12_stands, .selects RX12 yX12_stands yX12_stands, .initialized RX12, .code yX12_stands cX12_stands 2 (some .boolean), .methodLink RX12 53 yX12_in, .static yX12_in, .code yX12_in cX12_in 3 (some .boolean), .methodLink RX12 57 yX12_has, .static yX12_has, .code yX12_has cX12_has 2 (some .boolean)] ++ wsX120)
def wsX12_then_r1 : List Cond := [Cond.fieldLink RX12 13 "SealStraitModel" "now" "[I", Cond.fieldLink RX12 77 "SealStraitModel" "readMany" "I", Cond.fieldLink RX12 80 "SealStraitModel" "signedAll" "I", Cond.fieldLink RX12 7 "SealStraitModel" "book" "[I", Cond.methodLink RX12 53 yX12_in, Cond.static yX12_in, Cond.initialized RX12, Cond.code yX12_in cX12_in 3 (some .boolean), Cond.methodLink RX12 128 yX12_barOfSeasons, Cond.instanceMethod yX12_barOfSeasons, Cond.selects RX12 yX12_barOfSeasons yX12_barOfSeasons, Cond.code yX12_barOfSeasons cX12_barOfSeasons 1 (some .int), Cond.methodLink RX12 73 yX12_faultOf, Cond.instanceMethod yX12_faultOf, Cond.selects RX12 yX12_faultOf yX12_faultOf, Cond.code yX12_faultOf cX12_faultOf 6 (some .int), Cond.fieldLink RX12 69 "SealStraitModel" "signs" "I", Cond.fieldLink RX12 31 "SealStraitModel" "pad" "[I", Cond.methodLink RX12 125 yX12_goSeasons, Cond.instanceMethod yX12_goSeasons, Cond.selects RX12 yX12_goSeasons yX12_goSeasons, Cond.code yX12_goSeasons cX12_goSeasons 4 (some .int), Cond.fieldLink RX12 109 "SealStraitModel" "acts" "I", Cond.fieldLink RX12 116 "SealStraitModel" "reason" "I"]
def wsX12_then_r2 : List Cond := [Cond.methodLink RX12 106 yX12_asNow, Cond.instanceMethod yX12_asNow, Cond.selects RX12 yX12_asNow yX12_asNow, Cond.code yX12_asNow cX12_asNow 2 none, Cond.methodLink RX12 112 yX12_herdAct, Cond.instanceMethod yX12_herdAct, Cond.selects RX12 yX12_herdAct yX12_herdAct, Cond.code yX12_herdAct cX12_herdAct 4 (some .int), Cond.methodLink RX12 96 yX12_whistle, Cond.instanceMethod yX12_whistle, Cond.selects RX12 yX12_whistle yX12_whistle, Cond.code yX12_whistle cX12_whistle 2 (some .int), Cond.methodLink RX12 83 yX12_stands, Cond.instanceMethod yX12_stands, Cond.selects RX12 yX12_stands yX12_stands, Cond.code yX12_stands cX12_stands 2 (some .boolean), Cond.methodLink RX12 57 yX12_has, Cond.static yX12_has, Cond.code yX12_has cX12_has 2 (some .boolean), Cond.methodLink RX12 92 yX12_cheer, Cond.instanceMethod yX12_cheer, Cond.selects RX12 yX12_cheer yX12_cheer, Cond.code yX12_cheer cX12_cheer 3 none, Cond.methodLink RX12 99 yX12_net]
def wsX12_then_r3 : List Cond := [Cond.instanceMethod yX12_net, Cond.selects RX12 yX12_net yX12_net, Cond.code yX12_net cX12_net 2 (some .int), Cond.methodLink RX12 102 yX12_join, Cond.instanceMethod yX12_join, Cond.selects RX12 yX12_join yX12_join, Cond.code yX12_join cX12_join 3 (some .int), Cond.methodLink RX12 119 yX12_endMonth, Cond.instanceMethod yX12_endMonth, Cond.selects RX12 yX12_endMonth yX12_endMonth, Cond.code yX12_endMonth cX12_endMonth 2 (some .int), Cond.fieldLink RX12 16 "SealStraitModel" "moults" "[I", Cond.methodLink RX12 122 yX12_read, Cond.instanceMethod yX12_read, Cond.selects RX12 yX12_read yX12_read, Cond.code yX12_read cX12_read 4 (some .int), Cond.fieldLink RX12 19 "SealStraitModel" "words" "[I", Cond.methodLink RX12 89 yX12_signers, Cond.instanceMethod yX12_signers, Cond.selects RX12 yX12_signers yX12_signers, Cond.code yX12_signers cX12_signers 4 (some .int), Cond.methodLink RX12 86 yX12_wouldSign, Cond.instanceMethod yX12_wouldSign, Cond.selects RX12 yX12_wouldSign yX12_wouldSign]
def wsX12_then_r4 : List Cond := [Cond.code yX12_wouldSign cX12_wouldSign 3 (some .boolean), Cond.methodLink RX12 134 yX12_headsBeyond, Cond.instanceMethod yX12_headsBeyond, Cond.selects RX12 yX12_headsBeyond yX12_headsBeyond, Cond.code yX12_headsBeyond cX12_headsBeyond 3 (some .int)]
def wsX12_then : List Cond := .code yX12_then cX12_then 2 (some .int) :: ((wsX12_then_r1 ++ (wsX12_then_r2 ++ (wsX12_then_r3 ++ wsX12_then_r4))) ++ wsX120)
def wsX12_who_r1 : List Cond := [Cond.methodLink RX12 106 yX12_asNow, Cond.instanceMethod yX12_asNow, Cond.selects RX12 yX12_asNow yX12_asNow, Cond.initialized RX12, Cond.code yX12_asNow cX12_asNow 2 none, Cond.fieldLink RX12 13 "SealStraitModel" "now" "[I", Cond.fieldLink RX12 7 "SealStraitModel" "book" "[I", Cond.fieldLink RX12 77 "SealStraitModel" "readMany" "I", Cond.fieldLink RX12 80 "SealStraitModel" "signedAll" "I", Cond.methodLink RX12 65 yX12_isClause, Cond.static yX12_isClause, Cond.code yX12_isClause cX12_isClause 1 (some .boolean), Cond.methodLink RX12 53 yX12_in, Cond.static yX12_in, Cond.code yX12_in cX12_in 3 (some .boolean), Cond.methodLink RX12 89 yX12_signers, Cond.instanceMethod yX12_signers, Cond.selects RX12 yX12_signers yX12_signers, Cond.code yX12_signers cX12_signers 4 (some .int), Cond.methodLink RX12 86 yX12_wouldSign, Cond.instanceMethod yX12_wouldSign, Cond.selects RX12 yX12_wouldSign yX12_wouldSign, Cond.code yX12_wouldSign cX12_wouldSign 3 (some .boolean), Cond.fieldLink RX12 16 "SealStraitModel" "moults" "[I"]
def wsX12_who_r2 : List Cond := [Cond.fieldLink RX12 19 "SealStraitModel" "words" "[I", Cond.methodLink RX12 83 yX12_stands, Cond.instanceMethod yX12_stands, Cond.selects RX12 yX12_stands yX12_stands, Cond.code yX12_stands cX12_stands 2 (some .boolean), Cond.methodLink RX12 57 yX12_has, Cond.static yX12_has, Cond.code yX12_has cX12_has 2 (some .boolean)]
def wsX12_who : List Cond := .code yX12_who cX12_who 2 (some .int) :: ((wsX12_who_r1 ++ wsX12_who_r2) ++ wsX120)
def wsX12_heard : List Cond := .code yX12_heard cX12_heard 6 (some .int) :: ([.fieldLink RX12 13 "SealStraitModel" "now" "[I", .fieldLink RX12 16 "SealStraitModel" "moults" "[I", .fieldLink RX12 19 "SealStraitModel" "words" "[I"] ++ wsX120)
def wsX12_bring_r1 : List Cond := [Cond.fieldLink RX12 34 "SealStraitModel" "reached" "[I", Cond.fieldLink RX12 13 "SealStraitModel" "now" "[I", Cond.fieldLink RX12 37 "SealStraitModel" "queue" "[I", Cond.methodLink RX12 131 yX12_isThere, Cond.instanceMethod yX12_isThere, Cond.selects RX12 yX12_isThere yX12_isThere, Cond.initialized RX12, Cond.code yX12_isThere cX12_isThere 2 (some .boolean), Cond.fieldLink RX12 7 "SealStraitModel" "book" "[I", Cond.methodLink RX12 53 yX12_in, Cond.static yX12_in, Cond.code yX12_in cX12_in 3 (some .boolean), Cond.methodLink RX12 57 yX12_has, Cond.static yX12_has, Cond.code yX12_has cX12_has 2 (some .boolean), Cond.methodLink RX12 106 yX12_asNow, Cond.instanceMethod yX12_asNow, Cond.selects RX12 yX12_asNow yX12_asNow, Cond.code yX12_asNow cX12_asNow 2 none, Cond.fieldLink RX12 77 "SealStraitModel" "readMany" "I", Cond.fieldLink RX12 80 "SealStraitModel" "signedAll" "I", Cond.methodLink RX12 137 yX12_heard, Cond.instanceMethod yX12_heard, Cond.selects RX12 yX12_heard yX12_heard]
def wsX12_bring_r2 : List Cond := [Cond.code yX12_heard cX12_heard 6 (some .int), Cond.fieldLink RX12 16 "SealStraitModel" "moults" "[I", Cond.fieldLink RX12 19 "SealStraitModel" "words" "[I"]
def wsX12_bring : List Cond := .code yX12_bring cX12_bring 13 (some .int) :: ((wsX12_bring_r1 ++ wsX12_bring_r2) ++ wsX120)
def wsX12_drop : List Cond := .code yX12_drop cX12_drop 7 (some .int) :: ([.fieldLink RX12 22 "SealStraitModel" "clashes" "[I", .methodLink RX12 53 yX12_in, .static yX12_in, .initialized RX12, .code yX12_in cX12_in 3 (some .boolean), .methodLink RX12 61 yX12_bits, .static yX12_bits, .code yX12_bits cX12_bits 3 (some .int), .methodLink RX12 57 yX12_has, .static yX12_has, .code yX12_has cX12_has 2 (some .boolean)] ++ wsX120)
def wsX12_share : List Cond := .code yX12_share cX12_share 7 (some .int) :: ([.fieldLink RX12 40 "SealStraitModel" "got" "[I", .fieldLink RX12 7 "SealStraitModel" "book" "[I", .methodLink RX12 131 yX12_isThere, .instanceMethod yX12_isThere, .selects RX12 yX12_isThere yX12_isThere, .initialized RX12, .code yX12_isThere cX12_isThere 2 (some .boolean), .methodLink RX12 53 yX12_in, .static yX12_in, .code yX12_in cX12_in 3 (some .boolean), .methodLink RX12 57 yX12_has, .static yX12_has, .code yX12_has cX12_has 2 (some .boolean)] ++ wsX120)
def wsX12_lowest : List Cond := .code yX12_lowest cX12_lowest 11 (some .long) :: ([])
def wsX12_layWait : List Cond := .code yX12_layWait cX12_layWait 7 none :: ([.fieldLink RX12 140 "SealStraitModel" "waitUp" "J", .fieldLink RX12 144 "SealStraitModel" "waitLow" "J"] ++ wsX120)
def wsX12_waiting : List Cond := .code yX12_waiting cX12_waiting 4 (some .long) :: ([.constantLong RX12 147 (-1000000000000000002), .fieldLink RX12 140 "SealStraitModel" "waitUp" "J", .fieldLink RX12 144 "SealStraitModel" "waitLow" "J", .methodLink RX12 53 yX12_in, .static yX12_in, .initialized RX12, .code yX12_in cX12_in 3 (some .boolean), .methodLink RX12 149 yX12_layWait, .instanceMethod yX12_layWait, .selects RX12 yX12_layWait yX12_layWait, .code yX12_layWait cX12_layWait 7 none, .methodLink RX12 152 yX12_lowest, .static yX12_lowest, .code yX12_lowest cX12_lowest 11 (some .long)] ++ wsX120)
def wsX12_reads : List Cond := .code yX12_reads cX12_reads 4 (some .int) :: ([.fieldLink RX12 144 "SealStraitModel" "waitLow" "J", .fieldLink RX12 140 "SealStraitModel" "waitUp" "J", .methodLink RX12 53 yX12_in, .static yX12_in, .initialized RX12, .code yX12_in cX12_in 3 (some .boolean), .methodLink RX12 149 yX12_layWait, .instanceMethod yX12_layWait, .selects RX12 yX12_layWait yX12_layWait, .code yX12_layWait cX12_layWait 7 none] ++ wsX120)
def wsX12_counted : List Cond := .code yX12_counted cX12_counted 3 (some .int) :: ([.fieldLink RX12 156 "SealStraitModel" "counts" "I", .fieldLink RX12 28 "SealStraitModel" "count" "[I", .methodLink RX12 53 yX12_in, .static yX12_in, .initialized RX12, .code yX12_in cX12_in 3 (some .boolean)] ++ wsX120)
def wsX12_forget : List Cond := .code yX12_forget cX12_forget 2 (some .int) :: ([.fieldLink RX12 156 "SealStraitModel" "counts" "I"] ++ wsX120)
def wsX12_wantingOff : List Cond := .code yX12_wantingOff cX12_wantingOff 5 (some .int) :: ([.fieldLink RX12 25 "SealStraitModel" "rocks" "[I", .fieldLink RX12 7 "SealStraitModel" "book" "[I", .methodLink RX12 57 yX12_has, .static yX12_has, .initialized RX12, .code yX12_has cX12_has 2 (some .boolean)] ++ wsX120)
def wsX12_isFit : List Cond := .code yX12_isFit cX12_isFit 4 (some .boolean) :: ([.fieldLink RX12 7 "SealStraitModel" "book" "[I", .fieldLink RX12 156 "SealStraitModel" "counts" "I", .fieldLink RX12 28 "SealStraitModel" "count" "[I", .methodLink RX12 159 yX12_wantingOff, .instanceMethod yX12_wantingOff, .selects RX12 yX12_wantingOff yX12_wantingOff, .initialized RX12, .code yX12_wantingOff cX12_wantingOff 5 (some .int), .fieldLink RX12 25 "SealStraitModel" "rocks" "[I", .methodLink RX12 57 yX12_has, .static yX12_has, .code yX12_has cX12_has 2 (some .boolean)] ++ wsX120)
def wsX12_went : List Cond := .code yX12_went cX12_went 4 (some .int) :: ([.methodLink RX12 162 yX12_isFit, .instanceMethod yX12_isFit, .selects RX12 yX12_isFit yX12_isFit, .initialized RX12, .code yX12_isFit cX12_isFit 4 (some .boolean), .fieldLink RX12 7 "SealStraitModel" "book" "[I", .fieldLink RX12 156 "SealStraitModel" "counts" "I", .fieldLink RX12 28 "SealStraitModel" "count" "[I", .methodLink RX12 159 yX12_wantingOff, .instanceMethod yX12_wantingOff, .selects RX12 yX12_wantingOff yX12_wantingOff, .code yX12_wantingOff cX12_wantingOff 5 (some .int), .fieldLink RX12 25 "SealStraitModel" "rocks" "[I", .methodLink RX12 57 yX12_has, .static yX12_has, .code yX12_has cX12_has 2 (some .boolean)] ++ wsX120)
def wsX12_ask : List Cond := .code yX12_ask cX12_ask 9 (some .int) :: ([.constant RX12 165 (1000000), .methodLink RX12 53 yX12_in, .static yX12_in, .initialized RX12, .code yX12_in cX12_in 3 (some .boolean), .methodLink RX12 162 yX12_isFit, .instanceMethod yX12_isFit, .selects RX12 yX12_isFit yX12_isFit, .code yX12_isFit cX12_isFit 4 (some .boolean), .fieldLink RX12 7 "SealStraitModel" "book" "[I", .fieldLink RX12 156 "SealStraitModel" "counts" "I", .fieldLink RX12 28 "SealStraitModel" "count" "[I", .methodLink RX12 159 yX12_wantingOff, .instanceMethod yX12_wantingOff, .selects RX12 yX12_wantingOff yX12_wantingOff, .code yX12_wantingOff cX12_wantingOff 5 (some .int), .fieldLink RX12 25 "SealStraitModel" "rocks" "[I", .methodLink RX12 57 yX12_has, .static yX12_has, .code yX12_has cX12_has 2 (some .boolean)] ++ wsX120)
def wsX12_turning : List Cond := .code yX12_turning cX12_turning 7 (some .int) :: ([.fieldLink RX12 19 "SealStraitModel" "words" "[I", .fieldLink RX12 43 "SealStraitModel" "wins" "[I", .methodLink RX12 53 yX12_in, .static yX12_in, .initialized RX12, .code yX12_in cX12_in 3 (some .boolean), .methodLink RX12 57 yX12_has, .static yX12_has, .code yX12_has cX12_has 2 (some .boolean)] ++ wsX120)
def wsX12_drift : List Cond := .code yX12_drift cX12_drift 14 (some .long) :: ([.constantLong RX12 147 (-1000000000000000002), .constantLong RX12 166 (10), .methodLink RX12 53 yX12_in, .static yX12_in, .initialized RX12, .code yX12_in cX12_in 3 (some .boolean), .methodLink RX12 152 yX12_lowest, .static yX12_lowest, .code yX12_lowest cX12_lowest 11 (some .long)])
def wsX12_year_r1 : List Cond := [Cond.constant RX12 168 (65537), Cond.fieldLink RX12 116 "SealStraitModel" "reason" "I", Cond.fieldLink RX12 13 "SealStraitModel" "now" "[I", Cond.methodLink RX12 53 yX12_in, Cond.static yX12_in, Cond.initialized RX12, Cond.code yX12_in cX12_in 3 (some .boolean), Cond.methodLink RX12 106 yX12_asNow, Cond.instanceMethod yX12_asNow, Cond.selects RX12 yX12_asNow yX12_asNow, Cond.code yX12_asNow cX12_asNow 2 none, Cond.fieldLink RX12 7 "SealStraitModel" "book" "[I", Cond.fieldLink RX12 77 "SealStraitModel" "readMany" "I", Cond.fieldLink RX12 80 "SealStraitModel" "signedAll" "I", Cond.methodLink RX12 122 yX12_read, Cond.instanceMethod yX12_read, Cond.selects RX12 yX12_read yX12_read, Cond.code yX12_read cX12_read 4 (some .int), Cond.fieldLink RX12 19 "SealStraitModel" "words" "[I", Cond.methodLink RX12 89 yX12_signers, Cond.instanceMethod yX12_signers, Cond.selects RX12 yX12_signers yX12_signers, Cond.code yX12_signers cX12_signers 4 (some .int), Cond.methodLink RX12 86 yX12_wouldSign]
def wsX12_year_r2 : List Cond := [Cond.instanceMethod yX12_wouldSign, Cond.selects RX12 yX12_wouldSign yX12_wouldSign, Cond.code yX12_wouldSign cX12_wouldSign 3 (some .boolean), Cond.fieldLink RX12 16 "SealStraitModel" "moults" "[I", Cond.methodLink RX12 83 yX12_stands, Cond.instanceMethod yX12_stands, Cond.selects RX12 yX12_stands yX12_stands, Cond.code yX12_stands cX12_stands 2 (some .boolean), Cond.methodLink RX12 57 yX12_has, Cond.static yX12_has, Cond.code yX12_has cX12_has 2 (some .boolean), Cond.methodLink RX12 92 yX12_cheer, Cond.instanceMethod yX12_cheer, Cond.selects RX12 yX12_cheer yX12_cheer, Cond.code yX12_cheer cX12_cheer 3 none, Cond.methodLink RX12 96 yX12_whistle, Cond.instanceMethod yX12_whistle, Cond.selects RX12 yX12_whistle yX12_whistle, Cond.code yX12_whistle cX12_whistle 2 (some .int), Cond.methodLink RX12 99 yX12_net, Cond.instanceMethod yX12_net, Cond.selects RX12 yX12_net yX12_net, Cond.code yX12_net cX12_net 2 (some .int), Cond.methodLink RX12 102 yX12_join]
def wsX12_year_r3 : List Cond := [Cond.instanceMethod yX12_join, Cond.selects RX12 yX12_join yX12_join, Cond.code yX12_join cX12_join 3 (some .int), Cond.methodLink RX12 119 yX12_endMonth, Cond.instanceMethod yX12_endMonth, Cond.selects RX12 yX12_endMonth yX12_endMonth, Cond.code yX12_endMonth cX12_endMonth 2 (some .int), Cond.methodLink RX12 134 yX12_headsBeyond, Cond.instanceMethod yX12_headsBeyond, Cond.selects RX12 yX12_headsBeyond yX12_headsBeyond, Cond.code yX12_headsBeyond cX12_headsBeyond 3 (some .int)]
def wsX12_year : List Cond := .code yX12_year cX12_year 8 (some .int) :: ((wsX12_year_r1 ++ (wsX12_year_r2 ++ wsX12_year_r3)) ++ wsX120)
def wsX12_image : List Cond := .code yX12_image cX12_image 4 (some .int) :: ([.fieldLink RX12 46 "SealStraitModel" "image" "[I", .fieldLink RX12 7 "SealStraitModel" "book" "[I", .fieldLink RX12 16 "SealStraitModel" "moults" "[I", .fieldLink RX12 25 "SealStraitModel" "rocks" "[I", .fieldLink RX12 19 "SealStraitModel" "words" "[I", .fieldLink RX12 22 "SealStraitModel" "clashes" "[I", .fieldLink RX12 28 "SealStraitModel" "count" "[I", .fieldLink RX12 156 "SealStraitModel" "counts" "I", .fieldLink RX12 49 "SealStraitModel" "isKept" "[Z", .methodLink RX12 53 yX12_in, .static yX12_in, .initialized RX12, .code yX12_in cX12_in 3 (some .boolean)] ++ wsX120)
def wsX12_restore : List Cond := .code yX12_restore cX12_restore 4 (some .int) :: ([.fieldLink RX12 49 "SealStraitModel" "isKept" "[Z", .fieldLink RX12 7 "SealStraitModel" "book" "[I", .fieldLink RX12 46 "SealStraitModel" "image" "[I", .fieldLink RX12 16 "SealStraitModel" "moults" "[I", .fieldLink RX12 25 "SealStraitModel" "rocks" "[I", .fieldLink RX12 19 "SealStraitModel" "words" "[I", .fieldLink RX12 22 "SealStraitModel" "clashes" "[I", .fieldLink RX12 28 "SealStraitModel" "count" "[I", .fieldLink RX12 156 "SealStraitModel" "counts" "I", .methodLink RX12 53 yX12_in, .static yX12_in, .initialized RX12, .code yX12_in cX12_in 3 (some .boolean)] ++ wsX120)
def wsX12_told : List Cond := .code yX12_told cX12_told 4 (some .int) :: ([.fieldLink RX12 16 "SealStraitModel" "moults" "[I", .fieldLink RX12 7 "SealStraitModel" "book" "[I", .fieldLink RX12 25 "SealStraitModel" "rocks" "[I", .fieldLink RX12 19 "SealStraitModel" "words" "[I", .fieldLink RX12 22 "SealStraitModel" "clashes" "[I", .fieldLink RX12 69 "SealStraitModel" "signs" "I", .fieldLink RX12 156 "SealStraitModel" "counts" "I", .methodLink RX12 131 yX12_isThere, .instanceMethod yX12_isThere, .selects RX12 yX12_isThere yX12_isThere, .initialized RX12, .code yX12_isThere cX12_isThere 2 (some .boolean), .methodLink RX12 53 yX12_in, .static yX12_in, .code yX12_in cX12_in 3 (some .boolean), .methodLink RX12 57 yX12_has, .static yX12_has, .code yX12_has cX12_has 2 (some .boolean)] ++ wsX120)
def wsJ9_max_7cf53 : List Cond := .code yJ9_max_7cf53 cJ9_max_7cf53 2 (some .int) :: ([])
def wsJ9_max_f86c9 : List Cond := .code yJ9_max_f86c9 cJ9_max_f86c9 4 (some .long) :: ([])
def wsJ9_min_7cf53 : List Cond := .code yJ9_min_7cf53 cJ9_min_7cf53 2 (some .int) :: ([])
def wsL_law_r1 : List Cond := [Cond.classLink RL 7 RX11, Cond.instantiable RX11 11, Cond.initialized RX11, Cond.classLink RL 10 RX12, Cond.instantiable RX12 22, Cond.initialized RX12, Cond.methodLink RL 9 yX11_init, Cond.instanceMethod yX11_init, Cond.code yX11_init cX11_init 1 none, Cond.methodLink RX11 3 objectInit, Cond.instanceMethod objectInit, Cond.code objectInit ⟨#[0xb1]⟩ 1 none, Cond.classLink RX11 9 RX8, Cond.instantiable RX8 7, Cond.initialized RX8, Cond.fieldLink RX11 12 "SealStrait" "sea" "LSealStrait$Sea;", Cond.classLink RX11 16 RX9, Cond.instantiable RX9 2, Cond.initialized RX9, Cond.fieldLink RX11 19 "SealStrait" "treaty" "LSealStrait$Treaty;", Cond.classLink RX11 23 RX6, Cond.instantiable RX6 4, Cond.initialized RX6, Cond.fieldLink RX11 26 "SealStrait" "lookout" "LSealStrait$Lookout;"]
def wsL_law_r2 : List Cond := [Cond.classLink RX11 30 RX7, Cond.instantiable RX7 2, Cond.initialized RX7, Cond.fieldLink RX11 33 "SealStrait" "pad" "LSealStrait$Pad;", Cond.classLink RX11 37 RX5, Cond.fieldLink RX11 39 "SealStrait" "images" "[LSealStrait$Image;", Cond.classLink RX11 43 RX10, Cond.instantiable RX10 7, Cond.initialized RX10, Cond.fieldLink RX11 46 "SealStrait" "trial" "LSealStrait$Trial;", Cond.classLink RX11 50 RX1, Cond.instantiable RX1 8, Cond.initialized RX1, Cond.fieldLink RX11 53 "SealStrait" "bringing" "LSealStrait$Bringing;", Cond.classLink RX11 57 RX4, Cond.instantiable RX4 5, Cond.initialized RX4, Cond.fieldLink RX11 60 "SealStrait" "guess" "LSealStrait$Guess;", Cond.classLink RX11 64 RX3, Cond.instantiable RX3 1, Cond.initialized RX3, Cond.fieldLink RX11 67 "SealStrait" "game" "LSealStrait$Game;", Cond.classLink RX11 71 RX2, Cond.instantiable RX2 2]
def wsL_law_r3 : List Cond := [Cond.initialized RX2, Cond.fieldLink RX11 74 "SealStrait" "fraction" "LSealStrait$Fraction;", Cond.arrayClass .int, Cond.fieldLink RX11 78 "SealStrait" "got" "[I", Cond.instanceMethod yX8_init, Cond.code yX8_init cX8_init 1 none, Cond.methodLink RX8 3 objectInit, Cond.fieldLink RX8 9 "SealStrait$Sea" "heads" "[I", Cond.fieldLink RX8 15 "SealStrait$Sea" "sides" "[I", Cond.fieldLink RX8 18 "SealStrait$Sea" "moods" "[I", Cond.fieldLink RX8 21 "SealStrait$Sea" "moults" "[I", Cond.methodLink RX11 18 yX9_init, Cond.instanceMethod yX9_init, Cond.code yX9_init cX9_init 1 none, Cond.methodLink RX9 3 objectInit, Cond.fieldLink RX9 9 "SealStrait$Treaty" "words" "[I", Cond.fieldLink RX9 15 "SealStrait$Treaty" "clashes" "[I", Cond.methodLink RX9 18 yJ7_fill_53178, Cond.static yJ7_fill_53178, Cond.initialized RJ7, Cond.code yJ7_fill_53178 cJ7_fill_53178 4 none, Cond.methodLink RX11 25 yX6_init, Cond.instanceMethod yX6_init, Cond.code yX6_init cX6_init 1 none]
def wsL_law_r4 : List Cond := [Cond.methodLink RX6 3 objectInit, Cond.fieldLink RX6 9 "SealStrait$Lookout" "seen" "[I", Cond.fieldLink RX6 15 "SealStrait$Lookout" "countRocks" "[I", Cond.fieldLink RX6 18 "SealStrait$Lookout" "countWantings" "[I", Cond.methodLink RX6 21 yJ7_fill_53178, Cond.instanceMethod yX7_init, Cond.code yX7_init cX7_init 1 none, Cond.methodLink RX7 3 objectInit, Cond.fieldLink RX7 11 "SealStrait$Pad" "signs" "[I", Cond.instanceMethod yX10_init, Cond.code yX10_init cX10_init 1 none, Cond.methodLink RX10 3 objectInit, Cond.classLink RX10 9 RX8, Cond.fieldLink RX10 12 "SealStrait$Trial" "sea" "LSealStrait$Sea;", Cond.classLink RX10 18 RX0, Cond.instantiable RX0 3, Cond.initialized RX0, Cond.fieldLink RX10 21 "SealStrait$Trial" "act" "LSealStrait$Act;", Cond.instanceMethod yX0_init, Cond.code yX0_init cX0_init 1 none, Cond.methodLink RX0 3 objectInit, Cond.instanceMethod yX1_init, Cond.code yX1_init cX1_init 1 none, Cond.methodLink RX1 5 objectInit]
def wsL_law_r5 : List Cond := [Cond.fieldLink RX1 11 "SealStrait$Bringing" "steps" "[I", Cond.fieldLink RX1 15 "SealStrait$Bringing" "firsts" "[I", Cond.fieldLink RX1 18 "SealStrait$Bringing" "queue" "[I", Cond.instanceMethod yX4_init, Cond.code yX4_init cX4_init 1 none, Cond.methodLink RX4 3 objectInit, Cond.fieldLink RX4 9 "SealStrait$Guess" "sets" "[I", Cond.fieldLink RX4 15 "SealStrait$Guess" "tally" "[I", Cond.instanceMethod yX3_init, Cond.code yX3_init cX3_init 1 none, Cond.methodLink RX3 3 objectInit, Cond.arrayClass .boolean, Cond.fieldLink RX3 9 "SealStrait$Game" "wins" "[Z", Cond.instanceMethod yX2_init, Cond.code yX2_init cX2_init 1 none, Cond.methodLink RX2 1 objectInit, Cond.fieldLink RX2 7 "SealStrait$Fraction" "lower" "J", Cond.methodLink RL 12 yX12_init, Cond.instanceMethod yX12_init, Cond.code yX12_init cX12_init 2 none, Cond.methodLink RX12 1 objectInit, Cond.fieldLink RX12 7 "SealStraitModel" "book" "[I", Cond.fieldLink RX12 13 "SealStraitModel" "now" "[I", Cond.fieldLink RX12 16 "SealStraitModel" "moults" "[I"]
def wsL_law_r6 : List Cond := [Cond.fieldLink RX12 19 "SealStraitModel" "words" "[I", Cond.fieldLink RX12 22 "SealStraitModel" "clashes" "[I", Cond.fieldLink RX12 25 "SealStraitModel" "rocks" "[I", Cond.fieldLink RX12 28 "SealStraitModel" "count" "[I", Cond.fieldLink RX12 31 "SealStraitModel" "pad" "[I", Cond.fieldLink RX12 34 "SealStraitModel" "reached" "[I", Cond.fieldLink RX12 37 "SealStraitModel" "queue" "[I", Cond.fieldLink RX12 40 "SealStraitModel" "got" "[I", Cond.fieldLink RX12 43 "SealStraitModel" "wins" "[I", Cond.fieldLink RX12 46 "SealStraitModel" "image" "[I", Cond.fieldLink RX12 49 "SealStraitModel" "isKept" "[Z", Cond.methodLink RL 13 yX11_herd, Cond.instanceMethod yX11_herd, Cond.selects RX11 yX11_herd yX11_herd, Cond.code yX11_herd cX11_herd 6 (some .int), Cond.fieldLink RX11 90 "SealStrait$Sea" "there" "I", Cond.methodLink RX11 82 yX11_within, Cond.static yX11_within, Cond.code yX11_within cX11_within 3 (some .boolean), Cond.methodLink RX11 86 yX8_settle, Cond.instanceMethod yX8_settle, Cond.selects RX8 yX8_settle yX8_settle, Cond.code yX8_settle cX8_settle 6 none, Cond.fieldLink RX8 24 "SealStrait$Sea" "there" "I"]
def wsL_law_r7 : List Cond := [Cond.methodLink RX11 94 yJ6_bitCount_0f7a4, Cond.static yJ6_bitCount_0f7a4, Cond.initialized RJ6, Cond.code yJ6_bitCount_0f7a4 cJ6_bitCount_0f7a4 1 (some .int), Cond.constant RJ6 265 (1431655765), Cond.constant RJ6 266 (858993459), Cond.constant RJ6 267 (252645135), Cond.methodLink RL 17 yX12_herd, Cond.instanceMethod yX12_herd, Cond.selects RX12 yX12_herd yX12_herd, Cond.code yX12_herd cX12_herd 6 (some .int), Cond.methodLink RX12 53 yX12_in, Cond.static yX12_in, Cond.code yX12_in cX12_in 3 (some .boolean), Cond.methodLink RX12 61 yX12_bits, Cond.static yX12_bits, Cond.code yX12_bits cX12_bits 3 (some .int), Cond.methodLink RL 18 yX11_clause, Cond.instanceMethod yX11_clause, Cond.selects RX11 yX11_clause yX11_clause, Cond.code yX11_clause cX11_clause 4 (some .int), Cond.fieldLink RX11 100 "SealStrait$Treaty" "words" "[I", Cond.methodLink RL 22 yX12_clause, Cond.instanceMethod yX12_clause]
def wsL_law_r8 : List Cond := [Cond.selects RX12 yX12_clause yX12_clause, Cond.code yX12_clause cX12_clause 4 (some .int), Cond.methodLink RX12 65 yX12_isClause, Cond.static yX12_isClause, Cond.code yX12_isClause cX12_isClause 1 (some .boolean), Cond.methodLink RL 23 yX11_clash, Cond.instanceMethod yX11_clash, Cond.selects RX11 yX11_clash yX11_clash, Cond.code yX11_clash cX11_clash 4 (some .int), Cond.methodLink RX11 103 yX9_setClash, Cond.instanceMethod yX9_setClash, Cond.selects RX9 yX9_setClash yX9_setClash, Cond.code yX9_setClash cX9_setClash 4 none, Cond.methodLink RX11 107 yX9_clashingPairs, Cond.instanceMethod yX9_clashingPairs, Cond.selects RX9 yX9_clashingPairs yX9_clashingPairs, Cond.code yX9_clashingPairs cX9_clashingPairs 3 (some .int), Cond.methodLink RX9 32 yJ6_bitCount_0f7a4, Cond.methodLink RL 27 yX12_clash, Cond.instanceMethod yX12_clash, Cond.selects RX12 yX12_clash yX12_clash, Cond.code yX12_clash cX12_clash 6 (some .int), Cond.methodLink RL 28 yX11_rock, Cond.instanceMethod yX11_rock]
def wsL_law_r9 : List Cond := [Cond.selects RX11 yX11_rock yX11_rock, Cond.code yX11_rock cX11_rock 4 (some .int), Cond.fieldLink RX11 111 "SealStrait$Lookout" "seen" "[I", Cond.methodLink RL 31 yX12_rock, Cond.instanceMethod yX12_rock, Cond.selects RX12 yX12_rock yX12_rock, Cond.code yX12_rock cX12_rock 4 (some .int), Cond.methodLink RL 32 yX11_say, Cond.instanceMethod yX11_say, Cond.selects RX11 yX11_say yX11_say, Cond.code yX11_say cX11_say 2 (some .int), Cond.fieldLink RX11 118 "SealStrait$Pad" "size" "I", Cond.methodLink RX11 114 yX7_write, Cond.instanceMethod yX7_write, Cond.selects RX7 yX7_write yX7_write, Cond.code yX7_write cX7_write 2 (some .boolean), Cond.fieldLink RX7 15 "SealStrait$Pad" "size" "I", Cond.methodLink RL 36 yX12_say, Cond.instanceMethod yX12_say, Cond.selects RX12 yX12_say yX12_say, Cond.code yX12_say cX12_say 2 (some .int), Cond.fieldLink RX12 69 "SealStraitModel" "signs" "I", Cond.methodLink RL 37 yX11_wipe, Cond.instanceMethod yX11_wipe]
def wsL_law_r10 : List Cond := [Cond.selects RX11 yX11_wipe yX11_wipe, Cond.code yX11_wipe cX11_wipe 2 (some .int), Cond.methodLink RL 41 yX12_wipe, Cond.instanceMethod yX12_wipe, Cond.selects RX12 yX12_wipe yX12_wipe, Cond.code yX12_wipe cX12_wipe 2 (some .int), Cond.methodLink RL 42 yX11_fault, Cond.instanceMethod yX11_fault, Cond.selects RX11 yX11_fault yX11_fault, Cond.code yX11_fault cX11_fault 1 (some .int), Cond.methodLink RX11 121 yX7_faultPlace, Cond.instanceMethod yX7_faultPlace, Cond.selects RX7 yX7_faultPlace yX7_faultPlace, Cond.code yX7_faultPlace cX7_faultPlace 3 (some .int), Cond.methodLink RX7 19 yX7_awaitedBehind, Cond.static yX7_awaitedBehind, Cond.code yX7_awaitedBehind cX7_awaitedBehind 2 (some .int), Cond.methodLink RX7 23 yX7_isHerd, Cond.static yX7_isHerd, Cond.code yX7_isHerd cX7_isHerd 1 (some .boolean), Cond.methodLink RX7 27 yX7_isClause, Cond.static yX7_isClause, Cond.code yX7_isClause cX7_isClause 1 (some .boolean), Cond.methodLink RL 45 yX12_fault]
def wsL_law_r11 : List Cond := [Cond.instanceMethod yX12_fault, Cond.selects RX12 yX12_fault yX12_fault, Cond.code yX12_fault cX12_fault 1 (some .int), Cond.methodLink RX12 73 yX12_faultOf, Cond.instanceMethod yX12_faultOf, Cond.selects RX12 yX12_faultOf yX12_faultOf, Cond.code yX12_faultOf cX12_faultOf 6 (some .int), Cond.methodLink RL 46 yX11_judge, Cond.instanceMethod yX11_judge, Cond.selects RX11 yX11_judge yX11_judge, Cond.code yX11_judge cX11_judge 2 (some .int), Cond.fieldLink RX11 128 "SealStrait$Trial" "isFaulty" "Z", Cond.fieldLink RX11 132 "SealStrait$Trial" "why" "I", Cond.fieldLink RX11 135 "SealStrait$Trial" "acts" "I", Cond.methodLink RX11 124 yX10_run, Cond.instanceMethod yX10_run, Cond.selects RX10 yX10_run yX10_run, Cond.code yX10_run cX10_run 6 none, Cond.fieldLink RX10 31 "SealStrait$Pad" "size" "I", Cond.fieldLink RX10 35 "SealStrait$Trial" "isFaulty" "Z", Cond.fieldLink RX10 47 "SealStrait$Trial" "why" "I", Cond.fieldLink RX10 58 "SealStrait$Trial" "acts" "I", Cond.methodLink RX10 25 yX10_begin, Cond.instanceMethod yX10_begin]
def wsL_law_r12 : List Cond := [Cond.selects RX10 yX10_begin yX10_begin, Cond.code yX10_begin cX10_begin 3 none, Cond.fieldLink RX10 69 "SealStrait$Trial" "readings" "I", Cond.fieldLink RX10 72 "SealStrait$Sea" "there" "I", Cond.fieldLink RX10 75 "SealStrait$Trial" "signedAll" "I", Cond.methodLink RX10 61 yX8_copyFrom, Cond.instanceMethod yX8_copyFrom, Cond.selects RX8 yX8_copyFrom yX8_copyFrom, Cond.code yX8_copyFrom cX8_copyFrom 3 none, Cond.fieldLink RX8 28 "SealStrait$Sea" "month" "I", Cond.fieldLink RX8 31 "SealStrait$Sea" "lost" "I", Cond.methodLink RX10 65 yX7_faultPlace, Cond.methodLink RX10 39 yX0_takeFrom, Cond.instanceMethod yX0_takeFrom, Cond.selects RX0 yX0_takeFrom yX0_takeFrom, Cond.code yX0_takeFrom cX0_takeFrom 5 (some .int), Cond.methodLink RX0 21 yX7_signAt, Cond.instanceMethod yX7_signAt, Cond.selects RX7 yX7_signAt yX7_signAt, Cond.code yX7_signAt cX7_signAt 2 (some .int), Cond.methodLink RX0 27 yX7_isHerd, Cond.methodLink RX0 31 yX0_set, Cond.instanceMethod yX0_set, Cond.selects RX0 yX0_set yX0_set]
def wsL_law_r13 : List Cond := [Cond.code yX0_set cX0_set 4 none, Cond.fieldLink RX0 9 "SealStrait$Act" "kind" "I", Cond.fieldLink RX0 15 "SealStrait$Act" "one" "I", Cond.fieldLink RX0 18 "SealStrait$Act" "other" "I", Cond.methodLink RX10 43 yX8_whyNot, Cond.instanceMethod yX8_whyNot, Cond.selects RX8 yX8_whyNot yX8_whyNot, Cond.code yX8_whyNot cX8_whyNot 3 (some .int), Cond.fieldLink RX8 49 "SealStrait$Act" "kind" "I", Cond.fieldLink RX8 54 "SealStrait$Act" "one" "I", Cond.fieldLink RX8 72 "SealStrait$Act" "other" "I", Cond.methodLink RX8 57 yX9_wordsOf, Cond.instanceMethod yX9_wordsOf, Cond.selects RX9 yX9_wordsOf yX9_wordsOf, Cond.code yX9_wordsOf cX9_wordsOf 2 (some .int), Cond.methodLink RX8 63 yX8_signers, Cond.instanceMethod yX8_signers, Cond.selects RX8 yX8_signers yX8_signers, Cond.code yX8_signers cX8_signers 4 (some .int), Cond.methodLink RX8 42 yX8_listens, Cond.instanceMethod yX8_listens, Cond.selects RX8 yX8_listens yX8_listens, Cond.code yX8_listens cX8_listens 2 (some .boolean), Cond.methodLink RX8 38 yX8_isThere]
def wsL_law_r14 : List Cond := [Cond.instanceMethod yX8_isThere, Cond.selects RX8 yX8_isThere yX8_isThere, Cond.code yX8_isThere cX8_isThere 2 (some .boolean), Cond.methodLink RX8 66 yX8_whyNoWhistle, Cond.instanceMethod yX8_whyNoWhistle, Cond.selects RX8 yX8_whyNoWhistle yX8_whyNoWhistle, Cond.code yX8_whyNoWhistle cX8_whyNoWhistle 2 (some .int), Cond.methodLink RX8 69 yX8_whyNoNet, Cond.instanceMethod yX8_whyNoNet, Cond.selects RX8 yX8_whyNoNet yX8_whyNoNet, Cond.code yX8_whyNoNet cX8_whyNoNet 2 (some .int), Cond.methodLink RX8 75 yX8_whyNoJoining, Cond.instanceMethod yX8_whyNoJoining, Cond.selects RX8 yX8_whyNoJoining yX8_whyNoJoining, Cond.code yX8_whyNoJoining cX8_whyNoJoining 3 (some .int), Cond.methodLink RX10 50 yX10_noteReading, Cond.instanceMethod yX10_noteReading, Cond.selects RX10 yX10_noteReading yX10_noteReading, Cond.code yX10_noteReading cX10_noteReading 2 none, Cond.fieldLink RX10 78 "SealStrait$Act" "kind" "I", Cond.fieldLink RX10 81 "SealStrait$Act" "one" "I", Cond.methodLink RX10 84 yX9_wordsOf, Cond.methodLink RX10 90 yX8_signers, Cond.methodLink RX10 54 yX8_perform]
def wsL_law_r15 : List Cond := [Cond.instanceMethod yX8_perform, Cond.selects RX8 yX8_perform yX8_perform, Cond.code yX8_perform cX8_perform 3 none, Cond.methodLink RX8 79 yX8_readAloud, Cond.instanceMethod yX8_readAloud, Cond.selects RX8 yX8_readAloud yX8_readAloud, Cond.code yX8_readAloud cX8_readAloud 4 none, Cond.static yX11_has, Cond.code yX11_has cX11_has 2 (some .boolean), Cond.methodLink RX8 83 yX8_cheer, Cond.instanceMethod yX8_cheer, Cond.selects RX8 yX8_cheer yX8_cheer, Cond.code yX8_cheer cX8_cheer 3 none, Cond.methodLink RX8 96 Lib.Math.min.name, Cond.static Lib.Math.min.name, Cond.initialized "java/lang/Math", Cond.code Lib.Math.min.name Lib.Math.min.code 2 (some .int), Cond.methodLink RX8 87 yX8_takeNet, Cond.instanceMethod yX8_takeNet, Cond.selects RX8 yX8_takeNet yX8_takeNet, Cond.code yX8_takeNet cX8_takeNet 2 none, Cond.methodLink RX8 90 yX8_joinTo, Cond.instanceMethod yX8_joinTo, Cond.selects RX8 yX8_joinTo yX8_joinTo]
def wsL_law_r16 : List Cond := [Cond.code yX8_joinTo cX8_joinTo 3 none, Cond.methodLink RX8 93 yX8_passMonth, Cond.instanceMethod yX8_passMonth, Cond.selects RX8 yX8_passMonth yX8_passMonth, Cond.code yX8_passMonth cX8_passMonth 2 none, Cond.methodLink RL 49 yX12_judge, Cond.instanceMethod yX12_judge, Cond.selects RX12 yX12_judge yX12_judge, Cond.code yX12_judge cX12_judge 3 (some .int), Cond.fieldLink RX12 116 "SealStraitModel" "reason" "I", Cond.methodLink RX12 125 yX12_goSeasons, Cond.instanceMethod yX12_goSeasons, Cond.selects RX12 yX12_goSeasons yX12_goSeasons, Cond.code yX12_goSeasons cX12_goSeasons 4 (some .int), Cond.fieldLink RX12 109 "SealStraitModel" "acts" "I", Cond.methodLink RX12 106 yX12_asNow, Cond.instanceMethod yX12_asNow, Cond.selects RX12 yX12_asNow yX12_asNow, Cond.code yX12_asNow cX12_asNow 2 none, Cond.fieldLink RX12 77 "SealStraitModel" "readMany" "I", Cond.fieldLink RX12 80 "SealStraitModel" "signedAll" "I", Cond.methodLink RX12 112 yX12_herdAct, Cond.instanceMethod yX12_herdAct, Cond.selects RX12 yX12_herdAct yX12_herdAct]
def wsL_law_r17 : List Cond := [Cond.code yX12_herdAct cX12_herdAct 4 (some .int), Cond.methodLink RX12 96 yX12_whistle, Cond.instanceMethod yX12_whistle, Cond.selects RX12 yX12_whistle yX12_whistle, Cond.code yX12_whistle cX12_whistle 2 (some .int), Cond.methodLink RX12 83 yX12_stands, Cond.instanceMethod yX12_stands, Cond.selects RX12 yX12_stands yX12_stands, Cond.code yX12_stands cX12_stands 2 (some .boolean), Cond.methodLink RX12 57 yX12_has, Cond.static yX12_has, Cond.code yX12_has cX12_has 2 (some .boolean), Cond.methodLink RX12 92 yX12_cheer, Cond.instanceMethod yX12_cheer, Cond.selects RX12 yX12_cheer yX12_cheer, Cond.code yX12_cheer cX12_cheer 3 none, Cond.methodLink RX12 99 yX12_net, Cond.instanceMethod yX12_net, Cond.selects RX12 yX12_net yX12_net, Cond.code yX12_net cX12_net 2 (some .int), Cond.methodLink RX12 102 yX12_join, Cond.instanceMethod yX12_join, Cond.selects RX12 yX12_join yX12_join, Cond.code yX12_join cX12_join 3 (some .int)]
def wsL_law_r18 : List Cond := [Cond.methodLink RX12 119 yX12_endMonth, Cond.instanceMethod yX12_endMonth, Cond.selects RX12 yX12_endMonth yX12_endMonth, Cond.code yX12_endMonth cX12_endMonth 2 (some .int), Cond.methodLink RX12 122 yX12_read, Cond.instanceMethod yX12_read, Cond.selects RX12 yX12_read yX12_read, Cond.code yX12_read cX12_read 4 (some .int), Cond.methodLink RX12 89 yX12_signers, Cond.instanceMethod yX12_signers, Cond.selects RX12 yX12_signers yX12_signers, Cond.code yX12_signers cX12_signers 4 (some .int), Cond.methodLink RX12 86 yX12_wouldSign, Cond.instanceMethod yX12_wouldSign, Cond.selects RX12 yX12_wouldSign yX12_wouldSign, Cond.code yX12_wouldSign cX12_wouldSign 3 (some .boolean), Cond.methodLink RL 50 yX11_done, Cond.instanceMethod yX11_done, Cond.selects RX11 yX11_done yX11_done, Cond.code yX11_done cX11_done 1 (some .int), Cond.fieldLink RX11 142 "SealStrait$Trial" "sea" "LSealStrait$Sea;", Cond.methodLink RX11 138 yX10_allCanBe, Cond.instanceMethod yX10_allCanBe, Cond.selects RX10 yX10_allCanBe yX10_allCanBe]
def wsL_law_r19 : List Cond := [Cond.code yX10_allCanBe cX10_allCanBe 1 (some .boolean), Cond.methodLink RX11 143 yX8_copyFrom, Cond.methodLink RL 53 yX12_done, Cond.instanceMethod yX12_done, Cond.selects RX12 yX12_done yX12_done, Cond.code yX12_done cX12_done 2 (some .int), Cond.methodLink RX12 128 yX12_barOfSeasons, Cond.instanceMethod yX12_barOfSeasons, Cond.selects RX12 yX12_barOfSeasons yX12_barOfSeasons, Cond.code yX12_barOfSeasons cX12_barOfSeasons 1 (some .int), Cond.methodLink RL 54 yX11_behind, Cond.instanceMethod yX11_behind, Cond.selects RX11 yX11_behind yX11_behind, Cond.code yX11_behind cX11_behind 3 (some .int), Cond.methodLink RX11 147 yX8_isThere, Cond.methodLink RX11 150 yX8_traitOf, Cond.instanceMethod yX8_traitOf, Cond.selects RX8 yX8_traitOf yX8_traitOf, Cond.code yX8_traitOf cX8_traitOf 3 (some .int), Cond.methodLink RL 57 yX12_behind, Cond.instanceMethod yX12_behind, Cond.selects RX12 yX12_behind yX12_behind, Cond.code yX12_behind cX12_behind 3 (some .int), Cond.methodLink RX12 131 yX12_isThere]
def wsL_law_r20 : List Cond := [Cond.instanceMethod yX12_isThere, Cond.selects RX12 yX12_isThere yX12_isThere, Cond.code yX12_isThere cX12_isThere 2 (some .boolean), Cond.methodLink RL 58 yX11_then, Cond.instanceMethod yX11_then, Cond.selects RX11 yX11_then yX11_then, Cond.code yX11_then cX11_then 2 (some .int), Cond.fieldLink RX11 157 "SealStrait$Sea" "lost" "I", Cond.fieldLink RX11 160 "SealStrait$Sea" "month" "I", Cond.fieldLink RX11 163 "SealStrait$Trial" "readings" "I", Cond.fieldLink RX11 166 "SealStrait$Trial" "signedAll" "I", Cond.methodLink RX11 154 yX8_headsOnSideOne, Cond.instanceMethod yX8_headsOnSideOne, Cond.selects RX8 yX8_headsOnSideOne yX8_headsOnSideOne, Cond.code yX8_headsOnSideOne cX8_headsOnSideOne 3 (some .int), Cond.methodLink RL 61 yX12_then, Cond.instanceMethod yX12_then, Cond.selects RX12 yX12_then yX12_then, Cond.code yX12_then cX12_then 2 (some .int), Cond.methodLink RX12 134 yX12_headsBeyond, Cond.instanceMethod yX12_headsBeyond, Cond.selects RX12 yX12_headsBeyond yX12_headsBeyond, Cond.code yX12_headsBeyond cX12_headsBeyond 3 (some .int), Cond.methodLink RL 62 yX11_who]
def wsL_law_r21 : List Cond := [Cond.instanceMethod yX11_who, Cond.selects RX11 yX11_who yX11_who, Cond.code yX11_who cX11_who 2 (some .int), Cond.methodLink RX11 169 yX8_signers, Cond.methodLink RL 65 yX12_who, Cond.instanceMethod yX12_who, Cond.selects RX12 yX12_who yX12_who, Cond.code yX12_who cX12_who 2 (some .int), Cond.methodLink RL 66 yX11_bring, Cond.instanceMethod yX11_bring, Cond.selects RX11 yX11_bring yX11_bring, Cond.code yX11_bring cX11_bring 6 (some .int), Cond.fieldLink RX11 180 "SealStrait$Bringing" "fewest" "I", Cond.fieldLink RX11 183 "SealStrait$Bringing" "firstClause" "I", Cond.methodLink RX11 172 yX1_begin, Cond.instanceMethod yX1_begin, Cond.selects RX1 yX1_begin yX1_begin, Cond.code yX1_begin cX1_begin 4 none, Cond.fieldLink RX1 27 "SealStrait$Bringing" "size" "I", Cond.fieldLink RX1 37 "SealStrait$Bringing" "oneListens" "Z", Cond.fieldLink RX1 41 "SealStrait$Bringing" "otherListens" "Z", Cond.methodLink RX1 21 yJ7_fill_53178, Cond.methodLink RX1 31 yX8_listens, Cond.methodLink RX1 44 yX1_placeOf]
def wsL_law_r22 : List Cond := [Cond.static yX1_placeOf, Cond.code yX1_placeOf cX1_placeOf 2 (some .int), Cond.fieldLink RX1 79 "SealStrait$Sea" "sides" "[I", Cond.fieldLink RX1 82 "SealStrait$Sea" "moods" "[I", Cond.methodLink RX1 76 yX8_isThere, Cond.methodLink RX1 48 yX1_reach, Cond.instanceMethod yX1_reach, Cond.selects RX1 yX1_reach yX1_reach, Cond.code yX1_reach cX1_reach 4 none, Cond.methodLink RX11 176 yX1_search, Cond.instanceMethod yX1_search, Cond.selects RX1 yX1_search yX1_search, Cond.code yX1_search cX1_search 6 none, Cond.fieldLink RX1 52 "SealStrait$Bringing" "fewest" "I", Cond.fieldLink RX1 55 "SealStrait$Bringing" "firstClause" "I", Cond.methodLink RX1 62 yX1_goOnFrom, Cond.instanceMethod yX1_goOnFrom, Cond.selects RX1 yX1_goOnFrom yX1_goOnFrom, Cond.code yX1_goOnFrom cX1_goOnFrom 9 none, Cond.methodLink RX1 66 yX9_wordsOf, Cond.methodLink RX1 72 yX1_behindReading, Cond.static yX1_behindReading, Cond.code yX1_behindReading cX1_behindReading 5 (some .int), Cond.methodLink RX1 85 Lib.Math.min.name]
def wsL_law_r23 : List Cond := [Cond.methodLink RL 69 yX12_bring, Cond.instanceMethod yX12_bring, Cond.selects RX12 yX12_bring yX12_bring, Cond.code yX12_bring cX12_bring 13 (some .int), Cond.methodLink RX12 137 yX12_heard, Cond.instanceMethod yX12_heard, Cond.selects RX12 yX12_heard yX12_heard, Cond.code yX12_heard cX12_heard 6 (some .int), Cond.methodLink RL 70 yX11_drop, Cond.instanceMethod yX11_drop, Cond.selects RX11 yX11_drop yX11_drop, Cond.code yX11_drop cX11_drop 4 (some .int), Cond.methodLink RX11 186 yX9_leastToDrop, Cond.instanceMethod yX9_leastToDrop, Cond.selects RX9 yX9_leastToDrop yX9_leastToDrop, Cond.code yX9_leastToDrop cX9_leastToDrop 6 (some .int), Cond.methodLink RX9 38 yX9_isQuiet, Cond.instanceMethod yX9_isQuiet, Cond.selects RX9 yX9_isQuiet yX9_isQuiet, Cond.code yX9_isQuiet cX9_isQuiet 3 (some .boolean), Cond.methodLink RL 73 yX12_drop, Cond.instanceMethod yX12_drop, Cond.selects RX12 yX12_drop yX12_drop, Cond.code yX12_drop cX12_drop 7 (some .int)]
def wsL_law_r24 : List Cond := [Cond.methodLink RL 74 yX11_share, Cond.instanceMethod yX11_share, Cond.selects RX11 yX11_share yX11_share, Cond.code yX11_share cX11_share 5 (some .int), Cond.methodLink RX11 189 yX8_hasHeads, Cond.instanceMethod yX8_hasHeads, Cond.selects RX8 yX8_hasHeads yX8_hasHeads, Cond.code yX8_hasHeads cX8_hasHeads 2 (some .boolean), Cond.methodLink RX11 192 yJ7_fill_53178, Cond.methodLink RX11 198 yX8_nextToGet, Cond.instanceMethod yX8_nextToGet, Cond.selects RX8 yX8_nextToGet yX8_nextToGet, Cond.code yX8_nextToGet cX8_nextToGet 7 (some .int), Cond.methodLink RL 77 yX12_share, Cond.instanceMethod yX12_share, Cond.selects RX12 yX12_share yX12_share, Cond.code yX12_share cX12_share 7 (some .int), Cond.methodLink RL 78 yX11_waiting, Cond.instanceMethod yX11_waiting, Cond.selects RX11 yX11_waiting yX11_waiting, Cond.code yX11_waiting cX11_waiting 4 (some .long), Cond.constantLong RX11 206 (-1000000000000000002), Cond.methodLink RX11 202 yX11_waitIsAsTold, Cond.static yX11_waitIsAsTold]
def wsL_law_r25 : List Cond := [Cond.code yX11_waitIsAsTold cX11_waitIsAsTold 2 (some .boolean), Cond.methodLink RX11 208 yX2_setWaiting, Cond.instanceMethod yX2_setWaiting, Cond.selects RX2 yX2_setWaiting yX2_setWaiting, Cond.code yX2_setWaiting cX2_setWaiting 7 none, Cond.fieldLink RX2 13 "SealStrait$Fraction" "upper" "J", Cond.methodLink RX2 16 Lib.MathLoose.max_long.x, Cond.static Lib.MathLoose.max_long.x, Cond.code Lib.MathLoose.max_long.x Lib.MathLoose.max_long.code 4 (some .long), Cond.methodLink RX2 22 yX2_reduce, Cond.instanceMethod yX2_reduce, Cond.selects RX2 yX2_reduce yX2_reduce, Cond.code yX2_reduce cX2_reduce 3 none, Cond.methodLink RX2 27 yX2_commonDivisor, Cond.static yX2_commonDivisor, Cond.code yX2_commonDivisor cX2_commonDivisor 11 (some .long), Cond.methodLink RX11 212 yX2_part, Cond.instanceMethod yX2_part, Cond.selects RX2 yX2_part yX2_part, Cond.code yX2_part cX2_part 2 (some .long), Cond.methodLink RL 82 yX12_waiting, Cond.instanceMethod yX12_waiting, Cond.selects RX12 yX12_waiting yX12_waiting, Cond.code yX12_waiting cX12_waiting 4 (some .long)]
def wsL_law_r26 : List Cond := [Cond.constantLong RX12 147 (-1000000000000000002), Cond.fieldLink RX12 140 "SealStraitModel" "waitUp" "J", Cond.fieldLink RX12 144 "SealStraitModel" "waitLow" "J", Cond.methodLink RX12 149 yX12_layWait, Cond.instanceMethod yX12_layWait, Cond.selects RX12 yX12_layWait yX12_layWait, Cond.code yX12_layWait cX12_layWait 7 none, Cond.methodLink RX12 152 yX12_lowest, Cond.static yX12_lowest, Cond.code yX12_lowest cX12_lowest 11 (some .long), Cond.methodLink RL 83 yX11_reads, Cond.instanceMethod yX11_reads, Cond.selects RX11 yX11_reads yX11_reads, Cond.code yX11_reads cX11_reads 3 (some .int), Cond.methodLink RX11 216 yX2_leastWholeNotBelow, Cond.instanceMethod yX2_leastWholeNotBelow, Cond.selects RX2 yX2_leastWholeNotBelow yX2_leastWholeNotBelow, Cond.code yX2_leastWholeNotBelow cX2_leastWholeNotBelow 3 (some .int), Cond.methodLink RL 86 yX12_reads, Cond.instanceMethod yX12_reads, Cond.selects RX12 yX12_reads yX12_reads, Cond.code yX12_reads cX12_reads 4 (some .int), Cond.methodLink RL 87 yX11_counted, Cond.instanceMethod yX11_counted]
def wsL_law_r27 : List Cond := [Cond.selects RX11 yX11_counted yX11_counted, Cond.code yX11_counted cX11_counted 3 (some .int), Cond.fieldLink RX11 222 "SealStrait$Lookout" "counts" "I", Cond.methodLink RX11 219 yX6_addCount, Cond.instanceMethod yX6_addCount, Cond.selects RX6 yX6_addCount yX6_addCount, Cond.code yX6_addCount cX6_addCount 3 (some .boolean), Cond.fieldLink RX6 27 "SealStrait$Lookout" "counts" "I", Cond.methodLink RL 90 yX12_counted, Cond.instanceMethod yX12_counted, Cond.selects RX12 yX12_counted yX12_counted, Cond.code yX12_counted cX12_counted 3 (some .int), Cond.fieldLink RX12 156 "SealStraitModel" "counts" "I", Cond.methodLink RL 91 yX11_forget, Cond.instanceMethod yX11_forget, Cond.selects RX11 yX11_forget yX11_forget, Cond.code yX11_forget cX11_forget 2 (some .int), Cond.methodLink RL 94 yX12_forget, Cond.instanceMethod yX12_forget, Cond.selects RX12 yX12_forget yX12_forget, Cond.code yX12_forget cX12_forget 2 (some .int), Cond.methodLink RL 95 yX11_went, Cond.instanceMethod yX11_went, Cond.selects RX11 yX11_went yX11_went]
def wsL_law_r28 : List Cond := [Cond.code yX11_went cX11_went 2 (some .int), Cond.fieldLink RX11 229 "SealStrait$Guess" "size" "I", Cond.methodLink RX11 225 yX4_findSets, Cond.instanceMethod yX4_findSets, Cond.selects RX4 yX4_findSets yX4_findSets, Cond.code yX4_findSets cX4_findSets 5 none, Cond.fieldLink RX4 18 "SealStrait$Guess" "size" "I", Cond.fieldLink RX4 22 "SealStrait$Sea" "there" "I", Cond.methodLink RX4 27 yX6_allCountsFit, Cond.instanceMethod yX6_allCountsFit, Cond.selects RX6 yX6_allCountsFit yX6_allCountsFit, Cond.code yX6_allCountsFit cX6_allCountsFit 4 (some .boolean), Cond.methodLink RX6 41 yX6_wantingOff, Cond.instanceMethod yX6_wantingOff, Cond.selects RX6 yX6_wantingOff yX6_wantingOff, Cond.code yX6_wantingOff cX6_wantingOff 4 (some .int), Cond.methodLink RX6 35 yX8_headsOf, Cond.instanceMethod yX8_headsOf, Cond.selects RX8 yX8_headsOf yX8_headsOf, Cond.code yX8_headsOf cX8_headsOf 4 (some .int), Cond.methodLink RX11 230 yX4_setAt, Cond.instanceMethod yX4_setAt, Cond.selects RX4 yX4_setAt yX4_setAt, Cond.code yX4_setAt cX4_setAt 2 (some .int)]
def wsL_law_r29 : List Cond := [Cond.methodLink RL 98 yX12_went, Cond.instanceMethod yX12_went, Cond.selects RX12 yX12_went yX12_went, Cond.code yX12_went cX12_went 4 (some .int), Cond.methodLink RX12 162 yX12_isFit, Cond.instanceMethod yX12_isFit, Cond.selects RX12 yX12_isFit yX12_isFit, Cond.code yX12_isFit cX12_isFit 4 (some .boolean), Cond.methodLink RX12 159 yX12_wantingOff, Cond.instanceMethod yX12_wantingOff, Cond.selects RX12 yX12_wantingOff yX12_wantingOff, Cond.code yX12_wantingOff cX12_wantingOff 5 (some .int), Cond.methodLink RL 99 yX11_ask, Cond.instanceMethod yX11_ask, Cond.selects RX11 yX11_ask yX11_ask, Cond.code yX11_ask cX11_ask 2 (some .int), Cond.fieldLink RX11 236 "SealStrait$Guess" "nextRock" "I", Cond.fieldLink RX11 239 "SealStrait$Guess" "leftAtMost" "I", Cond.methodLink RX11 233 yX4_findNextRock, Cond.instanceMethod yX4_findNextRock, Cond.selects RX4 yX4_findNextRock yX4_findNextRock, Cond.code yX4_findNextRock cX4_findNextRock 5 none, Cond.fieldLink RX4 33 "SealStrait$Guess" "nextRock" "I", Cond.fieldLink RX4 36 "SealStrait$Guess" "leftAtMost" "I"]
def wsL_law_r30 : List Cond := [Cond.methodLink RX4 39 yX4_mostAlike, Cond.instanceMethod yX4_mostAlike, Cond.selects RX4 yX4_mostAlike yX4_mostAlike, Cond.code yX4_mostAlike cX4_mostAlike 7 (some .int), Cond.methodLink RX4 53 Lib.Math.max.name, Cond.static Lib.Math.max.name, Cond.code Lib.Math.max.name Lib.Math.max.code 2 (some .int), Cond.methodLink RX4 43 yJ7_fill_53178, Cond.methodLink RX4 49 yX6_wantingOff, Cond.methodLink RL 102 yX12_ask, Cond.instanceMethod yX12_ask, Cond.selects RX12 yX12_ask yX12_ask, Cond.code yX12_ask cX12_ask 9 (some .int), Cond.constant RX12 165 (1000000), Cond.methodLink RL 103 yX11_turning, Cond.instanceMethod yX11_turning, Cond.selects RX11 yX11_turning yX11_turning, Cond.code yX11_turning cX11_turning 4 (some .int), Cond.methodLink RX11 242 yX3_winningFirst, Cond.instanceMethod yX3_winningFirst, Cond.selects RX3 yX3_winningFirst yX3_winningFirst, Cond.code yX3_winningFirst cX3_winningFirst 5 (some .int), Cond.methodLink RX3 15 yX9_wordsOfAll, Cond.instanceMethod yX9_wordsOfAll]
def wsL_law_r31 : List Cond := [Cond.selects RX9 yX9_wordsOfAll yX9_wordsOfAll, Cond.code yX9_wordsOfAll cX9_wordsOfAll 4 (some .int), Cond.methodLink RX3 21 yX3_winningNext, Cond.instanceMethod yX3_winningNext, Cond.selects RX3 yX3_winningNext yX3_winningNext, Cond.code yX3_winningNext cX3_winningNext 6 (some .int), Cond.methodLink RX3 25 yX9_wordsOf, Cond.methodLink RL 106 yX12_turning, Cond.instanceMethod yX12_turning, Cond.selects RX12 yX12_turning yX12_turning, Cond.code yX12_turning cX12_turning 7 (some .int), Cond.methodLink RL 107 yX11_drift, Cond.instanceMethod yX11_drift, Cond.selects RX11 yX11_drift yX11_drift, Cond.code yX11_drift cX11_drift 7 (some .long), Cond.methodLink RX11 246 yX2_setDrift, Cond.instanceMethod yX2_setDrift, Cond.selects RX2 yX2_setDrift yX2_setDrift, Cond.code yX2_setDrift cX2_setDrift 11 none, Cond.constantLong RX2 25 (10), Cond.methodLink RL 111 yX12_drift, Cond.instanceMethod yX12_drift, Cond.selects RX12 yX12_drift yX12_drift, Cond.code yX12_drift cX12_drift 14 (some .long)]
def wsL_law_r32 : List Cond := [Cond.constantLong RX12 166 (10), Cond.methodLink RL 112 yX11_year, Cond.instanceMethod yX11_year, Cond.selects RX11 yX11_year yX11_year, Cond.code yX11_year cX11_year 4 (some .int), Cond.methodLink RX11 249 yX10_runYear, Cond.instanceMethod yX10_runYear, Cond.selects RX10 yX10_runYear yX10_runYear, Cond.code yX10_runYear cX10_runYear 7 none, Cond.constant RX10 93 (65537), Cond.methodLink RX10 94 yX0_draw, Cond.instanceMethod yX0_draw, Cond.selects RX0 yX0_draw yX0_draw, Cond.code yX0_draw cX0_draw 3 none, Cond.methodLink RX11 253 yX8_allMoods, Cond.instanceMethod yX8_allMoods, Cond.selects RX8 yX8_allMoods yX8_allMoods, Cond.code yX8_allMoods cX8_allMoods 3 (some .int), Cond.methodLink RL 116 yX12_year, Cond.instanceMethod yX12_year, Cond.selects RX12 yX12_year yX12_year, Cond.code yX12_year cX12_year 8 (some .int), Cond.constant RX12 168 (65537), Cond.methodLink RL 117 yX11_image]
def wsL_law_r33 : List Cond := [Cond.instanceMethod yX11_image, Cond.selects RX11 yX11_image yX11_image, Cond.code yX11_image cX11_image 3 (some .int), Cond.instantiable RX5 3, Cond.initialized RX5, Cond.fieldLink RX11 257 "SealStrait$Image" "sea" "LSealStrait$Sea;", Cond.fieldLink RX11 258 "SealStrait$Image" "treaty" "LSealStrait$Treaty;", Cond.fieldLink RX11 262 "SealStrait$Image" "lookout" "LSealStrait$Lookout;", Cond.instanceMethod yX5_init, Cond.code yX5_init cX5_init 1 none, Cond.methodLink RX5 1 objectInit, Cond.classLink RX5 7 RX8, Cond.fieldLink RX5 10 "SealStrait$Image" "sea" "LSealStrait$Sea;", Cond.classLink RX5 16 RX9, Cond.fieldLink RX5 19 "SealStrait$Image" "treaty" "LSealStrait$Treaty;", Cond.classLink RX5 23 RX6, Cond.fieldLink RX5 26 "SealStrait$Image" "lookout" "LSealStrait$Lookout;", Cond.methodLink RX5 18 yX9_init, Cond.methodLink RX5 25 yX6_init, Cond.methodLink RX11 259 yX9_copyFrom, Cond.instanceMethod yX9_copyFrom, Cond.selects RX9 yX9_copyFrom yX9_copyFrom, Cond.code yX9_copyFrom cX9_copyFrom 3 none, Cond.methodLink RX11 263 yX6_copyFrom]
def wsL_law_r34 : List Cond := [Cond.instanceMethod yX6_copyFrom, Cond.selects RX6 yX6_copyFrom yX6_copyFrom, Cond.code yX6_copyFrom cX6_copyFrom 3 none, Cond.methodLink RL 120 yX12_image, Cond.instanceMethod yX12_image, Cond.selects RX12 yX12_image yX12_image, Cond.code yX12_image cX12_image 4 (some .int), Cond.methodLink RL 121 yX11_restore, Cond.instanceMethod yX11_restore, Cond.selects RX11 yX11_restore yX11_restore, Cond.code yX11_restore cX11_restore 3 (some .int), Cond.methodLink RL 124 yX12_restore, Cond.instanceMethod yX12_restore, Cond.selects RX12 yX12_restore yX12_restore, Cond.code yX12_restore cX12_restore 4 (some .int), Cond.methodLink RL 125 yX11_told, Cond.instanceMethod yX11_told, Cond.selects RX11 yX11_told yX11_told, Cond.code yX11_told cX11_told 2 (some .int), Cond.fieldLink RX11 266 "SealStrait$Treaty" "clashes" "[I", Cond.methodLink RL 128 yX12_told, Cond.instanceMethod yX12_told, Cond.selects RX12 yX12_told yX12_told, Cond.code yX12_told cX12_told 4 (some .int)]
def wsL_law : List Cond := (wsL_law_r1 ++ (wsL_law_r2 ++ (wsL_law_r3 ++ (wsL_law_r4 ++ (wsL_law_r5 ++ (wsL_law_r6 ++ (wsL_law_r7 ++ (wsL_law_r8 ++ (wsL_law_r9 ++ (wsL_law_r10 ++ (wsL_law_r11 ++ (wsL_law_r12 ++ (wsL_law_r13 ++ (wsL_law_r14 ++ (wsL_law_r15 ++ (wsL_law_r16 ++ (wsL_law_r17 ++ (wsL_law_r18 ++ (wsL_law_r19 ++ (wsL_law_r20 ++ (wsL_law_r21 ++ (wsL_law_r22 ++ (wsL_law_r23 ++ (wsL_law_r24 ++ (wsL_law_r25 ++ (wsL_law_r26 ++ (wsL_law_r27 ++ (wsL_law_r28 ++ (wsL_law_r29 ++ (wsL_law_r30 ++ (wsL_law_r31 ++ (wsL_law_r32 ++ (wsL_law_r33 ++ wsL_law_r34))))))))))))))))))))))))))))))))) ++ wsX110 ++ wsX120 ++ wsX80 ++ wsX90 ++ wsX60 ++ wsX70 ++ wsX100 ++ wsX10 ++ wsX40 ++ wsX30 ++ wsX20 ++ wsX00 ++ wsX50 ++ ([] : List Cond)
abbrev vwCl : List vw_C := [(RX0, TX0, 3), (RX1, TX1, 8), (RX2, TX2, 2), (RX3, TX3, 1), (RX4, TX4, 5), (RX5, TX5, 3), (RX6, TX6, 4), (RX7, TX7, 2), (RX8, TX8, 7), (RX9, TX9, 2), (RX10, TX10, 7), (RX11, TX11, 11), (RX12, TX12, 22)]
end
section
/-! my own judgement over the kit's rows: qG: from every heap that holds the cells ws, with the locals lv and the operand stack st at pc, the goal is reached -/
/-- the links to private members of a nest mate (18 of them), host SealStrait -/
def qNest : List (String × Nat × MethodName) := [(RX11, 11, yX8_init), (RX11, 32, yX7_init), (RX11, 45, yX10_init), (RX10, 11, yX8_init), (RX10, 20, yX0_init), (RX11, 52, yX1_init), (RX11, 59, yX4_init), (RX11, 66, yX3_init), (RX11, 73, yX2_init), (RX8, 34, yX11_within), (RX9, 24, yX11_within), (RX7, 30, yX11_within), (RX8, 45, yX11_has), (RX1, 58, yX11_within), (RX9, 28, yX11_has), (RX6, 31, yX11_within), (RX11, 256, yX5_init), (RX5, 9, yX8_init)]
/-- what rests on the tables and isn't a word of a method's list -/
def qN (U : State) : Prop := (∀ q ∈ qNest, va_Nw (.methodLinkNest q.1 q.2.1 q.2.2 "SealStrait") U) ∧ va_AO "SealStrait$Image" U
theorem qN.warm {s U : State} (hW : s.WarmedH U.vm) (h : qN s) : qN U := ⟨fun q hq => va_Nw.warmM hW (h.1 q hq), va_AO.moved hW.alike h.2⟩
theorem qN.calling {U : State} {g : JFrame} {mk : MethodId} {a : Array Value} (h : qN U) : qN (U.calling g mk a) := ⟨fun q hq => va_Nw.same rfl rfl (h.1 q hq), va_AO.moved (u := U) (U := U.calling g mk a) (Vm.Alike.refl U.vm) h.2⟩
/-- what stands at each point of a method -/
def qCx (p : Program) (s : State) (m : MethodId) (args : Array Value) (meth : Method) (c : Code) (cc : ByteArray) (nL : Nat) (own : String) (Ts : List Cond) (D : va_G) (tys : List (ClassId × FieldType)) : Prop :=
  p.tables.exec = Jvm.exec ∧ c.code = cc ∧ c.maxLocals = nL ∧ s.vm.findClass own = some m.cls ∧ (∀ w ∈ Ts, w.before args s = true) ∧ va_K D vwCl tys s ∧ qN s ∧ meth.locks = false
def qG (p : Program) (l : Launch) (e : Env) (R : Room) (s : State) (m : MethodId) (args : Array Value) (below : List Frame) (meth : Method) (c : Code) (nL : Nat) (D : va_G) (A A' : Nat → Prop) (Q : State → Prop) (cells slots : Nat) (lv : List (Nat × Value)) (st : List Value) (ws : va_W) (pc : Nat) : Prop :=
  ∀ (H : Heap) (locs : List Loc) (ls : Array Slot), lv_has ls nL lv → va_P D vwCl ws H → va_D A' ws → va_S A s.heap H locs → W p l e R s m args below meth c H locs cells slots Q (F0 m pc ls st)
/-- a contract's start -/
def qPc (av : List Value) (D : va_G) (tys : List (ClassId × FieldType)) (w : va_W) (sz : Nat) : Array Value → State → Prop := va_Pc av (fun U => U.heap.size = sz ∧ va_P D vwCl w U.heap ∧ va_K D vwCl tys U ∧ va_D (fun _ => True) w ∧ qN U)
/-- contracts' ends: what only reads (int, boolean, long), what writes (int, boolean, long, nothing) -/
def qRi (v : Int32) : Array Value → State → Outcome → State → Prop := va_Qi (S := Unit) (fun r _ => r = v) (fun _ _ => True) (fun _ => False)
def qRz (v : Int32) : Array Value → State → Outcome → State → Prop := va_Qi (S := Unit) (fun r _ => r = v ∧ (r = 0 ∨ r = 1)) (fun _ _ => True) (fun _ => False)
def qRl (v : Int64) : Array Value → State → Outcome → State → Prop := va_Ql (S := Unit) (fun r _ => r = v) (fun _ _ => True) (fun _ => False)
def qWi (v : Int32) (D : va_G) (w1 : va_W) (A : Nat → Prop) : Array Value → State → Outcome → State → Prop := va_Qi (S := Unit) (fun r _ => r = v) (fun _ t => va_P D vwCl w1 t.heap ∧ va_D A w1) A
def qWz (v : Int32) (D : va_G) (w1 : va_W) (A : Nat → Prop) : Array Value → State → Outcome → State → Prop := va_Qi (S := Unit) (fun r _ => r = v ∧ (r = 0 ∨ r = 1)) (fun _ t => va_P D vwCl w1 t.heap ∧ va_D A w1) A
def qWl (v : Int64) (D : va_G) (w1 : va_W) (A : Nat → Prop) : Array Value → State → Outcome → State → Prop := va_Ql (S := Unit) (fun r _ => r = v) (fun _ t => va_P D vwCl w1 t.heap ∧ va_D A w1) A
def qWv (D : va_G) (w1 : va_W) (A : Nat → Prop) : Array Value → State → Outcome → State → Prop := va_Qv (S := Unit) (fun _ => True) (fun _ t => va_P D vwCl w1 t.heap ∧ va_D A w1) A
/-- a constructor's end: the new cells' addresses are u -/
def qNv {S : Type} (D : va_G) (W1 : S → va_W) (A : Nat → Prop) : Array Value → State → Outcome → State → Prop := va_Qv (S := S) (fun _ => True) (fun u t => va_P D vwCl (W1 u) t.heap ∧ va_D A (W1 u)) A
theorem q_fm {α β : Type} {f : α → Option β} : ∀ {is : List α} {w : List β}, is.map f = w.map some → is.filterMap f = w := by
  intro is
  induction is with
  | nil =>
    intro w h
    cases w with
    | nil => rfl
    | cons x t => simp at h
  | cons i r ih =>
    intro w h
    cases w with
    | nil => simp at h
    | cons x t =>
      simp only [List.map_cons, List.cons.injEq] at h
      rw [List.filterMap_cons, h.1, ih h.2]
theorem q_nb {r : Int32} (h : r = 0 ∨ r = 1) : narrow .boolean (.int r) = .int r := by
  rcases h with h | h <;> subst h <;> rfl
theorem q_fb {r : Int32} (h : r = 0 ∨ r = 1) : fits .boolean (.int r) = true := by
  rcases h with h | h <;> subst h <;> rfl
theorem qPc.blind {av : List Value} {D : va_G} {tys : List (ClassId × FieldType)} {w : va_W} {sz : Nat} : FrameBlind (qPc av D tys w sz) := fun a U g mk q => by
  obtain ⟨q0, q1, qP, qK, qD, qn⟩ := q
  exact ⟨q0, q1, qP, va_K.moved (u := U) (U := U.calling g mk a) (Vm.Alike.refl U.vm) qK, qD, qn.calling⟩
section GK
variable {p : Program} {l : Launch} {e : Env} {R : Room} {s : State} {m : MethodId} {args : Array Value} {below : List Frame} {meth : Method} {c : Code} {cells slots : Nat} {Q : State → Prop} {cc : ByteArray} {nL : Nat} {own : String} {Ts : List Cond} {D : va_G} {tys : List (ClassId × FieldType)} {A A' : Nat → Prop} {lv : List (Nat × Value)} {st rest : List Value} {ws : va_W} {pc : Nat}
theorem qPc.pre (C : qCx p s m args meth c cc nL own Ts D tys) {av : List Value} {w : va_W} {H : Heap} (hP : va_P D vwCl w H) (hD : va_D A' w) : ∀ U : State, U.heap = H → s.WarmedH U.vm → qPc av D tys w H.size av.toArray U := fun U hU hW =>
  ⟨rfl, by rw [hU], by rw [hU]; exact hP, va_K.moved hW.alike C.2.2.2.2.2.1, hD.weaken (fun _ _ _ _ => trivial), C.2.2.2.2.2.2.1.warm hW⟩
theorem q_iconst (C : qCx p s m args meth c cc nL own Ts D tys) {n : Int} {v : Int32} (hd : decode cc pc = .ok (.iconst n, 1)) (hv : Int32.ofInt n = v)
    (k : qG p l e R s m args below meth c nL D A A' Q cells slots lv (.int v :: st) ws (pc + 1)) : qG p l e R s m args below meth c nL D A A' Q cells slots lv st ws pc := fun H locs ls h1 h2 h3 h4 => lv_iconst C.1 C.2.1 hd hv (k H locs ls h1 h2 h3 h4)
theorem q_bipush (C : qCx p s m args meth c cc nL own Ts D tys) {n : Int} {v : Int32} (hd : decode cc pc = .ok (.bipush n, 2)) (hv : (Int8.ofInt n).toInt32 = v)
    (k : qG p l e R s m args below meth c nL D A A' Q cells slots lv (.int v :: st) ws (pc + 2)) : qG p l e R s m args below meth c nL D A A' Q cells slots lv st ws pc := fun H locs ls h1 h2 h3 h4 => lv_bipush C.1 C.2.1 hd hv (k H locs ls h1 h2 h3 h4)
theorem q_sipush (C : qCx p s m args meth c cc nL own Ts D tys) {n : Int} {v : Int32} (hd : decode cc pc = .ok (.sipush n, 3)) (hv : (Int16.ofInt n).toInt32 = v)
    (k : qG p l e R s m args below meth c nL D A A' Q cells slots lv (.int v :: st) ws (pc + 3)) : qG p l e R s m args below meth c nL D A A' Q cells slots lv st ws pc := fun H locs ls h1 h2 h3 h4 => lv_sipush C.1 C.2.1 hd hv (k H locs ls h1 h2 h3 h4)
theorem q_lconst (C : qCx p s m args meth c cc nL own Ts D tys) {n : Fin 2} {v : Int64} (hd : decode cc pc = .ok (.lconst n, 1)) (hv : Int64.ofNat (n : Nat) = v)
    (k : qG p l e R s m args below meth c nL D A A' Q cells slots lv (.long v :: st) ws (pc + 1)) : qG p l e R s m args below meth c nL D A A' Q cells slots lv st ws pc := fun H locs ls h1 h2 h3 h4 => lv_lconst C.1 C.2.1 hd hv (k H locs ls h1 h2 h3 h4)
theorem q_ldc (C : qCx p s m args meth c cc nL own Ts D tys) {index : Nat} {v : Int32} (hm : Cond.constant own index v ∈ Ts) (hd : decode cc pc = .ok (.ldc index, 2))
    (k : qG p l e R s m args below meth c nL D A A' Q cells slots lv (.int v :: st) ws (pc + 2)) : qG p l e R s m args below meth c nL D A A' Q cells slots lv st ws pc := fun H locs ls h1 h2 h3 h4 => lv_ldc C.1 C.2.1 C.2.2.2.1 (C.2.2.2.2.1 _ hm) hd (k H locs ls h1 h2 h3 h4)
theorem q_ldcw (C : qCx p s m args meth c cc nL own Ts D tys) {index : Nat} {v : Int32} (hm : Cond.constant own index v ∈ Ts) (hd : decode cc pc = .ok (.ldc_w index, 3))
    (k : qG p l e R s m args below meth c nL D A A' Q cells slots lv (.int v :: st) ws (pc + 3)) : qG p l e R s m args below meth c nL D A A' Q cells slots lv st ws pc := fun H locs ls h1 h2 h3 h4 => lv_ldcw C.1 C.2.1 C.2.2.2.1 (C.2.2.2.2.1 _ hm) hd (k H locs ls h1 h2 h3 h4)
theorem q_ldc2 (C : qCx p s m args meth c cc nL own Ts D tys) {index : Nat} {v : Int64} (hm : Cond.constantLong own index v ∈ Ts) (hd : decode cc pc = .ok (.ldc2_w index, 3))
    (k : qG p l e R s m args below meth c nL D A A' Q cells slots lv (.long v :: st) ws (pc + 3)) : qG p l e R s m args below meth c nL D A A' Q cells slots lv st ws pc := fun H locs ls h1 h2 h3 h4 => lv_ldc2 C.1 C.2.1 C.2.2.2.1 (C.2.2.2.2.1 _ hm) hd (k H locs ls h1 h2 h3 h4)
theorem q_iload_n (C : qCx p s m args meth c cc nL own Ts D tys) {kk : Fin 4} {i : Nat} {x : Int32} (hd : decode cc pc = .ok (.iload_n kk, 1)) (j : Nat) (hi : (kk : Nat) = i) (hj : lv[j]? = some (i, .int x))
    (k : qG p l e R s m args below meth c nL D A A' Q cells slots lv (.int x :: st) ws (pc + 1)) : qG p l e R s m args below meth c nL D A A' Q cells slots lv st ws pc := fun H locs ls h1 h2 h3 h4 => lv_iload_n C.1 C.2.1 hd hi (lv_at h1 j hj) (k H locs ls h1 h2 h3 h4)
theorem q_iload (C : qCx p s m args meth c cc nL own Ts D tys) {i : Nat} {x : Int32} (hd : decode cc pc = .ok (.iload i, 2)) (j : Nat) (hj : lv[j]? = some (i, .int x))
    (k : qG p l e R s m args below meth c nL D A A' Q cells slots lv (.int x :: st) ws (pc + 2)) : qG p l e R s m args below meth c nL D A A' Q cells slots lv st ws pc := fun H locs ls h1 h2 h3 h4 => lv_iload C.1 C.2.1 hd (lv_at h1 j hj) (k H locs ls h1 h2 h3 h4)
theorem q_istore_n (C : qCx p s m args meth c cc nL own Ts D tys) {kk : Fin 4} {i : Nat} {x : Int32} (lv1 : List (Nat × Value)) (hd : decode cc pc = .ok (.istore_n kk, 1)) (hi : (kk : Nat) = i) (hn : i < nL) (hl : (i, Value.int x) :: lv.filter (fun q => !(q.1 == i) && !(q.1 + 1 == i && q.2.category == 2)) = lv1)
    (k : qG p l e R s m args below meth c nL D A A' Q cells slots lv1 rest ws (pc + 1)) : qG p l e R s m args below meth c nL D A A' Q cells slots lv (.int x :: rest) ws pc := fun H locs ls h1 h2 h3 h4 => lv_istore_n C.1 C.2.1 hd hi h1 hn hl (fun ls1 g1 => k H locs ls1 g1 h2 h3 h4)
theorem q_istore (C : qCx p s m args meth c cc nL own Ts D tys) {i : Nat} {x : Int32} (lv1 : List (Nat × Value)) (hd : decode cc pc = .ok (.istore i, 2)) (hn : i < nL) (hl : (i, Value.int x) :: lv.filter (fun q => !(q.1 == i) && !(q.1 + 1 == i && q.2.category == 2)) = lv1)
    (k : qG p l e R s m args below meth c nL D A A' Q cells slots lv1 rest ws (pc + 2)) : qG p l e R s m args below meth c nL D A A' Q cells slots lv (.int x :: rest) ws pc := fun H locs ls h1 h2 h3 h4 => lv_istore C.1 C.2.1 hd h1 hn hl (fun ls1 g1 => k H locs ls1 g1 h2 h3 h4)
theorem q_lload_n (C : qCx p s m args meth c cc nL own Ts D tys) {kk : Fin 4} {i : Nat} {x : Int64} (hd : decode cc pc = .ok (.lload_n kk, 1)) (j : Nat) (hi : (kk : Nat) = i) (hj : lv[j]? = some (i, .long x))
    (k : qG p l e R s m args below meth c nL D A A' Q cells slots lv (.long x :: st) ws (pc + 1)) : qG p l e R s m args below meth c nL D A A' Q cells slots lv st ws pc := fun H locs ls h1 h2 h3 h4 => lv_lload_n C.1 C.2.1 hd hi (lv_at h1 j hj) (k H locs ls h1 h2 h3 h4)
theorem q_lload (C : qCx p s m args meth c cc nL own Ts D tys) {i : Nat} {x : Int64} (hd : decode cc pc = .ok (.lload i, 2)) (j : Nat) (hj : lv[j]? = some (i, .long x))
    (k : qG p l e R s m args below meth c nL D A A' Q cells slots lv (.long x :: st) ws (pc + 2)) : qG p l e R s m args below meth c nL D A A' Q cells slots lv st ws pc := fun H locs ls h1 h2 h3 h4 => lv_lload C.1 C.2.1 hd (lv_at h1 j hj) (k H locs ls h1 h2 h3 h4)
theorem q_lstore_n (C : qCx p s m args meth c cc nL own Ts D tys) {kk : Fin 4} {i : Nat} {x : Int64} (lv1 : List (Nat × Value)) (hd : decode cc pc = .ok (.lstore_n kk, 1)) (hi : (kk : Nat) = i) (hn : i + 1 < nL) (hl : (i, Value.long x) :: lv.filter (fun q => !(q.1 == i) && (!(q.1 == i + 1) && !(q.1 + 1 == i && q.2.category == 2))) = lv1)
    (k : qG p l e R s m args below meth c nL D A A' Q cells slots lv1 rest ws (pc + 1)) : qG p l e R s m args below meth c nL D A A' Q cells slots lv (.long x :: rest) ws pc := fun H locs ls h1 h2 h3 h4 => lv_lstore_n C.1 C.2.1 hd hi h1 hn hl (fun ls1 g1 => k H locs ls1 g1 h2 h3 h4)
theorem q_lstore (C : qCx p s m args meth c cc nL own Ts D tys) {i : Nat} {x : Int64} (lv1 : List (Nat × Value)) (hd : decode cc pc = .ok (.lstore i, 2)) (hn : i + 1 < nL) (hl : (i, Value.long x) :: lv.filter (fun q => !(q.1 == i) && (!(q.1 == i + 1) && !(q.1 + 1 == i && q.2.category == 2))) = lv1)
    (k : qG p l e R s m args below meth c nL D A A' Q cells slots lv1 rest ws (pc + 2)) : qG p l e R s m args below meth c nL D A A' Q cells slots lv (.long x :: rest) ws pc := fun H locs ls h1 h2 h3 h4 => lv_lstore C.1 C.2.1 hd h1 hn hl (fun ls1 g1 => k H locs ls1 g1 h2 h3 h4)
theorem q_aload_n (C : qCx p s m args meth c cc nL own Ts D tys) {kk : Fin 4} {i : Nat} {x : Nat} (hd : decode cc pc = .ok (.aload_n kk, 1)) (j : Nat) (hi : (kk : Nat) = i) (hj : lv[j]? = some (i, .ref x))
    (k : qG p l e R s m args below meth c nL D A A' Q cells slots lv (.ref x :: st) ws (pc + 1)) : qG p l e R s m args below meth c nL D A A' Q cells slots lv st ws pc := fun H locs ls h1 h2 h3 h4 => lv_aload_n C.1 C.2.1 hd hi (lv_at h1 j hj) (k H locs ls h1 h2 h3 h4)
theorem q_aload (C : qCx p s m args meth c cc nL own Ts D tys) {i : Nat} {x : Nat} (hd : decode cc pc = .ok (.aload i, 2)) (j : Nat) (hj : lv[j]? = some (i, .ref x))
    (k : qG p l e R s m args below meth c nL D A A' Q cells slots lv (.ref x :: st) ws (pc + 2)) : qG p l e R s m args below meth c nL D A A' Q cells slots lv st ws pc := fun H locs ls h1 h2 h3 h4 => lv_aload C.1 C.2.1 hd (lv_at h1 j hj) (k H locs ls h1 h2 h3 h4)
theorem q_astore_n (C : qCx p s m args meth c cc nL own Ts D tys) {kk : Fin 4} {i : Nat} {x : Nat} (lv1 : List (Nat × Value)) (hd : decode cc pc = .ok (.astore_n kk, 1)) (hi : (kk : Nat) = i) (hn : i < nL) (hl : (i, Value.ref x) :: lv.filter (fun q => !(q.1 == i) && !(q.1 + 1 == i && q.2.category == 2)) = lv1)
    (k : qG p l e R s m args below meth c nL D A A' Q cells slots lv1 rest ws (pc + 1)) : qG p l e R s m args below meth c nL D A A' Q cells slots lv (.ref x :: rest) ws pc := fun H locs ls h1 h2 h3 h4 => lv_astore_n C.1 C.2.1 hd hi h1 hn hl (fun ls1 g1 => k H locs ls1 g1 h2 h3 h4)
theorem q_astore (C : qCx p s m args meth c cc nL own Ts D tys) {i : Nat} {x : Nat} (lv1 : List (Nat × Value)) (hd : decode cc pc = .ok (.astore i, 2)) (hn : i < nL) (hl : (i, Value.ref x) :: lv.filter (fun q => !(q.1 == i) && !(q.1 + 1 == i && q.2.category == 2)) = lv1)
    (k : qG p l e R s m args below meth c nL D A A' Q cells slots lv1 rest ws (pc + 2)) : qG p l e R s m args below meth c nL D A A' Q cells slots lv (.ref x :: rest) ws pc := fun H locs ls h1 h2 h3 h4 => lv_astore C.1 C.2.1 hd h1 hn hl (fun ls1 g1 => k H locs ls1 g1 h2 h3 h4)
theorem q_aload_nN (C : qCx p s m args meth c cc nL own Ts D tys) {kk : Fin 4} {i : Nat} (hd : decode cc pc = .ok (.aload_n kk, 1)) (j : Nat) (hi : (kk : Nat) = i) (hj : lv[j]? = some (i, .null))
    (k : qG p l e R s m args below meth c nL D A A' Q cells slots lv (.null :: st) ws (pc + 1)) : qG p l e R s m args below meth c nL D A A' Q cells slots lv st ws pc := fun H locs ls h1 h2 h3 h4 => lv_aload_nN C.1 C.2.1 hd hi (lv_at h1 j hj) (k H locs ls h1 h2 h3 h4)
theorem q_astore_nN (C : qCx p s m args meth c cc nL own Ts D tys) {kk : Fin 4} {i : Nat} (lv1 : List (Nat × Value)) (hd : decode cc pc = .ok (.astore_n kk, 1)) (hi : (kk : Nat) = i) (hn : i < nL) (hl : (i, Value.null) :: lv.filter (fun q => !(q.1 == i) && !(q.1 + 1 == i && q.2.category == 2)) = lv1)
    (k : qG p l e R s m args below meth c nL D A A' Q cells slots lv1 rest ws (pc + 1)) : qG p l e R s m args below meth c nL D A A' Q cells slots lv (.null :: rest) ws pc := fun H locs ls h1 h2 h3 h4 => lv_astore_nN C.1 C.2.1 hd hi h1 hn hl (fun ls1 g1 => k H locs ls1 g1 h2 h3 h4)
theorem q_iinc (C : qCx p s m args meth c cc nL own Ts D tys) {i : Nat} {n : Int} {x v : Int32} (lv1 : List (Nat × Value)) (hd : decode cc pc = .ok (.iinc i n, 3)) (j : Nat) (hj : lv[j]? = some (i, .int x)) (hv : x + Int32.ofInt n = v) (hn : i < nL) (hl : (i, Value.int v) :: lv.filter (fun q => !(q.1 == i) && !(q.1 + 1 == i && q.2.category == 2)) = lv1)
    (k : qG p l e R s m args below meth c nL D A A' Q cells slots lv1 st ws (pc + 3)) : qG p l e R s m args below meth c nL D A A' Q cells slots lv st ws pc := fun H locs ls h1 h2 h3 h4 => lv_iinc C.1 C.2.1 hd h1 (k := j) hj hv hn hl (fun ls1 g1 => k H locs ls1 g1 h2 h3 h4)
theorem q_iadd (C : qCx p s m args meth c cc nL own Ts D tys) {x y : Int32} (hd : decode cc pc = .ok (.iadd, 1))
    (k : qG p l e R s m args below meth c nL D A A' Q cells slots lv (.int (x + y) :: rest) ws (pc + 1)) : qG p l e R s m args below meth c nL D A A' Q cells slots lv (.int y :: .int x :: rest) ws pc := fun H locs ls h1 h2 h3 h4 => lv_iadd C.1 C.2.1 hd (k H locs ls h1 h2 h3 h4)
theorem q_isub (C : qCx p s m args meth c cc nL own Ts D tys) {x y : Int32} (hd : decode cc pc = .ok (.isub, 1))
    (k : qG p l e R s m args below meth c nL D A A' Q cells slots lv (.int (x - y) :: rest) ws (pc + 1)) : qG p l e R s m args below meth c nL D A A' Q cells slots lv (.int y :: .int x :: rest) ws pc := fun H locs ls h1 h2 h3 h4 => lv_isub C.1 C.2.1 hd (k H locs ls h1 h2 h3 h4)
theorem q_imul (C : qCx p s m args meth c cc nL own Ts D tys) {x y : Int32} (hd : decode cc pc = .ok (.imul, 1))
    (k : qG p l e R s m args below meth c nL D A A' Q cells slots lv (.int (x * y) :: rest) ws (pc + 1)) : qG p l e R s m args below meth c nL D A A' Q cells slots lv (.int y :: .int x :: rest) ws pc := fun H locs ls h1 h2 h3 h4 => lv_imul C.1 C.2.1 hd (k H locs ls h1 h2 h3 h4)
theorem q_iand (C : qCx p s m args meth c cc nL own Ts D tys) {x y : Int32} (hd : decode cc pc = .ok (.iand, 1))
    (k : qG p l e R s m args below meth c nL D A A' Q cells slots lv (.int (x &&& y) :: rest) ws (pc + 1)) : qG p l e R s m args below meth c nL D A A' Q cells slots lv (.int y :: .int x :: rest) ws pc := fun H locs ls h1 h2 h3 h4 => lv_iand C.1 C.2.1 hd (k H locs ls h1 h2 h3 h4)
theorem q_ior (C : qCx p s m args meth c cc nL own Ts D tys) {x y : Int32} (hd : decode cc pc = .ok (.ior, 1))
    (k : qG p l e R s m args below meth c nL D A A' Q cells slots lv (.int (x ||| y) :: rest) ws (pc + 1)) : qG p l e R s m args below meth c nL D A A' Q cells slots lv (.int y :: .int x :: rest) ws pc := fun H locs ls h1 h2 h3 h4 => lv_ior C.1 C.2.1 hd (k H locs ls h1 h2 h3 h4)
theorem q_ixor (C : qCx p s m args meth c cc nL own Ts D tys) {x y : Int32} (hd : decode cc pc = .ok (.ixor, 1))
    (k : qG p l e R s m args below meth c nL D A A' Q cells slots lv (.int (x ^^^ y) :: rest) ws (pc + 1)) : qG p l e R s m args below meth c nL D A A' Q cells slots lv (.int y :: .int x :: rest) ws pc := fun H locs ls h1 h2 h3 h4 => lv_ixor C.1 C.2.1 hd (k H locs ls h1 h2 h3 h4)
theorem q_ishl (C : qCx p s m args meth c cc nL own Ts D tys) {x y : Int32} (hd : decode cc pc = .ok (.ishl, 1))
    (k : qG p l e R s m args below meth c nL D A A' Q cells slots lv (.int (x <<< (y &&& 31)) :: rest) ws (pc + 1)) : qG p l e R s m args below meth c nL D A A' Q cells slots lv (.int y :: .int x :: rest) ws pc := fun H locs ls h1 h2 h3 h4 => lv_ishl C.1 C.2.1 hd (k H locs ls h1 h2 h3 h4)
theorem q_ishr (C : qCx p s m args meth c cc nL own Ts D tys) {x y : Int32} (hd : decode cc pc = .ok (.ishr, 1))
    (k : qG p l e R s m args below meth c nL D A A' Q cells slots lv (.int (x >>> (y &&& 31)) :: rest) ws (pc + 1)) : qG p l e R s m args below meth c nL D A A' Q cells slots lv (.int y :: .int x :: rest) ws pc := fun H locs ls h1 h2 h3 h4 => lv_ishr C.1 C.2.1 hd (k H locs ls h1 h2 h3 h4)
theorem q_idiv (C : qCx p s m args meth c cc nL own Ts D tys) {x y : Int32} (hd : decode cc pc = .ok (.idiv, 1)) (hne : ¬ y = 0)
    (k : qG p l e R s m args below meth c nL D A A' Q cells slots lv (.int (x / y) :: rest) ws (pc + 1)) : qG p l e R s m args below meth c nL D A A' Q cells slots lv (.int y :: .int x :: rest) ws pc := fun H locs ls h1 h2 h3 h4 => lv_idiv C.1 C.2.1 hd hne (k H locs ls h1 h2 h3 h4)
theorem q_irem (C : qCx p s m args meth c cc nL own Ts D tys) {x y : Int32} (hd : decode cc pc = .ok (.irem, 1)) (hne : ¬ y = 0)
    (k : qG p l e R s m args below meth c nL D A A' Q cells slots lv (.int (x - x / y * y) :: rest) ws (pc + 1)) : qG p l e R s m args below meth c nL D A A' Q cells slots lv (.int y :: .int x :: rest) ws pc := fun H locs ls h1 h2 h3 h4 => lv_irem C.1 C.2.1 hd hne (k H locs ls h1 h2 h3 h4)
theorem q_iushr (C : qCx p s m args meth c cc nL own Ts D tys) {x y : Int32} (hd : decode cc pc = .ok (.iushr, 1))
    (k : qG p l e R s m args below meth c nL D A A' Q cells slots lv (.int ((x.toUInt32 >>> (y.toUInt32 &&& Int32.toUInt32 31)).toInt32) :: rest) ws (pc + 1)) : qG p l e R s m args below meth c nL D A A' Q cells slots lv (.int y :: .int x :: rest) ws pc := fun H locs ls h1 h2 h3 h4 => lv_iushr C.1 C.2.1 hd rfl (k H locs ls h1 h2 h3 h4)
theorem q_ladd (C : qCx p s m args meth c cc nL own Ts D tys) {x y : Int64} (hd : decode cc pc = .ok (.ladd, 1))
    (k : qG p l e R s m args below meth c nL D A A' Q cells slots lv (.long (x + y) :: rest) ws (pc + 1)) : qG p l e R s m args below meth c nL D A A' Q cells slots lv (.long y :: .long x :: rest) ws pc := fun H locs ls h1 h2 h3 h4 => lv_ladd C.1 C.2.1 hd (k H locs ls h1 h2 h3 h4)
theorem q_lsub (C : qCx p s m args meth c cc nL own Ts D tys) {x y : Int64} (hd : decode cc pc = .ok (.lsub, 1))
    (k : qG p l e R s m args below meth c nL D A A' Q cells slots lv (.long (x - y) :: rest) ws (pc + 1)) : qG p l e R s m args below meth c nL D A A' Q cells slots lv (.long y :: .long x :: rest) ws pc := fun H locs ls h1 h2 h3 h4 => lv_lsub C.1 C.2.1 hd (k H locs ls h1 h2 h3 h4)
theorem q_lmul (C : qCx p s m args meth c cc nL own Ts D tys) {x y : Int64} (hd : decode cc pc = .ok (.lmul, 1))
    (k : qG p l e R s m args below meth c nL D A A' Q cells slots lv (.long (x * y) :: rest) ws (pc + 1)) : qG p l e R s m args below meth c nL D A A' Q cells slots lv (.long y :: .long x :: rest) ws pc := fun H locs ls h1 h2 h3 h4 => lv_lmul C.1 C.2.1 hd (k H locs ls h1 h2 h3 h4)
theorem q_ldiv (C : qCx p s m args meth c cc nL own Ts D tys) {x y : Int64} (hd : decode cc pc = .ok (.ldiv, 1)) (hne : ¬ y = 0)
    (k : qG p l e R s m args below meth c nL D A A' Q cells slots lv (.long (x / y) :: rest) ws (pc + 1)) : qG p l e R s m args below meth c nL D A A' Q cells slots lv (.long y :: .long x :: rest) ws pc := fun H locs ls h1 h2 h3 h4 => lv_ldiv C.1 C.2.1 hd hne (k H locs ls h1 h2 h3 h4)
theorem q_lrem (C : qCx p s m args meth c cc nL own Ts D tys) {x y : Int64} (hd : decode cc pc = .ok (.lrem, 1)) (hne : ¬ y = 0)
    (k : qG p l e R s m args below meth c nL D A A' Q cells slots lv (.long (x - x / y * y) :: rest) ws (pc + 1)) : qG p l e R s m args below meth c nL D A A' Q cells slots lv (.long y :: .long x :: rest) ws pc := fun H locs ls h1 h2 h3 h4 => lv_lrem C.1 C.2.1 hd hne (k H locs ls h1 h2 h3 h4)
theorem q_i2l (C : qCx p s m args meth c cc nL own Ts D tys) {x : Int32} (hd : decode cc pc = .ok (.i2l, 1))
    (k : qG p l e R s m args below meth c nL D A A' Q cells slots lv (.long x.toInt64 :: rest) ws (pc + 1)) : qG p l e R s m args below meth c nL D A A' Q cells slots lv (.int x :: rest) ws pc := fun H locs ls h1 h2 h3 h4 => lv_i2l C.1 C.2.1 hd rfl (k H locs ls h1 h2 h3 h4)
theorem q_lcmp (C : qCx p s m args meth c cc nL own Ts D tys) {x y : Int64} (hd : decode cc pc = .ok (.lcmp, 1))
    (k : qG p l e R s m args below meth c nL D A A' Q cells slots lv (.int (lg_cmp x y) :: rest) ws (pc + 1)) : qG p l e R s m args below meth c nL D A A' Q cells slots lv (.long y :: .long x :: rest) ws pc := fun H locs ls h1 h2 h3 h4 => W.lcmp C.1 C.2.1 hd (k H locs ls h1 h2 h3 h4)
theorem q_dup (C : qCx p s m args meth c cc nL own Ts D tys) {v : Value} (hd : decode cc pc = .ok (.dup, 1)) (hv : v.category = 1)
    (k : qG p l e R s m args below meth c nL D A A' Q cells slots lv (v :: v :: rest) ws (pc + 1)) : qG p l e R s m args below meth c nL D A A' Q cells slots lv (v :: rest) ws pc := fun H locs ls h1 h2 h3 h4 => lv_dup C.1 C.2.1 hd hv (k H locs ls h1 h2 h3 h4)
theorem q_pop (C : qCx p s m args meth c cc nL own Ts D tys) {v : Value} (hd : decode cc pc = .ok (.pop, 1)) (hv : v.category = 1)
    (k : qG p l e R s m args below meth c nL D A A' Q cells slots lv rest ws (pc + 1)) : qG p l e R s m args below meth c nL D A A' Q cells slots lv (v :: rest) ws pc := fun H locs ls h1 h2 h3 h4 => lv_pop C.1 C.2.1 hd hv (k H locs ls h1 h2 h3 h4)
theorem q_dup2 (C : qCx p s m args meth c cc nL own Ts D tys) {v v2 : Value} (hd : decode cc pc = .ok (.dup2, 1)) (hv : v.category = 1) (hv2 : v2.category = 1)
    (k : qG p l e R s m args below meth c nL D A A' Q cells slots lv (v :: v2 :: v :: v2 :: rest) ws (pc + 1)) : qG p l e R s m args below meth c nL D A A' Q cells slots lv (v :: v2 :: rest) ws pc := fun H locs ls h1 h2 h3 h4 => lv_dup2_11 C.1 C.2.1 hd hv hv2 (k H locs ls h1 h2 h3 h4)
theorem q_if_eq (C : qCx p s m args meth c cc nL own Ts D tys) {x : Int32} {off : Int} {tgt : Nat} (hd : decode cc pc = .ok (.ifCond .eq off, 3)) (ht : (pc : Int) + off = (tgt : Int)) (kt : x = 0 → qG p l e R s m args below meth c nL D A A' Q cells slots lv rest ws tgt) (kf : ¬ x = 0 → qG p l e R s m args below meth c nL D A A' Q cells slots lv rest ws (pc + 3)) : qG p l e R s m args below meth c nL D A A' Q cells slots lv (.int x :: rest) ws pc := fun H locs ls h1 h2 h3 h4 => lv_if_eq C.1 C.2.1 hd ht (fun z => kt z H locs ls h1 h2 h3 h4) (fun z => kf z H locs ls h1 h2 h3 h4)
theorem q_if_ne (C : qCx p s m args meth c cc nL own Ts D tys) {x : Int32} {off : Int} {tgt : Nat} (hd : decode cc pc = .ok (.ifCond .ne off, 3)) (ht : (pc : Int) + off = (tgt : Int)) (kt : ¬ x = 0 → qG p l e R s m args below meth c nL D A A' Q cells slots lv rest ws tgt) (kf : x = 0 → qG p l e R s m args below meth c nL D A A' Q cells slots lv rest ws (pc + 3)) : qG p l e R s m args below meth c nL D A A' Q cells slots lv (.int x :: rest) ws pc := fun H locs ls h1 h2 h3 h4 => lv_if_ne C.1 C.2.1 hd ht (fun z => kt z H locs ls h1 h2 h3 h4) (fun z => kf z H locs ls h1 h2 h3 h4)
theorem q_if_lt (C : qCx p s m args meth c cc nL own Ts D tys) {x : Int32} {off : Int} {tgt : Nat} (hd : decode cc pc = .ok (.ifCond .lt off, 3)) (ht : (pc : Int) + off = (tgt : Int)) (kt : x < 0 → qG p l e R s m args below meth c nL D A A' Q cells slots lv rest ws tgt) (kf : ¬ x < 0 → qG p l e R s m args below meth c nL D A A' Q cells slots lv rest ws (pc + 3)) : qG p l e R s m args below meth c nL D A A' Q cells slots lv (.int x :: rest) ws pc := fun H locs ls h1 h2 h3 h4 => lv_if_lt C.1 C.2.1 hd ht (fun z => kt z H locs ls h1 h2 h3 h4) (fun z => kf z H locs ls h1 h2 h3 h4)
theorem q_if_ge (C : qCx p s m args meth c cc nL own Ts D tys) {x : Int32} {off : Int} {tgt : Nat} (hd : decode cc pc = .ok (.ifCond .ge off, 3)) (ht : (pc : Int) + off = (tgt : Int)) (kt : 0 ≤ x → qG p l e R s m args below meth c nL D A A' Q cells slots lv rest ws tgt) (kf : ¬ 0 ≤ x → qG p l e R s m args below meth c nL D A A' Q cells slots lv rest ws (pc + 3)) : qG p l e R s m args below meth c nL D A A' Q cells slots lv (.int x :: rest) ws pc := fun H locs ls h1 h2 h3 h4 => lv_if_ge C.1 C.2.1 hd ht (fun z => kt z H locs ls h1 h2 h3 h4) (fun z => kf z H locs ls h1 h2 h3 h4)
theorem q_if_gt (C : qCx p s m args meth c cc nL own Ts D tys) {x : Int32} {off : Int} {tgt : Nat} (hd : decode cc pc = .ok (.ifCond .gt off, 3)) (ht : (pc : Int) + off = (tgt : Int)) (kt : 0 < x → qG p l e R s m args below meth c nL D A A' Q cells slots lv rest ws tgt) (kf : ¬ 0 < x → qG p l e R s m args below meth c nL D A A' Q cells slots lv rest ws (pc + 3)) : qG p l e R s m args below meth c nL D A A' Q cells slots lv (.int x :: rest) ws pc := fun H locs ls h1 h2 h3 h4 => lv_if_gt C.1 C.2.1 hd ht (fun z => kt z H locs ls h1 h2 h3 h4) (fun z => kf z H locs ls h1 h2 h3 h4)
theorem q_if_le (C : qCx p s m args meth c cc nL own Ts D tys) {x : Int32} {off : Int} {tgt : Nat} (hd : decode cc pc = .ok (.ifCond .le off, 3)) (ht : (pc : Int) + off = (tgt : Int)) (kt : x ≤ 0 → qG p l e R s m args below meth c nL D A A' Q cells slots lv rest ws tgt) (kf : ¬ x ≤ 0 → qG p l e R s m args below meth c nL D A A' Q cells slots lv rest ws (pc + 3)) : qG p l e R s m args below meth c nL D A A' Q cells slots lv (.int x :: rest) ws pc := fun H locs ls h1 h2 h3 h4 => lv_if_le C.1 C.2.1 hd ht (fun z => kt z H locs ls h1 h2 h3 h4) (fun z => kf z H locs ls h1 h2 h3 h4)
theorem q_icmp_eq (C : qCx p s m args meth c cc nL own Ts D tys) {x y : Int32} {off : Int} {tgt : Nat} (hd : decode cc pc = .ok (.if_icmp .eq off, 3)) (ht : (pc : Int) + off = (tgt : Int)) (kt : x = y → qG p l e R s m args below meth c nL D A A' Q cells slots lv rest ws tgt) (kf : ¬ x = y → qG p l e R s m args below meth c nL D A A' Q cells slots lv rest ws (pc + 3)) : qG p l e R s m args below meth c nL D A A' Q cells slots lv (.int y :: .int x :: rest) ws pc := fun H locs ls h1 h2 h3 h4 => lv_icmp_eq C.1 C.2.1 hd ht (fun z => kt z H locs ls h1 h2 h3 h4) (fun z => kf z H locs ls h1 h2 h3 h4)
theorem q_icmp_ne (C : qCx p s m args meth c cc nL own Ts D tys) {x y : Int32} {off : Int} {tgt : Nat} (hd : decode cc pc = .ok (.if_icmp .ne off, 3)) (ht : (pc : Int) + off = (tgt : Int)) (kt : ¬ x = y → qG p l e R s m args below meth c nL D A A' Q cells slots lv rest ws tgt) (kf : x = y → qG p l e R s m args below meth c nL D A A' Q cells slots lv rest ws (pc + 3)) : qG p l e R s m args below meth c nL D A A' Q cells slots lv (.int y :: .int x :: rest) ws pc := fun H locs ls h1 h2 h3 h4 => lv_icmp_ne C.1 C.2.1 hd ht (fun z => kt z H locs ls h1 h2 h3 h4) (fun z => kf z H locs ls h1 h2 h3 h4)
theorem q_icmp_lt (C : qCx p s m args meth c cc nL own Ts D tys) {x y : Int32} {off : Int} {tgt : Nat} (hd : decode cc pc = .ok (.if_icmp .lt off, 3)) (ht : (pc : Int) + off = (tgt : Int)) (kt : x < y → qG p l e R s m args below meth c nL D A A' Q cells slots lv rest ws tgt) (kf : ¬ x < y → qG p l e R s m args below meth c nL D A A' Q cells slots lv rest ws (pc + 3)) : qG p l e R s m args below meth c nL D A A' Q cells slots lv (.int y :: .int x :: rest) ws pc := fun H locs ls h1 h2 h3 h4 => lv_icmp_lt C.1 C.2.1 hd ht (fun z => kt z H locs ls h1 h2 h3 h4) (fun z => kf z H locs ls h1 h2 h3 h4)
theorem q_icmp_ge (C : qCx p s m args meth c cc nL own Ts D tys) {x y : Int32} {off : Int} {tgt : Nat} (hd : decode cc pc = .ok (.if_icmp .ge off, 3)) (ht : (pc : Int) + off = (tgt : Int)) (kt : y ≤ x → qG p l e R s m args below meth c nL D A A' Q cells slots lv rest ws tgt) (kf : ¬ y ≤ x → qG p l e R s m args below meth c nL D A A' Q cells slots lv rest ws (pc + 3)) : qG p l e R s m args below meth c nL D A A' Q cells slots lv (.int y :: .int x :: rest) ws pc := fun H locs ls h1 h2 h3 h4 => lv_icmp_ge C.1 C.2.1 hd ht (fun z => kt z H locs ls h1 h2 h3 h4) (fun z => kf z H locs ls h1 h2 h3 h4)
theorem q_icmp_gt (C : qCx p s m args meth c cc nL own Ts D tys) {x y : Int32} {off : Int} {tgt : Nat} (hd : decode cc pc = .ok (.if_icmp .gt off, 3)) (ht : (pc : Int) + off = (tgt : Int)) (kt : y < x → qG p l e R s m args below meth c nL D A A' Q cells slots lv rest ws tgt) (kf : ¬ y < x → qG p l e R s m args below meth c nL D A A' Q cells slots lv rest ws (pc + 3)) : qG p l e R s m args below meth c nL D A A' Q cells slots lv (.int y :: .int x :: rest) ws pc := fun H locs ls h1 h2 h3 h4 => lv_icmp_gt C.1 C.2.1 hd ht (fun z => kt z H locs ls h1 h2 h3 h4) (fun z => kf z H locs ls h1 h2 h3 h4)
theorem q_icmp_le (C : qCx p s m args meth c cc nL own Ts D tys) {x y : Int32} {off : Int} {tgt : Nat} (hd : decode cc pc = .ok (.if_icmp .le off, 3)) (ht : (pc : Int) + off = (tgt : Int)) (kt : x ≤ y → qG p l e R s m args below meth c nL D A A' Q cells slots lv rest ws tgt) (kf : ¬ x ≤ y → qG p l e R s m args below meth c nL D A A' Q cells slots lv rest ws (pc + 3)) : qG p l e R s m args below meth c nL D A A' Q cells slots lv (.int y :: .int x :: rest) ws pc := fun H locs ls h1 h2 h3 h4 => lv_icmp_le C.1 C.2.1 hd ht (fun z => kt z H locs ls h1 h2 h3 h4) (fun z => kf z H locs ls h1 h2 h3 h4)
theorem q_goto (C : qCx p s m args meth c cc nL own Ts D tys) {off : Int} {tgt : Nat} (hd : decode cc pc = .ok (.goto off, 3)) (ht : (pc : Int) + off = (tgt : Int)) (k : qG p l e R s m args below meth c nL D A A' Q cells slots lv st ws tgt) : qG p l e R s m args below meth c nL D A A' Q cells slots lv st ws pc := fun H locs ls h1 h2 h3 h4 => lv_goto C.1 C.2.1 hd ht (k H locs ls h1 h2 h3 h4)
theorem q_ifnonnull (C : qCx p s m args meth c cc nL own Ts D tys) {x : Nat} {off : Int} {tgt : Nat} (hd : decode cc pc = .ok (.ifnonnull off, 3)) (ht : (pc : Int) + off = (tgt : Int)) (k : qG p l e R s m args below meth c nL D A A' Q cells slots lv rest ws tgt) : qG p l e R s m args below meth c nL D A A' Q cells slots lv (.ref x :: rest) ws pc := fun H locs ls h1 h2 h3 h4 => lv_ifnonnull C.1 C.2.1 hd ht (k H locs ls h1 h2 h3 h4)
theorem q_ifnonnullN (C : qCx p s m args meth c cc nL own Ts D tys) {off : Int} (hd : decode cc pc = .ok (.ifnonnull off, 3)) (k : qG p l e R s m args below meth c nL D A A' Q cells slots lv rest ws (pc + 3)) : qG p l e R s m args below meth c nL D A A' Q cells slots lv (.null :: rest) ws pc := fun H locs ls h1 h2 h3 h4 => lv_ifnonnullN C.1 C.2.1 hd (k H locs ls h1 h2 h3 h4)
theorem q_tab (C : qCx p s m args meth c cc nL own Ts D tys) {dflt lo hi : Int} {offs : Array Int} {len : Nat} {x : Int32} {off : Int} {tgt : Nat} (hd : decode cc pc = .ok (.tableswitch dflt lo hi offs, len)) (v : Int) (hx : x.toInt = v) (h1 : ¬ v < lo) (h2 : ¬ hi < v) (ho : offs[(v - lo).toNat]? = some off) (ht : (pc : Int) + off = (tgt : Int)) (k : qG p l e R s m args below meth c nL D A A' Q cells slots lv rest ws tgt) : qG p l e R s m args below meth c nL D A A' Q cells slots lv (.int x :: rest) ws pc := by
  subst hx
  exact fun H locs ls g1 g2 g3 g4 => lv_tableIn C.1 C.2.1 hd h1 h2 ho ht (k H locs ls g1 g2 g3 g4)
theorem q_tabD (C : qCx p s m args meth c cc nL own Ts D tys) {dflt lo hi : Int} {offs : Array Int} {len : Nat} {x : Int32} {tgt : Nat} (hd : decode cc pc = .ok (.tableswitch dflt lo hi offs, len)) (h : x.toInt < lo ∨ hi < x.toInt) (ht : (pc : Int) + dflt = (tgt : Int)) (k : qG p l e R s m args below meth c nL D A A' Q cells slots lv rest ws tgt) : qG p l e R s m args below meth c nL D A A' Q cells slots lv (.int x :: rest) ws pc :=
  fun H locs ls g1 g2 g3 g4 => lv_tableOut C.1 C.2.1 hd h ht (k H locs ls g1 g2 g3 g4)
theorem q_lookup (C : qCx p s m args meth c cc nL own Ts D tys) {dflt : Int} {ps : Array (Int × Int)} {len : Nat} {x : Int32} {off : Int} {tgt : Nat} (hd : decode cc pc = .ok (.lookupswitch dflt ps, len)) (hp : (ps.toList.zip (ps.toList.drop 1)).all (fun (a, next) => a.1 < next.1) = true) (ho : Op.lookupswitch.offset ps.toList dflt x.toInt = off) (ht : (pc : Int) + off = (tgt : Int)) (k : qG p l e R s m args below meth c nL D A A' Q cells slots lv rest ws tgt) : qG p l e R s m args below meth c nL D A A' Q cells slots lv (.int x :: rest) ws pc :=
  fun H locs ls g1 g2 g3 g4 => lv_lookup C.1 C.2.1 hd hp ho ht (k H locs ls g1 g2 g3 g4)
theorem q_get (C : qCx p s m args meth c cc nL own Ts D tys) {ref C0 : String} {T : u_T} {N ci index a k0 : Nat} {fs : List Value} (hin : ∀ w ∈ u_ws C0 T N, w ∈ Ts) (q0 : Nat) (he : ws[q0]? = some (a, .inr (ci, fs))) (hc : vwCl[ci]? = some (C0, T, N)) (hk : k0 < N) (hlk : Cond.fieldLink own index ref (T k0).2.1 (T k0).2.2.1 ∈ Ts) (hsm : (T k0).1 = ref) {v : Value} (hv : fs[k0]? = some v) (hd : decode cc pc = .ok (.getfield index, 3)) (k : qG p l e R s m args below meth c nL D A A' Q cells slots lv (v :: rest) ws (pc + 3)) : qG p l e R s m args below meth c nL D A A' Q cells slots lv (.ref a :: rest) ws pc := fun H locs ls h1 h2 h3 h4 =>
  va_get C.1 C.2.1 C.2.2.2.2.1 hin C.2.2.2.1 C.2.2.2.2.2.1 h2 q0 he hc k0 hk (C.2.2.2.2.1 _ hlk) (fun x9 h9 => by rw [← hsm]; exact h9) hv hd (k H locs ls h1 h2 h3 h4)
theorem q_put (C : qCx p s m args meth c cc nL own Ts D tys) {ref C0 : String} {T : u_T} {N ci index a k0 : Nat} {fs : List Value} (hin : ∀ w ∈ u_ws C0 T N, w ∈ Ts) (q0 : Nat) (he : ws[q0]? = some (a, .inr (ci, fs))) (hc : vwCl[ci]? = some (C0, T, N)) (hk : k0 < N) (hlk : Cond.fieldLink own index ref (T k0).2.1 (T k0).2.2.1 ∈ Ts) (hsm : (T k0).1 = ref) (ty0 : Nat → FieldType) (hty : ∀ k, k < N → parseFieldDescriptor (T k).2.2.1 = some (ty0 k)) (hnm : ∀ a, a < N → ∀ b, b < N → a ≠ b → (T a).2.1 ≠ (T b).2.1) (hfin : (T k0).2.2.2 = false) {v : Value} (hn : narrow (ty0 k0) v = v) (hfit : fits (ty0 k0) v = true) (hl : k0 < fs.length) (ws1 : va_W) (hw : ws.set q0 (a, .inr (ci, fs.set k0 v)) = ws1) (hd : decode cc pc = .ok (.putfield index, 3)) (k : qG p l e R s m args below meth c nL D A A Q cells slots lv rest ws1 (pc + 3)) : qG p l e R s m args below meth c nL D A A Q cells slots lv (v :: .ref a :: rest) ws pc := fun H locs ls h1 h2 h3 h4 =>
  va_put C.1 C.2.1 C.2.2.2.2.1 hin ty0 hty hnm C.2.2.2.1 C.2.2.2.2.2.1 h2 h3 h4 q0 he hc k0 hk (C.2.2.2.2.1 _ hlk) (fun x9 h9 => by rw [← hsm]; exact h9) hfin (hty k0 hk) hn hfit hl hd (fun H1 locs1 g2 g3 g4 => k H1 locs1 ls h1 (hw ▸ g2) (hw ▸ g3) g4)
theorem q_putF (C : qCx p s m args meth c cc nL own Ts D tys) {ref C0 : String} {T : u_T} {N ci index a k0 : Nat} {fs : List Value} (hin : ∀ w ∈ u_ws C0 T N, w ∈ Ts) (q0 : Nat) (he : ws[q0]? = some (a, .inr (ci, fs))) (hc : vwCl[ci]? = some (C0, T, N)) (hk : k0 < N) (hlk : Cond.fieldLink own index ref (T k0).2.1 (T k0).2.2.1 ∈ Ts) (hsm : (T k0).1 = ref) (ty0 : Nat → FieldType) (hty : ∀ k, k < N → parseFieldDescriptor (T k).2.2.1 = some (ty0 k)) (hnm : ∀ a, a < N → ∀ b, b < N → a ≠ b → (T a).2.1 ≠ (T b).2.1) (hfin : (T k0).2.2.2 = true) (hin2 : meth.name = "<init>") (hdecl : (T k0).1 = own) {v : Value} (hn : narrow (ty0 k0) v = v) (hfit : fits (ty0 k0) v = true) (hl : k0 < fs.length) (ws1 : va_W) (hw : ws.set q0 (a, .inr (ci, fs.set k0 v)) = ws1) (hd : decode cc pc = .ok (.putfield index, 3)) (k : qG p l e R s m args below meth c nL D A A Q cells slots lv rest ws1 (pc + 3)) : qG p l e R s m args below meth c nL D A A Q cells slots lv (v :: .ref a :: rest) ws pc := fun H locs ls h1 h2 h3 h4 =>
  va_putF C.1 C.2.1 C.2.2.2.2.1 hin ty0 hty hnm C.2.2.2.1 C.2.2.2.2.2.1 h2 h3 h4 q0 he hc k0 hk (C.2.2.2.2.1 _ hlk) (fun x9 h9 => by rw [← hsm]; exact h9) hfin hin2 hdecl (hty k0 hk) hn hfit hl hd (fun H1 locs1 g2 g3 g4 => k H1 locs1 ls h1 (hw ▸ g2) (hw ▸ g3) g4)
theorem q_iald (C : qCx p s m args meth c cc nL own Ts D tys) (q0 t0 : Nat) {cA : ClassId} {n a : Nat} {f : Nat → Int32} (ha : ws[q0]? = some (a, .inl (cA, n, .inl f))) (ht : tys[t0]? = some (cA, .int)) {i : Int32} (hin : vp_in i n) (hd : decode cc pc = .ok (.iaload, 1)) (k : qG p l e R s m args below meth c nL D A A' Q cells slots lv (.int (f i.toNatClampNeg) :: rest) ws (pc + 1)) : qG p l e R s m args below meth c nL D A A' Q cells slots lv (.int i :: .ref a :: rest) ws pc := fun H locs ls h1 h2 h3 h4 =>
  va_iald C.1 C.2.1 C.2.2.2.2.2.1 h2 q0 t0 ha ht hin hd (k H locs ls h1 h2 h3 h4)
theorem q_zald (C : qCx p s m args meth c cc nL own Ts D tys) (q0 t0 : Nat) {cA : ClassId} {n a : Nat} {f : Nat → Int32} (ha : ws[q0]? = some (a, .inl (cA, n, .inl f))) (ht : tys[t0]? = some (cA, .boolean)) {i : Int32} (hin : vp_in i n) (hd : decode cc pc = .ok (.baload, 1)) (k : qG p l e R s m args below meth c nL D A A' Q cells slots lv (.int (f i.toNatClampNeg) :: rest) ws (pc + 1)) : qG p l e R s m args below meth c nL D A A' Q cells slots lv (.int i :: .ref a :: rest) ws pc := fun H locs ls h1 h2 h3 h4 =>
  va_zald C.1 C.2.1 C.2.2.2.2.2.1 h2 q0 t0 ha ht hin hd (k H locs ls h1 h2 h3 h4)
theorem q_aald (C : qCx p s m args meth c cc nL own Ts D tys) (q0 t0 : Nat) {cA : ClassId} {n a : Nat} {C0 : String} {f : Nat → Option Nat} (ha : ws[q0]? = some (a, .inl (cA, n, .inr (.inr (.inr (.inr f)))))) (ht : tys[t0]? = some (cA, .object C0)) {i : Int32} (hin : vp_in i n) (v : Value) (hv : va_rf (f i.toNatClampNeg) = v) (hd : decode cc pc = .ok (.aaload, 1)) (k : qG p l e R s m args below meth c nL D A A' Q cells slots lv (v :: rest) ws (pc + 1)) : qG p l e R s m args below meth c nL D A A' Q cells slots lv (.int i :: .ref a :: rest) ws pc := by
  subst hv
  exact fun H locs ls h1 h2 h3 h4 => va_aldq C.1 C.2.1 C.2.2.2.2.2.1 h2 q0 t0 ha ht hin hd (k H locs ls h1 h2 h3 h4)
theorem q_iast (C : qCx p s m args meth c cc nL own Ts D tys) (q0 t0 : Nat) {cA : ClassId} {n a : Nat} {f : Nat → Int32} (ha : ws[q0]? = some (a, .inl (cA, n, .inl f))) (ht : tys[t0]? = some (cA, .int)) {i x : Int32} (hin : vp_in i n) (ws1 : va_W) (hw : ws.set q0 (a, .inl (cA, n, .inl (upd f i.toNatClampNeg x))) = ws1) (hd : decode cc pc = .ok (.iastore, 1)) (k : qG p l e R s m args below meth c nL D A A Q cells slots lv rest ws1 (pc + 1)) : qG p l e R s m args below meth c nL D A A Q cells slots lv (.int x :: .int i :: .ref a :: rest) ws pc := fun H locs ls h1 h2 h3 h4 =>
  va_iast C.1 C.2.1 C.2.2.2.2.2.1 h2 h3 h4 q0 t0 ha ht hin hd (fun H1 locs1 g2 g3 g4 => k H1 locs1 ls h1 (hw ▸ g2) (hw ▸ g3) g4)
theorem q_zast (C : qCx p s m args meth c cc nL own Ts D tys) (q0 t0 : Nat) {cA : ClassId} {n a : Nat} {f : Nat → Int32} (ha : ws[q0]? = some (a, .inl (cA, n, .inl f))) (ht : tys[t0]? = some (cA, .boolean)) {i x : Int32} (hin : vp_in i n) (ws1 : va_W) (hw : ws.set q0 (a, .inl (cA, n, .inl (upd f i.toNatClampNeg (x &&& 1)))) = ws1) (hd : decode cc pc = .ok (.bastore, 1)) (k : qG p l e R s m args below meth c nL D A A Q cells slots lv rest ws1 (pc + 1)) : qG p l e R s m args below meth c nL D A A Q cells slots lv (.int x :: .int i :: .ref a :: rest) ws pc := fun H locs ls h1 h2 h3 h4 =>
  va_zast C.1 C.2.1 C.2.2.2.2.2.1 h2 h3 h4 q0 t0 ha ht hin hd (fun H1 locs1 g2 g3 g4 => k H1 locs1 ls h1 (hw ▸ g2) (hw ▸ g3) g4)
theorem q_aast (C : qCx p s m args meth c cc nL own Ts D tys) (q0 t0 qk ci : Nat) {cA : ClassId} {r : vw_C} {n v a : Nat} {vs : List Value} {f : Nat → Option Nat} (ha : ws[q0]? = some (a, .inl (cA, n, .inr (.inr (.inr (.inr f)))))) (ht : tys[t0]? = some (cA, .object r.1)) (hv : ws[qk]? = some (v, .inr (ci, vs))) (hc : vwCl[ci]? = some r) {i : Int32} (hin : vp_in i n) (ws1 : va_W) (hw : ws.set q0 (a, .inl (cA, n, .inr (.inr (.inr (.inr (va_up f i.toNatClampNeg (some v))))))) = ws1) (hd : decode cc pc = .ok (.aastore, 1)) (k : qG p l e R s m args below meth c nL D A A Q cells slots lv rest ws1 (pc + 1)) : qG p l e R s m args below meth c nL D A A Q cells slots lv (.ref v :: .int i :: .ref a :: rest) ws pc := fun H locs ls h1 h2 h3 h4 =>
  va_astq C.1 C.2.1 C.2.2.2.2.2.1 h2 h3 h4 q0 t0 qk ci ha ht hv hc hin hd (fun H1 locs1 g2 g3 g4 => k H1 locs1 ls h1 (hw ▸ g2) (hw ▸ g3) g4)
theorem q_alen (C : qCx p s m args meth c cc nL own Ts D tys) (q0 t0 : Nat) {cA : ClassId} {a : Nat} {x : vp_A} (ha : ws[q0]? = some (a, .inl (cA, x))) {ty : FieldType} (ht : tys[t0]? = some (cA, ty)) {v : Int32} (hv : Int32.ofNat x.1 = v) (hd : decode cc pc = .ok (.arraylength, 1)) (k : qG p l e R s m args below meth c nL D A A' Q cells slots lv (.int v :: rest) ws (pc + 1)) : qG p l e R s m args below meth c nL D A A' Q cells slots lv (.ref a :: rest) ws pc := fun H locs ls h1 h2 h3 h4 =>
  va_alen C.1 C.2.1 C.2.2.2.2.2.1 h2 q0 t0 ha ht hv hd (k H locs ls h1 h2 h3 h4)
theorem q_mmin (C : qCx p s m args meth c cc nL own Ts D tys) {index : Nat} {x y : Int32} (hl : Cond.methodLink own index Lib.Math.min.name ∈ Ts) (hst : Cond.static Lib.Math.min.name ∈ Ts) (hi : Cond.initialized "java/lang/Math" ∈ Ts) (hcd : Cond.code Lib.Math.min.name Lib.Math.min.code 2 (some .int) ∈ Ts) (hf : 1 ≤ R.frames) (hlo : (rest.map fun v => v.category).sum + 13 ≤ R.locals) (hc : cells ≤ R.cells) (hs : slots ≤ R.slots) (hd : decode cc pc = .ok (.invokestatic index, 3)) (k : qG p l e R s m args below meth c nL D A A' Q cells slots lv (.int (if y < x then y else x) :: rest) ws (pc + 3)) : qG p l e R s m args below meth c nL D A A' Q cells slots lv (.int y :: .int x :: rest) ws pc := fun H locs ls h1 h2 h3 h4 =>
  va_mmin C.1 C.2.1 (by rw [C.2.2.1]; exact h1.1.symm) C.2.2.2.1 (C.2.2.2.2.1 _ hl) (C.2.2.2.2.1 _ hst) (C.2.2.2.2.1 _ hi) (C.2.2.2.2.1 _ hcd) hf hlo hc hs hd (k H locs ls h1 h2 h3 h4)
theorem q_mmax (C : qCx p s m args meth c cc nL own Ts D tys) {index : Nat} {x y : Int32} (hl : Cond.methodLink own index Lib.Math.max.name ∈ Ts) (hst : Cond.static Lib.Math.max.name ∈ Ts) (hi : Cond.initialized "java/lang/Math" ∈ Ts) (hcd : Cond.code Lib.Math.max.name Lib.Math.max.code 2 (some .int) ∈ Ts) (hf : 1 ≤ R.frames) (hlo : (rest.map fun v => v.category).sum + 13 ≤ R.locals) (hc : cells ≤ R.cells) (hs : slots ≤ R.slots) (hd : decode cc pc = .ok (.invokestatic index, 3)) (k : qG p l e R s m args below meth c nL D A A' Q cells slots lv (.int (if x < y then y else x) :: rest) ws (pc + 3)) : qG p l e R s m args below meth c nL D A A' Q cells slots lv (.int y :: .int x :: rest) ws pc := fun H locs ls h1 h2 h3 h4 =>
  va_mmax C.1 C.2.1 (by rw [C.2.2.1]; exact h1.1.symm) C.2.2.2.1 (C.2.2.2.2.1 _ hl) (C.2.2.2.2.1 _ hst) (C.2.2.2.2.1 _ hi) (C.2.2.2.2.1 _ hcd) hf hlo hc hs hd (k H locs ls h1 h2 h3 h4)
theorem q_mmaxL (C : qCx p s m args meth c cc nL own Ts D tys) {index : Nat} {x y : Int64} (hl : Cond.methodLink own index Lib.MathLoose.max_long.x ∈ Ts) (hst : Cond.static Lib.MathLoose.max_long.x ∈ Ts) (hi : Cond.initialized "java/lang/Math" ∈ Ts) (hcd : Cond.code Lib.MathLoose.max_long.x Lib.MathLoose.max_long.code 4 (some .long) ∈ Ts) (hf : 1 ≤ R.frames) (hlo : (rest.map fun v => v.category).sum + 15 ≤ R.locals) (hc : cells ≤ R.cells) (hs : slots ≤ R.slots) (hd : decode cc pc = .ok (.invokestatic index, 3)) (k : qG p l e R s m args below meth c nL D A A' Q cells slots lv (.long (if y < x then x else y) :: rest) ws (pc + 3)) : qG p l e R s m args below meth c nL D A A' Q cells slots lv (.long y :: .long x :: rest) ws pc := fun H locs ls h1 h2 h3 h4 =>
  va_mmax_long C.1 C.2.1 (by rw [C.2.2.1]; exact h1.1.symm) C.2.2.2.1 (C.2.2.2.2.1 _ hl) (C.2.2.2.2.1 _ hst) (C.2.2.2.2.1 _ hi) (C.2.2.2.2.1 _ hcd) hf hlo hc hs hd (k H locs ls h1 h2 h3 h4)
theorem q_newa (C : qCx p s m args meth c cc nL own Ts D tys) (hA : ∀ q, s.heap.size ≤ q → A q) {atype : ArrayType} (hm : Cond.arrayClass (newarray.typeOf atype) ∈ Ts) {ty : FieldType} (hty : newarray.typeOf atype = ty) (t0 : Nat) {cA : ClassId} (ht : tys[t0]? = some (cA, ty)) (hprim : ∀ cB : ClassId, va_RA s cA ty → va_RA s cB ty → cB = cA) {n : Int32} {N' : Nat} {a0 : vp_A} (ha : ∀ cA : ClassId, vp_cell cA a0 = arrV cA N' (fun _ => defaultValue ty)) (hn : ¬ n < 0) (hN : n.toNatClampNeg = N') (hby : N' * componentBytes ty ≤ 536870912) (hcells : cells + 1 ≤ R.cells) (hslots : slots + N' ≤ R.slots) (hd : decode cc pc = .ok (.newarray atype, 2))
    (k : ∀ q : Nat, qG p l e R s m args below meth c nL D A A Q (cells + 1) (slots + N') lv (.ref q :: rest) (ws ++ [(q, .inl (cA, a0))]) (pc + 2)) : qG p l e R s m args below meth c nL D A A Q cells slots lv (.int n :: rest) ws pc := fun H locs ls h1 h2 h3 h4 =>
  va_newa C.1 C.2.1 (C.2.2.2.2.1 _ hm) hty C.2.2.2.2.2.1 h2 h3 h4 hA ha hn hN hby hcells hslots hd (fun q cB H1 gK g2 g3 g4 => by
    have e1 : cB = cA := hprim cB (gK.2 t0 _ ((List.getElem?_append_left (List.getElem?_eq_some_iff.mp ht).1).trans ht)).2 (gK.2 tys.length _ (by rw [List.getElem?_append_right (Nat.le_refl _), Nat.sub_self]; rfl)).2
    subst e1
    exact k q H1 locs ls h1 g2 g3 g4)
theorem q_newq (C : qCx p s m args meth c cc nL own Ts D tys) (hA : ∀ q, s.heap.size ≤ q → A q) {index : Nat} (hm : Cond.classLink own index "SealStrait$Image" ∈ Ts) (t0 : Nat) {cA : ClassId} (ht : tys[t0]? = some (cA, .object "SealStrait$Image")) {n : Int32} {N' : Nat} (hn : ¬ n < 0) (hN : n.toNatClampNeg = N') (hby : N' * 4 ≤ 536870912) (hcells : cells + 1 ≤ R.cells) (hslots : slots + N' ≤ R.slots) (hd : decode cc pc = .ok (.anewarray index, 3))
    (k : ∀ q : Nat, qG p l e R s m args below meth c nL D A A Q (cells + 1) (slots + N') lv (.ref q :: rest) (ws ++ [(q, .inl (cA, N', .inr (.inr (.inr (.inr (fun _ => none))))))]) (pc + 3)) : qG p l e R s m args below meth c nL D A A Q cells slots lv (.int n :: rest) ws pc := fun H locs ls h1 h2 h3 h4 =>
  va_newq C.1 C.2.1 C.2.2.2.1 (C.2.2.2.2.1 _ hm) C.2.2.2.2.2.2.1.2 C.2.2.2.2.2.1 h2 h3 h4 hA hn hN hby hcells hslots hd (fun q cB H1 gK g2 g3 g4 => by
    have e1 : cB = cA := by
      obtain ⟨_, _, _, _, _, f1⟩ := (gK.2 t0 _ ((List.getElem?_append_left (List.getElem?_eq_some_iff.mp ht).1).trans ht)).2
      obtain ⟨_, _, _, _, _, f2⟩ := (gK.2 tys.length _ (by rw [List.getElem?_append_right (Nat.le_refl _), Nat.sub_self]; rfl)).2
      exact Option.some.inj (f2.symm.trans f1)
    subst e1
    exact k q H1 locs ls h1 g2 g3 g4)
theorem q_new (C : qCx p s m args meth c cc nL own Ts D tys) (hA : ∀ q, s.heap.size ≤ q → A q) {C0 : String} {T : u_T} {N ci index : Nat} (hin : ∀ w ∈ u_ws C0 T N, w ∈ Ts) (ty : Nat → FieldType) (hty : ∀ k, k < N → parseFieldDescriptor (T k).2.2.1 = some (ty k)) (hm1 : Cond.classLink own index C0 ∈ Ts) (hm2 : Cond.instantiable C0 N ∈ Ts) (hm3 : Cond.initialized C0 ∈ Ts) (hc : vwCl[ci]? = some (C0, T, N)) {fs : List Value} (hfs : ∀ j, j < N → defaultValue (ty j) = vp_V fs j) (hcells : cells + 1 ≤ R.cells) (hslots : slots + N ≤ R.slots) (hd : decode cc pc = .ok (.new index, 3))
    (k : ∀ q : Nat, qG p l e R s m args below meth c nL D A A Q (cells + 1) (slots + N) lv (.ref q :: st) (ws ++ [(q, .inr (ci, fs))]) (pc + 3)) : qG p l e R s m args below meth c nL D A A Q cells slots lv st ws pc := fun H locs ls h1 h2 h3 h4 =>
  va_new C.1 C.2.1 C.2.2.2.2.1 hin ty hty C.2.2.2.1 (C.2.2.2.2.1 _ hm1) (C.2.2.2.2.1 _ hm2) (C.2.2.2.2.1 _ hm3) C.2.2.2.2.2.1 h2 h3 h4 hA hc hfs hcells hslots hd (fun q H1 g2 g3 g4 => k q H1 locs ls h1 g2 g3 g4)
theorem q_objInit (C : qCx p s m args meth c cc nL own Ts D tys) {index a : Nat} (hm1 : Cond.methodLink own index objectInit ∈ Ts) (hm2 : Cond.instanceMethod objectInit ∈ Ts) (hm3 : Cond.code objectInit ⟨#[0xb1]⟩ 1 none ∈ Ts) (hf : 1 ≤ R.frames) (hlo : (rest.map fun v => v.category).sum + 12 ≤ R.locals) (hd : decode cc pc = .ok (.invokespecial index, 3)) (k : qG p l e R s m args below meth c nL D A A' Q cells slots lv rest ws (pc + 3)) : qG p l e R s m args below meth c nL D A A' Q cells slots lv (.ref a :: rest) ws pc := fun H locs ls h1 h2 h3 h4 =>
  W.objInit C.1 C.2.1 C.2.2.2.1 (C.2.2.2.2.1 _ hm1) (C.2.2.2.2.1 _ hm2) (C.2.2.2.2.1 _ hm3) rfl (by rw [C.2.2.1]; exact h1.1) rfl hd hf (by show 2 * 0 + _ + 12 ≤ _; omega) (k H locs ls h1 h2 h3 h4)
theorem q_cells {k n : Nat} (h1 : cells ≤ k) (h2 : slots ≤ n) (kk : qG p l e R s m args below meth c nL D A A' Q k n lv st ws pc) : qG p l e R s m args below meth c nL D A A' Q cells slots lv st ws pc := fun H locs ls g1 g2 g3 g4 => W.widen h1 h2 (kk H locs ls g1 g2 g3 g4)
theorem q_lsel {lv1 : List (Nat × Value)} (ks : List Nat) (h : lv_pick lv ks = lv1) (k : qG p l e R s m args below meth c nL D A A' Q cells slots lv1 st ws pc) : qG p l e R s m args below meth c nL D A A' Q cells slots lv st ws pc := fun H locs ls g1 g2 g3 g4 => k H locs ls (lv_sub g1 ks h) g2 g3 g4
theorem q_wsub {ws1 : va_W} (is : List Nat) (hn : va_nd is = true) (hs : is.map (fun i => ws[i]?) = ws1.map some) (k : qG p l e R s m args below meth c nL D A A' Q cells slots lv st ws1 pc) : qG p l e R s m args below meth c nL D A A' Q cells slots lv st ws pc := fun H locs ls g1 g2 g3 g4 => k H locs ls g1 (g2.sub is (q_fm hs)) (g3.sub is hn hs) g4
theorem q_ireti (C : qCx p s m args meth c cc nL own Ts D tys) (hA0 : A = (fun _ => False)) {v : Int32} (hr : meth.sig.returnType = some .int) (hd : decode cc pc = .ok (.ireturn, 1)) (hQ : Q = MQ below (qRi v) args s cells slots A) : qG p l e R s m args below meth c nL D A A' Q cells slots lv [.int v] ws pc := by
  subst hA0; subst hQ; exact fun H locs ls h1 h2 h3 h4 =>
  W.iret C.1 C.2.1 hr (fun t ht hW => ⟨⟨v, (), rfl, rfl, trivial⟩, h4.F ht⟩) h4.2.2 hd C.2.2.2.2.2.2.2
theorem q_iretz (C : qCx p s m args meth c cc nL own Ts D tys) (hA0 : A = (fun _ => False)) {v : Int32} (hr : meth.sig.returnType = some .boolean) (hz : v = 0 ∨ v = 1) (hd : decode cc pc = .ok (.ireturn, 1)) (hQ : Q = MQ below (qRz v) args s cells slots A) : qG p l e R s m args below meth c nL D A A' Q cells slots lv [.int v] ws pc := by
  subst hA0; subst hQ; exact fun H locs ls h1 h2 h3 h4 =>
  W.zret C.1 C.2.1 hr (q_nb hz) (fun t ht hW => ⟨⟨v, (), rfl, ⟨rfl, hz⟩, trivial⟩, h4.F ht⟩) h4.2.2 hd C.2.2.2.2.2.2.2
theorem q_iretl (C : qCx p s m args meth c cc nL own Ts D tys) (hA0 : A = (fun _ => False)) {v : Int64} (hr : meth.sig.returnType = some .long) (hd : decode cc pc = .ok (.lreturn, 1)) (hQ : Q = MQ below (qRl v) args s cells slots A) : qG p l e R s m args below meth c nL D A A' Q cells slots lv [.long v] ws pc := by
  subst hA0; subst hQ; exact fun H locs ls h1 h2 h3 h4 =>
  W.lret C.1 C.2.1 hr (fun t ht hW => ⟨⟨v, (), rfl, rfl, trivial⟩, h4.F ht⟩) h4.2.2 hd C.2.2.2.2.2.2.2
theorem q_wreti (C : qCx p s m args meth c cc nL own Ts D tys) {v : Int32} (hr : meth.sig.returnType = some .int) (hd : decode cc pc = .ok (.ireturn, 1)) (hQ : Q = MQ below (qWi v D ws A) args s cells slots A) : qG p l e R s m args below meth c nL D A A Q cells slots lv [.int v] ws pc := by
  subst hQ; exact fun H locs ls h1 h2 h3 h4 =>
  W.iret C.1 C.2.1 hr (fun t ht hW => ⟨⟨v, (), rfl, rfl, by rw [ht]; exact h2, h3⟩, h4.F ht⟩) h4.2.2 hd C.2.2.2.2.2.2.2
theorem q_wretz (C : qCx p s m args meth c cc nL own Ts D tys) {v : Int32} (hr : meth.sig.returnType = some .boolean) (hz : v = 0 ∨ v = 1) (hd : decode cc pc = .ok (.ireturn, 1)) (hQ : Q = MQ below (qWz v D ws A) args s cells slots A) : qG p l e R s m args below meth c nL D A A Q cells slots lv [.int v] ws pc := by
  subst hQ; exact fun H locs ls h1 h2 h3 h4 =>
  W.zret C.1 C.2.1 hr (q_nb hz) (fun t ht hW => ⟨⟨v, (), rfl, ⟨rfl, hz⟩, by rw [ht]; exact h2, h3⟩, h4.F ht⟩) h4.2.2 hd C.2.2.2.2.2.2.2
theorem q_wretl (C : qCx p s m args meth c cc nL own Ts D tys) {v : Int64} (hr : meth.sig.returnType = some .long) (hd : decode cc pc = .ok (.lreturn, 1)) (hQ : Q = MQ below (qWl v D ws A) args s cells slots A) : qG p l e R s m args below meth c nL D A A Q cells slots lv [.long v] ws pc := by
  subst hQ; exact fun H locs ls h1 h2 h3 h4 =>
  W.lret C.1 C.2.1 hr (fun t ht hW => ⟨⟨v, (), rfl, rfl, by rw [ht]; exact h2, h3⟩, h4.F ht⟩) h4.2.2 hd C.2.2.2.2.2.2.2
theorem q_wretv (C : qCx p s m args meth c cc nL own Ts D tys) (hr : meth.sig.returnType = none) (hd : decode cc pc = .ok (.return_, 1)) (hQ : Q = MQ below (qWv D ws A) args s cells slots A) : qG p l e R s m args below meth c nL D A A Q cells slots lv [] ws pc := by
  subst hQ; exact fun H locs ls h1 h2 h3 h4 =>
  W.vret C.1 C.2.1 hr (fun t ht hW => ⟨⟨(), rfl, trivial, by rw [ht]; exact h2, h3⟩, h4.F ht⟩) h4.2.2 hd C.2.2.2.2.2.2.2
theorem q_nretv (C : qCx p s m args meth c cc nL own Ts D tys) {S : Type} {W1 : S → va_W} (u : S) (hu : W1 u = ws) (hr : meth.sig.returnType = none) (hd : decode cc pc = .ok (.return_, 1)) (hQ : Q = MQ below (qNv D W1 A) args s cells slots A) : qG p l e R s m args below meth c nL D A A Q cells slots lv [] ws pc := by
  subst hQ; exact fun H locs ls h1 h2 h3 h4 =>
  W.vret C.1 C.2.1 hr (fun t ht hW => ⟨⟨u, rfl, trivial, by rw [ht, hu]; exact h2, by rw [hu]; exact h3⟩, h4.F ht⟩) h4.2.2 hd C.2.2.2.2.2.2.2
theorem q_met_r {y : MethodName} {wsy ws' : List Cond} {rm : Room} {maxL : Nat} {ret : Option FieldType} {av : List Value} {w0 : va_W} {sz : Nat} {Qc : Array Value → State → Outcome → State → Prop} (hy : plainName y.cls = true) (hw : wsy = Cond.code y cc maxL ret :: ws') (ho : y.cls = own) {lv0 : List (Nat × Value)} (hlv : lv_args 0 av = lv0) (hlen : (lg_sl av).length ≤ maxL)
    (body : ∀ (p : Program) (e : Env) (s : State) (m : MethodId) (args : Array Value) (below : List Frame) (meth : Method) (c : Code), qCx p s m args meth c cc maxL own wsy D tys → meth.sig.returnType = ret → ∀ (A A' : Nat → Prop) (Q : State → Prop), A = (fun _ => False) → Q = MQ below Qc args s 0 0 A → qG p l e rm s m args below meth c maxL D A A' Q 0 0 lv0 [] w0 0) : Met l y wsy rm (qPc av D tys w0 sz) Qc 0 0 (fun _ => False) := by
  refine Met.ofW (cc := cc) (maxL := maxL) (ret := ret) hy hw ?_
  intro p e s m args below meth c s₁ B hml hv
  obtain ⟨rfl, hsz, hP, hK, hD, hN⟩ := hv
  have hl := lv_entry av (n := maxL) hlen
  rw [lg_entry_eq]
  rw [hlv] at hl
  subst ho
  exact body p e s m _ below meth c ⟨B.exec, B.bytes, hml, findClass_of_methodNamed B.named, atoms_spec (ws := wsy) B.pre, hK, hN, B.notSynchronized⟩ B.returns _ _ _ rfl rfl s.heap [] _ hl hP hD va_S.rf
theorem q_met_w {y : MethodName} {wsy ws' : List Cond} {rm : Room} {maxL mc ms : Nat} {ret : Option FieldType} {av : List Value} {w0 : va_W} {sz : Nat} {Qc : (Nat → Prop) → Array Value → State → Outcome → State → Prop} (hy : plainName y.cls = true) (hw : wsy = Cond.code y cc maxL ret :: ws') (ho : y.cls = own) {lv0 : List (Nat × Value)} (hlv : lv_args 0 av = lv0) (hlen : (lg_sl av).length ≤ maxL)
    (body : ∀ (p : Program) (e : Env) (s : State) (m : MethodId) (args : Array Value) (below : List Frame) (meth : Method) (c : Code) (A : Nat → Prop), (∀ q, s.heap.size ≤ q → A q) → qCx p s m args meth c cc maxL own wsy D tys → meth.sig.returnType = ret → meth.name = y.name → ∀ (Q : State → Prop), Q = MQ below (Qc A) args s mc ms A → qG p l e rm s m args below meth c maxL D A A Q 0 0 lv0 [] w0 0) : Met l y wsy rm (qPc av D tys w0 sz) (Qc (va_A w0 sz)) mc ms (va_A w0 sz) := by
  refine Met.ofW (cc := cc) (maxL := maxL) (ret := ret) hy hw ?_
  intro p e s m args below meth c s₁ B hml hv
  obtain ⟨rfl, hsz, hP, hK, hD, hN⟩ := hv
  have hl := lv_entry av (n := maxL) hlen
  rw [lg_entry_eq]
  rw [hlv] at hl
  subst ho
  subst hsz
  exact body p e s m _ below meth c _ (fun q h => Or.inr h) ⟨B.exec, B.bytes, hml, findClass_of_methodNamed B.named, atoms_spec (ws := wsy) B.pre, hK, hN, B.notSynchronized⟩ B.returns (name_of_methodNamed B.named B.method).1 _ rfl s.heap [] _ hl hP (hD.self) va_S.rf
theorem q_runV (C : qCx p s m args meth c cc nL own Ts D tys) {y : MethodName} {bytes : ByteArray} {maxL n index mc ms : Nat} {ret : Option FieldType} {wsy : List Cond} {rm : Room} {As : List Value} {wc : va_W} {Qc : Nat → Array Value → State → Outcome → State → Prop} {free : Nat → Addr → Prop} {C0 : String} {b ci : Nat} {fs : List Value} {q : vw_C} (hM : ∀ sz, Met l y wsy rm (qPc (.ref b :: As) D tys wc sz) (Qc sz) mc ms (free sz)) (cw : CallW R s args own C0 index y bytes maxL ret wsy rm mc ms n) (q0 : Nat) (hb0 : ws[q0]? = some (b, .inr (ci, fs))) (hc : vwCl[ci]? = some q) (hq : q.1 = C0) (isC : List Nat) (hC : isC.map (fun i => ws[i]?) = wc.map some) (hnd : va_nd isC = true) (hn : As.length = n) (hst : st = As.reverse ++ .ref b :: rest) (hW : (rest.map fun v => v.category).sum ≤ 8) (hd : decode cc pc = .ok (.invokevirtual index, 3)) (hf : cells + mc ≤ R.cells ∧ slots + ms ≤ R.slots) : ∀ (H : Heap) (locs : List Loc) (ls : Array Slot), lv_has ls nL lv → va_P D vwCl ws H → va_D A' ws → va_S A s.heap H locs → va_Run p l e R s m args below meth c H locs cells slots mc ms (F0 m pc ls st) rest (Qc H.size (Value.ref b :: As).toArray) (free H.size) := fun H locs ls h1 h2 h3 h4 => by
  subst hq
  exact va_runV (As := As) (rest := rest) (nL := nL) ⟨C.1, C.2.1, C.2.2.1, C.2.2.2.1, C.2.2.2.2.1⟩ (hM H.size) cw ⟨qPc.blind, va_recv C.2.2.2.2.2.1 h2 hc hb0, qPc.pre C (h2.sub isC (q_fm hC)) (h3.sub isC hnd hC)⟩ rfl hn h1.1 hst (lv_room hW) hd hf
theorem q_runS (C : qCx p s m args meth c cc nL own Ts D tys) {y : MethodName} {bytes : ByteArray} {maxL n index mc ms : Nat} {ret : Option FieldType} {wsy : List Cond} {rm : Room} {As : List Value} {wc : va_W} {Qc : Nat → Array Value → State → Outcome → State → Prop} {free : Nat → Addr → Prop} (hM : ∀ sz, Met l y wsy rm (qPc As D tys wc sz) (Qc sz) mc ms (free sz)) (cw : CallB R s args own index y bytes maxL ret wsy rm mc ms n ∧ (Cond.static y).before args s = true) (isC : List Nat) (hC : isC.map (fun i => ws[i]?) = wc.map some) (hnd : va_nd isC = true) (hn : As.length = n) (hst : st = As.reverse ++ rest) (hW : (rest.map fun v => v.category).sum ≤ 8) (hd : decode cc pc = .ok (.invokestatic index, 3)) (hf : cells + mc ≤ R.cells ∧ slots + ms ≤ R.slots) : ∀ (H : Heap) (locs : List Loc) (ls : Array Slot), lv_has ls nL lv → va_P D vwCl ws H → va_D A' ws → va_S A s.heap H locs → va_Run p l e R s m args below meth c H locs cells slots mc ms (F0 m pc ls st) rest (Qc H.size As.toArray) (free H.size) := fun H locs ls h1 h2 h3 h4 =>
  va_runS (As := As) (rest := rest) (nL := nL) ⟨C.1, C.2.1, C.2.2.1, C.2.2.2.1, C.2.2.2.2.1⟩ (hM H.size) cw ⟨qPc.blind, qPc.pre C (h2.sub isC (q_fm hC)) (h3.sub isC hnd hC)⟩ rfl hn h1.1 hst (lv_room hW) hd hf
theorem q_runSN (C : qCx p s m args meth c cc nL own Ts D tys) {y : MethodName} {bytes : ByteArray} {maxL n index mc ms : Nat} {ret : Option FieldType} {wsy : List Cond} {rm : Room} {As : List Value} {wc : va_W} {Qc : Nat → Array Value → State → Outcome → State → Prop} {free : Nat → Addr → Prop} {ws' : List Cond} (hM : ∀ sz, Met l y wsy rm (qPc As D tys wc sz) (Qc sz) mc ms (free sz)) (hG : GoodIn Ts wsy) (hw : wsy = Cond.code y bytes maxL ret :: ws') (hrc : rm.cells = mc) (hrs : rm.slots = ms) (hnl : (own, index, y) ∈ qNest) (hini : Cond.initialized y.cls ∈ Ts) (hstat : Cond.static y ∈ Ts) (hdd : y.cls ≠ "java/lang/invoke/MethodHandle" ∧ y.cls ≠ "java/lang/invoke/VarHandle" ∧ (parseMethodDescriptor y.desc).map (fun d => d.parameters.length) = some n) (hR : rm.frames + 1 ≤ R.frames ∧ 8 + (maxL + 11) + rm.locals ≤ R.locals) (isC : List Nat) (hC : isC.map (fun i => ws[i]?) = wc.map some) (hnd : va_nd isC = true) (hn : As.length = n) (hst : st = As.reverse ++ rest) (hW : (rest.map fun v => v.category).sum ≤ 8) (hd : decode cc pc = .ok (.invokestatic index, 3)) (hf : cells + mc ≤ R.cells ∧ slots + ms ≤ R.slots) : ∀ (H : Heap) (locs : List Loc) (ls : Array Slot), lv_has ls nL lv → va_P D vwCl ws H → va_D A' ws → va_S A s.heap H locs → va_Run p l e R s m args below meth c H locs cells slots mc ms (F0 m pc ls st) rest (Qc H.size As.toArray) (free H.size) := fun H locs ls h1 h2 h3 h4 =>
  va_runSN (As := As) (rest := rest) (nL := nL) ⟨C.1, C.2.1, C.2.2.1, C.2.2.2.1, C.2.2.2.2.1⟩ (hM H.size) ⟨va_cnB n C.2.2.2.2.1 hG hw hrc hrs (C.2.2.2.2.2.2.1.1 _ hnl) (C.2.2.2.2.1 _ hini) hdd hR, C.2.2.2.2.1 _ hstat, trivial⟩ ⟨qPc.blind, qPc.pre C (h2.sub isC (q_fm hC)) (h3.sub isC hnd hC)⟩ rfl hn h1.1 hst (lv_room hW) hd hf
theorem q_runI (C : qCx p s m args meth c cc nL own Ts D tys) {y : MethodName} {bytes : ByteArray} {maxL n index mc ms : Nat} {ret : Option FieldType} {wsy : List Cond} {rm : Room} {As : List Value} {wc : va_W} {Qc : Nat → Array Value → State → Outcome → State → Prop} {free : Nat → Addr → Prop} {b : Nat} (hM : ∀ sz, Met l y wsy rm (qPc (.ref b :: As) D tys wc sz) (Qc sz) mc ms (free sz)) (cw : CallB R s args own index y bytes maxL none wsy rm mc ms n ∧ y.name = "<init>" ∧ (Cond.instanceMethod y).before args s = true) (isC : List Nat) (hC : isC.map (fun i => ws[i]?) = wc.map some) (hnd : va_nd isC = true) (hn : As.length = n) (hst : st = As.reverse ++ .ref b :: rest) (hW : (rest.map fun v => v.category).sum ≤ 8) (hd : decode cc pc = .ok (.invokespecial index, 3)) (hf : cells + mc ≤ R.cells ∧ slots + ms ≤ R.slots) : ∀ (H : Heap) (locs : List Loc) (ls : Array Slot), lv_has ls nL lv → va_P D vwCl ws H → va_D A' ws → va_S A s.heap H locs → va_Run p l e R s m args below meth c H locs cells slots mc ms (F0 m pc ls st) rest (Qc H.size (Value.ref b :: As).toArray) (free H.size) := fun H locs ls h1 h2 h3 h4 =>
  va_runI (As := As) (rest := rest) (nL := nL) ⟨C.1, C.2.1, C.2.2.1, C.2.2.2.1, C.2.2.2.2.1⟩ (hM H.size) cw ⟨qPc.blind, qPc.pre C (h2.sub isC (q_fm hC)) (h3.sub isC hnd hC)⟩ rfl hn h1.1 hst (lv_room hW) hd hf
theorem q_runIN (C : qCx p s m args meth c cc nL own Ts D tys) {y : MethodName} {bytes : ByteArray} {maxL n index mc ms : Nat} {ret : Option FieldType} {wsy : List Cond} {rm : Room} {As : List Value} {wc : va_W} {Qc : Nat → Array Value → State → Outcome → State → Prop} {free : Nat → Addr → Prop} {ws' : List Cond} {b : Nat} (hM : ∀ sz, Met l y wsy rm (qPc (.ref b :: As) D tys wc sz) (Qc sz) mc ms (free sz)) (hG : GoodIn Ts wsy) (hw : wsy = Cond.code y bytes maxL none :: ws') (hrc : rm.cells = mc) (hrs : rm.slots = ms) (hnl : (own, index, y) ∈ qNest) (hini : Cond.initialized y.cls ∈ Ts) (hinst : Cond.instanceMethod y ∈ Ts) (hy1 : y.name = "<init>") (hdd : y.cls ≠ "java/lang/invoke/MethodHandle" ∧ y.cls ≠ "java/lang/invoke/VarHandle" ∧ (parseMethodDescriptor y.desc).map (fun d => d.parameters.length) = some n) (hR : rm.frames + 1 ≤ R.frames ∧ 8 + (maxL + 11) + rm.locals ≤ R.locals) (isC : List Nat) (hC : isC.map (fun i => ws[i]?) = wc.map some) (hnd : va_nd isC = true) (hn : As.length = n) (hst : st = As.reverse ++ .ref b :: rest) (hW : (rest.map fun v => v.category).sum ≤ 8) (hd : decode cc pc = .ok (.invokespecial index, 3)) (hf : cells + mc ≤ R.cells ∧ slots + ms ≤ R.slots) : ∀ (H : Heap) (locs : List Loc) (ls : Array Slot), lv_has ls nL lv → va_P D vwCl ws H → va_D A' ws → va_S A s.heap H locs → va_Run p l e R s m args below meth c H locs cells slots mc ms (F0 m pc ls st) rest (Qc H.size (Value.ref b :: As).toArray) (free H.size) := fun H locs ls h1 h2 h3 h4 =>
  va_runIN (As := As) (rest := rest) (nL := nL) ⟨C.1, C.2.1, C.2.2.1, C.2.2.2.1, C.2.2.2.2.1⟩ (hM H.size) ⟨va_cnB n C.2.2.2.2.1 hG hw hrc hrs (C.2.2.2.2.2.2.1.1 _ hnl) (C.2.2.2.2.1 _ hini) hdd hR, hy1, C.2.2.2.2.1 _ hinst⟩ ⟨qPc.blind, qPc.pre C (h2.sub isC (q_fm hC)) (h3.sub isC hnd hC)⟩ rfl hn h1.1 hst (lv_room hW) hd hf
theorem q_roi {v : Int32} {a : Array Value} (hr : ∀ (H : Heap) (locs : List Loc) (ls : Array Slot), lv_has ls nL lv → va_P D vwCl ws H → va_D A' ws → va_S A s.heap H locs → va_Run p l e R s m args below meth c H locs cells slots 0 0 (F0 m pc ls st) rest (qRi v a) (fun _ => False)) (k : qG p l e R s m args below meth c nL D A A' Q cells slots lv (.int v :: rest) ws (pc + 3)) : qG p l e R s m args below meth c nL D A A' Q cells slots lv st ws pc := fun H locs ls h1 h2 h3 h4 =>
  va_calli (hr H locs ls h1 h2 h3 h4) h4 (fun q _ h => h.elim) (fun q h => h.elim) (fun r u t H1 locs1 ht hvm hw hB hz1 hk1 hS => by
    have e1 : r = v := hw
    have k2 := k H1 locs1 ls h1 (h2.kept (fun i q hq => hk1 q.1 ((h2 i q hq).lt) (fun z => z))) h3 hS
    rw [e1]
    exact k2)
theorem q_roz {v : Int32} {a : Array Value} (hr : ∀ (H : Heap) (locs : List Loc) (ls : Array Slot), lv_has ls nL lv → va_P D vwCl ws H → va_D A' ws → va_S A s.heap H locs → va_Run p l e R s m args below meth c H locs cells slots 0 0 (F0 m pc ls st) rest (qRz v a) (fun _ => False)) (k : (v = 0 ∨ v = 1) → qG p l e R s m args below meth c nL D A A' Q cells slots lv (.int v :: rest) ws (pc + 3)) : qG p l e R s m args below meth c nL D A A' Q cells slots lv st ws pc := fun H locs ls h1 h2 h3 h4 =>
  va_calli (hr H locs ls h1 h2 h3 h4) h4 (fun q _ h => h.elim) (fun q h => h.elim) (fun r u t H1 locs1 ht hvm hw hB hz1 hk1 hS => by
    have e1 : r = v := hw.1
    have k2 := k (by rw [← hw.1]; exact hw.2) H1 locs1 ls h1 (h2.kept (fun i q hq => hk1 q.1 ((h2 i q hq).lt) (fun z => z))) h3 hS
    rw [e1]
    exact k2)
theorem q_rol {v : Int64} {a : Array Value} (hr : ∀ (H : Heap) (locs : List Loc) (ls : Array Slot), lv_has ls nL lv → va_P D vwCl ws H → va_D A' ws → va_S A s.heap H locs → va_Run p l e R s m args below meth c H locs cells slots 0 0 (F0 m pc ls st) rest (qRl v a) (fun _ => False)) (k : qG p l e R s m args below meth c nL D A A' Q cells slots lv (.long v :: rest) ws (pc + 3)) : qG p l e R s m args below meth c nL D A A' Q cells slots lv st ws pc := fun H locs ls h1 h2 h3 h4 =>
  va_calll (hr H locs ls h1 h2 h3 h4) h4 (fun q _ h => h.elim) (fun q h => h.elim) (fun r u t H1 locs1 ht hvm hw hB hz1 hk1 hS => by
    have e1 : r = v := hw
    have k2 := k H1 locs1 ls h1 (h2.kept (fun i q hq => hk1 q.1 ((h2 i q hq).lt) (fun z => z))) h3 hS
    rw [e1]
    exact k2)
theorem q_rwi {v : Int32} {a : Array Value} (hA : ∀ q, s.heap.size ≤ q → A q) {wc w1 : va_W} (ws1 : va_W) (isC isR : List Nat) (hC : isC.map (fun i => ws[i]?) = wc.map some) (hR : isR.map (fun i => ws[i]?) = (isR.filterMap (fun i => ws[i]?)).map some) (hn : va_nd isR = true) (hdis : ∀ i ∈ isR, i ∉ isC) (is1 : List Nat) (hn1 : va_nd is1 = true) (hs1 : is1.map (fun i => (isR.filterMap (fun i => ws[i]?) ++ w1)[i]?) = ws1.map some) (hr : ∀ (H : Heap) (locs : List Loc) (ls : Array Slot), lv_has ls nL lv → va_P D vwCl ws H → va_D A ws → va_S A s.heap H locs → va_Run p l e R s m args below meth c H locs cells slots 0 0 (F0 m pc ls st) rest (qWi v D w1 (va_A wc H.size) a) (va_A wc H.size)) (k : qG p l e R s m args below meth c nL D A A Q cells slots lv (.int v :: rest) ws1 (pc + 3)) : qG p l e R s m args below meth c nL D A A Q cells slots lv st ws pc := fun H locs ls h1 h2 h3 h4 => by
  have hF := va_free h3 h4 hA isC hC
  exact va_calli (hr H locs ls h1 h2 h3 h4) h4 (fun q _ h => hF q h) hF (fun r u t H1 locs1 ht hvm hw hB hz1 hk1 hS => by
    obtain ⟨gP, gD⟩ := va_join (w1 := w1) h2 h3 isC isR hC hR hn hdis hk1 hF (by rw [← ht]; exact hB.1) hB.2
    have k2 := k H1 locs1 ls h1 (gP.sub is1 (q_fm hs1)) (gD.sub is1 hn1 hs1) hS
    have e1 : r = v := hw
    rw [e1]
    exact k2)
theorem q_rwz {v : Int32} {a : Array Value} (hA : ∀ q, s.heap.size ≤ q → A q) {wc w1 : va_W} (ws1 : va_W) (isC isR : List Nat) (hC : isC.map (fun i => ws[i]?) = wc.map some) (hR : isR.map (fun i => ws[i]?) = (isR.filterMap (fun i => ws[i]?)).map some) (hn : va_nd isR = true) (hdis : ∀ i ∈ isR, i ∉ isC) (is1 : List Nat) (hn1 : va_nd is1 = true) (hs1 : is1.map (fun i => (isR.filterMap (fun i => ws[i]?) ++ w1)[i]?) = ws1.map some) (hr : ∀ (H : Heap) (locs : List Loc) (ls : Array Slot), lv_has ls nL lv → va_P D vwCl ws H → va_D A ws → va_S A s.heap H locs → va_Run p l e R s m args below meth c H locs cells slots 0 0 (F0 m pc ls st) rest (qWz v D w1 (va_A wc H.size) a) (va_A wc H.size)) (k : (v = 0 ∨ v = 1) → qG p l e R s m args below meth c nL D A A Q cells slots lv (.int v :: rest) ws1 (pc + 3)) : qG p l e R s m args below meth c nL D A A Q cells slots lv st ws pc := fun H locs ls h1 h2 h3 h4 => by
  have hF := va_free h3 h4 hA isC hC
  exact va_calli (hr H locs ls h1 h2 h3 h4) h4 (fun q _ h => hF q h) hF (fun r u t H1 locs1 ht hvm hw hB hz1 hk1 hS => by
    obtain ⟨gP, gD⟩ := va_join (w1 := w1) h2 h3 isC isR hC hR hn hdis hk1 hF (by rw [← ht]; exact hB.1) hB.2
    have k2 := k (by rw [← hw.1]; exact hw.2) H1 locs1 ls h1 (gP.sub is1 (q_fm hs1)) (gD.sub is1 hn1 hs1) hS
    have e1 : r = v := hw.1
    rw [e1]
    exact k2)
theorem q_rwl {v : Int64} {a : Array Value} (hA : ∀ q, s.heap.size ≤ q → A q) {wc w1 : va_W} (ws1 : va_W) (isC isR : List Nat) (hC : isC.map (fun i => ws[i]?) = wc.map some) (hR : isR.map (fun i => ws[i]?) = (isR.filterMap (fun i => ws[i]?)).map some) (hn : va_nd isR = true) (hdis : ∀ i ∈ isR, i ∉ isC) (is1 : List Nat) (hn1 : va_nd is1 = true) (hs1 : is1.map (fun i => (isR.filterMap (fun i => ws[i]?) ++ w1)[i]?) = ws1.map some) (hr : ∀ (H : Heap) (locs : List Loc) (ls : Array Slot), lv_has ls nL lv → va_P D vwCl ws H → va_D A ws → va_S A s.heap H locs → va_Run p l e R s m args below meth c H locs cells slots 0 0 (F0 m pc ls st) rest (qWl v D w1 (va_A wc H.size) a) (va_A wc H.size)) (k : qG p l e R s m args below meth c nL D A A Q cells slots lv (.long v :: rest) ws1 (pc + 3)) : qG p l e R s m args below meth c nL D A A Q cells slots lv st ws pc := fun H locs ls h1 h2 h3 h4 => by
  have hF := va_free h3 h4 hA isC hC
  exact va_calll (hr H locs ls h1 h2 h3 h4) h4 (fun q _ h => hF q h) hF (fun r u t H1 locs1 ht hvm hw hB hz1 hk1 hS => by
    obtain ⟨gP, gD⟩ := va_join (w1 := w1) h2 h3 isC isR hC hR hn hdis hk1 hF (by rw [← ht]; exact hB.1) hB.2
    have k2 := k H1 locs1 ls h1 (gP.sub is1 (q_fm hs1)) (gD.sub is1 hn1 hs1) hS
    have e1 : r = v := hw
    rw [e1]
    exact k2)
theorem q_rwv {a : Array Value} (hA : ∀ q, s.heap.size ≤ q → A q) {wc w1 : va_W} (ws1 : va_W) (isC isR : List Nat) (hC : isC.map (fun i => ws[i]?) = wc.map some) (hR : isR.map (fun i => ws[i]?) = (isR.filterMap (fun i => ws[i]?)).map some) (hn : va_nd isR = true) (hdis : ∀ i ∈ isR, i ∉ isC) (is1 : List Nat) (hn1 : va_nd is1 = true) (hs1 : is1.map (fun i => (isR.filterMap (fun i => ws[i]?) ++ w1)[i]?) = ws1.map some) (hr : ∀ (H : Heap) (locs : List Loc) (ls : Array Slot), lv_has ls nL lv → va_P D vwCl ws H → va_D A ws → va_S A s.heap H locs → va_Run p l e R s m args below meth c H locs cells slots 0 0 (F0 m pc ls st) rest (qWv D w1 (va_A wc H.size) a) (va_A wc H.size)) (k : qG p l e R s m args below meth c nL D A A Q cells slots lv rest ws1 (pc + 3)) : qG p l e R s m args below meth c nL D A A Q cells slots lv st ws pc := fun H locs ls h1 h2 h3 h4 => by
  have hF := va_free h3 h4 hA isC hC
  exact va_callv (hr H locs ls h1 h2 h3 h4) h4 (fun q _ h => hF q h) hF (fun u t H1 locs1 ht hvm hw hB hz1 hk1 hS => by
    obtain ⟨gP, gD⟩ := va_join (w1 := w1) h2 h3 isC isR hC hR hn hdis hk1 hF (by rw [← ht]; exact hB.1) hB.2
    have k2 := k H1 locs1 ls h1 (gP.sub is1 (q_fm hs1)) (gD.sub is1 hn1 hs1) hS
    exact k2)
theorem q_rnv {a : Array Value} {mc ms : Nat} (hA : ∀ q, s.heap.size ≤ q → A q) {S : Type} {W1 : S → va_W} {wc : va_W} (ws1 : S → va_W) (isC isR : List Nat) (hC : isC.map (fun i => ws[i]?) = wc.map some) (hR : isR.map (fun i => ws[i]?) = (isR.filterMap (fun i => ws[i]?)).map some) (hn : va_nd isR = true) (hdis : ∀ i ∈ isR, i ∉ isC) (is1 : List Nat) (hn1 : va_nd is1 = true) (hs1 : ∀ u, is1.map (fun i => (isR.filterMap (fun i => ws[i]?) ++ W1 u)[i]?) = (ws1 u).map some) (hr : ∀ (H : Heap) (locs : List Loc) (ls : Array Slot), lv_has ls nL lv → va_P D vwCl ws H → va_D A ws → va_S A s.heap H locs → va_Run p l e R s m args below meth c H locs cells slots mc ms (F0 m pc ls st) rest (qNv D W1 (va_A wc H.size) a) (va_A wc H.size)) (k : ∀ u : S, qG p l e R s m args below meth c nL D A A Q (cells + mc) (slots + ms) lv rest (ws1 u) (pc + 3)) : qG p l e R s m args below meth c nL D A A Q cells slots lv st ws pc := fun H locs ls h1 h2 h3 h4 => by
  have hF := va_free h3 h4 hA isC hC
  exact va_callv (hr H locs ls h1 h2 h3 h4) h4 (fun q _ h => hF q h) hF (fun u t H1 locs1 ht hvm hw hB hz1 hk1 hS => by
    obtain ⟨gP, gD⟩ := va_join (w1 := W1 u) h2 h3 isC isR hC hR hn hdis hk1 hF (by rw [← ht]; exact hB.1) hB.2
    exact k u H1 locs1 ls h1 (gP.sub is1 (q_fm (hs1 u))) (gD.sub is1 hn1 (hs1 u)) hS)
end GK
/-! loops: a block B of a method is a step; ev B is where its steps come to -/
def evr {σ ρ : Type} (B : σ → Option (σ ⊕ ρ)) : Nat → σ → Option ρ
  | 0, _ => none
  | n + 1, s => match B s with
    | none => none
    | some (.inl t) => evr B n t
    | some (.inr r) => some r
theorem evr_S {σ ρ : Type} (B : σ → Option (σ ⊕ ρ)) (n : Nat) (s : σ) : evr B (n + 1) s = match B s with | none => none | some (.inl t) => evr B n t | some (.inr r) => some r := rfl
theorem evr_inl {σ ρ : Type} {B : σ → Option (σ ⊕ ρ)} {n : Nat} {s t : σ} (h : B s = some (.inl t)) : evr B (n + 1) s = evr B n t := by rw [evr_S, h]
theorem evr_inr {σ ρ : Type} {B : σ → Option (σ ⊕ ρ)} {n : Nat} {s : σ} {r : ρ} (h : B s = some (.inr r)) : evr B (n + 1) s = some r := by rw [evr_S, h]
theorem evr_mono {σ ρ : Type} {B : σ → Option (σ ⊕ ρ)} : ∀ (n : Nat) (s : σ) (r : ρ), evr B n s = some r → evr B (n + 1) s = some r := by
  intro n
  induction n with
  | zero => intro s r h; cases h
  | succ n ih =>
    intro s r h
    rw [evr_S] at h ⊢
    cases hB : B s with
    | none => rw [hB] at h; cases h
    | some x =>
      rw [hB] at h
      cases x with
      | inl t => exact ih t r h
      | inr r2 => exact h
theorem evr_le {σ ρ : Type} {B : σ → Option (σ ⊕ ρ)} {n k : Nat} {s : σ} {r : ρ} (hk : n ≤ k) (h : evr B n s = some r) : evr B k s = some r := by
  obtain ⟨d, rfl⟩ := Nat.exists_eq_add_of_le hk
  induction d with
  | zero => exact h
  | succ d ih => exact evr_mono _ _ _ (ih (Nat.le_add_right n d))
theorem evr_det {σ ρ : Type} {B : σ → Option (σ ⊕ ρ)} {n k : Nat} {s : σ} {r r2 : ρ} (h : evr B n s = some r) (h2 : evr B k s = some r2) : r = r2 :=
  Option.some.inj ((evr_le (Nat.le_max_left n k) h).symm.trans (evr_le (Nat.le_max_right n k) h2))
noncomputable def ev {σ ρ : Type} (B : σ → Option (σ ⊕ ρ)) (s : σ) : Option ρ := Classical.epsilon (h := ⟨none⟩) (fun o : Option ρ => match o with
  | some r => ∃ n, evr B n s = some r
  | none => ∀ n, evr B n s = none)
theorem ev_iff {σ ρ : Type} (B : σ → Option (σ ⊕ ρ)) (s : σ) (r : ρ) : ev B s = some r ↔ ∃ n, evr B n s = some r := by
  have hs : (match ev B s with | some r => ∃ n, evr B n s = some r | none => ∀ n, evr B n s = none) := by
    refine Classical.epsilon_spec (p := fun o : Option ρ => match o with | some r => ∃ n, evr B n s = some r | none => ∀ n, evr B n s = none) ?_
    by_cases h : ∃ r n, evr B n s = some r
    · obtain ⟨r, h⟩ := h
      exact ⟨some r, h⟩
    · refine ⟨none, fun n => ?_⟩
      cases hn : evr B n s with
      | none => rfl
      | some r => exact absurd ⟨r, n, hn⟩ h
  constructor
  · intro h
    rw [h] at hs
    exact hs
  · intro h
    obtain ⟨n, hn⟩ := h
    cases he : ev B s with
    | none =>
      rw [he] at hs
      have h9 : evr B n s = none := hs n
      rw [h9] at hn
      cases hn
    | some r2 =>
      rw [he] at hs
      obtain ⟨k, hk⟩ := hs
      rw [evr_det hk hn]
theorem ev_inl {σ ρ : Type} {B : σ → Option (σ ⊕ ρ)} {s t : σ} (h : B s = some (.inl t)) : ev B s = ev B t := by
  have key : ∀ r, ev B s = some r ↔ ev B t = some r := by
    intro r
    rw [ev_iff, ev_iff]
    constructor
    · rintro ⟨n, hn⟩
      cases n with
      | zero => cases hn
      | succ n => exact ⟨n, by rw [evr_inl h] at hn; exact hn⟩
    · rintro ⟨n, hn⟩
      exact ⟨n + 1, by rw [evr_inl h]; exact hn⟩
  cases h1 : ev B s with
  | some r => exact ((key r).mp h1).symm
  | none =>
    cases h2 : ev B t with
    | none => rfl
    | some r => rw [(key r).mpr h2] at h1; cases h1
theorem ev_inr {σ ρ : Type} {B : σ → Option (σ ⊕ ρ)} {s : σ} {r : ρ} (h : B s = some (.inr r)) : ev B s = some r := (ev_iff B s r).mpr ⟨1, evr_inr h⟩
/-- a loop that counts -/
theorem ev_for {σ ρ : Type} {B : σ → Option (σ ⊕ ρ)} (f : Nat → σ) (N : Nat) (h : ∀ k, k < N → B (f k) = some (.inl (f (k + 1)))) : ∀ k, k ≤ N → ev B (f k) = ev B (f N) := by
  intro k hk
  obtain ⟨d, hd⟩ := Nat.exists_eq_add_of_le hk
  induction d generalizing k with
  | zero => rw [hd]; rfl
  | succ d ih => rw [ev_inl (h k (by omega)), ih (k + 1) (by omega) (by omega)]
theorem ite_t {α : Type} {c : Prop} {h : Decidable c} {a b r : α} (hF : (if c then a else b) = r) (z : c) : a = r := (if_pos z).symm.trans hF
theorem ite_f {α : Type} {c : Prop} {h : Decidable c} {a b r : α} (hF : (if c then a else b) = r) (z : ¬ c) : b = r := (if_neg z).symm.trans hF
theorem ite_c {α : Type} {c : Prop} {h : Decidable c} {a : Option α} {r : α} (hF : (if c then a else none) = some r) : c ∧ a = some r := by
  by_cases z : c
  · exact ⟨z, ite_t hF z⟩
  · cases (ite_f hF z)
theorem evr_0 {σ ρ : Type} {B : σ → Option (σ ⊕ ρ)} {s : σ} {r : ρ} (h : evr B 0 s = some r) : False := by cases h
theorem evr_c {σ ρ : Type} {B : σ → Option (σ ⊕ ρ)} {n : Nat} {s : σ} {r : ρ} (h : evr B (n + 1) s = some r) : ∃ o, B s = some o ∧ (∀ t, o = .inl t → evr B n t = some r) ∧ (∀ r2, o = .inr r2 → r2 = r) := by
  rw [evr_S] at h
  cases hB : B s with
  | none => rw [hB] at h; cases h
  | some x =>
    rw [hB] at h
    refine ⟨x, rfl, ?_, ?_⟩
    · intro t ht
      subst ht
      exact h
    · intro r2 ht
      subst ht
      exact Option.some.inj h
/-- an index in range -/
def ix (i : Int32) (n : Nat) : Bool := decide (0 ≤ i) && decide (i.toNatClampNeg < n)
theorem ix_in {i : Int32} {n : Nat} (h : ix i n = true) : vp_in i n := by
  unfold ix at h
  simp only [Bool.and_eq_true, decide_eq_true_eq] at h
  intro z
  rcases z with z | z
  · have h1 := h.1
    rw [Int32.le_iff_toInt_le] at h1
    rw [Int32.lt_iff_toInt_lt] at z
    omega
  · omega
theorem q_hprim {s : State} {cA cB : ClassId} (h1 : va_RA s cA .int) (h2 : va_RA s cB .int) : cB = cA := Option.some.inj (h2.symm.trans h1)
theorem q_hprimZ {s : State} {cA cB : ClassId} (h1 : va_RA s cA .boolean) (h2 : va_RA s cB .boolean) : cB = cA := Option.some.inj (h2.symm.trans h1)
/-- the array classes of the claim -/
abbrev qT (cI cZ cQ : ClassId) : List (ClassId × FieldType) := [(cI, .int), (cZ, .boolean), (cQ, .object "SealStrait$Image")]
theorem bind_c {α β : Type} {a : Option α} {f : α → Option β} {r : β} (hF : a.bind f = some r) : ∃ x, a = some x ∧ f x = some r := by
  cases a with
  | none => cases hF
  | some x => exact ⟨x, rfl, hF⟩
end
section
/-! the methods as functions, by program out of the bytecode (wip/whole/gen/gen.py): none: a wrong index, a divisor 0, a boolean that is none, no end -/
/-- SealStrait$Act.set -/
noncomputable def f_Act_set (v_kind : Int32) (v_one : Int32) (v_other : Int32) (p1 : Int32) (p2 : Int32) (p3 : Int32) : Option (Int32 × Int32 × Int32) :=
  some (p1, p2, p3)
/-- SealStrait$Pad.signAt -/
noncomputable def f_Pad_signAt (v_signs : Nat → Int32) (v_size : Int32) (p1 : Int32) : Option (Int32) :=
  if p1 < 0 then
    some (0 : Int32)
  else
  if v_size ≤ p1 then
    some (0 : Int32)
  else
  if (60 : Int32) ≤ p1 then
    some (0 : Int32)
  else
  if ix p1 60 = true then
  some (v_signs (p1).toNatClampNeg)
  else none
/-- SealStrait.within -/
noncomputable def f_Strait_within (p1 : Int32) (p2 : Int32) (p3 : Int32) : Int32 :=
  if p1 < p2 then
    (0 : Int32)
  else
  if p3 < p1 then
    (0 : Int32)
  else
  (1 : Int32)
/-- SealStrait$Pad.isHerd -/
noncomputable def f_Pad_isHerd (p1 : Int32) : Int32 :=
  (f_Strait_within p1 (65 : Int32) (70 : Int32))
/-- SealStrait$Act.takeFrom -/
noncomputable def f_Act_takeFrom (v_kind : Int32) (v_one : Int32) (v_other : Int32) (v_a1_signs : Nat → Int32) (v_a1_size : Int32) (p2 : Int32) : Option (Int32 × Int32 × Int32 × Int32) :=
  (f_Pad_signAt v_a1_signs v_a1_size p2).bind fun r1 =>
  if (f_Pad_isHerd r1) = 0 then
    if r1 = (46 : Int32) then
      (f_Act_set v_kind v_one v_other (4 : Int32) (r1 - (97 : Int32)) (0 : Int32)).bind fun (u20_kind, u20_one, u20_other) =>
      some ((1 : Int32), u20_kind, u20_one, u20_other)
    else
    (f_Act_set v_kind v_one v_other (0 : Int32) (r1 - (97 : Int32)) (0 : Int32)).bind fun (u18_kind, u18_one, u18_other) =>
    some ((1 : Int32), u18_kind, u18_one, u18_other)
  else
  (f_Pad_signAt v_a1_signs v_a1_size (p2 + (1 : Int32))).bind fun r5 =>
  if r5 = (38 : Int32) then
    (f_Pad_signAt v_a1_signs v_a1_size (p2 + (2 : Int32))).bind fun r13 =>
    (f_Act_set v_kind v_one v_other (3 : Int32) (r1 - (65 : Int32)) (r13 - (65 : Int32))).bind fun (u15_kind, u15_one, u15_other) =>
    some ((3 : Int32), u15_kind, u15_one, u15_other)
  else
  if r5 = (63 : Int32) then
    (f_Act_set v_kind v_one v_other (1 : Int32) (r1 - (65 : Int32)) (0 : Int32)).bind fun (u11_kind, u11_one, u11_other) =>
    some ((2 : Int32), u11_kind, u11_one, u11_other)
  else
  (f_Act_set v_kind v_one v_other (2 : Int32) (r1 - (65 : Int32)) (0 : Int32)).bind fun (u9_kind, u9_one, u9_other) =>
  some ((2 : Int32), u9_kind, u9_one, u9_other)
/-- SealStrait$Act.draw -/
noncomputable def f_Act_draw (v_kind : Int32) (v_one : Int32) (v_other : Int32) (p1 : Int32) : Option (Int32 × Int32 × Int32) :=
  if (p1 - p1 / (8 : Int32) * (8 : Int32)) = (4 : Int32) then
    (f_Act_set v_kind v_one v_other (1 : Int32) ((p1 / (8 : Int32)) - (p1 / (8 : Int32)) / (6 : Int32) * (6 : Int32)) (0 : Int32)).bind fun (u2_kind, u2_one, u2_other) =>
    some (u2_kind, u2_one, u2_other)
  else
  if (p1 - p1 / (8 : Int32) * (8 : Int32)) = (5 : Int32) then
    (f_Act_set v_kind v_one v_other (2 : Int32) ((p1 / (8 : Int32)) - (p1 / (8 : Int32)) / (6 : Int32) * (6 : Int32)) (0 : Int32)).bind fun (u5_kind, u5_one, u5_other) =>
    some (u5_kind, u5_one, u5_other)
  else
  if (p1 - p1 / (8 : Int32) * (8 : Int32)) = (6 : Int32) then
    (f_Act_set v_kind v_one v_other (3 : Int32) ((p1 / (8 : Int32)) - (p1 / (8 : Int32)) / (6 : Int32) * (6 : Int32)) (((p1 / (8 : Int32)) / (6 : Int32)) - ((p1 / (8 : Int32)) / (6 : Int32)) / (6 : Int32) * (6 : Int32))).bind fun (u8_kind, u8_one, u8_other) =>
    some (u8_kind, u8_one, u8_other)
  else
  if (p1 - p1 / (8 : Int32) * (8 : Int32)) = (7 : Int32) then
    (f_Act_set v_kind v_one v_other (4 : Int32) (0 : Int32) (0 : Int32)).bind fun (u11_kind, u11_one, u11_other) =>
    some (u11_kind, u11_one, u11_other)
  else
  (f_Act_set v_kind v_one v_other (0 : Int32) ((p1 / (8 : Int32)) - (p1 / (8 : Int32)) / (10 : Int32) * (10 : Int32)) (0 : Int32)).bind fun (u13_kind, u13_one, u13_other) =>
  some (u13_kind, u13_one, u13_other)
/-- java/util/Arrays.fill -/
noncomputable def b_Arrays_fill_1 (n1 : Nat) (x1 : Int32) (x3 : Int32) (x2 : Int32) (v_a1 : Nat → Int32) : Option ((Int32 × (Nat → Int32)) ⊕ ((Nat → Int32))) :=
  if x3 ≤ x2 then
    some (.inr v_a1)
  else
  if ix x2 n1 = true then
  some (.inl ((x2 + 1), (upd v_a1 (x2).toNatClampNeg x1)))
  else none
noncomputable def f_Arrays_fill (n1 : Nat) (v_a1 : Nat → Int32) (p2 : Int32) : Option ((Nat → Int32)) :=
  (ev (fun s => b_Arrays_fill_1 n1 p2 (Int32.ofNat n1) s.1 s.2) ((0 : Int32), v_a1)).bind fun z4_a1 =>
  some z4_a1
/-- SealStrait$Sea.isThere -/
noncomputable def f_Sea_isThere (v_there : Int32) (p1 : Int32) : Int32 :=
  if p1 < 0 then
    (0 : Int32)
  else
  if (6 : Int32) ≤ p1 then
    (0 : Int32)
  else
  if ((v_there >>> (p1 &&& 31)) &&& (1 : Int32)) = (1 : Int32) then
    (1 : Int32)
  else
  (0 : Int32)
/-- SealStrait$Sea.listens -/
noncomputable def f_Sea_listens (v_there : Int32) (v_month : Int32) (v_heads : Nat → Int32) (v_moults : Nat → Int32) (p1 : Int32) : Option (Int32) :=
  if (f_Sea_isThere v_there p1) = 0 then
    some (0 : Int32)
  else
  if ix p1 6 = true then
  if (v_heads (p1).toNatClampNeg) ≤ 0 then
    some (0 : Int32)
  else
  if ix p1 6 = true then
  if (v_moults (p1).toNatClampNeg) = (v_month - v_month / (12 : Int32) * (12 : Int32)) then
    some (0 : Int32)
  else
  some (1 : Int32)
  else none
  else none
/-- SealStrait$Bringing.placeOf -/
noncomputable def f_Bringing_placeOf (v_a1_there : Int32) (v_a1_sides : Nat → Int32) (v_a1_moods : Nat → Int32) (p2 : Int32) : Option (Int32) :=
  if (f_Sea_isThere v_a1_there p2) = 0 then
    some (0 : Int32)
  else
  if ix p2 6 = true then
  if ix p2 6 = true then
  some (((v_a1_sides (p2).toNatClampNeg) * (10 : Int32)) + (v_a1_moods (p2).toNatClampNeg))
  else none
  else none
/-- SealStrait$Bringing.reach -/
noncomputable def f_Bringing_reach (v_steps : Nat → Int32) (v_firsts : Nat → Int32) (v_queue : Nat → Int32) (v_size : Int32) (p1 : Int32) (p2 : Int32) (p3 : Int32) : Option ((Nat → Int32) × (Nat → Int32) × (Nat → Int32) × Int32) :=
  if (f_Strait_within p1 (0 : Int32) (399 : Int32)) = 0 then
    some (v_steps, v_firsts, v_queue, v_size)
  else
  if (400 : Int32) ≤ v_size then
    some (v_steps, v_firsts, v_queue, v_size)
  else
  if ix p1 400 = true then
  if (v_steps (p1).toNatClampNeg) = (-6 : Int32) then
    if ix p1 400 = true then
    if ix p1 400 = true then
    if ix v_size 400 = true then
    some ((upd v_steps (p1).toNatClampNeg p2), (upd v_firsts (p1).toNatClampNeg p3), (upd v_queue (v_size).toNatClampNeg p1), (v_size + (1 : Int32)))
    else none
    else none
    else none
  else
  some (v_steps, v_firsts, v_queue, v_size)
  else none
/-- SealStrait$Bringing.begin -/
noncomputable def f_Bringing_begin (v_steps : Nat → Int32) (v_firsts : Nat → Int32) (v_queue : Nat → Int32) (v_size : Int32) (v_oneListens : Int32) (v_otherListens : Int32) (v_a1_there : Int32) (v_a1_month : Int32) (v_a1_heads : Nat → Int32) (v_a1_sides : Nat → Int32) (v_a1_moods : Nat → Int32) (v_a1_moults : Nat → Int32) (p2 : Int32) (p3 : Int32) : Option ((Nat → Int32) × (Nat → Int32) × (Nat → Int32) × Int32 × Int32 × Int32) :=
  (f_Arrays_fill 400 v_steps (-6 : Int32)).bind fun u1_a1 =>
  (f_Sea_listens v_a1_there v_a1_month v_a1_heads v_a1_moults p2).bind fun r3 =>
  (f_Sea_listens v_a1_there v_a1_month v_a1_heads v_a1_moults p3).bind fun r5 =>
  (f_Bringing_placeOf v_a1_there v_a1_sides v_a1_moods p2).bind fun r7 =>
  (f_Bringing_placeOf v_a1_there v_a1_sides v_a1_moods p3).bind fun r9 =>
  (f_Bringing_reach u1_a1 v_firsts v_queue (0 : Int32) ((r7 * (20 : Int32)) + r9) (0 : Int32) (-6 : Int32)).bind fun (u11_steps, u11_firsts, u11_queue, u11_size) =>
  some (u11_steps, u11_firsts, u11_queue, u11_size, r3, r5)
/-- SealStrait$Treaty.wordsOf -/
noncomputable def f_Treaty_wordsOf (v_words : Nat → Int32) (p1 : Int32) : Option (Int32) :=
  if (f_Strait_within p1 (0 : Int32) (9 : Int32)) = 0 then
    some (3 : Int32)
  else
  if ix p1 10 = true then
  some (v_words (p1).toNatClampNeg)
  else none
/-- SealStrait$Bringing.behindReading -/
noncomputable def f_Bringing_behindReading (p1 : Int32) (p2 : Int32) (p3 : Int32) : Int32 :=
  if p3 = 0 then
    (((p1 / (10 : Int32)) * (10 : Int32)) + (if ((p1 - p1 / (10 : Int32) * (10 : Int32)) + (1 : Int32)) < (9 : Int32) then ((p1 - p1 / (10 : Int32) * (10 : Int32)) + (1 : Int32)) else (9 : Int32)))
  else
  if (p1 - p1 / (10 : Int32) * (10 : Int32)) < p2 then
    (((p1 / (10 : Int32)) * (10 : Int32)) + (if ((p1 - p1 / (10 : Int32) * (10 : Int32)) + (1 : Int32)) < (9 : Int32) then ((p1 - p1 / (10 : Int32) * (10 : Int32)) + (1 : Int32)) else (9 : Int32)))
  else
  (((((1 : Int32) - (p1 / (10 : Int32))) * (10 : Int32)) + (p1 - p1 / (10 : Int32) * (10 : Int32))) - p2)
/-- SealStrait$Bringing.goOnFrom -/
noncomputable def b_Bringing_goOnFrom_1 (x1 : Int32) (x2 : Int32) (x3 : Int32) (v_oneListens : Int32) (v_otherListens : Int32) (v_a4_words : Nat → Int32) (x5 : Int32) (v_steps : Nat → Int32) (v_firsts : Nat → Int32) (v_queue : Nat → Int32) (v_size : Int32) : Option ((Int32 × (Nat → Int32) × (Nat → Int32) × (Nat → Int32) × Int32) ⊕ ((Nat → Int32) × (Nat → Int32) × (Nat → Int32) × Int32)) :=
  if (10 : Int32) ≤ x5 then
    some (.inr (v_steps, v_firsts, v_queue, v_size))
  else
  (f_Treaty_wordsOf v_a4_words x5).bind fun r3 =>
  if x3 = (-6 : Int32) then
    (f_Bringing_reach v_steps v_firsts v_queue v_size (((f_Bringing_behindReading (x1 / (20 : Int32)) r3 v_oneListens) * (20 : Int32)) + (f_Bringing_behindReading (x1 - x1 / (20 : Int32) * (20 : Int32)) r3 v_otherListens)) x2 x5).bind fun (u10_steps, u10_firsts, u10_queue, u10_size) =>
    some (.inl ((x5 + 1), u10_steps, u10_firsts, u10_queue, u10_size))
  else
  (f_Bringing_reach v_steps v_firsts v_queue v_size (((f_Bringing_behindReading (x1 / (20 : Int32)) r3 v_oneListens) * (20 : Int32)) + (f_Bringing_behindReading (x1 - x1 / (20 : Int32) * (20 : Int32)) r3 v_otherListens)) x2 x3).bind fun (u8_steps, u8_firsts, u8_queue, u8_size) =>
  some (.inl ((x5 + 1), u8_steps, u8_firsts, u8_queue, u8_size))
noncomputable def f_Bringing_goOnFrom (v_steps : Nat → Int32) (v_firsts : Nat → Int32) (v_queue : Nat → Int32) (v_size : Int32) (v_oneListens : Int32) (v_otherListens : Int32) (v_a4_words : Nat → Int32) (p1 : Int32) (p2 : Int32) (p3 : Int32) : Option ((Nat → Int32) × (Nat → Int32) × (Nat → Int32) × Int32) :=
  (ev (fun s => b_Bringing_goOnFrom_1 p1 p2 p3 v_oneListens v_otherListens v_a4_words s.1 s.2.1 s.2.2.1 s.2.2.2.1 s.2.2.2.2) ((0 : Int32), v_steps, v_firsts, v_queue, v_size)).bind fun (z12_steps, z12_firsts, z12_queue, z12_size) =>
  some (z12_steps, z12_firsts, z12_queue, z12_size)
/-- SealStrait$Bringing.search -/
noncomputable def b_Bringing_search_1 (x2 : Int32) (x3 : Int32) (v_oneListens : Int32) (v_otherListens : Int32) (v_fewest : Int32) (v_firstClause : Int32) (v_a1_words : Nat → Int32) (x4 : Int32) (v_steps : Nat → Int32) (v_firsts : Nat → Int32) (v_queue : Nat → Int32) (v_size : Int32) : Option ((Int32 × (Nat → Int32) × (Nat → Int32) × (Nat → Int32) × Int32) ⊕ ((Nat → Int32) × (Nat → Int32) × (Nat → Int32) × Int32 × Int32 × Int32)) :=
  if v_size ≤ x4 then
    some (.inr (v_steps, v_firsts, v_queue, v_size, v_fewest, v_firstClause))
  else
  if (400 : Int32) ≤ x4 then
    some (.inr (v_steps, v_firsts, v_queue, v_size, v_fewest, v_firstClause))
  else
  if ix x4 400 = true then
  if (f_Strait_within (v_queue (x4).toNatClampNeg) (0 : Int32) (399 : Int32)) = 0 then
    some (.inr (v_steps, v_firsts, v_queue, v_size, v_fewest, v_firstClause))
  else
  if (((v_queue (x4).toNatClampNeg) / (20 : Int32)) / (10 : Int32)) = x2 then
    if (((v_queue (x4).toNatClampNeg) - (v_queue (x4).toNatClampNeg) / (20 : Int32) * (20 : Int32)) / (10 : Int32)) = x3 then
      if ix (v_queue (x4).toNatClampNeg) 400 = true then
      if ix (v_queue (x4).toNatClampNeg) 400 = true then
      some (.inr (v_steps, v_firsts, v_queue, v_size, (v_steps ((v_queue (x4).toNatClampNeg)).toNatClampNeg), (v_firsts ((v_queue (x4).toNatClampNeg)).toNatClampNeg)))
      else none
      else none
    else
    if ix (v_queue (x4).toNatClampNeg) 400 = true then
    if ix (v_queue (x4).toNatClampNeg) 400 = true then
    (f_Bringing_goOnFrom v_steps v_firsts v_queue v_size v_oneListens v_otherListens v_a1_words (v_queue (x4).toNatClampNeg) ((v_steps ((v_queue (x4).toNatClampNeg)).toNatClampNeg) + (1 : Int32)) (v_firsts ((v_queue (x4).toNatClampNeg)).toNatClampNeg)).bind fun (u16_steps, u16_firsts, u16_queue, u16_size) =>
    some (.inl ((x4 + 1), u16_steps, u16_firsts, u16_queue, u16_size))
    else none
    else none
  else
  if ix (v_queue (x4).toNatClampNeg) 400 = true then
  if ix (v_queue (x4).toNatClampNeg) 400 = true then
  (f_Bringing_goOnFrom v_steps v_firsts v_queue v_size v_oneListens v_otherListens v_a1_words (v_queue (x4).toNatClampNeg) ((v_steps ((v_queue (x4).toNatClampNeg)).toNatClampNeg) + (1 : Int32)) (v_firsts ((v_queue (x4).toNatClampNeg)).toNatClampNeg)).bind fun (u11_steps, u11_firsts, u11_queue, u11_size) =>
  some (.inl ((x4 + 1), u11_steps, u11_firsts, u11_queue, u11_size))
  else none
  else none
  else none
noncomputable def f_Bringing_search (v_steps : Nat → Int32) (v_firsts : Nat → Int32) (v_queue : Nat → Int32) (v_size : Int32) (v_oneListens : Int32) (v_otherListens : Int32) (v_fewest : Int32) (v_firstClause : Int32) (v_a1_words : Nat → Int32) (p2 : Int32) (p3 : Int32) : Option ((Nat → Int32) × (Nat → Int32) × (Nat → Int32) × Int32 × Int32 × Int32) :=
  ev (fun s => b_Bringing_search_1 p2 p3 v_oneListens v_otherListens (-6 : Int32) (-6 : Int32) v_a1_words s.1 s.2.1 s.2.2.1 s.2.2.2.1 s.2.2.2.2) ((0 : Int32), v_steps, v_firsts, v_queue, v_size)
/-- SealStrait$Fraction.commonDivisor -/
noncomputable def b_Fraction_commonDivisor_1  (x4 : Int64) (x6 : Int64) (x8 : Int32) : Option ((Int64 × Int64 × Int32) ⊕ (Int64)) :=
  if (1000 : Int32) ≤ x8 then
    some (.inr x4)
  else
  if (lg_cmp x6 (0 : Int64)) = 0 then
    some (.inr x4)
  else
  if ¬ x6 = 0 then
  some (.inl (x6, (x4 - x4 / x6 * x6), (x8 + 1)))
  else none
noncomputable def f_Fraction_commonDivisor (p1 : Int64) (p2 : Int64) : Option (Int64) :=
  (ev (fun s => b_Fraction_commonDivisor_1 s.1 s.2.1 s.2.2) (p1, p2, (0 : Int32))).bind fun y4_6 =>
  some y4_6
/-- SealStrait$Fraction.reduce -/
noncomputable def f_Fraction_reduce (v_upper : Int64) (v_lower : Int64) : Option (Int64 × Int64) :=
  (f_Fraction_commonDivisor v_upper v_lower).bind fun r1 =>
  if (lg_cmp r1 (1 : Int64)) ≤ 0 then
    some (v_upper, v_lower)
  else
  if ¬ r1 = 0 then
  if ¬ r1 = 0 then
  some ((v_upper / r1), (v_lower / r1))
  else none
  else none
/-- SealStrait$Fraction.setWaiting -/
noncomputable def b_Fraction_setWaiting_2 (x2 : Int32) (v_upper : Int64) (v_lower : Int64) (x4 : Int64) (x6 : Int32) : Option ((Int64 × Int32) ⊕ (Int64)) :=
  if x2 < x6 then
    some (.inr x4)
  else
  some (.inl ((x4 + (if v_upper < ((x6).toInt64 * v_lower) then ((x6).toInt64 * v_lower) else v_upper)), (x6 + 1)))
noncomputable def b_Fraction_setWaiting_1 (x1 : Int32) (x2 : Int32) (x3 : Int32) (v_upper : Int64) (v_lower : Int64) : Option ((Int32 × Int64 × Int64) ⊕ (Int64 × Int64)) :=
  if x1 ≤ x3 then
    some (.inr (v_upper, v_lower))
  else
  (ev (fun s => b_Fraction_setWaiting_2 x2 v_upper v_lower s.1 s.2) ((0 : Int64), (0 : Int32))).bind fun y4_5 =>
  some (.inl ((x3 + 1), y4_5, (v_lower * ((x2 + (1 : Int32))).toInt64)))
noncomputable def f_Fraction_setWaiting (v_upper : Int64) (v_lower : Int64) (p1 : Int32) (p2 : Int32) : Option (Int64 × Int64) :=
  (ev (fun s => b_Fraction_setWaiting_1 p1 p2 s.1 s.2.1 s.2.2) ((0 : Int32), (0 : Int64), (1 : Int64))).bind fun (z8_upper, z8_lower) =>
  (f_Fraction_reduce z8_upper z8_lower).bind fun (u11_upper, u11_lower) =>
  some (u11_upper, u11_lower)
/-- SealStrait$Fraction.setDrift -/
noncomputable def b_Fraction_setDrift_1 (x2 : Int32) (x3 : Int32) (x4 : Int32) (x6 : Int64) (x8 : Int64) (x10 : Int32) (v_lower : Int64) : Option ((Int64 × Int64 × Int32 × Int64) ⊕ (Int64 × Int64 × Int64)) :=
  if x4 ≤ x10 then
    some (.inr (x6, x8, v_lower))
  else
  some (.inl (((x6 * (((10 : Int32) - x3)).toInt64) + ((v_lower - x6) * (x2).toInt64)), ((x8 * (10 : Int64)) + ((x6 * (((10 : Int32) - x3)).toInt64) + ((v_lower - x6) * (x2).toInt64))), (x10 + 1), (v_lower * (10 : Int64))))
noncomputable def f_Fraction_setDrift (v_upper : Int64) (v_lower : Int64) (p1 : Int32) (p2 : Int32) (p3 : Int32) (p4 : Int32) (p5 : Int32) : Option (Int64 × Int64) :=
  (ev (fun s => b_Fraction_setDrift_1 p2 p3 p4 s.1 s.2.1 s.2.2.1 s.2.2.2) ((p1).toInt64, (0 : Int64), (0 : Int32), (1 : Int64))).bind fun (y6_3, y8_3, z3_lower) =>
  if p5 = 0 then
    (f_Fraction_reduce y6_3 z3_lower).bind fun (u9_upper, u9_lower) =>
    some (u9_upper, u9_lower)
  else
  (f_Fraction_reduce y8_3 z3_lower).bind fun (u7_upper, u7_lower) =>
  some (u7_upper, u7_lower)
/-- SealStrait$Fraction.leastWholeNotBelow -/
noncomputable def b_Fraction_leastWholeNotBelow_1 (x1 : Int32) (v_upper : Int64) (v_lower : Int64) (x2 : Int32) : Option ((Int32) ⊕ (Int32)) :=
  if x1 ≤ x2 then
    some (.inr x1)
  else
  if (lg_cmp ((x2).toInt64 * v_lower) v_upper) < 0 then
    some (.inl (x2 + 1))
  else
  some (.inr x2)
noncomputable def f_Fraction_leastWholeNotBelow (v_upper : Int64) (v_lower : Int64) (p1 : Int32) : Option (Int32) :=
  ev (fun s => b_Fraction_leastWholeNotBelow_1 p1 v_upper v_lower s) (0 : Int32)
/-- SealStrait$Fraction.part -/
noncomputable def f_Fraction_part (v_upper : Int64) (v_lower : Int64) (p1 : Int32) : Int64 :=
  if p1 = 0 then
    v_upper
  else
  v_lower
/-- SealStrait.has -/
noncomputable def f_Strait_has (p1 : Int32) (p2 : Int32) : Int32 :=
  if ((p1 >>> (p2 &&& 31)) &&& (1 : Int32)) = (1 : Int32) then
    (1 : Int32)
  else
  (0 : Int32)
/-- SealStrait$Treaty.wordsOfAll -/
noncomputable def b_Treaty_wordsOfAll_1 (x1 : Int32) (v_words : Nat → Int32) (x2 : Int32) (x3 : Int32) : Option ((Int32 × Int32) ⊕ (Int32)) :=
  if (10 : Int32) ≤ x3 then
    some (.inr x2)
  else
  if (f_Strait_has x1 x3) = 0 then
    some (.inl (x2, (x3 + 1)))
  else
  if ix x3 10 = true then
  some (.inl ((x2 + (v_words (x3).toNatClampNeg)), (x3 + 1)))
  else none
noncomputable def f_Treaty_wordsOfAll (v_words : Nat → Int32) (p1 : Int32) : Option (Int32) :=
  (ev (fun s => b_Treaty_wordsOfAll_1 p1 v_words s.1 s.2) ((0 : Int32), (0 : Int32))).bind fun y2_6 =>
  some y2_6
/-- SealStrait$Game.winningNext -/
noncomputable def b_Game_winningNext_1 (x1 : Int32) (x2 : Int32) (v_wins : Nat → Int32) (v_a3_words : Nat → Int32) (x4 : Int32) : Option ((Int32) ⊕ (Int32)) :=
  if (10 : Int32) ≤ x4 then
    some (.inr (-6 : Int32))
  else
  if (x1 ||| ((1 : Int32) <<< (x4 &&& 31))) = x1 then
    some (.inl (x4 + 1))
  else
  if (1024 : Int32) ≤ (x1 ||| ((1 : Int32) <<< (x4 &&& 31))) then
    some (.inl (x4 + 1))
  else
  (f_Treaty_wordsOf v_a3_words x4).bind fun r5 =>
  if x2 < r5 then
    some (.inl (x4 + 1))
  else
  if ix (x1 ||| ((1 : Int32) <<< (x4 &&& 31))) 1024 = true then
  if (v_wins ((x1 ||| ((1 : Int32) <<< (x4 &&& 31)))).toNatClampNeg) = 0 then
    some (.inr x4)
  else
  some (.inl (x4 + 1))
  else none
noncomputable def f_Game_winningNext (v_wins : Nat → Int32) (v_a3_words : Nat → Int32) (p1 : Int32) (p2 : Int32) : Option (Int32) :=
  ev (fun s => b_Game_winningNext_1 p1 p2 v_wins v_a3_words s) (0 : Int32)
/-- SealStrait$Game.winningFirst -/
noncomputable def b_Game_winningFirst_1 (x2 : Int32) (v_a1_words : Nat → Int32) (x3 : Int32) (x4 : Int32) (v_wins : Nat → Int32) : Option ((Int32 × Int32 × (Nat → Int32)) ⊕ (Int32 × (Nat → Int32))) :=
  if x4 < 0 then
    some (.inr (x3, v_wins))
  else
  (f_Treaty_wordsOfAll v_a1_words x4).bind fun r3 =>
  (f_Game_winningNext v_wins v_a1_words x4 (x2 - r3)).bind fun r5 =>
  if r5 = (-6 : Int32) then
    if ix x4 1024 = true then
    some (.inl (r5, (x4 + (-1)), (upd v_wins (x4).toNatClampNeg ((0 : Int32) &&& 1))))
    else none
  else
  if ix x4 1024 = true then
  some (.inl (r5, (x4 + (-1)), (upd v_wins (x4).toNatClampNeg ((1 : Int32) &&& 1))))
  else none
noncomputable def f_Game_winningFirst (v_wins : Nat → Int32) (v_a1_words : Nat → Int32) (p2 : Int32) : Option (Int32 × (Nat → Int32)) :=
  (ev (fun s => b_Game_winningFirst_1 p2 v_a1_words s.1 s.2.1 s.2.2) ((-6 : Int32), (1023 : Int32), v_wins)).bind fun (y3_10, z10_wins) =>
  some (y3_10, z10_wins)
/-- SealStrait$Sea.headsOf -/
noncomputable def b_Sea_headsOf_1 (x1 : Int32) (v_there : Int32) (v_heads : Nat → Int32) (x2 : Int32) (x3 : Int32) : Option ((Int32 × Int32) ⊕ (Int32)) :=
  if (6 : Int32) ≤ x3 then
    some (.inr x2)
  else
  if (f_Strait_has x1 x3) = 0 then
    some (.inl (x2, (x3 + 1)))
  else
  if (f_Sea_isThere v_there x3) = 0 then
    some (.inl (x2, (x3 + 1)))
  else
  if ix x3 6 = true then
  some (.inl ((x2 + (v_heads (x3).toNatClampNeg)), (x3 + 1)))
  else none
noncomputable def f_Sea_headsOf (v_there : Int32) (v_heads : Nat → Int32) (p1 : Int32) : Option (Int32) :=
  (ev (fun s => b_Sea_headsOf_1 p1 v_there v_heads s.1 s.2) ((0 : Int32), (0 : Int32))).bind fun y2_8 =>
  some y2_8
/-- SealStrait$Lookout.wantingOff -/
noncomputable def f_Lookout_wantingOff (v_seen : Nat → Int32) (v_a3_there : Int32) (v_a3_heads : Nat → Int32) (p1 : Int32) (p2 : Int32) : Option (Int32) :=
  if (f_Strait_within p1 (0 : Int32) (5 : Int32)) = 0 then
    some (0 : Int32)
  else
  if ix p1 6 = true then
  (f_Sea_headsOf v_a3_there v_a3_heads ((v_seen (p1).toNatClampNeg) &&& p2)).bind fun r4 =>
  some r4
  else none
/-- SealStrait$Lookout.allCountsFit -/
noncomputable def b_Lookout_allCountsFit_1 (x1 : Int32) (v_seen : Nat → Int32) (v_counts : Int32) (v_countRocks : Nat → Int32) (v_countWantings : Nat → Int32) (v_a2_there : Int32) (v_a2_heads : Nat → Int32) (x3 : Int32) : Option ((Int32) ⊕ (Int32)) :=
  if v_counts ≤ x3 then
    some (.inr (1 : Int32))
  else
  if (8 : Int32) ≤ x3 then
    some (.inr (1 : Int32))
  else
  if ix x3 8 = true then
  (f_Lookout_wantingOff v_seen v_a2_there v_a2_heads (v_countRocks (x3).toNatClampNeg) x1).bind fun r6 =>
  if ix x3 8 = true then
  if r6 = (v_countWantings (x3).toNatClampNeg) then
    some (.inl (x3 + 1))
  else
  some (.inr (0 : Int32))
  else none
  else none
noncomputable def f_Lookout_allCountsFit (v_seen : Nat → Int32) (v_counts : Int32) (v_countRocks : Nat → Int32) (v_countWantings : Nat → Int32) (v_a2_there : Int32) (v_a2_heads : Nat → Int32) (p1 : Int32) : Option (Int32) :=
  ev (fun s => b_Lookout_allCountsFit_1 p1 v_seen v_counts v_countRocks v_countWantings v_a2_there v_a2_heads s) (0 : Int32)
/-- SealStrait$Guess.findSets -/
noncomputable def b_Guess_findSets_1 (v_a1_seen : Nat → Int32) (v_a1_counts : Int32) (v_a1_countRocks : Nat → Int32) (v_a1_countWantings : Nat → Int32) (v_a2_there : Int32) (v_a2_heads : Nat → Int32) (x3 : Int32) (v_size : Int32) (v_sets : Nat → Int32) : Option ((Int32 × Int32 × (Nat → Int32)) ⊕ (Int32 × (Nat → Int32))) :=
  if (63 : Int32) < x3 then
    some (.inr (v_size, v_sets))
  else
  if (x3 &&& (v_a2_there ^^^ (-1 : Int32))) = 0 then
    if (1 : Int32) = 0 then
      some (.inl ((x3 + 1), v_size, v_sets))
    else
    if (64 : Int32) ≤ v_size then
      some (.inl ((x3 + 1), v_size, v_sets))
    else
    (f_Lookout_allCountsFit v_a1_seen v_a1_counts v_a1_countRocks v_a1_countWantings v_a2_there v_a2_heads x3).bind fun r12 =>
    if r12 = 0 then
      some (.inl ((x3 + 1), v_size, v_sets))
    else
    if ix v_size 64 = true then
    some (.inl ((x3 + 1), (v_size + (1 : Int32)), (upd v_sets (v_size).toNatClampNeg x3)))
    else none
  else
  if (0 : Int32) = 0 then
    some (.inl ((x3 + 1), v_size, v_sets))
  else
  if (64 : Int32) ≤ v_size then
    some (.inl ((x3 + 1), v_size, v_sets))
  else
  (f_Lookout_allCountsFit v_a1_seen v_a1_counts v_a1_countRocks v_a1_countWantings v_a2_there v_a2_heads x3).bind fun r6 =>
  if r6 = 0 then
    some (.inl ((x3 + 1), v_size, v_sets))
  else
  if ix v_size 64 = true then
  some (.inl ((x3 + 1), (v_size + (1 : Int32)), (upd v_sets (v_size).toNatClampNeg x3)))
  else none
noncomputable def f_Guess_findSets (v_size : Int32) (v_sets : Nat → Int32) (v_a1_seen : Nat → Int32) (v_a1_counts : Int32) (v_a1_countRocks : Nat → Int32) (v_a1_countWantings : Nat → Int32) (v_a2_there : Int32) (v_a2_heads : Nat → Int32) : Option (Int32 × (Nat → Int32)) :=
  (ev (fun s => b_Guess_findSets_1 v_a1_seen v_a1_counts v_a1_countRocks v_a1_countWantings v_a2_there v_a2_heads s.1 s.2.1 s.2.2) ((0 : Int32), (0 : Int32), v_sets)).bind fun (z16_size, z16_sets) =>
  some (z16_size, z16_sets)
/-- SealStrait$Guess.setAt -/
noncomputable def f_Guess_setAt (v_size : Int32) (v_sets : Nat → Int32) (p1 : Int32) : Option (Int32) :=
  if p1 < 0 then
    some (-6 : Int32)
  else
  if v_size ≤ p1 then
    some (-6 : Int32)
  else
  if (64 : Int32) ≤ p1 then
    some (-6 : Int32)
  else
  if ix p1 64 = true then
  some (v_sets (p1).toNatClampNeg)
  else none
/-- SealStrait$Guess.mostAlike -/
noncomputable def b_Guess_mostAlike_1 (x1 : Int32) (v_size : Int32) (v_sets : Nat → Int32) (v_a2_seen : Nat → Int32) (v_a3_there : Int32) (v_a3_heads : Nat → Int32) (x4 : Int32) (x5 : Int32) (v_tally : Nat → Int32) : Option ((Int32 × Int32 × (Nat → Int32)) ⊕ (Int32 × (Nat → Int32))) :=
  if v_size ≤ x5 then
    some (.inr (x4, v_tally))
  else
  if (64 : Int32) ≤ x5 then
    some (.inr (x4, v_tally))
  else
  if ix x5 64 = true then
  (f_Lookout_wantingOff v_a2_seen v_a3_there v_a3_heads x1 (v_sets (x5).toNatClampNeg)).bind fun r8 =>
  if r8 < 0 then
    some (.inl (x4, (x5 + 1), v_tally))
  else
  if (595 : Int32) ≤ r8 then
    some (.inl (x4, (x5 + 1), v_tally))
  else
  if ix r8 595 = true then
  if ix r8 595 = true then
  if ix r8 595 = true then
  some (.inl ((if x4 < ((upd v_tally (r8).toNatClampNeg ((v_tally (r8).toNatClampNeg) + (1 : Int32))) (r8).toNatClampNeg) then ((upd v_tally (r8).toNatClampNeg ((v_tally (r8).toNatClampNeg) + (1 : Int32))) (r8).toNatClampNeg) else x4), (x5 + 1), (upd v_tally (r8).toNatClampNeg ((v_tally (r8).toNatClampNeg) + (1 : Int32)))))
  else none
  else none
  else none
  else none
noncomputable def f_Guess_mostAlike (v_size : Int32) (v_sets : Nat → Int32) (v_tally : Nat → Int32) (v_a2_seen : Nat → Int32) (v_a3_there : Int32) (v_a3_heads : Nat → Int32) (p1 : Int32) : Option (Int32 × (Nat → Int32)) :=
  (f_Arrays_fill 595 v_tally (0 : Int32)).bind fun u1_a1 =>
  (ev (fun s => b_Guess_mostAlike_1 p1 v_size v_sets v_a2_seen v_a3_there v_a3_heads s.1 s.2.1 s.2.2) ((0 : Int32), (0 : Int32), u1_a1)).bind fun (y4_15, z15_tally) =>
  some (y4_15, z15_tally)
/-- SealStrait$Guess.findNextRock -/
noncomputable def b_Guess_findNextRock_1 (v_size : Int32) (v_sets : Nat → Int32) (v_a1_seen : Nat → Int32) (v_a2_there : Int32) (v_a2_heads : Nat → Int32) (x3 : Int32) (v_nextRock : Int32) (v_leftAtMost : Int32) (v_tally : Nat → Int32) : Option ((Int32 × Int32 × Int32 × (Nat → Int32)) ⊕ (Int32 × Int32 × (Nat → Int32))) :=
  if (6 : Int32) ≤ x3 then
    some (.inr (v_nextRock, v_leftAtMost, v_tally))
  else
  (f_Guess_mostAlike v_size v_sets v_tally v_a1_seen v_a2_there v_a2_heads x3).bind fun (r3, u3_tally) =>
  if v_nextRock = (-6 : Int32) then
    some (.inl ((x3 + 1), x3, r3, u3_tally))
  else
  if v_leftAtMost ≤ r3 then
    some (.inl ((x3 + 1), v_nextRock, v_leftAtMost, u3_tally))
  else
  some (.inl ((x3 + 1), x3, r3, u3_tally))
noncomputable def f_Guess_findNextRock (v_size : Int32) (v_sets : Nat → Int32) (v_nextRock : Int32) (v_leftAtMost : Int32) (v_tally : Nat → Int32) (v_a1_seen : Nat → Int32) (v_a2_there : Int32) (v_a2_heads : Nat → Int32) : Option (Int32 × Int32 × (Nat → Int32)) :=
  (ev (fun s => b_Guess_findNextRock_1 v_size v_sets v_a1_seen v_a2_there v_a2_heads s.1 s.2.1 s.2.2.1 s.2.2.2) ((0 : Int32), (-6 : Int32), (-6 : Int32), v_tally)).bind fun (z7_nextRock, z7_leftAtMost, z7_tally) =>
  some (z7_nextRock, z7_leftAtMost, z7_tally)
/-- SealStrait$Lookout.copyFrom -/
noncomputable def b_Lookout_copyFrom_1 (v_a1_seen : Nat → Int32) (x2 : Int32) (v_seen : Nat → Int32) : Option ((Int32 × (Nat → Int32)) ⊕ ((Nat → Int32))) :=
  if (6 : Int32) ≤ x2 then
    some (.inr v_seen)
  else
  if ix x2 6 = true then
  if ix x2 6 = true then
  some (.inl ((x2 + 1), (upd v_seen (x2).toNatClampNeg (v_a1_seen (x2).toNatClampNeg))))
  else none
  else none
noncomputable def b_Lookout_copyFrom_2 (v_a1_countRocks : Nat → Int32) (v_a1_countWantings : Nat → Int32) (x2 : Int32) (v_countRocks : Nat → Int32) (v_countWantings : Nat → Int32) : Option ((Int32 × (Nat → Int32) × (Nat → Int32)) ⊕ ((Nat → Int32) × (Nat → Int32))) :=
  if (8 : Int32) ≤ x2 then
    some (.inr (v_countRocks, v_countWantings))
  else
  if ix x2 8 = true then
  if ix x2 8 = true then
  if ix x2 8 = true then
  if ix x2 8 = true then
  some (.inl ((x2 + 1), (upd v_countRocks (x2).toNatClampNeg (v_a1_countRocks (x2).toNatClampNeg)), (upd v_countWantings (x2).toNatClampNeg (v_a1_countWantings (x2).toNatClampNeg))))
  else none
  else none
  else none
  else none
noncomputable def f_Lookout_copyFrom (v_seen : Nat → Int32) (v_counts : Int32) (v_countRocks : Nat → Int32) (v_countWantings : Nat → Int32) (v_a1_seen : Nat → Int32) (v_a1_counts : Int32) (v_a1_countRocks : Nat → Int32) (v_a1_countWantings : Nat → Int32) : Option ((Nat → Int32) × Int32 × (Nat → Int32) × (Nat → Int32)) :=
  (ev (fun s => b_Lookout_copyFrom_1 v_a1_seen s.1 s.2) ((0 : Int32), v_seen)).bind fun z5_seen =>
  (ev (fun s => b_Lookout_copyFrom_2 v_a1_countRocks v_a1_countWantings s.1 s.2.1 s.2.2) ((0 : Int32), v_countRocks, v_countWantings)).bind fun (z14_countRocks, z14_countWantings) =>
  some (z5_seen, v_a1_counts, z14_countRocks, z14_countWantings)
/-- SealStrait$Lookout.addCount -/
noncomputable def f_Lookout_addCount (v_counts : Int32) (v_countRocks : Nat → Int32) (v_countWantings : Nat → Int32) (p1 : Int32) (p2 : Int32) : Option (Int32 × Int32 × (Nat → Int32) × (Nat → Int32)) :=
  if v_counts < (8 : Int32) then
    if ix v_counts 8 = true then
    if ix v_counts 8 = true then
    some ((1 : Int32), (v_counts + (1 : Int32)), (upd v_countRocks (v_counts).toNatClampNeg p1), (upd v_countWantings (v_counts).toNatClampNeg p2))
    else none
    else none
  else
  some ((0 : Int32), v_counts, v_countRocks, v_countWantings)
/-- SealStrait$Pad.write -/
noncomputable def f_Pad_write (v_signs : Nat → Int32) (v_size : Int32) (p1 : Int32) : Option (Int32 × (Nat → Int32) × Int32) :=
  if v_size < (60 : Int32) then
    if ix v_size 60 = true then
    some ((1 : Int32), (upd v_signs (v_size).toNatClampNeg p1), (v_size + (1 : Int32)))
    else none
  else
  some ((0 : Int32), v_signs, v_size)
/-- SealStrait$Pad.isClause -/
noncomputable def f_Pad_isClause (p1 : Int32) : Int32 :=
  (f_Strait_within p1 (97 : Int32) (106 : Int32))
/-- SealStrait$Pad.awaitedBehind -/
noncomputable def f_Pad_awaitedBehind (p1 : Int32) (p2 : Int32) : Int32 :=
  if p1 = 0 then
    if (f_Pad_isHerd p2) = 0 then
      if (f_Pad_isClause p2) = 0 then
        if p2 = (46 : Int32) then
          (0 : Int32)
        else
        (3 : Int32)
      else
      (0 : Int32)
    else
    (1 : Int32)
  else
  if p1 = (1 : Int32) then
    if p2 = (38 : Int32) then
      (2 : Int32)
    else
    if p2 = (63 : Int32) then
      (0 : Int32)
    else
    if p2 = (33 : Int32) then
      (0 : Int32)
    else
    (3 : Int32)
  else
  if (f_Pad_isHerd p2) = 0 then
    (3 : Int32)
  else
  (0 : Int32)
/-- SealStrait$Pad.faultPlace -/
noncomputable def b_Pad_faultPlace_1 (v_signs : Nat → Int32) (v_size : Int32) (x1 : Int32) (x2 : Int32) : Option ((Int32 × Int32) ⊕ (Int32)) :=
  if v_size ≤ x2 then
    if x1 = 0 then
      some (.inr (-6 : Int32))
    else
    some (.inr v_size)
  else
  if (60 : Int32) ≤ x2 then
    if x1 = 0 then
      some (.inr (-6 : Int32))
    else
    some (.inr v_size)
  else
  if ix x2 60 = true then
  if (f_Pad_awaitedBehind x1 (v_signs (x2).toNatClampNeg)) = (3 : Int32) then
    some (.inr x2)
  else
  some (.inl ((f_Pad_awaitedBehind x1 (v_signs (x2).toNatClampNeg)), (x2 + 1)))
  else none
noncomputable def f_Pad_faultPlace (v_signs : Nat → Int32) (v_size : Int32) : Option (Int32) :=
  ev (fun s => b_Pad_faultPlace_1 v_signs v_size s.1 s.2) ((0 : Int32), (0 : Int32))
/-- SealStrait$Sea.copyFrom -/
noncomputable def b_Sea_copyFrom_1 (v_a1_heads : Nat → Int32) (v_a1_sides : Nat → Int32) (v_a1_moods : Nat → Int32) (v_a1_moults : Nat → Int32) (x2 : Int32) (v_heads : Nat → Int32) (v_sides : Nat → Int32) (v_moods : Nat → Int32) (v_moults : Nat → Int32) : Option ((Int32 × (Nat → Int32) × (Nat → Int32) × (Nat → Int32) × (Nat → Int32)) ⊕ ((Nat → Int32) × (Nat → Int32) × (Nat → Int32) × (Nat → Int32))) :=
  if (6 : Int32) ≤ x2 then
    some (.inr (v_heads, v_sides, v_moods, v_moults))
  else
  if ix x2 6 = true then
  if ix x2 6 = true then
  if ix x2 6 = true then
  if ix x2 6 = true then
  if ix x2 6 = true then
  if ix x2 6 = true then
  if ix x2 6 = true then
  if ix x2 6 = true then
  some (.inl ((x2 + 1), (upd v_heads (x2).toNatClampNeg (v_a1_heads (x2).toNatClampNeg)), (upd v_sides (x2).toNatClampNeg (v_a1_sides (x2).toNatClampNeg)), (upd v_moods (x2).toNatClampNeg (v_a1_moods (x2).toNatClampNeg)), (upd v_moults (x2).toNatClampNeg (v_a1_moults (x2).toNatClampNeg))))
  else none
  else none
  else none
  else none
  else none
  else none
  else none
  else none
noncomputable def f_Sea_copyFrom (v_there : Int32) (v_month : Int32) (v_lost : Int32) (v_heads : Nat → Int32) (v_sides : Nat → Int32) (v_moods : Nat → Int32) (v_moults : Nat → Int32) (v_a1_there : Int32) (v_a1_month : Int32) (v_a1_lost : Int32) (v_a1_heads : Nat → Int32) (v_a1_sides : Nat → Int32) (v_a1_moods : Nat → Int32) (v_a1_moults : Nat → Int32) : Option (Int32 × Int32 × Int32 × (Nat → Int32) × (Nat → Int32) × (Nat → Int32) × (Nat → Int32)) :=
  (ev (fun s => b_Sea_copyFrom_1 v_a1_heads v_a1_sides v_a1_moods v_a1_moults s.1 s.2.1 s.2.2.1 s.2.2.2.1 s.2.2.2.2) ((0 : Int32), v_heads, v_sides, v_moods, v_moults)).bind fun (z11_heads, z11_sides, z11_moods, z11_moults) =>
  some (v_a1_there, v_a1_month, v_a1_lost, z11_heads, z11_sides, z11_moods, z11_moults)
/-- SealStrait$Sea.settle -/
noncomputable def f_Sea_settle (v_there : Int32) (v_heads : Nat → Int32) (v_sides : Nat → Int32) (v_moods : Nat → Int32) (v_moults : Nat → Int32) (p1 : Int32) (p2 : Int32) (p3 : Int32) (p4 : Int32) (p5 : Int32) : Option (Int32 × (Nat → Int32) × (Nat → Int32) × (Nat → Int32) × (Nat → Int32)) :=
  if (f_Strait_within p1 (0 : Int32) (5 : Int32)) = 0 then
    some (v_there, v_heads, v_sides, v_moods, v_moults)
  else
  if ix p1 6 = true then
  if ix p1 6 = true then
  if ix p1 6 = true then
  if ix p1 6 = true then
  some ((v_there ||| ((1 : Int32) <<< (p1 &&& 31))), (upd v_heads (p1).toNatClampNeg p2), (upd v_sides (p1).toNatClampNeg p3), (upd v_moods (p1).toNatClampNeg p4), (upd v_moults (p1).toNatClampNeg p5))
  else none
  else none
  else none
  else none
/-- SealStrait$Sea.traitOf -/
noncomputable def f_Sea_traitOf (v_there : Int32) (v_heads : Nat → Int32) (v_sides : Nat → Int32) (v_moods : Nat → Int32) (v_moults : Nat → Int32) (p1 : Int32) (p2 : Int32) : Option (Int32) :=
  if (f_Sea_isThere v_there p1) = 0 then
    some (-2 : Int32)
  else
  if p2 = (0 : Int32) then
    if ix p1 6 = true then
    some (v_heads (p1).toNatClampNeg)
    else none
  else
  if p2 = (1 : Int32) then
    if ix p1 6 = true then
    some (v_sides (p1).toNatClampNeg)
    else none
  else
  if p2 = (2 : Int32) then
    if ix p1 6 = true then
    some (v_moods (p1).toNatClampNeg)
    else none
  else
  if p2 = (3 : Int32) then
    if ix p1 6 = true then
    some (v_moults (p1).toNatClampNeg)
    else none
  else
  some (-2 : Int32)
/-- SealStrait$Sea.signers -/
noncomputable def b_Sea_signers_1 (x1 : Int32) (v_there : Int32) (v_month : Int32) (v_heads : Nat → Int32) (v_moods : Nat → Int32) (v_moults : Nat → Int32) (x2 : Int32) (x3 : Int32) : Option ((Int32 × Int32) ⊕ (Int32)) :=
  if (6 : Int32) ≤ x3 then
    some (.inr x2)
  else
  (f_Sea_listens v_there v_month v_heads v_moults x3).bind fun r3 =>
  if r3 = 0 then
    some (.inl (x2, (x3 + 1)))
  else
  if ix x3 6 = true then
  if (v_moods (x3).toNatClampNeg) < x1 then
    some (.inl (x2, (x3 + 1)))
  else
  some (.inl ((x2 ||| ((1 : Int32) <<< (x3 &&& 31))), (x3 + 1)))
  else none
noncomputable def f_Sea_signers (v_there : Int32) (v_month : Int32) (v_heads : Nat → Int32) (v_moods : Nat → Int32) (v_moults : Nat → Int32) (p1 : Int32) : Option (Int32) :=
  (ev (fun s => b_Sea_signers_1 p1 v_there v_month v_heads v_moods v_moults s.1 s.2) ((0 : Int32), (0 : Int32))).bind fun y2_8 =>
  some y2_8
/-- SealStrait$Sea.headsOnSideOne -/
noncomputable def b_Sea_headsOnSideOne_1 (v_there : Int32) (v_heads : Nat → Int32) (v_sides : Nat → Int32) (x1 : Int32) (x2 : Int32) : Option ((Int32 × Int32) ⊕ (Int32)) :=
  if (6 : Int32) ≤ x2 then
    some (.inr x1)
  else
  if (f_Sea_isThere v_there x2) = 0 then
    some (.inl (x1, (x2 + 1)))
  else
  if ix x2 6 = true then
  if (v_sides (x2).toNatClampNeg) = (1 : Int32) then
    if ix x2 6 = true then
    some (.inl ((x1 + (v_heads (x2).toNatClampNeg)), (x2 + 1)))
    else none
  else
  some (.inl (x1, (x2 + 1)))
  else none
noncomputable def f_Sea_headsOnSideOne (v_there : Int32) (v_heads : Nat → Int32) (v_sides : Nat → Int32) : Option (Int32) :=
  (ev (fun s => b_Sea_headsOnSideOne_1 v_there v_heads v_sides s.1 s.2) ((0 : Int32), (0 : Int32))).bind fun y1_8 =>
  some y1_8
/-- SealStrait$Sea.allMoods -/
noncomputable def b_Sea_allMoods_1 (v_there : Int32) (v_moods : Nat → Int32) (x1 : Int32) (x2 : Int32) : Option ((Int32 × Int32) ⊕ (Int32)) :=
  if (6 : Int32) ≤ x2 then
    some (.inr x1)
  else
  if (f_Sea_isThere v_there x2) = 0 then
    some (.inl (x1, (x2 + 1)))
  else
  if ix x2 6 = true then
  some (.inl ((x1 + (v_moods (x2).toNatClampNeg)), (x2 + 1)))
  else none
noncomputable def f_Sea_allMoods (v_there : Int32) (v_moods : Nat → Int32) : Option (Int32) :=
  (ev (fun s => b_Sea_allMoods_1 v_there v_moods s.1 s.2) ((0 : Int32), (0 : Int32))).bind fun y1_6 =>
  some y1_6
/-- SealStrait$Sea.hasHeads -/
noncomputable def b_Sea_hasHeads_1 (v_there : Int32) (v_heads : Nat → Int32) (x1 : Int32) : Option ((Int32) ⊕ (Int32)) :=
  if (6 : Int32) ≤ x1 then
    some (.inr (0 : Int32))
  else
  if (f_Sea_isThere v_there x1) = 0 then
    some (.inl (x1 + 1))
  else
  if ix x1 6 = true then
  if (v_heads (x1).toNatClampNeg) ≤ 0 then
    some (.inl (x1 + 1))
  else
  some (.inr (1 : Int32))
  else none
noncomputable def f_Sea_hasHeads (v_there : Int32) (v_heads : Nat → Int32) : Option (Int32) :=
  ev (fun s => b_Sea_hasHeads_1 v_there v_heads s) (0 : Int32)
/-- SealStrait$Sea.nextToGet -/
noncomputable def b_Sea_nextToGet_1 (v_there : Int32) (v_heads : Nat → Int32) (v_a1 : Nat → Int32) (x2 : Int32) (x3 : Int32) (x4 : Int32) (x5 : Int32) : Option ((Int32 × Int32 × Int32 × Int32) ⊕ (Int32)) :=
  if (6 : Int32) ≤ x5 then
    some (.inr x2)
  else
  if (6 : Int32) ≤ x5 then
    some (.inr x2)
  else
  if ix x5 6 = true then
  if (f_Sea_isThere v_there x5) = 0 then
    some (.inl (x2, x3, x4, (x5 + 1)))
  else
  if ix x5 6 = true then
  if ((v_heads (x5).toNatClampNeg) * x4) ≤ (x3 * ((v_a1 (x5).toNatClampNeg) + (1 : Int32))) then
    some (.inl (x2, x3, x4, (x5 + 1)))
  else
  if ix x5 6 = true then
  some (.inl (x5, (v_heads (x5).toNatClampNeg), ((v_a1 (x5).toNatClampNeg) + (1 : Int32)), (x5 + 1)))
  else none
  else none
  else none
noncomputable def f_Sea_nextToGet (v_there : Int32) (v_heads : Nat → Int32) (v_a1 : Nat → Int32) : Option (Int32) :=
  (ev (fun s => b_Sea_nextToGet_1 v_there v_heads v_a1 s.1 s.2.1 s.2.2.1 s.2.2.2) ((-6 : Int32), (0 : Int32), (1 : Int32), (0 : Int32))).bind fun y2_11 =>
  some y2_11
/-- SealStrait$Sea.whyNoJoining -/
noncomputable def f_Sea_whyNoJoining (v_there : Int32) (v_sides : Nat → Int32) (p1 : Int32) (p2 : Int32) : Option (Int32) :=
  if (f_Sea_isThere v_there p1) = 0 then
    some (1 : Int32)
  else
  if (f_Sea_isThere v_there p2) = 0 then
    some (1 : Int32)
  else
  if p1 = p2 then
    some (5 : Int32)
  else
  if ix p1 6 = true then
  if ix p2 6 = true then
  if (v_sides (p1).toNatClampNeg) = (v_sides (p2).toNatClampNeg) then
    some (0 : Int32)
  else
  some (5 : Int32)
  else none
  else none
/-- SealStrait$Sea.whyNoNet -/
noncomputable def f_Sea_whyNoNet (v_there : Int32) (v_heads : Nat → Int32) (p1 : Int32) : Option (Int32) :=
  if (f_Sea_isThere v_there p1) = 0 then
    some (1 : Int32)
  else
  if ix p1 6 = true then
  if (5 : Int32) ≤ (v_heads (p1).toNatClampNeg) then
    some (0 : Int32)
  else
  some (4 : Int32)
  else none
/-- SealStrait$Sea.whyNoWhistle -/
noncomputable def f_Sea_whyNoWhistle (v_there : Int32) (v_moods : Nat → Int32) (p1 : Int32) : Option (Int32) :=
  if (f_Sea_isThere v_there p1) = 0 then
    some (1 : Int32)
  else
  if ix p1 6 = true then
  if (v_moods (p1).toNatClampNeg) < (9 : Int32) then
    some (0 : Int32)
  else
  some (3 : Int32)
  else none
/-- SealStrait$Sea.whyNot -/
noncomputable def f_Sea_whyNot (v_there : Int32) (v_month : Int32) (v_heads : Nat → Int32) (v_sides : Nat → Int32) (v_moods : Nat → Int32) (v_moults : Nat → Int32) (v_a1_kind : Int32) (v_a1_one : Int32) (v_a1_other : Int32) (v_a2_words : Nat → Int32) : Option (Int32) :=
  if v_a1_kind = (0 : Int32) then
    (f_Treaty_wordsOf v_a2_words v_a1_one).bind fun r2 =>
    (f_Sea_signers v_there v_month v_heads v_moods v_moults r2).bind fun r4 =>
    if r4 = 0 then
      some (2 : Int32)
    else
    some (0 : Int32)
  else
  if v_a1_kind = (1 : Int32) then
    (f_Sea_whyNoWhistle v_there v_moods v_a1_one).bind fun r8 =>
    some r8
  else
  if v_a1_kind = (2 : Int32) then
    (f_Sea_whyNoNet v_there v_heads v_a1_one).bind fun r11 =>
    some r11
  else
  if v_a1_kind = (3 : Int32) then
    (f_Sea_whyNoJoining v_there v_sides v_a1_one v_a1_other).bind fun r14 =>
    some r14
  else
  if v_month < (999 : Int32) then
    some (0 : Int32)
  else
  some (6 : Int32)
/-- SealStrait$Sea.cheer -/
noncomputable def f_Sea_cheer (v_there : Int32) (v_moods : Nat → Int32) (p1 : Int32) (p2 : Int32) : Option ((Nat → Int32)) :=
  if (f_Sea_isThere v_there p1) = 0 then
    some v_moods
  else
  if ix p1 6 = true then
  if ix p1 6 = true then
  some (upd v_moods (p1).toNatClampNeg (if ((v_moods (p1).toNatClampNeg) + p2) < (9 : Int32) then ((v_moods (p1).toNatClampNeg) + p2) else (9 : Int32)))
  else none
  else none
/-- SealStrait$Sea.passMonth -/
noncomputable def b_Sea_passMonth_1 (v_there : Int32) (v_month : Int32) (v_moults : Nat → Int32) (x1 : Int32) (v_heads : Nat → Int32) (v_moods : Nat → Int32) : Option ((Int32 × (Nat → Int32) × (Nat → Int32)) ⊕ ((Nat → Int32) × (Nat → Int32))) :=
  if (6 : Int32) ≤ x1 then
    some (.inr (v_heads, v_moods))
  else
  (f_Sea_cheer v_there v_moods x1 (2 : Int32)).bind fun u3_moods =>
  if (f_Sea_isThere v_there x1) = 0 then
    some (.inl ((x1 + 1), v_heads, u3_moods))
  else
  if ix x1 6 = true then
  if (v_heads (x1).toNatClampNeg) < (2 : Int32) then
    some (.inl ((x1 + 1), v_heads, u3_moods))
  else
  if ix x1 6 = true then
  if (v_moults (x1).toNatClampNeg) = (v_month - v_month / (12 : Int32) * (12 : Int32)) then
    some (.inl ((x1 + 1), v_heads, u3_moods))
  else
  if ix x1 6 = true then
  if ix x1 6 = true then
  some (.inl ((x1 + 1), (upd v_heads (x1).toNatClampNeg (if ((v_heads (x1).toNatClampNeg) + (1 : Int32)) < (99 : Int32) then ((v_heads (x1).toNatClampNeg) + (1 : Int32)) else (99 : Int32))), u3_moods))
  else none
  else none
  else none
  else none
noncomputable def f_Sea_passMonth (v_there : Int32) (v_month : Int32) (v_heads : Nat → Int32) (v_moods : Nat → Int32) (v_moults : Nat → Int32) : Option (Int32 × (Nat → Int32) × (Nat → Int32)) :=
  (ev (fun s => b_Sea_passMonth_1 v_there v_month v_moults s.1 s.2.1 s.2.2) ((0 : Int32), v_heads, v_moods)).bind fun (z13_heads, z13_moods) =>
  some ((v_month + (1 : Int32)), z13_heads, z13_moods)
/-- SealStrait$Sea.joinTo -/
noncomputable def f_Sea_joinTo (v_there : Int32) (v_heads : Nat → Int32) (p1 : Int32) (p2 : Int32) : Option (Int32 × (Nat → Int32)) :=
  if (f_Sea_isThere v_there p1) = 0 then
    some (v_there, v_heads)
  else
  if (f_Sea_isThere v_there p2) = 0 then
    some (v_there, v_heads)
  else
  if ix p1 6 = true then
  if ix p2 6 = true then
  if ix p1 6 = true then
  some ((v_there &&& (((1 : Int32) <<< (p2 &&& 31)) ^^^ (-1 : Int32))), (upd v_heads (p1).toNatClampNeg (if ((v_heads (p1).toNatClampNeg) + (v_heads (p2).toNatClampNeg)) < (99 : Int32) then ((v_heads (p1).toNatClampNeg) + (v_heads (p2).toNatClampNeg)) else (99 : Int32))))
  else none
  else none
  else none
/-- SealStrait$Sea.takeNet -/
noncomputable def f_Sea_takeNet (v_there : Int32) (v_lost : Int32) (v_heads : Nat → Int32) (p1 : Int32) : Option (Int32 × (Nat → Int32)) :=
  if (f_Sea_isThere v_there p1) = 0 then
    some (v_lost, v_heads)
  else
  if ix p1 6 = true then
  if ix p1 6 = true then
  some ((v_lost + (5 : Int32)), (upd v_heads (p1).toNatClampNeg ((v_heads (p1).toNatClampNeg) - (5 : Int32))))
  else none
  else none
/-- SealStrait$Sea.readAloud -/
noncomputable def b_Sea_readAloud_1 (x1 : Int32) (x2 : Int32) (v_there : Int32) (x3 : Int32) (v_sides : Nat → Int32) (v_moods : Nat → Int32) : Option ((Int32 × (Nat → Int32) × (Nat → Int32)) ⊕ ((Nat → Int32) × (Nat → Int32))) :=
  if (6 : Int32) ≤ x3 then
    some (.inr (v_sides, v_moods))
  else
  if (f_Strait_has x2 x3) = 0 then
    (f_Sea_cheer v_there v_moods x3 (1 : Int32)).bind fun u7_moods =>
    some (.inl ((x3 + 1), v_sides, u7_moods))
  else
  if ix x3 6 = true then
  if ix x3 6 = true then
  if ix x3 6 = true then
  if ix x3 6 = true then
  some (.inl ((x3 + 1), (upd v_sides (x3).toNatClampNeg ((1 : Int32) - (v_sides (x3).toNatClampNeg))), (upd v_moods (x3).toNatClampNeg ((v_moods (x3).toNatClampNeg) - x1))))
  else none
  else none
  else none
  else none
noncomputable def f_Sea_readAloud (v_there : Int32) (v_month : Int32) (v_heads : Nat → Int32) (v_sides : Nat → Int32) (v_moods : Nat → Int32) (v_moults : Nat → Int32) (p1 : Int32) : Option ((Nat → Int32) × (Nat → Int32)) :=
  (f_Sea_signers v_there v_month v_heads v_moods v_moults p1).bind fun r1 =>
  (ev (fun s => b_Sea_readAloud_1 p1 r1 v_there s.1 s.2.1 s.2.2) ((0 : Int32), v_sides, v_moods)).bind fun (z13_sides, z13_moods) =>
  some (z13_sides, z13_moods)
/-- SealStrait$Sea.perform -/
noncomputable def f_Sea_perform (v_there : Int32) (v_month : Int32) (v_lost : Int32) (v_heads : Nat → Int32) (v_sides : Nat → Int32) (v_moods : Nat → Int32) (v_moults : Nat → Int32) (v_a1_kind : Int32) (v_a1_one : Int32) (v_a1_other : Int32) (v_a2_words : Nat → Int32) : Option (Int32 × Int32 × Int32 × (Nat → Int32) × (Nat → Int32) × (Nat → Int32)) :=
  if v_a1_kind = (0 : Int32) then
    (f_Treaty_wordsOf v_a2_words v_a1_one).bind fun r2 =>
    (f_Sea_readAloud v_there v_month v_heads v_sides v_moods v_moults r2).bind fun (u4_sides, u4_moods) =>
    some (v_there, v_month, v_lost, v_heads, u4_sides, u4_moods)
  else
  if v_a1_kind = (1 : Int32) then
    (f_Sea_cheer v_there v_moods v_a1_one (3 : Int32)).bind fun u7_moods =>
    some (v_there, v_month, v_lost, v_heads, v_sides, u7_moods)
  else
  if v_a1_kind = (2 : Int32) then
    (f_Sea_takeNet v_there v_lost v_heads v_a1_one).bind fun (u10_lost, u10_heads) =>
    some (v_there, v_month, u10_lost, u10_heads, v_sides, v_moods)
  else
  if v_a1_kind = (3 : Int32) then
    (f_Sea_joinTo v_there v_heads v_a1_one v_a1_other).bind fun (u13_there, u13_heads) =>
    some (u13_there, v_month, v_lost, u13_heads, v_sides, v_moods)
  else
  (f_Sea_passMonth v_there v_month v_heads v_moods v_moults).bind fun (u15_month, u15_heads, u15_moods) =>
  some (v_there, u15_month, v_lost, u15_heads, v_sides, u15_moods)
/-- SealStrait$Treaty.copyFrom -/
noncomputable def b_Treaty_copyFrom_1 (v_a1_words : Nat → Int32) (v_a1_clashes : Nat → Int32) (x2 : Int32) (v_words : Nat → Int32) (v_clashes : Nat → Int32) : Option ((Int32 × (Nat → Int32) × (Nat → Int32)) ⊕ ((Nat → Int32) × (Nat → Int32))) :=
  if (10 : Int32) ≤ x2 then
    some (.inr (v_words, v_clashes))
  else
  if ix x2 10 = true then
  if ix x2 10 = true then
  if ix x2 10 = true then
  if ix x2 10 = true then
  some (.inl ((x2 + 1), (upd v_words (x2).toNatClampNeg (v_a1_words (x2).toNatClampNeg)), (upd v_clashes (x2).toNatClampNeg (v_a1_clashes (x2).toNatClampNeg))))
  else none
  else none
  else none
  else none
noncomputable def f_Treaty_copyFrom (v_words : Nat → Int32) (v_clashes : Nat → Int32) (v_a1_words : Nat → Int32) (v_a1_clashes : Nat → Int32) : Option ((Nat → Int32) × (Nat → Int32)) :=
  (ev (fun s => b_Treaty_copyFrom_1 v_a1_words v_a1_clashes s.1 s.2.1 s.2.2) ((0 : Int32), v_words, v_clashes)).bind fun (z7_words, z7_clashes) =>
  some (z7_words, z7_clashes)
/-- SealStrait$Treaty.setClash -/
noncomputable def f_Treaty_setClash (v_clashes : Nat → Int32) (p1 : Int32) (p2 : Int32) (p3 : Int32) : Option ((Nat → Int32)) :=
  if (f_Strait_within p1 (0 : Int32) (9 : Int32)) = 0 then
    some v_clashes
  else
  if p3 = 0 then
    if ix p1 10 = true then
    if ix p1 10 = true then
    some (upd v_clashes (p1).toNatClampNeg ((v_clashes (p1).toNatClampNeg) &&& (((1 : Int32) <<< (p2 &&& 31)) ^^^ (-1 : Int32))))
    else none
    else none
  else
  if ix p1 10 = true then
  if ix p1 10 = true then
  some (upd v_clashes (p1).toNatClampNeg ((v_clashes (p1).toNatClampNeg) ||| ((1 : Int32) <<< (p2 &&& 31))))
  else none
  else none
/-- java/lang/Integer.bitCount -/
noncomputable def f_Integer_bitCount (p1 : Int32) : Int32 :=
  ((((((((p1 - ((((p1).toUInt32 >>> (((1 : Int32)).toUInt32 &&& Int32.toUInt32 31)).toInt32) &&& (1431655765 : Int32))) &&& (858993459 : Int32)) + (((((p1 - ((((p1).toUInt32 >>> (((1 : Int32)).toUInt32 &&& Int32.toUInt32 31)).toInt32) &&& (1431655765 : Int32)))).toUInt32 >>> (((2 : Int32)).toUInt32 &&& Int32.toUInt32 31)).toInt32) &&& (858993459 : Int32))) + ((((((p1 - ((((p1).toUInt32 >>> (((1 : Int32)).toUInt32 &&& Int32.toUInt32 31)).toInt32) &&& (1431655765 : Int32))) &&& (858993459 : Int32)) + (((((p1 - ((((p1).toUInt32 >>> (((1 : Int32)).toUInt32 &&& Int32.toUInt32 31)).toInt32) &&& (1431655765 : Int32)))).toUInt32 >>> (((2 : Int32)).toUInt32 &&& Int32.toUInt32 31)).toInt32) &&& (858993459 : Int32)))).toUInt32 >>> (((4 : Int32)).toUInt32 &&& Int32.toUInt32 31)).toInt32)) &&& (252645135 : Int32)) + ((((((((p1 - ((((p1).toUInt32 >>> (((1 : Int32)).toUInt32 &&& Int32.toUInt32 31)).toInt32) &&& (1431655765 : Int32))) &&& (858993459 : Int32)) + (((((p1 - ((((p1).toUInt32 >>> (((1 : Int32)).toUInt32 &&& Int32.toUInt32 31)).toInt32) &&& (1431655765 : Int32)))).toUInt32 >>> (((2 : Int32)).toUInt32 &&& Int32.toUInt32 31)).toInt32) &&& (858993459 : Int32))) + ((((((p1 - ((((p1).toUInt32 >>> (((1 : Int32)).toUInt32 &&& Int32.toUInt32 31)).toInt32) &&& (1431655765 : Int32))) &&& (858993459 : Int32)) + (((((p1 - ((((p1).toUInt32 >>> (((1 : Int32)).toUInt32 &&& Int32.toUInt32 31)).toInt32) &&& (1431655765 : Int32)))).toUInt32 >>> (((2 : Int32)).toUInt32 &&& Int32.toUInt32 31)).toInt32) &&& (858993459 : Int32)))).toUInt32 >>> (((4 : Int32)).toUInt32 &&& Int32.toUInt32 31)).toInt32)) &&& (252645135 : Int32))).toUInt32 >>> (((8 : Int32)).toUInt32 &&& Int32.toUInt32 31)).toInt32)) + (((((((((p1 - ((((p1).toUInt32 >>> (((1 : Int32)).toUInt32 &&& Int32.toUInt32 31)).toInt32) &&& (1431655765 : Int32))) &&& (858993459 : Int32)) + (((((p1 - ((((p1).toUInt32 >>> (((1 : Int32)).toUInt32 &&& Int32.toUInt32 31)).toInt32) &&& (1431655765 : Int32)))).toUInt32 >>> (((2 : Int32)).toUInt32 &&& Int32.toUInt32 31)).toInt32) &&& (858993459 : Int32))) + ((((((p1 - ((((p1).toUInt32 >>> (((1 : Int32)).toUInt32 &&& Int32.toUInt32 31)).toInt32) &&& (1431655765 : Int32))) &&& (858993459 : Int32)) + (((((p1 - ((((p1).toUInt32 >>> (((1 : Int32)).toUInt32 &&& Int32.toUInt32 31)).toInt32) &&& (1431655765 : Int32)))).toUInt32 >>> (((2 : Int32)).toUInt32 &&& Int32.toUInt32 31)).toInt32) &&& (858993459 : Int32)))).toUInt32 >>> (((4 : Int32)).toUInt32 &&& Int32.toUInt32 31)).toInt32)) &&& (252645135 : Int32)) + ((((((((p1 - ((((p1).toUInt32 >>> (((1 : Int32)).toUInt32 &&& Int32.toUInt32 31)).toInt32) &&& (1431655765 : Int32))) &&& (858993459 : Int32)) + (((((p1 - ((((p1).toUInt32 >>> (((1 : Int32)).toUInt32 &&& Int32.toUInt32 31)).toInt32) &&& (1431655765 : Int32)))).toUInt32 >>> (((2 : Int32)).toUInt32 &&& Int32.toUInt32 31)).toInt32) &&& (858993459 : Int32))) + ((((((p1 - ((((p1).toUInt32 >>> (((1 : Int32)).toUInt32 &&& Int32.toUInt32 31)).toInt32) &&& (1431655765 : Int32))) &&& (858993459 : Int32)) + (((((p1 - ((((p1).toUInt32 >>> (((1 : Int32)).toUInt32 &&& Int32.toUInt32 31)).toInt32) &&& (1431655765 : Int32)))).toUInt32 >>> (((2 : Int32)).toUInt32 &&& Int32.toUInt32 31)).toInt32) &&& (858993459 : Int32)))).toUInt32 >>> (((4 : Int32)).toUInt32 &&& Int32.toUInt32 31)).toInt32)) &&& (252645135 : Int32))).toUInt32 >>> (((8 : Int32)).toUInt32 &&& Int32.toUInt32 31)).toInt32))).toUInt32 >>> (((16 : Int32)).toUInt32 &&& Int32.toUInt32 31)).toInt32)) &&& (63 : Int32))
/-- SealStrait$Treaty.clashingPairs -/
noncomputable def b_Treaty_clashingPairs_1 (v_clashes : Nat → Int32) (x1 : Int32) (x2 : Int32) : Option ((Int32 × Int32) ⊕ (Int32)) :=
  if (10 : Int32) ≤ x2 then
    some (.inr x1)
  else
  if ix x2 10 = true then
  some (.inl ((x1 + (f_Integer_bitCount (v_clashes (x2).toNatClampNeg))), (x2 + 1)))
  else none
noncomputable def f_Treaty_clashingPairs (v_clashes : Nat → Int32) : Option (Int32) :=
  (ev (fun s => b_Treaty_clashingPairs_1 v_clashes s.1 s.2) ((0 : Int32), (0 : Int32))).bind fun y1_5 =>
  some (y1_5 / (2 : Int32))
/-- SealStrait$Treaty.isQuiet -/
noncomputable def b_Treaty_isQuiet_1 (x1 : Int32) (v_clashes : Nat → Int32) (x2 : Int32) : Option ((Int32) ⊕ (Int32)) :=
  if (10 : Int32) ≤ x2 then
    some (.inr (1 : Int32))
  else
  if (f_Strait_has x1 x2) = 0 then
    some (.inl (x2 + 1))
  else
  if ix x2 10 = true then
  if ((v_clashes (x2).toNatClampNeg) &&& x1) = 0 then
    some (.inl (x2 + 1))
  else
  some (.inr (0 : Int32))
  else none
noncomputable def f_Treaty_isQuiet (v_clashes : Nat → Int32) (p1 : Int32) : Option (Int32) :=
  ev (fun s => b_Treaty_isQuiet_1 p1 v_clashes s) (0 : Int32)
/-- SealStrait$Treaty.leastToDrop -/
noncomputable def b_Treaty_leastToDrop_1 (x1 : Int32) (v_clashes : Nat → Int32) (x2 : Int32) (x3 : Int32) (x4 : Int32) : Option ((Int32 × Int32 × Int32) ⊕ (Int32)) :=
  if (1023 : Int32) < x4 then
    some (.inr x2)
  else
  if (x4 &&& (x1 ^^^ (-1 : Int32))) = 0 then
    if (1 : Int32) = 0 then
      some (.inl (x2, x3, (x4 + 1)))
    else
    if x3 ≤ (f_Integer_bitCount x4) then
      some (.inl (x2, x3, (x4 + 1)))
    else
    (f_Treaty_isQuiet v_clashes (x1 &&& (x4 ^^^ (-1 : Int32)))).bind fun r14 =>
    if r14 = 0 then
      some (.inl (x2, x3, (x4 + 1)))
    else
    some (.inl (x4, (f_Integer_bitCount x4), (x4 + 1)))
  else
  if (0 : Int32) = 0 then
    some (.inl (x2, x3, (x4 + 1)))
  else
  if x3 ≤ (f_Integer_bitCount x4) then
    some (.inl (x2, x3, (x4 + 1)))
  else
  (f_Treaty_isQuiet v_clashes (x1 &&& (x4 ^^^ (-1 : Int32)))).bind fun r7 =>
  if r7 = 0 then
    some (.inl (x2, x3, (x4 + 1)))
  else
  some (.inl (x4, (f_Integer_bitCount x4), (x4 + 1)))
noncomputable def f_Treaty_leastToDrop (v_clashes : Nat → Int32) (p1 : Int32) : Option (Int32) :=
  (ev (fun s => b_Treaty_leastToDrop_1 p1 v_clashes s.1 s.2.1 s.2.2) (p1, (11 : Int32), (0 : Int32))).bind fun y2_18 =>
  some y2_18
/-- SealStrait$Trial.begin -/
noncomputable def f_Trial_begin (v_sea_there : Int32) (v_sea_month : Int32) (v_sea_lost : Int32) (v_sea_heads : Nat → Int32) (v_sea_sides : Nat → Int32) (v_sea_moods : Nat → Int32) (v_sea_moults : Nat → Int32) (v_isFaulty : Int32) (v_acts : Int32) (v_why : Int32) (v_readings : Int32) (v_signedAll : Int32) (v_a1_signs : Nat → Int32) (v_a1_size : Int32) (v_a2_there : Int32) (v_a2_month : Int32) (v_a2_lost : Int32) (v_a2_heads : Nat → Int32) (v_a2_sides : Nat → Int32) (v_a2_moods : Nat → Int32) (v_a2_moults : Nat → Int32) : Option (Int32 × Int32 × Int32 × (Nat → Int32) × (Nat → Int32) × (Nat → Int32) × (Nat → Int32) × Int32 × Int32 × Int32 × Int32 × Int32) :=
  (f_Sea_copyFrom v_sea_there v_sea_month v_sea_lost v_sea_heads v_sea_sides v_sea_moods v_sea_moults v_a2_there v_a2_month v_a2_lost v_a2_heads v_a2_sides v_a2_moods v_a2_moults).bind fun (u1_there, u1_month, u1_lost, u1_heads, u1_sides, u1_moods, u1_moults) =>
  (f_Pad_faultPlace v_a1_signs v_a1_size).bind fun r3 =>
  if r3 = (-6 : Int32) then
    some (u1_there, u1_month, u1_lost, u1_heads, u1_sides, u1_moods, u1_moults, (0 : Int32), (0 : Int32), (0 : Int32), (0 : Int32), v_a2_there)
  else
  some (u1_there, u1_month, u1_lost, u1_heads, u1_sides, u1_moods, u1_moults, (1 : Int32), (0 : Int32), (0 : Int32), (0 : Int32), v_a2_there)
/-- SealStrait$Trial.noteReading -/
noncomputable def f_Trial_noteReading (v_sea_there : Int32) (v_sea_month : Int32) (v_sea_heads : Nat → Int32) (v_sea_moods : Nat → Int32) (v_sea_moults : Nat → Int32) (v_act_kind : Int32) (v_act_one : Int32) (v_readings : Int32) (v_signedAll : Int32) (v_a1_words : Nat → Int32) : Option (Int32 × Int32) :=
  if v_act_kind = 0 then
    (f_Treaty_wordsOf v_a1_words v_act_one).bind fun r2 =>
    (f_Sea_signers v_sea_there v_sea_month v_sea_heads v_sea_moods v_sea_moults r2).bind fun r4 =>
    some ((v_readings + (1 : Int32)), (v_signedAll &&& r4))
  else
  some (v_readings, v_signedAll)
/-- SealStrait$Trial.run -/
noncomputable def b_Trial_run_1 (v_sea_moults : Nat → Int32) (v_isFaulty : Int32) (v_a1_signs : Nat → Int32) (v_a1_size : Int32) (v_a3_words : Nat → Int32) (x4 : Int32) (x5 : Int32) (v_sea_there : Int32) (v_sea_month : Int32) (v_sea_lost : Int32) (v_sea_heads : Nat → Int32) (v_sea_sides : Nat → Int32) (v_sea_moods : Nat → Int32) (v_act_kind : Int32) (v_act_one : Int32) (v_act_other : Int32) (v_acts : Int32) (v_why : Int32) (v_readings : Int32) (v_signedAll : Int32) : Option ((Int32 × Int32 × Int32 × Int32 × Int32 × (Nat → Int32) × (Nat → Int32) × (Nat → Int32) × Int32 × Int32 × Int32 × Int32 × Int32 × Int32 × Int32) ⊕ (Int32 × Int32 × Int32 × (Nat → Int32) × (Nat → Int32) × (Nat → Int32) × (Nat → Int32) × Int32 × Int32 × Int32 × Int32 × Int32 × Int32 × Int32 × Int32)) :=
  if (60 : Int32) ≤ x5 then
    some (.inr (v_sea_there, v_sea_month, v_sea_lost, v_sea_heads, v_sea_sides, v_sea_moods, v_sea_moults, v_act_kind, v_act_one, v_act_other, v_isFaulty, v_acts, v_why, v_readings, v_signedAll))
  else
  if v_a1_size ≤ x4 then
    some (.inr (v_sea_there, v_sea_month, v_sea_lost, v_sea_heads, v_sea_sides, v_sea_moods, v_sea_moults, v_act_kind, v_act_one, v_act_other, v_isFaulty, v_acts, v_why, v_readings, v_signedAll))
  else
  if v_isFaulty = 0 then
    (f_Act_takeFrom v_act_kind v_act_one v_act_other v_a1_signs v_a1_size x4).bind fun (r9, u9_kind, u9_one, u9_other) =>
    (f_Sea_whyNot v_sea_there v_sea_month v_sea_heads v_sea_sides v_sea_moods v_sea_moults u9_kind u9_one u9_other v_a3_words).bind fun r11 =>
    if r11 = 0 then
      (f_Trial_noteReading v_sea_there v_sea_month v_sea_heads v_sea_moods v_sea_moults u9_kind u9_one v_readings v_signedAll v_a3_words).bind fun (u14_readings, u14_signedAll) =>
      (f_Sea_perform v_sea_there v_sea_month v_sea_lost v_sea_heads v_sea_sides v_sea_moods v_sea_moults u9_kind u9_one u9_other v_a3_words).bind fun (u16_there, u16_month, u16_lost, u16_heads, u16_sides, u16_moods) =>
      some (.inl ((x4 + r9), (x5 + 1), u16_there, u16_month, u16_lost, u16_heads, u16_sides, u16_moods, u9_kind, u9_one, u9_other, (v_acts + (1 : Int32)), r11, u14_readings, u14_signedAll))
    else
    some (.inr (v_sea_there, v_sea_month, v_sea_lost, v_sea_heads, v_sea_sides, v_sea_moods, v_sea_moults, u9_kind, u9_one, u9_other, v_isFaulty, v_acts, r11, v_readings, v_signedAll))
  else
  some (.inr (v_sea_there, v_sea_month, v_sea_lost, v_sea_heads, v_sea_sides, v_sea_moods, v_sea_moults, v_act_kind, v_act_one, v_act_other, v_isFaulty, v_acts, v_why, v_readings, v_signedAll))
noncomputable def f_Trial_run (v_sea_there : Int32) (v_sea_month : Int32) (v_sea_lost : Int32) (v_sea_heads : Nat → Int32) (v_sea_sides : Nat → Int32) (v_sea_moods : Nat → Int32) (v_sea_moults : Nat → Int32) (v_act_kind : Int32) (v_act_one : Int32) (v_act_other : Int32) (v_isFaulty : Int32) (v_acts : Int32) (v_why : Int32) (v_readings : Int32) (v_signedAll : Int32) (v_a1_signs : Nat → Int32) (v_a1_size : Int32) (v_a2_there : Int32) (v_a2_month : Int32) (v_a2_lost : Int32) (v_a2_heads : Nat → Int32) (v_a2_sides : Nat → Int32) (v_a2_moods : Nat → Int32) (v_a2_moults : Nat → Int32) (v_a3_words : Nat → Int32) : Option (Int32 × Int32 × Int32 × (Nat → Int32) × (Nat → Int32) × (Nat → Int32) × (Nat → Int32) × Int32 × Int32 × Int32 × Int32 × Int32 × Int32 × Int32 × Int32) :=
  (f_Trial_begin v_sea_there v_sea_month v_sea_lost v_sea_heads v_sea_sides v_sea_moods v_sea_moults v_isFaulty v_acts v_why v_readings v_signedAll v_a1_signs v_a1_size v_a2_there v_a2_month v_a2_lost v_a2_heads v_a2_sides v_a2_moods v_a2_moults).bind fun (u1_sea_there, u1_sea_month, u1_sea_lost, u1_sea_heads, u1_sea_sides, u1_sea_moods, u1_sea_moults, u1_isFaulty, u1_acts, u1_why, u1_readings, u1_signedAll) =>
  ev (fun s => b_Trial_run_1 u1_sea_moults u1_isFaulty v_a1_signs v_a1_size v_a3_words s.1 s.2.1 s.2.2.1 s.2.2.2.1 s.2.2.2.2.1 s.2.2.2.2.2.1 s.2.2.2.2.2.2.1 s.2.2.2.2.2.2.2.1 s.2.2.2.2.2.2.2.2.1 s.2.2.2.2.2.2.2.2.2.1 s.2.2.2.2.2.2.2.2.2.2.1 s.2.2.2.2.2.2.2.2.2.2.2.1 s.2.2.2.2.2.2.2.2.2.2.2.2.1 s.2.2.2.2.2.2.2.2.2.2.2.2.2.1 s.2.2.2.2.2.2.2.2.2.2.2.2.2.2) ((0 : Int32), (0 : Int32), u1_sea_there, u1_sea_month, u1_sea_lost, u1_sea_heads, u1_sea_sides, u1_sea_moods, v_act_kind, v_act_one, v_act_other, u1_acts, u1_why, u1_readings, u1_signedAll)
/-- SealStrait$Trial.allCanBe -/
noncomputable def f_Trial_allCanBe (v_isFaulty : Int32) (v_why : Int32) : Int32 :=
  if v_isFaulty = 0 then
    if v_why = 0 then
      (1 : Int32)
    else
    (0 : Int32)
  else
  (0 : Int32)
/-- SealStrait$Trial.runYear -/
noncomputable def b_Trial_runYear_1 (x2 : Int32) (v_sea_moults : Nat → Int32) (v_a4_words : Nat → Int32) (x5 : Int32) (x6 : Int32) (v_sea_there : Int32) (v_sea_month : Int32) (v_sea_lost : Int32) (v_sea_heads : Nat → Int32) (v_sea_sides : Nat → Int32) (v_sea_moods : Nat → Int32) (v_act_kind : Int32) (v_act_one : Int32) (v_act_other : Int32) : Option ((Int32 × Int32 × Int32 × Int32 × Int32 × (Nat → Int32) × (Nat → Int32) × (Nat → Int32) × Int32 × Int32 × Int32) ⊕ (Int32 × Int32 × Int32 × (Nat → Int32) × (Nat → Int32) × (Nat → Int32) × Int32 × Int32 × Int32)) :=
  if x2 ≤ x6 then
    some (.inr (v_sea_there, v_sea_month, v_sea_lost, v_sea_heads, v_sea_sides, v_sea_moods, v_act_kind, v_act_one, v_act_other))
  else
  (f_Act_draw v_act_kind v_act_one v_act_other ((((75 : Int32) * x5) + (74 : Int32)) - (((75 : Int32) * x5) + (74 : Int32)) / (65537 : Int32) * (65537 : Int32))).bind fun (u5_kind, u5_one, u5_other) =>
  (f_Sea_whyNot v_sea_there v_sea_month v_sea_heads v_sea_sides v_sea_moods v_sea_moults u5_kind u5_one u5_other v_a4_words).bind fun r7 =>
  if r7 = 0 then
    (f_Sea_perform v_sea_there v_sea_month v_sea_lost v_sea_heads v_sea_sides v_sea_moods v_sea_moults u5_kind u5_one u5_other v_a4_words).bind fun (u10_there, u10_month, u10_lost, u10_heads, u10_sides, u10_moods) =>
    some (.inl (((((75 : Int32) * x5) + (74 : Int32)) - (((75 : Int32) * x5) + (74 : Int32)) / (65537 : Int32) * (65537 : Int32)), (x6 + 1), u10_there, u10_month, u10_lost, u10_heads, u10_sides, u10_moods, u5_kind, u5_one, u5_other))
  else
  some (.inl (((((75 : Int32) * x5) + (74 : Int32)) - (((75 : Int32) * x5) + (74 : Int32)) / (65537 : Int32) * (65537 : Int32)), (x6 + 1), v_sea_there, v_sea_month, v_sea_lost, v_sea_heads, v_sea_sides, v_sea_moods, u5_kind, u5_one, u5_other))
noncomputable def f_Trial_runYear (v_sea_there : Int32) (v_sea_month : Int32) (v_sea_lost : Int32) (v_sea_heads : Nat → Int32) (v_sea_sides : Nat → Int32) (v_sea_moods : Nat → Int32) (v_sea_moults : Nat → Int32) (v_act_kind : Int32) (v_act_one : Int32) (v_act_other : Int32) (v_a3_there : Int32) (v_a3_month : Int32) (v_a3_lost : Int32) (v_a3_heads : Nat → Int32) (v_a3_sides : Nat → Int32) (v_a3_moods : Nat → Int32) (v_a3_moults : Nat → Int32) (v_a4_words : Nat → Int32) (p1 : Int32) (p2 : Int32) : Option (Int32 × Int32 × Int32 × (Nat → Int32) × (Nat → Int32) × (Nat → Int32) × (Nat → Int32) × Int32 × Int32 × Int32) :=
  (f_Sea_copyFrom v_sea_there v_sea_month v_sea_lost v_sea_heads v_sea_sides v_sea_moods v_sea_moults v_a3_there v_a3_month v_a3_lost v_a3_heads v_a3_sides v_a3_moods v_a3_moults).bind fun (u1_there, u1_month, u1_lost, u1_heads, u1_sides, u1_moods, u1_moults) =>
  (ev (fun s => b_Trial_runYear_1 p2 u1_moults v_a4_words s.1 s.2.1 s.2.2.1 s.2.2.2.1 s.2.2.2.2.1 s.2.2.2.2.2.1 s.2.2.2.2.2.2.1 s.2.2.2.2.2.2.2.1 s.2.2.2.2.2.2.2.2.1 s.2.2.2.2.2.2.2.2.2.1 s.2.2.2.2.2.2.2.2.2.2) (p1, (0 : Int32), u1_there, u1_month, u1_lost, u1_heads, u1_sides, u1_moods, v_act_kind, v_act_one, v_act_other)).bind fun (z12_sea_there, z12_sea_month, z12_sea_lost, z12_sea_heads, z12_sea_sides, z12_sea_moods, z12_act_kind, z12_act_one, z12_act_other) =>
  some (z12_sea_there, z12_sea_month, z12_sea_lost, z12_sea_heads, z12_sea_sides, z12_sea_moods, u1_moults, z12_act_kind, z12_act_one, z12_act_other)
/-- SealStrait.herd -/
noncomputable def f_Strait_herd (v_sea_there : Int32) (v_sea_heads : Nat → Int32) (v_sea_sides : Nat → Int32) (v_sea_moods : Nat → Int32) (v_sea_moults : Nat → Int32) (p1 : Int32) (p2 : Int32) (p3 : Int32) (p4 : Int32) (p5 : Int32) : Option (Int32 × Int32 × (Nat → Int32) × (Nat → Int32) × (Nat → Int32) × (Nat → Int32)) :=
  if (f_Strait_within p1 (0 : Int32) (5 : Int32)) = 0 then
    some ((-1 : Int32), v_sea_there, v_sea_heads, v_sea_sides, v_sea_moods, v_sea_moults)
  else
  if (f_Strait_within p2 (0 : Int32) (99 : Int32)) = 0 then
    some ((-2 : Int32), v_sea_there, v_sea_heads, v_sea_sides, v_sea_moods, v_sea_moults)
  else
  if (f_Strait_within p3 (0 : Int32) (1 : Int32)) = 0 then
    some ((-2 : Int32), v_sea_there, v_sea_heads, v_sea_sides, v_sea_moods, v_sea_moults)
  else
  if (f_Strait_within p4 (0 : Int32) (9 : Int32)) = 0 then
    some ((-2 : Int32), v_sea_there, v_sea_heads, v_sea_sides, v_sea_moods, v_sea_moults)
  else
  if (f_Strait_within p5 (0 : Int32) (11 : Int32)) = 0 then
    some ((-2 : Int32), v_sea_there, v_sea_heads, v_sea_sides, v_sea_moods, v_sea_moults)
  else
  (f_Sea_settle v_sea_there v_sea_heads v_sea_sides v_sea_moods v_sea_moults p1 p2 p3 p4 p5).bind fun (u11_there, u11_heads, u11_sides, u11_moods, u11_moults) =>
  some ((f_Integer_bitCount u11_there), u11_there, u11_heads, u11_sides, u11_moods, u11_moults)
/-- SealStrait.clause -/
noncomputable def f_Strait_clause (v_treaty_words : Nat → Int32) (p1 : Int32) (p2 : Int32) : Option (Int32 × (Nat → Int32)) :=
  if (f_Strait_within p1 (0 : Int32) (9 : Int32)) = 0 then
    some ((-1 : Int32), v_treaty_words)
  else
  if (f_Strait_within p2 (1 : Int32) (9 : Int32)) = 0 then
    some ((-2 : Int32), v_treaty_words)
  else
  if ix p1 10 = true then
  if ix p1 10 = true then
  some ((v_treaty_words (p1).toNatClampNeg), (upd v_treaty_words (p1).toNatClampNeg p2))
  else none
  else none
/-- SealStrait.clash -/
noncomputable def f_Strait_clash (v_treaty_clashes : Nat → Int32) (p1 : Int32) (p2 : Int32) (p3 : Int32) : Option (Int32 × (Nat → Int32)) :=
  if (f_Strait_within p1 (0 : Int32) (9 : Int32)) = 0 then
    some ((-1 : Int32), v_treaty_clashes)
  else
  if (f_Strait_within p2 (0 : Int32) (9 : Int32)) = 0 then
    some ((-1 : Int32), v_treaty_clashes)
  else
  if p1 = p2 then
    some ((-1 : Int32), v_treaty_clashes)
  else
  (f_Treaty_setClash v_treaty_clashes p1 p2 p3).bind fun u6_clashes =>
  (f_Treaty_setClash u6_clashes p2 p1 p3).bind fun u8_clashes =>
  (f_Treaty_clashingPairs u8_clashes).bind fun r10 =>
  some (r10, u8_clashes)
/-- SealStrait.rock -/
noncomputable def f_Strait_rock (v_lookout_seen : Nat → Int32) (p1 : Int32) (p2 : Int32) : Option (Int32 × (Nat → Int32)) :=
  if (f_Strait_within p1 (0 : Int32) (5 : Int32)) = 0 then
    some ((-1 : Int32), v_lookout_seen)
  else
  if (f_Strait_within p2 (0 : Int32) (63 : Int32)) = 0 then
    some ((-2 : Int32), v_lookout_seen)
  else
  if ix p1 6 = true then
  if ix p1 6 = true then
  some ((v_lookout_seen (p1).toNatClampNeg), (upd v_lookout_seen (p1).toNatClampNeg p2))
  else none
  else none
/-- SealStrait.say -/
noncomputable def f_Strait_say (v_pad_signs : Nat → Int32) (v_pad_size : Int32) (p1 : Int32) : Option (Int32 × (Nat → Int32) × Int32) :=
  if (f_Strait_within p1 (33 : Int32) (126 : Int32)) = 0 then
    some ((-2 : Int32), v_pad_signs, v_pad_size)
  else
  (f_Pad_write v_pad_signs v_pad_size p1).bind fun (r3, u3_signs, u3_size) =>
  if r3 = 0 then
    some ((-4 : Int32), u3_signs, u3_size)
  else
  some (u3_size, u3_signs, u3_size)
/-- SealStrait.wipe -/
noncomputable def f_Strait_wipe (v_pad_size : Int32) : Option (Int32 × Int32) :=
  some (v_pad_size, (0 : Int32))
/-- SealStrait.fault -/
noncomputable def f_Strait_fault (v_pad_signs : Nat → Int32) (v_pad_size : Int32) : Option (Int32) :=
  (f_Pad_faultPlace v_pad_signs v_pad_size).bind fun r1 =>
  some r1
/-- SealStrait.judge -/
noncomputable def f_Strait_judge (v_sea_there : Int32) (v_sea_month : Int32) (v_sea_lost : Int32) (v_sea_heads : Nat → Int32) (v_sea_sides : Nat → Int32) (v_sea_moods : Nat → Int32) (v_sea_moults : Nat → Int32) (v_treaty_words : Nat → Int32) (v_pad_signs : Nat → Int32) (v_pad_size : Int32) (v_trial_sea_there : Int32) (v_trial_sea_month : Int32) (v_trial_sea_lost : Int32) (v_trial_sea_heads : Nat → Int32) (v_trial_sea_sides : Nat → Int32) (v_trial_sea_moods : Nat → Int32) (v_trial_sea_moults : Nat → Int32) (v_trial_act_kind : Int32) (v_trial_act_one : Int32) (v_trial_act_other : Int32) (v_trial_isFaulty : Int32) (v_trial_acts : Int32) (v_trial_why : Int32) (v_trial_readings : Int32) (v_trial_signedAll : Int32) (p1 : Int32) : Option (Int32 × Int32 × Int32 × Int32 × (Nat → Int32) × (Nat → Int32) × (Nat → Int32) × (Nat → Int32) × Int32 × Int32 × Int32 × Int32 × Int32 × Int32 × Int32 × Int32) :=
  if (f_Strait_within p1 (0 : Int32) (1 : Int32)) = 0 then
    some ((-2 : Int32), v_trial_sea_there, v_trial_sea_month, v_trial_sea_lost, v_trial_sea_heads, v_trial_sea_sides, v_trial_sea_moods, v_trial_sea_moults, v_trial_act_kind, v_trial_act_one, v_trial_act_other, v_trial_isFaulty, v_trial_acts, v_trial_why, v_trial_readings, v_trial_signedAll)
  else
  (f_Trial_run v_trial_sea_there v_trial_sea_month v_trial_sea_lost v_trial_sea_heads v_trial_sea_sides v_trial_sea_moods v_trial_sea_moults v_trial_act_kind v_trial_act_one v_trial_act_other v_trial_isFaulty v_trial_acts v_trial_why v_trial_readings v_trial_signedAll v_pad_signs v_pad_size v_sea_there v_sea_month v_sea_lost v_sea_heads v_sea_sides v_sea_moods v_sea_moults v_treaty_words).bind fun (u3_sea_there, u3_sea_month, u3_sea_lost, u3_sea_heads, u3_sea_sides, u3_sea_moods, u3_sea_moults, u3_act_kind, u3_act_one, u3_act_other, u3_isFaulty, u3_acts, u3_why, u3_readings, u3_signedAll) =>
  if u3_isFaulty = 0 then
    if u3_why = 0 then
      some ((-6 : Int32), u3_sea_there, u3_sea_month, u3_sea_lost, u3_sea_heads, u3_sea_sides, u3_sea_moods, u3_sea_moults, u3_act_kind, u3_act_one, u3_act_other, u3_isFaulty, u3_acts, u3_why, u3_readings, u3_signedAll)
    else
    if p1 = 0 then
      some (u3_acts, u3_sea_there, u3_sea_month, u3_sea_lost, u3_sea_heads, u3_sea_sides, u3_sea_moods, u3_sea_moults, u3_act_kind, u3_act_one, u3_act_other, u3_isFaulty, u3_acts, u3_why, u3_readings, u3_signedAll)
    else
    some (u3_why, u3_sea_there, u3_sea_month, u3_sea_lost, u3_sea_heads, u3_sea_sides, u3_sea_moods, u3_sea_moults, u3_act_kind, u3_act_one, u3_act_other, u3_isFaulty, u3_acts, u3_why, u3_readings, u3_signedAll)
  else
  some ((-5 : Int32), u3_sea_there, u3_sea_month, u3_sea_lost, u3_sea_heads, u3_sea_sides, u3_sea_moods, u3_sea_moults, u3_act_kind, u3_act_one, u3_act_other, u3_isFaulty, u3_acts, u3_why, u3_readings, u3_signedAll)
/-- SealStrait.done -/
noncomputable def f_Strait_done (v_sea_there : Int32) (v_sea_month : Int32) (v_sea_lost : Int32) (v_sea_heads : Nat → Int32) (v_sea_sides : Nat → Int32) (v_sea_moods : Nat → Int32) (v_sea_moults : Nat → Int32) (v_treaty_words : Nat → Int32) (v_pad_signs : Nat → Int32) (v_pad_size : Int32) (v_trial_sea_there : Int32) (v_trial_sea_month : Int32) (v_trial_sea_lost : Int32) (v_trial_sea_heads : Nat → Int32) (v_trial_sea_sides : Nat → Int32) (v_trial_sea_moods : Nat → Int32) (v_trial_sea_moults : Nat → Int32) (v_trial_act_kind : Int32) (v_trial_act_one : Int32) (v_trial_act_other : Int32) (v_trial_isFaulty : Int32) (v_trial_acts : Int32) (v_trial_why : Int32) (v_trial_readings : Int32) (v_trial_signedAll : Int32) : Option (Int32 × Int32 × Int32 × Int32 × (Nat → Int32) × (Nat → Int32) × (Nat → Int32) × (Nat → Int32) × Int32 × Int32 × Int32 × Int32 × (Nat → Int32) × (Nat → Int32) × (Nat → Int32) × (Nat → Int32) × Int32 × Int32 × Int32 × Int32 × Int32 × Int32 × Int32 × Int32) :=
  (f_Trial_run v_trial_sea_there v_trial_sea_month v_trial_sea_lost v_trial_sea_heads v_trial_sea_sides v_trial_sea_moods v_trial_sea_moults v_trial_act_kind v_trial_act_one v_trial_act_other v_trial_isFaulty v_trial_acts v_trial_why v_trial_readings v_trial_signedAll v_pad_signs v_pad_size v_sea_there v_sea_month v_sea_lost v_sea_heads v_sea_sides v_sea_moods v_sea_moults v_treaty_words).bind fun (u1_sea_there, u1_sea_month, u1_sea_lost, u1_sea_heads, u1_sea_sides, u1_sea_moods, u1_sea_moults, u1_act_kind, u1_act_one, u1_act_other, u1_isFaulty, u1_acts, u1_why, u1_readings, u1_signedAll) =>
  if (f_Trial_allCanBe u1_isFaulty u1_why) = 0 then
    some ((-5 : Int32), v_sea_there, v_sea_month, v_sea_lost, v_sea_heads, v_sea_sides, v_sea_moods, v_sea_moults, v_pad_size, u1_sea_there, u1_sea_month, u1_sea_lost, u1_sea_heads, u1_sea_sides, u1_sea_moods, u1_sea_moults, u1_act_kind, u1_act_one, u1_act_other, u1_isFaulty, u1_acts, u1_why, u1_readings, u1_signedAll)
  else
  (f_Sea_copyFrom v_sea_there v_sea_month v_sea_lost v_sea_heads v_sea_sides v_sea_moods v_sea_moults u1_sea_there u1_sea_month u1_sea_lost u1_sea_heads u1_sea_sides u1_sea_moods u1_sea_moults).bind fun (u5_there, u5_month, u5_lost, u5_heads, u5_sides, u5_moods, u5_moults) =>
  some (u1_acts, u5_there, u5_month, u5_lost, u5_heads, u5_sides, u5_moods, u5_moults, (0 : Int32), u1_sea_there, u1_sea_month, u1_sea_lost, u1_sea_heads, u1_sea_sides, u1_sea_moods, u1_sea_moults, u1_act_kind, u1_act_one, u1_act_other, u1_isFaulty, u1_acts, u1_why, u1_readings, u1_signedAll)
/-- SealStrait.behind -/
noncomputable def f_Strait_behind (v_sea_there : Int32) (v_sea_month : Int32) (v_sea_lost : Int32) (v_sea_heads : Nat → Int32) (v_sea_sides : Nat → Int32) (v_sea_moods : Nat → Int32) (v_sea_moults : Nat → Int32) (v_treaty_words : Nat → Int32) (v_pad_signs : Nat → Int32) (v_pad_size : Int32) (v_trial_sea_there : Int32) (v_trial_sea_month : Int32) (v_trial_sea_lost : Int32) (v_trial_sea_heads : Nat → Int32) (v_trial_sea_sides : Nat → Int32) (v_trial_sea_moods : Nat → Int32) (v_trial_sea_moults : Nat → Int32) (v_trial_act_kind : Int32) (v_trial_act_one : Int32) (v_trial_act_other : Int32) (v_trial_isFaulty : Int32) (v_trial_acts : Int32) (v_trial_why : Int32) (v_trial_readings : Int32) (v_trial_signedAll : Int32) (p1 : Int32) (p2 : Int32) : Option (Int32 × Int32 × Int32 × Int32 × (Nat → Int32) × (Nat → Int32) × (Nat → Int32) × (Nat → Int32) × Int32 × Int32 × Int32 × Int32 × Int32 × Int32 × Int32 × Int32) :=
  if (f_Sea_isThere v_sea_there p1) = 0 then
    some ((-1 : Int32), v_trial_sea_there, v_trial_sea_month, v_trial_sea_lost, v_trial_sea_heads, v_trial_sea_sides, v_trial_sea_moods, v_trial_sea_moults, v_trial_act_kind, v_trial_act_one, v_trial_act_other, v_trial_isFaulty, v_trial_acts, v_trial_why, v_trial_readings, v_trial_signedAll)
  else
  if (f_Strait_within p2 (0 : Int32) (2 : Int32)) = 0 then
    some ((-2 : Int32), v_trial_sea_there, v_trial_sea_month, v_trial_sea_lost, v_trial_sea_heads, v_trial_sea_sides, v_trial_sea_moods, v_trial_sea_moults, v_trial_act_kind, v_trial_act_one, v_trial_act_other, v_trial_isFaulty, v_trial_acts, v_trial_why, v_trial_readings, v_trial_signedAll)
  else
  (f_Trial_run v_trial_sea_there v_trial_sea_month v_trial_sea_lost v_trial_sea_heads v_trial_sea_sides v_trial_sea_moods v_trial_sea_moults v_trial_act_kind v_trial_act_one v_trial_act_other v_trial_isFaulty v_trial_acts v_trial_why v_trial_readings v_trial_signedAll v_pad_signs v_pad_size v_sea_there v_sea_month v_sea_lost v_sea_heads v_sea_sides v_sea_moods v_sea_moults v_treaty_words).bind fun (u5_sea_there, u5_sea_month, u5_sea_lost, u5_sea_heads, u5_sea_sides, u5_sea_moods, u5_sea_moults, u5_act_kind, u5_act_one, u5_act_other, u5_isFaulty, u5_acts, u5_why, u5_readings, u5_signedAll) =>
  if (f_Trial_allCanBe u5_isFaulty u5_why) = 0 then
    some ((-5 : Int32), u5_sea_there, u5_sea_month, u5_sea_lost, u5_sea_heads, u5_sea_sides, u5_sea_moods, u5_sea_moults, u5_act_kind, u5_act_one, u5_act_other, u5_isFaulty, u5_acts, u5_why, u5_readings, u5_signedAll)
  else
  if (f_Sea_isThere u5_sea_there p1) = 0 then
    some ((-6 : Int32), u5_sea_there, u5_sea_month, u5_sea_lost, u5_sea_heads, u5_sea_sides, u5_sea_moods, u5_sea_moults, u5_act_kind, u5_act_one, u5_act_other, u5_isFaulty, u5_acts, u5_why, u5_readings, u5_signedAll)
  else
  (f_Sea_traitOf u5_sea_there u5_sea_heads u5_sea_sides u5_sea_moods u5_sea_moults p1 p2).bind fun r11 =>
  some (r11, u5_sea_there, u5_sea_month, u5_sea_lost, u5_sea_heads, u5_sea_sides, u5_sea_moods, u5_sea_moults, u5_act_kind, u5_act_one, u5_act_other, u5_isFaulty, u5_acts, u5_why, u5_readings, u5_signedAll)
/-- SealStrait.then -/
noncomputable def f_Strait_then (v_sea_there : Int32) (v_sea_month : Int32) (v_sea_lost : Int32) (v_sea_heads : Nat → Int32) (v_sea_sides : Nat → Int32) (v_sea_moods : Nat → Int32) (v_sea_moults : Nat → Int32) (v_treaty_words : Nat → Int32) (v_pad_signs : Nat → Int32) (v_pad_size : Int32) (v_trial_sea_there : Int32) (v_trial_sea_month : Int32) (v_trial_sea_lost : Int32) (v_trial_sea_heads : Nat → Int32) (v_trial_sea_sides : Nat → Int32) (v_trial_sea_moods : Nat → Int32) (v_trial_sea_moults : Nat → Int32) (v_trial_act_kind : Int32) (v_trial_act_one : Int32) (v_trial_act_other : Int32) (v_trial_isFaulty : Int32) (v_trial_acts : Int32) (v_trial_why : Int32) (v_trial_readings : Int32) (v_trial_signedAll : Int32) (p1 : Int32) : Option (Int32 × Int32 × Int32 × Int32 × (Nat → Int32) × (Nat → Int32) × (Nat → Int32) × (Nat → Int32) × Int32 × Int32 × Int32 × Int32 × Int32 × Int32 × Int32 × Int32) :=
  if (f_Strait_within p1 (0 : Int32) (4 : Int32)) = 0 then
    some ((-2 : Int32), v_trial_sea_there, v_trial_sea_month, v_trial_sea_lost, v_trial_sea_heads, v_trial_sea_sides, v_trial_sea_moods, v_trial_sea_moults, v_trial_act_kind, v_trial_act_one, v_trial_act_other, v_trial_isFaulty, v_trial_acts, v_trial_why, v_trial_readings, v_trial_signedAll)
  else
  (f_Trial_run v_trial_sea_there v_trial_sea_month v_trial_sea_lost v_trial_sea_heads v_trial_sea_sides v_trial_sea_moods v_trial_sea_moults v_trial_act_kind v_trial_act_one v_trial_act_other v_trial_isFaulty v_trial_acts v_trial_why v_trial_readings v_trial_signedAll v_pad_signs v_pad_size v_sea_there v_sea_month v_sea_lost v_sea_heads v_sea_sides v_sea_moods v_sea_moults v_treaty_words).bind fun (u3_sea_there, u3_sea_month, u3_sea_lost, u3_sea_heads, u3_sea_sides, u3_sea_moods, u3_sea_moults, u3_act_kind, u3_act_one, u3_act_other, u3_isFaulty, u3_acts, u3_why, u3_readings, u3_signedAll) =>
  if (f_Trial_allCanBe u3_isFaulty u3_why) = 0 then
    some ((-5 : Int32), u3_sea_there, u3_sea_month, u3_sea_lost, u3_sea_heads, u3_sea_sides, u3_sea_moods, u3_sea_moults, u3_act_kind, u3_act_one, u3_act_other, u3_isFaulty, u3_acts, u3_why, u3_readings, u3_signedAll)
  else
  if p1 = (0 : Int32) then
    (f_Sea_headsOnSideOne u3_sea_there u3_sea_heads u3_sea_sides).bind fun r8 =>
    some (r8, u3_sea_there, u3_sea_month, u3_sea_lost, u3_sea_heads, u3_sea_sides, u3_sea_moods, u3_sea_moults, u3_act_kind, u3_act_one, u3_act_other, u3_isFaulty, u3_acts, u3_why, u3_readings, u3_signedAll)
  else
  if p1 = (1 : Int32) then
    some (u3_sea_lost, u3_sea_there, u3_sea_month, u3_sea_lost, u3_sea_heads, u3_sea_sides, u3_sea_moods, u3_sea_moults, u3_act_kind, u3_act_one, u3_act_other, u3_isFaulty, u3_acts, u3_why, u3_readings, u3_signedAll)
  else
  if p1 = (2 : Int32) then
    some (u3_sea_month, u3_sea_there, u3_sea_month, u3_sea_lost, u3_sea_heads, u3_sea_sides, u3_sea_moods, u3_sea_moults, u3_act_kind, u3_act_one, u3_act_other, u3_isFaulty, u3_acts, u3_why, u3_readings, u3_signedAll)
  else
  if p1 = (3 : Int32) then
    some (u3_readings, u3_sea_there, u3_sea_month, u3_sea_lost, u3_sea_heads, u3_sea_sides, u3_sea_moods, u3_sea_moults, u3_act_kind, u3_act_one, u3_act_other, u3_isFaulty, u3_acts, u3_why, u3_readings, u3_signedAll)
  else
  some (u3_signedAll, u3_sea_there, u3_sea_month, u3_sea_lost, u3_sea_heads, u3_sea_sides, u3_sea_moods, u3_sea_moults, u3_act_kind, u3_act_one, u3_act_other, u3_isFaulty, u3_acts, u3_why, u3_readings, u3_signedAll)
/-- SealStrait.who -/
noncomputable def f_Strait_who (v_sea_there : Int32) (v_sea_month : Int32) (v_sea_heads : Nat → Int32) (v_sea_moods : Nat → Int32) (v_sea_moults : Nat → Int32) (v_treaty_words : Nat → Int32) (p1 : Int32) : Option (Int32) :=
  if (f_Strait_within p1 (0 : Int32) (9 : Int32)) = 0 then
    some (-1 : Int32)
  else
  if ix p1 10 = true then
  (f_Sea_signers v_sea_there v_sea_month v_sea_heads v_sea_moods v_sea_moults (v_treaty_words (p1).toNatClampNeg)).bind fun r4 =>
  some r4
  else none
/-- SealStrait.bring -/
noncomputable def f_Strait_bring (v_sea_there : Int32) (v_sea_month : Int32) (v_sea_heads : Nat → Int32) (v_sea_sides : Nat → Int32) (v_sea_moods : Nat → Int32) (v_sea_moults : Nat → Int32) (v_treaty_words : Nat → Int32) (v_bringing_steps : Nat → Int32) (v_bringing_firsts : Nat → Int32) (v_bringing_queue : Nat → Int32) (v_bringing_size : Int32) (v_bringing_oneListens : Int32) (v_bringing_otherListens : Int32) (v_bringing_fewest : Int32) (v_bringing_firstClause : Int32) (p1 : Int32) (p2 : Int32) (p3 : Int32) (p4 : Int32) (p5 : Int32) : Option (Int32 × (Nat → Int32) × (Nat → Int32) × (Nat → Int32) × Int32 × Int32 × Int32 × Int32 × Int32) :=
  if (f_Sea_isThere v_sea_there p1) = 0 then
    some ((-1 : Int32), v_bringing_steps, v_bringing_firsts, v_bringing_queue, v_bringing_size, v_bringing_oneListens, v_bringing_otherListens, v_bringing_fewest, v_bringing_firstClause)
  else
  if (f_Sea_isThere v_sea_there p3) = 0 then
    some ((-1 : Int32), v_bringing_steps, v_bringing_firsts, v_bringing_queue, v_bringing_size, v_bringing_oneListens, v_bringing_otherListens, v_bringing_fewest, v_bringing_firstClause)
  else
  if p1 = p3 then
    some ((-1 : Int32), v_bringing_steps, v_bringing_firsts, v_bringing_queue, v_bringing_size, v_bringing_oneListens, v_bringing_otherListens, v_bringing_fewest, v_bringing_firstClause)
  else
  if (f_Strait_within p2 (0 : Int32) (1 : Int32)) = 0 then
    some ((-2 : Int32), v_bringing_steps, v_bringing_firsts, v_bringing_queue, v_bringing_size, v_bringing_oneListens, v_bringing_otherListens, v_bringing_fewest, v_bringing_firstClause)
  else
  if (f_Strait_within p4 (0 : Int32) (1 : Int32)) = 0 then
    some ((-2 : Int32), v_bringing_steps, v_bringing_firsts, v_bringing_queue, v_bringing_size, v_bringing_oneListens, v_bringing_otherListens, v_bringing_fewest, v_bringing_firstClause)
  else
  if (f_Strait_within p5 (0 : Int32) (1 : Int32)) = 0 then
    some ((-2 : Int32), v_bringing_steps, v_bringing_firsts, v_bringing_queue, v_bringing_size, v_bringing_oneListens, v_bringing_otherListens, v_bringing_fewest, v_bringing_firstClause)
  else
  (f_Bringing_begin v_bringing_steps v_bringing_firsts v_bringing_queue v_bringing_size v_bringing_oneListens v_bringing_otherListens v_sea_there v_sea_month v_sea_heads v_sea_sides v_sea_moods v_sea_moults p1 p3).bind fun (u12_steps, u12_firsts, u12_queue, u12_size, u12_oneListens, u12_otherListens) =>
  (f_Bringing_search u12_steps u12_firsts u12_queue u12_size u12_oneListens u12_otherListens v_bringing_fewest v_bringing_firstClause v_treaty_words p2 p4).bind fun (u14_steps, u14_firsts, u14_queue, u14_size, u14_fewest, u14_firstClause) =>
  if p5 = 0 then
    some (u14_fewest, u14_steps, u14_firsts, u14_queue, u14_size, u12_oneListens, u12_otherListens, u14_fewest, u14_firstClause)
  else
  some (u14_firstClause, u14_steps, u14_firsts, u14_queue, u14_size, u12_oneListens, u12_otherListens, u14_fewest, u14_firstClause)
/-- SealStrait.drop -/
noncomputable def f_Strait_drop (v_treaty_clashes : Nat → Int32) (p1 : Int32) (p2 : Int32) : Option (Int32) :=
  if (f_Strait_within p1 (0 : Int32) (1023 : Int32)) = 0 then
    some (-2 : Int32)
  else
  if (f_Strait_within p2 (0 : Int32) (1 : Int32)) = 0 then
    some (-2 : Int32)
  else
  (f_Treaty_leastToDrop v_treaty_clashes p1).bind fun r5 =>
  if p2 = 0 then
    some (f_Integer_bitCount r5)
  else
  some r5
/-- SealStrait.share -/
noncomputable def b_Strait_share_1 (x2 : Int32) (v_sea_there : Int32) (v_sea_heads : Nat → Int32) (x3 : Int32) (v_got : Nat → Int32) : Option ((Int32 × (Nat → Int32)) ⊕ ((Nat → Int32))) :=
  if x2 ≤ x3 then
    some (.inr v_got)
  else
  (f_Sea_nextToGet v_sea_there v_sea_heads v_got).bind fun r12 =>
  if (f_Strait_within r12 (0 : Int32) (5 : Int32)) = 0 then
    some (.inl ((x3 + 1), v_got))
  else
  if ix r12 6 = true then
  if ix r12 6 = true then
  some (.inl ((x3 + 1), (upd v_got (r12).toNatClampNeg ((v_got (r12).toNatClampNeg) + (1 : Int32)))))
  else none
  else none
noncomputable def f_Strait_share (v_sea_there : Int32) (v_sea_heads : Nat → Int32) (v_got : Nat → Int32) (p1 : Int32) (p2 : Int32) : Option (Int32 × (Nat → Int32)) :=
  if (f_Sea_isThere v_sea_there p1) = 0 then
    some ((-1 : Int32), v_got)
  else
  if (f_Strait_within p2 (0 : Int32) (99 : Int32)) = 0 then
    some ((-2 : Int32), v_got)
  else
  (f_Sea_hasHeads v_sea_there v_sea_heads).bind fun r5 =>
  if r5 = 0 then
    some ((-6 : Int32), v_got)
  else
  (f_Arrays_fill 6 v_got (0 : Int32)).bind fun u8_a1 =>
  (ev (fun s => b_Strait_share_1 p2 v_sea_there v_sea_heads s.1 s.2) ((0 : Int32), u8_a1)).bind fun z18_got =>
  if ix p1 6 = true then
  some ((z18_got (p1).toNatClampNeg), z18_got)
  else none
/-- SealStrait.waitIsAsTold -/
noncomputable def f_Strait_waitIsAsTold (p1 : Int32) (p2 : Int32) : Int32 :=
  if (f_Strait_within p1 (1 : Int32) (12 : Int32)) = 0 then
    (0 : Int32)
  else
  if (f_Strait_within p2 (1 : Int32) (9 : Int32)) = 0 then
    (0 : Int32)
  else
  (1 : Int32)
/-- SealStrait.waiting -/
noncomputable def f_Strait_waiting (v_fraction_upper : Int64) (v_fraction_lower : Int64) (p1 : Int32) (p2 : Int32) (p3 : Int32) : Option (Int64 × Int64 × Int64) :=
  if (f_Strait_waitIsAsTold p1 p2) = 0 then
    some ((-1000000000000000002 : Int64), v_fraction_upper, v_fraction_lower)
  else
  if (f_Strait_within p3 (0 : Int32) (1 : Int32)) = 0 then
    some ((-1000000000000000002 : Int64), v_fraction_upper, v_fraction_lower)
  else
  (f_Fraction_setWaiting v_fraction_upper v_fraction_lower p1 p2).bind fun (u5_upper, u5_lower) =>
  some ((f_Fraction_part u5_upper u5_lower p3), u5_upper, u5_lower)
/-- SealStrait.reads -/
noncomputable def f_Strait_reads (v_fraction_upper : Int64) (v_fraction_lower : Int64) (p1 : Int32) (p2 : Int32) : Option (Int32 × Int64 × Int64) :=
  if (f_Strait_waitIsAsTold p1 p2) = 0 then
    some ((-2 : Int32), v_fraction_upper, v_fraction_lower)
  else
  (f_Fraction_setWaiting v_fraction_upper v_fraction_lower (p1 - (1 : Int32)) p2).bind fun (u3_upper, u3_lower) =>
  (f_Fraction_leastWholeNotBelow u3_upper u3_lower p2).bind fun r5 =>
  some (r5, u3_upper, u3_lower)
/-- SealStrait.counted -/
noncomputable def f_Strait_counted (v_lookout_counts : Int32) (v_lookout_countRocks : Nat → Int32) (v_lookout_countWantings : Nat → Int32) (p1 : Int32) (p2 : Int32) : Option (Int32 × Int32 × (Nat → Int32) × (Nat → Int32)) :=
  if (f_Strait_within p1 (0 : Int32) (5 : Int32)) = 0 then
    some ((-1 : Int32), v_lookout_counts, v_lookout_countRocks, v_lookout_countWantings)
  else
  if (f_Strait_within p2 (0 : Int32) (999 : Int32)) = 0 then
    some ((-2 : Int32), v_lookout_counts, v_lookout_countRocks, v_lookout_countWantings)
  else
  (f_Lookout_addCount v_lookout_counts v_lookout_countRocks v_lookout_countWantings p1 p2).bind fun (r5, u5_counts, u5_countRocks, u5_countWantings) =>
  if r5 = 0 then
    some ((-4 : Int32), u5_counts, u5_countRocks, u5_countWantings)
  else
  some (u5_counts, u5_counts, u5_countRocks, u5_countWantings)
/-- SealStrait.forget -/
noncomputable def f_Strait_forget (v_lookout_counts : Int32) : Option (Int32 × Int32) :=
  some (v_lookout_counts, (0 : Int32))
/-- SealStrait.went -/
noncomputable def f_Strait_went (v_sea_there : Int32) (v_sea_heads : Nat → Int32) (v_lookout_seen : Nat → Int32) (v_lookout_counts : Int32) (v_lookout_countRocks : Nat → Int32) (v_lookout_countWantings : Nat → Int32) (v_guess_size : Int32) (v_guess_sets : Nat → Int32) (p1 : Int32) : Option (Int32 × Int32 × (Nat → Int32)) :=
  if (-1 : Int32) ≤ p1 then
    (f_Guess_findSets v_guess_size v_guess_sets v_lookout_seen v_lookout_counts v_lookout_countRocks v_lookout_countWantings v_sea_there v_sea_heads).bind fun (u2_size, u2_sets) =>
    if p1 = (-1 : Int32) then
      some (u2_size, u2_size, u2_sets)
    else
    (f_Guess_setAt u2_size u2_sets p1).bind fun r5 =>
    some (r5, u2_size, u2_sets)
  else
  some ((-6 : Int32), v_guess_size, v_guess_sets)
/-- SealStrait.ask -/
noncomputable def f_Strait_ask (v_sea_there : Int32) (v_sea_heads : Nat → Int32) (v_lookout_seen : Nat → Int32) (v_lookout_counts : Int32) (v_lookout_countRocks : Nat → Int32) (v_lookout_countWantings : Nat → Int32) (v_guess_size : Int32) (v_guess_sets : Nat → Int32) (v_guess_nextRock : Int32) (v_guess_leftAtMost : Int32) (v_guess_tally : Nat → Int32) (p1 : Int32) : Option (Int32 × Int32 × (Nat → Int32) × Int32 × Int32 × (Nat → Int32)) :=
  if (f_Strait_within p1 (0 : Int32) (1 : Int32)) = 0 then
    some ((-2 : Int32), v_guess_size, v_guess_sets, v_guess_nextRock, v_guess_leftAtMost, v_guess_tally)
  else
  (f_Guess_findSets v_guess_size v_guess_sets v_lookout_seen v_lookout_counts v_lookout_countRocks v_lookout_countWantings v_sea_there v_sea_heads).bind fun (u3_size, u3_sets) =>
  if u3_size = 0 then
    some ((-6 : Int32), u3_size, u3_sets, v_guess_nextRock, v_guess_leftAtMost, v_guess_tally)
  else
  (f_Guess_findNextRock u3_size u3_sets v_guess_nextRock v_guess_leftAtMost v_guess_tally v_lookout_seen v_sea_there v_sea_heads).bind fun (u6_nextRock, u6_leftAtMost, u6_tally) =>
  if p1 = 0 then
    some (u6_nextRock, u3_size, u3_sets, u6_nextRock, u6_leftAtMost, u6_tally)
  else
  some (u6_leftAtMost, u3_size, u3_sets, u6_nextRock, u6_leftAtMost, u6_tally)
/-- SealStrait.turning -/
noncomputable def f_Strait_turning (v_treaty_words : Nat → Int32) (v_game_wins : Nat → Int32) (p1 : Int32) (p2 : Int32) : Option (Int32 × (Nat → Int32)) :=
  if (f_Strait_within p1 (0 : Int32) (30 : Int32)) = 0 then
    some ((-2 : Int32), v_game_wins)
  else
  if (f_Strait_within p2 (0 : Int32) (1 : Int32)) = 0 then
    some ((-2 : Int32), v_game_wins)
  else
  (f_Game_winningFirst v_game_wins v_treaty_words p1).bind fun (r5, u5_wins) =>
  if p2 = (1 : Int32) then
    some (r5, u5_wins)
  else
  if r5 = (-6 : Int32) then
    some ((0 : Int32), u5_wins)
  else
  some ((1 : Int32), u5_wins)
/-- SealStrait.drift -/
noncomputable def f_Strait_drift (v_fraction_upper : Int64) (v_fraction_lower : Int64) (p1 : Int32) (p2 : Int32) (p3 : Int32) (p4 : Int32) (p5 : Int32) (p6 : Int32) : Option (Int64 × Int64 × Int64) :=
  if (f_Strait_within p1 (0 : Int32) (1 : Int32)) = 0 then
    some ((-1000000000000000002 : Int64), v_fraction_upper, v_fraction_lower)
  else
  if (f_Strait_within p2 (0 : Int32) (10 : Int32)) = 0 then
    some ((-1000000000000000002 : Int64), v_fraction_upper, v_fraction_lower)
  else
  if (f_Strait_within p3 (0 : Int32) (10 : Int32)) = 0 then
    some ((-1000000000000000002 : Int64), v_fraction_upper, v_fraction_lower)
  else
  if (f_Strait_within p5 (0 : Int32) (1 : Int32)) = 0 then
    some ((-1000000000000000002 : Int64), v_fraction_upper, v_fraction_lower)
  else
  if (f_Strait_within p6 (0 : Int32) (1 : Int32)) = 0 then
    some ((-1000000000000000002 : Int64), v_fraction_upper, v_fraction_lower)
  else
  if p5 = 0 then
    if (f_Strait_within p4 (0 : Int32) (17 : Int32)) = 0 then
      some ((-1000000000000000002 : Int64), v_fraction_upper, v_fraction_lower)
    else
    (f_Fraction_setDrift v_fraction_upper v_fraction_lower p1 p2 p3 p4 p5).bind fun (u19_upper, u19_lower) =>
    some ((f_Fraction_part u19_upper u19_lower p6), u19_upper, u19_lower)
  else
  if (f_Strait_within p4 (0 : Int32) (16 : Int32)) = 0 then
    some ((-1000000000000000002 : Int64), v_fraction_upper, v_fraction_lower)
  else
  (f_Fraction_setDrift v_fraction_upper v_fraction_lower p1 p2 p3 p4 p5).bind fun (u14_upper, u14_lower) =>
  some ((f_Fraction_part u14_upper u14_lower p6), u14_upper, u14_lower)
/-- SealStrait.year -/
noncomputable def f_Strait_year (v_sea_there : Int32) (v_sea_month : Int32) (v_sea_lost : Int32) (v_sea_heads : Nat → Int32) (v_sea_sides : Nat → Int32) (v_sea_moods : Nat → Int32) (v_sea_moults : Nat → Int32) (v_treaty_words : Nat → Int32) (v_trial_sea_there : Int32) (v_trial_sea_month : Int32) (v_trial_sea_lost : Int32) (v_trial_sea_heads : Nat → Int32) (v_trial_sea_sides : Nat → Int32) (v_trial_sea_moods : Nat → Int32) (v_trial_sea_moults : Nat → Int32) (v_trial_act_kind : Int32) (v_trial_act_one : Int32) (v_trial_act_other : Int32) (p1 : Int32) (p2 : Int32) (p3 : Int32) : Option (Int32 × Int32 × Int32 × Int32 × (Nat → Int32) × (Nat → Int32) × (Nat → Int32) × (Nat → Int32) × Int32 × Int32 × Int32) :=
  if (f_Strait_within p1 (0 : Int32) (9999 : Int32)) = 0 then
    some ((-2 : Int32), v_trial_sea_there, v_trial_sea_month, v_trial_sea_lost, v_trial_sea_heads, v_trial_sea_sides, v_trial_sea_moods, v_trial_sea_moults, v_trial_act_kind, v_trial_act_one, v_trial_act_other)
  else
  if (f_Strait_within p2 (1 : Int32) (99 : Int32)) = 0 then
    some ((-2 : Int32), v_trial_sea_there, v_trial_sea_month, v_trial_sea_lost, v_trial_sea_heads, v_trial_sea_sides, v_trial_sea_moods, v_trial_sea_moults, v_trial_act_kind, v_trial_act_one, v_trial_act_other)
  else
  if (f_Strait_within p3 (0 : Int32) (2 : Int32)) = 0 then
    some ((-2 : Int32), v_trial_sea_there, v_trial_sea_month, v_trial_sea_lost, v_trial_sea_heads, v_trial_sea_sides, v_trial_sea_moods, v_trial_sea_moults, v_trial_act_kind, v_trial_act_one, v_trial_act_other)
  else
  (f_Trial_runYear v_trial_sea_there v_trial_sea_month v_trial_sea_lost v_trial_sea_heads v_trial_sea_sides v_trial_sea_moods v_trial_sea_moults v_trial_act_kind v_trial_act_one v_trial_act_other v_sea_there v_sea_month v_sea_lost v_sea_heads v_sea_sides v_sea_moods v_sea_moults v_treaty_words p1 p2).bind fun (u7_sea_there, u7_sea_month, u7_sea_lost, u7_sea_heads, u7_sea_sides, u7_sea_moods, u7_sea_moults, u7_act_kind, u7_act_one, u7_act_other) =>
  if p3 = (0 : Int32) then
    (f_Sea_headsOnSideOne u7_sea_there u7_sea_heads u7_sea_sides).bind fun r10 =>
    some (r10, u7_sea_there, u7_sea_month, u7_sea_lost, u7_sea_heads, u7_sea_sides, u7_sea_moods, u7_sea_moults, u7_act_kind, u7_act_one, u7_act_other)
  else
  if p3 = (1 : Int32) then
    some (u7_sea_lost, u7_sea_there, u7_sea_month, u7_sea_lost, u7_sea_heads, u7_sea_sides, u7_sea_moods, u7_sea_moults, u7_act_kind, u7_act_one, u7_act_other)
  else
  (f_Sea_allMoods u7_sea_there u7_sea_moods).bind fun r13 =>
  some (r13, u7_sea_there, u7_sea_month, u7_sea_lost, u7_sea_heads, u7_sea_sides, u7_sea_moods, u7_sea_moults, u7_act_kind, u7_act_one, u7_act_other)
/-- SealStrait.told -/
noncomputable def f_Strait_told (v_sea_there : Int32) (v_sea_month : Int32) (v_sea_lost : Int32) (v_sea_heads : Nat → Int32) (v_sea_sides : Nat → Int32) (v_sea_moods : Nat → Int32) (v_sea_moults : Nat → Int32) (v_treaty_words : Nat → Int32) (v_treaty_clashes : Nat → Int32) (v_lookout_seen : Nat → Int32) (v_lookout_counts : Int32) (v_pad_size : Int32) (p1 : Int32) : Option (Int32) :=
  if (f_Strait_within p1 (10 : Int32) (19 : Int32)) = 0 then
    if (f_Strait_within p1 (20 : Int32) (29 : Int32)) = 0 then
      if (f_Strait_within p1 (30 : Int32) (35 : Int32)) = 0 then
        if p1 < (100 : Int32) then
          if p1 = (0 : Int32) then
            some v_pad_size
          else
          if p1 = (1 : Int32) then
            some v_sea_there
          else
          if p1 = (2 : Int32) then
            some v_sea_month
          else
          if p1 = (3 : Int32) then
            some v_sea_lost
          else
          if p1 = (4 : Int32) then
            some v_lookout_counts
          else
          some (-2 : Int32)
        else
        (f_Sea_traitOf v_sea_there v_sea_heads v_sea_sides v_sea_moods v_sea_moults ((p1 - (100 : Int32)) / (10 : Int32)) ((p1 - (100 : Int32)) - (p1 - (100 : Int32)) / (10 : Int32) * (10 : Int32))).bind fun r13 =>
        some r13
      else
      if ix (p1 - (30 : Int32)) 6 = true then
      some (v_lookout_seen ((p1 - (30 : Int32))).toNatClampNeg)
      else none
    else
    if ix (p1 - (20 : Int32)) 10 = true then
    some (v_treaty_clashes ((p1 - (20 : Int32))).toNatClampNeg)
    else none
  else
  if ix (p1 - (10 : Int32)) 10 = true then
  some (v_treaty_words ((p1 - (10 : Int32))).toNatClampNeg)
  else none
/-- SealStraitModel.in -/
noncomputable def f_Model_in (p1 : Int32) (p2 : Int32) (p3 : Int32) : Int32 :=
  if p1 < p2 then
    (0 : Int32)
  else
  if p3 < p1 then
    (0 : Int32)
  else
  (1 : Int32)
/-- SealStraitModel.has -/
noncomputable def f_Model_has (p1 : Int32) (p2 : Int32) : Int32 :=
  if ((p1 >>> (p2 &&& 31)) &&& (1 : Int32)) = (1 : Int32) then
    (1 : Int32)
  else
  (0 : Int32)
/-- SealStraitModel.bits -/
noncomputable def b_Model_bits_1 (x0 : Int32) (x1 : Int32) (x2 : Int32) : Option ((Int32 × Int32) ⊕ (Int32)) :=
  if (10 : Int32) ≤ x2 then
    some (.inr x1)
  else
  some (.inl ((x1 + ((x0 >>> (x2 &&& 31)) &&& (1 : Int32))), (x2 + 1)))
noncomputable def f_Model_bits (p1 : Int32) : Option (Int32) :=
  (ev (fun s => b_Model_bits_1 p1 s.1 s.2) ((0 : Int32), (0 : Int32))).bind fun y1_3 =>
  some y1_3
/-- SealStraitModel.isClause -/
noncomputable def f_Model_isClause (p1 : Int32) : Int32 :=
  (f_Model_in p1 (0 : Int32) (9 : Int32))
/-- SealStraitModel.isThere -/
noncomputable def f_Model_isThere (v_book : Nat → Int32) (p1 : Int32) : Int32 :=
  if (f_Model_in p1 (0 : Int32) (5 : Int32)) = 0 then
    (0 : Int32)
  else
  if (f_Model_has (v_book ((18 : Int32)).toNatClampNeg) p1) = 0 then
    (0 : Int32)
  else
  (1 : Int32)
/-- SealStraitModel.herd -/
noncomputable def f_Model_herd (v_book : Nat → Int32) (v_moults : Nat → Int32) (p1 : Int32) (p2 : Int32) (p3 : Int32) (p4 : Int32) (p5 : Int32) : Option (Int32 × (Nat → Int32) × (Nat → Int32)) :=
  if (f_Model_in p1 (0 : Int32) (5 : Int32)) = 0 then
    some ((-1 : Int32), v_book, v_moults)
  else
  if (f_Model_in p2 (0 : Int32) (99 : Int32)) = 0 then
    some ((-2 : Int32), v_book, v_moults)
  else
  if (f_Model_in p3 (0 : Int32) (1 : Int32)) = 0 then
    some ((-2 : Int32), v_book, v_moults)
  else
  if (f_Model_in p4 (0 : Int32) (9 : Int32)) = 0 then
    some ((-2 : Int32), v_book, v_moults)
  else
  if (f_Model_in p5 (0 : Int32) (11 : Int32)) = 0 then
    some ((-2 : Int32), v_book, v_moults)
  else
  if ix p1 21 = true then
  if ix ((6 : Int32) + p1) 21 = true then
  if ix ((12 : Int32) + p1) 21 = true then
  if ix p1 6 = true then
  (f_Model_bits ((upd (upd (upd (upd v_book (p1).toNatClampNeg p2) (((6 : Int32) + p1)).toNatClampNeg p3) (((12 : Int32) + p1)).toNatClampNeg p4) ((18 : Int32)).toNatClampNeg (((upd (upd (upd v_book (p1).toNatClampNeg p2) (((6 : Int32) + p1)).toNatClampNeg p3) (((12 : Int32) + p1)).toNatClampNeg p4) ((18 : Int32)).toNatClampNeg) ||| ((1 : Int32) <<< (p1 &&& 31)))) ((18 : Int32)).toNatClampNeg)).bind fun r15 =>
  some (r15, (upd (upd (upd (upd v_book (p1).toNatClampNeg p2) (((6 : Int32) + p1)).toNatClampNeg p3) (((12 : Int32) + p1)).toNatClampNeg p4) ((18 : Int32)).toNatClampNeg (((upd (upd (upd v_book (p1).toNatClampNeg p2) (((6 : Int32) + p1)).toNatClampNeg p3) (((12 : Int32) + p1)).toNatClampNeg p4) ((18 : Int32)).toNatClampNeg) ||| ((1 : Int32) <<< (p1 &&& 31)))), (upd v_moults (p1).toNatClampNeg p5))
  else none
  else none
  else none
  else none
/-- SealStraitModel.clause -/
noncomputable def f_Model_clause (v_words : Nat → Int32) (p1 : Int32) (p2 : Int32) : Option (Int32 × (Nat → Int32)) :=
  if (f_Model_isClause p1) = 0 then
    some ((-1 : Int32), v_words)
  else
  if (f_Model_in p2 (1 : Int32) (9 : Int32)) = 0 then
    some ((-2 : Int32), v_words)
  else
  if ix p1 10 = true then
  if ix p1 10 = true then
  some ((v_words (p1).toNatClampNeg), (upd v_words (p1).toNatClampNeg p2))
  else none
  else none
/-- SealStraitModel.clash -/
noncomputable def b_Model_clash_1 (v_clashes : Nat → Int32) (x4 : Int32) (x5 : Int32) : Option ((Int32 × Int32) ⊕ (Int32)) :=
  if (10 : Int32) ≤ x5 then
    some (.inr x4)
  else
  if ix x5 10 = true then
  (f_Model_bits (v_clashes (x5).toNatClampNeg)).bind fun r19 =>
  some (.inl ((x4 + r19), (x5 + 1)))
  else none
noncomputable def f_Model_clash (v_clashes : Nat → Int32) (p1 : Int32) (p2 : Int32) (p3 : Int32) : Option (Int32 × (Nat → Int32)) :=
  if (f_Model_isClause p1) = 0 then
    some ((-1 : Int32), v_clashes)
  else
  if (f_Model_isClause p2) = 0 then
    some ((-1 : Int32), v_clashes)
  else
  if p1 = p2 then
    some ((-1 : Int32), v_clashes)
  else
  if ix p1 10 = true then
  if ix p1 10 = true then
  if ix p2 10 = true then
  if ix p2 10 = true then
  if ix p1 10 = true then
  if p3 = 0 then
    if ix p1 10 = true then
    if ix p2 10 = true then
    if p3 = 0 then
      if ix p2 10 = true then
      (ev (fun s => b_Model_clash_1 (upd (upd (upd (upd v_clashes (p1).toNatClampNeg ((v_clashes (p1).toNatClampNeg) &&& (((1 : Int32) <<< (p2 &&& 31)) ^^^ (-1 : Int32)))) (p2).toNatClampNeg (((upd v_clashes (p1).toNatClampNeg ((v_clashes (p1).toNatClampNeg) &&& (((1 : Int32) <<< (p2 &&& 31)) ^^^ (-1 : Int32)))) (p2).toNatClampNeg) &&& (((1 : Int32) <<< (p1 &&& 31)) ^^^ (-1 : Int32)))) (p1).toNatClampNeg (((upd (upd v_clashes (p1).toNatClampNeg ((v_clashes (p1).toNatClampNeg) &&& (((1 : Int32) <<< (p2 &&& 31)) ^^^ (-1 : Int32)))) (p2).toNatClampNeg (((upd v_clashes (p1).toNatClampNeg ((v_clashes (p1).toNatClampNeg) &&& (((1 : Int32) <<< (p2 &&& 31)) ^^^ (-1 : Int32)))) (p2).toNatClampNeg) &&& (((1 : Int32) <<< (p1 &&& 31)) ^^^ (-1 : Int32)))) (p1).toNatClampNeg) ||| (0 : Int32))) (p2).toNatClampNeg (((upd (upd (upd v_clashes (p1).toNatClampNeg ((v_clashes (p1).toNatClampNeg) &&& (((1 : Int32) <<< (p2 &&& 31)) ^^^ (-1 : Int32)))) (p2).toNatClampNeg (((upd v_clashes (p1).toNatClampNeg ((v_clashes (p1).toNatClampNeg) &&& (((1 : Int32) <<< (p2 &&& 31)) ^^^ (-1 : Int32)))) (p2).toNatClampNeg) &&& (((1 : Int32) <<< (p1 &&& 31)) ^^^ (-1 : Int32)))) (p1).toNatClampNeg (((upd (upd v_clashes (p1).toNatClampNeg ((v_clashes (p1).toNatClampNeg) &&& (((1 : Int32) <<< (p2 &&& 31)) ^^^ (-1 : Int32)))) (p2).toNatClampNeg (((upd v_clashes (p1).toNatClampNeg ((v_clashes (p1).toNatClampNeg) &&& (((1 : Int32) <<< (p2 &&& 31)) ^^^ (-1 : Int32)))) (p2).toNatClampNeg) &&& (((1 : Int32) <<< (p1 &&& 31)) ^^^ (-1 : Int32)))) (p1).toNatClampNeg) ||| (0 : Int32))) (p2).toNatClampNeg) ||| (0 : Int32))) s.1 s.2) ((0 : Int32), (0 : Int32))).bind fun y4_21 =>
      some ((y4_21 / (2 : Int32)), (upd (upd (upd (upd v_clashes (p1).toNatClampNeg ((v_clashes (p1).toNatClampNeg) &&& (((1 : Int32) <<< (p2 &&& 31)) ^^^ (-1 : Int32)))) (p2).toNatClampNeg (((upd v_clashes (p1).toNatClampNeg ((v_clashes (p1).toNatClampNeg) &&& (((1 : Int32) <<< (p2 &&& 31)) ^^^ (-1 : Int32)))) (p2).toNatClampNeg) &&& (((1 : Int32) <<< (p1 &&& 31)) ^^^ (-1 : Int32)))) (p1).toNatClampNeg (((upd (upd v_clashes (p1).toNatClampNeg ((v_clashes (p1).toNatClampNeg) &&& (((1 : Int32) <<< (p2 &&& 31)) ^^^ (-1 : Int32)))) (p2).toNatClampNeg (((upd v_clashes (p1).toNatClampNeg ((v_clashes (p1).toNatClampNeg) &&& (((1 : Int32) <<< (p2 &&& 31)) ^^^ (-1 : Int32)))) (p2).toNatClampNeg) &&& (((1 : Int32) <<< (p1 &&& 31)) ^^^ (-1 : Int32)))) (p1).toNatClampNeg) ||| (0 : Int32))) (p2).toNatClampNeg (((upd (upd (upd v_clashes (p1).toNatClampNeg ((v_clashes (p1).toNatClampNeg) &&& (((1 : Int32) <<< (p2 &&& 31)) ^^^ (-1 : Int32)))) (p2).toNatClampNeg (((upd v_clashes (p1).toNatClampNeg ((v_clashes (p1).toNatClampNeg) &&& (((1 : Int32) <<< (p2 &&& 31)) ^^^ (-1 : Int32)))) (p2).toNatClampNeg) &&& (((1 : Int32) <<< (p1 &&& 31)) ^^^ (-1 : Int32)))) (p1).toNatClampNeg (((upd (upd v_clashes (p1).toNatClampNeg ((v_clashes (p1).toNatClampNeg) &&& (((1 : Int32) <<< (p2 &&& 31)) ^^^ (-1 : Int32)))) (p2).toNatClampNeg (((upd v_clashes (p1).toNatClampNeg ((v_clashes (p1).toNatClampNeg) &&& (((1 : Int32) <<< (p2 &&& 31)) ^^^ (-1 : Int32)))) (p2).toNatClampNeg) &&& (((1 : Int32) <<< (p1 &&& 31)) ^^^ (-1 : Int32)))) (p1).toNatClampNeg) ||| (0 : Int32))) (p2).toNatClampNeg) ||| (0 : Int32))))
      else none
    else
    if ix p2 10 = true then
    (ev (fun s => b_Model_clash_1 (upd (upd (upd (upd v_clashes (p1).toNatClampNeg ((v_clashes (p1).toNatClampNeg) &&& (((1 : Int32) <<< (p2 &&& 31)) ^^^ (-1 : Int32)))) (p2).toNatClampNeg (((upd v_clashes (p1).toNatClampNeg ((v_clashes (p1).toNatClampNeg) &&& (((1 : Int32) <<< (p2 &&& 31)) ^^^ (-1 : Int32)))) (p2).toNatClampNeg) &&& (((1 : Int32) <<< (p1 &&& 31)) ^^^ (-1 : Int32)))) (p1).toNatClampNeg (((upd (upd v_clashes (p1).toNatClampNeg ((v_clashes (p1).toNatClampNeg) &&& (((1 : Int32) <<< (p2 &&& 31)) ^^^ (-1 : Int32)))) (p2).toNatClampNeg (((upd v_clashes (p1).toNatClampNeg ((v_clashes (p1).toNatClampNeg) &&& (((1 : Int32) <<< (p2 &&& 31)) ^^^ (-1 : Int32)))) (p2).toNatClampNeg) &&& (((1 : Int32) <<< (p1 &&& 31)) ^^^ (-1 : Int32)))) (p1).toNatClampNeg) ||| (0 : Int32))) (p2).toNatClampNeg (((upd (upd (upd v_clashes (p1).toNatClampNeg ((v_clashes (p1).toNatClampNeg) &&& (((1 : Int32) <<< (p2 &&& 31)) ^^^ (-1 : Int32)))) (p2).toNatClampNeg (((upd v_clashes (p1).toNatClampNeg ((v_clashes (p1).toNatClampNeg) &&& (((1 : Int32) <<< (p2 &&& 31)) ^^^ (-1 : Int32)))) (p2).toNatClampNeg) &&& (((1 : Int32) <<< (p1 &&& 31)) ^^^ (-1 : Int32)))) (p1).toNatClampNeg (((upd (upd v_clashes (p1).toNatClampNeg ((v_clashes (p1).toNatClampNeg) &&& (((1 : Int32) <<< (p2 &&& 31)) ^^^ (-1 : Int32)))) (p2).toNatClampNeg (((upd v_clashes (p1).toNatClampNeg ((v_clashes (p1).toNatClampNeg) &&& (((1 : Int32) <<< (p2 &&& 31)) ^^^ (-1 : Int32)))) (p2).toNatClampNeg) &&& (((1 : Int32) <<< (p1 &&& 31)) ^^^ (-1 : Int32)))) (p1).toNatClampNeg) ||| (0 : Int32))) (p2).toNatClampNeg) ||| ((1 : Int32) <<< (p1 &&& 31)))) s.1 s.2) ((0 : Int32), (0 : Int32))).bind fun y4_25 =>
    some ((y4_25 / (2 : Int32)), (upd (upd (upd (upd v_clashes (p1).toNatClampNeg ((v_clashes (p1).toNatClampNeg) &&& (((1 : Int32) <<< (p2 &&& 31)) ^^^ (-1 : Int32)))) (p2).toNatClampNeg (((upd v_clashes (p1).toNatClampNeg ((v_clashes (p1).toNatClampNeg) &&& (((1 : Int32) <<< (p2 &&& 31)) ^^^ (-1 : Int32)))) (p2).toNatClampNeg) &&& (((1 : Int32) <<< (p1 &&& 31)) ^^^ (-1 : Int32)))) (p1).toNatClampNeg (((upd (upd v_clashes (p1).toNatClampNeg ((v_clashes (p1).toNatClampNeg) &&& (((1 : Int32) <<< (p2 &&& 31)) ^^^ (-1 : Int32)))) (p2).toNatClampNeg (((upd v_clashes (p1).toNatClampNeg ((v_clashes (p1).toNatClampNeg) &&& (((1 : Int32) <<< (p2 &&& 31)) ^^^ (-1 : Int32)))) (p2).toNatClampNeg) &&& (((1 : Int32) <<< (p1 &&& 31)) ^^^ (-1 : Int32)))) (p1).toNatClampNeg) ||| (0 : Int32))) (p2).toNatClampNeg (((upd (upd (upd v_clashes (p1).toNatClampNeg ((v_clashes (p1).toNatClampNeg) &&& (((1 : Int32) <<< (p2 &&& 31)) ^^^ (-1 : Int32)))) (p2).toNatClampNeg (((upd v_clashes (p1).toNatClampNeg ((v_clashes (p1).toNatClampNeg) &&& (((1 : Int32) <<< (p2 &&& 31)) ^^^ (-1 : Int32)))) (p2).toNatClampNeg) &&& (((1 : Int32) <<< (p1 &&& 31)) ^^^ (-1 : Int32)))) (p1).toNatClampNeg (((upd (upd v_clashes (p1).toNatClampNeg ((v_clashes (p1).toNatClampNeg) &&& (((1 : Int32) <<< (p2 &&& 31)) ^^^ (-1 : Int32)))) (p2).toNatClampNeg (((upd v_clashes (p1).toNatClampNeg ((v_clashes (p1).toNatClampNeg) &&& (((1 : Int32) <<< (p2 &&& 31)) ^^^ (-1 : Int32)))) (p2).toNatClampNeg) &&& (((1 : Int32) <<< (p1 &&& 31)) ^^^ (-1 : Int32)))) (p1).toNatClampNeg) ||| (0 : Int32))) (p2).toNatClampNeg) ||| ((1 : Int32) <<< (p1 &&& 31)))))
    else none
    else none
    else none
  else
  if ix p1 10 = true then
  if ix p2 10 = true then
  if p3 = 0 then
    if ix p2 10 = true then
    (ev (fun s => b_Model_clash_1 (upd (upd (upd (upd v_clashes (p1).toNatClampNeg ((v_clashes (p1).toNatClampNeg) &&& (((1 : Int32) <<< (p2 &&& 31)) ^^^ (-1 : Int32)))) (p2).toNatClampNeg (((upd v_clashes (p1).toNatClampNeg ((v_clashes (p1).toNatClampNeg) &&& (((1 : Int32) <<< (p2 &&& 31)) ^^^ (-1 : Int32)))) (p2).toNatClampNeg) &&& (((1 : Int32) <<< (p1 &&& 31)) ^^^ (-1 : Int32)))) (p1).toNatClampNeg (((upd (upd v_clashes (p1).toNatClampNeg ((v_clashes (p1).toNatClampNeg) &&& (((1 : Int32) <<< (p2 &&& 31)) ^^^ (-1 : Int32)))) (p2).toNatClampNeg (((upd v_clashes (p1).toNatClampNeg ((v_clashes (p1).toNatClampNeg) &&& (((1 : Int32) <<< (p2 &&& 31)) ^^^ (-1 : Int32)))) (p2).toNatClampNeg) &&& (((1 : Int32) <<< (p1 &&& 31)) ^^^ (-1 : Int32)))) (p1).toNatClampNeg) ||| ((1 : Int32) <<< (p2 &&& 31)))) (p2).toNatClampNeg (((upd (upd (upd v_clashes (p1).toNatClampNeg ((v_clashes (p1).toNatClampNeg) &&& (((1 : Int32) <<< (p2 &&& 31)) ^^^ (-1 : Int32)))) (p2).toNatClampNeg (((upd v_clashes (p1).toNatClampNeg ((v_clashes (p1).toNatClampNeg) &&& (((1 : Int32) <<< (p2 &&& 31)) ^^^ (-1 : Int32)))) (p2).toNatClampNeg) &&& (((1 : Int32) <<< (p1 &&& 31)) ^^^ (-1 : Int32)))) (p1).toNatClampNeg (((upd (upd v_clashes (p1).toNatClampNeg ((v_clashes (p1).toNatClampNeg) &&& (((1 : Int32) <<< (p2 &&& 31)) ^^^ (-1 : Int32)))) (p2).toNatClampNeg (((upd v_clashes (p1).toNatClampNeg ((v_clashes (p1).toNatClampNeg) &&& (((1 : Int32) <<< (p2 &&& 31)) ^^^ (-1 : Int32)))) (p2).toNatClampNeg) &&& (((1 : Int32) <<< (p1 &&& 31)) ^^^ (-1 : Int32)))) (p1).toNatClampNeg) ||| ((1 : Int32) <<< (p2 &&& 31)))) (p2).toNatClampNeg) ||| (0 : Int32))) s.1 s.2) ((0 : Int32), (0 : Int32))).bind fun y4_32 =>
    some ((y4_32 / (2 : Int32)), (upd (upd (upd (upd v_clashes (p1).toNatClampNeg ((v_clashes (p1).toNatClampNeg) &&& (((1 : Int32) <<< (p2 &&& 31)) ^^^ (-1 : Int32)))) (p2).toNatClampNeg (((upd v_clashes (p1).toNatClampNeg ((v_clashes (p1).toNatClampNeg) &&& (((1 : Int32) <<< (p2 &&& 31)) ^^^ (-1 : Int32)))) (p2).toNatClampNeg) &&& (((1 : Int32) <<< (p1 &&& 31)) ^^^ (-1 : Int32)))) (p1).toNatClampNeg (((upd (upd v_clashes (p1).toNatClampNeg ((v_clashes (p1).toNatClampNeg) &&& (((1 : Int32) <<< (p2 &&& 31)) ^^^ (-1 : Int32)))) (p2).toNatClampNeg (((upd v_clashes (p1).toNatClampNeg ((v_clashes (p1).toNatClampNeg) &&& (((1 : Int32) <<< (p2 &&& 31)) ^^^ (-1 : Int32)))) (p2).toNatClampNeg) &&& (((1 : Int32) <<< (p1 &&& 31)) ^^^ (-1 : Int32)))) (p1).toNatClampNeg) ||| ((1 : Int32) <<< (p2 &&& 31)))) (p2).toNatClampNeg (((upd (upd (upd v_clashes (p1).toNatClampNeg ((v_clashes (p1).toNatClampNeg) &&& (((1 : Int32) <<< (p2 &&& 31)) ^^^ (-1 : Int32)))) (p2).toNatClampNeg (((upd v_clashes (p1).toNatClampNeg ((v_clashes (p1).toNatClampNeg) &&& (((1 : Int32) <<< (p2 &&& 31)) ^^^ (-1 : Int32)))) (p2).toNatClampNeg) &&& (((1 : Int32) <<< (p1 &&& 31)) ^^^ (-1 : Int32)))) (p1).toNatClampNeg (((upd (upd v_clashes (p1).toNatClampNeg ((v_clashes (p1).toNatClampNeg) &&& (((1 : Int32) <<< (p2 &&& 31)) ^^^ (-1 : Int32)))) (p2).toNatClampNeg (((upd v_clashes (p1).toNatClampNeg ((v_clashes (p1).toNatClampNeg) &&& (((1 : Int32) <<< (p2 &&& 31)) ^^^ (-1 : Int32)))) (p2).toNatClampNeg) &&& (((1 : Int32) <<< (p1 &&& 31)) ^^^ (-1 : Int32)))) (p1).toNatClampNeg) ||| ((1 : Int32) <<< (p2 &&& 31)))) (p2).toNatClampNeg) ||| (0 : Int32))))
    else none
  else
  if ix p2 10 = true then
  (ev (fun s => b_Model_clash_1 (upd (upd (upd (upd v_clashes (p1).toNatClampNeg ((v_clashes (p1).toNatClampNeg) &&& (((1 : Int32) <<< (p2 &&& 31)) ^^^ (-1 : Int32)))) (p2).toNatClampNeg (((upd v_clashes (p1).toNatClampNeg ((v_clashes (p1).toNatClampNeg) &&& (((1 : Int32) <<< (p2 &&& 31)) ^^^ (-1 : Int32)))) (p2).toNatClampNeg) &&& (((1 : Int32) <<< (p1 &&& 31)) ^^^ (-1 : Int32)))) (p1).toNatClampNeg (((upd (upd v_clashes (p1).toNatClampNeg ((v_clashes (p1).toNatClampNeg) &&& (((1 : Int32) <<< (p2 &&& 31)) ^^^ (-1 : Int32)))) (p2).toNatClampNeg (((upd v_clashes (p1).toNatClampNeg ((v_clashes (p1).toNatClampNeg) &&& (((1 : Int32) <<< (p2 &&& 31)) ^^^ (-1 : Int32)))) (p2).toNatClampNeg) &&& (((1 : Int32) <<< (p1 &&& 31)) ^^^ (-1 : Int32)))) (p1).toNatClampNeg) ||| ((1 : Int32) <<< (p2 &&& 31)))) (p2).toNatClampNeg (((upd (upd (upd v_clashes (p1).toNatClampNeg ((v_clashes (p1).toNatClampNeg) &&& (((1 : Int32) <<< (p2 &&& 31)) ^^^ (-1 : Int32)))) (p2).toNatClampNeg (((upd v_clashes (p1).toNatClampNeg ((v_clashes (p1).toNatClampNeg) &&& (((1 : Int32) <<< (p2 &&& 31)) ^^^ (-1 : Int32)))) (p2).toNatClampNeg) &&& (((1 : Int32) <<< (p1 &&& 31)) ^^^ (-1 : Int32)))) (p1).toNatClampNeg (((upd (upd v_clashes (p1).toNatClampNeg ((v_clashes (p1).toNatClampNeg) &&& (((1 : Int32) <<< (p2 &&& 31)) ^^^ (-1 : Int32)))) (p2).toNatClampNeg (((upd v_clashes (p1).toNatClampNeg ((v_clashes (p1).toNatClampNeg) &&& (((1 : Int32) <<< (p2 &&& 31)) ^^^ (-1 : Int32)))) (p2).toNatClampNeg) &&& (((1 : Int32) <<< (p1 &&& 31)) ^^^ (-1 : Int32)))) (p1).toNatClampNeg) ||| ((1 : Int32) <<< (p2 &&& 31)))) (p2).toNatClampNeg) ||| ((1 : Int32) <<< (p1 &&& 31)))) s.1 s.2) ((0 : Int32), (0 : Int32))).bind fun y4_36 =>
  some ((y4_36 / (2 : Int32)), (upd (upd (upd (upd v_clashes (p1).toNatClampNeg ((v_clashes (p1).toNatClampNeg) &&& (((1 : Int32) <<< (p2 &&& 31)) ^^^ (-1 : Int32)))) (p2).toNatClampNeg (((upd v_clashes (p1).toNatClampNeg ((v_clashes (p1).toNatClampNeg) &&& (((1 : Int32) <<< (p2 &&& 31)) ^^^ (-1 : Int32)))) (p2).toNatClampNeg) &&& (((1 : Int32) <<< (p1 &&& 31)) ^^^ (-1 : Int32)))) (p1).toNatClampNeg (((upd (upd v_clashes (p1).toNatClampNeg ((v_clashes (p1).toNatClampNeg) &&& (((1 : Int32) <<< (p2 &&& 31)) ^^^ (-1 : Int32)))) (p2).toNatClampNeg (((upd v_clashes (p1).toNatClampNeg ((v_clashes (p1).toNatClampNeg) &&& (((1 : Int32) <<< (p2 &&& 31)) ^^^ (-1 : Int32)))) (p2).toNatClampNeg) &&& (((1 : Int32) <<< (p1 &&& 31)) ^^^ (-1 : Int32)))) (p1).toNatClampNeg) ||| ((1 : Int32) <<< (p2 &&& 31)))) (p2).toNatClampNeg (((upd (upd (upd v_clashes (p1).toNatClampNeg ((v_clashes (p1).toNatClampNeg) &&& (((1 : Int32) <<< (p2 &&& 31)) ^^^ (-1 : Int32)))) (p2).toNatClampNeg (((upd v_clashes (p1).toNatClampNeg ((v_clashes (p1).toNatClampNeg) &&& (((1 : Int32) <<< (p2 &&& 31)) ^^^ (-1 : Int32)))) (p2).toNatClampNeg) &&& (((1 : Int32) <<< (p1 &&& 31)) ^^^ (-1 : Int32)))) (p1).toNatClampNeg (((upd (upd v_clashes (p1).toNatClampNeg ((v_clashes (p1).toNatClampNeg) &&& (((1 : Int32) <<< (p2 &&& 31)) ^^^ (-1 : Int32)))) (p2).toNatClampNeg (((upd v_clashes (p1).toNatClampNeg ((v_clashes (p1).toNatClampNeg) &&& (((1 : Int32) <<< (p2 &&& 31)) ^^^ (-1 : Int32)))) (p2).toNatClampNeg) &&& (((1 : Int32) <<< (p1 &&& 31)) ^^^ (-1 : Int32)))) (p1).toNatClampNeg) ||| ((1 : Int32) <<< (p2 &&& 31)))) (p2).toNatClampNeg) ||| ((1 : Int32) <<< (p1 &&& 31)))))
  else none
  else none
  else none
  else none
  else none
  else none
  else none
  else none
/-- SealStraitModel.rock -/
noncomputable def f_Model_rock (v_rocks : Nat → Int32) (p1 : Int32) (p2 : Int32) : Option (Int32 × (Nat → Int32)) :=
  if (f_Model_in p1 (0 : Int32) (5 : Int32)) = 0 then
    some ((-1 : Int32), v_rocks)
  else
  if (f_Model_in p2 (0 : Int32) (63 : Int32)) = 0 then
    some ((-2 : Int32), v_rocks)
  else
  if ix p1 6 = true then
  if ix p1 6 = true then
  some ((v_rocks (p1).toNatClampNeg), (upd v_rocks (p1).toNatClampNeg p2))
  else none
  else none
/-- SealStraitModel.say -/
noncomputable def f_Model_say (v_signs : Int32) (v_pad : Nat → Int32) (p1 : Int32) : Option (Int32 × Int32 × (Nat → Int32)) :=
  if (f_Model_in p1 (33 : Int32) (126 : Int32)) = 0 then
    some ((-2 : Int32), v_signs, v_pad)
  else
  if v_signs = (60 : Int32) then
    some ((-4 : Int32), v_signs, v_pad)
  else
  if ix v_signs 60 = true then
  some ((v_signs + (1 : Int32)), (v_signs + (1 : Int32)), (upd v_pad (v_signs).toNatClampNeg p1))
  else none
/-- SealStraitModel.wipe -/
noncomputable def f_Model_wipe (v_signs : Int32) : Option (Int32 × Int32) :=
  some (v_signs, (0 : Int32))
/-- SealStraitModel.faultOf -/
noncomputable def b_Model_faultOf_1 (v_signs : Int32) (v_pad : Nat → Int32) (x1 : Int32) (x2 : Int32) : Option ((Int32 × Int32) ⊕ (Int32)) :=
  if v_signs ≤ x2 then
    if x1 = 0 then
      some (.inr (-6 : Int32))
    else
    some (.inr v_signs)
  else
  if ix x2 60 = true then
  if x1 = 0 then
    if (f_Model_in (v_pad (x2).toNatClampNeg) (65 : Int32) (70 : Int32)) = 0 then
      if (f_Model_in (v_pad (x2).toNatClampNeg) (97 : Int32) (106 : Int32)) = 0 then
        if (v_pad (x2).toNatClampNeg) = (46 : Int32) then
          if (1 : Int32) = 0 then
            some (.inr x2)
          else
          if x1 = 0 then
            if (f_Model_in (v_pad (x2).toNatClampNeg) (65 : Int32) (70 : Int32)) = 0 then
              if x1 = (1 : Int32) then
                if (v_pad (x2).toNatClampNeg) = (38 : Int32) then
                  some (.inl ((2 : Int32), (x2 + 1)))
                else
                some (.inl ((0 : Int32), (x2 + 1)))
              else
              some (.inl ((0 : Int32), (x2 + 1)))
            else
            some (.inl ((1 : Int32), (x2 + 1)))
          else
          if x1 = (1 : Int32) then
            if (v_pad (x2).toNatClampNeg) = (38 : Int32) then
              some (.inl ((2 : Int32), (x2 + 1)))
            else
            some (.inl ((0 : Int32), (x2 + 1)))
          else
          some (.inl ((0 : Int32), (x2 + 1)))
        else
        if (0 : Int32) = 0 then
          some (.inr x2)
        else
        if x1 = 0 then
          if (f_Model_in (v_pad (x2).toNatClampNeg) (65 : Int32) (70 : Int32)) = 0 then
            if x1 = (1 : Int32) then
              if (v_pad (x2).toNatClampNeg) = (38 : Int32) then
                some (.inl ((2 : Int32), (x2 + 1)))
              else
              some (.inl ((0 : Int32), (x2 + 1)))
            else
            some (.inl ((0 : Int32), (x2 + 1)))
          else
          some (.inl ((1 : Int32), (x2 + 1)))
        else
        if x1 = (1 : Int32) then
          if (v_pad (x2).toNatClampNeg) = (38 : Int32) then
            some (.inl ((2 : Int32), (x2 + 1)))
          else
          some (.inl ((0 : Int32), (x2 + 1)))
        else
        some (.inl ((0 : Int32), (x2 + 1)))
      else
      if (1 : Int32) = 0 then
        some (.inr x2)
      else
      if x1 = 0 then
        if (f_Model_in (v_pad (x2).toNatClampNeg) (65 : Int32) (70 : Int32)) = 0 then
          if x1 = (1 : Int32) then
            if (v_pad (x2).toNatClampNeg) = (38 : Int32) then
              some (.inl ((2 : Int32), (x2 + 1)))
            else
            some (.inl ((0 : Int32), (x2 + 1)))
          else
          some (.inl ((0 : Int32), (x2 + 1)))
        else
        some (.inl ((1 : Int32), (x2 + 1)))
      else
      if x1 = (1 : Int32) then
        if (v_pad (x2).toNatClampNeg) = (38 : Int32) then
          some (.inl ((2 : Int32), (x2 + 1)))
        else
        some (.inl ((0 : Int32), (x2 + 1)))
      else
      some (.inl ((0 : Int32), (x2 + 1)))
    else
    if (1 : Int32) = 0 then
      some (.inr x2)
    else
    if x1 = 0 then
      if (f_Model_in (v_pad (x2).toNatClampNeg) (65 : Int32) (70 : Int32)) = 0 then
        if x1 = (1 : Int32) then
          if (v_pad (x2).toNatClampNeg) = (38 : Int32) then
            some (.inl ((2 : Int32), (x2 + 1)))
          else
          some (.inl ((0 : Int32), (x2 + 1)))
        else
        some (.inl ((0 : Int32), (x2 + 1)))
      else
      some (.inl ((1 : Int32), (x2 + 1)))
    else
    if x1 = (1 : Int32) then
      if (v_pad (x2).toNatClampNeg) = (38 : Int32) then
        some (.inl ((2 : Int32), (x2 + 1)))
      else
      some (.inl ((0 : Int32), (x2 + 1)))
    else
    some (.inl ((0 : Int32), (x2 + 1)))
  else
  if x1 = (1 : Int32) then
    if (v_pad (x2).toNatClampNeg) = (63 : Int32) then
      if (1 : Int32) = 0 then
        some (.inr x2)
      else
      if x1 = 0 then
        if (f_Model_in (v_pad (x2).toNatClampNeg) (65 : Int32) (70 : Int32)) = 0 then
          if x1 = (1 : Int32) then
            if (v_pad (x2).toNatClampNeg) = (38 : Int32) then
              some (.inl ((2 : Int32), (x2 + 1)))
            else
            some (.inl ((0 : Int32), (x2 + 1)))
          else
          some (.inl ((0 : Int32), (x2 + 1)))
        else
        some (.inl ((1 : Int32), (x2 + 1)))
      else
      if x1 = (1 : Int32) then
        if (v_pad (x2).toNatClampNeg) = (38 : Int32) then
          some (.inl ((2 : Int32), (x2 + 1)))
        else
        some (.inl ((0 : Int32), (x2 + 1)))
      else
      some (.inl ((0 : Int32), (x2 + 1)))
    else
    if (v_pad (x2).toNatClampNeg) = (33 : Int32) then
      if (1 : Int32) = 0 then
        some (.inr x2)
      else
      if x1 = 0 then
        if (f_Model_in (v_pad (x2).toNatClampNeg) (65 : Int32) (70 : Int32)) = 0 then
          if x1 = (1 : Int32) then
            if (v_pad (x2).toNatClampNeg) = (38 : Int32) then
              some (.inl ((2 : Int32), (x2 + 1)))
            else
            some (.inl ((0 : Int32), (x2 + 1)))
          else
          some (.inl ((0 : Int32), (x2 + 1)))
        else
        some (.inl ((1 : Int32), (x2 + 1)))
      else
      if x1 = (1 : Int32) then
        if (v_pad (x2).toNatClampNeg) = (38 : Int32) then
          some (.inl ((2 : Int32), (x2 + 1)))
        else
        some (.inl ((0 : Int32), (x2 + 1)))
      else
      some (.inl ((0 : Int32), (x2 + 1)))
    else
    if (v_pad (x2).toNatClampNeg) = (38 : Int32) then
      if (1 : Int32) = 0 then
        some (.inr x2)
      else
      if x1 = 0 then
        if (f_Model_in (v_pad (x2).toNatClampNeg) (65 : Int32) (70 : Int32)) = 0 then
          if x1 = (1 : Int32) then
            if (v_pad (x2).toNatClampNeg) = (38 : Int32) then
              some (.inl ((2 : Int32), (x2 + 1)))
            else
            some (.inl ((0 : Int32), (x2 + 1)))
          else
          some (.inl ((0 : Int32), (x2 + 1)))
        else
        some (.inl ((1 : Int32), (x2 + 1)))
      else
      if x1 = (1 : Int32) then
        if (v_pad (x2).toNatClampNeg) = (38 : Int32) then
          some (.inl ((2 : Int32), (x2 + 1)))
        else
        some (.inl ((0 : Int32), (x2 + 1)))
      else
      some (.inl ((0 : Int32), (x2 + 1)))
    else
    if (0 : Int32) = 0 then
      some (.inr x2)
    else
    if x1 = 0 then
      if (f_Model_in (v_pad (x2).toNatClampNeg) (65 : Int32) (70 : Int32)) = 0 then
        if x1 = (1 : Int32) then
          if (v_pad (x2).toNatClampNeg) = (38 : Int32) then
            some (.inl ((2 : Int32), (x2 + 1)))
          else
          some (.inl ((0 : Int32), (x2 + 1)))
        else
        some (.inl ((0 : Int32), (x2 + 1)))
      else
      some (.inl ((1 : Int32), (x2 + 1)))
    else
    if x1 = (1 : Int32) then
      if (v_pad (x2).toNatClampNeg) = (38 : Int32) then
        some (.inl ((2 : Int32), (x2 + 1)))
      else
      some (.inl ((0 : Int32), (x2 + 1)))
    else
    some (.inl ((0 : Int32), (x2 + 1)))
  else
  if (f_Model_in (v_pad (x2).toNatClampNeg) (65 : Int32) (70 : Int32)) = 0 then
    some (.inr x2)
  else
  if x1 = 0 then
    if (f_Model_in (v_pad (x2).toNatClampNeg) (65 : Int32) (70 : Int32)) = 0 then
      if x1 = (1 : Int32) then
        if (v_pad (x2).toNatClampNeg) = (38 : Int32) then
          some (.inl ((2 : Int32), (x2 + 1)))
        else
        some (.inl ((0 : Int32), (x2 + 1)))
      else
      some (.inl ((0 : Int32), (x2 + 1)))
    else
    some (.inl ((1 : Int32), (x2 + 1)))
  else
  if x1 = (1 : Int32) then
    if (v_pad (x2).toNatClampNeg) = (38 : Int32) then
      some (.inl ((2 : Int32), (x2 + 1)))
    else
    some (.inl ((0 : Int32), (x2 + 1)))
  else
  some (.inl ((0 : Int32), (x2 + 1)))
  else none
noncomputable def f_Model_faultOf (v_signs : Int32) (v_pad : Nat → Int32) : Option (Int32) :=
  ev (fun s => b_Model_faultOf_1 v_signs v_pad s.1 s.2) ((0 : Int32), (0 : Int32))
/-- SealStraitModel.fault -/
noncomputable def f_Model_fault (v_signs : Int32) (v_pad : Nat → Int32) : Option (Int32) :=
  (f_Model_faultOf v_signs v_pad).bind fun r1 =>
  some r1
/-- SealStraitModel.asNow -/
noncomputable def b_Model_asNow_1 (v_book : Nat → Int32) (x1 : Int32) (v_now : Nat → Int32) : Option ((Int32 × (Nat → Int32)) ⊕ ((Nat → Int32))) :=
  if (21 : Int32) ≤ x1 then
    some (.inr v_now)
  else
  if ix x1 21 = true then
  if ix x1 21 = true then
  some (.inl ((x1 + 1), (upd v_now (x1).toNatClampNeg (v_book (x1).toNatClampNeg))))
  else none
  else none
noncomputable def f_Model_asNow (v_book : Nat → Int32) (v_now : Nat → Int32) (v_readMany : Int32) (v_signedAll : Int32) : Option ((Nat → Int32) × Int32 × Int32) :=
  (ev (fun s => b_Model_asNow_1 v_book s.1 s.2) ((0 : Int32), v_now)).bind fun z5_now =>
  some (z5_now, (0 : Int32), (63 : Int32))
/-- SealStraitModel.stands -/
noncomputable def f_Model_stands (v_now : Nat → Int32) (p1 : Int32) : Int32 :=
  if (f_Model_in p1 (0 : Int32) (5 : Int32)) = 0 then
    (0 : Int32)
  else
  if (f_Model_has (v_now ((18 : Int32)).toNatClampNeg) p1) = 0 then
    (0 : Int32)
  else
  (1 : Int32)
/-- SealStraitModel.wouldSign -/
noncomputable def f_Model_wouldSign (v_now : Nat → Int32) (v_moults : Nat → Int32) (v_words : Nat → Int32) (p1 : Int32) (p2 : Int32) : Option (Int32) :=
  if (f_Model_stands v_now p1) = 0 then
    some (0 : Int32)
  else
  if ix p1 6 = true then
  if ((v_now ((20 : Int32)).toNatClampNeg) - (v_now ((20 : Int32)).toNatClampNeg) / (12 : Int32) * (12 : Int32)) = (v_moults (p1).toNatClampNeg) then
    some (0 : Int32)
  else
  if ix p1 21 = true then
  if (v_now (p1).toNatClampNeg) ≤ 0 then
    some (0 : Int32)
  else
  if ix ((12 : Int32) + p1) 21 = true then
  if ix p2 10 = true then
  if (v_now (((12 : Int32) + p1)).toNatClampNeg) < (v_words (p2).toNatClampNeg) then
    some (0 : Int32)
  else
  some (1 : Int32)
  else none
  else none
  else none
  else none
/-- SealStraitModel.signers -/
noncomputable def b_Model_signers_1 (x1 : Int32) (v_now : Nat → Int32) (v_moults : Nat → Int32) (v_words : Nat → Int32) (x2 : Int32) (x3 : Int32) : Option ((Int32 × Int32) ⊕ (Int32)) :=
  if (6 : Int32) ≤ x3 then
    some (.inr x2)
  else
  (f_Model_wouldSign v_now v_moults v_words x3 x1).bind fun r3 =>
  if r3 = 0 then
    some (.inl ((x2 ||| (0 : Int32)), (x3 + 1)))
  else
  some (.inl ((x2 ||| ((1 : Int32) <<< (x3 &&& 31))), (x3 + 1)))
noncomputable def f_Model_signers (v_now : Nat → Int32) (v_moults : Nat → Int32) (v_words : Nat → Int32) (p1 : Int32) : Option (Int32) :=
  (ev (fun s => b_Model_signers_1 p1 v_now v_moults v_words s.1 s.2) ((0 : Int32), (0 : Int32))).bind fun y2_6 =>
  some y2_6
/-- SealStraitModel.cheer -/
noncomputable def f_Model_cheer (v_now : Nat → Int32) (p1 : Int32) (p2 : Int32) : Option ((Nat → Int32)) :=
  if ix ((12 : Int32) + p1) 21 = true then
  if ((v_now (((12 : Int32) + p1)).toNatClampNeg) + p2) ≤ (9 : Int32) then
    if ix ((12 : Int32) + p1) 21 = true then
    if ix ((12 : Int32) + p1) 21 = true then
    some (upd v_now (((12 : Int32) + p1)).toNatClampNeg ((v_now (((12 : Int32) + p1)).toNatClampNeg) + p2))
    else none
    else none
  else
  if ix ((12 : Int32) + p1) 21 = true then
  some (upd v_now (((12 : Int32) + p1)).toNatClampNeg (9 : Int32))
  else none
  else none
/-- SealStraitModel.read -/
noncomputable def b_Model_read_1 (x1 : Int32) (x2 : Int32) (v_words : Nat → Int32) (x3 : Int32) (v_now : Nat → Int32) : Option ((Int32 × (Nat → Int32)) ⊕ ((Nat → Int32))) :=
  if (6 : Int32) ≤ x3 then
    some (.inr v_now)
  else
  if (f_Model_has x2 x3) = 0 then
    if (f_Model_stands v_now x3) = 0 then
      some (.inl ((x3 + 1), v_now))
    else
    (f_Model_cheer v_now x3 (1 : Int32)).bind fun u10_now =>
    some (.inl ((x3 + 1), u10_now))
  else
  if ix ((6 : Int32) + x3) 21 = true then
  if ix ((6 : Int32) + x3) 21 = true then
  if ix ((12 : Int32) + x3) 21 = true then
  if ix x1 10 = true then
  if ix ((12 : Int32) + x3) 21 = true then
  some (.inl ((x3 + 1), (upd (upd v_now (((6 : Int32) + x3)).toNatClampNeg ((1 : Int32) - (v_now (((6 : Int32) + x3)).toNatClampNeg))) (((12 : Int32) + x3)).toNatClampNeg (((upd v_now (((6 : Int32) + x3)).toNatClampNeg ((1 : Int32) - (v_now (((6 : Int32) + x3)).toNatClampNeg))) (((12 : Int32) + x3)).toNatClampNeg) - (v_words (x1).toNatClampNeg)))))
  else none
  else none
  else none
  else none
  else none
noncomputable def f_Model_read (v_now : Nat → Int32) (v_moults : Nat → Int32) (v_words : Nat → Int32) (v_readMany : Int32) (v_signedAll : Int32) (p1 : Int32) : Option (Int32 × (Nat → Int32) × Int32 × Int32) :=
  (f_Model_signers v_now v_moults v_words p1).bind fun r1 =>
  if r1 = 0 then
    some ((2 : Int32), v_now, v_readMany, v_signedAll)
  else
  (ev (fun s => b_Model_read_1 p1 r1 v_words s.1 s.2) ((0 : Int32), v_now)).bind fun z17_now =>
  some ((0 : Int32), z17_now, (v_readMany + (1 : Int32)), (v_signedAll &&& r1))
/-- SealStraitModel.whistle -/
noncomputable def f_Model_whistle (v_now : Nat → Int32) (p1 : Int32) : Option (Int32 × (Nat → Int32)) :=
  if (f_Model_stands v_now p1) = 0 then
    some ((1 : Int32), v_now)
  else
  if ix ((12 : Int32) + p1) 21 = true then
  if (v_now (((12 : Int32) + p1)).toNatClampNeg) = (9 : Int32) then
    some ((3 : Int32), v_now)
  else
  (f_Model_cheer v_now p1 (3 : Int32)).bind fun u5_now =>
  some ((0 : Int32), u5_now)
  else none
/-- SealStraitModel.net -/
noncomputable def f_Model_net (v_now : Nat → Int32) (p1 : Int32) : Option (Int32 × (Nat → Int32)) :=
  if (f_Model_stands v_now p1) = 0 then
    some ((1 : Int32), v_now)
  else
  if ix p1 21 = true then
  if (5 : Int32) ≤ (v_now (p1).toNatClampNeg) then
    if ix p1 21 = true then
    if ix p1 21 = true then
    some ((0 : Int32), (upd (upd v_now (p1).toNatClampNeg ((v_now (p1).toNatClampNeg) - (5 : Int32))) ((19 : Int32)).toNatClampNeg (((upd v_now (p1).toNatClampNeg ((v_now (p1).toNatClampNeg) - (5 : Int32))) ((19 : Int32)).toNatClampNeg) + (5 : Int32))))
    else none
    else none
  else
  some ((4 : Int32), v_now)
  else none
/-- SealStraitModel.join -/
noncomputable def f_Model_join (v_now : Nat → Int32) (p1 : Int32) (p2 : Int32) : Option (Int32 × (Nat → Int32)) :=
  if (f_Model_stands v_now p1) = 0 then
    some ((1 : Int32), v_now)
  else
  if (f_Model_stands v_now p2) = 0 then
    some ((1 : Int32), v_now)
  else
  if p1 = p2 then
    some ((5 : Int32), v_now)
  else
  if ix ((6 : Int32) + p1) 21 = true then
  if ix ((6 : Int32) + p2) 21 = true then
  if (v_now (((6 : Int32) + p1)).toNatClampNeg) = (v_now (((6 : Int32) + p2)).toNatClampNeg) then
    if ix p1 21 = true then
    if ix p2 21 = true then
    if ((v_now (p1).toNatClampNeg) + (v_now (p2).toNatClampNeg)) ≤ (99 : Int32) then
      if ix p1 21 = true then
      if ix p2 21 = true then
      if ix p1 21 = true then
      some ((0 : Int32), (upd (upd v_now (p1).toNatClampNeg ((v_now (p1).toNatClampNeg) + (v_now (p2).toNatClampNeg))) ((18 : Int32)).toNatClampNeg (((upd v_now (p1).toNatClampNeg ((v_now (p1).toNatClampNeg) + (v_now (p2).toNatClampNeg))) ((18 : Int32)).toNatClampNeg) &&& (((1 : Int32) <<< (p2 &&& 31)) ^^^ (-1 : Int32)))))
      else none
      else none
      else none
    else
    if ix p1 21 = true then
    some ((0 : Int32), (upd (upd v_now (p1).toNatClampNeg (99 : Int32)) ((18 : Int32)).toNatClampNeg (((upd v_now (p1).toNatClampNeg (99 : Int32)) ((18 : Int32)).toNatClampNeg) &&& (((1 : Int32) <<< (p2 &&& 31)) ^^^ (-1 : Int32)))))
    else none
    else none
    else none
  else
  some ((5 : Int32), v_now)
  else none
  else none
/-- SealStraitModel.endMonth -/
noncomputable def b_Model_endMonth_1 (v_moults : Nat → Int32) (x1 : Int32) (v_now : Nat → Int32) : Option ((Int32 × (Nat → Int32)) ⊕ ((Nat → Int32))) :=
  if (6 : Int32) ≤ x1 then
    some (.inr v_now)
  else
  if (f_Model_stands v_now x1) = 0 then
    some (.inl ((x1 + 1), v_now))
  else
  (f_Model_cheer v_now x1 (2 : Int32)).bind fun u6_now =>
  if ix x1 21 = true then
  if ix x1 21 = true then
  if (u6_now (x1).toNatClampNeg) ≤ (1 : Int32) then
    if ix x1 21 = true then
    some (.inl ((x1 + 1), (upd u6_now (x1).toNatClampNeg ((u6_now (x1).toNatClampNeg) + (0 : Int32)))))
    else none
  else
  if ix x1 21 = true then
  if (99 : Int32) ≤ (u6_now (x1).toNatClampNeg) then
    if ix x1 21 = true then
    some (.inl ((x1 + 1), (upd u6_now (x1).toNatClampNeg ((u6_now (x1).toNatClampNeg) + (0 : Int32)))))
    else none
  else
  if ix x1 6 = true then
  if ((u6_now ((20 : Int32)).toNatClampNeg) - (u6_now ((20 : Int32)).toNatClampNeg) / (12 : Int32) * (12 : Int32)) = (v_moults (x1).toNatClampNeg) then
    if ix x1 21 = true then
    some (.inl ((x1 + 1), (upd u6_now (x1).toNatClampNeg ((u6_now (x1).toNatClampNeg) + (0 : Int32)))))
    else none
  else
  if ix x1 21 = true then
  some (.inl ((x1 + 1), (upd u6_now (x1).toNatClampNeg ((u6_now (x1).toNatClampNeg) + (1 : Int32)))))
  else none
  else none
  else none
  else none
  else none
noncomputable def f_Model_endMonth (v_now : Nat → Int32) (v_moults : Nat → Int32) : Option (Int32 × (Nat → Int32)) :=
  if (v_now ((20 : Int32)).toNatClampNeg) = (999 : Int32) then
    some ((6 : Int32), v_now)
  else
  (ev (fun s => b_Model_endMonth_1 v_moults s.1 s.2) ((0 : Int32), v_now)).bind fun z19_now =>
  some ((0 : Int32), (upd z19_now ((20 : Int32)).toNatClampNeg ((z19_now ((20 : Int32)).toNatClampNeg) + (1 : Int32))))
/-- SealStraitModel.herdAct -/
noncomputable def f_Model_herdAct (v_now : Nat → Int32) (p1 : Int32) (p2 : Int32) (p3 : Int32) : Option (Int32 × (Nat → Int32)) :=
  if p2 = (63 : Int32) then
    (f_Model_whistle v_now p1).bind fun (r7, u7_now) =>
    some (r7, u7_now)
  else
  if p2 = (33 : Int32) then
    (f_Model_net v_now p1).bind fun (r5, u5_now) =>
    some (r5, u5_now)
  else
  (f_Model_join v_now p1 p3).bind fun (r3, u3_now) =>
  some (r3, u3_now)
/-- SealStraitModel.goSeasons -/
noncomputable def b_Model_goSeasons_1 (v_moults : Nat → Int32) (v_words : Nat → Int32) (v_signs : Int32) (v_pad : Nat → Int32) (x1 : Int32) (v_now : Nat → Int32) (v_readMany : Int32) (v_signedAll : Int32) (v_reason : Int32) (v_acts : Int32) : Option ((Int32 × (Nat → Int32) × Int32 × Int32 × Int32 × Int32) ⊕ (Int32 × (Nat → Int32) × Int32 × Int32 × Int32 × Int32)) :=
  if v_signs ≤ x1 then
    some (.inr ((-6 : Int32), v_now, v_readMany, v_signedAll, v_reason, v_acts))
  else
  if ix x1 60 = true then
  if (f_Model_in (v_pad (x1).toNatClampNeg) (65 : Int32) (70 : Int32)) = 0 then
    if (v_pad (x1).toNatClampNeg) = (46 : Int32) then
      (f_Model_endMonth v_now v_moults).bind fun (r13, u13_now) =>
      if r13 ≤ 0 then
        some (.inl ((x1 + 1), u13_now, v_readMany, v_signedAll, r13, (v_acts + (1 : Int32))))
      else
      some (.inr (v_acts, u13_now, v_readMany, v_signedAll, r13, v_acts))
    else
    (f_Model_read v_now v_moults v_words v_readMany v_signedAll ((v_pad (x1).toNatClampNeg) - (97 : Int32))).bind fun (r9, u9_now, u9_readMany, u9_signedAll) =>
    if r9 ≤ 0 then
      some (.inl ((x1 + 1), u9_now, u9_readMany, u9_signedAll, r9, (v_acts + (1 : Int32))))
    else
    some (.inr (v_acts, u9_now, u9_readMany, u9_signedAll, r9, v_acts))
  else
  if ix (x1 + (1 : Int32)) 60 = true then
  if (v_pad ((x1 + (1 : Int32))).toNatClampNeg) = (38 : Int32) then
    if ix (x1 + (2 : Int32)) 60 = true then
    (f_Model_herdAct v_now ((v_pad (x1).toNatClampNeg) - (65 : Int32)) (v_pad ((x1 + (1 : Int32))).toNatClampNeg) ((v_pad ((x1 + (2 : Int32))).toNatClampNeg) - (65 : Int32))).bind fun (r27, u27_now) =>
    if (v_pad ((x1 + (1 : Int32))).toNatClampNeg) = (38 : Int32) then
      if r27 ≤ 0 then
        some (.inl ((x1 + (3 : Int32)), u27_now, v_readMany, v_signedAll, r27, (v_acts + (1 : Int32))))
      else
      some (.inr (v_acts, u27_now, v_readMany, v_signedAll, r27, v_acts))
    else
    if r27 ≤ 0 then
      some (.inl ((x1 + (2 : Int32)), u27_now, v_readMany, v_signedAll, r27, (v_acts + (1 : Int32))))
    else
    some (.inr (v_acts, u27_now, v_readMany, v_signedAll, r27, v_acts))
    else none
  else
  (f_Model_herdAct v_now ((v_pad (x1).toNatClampNeg) - (65 : Int32)) (v_pad ((x1 + (1 : Int32))).toNatClampNeg) (0 : Int32)).bind fun (r19, u19_now) =>
  if (v_pad ((x1 + (1 : Int32))).toNatClampNeg) = (38 : Int32) then
    if r19 ≤ 0 then
      some (.inl ((x1 + (3 : Int32)), u19_now, v_readMany, v_signedAll, r19, (v_acts + (1 : Int32))))
    else
    some (.inr (v_acts, u19_now, v_readMany, v_signedAll, r19, v_acts))
  else
  if r19 ≤ 0 then
    some (.inl ((x1 + (2 : Int32)), u19_now, v_readMany, v_signedAll, r19, (v_acts + (1 : Int32))))
  else
  some (.inr (v_acts, u19_now, v_readMany, v_signedAll, r19, v_acts))
  else none
  else none
noncomputable def f_Model_goSeasons (v_book : Nat → Int32) (v_now : Nat → Int32) (v_moults : Nat → Int32) (v_words : Nat → Int32) (v_signs : Int32) (v_pad : Nat → Int32) (v_readMany : Int32) (v_signedAll : Int32) (v_reason : Int32) (v_acts : Int32) : Option (Int32 × (Nat → Int32) × Int32 × Int32 × Int32 × Int32) :=
  (f_Model_asNow v_book v_now v_readMany v_signedAll).bind fun (u1_now, u1_readMany, u1_signedAll) =>
  ev (fun s => b_Model_goSeasons_1 v_moults v_words v_signs v_pad s.1 s.2.1 s.2.2.1 s.2.2.2.1 s.2.2.2.2.1 s.2.2.2.2.2) ((0 : Int32), u1_now, u1_readMany, u1_signedAll, v_reason, (0 : Int32))
/-- SealStraitModel.judge -/
noncomputable def f_Model_judge (v_book : Nat → Int32) (v_now : Nat → Int32) (v_moults : Nat → Int32) (v_words : Nat → Int32) (v_signs : Int32) (v_pad : Nat → Int32) (v_readMany : Int32) (v_signedAll : Int32) (v_reason : Int32) (v_acts : Int32) (p1 : Int32) : Option (Int32 × (Nat → Int32) × Int32 × Int32 × Int32 × Int32) :=
  if (f_Model_in p1 (0 : Int32) (1 : Int32)) = 0 then
    some ((-2 : Int32), v_now, v_readMany, v_signedAll, v_reason, v_acts)
  else
  (f_Model_faultOf v_signs v_pad).bind fun r3 =>
  if r3 < 0 then
    (f_Model_goSeasons v_book v_now v_moults v_words v_signs v_pad v_readMany v_signedAll v_reason v_acts).bind fun (r6, u6_now, u6_readMany, u6_signedAll, u6_reason, u6_acts) =>
    if r6 < 0 then
      some (r6, u6_now, u6_readMany, u6_signedAll, u6_reason, u6_acts)
    else
    if p1 = 0 then
      some (r6, u6_now, u6_readMany, u6_signedAll, u6_reason, u6_acts)
    else
    some (u6_reason, u6_now, u6_readMany, u6_signedAll, u6_reason, u6_acts)
  else
  some ((-5 : Int32), v_now, v_readMany, v_signedAll, v_reason, v_acts)
/-- SealStraitModel.barOfSeasons -/
noncomputable def f_Model_barOfSeasons (v_book : Nat → Int32) (v_now : Nat → Int32) (v_moults : Nat → Int32) (v_words : Nat → Int32) (v_signs : Int32) (v_pad : Nat → Int32) (v_readMany : Int32) (v_signedAll : Int32) (v_reason : Int32) (v_acts : Int32) : Option (Int32 × (Nat → Int32) × Int32 × Int32 × Int32 × Int32) :=
  (f_Model_faultOf v_signs v_pad).bind fun r1 =>
  if 0 ≤ r1 then
    some ((-5 : Int32), v_now, v_readMany, v_signedAll, v_reason, v_acts)
  else
  (f_Model_goSeasons v_book v_now v_moults v_words v_signs v_pad v_readMany v_signedAll v_reason v_acts).bind fun (r4, u4_now, u4_readMany, u4_signedAll, u4_reason, u4_acts) =>
  if r4 < 0 then
    some ((0 : Int32), u4_now, u4_readMany, u4_signedAll, u4_reason, u4_acts)
  else
  some ((-5 : Int32), u4_now, u4_readMany, u4_signedAll, u4_reason, u4_acts)
/-- SealStraitModel.done -/
noncomputable def b_Model_done_1 (v_now : Nat → Int32) (x1 : Int32) (v_book : Nat → Int32) : Option ((Int32 × (Nat → Int32)) ⊕ ((Nat → Int32))) :=
  if (21 : Int32) ≤ x1 then
    some (.inr v_book)
  else
  if ix x1 21 = true then
  if ix x1 21 = true then
  some (.inl ((x1 + 1), (upd v_book (x1).toNatClampNeg (v_now (x1).toNatClampNeg))))
  else none
  else none
noncomputable def f_Model_done (v_book : Nat → Int32) (v_now : Nat → Int32) (v_moults : Nat → Int32) (v_words : Nat → Int32) (v_signs : Int32) (v_pad : Nat → Int32) (v_readMany : Int32) (v_signedAll : Int32) (v_reason : Int32) (v_acts : Int32) : Option (Int32 × (Nat → Int32) × (Nat → Int32) × Int32 × Int32 × Int32 × Int32 × Int32) :=
  (f_Model_barOfSeasons v_book v_now v_moults v_words v_signs v_pad v_readMany v_signedAll v_reason v_acts).bind fun (r1, u1_now, u1_readMany, u1_signedAll, u1_reason, u1_acts) =>
  if 0 ≤ r1 then
    (ev (fun s => b_Model_done_1 u1_now s.1 s.2) ((0 : Int32), v_book)).bind fun z8_book =>
    some (u1_acts, z8_book, u1_now, (0 : Int32), u1_readMany, u1_signedAll, u1_reason, u1_acts)
  else
  some ((-5 : Int32), v_book, u1_now, v_signs, u1_readMany, u1_signedAll, u1_reason, u1_acts)
/-- SealStraitModel.behind -/
noncomputable def f_Model_behind (v_book : Nat → Int32) (v_now : Nat → Int32) (v_moults : Nat → Int32) (v_words : Nat → Int32) (v_signs : Int32) (v_pad : Nat → Int32) (v_readMany : Int32) (v_signedAll : Int32) (v_reason : Int32) (v_acts : Int32) (p1 : Int32) (p2 : Int32) : Option (Int32 × (Nat → Int32) × Int32 × Int32 × Int32 × Int32) :=
  if (f_Model_isThere v_book p1) = 0 then
    some ((-1 : Int32), v_now, v_readMany, v_signedAll, v_reason, v_acts)
  else
  if (f_Model_in p2 (0 : Int32) (2 : Int32)) = 0 then
    some ((-2 : Int32), v_now, v_readMany, v_signedAll, v_reason, v_acts)
  else
  (f_Model_barOfSeasons v_book v_now v_moults v_words v_signs v_pad v_readMany v_signedAll v_reason v_acts).bind fun (r5, u5_now, u5_readMany, u5_signedAll, u5_reason, u5_acts) =>
  if 0 ≤ r5 then
    if (f_Model_stands u5_now p1) = 0 then
      some ((-6 : Int32), u5_now, u5_readMany, u5_signedAll, u5_reason, u5_acts)
    else
    if ix (((6 : Int32) * p2) + p1) 21 = true then
    some ((u5_now ((((6 : Int32) * p2) + p1)).toNatClampNeg), u5_now, u5_readMany, u5_signedAll, u5_reason, u5_acts)
    else none
  else
  some ((-5 : Int32), u5_now, u5_readMany, u5_signedAll, u5_reason, u5_acts)
/-- SealStraitModel.headsBeyond -/
noncomputable def b_Model_headsBeyond_1 (v_now : Nat → Int32) (x1 : Int32) (x2 : Int32) : Option ((Int32 × Int32) ⊕ (Int32)) :=
  if (6 : Int32) ≤ x2 then
    some (.inr x1)
  else
  if (f_Model_stands v_now x2) = 0 then
    some (.inl ((x1 + (0 : Int32)), (x2 + 1)))
  else
  if ix ((6 : Int32) + x2) 21 = true then
  if (v_now (((6 : Int32) + x2)).toNatClampNeg) = (1 : Int32) then
    if ix x2 21 = true then
    some (.inl ((x1 + (v_now (x2).toNatClampNeg)), (x2 + 1)))
    else none
  else
  some (.inl ((x1 + (0 : Int32)), (x2 + 1)))
  else none
noncomputable def f_Model_headsBeyond (v_now : Nat → Int32) : Option (Int32) :=
  (ev (fun s => b_Model_headsBeyond_1 v_now s.1 s.2) ((0 : Int32), (0 : Int32))).bind fun y1_8 =>
  some y1_8
/-- SealStraitModel.then -/
noncomputable def f_Model_then (v_book : Nat → Int32) (v_now : Nat → Int32) (v_moults : Nat → Int32) (v_words : Nat → Int32) (v_signs : Int32) (v_pad : Nat → Int32) (v_readMany : Int32) (v_signedAll : Int32) (v_reason : Int32) (v_acts : Int32) (p1 : Int32) : Option (Int32 × (Nat → Int32) × Int32 × Int32 × Int32 × Int32) :=
  if (f_Model_in p1 (0 : Int32) (4 : Int32)) = 0 then
    some ((-2 : Int32), v_now, v_readMany, v_signedAll, v_reason, v_acts)
  else
  (f_Model_barOfSeasons v_book v_now v_moults v_words v_signs v_pad v_readMany v_signedAll v_reason v_acts).bind fun (r3, u3_now, u3_readMany, u3_signedAll, u3_reason, u3_acts) =>
  if 0 ≤ r3 then
    if p1 = 0 then
      (f_Model_headsBeyond u3_now).bind fun r10 =>
      some (r10, u3_now, u3_readMany, u3_signedAll, u3_reason, u3_acts)
    else
    if (3 : Int32) ≤ p1 then
      if p1 = (3 : Int32) then
        some (u3_readMany, u3_now, u3_readMany, u3_signedAll, u3_reason, u3_acts)
      else
      some ((u3_signedAll &&& (v_book ((18 : Int32)).toNatClampNeg)), u3_now, u3_readMany, u3_signedAll, u3_reason, u3_acts)
    else
    if ix ((18 : Int32) + p1) 21 = true then
    some ((u3_now (((18 : Int32) + p1)).toNatClampNeg), u3_now, u3_readMany, u3_signedAll, u3_reason, u3_acts)
    else none
  else
  some ((-5 : Int32), u3_now, u3_readMany, u3_signedAll, u3_reason, u3_acts)
/-- SealStraitModel.who -/
noncomputable def f_Model_who (v_book : Nat → Int32) (v_now : Nat → Int32) (v_moults : Nat → Int32) (v_words : Nat → Int32) (v_readMany : Int32) (v_signedAll : Int32) (p1 : Int32) : Option (Int32 × (Nat → Int32) × Int32 × Int32) :=
  (f_Model_asNow v_book v_now v_readMany v_signedAll).bind fun (u1_now, u1_readMany, u1_signedAll) =>
  if (f_Model_isClause p1) = 0 then
    some ((-1 : Int32), u1_now, u1_readMany, u1_signedAll)
  else
  (f_Model_signers u1_now v_moults v_words p1).bind fun r5 =>
  some (r5, u1_now, u1_readMany, u1_signedAll)
/-- SealStraitModel.heard -/
noncomputable def f_Model_heard (v_now : Nat → Int32) (v_moults : Nat → Int32) (v_words : Nat → Int32) (p1 : Int32) (p2 : Int32) (p3 : Int32) : Option (Int32) :=
  if ix p1 6 = true then
  if ((v_now ((20 : Int32)).toNatClampNeg) - (v_now ((20 : Int32)).toNatClampNeg) / (12 : Int32) * (12 : Int32)) = (v_moults (p1).toNatClampNeg) then
    if (0 : Int32) = 0 then
      if (9 : Int32) ≤ (p2 - p2 / (10 : Int32) * (10 : Int32)) then
        some p2
      else
      some (p2 + (1 : Int32))
    else
    if ix p3 10 = true then
    some ((((10 : Int32) - ((p2 / (10 : Int32)) * (10 : Int32))) + (p2 - p2 / (10 : Int32) * (10 : Int32))) - (v_words (p3).toNatClampNeg))
    else none
  else
  if ix p1 21 = true then
  if (v_now (p1).toNatClampNeg) ≤ 0 then
    if (0 : Int32) = 0 then
      if (9 : Int32) ≤ (p2 - p2 / (10 : Int32) * (10 : Int32)) then
        some p2
      else
      some (p2 + (1 : Int32))
    else
    if ix p3 10 = true then
    some ((((10 : Int32) - ((p2 / (10 : Int32)) * (10 : Int32))) + (p2 - p2 / (10 : Int32) * (10 : Int32))) - (v_words (p3).toNatClampNeg))
    else none
  else
  if ix p3 10 = true then
  if (p2 - p2 / (10 : Int32) * (10 : Int32)) < (v_words (p3).toNatClampNeg) then
    if (0 : Int32) = 0 then
      if (9 : Int32) ≤ (p2 - p2 / (10 : Int32) * (10 : Int32)) then
        some p2
      else
      some (p2 + (1 : Int32))
    else
    if ix p3 10 = true then
    some ((((10 : Int32) - ((p2 / (10 : Int32)) * (10 : Int32))) + (p2 - p2 / (10 : Int32) * (10 : Int32))) - (v_words (p3).toNatClampNeg))
    else none
  else
  if (1 : Int32) = 0 then
    if (9 : Int32) ≤ (p2 - p2 / (10 : Int32) * (10 : Int32)) then
      some p2
    else
    some (p2 + (1 : Int32))
  else
  if ix p3 10 = true then
  some ((((10 : Int32) - ((p2 / (10 : Int32)) * (10 : Int32))) + (p2 - p2 / (10 : Int32) * (10 : Int32))) - (v_words (p3).toNatClampNeg))
  else none
  else none
  else none
  else none
/-- SealStraitModel.bring -/
noncomputable def b_Model_bring_1  (x6 : Int32) (v_reached : Nat → Int32) : Option ((Int32 × (Nat → Int32)) ⊕ ((Nat → Int32))) :=
  if (400 : Int32) ≤ x6 then
    some (.inr v_reached)
  else
  if ix x6 400 = true then
  some (.inl ((x6 + 1), (upd v_reached (x6).toNatClampNeg (-1 : Int32))))
  else none
noncomputable def b_Model_bring_3 (x1 : Int32) (x3 : Int32) (x9 : Int32) (x10 : Int32) (v_now : Nat → Int32) (v_moults : Nat → Int32) (v_words : Nat → Int32) (x7 : Int32) (x11 : Int32) (v_reached : Nat → Int32) (v_queue : Nat → Int32) : Option ((Int32 × Int32 × (Nat → Int32) × (Nat → Int32)) ⊕ (Int32 × (Nat → Int32) × (Nat → Int32))) :=
  if (10 : Int32) ≤ x11 then
    some (.inr (x7, v_reached, v_queue))
  else
  (f_Model_heard v_now v_moults v_words x1 (x9 / (20 : Int32)) x11).bind fun r32 =>
  (f_Model_heard v_now v_moults v_words x3 (x9 - x9 / (20 : Int32) * (20 : Int32)) x11).bind fun r34 =>
  if ix (((20 : Int32) * r32) + r34) 400 = true then
  if 0 ≤ (v_reached ((((20 : Int32) * r32) + r34)).toNatClampNeg) then
    some (.inl (x7, (x11 + 1), v_reached, v_queue))
  else
  if (10 : Int32) ≤ x10 then
    if ix (((20 : Int32) * r32) + r34) 400 = true then
    if ix x7 400 = true then
    some (.inl ((x7 + 1), (x11 + 1), (upd v_reached ((((20 : Int32) * r32) + r34)).toNatClampNeg (((10 : Int32) * ((x10 / (10 : Int32)) + (1 : Int32))) + (x10 - x10 / (10 : Int32) * (10 : Int32)))), (upd v_queue (x7).toNatClampNeg (((20 : Int32) * r32) + r34))))
    else none
    else none
  else
  if ix (((20 : Int32) * r32) + r34) 400 = true then
  if ix x7 400 = true then
  some (.inl ((x7 + 1), (x11 + 1), (upd v_reached ((((20 : Int32) * r32) + r34)).toNatClampNeg (((10 : Int32) * ((x10 / (10 : Int32)) + (1 : Int32))) + x11)), (upd v_queue (x7).toNatClampNeg (((20 : Int32) * r32) + r34))))
  else none
  else none
  else none
noncomputable def b_Model_bring_2 (x1 : Int32) (x2 : Int32) (x3 : Int32) (x4 : Int32) (x5 : Int32) (v_now : Nat → Int32) (v_moults : Nat → Int32) (v_words : Nat → Int32) (v_readMany : Int32) (v_signedAll : Int32) (x7 : Int32) (x8 : Int32) (v_reached : Nat → Int32) (v_queue : Nat → Int32) : Option ((Int32 × Int32 × (Nat → Int32) × (Nat → Int32)) ⊕ (Int32 × (Nat → Int32) × Int32 × Int32 × (Nat → Int32) × (Nat → Int32))) :=
  if x7 ≤ x8 then
    some (.inr ((-6 : Int32), v_now, v_readMany, v_signedAll, v_reached, v_queue))
  else
  if ix x8 400 = true then
  if ix (v_queue (x8).toNatClampNeg) 400 = true then
  if ((v_queue (x8).toNatClampNeg) / (200 : Int32)) = x2 then
    if (((v_queue (x8).toNatClampNeg) - (v_queue (x8).toNatClampNeg) / (20 : Int32) * (20 : Int32)) / (10 : Int32)) = x4 then
      if x5 = 0 then
        some (.inr (((v_reached ((v_queue (x8).toNatClampNeg)).toNatClampNeg) / (10 : Int32)), v_now, v_readMany, v_signedAll, v_reached, v_queue))
      else
      if (10 : Int32) ≤ (v_reached ((v_queue (x8).toNatClampNeg)).toNatClampNeg) then
        some (.inr (((v_reached ((v_queue (x8).toNatClampNeg)).toNatClampNeg) - (v_reached ((v_queue (x8).toNatClampNeg)).toNatClampNeg) / (10 : Int32) * (10 : Int32)), v_now, v_readMany, v_signedAll, v_reached, v_queue))
      else
      some (.inr ((-6 : Int32), v_now, v_readMany, v_signedAll, v_reached, v_queue))
    else
    (ev (fun s => b_Model_bring_3 x1 x3 (v_queue (x8).toNatClampNeg) (v_reached ((v_queue (x8).toNatClampNeg)).toNatClampNeg) v_now v_moults v_words s.1 s.2.1 s.2.2.1 s.2.2.2) (x7, (0 : Int32), v_reached, v_queue)).bind fun (y7_47, z47_reached, z47_queue) =>
    some (.inl (y7_47, (x8 + 1), z47_reached, z47_queue))
  else
  (ev (fun s => b_Model_bring_3 x1 x3 (v_queue (x8).toNatClampNeg) (v_reached ((v_queue (x8).toNatClampNeg)).toNatClampNeg) v_now v_moults v_words s.1 s.2.1 s.2.2.1 s.2.2.2) (x7, (0 : Int32), v_reached, v_queue)).bind fun (y7_43, z43_reached, z43_queue) =>
  some (.inl (y7_43, (x8 + 1), z43_reached, z43_queue))
  else none
  else none
noncomputable def f_Model_bring (v_book : Nat → Int32) (v_now : Nat → Int32) (v_moults : Nat → Int32) (v_words : Nat → Int32) (v_readMany : Int32) (v_signedAll : Int32) (v_reached : Nat → Int32) (v_queue : Nat → Int32) (p1 : Int32) (p2 : Int32) (p3 : Int32) (p4 : Int32) (p5 : Int32) : Option (Int32 × (Nat → Int32) × Int32 × Int32 × (Nat → Int32) × (Nat → Int32)) :=
  if (f_Model_isThere v_book p1) = 0 then
    some ((-1 : Int32), v_now, v_readMany, v_signedAll, v_reached, v_queue)
  else
  if (f_Model_isThere v_book p3) = 0 then
    some ((-1 : Int32), v_now, v_readMany, v_signedAll, v_reached, v_queue)
  else
  if p1 = p3 then
    some ((-1 : Int32), v_now, v_readMany, v_signedAll, v_reached, v_queue)
  else
  if (f_Model_in p2 (0 : Int32) (1 : Int32)) = 0 then
    some ((-2 : Int32), v_now, v_readMany, v_signedAll, v_reached, v_queue)
  else
  if (f_Model_in p4 (0 : Int32) (1 : Int32)) = 0 then
    some ((-2 : Int32), v_now, v_readMany, v_signedAll, v_reached, v_queue)
  else
  if (f_Model_in p5 (0 : Int32) (1 : Int32)) = 0 then
    some ((-2 : Int32), v_now, v_readMany, v_signedAll, v_reached, v_queue)
  else
  (f_Model_asNow v_book v_now v_readMany v_signedAll).bind fun (u12_now, u12_readMany, u12_signedAll) =>
  (ev (fun s => b_Model_bring_1 s.1 s.2) ((0 : Int32), v_reached)).bind fun z17_reached =>
  if ix ((6 : Int32) + p1) 21 = true then
  if ix ((12 : Int32) + p1) 21 = true then
  if ix ((6 : Int32) + p3) 21 = true then
  if ix ((12 : Int32) + p3) 21 = true then
  if ix ((((20 : Int32) * (((10 : Int32) * (u12_now (((6 : Int32) + p1)).toNatClampNeg)) + (u12_now (((12 : Int32) + p1)).toNatClampNeg))) + ((10 : Int32) * (u12_now (((6 : Int32) + p3)).toNatClampNeg))) + (u12_now (((12 : Int32) + p3)).toNatClampNeg)) 400 = true then
  ev (fun s => b_Model_bring_2 p1 p2 p3 p4 p5 u12_now v_moults v_words u12_readMany u12_signedAll s.1 s.2.1 s.2.2.1 s.2.2.2) ((1 : Int32), (0 : Int32), (upd z17_reached (((((20 : Int32) * (((10 : Int32) * (u12_now (((6 : Int32) + p1)).toNatClampNeg)) + (u12_now (((12 : Int32) + p1)).toNatClampNeg))) + ((10 : Int32) * (u12_now (((6 : Int32) + p3)).toNatClampNeg))) + (u12_now (((12 : Int32) + p3)).toNatClampNeg))).toNatClampNeg (0 : Int32)), (upd v_queue ((0 : Int32)).toNatClampNeg ((((20 : Int32) * (((10 : Int32) * (u12_now (((6 : Int32) + p1)).toNatClampNeg)) + (u12_now (((12 : Int32) + p1)).toNatClampNeg))) + ((10 : Int32) * (u12_now (((6 : Int32) + p3)).toNatClampNeg))) + (u12_now (((12 : Int32) + p3)).toNatClampNeg))))
  else none
  else none
  else none
  else none
  else none
/-- SealStraitModel.drop -/
noncomputable def b_Model_drop_2 (x1 : Int32) (x4 : Int32) (v_clashes : Nat → Int32) (x5 : Int32) (x6 : Int32) : Option ((Int32 × Int32) ⊕ (Int32)) :=
  if (10 : Int32) ≤ x6 then
    some (.inr x5)
  else
  if x5 = 0 then
    some (.inr x5)
  else
  if (f_Model_has (x1 &&& (x4 ^^^ (-1 : Int32))) x6) = 0 then
    some (.inl ((1 : Int32), (x6 + 1)))
  else
  if ix x6 10 = true then
  if (((v_clashes (x6).toNatClampNeg) &&& x1) &&& (x4 ^^^ (-1 : Int32))) = 0 then
    some (.inl ((1 : Int32), (x6 + 1)))
  else
  some (.inl ((0 : Int32), (x6 + 1)))
  else none
noncomputable def b_Model_drop_1 (x1 : Int32) (v_clashes : Nat → Int32) (x3 : Int32) (x4 : Int32) : Option ((Int32 × Int32) ⊕ (Int32)) :=
  if x4 < 0 then
    some (.inr x3)
  else
  if (x4 &&& (x1 ^^^ (-1 : Int32))) = 0 then
    (f_Model_bits x4).bind fun r20 =>
    (f_Model_bits x3).bind fun r22 =>
    if r22 < r20 then
      (ev (fun s => b_Model_drop_2 x1 x4 v_clashes s.1 s.2) ((0 : Int32), (0 : Int32))).bind fun y5_25 =>
      if y5_25 = 0 then
        some (.inl (x3, (x4 + (-1))))
      else
      some (.inl (x4, (x4 + (-1))))
    else
    (ev (fun s => b_Model_drop_2 x1 x4 v_clashes s.1 s.2) ((1 : Int32), (0 : Int32))).bind fun y5_29 =>
    if y5_29 = 0 then
      some (.inl (x3, (x4 + (-1))))
    else
    some (.inl (x4, (x4 + (-1))))
  else
  (ev (fun s => b_Model_drop_2 x1 x4 v_clashes s.1 s.2) ((0 : Int32), (0 : Int32))).bind fun y5_16 =>
  if y5_16 = 0 then
    some (.inl (x3, (x4 + (-1))))
  else
  some (.inl (x4, (x4 + (-1))))
noncomputable def f_Model_drop (v_clashes : Nat → Int32) (p1 : Int32) (p2 : Int32) : Option (Int32) :=
  if (f_Model_in p1 (0 : Int32) (1023 : Int32)) = 0 then
    some (-2 : Int32)
  else
  if (f_Model_in p2 (0 : Int32) (1 : Int32)) = 0 then
    some (-2 : Int32)
  else
  (ev (fun s => b_Model_drop_1 p1 v_clashes s.1 s.2) (p1, (1023 : Int32))).bind fun y3_33 =>
  if p2 = (1 : Int32) then
    some y3_33
  else
  (f_Model_bits y3_33).bind fun r37 =>
  some r37
/-- SealStraitModel.share -/
noncomputable def b_Model_share_1 (v_book : Nat → Int32) (x3 : Int32) (x4 : Int32) (v_got : Nat → Int32) : Option ((Int32 × Int32 × (Nat → Int32)) ⊕ (Int32 × (Nat → Int32))) :=
  if (6 : Int32) ≤ x4 then
    some (.inr (x3, v_got))
  else
  if ix x4 6 = true then
  if (f_Model_isThere v_book x4) = 0 then
    some (.inl ((x3 + (0 : Int32)), (x4 + 1), (upd v_got (x4).toNatClampNeg (0 : Int32))))
  else
  if ix x4 21 = true then
  some (.inl ((x3 + (v_book (x4).toNatClampNeg)), (x4 + 1), (upd v_got (x4).toNatClampNeg (0 : Int32))))
  else none
  else none
noncomputable def b_Model_share_3 (v_book : Nat → Int32) (v_got : Nat → Int32) (x5 : Int32) (x6 : Int32) : Option ((Int32 × Int32) ⊕ (Int32)) :=
  if (6 : Int32) ≤ x6 then
    some (.inr x5)
  else
  if (f_Model_isThere v_book x6) = 0 then
    some (.inl (x5, (x6 + 1)))
  else
  if x5 < 0 then
    some (.inl (x6, (x6 + 1)))
  else
  if ix x6 21 = true then
  if ix x5 6 = true then
  if ix x5 21 = true then
  if ix x6 6 = true then
  if ((v_book (x6).toNatClampNeg) * ((v_got (x5).toNatClampNeg) + (1 : Int32))) ≤ ((v_book (x5).toNatClampNeg) * ((v_got (x6).toNatClampNeg) + (1 : Int32))) then
    some (.inl (x5, (x6 + 1)))
  else
  some (.inl (x6, (x6 + 1)))
  else none
  else none
  else none
  else none
noncomputable def b_Model_share_2 (x2 : Int32) (v_book : Nat → Int32) (x4 : Int32) (v_got : Nat → Int32) : Option ((Int32 × (Nat → Int32)) ⊕ ((Nat → Int32))) :=
  if x2 ≤ x4 then
    some (.inr v_got)
  else
  (ev (fun s => b_Model_share_3 v_book v_got s.1 s.2) ((-6 : Int32), (0 : Int32))).bind fun y5_27 =>
  if ix y5_27 6 = true then
  if ix y5_27 6 = true then
  some (.inl ((x4 + 1), (upd v_got (y5_27).toNatClampNeg ((v_got (y5_27).toNatClampNeg) + (1 : Int32)))))
  else none
  else none
noncomputable def f_Model_share (v_book : Nat → Int32) (v_got : Nat → Int32) (p1 : Int32) (p2 : Int32) : Option (Int32 × (Nat → Int32)) :=
  if (f_Model_isThere v_book p1) = 0 then
    some ((-1 : Int32), v_got)
  else
  if (f_Model_in p2 (0 : Int32) (99 : Int32)) = 0 then
    some ((-2 : Int32), v_got)
  else
  (ev (fun s => b_Model_share_1 v_book s.1 s.2.1 s.2.2) ((0 : Int32), (0 : Int32), v_got)).bind fun (y3_11, z11_got) =>
  if y3_11 = 0 then
    some ((-6 : Int32), z11_got)
  else
  (ev (fun s => b_Model_share_2 p2 v_book s.1 s.2) ((0 : Int32), z11_got)).bind fun z32_got =>
  if ix p1 6 = true then
  some ((z32_got (p1).toNatClampNeg), z32_got)
  else none
/-- SealStraitModel.lowest -/
noncomputable def b_Model_lowest_1  (x5 : Int64) (x7 : Int64) : Option ((Int64 × Int64) ⊕ (Int64)) :=
  if (lg_cmp x7 (0 : Int64)) = 0 then
    some (.inr x5)
  else
  if ¬ x7 = 0 then
  some (.inl (x7, (x5 - x5 / x7 * x7)))
  else none
noncomputable def f_Model_lowest (p1 : Int64) (p2 : Int64) (p3 : Int32) : Option (Int64) :=
  (ev (fun s => b_Model_lowest_1 s.1 s.2) (p1, p2)).bind fun y5_4 =>
  if p3 = 0 then
    if ¬ y5_4 = 0 then
    some (p1 / y5_4)
    else none
  else
  if ¬ y5_4 = 0 then
  some (p2 / y5_4)
  else none
/-- SealStraitModel.layWait -/
noncomputable def b_Model_layWait_2 (x2 : Int32) (v_waitUp : Int64) (v_waitLow : Int64) (x4 : Int64) (x6 : Int32) : Option ((Int64 × Int32) ⊕ (Int64)) :=
  if x2 < x6 then
    some (.inr x4)
  else
  if (lg_cmp ((x6).toInt64 * v_waitLow) v_waitUp) ≤ 0 then
    some (.inl ((x4 + v_waitUp), (x6 + 1)))
  else
  some (.inl ((x4 + ((x6).toInt64 * v_waitLow)), (x6 + 1)))
noncomputable def b_Model_layWait_1 (x1 : Int32) (x2 : Int32) (x3 : Int32) (v_waitUp : Int64) (v_waitLow : Int64) : Option ((Int32 × Int64 × Int64) ⊕ (Int64 × Int64)) :=
  if x1 ≤ x3 then
    some (.inr (v_waitUp, v_waitLow))
  else
  (ev (fun s => b_Model_layWait_2 x2 v_waitUp v_waitLow s.1 s.2) ((0 : Int64), (0 : Int32))).bind fun y4_6 =>
  some (.inl ((x3 + 1), y4_6, (v_waitLow * ((x2 + (1 : Int32))).toInt64)))
noncomputable def f_Model_layWait (v_waitUp : Int64) (v_waitLow : Int64) (p1 : Int32) (p2 : Int32) : Option (Int64 × Int64) :=
  (ev (fun s => b_Model_layWait_1 p1 p2 s.1 s.2.1 s.2.2) ((0 : Int32), (0 : Int64), (1 : Int64))).bind fun (z9_waitUp, z9_waitLow) =>
  some (z9_waitUp, z9_waitLow)
/-- SealStraitModel.waiting -/
noncomputable def f_Model_waiting (v_waitUp : Int64) (v_waitLow : Int64) (p1 : Int32) (p2 : Int32) (p3 : Int32) : Option (Int64 × Int64 × Int64) :=
  if (f_Model_in p1 (1 : Int32) (12 : Int32)) = 0 then
    some ((-1000000000000000002 : Int64), v_waitUp, v_waitLow)
  else
  if (f_Model_in p2 (1 : Int32) (9 : Int32)) = 0 then
    some ((-1000000000000000002 : Int64), v_waitUp, v_waitLow)
  else
  if (f_Model_in p3 (0 : Int32) (1 : Int32)) = 0 then
    some ((-1000000000000000002 : Int64), v_waitUp, v_waitLow)
  else
  (f_Model_layWait v_waitUp v_waitLow p1 p2).bind fun (u7_waitUp, u7_waitLow) =>
  (f_Model_lowest u7_waitUp u7_waitLow p3).bind fun r9 =>
  some (r9, u7_waitUp, u7_waitLow)
/-- SealStraitModel.reads -/
noncomputable def b_Model_reads_1 (v_waitUp : Int64) (v_waitLow : Int64) (x3 : Int32) : Option ((Int32) ⊕ (Int32)) :=
  if 0 ≤ (lg_cmp ((x3).toInt64 * v_waitLow) v_waitUp) then
    some (.inr x3)
  else
  some (.inl (x3 + 1))
noncomputable def f_Model_reads (v_waitUp : Int64) (v_waitLow : Int64) (p1 : Int32) (p2 : Int32) : Option (Int32 × Int64 × Int64) :=
  if (f_Model_in p1 (1 : Int32) (12 : Int32)) = 0 then
    some ((-2 : Int32), v_waitUp, v_waitLow)
  else
  if (f_Model_in p2 (1 : Int32) (9 : Int32)) = 0 then
    some ((-2 : Int32), v_waitUp, v_waitLow)
  else
  (f_Model_layWait v_waitUp v_waitLow (p1 - (1 : Int32)) p2).bind fun (u5_waitUp, u5_waitLow) =>
  (ev (fun s => b_Model_reads_1 u5_waitUp u5_waitLow s) (0 : Int32)).bind fun y3_9 =>
  some (y3_9, u5_waitUp, u5_waitLow)
/-- SealStraitModel.counted -/
noncomputable def f_Model_counted (v_counts : Int32) (v_count : Nat → Int32) (p1 : Int32) (p2 : Int32) : Option (Int32 × Int32 × (Nat → Int32)) :=
  if (f_Model_in p1 (0 : Int32) (5 : Int32)) = 0 then
    some ((-1 : Int32), v_counts, v_count)
  else
  if (f_Model_in p2 (0 : Int32) (999 : Int32)) = 0 then
    some ((-2 : Int32), v_counts, v_count)
  else
  if v_counts = (8 : Int32) then
    some ((-4 : Int32), v_counts, v_count)
  else
  if ix ((2 : Int32) * v_counts) 16 = true then
  if ix (((2 : Int32) * v_counts) + (1 : Int32)) 16 = true then
  some ((v_counts + (1 : Int32)), (v_counts + (1 : Int32)), (upd (upd v_count (((2 : Int32) * v_counts)).toNatClampNeg p1) ((((2 : Int32) * v_counts) + (1 : Int32))).toNatClampNeg p2))
  else none
  else none
/-- SealStraitModel.forget -/
noncomputable def f_Model_forget (v_counts : Int32) : Option (Int32 × Int32) :=
  some (v_counts, (0 : Int32))
/-- SealStraitModel.wantingOff -/
noncomputable def b_Model_wantingOff_1 (x1 : Int32) (x2 : Int32) (v_book : Nat → Int32) (v_rocks : Nat → Int32) (x3 : Int32) (x4 : Int32) : Option ((Int32 × Int32) ⊕ (Int32)) :=
  if (6 : Int32) ≤ x4 then
    some (.inr x3)
  else
  if ix x1 6 = true then
  if (f_Model_has (x2 &&& (v_rocks (x1).toNatClampNeg)) x4) = 0 then
    some (.inl ((x3 + (0 : Int32)), (x4 + 1)))
  else
  if ix x4 21 = true then
  some (.inl ((x3 + (v_book (x4).toNatClampNeg)), (x4 + 1)))
  else none
  else none
noncomputable def f_Model_wantingOff (v_book : Nat → Int32) (v_rocks : Nat → Int32) (p1 : Int32) (p2 : Int32) : Option (Int32) :=
  (ev (fun s => b_Model_wantingOff_1 p1 p2 v_book v_rocks s.1 s.2) ((0 : Int32), (0 : Int32))).bind fun y3_7 =>
  some y3_7
/-- SealStraitModel.isFit -/
noncomputable def b_Model_isFit_1 (x1 : Int32) (v_book : Nat → Int32) (v_rocks : Nat → Int32) (v_counts : Int32) (v_count : Nat → Int32) (x2 : Int32) (x3 : Int32) : Option ((Int32 × Int32) ⊕ (Int32)) :=
  if v_counts ≤ x3 then
    some (.inr x2)
  else
  if x2 = 0 then
    some (.inr x2)
  else
  if ix ((2 : Int32) * x3) 16 = true then
  (f_Model_wantingOff v_book v_rocks (v_count (((2 : Int32) * x3)).toNatClampNeg) x1).bind fun r7 =>
  if ix (((2 : Int32) * x3) + (1 : Int32)) 16 = true then
  if r7 = (v_count ((((2 : Int32) * x3) + (1 : Int32))).toNatClampNeg) then
    some (.inl ((1 : Int32), (x3 + 1)))
  else
  some (.inl ((0 : Int32), (x3 + 1)))
  else none
  else none
noncomputable def f_Model_isFit (v_book : Nat → Int32) (v_rocks : Nat → Int32) (v_counts : Int32) (v_count : Nat → Int32) (p1 : Int32) : Option (Int32) :=
  if (p1 &&& ((v_book ((18 : Int32)).toNatClampNeg) ^^^ (-1 : Int32))) = 0 then
    (ev (fun s => b_Model_isFit_1 p1 v_book v_rocks v_counts v_count s.1 s.2) ((1 : Int32), (0 : Int32))).bind fun y2_15 =>
    if y2_15 = 0 ∨ y2_15 = 1 then
    some y2_15
    else none
  else
  (ev (fun s => b_Model_isFit_1 p1 v_book v_rocks v_counts v_count s.1 s.2) ((0 : Int32), (0 : Int32))).bind fun y2_11 =>
  if y2_11 = 0 ∨ y2_11 = 1 then
  some y2_11
  else none
/-- SealStraitModel.went -/
noncomputable def b_Model_went_1 (x1 : Int32) (v_book : Nat → Int32) (v_rocks : Nat → Int32) (v_counts : Int32) (v_count : Nat → Int32) (x2 : Int32) (x3 : Int32) : Option ((Int32 × Int32) ⊕ (Int32)) :=
  if (64 : Int32) ≤ x3 then
    if x1 = (-1 : Int32) then
      some (.inr x2)
    else
    some (.inr (-6 : Int32))
  else
  (f_Model_isFit v_book v_rocks v_counts v_count x3).bind fun r5 =>
  if r5 = 0 then
    some (.inl (x2, (x3 + 1)))
  else
  if x2 = x1 then
    some (.inr x3)
  else
  some (.inl ((x2 + 1), (x3 + 1)))
noncomputable def f_Model_went (v_book : Nat → Int32) (v_rocks : Nat → Int32) (v_counts : Int32) (v_count : Nat → Int32) (p1 : Int32) : Option (Int32) :=
  ev (fun s => b_Model_went_1 p1 v_book v_rocks v_counts v_count s.1 s.2) ((0 : Int32), (0 : Int32))
/-- SealStraitModel.ask -/
noncomputable def b_Model_ask_3 (x4 : Int32) (x6 : Int32) (v_book : Nat → Int32) (v_rocks : Nat → Int32) (v_counts : Int32) (v_count : Nat → Int32) (x7 : Int32) (x8 : Int32) : Option ((Int32 × Int32) ⊕ (Int32)) :=
  if (64 : Int32) ≤ x8 then
    some (.inr x7)
  else
  (f_Model_isFit v_book v_rocks v_counts v_count x6).bind fun r9 =>
  if r9 = 0 then
    some (.inr x7)
  else
  (f_Model_isFit v_book v_rocks v_counts v_count x8).bind fun r13 =>
  if r13 = 0 then
    some (.inl ((x7 + (0 : Int32)), (x8 + 1)))
  else
  (f_Model_wantingOff v_book v_rocks x4 x8).bind fun r16 =>
  (f_Model_wantingOff v_book v_rocks x4 x6).bind fun r18 =>
  if r16 = r18 then
    some (.inl ((x7 + (1 : Int32)), (x8 + 1)))
  else
  some (.inl ((x7 + (0 : Int32)), (x8 + 1)))
noncomputable def b_Model_ask_2 (x4 : Int32) (v_book : Nat → Int32) (v_rocks : Nat → Int32) (v_counts : Int32) (v_count : Nat → Int32) (x5 : Int32) (x6 : Int32) : Option ((Int32 × Int32) ⊕ (Int32)) :=
  if (64 : Int32) ≤ x6 then
    some (.inr x5)
  else
  (ev (fun s => b_Model_ask_3 x4 x6 v_book v_rocks v_counts v_count s.1 s.2) ((0 : Int32), (0 : Int32))).bind fun y7_21 =>
  if y7_21 ≤ x5 then
    some (.inl (x5, (x6 + 1)))
  else
  some (.inl (y7_21, (x6 + 1)))
noncomputable def b_Model_ask_1 (v_book : Nat → Int32) (v_rocks : Nat → Int32) (v_counts : Int32) (v_count : Nat → Int32) (x2 : Int32) (x3 : Int32) (x4 : Int32) : Option ((Int32 × Int32 × Int32) ⊕ (Int32 × Int32)) :=
  if (6 : Int32) ≤ x4 then
    some (.inr (x2, x3))
  else
  (ev (fun s => b_Model_ask_2 x4 v_book v_rocks v_counts v_count s.1 s.2) ((0 : Int32), (0 : Int32))).bind fun y5_25 =>
  if y5_25 ≤ 0 then
    if (0 : Int32) = 0 then
      if (0 : Int32) = 0 then
        some (.inl (x2, x3, (x4 + 1)))
      else
      some (.inl (x2, y5_25, (x4 + 1)))
    else
    if (0 : Int32) = 0 then
      some (.inl (x4, x3, (x4 + 1)))
    else
    some (.inl (x4, y5_25, (x4 + 1)))
  else
  if x3 ≤ y5_25 then
    if (0 : Int32) = 0 then
      if (0 : Int32) = 0 then
        some (.inl (x2, x3, (x4 + 1)))
      else
      some (.inl (x2, y5_25, (x4 + 1)))
    else
    if (0 : Int32) = 0 then
      some (.inl (x4, x3, (x4 + 1)))
    else
    some (.inl (x4, y5_25, (x4 + 1)))
  else
  if (1 : Int32) = 0 then
    if (1 : Int32) = 0 then
      some (.inl (x2, x3, (x4 + 1)))
    else
    some (.inl (x2, y5_25, (x4 + 1)))
  else
  if (1 : Int32) = 0 then
    some (.inl (x4, x3, (x4 + 1)))
  else
  some (.inl (x4, y5_25, (x4 + 1)))
noncomputable def f_Model_ask (v_book : Nat → Int32) (v_rocks : Nat → Int32) (v_counts : Int32) (v_count : Nat → Int32) (p1 : Int32) : Option (Int32) :=
  if (f_Model_in p1 (0 : Int32) (1 : Int32)) = 0 then
    some (-2 : Int32)
  else
  (ev (fun s => b_Model_ask_1 v_book v_rocks v_counts v_count s.1 s.2.1 s.2.2) ((-6 : Int32), (1000000 : Int32), (0 : Int32))).bind fun (y2_39, y3_39) =>
  if y2_39 < 0 then
    some y2_39
  else
  if p1 = 0 then
    some y2_39
  else
  some y3_39
/-- SealStraitModel.turning -/
noncomputable def b_Model_turning_2 (x4 : Int32) (v_words : Nat → Int32) (x5 : Int32) (x6 : Int32) : Option ((Int32 × Int32) ⊕ (Int32)) :=
  if (10 : Int32) ≤ x6 then
    some (.inr x5)
  else
  if (f_Model_has x4 x6) = 0 then
    some (.inl ((x5 - (0 : Int32)), (x6 + 1)))
  else
  if ix x6 10 = true then
  some (.inl ((x5 - (v_words (x6).toNatClampNeg)), (x6 + 1)))
  else none
noncomputable def b_Model_turning_3 (x4 : Int32) (x5 : Int32) (v_words : Nat → Int32) (v_wins : Nat → Int32) (x3 : Int32) (x6 : Int32) : Option ((Int32 × Int32) ⊕ (Int32)) :=
  if x6 < 0 then
    some (.inr x3)
  else
  if (f_Model_has x4 x6) = 0 then
    if ix x6 10 = true then
    if x5 < (v_words (x6).toNatClampNeg) then
      some (.inl (x3, (x6 + (-1))))
    else
    if ix (x4 ||| ((1 : Int32) <<< (x6 &&& 31))) 1024 = true then
    if (v_wins ((x4 ||| ((1 : Int32) <<< (x6 &&& 31)))).toNatClampNeg) = 0 then
      some (.inl (x6, (x6 + (-1))))
    else
    some (.inl (x3, (x6 + (-1))))
    else none
    else none
  else
  some (.inl (x3, (x6 + (-1))))
noncomputable def b_Model_turning_1 (x1 : Int32) (v_words : Nat → Int32) (x3 : Int32) (x4 : Int32) (v_wins : Nat → Int32) : Option ((Int32 × Int32 × (Nat → Int32)) ⊕ (Int32 × (Nat → Int32))) :=
  if x4 < 0 then
    some (.inr (x3, v_wins))
  else
  (ev (fun s => b_Model_turning_2 x4 v_words s.1 s.2) (x1, (0 : Int32))).bind fun y5_12 =>
  (ev (fun s => b_Model_turning_3 x4 y5_12 v_words v_wins s.1 s.2) ((-6 : Int32), (9 : Int32))).bind fun y3_23 =>
  if 0 ≤ y3_23 then
    if ix x4 1024 = true then
    some (.inl (y3_23, (x4 + (-1)), (upd v_wins (x4).toNatClampNeg (1 : Int32))))
    else none
  else
  if ix x4 1024 = true then
  some (.inl (y3_23, (x4 + (-1)), (upd v_wins (x4).toNatClampNeg (0 : Int32))))
  else none
noncomputable def f_Model_turning (v_words : Nat → Int32) (v_wins : Nat → Int32) (p1 : Int32) (p2 : Int32) : Option (Int32 × (Nat → Int32)) :=
  if (f_Model_in p1 (0 : Int32) (30 : Int32)) = 0 then
    some ((-2 : Int32), v_wins)
  else
  if (f_Model_in p2 (0 : Int32) (1 : Int32)) = 0 then
    some ((-2 : Int32), v_wins)
  else
  (ev (fun s => b_Model_turning_1 p1 v_words s.1 s.2.1 s.2.2) ((-6 : Int32), (1023 : Int32), v_wins)).bind fun (y3_29, z29_wins) =>
  if p2 = (1 : Int32) then
    some (y3_29, z29_wins)
  else
  some ((z29_wins ((0 : Int32)).toNatClampNeg), z29_wins)
/-- SealStraitModel.drift -/
noncomputable def b_Model_drift_1 (x2 : Int32) (x3 : Int32) (x4 : Int32) (x7 : Int64) (x9 : Int64) (x11 : Int64) (x13 : Int32) : Option ((Int64 × Int64 × Int64 × Int32) ⊕ (Int64 × Int64 × Int64)) :=
  if x4 ≤ x13 then
    some (.inr (x7, x9, x11))
  else
  some (.inl ((x7 * (10 : Int64)), (((x7 - x9) * (x2).toInt64) + (x9 * (((10 : Int32) - x3)).toInt64)), (((10 : Int64) * x11) + (((x7 - x9) * (x2).toInt64) + (x9 * (((10 : Int32) - x3)).toInt64))), (x13 + 1)))
noncomputable def f_Model_drift (p1 : Int32) (p2 : Int32) (p3 : Int32) (p4 : Int32) (p5 : Int32) (p6 : Int32) : Option (Int64) :=
  if (f_Model_in p1 (0 : Int32) (1 : Int32)) = 0 then
    some (-1000000000000000002 : Int64)
  else
  if (f_Model_in p2 (0 : Int32) (10 : Int32)) = 0 then
    some (-1000000000000000002 : Int64)
  else
  if (f_Model_in p3 (0 : Int32) (10 : Int32)) = 0 then
    some (-1000000000000000002 : Int64)
  else
  if (f_Model_in p5 (0 : Int32) (1 : Int32)) = 0 then
    some (-1000000000000000002 : Int64)
  else
  if p5 = 0 then
    if (f_Model_in p4 (0 : Int32) (17 : Int32)) = 0 then
      some (-1000000000000000002 : Int64)
    else
    if (f_Model_in p6 (0 : Int32) (1 : Int32)) = 0 then
      some (-1000000000000000002 : Int64)
    else
    (ev (fun s => b_Model_drift_1 p2 p3 p4 s.1 s.2.1 s.2.2.1 s.2.2.2) ((1 : Int64), (p1).toInt64, (0 : Int64), (0 : Int32))).bind fun (y7_28, y9_28, y11_28) =>
    if p5 = 0 then
      (f_Model_lowest y9_28 y7_28 p6).bind fun r34 =>
      some r34
    else
    (f_Model_lowest y11_28 y7_28 p6).bind fun r32 =>
    some r32
  else
  if (f_Model_in p4 (0 : Int32) (16 : Int32)) = 0 then
    some (-1000000000000000002 : Int64)
  else
  if (f_Model_in p6 (0 : Int32) (1 : Int32)) = 0 then
    some (-1000000000000000002 : Int64)
  else
  (ev (fun s => b_Model_drift_1 p2 p3 p4 s.1 s.2.1 s.2.2.1 s.2.2.2) ((1 : Int64), (p1).toInt64, (0 : Int64), (0 : Int32))).bind fun (y7_16, y9_16, y11_16) =>
  if p5 = 0 then
    (f_Model_lowest y9_16 y7_16 p6).bind fun r22 =>
    some r22
  else
  (f_Model_lowest y11_16 y7_16 p6).bind fun r20 =>
  some r20
/-- SealStraitModel.year -/
noncomputable def b_Model_year_1 (x2 : Int32) (v_moults : Nat → Int32) (v_words : Nat → Int32) (x4 : Int32) (x5 : Int32) (v_now : Nat → Int32) (v_readMany : Int32) (v_signedAll : Int32) (v_reason : Int32) : Option ((Int32 × Int32 × (Nat → Int32) × Int32 × Int32 × Int32) ⊕ ((Nat → Int32) × Int32 × Int32 × Int32)) :=
  if x2 ≤ x5 then
    some (.inr (v_now, v_readMany, v_signedAll, v_reason))
  else
  if (4 : Int32) ≤ (((((75 : Int32) * x4) + (74 : Int32)) - (((75 : Int32) * x4) + (74 : Int32)) / (65537 : Int32) * (65537 : Int32)) - ((((75 : Int32) * x4) + (74 : Int32)) - (((75 : Int32) * x4) + (74 : Int32)) / (65537 : Int32) * (65537 : Int32)) / (8 : Int32) * (8 : Int32)) then
    if (((((75 : Int32) * x4) + (74 : Int32)) - (((75 : Int32) * x4) + (74 : Int32)) / (65537 : Int32) * (65537 : Int32)) - ((((75 : Int32) * x4) + (74 : Int32)) - (((75 : Int32) * x4) + (74 : Int32)) / (65537 : Int32) * (65537 : Int32)) / (8 : Int32) * (8 : Int32)) = (4 : Int32) then
      (f_Model_whistle v_now ((((((75 : Int32) * x4) + (74 : Int32)) - (((75 : Int32) * x4) + (74 : Int32)) / (65537 : Int32) * (65537 : Int32)) / (8 : Int32)) - (((((75 : Int32) * x4) + (74 : Int32)) - (((75 : Int32) * x4) + (74 : Int32)) / (65537 : Int32) * (65537 : Int32)) / (8 : Int32)) / (6 : Int32) * (6 : Int32))).bind fun (r21, u21_now) =>
      some (.inl (((((75 : Int32) * x4) + (74 : Int32)) - (((75 : Int32) * x4) + (74 : Int32)) / (65537 : Int32) * (65537 : Int32)), (x5 + 1), u21_now, v_readMany, v_signedAll, r21))
    else
    if (((((75 : Int32) * x4) + (74 : Int32)) - (((75 : Int32) * x4) + (74 : Int32)) / (65537 : Int32) * (65537 : Int32)) - ((((75 : Int32) * x4) + (74 : Int32)) - (((75 : Int32) * x4) + (74 : Int32)) / (65537 : Int32) * (65537 : Int32)) / (8 : Int32) * (8 : Int32)) = (5 : Int32) then
      (f_Model_net v_now ((((((75 : Int32) * x4) + (74 : Int32)) - (((75 : Int32) * x4) + (74 : Int32)) / (65537 : Int32) * (65537 : Int32)) / (8 : Int32)) - (((((75 : Int32) * x4) + (74 : Int32)) - (((75 : Int32) * x4) + (74 : Int32)) / (65537 : Int32) * (65537 : Int32)) / (8 : Int32)) / (6 : Int32) * (6 : Int32))).bind fun (r19, u19_now) =>
      some (.inl (((((75 : Int32) * x4) + (74 : Int32)) - (((75 : Int32) * x4) + (74 : Int32)) / (65537 : Int32) * (65537 : Int32)), (x5 + 1), u19_now, v_readMany, v_signedAll, r19))
    else
    if (((((75 : Int32) * x4) + (74 : Int32)) - (((75 : Int32) * x4) + (74 : Int32)) / (65537 : Int32) * (65537 : Int32)) - ((((75 : Int32) * x4) + (74 : Int32)) - (((75 : Int32) * x4) + (74 : Int32)) / (65537 : Int32) * (65537 : Int32)) / (8 : Int32) * (8 : Int32)) = (6 : Int32) then
      (f_Model_join v_now ((((((75 : Int32) * x4) + (74 : Int32)) - (((75 : Int32) * x4) + (74 : Int32)) / (65537 : Int32) * (65537 : Int32)) / (8 : Int32)) - (((((75 : Int32) * x4) + (74 : Int32)) - (((75 : Int32) * x4) + (74 : Int32)) / (65537 : Int32) * (65537 : Int32)) / (8 : Int32)) / (6 : Int32) * (6 : Int32)) (((((((75 : Int32) * x4) + (74 : Int32)) - (((75 : Int32) * x4) + (74 : Int32)) / (65537 : Int32) * (65537 : Int32)) / (8 : Int32)) / (6 : Int32)) - ((((((75 : Int32) * x4) + (74 : Int32)) - (((75 : Int32) * x4) + (74 : Int32)) / (65537 : Int32) * (65537 : Int32)) / (8 : Int32)) / (6 : Int32)) / (6 : Int32) * (6 : Int32))).bind fun (r17, u17_now) =>
      some (.inl (((((75 : Int32) * x4) + (74 : Int32)) - (((75 : Int32) * x4) + (74 : Int32)) / (65537 : Int32) * (65537 : Int32)), (x5 + 1), u17_now, v_readMany, v_signedAll, r17))
    else
    (f_Model_endMonth v_now v_moults).bind fun (r15, u15_now) =>
    some (.inl (((((75 : Int32) * x4) + (74 : Int32)) - (((75 : Int32) * x4) + (74 : Int32)) / (65537 : Int32) * (65537 : Int32)), (x5 + 1), u15_now, v_readMany, v_signedAll, r15))
  else
  (f_Model_read v_now v_moults v_words v_readMany v_signedAll ((((((75 : Int32) * x4) + (74 : Int32)) - (((75 : Int32) * x4) + (74 : Int32)) / (65537 : Int32) * (65537 : Int32)) / (8 : Int32)) - (((((75 : Int32) * x4) + (74 : Int32)) - (((75 : Int32) * x4) + (74 : Int32)) / (65537 : Int32) * (65537 : Int32)) / (8 : Int32)) / (10 : Int32) * (10 : Int32))).bind fun (r23, u23_now, u23_readMany, u23_signedAll) =>
  some (.inl (((((75 : Int32) * x4) + (74 : Int32)) - (((75 : Int32) * x4) + (74 : Int32)) / (65537 : Int32) * (65537 : Int32)), (x5 + 1), u23_now, u23_readMany, u23_signedAll, r23))
noncomputable def b_Model_year_2 (v_now : Nat → Int32) (x5 : Int32) (x6 : Int32) : Option ((Int32 × Int32) ⊕ (Int32)) :=
  if (6 : Int32) ≤ x6 then
    some (.inr x5)
  else
  if (f_Model_stands v_now x6) = 0 then
    some (.inl ((x5 + (0 : Int32)), (x6 + 1)))
  else
  if ix ((12 : Int32) + x6) 21 = true then
  some (.inl ((x5 + (v_now (((12 : Int32) + x6)).toNatClampNeg)), (x6 + 1)))
  else none
noncomputable def f_Model_year (v_book : Nat → Int32) (v_now : Nat → Int32) (v_moults : Nat → Int32) (v_words : Nat → Int32) (v_readMany : Int32) (v_signedAll : Int32) (v_reason : Int32) (p1 : Int32) (p2 : Int32) (p3 : Int32) : Option (Int32 × (Nat → Int32) × Int32 × Int32 × Int32) :=
  if (f_Model_in p1 (0 : Int32) (9999 : Int32)) = 0 then
    some ((-2 : Int32), v_now, v_readMany, v_signedAll, v_reason)
  else
  if (f_Model_in p2 (1 : Int32) (99 : Int32)) = 0 then
    some ((-2 : Int32), v_now, v_readMany, v_signedAll, v_reason)
  else
  if (f_Model_in p3 (0 : Int32) (2 : Int32)) = 0 then
    some ((-2 : Int32), v_now, v_readMany, v_signedAll, v_reason)
  else
  (f_Model_asNow v_book v_now v_readMany v_signedAll).bind fun (u7_now, u7_readMany, u7_signedAll) =>
  (ev (fun s => b_Model_year_1 p2 v_moults v_words s.1 s.2.1 s.2.2.1 s.2.2.2.1 s.2.2.2.2.1 s.2.2.2.2.2) (p1, (0 : Int32), u7_now, u7_readMany, u7_signedAll, v_reason)).bind fun (z25_now, z25_readMany, z25_signedAll, z25_reason) =>
  (ev (fun s => b_Model_year_2 z25_now s.1 s.2) ((0 : Int32), (0 : Int32))).bind fun y5_33 =>
  if p3 = 0 then
    (f_Model_headsBeyond z25_now).bind fun r38 =>
    some (r38, z25_now, z25_readMany, z25_signedAll, z25_reason)
  else
  if p3 = (1 : Int32) then
    some ((z25_now ((19 : Int32)).toNatClampNeg), z25_now, z25_readMany, z25_signedAll, z25_reason)
  else
  some (y5_33, z25_now, z25_readMany, z25_signedAll, z25_reason)
/-- SealStraitModel.image -/
noncomputable def b_Model_image_1 (x2 : Int32) (v_book : Nat → Int32) (x3 : Int32) (v_image : Nat → Int32) : Option ((Int32 × (Nat → Int32)) ⊕ ((Nat → Int32))) :=
  if (21 : Int32) ≤ x3 then
    some (.inr v_image)
  else
  if ix x3 21 = true then
  if ix (x2 + x3) 160 = true then
  some (.inl ((x3 + 1), (upd v_image ((x2 + x3)).toNatClampNeg (v_book (x3).toNatClampNeg))))
  else none
  else none
noncomputable def b_Model_image_2 (x2 : Int32) (v_moults : Nat → Int32) (v_rocks : Nat → Int32) (x3 : Int32) (v_image : Nat → Int32) : Option ((Int32 × (Nat → Int32)) ⊕ ((Nat → Int32))) :=
  if (6 : Int32) ≤ x3 then
    some (.inr v_image)
  else
  if ix x3 6 = true then
  if ix ((x2 + (21 : Int32)) + x3) 160 = true then
  if ix x3 6 = true then
  if ix ((x2 + (27 : Int32)) + x3) 160 = true then
  some (.inl ((x3 + 1), (upd (upd v_image (((x2 + (21 : Int32)) + x3)).toNatClampNeg (v_moults (x3).toNatClampNeg)) (((x2 + (27 : Int32)) + x3)).toNatClampNeg (v_rocks (x3).toNatClampNeg))))
  else none
  else none
  else none
  else none
noncomputable def b_Model_image_3 (x2 : Int32) (v_words : Nat → Int32) (v_clashes : Nat → Int32) (x3 : Int32) (v_image : Nat → Int32) : Option ((Int32 × (Nat → Int32)) ⊕ ((Nat → Int32))) :=
  if (10 : Int32) ≤ x3 then
    some (.inr v_image)
  else
  if ix x3 10 = true then
  if ix ((x2 + (33 : Int32)) + x3) 160 = true then
  if ix x3 10 = true then
  if ix ((x2 + (43 : Int32)) + x3) 160 = true then
  some (.inl ((x3 + 1), (upd (upd v_image (((x2 + (33 : Int32)) + x3)).toNatClampNeg (v_words (x3).toNatClampNeg)) (((x2 + (43 : Int32)) + x3)).toNatClampNeg (v_clashes (x3).toNatClampNeg))))
  else none
  else none
  else none
  else none
noncomputable def b_Model_image_4 (x2 : Int32) (v_count : Nat → Int32) (x3 : Int32) (v_image : Nat → Int32) : Option ((Int32 × (Nat → Int32)) ⊕ ((Nat → Int32))) :=
  if (16 : Int32) ≤ x3 then
    some (.inr v_image)
  else
  if ix x3 16 = true then
  if ix ((x2 + (53 : Int32)) + x3) 160 = true then
  some (.inl ((x3 + 1), (upd v_image (((x2 + (53 : Int32)) + x3)).toNatClampNeg (v_count (x3).toNatClampNeg))))
  else none
  else none
noncomputable def f_Model_image (v_book : Nat → Int32) (v_moults : Nat → Int32) (v_words : Nat → Int32) (v_clashes : Nat → Int32) (v_rocks : Nat → Int32) (v_counts : Int32) (v_count : Nat → Int32) (v_image : Nat → Int32) (v_isKept : Nat → Int32) (p1 : Int32) : Option (Int32 × (Nat → Int32) × (Nat → Int32)) :=
  if (f_Model_in p1 (0 : Int32) (1 : Int32)) = 0 then
    some ((-2 : Int32), v_image, v_isKept)
  else
  (ev (fun s => b_Model_image_1 ((80 : Int32) * p1) v_book s.1 s.2) ((0 : Int32), v_image)).bind fun z7_image =>
  (ev (fun s => b_Model_image_2 ((80 : Int32) * p1) v_moults v_rocks s.1 s.2) ((0 : Int32), z7_image)).bind fun z16_image =>
  (ev (fun s => b_Model_image_3 ((80 : Int32) * p1) v_words v_clashes s.1 s.2) ((0 : Int32), z16_image)).bind fun z25_image =>
  (ev (fun s => b_Model_image_4 ((80 : Int32) * p1) v_count s.1 s.2) ((0 : Int32), z25_image)).bind fun z32_image =>
  if ix (((80 : Int32) * p1) + (70 : Int32)) 160 = true then
  if ix p1 2 = true then
  some ((1 : Int32), (upd z32_image ((((80 : Int32) * p1) + (70 : Int32))).toNatClampNeg v_counts), (upd v_isKept (p1).toNatClampNeg ((1 : Int32) &&& 1)))
  else none
  else none
/-- SealStraitModel.restore -/
noncomputable def b_Model_restore_1 (x2 : Int32) (v_image : Nat → Int32) (x3 : Int32) (v_book : Nat → Int32) : Option ((Int32 × (Nat → Int32)) ⊕ ((Nat → Int32))) :=
  if (21 : Int32) ≤ x3 then
    some (.inr v_book)
  else
  if ix (x2 + x3) 160 = true then
  if ix x3 21 = true then
  some (.inl ((x3 + 1), (upd v_book (x3).toNatClampNeg (v_image ((x2 + x3)).toNatClampNeg))))
  else none
  else none
noncomputable def b_Model_restore_2 (x2 : Int32) (v_image : Nat → Int32) (x3 : Int32) (v_moults : Nat → Int32) (v_rocks : Nat → Int32) : Option ((Int32 × (Nat → Int32) × (Nat → Int32)) ⊕ ((Nat → Int32) × (Nat → Int32))) :=
  if (6 : Int32) ≤ x3 then
    some (.inr (v_moults, v_rocks))
  else
  if ix ((x2 + (21 : Int32)) + x3) 160 = true then
  if ix x3 6 = true then
  if ix ((x2 + (27 : Int32)) + x3) 160 = true then
  if ix x3 6 = true then
  some (.inl ((x3 + 1), (upd v_moults (x3).toNatClampNeg (v_image (((x2 + (21 : Int32)) + x3)).toNatClampNeg)), (upd v_rocks (x3).toNatClampNeg (v_image (((x2 + (27 : Int32)) + x3)).toNatClampNeg))))
  else none
  else none
  else none
  else none
noncomputable def b_Model_restore_3 (x2 : Int32) (v_image : Nat → Int32) (x3 : Int32) (v_words : Nat → Int32) (v_clashes : Nat → Int32) : Option ((Int32 × (Nat → Int32) × (Nat → Int32)) ⊕ ((Nat → Int32) × (Nat → Int32))) :=
  if (10 : Int32) ≤ x3 then
    some (.inr (v_words, v_clashes))
  else
  if ix ((x2 + (33 : Int32)) + x3) 160 = true then
  if ix x3 10 = true then
  if ix ((x2 + (43 : Int32)) + x3) 160 = true then
  if ix x3 10 = true then
  some (.inl ((x3 + 1), (upd v_words (x3).toNatClampNeg (v_image (((x2 + (33 : Int32)) + x3)).toNatClampNeg)), (upd v_clashes (x3).toNatClampNeg (v_image (((x2 + (43 : Int32)) + x3)).toNatClampNeg))))
  else none
  else none
  else none
  else none
noncomputable def b_Model_restore_4 (x2 : Int32) (v_image : Nat → Int32) (x3 : Int32) (v_count : Nat → Int32) : Option ((Int32 × (Nat → Int32)) ⊕ ((Nat → Int32))) :=
  if (16 : Int32) ≤ x3 then
    some (.inr v_count)
  else
  if ix ((x2 + (53 : Int32)) + x3) 160 = true then
  if ix x3 16 = true then
  some (.inl ((x3 + 1), (upd v_count (x3).toNatClampNeg (v_image (((x2 + (53 : Int32)) + x3)).toNatClampNeg))))
  else none
  else none
noncomputable def f_Model_restore (v_book : Nat → Int32) (v_moults : Nat → Int32) (v_words : Nat → Int32) (v_clashes : Nat → Int32) (v_rocks : Nat → Int32) (v_counts : Int32) (v_count : Nat → Int32) (v_image : Nat → Int32) (v_isKept : Nat → Int32) (p1 : Int32) : Option (Int32 × (Nat → Int32) × (Nat → Int32) × (Nat → Int32) × (Nat → Int32) × (Nat → Int32) × Int32 × (Nat → Int32)) :=
  if (f_Model_in p1 (0 : Int32) (1 : Int32)) = 0 then
    some ((-2 : Int32), v_book, v_moults, v_words, v_clashes, v_rocks, v_counts, v_count)
  else
  if ix p1 2 = true then
  if (v_isKept (p1).toNatClampNeg) = 0 then
    some ((-3 : Int32), v_book, v_moults, v_words, v_clashes, v_rocks, v_counts, v_count)
  else
  (ev (fun s => b_Model_restore_1 ((80 : Int32) * p1) v_image s.1 s.2) ((0 : Int32), v_book)).bind fun z9_book =>
  (ev (fun s => b_Model_restore_2 ((80 : Int32) * p1) v_image s.1 s.2.1 s.2.2) ((0 : Int32), v_moults, v_rocks)).bind fun (z18_moults, z18_rocks) =>
  (ev (fun s => b_Model_restore_3 ((80 : Int32) * p1) v_image s.1 s.2.1 s.2.2) ((0 : Int32), v_words, v_clashes)).bind fun (z27_words, z27_clashes) =>
  (ev (fun s => b_Model_restore_4 ((80 : Int32) * p1) v_image s.1 s.2) ((0 : Int32), v_count)).bind fun z34_count =>
  if ix (((80 : Int32) * p1) + (70 : Int32)) 160 = true then
  some ((1 : Int32), z9_book, z18_moults, z27_words, z27_clashes, z18_rocks, (v_image ((((80 : Int32) * p1) + (70 : Int32))).toNatClampNeg), z34_count)
  else none
  else none
/-- SealStraitModel.told -/
noncomputable def f_Model_told (v_book : Nat → Int32) (v_moults : Nat → Int32) (v_words : Nat → Int32) (v_clashes : Nat → Int32) (v_rocks : Nat → Int32) (v_counts : Int32) (v_signs : Int32) (p1 : Int32) : Option (Int32) :=
  if p1 < (100 : Int32) then
    if p1 < (30 : Int32) then
      if p1 < (10 : Int32) then
        if p1 = (0 : Int32) then
          some v_signs
        else
        if p1 = (1 : Int32) then
          some (v_book ((18 : Int32)).toNatClampNeg)
        else
        if p1 = (2 : Int32) then
          some (v_book ((20 : Int32)).toNatClampNeg)
        else
        if p1 = (3 : Int32) then
          some (v_book ((19 : Int32)).toNatClampNeg)
        else
        if p1 = (4 : Int32) then
          some v_counts
        else
        some (-2 : Int32)
      else
      if (20 : Int32) ≤ p1 then
        if ix (p1 - (20 : Int32)) 10 = true then
        some (v_clashes ((p1 - (20 : Int32))).toNatClampNeg)
        else none
      else
      if ix (p1 - (10 : Int32)) 10 = true then
      some (v_words ((p1 - (10 : Int32))).toNatClampNeg)
      else none
    else
    if (f_Model_in p1 (30 : Int32) (35 : Int32)) = 0 then
      some (-2 : Int32)
    else
    if ix (p1 - (30 : Int32)) 6 = true then
    some (v_rocks ((p1 - (30 : Int32))).toNatClampNeg)
    else none
  else
  if (f_Model_isThere v_book ((p1 / (10 : Int32)) - (10 : Int32))) = 0 then
    some (-2 : Int32)
  else
  if (p1 - p1 / (10 : Int32) * (10 : Int32)) ≤ (3 : Int32) then
    if (p1 - p1 / (10 : Int32) * (10 : Int32)) = (3 : Int32) then
      if ix ((p1 / (10 : Int32)) - (10 : Int32)) 6 = true then
      some (v_moults (((p1 / (10 : Int32)) - (10 : Int32))).toNatClampNeg)
      else none
    else
    if ix (((6 : Int32) * (p1 - p1 / (10 : Int32) * (10 : Int32))) + ((p1 / (10 : Int32)) - (10 : Int32))) 21 = true then
    some (v_book ((((6 : Int32) * (p1 - p1 / (10 : Int32) * (10 : Int32))) + ((p1 / (10 : Int32)) - (10 : Int32)))).toNatClampNeg)
    else none
  else
  some (-2 : Int32)
end
section
theorem dJ6_bitCount_0f7a4_0 : decode cJ6_bitCount_0f7a4 0 = .ok (.iload_n 0, 1) := by decide +kernel
theorem dJ6_bitCount_0f7a4_1 : decode cJ6_bitCount_0f7a4 1 = .ok (.iload_n 0, 1) := by decide +kernel
theorem dJ6_bitCount_0f7a4_2 : decode cJ6_bitCount_0f7a4 2 = .ok (.iconst 1, 1) := by decide +kernel
theorem dJ6_bitCount_0f7a4_3 : decode cJ6_bitCount_0f7a4 3 = .ok (.iushr, 1) := by decide +kernel
theorem dJ6_bitCount_0f7a4_4 : decode cJ6_bitCount_0f7a4 4 = .ok (.ldc_w 265, 3) := by decide +kernel
theorem dJ6_bitCount_0f7a4_7 : decode cJ6_bitCount_0f7a4 7 = .ok (.iand, 1) := by decide +kernel
theorem dJ6_bitCount_0f7a4_8 : decode cJ6_bitCount_0f7a4 8 = .ok (.isub, 1) := by decide +kernel
theorem dJ6_bitCount_0f7a4_9 : decode cJ6_bitCount_0f7a4 9 = .ok (.istore_n 0, 1) := by decide +kernel
theorem dJ6_bitCount_0f7a4_10 : decode cJ6_bitCount_0f7a4 10 = .ok (.iload_n 0, 1) := by decide +kernel
theorem dJ6_bitCount_0f7a4_11 : decode cJ6_bitCount_0f7a4 11 = .ok (.ldc_w 266, 3) := by decide +kernel
theorem dJ6_bitCount_0f7a4_14 : decode cJ6_bitCount_0f7a4 14 = .ok (.iand, 1) := by decide +kernel
theorem dJ6_bitCount_0f7a4_15 : decode cJ6_bitCount_0f7a4 15 = .ok (.iload_n 0, 1) := by decide +kernel
theorem dJ6_bitCount_0f7a4_16 : decode cJ6_bitCount_0f7a4 16 = .ok (.iconst 2, 1) := by decide +kernel
theorem dJ6_bitCount_0f7a4_17 : decode cJ6_bitCount_0f7a4 17 = .ok (.iushr, 1) := by decide +kernel
theorem dJ6_bitCount_0f7a4_18 : decode cJ6_bitCount_0f7a4 18 = .ok (.ldc_w 266, 3) := by decide +kernel
theorem dJ6_bitCount_0f7a4_21 : decode cJ6_bitCount_0f7a4 21 = .ok (.iand, 1) := by decide +kernel
theorem dJ6_bitCount_0f7a4_22 : decode cJ6_bitCount_0f7a4 22 = .ok (.iadd, 1) := by decide +kernel
theorem dJ6_bitCount_0f7a4_23 : decode cJ6_bitCount_0f7a4 23 = .ok (.istore_n 0, 1) := by decide +kernel
theorem dJ6_bitCount_0f7a4_24 : decode cJ6_bitCount_0f7a4 24 = .ok (.iload_n 0, 1) := by decide +kernel
theorem dJ6_bitCount_0f7a4_25 : decode cJ6_bitCount_0f7a4 25 = .ok (.iload_n 0, 1) := by decide +kernel
theorem dJ6_bitCount_0f7a4_26 : decode cJ6_bitCount_0f7a4 26 = .ok (.iconst 4, 1) := by decide +kernel
theorem dJ6_bitCount_0f7a4_27 : decode cJ6_bitCount_0f7a4 27 = .ok (.iushr, 1) := by decide +kernel
theorem dJ6_bitCount_0f7a4_28 : decode cJ6_bitCount_0f7a4 28 = .ok (.iadd, 1) := by decide +kernel
theorem dJ6_bitCount_0f7a4_29 : decode cJ6_bitCount_0f7a4 29 = .ok (.ldc_w 267, 3) := by decide +kernel
theorem dJ6_bitCount_0f7a4_32 : decode cJ6_bitCount_0f7a4 32 = .ok (.iand, 1) := by decide +kernel
theorem dJ6_bitCount_0f7a4_33 : decode cJ6_bitCount_0f7a4 33 = .ok (.istore_n 0, 1) := by decide +kernel
theorem dJ6_bitCount_0f7a4_34 : decode cJ6_bitCount_0f7a4 34 = .ok (.iload_n 0, 1) := by decide +kernel
theorem dJ6_bitCount_0f7a4_35 : decode cJ6_bitCount_0f7a4 35 = .ok (.iload_n 0, 1) := by decide +kernel
theorem dJ6_bitCount_0f7a4_36 : decode cJ6_bitCount_0f7a4 36 = .ok (.bipush 8, 2) := by decide +kernel
theorem dJ6_bitCount_0f7a4_38 : decode cJ6_bitCount_0f7a4 38 = .ok (.iushr, 1) := by decide +kernel
theorem dJ6_bitCount_0f7a4_39 : decode cJ6_bitCount_0f7a4 39 = .ok (.iadd, 1) := by decide +kernel
theorem dJ6_bitCount_0f7a4_40 : decode cJ6_bitCount_0f7a4 40 = .ok (.istore_n 0, 1) := by decide +kernel
theorem dJ6_bitCount_0f7a4_41 : decode cJ6_bitCount_0f7a4 41 = .ok (.iload_n 0, 1) := by decide +kernel
theorem dJ6_bitCount_0f7a4_42 : decode cJ6_bitCount_0f7a4 42 = .ok (.iload_n 0, 1) := by decide +kernel
theorem dJ6_bitCount_0f7a4_43 : decode cJ6_bitCount_0f7a4 43 = .ok (.bipush 16, 2) := by decide +kernel
theorem dJ6_bitCount_0f7a4_45 : decode cJ6_bitCount_0f7a4 45 = .ok (.iushr, 1) := by decide +kernel
theorem dJ6_bitCount_0f7a4_46 : decode cJ6_bitCount_0f7a4 46 = .ok (.iadd, 1) := by decide +kernel
theorem dJ6_bitCount_0f7a4_47 : decode cJ6_bitCount_0f7a4 47 = .ok (.istore_n 0, 1) := by decide +kernel
theorem dJ6_bitCount_0f7a4_48 : decode cJ6_bitCount_0f7a4 48 = .ok (.iload_n 0, 1) := by decide +kernel
theorem dJ6_bitCount_0f7a4_49 : decode cJ6_bitCount_0f7a4 49 = .ok (.bipush 63, 2) := by decide +kernel
theorem dJ6_bitCount_0f7a4_51 : decode cJ6_bitCount_0f7a4 51 = .ok (.iand, 1) := by decide +kernel
theorem dJ6_bitCount_0f7a4_52 : decode cJ6_bitCount_0f7a4 52 = .ok (.ireturn, 1) := by decide +kernel
theorem dJ7_fill_53178_0 : decode cJ7_fill_53178 0 = .ok (.iconst 0, 1) := by decide +kernel
theorem dJ7_fill_53178_1 : decode cJ7_fill_53178 1 = .ok (.istore_n 2, 1) := by decide +kernel
theorem dJ7_fill_53178_2 : decode cJ7_fill_53178 2 = .ok (.aload_n 0, 1) := by decide +kernel
theorem dJ7_fill_53178_3 : decode cJ7_fill_53178 3 = .ok (.arraylength, 1) := by decide +kernel
theorem dJ7_fill_53178_4 : decode cJ7_fill_53178 4 = .ok (.istore_n 3, 1) := by decide +kernel
theorem dJ7_fill_53178_5 : decode cJ7_fill_53178 5 = .ok (.iload_n 2, 1) := by decide +kernel
theorem dJ7_fill_53178_6 : decode cJ7_fill_53178 6 = .ok (.iload_n 3, 1) := by decide +kernel
theorem dJ7_fill_53178_7 : decode cJ7_fill_53178 7 = .ok (.if_icmp .ge 13, 3) := by decide +kernel
theorem dJ7_fill_53178_10 : decode cJ7_fill_53178 10 = .ok (.aload_n 0, 1) := by decide +kernel
theorem dJ7_fill_53178_11 : decode cJ7_fill_53178 11 = .ok (.iload_n 2, 1) := by decide +kernel
theorem dJ7_fill_53178_12 : decode cJ7_fill_53178 12 = .ok (.iload_n 1, 1) := by decide +kernel
theorem dJ7_fill_53178_13 : decode cJ7_fill_53178 13 = .ok (.iastore, 1) := by decide +kernel
theorem dJ7_fill_53178_14 : decode cJ7_fill_53178 14 = .ok (.iinc 2 1, 3) := by decide +kernel
theorem dJ7_fill_53178_17 : decode cJ7_fill_53178 17 = .ok (.goto (-12), 3) := by decide +kernel
theorem dJ7_fill_53178_20 : decode cJ7_fill_53178 20 = .ok (.return_, 1) := by decide +kernel
theorem dX0_init_0 : decode cX0_init 0 = .ok (.aload_n 0, 1) := by decide +kernel
theorem dX0_init_1 : decode cX0_init 1 = .ok (.invokespecial 3, 3) := by decide +kernel
theorem dX0_init_4 : decode cX0_init 4 = .ok (.return_, 1) := by decide +kernel
theorem dX0_set_0 : decode cX0_set 0 = .ok (.aload_n 0, 1) := by decide +kernel
theorem dX0_set_1 : decode cX0_set 1 = .ok (.iload_n 1, 1) := by decide +kernel
theorem dX0_set_2 : decode cX0_set 2 = .ok (.putfield 9, 3) := by decide +kernel
theorem dX0_set_5 : decode cX0_set 5 = .ok (.aload_n 0, 1) := by decide +kernel
theorem dX0_set_6 : decode cX0_set 6 = .ok (.iload_n 2, 1) := by decide +kernel
theorem dX0_set_7 : decode cX0_set 7 = .ok (.putfield 15, 3) := by decide +kernel
theorem dX0_set_10 : decode cX0_set 10 = .ok (.aload_n 0, 1) := by decide +kernel
theorem dX0_set_11 : decode cX0_set 11 = .ok (.iload_n 3, 1) := by decide +kernel
theorem dX0_set_12 : decode cX0_set 12 = .ok (.putfield 18, 3) := by decide +kernel
theorem dX0_set_15 : decode cX0_set 15 = .ok (.return_, 1) := by decide +kernel
set_option maxRecDepth 20000 in
theorem ggX0_takeFrom_X7_signAt : GoodIn wsX0_takeFrom wsX7_signAt := goodIn_r _ [5, 6, 7, 22, 23] (by decide +kernel) (by decide +kernel)
set_option maxRecDepth 20000 in
theorem gX0_takeFrom_X7_signAt : GoodIn wsX0_takeFrom (wsV RX0 21 RX7 yX7_signAt wsX7_signAt) := goodIn_app (goodIn_of _ (by decide +kernel)) ggX0_takeFrom_X7_signAt
set_option maxRecDepth 20000 in
theorem ggX0_takeFrom_X7_isHerd : GoodIn wsX0_takeFrom wsX7_isHerd := goodIn_r _ [10, 11, 12, 13] (by decide +kernel) (by decide +kernel)
set_option maxRecDepth 20000 in
theorem gX0_takeFrom_X7_isHerd : GoodIn wsX0_takeFrom (va_wsS RX0 27 yX7_isHerd wsX7_isHerd) := goodIn_app (goodIn_of _ (by decide +kernel)) ggX0_takeFrom_X7_isHerd
set_option maxRecDepth 20000 in
theorem ggX0_takeFrom_X0_set : GoodIn wsX0_takeFrom wsX0_set := goodIn_r _ [18, 19, 20, 21, 24, 25, 26] (by decide +kernel) (by decide +kernel)
set_option maxRecDepth 20000 in
theorem gX0_takeFrom_X0_set : GoodIn wsX0_takeFrom (wsV RX0 31 RX0 yX0_set wsX0_set) := goodIn_app (goodIn_of _ (by decide +kernel)) ggX0_takeFrom_X0_set
theorem dX0_takeFrom_0 : decode cX0_takeFrom 0 = .ok (.aload_n 1, 1) := by decide +kernel
theorem dX0_takeFrom_1 : decode cX0_takeFrom 1 = .ok (.iload_n 2, 1) := by decide +kernel
theorem dX0_takeFrom_2 : decode cX0_takeFrom 2 = .ok (.invokevirtual 21, 3) := by decide +kernel
theorem dX0_takeFrom_5 : decode cX0_takeFrom 5 = .ok (.istore_n 3, 1) := by decide +kernel
theorem dX0_takeFrom_6 : decode cX0_takeFrom 6 = .ok (.iload_n 3, 1) := by decide +kernel
theorem dX0_takeFrom_7 : decode cX0_takeFrom 7 = .ok (.invokestatic 27, 3) := by decide +kernel
theorem dX0_takeFrom_10 : decode cX0_takeFrom 10 = .ok (.ifCond .ne 25, 3) := by decide +kernel
theorem dX0_takeFrom_13 : decode cX0_takeFrom 13 = .ok (.aload_n 0, 1) := by decide +kernel
theorem dX0_takeFrom_14 : decode cX0_takeFrom 14 = .ok (.iload_n 3, 1) := by decide +kernel
theorem dX0_takeFrom_15 : decode cX0_takeFrom 15 = .ok (.bipush 46, 2) := by decide +kernel
theorem dX0_takeFrom_17 : decode cX0_takeFrom 17 = .ok (.if_icmp .ne 7, 3) := by decide +kernel
theorem dX0_takeFrom_20 : decode cX0_takeFrom 20 = .ok (.iconst 4, 1) := by decide +kernel
theorem dX0_takeFrom_21 : decode cX0_takeFrom 21 = .ok (.goto 4, 3) := by decide +kernel
theorem dX0_takeFrom_24 : decode cX0_takeFrom 24 = .ok (.iconst 0, 1) := by decide +kernel
theorem dX0_takeFrom_25 : decode cX0_takeFrom 25 = .ok (.iload_n 3, 1) := by decide +kernel
theorem dX0_takeFrom_26 : decode cX0_takeFrom 26 = .ok (.bipush 97, 2) := by decide +kernel
theorem dX0_takeFrom_28 : decode cX0_takeFrom 28 = .ok (.isub, 1) := by decide +kernel
theorem dX0_takeFrom_29 : decode cX0_takeFrom 29 = .ok (.iconst 0, 1) := by decide +kernel
theorem dX0_takeFrom_30 : decode cX0_takeFrom 30 = .ok (.invokevirtual 31, 3) := by decide +kernel
theorem dX0_takeFrom_33 : decode cX0_takeFrom 33 = .ok (.iconst 1, 1) := by decide +kernel
theorem dX0_takeFrom_34 : decode cX0_takeFrom 34 = .ok (.ireturn, 1) := by decide +kernel
theorem dX0_takeFrom_35 : decode cX0_takeFrom 35 = .ok (.aload_n 1, 1) := by decide +kernel
theorem dX0_takeFrom_36 : decode cX0_takeFrom 36 = .ok (.iload_n 2, 1) := by decide +kernel
theorem dX0_takeFrom_37 : decode cX0_takeFrom 37 = .ok (.iconst 1, 1) := by decide +kernel
theorem dX0_takeFrom_38 : decode cX0_takeFrom 38 = .ok (.iadd, 1) := by decide +kernel
theorem dX0_takeFrom_39 : decode cX0_takeFrom 39 = .ok (.invokevirtual 21, 3) := by decide +kernel
theorem dX0_takeFrom_42 : decode cX0_takeFrom 42 = .ok (.istore 4, 2) := by decide +kernel
theorem dX0_takeFrom_44 : decode cX0_takeFrom 44 = .ok (.iload 4, 2) := by decide +kernel
theorem dX0_takeFrom_46 : decode cX0_takeFrom 46 = .ok (.bipush 38, 2) := by decide +kernel
theorem dX0_takeFrom_48 : decode cX0_takeFrom 48 = .ok (.if_icmp .ne 24, 3) := by decide +kernel
theorem dX0_takeFrom_51 : decode cX0_takeFrom 51 = .ok (.aload_n 0, 1) := by decide +kernel
theorem dX0_takeFrom_52 : decode cX0_takeFrom 52 = .ok (.iconst 3, 1) := by decide +kernel
theorem dX0_takeFrom_53 : decode cX0_takeFrom 53 = .ok (.iload_n 3, 1) := by decide +kernel
theorem dX0_takeFrom_54 : decode cX0_takeFrom 54 = .ok (.bipush 65, 2) := by decide +kernel
theorem dX0_takeFrom_56 : decode cX0_takeFrom 56 = .ok (.isub, 1) := by decide +kernel
theorem dX0_takeFrom_57 : decode cX0_takeFrom 57 = .ok (.aload_n 1, 1) := by decide +kernel
theorem dX0_takeFrom_58 : decode cX0_takeFrom 58 = .ok (.iload_n 2, 1) := by decide +kernel
theorem dX0_takeFrom_59 : decode cX0_takeFrom 59 = .ok (.iconst 2, 1) := by decide +kernel
theorem dX0_takeFrom_60 : decode cX0_takeFrom 60 = .ok (.iadd, 1) := by decide +kernel
theorem dX0_takeFrom_61 : decode cX0_takeFrom 61 = .ok (.invokevirtual 21, 3) := by decide +kernel
theorem dX0_takeFrom_64 : decode cX0_takeFrom 64 = .ok (.bipush 65, 2) := by decide +kernel
theorem dX0_takeFrom_66 : decode cX0_takeFrom 66 = .ok (.isub, 1) := by decide +kernel
theorem dX0_takeFrom_67 : decode cX0_takeFrom 67 = .ok (.invokevirtual 31, 3) := by decide +kernel
theorem dX0_takeFrom_70 : decode cX0_takeFrom 70 = .ok (.iconst 3, 1) := by decide +kernel
theorem dX0_takeFrom_71 : decode cX0_takeFrom 71 = .ok (.ireturn, 1) := by decide +kernel
theorem dX0_takeFrom_72 : decode cX0_takeFrom 72 = .ok (.aload_n 0, 1) := by decide +kernel
theorem dX0_takeFrom_73 : decode cX0_takeFrom 73 = .ok (.iload 4, 2) := by decide +kernel
theorem dX0_takeFrom_75 : decode cX0_takeFrom 75 = .ok (.bipush 63, 2) := by decide +kernel
theorem dX0_takeFrom_77 : decode cX0_takeFrom 77 = .ok (.if_icmp .ne 7, 3) := by decide +kernel
theorem dX0_takeFrom_80 : decode cX0_takeFrom 80 = .ok (.iconst 1, 1) := by decide +kernel
theorem dX0_takeFrom_81 : decode cX0_takeFrom 81 = .ok (.goto 4, 3) := by decide +kernel
theorem dX0_takeFrom_84 : decode cX0_takeFrom 84 = .ok (.iconst 2, 1) := by decide +kernel
theorem dX0_takeFrom_85 : decode cX0_takeFrom 85 = .ok (.iload_n 3, 1) := by decide +kernel
theorem dX0_takeFrom_86 : decode cX0_takeFrom 86 = .ok (.bipush 65, 2) := by decide +kernel
theorem dX0_takeFrom_88 : decode cX0_takeFrom 88 = .ok (.isub, 1) := by decide +kernel
theorem dX0_takeFrom_89 : decode cX0_takeFrom 89 = .ok (.iconst 0, 1) := by decide +kernel
theorem dX0_takeFrom_90 : decode cX0_takeFrom 90 = .ok (.invokevirtual 31, 3) := by decide +kernel
theorem dX0_takeFrom_93 : decode cX0_takeFrom 93 = .ok (.iconst 2, 1) := by decide +kernel
theorem dX0_takeFrom_94 : decode cX0_takeFrom 94 = .ok (.ireturn, 1) := by decide +kernel
set_option maxRecDepth 20000 in
theorem ggX0_draw_X0_set : GoodIn wsX0_draw wsX0_set := goodIn_r _ [5, 6, 7, 8, 9, 10, 11] (by decide +kernel) (by decide +kernel)
set_option maxRecDepth 20000 in
theorem gX0_draw_X0_set : GoodIn wsX0_draw (wsV RX0 31 RX0 yX0_set wsX0_set) := goodIn_app (goodIn_of _ (by decide +kernel)) ggX0_draw_X0_set
theorem dX0_draw_0 : decode cX0_draw 0 = .ok (.iload_n 1, 1) := by decide +kernel
theorem dX0_draw_1 : decode cX0_draw 1 = .ok (.bipush 8, 2) := by decide +kernel
theorem dX0_draw_3 : decode cX0_draw 3 = .ok (.idiv, 1) := by decide +kernel
theorem dX0_draw_4 : decode cX0_draw 4 = .ok (.istore_n 2, 1) := by decide +kernel
theorem dX0_draw_5 : decode cX0_draw 5 = .ok (.iload_n 1, 1) := by decide +kernel
theorem dX0_draw_6 : decode cX0_draw 6 = .ok (.bipush 8, 2) := by decide +kernel
theorem dX0_draw_8 : decode cX0_draw 8 = .ok (.irem, 1) := by decide +kernel
theorem dX0_draw_9 : decode cX0_draw 9 = .ok (.tableswitch 86 4 7 #[31, 44, 57, 76], 31) := by decide +kernel
theorem dX0_draw_40 : decode cX0_draw 40 = .ok (.aload_n 0, 1) := by decide +kernel
theorem dX0_draw_41 : decode cX0_draw 41 = .ok (.iconst 1, 1) := by decide +kernel
theorem dX0_draw_42 : decode cX0_draw 42 = .ok (.iload_n 2, 1) := by decide +kernel
theorem dX0_draw_43 : decode cX0_draw 43 = .ok (.bipush 6, 2) := by decide +kernel
theorem dX0_draw_45 : decode cX0_draw 45 = .ok (.irem, 1) := by decide +kernel
theorem dX0_draw_46 : decode cX0_draw 46 = .ok (.iconst 0, 1) := by decide +kernel
theorem dX0_draw_47 : decode cX0_draw 47 = .ok (.invokevirtual 31, 3) := by decide +kernel
theorem dX0_draw_50 : decode cX0_draw 50 = .ok (.goto 55, 3) := by decide +kernel
theorem dX0_draw_53 : decode cX0_draw 53 = .ok (.aload_n 0, 1) := by decide +kernel
theorem dX0_draw_54 : decode cX0_draw 54 = .ok (.iconst 2, 1) := by decide +kernel
theorem dX0_draw_55 : decode cX0_draw 55 = .ok (.iload_n 2, 1) := by decide +kernel
theorem dX0_draw_56 : decode cX0_draw 56 = .ok (.bipush 6, 2) := by decide +kernel
theorem dX0_draw_58 : decode cX0_draw 58 = .ok (.irem, 1) := by decide +kernel
theorem dX0_draw_59 : decode cX0_draw 59 = .ok (.iconst 0, 1) := by decide +kernel
theorem dX0_draw_60 : decode cX0_draw 60 = .ok (.invokevirtual 31, 3) := by decide +kernel
theorem dX0_draw_63 : decode cX0_draw 63 = .ok (.goto 42, 3) := by decide +kernel
theorem dX0_draw_66 : decode cX0_draw 66 = .ok (.aload_n 0, 1) := by decide +kernel
theorem dX0_draw_67 : decode cX0_draw 67 = .ok (.iconst 3, 1) := by decide +kernel
theorem dX0_draw_68 : decode cX0_draw 68 = .ok (.iload_n 2, 1) := by decide +kernel
theorem dX0_draw_69 : decode cX0_draw 69 = .ok (.bipush 6, 2) := by decide +kernel
theorem dX0_draw_71 : decode cX0_draw 71 = .ok (.irem, 1) := by decide +kernel
theorem dX0_draw_72 : decode cX0_draw 72 = .ok (.iload_n 2, 1) := by decide +kernel
theorem dX0_draw_73 : decode cX0_draw 73 = .ok (.bipush 6, 2) := by decide +kernel
theorem dX0_draw_75 : decode cX0_draw 75 = .ok (.idiv, 1) := by decide +kernel
theorem dX0_draw_76 : decode cX0_draw 76 = .ok (.bipush 6, 2) := by decide +kernel
theorem dX0_draw_78 : decode cX0_draw 78 = .ok (.irem, 1) := by decide +kernel
theorem dX0_draw_79 : decode cX0_draw 79 = .ok (.invokevirtual 31, 3) := by decide +kernel
theorem dX0_draw_82 : decode cX0_draw 82 = .ok (.goto 23, 3) := by decide +kernel
theorem dX0_draw_85 : decode cX0_draw 85 = .ok (.aload_n 0, 1) := by decide +kernel
theorem dX0_draw_86 : decode cX0_draw 86 = .ok (.iconst 4, 1) := by decide +kernel
theorem dX0_draw_87 : decode cX0_draw 87 = .ok (.iconst 0, 1) := by decide +kernel
theorem dX0_draw_88 : decode cX0_draw 88 = .ok (.iconst 0, 1) := by decide +kernel
theorem dX0_draw_89 : decode cX0_draw 89 = .ok (.invokevirtual 31, 3) := by decide +kernel
theorem dX0_draw_92 : decode cX0_draw 92 = .ok (.goto 13, 3) := by decide +kernel
theorem dX0_draw_95 : decode cX0_draw 95 = .ok (.aload_n 0, 1) := by decide +kernel
theorem dX0_draw_96 : decode cX0_draw 96 = .ok (.iconst 0, 1) := by decide +kernel
theorem dX0_draw_97 : decode cX0_draw 97 = .ok (.iload_n 2, 1) := by decide +kernel
theorem dX0_draw_98 : decode cX0_draw 98 = .ok (.bipush 10, 2) := by decide +kernel
theorem dX0_draw_100 : decode cX0_draw 100 = .ok (.irem, 1) := by decide +kernel
theorem dX0_draw_101 : decode cX0_draw 101 = .ok (.iconst 0, 1) := by decide +kernel
theorem dX0_draw_102 : decode cX0_draw 102 = .ok (.invokevirtual 31, 3) := by decide +kernel
theorem dX0_draw_105 : decode cX0_draw 105 = .ok (.return_, 1) := by decide +kernel
theorem dX7_init_0 : decode cX7_init 0 = .ok (.aload_n 0, 1) := by decide +kernel
theorem dX7_init_1 : decode cX7_init 1 = .ok (.invokespecial 3, 3) := by decide +kernel
theorem dX7_init_4 : decode cX7_init 4 = .ok (.aload_n 0, 1) := by decide +kernel
theorem dX7_init_5 : decode cX7_init 5 = .ok (.bipush 60, 2) := by decide +kernel
theorem dX7_init_7 : decode cX7_init 7 = .ok (.newarray .int, 2) := by decide +kernel
theorem dX7_init_9 : decode cX7_init 9 = .ok (.putfield 11, 3) := by decide +kernel
theorem dX7_init_12 : decode cX7_init 12 = .ok (.return_, 1) := by decide +kernel
theorem dX7_write_0 : decode cX7_write 0 = .ok (.aload_n 0, 1) := by decide +kernel
theorem dX7_write_1 : decode cX7_write 1 = .ok (.getfield 15, 3) := by decide +kernel
theorem dX7_write_4 : decode cX7_write 4 = .ok (.bipush 60, 2) := by decide +kernel
theorem dX7_write_6 : decode cX7_write 6 = .ok (.if_icmp .lt 5, 3) := by decide +kernel
theorem dX7_write_9 : decode cX7_write 9 = .ok (.iconst 0, 1) := by decide +kernel
theorem dX7_write_10 : decode cX7_write 10 = .ok (.ireturn, 1) := by decide +kernel
theorem dX7_write_11 : decode cX7_write 11 = .ok (.aload_n 0, 1) := by decide +kernel
theorem dX7_write_12 : decode cX7_write 12 = .ok (.getfield 11, 3) := by decide +kernel
theorem dX7_write_15 : decode cX7_write 15 = .ok (.aload_n 0, 1) := by decide +kernel
theorem dX7_write_16 : decode cX7_write 16 = .ok (.getfield 15, 3) := by decide +kernel
theorem dX7_write_19 : decode cX7_write 19 = .ok (.iload_n 1, 1) := by decide +kernel
theorem dX7_write_20 : decode cX7_write 20 = .ok (.iastore, 1) := by decide +kernel
theorem dX7_write_21 : decode cX7_write 21 = .ok (.aload_n 0, 1) := by decide +kernel
theorem dX7_write_22 : decode cX7_write 22 = .ok (.dup, 1) := by decide +kernel
theorem dX7_write_23 : decode cX7_write 23 = .ok (.getfield 15, 3) := by decide +kernel
theorem dX7_write_26 : decode cX7_write 26 = .ok (.iconst 1, 1) := by decide +kernel
theorem dX7_write_27 : decode cX7_write 27 = .ok (.iadd, 1) := by decide +kernel
theorem dX7_write_28 : decode cX7_write 28 = .ok (.putfield 15, 3) := by decide +kernel
theorem dX7_write_31 : decode cX7_write 31 = .ok (.iconst 1, 1) := by decide +kernel
theorem dX7_write_32 : decode cX7_write 32 = .ok (.ireturn, 1) := by decide +kernel
theorem dX7_signAt_0 : decode cX7_signAt 0 = .ok (.iload_n 1, 1) := by decide +kernel
theorem dX7_signAt_1 : decode cX7_signAt 1 = .ok (.ifCond .lt 26, 3) := by decide +kernel
theorem dX7_signAt_4 : decode cX7_signAt 4 = .ok (.iload_n 1, 1) := by decide +kernel
theorem dX7_signAt_5 : decode cX7_signAt 5 = .ok (.aload_n 0, 1) := by decide +kernel
theorem dX7_signAt_6 : decode cX7_signAt 6 = .ok (.getfield 15, 3) := by decide +kernel
theorem dX7_signAt_9 : decode cX7_signAt 9 = .ok (.if_icmp .ge 18, 3) := by decide +kernel
theorem dX7_signAt_12 : decode cX7_signAt 12 = .ok (.iload_n 1, 1) := by decide +kernel
theorem dX7_signAt_13 : decode cX7_signAt 13 = .ok (.bipush 60, 2) := by decide +kernel
theorem dX7_signAt_15 : decode cX7_signAt 15 = .ok (.if_icmp .ge 12, 3) := by decide +kernel
theorem dX7_signAt_18 : decode cX7_signAt 18 = .ok (.aload_n 0, 1) := by decide +kernel
theorem dX7_signAt_19 : decode cX7_signAt 19 = .ok (.getfield 11, 3) := by decide +kernel
theorem dX7_signAt_22 : decode cX7_signAt 22 = .ok (.iload_n 1, 1) := by decide +kernel
theorem dX7_signAt_23 : decode cX7_signAt 23 = .ok (.iaload, 1) := by decide +kernel
theorem dX7_signAt_24 : decode cX7_signAt 24 = .ok (.goto 4, 3) := by decide +kernel
theorem dX7_signAt_27 : decode cX7_signAt 27 = .ok (.iconst 0, 1) := by decide +kernel
theorem dX7_signAt_28 : decode cX7_signAt 28 = .ok (.ireturn, 1) := by decide +kernel
set_option maxRecDepth 20000 in
theorem ggX7_faultPlace_X7_awaitedBehind : GoodIn wsX7_faultPlace wsX7_awaitedBehind := goodIn_r _ [6, 7, 8, 5, 9, 10, 11, 12, 13, 14, 15] (by decide +kernel) (by decide +kernel)
set_option maxRecDepth 20000 in
theorem gX7_faultPlace_X7_awaitedBehind : GoodIn wsX7_faultPlace (va_wsS RX7 19 yX7_awaitedBehind wsX7_awaitedBehind) := goodIn_app (goodIn_of _ (by decide +kernel)) ggX7_faultPlace_X7_awaitedBehind
theorem dX7_faultPlace_0 : decode cX7_faultPlace 0 = .ok (.iconst 0, 1) := by decide +kernel
theorem dX7_faultPlace_1 : decode cX7_faultPlace 1 = .ok (.istore_n 1, 1) := by decide +kernel
theorem dX7_faultPlace_2 : decode cX7_faultPlace 2 = .ok (.iconst 0, 1) := by decide +kernel
theorem dX7_faultPlace_3 : decode cX7_faultPlace 3 = .ok (.istore_n 2, 1) := by decide +kernel
theorem dX7_faultPlace_4 : decode cX7_faultPlace 4 = .ok (.iload_n 2, 1) := by decide +kernel
theorem dX7_faultPlace_5 : decode cX7_faultPlace 5 = .ok (.aload_n 0, 1) := by decide +kernel
theorem dX7_faultPlace_6 : decode cX7_faultPlace 6 = .ok (.getfield 15, 3) := by decide +kernel
theorem dX7_faultPlace_9 : decode cX7_faultPlace 9 = .ok (.if_icmp .ge 33, 3) := by decide +kernel
theorem dX7_faultPlace_12 : decode cX7_faultPlace 12 = .ok (.iload_n 2, 1) := by decide +kernel
theorem dX7_faultPlace_13 : decode cX7_faultPlace 13 = .ok (.bipush 60, 2) := by decide +kernel
theorem dX7_faultPlace_15 : decode cX7_faultPlace 15 = .ok (.if_icmp .ge 27, 3) := by decide +kernel
theorem dX7_faultPlace_18 : decode cX7_faultPlace 18 = .ok (.iload_n 1, 1) := by decide +kernel
theorem dX7_faultPlace_19 : decode cX7_faultPlace 19 = .ok (.aload_n 0, 1) := by decide +kernel
theorem dX7_faultPlace_20 : decode cX7_faultPlace 20 = .ok (.getfield 11, 3) := by decide +kernel
theorem dX7_faultPlace_23 : decode cX7_faultPlace 23 = .ok (.iload_n 2, 1) := by decide +kernel
theorem dX7_faultPlace_24 : decode cX7_faultPlace 24 = .ok (.iaload, 1) := by decide +kernel
theorem dX7_faultPlace_25 : decode cX7_faultPlace 25 = .ok (.invokestatic 19, 3) := by decide +kernel
theorem dX7_faultPlace_28 : decode cX7_faultPlace 28 = .ok (.istore_n 1, 1) := by decide +kernel
theorem dX7_faultPlace_29 : decode cX7_faultPlace 29 = .ok (.iload_n 1, 1) := by decide +kernel
theorem dX7_faultPlace_30 : decode cX7_faultPlace 30 = .ok (.iconst 3, 1) := by decide +kernel
theorem dX7_faultPlace_31 : decode cX7_faultPlace 31 = .ok (.if_icmp .ne 5, 3) := by decide +kernel
theorem dX7_faultPlace_34 : decode cX7_faultPlace 34 = .ok (.iload_n 2, 1) := by decide +kernel
theorem dX7_faultPlace_35 : decode cX7_faultPlace 35 = .ok (.ireturn, 1) := by decide +kernel
theorem dX7_faultPlace_36 : decode cX7_faultPlace 36 = .ok (.iinc 2 1, 3) := by decide +kernel
theorem dX7_faultPlace_39 : decode cX7_faultPlace 39 = .ok (.goto (-35), 3) := by decide +kernel
theorem dX7_faultPlace_42 : decode cX7_faultPlace 42 = .ok (.iload_n 1, 1) := by decide +kernel
theorem dX7_faultPlace_43 : decode cX7_faultPlace 43 = .ok (.ifCond .ne 8, 3) := by decide +kernel
theorem dX7_faultPlace_46 : decode cX7_faultPlace 46 = .ok (.bipush (-6), 2) := by decide +kernel
theorem dX7_faultPlace_48 : decode cX7_faultPlace 48 = .ok (.goto 7, 3) := by decide +kernel
theorem dX7_faultPlace_51 : decode cX7_faultPlace 51 = .ok (.aload_n 0, 1) := by decide +kernel
theorem dX7_faultPlace_52 : decode cX7_faultPlace 52 = .ok (.getfield 15, 3) := by decide +kernel
theorem dX7_faultPlace_55 : decode cX7_faultPlace 55 = .ok (.ireturn, 1) := by decide +kernel
set_option maxRecDepth 20000 in
theorem ggX7_awaitedBehind_X7_isHerd : GoodIn wsX7_awaitedBehind wsX7_isHerd := goodIn_r _ [4, 5, 6, 7] (by decide +kernel) (by decide +kernel)
set_option maxRecDepth 20000 in
theorem gX7_awaitedBehind_X7_isHerd : GoodIn wsX7_awaitedBehind (va_wsS RX7 23 yX7_isHerd wsX7_isHerd) := goodIn_app (goodIn_of _ (by decide +kernel)) ggX7_awaitedBehind_X7_isHerd
set_option maxRecDepth 20000 in
theorem ggX7_awaitedBehind_X7_isClause : GoodIn wsX7_awaitedBehind wsX7_isClause := goodIn_r _ [10, 5, 6, 7] (by decide +kernel) (by decide +kernel)
set_option maxRecDepth 20000 in
theorem gX7_awaitedBehind_X7_isClause : GoodIn wsX7_awaitedBehind (va_wsS RX7 27 yX7_isClause wsX7_isClause) := goodIn_app (goodIn_of _ (by decide +kernel)) ggX7_awaitedBehind_X7_isClause
theorem dX7_awaitedBehind_0 : decode cX7_awaitedBehind 0 = .ok (.iload_n 0, 1) := by decide +kernel
theorem dX7_awaitedBehind_1 : decode cX7_awaitedBehind 1 = .ok (.ifCond .ne 31, 3) := by decide +kernel
theorem dX7_awaitedBehind_4 : decode cX7_awaitedBehind 4 = .ok (.iload_n 1, 1) := by decide +kernel
theorem dX7_awaitedBehind_5 : decode cX7_awaitedBehind 5 = .ok (.invokestatic 23, 3) := by decide +kernel
theorem dX7_awaitedBehind_8 : decode cX7_awaitedBehind 8 = .ok (.ifCond .eq 5, 3) := by decide +kernel
theorem dX7_awaitedBehind_11 : decode cX7_awaitedBehind 11 = .ok (.iconst 1, 1) := by decide +kernel
theorem dX7_awaitedBehind_12 : decode cX7_awaitedBehind 12 = .ok (.ireturn, 1) := by decide +kernel
theorem dX7_awaitedBehind_13 : decode cX7_awaitedBehind 13 = .ok (.iload_n 1, 1) := by decide +kernel
theorem dX7_awaitedBehind_14 : decode cX7_awaitedBehind 14 = .ok (.invokestatic 27, 3) := by decide +kernel
theorem dX7_awaitedBehind_17 : decode cX7_awaitedBehind 17 = .ok (.ifCond .ne 9, 3) := by decide +kernel
theorem dX7_awaitedBehind_20 : decode cX7_awaitedBehind 20 = .ok (.iload_n 1, 1) := by decide +kernel
theorem dX7_awaitedBehind_21 : decode cX7_awaitedBehind 21 = .ok (.bipush 46, 2) := by decide +kernel
theorem dX7_awaitedBehind_23 : decode cX7_awaitedBehind 23 = .ok (.if_icmp .ne 7, 3) := by decide +kernel
theorem dX7_awaitedBehind_26 : decode cX7_awaitedBehind 26 = .ok (.iconst 0, 1) := by decide +kernel
theorem dX7_awaitedBehind_27 : decode cX7_awaitedBehind 27 = .ok (.goto 4, 3) := by decide +kernel
theorem dX7_awaitedBehind_30 : decode cX7_awaitedBehind 30 = .ok (.iconst 3, 1) := by decide +kernel
theorem dX7_awaitedBehind_31 : decode cX7_awaitedBehind 31 = .ok (.ireturn, 1) := by decide +kernel
theorem dX7_awaitedBehind_32 : decode cX7_awaitedBehind 32 = .ok (.iload_n 0, 1) := by decide +kernel
theorem dX7_awaitedBehind_33 : decode cX7_awaitedBehind 33 = .ok (.iconst 1, 1) := by decide +kernel
theorem dX7_awaitedBehind_34 : decode cX7_awaitedBehind 34 = .ok (.if_icmp .ne 29, 3) := by decide +kernel
theorem dX7_awaitedBehind_37 : decode cX7_awaitedBehind 37 = .ok (.iload_n 1, 1) := by decide +kernel
theorem dX7_awaitedBehind_38 : decode cX7_awaitedBehind 38 = .ok (.bipush 38, 2) := by decide +kernel
theorem dX7_awaitedBehind_40 : decode cX7_awaitedBehind 40 = .ok (.if_icmp .ne 5, 3) := by decide +kernel
theorem dX7_awaitedBehind_43 : decode cX7_awaitedBehind 43 = .ok (.iconst 2, 1) := by decide +kernel
theorem dX7_awaitedBehind_44 : decode cX7_awaitedBehind 44 = .ok (.ireturn, 1) := by decide +kernel
theorem dX7_awaitedBehind_45 : decode cX7_awaitedBehind 45 = .ok (.iload_n 1, 1) := by decide +kernel
theorem dX7_awaitedBehind_46 : decode cX7_awaitedBehind 46 = .ok (.bipush 63, 2) := by decide +kernel
theorem dX7_awaitedBehind_48 : decode cX7_awaitedBehind 48 = .ok (.if_icmp .eq 9, 3) := by decide +kernel
theorem dX7_awaitedBehind_51 : decode cX7_awaitedBehind 51 = .ok (.iload_n 1, 1) := by decide +kernel
theorem dX7_awaitedBehind_52 : decode cX7_awaitedBehind 52 = .ok (.bipush 33, 2) := by decide +kernel
theorem dX7_awaitedBehind_54 : decode cX7_awaitedBehind 54 = .ok (.if_icmp .ne 7, 3) := by decide +kernel
theorem dX7_awaitedBehind_57 : decode cX7_awaitedBehind 57 = .ok (.iconst 0, 1) := by decide +kernel
theorem dX7_awaitedBehind_58 : decode cX7_awaitedBehind 58 = .ok (.goto 4, 3) := by decide +kernel
theorem dX7_awaitedBehind_61 : decode cX7_awaitedBehind 61 = .ok (.iconst 3, 1) := by decide +kernel
theorem dX7_awaitedBehind_62 : decode cX7_awaitedBehind 62 = .ok (.ireturn, 1) := by decide +kernel
theorem dX7_awaitedBehind_63 : decode cX7_awaitedBehind 63 = .ok (.iload_n 1, 1) := by decide +kernel
theorem dX7_awaitedBehind_64 : decode cX7_awaitedBehind 64 = .ok (.invokestatic 23, 3) := by decide +kernel
theorem dX7_awaitedBehind_67 : decode cX7_awaitedBehind 67 = .ok (.ifCond .eq 7, 3) := by decide +kernel
theorem dX7_awaitedBehind_70 : decode cX7_awaitedBehind 70 = .ok (.iconst 0, 1) := by decide +kernel
theorem dX7_awaitedBehind_71 : decode cX7_awaitedBehind 71 = .ok (.goto 4, 3) := by decide +kernel
theorem dX7_awaitedBehind_74 : decode cX7_awaitedBehind 74 = .ok (.iconst 3, 1) := by decide +kernel
theorem dX7_awaitedBehind_75 : decode cX7_awaitedBehind 75 = .ok (.ireturn, 1) := by decide +kernel
set_option maxRecDepth 20000 in
theorem ggX7_isHerd_X11_within : GoodIn wsX7_isHerd wsX11_within := goodIn_r _ [3] (by decide +kernel) (by decide +kernel)
set_option maxRecDepth 20000 in
theorem gX7_isHerd_X11_within_n30 : GoodIn wsX7_isHerd (wsX11_within) := ggX7_isHerd_X11_within
theorem dX7_isHerd_0 : decode cX7_isHerd 0 = .ok (.iload_n 0, 1) := by decide +kernel
theorem dX7_isHerd_1 : decode cX7_isHerd 1 = .ok (.bipush 65, 2) := by decide +kernel
theorem dX7_isHerd_3 : decode cX7_isHerd 3 = .ok (.bipush 70, 2) := by decide +kernel
theorem dX7_isHerd_5 : decode cX7_isHerd 5 = .ok (.invokestatic 30, 3) := by decide +kernel
theorem dX7_isHerd_8 : decode cX7_isHerd 8 = .ok (.ireturn, 1) := by decide +kernel
set_option maxRecDepth 20000 in
theorem ggX7_isClause_X11_within : GoodIn wsX7_isClause wsX11_within := goodIn_r _ [3] (by decide +kernel) (by decide +kernel)
set_option maxRecDepth 20000 in
theorem gX7_isClause_X11_within_n30 : GoodIn wsX7_isClause (wsX11_within) := ggX7_isClause_X11_within
theorem dX7_isClause_0 : decode cX7_isClause 0 = .ok (.iload_n 0, 1) := by decide +kernel
theorem dX7_isClause_1 : decode cX7_isClause 1 = .ok (.bipush 97, 2) := by decide +kernel
theorem dX7_isClause_3 : decode cX7_isClause 3 = .ok (.bipush 106, 2) := by decide +kernel
theorem dX7_isClause_5 : decode cX7_isClause 5 = .ok (.invokestatic 30, 3) := by decide +kernel
theorem dX7_isClause_8 : decode cX7_isClause 8 = .ok (.ireturn, 1) := by decide +kernel
theorem dX11_within_0 : decode cX11_within 0 = .ok (.iload_n 0, 1) := by decide +kernel
theorem dX11_within_1 : decode cX11_within 1 = .ok (.iload_n 1, 1) := by decide +kernel
theorem dX11_within_2 : decode cX11_within 2 = .ok (.if_icmp .lt 12, 3) := by decide +kernel
theorem dX11_within_5 : decode cX11_within 5 = .ok (.iload_n 0, 1) := by decide +kernel
theorem dX11_within_6 : decode cX11_within 6 = .ok (.iload_n 2, 1) := by decide +kernel
theorem dX11_within_7 : decode cX11_within 7 = .ok (.if_icmp .gt 7, 3) := by decide +kernel
theorem dX11_within_10 : decode cX11_within 10 = .ok (.iconst 1, 1) := by decide +kernel
theorem dX11_within_11 : decode cX11_within 11 = .ok (.goto 4, 3) := by decide +kernel
theorem dX11_within_14 : decode cX11_within 14 = .ok (.iconst 0, 1) := by decide +kernel
theorem dX11_within_15 : decode cX11_within 15 = .ok (.ireturn, 1) := by decide +kernel
end
section
set_option maxRecDepth 100000 in
set_option maxHeartbeats 4000000 in
theorem c_X0_set (l : Launch) (dC : Nat → ClassId) (dI : Nat → Nat → Nat) (cI cZ cQ : ClassId) (o : Nat) (v_kind : Int32) (v_one : Int32) (v_other : Int32) (p1 : Int32) (p2 : Int32) (p3 : Int32) (w_kind : Int32) (w_one : Int32) (w_other : Int32) (hF : f_Act_set v_kind v_one v_other p1 p2 p3 = some (w_kind, w_one, w_other)) (sz : Nat) : Met l yX0_set wsX0_set ({ frames := 0, cells := 0, slots := 0, locals := 0 } : Room) (qPc ([.ref o, .int p1, .int p2, .int p3]) (dC, dI) (qT cI cZ cQ) ([(o, .inr (0, [.int v_kind, .int v_one, .int v_other]))]) sz) (qWv (dC, dI) ([(o, .inr (0, [.int w_kind, .int w_one, .int w_other]))]) (va_A ([(o, .inr (0, [.int v_kind, .int v_one, .int v_other]))]) sz)) 0 0 (va_A ([(o, .inr (0, [.int v_kind, .int v_one, .int v_other]))]) sz) := by
  refine q_met_w (Qc := fun A => qWv (dC, dI) ([(o, .inr (0, [.int w_kind, .int w_one, .int w_other]))]) A) (cc := cX0_set) (own := RX0) (maxL := 4) (ret := none) (lv0 := [(0, .ref o), (1, .int p1), (2, .int p2), (3, .int p3)]) (by decide) rfl rfl rfl (Nat.le_of_ble_eq_true rfl) ?_
  intro p e s m args below meth c A hA C hr hnm Q hQ
  have lk0 : Cond.fieldLink RX0 9 "SealStrait$Act" "kind" "I" ∈ wsX0_set := by decide +kernel
  have lk1 : ∀ w ∈ u_ws RX0 TX0 3, w ∈ wsX0_set := fun w h => List.mem_cons_of_mem _ (List.mem_append_right _ h)
  have lk2 : Cond.fieldLink RX0 15 "SealStrait$Act" "one" "I" ∈ wsX0_set := by decide +kernel
  have lk3 : Cond.fieldLink RX0 18 "SealStrait$Act" "other" "I" ∈ wsX0_set := by decide +kernel
  unfold f_Act_set at hF
  refine q_aload_n C dX0_set_0 0 rfl rfl ?_
  refine q_iload_n C dX0_set_1 1 rfl rfl ?_
  refine q_put (C0 := RX0) (T := TX0) (N := 3) (k0 := 0) C lk1 0 rfl rfl (by decide) lk0 rfl tyX0 tyX0_ok nmX0 rfl (v := .int p1) rfl rfl (Nat.le_of_ble_eq_true rfl) ([(o, .inr (0, [.int p1, .int v_one, .int v_other]))]) rfl dX0_set_2 ?_
  refine q_aload_n C dX0_set_5 0 rfl rfl ?_
  refine q_iload_n C dX0_set_6 2 rfl rfl ?_
  refine q_put (C0 := RX0) (T := TX0) (N := 3) (k0 := 1) C lk1 0 rfl rfl (by decide) lk2 rfl tyX0 tyX0_ok nmX0 rfl (v := .int p2) rfl rfl (Nat.le_of_ble_eq_true rfl) ([(o, .inr (0, [.int p1, .int p2, .int v_other]))]) rfl dX0_set_7 ?_
  refine q_aload_n C dX0_set_10 0 rfl rfl ?_
  refine q_iload_n C dX0_set_11 3 rfl rfl ?_
  refine q_put (C0 := RX0) (T := TX0) (N := 3) (k0 := 2) C lk1 0 rfl rfl (by decide) lk3 rfl tyX0 tyX0_ok nmX0 rfl (v := .int p3) rfl rfl (Nat.le_of_ble_eq_true rfl) ([(o, .inr (0, [.int p1, .int p2, .int p3]))]) rfl dX0_set_12 ?_
  cases hF
  exact q_wretv C hr dX0_set_15 hQ
set_option maxRecDepth 100000 in
set_option maxHeartbeats 4000000 in
theorem c_X7_signAt (l : Launch) (dC : Nat → ClassId) (dI : Nat → Nat → Nat) (cI cZ cQ : ClassId) (o o_signs : Nat) (v_signs : Nat → Int32) (v_size : Int32) (p1 : Int32) (R : Int32) (hF : f_Pad_signAt v_signs v_size p1 = some R) (sz : Nat) : Met l yX7_signAt wsX7_signAt ({ frames := 0, cells := 0, slots := 0, locals := 0 } : Room) (qPc ([.ref o, .int p1]) (dC, dI) (qT cI cZ cQ) ([(o, .inr (7, [.ref o_signs, .int v_size])), (o_signs, .inl (cI, 60, .inl v_signs))]) sz) (qRi R) 0 0 (fun _ => False) := by
  refine q_met_r (cc := cX7_signAt) (own := RX7) (maxL := 2) (ret := (some .int)) (lv0 := [(0, .ref o), (1, .int p1)]) (by decide) rfl rfl rfl (Nat.le_of_ble_eq_true rfl) ?_
  intro p e s m args below meth c C hr A A' Q hA0 hQ
  have lk0 : Cond.fieldLink RX7 15 "SealStrait$Pad" "size" "I" ∈ wsX7_signAt := by decide +kernel
  have lk1 : ∀ w ∈ u_ws RX7 TX7 2, w ∈ wsX7_signAt := fun w h => List.mem_cons_of_mem _ (List.mem_append_right _ h)
  have lk2 : Cond.fieldLink RX7 11 "SealStrait$Pad" "signs" "[I" ∈ wsX7_signAt := by decide +kernel
  unfold f_Pad_signAt at hF
  refine q_iload_n C dX7_signAt_0 1 rfl rfl ?_
  refine q_if_lt (tgt := 27) C dX7_signAt_1 (by decide) (fun c1 => ?_) (fun c1 => ?_)
  · have hF := ite_t hF c1
    refine q_iconst (v := (0 : Int32)) C dX7_signAt_27 (by decide) ?_
    cases hF
    exact q_ireti C hA0 hr dX7_signAt_28 hQ
  · have hF := ite_f hF c1
    refine q_iload_n C dX7_signAt_4 1 rfl rfl ?_
    refine q_aload_n C dX7_signAt_5 0 rfl rfl ?_
    refine q_get (C0 := RX7) (T := TX7) (N := 2) (k0 := 1) C lk1 0 rfl rfl (by decide) lk0 rfl (v := .int v_size) rfl dX7_signAt_6 ?_
    refine q_icmp_ge (tgt := 27) C dX7_signAt_9 (by decide) (fun c2 => ?_) (fun c2 => ?_)
    · have hF := ite_t hF c2
      refine q_iconst (v := (0 : Int32)) C dX7_signAt_27 (by decide) ?_
      cases hF
      exact q_ireti C hA0 hr dX7_signAt_28 hQ
    · have hF := ite_f hF c2
      refine q_iload_n C dX7_signAt_12 1 rfl rfl ?_
      refine q_bipush (v := (60 : Int32)) C dX7_signAt_13 (by decide) ?_
      refine q_icmp_ge (tgt := 27) C dX7_signAt_15 (by decide) (fun c3 => ?_) (fun c3 => ?_)
      · have hF := ite_t hF c3
        refine q_iconst (v := (0 : Int32)) C dX7_signAt_27 (by decide) ?_
        cases hF
        exact q_ireti C hA0 hr dX7_signAt_28 hQ
      · have hF := ite_f hF c3
        refine q_aload_n C dX7_signAt_18 0 rfl rfl ?_
        refine q_get (C0 := RX7) (T := TX7) (N := 2) (k0 := 0) C lk1 0 rfl rfl (by decide) lk2 rfl (v := .ref o_signs) rfl dX7_signAt_19 ?_
        refine q_iload_n C dX7_signAt_22 1 rfl rfl ?_
        obtain ⟨hc4, hF⟩ := ite_c hF
        refine q_iald C 1 0 rfl rfl (ix_in hc4) dX7_signAt_23 ?_
        refine q_goto (tgt := 28) C dX7_signAt_24 (by decide) ?_
        cases hF
        exact q_ireti C hA0 hr dX7_signAt_28 hQ
set_option maxRecDepth 100000 in
set_option maxHeartbeats 4000000 in
theorem c_X11_within (l : Launch) (dC : Nat → ClassId) (dI : Nat → Nat → Nat) (cI cZ cQ : ClassId) (p1 : Int32) (p2 : Int32) (p3 : Int32) (R : Int32) (hF : f_Strait_within p1 p2 p3 = R) (sz : Nat) : Met l yX11_within wsX11_within ({ frames := 0, cells := 0, slots := 0, locals := 0 } : Room) (qPc ([.int p1, .int p2, .int p3]) (dC, dI) (qT cI cZ cQ) ([]) sz) (qRz R) 0 0 (fun _ => False) := by
  refine q_met_r (cc := cX11_within) (own := RX11) (maxL := 3) (ret := (some .boolean)) (lv0 := [(0, .int p1), (1, .int p2), (2, .int p3)]) (by decide) rfl rfl rfl (Nat.le_of_ble_eq_true rfl) ?_
  intro p e s m args below meth c C hr A A' Q hA0 hQ
  unfold f_Strait_within at hF
  refine q_iload_n C dX11_within_0 0 rfl rfl ?_
  refine q_iload_n C dX11_within_1 1 rfl rfl ?_
  refine q_icmp_lt (tgt := 14) C dX11_within_2 (by decide) (fun c1 => ?_) (fun c1 => ?_)
  · have hF := ite_t hF c1
    refine q_iconst (v := (0 : Int32)) C dX11_within_14 (by decide) ?_
    subst hF
    exact q_iretz C hA0 hr (Or.inl rfl) dX11_within_15 hQ
  · have hF := ite_f hF c1
    refine q_iload_n C dX11_within_5 0 rfl rfl ?_
    refine q_iload_n C dX11_within_6 2 rfl rfl ?_
    refine q_icmp_gt (tgt := 14) C dX11_within_7 (by decide) (fun c2 => ?_) (fun c2 => ?_)
    · have hF := ite_t hF c2
      refine q_iconst (v := (0 : Int32)) C dX11_within_14 (by decide) ?_
      subst hF
      exact q_iretz C hA0 hr (Or.inl rfl) dX11_within_15 hQ
    · have hF := ite_f hF c2
      refine q_iconst (v := (1 : Int32)) C dX11_within_10 (by decide) ?_
      refine q_goto (tgt := 15) C dX11_within_11 (by decide) ?_
      subst hF
      exact q_iretz C hA0 hr (Or.inr rfl) dX11_within_15 hQ
set_option maxRecDepth 100000 in
set_option maxHeartbeats 4000000 in
theorem c_X7_isHerd (l : Launch) (dC : Nat → ClassId) (dI : Nat → Nat → Nat) (cI cZ cQ : ClassId) (p1 : Int32) (R : Int32) (hF : f_Pad_isHerd p1 = R) (sz : Nat) : Met l yX7_isHerd wsX7_isHerd ({ frames := 1, cells := 0, slots := 0, locals := 22 } : Room) (qPc ([.int p1]) (dC, dI) (qT cI cZ cQ) ([]) sz) (qRz R) 0 0 (fun _ => False) := by
  refine q_met_r (cc := cX7_isHerd) (own := RX7) (maxL := 1) (ret := (some .boolean)) (lv0 := [(0, .int p1)]) (by decide) rfl rfl rfl (Nat.le_of_ble_eq_true rfl) ?_
  intro p e s m args below meth c C hr A A' Q hA0 hQ
  have lk0 : Cond.initialized RX11 ∈ wsX7_isHerd := by decide +kernel
  have lk1 : Cond.static yX11_within ∈ wsX7_isHerd := by decide +kernel
  have lk2 : (RX7, 30, yX11_within) ∈ qNest := by decide +kernel
  unfold f_Pad_isHerd at hF
  refine q_iload_n C dX7_isHerd_0 0 rfl rfl ?_
  refine q_bipush (v := (65 : Int32)) C dX7_isHerd_1 (by decide) ?_
  refine q_bipush (v := (70 : Int32)) C dX7_isHerd_3 (by decide) ?_
  refine q_roz (q_runSN (As := [.int p1, .int (65 : Int32), .int (70 : Int32)]) (rest := []) (n := 3) C (fun sz => c_X11_within l dC dI cI cZ cQ p1 (65 : Int32) (70 : Int32) (f_Strait_within p1 (65 : Int32) (70 : Int32)) rfl sz) gX7_isHerd_X11_within_n30 rfl rfl rfl lk2 lk0 lk1 (by decide +kernel) ⟨Nat.le_of_ble_eq_true rfl, Nat.le_of_ble_eq_true rfl⟩ [] rfl rfl rfl rfl (Nat.le_of_ble_eq_true rfl) dX7_isHerd_5 ⟨Nat.zero_le _, Nat.zero_le _⟩) (fun hz1 => ?_)
  subst hF
  exact q_iretz C hA0 hr hz1 dX7_isHerd_8 hQ
set_option maxRecDepth 100000 in
set_option maxHeartbeats 4000000 in
theorem c_X0_takeFrom (l : Launch) (dC : Nat → ClassId) (dI : Nat → Nat → Nat) (cI cZ cQ : ClassId) (o b1 b1_signs : Nat) (v_kind : Int32) (v_one : Int32) (v_other : Int32) (v_a1_signs : Nat → Int32) (v_a1_size : Int32) (p2 : Int32) (R : Int32) (w_kind : Int32) (w_one : Int32) (w_other : Int32) (hF : f_Act_takeFrom v_kind v_one v_other v_a1_signs v_a1_size p2 = some (R, w_kind, w_one, w_other)) (sz : Nat) : Met l yX0_takeFrom wsX0_takeFrom ({ frames := 2, cells := 0, slots := 0, locals := 42 } : Room) (qPc ([.ref o, .ref b1, .int p2]) (dC, dI) (qT cI cZ cQ) ([(o, .inr (0, [.int v_kind, .int v_one, .int v_other])), (b1, .inr (7, [.ref b1_signs, .int v_a1_size])), (b1_signs, .inl (cI, 60, .inl v_a1_signs))]) sz) (qWi R (dC, dI) ([(o, .inr (0, [.int w_kind, .int w_one, .int w_other])), (b1, .inr (7, [.ref b1_signs, .int v_a1_size])), (b1_signs, .inl (cI, 60, .inl v_a1_signs))]) (va_A ([(o, .inr (0, [.int v_kind, .int v_one, .int v_other])), (b1, .inr (7, [.ref b1_signs, .int v_a1_size])), (b1_signs, .inl (cI, 60, .inl v_a1_signs))]) sz)) 0 0 (va_A ([(o, .inr (0, [.int v_kind, .int v_one, .int v_other])), (b1, .inr (7, [.ref b1_signs, .int v_a1_size])), (b1_signs, .inl (cI, 60, .inl v_a1_signs))]) sz) := by
  refine q_met_w (Qc := fun A => qWi R (dC, dI) ([(o, .inr (0, [.int w_kind, .int w_one, .int w_other])), (b1, .inr (7, [.ref b1_signs, .int v_a1_size])), (b1_signs, .inl (cI, 60, .inl v_a1_signs))]) A) (cc := cX0_takeFrom) (own := RX0) (maxL := 5) (ret := (some .int)) (lv0 := [(0, .ref o), (1, .ref b1), (2, .int p2)]) (by decide) rfl rfl rfl (Nat.le_of_ble_eq_true rfl) ?_
  intro p e s m args below meth c A hA C hr hnm Q hQ
  unfold f_Act_takeFrom at hF
  refine q_aload_n C dX0_takeFrom_0 1 rfl rfl ?_
  refine q_iload_n C dX0_takeFrom_1 2 rfl rfl ?_
  obtain ⟨r1, hc2, hF⟩ := bind_c hF
  refine q_roi (q_runV (As := [.int p2]) (rest := []) C (fun sz => c_X7_signAt l dC dI cI cZ cQ b1 b1_signs v_a1_signs v_a1_size p2 r1 hc2 sz) (cwV 1 C.2.2.2.2.1 gX0_takeFrom_X7_signAt rfl rfl rfl (by decide +kernel) ⟨Nat.le_of_ble_eq_true rfl, Nat.le_of_ble_eq_true rfl⟩) 1 rfl rfl rfl [1, 2] rfl rfl rfl rfl (Nat.le_of_ble_eq_true rfl) dX0_takeFrom_2 ⟨Nat.zero_le _, Nat.zero_le _⟩) ?_
  refine q_istore_n C ([(3, .int r1), (0, .ref o), (1, .ref b1), (2, .int p2)]) dX0_takeFrom_5 rfl (by decide) rfl ?_
  refine q_iload_n C dX0_takeFrom_6 0 rfl rfl ?_
  refine q_roz (q_runS (As := [.int r1]) (rest := []) C (fun sz => c_X7_isHerd l dC dI cI cZ cQ r1 (f_Pad_isHerd r1) rfl sz) (va_cwS 1 C.2.2.2.2.1 gX0_takeFrom_X7_isHerd rfl rfl rfl (by decide +kernel) ⟨Nat.le_of_ble_eq_true rfl, Nat.le_of_ble_eq_true rfl⟩) [] rfl rfl rfl rfl (Nat.le_of_ble_eq_true rfl) dX0_takeFrom_7 ⟨Nat.zero_le _, Nat.zero_le _⟩) (fun hz3 => ?_)
  refine q_if_ne (tgt := 35) C dX0_takeFrom_10 (by decide) (fun c4 => ?_) (fun c4 => ?_)
  · have hF := ite_f hF c4
    refine q_aload_n C dX0_takeFrom_35 2 rfl rfl ?_
    refine q_iload_n C dX0_takeFrom_36 3 rfl rfl ?_
    refine q_iconst (v := (1 : Int32)) C dX0_takeFrom_37 (by decide) ?_
    refine q_iadd C dX0_takeFrom_38 ?_
    obtain ⟨r5, hc6, hF⟩ := bind_c hF
    refine q_roi (q_runV (As := [.int (p2 + (1 : Int32))]) (rest := []) C (fun sz => c_X7_signAt l dC dI cI cZ cQ b1 b1_signs v_a1_signs v_a1_size (p2 + (1 : Int32)) r5 hc6 sz) (cwV 1 C.2.2.2.2.1 gX0_takeFrom_X7_signAt rfl rfl rfl (by decide +kernel) ⟨Nat.le_of_ble_eq_true rfl, Nat.le_of_ble_eq_true rfl⟩) 1 rfl rfl rfl [1, 2] rfl rfl rfl rfl (Nat.le_of_ble_eq_true rfl) dX0_takeFrom_39 ⟨Nat.zero_le _, Nat.zero_le _⟩) ?_
    refine q_istore C ([(4, .int r5), (3, .int r1), (0, .ref o), (1, .ref b1), (2, .int p2)]) dX0_takeFrom_42 (by decide) rfl ?_
    refine q_iload C dX0_takeFrom_44 0 rfl ?_
    refine q_bipush (v := (38 : Int32)) C dX0_takeFrom_46 (by decide) ?_
    refine q_icmp_ne (tgt := 72) C dX0_takeFrom_48 (by decide) (fun c7 => ?_) (fun c7 => ?_)
    · have hF := ite_f hF c7
      refine q_aload_n C dX0_takeFrom_72 2 rfl rfl ?_
      refine q_iload C dX0_takeFrom_73 0 rfl ?_
      refine q_bipush (v := (63 : Int32)) C dX0_takeFrom_75 (by decide) ?_
      refine q_icmp_ne (tgt := 84) C dX0_takeFrom_77 (by decide) (fun c8 => ?_) (fun c8 => ?_)
      · have hF := ite_f hF c8
        refine q_iconst (v := (2 : Int32)) C dX0_takeFrom_84 (by decide) ?_
        refine q_iload_n C dX0_takeFrom_85 1 rfl rfl ?_
        refine q_bipush (v := (65 : Int32)) C dX0_takeFrom_86 (by decide) ?_
        refine q_isub C dX0_takeFrom_88 ?_
        refine q_iconst (v := (0 : Int32)) C dX0_takeFrom_89 (by decide) ?_
        obtain ⟨⟨u9_kind, u9_one, u9_other⟩, hc10, hF⟩ := bind_c hF
        dsimp only at hF
        refine q_rwv hA ([(o, .inr (0, [.int u9_kind, .int u9_one, .int u9_other])), (b1, .inr (7, [.ref b1_signs, .int v_a1_size])), (b1_signs, .inl (cI, 60, .inl v_a1_signs))]) [0] [1, 2] rfl rfl rfl (by decide) [2, 0, 1] rfl rfl (q_runV (As := [.int (2 : Int32), .int (r1 - (65 : Int32)), .int (0 : Int32)]) (rest := []) C (fun sz => c_X0_set l dC dI cI cZ cQ o v_kind v_one v_other (2 : Int32) (r1 - (65 : Int32)) (0 : Int32) u9_kind u9_one u9_other hc10 sz) (cwV 3 C.2.2.2.2.1 gX0_takeFrom_X0_set rfl rfl rfl (by decide +kernel) ⟨Nat.le_of_ble_eq_true rfl, Nat.le_of_ble_eq_true rfl⟩) 0 rfl rfl rfl [0] rfl rfl rfl rfl (Nat.le_of_ble_eq_true rfl) dX0_takeFrom_90 ⟨Nat.zero_le _, Nat.zero_le _⟩) ?_
        refine q_iconst (v := (2 : Int32)) C dX0_takeFrom_93 (by decide) ?_
        cases hF
        exact q_wreti C hr dX0_takeFrom_94 hQ
      · have hF := ite_t hF c8
        refine q_iconst (v := (1 : Int32)) C dX0_takeFrom_80 (by decide) ?_
        refine q_goto (tgt := 85) C dX0_takeFrom_81 (by decide) ?_
        refine q_iload_n C dX0_takeFrom_85 1 rfl rfl ?_
        refine q_bipush (v := (65 : Int32)) C dX0_takeFrom_86 (by decide) ?_
        refine q_isub C dX0_takeFrom_88 ?_
        refine q_iconst (v := (0 : Int32)) C dX0_takeFrom_89 (by decide) ?_
        obtain ⟨⟨u11_kind, u11_one, u11_other⟩, hc12, hF⟩ := bind_c hF
        dsimp only at hF
        refine q_rwv hA ([(o, .inr (0, [.int u11_kind, .int u11_one, .int u11_other])), (b1, .inr (7, [.ref b1_signs, .int v_a1_size])), (b1_signs, .inl (cI, 60, .inl v_a1_signs))]) [0] [1, 2] rfl rfl rfl (by decide) [2, 0, 1] rfl rfl (q_runV (As := [.int (1 : Int32), .int (r1 - (65 : Int32)), .int (0 : Int32)]) (rest := []) C (fun sz => c_X0_set l dC dI cI cZ cQ o v_kind v_one v_other (1 : Int32) (r1 - (65 : Int32)) (0 : Int32) u11_kind u11_one u11_other hc12 sz) (cwV 3 C.2.2.2.2.1 gX0_takeFrom_X0_set rfl rfl rfl (by decide +kernel) ⟨Nat.le_of_ble_eq_true rfl, Nat.le_of_ble_eq_true rfl⟩) 0 rfl rfl rfl [0] rfl rfl rfl rfl (Nat.le_of_ble_eq_true rfl) dX0_takeFrom_90 ⟨Nat.zero_le _, Nat.zero_le _⟩) ?_
        refine q_iconst (v := (2 : Int32)) C dX0_takeFrom_93 (by decide) ?_
        cases hF
        exact q_wreti C hr dX0_takeFrom_94 hQ
    · have hF := ite_t hF c7
      refine q_aload_n C dX0_takeFrom_51 2 rfl rfl ?_
      refine q_iconst (v := (3 : Int32)) C dX0_takeFrom_52 (by decide) ?_
      refine q_iload_n C dX0_takeFrom_53 1 rfl rfl ?_
      refine q_bipush (v := (65 : Int32)) C dX0_takeFrom_54 (by decide) ?_
      refine q_isub C dX0_takeFrom_56 ?_
      refine q_aload_n C dX0_takeFrom_57 3 rfl rfl ?_
      refine q_iload_n C dX0_takeFrom_58 4 rfl rfl ?_
      refine q_iconst (v := (2 : Int32)) C dX0_takeFrom_59 (by decide) ?_
      refine q_iadd C dX0_takeFrom_60 ?_
      obtain ⟨r13, hc14, hF⟩ := bind_c hF
      refine q_roi (q_runV (As := [.int (p2 + (2 : Int32))]) (rest := [.int (r1 - (65 : Int32)), .int (3 : Int32), .ref o]) C (fun sz => c_X7_signAt l dC dI cI cZ cQ b1 b1_signs v_a1_signs v_a1_size (p2 + (2 : Int32)) r13 hc14 sz) (cwV 1 C.2.2.2.2.1 gX0_takeFrom_X7_signAt rfl rfl rfl (by decide +kernel) ⟨Nat.le_of_ble_eq_true rfl, Nat.le_of_ble_eq_true rfl⟩) 1 rfl rfl rfl [1, 2] rfl rfl rfl rfl (Nat.le_of_ble_eq_true rfl) dX0_takeFrom_61 ⟨Nat.zero_le _, Nat.zero_le _⟩) ?_
      refine q_bipush (v := (65 : Int32)) C dX0_takeFrom_64 (by decide) ?_
      refine q_isub C dX0_takeFrom_66 ?_
      obtain ⟨⟨u15_kind, u15_one, u15_other⟩, hc16, hF⟩ := bind_c hF
      dsimp only at hF
      refine q_rwv hA ([(o, .inr (0, [.int u15_kind, .int u15_one, .int u15_other])), (b1, .inr (7, [.ref b1_signs, .int v_a1_size])), (b1_signs, .inl (cI, 60, .inl v_a1_signs))]) [0] [1, 2] rfl rfl rfl (by decide) [2, 0, 1] rfl rfl (q_runV (As := [.int (3 : Int32), .int (r1 - (65 : Int32)), .int (r13 - (65 : Int32))]) (rest := []) C (fun sz => c_X0_set l dC dI cI cZ cQ o v_kind v_one v_other (3 : Int32) (r1 - (65 : Int32)) (r13 - (65 : Int32)) u15_kind u15_one u15_other hc16 sz) (cwV 3 C.2.2.2.2.1 gX0_takeFrom_X0_set rfl rfl rfl (by decide +kernel) ⟨Nat.le_of_ble_eq_true rfl, Nat.le_of_ble_eq_true rfl⟩) 0 rfl rfl rfl [0] rfl rfl rfl rfl (Nat.le_of_ble_eq_true rfl) dX0_takeFrom_67 ⟨Nat.zero_le _, Nat.zero_le _⟩) ?_
      refine q_iconst (v := (3 : Int32)) C dX0_takeFrom_70 (by decide) ?_
      cases hF
      exact q_wreti C hr dX0_takeFrom_71 hQ
  · have hF := ite_t hF c4
    refine q_aload_n C dX0_takeFrom_13 1 rfl rfl ?_
    refine q_iload_n C dX0_takeFrom_14 0 rfl rfl ?_
    refine q_bipush (v := (46 : Int32)) C dX0_takeFrom_15 (by decide) ?_
    refine q_icmp_ne (tgt := 24) C dX0_takeFrom_17 (by decide) (fun c17 => ?_) (fun c17 => ?_)
    · have hF := ite_f hF c17
      refine q_iconst (v := (0 : Int32)) C dX0_takeFrom_24 (by decide) ?_
      refine q_iload_n C dX0_takeFrom_25 0 rfl rfl ?_
      refine q_bipush (v := (97 : Int32)) C dX0_takeFrom_26 (by decide) ?_
      refine q_isub C dX0_takeFrom_28 ?_
      refine q_iconst (v := (0 : Int32)) C dX0_takeFrom_29 (by decide) ?_
      obtain ⟨⟨u18_kind, u18_one, u18_other⟩, hc19, hF⟩ := bind_c hF
      dsimp only at hF
      refine q_rwv hA ([(o, .inr (0, [.int u18_kind, .int u18_one, .int u18_other])), (b1, .inr (7, [.ref b1_signs, .int v_a1_size])), (b1_signs, .inl (cI, 60, .inl v_a1_signs))]) [0] [1, 2] rfl rfl rfl (by decide) [2, 0, 1] rfl rfl (q_runV (As := [.int (0 : Int32), .int (r1 - (97 : Int32)), .int (0 : Int32)]) (rest := []) C (fun sz => c_X0_set l dC dI cI cZ cQ o v_kind v_one v_other (0 : Int32) (r1 - (97 : Int32)) (0 : Int32) u18_kind u18_one u18_other hc19 sz) (cwV 3 C.2.2.2.2.1 gX0_takeFrom_X0_set rfl rfl rfl (by decide +kernel) ⟨Nat.le_of_ble_eq_true rfl, Nat.le_of_ble_eq_true rfl⟩) 0 rfl rfl rfl [0] rfl rfl rfl rfl (Nat.le_of_ble_eq_true rfl) dX0_takeFrom_30 ⟨Nat.zero_le _, Nat.zero_le _⟩) ?_
      refine q_iconst (v := (1 : Int32)) C dX0_takeFrom_33 (by decide) ?_
      cases hF
      exact q_wreti C hr dX0_takeFrom_34 hQ
    · have hF := ite_t hF c17
      refine q_iconst (v := (4 : Int32)) C dX0_takeFrom_20 (by decide) ?_
      refine q_goto (tgt := 25) C dX0_takeFrom_21 (by decide) ?_
      refine q_iload_n C dX0_takeFrom_25 0 rfl rfl ?_
      refine q_bipush (v := (97 : Int32)) C dX0_takeFrom_26 (by decide) ?_
      refine q_isub C dX0_takeFrom_28 ?_
      refine q_iconst (v := (0 : Int32)) C dX0_takeFrom_29 (by decide) ?_
      obtain ⟨⟨u20_kind, u20_one, u20_other⟩, hc21, hF⟩ := bind_c hF
      dsimp only at hF
      refine q_rwv hA ([(o, .inr (0, [.int u20_kind, .int u20_one, .int u20_other])), (b1, .inr (7, [.ref b1_signs, .int v_a1_size])), (b1_signs, .inl (cI, 60, .inl v_a1_signs))]) [0] [1, 2] rfl rfl rfl (by decide) [2, 0, 1] rfl rfl (q_runV (As := [.int (4 : Int32), .int (r1 - (97 : Int32)), .int (0 : Int32)]) (rest := []) C (fun sz => c_X0_set l dC dI cI cZ cQ o v_kind v_one v_other (4 : Int32) (r1 - (97 : Int32)) (0 : Int32) u20_kind u20_one u20_other hc21 sz) (cwV 3 C.2.2.2.2.1 gX0_takeFrom_X0_set rfl rfl rfl (by decide +kernel) ⟨Nat.le_of_ble_eq_true rfl, Nat.le_of_ble_eq_true rfl⟩) 0 rfl rfl rfl [0] rfl rfl rfl rfl (Nat.le_of_ble_eq_true rfl) dX0_takeFrom_30 ⟨Nat.zero_le _, Nat.zero_le _⟩) ?_
      refine q_iconst (v := (1 : Int32)) C dX0_takeFrom_33 (by decide) ?_
      cases hF
      exact q_wreti C hr dX0_takeFrom_34 hQ
set_option maxRecDepth 100000 in
set_option maxHeartbeats 4000000 in
theorem c_X0_draw (l : Launch) (dC : Nat → ClassId) (dI : Nat → Nat → Nat) (cI cZ cQ : ClassId) (o : Nat) (v_kind : Int32) (v_one : Int32) (v_other : Int32) (p1 : Int32) (w_kind : Int32) (w_one : Int32) (w_other : Int32) (hF : f_Act_draw v_kind v_one v_other p1 = some (w_kind, w_one, w_other)) (sz : Nat) : Met l yX0_draw wsX0_draw ({ frames := 1, cells := 0, slots := 0, locals := 23 } : Room) (qPc ([.ref o, .int p1]) (dC, dI) (qT cI cZ cQ) ([(o, .inr (0, [.int v_kind, .int v_one, .int v_other]))]) sz) (qWv (dC, dI) ([(o, .inr (0, [.int w_kind, .int w_one, .int w_other]))]) (va_A ([(o, .inr (0, [.int v_kind, .int v_one, .int v_other]))]) sz)) 0 0 (va_A ([(o, .inr (0, [.int v_kind, .int v_one, .int v_other]))]) sz) := by
  refine q_met_w (Qc := fun A => qWv (dC, dI) ([(o, .inr (0, [.int w_kind, .int w_one, .int w_other]))]) A) (cc := cX0_draw) (own := RX0) (maxL := 3) (ret := none) (lv0 := [(0, .ref o), (1, .int p1)]) (by decide) rfl rfl rfl (Nat.le_of_ble_eq_true rfl) ?_
  intro p e s m args below meth c A hA C hr hnm Q hQ
  unfold f_Act_draw at hF
  refine q_iload_n C dX0_draw_0 1 rfl rfl ?_
  refine q_bipush (v := (8 : Int32)) C dX0_draw_1 (by decide) ?_
  refine q_idiv C dX0_draw_3 (by decide) ?_
  refine q_istore_n C ([(2, .int (p1 / (8 : Int32))), (0, .ref o), (1, .int p1)]) dX0_draw_4 rfl (by decide) rfl ?_
  refine q_iload_n C dX0_draw_5 2 rfl rfl ?_
  refine q_bipush (v := (8 : Int32)) C dX0_draw_6 (by decide) ?_
  refine q_irem C dX0_draw_8 (by decide) ?_
  by_cases c1 : (p1 - p1 / (8 : Int32) * (8 : Int32)) = (4 : Int32)
  · have hF := ite_t hF c1
    refine q_tab (tgt := 40) C dX0_draw_9 4 (by rw [c1]; decide) (by decide) (by decide) rfl (by decide) ?_
    refine q_aload_n C dX0_draw_40 1 rfl rfl ?_
    refine q_iconst (v := (1 : Int32)) C dX0_draw_41 (by decide) ?_
    refine q_iload_n C dX0_draw_42 0 rfl rfl ?_
    refine q_bipush (v := (6 : Int32)) C dX0_draw_43 (by decide) ?_
    refine q_irem C dX0_draw_45 (by decide) ?_
    refine q_iconst (v := (0 : Int32)) C dX0_draw_46 (by decide) ?_
    obtain ⟨⟨u2_kind, u2_one, u2_other⟩, hc3, hF⟩ := bind_c hF
    dsimp only at hF
    refine q_rwv hA ([(o, .inr (0, [.int u2_kind, .int u2_one, .int u2_other]))]) [0] [] rfl rfl rfl (by decide) [0] rfl rfl (q_runV (As := [.int (1 : Int32), .int ((p1 / (8 : Int32)) - (p1 / (8 : Int32)) / (6 : Int32) * (6 : Int32)), .int (0 : Int32)]) (rest := []) C (fun sz => c_X0_set l dC dI cI cZ cQ o v_kind v_one v_other (1 : Int32) ((p1 / (8 : Int32)) - (p1 / (8 : Int32)) / (6 : Int32) * (6 : Int32)) (0 : Int32) u2_kind u2_one u2_other hc3 sz) (cwV 3 C.2.2.2.2.1 gX0_draw_X0_set rfl rfl rfl (by decide +kernel) ⟨Nat.le_of_ble_eq_true rfl, Nat.le_of_ble_eq_true rfl⟩) 0 rfl rfl rfl [0] rfl rfl rfl rfl (Nat.le_of_ble_eq_true rfl) dX0_draw_47 ⟨Nat.zero_le _, Nat.zero_le _⟩) ?_
    refine q_goto (tgt := 105) C dX0_draw_50 (by decide) ?_
    cases hF
    exact q_wretv C hr dX0_draw_105 hQ
  · have hF := ite_f hF c1
    by_cases c4 : (p1 - p1 / (8 : Int32) * (8 : Int32)) = (5 : Int32)
    · have hF := ite_t hF c4
      refine q_tab (tgt := 53) C dX0_draw_9 5 (by rw [c4]; decide) (by decide) (by decide) rfl (by decide) ?_
      refine q_aload_n C dX0_draw_53 1 rfl rfl ?_
      refine q_iconst (v := (2 : Int32)) C dX0_draw_54 (by decide) ?_
      refine q_iload_n C dX0_draw_55 0 rfl rfl ?_
      refine q_bipush (v := (6 : Int32)) C dX0_draw_56 (by decide) ?_
      refine q_irem C dX0_draw_58 (by decide) ?_
      refine q_iconst (v := (0 : Int32)) C dX0_draw_59 (by decide) ?_
      obtain ⟨⟨u5_kind, u5_one, u5_other⟩, hc6, hF⟩ := bind_c hF
      dsimp only at hF
      refine q_rwv hA ([(o, .inr (0, [.int u5_kind, .int u5_one, .int u5_other]))]) [0] [] rfl rfl rfl (by decide) [0] rfl rfl (q_runV (As := [.int (2 : Int32), .int ((p1 / (8 : Int32)) - (p1 / (8 : Int32)) / (6 : Int32) * (6 : Int32)), .int (0 : Int32)]) (rest := []) C (fun sz => c_X0_set l dC dI cI cZ cQ o v_kind v_one v_other (2 : Int32) ((p1 / (8 : Int32)) - (p1 / (8 : Int32)) / (6 : Int32) * (6 : Int32)) (0 : Int32) u5_kind u5_one u5_other hc6 sz) (cwV 3 C.2.2.2.2.1 gX0_draw_X0_set rfl rfl rfl (by decide +kernel) ⟨Nat.le_of_ble_eq_true rfl, Nat.le_of_ble_eq_true rfl⟩) 0 rfl rfl rfl [0] rfl rfl rfl rfl (Nat.le_of_ble_eq_true rfl) dX0_draw_60 ⟨Nat.zero_le _, Nat.zero_le _⟩) ?_
      refine q_goto (tgt := 105) C dX0_draw_63 (by decide) ?_
      cases hF
      exact q_wretv C hr dX0_draw_105 hQ
    · have hF := ite_f hF c4
      by_cases c7 : (p1 - p1 / (8 : Int32) * (8 : Int32)) = (6 : Int32)
      · have hF := ite_t hF c7
        refine q_tab (tgt := 66) C dX0_draw_9 6 (by rw [c7]; decide) (by decide) (by decide) rfl (by decide) ?_
        refine q_aload_n C dX0_draw_66 1 rfl rfl ?_
        refine q_iconst (v := (3 : Int32)) C dX0_draw_67 (by decide) ?_
        refine q_iload_n C dX0_draw_68 0 rfl rfl ?_
        refine q_bipush (v := (6 : Int32)) C dX0_draw_69 (by decide) ?_
        refine q_irem C dX0_draw_71 (by decide) ?_
        refine q_iload_n C dX0_draw_72 0 rfl rfl ?_
        refine q_bipush (v := (6 : Int32)) C dX0_draw_73 (by decide) ?_
        refine q_idiv C dX0_draw_75 (by decide) ?_
        refine q_bipush (v := (6 : Int32)) C dX0_draw_76 (by decide) ?_
        refine q_irem C dX0_draw_78 (by decide) ?_
        obtain ⟨⟨u8_kind, u8_one, u8_other⟩, hc9, hF⟩ := bind_c hF
        dsimp only at hF
        refine q_rwv hA ([(o, .inr (0, [.int u8_kind, .int u8_one, .int u8_other]))]) [0] [] rfl rfl rfl (by decide) [0] rfl rfl (q_runV (As := [.int (3 : Int32), .int ((p1 / (8 : Int32)) - (p1 / (8 : Int32)) / (6 : Int32) * (6 : Int32)), .int (((p1 / (8 : Int32)) / (6 : Int32)) - ((p1 / (8 : Int32)) / (6 : Int32)) / (6 : Int32) * (6 : Int32))]) (rest := []) C (fun sz => c_X0_set l dC dI cI cZ cQ o v_kind v_one v_other (3 : Int32) ((p1 / (8 : Int32)) - (p1 / (8 : Int32)) / (6 : Int32) * (6 : Int32)) (((p1 / (8 : Int32)) / (6 : Int32)) - ((p1 / (8 : Int32)) / (6 : Int32)) / (6 : Int32) * (6 : Int32)) u8_kind u8_one u8_other hc9 sz) (cwV 3 C.2.2.2.2.1 gX0_draw_X0_set rfl rfl rfl (by decide +kernel) ⟨Nat.le_of_ble_eq_true rfl, Nat.le_of_ble_eq_true rfl⟩) 0 rfl rfl rfl [0] rfl rfl rfl rfl (Nat.le_of_ble_eq_true rfl) dX0_draw_79 ⟨Nat.zero_le _, Nat.zero_le _⟩) ?_
        refine q_goto (tgt := 105) C dX0_draw_82 (by decide) ?_
        cases hF
        exact q_wretv C hr dX0_draw_105 hQ
      · have hF := ite_f hF c7
        by_cases c10 : (p1 - p1 / (8 : Int32) * (8 : Int32)) = (7 : Int32)
        · have hF := ite_t hF c10
          refine q_tab (tgt := 85) C dX0_draw_9 7 (by rw [c10]; decide) (by decide) (by decide) rfl (by decide) ?_
          refine q_aload_n C dX0_draw_85 1 rfl rfl ?_
          refine q_iconst (v := (4 : Int32)) C dX0_draw_86 (by decide) ?_
          refine q_iconst (v := (0 : Int32)) C dX0_draw_87 (by decide) ?_
          refine q_iconst (v := (0 : Int32)) C dX0_draw_88 (by decide) ?_
          obtain ⟨⟨u11_kind, u11_one, u11_other⟩, hc12, hF⟩ := bind_c hF
          dsimp only at hF
          refine q_rwv hA ([(o, .inr (0, [.int u11_kind, .int u11_one, .int u11_other]))]) [0] [] rfl rfl rfl (by decide) [0] rfl rfl (q_runV (As := [.int (4 : Int32), .int (0 : Int32), .int (0 : Int32)]) (rest := []) C (fun sz => c_X0_set l dC dI cI cZ cQ o v_kind v_one v_other (4 : Int32) (0 : Int32) (0 : Int32) u11_kind u11_one u11_other hc12 sz) (cwV 3 C.2.2.2.2.1 gX0_draw_X0_set rfl rfl rfl (by decide +kernel) ⟨Nat.le_of_ble_eq_true rfl, Nat.le_of_ble_eq_true rfl⟩) 0 rfl rfl rfl [0] rfl rfl rfl rfl (Nat.le_of_ble_eq_true rfl) dX0_draw_89 ⟨Nat.zero_le _, Nat.zero_le _⟩) ?_
          refine q_goto (tgt := 105) C dX0_draw_92 (by decide) ?_
          cases hF
          exact q_wretv C hr dX0_draw_105 hQ
        · have hF := ite_f hF c10
          refine q_tabD (tgt := 95) C dX0_draw_9 (by have c1t := lv_neT c1 (show (4 : Int32).toInt = 4 by decide); have c4t := lv_neT c4 (show (5 : Int32).toInt = 5 by decide); have c7t := lv_neT c7 (show (6 : Int32).toInt = 6 by decide); have c10t := lv_neT c10 (show (7 : Int32).toInt = 7 by decide); omega) (by decide) ?_
          refine q_aload_n C dX0_draw_95 1 rfl rfl ?_
          refine q_iconst (v := (0 : Int32)) C dX0_draw_96 (by decide) ?_
          refine q_iload_n C dX0_draw_97 0 rfl rfl ?_
          refine q_bipush (v := (10 : Int32)) C dX0_draw_98 (by decide) ?_
          refine q_irem C dX0_draw_100 (by decide) ?_
          refine q_iconst (v := (0 : Int32)) C dX0_draw_101 (by decide) ?_
          obtain ⟨⟨u13_kind, u13_one, u13_other⟩, hc14, hF⟩ := bind_c hF
          dsimp only at hF
          refine q_rwv hA ([(o, .inr (0, [.int u13_kind, .int u13_one, .int u13_other]))]) [0] [] rfl rfl rfl (by decide) [0] rfl rfl (q_runV (As := [.int (0 : Int32), .int ((p1 / (8 : Int32)) - (p1 / (8 : Int32)) / (10 : Int32) * (10 : Int32)), .int (0 : Int32)]) (rest := []) C (fun sz => c_X0_set l dC dI cI cZ cQ o v_kind v_one v_other (0 : Int32) ((p1 / (8 : Int32)) - (p1 / (8 : Int32)) / (10 : Int32) * (10 : Int32)) (0 : Int32) u13_kind u13_one u13_other hc14 sz) (cwV 3 C.2.2.2.2.1 gX0_draw_X0_set rfl rfl rfl (by decide +kernel) ⟨Nat.le_of_ble_eq_true rfl, Nat.le_of_ble_eq_true rfl⟩) 0 rfl rfl rfl [0] rfl rfl rfl rfl (Nat.le_of_ble_eq_true rfl) dX0_draw_102 ⟨Nat.zero_le _, Nat.zero_le _⟩) ?_
          cases hF
          exact q_wretv C hr dX0_draw_105 hQ
set_option maxRecDepth 100000 in
set_option maxHeartbeats 4000000 in
theorem c_J7_fill_53178 (l : Launch) (dC : Nat → ClassId) (dI : Nat → Nat → Nat) (cI cZ cQ : ClassId) (b1 : Nat) (n1 : Nat) (v_a1 : Nat → Int32) (p2 : Int32) (w_a1 : Nat → Int32) (hF : f_Arrays_fill n1 v_a1 p2 = some w_a1) (sz : Nat) : Met l yJ7_fill_53178 wsJ7_fill_53178 ({ frames := 0, cells := 0, slots := 0, locals := 0 } : Room) (qPc ([.ref b1, .int p2]) (dC, dI) (qT cI cZ cQ) ([(b1, .inl (cI, n1, .inl v_a1))]) sz) (qWv (dC, dI) ([(b1, .inl (cI, n1, .inl w_a1))]) (va_A ([(b1, .inl (cI, n1, .inl v_a1))]) sz)) 0 0 (va_A ([(b1, .inl (cI, n1, .inl v_a1))]) sz) := by
  refine q_met_w (Qc := fun A => qWv (dC, dI) ([(b1, .inl (cI, n1, .inl w_a1))]) A) (cc := cJ7_fill_53178) (own := RJ7) (maxL := 4) (ret := none) (lv0 := [(0, .ref b1), (1, .int p2)]) (by decide) rfl rfl rfl (Nat.le_of_ble_eq_true rfl) ?_
  intro p e s m args below meth c A hA C hr hnm Q hQ
  have L1 : ∀ (n : Nat) (x1 : Int32) (x2 : Int32) (x3 : Int32) (v_a1 : Nat → Int32) (z_a1 : Nat → Int32), evr (fun s => b_Arrays_fill_1 n1 x1 x3 s.1 s.2) n (x2, v_a1) = some z_a1 → qG p l e ({ frames := 0, cells := 0, slots := 0, locals := 0 } : Room) s m args below meth c 4 (dC, dI) A A Q 0 0 ([]) [] ([(b1, .inl (cI, n1, .inl z_a1))]) 20 → qG p l e ({ frames := 0, cells := 0, slots := 0, locals := 0 } : Room) s m args below meth c 4 (dC, dI) A A Q 0 0 ([(0, .ref b1), (1, .int x1), (2, .int x2), (3, .int x3)]) [] ([(b1, .inl (cI, n1, .inl v_a1))]) 5 := by
    clear hF
    intro n
    induction n with
    | zero => intro x1 x2 x3 v_a1 z_a1 hF; exact (evr_0 hF).elim
    | succ n ih =>
      intro x1 x2 x3 v_a1 z_a1 hF hk
      obtain ⟨o9, hB, hn, hx⟩ := evr_c hF
      have hF : b_Arrays_fill_1 n1 x1 x3 x2 v_a1 = some o9 := hB
      unfold b_Arrays_fill_1 at hF
      refine q_iload_n C dJ7_fill_53178_5 2 rfl rfl ?_
      refine q_iload_n C dJ7_fill_53178_6 3 rfl rfl ?_
      refine q_icmp_ge (tgt := 20) C dJ7_fill_53178_7 (by decide) (fun c1 => ?_) (fun c1 => ?_)
      · have hF := ite_t hF c1
        cases hF
        have e2 := hx _ rfl
        cases e2
        refine q_lsel [] rfl ?_
        exact hk
      · have hF := ite_f hF c1
        refine q_aload_n C dJ7_fill_53178_10 0 rfl rfl ?_
        refine q_iload_n C dJ7_fill_53178_11 2 rfl rfl ?_
        refine q_iload_n C dJ7_fill_53178_12 1 rfl rfl ?_
        obtain ⟨hc3, hF⟩ := ite_c hF
        refine q_iast C 0 0 rfl rfl (ix_in hc3) ([(b1, .inl (cI, n1, .inl (upd v_a1 (x2).toNatClampNeg x1)))]) rfl dJ7_fill_53178_13 ?_
        refine q_iinc (v := (x2 + 1)) C ([(2, .int (x2 + 1)), (0, .ref b1), (1, .int x1), (3, .int x3)]) dJ7_fill_53178_14 2 rfl rfl (by decide) rfl ?_
        refine q_goto (tgt := 5) C dJ7_fill_53178_17 (by decide) ?_
        cases hF
        refine q_lsel [1, 2, 0, 3] rfl ?_
        exact ih x1 (x2 + 1) x3 (upd v_a1 (x2).toNatClampNeg x1) z_a1 (hn _ rfl) hk
  unfold f_Arrays_fill at hF
  refine q_iconst (v := (0 : Int32)) C dJ7_fill_53178_0 (by decide) ?_
  refine q_istore_n C ([(2, .int (0 : Int32)), (0, .ref b1), (1, .int p2)]) dJ7_fill_53178_1 rfl (by decide) rfl ?_
  refine q_aload_n C dJ7_fill_53178_2 1 rfl rfl ?_
  refine q_alen (v := (Int32.ofNat n1)) C 0 0 rfl rfl rfl dJ7_fill_53178_3 ?_
  refine q_istore_n C ([(3, .int (Int32.ofNat n1)), (2, .int (0 : Int32)), (0, .ref b1), (1, .int p2)]) dJ7_fill_53178_4 rfl (by decide) rfl ?_
  obtain ⟨z4_a1, hc5, hF⟩ := bind_c hF
  obtain ⟨n6, hc5⟩ := (ev_iff _ _ _).mp hc5
  refine q_lsel [2, 3, 1, 0] rfl ?_
  refine L1 n6 p2 (0 : Int32) (Int32.ofNat n1) v_a1 z4_a1 hc5 ?_
  cases hF
  exact q_wretv C hr dJ7_fill_53178_20 hQ
set_option maxRecDepth 100000 in
set_option maxHeartbeats 4000000 in
theorem c_X7_write (l : Launch) (dC : Nat → ClassId) (dI : Nat → Nat → Nat) (cI cZ cQ : ClassId) (o o_signs : Nat) (v_signs : Nat → Int32) (v_size : Int32) (p1 : Int32) (R : Int32) (w_signs : Nat → Int32) (w_size : Int32) (hF : f_Pad_write v_signs v_size p1 = some (R, w_signs, w_size)) (sz : Nat) : Met l yX7_write wsX7_write ({ frames := 0, cells := 0, slots := 0, locals := 0 } : Room) (qPc ([.ref o, .int p1]) (dC, dI) (qT cI cZ cQ) ([(o, .inr (7, [.ref o_signs, .int v_size])), (o_signs, .inl (cI, 60, .inl v_signs))]) sz) (qWz R (dC, dI) ([(o, .inr (7, [.ref o_signs, .int w_size])), (o_signs, .inl (cI, 60, .inl w_signs))]) (va_A ([(o, .inr (7, [.ref o_signs, .int v_size])), (o_signs, .inl (cI, 60, .inl v_signs))]) sz)) 0 0 (va_A ([(o, .inr (7, [.ref o_signs, .int v_size])), (o_signs, .inl (cI, 60, .inl v_signs))]) sz) := by
  refine q_met_w (Qc := fun A => qWz R (dC, dI) ([(o, .inr (7, [.ref o_signs, .int w_size])), (o_signs, .inl (cI, 60, .inl w_signs))]) A) (cc := cX7_write) (own := RX7) (maxL := 2) (ret := (some .boolean)) (lv0 := [(0, .ref o), (1, .int p1)]) (by decide) rfl rfl rfl (Nat.le_of_ble_eq_true rfl) ?_
  intro p e s m args below meth c A hA C hr hnm Q hQ
  have lk0 : Cond.fieldLink RX7 15 "SealStrait$Pad" "size" "I" ∈ wsX7_write := by decide +kernel
  have lk1 : ∀ w ∈ u_ws RX7 TX7 2, w ∈ wsX7_write := fun w h => List.mem_cons_of_mem _ (List.mem_append_right _ h)
  have lk2 : Cond.fieldLink RX7 11 "SealStrait$Pad" "signs" "[I" ∈ wsX7_write := by decide +kernel
  unfold f_Pad_write at hF
  refine q_aload_n C dX7_write_0 0 rfl rfl ?_
  refine q_get (C0 := RX7) (T := TX7) (N := 2) (k0 := 1) C lk1 0 rfl rfl (by decide) lk0 rfl (v := .int v_size) rfl dX7_write_1 ?_
  refine q_bipush (v := (60 : Int32)) C dX7_write_4 (by decide) ?_
  refine q_icmp_lt (tgt := 11) C dX7_write_6 (by decide) (fun c1 => ?_) (fun c1 => ?_)
  · have hF := ite_t hF c1
    refine q_aload_n C dX7_write_11 0 rfl rfl ?_
    refine q_get (C0 := RX7) (T := TX7) (N := 2) (k0 := 0) C lk1 0 rfl rfl (by decide) lk2 rfl (v := .ref o_signs) rfl dX7_write_12 ?_
    refine q_aload_n C dX7_write_15 0 rfl rfl ?_
    refine q_get (C0 := RX7) (T := TX7) (N := 2) (k0 := 1) C lk1 0 rfl rfl (by decide) lk0 rfl (v := .int v_size) rfl dX7_write_16 ?_
    refine q_iload_n C dX7_write_19 1 rfl rfl ?_
    obtain ⟨hc2, hF⟩ := ite_c hF
    refine q_iast C 1 0 rfl rfl (ix_in hc2) ([(o, .inr (7, [.ref o_signs, .int v_size])), (o_signs, .inl (cI, 60, .inl (upd v_signs (v_size).toNatClampNeg p1)))]) rfl dX7_write_20 ?_
    refine q_aload_n C dX7_write_21 0 rfl rfl ?_
    refine q_dup C dX7_write_22 rfl ?_
    refine q_get (C0 := RX7) (T := TX7) (N := 2) (k0 := 1) C lk1 0 rfl rfl (by decide) lk0 rfl (v := .int v_size) rfl dX7_write_23 ?_
    refine q_iconst (v := (1 : Int32)) C dX7_write_26 (by decide) ?_
    refine q_iadd C dX7_write_27 ?_
    refine q_put (C0 := RX7) (T := TX7) (N := 2) (k0 := 1) C lk1 0 rfl rfl (by decide) lk0 rfl tyX7 tyX7_ok nmX7 rfl (v := .int (v_size + (1 : Int32))) rfl rfl (Nat.le_of_ble_eq_true rfl) ([(o, .inr (7, [.ref o_signs, .int (v_size + (1 : Int32))])), (o_signs, .inl (cI, 60, .inl (upd v_signs (v_size).toNatClampNeg p1)))]) rfl dX7_write_28 ?_
    refine q_iconst (v := (1 : Int32)) C dX7_write_31 (by decide) ?_
    cases hF
    exact q_wretz C hr (Or.inr rfl) dX7_write_32 hQ
  · have hF := ite_f hF c1
    refine q_iconst (v := (0 : Int32)) C dX7_write_9 (by decide) ?_
    cases hF
    exact q_wretz C hr (Or.inl rfl) dX7_write_10 hQ
set_option maxRecDepth 100000 in
set_option maxHeartbeats 4000000 in
theorem c_X7_isClause (l : Launch) (dC : Nat → ClassId) (dI : Nat → Nat → Nat) (cI cZ cQ : ClassId) (p1 : Int32) (R : Int32) (hF : f_Pad_isClause p1 = R) (sz : Nat) : Met l yX7_isClause wsX7_isClause ({ frames := 1, cells := 0, slots := 0, locals := 22 } : Room) (qPc ([.int p1]) (dC, dI) (qT cI cZ cQ) ([]) sz) (qRz R) 0 0 (fun _ => False) := by
  refine q_met_r (cc := cX7_isClause) (own := RX7) (maxL := 1) (ret := (some .boolean)) (lv0 := [(0, .int p1)]) (by decide) rfl rfl rfl (Nat.le_of_ble_eq_true rfl) ?_
  intro p e s m args below meth c C hr A A' Q hA0 hQ
  have lk0 : Cond.initialized RX11 ∈ wsX7_isClause := by decide +kernel
  have lk1 : Cond.static yX11_within ∈ wsX7_isClause := by decide +kernel
  have lk2 : (RX7, 30, yX11_within) ∈ qNest := by decide +kernel
  unfold f_Pad_isClause at hF
  refine q_iload_n C dX7_isClause_0 0 rfl rfl ?_
  refine q_bipush (v := (97 : Int32)) C dX7_isClause_1 (by decide) ?_
  refine q_bipush (v := (106 : Int32)) C dX7_isClause_3 (by decide) ?_
  refine q_roz (q_runSN (As := [.int p1, .int (97 : Int32), .int (106 : Int32)]) (rest := []) (n := 3) C (fun sz => c_X11_within l dC dI cI cZ cQ p1 (97 : Int32) (106 : Int32) (f_Strait_within p1 (97 : Int32) (106 : Int32)) rfl sz) gX7_isClause_X11_within_n30 rfl rfl rfl lk2 lk0 lk1 (by decide +kernel) ⟨Nat.le_of_ble_eq_true rfl, Nat.le_of_ble_eq_true rfl⟩ [] rfl rfl rfl rfl (Nat.le_of_ble_eq_true rfl) dX7_isClause_5 ⟨Nat.zero_le _, Nat.zero_le _⟩) (fun hz1 => ?_)
  subst hF
  exact q_iretz C hA0 hr hz1 dX7_isClause_8 hQ
set_option maxRecDepth 100000 in
set_option maxHeartbeats 4000000 in
theorem c_X7_awaitedBehind (l : Launch) (dC : Nat → ClassId) (dI : Nat → Nat → Nat) (cI cZ cQ : ClassId) (p1 : Int32) (p2 : Int32) (R : Int32) (hF : f_Pad_awaitedBehind p1 p2 = R) (sz : Nat) : Met l yX7_awaitedBehind wsX7_awaitedBehind ({ frames := 2, cells := 0, slots := 0, locals := 42 } : Room) (qPc ([.int p1, .int p2]) (dC, dI) (qT cI cZ cQ) ([]) sz) (qRi R) 0 0 (fun _ => False) := by
  refine q_met_r (cc := cX7_awaitedBehind) (own := RX7) (maxL := 2) (ret := (some .int)) (lv0 := [(0, .int p1), (1, .int p2)]) (by decide) rfl rfl rfl (Nat.le_of_ble_eq_true rfl) ?_
  intro p e s m args below meth c C hr A A' Q hA0 hQ
  unfold f_Pad_awaitedBehind at hF
  refine q_iload_n C dX7_awaitedBehind_0 0 rfl rfl ?_
  refine q_if_ne (tgt := 32) C dX7_awaitedBehind_1 (by decide) (fun c1 => ?_) (fun c1 => ?_)
  · have hF := ite_f hF c1
    refine q_iload_n C dX7_awaitedBehind_32 0 rfl rfl ?_
    refine q_iconst (v := (1 : Int32)) C dX7_awaitedBehind_33 (by decide) ?_
    refine q_icmp_ne (tgt := 63) C dX7_awaitedBehind_34 (by decide) (fun c2 => ?_) (fun c2 => ?_)
    · have hF := ite_f hF c2
      refine q_iload_n C dX7_awaitedBehind_63 1 rfl rfl ?_
      refine q_roz (q_runS (As := [.int p2]) (rest := []) C (fun sz => c_X7_isHerd l dC dI cI cZ cQ p2 (f_Pad_isHerd p2) rfl sz) (va_cwS 1 C.2.2.2.2.1 gX7_awaitedBehind_X7_isHerd rfl rfl rfl (by decide +kernel) ⟨Nat.le_of_ble_eq_true rfl, Nat.le_of_ble_eq_true rfl⟩) [] rfl rfl rfl rfl (Nat.le_of_ble_eq_true rfl) dX7_awaitedBehind_64 ⟨Nat.zero_le _, Nat.zero_le _⟩) (fun hz3 => ?_)
      refine q_if_eq (tgt := 74) C dX7_awaitedBehind_67 (by decide) (fun c4 => ?_) (fun c4 => ?_)
      · have hF := ite_t hF c4
        refine q_iconst (v := (3 : Int32)) C dX7_awaitedBehind_74 (by decide) ?_
        subst hF
        exact q_ireti C hA0 hr dX7_awaitedBehind_75 hQ
      · have hF := ite_f hF c4
        refine q_iconst (v := (0 : Int32)) C dX7_awaitedBehind_70 (by decide) ?_
        refine q_goto (tgt := 75) C dX7_awaitedBehind_71 (by decide) ?_
        subst hF
        exact q_ireti C hA0 hr dX7_awaitedBehind_75 hQ
    · have hF := ite_t hF c2
      refine q_iload_n C dX7_awaitedBehind_37 1 rfl rfl ?_
      refine q_bipush (v := (38 : Int32)) C dX7_awaitedBehind_38 (by decide) ?_
      refine q_icmp_ne (tgt := 45) C dX7_awaitedBehind_40 (by decide) (fun c5 => ?_) (fun c5 => ?_)
      · have hF := ite_f hF c5
        refine q_iload_n C dX7_awaitedBehind_45 1 rfl rfl ?_
        refine q_bipush (v := (63 : Int32)) C dX7_awaitedBehind_46 (by decide) ?_
        refine q_icmp_eq (tgt := 57) C dX7_awaitedBehind_48 (by decide) (fun c6 => ?_) (fun c6 => ?_)
        · have hF := ite_t hF c6
          refine q_iconst (v := (0 : Int32)) C dX7_awaitedBehind_57 (by decide) ?_
          refine q_goto (tgt := 62) C dX7_awaitedBehind_58 (by decide) ?_
          subst hF
          exact q_ireti C hA0 hr dX7_awaitedBehind_62 hQ
        · have hF := ite_f hF c6
          refine q_iload_n C dX7_awaitedBehind_51 1 rfl rfl ?_
          refine q_bipush (v := (33 : Int32)) C dX7_awaitedBehind_52 (by decide) ?_
          refine q_icmp_ne (tgt := 61) C dX7_awaitedBehind_54 (by decide) (fun c7 => ?_) (fun c7 => ?_)
          · have hF := ite_f hF c7
            refine q_iconst (v := (3 : Int32)) C dX7_awaitedBehind_61 (by decide) ?_
            subst hF
            exact q_ireti C hA0 hr dX7_awaitedBehind_62 hQ
          · have hF := ite_t hF c7
            refine q_iconst (v := (0 : Int32)) C dX7_awaitedBehind_57 (by decide) ?_
            refine q_goto (tgt := 62) C dX7_awaitedBehind_58 (by decide) ?_
            subst hF
            exact q_ireti C hA0 hr dX7_awaitedBehind_62 hQ
      · have hF := ite_t hF c5
        refine q_iconst (v := (2 : Int32)) C dX7_awaitedBehind_43 (by decide) ?_
        subst hF
        exact q_ireti C hA0 hr dX7_awaitedBehind_44 hQ
  · have hF := ite_t hF c1
    refine q_iload_n C dX7_awaitedBehind_4 1 rfl rfl ?_
    refine q_roz (q_runS (As := [.int p2]) (rest := []) C (fun sz => c_X7_isHerd l dC dI cI cZ cQ p2 (f_Pad_isHerd p2) rfl sz) (va_cwS 1 C.2.2.2.2.1 gX7_awaitedBehind_X7_isHerd rfl rfl rfl (by decide +kernel) ⟨Nat.le_of_ble_eq_true rfl, Nat.le_of_ble_eq_true rfl⟩) [] rfl rfl rfl rfl (Nat.le_of_ble_eq_true rfl) dX7_awaitedBehind_5 ⟨Nat.zero_le _, Nat.zero_le _⟩) (fun hz8 => ?_)
    refine q_if_eq (tgt := 13) C dX7_awaitedBehind_8 (by decide) (fun c9 => ?_) (fun c9 => ?_)
    · have hF := ite_t hF c9
      refine q_iload_n C dX7_awaitedBehind_13 1 rfl rfl ?_
      refine q_roz (q_runS (As := [.int p2]) (rest := []) C (fun sz => c_X7_isClause l dC dI cI cZ cQ p2 (f_Pad_isClause p2) rfl sz) (va_cwS 1 C.2.2.2.2.1 gX7_awaitedBehind_X7_isClause rfl rfl rfl (by decide +kernel) ⟨Nat.le_of_ble_eq_true rfl, Nat.le_of_ble_eq_true rfl⟩) [] rfl rfl rfl rfl (Nat.le_of_ble_eq_true rfl) dX7_awaitedBehind_14 ⟨Nat.zero_le _, Nat.zero_le _⟩) (fun hz10 => ?_)
      refine q_if_ne (tgt := 26) C dX7_awaitedBehind_17 (by decide) (fun c11 => ?_) (fun c11 => ?_)
      · have hF := ite_f hF c11
        refine q_iconst (v := (0 : Int32)) C dX7_awaitedBehind_26 (by decide) ?_
        refine q_goto (tgt := 31) C dX7_awaitedBehind_27 (by decide) ?_
        subst hF
        exact q_ireti C hA0 hr dX7_awaitedBehind_31 hQ
      · have hF := ite_t hF c11
        refine q_iload_n C dX7_awaitedBehind_20 1 rfl rfl ?_
        refine q_bipush (v := (46 : Int32)) C dX7_awaitedBehind_21 (by decide) ?_
        refine q_icmp_ne (tgt := 30) C dX7_awaitedBehind_23 (by decide) (fun c12 => ?_) (fun c12 => ?_)
        · have hF := ite_f hF c12
          refine q_iconst (v := (3 : Int32)) C dX7_awaitedBehind_30 (by decide) ?_
          subst hF
          exact q_ireti C hA0 hr dX7_awaitedBehind_31 hQ
        · have hF := ite_t hF c12
          refine q_iconst (v := (0 : Int32)) C dX7_awaitedBehind_26 (by decide) ?_
          refine q_goto (tgt := 31) C dX7_awaitedBehind_27 (by decide) ?_
          subst hF
          exact q_ireti C hA0 hr dX7_awaitedBehind_31 hQ
    · have hF := ite_f hF c9
      refine q_iconst (v := (1 : Int32)) C dX7_awaitedBehind_11 (by decide) ?_
      subst hF
      exact q_ireti C hA0 hr dX7_awaitedBehind_12 hQ
set_option maxRecDepth 100000 in
set_option maxHeartbeats 4000000 in
theorem c_X7_faultPlace (l : Launch) (dC : Nat → ClassId) (dI : Nat → Nat → Nat) (cI cZ cQ : ClassId) (o o_signs : Nat) (v_signs : Nat → Int32) (v_size : Int32) (R : Int32) (hF : f_Pad_faultPlace v_signs v_size = some R) (sz : Nat) : Met l yX7_faultPlace wsX7_faultPlace ({ frames := 3, cells := 0, slots := 0, locals := 63 } : Room) (qPc ([.ref o]) (dC, dI) (qT cI cZ cQ) ([(o, .inr (7, [.ref o_signs, .int v_size])), (o_signs, .inl (cI, 60, .inl v_signs))]) sz) (qRi R) 0 0 (fun _ => False) := by
  refine q_met_r (cc := cX7_faultPlace) (own := RX7) (maxL := 3) (ret := (some .int)) (lv0 := [(0, .ref o)]) (by decide) rfl rfl rfl (Nat.le_of_ble_eq_true rfl) ?_
  intro p e s m args below meth c C hr A A' Q hA0 hQ
  have lk0 : Cond.fieldLink RX7 15 "SealStrait$Pad" "size" "I" ∈ wsX7_faultPlace := by decide +kernel
  have lk1 : ∀ w ∈ u_ws RX7 TX7 2, w ∈ wsX7_faultPlace := fun w h => List.mem_cons_of_mem _ (List.mem_append_right _ h)
  have lk2 : Cond.fieldLink RX7 11 "SealStrait$Pad" "signs" "[I" ∈ wsX7_faultPlace := by decide +kernel
  have L1 : ∀ (n : Nat) (x1 : Int32) (x2 : Int32) (v_signs : Nat → Int32) (v_size : Int32), evr (fun s => b_Pad_faultPlace_1 v_signs v_size s.1 s.2) n (x1, x2) = some R → qG p l e ({ frames := 3, cells := 0, slots := 0, locals := 63 } : Room) s m args below meth c 3 (dC, dI) A A' Q 0 0 ([(0, .ref o), (1, .int x1), (2, .int x2)]) [] ([(o, .inr (7, [.ref o_signs, .int v_size])), (o_signs, .inl (cI, 60, .inl v_signs))]) 4 := by
    clear hF
    intro n
    induction n with
    | zero => intro x1 x2 v_signs v_size  hF; exact (evr_0 hF).elim
    | succ n ih =>
      intro x1 x2 v_signs v_size  hF
      obtain ⟨o9, hB, hn, hx⟩ := evr_c hF
      have hF : b_Pad_faultPlace_1 v_signs v_size x1 x2 = some o9 := hB
      unfold b_Pad_faultPlace_1 at hF
      refine q_iload_n C dX7_faultPlace_4 2 rfl rfl ?_
      refine q_aload_n C dX7_faultPlace_5 0 rfl rfl ?_
      refine q_get (C0 := RX7) (T := TX7) (N := 2) (k0 := 1) C lk1 0 rfl rfl (by decide) lk0 rfl (v := .int v_size) rfl dX7_faultPlace_6 ?_
      refine q_icmp_ge (tgt := 42) C dX7_faultPlace_9 (by decide) (fun c1 => ?_) (fun c1 => ?_)
      · have hF := ite_t hF c1
        refine q_iload_n C dX7_faultPlace_42 1 rfl rfl ?_
        refine q_if_ne (tgt := 51) C dX7_faultPlace_43 (by decide) (fun c2 => ?_) (fun c2 => ?_)
        · have hF := ite_f hF c2
          refine q_aload_n C dX7_faultPlace_51 0 rfl rfl ?_
          refine q_get (C0 := RX7) (T := TX7) (N := 2) (k0 := 1) C lk1 0 rfl rfl (by decide) lk0 rfl (v := .int v_size) rfl dX7_faultPlace_52 ?_
          cases hF
          have e3 := hx _ rfl
          cases e3
          exact q_ireti C hA0 hr dX7_faultPlace_55 hQ
        · have hF := ite_t hF c2
          refine q_bipush (v := (-6 : Int32)) C dX7_faultPlace_46 (by decide) ?_
          refine q_goto (tgt := 55) C dX7_faultPlace_48 (by decide) ?_
          cases hF
          have e4 := hx _ rfl
          cases e4
          exact q_ireti C hA0 hr dX7_faultPlace_55 hQ
      · have hF := ite_f hF c1
        refine q_iload_n C dX7_faultPlace_12 2 rfl rfl ?_
        refine q_bipush (v := (60 : Int32)) C dX7_faultPlace_13 (by decide) ?_
        refine q_icmp_ge (tgt := 42) C dX7_faultPlace_15 (by decide) (fun c5 => ?_) (fun c5 => ?_)
        · have hF := ite_t hF c5
          refine q_iload_n C dX7_faultPlace_42 1 rfl rfl ?_
          refine q_if_ne (tgt := 51) C dX7_faultPlace_43 (by decide) (fun c6 => ?_) (fun c6 => ?_)
          · have hF := ite_f hF c6
            refine q_aload_n C dX7_faultPlace_51 0 rfl rfl ?_
            refine q_get (C0 := RX7) (T := TX7) (N := 2) (k0 := 1) C lk1 0 rfl rfl (by decide) lk0 rfl (v := .int v_size) rfl dX7_faultPlace_52 ?_
            cases hF
            have e7 := hx _ rfl
            cases e7
            exact q_ireti C hA0 hr dX7_faultPlace_55 hQ
          · have hF := ite_t hF c6
            refine q_bipush (v := (-6 : Int32)) C dX7_faultPlace_46 (by decide) ?_
            refine q_goto (tgt := 55) C dX7_faultPlace_48 (by decide) ?_
            cases hF
            have e8 := hx _ rfl
            cases e8
            exact q_ireti C hA0 hr dX7_faultPlace_55 hQ
        · have hF := ite_f hF c5
          refine q_iload_n C dX7_faultPlace_18 1 rfl rfl ?_
          refine q_aload_n C dX7_faultPlace_19 0 rfl rfl ?_
          refine q_get (C0 := RX7) (T := TX7) (N := 2) (k0 := 0) C lk1 0 rfl rfl (by decide) lk2 rfl (v := .ref o_signs) rfl dX7_faultPlace_20 ?_
          refine q_iload_n C dX7_faultPlace_23 2 rfl rfl ?_
          obtain ⟨hc9, hF⟩ := ite_c hF
          refine q_iald C 1 0 rfl rfl (ix_in hc9) dX7_faultPlace_24 ?_
          refine q_roi (q_runS (As := [.int x1, .int (v_signs (x2).toNatClampNeg)]) (rest := []) C (fun sz => c_X7_awaitedBehind l dC dI cI cZ cQ x1 (v_signs (x2).toNatClampNeg) (f_Pad_awaitedBehind x1 (v_signs (x2).toNatClampNeg)) rfl sz) (va_cwS 2 C.2.2.2.2.1 gX7_faultPlace_X7_awaitedBehind rfl rfl rfl (by decide +kernel) ⟨Nat.le_of_ble_eq_true rfl, Nat.le_of_ble_eq_true rfl⟩) [] rfl rfl rfl rfl (Nat.le_of_ble_eq_true rfl) dX7_faultPlace_25 ⟨Nat.zero_le _, Nat.zero_le _⟩) ?_
          refine q_istore_n C ([(1, .int (f_Pad_awaitedBehind x1 (v_signs (x2).toNatClampNeg))), (0, .ref o), (2, .int x2)]) dX7_faultPlace_28 rfl (by decide) rfl ?_
          refine q_iload_n C dX7_faultPlace_29 0 rfl rfl ?_
          refine q_iconst (v := (3 : Int32)) C dX7_faultPlace_30 (by decide) ?_
          refine q_icmp_ne (tgt := 36) C dX7_faultPlace_31 (by decide) (fun c11 => ?_) (fun c11 => ?_)
          · have hF := ite_f hF c11
            refine q_iinc (v := (x2 + 1)) C ([(2, .int (x2 + 1)), (1, .int (f_Pad_awaitedBehind x1 (v_signs (x2).toNatClampNeg))), (0, .ref o)]) dX7_faultPlace_36 2 rfl rfl (by decide) rfl ?_
            refine q_goto (tgt := 4) C dX7_faultPlace_39 (by decide) ?_
            cases hF
            refine q_lsel [2, 1, 0] rfl ?_
            exact ih (f_Pad_awaitedBehind x1 (v_signs (x2).toNatClampNeg)) (x2 + 1) v_signs v_size (hn _ rfl)
          · have hF := ite_t hF c11
            refine q_iload_n C dX7_faultPlace_34 2 rfl rfl ?_
            cases hF
            have e12 := hx _ rfl
            cases e12
            exact q_ireti C hA0 hr dX7_faultPlace_35 hQ
  unfold f_Pad_faultPlace at hF
  refine q_iconst (v := (0 : Int32)) C dX7_faultPlace_0 (by decide) ?_
  refine q_istore_n C ([(1, .int (0 : Int32)), (0, .ref o)]) dX7_faultPlace_1 rfl (by decide) rfl ?_
  refine q_iconst (v := (0 : Int32)) C dX7_faultPlace_2 (by decide) ?_
  refine q_istore_n C ([(2, .int (0 : Int32)), (1, .int (0 : Int32)), (0, .ref o)]) dX7_faultPlace_3 rfl (by decide) rfl ?_
  obtain ⟨n13, hF⟩ := (ev_iff _ _ _).mp hF
  refine q_lsel [2, 1, 0] rfl ?_
  exact L1 n13 (0 : Int32) (0 : Int32) v_signs v_size hF
set_option maxRecDepth 100000 in
set_option maxHeartbeats 4000000 in
theorem c_J6_bitCount_0f7a4 (l : Launch) (dC : Nat → ClassId) (dI : Nat → Nat → Nat) (cI cZ cQ : ClassId) (p1 : Int32) (R : Int32) (hF : f_Integer_bitCount p1 = R) (sz : Nat) : Met l yJ6_bitCount_0f7a4 wsJ6_bitCount_0f7a4 ({ frames := 0, cells := 0, slots := 0, locals := 0 } : Room) (qPc ([.int p1]) (dC, dI) (qT cI cZ cQ) ([]) sz) (qRi R) 0 0 (fun _ => False) := by
  refine q_met_r (cc := cJ6_bitCount_0f7a4) (own := RJ6) (maxL := 1) (ret := (some .int)) (lv0 := [(0, .int p1)]) (by decide) rfl rfl rfl (Nat.le_of_ble_eq_true rfl) ?_
  intro p e s m args below meth c C hr A A' Q hA0 hQ
  have lk0 : Cond.constant RJ6 265 (1431655765 : Int32) ∈ wsJ6_bitCount_0f7a4 := by decide +kernel
  have lk1 : Cond.constant RJ6 266 (858993459 : Int32) ∈ wsJ6_bitCount_0f7a4 := by decide +kernel
  have lk2 : Cond.constant RJ6 267 (252645135 : Int32) ∈ wsJ6_bitCount_0f7a4 := by decide +kernel
  unfold f_Integer_bitCount at hF
  refine q_iload_n C dJ6_bitCount_0f7a4_0 0 rfl rfl ?_
  refine q_iload_n C dJ6_bitCount_0f7a4_1 0 rfl rfl ?_
  refine q_iconst (v := (1 : Int32)) C dJ6_bitCount_0f7a4_2 (by decide) ?_
  refine q_iushr C dJ6_bitCount_0f7a4_3 ?_
  refine q_ldcw (v := (1431655765 : Int32)) C lk0 dJ6_bitCount_0f7a4_4 ?_
  refine q_iand C dJ6_bitCount_0f7a4_7 ?_
  refine q_isub C dJ6_bitCount_0f7a4_8 ?_
  refine q_istore_n C ([(0, .int (p1 - ((((p1).toUInt32 >>> (((1 : Int32)).toUInt32 &&& Int32.toUInt32 31)).toInt32) &&& (1431655765 : Int32))))]) dJ6_bitCount_0f7a4_9 rfl (by decide) rfl ?_
  refine q_iload_n C dJ6_bitCount_0f7a4_10 0 rfl rfl ?_
  refine q_ldcw (v := (858993459 : Int32)) C lk1 dJ6_bitCount_0f7a4_11 ?_
  refine q_iand C dJ6_bitCount_0f7a4_14 ?_
  refine q_iload_n C dJ6_bitCount_0f7a4_15 0 rfl rfl ?_
  refine q_iconst (v := (2 : Int32)) C dJ6_bitCount_0f7a4_16 (by decide) ?_
  refine q_iushr C dJ6_bitCount_0f7a4_17 ?_
  refine q_ldcw (v := (858993459 : Int32)) C lk1 dJ6_bitCount_0f7a4_18 ?_
  refine q_iand C dJ6_bitCount_0f7a4_21 ?_
  refine q_iadd C dJ6_bitCount_0f7a4_22 ?_
  refine q_istore_n C ([(0, .int (((p1 - ((((p1).toUInt32 >>> (((1 : Int32)).toUInt32 &&& Int32.toUInt32 31)).toInt32) &&& (1431655765 : Int32))) &&& (858993459 : Int32)) + (((((p1 - ((((p1).toUInt32 >>> (((1 : Int32)).toUInt32 &&& Int32.toUInt32 31)).toInt32) &&& (1431655765 : Int32)))).toUInt32 >>> (((2 : Int32)).toUInt32 &&& Int32.toUInt32 31)).toInt32) &&& (858993459 : Int32))))]) dJ6_bitCount_0f7a4_23 rfl (by decide) rfl ?_
  refine q_iload_n C dJ6_bitCount_0f7a4_24 0 rfl rfl ?_
  refine q_iload_n C dJ6_bitCount_0f7a4_25 0 rfl rfl ?_
  refine q_iconst (v := (4 : Int32)) C dJ6_bitCount_0f7a4_26 (by decide) ?_
  refine q_iushr C dJ6_bitCount_0f7a4_27 ?_
  refine q_iadd C dJ6_bitCount_0f7a4_28 ?_
  refine q_ldcw (v := (252645135 : Int32)) C lk2 dJ6_bitCount_0f7a4_29 ?_
  refine q_iand C dJ6_bitCount_0f7a4_32 ?_
  refine q_istore_n C ([(0, .int (((((p1 - ((((p1).toUInt32 >>> (((1 : Int32)).toUInt32 &&& Int32.toUInt32 31)).toInt32) &&& (1431655765 : Int32))) &&& (858993459 : Int32)) + (((((p1 - ((((p1).toUInt32 >>> (((1 : Int32)).toUInt32 &&& Int32.toUInt32 31)).toInt32) &&& (1431655765 : Int32)))).toUInt32 >>> (((2 : Int32)).toUInt32 &&& Int32.toUInt32 31)).toInt32) &&& (858993459 : Int32))) + ((((((p1 - ((((p1).toUInt32 >>> (((1 : Int32)).toUInt32 &&& Int32.toUInt32 31)).toInt32) &&& (1431655765 : Int32))) &&& (858993459 : Int32)) + (((((p1 - ((((p1).toUInt32 >>> (((1 : Int32)).toUInt32 &&& Int32.toUInt32 31)).toInt32) &&& (1431655765 : Int32)))).toUInt32 >>> (((2 : Int32)).toUInt32 &&& Int32.toUInt32 31)).toInt32) &&& (858993459 : Int32)))).toUInt32 >>> (((4 : Int32)).toUInt32 &&& Int32.toUInt32 31)).toInt32)) &&& (252645135 : Int32)))]) dJ6_bitCount_0f7a4_33 rfl (by decide) rfl ?_
  refine q_iload_n C dJ6_bitCount_0f7a4_34 0 rfl rfl ?_
  refine q_iload_n C dJ6_bitCount_0f7a4_35 0 rfl rfl ?_
  refine q_bipush (v := (8 : Int32)) C dJ6_bitCount_0f7a4_36 (by decide) ?_
  refine q_iushr C dJ6_bitCount_0f7a4_38 ?_
  refine q_iadd C dJ6_bitCount_0f7a4_39 ?_
  refine q_istore_n C ([(0, .int ((((((p1 - ((((p1).toUInt32 >>> (((1 : Int32)).toUInt32 &&& Int32.toUInt32 31)).toInt32) &&& (1431655765 : Int32))) &&& (858993459 : Int32)) + (((((p1 - ((((p1).toUInt32 >>> (((1 : Int32)).toUInt32 &&& Int32.toUInt32 31)).toInt32) &&& (1431655765 : Int32)))).toUInt32 >>> (((2 : Int32)).toUInt32 &&& Int32.toUInt32 31)).toInt32) &&& (858993459 : Int32))) + ((((((p1 - ((((p1).toUInt32 >>> (((1 : Int32)).toUInt32 &&& Int32.toUInt32 31)).toInt32) &&& (1431655765 : Int32))) &&& (858993459 : Int32)) + (((((p1 - ((((p1).toUInt32 >>> (((1 : Int32)).toUInt32 &&& Int32.toUInt32 31)).toInt32) &&& (1431655765 : Int32)))).toUInt32 >>> (((2 : Int32)).toUInt32 &&& Int32.toUInt32 31)).toInt32) &&& (858993459 : Int32)))).toUInt32 >>> (((4 : Int32)).toUInt32 &&& Int32.toUInt32 31)).toInt32)) &&& (252645135 : Int32)) + ((((((((p1 - ((((p1).toUInt32 >>> (((1 : Int32)).toUInt32 &&& Int32.toUInt32 31)).toInt32) &&& (1431655765 : Int32))) &&& (858993459 : Int32)) + (((((p1 - ((((p1).toUInt32 >>> (((1 : Int32)).toUInt32 &&& Int32.toUInt32 31)).toInt32) &&& (1431655765 : Int32)))).toUInt32 >>> (((2 : Int32)).toUInt32 &&& Int32.toUInt32 31)).toInt32) &&& (858993459 : Int32))) + ((((((p1 - ((((p1).toUInt32 >>> (((1 : Int32)).toUInt32 &&& Int32.toUInt32 31)).toInt32) &&& (1431655765 : Int32))) &&& (858993459 : Int32)) + (((((p1 - ((((p1).toUInt32 >>> (((1 : Int32)).toUInt32 &&& Int32.toUInt32 31)).toInt32) &&& (1431655765 : Int32)))).toUInt32 >>> (((2 : Int32)).toUInt32 &&& Int32.toUInt32 31)).toInt32) &&& (858993459 : Int32)))).toUInt32 >>> (((4 : Int32)).toUInt32 &&& Int32.toUInt32 31)).toInt32)) &&& (252645135 : Int32))).toUInt32 >>> (((8 : Int32)).toUInt32 &&& Int32.toUInt32 31)).toInt32)))]) dJ6_bitCount_0f7a4_40 rfl (by decide) rfl ?_
  refine q_iload_n C dJ6_bitCount_0f7a4_41 0 rfl rfl ?_
  refine q_iload_n C dJ6_bitCount_0f7a4_42 0 rfl rfl ?_
  refine q_bipush (v := (16 : Int32)) C dJ6_bitCount_0f7a4_43 (by decide) ?_
  refine q_iushr C dJ6_bitCount_0f7a4_45 ?_
  refine q_iadd C dJ6_bitCount_0f7a4_46 ?_
  refine q_istore_n C ([(0, .int (((((((p1 - ((((p1).toUInt32 >>> (((1 : Int32)).toUInt32 &&& Int32.toUInt32 31)).toInt32) &&& (1431655765 : Int32))) &&& (858993459 : Int32)) + (((((p1 - ((((p1).toUInt32 >>> (((1 : Int32)).toUInt32 &&& Int32.toUInt32 31)).toInt32) &&& (1431655765 : Int32)))).toUInt32 >>> (((2 : Int32)).toUInt32 &&& Int32.toUInt32 31)).toInt32) &&& (858993459 : Int32))) + ((((((p1 - ((((p1).toUInt32 >>> (((1 : Int32)).toUInt32 &&& Int32.toUInt32 31)).toInt32) &&& (1431655765 : Int32))) &&& (858993459 : Int32)) + (((((p1 - ((((p1).toUInt32 >>> (((1 : Int32)).toUInt32 &&& Int32.toUInt32 31)).toInt32) &&& (1431655765 : Int32)))).toUInt32 >>> (((2 : Int32)).toUInt32 &&& Int32.toUInt32 31)).toInt32) &&& (858993459 : Int32)))).toUInt32 >>> (((4 : Int32)).toUInt32 &&& Int32.toUInt32 31)).toInt32)) &&& (252645135 : Int32)) + ((((((((p1 - ((((p1).toUInt32 >>> (((1 : Int32)).toUInt32 &&& Int32.toUInt32 31)).toInt32) &&& (1431655765 : Int32))) &&& (858993459 : Int32)) + (((((p1 - ((((p1).toUInt32 >>> (((1 : Int32)).toUInt32 &&& Int32.toUInt32 31)).toInt32) &&& (1431655765 : Int32)))).toUInt32 >>> (((2 : Int32)).toUInt32 &&& Int32.toUInt32 31)).toInt32) &&& (858993459 : Int32))) + ((((((p1 - ((((p1).toUInt32 >>> (((1 : Int32)).toUInt32 &&& Int32.toUInt32 31)).toInt32) &&& (1431655765 : Int32))) &&& (858993459 : Int32)) + (((((p1 - ((((p1).toUInt32 >>> (((1 : Int32)).toUInt32 &&& Int32.toUInt32 31)).toInt32) &&& (1431655765 : Int32)))).toUInt32 >>> (((2 : Int32)).toUInt32 &&& Int32.toUInt32 31)).toInt32) &&& (858993459 : Int32)))).toUInt32 >>> (((4 : Int32)).toUInt32 &&& Int32.toUInt32 31)).toInt32)) &&& (252645135 : Int32))).toUInt32 >>> (((8 : Int32)).toUInt32 &&& Int32.toUInt32 31)).toInt32)) + (((((((((p1 - ((((p1).toUInt32 >>> (((1 : Int32)).toUInt32 &&& Int32.toUInt32 31)).toInt32) &&& (1431655765 : Int32))) &&& (858993459 : Int32)) + (((((p1 - ((((p1).toUInt32 >>> (((1 : Int32)).toUInt32 &&& Int32.toUInt32 31)).toInt32) &&& (1431655765 : Int32)))).toUInt32 >>> (((2 : Int32)).toUInt32 &&& Int32.toUInt32 31)).toInt32) &&& (858993459 : Int32))) + ((((((p1 - ((((p1).toUInt32 >>> (((1 : Int32)).toUInt32 &&& Int32.toUInt32 31)).toInt32) &&& (1431655765 : Int32))) &&& (858993459 : Int32)) + (((((p1 - ((((p1).toUInt32 >>> (((1 : Int32)).toUInt32 &&& Int32.toUInt32 31)).toInt32) &&& (1431655765 : Int32)))).toUInt32 >>> (((2 : Int32)).toUInt32 &&& Int32.toUInt32 31)).toInt32) &&& (858993459 : Int32)))).toUInt32 >>> (((4 : Int32)).toUInt32 &&& Int32.toUInt32 31)).toInt32)) &&& (252645135 : Int32)) + ((((((((p1 - ((((p1).toUInt32 >>> (((1 : Int32)).toUInt32 &&& Int32.toUInt32 31)).toInt32) &&& (1431655765 : Int32))) &&& (858993459 : Int32)) + (((((p1 - ((((p1).toUInt32 >>> (((1 : Int32)).toUInt32 &&& Int32.toUInt32 31)).toInt32) &&& (1431655765 : Int32)))).toUInt32 >>> (((2 : Int32)).toUInt32 &&& Int32.toUInt32 31)).toInt32) &&& (858993459 : Int32))) + ((((((p1 - ((((p1).toUInt32 >>> (((1 : Int32)).toUInt32 &&& Int32.toUInt32 31)).toInt32) &&& (1431655765 : Int32))) &&& (858993459 : Int32)) + (((((p1 - ((((p1).toUInt32 >>> (((1 : Int32)).toUInt32 &&& Int32.toUInt32 31)).toInt32) &&& (1431655765 : Int32)))).toUInt32 >>> (((2 : Int32)).toUInt32 &&& Int32.toUInt32 31)).toInt32) &&& (858993459 : Int32)))).toUInt32 >>> (((4 : Int32)).toUInt32 &&& Int32.toUInt32 31)).toInt32)) &&& (252645135 : Int32))).toUInt32 >>> (((8 : Int32)).toUInt32 &&& Int32.toUInt32 31)).toInt32))).toUInt32 >>> (((16 : Int32)).toUInt32 &&& Int32.toUInt32 31)).toInt32)))]) dJ6_bitCount_0f7a4_47 rfl (by decide) rfl ?_
  refine q_iload_n C dJ6_bitCount_0f7a4_48 0 rfl rfl ?_
  refine q_bipush (v := (63 : Int32)) C dJ6_bitCount_0f7a4_49 (by decide) ?_
  refine q_iand C dJ6_bitCount_0f7a4_51 ?_
  subst hF
  exact q_ireti C hA0 hr dJ6_bitCount_0f7a4_52 hQ
end
