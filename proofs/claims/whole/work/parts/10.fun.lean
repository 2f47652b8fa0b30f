/-! the methods as functions, by program out of the bytecode (wip/whole/gen/gen.py): none: a wrong index, a divisor 0, a boolean that is none, no end -/
/-- SealStrait$Act.set -/
noncomputable def f_Act_set (v_kind : Int32) (v_one : Int32) (v_other : Int32) (p1 : Int32) (p2 : Int32) (p3 : Int32) : Option (Int32 × Int32 × Int32) :=
  some (p1, p2, p3)
/-- SealStrait$Pad.signAt -/
noncomputable def f_Pad_signAt (v_signs : Nat → Int32) (v_size : Int32) (p1 : Int32) : Option (Int32) :=
  if p1 < 0 then
    some (0 : Int32)
  else
  if v_size ≤ p1 then
    some (0 : Int32)
  else
  if (60 : Int32) ≤ p1 then
    some (0 : Int32)
  else
  if ix p1 60 = true then
  some (v_signs (p1).toNatClampNeg)
  else none
/-- SealStrait.within -/
noncomputable def f_Strait_within (p1 : Int32) (p2 : Int32) (p3 : Int32) : Int32 :=
  if p1 < p2 then
    (0 : Int32)
  else
  if p3 < p1 then
    (0 : Int32)
  else
  (1 : Int32)
/-- SealStrait$Pad.isHerd -/
noncomputable def f_Pad_isHerd (p1 : Int32) : Int32 :=
  (f_Strait_within p1 (65 : Int32) (70 : Int32))
/-- SealStrait$Act.takeFrom -/
noncomputable def f_Act_takeFrom (v_kind : Int32) (v_one : Int32) (v_other : Int32) (v_a1_signs : Nat → Int32) (v_a1_size : Int32) (p2 : Int32) : Option (Int32 × Int32 × Int32 × Int32) :=
  (f_Pad_signAt v_a1_signs v_a1_size p2).bind fun r1 =>
  if (f_Pad_isHerd r1) = 0 then
    if r1 = (46 : Int32) then
      (f_Act_set v_kind v_one v_other (4 : Int32) (r1 - (97 : Int32)) (0 : Int32)).bind fun (u20_kind, u20_one, u20_other) =>
      some ((1 : Int32), u20_kind, u20_one, u20_other)
    else
    (f_Act_set v_kind v_one v_other (0 : Int32) (r1 - (97 : Int32)) (0 : Int32)).bind fun (u18_kind, u18_one, u18_other) =>
    some ((1 : Int32), u18_kind, u18_one, u18_other)
  else
  (f_Pad_signAt v_a1_signs v_a1_size (p2 + (1 : Int32))).bind fun r5 =>
  if r5 = (38 : Int32) then
    (f_Pad_signAt v_a1_signs v_a1_size (p2 + (2 : Int32))).bind fun r13 =>
    (f_Act_set v_kind v_one v_other (3 : Int32) (r1 - (65 : Int32)) (r13 - (65 : Int32))).bind fun (u15_kind, u15_one, u15_other) =>
    some ((3 : Int32), u15_kind, u15_one, u15_other)
  else
  if r5 = (63 : Int32) then
    (f_Act_set v_kind v_one v_other (1 : Int32) (r1 - (65 : Int32)) (0 : Int32)).bind fun (u11_kind, u11_one, u11_other) =>
    some ((2 : Int32), u11_kind, u11_one, u11_other)
  else
  (f_Act_set v_kind v_one v_other (2 : Int32) (r1 - (65 : Int32)) (0 : Int32)).bind fun (u9_kind, u9_one, u9_other) =>
  some ((2 : Int32), u9_kind, u9_one, u9_other)
/-- SealStrait$Act.draw -/
noncomputable def f_Act_draw (v_kind : Int32) (v_one : Int32) (v_other : Int32) (p1 : Int32) : Option (Int32 × Int32 × Int32) :=
  if (p1 - p1 / (8 : Int32) * (8 : Int32)) = (4 : Int32) then
    (f_Act_set v_kind v_one v_other (1 : Int32) ((p1 / (8 : Int32)) - (p1 / (8 : Int32)) / (6 : Int32) * (6 : Int32)) (0 : Int32)).bind fun (u2_kind, u2_one, u2_other) =>
    some (u2_kind, u2_one, u2_other)
  else
  if (p1 - p1 / (8 : Int32) * (8 : Int32)) = (5 : Int32) then
    (f_Act_set v_kind v_one v_other (2 : Int32) ((p1 / (8 : Int32)) - (p1 / (8 : Int32)) / (6 : Int32) * (6 : Int32)) (0 : Int32)).bind fun (u5_kind, u5_one, u5_other) =>
    some (u5_kind, u5_one, u5_other)
  else
  if (p1 - p1 / (8 : Int32) * (8 : Int32)) = (6 : Int32) then
    (f_Act_set v_kind v_one v_other (3 : Int32) ((p1 / (8 : Int32)) - (p1 / (8 : Int32)) / (6 : Int32) * (6 : Int32)) (((p1 / (8 : Int32)) / (6 : Int32)) - ((p1 / (8 : Int32)) / (6 : Int32)) / (6 : Int32) * (6 : Int32))).bind fun (u8_kind, u8_one, u8_other) =>
    some (u8_kind, u8_one, u8_other)
  else
  if (p1 - p1 / (8 : Int32) * (8 : Int32)) = (7 : Int32) then
    (f_Act_set v_kind v_one v_other (4 : Int32) (0 : Int32) (0 : Int32)).bind fun (u11_kind, u11_one, u11_other) =>
    some (u11_kind, u11_one, u11_other)
  else
  (f_Act_set v_kind v_one v_other (0 : Int32) ((p1 / (8 : Int32)) - (p1 / (8 : Int32)) / (10 : Int32) * (10 : Int32)) (0 : Int32)).bind fun (u13_kind, u13_one, u13_other) =>
  some (u13_kind, u13_one, u13_other)
/-- java/util/Arrays.fill -/
noncomputable def b_Arrays_fill_1 (n1 : Nat) (x1 : Int32) (x3 : Int32) (x2 : Int32) (v_a1 : Nat → Int32) : Option ((Int32 × (Nat → Int32)) ⊕ ((Nat → Int32))) :=
  if x3 ≤ x2 then
    some (.inr v_a1)
  else
  if ix x2 n1 = true then
  some (.inl ((x2 + 1), (upd v_a1 (x2).toNatClampNeg x1)))
  else none
noncomputable def f_Arrays_fill (n1 : Nat) (v_a1 : Nat → Int32) (p2 : Int32) : Option ((Nat → Int32)) :=
  (ev (fun s => b_Arrays_fill_1 n1 p2 (Int32.ofNat n1) s.1 s.2) ((0 : Int32), v_a1)).bind fun z4_a1 =>
  some z4_a1
/-- SealStrait$Sea.isThere -/
noncomputable def f_Sea_isThere (v_there : Int32) (p1 : Int32) : Int32 :=
  if p1 < 0 then
    (0 : Int32)
  else
  if (6 : Int32) ≤ p1 then
    (0 : Int32)
  else
  if ((v_there >>> (p1 &&& 31)) &&& (1 : Int32)) = (1 : Int32) then
    (1 : Int32)
  else
  (0 : Int32)
/-- SealStrait$Sea.listens -/
noncomputable def f_Sea_listens (v_there : Int32) (v_month : Int32) (v_heads : Nat → Int32) (v_moults : Nat → Int32) (p1 : Int32) : Option (Int32) :=
  if (f_Sea_isThere v_there p1) = 0 then
    some (0 : Int32)
  else
  if ix p1 6 = true then
  if (v_heads (p1).toNatClampNeg) ≤ 0 then
    some (0 : Int32)
  else
  if ix p1 6 = true then
  if (v_moults (p1).toNatClampNeg) = (v_month - v_month / (12 : Int32) * (12 : Int32)) then
    some (0 : Int32)
  else
  some (1 : Int32)
  else none
  else none
/-- SealStrait$Bringing.placeOf -/
noncomputable def f_Bringing_placeOf (v_a1_there : Int32) (v_a1_sides : Nat → Int32) (v_a1_moods : Nat → Int32) (p2 : Int32) : Option (Int32) :=
  if (f_Sea_isThere v_a1_there p2) = 0 then
    some (0 : Int32)
  else
  if ix p2 6 = true then
  if ix p2 6 = true then
  some (((v_a1_sides (p2).toNatClampNeg) * (10 : Int32)) + (v_a1_moods (p2).toNatClampNeg))
  else none
  else none
/-- SealStrait$Bringing.reach -/
noncomputable def f_Bringing_reach (v_steps : Nat → Int32) (v_firsts : Nat → Int32) (v_queue : Nat → Int32) (v_size : Int32) (p1 : Int32) (p2 : Int32) (p3 : Int32) : Option ((Nat → Int32) × (Nat → Int32) × (Nat → Int32) × Int32) :=
  if (f_Strait_within p1 (0 : Int32) (399 : Int32)) = 0 then
    some (v_steps, v_firsts, v_queue, v_size)
  else
  if (400 : Int32) ≤ v_size then
    some (v_steps, v_firsts, v_queue, v_size)
  else
  if ix p1 400 = true then
  if (v_steps (p1).toNatClampNeg) = (-6 : Int32) then
    if ix p1 400 = true then
    if ix p1 400 = true then
    if ix v_size 400 = true then
    some ((upd v_steps (p1).toNatClampNeg p2), (upd v_firsts (p1).toNatClampNeg p3), (upd v_queue (v_size).toNatClampNeg p1), (v_size + (1 : Int32)))
    else none
    else none
    else none
  else
  some (v_steps, v_firsts, v_queue, v_size)
  else none
/-- SealStrait$Bringing.begin -/
noncomputable def f_Bringing_begin (v_steps : Nat → Int32) (v_firsts : Nat → Int32) (v_queue : Nat → Int32) (v_size : Int32) (v_oneListens : Int32) (v_otherListens : Int32) (v_a1_there : Int32) (v_a1_month : Int32) (v_a1_heads : Nat → Int32) (v_a1_sides : Nat → Int32) (v_a1_moods : Nat → Int32) (v_a1_moults : Nat → Int32) (p2 : Int32) (p3 : Int32) : Option ((Nat → Int32) × (Nat → Int32) × (Nat → Int32) × Int32 × Int32 × Int32) :=
  (f_Arrays_fill 400 v_steps (-6 : Int32)).bind fun u1_a1 =>
  (f_Sea_listens v_a1_there v_a1_month v_a1_heads v_a1_moults p2).bind fun r3 =>
  (f_Sea_listens v_a1_there v_a1_month v_a1_heads v_a1_moults p3).bind fun r5 =>
  (f_Bringing_placeOf v_a1_there v_a1_sides v_a1_moods p2).bind fun r7 =>
  (f_Bringing_placeOf v_a1_there v_a1_sides v_a1_moods p3).bind fun r9 =>
  (f_Bringing_reach u1_a1 v_firsts v_queue (0 : Int32) ((r7 * (20 : Int32)) + r9) (0 : Int32) (-6 : Int32)).bind fun (u11_steps, u11_firsts, u11_queue, u11_size) =>
  some (u11_steps, u11_firsts, u11_queue, u11_size, r3, r5)
/-- SealStrait$Treaty.wordsOf -/
noncomputable def f_Treaty_wordsOf (v_words : Nat → Int32) (p1 : Int32) : Option (Int32) :=
  if (f_Strait_within p1 (0 : Int32) (9 : Int32)) = 0 then
    some (3 : Int32)
  else
  if ix p1 10 = true then
  some (v_words (p1).toNatClampNeg)
  else none
/-- SealStrait$Bringing.behindReading -/
noncomputable def f_Bringing_behindReading (p1 : Int32) (p2 : Int32) (p3 : Int32) : Int32 :=
  if p3 = 0 then
    (((p1 / (10 : Int32)) * (10 : Int32)) + (if ((p1 - p1 / (10 : Int32) * (10 : Int32)) + (1 : Int32)) < (9 : Int32) then ((p1 - p1 / (10 : Int32) * (10 : Int32)) + (1 : Int32)) else (9 : Int32)))
  else
  if (p1 - p1 / (10 : Int32) * (10 : Int32)) < p2 then
    (((p1 / (10 : Int32)) * (10 : Int32)) + (if ((p1 - p1 / (10 : Int32) * (10 : Int32)) + (1 : Int32)) < (9 : Int32) then ((p1 - p1 / (10 : Int32) * (10 : Int32)) + (1 : Int32)) else (9 : Int32)))
  else
  (((((1 : Int32) - (p1 / (10 : Int32))) * (10 : Int32)) + (p1 - p1 / (10 : Int32) * (10 : Int32))) - p2)
/-- SealStrait$Bringing.goOnFrom -/
noncomputable def b_Bringing_goOnFrom_1 (x1 : Int32) (x2 : Int32) (x3 : Int32) (v_oneListens : Int32) (v_otherListens : Int32) (v_a4_words : Nat → Int32) (x5 : Int32) (v_steps : Nat → Int32) (v_firsts : Nat → Int32) (v_queue : Nat → Int32) (v_size : Int32) : Option ((Int32 × (Nat → Int32) × (Nat → Int32) × (Nat → Int32) × Int32) ⊕ ((Nat → Int32) × (Nat → Int32) × (Nat → Int32) × Int32)) :=
  if (10 : Int32) ≤ x5 then
    some (.inr (v_steps, v_firsts, v_queue, v_size))
  else
  (f_Treaty_wordsOf v_a4_words x5).bind fun r3 =>
  if x3 = (-6 : Int32) then
    (f_Bringing_reach v_steps v_firsts v_queue v_size (((f_Bringing_behindReading (x1 / (20 : Int32)) r3 v_oneListens) * (20 : Int32)) + (f_Bringing_behindReading (x1 - x1 / (20 : Int32) * (20 : Int32)) r3 v_otherListens)) x2 x5).bind fun (u10_steps, u10_firsts, u10_queue, u10_size) =>
    some (.inl ((x5 + 1), u10_steps, u10_firsts, u10_queue, u10_size))
  else
  (f_Bringing_reach v_steps v_firsts v_queue v_size (((f_Bringing_behindReading (x1 / (20 : Int32)) r3 v_oneListens) * (20 : Int32)) + (f_Bringing_behindReading (x1 - x1 / (20 : Int32) * (20 : Int32)) r3 v_otherListens)) x2 x3).bind fun (u8_steps, u8_firsts, u8_queue, u8_size) =>
  some (.inl ((x5 + 1), u8_steps, u8_firsts, u8_queue, u8_size))
noncomputable def f_Bringing_goOnFrom (v_steps : Nat → Int32) (v_firsts : Nat → Int32) (v_queue : Nat → Int32) (v_size : Int32) (v_oneListens : Int32) (v_otherListens : Int32) (v_a4_words : Nat → Int32) (p1 : Int32) (p2 : Int32) (p3 : Int32) : Option ((Nat → Int32) × (Nat → Int32) × (Nat → Int32) × Int32) :=
  (ev (fun s => b_Bringing_goOnFrom_1 p1 p2 p3 v_oneListens v_otherListens v_a4_words s.1 s.2.1 s.2.2.1 s.2.2.2.1 s.2.2.2.2) ((0 : Int32), v_steps, v_firsts, v_queue, v_size)).bind fun (z12_steps, z12_firsts, z12_queue, z12_size) =>
  some (z12_steps, z12_firsts, z12_queue, z12_size)
/-- SealStrait$Bringing.search -/
noncomputable def b_Bringing_search_1 (x2 : Int32) (x3 : Int32) (v_fewest : Int32) (v_firstClause : Int32) (v_oneListens : Int32) (v_otherListens : Int32) (v_a1_words : Nat → Int32) (x4 : Int32) (v_steps : Nat → Int32) (v_firsts : Nat → Int32) (v_queue : Nat → Int32) (v_size : Int32) : Option ((Int32 × (Nat → Int32) × (Nat → Int32) × (Nat → Int32) × Int32) ⊕ ((Nat → Int32) × (Nat → Int32) × (Nat → Int32) × Int32 × Int32 × Int32)) :=
  if v_size ≤ x4 then
    some (.inr (v_steps, v_firsts, v_queue, v_size, v_fewest, v_firstClause))
  else
  if (400 : Int32) ≤ x4 then
    some (.inr (v_steps, v_firsts, v_queue, v_size, v_fewest, v_firstClause))
  else
  if ix x4 400 = true then
  if (f_Strait_within (v_queue (x4).toNatClampNeg) (0 : Int32) (399 : Int32)) = 0 then
    some (.inr (v_steps, v_firsts, v_queue, v_size, v_fewest, v_firstClause))
  else
  if (((v_queue (x4).toNatClampNeg) / (20 : Int32)) / (10 : Int32)) = x2 then
    if (((v_queue (x4).toNatClampNeg) - (v_queue (x4).toNatClampNeg) / (20 : Int32) * (20 : Int32)) / (10 : Int32)) = x3 then
      if ix (v_queue (x4).toNatClampNeg) 400 = true then
      if ix (v_queue (x4).toNatClampNeg) 400 = true then
      some (.inr (v_steps, v_firsts, v_queue, v_size, (v_steps ((v_queue (x4).toNatClampNeg)).toNatClampNeg), (v_firsts ((v_queue (x4).toNatClampNeg)).toNatClampNeg)))
      else none
      else none
    else
    if ix (v_queue (x4).toNatClampNeg) 400 = true then
    if ix (v_queue (x4).toNatClampNeg) 400 = true then
    (f_Bringing_goOnFrom v_steps v_firsts v_queue v_size v_oneListens v_otherListens v_a1_words (v_queue (x4).toNatClampNeg) ((v_steps ((v_queue (x4).toNatClampNeg)).toNatClampNeg) + (1 : Int32)) (v_firsts ((v_queue (x4).toNatClampNeg)).toNatClampNeg)).bind fun (u16_steps, u16_firsts, u16_queue, u16_size) =>
    some (.inl ((x4 + 1), u16_steps, u16_firsts, u16_queue, u16_size))
    else none
    else none
  else
  if ix (v_queue (x4).toNatClampNeg) 400 = true then
  if ix (v_queue (x4).toNatClampNeg) 400 = true then
  (f_Bringing_goOnFrom v_steps v_firsts v_queue v_size v_oneListens v_otherListens v_a1_words (v_queue (x4).toNatClampNeg) ((v_steps ((v_queue (x4).toNatClampNeg)).toNatClampNeg) + (1 : Int32)) (v_firsts ((v_queue (x4).toNatClampNeg)).toNatClampNeg)).bind fun (u11_steps, u11_firsts, u11_queue, u11_size) =>
  some (.inl ((x4 + 1), u11_steps, u11_firsts, u11_queue, u11_size))
  else none
  else none
  else none
noncomputable def f_Bringing_search (v_steps : Nat → Int32) (v_firsts : Nat → Int32) (v_queue : Nat → Int32) (v_size : Int32) (v_oneListens : Int32) (v_otherListens : Int32) (v_fewest : Int32) (v_firstClause : Int32) (v_a1_words : Nat → Int32) (p2 : Int32) (p3 : Int32) : Option ((Nat → Int32) × (Nat → Int32) × (Nat → Int32) × Int32 × Int32 × Int32) :=
  ev (fun s => b_Bringing_search_1 p2 p3 (-6 : Int32) (-6 : Int32) v_oneListens v_otherListens v_a1_words s.1 s.2.1 s.2.2.1 s.2.2.2.1 s.2.2.2.2) ((0 : Int32), v_steps, v_firsts, v_queue, v_size)
/-- SealStrait$Fraction.commonDivisor -/
noncomputable def b_Fraction_commonDivisor_1  (x4 : Int64) (x6 : Int64) (x8 : Int32) : Option ((Int64 × Int64 × Int32) ⊕ (Int64)) :=
  if (1000 : Int32) ≤ x8 then
    some (.inr x4)
  else
  if (lg_cmp x6 (0 : Int64)) = 0 then
    some (.inr x4)
  else
  if ¬ x6 = 0 then
  some (.inl (x6, (x4 - x4 / x6 * x6), (x8 + 1)))
  else none
noncomputable def f_Fraction_commonDivisor (p1 : Int64) (p2 : Int64) : Option (Int64) :=
  (ev (fun s => b_Fraction_commonDivisor_1 s.1 s.2.1 s.2.2) (p1, p2, (0 : Int32))).bind fun y4_6 =>
  some y4_6
/-- SealStrait$Fraction.reduce -/
noncomputable def f_Fraction_reduce (v_upper : Int64) (v_lower : Int64) : Option (Int64 × Int64) :=
  (f_Fraction_commonDivisor v_upper v_lower).bind fun r1 =>
  if (lg_cmp r1 (1 : Int64)) ≤ 0 then
    some (v_upper, v_lower)
  else
  if ¬ r1 = 0 then
  if ¬ r1 = 0 then
  some ((v_upper / r1), (v_lower / r1))
  else none
  else none
/-- SealStrait$Fraction.setWaiting -/
noncomputable def b_Fraction_setWaiting_2 (x2 : Int32) (v_upper : Int64) (v_lower : Int64) (x4 : Int64) (x6 : Int32) : Option ((Int64 × Int32) ⊕ (Int64)) :=
  if x2 < x6 then
    some (.inr x4)
  else
  some (.inl ((x4 + (if v_upper < ((x6).toInt64 * v_lower) then ((x6).toInt64 * v_lower) else v_upper)), (x6 + 1)))
noncomputable def b_Fraction_setWaiting_1 (x1 : Int32) (x2 : Int32) (x3 : Int32) (v_upper : Int64) (v_lower : Int64) : Option ((Int32 × Int64 × Int64) ⊕ (Int64 × Int64)) :=
  if x1 ≤ x3 then
    some (.inr (v_upper, v_lower))
  else
  (ev (fun s => b_Fraction_setWaiting_2 x2 v_upper v_lower s.1 s.2) ((0 : Int64), (0 : Int32))).bind fun y4_5 =>
  some (.inl ((x3 + 1), y4_5, (v_lower * ((x2 + (1 : Int32))).toInt64)))
noncomputable def f_Fraction_setWaiting (v_upper : Int64) (v_lower : Int64) (p1 : Int32) (p2 : Int32) : Option (Int64 × Int64) :=
  (ev (fun s => b_Fraction_setWaiting_1 p1 p2 s.1 s.2.1 s.2.2) ((0 : Int32), (0 : Int64), (1 : Int64))).bind fun (z8_upper, z8_lower) =>
  (f_Fraction_reduce z8_upper z8_lower).bind fun (u11_upper, u11_lower) =>
  some (u11_upper, u11_lower)
/-- SealStrait$Fraction.setDrift -/
noncomputable def b_Fraction_setDrift_1 (x2 : Int32) (x3 : Int32) (x4 : Int32) (x6 : Int64) (x8 : Int64) (x10 : Int32) (v_lower : Int64) : Option ((Int64 × Int64 × Int32 × Int64) ⊕ (Int64 × Int64 × Int64)) :=
  if x4 ≤ x10 then
    some (.inr (x6, x8, v_lower))
  else
  some (.inl (((x6 * (((10 : Int32) - x3)).toInt64) + ((v_lower - x6) * (x2).toInt64)), ((x8 * (10 : Int64)) + ((x6 * (((10 : Int32) - x3)).toInt64) + ((v_lower - x6) * (x2).toInt64))), (x10 + 1), (v_lower * (10 : Int64))))
noncomputable def f_Fraction_setDrift (v_upper : Int64) (v_lower : Int64) (p1 : Int32) (p2 : Int32) (p3 : Int32) (p4 : Int32) (p5 : Int32) : Option (Int64 × Int64) :=
  (ev (fun s => b_Fraction_setDrift_1 p2 p3 p4 s.1 s.2.1 s.2.2.1 s.2.2.2) ((p1).toInt64, (0 : Int64), (0 : Int32), (1 : Int64))).bind fun (y6_3, y8_3, z3_lower) =>
  if p5 = 0 then
    (f_Fraction_reduce y6_3 z3_lower).bind fun (u9_upper, u9_lower) =>
    some (u9_upper, u9_lower)
  else
  (f_Fraction_reduce y8_3 z3_lower).bind fun (u7_upper, u7_lower) =>
  some (u7_upper, u7_lower)
/-- SealStrait$Fraction.leastWholeNotBelow -/
noncomputable def b_Fraction_leastWholeNotBelow_1 (x1 : Int32) (v_upper : Int64) (v_lower : Int64) (x2 : Int32) : Option ((Int32) ⊕ (Int32)) :=
  if x1 ≤ x2 then
    some (.inr x1)
  else
  if (lg_cmp ((x2).toInt64 * v_lower) v_upper) < 0 then
    some (.inl (x2 + 1))
  else
  some (.inr x2)
noncomputable def f_Fraction_leastWholeNotBelow (v_upper : Int64) (v_lower : Int64) (p1 : Int32) : Option (Int32) :=
  ev (fun s => b_Fraction_leastWholeNotBelow_1 p1 v_upper v_lower s) (0 : Int32)
/-- SealStrait$Fraction.part -/
noncomputable def f_Fraction_part (v_upper : Int64) (v_lower : Int64) (p1 : Int32) : Int64 :=
  if p1 = 0 then
    v_upper
  else
  v_lower
/-- SealStrait.has -/
noncomputable def f_Strait_has (p1 : Int32) (p2 : Int32) : Int32 :=
  if ((p1 >>> (p2 &&& 31)) &&& (1 : Int32)) = (1 : Int32) then
    (1 : Int32)
  else
  (0 : Int32)
/-- SealStrait$Treaty.wordsOfAll -/
noncomputable def b_Treaty_wordsOfAll_1 (x1 : Int32) (v_words : Nat → Int32) (x2 : Int32) (x3 : Int32) : Option ((Int32 × Int32) ⊕ (Int32)) :=
  if (10 : Int32) ≤ x3 then
    some (.inr x2)
  else
  if (f_Strait_has x1 x3) = 0 then
    some (.inl (x2, (x3 + 1)))
  else
  if ix x3 10 = true then
  some (.inl ((x2 + (v_words (x3).toNatClampNeg)), (x3 + 1)))
  else none
noncomputable def f_Treaty_wordsOfAll (v_words : Nat → Int32) (p1 : Int32) : Option (Int32) :=
  (ev (fun s => b_Treaty_wordsOfAll_1 p1 v_words s.1 s.2) ((0 : Int32), (0 : Int32))).bind fun y2_6 =>
  some y2_6
/-- SealStrait$Game.winningNext -/
noncomputable def b_Game_winningNext_1 (x1 : Int32) (x2 : Int32) (v_wins : Nat → Int32) (v_a3_words : Nat → Int32) (x4 : Int32) : Option ((Int32) ⊕ (Int32)) :=
  if (10 : Int32) ≤ x4 then
    some (.inr (-6 : Int32))
  else
  if (x1 ||| ((1 : Int32) <<< (x4 &&& 31))) = x1 then
    some (.inl (x4 + 1))
  else
  if (1024 : Int32) ≤ (x1 ||| ((1 : Int32) <<< (x4 &&& 31))) then
    some (.inl (x4 + 1))
  else
  (f_Treaty_wordsOf v_a3_words x4).bind fun r5 =>
  if x2 < r5 then
    some (.inl (x4 + 1))
  else
  if ix (x1 ||| ((1 : Int32) <<< (x4 &&& 31))) 1024 = true then
  if (v_wins ((x1 ||| ((1 : Int32) <<< (x4 &&& 31)))).toNatClampNeg) = 0 then
    some (.inr x4)
  else
  some (.inl (x4 + 1))
  else none
noncomputable def f_Game_winningNext (v_wins : Nat → Int32) (v_a3_words : Nat → Int32) (p1 : Int32) (p2 : Int32) : Option (Int32) :=
  ev (fun s => b_Game_winningNext_1 p1 p2 v_wins v_a3_words s) (0 : Int32)
/-- SealStrait$Game.winningFirst -/
noncomputable def b_Game_winningFirst_1 (x2 : Int32) (v_a1_words : Nat → Int32) (x3 : Int32) (x4 : Int32) (v_wins : Nat → Int32) : Option ((Int32 × Int32 × (Nat → Int32)) ⊕ (Int32 × (Nat → Int32))) :=
  if x4 < 0 then
    some (.inr (x3, v_wins))
  else
  (f_Treaty_wordsOfAll v_a1_words x4).bind fun r3 =>
  (f_Game_winningNext v_wins v_a1_words x4 (x2 - r3)).bind fun r5 =>
  if r5 = (-6 : Int32) then
    if ix x4 1024 = true then
    some (.inl (r5, (x4 + (-1)), (upd v_wins (x4).toNatClampNeg ((0 : Int32) &&& 1))))
    else none
  else
  if ix x4 1024 = true then
  some (.inl (r5, (x4 + (-1)), (upd v_wins (x4).toNatClampNeg ((1 : Int32) &&& 1))))
  else none
noncomputable def f_Game_winningFirst (v_wins : Nat → Int32) (v_a1_words : Nat → Int32) (p2 : Int32) : Option (Int32 × (Nat → Int32)) :=
  (ev (fun s => b_Game_winningFirst_1 p2 v_a1_words s.1 s.2.1 s.2.2) ((-6 : Int32), (1023 : Int32), v_wins)).bind fun (y3_10, z10_wins) =>
  some (y3_10, z10_wins)
/-- SealStrait$Sea.headsOf -/
noncomputable def b_Sea_headsOf_1 (x1 : Int32) (v_there : Int32) (v_heads : Nat → Int32) (x2 : Int32) (x3 : Int32) : Option ((Int32 × Int32) ⊕ (Int32)) :=
  if (6 : Int32) ≤ x3 then
    some (.inr x2)
  else
  if (f_Strait_has x1 x3) = 0 then
    some (.inl (x2, (x3 + 1)))
  else
  if (f_Sea_isThere v_there x3) = 0 then
    some (.inl (x2, (x3 + 1)))
  else
  if ix x3 6 = true then
  some (.inl ((x2 + (v_heads (x3).toNatClampNeg)), (x3 + 1)))
  else none
noncomputable def f_Sea_headsOf (v_there : Int32) (v_heads : Nat → Int32) (p1 : Int32) : Option (Int32) :=
  (ev (fun s => b_Sea_headsOf_1 p1 v_there v_heads s.1 s.2) ((0 : Int32), (0 : Int32))).bind fun y2_8 =>
  some y2_8
/-- SealStrait$Lookout.wantingOff -/
noncomputable def f_Lookout_wantingOff (v_seen : Nat → Int32) (v_a3_there : Int32) (v_a3_heads : Nat → Int32) (p1 : Int32) (p2 : Int32) : Option (Int32) :=
  if (f_Strait_within p1 (0 : Int32) (5 : Int32)) = 0 then
    some (0 : Int32)
  else
  if ix p1 6 = true then
  (f_Sea_headsOf v_a3_there v_a3_heads ((v_seen (p1).toNatClampNeg) &&& p2)).bind fun r4 =>
  some r4
  else none
/-- SealStrait$Lookout.allCountsFit -/
noncomputable def b_Lookout_allCountsFit_1 (x1 : Int32) (v_seen : Nat → Int32) (v_counts : Int32) (v_countRocks : Nat → Int32) (v_countWantings : Nat → Int32) (v_a2_there : Int32) (v_a2_heads : Nat → Int32) (x3 : Int32) : Option ((Int32) ⊕ (Int32)) :=
  if v_counts ≤ x3 then
    some (.inr (1 : Int32))
  else
  if (8 : Int32) ≤ x3 then
    some (.inr (1 : Int32))
  else
  if ix x3 8 = true then
  (f_Lookout_wantingOff v_seen v_a2_there v_a2_heads (v_countRocks (x3).toNatClampNeg) x1).bind fun r6 =>
  if ix x3 8 = true then
  if r6 = (v_countWantings (x3).toNatClampNeg) then
    some (.inl (x3 + 1))
  else
  some (.inr (0 : Int32))
  else none
  else none
noncomputable def f_Lookout_allCountsFit (v_seen : Nat → Int32) (v_counts : Int32) (v_countRocks : Nat → Int32) (v_countWantings : Nat → Int32) (v_a2_there : Int32) (v_a2_heads : Nat → Int32) (p1 : Int32) : Option (Int32) :=
  ev (fun s => b_Lookout_allCountsFit_1 p1 v_seen v_counts v_countRocks v_countWantings v_a2_there v_a2_heads s) (0 : Int32)
/-- SealStrait$Guess.findSets -/
noncomputable def b_Guess_findSets_1 (v_a1_seen : Nat → Int32) (v_a1_counts : Int32) (v_a1_countRocks : Nat → Int32) (v_a1_countWantings : Nat → Int32) (v_a2_there : Int32) (v_a2_heads : Nat → Int32) (x3 : Int32) (v_size : Int32) (v_sets : Nat → Int32) : Option ((Int32 × Int32 × (Nat → Int32)) ⊕ (Int32 × (Nat → Int32))) :=
  if (63 : Int32) < x3 then
    some (.inr (v_size, v_sets))
  else
  if (x3 &&& (v_a2_there ^^^ (-1 : Int32))) = 0 then
    if (1 : Int32) = 0 then
      some (.inl ((x3 + 1), v_size, v_sets))
    else
    if (64 : Int32) ≤ v_size then
      some (.inl ((x3 + 1), v_size, v_sets))
    else
    (f_Lookout_allCountsFit v_a1_seen v_a1_counts v_a1_countRocks v_a1_countWantings v_a2_there v_a2_heads x3).bind fun r12 =>
    if r12 = 0 then
      some (.inl ((x3 + 1), v_size, v_sets))
    else
    if ix v_size 64 = true then
    some (.inl ((x3 + 1), (v_size + (1 : Int32)), (upd v_sets (v_size).toNatClampNeg x3)))
    else none
  else
  if (0 : Int32) = 0 then
    some (.inl ((x3 + 1), v_size, v_sets))
  else
  if (64 : Int32) ≤ v_size then
    some (.inl ((x3 + 1), v_size, v_sets))
  else
  (f_Lookout_allCountsFit v_a1_seen v_a1_counts v_a1_countRocks v_a1_countWantings v_a2_there v_a2_heads x3).bind fun r6 =>
  if r6 = 0 then
    some (.inl ((x3 + 1), v_size, v_sets))
  else
  if ix v_size 64 = true then
  some (.inl ((x3 + 1), (v_size + (1 : Int32)), (upd v_sets (v_size).toNatClampNeg x3)))
  else none
noncomputable def f_Guess_findSets (v_size : Int32) (v_sets : Nat → Int32) (v_a1_seen : Nat → Int32) (v_a1_counts : Int32) (v_a1_countRocks : Nat → Int32) (v_a1_countWantings : Nat → Int32) (v_a2_there : Int32) (v_a2_heads : Nat → Int32) : Option (Int32 × (Nat → Int32)) :=
  (ev (fun s => b_Guess_findSets_1 v_a1_seen v_a1_counts v_a1_countRocks v_a1_countWantings v_a2_there v_a2_heads s.1 s.2.1 s.2.2) ((0 : Int32), (0 : Int32), v_sets)).bind fun (z16_size, z16_sets) =>
  some (z16_size, z16_sets)
/-- SealStrait$Guess.setAt -/
noncomputable def f_Guess_setAt (v_size : Int32) (v_sets : Nat → Int32) (p1 : Int32) : Option (Int32) :=
  if p1 < 0 then
    some (-6 : Int32)
  else
  if v_size ≤ p1 then
    some (-6 : Int32)
  else
  if (64 : Int32) ≤ p1 then
    some (-6 : Int32)
  else
  if ix p1 64 = true then
  some (v_sets (p1).toNatClampNeg)
  else none
/-- SealStrait$Guess.mostAlike -/
noncomputable def b_Guess_mostAlike_1 (x1 : Int32) (v_size : Int32) (v_sets : Nat → Int32) (v_a2_seen : Nat → Int32) (v_a3_there : Int32) (v_a3_heads : Nat → Int32) (x4 : Int32) (x5 : Int32) (v_tally : Nat → Int32) : Option ((Int32 × Int32 × (Nat → Int32)) ⊕ (Int32 × (Nat → Int32))) :=
  if v_size ≤ x5 then
    some (.inr (x4, v_tally))
  else
  if (64 : Int32) ≤ x5 then
    some (.inr (x4, v_tally))
  else
  if ix x5 64 = true then
  (f_Lookout_wantingOff v_a2_seen v_a3_there v_a3_heads x1 (v_sets (x5).toNatClampNeg)).bind fun r8 =>
  if r8 < 0 then
    some (.inl (x4, (x5 + 1), v_tally))
  else
  if (595 : Int32) ≤ r8 then
    some (.inl (x4, (x5 + 1), v_tally))
  else
  if ix r8 595 = true then
  if ix r8 595 = true then
  if ix r8 595 = true then
  some (.inl ((if x4 < ((upd v_tally (r8).toNatClampNeg ((v_tally (r8).toNatClampNeg) + (1 : Int32))) (r8).toNatClampNeg) then ((upd v_tally (r8).toNatClampNeg ((v_tally (r8).toNatClampNeg) + (1 : Int32))) (r8).toNatClampNeg) else x4), (x5 + 1), (upd v_tally (r8).toNatClampNeg ((v_tally (r8).toNatClampNeg) + (1 : Int32)))))
  else none
  else none
  else none
  else none
noncomputable def f_Guess_mostAlike (v_size : Int32) (v_sets : Nat → Int32) (v_tally : Nat → Int32) (v_a2_seen : Nat → Int32) (v_a3_there : Int32) (v_a3_heads : Nat → Int32) (p1 : Int32) : Option (Int32 × (Nat → Int32)) :=
  (f_Arrays_fill 595 v_tally (0 : Int32)).bind fun u1_a1 =>
  (ev (fun s => b_Guess_mostAlike_1 p1 v_size v_sets v_a2_seen v_a3_there v_a3_heads s.1 s.2.1 s.2.2) ((0 : Int32), (0 : Int32), u1_a1)).bind fun (y4_15, z15_tally) =>
  some (y4_15, z15_tally)
/-- SealStrait$Guess.findNextRock -/
noncomputable def b_Guess_findNextRock_1 (v_size : Int32) (v_sets : Nat → Int32) (v_a1_seen : Nat → Int32) (v_a2_there : Int32) (v_a2_heads : Nat → Int32) (x3 : Int32) (v_nextRock : Int32) (v_leftAtMost : Int32) (v_tally : Nat → Int32) : Option ((Int32 × Int32 × Int32 × (Nat → Int32)) ⊕ (Int32 × Int32 × (Nat → Int32))) :=
  if (6 : Int32) ≤ x3 then
    some (.inr (v_nextRock, v_leftAtMost, v_tally))
  else
  (f_Guess_mostAlike v_size v_sets v_tally v_a1_seen v_a2_there v_a2_heads x3).bind fun (r3, u3_tally) =>
  if v_nextRock = (-6 : Int32) then
    some (.inl ((x3 + 1), x3, r3, u3_tally))
  else
  if v_leftAtMost ≤ r3 then
    some (.inl ((x3 + 1), v_nextRock, v_leftAtMost, u3_tally))
  else
  some (.inl ((x3 + 1), x3, r3, u3_tally))
noncomputable def f_Guess_findNextRock (v_size : Int32) (v_sets : Nat → Int32) (v_nextRock : Int32) (v_leftAtMost : Int32) (v_tally : Nat → Int32) (v_a1_seen : Nat → Int32) (v_a2_there : Int32) (v_a2_heads : Nat → Int32) : Option (Int32 × Int32 × (Nat → Int32)) :=
  (ev (fun s => b_Guess_findNextRock_1 v_size v_sets v_a1_seen v_a2_there v_a2_heads s.1 s.2.1 s.2.2.1 s.2.2.2) ((0 : Int32), (-6 : Int32), (-6 : Int32), v_tally)).bind fun (z7_nextRock, z7_leftAtMost, z7_tally) =>
  some (z7_nextRock, z7_leftAtMost, z7_tally)
/-- SealStrait$Lookout.copyFrom -/
noncomputable def b_Lookout_copyFrom_1 (v_a1_seen : Nat → Int32) (x2 : Int32) (v_seen : Nat → Int32) : Option ((Int32 × (Nat → Int32)) ⊕ ((Nat → Int32))) :=
  if (6 : Int32) ≤ x2 then
    some (.inr v_seen)
  else
  if ix x2 6 = true then
  if ix x2 6 = true then
  some (.inl ((x2 + 1), (upd v_seen (x2).toNatClampNeg (v_a1_seen (x2).toNatClampNeg))))
  else none
  else none
noncomputable def b_Lookout_copyFrom_2 (v_a1_countRocks : Nat → Int32) (v_a1_countWantings : Nat → Int32) (x2 : Int32) (v_countRocks : Nat → Int32) (v_countWantings : Nat → Int32) : Option ((Int32 × (Nat → Int32) × (Nat → Int32)) ⊕ ((Nat → Int32) × (Nat → Int32))) :=
  if (8 : Int32) ≤ x2 then
    some (.inr (v_countRocks, v_countWantings))
  else
  if ix x2 8 = true then
  if ix x2 8 = true then
  if ix x2 8 = true then
  if ix x2 8 = true then
  some (.inl ((x2 + 1), (upd v_countRocks (x2).toNatClampNeg (v_a1_countRocks (x2).toNatClampNeg)), (upd v_countWantings (x2).toNatClampNeg (v_a1_countWantings (x2).toNatClampNeg))))
  else none
  else none
  else none
  else none
noncomputable def f_Lookout_copyFrom (v_seen : Nat → Int32) (v_counts : Int32) (v_countRocks : Nat → Int32) (v_countWantings : Nat → Int32) (v_a1_seen : Nat → Int32) (v_a1_counts : Int32) (v_a1_countRocks : Nat → Int32) (v_a1_countWantings : Nat → Int32) : Option ((Nat → Int32) × Int32 × (Nat → Int32) × (Nat → Int32)) :=
  (ev (fun s => b_Lookout_copyFrom_1 v_a1_seen s.1 s.2) ((0 : Int32), v_seen)).bind fun z5_seen =>
  (ev (fun s => b_Lookout_copyFrom_2 v_a1_countRocks v_a1_countWantings s.1 s.2.1 s.2.2) ((0 : Int32), v_countRocks, v_countWantings)).bind fun (z14_countRocks, z14_countWantings) =>
  some (z5_seen, v_a1_counts, z14_countRocks, z14_countWantings)
/-- SealStrait$Lookout.addCount -/
noncomputable def f_Lookout_addCount (v_counts : Int32) (v_countRocks : Nat → Int32) (v_countWantings : Nat → Int32) (p1 : Int32) (p2 : Int32) : Option (Int32 × Int32 × (Nat → Int32) × (Nat → Int32)) :=
  if v_counts < (8 : Int32) then
    if ix v_counts 8 = true then
    if ix v_counts 8 = true then
    some ((1 : Int32), (v_counts + (1 : Int32)), (upd v_countRocks (v_counts).toNatClampNeg p1), (upd v_countWantings (v_counts).toNatClampNeg p2))
    else none
    else none
  else
  some ((0 : Int32), v_counts, v_countRocks, v_countWantings)
/-- SealStrait$Pad.write -/
noncomputable def f_Pad_write (v_signs : Nat → Int32) (v_size : Int32) (p1 : Int32) : Option (Int32 × (Nat → Int32) × Int32) :=
  if v_size < (60 : Int32) then
    if ix v_size 60 = true then
    some ((1 : Int32), (upd v_signs (v_size).toNatClampNeg p1), (v_size + (1 : Int32)))
    else none
  else
  some ((0 : Int32), v_signs, v_size)
/-- SealStrait$Pad.isClause -/
noncomputable def f_Pad_isClause (p1 : Int32) : Int32 :=
  (f_Strait_within p1 (97 : Int32) (106 : Int32))
/-- SealStrait$Pad.awaitedBehind -/
noncomputable def f_Pad_awaitedBehind (p1 : Int32) (p2 : Int32) : Int32 :=
  if p1 = 0 then
    if (f_Pad_isHerd p2) = 0 then
      if (f_Pad_isClause p2) = 0 then
        if p2 = (46 : Int32) then
          (0 : Int32)
        else
        (3 : Int32)
      else
      (0 : Int32)
    else
    (1 : Int32)
  else
  if p1 = (1 : Int32) then
    if p2 = (38 : Int32) then
      (2 : Int32)
    else
    if p2 = (63 : Int32) then
      (0 : Int32)
    else
    if p2 = (33 : Int32) then
      (0 : Int32)
    else
    (3 : Int32)
  else
  if (f_Pad_isHerd p2) = 0 then
    (3 : Int32)
  else
  (0 : Int32)
/-- SealStrait$Pad.faultPlace -/
noncomputable def b_Pad_faultPlace_1 (v_signs : Nat → Int32) (v_size : Int32) (x1 : Int32) (x2 : Int32) : Option ((Int32 × Int32) ⊕ (Int32)) :=
  if v_size ≤ x2 then
    if x1 = 0 then
      some (.inr (-6 : Int32))
    else
    some (.inr v_size)
  else
  if (60 : Int32) ≤ x2 then
    if x1 = 0 then
      some (.inr (-6 : Int32))
    else
    some (.inr v_size)
  else
  if ix x2 60 = true then
  if (f_Pad_awaitedBehind x1 (v_signs (x2).toNatClampNeg)) = (3 : Int32) then
    some (.inr x2)
  else
  some (.inl ((f_Pad_awaitedBehind x1 (v_signs (x2).toNatClampNeg)), (x2 + 1)))
  else none
noncomputable def f_Pad_faultPlace (v_signs : Nat → Int32) (v_size : Int32) : Option (Int32) :=
  ev (fun s => b_Pad_faultPlace_1 v_signs v_size s.1 s.2) ((0 : Int32), (0 : Int32))
/-- SealStrait$Sea.copyFrom -/
noncomputable def b_Sea_copyFrom_1 (v_a1_heads : Nat → Int32) (v_a1_sides : Nat → Int32) (v_a1_moods : Nat → Int32) (v_a1_moults : Nat → Int32) (x2 : Int32) (v_heads : Nat → Int32) (v_sides : Nat → Int32) (v_moods : Nat → Int32) (v_moults : Nat → Int32) : Option ((Int32 × (Nat → Int32) × (Nat → Int32) × (Nat → Int32) × (Nat → Int32)) ⊕ ((Nat → Int32) × (Nat → Int32) × (Nat → Int32) × (Nat → Int32))) :=
  if (6 : Int32) ≤ x2 then
    some (.inr (v_heads, v_sides, v_moods, v_moults))
  else
  if ix x2 6 = true then
  if ix x2 6 = true then
  if ix x2 6 = true then
  if ix x2 6 = true then
  if ix x2 6 = true then
  if ix x2 6 = true then
  if ix x2 6 = true then
  if ix x2 6 = true then
  some (.inl ((x2 + 1), (upd v_heads (x2).toNatClampNeg (v_a1_heads (x2).toNatClampNeg)), (upd v_sides (x2).toNatClampNeg (v_a1_sides (x2).toNatClampNeg)), (upd v_moods (x2).toNatClampNeg (v_a1_moods (x2).toNatClampNeg)), (upd v_moults (x2).toNatClampNeg (v_a1_moults (x2).toNatClampNeg))))
  else none
  else none
  else none
  else none
  else none
  else none
  else none
  else none
noncomputable def f_Sea_copyFrom (v_there : Int32) (v_month : Int32) (v_lost : Int32) (v_heads : Nat → Int32) (v_sides : Nat → Int32) (v_moods : Nat → Int32) (v_moults : Nat → Int32) (v_a1_there : Int32) (v_a1_month : Int32) (v_a1_lost : Int32) (v_a1_heads : Nat → Int32) (v_a1_sides : Nat → Int32) (v_a1_moods : Nat → Int32) (v_a1_moults : Nat → Int32) : Option (Int32 × Int32 × Int32 × (Nat → Int32) × (Nat → Int32) × (Nat → Int32) × (Nat → Int32)) :=
  (ev (fun s => b_Sea_copyFrom_1 v_a1_heads v_a1_sides v_a1_moods v_a1_moults s.1 s.2.1 s.2.2.1 s.2.2.2.1 s.2.2.2.2) ((0 : Int32), v_heads, v_sides, v_moods, v_moults)).bind fun (z11_heads, z11_sides, z11_moods, z11_moults) =>
  some (v_a1_there, v_a1_month, v_a1_lost, z11_heads, z11_sides, z11_moods, z11_moults)
/-- SealStrait$Sea.settle -/
noncomputable def f_Sea_settle (v_there : Int32) (v_heads : Nat → Int32) (v_sides : Nat → Int32) (v_moods : Nat → Int32) (v_moults : Nat → Int32) (p1 : Int32) (p2 : Int32) (p3 : Int32) (p4 : Int32) (p5 : Int32) : Option (Int32 × (Nat → Int32) × (Nat → Int32) × (Nat → Int32) × (Nat → Int32)) :=
  if (f_Strait_within p1 (0 : Int32) (5 : Int32)) = 0 then
    some (v_there, v_heads, v_sides, v_moods, v_moults)
  else
  if ix p1 6 = true then
  if ix p1 6 = true then
  if ix p1 6 = true then
  if ix p1 6 = true then
  some ((v_there ||| ((1 : Int32) <<< (p1 &&& 31))), (upd v_heads (p1).toNatClampNeg p2), (upd v_sides (p1).toNatClampNeg p3), (upd v_moods (p1).toNatClampNeg p4), (upd v_moults (p1).toNatClampNeg p5))
  else none
  else none
  else none
  else none
/-- SealStrait$Sea.traitOf -/
noncomputable def f_Sea_traitOf (v_there : Int32) (v_heads : Nat → Int32) (v_sides : Nat → Int32) (v_moods : Nat → Int32) (v_moults : Nat → Int32) (p1 : Int32) (p2 : Int32) : Option (Int32) :=
  if (f_Sea_isThere v_there p1) = 0 then
    some (-2 : Int32)
  else
  if p2 = (0 : Int32) then
    if ix p1 6 = true then
    some (v_heads (p1).toNatClampNeg)
    else none
  else
  if p2 = (1 : Int32) then
    if ix p1 6 = true then
    some (v_sides (p1).toNatClampNeg)
    else none
  else
  if p2 = (2 : Int32) then
    if ix p1 6 = true then
    some (v_moods (p1).toNatClampNeg)
    else none
  else
  if p2 = (3 : Int32) then
    if ix p1 6 = true then
    some (v_moults (p1).toNatClampNeg)
    else none
  else
  some (-2 : Int32)
/-- SealStrait$Sea.signers -/
noncomputable def b_Sea_signers_1 (x1 : Int32) (v_there : Int32) (v_month : Int32) (v_heads : Nat → Int32) (v_moods : Nat → Int32) (v_moults : Nat → Int32) (x2 : Int32) (x3 : Int32) : Option ((Int32 × Int32) ⊕ (Int32)) :=
  if (6 : Int32) ≤ x3 then
    some (.inr x2)
  else
  (f_Sea_listens v_there v_month v_heads v_moults x3).bind fun r3 =>
  if r3 = 0 then
    some (.inl (x2, (x3 + 1)))
  else
  if ix x3 6 = true then
  if (v_moods (x3).toNatClampNeg) < x1 then
    some (.inl (x2, (x3 + 1)))
  else
  some (.inl ((x2 ||| ((1 : Int32) <<< (x3 &&& 31))), (x3 + 1)))
  else none
noncomputable def f_Sea_signers (v_there : Int32) (v_month : Int32) (v_heads : Nat → Int32) (v_moods : Nat → Int32) (v_moults : Nat → Int32) (p1 : Int32) : Option (Int32) :=
  (ev (fun s => b_Sea_signers_1 p1 v_there v_month v_heads v_moods v_moults s.1 s.2) ((0 : Int32), (0 : Int32))).bind fun y2_8 =>
  some y2_8
/-- SealStrait$Sea.headsOnSideOne -/
noncomputable def b_Sea_headsOnSideOne_1 (v_there : Int32) (v_heads : Nat → Int32) (v_sides : Nat → Int32) (x1 : Int32) (x2 : Int32) : Option ((Int32 × Int32) ⊕ (Int32)) :=
  if (6 : Int32) ≤ x2 then
    some (.inr x1)
  else
  if (f_Sea_isThere v_there x2) = 0 then
    some (.inl (x1, (x2 + 1)))
  else
  if ix x2 6 = true then
  if (v_sides (x2).toNatClampNeg) = (1 : Int32) then
    if ix x2 6 = true then
    some (.inl ((x1 + (v_heads (x2).toNatClampNeg)), (x2 + 1)))
    else none
  else
  some (.inl (x1, (x2 + 1)))
  else none
noncomputable def f_Sea_headsOnSideOne (v_there : Int32) (v_heads : Nat → Int32) (v_sides : Nat → Int32) : Option (Int32) :=
  (ev (fun s => b_Sea_headsOnSideOne_1 v_there v_heads v_sides s.1 s.2) ((0 : Int32), (0 : Int32))).bind fun y1_8 =>
  some y1_8
/-- SealStrait$Sea.allMoods -/
noncomputable def b_Sea_allMoods_1 (v_there : Int32) (v_moods : Nat → Int32) (x1 : Int32) (x2 : Int32) : Option ((Int32 × Int32) ⊕ (Int32)) :=
  if (6 : Int32) ≤ x2 then
    some (.inr x1)
  else
  if (f_Sea_isThere v_there x2) = 0 then
    some (.inl (x1, (x2 + 1)))
  else
  if ix x2 6 = true then
  some (.inl ((x1 + (v_moods (x2).toNatClampNeg)), (x2 + 1)))
  else none
noncomputable def f_Sea_allMoods (v_there : Int32) (v_moods : Nat → Int32) : Option (Int32) :=
  (ev (fun s => b_Sea_allMoods_1 v_there v_moods s.1 s.2) ((0 : Int32), (0 : Int32))).bind fun y1_6 =>
  some y1_6
/-- SealStrait$Sea.hasHeads -/
noncomputable def b_Sea_hasHeads_1 (v_there : Int32) (v_heads : Nat → Int32) (x1 : Int32) : Option ((Int32) ⊕ (Int32)) :=
  if (6 : Int32) ≤ x1 then
    some (.inr (0 : Int32))
  else
  if (f_Sea_isThere v_there x1) = 0 then
    some (.inl (x1 + 1))
  else
  if ix x1 6 = true then
  if (v_heads (x1).toNatClampNeg) ≤ 0 then
    some (.inl (x1 + 1))
  else
  some (.inr (1 : Int32))
  else none
noncomputable def f_Sea_hasHeads (v_there : Int32) (v_heads : Nat → Int32) : Option (Int32) :=
  ev (fun s => b_Sea_hasHeads_1 v_there v_heads s) (0 : Int32)
/-- SealStrait$Sea.nextToGet -/
noncomputable def b_Sea_nextToGet_1 (v_there : Int32) (v_heads : Nat → Int32) (v_a1 : Nat → Int32) (x2 : Int32) (x3 : Int32) (x4 : Int32) (x5 : Int32) : Option ((Int32 × Int32 × Int32 × Int32) ⊕ (Int32)) :=
  if (6 : Int32) ≤ x5 then
    some (.inr x2)
  else
  if (6 : Int32) ≤ x5 then
    some (.inr x2)
  else
  if ix x5 6 = true then
  if (f_Sea_isThere v_there x5) = 0 then
    some (.inl (x2, x3, x4, (x5 + 1)))
  else
  if ix x5 6 = true then
  if ((v_heads (x5).toNatClampNeg) * x4) ≤ (x3 * ((v_a1 (x5).toNatClampNeg) + (1 : Int32))) then
    some (.inl (x2, x3, x4, (x5 + 1)))
  else
  if ix x5 6 = true then
  some (.inl (x5, (v_heads (x5).toNatClampNeg), ((v_a1 (x5).toNatClampNeg) + (1 : Int32)), (x5 + 1)))
  else none
  else none
  else none
noncomputable def f_Sea_nextToGet (v_there : Int32) (v_heads : Nat → Int32) (v_a1 : Nat → Int32) : Option (Int32) :=
  (ev (fun s => b_Sea_nextToGet_1 v_there v_heads v_a1 s.1 s.2.1 s.2.2.1 s.2.2.2) ((-6 : Int32), (0 : Int32), (1 : Int32), (0 : Int32))).bind fun y2_11 =>
  some y2_11
/-- SealStrait$Sea.whyNoJoining -/
noncomputable def f_Sea_whyNoJoining (v_there : Int32) (v_sides : Nat → Int32) (p1 : Int32) (p2 : Int32) : Option (Int32) :=
  if (f_Sea_isThere v_there p1) = 0 then
    some (1 : Int32)
  else
  if (f_Sea_isThere v_there p2) = 0 then
    some (1 : Int32)
  else
  if p1 = p2 then
    some (5 : Int32)
  else
  if ix p1 6 = true then
  if ix p2 6 = true then
  if (v_sides (p1).toNatClampNeg) = (v_sides (p2).toNatClampNeg) then
    some (0 : Int32)
  else
  some (5 : Int32)
  else none
  else none
/-- SealStrait$Sea.whyNoNet -/
noncomputable def f_Sea_whyNoNet (v_there : Int32) (v_heads : Nat → Int32) (p1 : Int32) : Option (Int32) :=
  if (f_Sea_isThere v_there p1) = 0 then
    some (1 : Int32)
  else
  if ix p1 6 = true then
  if (5 : Int32) ≤ (v_heads (p1).toNatClampNeg) then
    some (0 : Int32)
  else
  some (4 : Int32)
  else none
/-- SealStrait$Sea.whyNoWhistle -/
noncomputable def f_Sea_whyNoWhistle (v_there : Int32) (v_moods : Nat → Int32) (p1 : Int32) : Option (Int32) :=
  if (f_Sea_isThere v_there p1) = 0 then
    some (1 : Int32)
  else
  if ix p1 6 = true then
  if (v_moods (p1).toNatClampNeg) < (9 : Int32) then
    some (0 : Int32)
  else
  some (3 : Int32)
  else none
/-- SealStrait$Sea.whyNot -/
noncomputable def f_Sea_whyNot (v_there : Int32) (v_month : Int32) (v_heads : Nat → Int32) (v_sides : Nat → Int32) (v_moods : Nat → Int32) (v_moults : Nat → Int32) (v_a1_kind : Int32) (v_a1_one : Int32) (v_a1_other : Int32) (v_a2_words : Nat → Int32) : Option (Int32) :=
  if v_a1_kind = (0 : Int32) then
    (f_Treaty_wordsOf v_a2_words v_a1_one).bind fun r2 =>
    (f_Sea_signers v_there v_month v_heads v_moods v_moults r2).bind fun r4 =>
    if r4 = 0 then
      some (2 : Int32)
    else
    some (0 : Int32)
  else
  if v_a1_kind = (1 : Int32) then
    (f_Sea_whyNoWhistle v_there v_moods v_a1_one).bind fun r8 =>
    some r8
  else
  if v_a1_kind = (2 : Int32) then
    (f_Sea_whyNoNet v_there v_heads v_a1_one).bind fun r11 =>
    some r11
  else
  if v_a1_kind = (3 : Int32) then
    (f_Sea_whyNoJoining v_there v_sides v_a1_one v_a1_other).bind fun r14 =>
    some r14
  else
  if v_month < (999 : Int32) then
    some (0 : Int32)
  else
  some (6 : Int32)
/-- SealStrait$Sea.cheer -/
noncomputable def f_Sea_cheer (v_there : Int32) (v_moods : Nat → Int32) (p1 : Int32) (p2 : Int32) : Option ((Nat → Int32)) :=
  if (f_Sea_isThere v_there p1) = 0 then
    some v_moods
  else
  if ix p1 6 = true then
  if ix p1 6 = true then
  some (upd v_moods (p1).toNatClampNeg (if ((v_moods (p1).toNatClampNeg) + p2) < (9 : Int32) then ((v_moods (p1).toNatClampNeg) + p2) else (9 : Int32)))
  else none
  else none
/-- SealStrait$Sea.passMonth -/
noncomputable def b_Sea_passMonth_1 (v_month : Int32) (v_there : Int32) (v_moults : Nat → Int32) (x1 : Int32) (v_heads : Nat → Int32) (v_moods : Nat → Int32) : Option ((Int32 × (Nat → Int32) × (Nat → Int32)) ⊕ ((Nat → Int32) × (Nat → Int32))) :=
  if (6 : Int32) ≤ x1 then
    some (.inr (v_heads, v_moods))
  else
  (f_Sea_cheer v_there v_moods x1 (2 : Int32)).bind fun u3_moods =>
  if (f_Sea_isThere v_there x1) = 0 then
    some (.inl ((x1 + 1), v_heads, u3_moods))
  else
  if ix x1 6 = true then
  if (v_heads (x1).toNatClampNeg) < (2 : Int32) then
    some (.inl ((x1 + 1), v_heads, u3_moods))
  else
  if ix x1 6 = true then
  if (v_moults (x1).toNatClampNeg) = (v_month - v_month / (12 : Int32) * (12 : Int32)) then
    some (.inl ((x1 + 1), v_heads, u3_moods))
  else
  if ix x1 6 = true then
  if ix x1 6 = true then
  some (.inl ((x1 + 1), (upd v_heads (x1).toNatClampNeg (if ((v_heads (x1).toNatClampNeg) + (1 : Int32)) < (99 : Int32) then ((v_heads (x1).toNatClampNeg) + (1 : Int32)) else (99 : Int32))), u3_moods))
  else none
  else none
  else none
  else none
noncomputable def f_Sea_passMonth (v_there : Int32) (v_month : Int32) (v_heads : Nat → Int32) (v_moods : Nat → Int32) (v_moults : Nat → Int32) : Option (Int32 × (Nat → Int32) × (Nat → Int32)) :=
  (ev (fun s => b_Sea_passMonth_1 v_month v_there v_moults s.1 s.2.1 s.2.2) ((0 : Int32), v_heads, v_moods)).bind fun (z13_heads, z13_moods) =>
  some ((v_month + (1 : Int32)), z13_heads, z13_moods)
/-- SealStrait$Sea.joinTo -/
noncomputable def f_Sea_joinTo (v_there : Int32) (v_heads : Nat → Int32) (p1 : Int32) (p2 : Int32) : Option (Int32 × (Nat → Int32)) :=
  if (f_Sea_isThere v_there p1) = 0 then
    some (v_there, v_heads)
  else
  if (f_Sea_isThere v_there p2) = 0 then
    some (v_there, v_heads)
  else
  if ix p1 6 = true then
  if ix p2 6 = true then
  if ix p1 6 = true then
  some ((v_there &&& (((1 : Int32) <<< (p2 &&& 31)) ^^^ (-1 : Int32))), (upd v_heads (p1).toNatClampNeg (if ((v_heads (p1).toNatClampNeg) + (v_heads (p2).toNatClampNeg)) < (99 : Int32) then ((v_heads (p1).toNatClampNeg) + (v_heads (p2).toNatClampNeg)) else (99 : Int32))))
  else none
  else none
  else none
/-- SealStrait$Sea.takeNet -/
noncomputable def f_Sea_takeNet (v_there : Int32) (v_lost : Int32) (v_heads : Nat → Int32) (p1 : Int32) : Option (Int32 × (Nat → Int32)) :=
  if (f_Sea_isThere v_there p1) = 0 then
    some (v_lost, v_heads)
  else
  if ix p1 6 = true then
  if ix p1 6 = true then
  some ((v_lost + (5 : Int32)), (upd v_heads (p1).toNatClampNeg ((v_heads (p1).toNatClampNeg) - (5 : Int32))))
  else none
  else none
/-- SealStrait$Sea.readAloud -/
noncomputable def b_Sea_readAloud_1 (x1 : Int32) (x2 : Int32) (v_there : Int32) (x3 : Int32) (v_sides : Nat → Int32) (v_moods : Nat → Int32) : Option ((Int32 × (Nat → Int32) × (Nat → Int32)) ⊕ ((Nat → Int32) × (Nat → Int32))) :=
  if (6 : Int32) ≤ x3 then
    some (.inr (v_sides, v_moods))
  else
  if (f_Strait_has x2 x3) = 0 then
    (f_Sea_cheer v_there v_moods x3 (1 : Int32)).bind fun u7_moods =>
    some (.inl ((x3 + 1), v_sides, u7_moods))
  else
  if ix x3 6 = true then
  if ix x3 6 = true then
  if ix x3 6 = true then
  if ix x3 6 = true then
  some (.inl ((x3 + 1), (upd v_sides (x3).toNatClampNeg ((1 : Int32) - (v_sides (x3).toNatClampNeg))), (upd v_moods (x3).toNatClampNeg ((v_moods (x3).toNatClampNeg) - x1))))
  else none
  else none
  else none
  else none
noncomputable def f_Sea_readAloud (v_there : Int32) (v_month : Int32) (v_heads : Nat → Int32) (v_sides : Nat → Int32) (v_moods : Nat → Int32) (v_moults : Nat → Int32) (p1 : Int32) : Option ((Nat → Int32) × (Nat → Int32)) :=
  (f_Sea_signers v_there v_month v_heads v_moods v_moults p1).bind fun r1 =>
  (ev (fun s => b_Sea_readAloud_1 p1 r1 v_there s.1 s.2.1 s.2.2) ((0 : Int32), v_sides, v_moods)).bind fun (z13_sides, z13_moods) =>
  some (z13_sides, z13_moods)
/-- SealStrait$Sea.perform -/
noncomputable def f_Sea_perform (v_there : Int32) (v_month : Int32) (v_lost : Int32) (v_heads : Nat → Int32) (v_sides : Nat → Int32) (v_moods : Nat → Int32) (v_moults : Nat → Int32) (v_a1_kind : Int32) (v_a1_one : Int32) (v_a1_other : Int32) (v_a2_words : Nat → Int32) : Option (Int32 × Int32 × Int32 × (Nat → Int32) × (Nat → Int32) × (Nat → Int32)) :=
  if v_a1_kind = (0 : Int32) then
    (f_Treaty_wordsOf v_a2_words v_a1_one).bind fun r2 =>
    (f_Sea_readAloud v_there v_month v_heads v_sides v_moods v_moults r2).bind fun (u4_sides, u4_moods) =>
    some (v_there, v_month, v_lost, v_heads, u4_sides, u4_moods)
  else
  if v_a1_kind = (1 : Int32) then
    (f_Sea_cheer v_there v_moods v_a1_one (3 : Int32)).bind fun u7_moods =>
    some (v_there, v_month, v_lost, v_heads, v_sides, u7_moods)
  else
  if v_a1_kind = (2 : Int32) then
    (f_Sea_takeNet v_there v_lost v_heads v_a1_one).bind fun (u10_lost, u10_heads) =>
    some (v_there, v_month, u10_lost, u10_heads, v_sides, v_moods)
  else
  if v_a1_kind = (3 : Int32) then
    (f_Sea_joinTo v_there v_heads v_a1_one v_a1_other).bind fun (u13_there, u13_heads) =>
    some (u13_there, v_month, v_lost, u13_heads, v_sides, v_moods)
  else
  (f_Sea_passMonth v_there v_month v_heads v_moods v_moults).bind fun (u15_month, u15_heads, u15_moods) =>
  some (v_there, u15_month, v_lost, u15_heads, v_sides, u15_moods)
/-- SealStrait$Treaty.copyFrom -/
noncomputable def b_Treaty_copyFrom_1 (v_a1_words : Nat → Int32) (v_a1_clashes : Nat → Int32) (x2 : Int32) (v_words : Nat → Int32) (v_clashes : Nat → Int32) : Option ((Int32 × (Nat → Int32) × (Nat → Int32)) ⊕ ((Nat → Int32) × (Nat → Int32))) :=
  if (10 : Int32) ≤ x2 then
    some (.inr (v_words, v_clashes))
  else
  if ix x2 10 = true then
  if ix x2 10 = true then
  if ix x2 10 = true then
  if ix x2 10 = true then
  some (.inl ((x2 + 1), (upd v_words (x2).toNatClampNeg (v_a1_words (x2).toNatClampNeg)), (upd v_clashes (x2).toNatClampNeg (v_a1_clashes (x2).toNatClampNeg))))
  else none
  else none
  else none
  else none
noncomputable def f_Treaty_copyFrom (v_words : Nat → Int32) (v_clashes : Nat → Int32) (v_a1_words : Nat → Int32) (v_a1_clashes : Nat → Int32) : Option ((Nat → Int32) × (Nat → Int32)) :=
  (ev (fun s => b_Treaty_copyFrom_1 v_a1_words v_a1_clashes s.1 s.2.1 s.2.2) ((0 : Int32), v_words, v_clashes)).bind fun (z7_words, z7_clashes) =>
  some (z7_words, z7_clashes)
/-- SealStrait$Treaty.setClash -/
noncomputable def f_Treaty_setClash (v_clashes : Nat → Int32) (p1 : Int32) (p2 : Int32) (p3 : Int32) : Option ((Nat → Int32)) :=
  if (f_Strait_within p1 (0 : Int32) (9 : Int32)) = 0 then
    some v_clashes
  else
  if p3 = 0 then
    if ix p1 10 = true then
    if ix p1 10 = true then
    some (upd v_clashes (p1).toNatClampNeg ((v_clashes (p1).toNatClampNeg) &&& (((1 : Int32) <<< (p2 &&& 31)) ^^^ (-1 : Int32))))
    else none
    else none
  else
  if ix p1 10 = true then
  if ix p1 10 = true then
  some (upd v_clashes (p1).toNatClampNeg ((v_clashes (p1).toNatClampNeg) ||| ((1 : Int32) <<< (p2 &&& 31))))
  else none
  else none
/-- java/lang/Integer.bitCount -/
noncomputable def f_Integer_bitCount (p1 : Int32) : Int32 :=
  ((((((((p1 - ((((p1).toUInt32 >>> (((1 : Int32)).toUInt32 &&& Int32.toUInt32 31)).toInt32) &&& (1431655765 : Int32))) &&& (858993459 : Int32)) + (((((p1 - ((((p1).toUInt32 >>> (((1 : Int32)).toUInt32 &&& Int32.toUInt32 31)).toInt32) &&& (1431655765 : Int32)))).toUInt32 >>> (((2 : Int32)).toUInt32 &&& Int32.toUInt32 31)).toInt32) &&& (858993459 : Int32))) + ((((((p1 - ((((p1).toUInt32 >>> (((1 : Int32)).toUInt32 &&& Int32.toUInt32 31)).toInt32) &&& (1431655765 : Int32))) &&& (858993459 : Int32)) + (((((p1 - ((((p1).toUInt32 >>> (((1 : Int32)).toUInt32 &&& Int32.toUInt32 31)).toInt32) &&& (1431655765 : Int32)))).toUInt32 >>> (((2 : Int32)).toUInt32 &&& Int32.toUInt32 31)).toInt32) &&& (858993459 : Int32)))).toUInt32 >>> (((4 : Int32)).toUInt32 &&& Int32.toUInt32 31)).toInt32)) &&& (252645135 : Int32)) + ((((((((p1 - ((((p1).toUInt32 >>> (((1 : Int32)).toUInt32 &&& Int32.toUInt32 31)).toInt32) &&& (1431655765 : Int32))) &&& (858993459 : Int32)) + (((((p1 - ((((p1).toUInt32 >>> (((1 : Int32)).toUInt32 &&& Int32.toUInt32 31)).toInt32) &&& (1431655765 : Int32)))).toUInt32 >>> (((2 : Int32)).toUInt32 &&& Int32.toUInt32 31)).toInt32) &&& (858993459 : Int32))) + ((((((p1 - ((((p1).toUInt32 >>> (((1 : Int32)).toUInt32 &&& Int32.toUInt32 31)).toInt32) &&& (1431655765 : Int32))) &&& (858993459 : Int32)) + (((((p1 - ((((p1).toUInt32 >>> (((1 : Int32)).toUInt32 &&& Int32.toUInt32 31)).toInt32) &&& (1431655765 : Int32)))).toUInt32 >>> (((2 : Int32)).toUInt32 &&& Int32.toUInt32 31)).toInt32) &&& (858993459 : Int32)))).toUInt32 >>> (((4 : Int32)).toUInt32 &&& Int32.toUInt32 31)).toInt32)) &&& (252645135 : Int32))).toUInt32 >>> (((8 : Int32)).toUInt32 &&& Int32.toUInt32 31)).toInt32)) + (((((((((p1 - ((((p1).toUInt32 >>> (((1 : Int32)).toUInt32 &&& Int32.toUInt32 31)).toInt32) &&& (1431655765 : Int32))) &&& (858993459 : Int32)) + (((((p1 - ((((p1).toUInt32 >>> (((1 : Int32)).toUInt32 &&& Int32.toUInt32 31)).toInt32) &&& (1431655765 : Int32)))).toUInt32 >>> (((2 : Int32)).toUInt32 &&& Int32.toUInt32 31)).toInt32) &&& (858993459 : Int32))) + ((((((p1 - ((((p1).toUInt32 >>> (((1 : Int32)).toUInt32 &&& Int32.toUInt32 31)).toInt32) &&& (1431655765 : Int32))) &&& (858993459 : Int32)) + (((((p1 - ((((p1).toUInt32 >>> (((1 : Int32)).toUInt32 &&& Int32.toUInt32 31)).toInt32) &&& (1431655765 : Int32)))).toUInt32 >>> (((2 : Int32)).toUInt32 &&& Int32.toUInt32 31)).toInt32) &&& (858993459 : Int32)))).toUInt32 >>> (((4 : Int32)).toUInt32 &&& Int32.toUInt32 31)).toInt32)) &&& (252645135 : Int32)) + ((((((((p1 - ((((p1).toUInt32 >>> (((1 : Int32)).toUInt32 &&& Int32.toUInt32 31)).toInt32) &&& (1431655765 : Int32))) &&& (858993459 : Int32)) + (((((p1 - ((((p1).toUInt32 >>> (((1 : Int32)).toUInt32 &&& Int32.toUInt32 31)).toInt32) &&& (1431655765 : Int32)))).toUInt32 >>> (((2 : Int32)).toUInt32 &&& Int32.toUInt32 31)).toInt32) &&& (858993459 : Int32))) + ((((((p1 - ((((p1).toUInt32 >>> (((1 : Int32)).toUInt32 &&& Int32.toUInt32 31)).toInt32) &&& (1431655765 : Int32))) &&& (858993459 : Int32)) + (((((p1 - ((((p1).toUInt32 >>> (((1 : Int32)).toUInt32 &&& Int32.toUInt32 31)).toInt32) &&& (1431655765 : Int32)))).toUInt32 >>> (((2 : Int32)).toUInt32 &&& Int32.toUInt32 31)).toInt32) &&& (858993459 : Int32)))).toUInt32 >>> (((4 : Int32)).toUInt32 &&& Int32.toUInt32 31)).toInt32)) &&& (252645135 : Int32))).toUInt32 >>> (((8 : Int32)).toUInt32 &&& Int32.toUInt32 31)).toInt32))).toUInt32 >>> (((16 : Int32)).toUInt32 &&& Int32.toUInt32 31)).toInt32)) &&& (63 : Int32))
/-- SealStrait$Treaty.clashingPairs -/
noncomputable def b_Treaty_clashingPairs_1 (v_clashes : Nat → Int32) (x1 : Int32) (x2 : Int32) : Option ((Int32 × Int32) ⊕ (Int32)) :=
  if (10 : Int32) ≤ x2 then
    some (.inr x1)
  else
  if ix x2 10 = true then
  some (.inl ((x1 + (f_Integer_bitCount (v_clashes (x2).toNatClampNeg))), (x2 + 1)))
  else none
noncomputable def f_Treaty_clashingPairs (v_clashes : Nat → Int32) : Option (Int32) :=
  (ev (fun s => b_Treaty_clashingPairs_1 v_clashes s.1 s.2) ((0 : Int32), (0 : Int32))).bind fun y1_5 =>
  some (y1_5 / (2 : Int32))
/-- SealStrait$Treaty.isQuiet -/
noncomputable def b_Treaty_isQuiet_1 (x1 : Int32) (v_clashes : Nat → Int32) (x2 : Int32) : Option ((Int32) ⊕ (Int32)) :=
  if (10 : Int32) ≤ x2 then
    some (.inr (1 : Int32))
  else
  if (f_Strait_has x1 x2) = 0 then
    some (.inl (x2 + 1))
  else
  if ix x2 10 = true then
  if ((v_clashes (x2).toNatClampNeg) &&& x1) = 0 then
    some (.inl (x2 + 1))
  else
  some (.inr (0 : Int32))
  else none
noncomputable def f_Treaty_isQuiet (v_clashes : Nat → Int32) (p1 : Int32) : Option (Int32) :=
  ev (fun s => b_Treaty_isQuiet_1 p1 v_clashes s) (0 : Int32)
/-- SealStrait$Treaty.leastToDrop -/
noncomputable def b_Treaty_leastToDrop_1 (x1 : Int32) (v_clashes : Nat → Int32) (x2 : Int32) (x3 : Int32) (x4 : Int32) : Option ((Int32 × Int32 × Int32) ⊕ (Int32)) :=
  if (1023 : Int32) < x4 then
    some (.inr x2)
  else
  if (x4 &&& (x1 ^^^ (-1 : Int32))) = 0 then
    if (1 : Int32) = 0 then
      some (.inl (x2, x3, (x4 + 1)))
    else
    if x3 ≤ (f_Integer_bitCount x4) then
      some (.inl (x2, x3, (x4 + 1)))
    else
    (f_Treaty_isQuiet v_clashes (x1 &&& (x4 ^^^ (-1 : Int32)))).bind fun r14 =>
    if r14 = 0 then
      some (.inl (x2, x3, (x4 + 1)))
    else
    some (.inl (x4, (f_Integer_bitCount x4), (x4 + 1)))
  else
  if (0 : Int32) = 0 then
    some (.inl (x2, x3, (x4 + 1)))
  else
  if x3 ≤ (f_Integer_bitCount x4) then
    some (.inl (x2, x3, (x4 + 1)))
  else
  (f_Treaty_isQuiet v_clashes (x1 &&& (x4 ^^^ (-1 : Int32)))).bind fun r7 =>
  if r7 = 0 then
    some (.inl (x2, x3, (x4 + 1)))
  else
  some (.inl (x4, (f_Integer_bitCount x4), (x4 + 1)))
noncomputable def f_Treaty_leastToDrop (v_clashes : Nat → Int32) (p1 : Int32) : Option (Int32) :=
  (ev (fun s => b_Treaty_leastToDrop_1 p1 v_clashes s.1 s.2.1 s.2.2) (p1, (11 : Int32), (0 : Int32))).bind fun y2_18 =>
  some y2_18
/-- SealStrait$Trial.begin -/
noncomputable def f_Trial_begin (v_sea_there : Int32) (v_sea_month : Int32) (v_sea_lost : Int32) (v_sea_heads : Nat → Int32) (v_sea_sides : Nat → Int32) (v_sea_moods : Nat → Int32) (v_sea_moults : Nat → Int32) (v_isFaulty : Int32) (v_acts : Int32) (v_why : Int32) (v_readings : Int32) (v_signedAll : Int32) (v_a1_signs : Nat → Int32) (v_a1_size : Int32) (v_a2_there : Int32) (v_a2_month : Int32) (v_a2_lost : Int32) (v_a2_heads : Nat → Int32) (v_a2_sides : Nat → Int32) (v_a2_moods : Nat → Int32) (v_a2_moults : Nat → Int32) : Option (Int32 × Int32 × Int32 × (Nat → Int32) × (Nat → Int32) × (Nat → Int32) × (Nat → Int32) × Int32 × Int32 × Int32 × Int32 × Int32) :=
  (f_Sea_copyFrom v_sea_there v_sea_month v_sea_lost v_sea_heads v_sea_sides v_sea_moods v_sea_moults v_a2_there v_a2_month v_a2_lost v_a2_heads v_a2_sides v_a2_moods v_a2_moults).bind fun (u1_there, u1_month, u1_lost, u1_heads, u1_sides, u1_moods, u1_moults) =>
  (f_Pad_faultPlace v_a1_signs v_a1_size).bind fun r3 =>
  if r3 = (-6 : Int32) then
    some (u1_there, u1_month, u1_lost, u1_heads, u1_sides, u1_moods, u1_moults, (0 : Int32), (0 : Int32), (0 : Int32), (0 : Int32), v_a2_there)
  else
  some (u1_there, u1_month, u1_lost, u1_heads, u1_sides, u1_moods, u1_moults, (1 : Int32), (0 : Int32), (0 : Int32), (0 : Int32), v_a2_there)
/-- SealStrait$Trial.noteReading -/
noncomputable def f_Trial_noteReading (v_sea_there : Int32) (v_sea_month : Int32) (v_sea_heads : Nat → Int32) (v_sea_moods : Nat → Int32) (v_sea_moults : Nat → Int32) (v_act_kind : Int32) (v_act_one : Int32) (v_readings : Int32) (v_signedAll : Int32) (v_a1_words : Nat → Int32) : Option (Int32 × Int32) :=
  if v_act_kind = 0 then
    (f_Treaty_wordsOf v_a1_words v_act_one).bind fun r2 =>
    (f_Sea_signers v_sea_there v_sea_month v_sea_heads v_sea_moods v_sea_moults r2).bind fun r4 =>
    some ((v_readings + (1 : Int32)), (v_signedAll &&& r4))
  else
  some (v_readings, v_signedAll)
/-- SealStrait$Trial.run -/
noncomputable def b_Trial_run_1 (v_sea_moults : Nat → Int32) (v_isFaulty : Int32) (v_a1_signs : Nat → Int32) (v_a1_size : Int32) (v_a3_words : Nat → Int32) (x4 : Int32) (x5 : Int32) (v_sea_there : Int32) (v_sea_month : Int32) (v_sea_lost : Int32) (v_sea_heads : Nat → Int32) (v_sea_sides : Nat → Int32) (v_sea_moods : Nat → Int32) (v_act_kind : Int32) (v_act_one : Int32) (v_act_other : Int32) (v_acts : Int32) (v_why : Int32) (v_readings : Int32) (v_signedAll : Int32) : Option ((Int32 × Int32 × Int32 × Int32 × Int32 × (Nat → Int32) × (Nat → Int32) × (Nat → Int32) × Int32 × Int32 × Int32 × Int32 × Int32 × Int32 × Int32) ⊕ (Int32 × Int32 × Int32 × (Nat → Int32) × (Nat → Int32) × (Nat → Int32) × (Nat → Int32) × Int32 × Int32 × Int32 × Int32 × Int32 × Int32 × Int32 × Int32)) :=
  if (60 : Int32) ≤ x5 then
    some (.inr (v_sea_there, v_sea_month, v_sea_lost, v_sea_heads, v_sea_sides, v_sea_moods, v_sea_moults, v_act_kind, v_act_one, v_act_other, v_isFaulty, v_acts, v_why, v_readings, v_signedAll))
  else
  if v_a1_size ≤ x4 then
    some (.inr (v_sea_there, v_sea_month, v_sea_lost, v_sea_heads, v_sea_sides, v_sea_moods, v_sea_moults, v_act_kind, v_act_one, v_act_other, v_isFaulty, v_acts, v_why, v_readings, v_signedAll))
  else
  if v_isFaulty = 0 then
    (f_Act_takeFrom v_act_kind v_act_one v_act_other v_a1_signs v_a1_size x4).bind fun (r9, u9_kind, u9_one, u9_other) =>
    (f_Sea_whyNot v_sea_there v_sea_month v_sea_heads v_sea_sides v_sea_moods v_sea_moults u9_kind u9_one u9_other v_a3_words).bind fun r11 =>
    if r11 = 0 then
      (f_Trial_noteReading v_sea_there v_sea_month v_sea_heads v_sea_moods v_sea_moults u9_kind u9_one v_readings v_signedAll v_a3_words).bind fun (u14_readings, u14_signedAll) =>
      (f_Sea_perform v_sea_there v_sea_month v_sea_lost v_sea_heads v_sea_sides v_sea_moods v_sea_moults u9_kind u9_one u9_other v_a3_words).bind fun (u16_there, u16_month, u16_lost, u16_heads, u16_sides, u16_moods) =>
      some (.inl ((x4 + r9), (x5 + 1), u16_there, u16_month, u16_lost, u16_heads, u16_sides, u16_moods, u9_kind, u9_one, u9_other, (v_acts + (1 : Int32)), r11, u14_readings, u14_signedAll))
    else
    some (.inr (v_sea_there, v_sea_month, v_sea_lost, v_sea_heads, v_sea_sides, v_sea_moods, v_sea_moults, u9_kind, u9_one, u9_other, v_isFaulty, v_acts, r11, v_readings, v_signedAll))
  else
  some (.inr (v_sea_there, v_sea_month, v_sea_lost, v_sea_heads, v_sea_sides, v_sea_moods, v_sea_moults, v_act_kind, v_act_one, v_act_other, v_isFaulty, v_acts, v_why, v_readings, v_signedAll))
noncomputable def f_Trial_run (v_sea_there : Int32) (v_sea_month : Int32) (v_sea_lost : Int32) (v_sea_heads : Nat → Int32) (v_sea_sides : Nat → Int32) (v_sea_moods : Nat → Int32) (v_sea_moults : Nat → Int32) (v_act_kind : Int32) (v_act_one : Int32) (v_act_other : Int32) (v_isFaulty : Int32) (v_acts : Int32) (v_why : Int32) (v_readings : Int32) (v_signedAll : Int32) (v_a1_signs : Nat → Int32) (v_a1_size : Int32) (v_a2_there : Int32) (v_a2_month : Int32) (v_a2_lost : Int32) (v_a2_heads : Nat → Int32) (v_a2_sides : Nat → Int32) (v_a2_moods : Nat → Int32) (v_a2_moults : Nat → Int32) (v_a3_words : Nat → Int32) : Option (Int32 × Int32 × Int32 × (Nat → Int32) × (Nat → Int32) × (Nat → Int32) × (Nat → Int32) × Int32 × Int32 × Int32 × Int32 × Int32 × Int32 × Int32 × Int32) :=
  (f_Trial_begin v_sea_there v_sea_month v_sea_lost v_sea_heads v_sea_sides v_sea_moods v_sea_moults v_isFaulty v_acts v_why v_readings v_signedAll v_a1_signs v_a1_size v_a2_there v_a2_month v_a2_lost v_a2_heads v_a2_sides v_a2_moods v_a2_moults).bind fun (u1_sea_there, u1_sea_month, u1_sea_lost, u1_sea_heads, u1_sea_sides, u1_sea_moods, u1_sea_moults, u1_isFaulty, u1_acts, u1_why, u1_readings, u1_signedAll) =>
  ev (fun s => b_Trial_run_1 u1_sea_moults u1_isFaulty v_a1_signs v_a1_size v_a3_words s.1 s.2.1 s.2.2.1 s.2.2.2.1 s.2.2.2.2.1 s.2.2.2.2.2.1 s.2.2.2.2.2.2.1 s.2.2.2.2.2.2.2.1 s.2.2.2.2.2.2.2.2.1 s.2.2.2.2.2.2.2.2.2.1 s.2.2.2.2.2.2.2.2.2.2.1 s.2.2.2.2.2.2.2.2.2.2.2.1 s.2.2.2.2.2.2.2.2.2.2.2.2.1 s.2.2.2.2.2.2.2.2.2.2.2.2.2.1 s.2.2.2.2.2.2.2.2.2.2.2.2.2.2) ((0 : Int32), (0 : Int32), u1_sea_there, u1_sea_month, u1_sea_lost, u1_sea_heads, u1_sea_sides, u1_sea_moods, v_act_kind, v_act_one, v_act_other, u1_acts, u1_why, u1_readings, u1_signedAll)
/-- SealStrait$Trial.allCanBe -/
noncomputable def f_Trial_allCanBe (v_isFaulty : Int32) (v_why : Int32) : Int32 :=
  if v_isFaulty = 0 then
    if v_why = 0 then
      (1 : Int32)
    else
    (0 : Int32)
  else
  (0 : Int32)
/-- SealStrait$Trial.runYear -/
noncomputable def b_Trial_runYear_1 (x2 : Int32) (v_sea_moults : Nat → Int32) (v_a4_words : Nat → Int32) (x5 : Int32) (x6 : Int32) (v_sea_there : Int32) (v_sea_month : Int32) (v_sea_lost : Int32) (v_sea_heads : Nat → Int32) (v_sea_sides : Nat → Int32) (v_sea_moods : Nat → Int32) (v_act_kind : Int32) (v_act_one : Int32) (v_act_other : Int32) : Option ((Int32 × Int32 × Int32 × Int32 × Int32 × (Nat → Int32) × (Nat → Int32) × (Nat → Int32) × Int32 × Int32 × Int32) ⊕ (Int32 × Int32 × Int32 × (Nat → Int32) × (Nat → Int32) × (Nat → Int32) × Int32 × Int32 × Int32)) :=
  if x2 ≤ x6 then
    some (.inr (v_sea_there, v_sea_month, v_sea_lost, v_sea_heads, v_sea_sides, v_sea_moods, v_act_kind, v_act_one, v_act_other))
  else
  (f_Act_draw v_act_kind v_act_one v_act_other ((((75 : Int32) * x5) + (74 : Int32)) - (((75 : Int32) * x5) + (74 : Int32)) / (65537 : Int32) * (65537 : Int32))).bind fun (u5_kind, u5_one, u5_other) =>
  (f_Sea_whyNot v_sea_there v_sea_month v_sea_heads v_sea_sides v_sea_moods v_sea_moults u5_kind u5_one u5_other v_a4_words).bind fun r7 =>
  if r7 = 0 then
    (f_Sea_perform v_sea_there v_sea_month v_sea_lost v_sea_heads v_sea_sides v_sea_moods v_sea_moults u5_kind u5_one u5_other v_a4_words).bind fun (u10_there, u10_month, u10_lost, u10_heads, u10_sides, u10_moods) =>
    some (.inl (((((75 : Int32) * x5) + (74 : Int32)) - (((75 : Int32) * x5) + (74 : Int32)) / (65537 : Int32) * (65537 : Int32)), (x6 + 1), u10_there, u10_month, u10_lost, u10_heads, u10_sides, u10_moods, u5_kind, u5_one, u5_other))
  else
  some (.inl (((((75 : Int32) * x5) + (74 : Int32)) - (((75 : Int32) * x5) + (74 : Int32)) / (65537 : Int32) * (65537 : Int32)), (x6 + 1), v_sea_there, v_sea_month, v_sea_lost, v_sea_heads, v_sea_sides, v_sea_moods, u5_kind, u5_one, u5_other))
noncomputable def f_Trial_runYear (v_sea_there : Int32) (v_sea_month : Int32) (v_sea_lost : Int32) (v_sea_heads : Nat → Int32) (v_sea_sides : Nat → Int32) (v_sea_moods : Nat → Int32) (v_sea_moults : Nat → Int32) (v_act_kind : Int32) (v_act_one : Int32) (v_act_other : Int32) (v_a3_there : Int32) (v_a3_month : Int32) (v_a3_lost : Int32) (v_a3_heads : Nat → Int32) (v_a3_sides : Nat → Int32) (v_a3_moods : Nat → Int32) (v_a3_moults : Nat → Int32) (v_a4_words : Nat → Int32) (p1 : Int32) (p2 : Int32) : Option (Int32 × Int32 × Int32 × (Nat → Int32) × (Nat → Int32) × (Nat → Int32) × (Nat → Int32) × Int32 × Int32 × Int32) :=
  (f_Sea_copyFrom v_sea_there v_sea_month v_sea_lost v_sea_heads v_sea_sides v_sea_moods v_sea_moults v_a3_there v_a3_month v_a3_lost v_a3_heads v_a3_sides v_a3_moods v_a3_moults).bind fun (u1_there, u1_month, u1_lost, u1_heads, u1_sides, u1_moods, u1_moults) =>
  (ev (fun s => b_Trial_runYear_1 p2 u1_moults v_a4_words s.1 s.2.1 s.2.2.1 s.2.2.2.1 s.2.2.2.2.1 s.2.2.2.2.2.1 s.2.2.2.2.2.2.1 s.2.2.2.2.2.2.2.1 s.2.2.2.2.2.2.2.2.1 s.2.2.2.2.2.2.2.2.2.1 s.2.2.2.2.2.2.2.2.2.2) (p1, (0 : Int32), u1_there, u1_month, u1_lost, u1_heads, u1_sides, u1_moods, v_act_kind, v_act_one, v_act_other)).bind fun (z12_sea_there, z12_sea_month, z12_sea_lost, z12_sea_heads, z12_sea_sides, z12_sea_moods, z12_act_kind, z12_act_one, z12_act_other) =>
  some (z12_sea_there, z12_sea_month, z12_sea_lost, z12_sea_heads, z12_sea_sides, z12_sea_moods, u1_moults, z12_act_kind, z12_act_one, z12_act_other)
/-- SealStrait.herd -/
noncomputable def f_Strait_herd (v_sea_there : Int32) (v_sea_heads : Nat → Int32) (v_sea_sides : Nat → Int32) (v_sea_moods : Nat → Int32) (v_sea_moults : Nat → Int32) (p1 : Int32) (p2 : Int32) (p3 : Int32) (p4 : Int32) (p5 : Int32) : Option (Int32 × Int32 × (Nat → Int32) × (Nat → Int32) × (Nat → Int32) × (Nat → Int32)) :=
  if (f_Strait_within p1 (0 : Int32) (5 : Int32)) = 0 then
    some ((-1 : Int32), v_sea_there, v_sea_heads, v_sea_sides, v_sea_moods, v_sea_moults)
  else
  if (f_Strait_within p2 (0 : Int32) (99 : Int32)) = 0 then
    some ((-2 : Int32), v_sea_there, v_sea_heads, v_sea_sides, v_sea_moods, v_sea_moults)
  else
  if (f_Strait_within p3 (0 : Int32) (1 : Int32)) = 0 then
    some ((-2 : Int32), v_sea_there, v_sea_heads, v_sea_sides, v_sea_moods, v_sea_moults)
  else
  if (f_Strait_within p4 (0 : Int32) (9 : Int32)) = 0 then
    some ((-2 : Int32), v_sea_there, v_sea_heads, v_sea_sides, v_sea_moods, v_sea_moults)
  else
  if (f_Strait_within p5 (0 : Int32) (11 : Int32)) = 0 then
    some ((-2 : Int32), v_sea_there, v_sea_heads, v_sea_sides, v_sea_moods, v_sea_moults)
  else
  (f_Sea_settle v_sea_there v_sea_heads v_sea_sides v_sea_moods v_sea_moults p1 p2 p3 p4 p5).bind fun (u11_there, u11_heads, u11_sides, u11_moods, u11_moults) =>
  some ((f_Integer_bitCount u11_there), u11_there, u11_heads, u11_sides, u11_moods, u11_moults)
/-- SealStrait.clause -/
noncomputable def f_Strait_clause (v_treaty_words : Nat → Int32) (p1 : Int32) (p2 : Int32) : Option (Int32 × (Nat → Int32)) :=
  if (f_Strait_within p1 (0 : Int32) (9 : Int32)) = 0 then
    some ((-1 : Int32), v_treaty_words)
  else
  if (f_Strait_within p2 (1 : Int32) (9 : Int32)) = 0 then
    some ((-2 : Int32), v_treaty_words)
  else
  if ix p1 10 = true then
  if ix p1 10 = true then
  some ((v_treaty_words (p1).toNatClampNeg), (upd v_treaty_words (p1).toNatClampNeg p2))
  else none
  else none
/-- SealStrait.clash -/
noncomputable def f_Strait_clash (v_treaty_clashes : Nat → Int32) (p1 : Int32) (p2 : Int32) (p3 : Int32) : Option (Int32 × (Nat → Int32)) :=
  if (f_Strait_within p1 (0 : Int32) (9 : Int32)) = 0 then
    some ((-1 : Int32), v_treaty_clashes)
  else
  if (f_Strait_within p2 (0 : Int32) (9 : Int32)) = 0 then
    some ((-1 : Int32), v_treaty_clashes)
  else
  if p1 = p2 then
    some ((-1 : Int32), v_treaty_clashes)
  else
  (f_Treaty_setClash v_treaty_clashes p1 p2 p3).bind fun u6_clashes =>
  (f_Treaty_setClash u6_clashes p2 p1 p3).bind fun u8_clashes =>
  (f_Treaty_clashingPairs u8_clashes).bind fun r10 =>
  some (r10, u8_clashes)
/-- SealStrait.rock -/
noncomputable def f_Strait_rock (v_lookout_seen : Nat → Int32) (p1 : Int32) (p2 : Int32) : Option (Int32 × (Nat → Int32)) :=
  if (f_Strait_within p1 (0 : Int32) (5 : Int32)) = 0 then
    some ((-1 : Int32), v_lookout_seen)
  else
  if (f_Strait_within p2 (0 : Int32) (63 : Int32)) = 0 then
    some ((-2 : Int32), v_lookout_seen)
  else
  if ix p1 6 = true then
  if ix p1 6 = true then
  some ((v_lookout_seen (p1).toNatClampNeg), (upd v_lookout_seen (p1).toNatClampNeg p2))
  else none
  else none
/-- SealStrait.say -/
noncomputable def f_Strait_say (v_pad_signs : Nat → Int32) (v_pad_size : Int32) (p1 : Int32) : Option (Int32 × (Nat → Int32) × Int32) :=
  if (f_Strait_within p1 (33 : Int32) (126 : Int32)) = 0 then
    some ((-2 : Int32), v_pad_signs, v_pad_size)
  else
  (f_Pad_write v_pad_signs v_pad_size p1).bind fun (r3, u3_signs, u3_size) =>
  if r3 = 0 then
    some ((-4 : Int32), u3_signs, u3_size)
  else
  some (u3_size, u3_signs, u3_size)
/-- SealStrait.wipe -/
noncomputable def f_Strait_wipe (v_pad_size : Int32) : Option (Int32 × Int32) :=
  some (v_pad_size, (0 : Int32))
/-- SealStrait.fault -/
noncomputable def f_Strait_fault (v_pad_signs : Nat → Int32) (v_pad_size : Int32) : Option (Int32) :=
  (f_Pad_faultPlace v_pad_signs v_pad_size).bind fun r1 =>
  some r1
/-- SealStrait.judge -/
noncomputable def f_Strait_judge (v_sea_there : Int32) (v_sea_month : Int32) (v_sea_lost : Int32) (v_sea_heads : Nat → Int32) (v_sea_sides : Nat → Int32) (v_sea_moods : Nat → Int32) (v_sea_moults : Nat → Int32) (v_treaty_words : Nat → Int32) (v_pad_signs : Nat → Int32) (v_pad_size : Int32) (v_trial_sea_there : Int32) (v_trial_sea_month : Int32) (v_trial_sea_lost : Int32) (v_trial_sea_heads : Nat → Int32) (v_trial_sea_sides : Nat → Int32) (v_trial_sea_moods : Nat → Int32) (v_trial_sea_moults : Nat → Int32) (v_trial_act_kind : Int32) (v_trial_act_one : Int32) (v_trial_act_other : Int32) (v_trial_isFaulty : Int32) (v_trial_acts : Int32) (v_trial_why : Int32) (v_trial_readings : Int32) (v_trial_signedAll : Int32) (p1 : Int32) : Option (Int32 × Int32 × Int32 × Int32 × (Nat → Int32) × (Nat → Int32) × (Nat → Int32) × (Nat → Int32) × Int32 × Int32 × Int32 × Int32 × Int32 × Int32 × Int32 × Int32) :=
  if (f_Strait_within p1 (0 : Int32) (1 : Int32)) = 0 then
    some ((-2 : Int32), v_trial_sea_there, v_trial_sea_month, v_trial_sea_lost, v_trial_sea_heads, v_trial_sea_sides, v_trial_sea_moods, v_trial_sea_moults, v_trial_act_kind, v_trial_act_one, v_trial_act_other, v_trial_isFaulty, v_trial_acts, v_trial_why, v_trial_readings, v_trial_signedAll)
  else
  (f_Trial_run v_trial_sea_there v_trial_sea_month v_trial_sea_lost v_trial_sea_heads v_trial_sea_sides v_trial_sea_moods v_trial_sea_moults v_trial_act_kind v_trial_act_one v_trial_act_other v_trial_isFaulty v_trial_acts v_trial_why v_trial_readings v_trial_signedAll v_pad_signs v_pad_size v_sea_there v_sea_month v_sea_lost v_sea_heads v_sea_sides v_sea_moods v_sea_moults v_treaty_words).bind fun (u3_sea_there, u3_sea_month, u3_sea_lost, u3_sea_heads, u3_sea_sides, u3_sea_moods, u3_sea_moults, u3_act_kind, u3_act_one, u3_act_other, u3_isFaulty, u3_acts, u3_why, u3_readings, u3_signedAll) =>
  if u3_isFaulty = 0 then
    if u3_why = 0 then
      some ((-6 : Int32), u3_sea_there, u3_sea_month, u3_sea_lost, u3_sea_heads, u3_sea_sides, u3_sea_moods, u3_sea_moults, u3_act_kind, u3_act_one, u3_act_other, u3_isFaulty, u3_acts, u3_why, u3_readings, u3_signedAll)
    else
    if p1 = 0 then
      some (u3_acts, u3_sea_there, u3_sea_month, u3_sea_lost, u3_sea_heads, u3_sea_sides, u3_sea_moods, u3_sea_moults, u3_act_kind, u3_act_one, u3_act_other, u3_isFaulty, u3_acts, u3_why, u3_readings, u3_signedAll)
    else
    some (u3_why, u3_sea_there, u3_sea_month, u3_sea_lost, u3_sea_heads, u3_sea_sides, u3_sea_moods, u3_sea_moults, u3_act_kind, u3_act_one, u3_act_other, u3_isFaulty, u3_acts, u3_why, u3_readings, u3_signedAll)
  else
  some ((-5 : Int32), u3_sea_there, u3_sea_month, u3_sea_lost, u3_sea_heads, u3_sea_sides, u3_sea_moods, u3_sea_moults, u3_act_kind, u3_act_one, u3_act_other, u3_isFaulty, u3_acts, u3_why, u3_readings, u3_signedAll)
/-- SealStrait.done -/
noncomputable def f_Strait_done (v_sea_there : Int32) (v_sea_month : Int32) (v_sea_lost : Int32) (v_sea_heads : Nat → Int32) (v_sea_sides : Nat → Int32) (v_sea_moods : Nat → Int32) (v_sea_moults : Nat → Int32) (v_treaty_words : Nat → Int32) (v_pad_signs : Nat → Int32) (v_pad_size : Int32) (v_trial_sea_there : Int32) (v_trial_sea_month : Int32) (v_trial_sea_lost : Int32) (v_trial_sea_heads : Nat → Int32) (v_trial_sea_sides : Nat → Int32) (v_trial_sea_moods : Nat → Int32) (v_trial_sea_moults : Nat → Int32) (v_trial_act_kind : Int32) (v_trial_act_one : Int32) (v_trial_act_other : Int32) (v_trial_isFaulty : Int32) (v_trial_acts : Int32) (v_trial_why : Int32) (v_trial_readings : Int32) (v_trial_signedAll : Int32) : Option (Int32 × Int32 × Int32 × Int32 × (Nat → Int32) × (Nat → Int32) × (Nat → Int32) × (Nat → Int32) × Int32 × Int32 × Int32 × Int32 × (Nat → Int32) × (Nat → Int32) × (Nat → Int32) × (Nat → Int32) × Int32 × Int32 × Int32 × Int32 × Int32 × Int32 × Int32 × Int32) :=
  (f_Trial_run v_trial_sea_there v_trial_sea_month v_trial_sea_lost v_trial_sea_heads v_trial_sea_sides v_trial_sea_moods v_trial_sea_moults v_trial_act_kind v_trial_act_one v_trial_act_other v_trial_isFaulty v_trial_acts v_trial_why v_trial_readings v_trial_signedAll v_pad_signs v_pad_size v_sea_there v_sea_month v_sea_lost v_sea_heads v_sea_sides v_sea_moods v_sea_moults v_treaty_words).bind fun (u1_sea_there, u1_sea_month, u1_sea_lost, u1_sea_heads, u1_sea_sides, u1_sea_moods, u1_sea_moults, u1_act_kind, u1_act_one, u1_act_other, u1_isFaulty, u1_acts, u1_why, u1_readings, u1_signedAll) =>
  if (f_Trial_allCanBe u1_isFaulty u1_why) = 0 then
    some ((-5 : Int32), v_sea_there, v_sea_month, v_sea_lost, v_sea_heads, v_sea_sides, v_sea_moods, v_sea_moults, v_pad_size, u1_sea_there, u1_sea_month, u1_sea_lost, u1_sea_heads, u1_sea_sides, u1_sea_moods, u1_sea_moults, u1_act_kind, u1_act_one, u1_act_other, u1_isFaulty, u1_acts, u1_why, u1_readings, u1_signedAll)
  else
  (f_Sea_copyFrom v_sea_there v_sea_month v_sea_lost v_sea_heads v_sea_sides v_sea_moods v_sea_moults u1_sea_there u1_sea_month u1_sea_lost u1_sea_heads u1_sea_sides u1_sea_moods u1_sea_moults).bind fun (u5_there, u5_month, u5_lost, u5_heads, u5_sides, u5_moods, u5_moults) =>
  some (u1_acts, u5_there, u5_month, u5_lost, u5_heads, u5_sides, u5_moods, u5_moults, (0 : Int32), u1_sea_there, u1_sea_month, u1_sea_lost, u1_sea_heads, u1_sea_sides, u1_sea_moods, u1_sea_moults, u1_act_kind, u1_act_one, u1_act_other, u1_isFaulty, u1_acts, u1_why, u1_readings, u1_signedAll)
/-- SealStrait.behind -/
noncomputable def f_Strait_behind (v_sea_there : Int32) (v_sea_month : Int32) (v_sea_lost : Int32) (v_sea_heads : Nat → Int32) (v_sea_sides : Nat → Int32) (v_sea_moods : Nat → Int32) (v_sea_moults : Nat → Int32) (v_treaty_words : Nat → Int32) (v_pad_signs : Nat → Int32) (v_pad_size : Int32) (v_trial_sea_there : Int32) (v_trial_sea_month : Int32) (v_trial_sea_lost : Int32) (v_trial_sea_heads : Nat → Int32) (v_trial_sea_sides : Nat → Int32) (v_trial_sea_moods : Nat → Int32) (v_trial_sea_moults : Nat → Int32) (v_trial_act_kind : Int32) (v_trial_act_one : Int32) (v_trial_act_other : Int32) (v_trial_isFaulty : Int32) (v_trial_acts : Int32) (v_trial_why : Int32) (v_trial_readings : Int32) (v_trial_signedAll : Int32) (p1 : Int32) (p2 : Int32) : Option (Int32 × Int32 × Int32 × Int32 × (Nat → Int32) × (Nat → Int32) × (Nat → Int32) × (Nat → Int32) × Int32 × Int32 × Int32 × Int32 × Int32 × Int32 × Int32 × Int32) :=
  if (f_Sea_isThere v_sea_there p1) = 0 then
    some ((-1 : Int32), v_trial_sea_there, v_trial_sea_month, v_trial_sea_lost, v_trial_sea_heads, v_trial_sea_sides, v_trial_sea_moods, v_trial_sea_moults, v_trial_act_kind, v_trial_act_one, v_trial_act_other, v_trial_isFaulty, v_trial_acts, v_trial_why, v_trial_readings, v_trial_signedAll)
  else
  if (f_Strait_within p2 (0 : Int32) (2 : Int32)) = 0 then
    some ((-2 : Int32), v_trial_sea_there, v_trial_sea_month, v_trial_sea_lost, v_trial_sea_heads, v_trial_sea_sides, v_trial_sea_moods, v_trial_sea_moults, v_trial_act_kind, v_trial_act_one, v_trial_act_other, v_trial_isFaulty, v_trial_acts, v_trial_why, v_trial_readings, v_trial_signedAll)
  else
  (f_Trial_run v_trial_sea_there v_trial_sea_month v_trial_sea_lost v_trial_sea_heads v_trial_sea_sides v_trial_sea_moods v_trial_sea_moults v_trial_act_kind v_trial_act_one v_trial_act_other v_trial_isFaulty v_trial_acts v_trial_why v_trial_readings v_trial_signedAll v_pad_signs v_pad_size v_sea_there v_sea_month v_sea_lost v_sea_heads v_sea_sides v_sea_moods v_sea_moults v_treaty_words).bind fun (u5_sea_there, u5_sea_month, u5_sea_lost, u5_sea_heads, u5_sea_sides, u5_sea_moods, u5_sea_moults, u5_act_kind, u5_act_one, u5_act_other, u5_isFaulty, u5_acts, u5_why, u5_readings, u5_signedAll) =>
  if (f_Trial_allCanBe u5_isFaulty u5_why) = 0 then
    some ((-5 : Int32), u5_sea_there, u5_sea_month, u5_sea_lost, u5_sea_heads, u5_sea_sides, u5_sea_moods, u5_sea_moults, u5_act_kind, u5_act_one, u5_act_other, u5_isFaulty, u5_acts, u5_why, u5_readings, u5_signedAll)
  else
  if (f_Sea_isThere u5_sea_there p1) = 0 then
    some ((-6 : Int32), u5_sea_there, u5_sea_month, u5_sea_lost, u5_sea_heads, u5_sea_sides, u5_sea_moods, u5_sea_moults, u5_act_kind, u5_act_one, u5_act_other, u5_isFaulty, u5_acts, u5_why, u5_readings, u5_signedAll)
  else
  (f_Sea_traitOf u5_sea_there u5_sea_heads u5_sea_sides u5_sea_moods u5_sea_moults p1 p2).bind fun r11 =>
  some (r11, u5_sea_there, u5_sea_month, u5_sea_lost, u5_sea_heads, u5_sea_sides, u5_sea_moods, u5_sea_moults, u5_act_kind, u5_act_one, u5_act_other, u5_isFaulty, u5_acts, u5_why, u5_readings, u5_signedAll)
/-- SealStrait.then -/
noncomputable def f_Strait_then (v_sea_there : Int32) (v_sea_month : Int32) (v_sea_lost : Int32) (v_sea_heads : Nat → Int32) (v_sea_sides : Nat → Int32) (v_sea_moods : Nat → Int32) (v_sea_moults : Nat → Int32) (v_treaty_words : Nat → Int32) (v_pad_signs : Nat → Int32) (v_pad_size : Int32) (v_trial_sea_there : Int32) (v_trial_sea_month : Int32) (v_trial_sea_lost : Int32) (v_trial_sea_heads : Nat → Int32) (v_trial_sea_sides : Nat → Int32) (v_trial_sea_moods : Nat → Int32) (v_trial_sea_moults : Nat → Int32) (v_trial_act_kind : Int32) (v_trial_act_one : Int32) (v_trial_act_other : Int32) (v_trial_isFaulty : Int32) (v_trial_acts : Int32) (v_trial_why : Int32) (v_trial_readings : Int32) (v_trial_signedAll : Int32) (p1 : Int32) : Option (Int32 × Int32 × Int32 × Int32 × (Nat → Int32) × (Nat → Int32) × (Nat → Int32) × (Nat → Int32) × Int32 × Int32 × Int32 × Int32 × Int32 × Int32 × Int32 × Int32) :=
  if (f_Strait_within p1 (0 : Int32) (4 : Int32)) = 0 then
    some ((-2 : Int32), v_trial_sea_there, v_trial_sea_month, v_trial_sea_lost, v_trial_sea_heads, v_trial_sea_sides, v_trial_sea_moods, v_trial_sea_moults, v_trial_act_kind, v_trial_act_one, v_trial_act_other, v_trial_isFaulty, v_trial_acts, v_trial_why, v_trial_readings, v_trial_signedAll)
  else
  (f_Trial_run v_trial_sea_there v_trial_sea_month v_trial_sea_lost v_trial_sea_heads v_trial_sea_sides v_trial_sea_moods v_trial_sea_moults v_trial_act_kind v_trial_act_one v_trial_act_other v_trial_isFaulty v_trial_acts v_trial_why v_trial_readings v_trial_signedAll v_pad_signs v_pad_size v_sea_there v_sea_month v_sea_lost v_sea_heads v_sea_sides v_sea_moods v_sea_moults v_treaty_words).bind fun (u3_sea_there, u3_sea_month, u3_sea_lost, u3_sea_heads, u3_sea_sides, u3_sea_moods, u3_sea_moults, u3_act_kind, u3_act_one, u3_act_other, u3_isFaulty, u3_acts, u3_why, u3_readings, u3_signedAll) =>
  if (f_Trial_allCanBe u3_isFaulty u3_why) = 0 then
    some ((-5 : Int32), u3_sea_there, u3_sea_month, u3_sea_lost, u3_sea_heads, u3_sea_sides, u3_sea_moods, u3_sea_moults, u3_act_kind, u3_act_one, u3_act_other, u3_isFaulty, u3_acts, u3_why, u3_readings, u3_signedAll)
  else
  if p1 = (0 : Int32) then
    (f_Sea_headsOnSideOne u3_sea_there u3_sea_heads u3_sea_sides).bind fun r8 =>
    some (r8, u3_sea_there, u3_sea_month, u3_sea_lost, u3_sea_heads, u3_sea_sides, u3_sea_moods, u3_sea_moults, u3_act_kind, u3_act_one, u3_act_other, u3_isFaulty, u3_acts, u3_why, u3_readings, u3_signedAll)
  else
  if p1 = (1 : Int32) then
    some (u3_sea_lost, u3_sea_there, u3_sea_month, u3_sea_lost, u3_sea_heads, u3_sea_sides, u3_sea_moods, u3_sea_moults, u3_act_kind, u3_act_one, u3_act_other, u3_isFaulty, u3_acts, u3_why, u3_readings, u3_signedAll)
  else
  if p1 = (2 : Int32) then
    some (u3_sea_month, u3_sea_there, u3_sea_month, u3_sea_lost, u3_sea_heads, u3_sea_sides, u3_sea_moods, u3_sea_moults, u3_act_kind, u3_act_one, u3_act_other, u3_isFaulty, u3_acts, u3_why, u3_readings, u3_signedAll)
  else
  if p1 = (3 : Int32) then
    some (u3_readings, u3_sea_there, u3_sea_month, u3_sea_lost, u3_sea_heads, u3_sea_sides, u3_sea_moods, u3_sea_moults, u3_act_kind, u3_act_one, u3_act_other, u3_isFaulty, u3_acts, u3_why, u3_readings, u3_signedAll)
  else
  some (u3_signedAll, u3_sea_there, u3_sea_month, u3_sea_lost, u3_sea_heads, u3_sea_sides, u3_sea_moods, u3_sea_moults, u3_act_kind, u3_act_one, u3_act_other, u3_isFaulty, u3_acts, u3_why, u3_readings, u3_signedAll)
/-- SealStrait.who -/
noncomputable def f_Strait_who (v_sea_there : Int32) (v_sea_month : Int32) (v_sea_heads : Nat → Int32) (v_sea_moods : Nat → Int32) (v_sea_moults : Nat → Int32) (v_treaty_words : Nat → Int32) (p1 : Int32) : Option (Int32) :=
  if (f_Strait_within p1 (0 : Int32) (9 : Int32)) = 0 then
    some (-1 : Int32)
  else
  if ix p1 10 = true then
  (f_Sea_signers v_sea_there v_sea_month v_sea_heads v_sea_moods v_sea_moults (v_treaty_words (p1).toNatClampNeg)).bind fun r4 =>
  some r4
  else none
/-- SealStrait.bring -/
noncomputable def f_Strait_bring (v_sea_there : Int32) (v_sea_month : Int32) (v_sea_heads : Nat → Int32) (v_sea_sides : Nat → Int32) (v_sea_moods : Nat → Int32) (v_sea_moults : Nat → Int32) (v_treaty_words : Nat → Int32) (v_bringing_steps : Nat → Int32) (v_bringing_firsts : Nat → Int32) (v_bringing_queue : Nat → Int32) (v_bringing_size : Int32) (v_bringing_oneListens : Int32) (v_bringing_otherListens : Int32) (v_bringing_fewest : Int32) (v_bringing_firstClause : Int32) (p1 : Int32) (p2 : Int32) (p3 : Int32) (p4 : Int32) (p5 : Int32) : Option (Int32 × (Nat → Int32) × (Nat → Int32) × (Nat → Int32) × Int32 × Int32 × Int32 × Int32 × Int32) :=
  if (f_Sea_isThere v_sea_there p1) = 0 then
    some ((-1 : Int32), v_bringing_steps, v_bringing_firsts, v_bringing_queue, v_bringing_size, v_bringing_oneListens, v_bringing_otherListens, v_bringing_fewest, v_bringing_firstClause)
  else
  if (f_Sea_isThere v_sea_there p3) = 0 then
    some ((-1 : Int32), v_bringing_steps, v_bringing_firsts, v_bringing_queue, v_bringing_size, v_bringing_oneListens, v_bringing_otherListens, v_bringing_fewest, v_bringing_firstClause)
  else
  if p1 = p3 then
    some ((-1 : Int32), v_bringing_steps, v_bringing_firsts, v_bringing_queue, v_bringing_size, v_bringing_oneListens, v_bringing_otherListens, v_bringing_fewest, v_bringing_firstClause)
  else
  if (f_Strait_within p2 (0 : Int32) (1 : Int32)) = 0 then
    some ((-2 : Int32), v_bringing_steps, v_bringing_firsts, v_bringing_queue, v_bringing_size, v_bringing_oneListens, v_bringing_otherListens, v_bringing_fewest, v_bringing_firstClause)
  else
  if (f_Strait_within p4 (0 : Int32) (1 : Int32)) = 0 then
    some ((-2 : Int32), v_bringing_steps, v_bringing_firsts, v_bringing_queue, v_bringing_size, v_bringing_oneListens, v_bringing_otherListens, v_bringing_fewest, v_bringing_firstClause)
  else
  if (f_Strait_within p5 (0 : Int32) (1 : Int32)) = 0 then
    some ((-2 : Int32), v_bringing_steps, v_bringing_firsts, v_bringing_queue, v_bringing_size, v_bringing_oneListens, v_bringing_otherListens, v_bringing_fewest, v_bringing_firstClause)
  else
  (f_Bringing_begin v_bringing_steps v_bringing_firsts v_bringing_queue v_bringing_size v_bringing_oneListens v_bringing_otherListens v_sea_there v_sea_month v_sea_heads v_sea_sides v_sea_moods v_sea_moults p1 p3).bind fun (u12_steps, u12_firsts, u12_queue, u12_size, u12_oneListens, u12_otherListens) =>
  (f_Bringing_search u12_steps u12_firsts u12_queue u12_size u12_oneListens u12_otherListens v_bringing_fewest v_bringing_firstClause v_treaty_words p2 p4).bind fun (u14_steps, u14_firsts, u14_queue, u14_size, u14_fewest, u14_firstClause) =>
  if p5 = 0 then
    some (u14_fewest, u14_steps, u14_firsts, u14_queue, u14_size, u12_oneListens, u12_otherListens, u14_fewest, u14_firstClause)
  else
  some (u14_firstClause, u14_steps, u14_firsts, u14_queue, u14_size, u12_oneListens, u12_otherListens, u14_fewest, u14_firstClause)
/-- SealStrait.drop -/
noncomputable def f_Strait_drop (v_treaty_clashes : Nat → Int32) (p1 : Int32) (p2 : Int32) : Option (Int32) :=
  if (f_Strait_within p1 (0 : Int32) (1023 : Int32)) = 0 then
    some (-2 : Int32)
  else
  if (f_Strait_within p2 (0 : Int32) (1 : Int32)) = 0 then
    some (-2 : Int32)
  else
  (f_Treaty_leastToDrop v_treaty_clashes p1).bind fun r5 =>
  if p2 = 0 then
    some (f_Integer_bitCount r5)
  else
  some r5
/-- SealStrait.share -/
noncomputable def b_Strait_share_1 (x2 : Int32) (v_sea_there : Int32) (v_sea_heads : Nat → Int32) (x3 : Int32) (v_got : Nat → Int32) : Option ((Int32 × (Nat → Int32)) ⊕ ((Nat → Int32))) :=
  if x2 ≤ x3 then
    some (.inr v_got)
  else
  (f_Sea_nextToGet v_sea_there v_sea_heads v_got).bind fun r12 =>
  if (f_Strait_within r12 (0 : Int32) (5 : Int32)) = 0 then
    some (.inl ((x3 + 1), v_got))
  else
  if ix r12 6 = true then
  if ix r12 6 = true then
  some (.inl ((x3 + 1), (upd v_got (r12).toNatClampNeg ((v_got (r12).toNatClampNeg) + (1 : Int32)))))
  else none
  else none
noncomputable def f_Strait_share (v_sea_there : Int32) (v_sea_heads : Nat → Int32) (v_got : Nat → Int32) (p1 : Int32) (p2 : Int32) : Option (Int32 × (Nat → Int32)) :=
  if (f_Sea_isThere v_sea_there p1) = 0 then
    some ((-1 : Int32), v_got)
  else
  if (f_Strait_within p2 (0 : Int32) (99 : Int32)) = 0 then
    some ((-2 : Int32), v_got)
  else
  (f_Sea_hasHeads v_sea_there v_sea_heads).bind fun r5 =>
  if r5 = 0 then
    some ((-6 : Int32), v_got)
  else
  (f_Arrays_fill 6 v_got (0 : Int32)).bind fun u8_a1 =>
  (ev (fun s => b_Strait_share_1 p2 v_sea_there v_sea_heads s.1 s.2) ((0 : Int32), u8_a1)).bind fun z18_got =>
  if ix p1 6 = true then
  some ((z18_got (p1).toNatClampNeg), z18_got)
  else none
/-- SealStrait.waitIsAsTold -/
noncomputable def f_Strait_waitIsAsTold (p1 : Int32) (p2 : Int32) : Int32 :=
  if (f_Strait_within p1 (1 : Int32) (12 : Int32)) = 0 then
    (0 : Int32)
  else
  if (f_Strait_within p2 (1 : Int32) (9 : Int32)) = 0 then
    (0 : Int32)
  else
  (1 : Int32)
/-- SealStrait.waiting -/
noncomputable def f_Strait_waiting (v_fraction_upper : Int64) (v_fraction_lower : Int64) (p1 : Int32) (p2 : Int32) (p3 : Int32) : Option (Int64 × Int64 × Int64) :=
  if (f_Strait_waitIsAsTold p1 p2) = 0 then
    some ((-1000000000000000002 : Int64), v_fraction_upper, v_fraction_lower)
  else
  if (f_Strait_within p3 (0 : Int32) (1 : Int32)) = 0 then
    some ((-1000000000000000002 : Int64), v_fraction_upper, v_fraction_lower)
  else
  (f_Fraction_setWaiting v_fraction_upper v_fraction_lower p1 p2).bind fun (u5_upper, u5_lower) =>
  some ((f_Fraction_part u5_upper u5_lower p3), u5_upper, u5_lower)
/-- SealStrait.reads -/
noncomputable def f_Strait_reads (v_fraction_upper : Int64) (v_fraction_lower : Int64) (p1 : Int32) (p2 : Int32) : Option (Int32 × Int64 × Int64) :=
  if (f_Strait_waitIsAsTold p1 p2) = 0 then
    some ((-2 : Int32), v_fraction_upper, v_fraction_lower)
  else
  (f_Fraction_setWaiting v_fraction_upper v_fraction_lower (p1 - (1 : Int32)) p2).bind fun (u3_upper, u3_lower) =>
  (f_Fraction_leastWholeNotBelow u3_upper u3_lower p2).bind fun r5 =>
  some (r5, u3_upper, u3_lower)
/-- SealStrait.counted -/
noncomputable def f_Strait_counted (v_lookout_counts : Int32) (v_lookout_countRocks : Nat → Int32) (v_lookout_countWantings : Nat → Int32) (p1 : Int32) (p2 : Int32) : Option (Int32 × Int32 × (Nat → Int32) × (Nat → Int32)) :=
  if (f_Strait_within p1 (0 : Int32) (5 : Int32)) = 0 then
    some ((-1 : Int32), v_lookout_counts, v_lookout_countRocks, v_lookout_countWantings)
  else
  if (f_Strait_within p2 (0 : Int32) (999 : Int32)) = 0 then
    some ((-2 : Int32), v_lookout_counts, v_lookout_countRocks, v_lookout_countWantings)
  else
  (f_Lookout_addCount v_lookout_counts v_lookout_countRocks v_lookout_countWantings p1 p2).bind fun (r5, u5_counts, u5_countRocks, u5_countWantings) =>
  if r5 = 0 then
    some ((-4 : Int32), u5_counts, u5_countRocks, u5_countWantings)
  else
  some (u5_counts, u5_counts, u5_countRocks, u5_countWantings)
/-- SealStrait.forget -/
noncomputable def f_Strait_forget (v_lookout_counts : Int32) : Option (Int32 × Int32) :=
  some (v_lookout_counts, (0 : Int32))
/-- SealStrait.went -/
noncomputable def f_Strait_went (v_sea_there : Int32) (v_sea_heads : Nat → Int32) (v_lookout_seen : Nat → Int32) (v_lookout_counts : Int32) (v_lookout_countRocks : Nat → Int32) (v_lookout_countWantings : Nat → Int32) (v_guess_size : Int32) (v_guess_sets : Nat → Int32) (p1 : Int32) : Option (Int32 × Int32 × (Nat → Int32)) :=
  if (-1 : Int32) ≤ p1 then
    (f_Guess_findSets v_guess_size v_guess_sets v_lookout_seen v_lookout_counts v_lookout_countRocks v_lookout_countWantings v_sea_there v_sea_heads).bind fun (u2_size, u2_sets) =>
    if p1 = (-1 : Int32) then
      some (u2_size, u2_size, u2_sets)
    else
    (f_Guess_setAt u2_size u2_sets p1).bind fun r5 =>
    some (r5, u2_size, u2_sets)
  else
  some ((-6 : Int32), v_guess_size, v_guess_sets)
/-- SealStrait.ask -/
noncomputable def f_Strait_ask (v_sea_there : Int32) (v_sea_heads : Nat → Int32) (v_lookout_seen : Nat → Int32) (v_lookout_counts : Int32) (v_lookout_countRocks : Nat → Int32) (v_lookout_countWantings : Nat → Int32) (v_guess_size : Int32) (v_guess_sets : Nat → Int32) (v_guess_nextRock : Int32) (v_guess_leftAtMost : Int32) (v_guess_tally : Nat → Int32) (p1 : Int32) : Option (Int32 × Int32 × (Nat → Int32) × Int32 × Int32 × (Nat → Int32)) :=
  if (f_Strait_within p1 (0 : Int32) (1 : Int32)) = 0 then
    some ((-2 : Int32), v_guess_size, v_guess_sets, v_guess_nextRock, v_guess_leftAtMost, v_guess_tally)
  else
  (f_Guess_findSets v_guess_size v_guess_sets v_lookout_seen v_lookout_counts v_lookout_countRocks v_lookout_countWantings v_sea_there v_sea_heads).bind fun (u3_size, u3_sets) =>
  if u3_size = 0 then
    some ((-6 : Int32), u3_size, u3_sets, v_guess_nextRock, v_guess_leftAtMost, v_guess_tally)
  else
  (f_Guess_findNextRock u3_size u3_sets v_guess_nextRock v_guess_leftAtMost v_guess_tally v_lookout_seen v_sea_there v_sea_heads).bind fun (u6_nextRock, u6_leftAtMost, u6_tally) =>
  if p1 = 0 then
    some (u6_nextRock, u3_size, u3_sets, u6_nextRock, u6_leftAtMost, u6_tally)
  else
  some (u6_leftAtMost, u3_size, u3_sets, u6_nextRock, u6_leftAtMost, u6_tally)
/-- SealStrait.turning -/
noncomputable def f_Strait_turning (v_treaty_words : Nat → Int32) (v_game_wins : Nat → Int32) (p1 : Int32) (p2 : Int32) : Option (Int32 × (Nat → Int32)) :=
  if (f_Strait_within p1 (0 : Int32) (30 : Int32)) = 0 then
    some ((-2 : Int32), v_game_wins)
  else
  if (f_Strait_within p2 (0 : Int32) (1 : Int32)) = 0 then
    some ((-2 : Int32), v_game_wins)
  else
  (f_Game_winningFirst v_game_wins v_treaty_words p1).bind fun (r5, u5_wins) =>
  if p2 = (1 : Int32) then
    some (r5, u5_wins)
  else
  if r5 = (-6 : Int32) then
    some ((0 : Int32), u5_wins)
  else
  some ((1 : Int32), u5_wins)
/-- SealStrait.drift -/
noncomputable def f_Strait_drift (v_fraction_upper : Int64) (v_fraction_lower : Int64) (p1 : Int32) (p2 : Int32) (p3 : Int32) (p4 : Int32) (p5 : Int32) (p6 : Int32) : Option (Int64 × Int64 × Int64) :=
  if (f_Strait_within p1 (0 : Int32) (1 : Int32)) = 0 then
    some ((-1000000000000000002 : Int64), v_fraction_upper, v_fraction_lower)
  else
  if (f_Strait_within p2 (0 : Int32) (10 : Int32)) = 0 then
    some ((-1000000000000000002 : Int64), v_fraction_upper, v_fraction_lower)
  else
  if (f_Strait_within p3 (0 : Int32) (10 : Int32)) = 0 then
    some ((-1000000000000000002 : Int64), v_fraction_upper, v_fraction_lower)
  else
  if (f_Strait_within p5 (0 : Int32) (1 : Int32)) = 0 then
    some ((-1000000000000000002 : Int64), v_fraction_upper, v_fraction_lower)
  else
  if (f_Strait_within p6 (0 : Int32) (1 : Int32)) = 0 then
    some ((-1000000000000000002 : Int64), v_fraction_upper, v_fraction_lower)
  else
  if p5 = 0 then
    if (f_Strait_within p4 (0 : Int32) (17 : Int32)) = 0 then
      some ((-1000000000000000002 : Int64), v_fraction_upper, v_fraction_lower)
    else
    (f_Fraction_setDrift v_fraction_upper v_fraction_lower p1 p2 p3 p4 p5).bind fun (u19_upper, u19_lower) =>
    some ((f_Fraction_part u19_upper u19_lower p6), u19_upper, u19_lower)
  else
  if (f_Strait_within p4 (0 : Int32) (16 : Int32)) = 0 then
    some ((-1000000000000000002 : Int64), v_fraction_upper, v_fraction_lower)
  else
  (f_Fraction_setDrift v_fraction_upper v_fraction_lower p1 p2 p3 p4 p5).bind fun (u14_upper, u14_lower) =>
  some ((f_Fraction_part u14_upper u14_lower p6), u14_upper, u14_lower)
/-- SealStrait.year -/
noncomputable def f_Strait_year (v_sea_there : Int32) (v_sea_month : Int32) (v_sea_lost : Int32) (v_sea_heads : Nat → Int32) (v_sea_sides : Nat → Int32) (v_sea_moods : Nat → Int32) (v_sea_moults : Nat → Int32) (v_treaty_words : Nat → Int32) (v_trial_sea_there : Int32) (v_trial_sea_month : Int32) (v_trial_sea_lost : Int32) (v_trial_sea_heads : Nat → Int32) (v_trial_sea_sides : Nat → Int32) (v_trial_sea_moods : Nat → Int32) (v_trial_sea_moults : Nat → Int32) (v_trial_act_kind : Int32) (v_trial_act_one : Int32) (v_trial_act_other : Int32) (p1 : Int32) (p2 : Int32) (p3 : Int32) : Option (Int32 × Int32 × Int32 × Int32 × (Nat → Int32) × (Nat → Int32) × (Nat → Int32) × (Nat → Int32) × Int32 × Int32 × Int32) :=
  if (f_Strait_within p1 (0 : Int32) (9999 : Int32)) = 0 then
    some ((-2 : Int32), v_trial_sea_there, v_trial_sea_month, v_trial_sea_lost, v_trial_sea_heads, v_trial_sea_sides, v_trial_sea_moods, v_trial_sea_moults, v_trial_act_kind, v_trial_act_one, v_trial_act_other)
  else
  if (f_Strait_within p2 (1 : Int32) (99 : Int32)) = 0 then
    some ((-2 : Int32), v_trial_sea_there, v_trial_sea_month, v_trial_sea_lost, v_trial_sea_heads, v_trial_sea_sides, v_trial_sea_moods, v_trial_sea_moults, v_trial_act_kind, v_trial_act_one, v_trial_act_other)
  else
  if (f_Strait_within p3 (0 : Int32) (2 : Int32)) = 0 then
    some ((-2 : Int32), v_trial_sea_there, v_trial_sea_month, v_trial_sea_lost, v_trial_sea_heads, v_trial_sea_sides, v_trial_sea_moods, v_trial_sea_moults, v_trial_act_kind, v_trial_act_one, v_trial_act_other)
  else
  (f_Trial_runYear v_trial_sea_there v_trial_sea_month v_trial_sea_lost v_trial_sea_heads v_trial_sea_sides v_trial_sea_moods v_trial_sea_moults v_trial_act_kind v_trial_act_one v_trial_act_other v_sea_there v_sea_month v_sea_lost v_sea_heads v_sea_sides v_sea_moods v_sea_moults v_treaty_words p1 p2).bind fun (u7_sea_there, u7_sea_month, u7_sea_lost, u7_sea_heads, u7_sea_sides, u7_sea_moods, u7_sea_moults, u7_act_kind, u7_act_one, u7_act_other) =>
  if p3 = (0 : Int32) then
    (f_Sea_headsOnSideOne u7_sea_there u7_sea_heads u7_sea_sides).bind fun r10 =>
    some (r10, u7_sea_there, u7_sea_month, u7_sea_lost, u7_sea_heads, u7_sea_sides, u7_sea_moods, u7_sea_moults, u7_act_kind, u7_act_one, u7_act_other)
  else
  if p3 = (1 : Int32) then
    some (u7_sea_lost, u7_sea_there, u7_sea_month, u7_sea_lost, u7_sea_heads, u7_sea_sides, u7_sea_moods, u7_sea_moults, u7_act_kind, u7_act_one, u7_act_other)
  else
  (f_Sea_allMoods u7_sea_there u7_sea_moods).bind fun r13 =>
  some (r13, u7_sea_there, u7_sea_month, u7_sea_lost, u7_sea_heads, u7_sea_sides, u7_sea_moods, u7_sea_moults, u7_act_kind, u7_act_one, u7_act_other)
/-- SealStrait.told -/
noncomputable def f_Strait_told (v_sea_there : Int32) (v_sea_month : Int32) (v_sea_lost : Int32) (v_sea_heads : Nat → Int32) (v_sea_sides : Nat → Int32) (v_sea_moods : Nat → Int32) (v_sea_moults : Nat → Int32) (v_treaty_words : Nat → Int32) (v_treaty_clashes : Nat → Int32) (v_lookout_seen : Nat → Int32) (v_lookout_counts : Int32) (v_pad_size : Int32) (p1 : Int32) : Option (Int32) :=
  if (f_Strait_within p1 (10 : Int32) (19 : Int32)) = 0 then
    if (f_Strait_within p1 (20 : Int32) (29 : Int32)) = 0 then
      if (f_Strait_within p1 (30 : Int32) (35 : Int32)) = 0 then
        if p1 < (100 : Int32) then
          if p1 = (0 : Int32) then
            some v_pad_size
          else
          if p1 = (1 : Int32) then
            some v_sea_there
          else
          if p1 = (2 : Int32) then
            some v_sea_month
          else
          if p1 = (3 : Int32) then
            some v_sea_lost
          else
          if p1 = (4 : Int32) then
            some v_lookout_counts
          else
          some (-2 : Int32)
        else
        (f_Sea_traitOf v_sea_there v_sea_heads v_sea_sides v_sea_moods v_sea_moults ((p1 - (100 : Int32)) / (10 : Int32)) ((p1 - (100 : Int32)) - (p1 - (100 : Int32)) / (10 : Int32) * (10 : Int32))).bind fun r13 =>
        some r13
      else
      if ix (p1 - (30 : Int32)) 6 = true then
      some (v_lookout_seen ((p1 - (30 : Int32))).toNatClampNeg)
      else none
    else
    if ix (p1 - (20 : Int32)) 10 = true then
    some (v_treaty_clashes ((p1 - (20 : Int32))).toNatClampNeg)
    else none
  else
  if ix (p1 - (10 : Int32)) 10 = true then
  some (v_treaty_words ((p1 - (10 : Int32))).toNatClampNeg)
  else none
/-- SealStraitModel.in -/
noncomputable def f_Model_in (p1 : Int32) (p2 : Int32) (p3 : Int32) : Int32 :=
  if p1 < p2 then
    (0 : Int32)
  else
  if p3 < p1 then
    (0 : Int32)
  else
  (1 : Int32)
/-- SealStraitModel.has -/
noncomputable def f_Model_has (p1 : Int32) (p2 : Int32) : Int32 :=
  if ((p1 >>> (p2 &&& 31)) &&& (1 : Int32)) = (1 : Int32) then
    (1 : Int32)
  else
  (0 : Int32)
/-- SealStraitModel.bits -/
noncomputable def b_Model_bits_1 (x0 : Int32) (x1 : Int32) (x2 : Int32) : Option ((Int32 × Int32) ⊕ (Int32)) :=
  if (10 : Int32) ≤ x2 then
    some (.inr x1)
  else
  some (.inl ((x1 + ((x0 >>> (x2 &&& 31)) &&& (1 : Int32))), (x2 + 1)))
noncomputable def f_Model_bits (p1 : Int32) : Option (Int32) :=
  (ev (fun s => b_Model_bits_1 p1 s.1 s.2) ((0 : Int32), (0 : Int32))).bind fun y1_3 =>
  some y1_3
/-- SealStraitModel.isClause -/
noncomputable def f_Model_isClause (p1 : Int32) : Int32 :=
  (f_Model_in p1 (0 : Int32) (9 : Int32))
/-- SealStraitModel.isThere -/
noncomputable def f_Model_isThere (v_book : Nat → Int32) (p1 : Int32) : Int32 :=
  if (f_Model_in p1 (0 : Int32) (5 : Int32)) = 0 then
    (0 : Int32)
  else
  if (f_Model_has (v_book ((18 : Int32)).toNatClampNeg) p1) = 0 then
    (0 : Int32)
  else
  (1 : Int32)
/-- SealStraitModel.herd -/
noncomputable def f_Model_herd (v_book : Nat → Int32) (v_moults : Nat → Int32) (p1 : Int32) (p2 : Int32) (p3 : Int32) (p4 : Int32) (p5 : Int32) : Option (Int32 × (Nat → Int32) × (Nat → Int32)) :=
  if (f_Model_in p1 (0 : Int32) (5 : Int32)) = 0 then
    some ((-1 : Int32), v_book, v_moults)
  else
  if (f_Model_in p2 (0 : Int32) (99 : Int32)) = 0 then
    some ((-2 : Int32), v_book, v_moults)
  else
  if (f_Model_in p3 (0 : Int32) (1 : Int32)) = 0 then
    some ((-2 : Int32), v_book, v_moults)
  else
  if (f_Model_in p4 (0 : Int32) (9 : Int32)) = 0 then
    some ((-2 : Int32), v_book, v_moults)
  else
  if (f_Model_in p5 (0 : Int32) (11 : Int32)) = 0 then
    some ((-2 : Int32), v_book, v_moults)
  else
  if ix p1 21 = true then
  if ix ((6 : Int32) + p1) 21 = true then
  if ix ((12 : Int32) + p1) 21 = true then
  if ix p1 6 = true then
  (f_Model_bits ((upd (upd (upd (upd v_book (p1).toNatClampNeg p2) (((6 : Int32) + p1)).toNatClampNeg p3) (((12 : Int32) + p1)).toNatClampNeg p4) ((18 : Int32)).toNatClampNeg (((upd (upd (upd v_book (p1).toNatClampNeg p2) (((6 : Int32) + p1)).toNatClampNeg p3) (((12 : Int32) + p1)).toNatClampNeg p4) ((18 : Int32)).toNatClampNeg) ||| ((1 : Int32) <<< (p1 &&& 31)))) ((18 : Int32)).toNatClampNeg)).bind fun r15 =>
  some (r15, (upd (upd (upd (upd v_book (p1).toNatClampNeg p2) (((6 : Int32) + p1)).toNatClampNeg p3) (((12 : Int32) + p1)).toNatClampNeg p4) ((18 : Int32)).toNatClampNeg (((upd (upd (upd v_book (p1).toNatClampNeg p2) (((6 : Int32) + p1)).toNatClampNeg p3) (((12 : Int32) + p1)).toNatClampNeg p4) ((18 : Int32)).toNatClampNeg) ||| ((1 : Int32) <<< (p1 &&& 31)))), (upd v_moults (p1).toNatClampNeg p5))
  else none
  else none
  else none
  else none
/-- SealStraitModel.clause -/
noncomputable def f_Model_clause (v_words : Nat → Int32) (p1 : Int32) (p2 : Int32) : Option (Int32 × (Nat → Int32)) :=
  if (f_Model_isClause p1) = 0 then
    some ((-1 : Int32), v_words)
  else
  if (f_Model_in p2 (1 : Int32) (9 : Int32)) = 0 then
    some ((-2 : Int32), v_words)
  else
  if ix p1 10 = true then
  if ix p1 10 = true then
  some ((v_words (p1).toNatClampNeg), (upd v_words (p1).toNatClampNeg p2))
  else none
  else none
/-- SealStraitModel.clash -/
noncomputable def b_Model_clash_1 (v_clashes : Nat → Int32) (x4 : Int32) (x5 : Int32) : Option ((Int32 × Int32) ⊕ (Int32)) :=
  if (10 : Int32) ≤ x5 then
    some (.inr x4)
  else
  if ix x5 10 = true then
  (f_Model_bits (v_clashes (x5).toNatClampNeg)).bind fun r19 =>
  some (.inl ((x4 + r19), (x5 + 1)))
  else none
noncomputable def f_Model_clash (v_clashes : Nat → Int32) (p1 : Int32) (p2 : Int32) (p3 : Int32) : Option (Int32 × (Nat → Int32)) :=
  if (f_Model_isClause p1) = 0 then
    some ((-1 : Int32), v_clashes)
  else
  if (f_Model_isClause p2) = 0 then
    some ((-1 : Int32), v_clashes)
  else
  if p1 = p2 then
    some ((-1 : Int32), v_clashes)
  else
  if ix p1 10 = true then
  if ix p1 10 = true then
  if ix p2 10 = true then
  if ix p2 10 = true then
  if ix p1 10 = true then
  if p3 = 0 then
    if ix p1 10 = true then
    if ix p2 10 = true then
    if p3 = 0 then
      if ix p2 10 = true then
      (ev (fun s => b_Model_clash_1 (upd (upd (upd (upd v_clashes (p1).toNatClampNeg ((v_clashes (p1).toNatClampNeg) &&& (((1 : Int32) <<< (p2 &&& 31)) ^^^ (-1 : Int32)))) (p2).toNatClampNeg (((upd v_clashes (p1).toNatClampNeg ((v_clashes (p1).toNatClampNeg) &&& (((1 : Int32) <<< (p2 &&& 31)) ^^^ (-1 : Int32)))) (p2).toNatClampNeg) &&& (((1 : Int32) <<< (p1 &&& 31)) ^^^ (-1 : Int32)))) (p1).toNatClampNeg (((upd (upd v_clashes (p1).toNatClampNeg ((v_clashes (p1).toNatClampNeg) &&& (((1 : Int32) <<< (p2 &&& 31)) ^^^ (-1 : Int32)))) (p2).toNatClampNeg (((upd v_clashes (p1).toNatClampNeg ((v_clashes (p1).toNatClampNeg) &&& (((1 : Int32) <<< (p2 &&& 31)) ^^^ (-1 : Int32)))) (p2).toNatClampNeg) &&& (((1 : Int32) <<< (p1 &&& 31)) ^^^ (-1 : Int32)))) (p1).toNatClampNeg) ||| (0 : Int32))) (p2).toNatClampNeg (((upd (upd (upd v_clashes (p1).toNatClampNeg ((v_clashes (p1).toNatClampNeg) &&& (((1 : Int32) <<< (p2 &&& 31)) ^^^ (-1 : Int32)))) (p2).toNatClampNeg (((upd v_clashes (p1).toNatClampNeg ((v_clashes (p1).toNatClampNeg) &&& (((1 : Int32) <<< (p2 &&& 31)) ^^^ (-1 : Int32)))) (p2).toNatClampNeg) &&& (((1 : Int32) <<< (p1 &&& 31)) ^^^ (-1 : Int32)))) (p1).toNatClampNeg (((upd (upd v_clashes (p1).toNatClampNeg ((v_clashes (p1).toNatClampNeg) &&& (((1 : Int32) <<< (p2 &&& 31)) ^^^ (-1 : Int32)))) (p2).toNatClampNeg (((upd v_clashes (p1).toNatClampNeg ((v_clashes (p1).toNatClampNeg) &&& (((1 : Int32) <<< (p2 &&& 31)) ^^^ (-1 : Int32)))) (p2).toNatClampNeg) &&& (((1 : Int32) <<< (p1 &&& 31)) ^^^ (-1 : Int32)))) (p1).toNatClampNeg) ||| (0 : Int32))) (p2).toNatClampNeg) ||| (0 : Int32))) s.1 s.2) ((0 : Int32), (0 : Int32))).bind fun y4_21 =>
      some ((y4_21 / (2 : Int32)), (upd (upd (upd (upd v_clashes (p1).toNatClampNeg ((v_clashes (p1).toNatClampNeg) &&& (((1 : Int32) <<< (p2 &&& 31)) ^^^ (-1 : Int32)))) (p2).toNatClampNeg (((upd v_clashes (p1).toNatClampNeg ((v_clashes (p1).toNatClampNeg) &&& (((1 : Int32) <<< (p2 &&& 31)) ^^^ (-1 : Int32)))) (p2).toNatClampNeg) &&& (((1 : Int32) <<< (p1 &&& 31)) ^^^ (-1 : Int32)))) (p1).toNatClampNeg (((upd (upd v_clashes (p1).toNatClampNeg ((v_clashes (p1).toNatClampNeg) &&& (((1 : Int32) <<< (p2 &&& 31)) ^^^ (-1 : Int32)))) (p2).toNatClampNeg (((upd v_clashes (p1).toNatClampNeg ((v_clashes (p1).toNatClampNeg) &&& (((1 : Int32) <<< (p2 &&& 31)) ^^^ (-1 : Int32)))) (p2).toNatClampNeg) &&& (((1 : Int32) <<< (p1 &&& 31)) ^^^ (-1 : Int32)))) (p1).toNatClampNeg) ||| (0 : Int32))) (p2).toNatClampNeg (((upd (upd (upd v_clashes (p1).toNatClampNeg ((v_clashes (p1).toNatClampNeg) &&& (((1 : Int32) <<< (p2 &&& 31)) ^^^ (-1 : Int32)))) (p2).toNatClampNeg (((upd v_clashes (p1).toNatClampNeg ((v_clashes (p1).toNatClampNeg) &&& (((1 : Int32) <<< (p2 &&& 31)) ^^^ (-1 : Int32)))) (p2).toNatClampNeg) &&& (((1 : Int32) <<< (p1 &&& 31)) ^^^ (-1 : Int32)))) (p1).toNatClampNeg (((upd (upd v_clashes (p1).toNatClampNeg ((v_clashes (p1).toNatClampNeg) &&& (((1 : Int32) <<< (p2 &&& 31)) ^^^ (-1 : Int32)))) (p2).toNatClampNeg (((upd v_clashes (p1).toNatClampNeg ((v_clashes (p1).toNatClampNeg) &&& (((1 : Int32) <<< (p2 &&& 31)) ^^^ (-1 : Int32)))) (p2).toNatClampNeg) &&& (((1 : Int32) <<< (p1 &&& 31)) ^^^ (-1 : Int32)))) (p1).toNatClampNeg) ||| (0 : Int32))) (p2).toNatClampNeg) ||| (0 : Int32))))
      else none
    else
    if ix p2 10 = true then
    (ev (fun s => b_Model_clash_1 (upd (upd (upd (upd v_clashes (p1).toNatClampNeg ((v_clashes (p1).toNatClampNeg) &&& (((1 : Int32) <<< (p2 &&& 31)) ^^^ (-1 : Int32)))) (p2).toNatClampNeg (((upd v_clashes (p1).toNatClampNeg ((v_clashes (p1).toNatClampNeg) &&& (((1 : Int32) <<< (p2 &&& 31)) ^^^ (-1 : Int32)))) (p2).toNatClampNeg) &&& (((1 : Int32) <<< (p1 &&& 31)) ^^^ (-1 : Int32)))) (p1).toNatClampNeg (((upd (upd v_clashes (p1).toNatClampNeg ((v_clashes (p1).toNatClampNeg) &&& (((1 : Int32) <<< (p2 &&& 31)) ^^^ (-1 : Int32)))) (p2).toNatClampNeg (((upd v_clashes (p1).toNatClampNeg ((v_clashes (p1).toNatClampNeg) &&& (((1 : Int32) <<< (p2 &&& 31)) ^^^ (-1 : Int32)))) (p2).toNatClampNeg) &&& (((1 : Int32) <<< (p1 &&& 31)) ^^^ (-1 : Int32)))) (p1).toNatClampNeg) ||| (0 : Int32))) (p2).toNatClampNeg (((upd (upd (upd v_clashes (p1).toNatClampNeg ((v_clashes (p1).toNatClampNeg) &&& (((1 : Int32) <<< (p2 &&& 31)) ^^^ (-1 : Int32)))) (p2).toNatClampNeg (((upd v_clashes (p1).toNatClampNeg ((v_clashes (p1).toNatClampNeg) &&& (((1 : Int32) <<< (p2 &&& 31)) ^^^ (-1 : Int32)))) (p2).toNatClampNeg) &&& (((1 : Int32) <<< (p1 &&& 31)) ^^^ (-1 : Int32)))) (p1).toNatClampNeg (((upd (upd v_clashes (p1).toNatClampNeg ((v_clashes (p1).toNatClampNeg) &&& (((1 : Int32) <<< (p2 &&& 31)) ^^^ (-1 : Int32)))) (p2).toNatClampNeg (((upd v_clashes (p1).toNatClampNeg ((v_clashes (p1).toNatClampNeg) &&& (((1 : Int32) <<< (p2 &&& 31)) ^^^ (-1 : Int32)))) (p2).toNatClampNeg) &&& (((1 : Int32) <<< (p1 &&& 31)) ^^^ (-1 : Int32)))) (p1).toNatClampNeg) ||| (0 : Int32))) (p2).toNatClampNeg) ||| ((1 : Int32) <<< (p1 &&& 31)))) s.1 s.2) ((0 : Int32), (0 : Int32))).bind fun y4_25 =>
    some ((y4_25 / (2 : Int32)), (upd (upd (upd (upd v_clashes (p1).toNatClampNeg ((v_clashes (p1).toNatClampNeg) &&& (((1 : Int32) <<< (p2 &&& 31)) ^^^ (-1 : Int32)))) (p2).toNatClampNeg (((upd v_clashes (p1).toNatClampNeg ((v_clashes (p1).toNatClampNeg) &&& (((1 : Int32) <<< (p2 &&& 31)) ^^^ (-1 : Int32)))) (p2).toNatClampNeg) &&& (((1 : Int32) <<< (p1 &&& 31)) ^^^ (-1 : Int32)))) (p1).toNatClampNeg (((upd (upd v_clashes (p1).toNatClampNeg ((v_clashes (p1).toNatClampNeg) &&& (((1 : Int32) <<< (p2 &&& 31)) ^^^ (-1 : Int32)))) (p2).toNatClampNeg (((upd v_clashes (p1).toNatClampNeg ((v_clashes (p1).toNatClampNeg) &&& (((1 : Int32) <<< (p2 &&& 31)) ^^^ (-1 : Int32)))) (p2).toNatClampNeg) &&& (((1 : Int32) <<< (p1 &&& 31)) ^^^ (-1 : Int32)))) (p1).toNatClampNeg) ||| (0 : Int32))) (p2).toNatClampNeg (((upd (upd (upd v_clashes (p1).toNatClampNeg ((v_clashes (p1).toNatClampNeg) &&& (((1 : Int32) <<< (p2 &&& 31)) ^^^ (-1 : Int32)))) (p2).toNatClampNeg (((upd v_clashes (p1).toNatClampNeg ((v_clashes (p1).toNatClampNeg) &&& (((1 : Int32) <<< (p2 &&& 31)) ^^^ (-1 : Int32)))) (p2).toNatClampNeg) &&& (((1 : Int32) <<< (p1 &&& 31)) ^^^ (-1 : Int32)))) (p1).toNatClampNeg (((upd (upd v_clashes (p1).toNatClampNeg ((v_clashes (p1).toNatClampNeg) &&& (((1 : Int32) <<< (p2 &&& 31)) ^^^ (-1 : Int32)))) (p2).toNatClampNeg (((upd v_clashes (p1).toNatClampNeg ((v_clashes (p1).toNatClampNeg) &&& (((1 : Int32) <<< (p2 &&& 31)) ^^^ (-1 : Int32)))) (p2).toNatClampNeg) &&& (((1 : Int32) <<< (p1 &&& 31)) ^^^ (-1 : Int32)))) (p1).toNatClampNeg) ||| (0 : Int32))) (p2).toNatClampNeg) ||| ((1 : Int32) <<< (p1 &&& 31)))))
    else none
    else none
    else none
  else
  if ix p1 10 = true then
  if ix p2 10 = true then
  if p3 = 0 then
    if ix p2 10 = true then
    (ev (fun s => b_Model_clash_1 (upd (upd (upd (upd v_clashes (p1).toNatClampNeg ((v_clashes (p1).toNatClampNeg) &&& (((1 : Int32) <<< (p2 &&& 31)) ^^^ (-1 : Int32)))) (p2).toNatClampNeg (((upd v_clashes (p1).toNatClampNeg ((v_clashes (p1).toNatClampNeg) &&& (((1 : Int32) <<< (p2 &&& 31)) ^^^ (-1 : Int32)))) (p2).toNatClampNeg) &&& (((1 : Int32) <<< (p1 &&& 31)) ^^^ (-1 : Int32)))) (p1).toNatClampNeg (((upd (upd v_clashes (p1).toNatClampNeg ((v_clashes (p1).toNatClampNeg) &&& (((1 : Int32) <<< (p2 &&& 31)) ^^^ (-1 : Int32)))) (p2).toNatClampNeg (((upd v_clashes (p1).toNatClampNeg ((v_clashes (p1).toNatClampNeg) &&& (((1 : Int32) <<< (p2 &&& 31)) ^^^ (-1 : Int32)))) (p2).toNatClampNeg) &&& (((1 : Int32) <<< (p1 &&& 31)) ^^^ (-1 : Int32)))) (p1).toNatClampNeg) ||| ((1 : Int32) <<< (p2 &&& 31)))) (p2).toNatClampNeg (((upd (upd (upd v_clashes (p1).toNatClampNeg ((v_clashes (p1).toNatClampNeg) &&& (((1 : Int32) <<< (p2 &&& 31)) ^^^ (-1 : Int32)))) (p2).toNatClampNeg (((upd v_clashes (p1).toNatClampNeg ((v_clashes (p1).toNatClampNeg) &&& (((1 : Int32) <<< (p2 &&& 31)) ^^^ (-1 : Int32)))) (p2).toNatClampNeg) &&& (((1 : Int32) <<< (p1 &&& 31)) ^^^ (-1 : Int32)))) (p1).toNatClampNeg (((upd (upd v_clashes (p1).toNatClampNeg ((v_clashes (p1).toNatClampNeg) &&& (((1 : Int32) <<< (p2 &&& 31)) ^^^ (-1 : Int32)))) (p2).toNatClampNeg (((upd v_clashes (p1).toNatClampNeg ((v_clashes (p1).toNatClampNeg) &&& (((1 : Int32) <<< (p2 &&& 31)) ^^^ (-1 : Int32)))) (p2).toNatClampNeg) &&& (((1 : Int32) <<< (p1 &&& 31)) ^^^ (-1 : Int32)))) (p1).toNatClampNeg) ||| ((1 : Int32) <<< (p2 &&& 31)))) (p2).toNatClampNeg) ||| (0 : Int32))) s.1 s.2) ((0 : Int32), (0 : Int32))).bind fun y4_32 =>
    some ((y4_32 / (2 : Int32)), (upd (upd (upd (upd v_clashes (p1).toNatClampNeg ((v_clashes (p1).toNatClampNeg) &&& (((1 : Int32) <<< (p2 &&& 31)) ^^^ (-1 : Int32)))) (p2).toNatClampNeg (((upd v_clashes (p1).toNatClampNeg ((v_clashes (p1).toNatClampNeg) &&& (((1 : Int32) <<< (p2 &&& 31)) ^^^ (-1 : Int32)))) (p2).toNatClampNeg) &&& (((1 : Int32) <<< (p1 &&& 31)) ^^^ (-1 : Int32)))) (p1).toNatClampNeg (((upd (upd v_clashes (p1).toNatClampNeg ((v_clashes (p1).toNatClampNeg) &&& (((1 : Int32) <<< (p2 &&& 31)) ^^^ (-1 : Int32)))) (p2).toNatClampNeg (((upd v_clashes (p1).toNatClampNeg ((v_clashes (p1).toNatClampNeg) &&& (((1 : Int32) <<< (p2 &&& 31)) ^^^ (-1 : Int32)))) (p2).toNatClampNeg) &&& (((1 : Int32) <<< (p1 &&& 31)) ^^^ (-1 : Int32)))) (p1).toNatClampNeg) ||| ((1 : Int32) <<< (p2 &&& 31)))) (p2).toNatClampNeg (((upd (upd (upd v_clashes (p1).toNatClampNeg ((v_clashes (p1).toNatClampNeg) &&& (((1 : Int32) <<< (p2 &&& 31)) ^^^ (-1 : Int32)))) (p2).toNatClampNeg (((upd v_clashes (p1).toNatClampNeg ((v_clashes (p1).toNatClampNeg) &&& (((1 : Int32) <<< (p2 &&& 31)) ^^^ (-1 : Int32)))) (p2).toNatClampNeg) &&& (((1 : Int32) <<< (p1 &&& 31)) ^^^ (-1 : Int32)))) (p1).toNatClampNeg (((upd (upd v_clashes (p1).toNatClampNeg ((v_clashes (p1).toNatClampNeg) &&& (((1 : Int32) <<< (p2 &&& 31)) ^^^ (-1 : Int32)))) (p2).toNatClampNeg (((upd v_clashes (p1).toNatClampNeg ((v_clashes (p1).toNatClampNeg) &&& (((1 : Int32) <<< (p2 &&& 31)) ^^^ (-1 : Int32)))) (p2).toNatClampNeg) &&& (((1 : Int32) <<< (p1 &&& 31)) ^^^ (-1 : Int32)))) (p1).toNatClampNeg) ||| ((1 : Int32) <<< (p2 &&& 31)))) (p2).toNatClampNeg) ||| (0 : Int32))))
    else none
  else
  if ix p2 10 = true then
  (ev (fun s => b_Model_clash_1 (upd (upd (upd (upd v_clashes (p1).toNatClampNeg ((v_clashes (p1).toNatClampNeg) &&& (((1 : Int32) <<< (p2 &&& 31)) ^^^ (-1 : Int32)))) (p2).toNatClampNeg (((upd v_clashes (p1).toNatClampNeg ((v_clashes (p1).toNatClampNeg) &&& (((1 : Int32) <<< (p2 &&& 31)) ^^^ (-1 : Int32)))) (p2).toNatClampNeg) &&& (((1 : Int32) <<< (p1 &&& 31)) ^^^ (-1 : Int32)))) (p1).toNatClampNeg (((upd (upd v_clashes (p1).toNatClampNeg ((v_clashes (p1).toNatClampNeg) &&& (((1 : Int32) <<< (p2 &&& 31)) ^^^ (-1 : Int32)))) (p2).toNatClampNeg (((upd v_clashes (p1).toNatClampNeg ((v_clashes (p1).toNatClampNeg) &&& (((1 : Int32) <<< (p2 &&& 31)) ^^^ (-1 : Int32)))) (p2).toNatClampNeg) &&& (((1 : Int32) <<< (p1 &&& 31)) ^^^ (-1 : Int32)))) (p1).toNatClampNeg) ||| ((1 : Int32) <<< (p2 &&& 31)))) (p2).toNatClampNeg (((upd (upd (upd v_clashes (p1).toNatClampNeg ((v_clashes (p1).toNatClampNeg) &&& (((1 : Int32) <<< (p2 &&& 31)) ^^^ (-1 : Int32)))) (p2).toNatClampNeg (((upd v_clashes (p1).toNatClampNeg ((v_clashes (p1).toNatClampNeg) &&& (((1 : Int32) <<< (p2 &&& 31)) ^^^ (-1 : Int32)))) (p2).toNatClampNeg) &&& (((1 : Int32) <<< (p1 &&& 31)) ^^^ (-1 : Int32)))) (p1).toNatClampNeg (((upd (upd v_clashes (p1).toNatClampNeg ((v_clashes (p1).toNatClampNeg) &&& (((1 : Int32) <<< (p2 &&& 31)) ^^^ (-1 : Int32)))) (p2).toNatClampNeg (((upd v_clashes (p1).toNatClampNeg ((v_clashes (p1).toNatClampNeg) &&& (((1 : Int32) <<< (p2 &&& 31)) ^^^ (-1 : Int32)))) (p2).toNatClampNeg) &&& (((1 : Int32) <<< (p1 &&& 31)) ^^^ (-1 : Int32)))) (p1).toNatClampNeg) ||| ((1 : Int32) <<< (p2 &&& 31)))) (p2).toNatClampNeg) ||| ((1 : Int32) <<< (p1 &&& 31)))) s.1 s.2) ((0 : Int32), (0 : Int32))).bind fun y4_36 =>
  some ((y4_36 / (2 : Int32)), (upd (upd (upd (upd v_clashes (p1).toNatClampNeg ((v_clashes (p1).toNatClampNeg) &&& (((1 : Int32) <<< (p2 &&& 31)) ^^^ (-1 : Int32)))) (p2).toNatClampNeg (((upd v_clashes (p1).toNatClampNeg ((v_clashes (p1).toNatClampNeg) &&& (((1 : Int32) <<< (p2 &&& 31)) ^^^ (-1 : Int32)))) (p2).toNatClampNeg) &&& (((1 : Int32) <<< (p1 &&& 31)) ^^^ (-1 : Int32)))) (p1).toNatClampNeg (((upd (upd v_clashes (p1).toNatClampNeg ((v_clashes (p1).toNatClampNeg) &&& (((1 : Int32) <<< (p2 &&& 31)) ^^^ (-1 : Int32)))) (p2).toNatClampNeg (((upd v_clashes (p1).toNatClampNeg ((v_clashes (p1).toNatClampNeg) &&& (((1 : Int32) <<< (p2 &&& 31)) ^^^ (-1 : Int32)))) (p2).toNatClampNeg) &&& (((1 : Int32) <<< (p1 &&& 31)) ^^^ (-1 : Int32)))) (p1).toNatClampNeg) ||| ((1 : Int32) <<< (p2 &&& 31)))) (p2).toNatClampNeg (((upd (upd (upd v_clashes (p1).toNatClampNeg ((v_clashes (p1).toNatClampNeg) &&& (((1 : Int32) <<< (p2 &&& 31)) ^^^ (-1 : Int32)))) (p2).toNatClampNeg (((upd v_clashes (p1).toNatClampNeg ((v_clashes (p1).toNatClampNeg) &&& (((1 : Int32) <<< (p2 &&& 31)) ^^^ (-1 : Int32)))) (p2).toNatClampNeg) &&& (((1 : Int32) <<< (p1 &&& 31)) ^^^ (-1 : Int32)))) (p1).toNatClampNeg (((upd (upd v_clashes (p1).toNatClampNeg ((v_clashes (p1).toNatClampNeg) &&& (((1 : Int32) <<< (p2 &&& 31)) ^^^ (-1 : Int32)))) (p2).toNatClampNeg (((upd v_clashes (p1).toNatClampNeg ((v_clashes (p1).toNatClampNeg) &&& (((1 : Int32) <<< (p2 &&& 31)) ^^^ (-1 : Int32)))) (p2).toNatClampNeg) &&& (((1 : Int32) <<< (p1 &&& 31)) ^^^ (-1 : Int32)))) (p1).toNatClampNeg) ||| ((1 : Int32) <<< (p2 &&& 31)))) (p2).toNatClampNeg) ||| ((1 : Int32) <<< (p1 &&& 31)))))
  else none
  else none
  else none
  else none
  else none
  else none
  else none
  else none
/-- SealStraitModel.rock -/
noncomputable def f_Model_rock (v_rocks : Nat → Int32) (p1 : Int32) (p2 : Int32) : Option (Int32 × (Nat → Int32)) :=
  if (f_Model_in p1 (0 : Int32) (5 : Int32)) = 0 then
    some ((-1 : Int32), v_rocks)
  else
  if (f_Model_in p2 (0 : Int32) (63 : Int32)) = 0 then
    some ((-2 : Int32), v_rocks)
  else
  if ix p1 6 = true then
  if ix p1 6 = true then
  some ((v_rocks (p1).toNatClampNeg), (upd v_rocks (p1).toNatClampNeg p2))
  else none
  else none
/-- SealStraitModel.say -/
noncomputable def f_Model_say (v_signs : Int32) (v_pad : Nat → Int32) (p1 : Int32) : Option (Int32 × Int32 × (Nat → Int32)) :=
  if (f_Model_in p1 (33 : Int32) (126 : Int32)) = 0 then
    some ((-2 : Int32), v_signs, v_pad)
  else
  if v_signs = (60 : Int32) then
    some ((-4 : Int32), v_signs, v_pad)
  else
  if ix v_signs 60 = true then
  some ((v_signs + (1 : Int32)), (v_signs + (1 : Int32)), (upd v_pad (v_signs).toNatClampNeg p1))
  else none
/-- SealStraitModel.wipe -/
noncomputable def f_Model_wipe (v_signs : Int32) : Option (Int32 × Int32) :=
  some (v_signs, (0 : Int32))
/-- SealStraitModel.faultOf -/
noncomputable def b_Model_faultOf_1 (v_signs : Int32) (v_pad : Nat → Int32) (x1 : Int32) (x2 : Int32) : Option ((Int32 × Int32) ⊕ (Int32)) :=
  if v_signs ≤ x2 then
    if x1 = 0 then
      some (.inr (-6 : Int32))
    else
    some (.inr v_signs)
  else
  if ix x2 60 = true then
  if x1 = 0 then
    if (f_Model_in (v_pad (x2).toNatClampNeg) (65 : Int32) (70 : Int32)) = 0 then
      if (f_Model_in (v_pad (x2).toNatClampNeg) (97 : Int32) (106 : Int32)) = 0 then
        if (v_pad (x2).toNatClampNeg) = (46 : Int32) then
          if (1 : Int32) = 0 then
            some (.inr x2)
          else
          if x1 = 0 then
            if (f_Model_in (v_pad (x2).toNatClampNeg) (65 : Int32) (70 : Int32)) = 0 then
              if x1 = (1 : Int32) then
                if (v_pad (x2).toNatClampNeg) = (38 : Int32) then
                  some (.inl ((2 : Int32), (x2 + 1)))
                else
                some (.inl ((0 : Int32), (x2 + 1)))
              else
              some (.inl ((0 : Int32), (x2 + 1)))
            else
            some (.inl ((1 : Int32), (x2 + 1)))
          else
          if x1 = (1 : Int32) then
            if (v_pad (x2).toNatClampNeg) = (38 : Int32) then
              some (.inl ((2 : Int32), (x2 + 1)))
            else
            some (.inl ((0 : Int32), (x2 + 1)))
          else
          some (.inl ((0 : Int32), (x2 + 1)))
        else
        if (0 : Int32) = 0 then
          some (.inr x2)
        else
        if x1 = 0 then
          if (f_Model_in (v_pad (x2).toNatClampNeg) (65 : Int32) (70 : Int32)) = 0 then
            if x1 = (1 : Int32) then
              if (v_pad (x2).toNatClampNeg) = (38 : Int32) then
                some (.inl ((2 : Int32), (x2 + 1)))
              else
              some (.inl ((0 : Int32), (x2 + 1)))
            else
            some (.inl ((0 : Int32), (x2 + 1)))
          else
          some (.inl ((1 : Int32), (x2 + 1)))
        else
        if x1 = (1 : Int32) then
          if (v_pad (x2).toNatClampNeg) = (38 : Int32) then
            some (.inl ((2 : Int32), (x2 + 1)))
          else
          some (.inl ((0 : Int32), (x2 + 1)))
        else
        some (.inl ((0 : Int32), (x2 + 1)))
      else
      if (1 : Int32) = 0 then
        some (.inr x2)
      else
      if x1 = 0 then
        if (f_Model_in (v_pad (x2).toNatClampNeg) (65 : Int32) (70 : Int32)) = 0 then
          if x1 = (1 : Int32) then
            if (v_pad (x2).toNatClampNeg) = (38 : Int32) then
              some (.inl ((2 : Int32), (x2 + 1)))
            else
            some (.inl ((0 : Int32), (x2 + 1)))
          else
          some (.inl ((0 : Int32), (x2 + 1)))
        else
        some (.inl ((1 : Int32), (x2 + 1)))
      else
      if x1 = (1 : Int32) then
        if (v_pad (x2).toNatClampNeg) = (38 : Int32) then
          some (.inl ((2 : Int32), (x2 + 1)))
        else
        some (.inl ((0 : Int32), (x2 + 1)))
      else
      some (.inl ((0 : Int32), (x2 + 1)))
    else
    if (1 : Int32) = 0 then
      some (.inr x2)
    else
    if x1 = 0 then
      if (f_Model_in (v_pad (x2).toNatClampNeg) (65 : Int32) (70 : Int32)) = 0 then
        if x1 = (1 : Int32) then
          if (v_pad (x2).toNatClampNeg) = (38 : Int32) then
            some (.inl ((2 : Int32), (x2 + 1)))
          else
          some (.inl ((0 : Int32), (x2 + 1)))
        else
        some (.inl ((0 : Int32), (x2 + 1)))
      else
      some (.inl ((1 : Int32), (x2 + 1)))
    else
    if x1 = (1 : Int32) then
      if (v_pad (x2).toNatClampNeg) = (38 : Int32) then
        some (.inl ((2 : Int32), (x2 + 1)))
      else
      some (.inl ((0 : Int32), (x2 + 1)))
    else
    some (.inl ((0 : Int32), (x2 + 1)))
  else
  if x1 = (1 : Int32) then
    if (v_pad (x2).toNatClampNeg) = (63 : Int32) then
      if (1 : Int32) = 0 then
        some (.inr x2)
      else
      if x1 = 0 then
        if (f_Model_in (v_pad (x2).toNatClampNeg) (65 : Int32) (70 : Int32)) = 0 then
          if x1 = (1 : Int32) then
            if (v_pad (x2).toNatClampNeg) = (38 : Int32) then
              some (.inl ((2 : Int32), (x2 + 1)))
            else
            some (.inl ((0 : Int32), (x2 + 1)))
          else
          some (.inl ((0 : Int32), (x2 + 1)))
        else
        some (.inl ((1 : Int32), (x2 + 1)))
      else
      if x1 = (1 : Int32) then
        if (v_pad (x2).toNatClampNeg) = (38 : Int32) then
          some (.inl ((2 : Int32), (x2 + 1)))
        else
        some (.inl ((0 : Int32), (x2 + 1)))
      else
      some (.inl ((0 : Int32), (x2 + 1)))
    else
    if (v_pad (x2).toNatClampNeg) = (33 : Int32) then
      if (1 : Int32) = 0 then
        some (.inr x2)
      else
      if x1 = 0 then
        if (f_Model_in (v_pad (x2).toNatClampNeg) (65 : Int32) (70 : Int32)) = 0 then
          if x1 = (1 : Int32) then
            if (v_pad (x2).toNatClampNeg) = (38 : Int32) then
              some (.inl ((2 : Int32), (x2 + 1)))
            else
            some (.inl ((0 : Int32), (x2 + 1)))
          else
          some (.inl ((0 : Int32), (x2 + 1)))
        else
        some (.inl ((1 : Int32), (x2 + 1)))
      else
      if x1 = (1 : Int32) then
        if (v_pad (x2).toNatClampNeg) = (38 : Int32) then
          some (.inl ((2 : Int32), (x2 + 1)))
        else
        some (.inl ((0 : Int32), (x2 + 1)))
      else
      some (.inl ((0 : Int32), (x2 + 1)))
    else
    if (v_pad (x2).toNatClampNeg) = (38 : Int32) then
      if (1 : Int32) = 0 then
        some (.inr x2)
      else
      if x1 = 0 then
        if (f_Model_in (v_pad (x2).toNatClampNeg) (65 : Int32) (70 : Int32)) = 0 then
          if x1 = (1 : Int32) then
            if (v_pad (x2).toNatClampNeg) = (38 : Int32) then
              some (.inl ((2 : Int32), (x2 + 1)))
            else
            some (.inl ((0 : Int32), (x2 + 1)))
          else
          some (.inl ((0 : Int32), (x2 + 1)))
        else
        some (.inl ((1 : Int32), (x2 + 1)))
      else
      if x1 = (1 : Int32) then
        if (v_pad (x2).toNatClampNeg) = (38 : Int32) then
          some (.inl ((2 : Int32), (x2 + 1)))
        else
        some (.inl ((0 : Int32), (x2 + 1)))
      else
      some (.inl ((0 : Int32), (x2 + 1)))
    else
    if (0 : Int32) = 0 then
      some (.inr x2)
    else
    if x1 = 0 then
      if (f_Model_in (v_pad (x2).toNatClampNeg) (65 : Int32) (70 : Int32)) = 0 then
        if x1 = (1 : Int32) then
          if (v_pad (x2).toNatClampNeg) = (38 : Int32) then
            some (.inl ((2 : Int32), (x2 + 1)))
          else
          some (.inl ((0 : Int32), (x2 + 1)))
        else
        some (.inl ((0 : Int32), (x2 + 1)))
      else
      some (.inl ((1 : Int32), (x2 + 1)))
    else
    if x1 = (1 : Int32) then
      if (v_pad (x2).toNatClampNeg) = (38 : Int32) then
        some (.inl ((2 : Int32), (x2 + 1)))
      else
      some (.inl ((0 : Int32), (x2 + 1)))
    else
    some (.inl ((0 : Int32), (x2 + 1)))
  else
  if (f_Model_in (v_pad (x2).toNatClampNeg) (65 : Int32) (70 : Int32)) = 0 then
    some (.inr x2)
  else
  if x1 = 0 then
    if (f_Model_in (v_pad (x2).toNatClampNeg) (65 : Int32) (70 : Int32)) = 0 then
      if x1 = (1 : Int32) then
        if (v_pad (x2).toNatClampNeg) = (38 : Int32) then
          some (.inl ((2 : Int32), (x2 + 1)))
        else
        some (.inl ((0 : Int32), (x2 + 1)))
      else
      some (.inl ((0 : Int32), (x2 + 1)))
    else
    some (.inl ((1 : Int32), (x2 + 1)))
  else
  if x1 = (1 : Int32) then
    if (v_pad (x2).toNatClampNeg) = (38 : Int32) then
      some (.inl ((2 : Int32), (x2 + 1)))
    else
    some (.inl ((0 : Int32), (x2 + 1)))
  else
  some (.inl ((0 : Int32), (x2 + 1)))
  else none
noncomputable def f_Model_faultOf (v_signs : Int32) (v_pad : Nat → Int32) : Option (Int32) :=
  ev (fun s => b_Model_faultOf_1 v_signs v_pad s.1 s.2) ((0 : Int32), (0 : Int32))
/-- SealStraitModel.fault -/
noncomputable def f_Model_fault (v_signs : Int32) (v_pad : Nat → Int32) : Option (Int32) :=
  (f_Model_faultOf v_signs v_pad).bind fun r1 =>
  some r1
/-- SealStraitModel.asNow -/
noncomputable def b_Model_asNow_1 (v_book : Nat → Int32) (x1 : Int32) (v_now : Nat → Int32) : Option ((Int32 × (Nat → Int32)) ⊕ ((Nat → Int32))) :=
  if (21 : Int32) ≤ x1 then
    some (.inr v_now)
  else
  if ix x1 21 = true then
  if ix x1 21 = true then
  some (.inl ((x1 + 1), (upd v_now (x1).toNatClampNeg (v_book (x1).toNatClampNeg))))
  else none
  else none
noncomputable def f_Model_asNow (v_book : Nat → Int32) (v_now : Nat → Int32) (v_readMany : Int32) (v_signedAll : Int32) : Option ((Nat → Int32) × Int32 × Int32) :=
  (ev (fun s => b_Model_asNow_1 v_book s.1 s.2) ((0 : Int32), v_now)).bind fun z5_now =>
  some (z5_now, (0 : Int32), (63 : Int32))
/-- SealStraitModel.stands -/
noncomputable def f_Model_stands (v_now : Nat → Int32) (p1 : Int32) : Int32 :=
  if (f_Model_in p1 (0 : Int32) (5 : Int32)) = 0 then
    (0 : Int32)
  else
  if (f_Model_has (v_now ((18 : Int32)).toNatClampNeg) p1) = 0 then
    (0 : Int32)
  else
  (1 : Int32)
/-- SealStraitModel.wouldSign -/
noncomputable def f_Model_wouldSign (v_now : Nat → Int32) (v_moults : Nat → Int32) (v_words : Nat → Int32) (p1 : Int32) (p2 : Int32) : Option (Int32) :=
  if (f_Model_stands v_now p1) = 0 then
    some (0 : Int32)
  else
  if ix p1 6 = true then
  if ((v_now ((20 : Int32)).toNatClampNeg) - (v_now ((20 : Int32)).toNatClampNeg) / (12 : Int32) * (12 : Int32)) = (v_moults (p1).toNatClampNeg) then
    some (0 : Int32)
  else
  if ix p1 21 = true then
  if (v_now (p1).toNatClampNeg) ≤ 0 then
    some (0 : Int32)
  else
  if ix ((12 : Int32) + p1) 21 = true then
  if ix p2 10 = true then
  if (v_now (((12 : Int32) + p1)).toNatClampNeg) < (v_words (p2).toNatClampNeg) then
    some (0 : Int32)
  else
  some (1 : Int32)
  else none
  else none
  else none
  else none
/-- SealStraitModel.signers -/
noncomputable def b_Model_signers_1 (x1 : Int32) (v_now : Nat → Int32) (v_moults : Nat → Int32) (v_words : Nat → Int32) (x2 : Int32) (x3 : Int32) : Option ((Int32 × Int32) ⊕ (Int32)) :=
  if (6 : Int32) ≤ x3 then
    some (.inr x2)
  else
  (f_Model_wouldSign v_now v_moults v_words x3 x1).bind fun r3 =>
  if r3 = 0 then
    some (.inl ((x2 ||| (0 : Int32)), (x3 + 1)))
  else
  some (.inl ((x2 ||| ((1 : Int32) <<< (x3 &&& 31))), (x3 + 1)))
noncomputable def f_Model_signers (v_now : Nat → Int32) (v_moults : Nat → Int32) (v_words : Nat → Int32) (p1 : Int32) : Option (Int32) :=
  (ev (fun s => b_Model_signers_1 p1 v_now v_moults v_words s.1 s.2) ((0 : Int32), (0 : Int32))).bind fun y2_6 =>
  some y2_6
/-- SealStraitModel.cheer -/
noncomputable def f_Model_cheer (v_now : Nat → Int32) (p1 : Int32) (p2 : Int32) : Option ((Nat → Int32)) :=
  if ix ((12 : Int32) + p1) 21 = true then
  if ((v_now (((12 : Int32) + p1)).toNatClampNeg) + p2) ≤ (9 : Int32) then
    if ix ((12 : Int32) + p1) 21 = true then
    if ix ((12 : Int32) + p1) 21 = true then
    some (upd v_now (((12 : Int32) + p1)).toNatClampNeg ((v_now (((12 : Int32) + p1)).toNatClampNeg) + p2))
    else none
    else none
  else
  if ix ((12 : Int32) + p1) 21 = true then
  some (upd v_now (((12 : Int32) + p1)).toNatClampNeg (9 : Int32))
  else none
  else none
/-- SealStraitModel.read -/
noncomputable def b_Model_read_1 (x1 : Int32) (x2 : Int32) (v_words : Nat → Int32) (x3 : Int32) (v_now : Nat → Int32) : Option ((Int32 × (Nat → Int32)) ⊕ ((Nat → Int32))) :=
  if (6 : Int32) ≤ x3 then
    some (.inr v_now)
  else
  if (f_Model_has x2 x3) = 0 then
    if (f_Model_stands v_now x3) = 0 then
      some (.inl ((x3 + 1), v_now))
    else
    (f_Model_cheer v_now x3 (1 : Int32)).bind fun u10_now =>
    some (.inl ((x3 + 1), u10_now))
  else
  if ix ((6 : Int32) + x3) 21 = true then
  if ix ((6 : Int32) + x3) 21 = true then
  if ix ((12 : Int32) + x3) 21 = true then
  if ix x1 10 = true then
  if ix ((12 : Int32) + x3) 21 = true then
  some (.inl ((x3 + 1), (upd (upd v_now (((6 : Int32) + x3)).toNatClampNeg ((1 : Int32) - (v_now (((6 : Int32) + x3)).toNatClampNeg))) (((12 : Int32) + x3)).toNatClampNeg (((upd v_now (((6 : Int32) + x3)).toNatClampNeg ((1 : Int32) - (v_now (((6 : Int32) + x3)).toNatClampNeg))) (((12 : Int32) + x3)).toNatClampNeg) - (v_words (x1).toNatClampNeg)))))
  else none
  else none
  else none
  else none
  else none
noncomputable def f_Model_read (v_now : Nat → Int32) (v_moults : Nat → Int32) (v_words : Nat → Int32) (v_readMany : Int32) (v_signedAll : Int32) (p1 : Int32) : Option (Int32 × (Nat → Int32) × Int32 × Int32) :=
  (f_Model_signers v_now v_moults v_words p1).bind fun r1 =>
  if r1 = 0 then
    some ((2 : Int32), v_now, v_readMany, v_signedAll)
  else
  (ev (fun s => b_Model_read_1 p1 r1 v_words s.1 s.2) ((0 : Int32), v_now)).bind fun z17_now =>
  some ((0 : Int32), z17_now, (v_readMany + (1 : Int32)), (v_signedAll &&& r1))
/-- SealStraitModel.whistle -/
noncomputable def f_Model_whistle (v_now : Nat → Int32) (p1 : Int32) : Option (Int32 × (Nat → Int32)) :=
  if (f_Model_stands v_now p1) = 0 then
    some ((1 : Int32), v_now)
  else
  if ix ((12 : Int32) + p1) 21 = true then
  if (v_now (((12 : Int32) + p1)).toNatClampNeg) = (9 : Int32) then
    some ((3 : Int32), v_now)
  else
  (f_Model_cheer v_now p1 (3 : Int32)).bind fun u5_now =>
  some ((0 : Int32), u5_now)
  else none
/-- SealStraitModel.net -/
noncomputable def f_Model_net (v_now : Nat → Int32) (p1 : Int32) : Option (Int32 × (Nat → Int32)) :=
  if (f_Model_stands v_now p1) = 0 then
    some ((1 : Int32), v_now)
  else
  if ix p1 21 = true then
  if (5 : Int32) ≤ (v_now (p1).toNatClampNeg) then
    if ix p1 21 = true then
    if ix p1 21 = true then
    some ((0 : Int32), (upd (upd v_now (p1).toNatClampNeg ((v_now (p1).toNatClampNeg) - (5 : Int32))) ((19 : Int32)).toNatClampNeg (((upd v_now (p1).toNatClampNeg ((v_now (p1).toNatClampNeg) - (5 : Int32))) ((19 : Int32)).toNatClampNeg) + (5 : Int32))))
    else none
    else none
  else
  some ((4 : Int32), v_now)
  else none
/-- SealStraitModel.join -/
noncomputable def f_Model_join (v_now : Nat → Int32) (p1 : Int32) (p2 : Int32) : Option (Int32 × (Nat → Int32)) :=
  if (f_Model_stands v_now p1) = 0 then
    some ((1 : Int32), v_now)
  else
  if (f_Model_stands v_now p2) = 0 then
    some ((1 : Int32), v_now)
  else
  if p1 = p2 then
    some ((5 : Int32), v_now)
  else
  if ix ((6 : Int32) + p1) 21 = true then
  if ix ((6 : Int32) + p2) 21 = true then
  if (v_now (((6 : Int32) + p1)).toNatClampNeg) = (v_now (((6 : Int32) + p2)).toNatClampNeg) then
    if ix p1 21 = true then
    if ix p2 21 = true then
    if ((v_now (p1).toNatClampNeg) + (v_now (p2).toNatClampNeg)) ≤ (99 : Int32) then
      if ix p1 21 = true then
      if ix p2 21 = true then
      if ix p1 21 = true then
      some ((0 : Int32), (upd (upd v_now (p1).toNatClampNeg ((v_now (p1).toNatClampNeg) + (v_now (p2).toNatClampNeg))) ((18 : Int32)).toNatClampNeg (((upd v_now (p1).toNatClampNeg ((v_now (p1).toNatClampNeg) + (v_now (p2).toNatClampNeg))) ((18 : Int32)).toNatClampNeg) &&& (((1 : Int32) <<< (p2 &&& 31)) ^^^ (-1 : Int32)))))
      else none
      else none
      else none
    else
    if ix p1 21 = true then
    some ((0 : Int32), (upd (upd v_now (p1).toNatClampNeg (99 : Int32)) ((18 : Int32)).toNatClampNeg (((upd v_now (p1).toNatClampNeg (99 : Int32)) ((18 : Int32)).toNatClampNeg) &&& (((1 : Int32) <<< (p2 &&& 31)) ^^^ (-1 : Int32)))))
    else none
    else none
    else none
  else
  some ((5 : Int32), v_now)
  else none
  else none
/-- SealStraitModel.endMonth -/
noncomputable def b_Model_endMonth_1 (v_moults : Nat → Int32) (x1 : Int32) (v_now : Nat → Int32) : Option ((Int32 × (Nat → Int32)) ⊕ ((Nat → Int32))) :=
  if (6 : Int32) ≤ x1 then
    some (.inr v_now)
  else
  if (f_Model_stands v_now x1) = 0 then
    some (.inl ((x1 + 1), v_now))
  else
  (f_Model_cheer v_now x1 (2 : Int32)).bind fun u6_now =>
  if ix x1 21 = true then
  if ix x1 21 = true then
  if (u6_now (x1).toNatClampNeg) ≤ (1 : Int32) then
    if ix x1 21 = true then
    some (.inl ((x1 + 1), (upd u6_now (x1).toNatClampNeg ((u6_now (x1).toNatClampNeg) + (0 : Int32)))))
    else none
  else
  if ix x1 21 = true then
  if (99 : Int32) ≤ (u6_now (x1).toNatClampNeg) then
    if ix x1 21 = true then
    some (.inl ((x1 + 1), (upd u6_now (x1).toNatClampNeg ((u6_now (x1).toNatClampNeg) + (0 : Int32)))))
    else none
  else
  if ix x1 6 = true then
  if ((u6_now ((20 : Int32)).toNatClampNeg) - (u6_now ((20 : Int32)).toNatClampNeg) / (12 : Int32) * (12 : Int32)) = (v_moults (x1).toNatClampNeg) then
    if ix x1 21 = true then
    some (.inl ((x1 + 1), (upd u6_now (x1).toNatClampNeg ((u6_now (x1).toNatClampNeg) + (0 : Int32)))))
    else none
  else
  if ix x1 21 = true then
  some (.inl ((x1 + 1), (upd u6_now (x1).toNatClampNeg ((u6_now (x1).toNatClampNeg) + (1 : Int32)))))
  else none
  else none
  else none
  else none
  else none
noncomputable def f_Model_endMonth (v_now : Nat → Int32) (v_moults : Nat → Int32) : Option (Int32 × (Nat → Int32)) :=
  if (v_now ((20 : Int32)).toNatClampNeg) = (999 : Int32) then
    some ((6 : Int32), v_now)
  else
  (ev (fun s => b_Model_endMonth_1 v_moults s.1 s.2) ((0 : Int32), v_now)).bind fun z19_now =>
  some ((0 : Int32), (upd z19_now ((20 : Int32)).toNatClampNeg ((z19_now ((20 : Int32)).toNatClampNeg) + (1 : Int32))))
/-- SealStraitModel.herdAct -/
noncomputable def f_Model_herdAct (v_now : Nat → Int32) (p1 : Int32) (p2 : Int32) (p3 : Int32) : Option (Int32 × (Nat → Int32)) :=
  if p2 = (63 : Int32) then
    (f_Model_whistle v_now p1).bind fun (r7, u7_now) =>
    some (r7, u7_now)
  else
  if p2 = (33 : Int32) then
    (f_Model_net v_now p1).bind fun (r5, u5_now) =>
    some (r5, u5_now)
  else
  (f_Model_join v_now p1 p3).bind fun (r3, u3_now) =>
  some (r3, u3_now)
/-- SealStraitModel.goSeasons -/
noncomputable def b_Model_goSeasons_1 (v_moults : Nat → Int32) (v_words : Nat → Int32) (v_signs : Int32) (v_pad : Nat → Int32) (x1 : Int32) (v_now : Nat → Int32) (v_readMany : Int32) (v_signedAll : Int32) (v_reason : Int32) (v_acts : Int32) : Option ((Int32 × (Nat → Int32) × Int32 × Int32 × Int32 × Int32) ⊕ (Int32 × (Nat → Int32) × Int32 × Int32 × Int32 × Int32)) :=
  if v_signs ≤ x1 then
    some (.inr ((-6 : Int32), v_now, v_readMany, v_signedAll, v_reason, v_acts))
  else
  if ix x1 60 = true then
  if (f_Model_in (v_pad (x1).toNatClampNeg) (65 : Int32) (70 : Int32)) = 0 then
    if (v_pad (x1).toNatClampNeg) = (46 : Int32) then
      (f_Model_endMonth v_now v_moults).bind fun (r13, u13_now) =>
      if r13 ≤ 0 then
        some (.inl ((x1 + 1), u13_now, v_readMany, v_signedAll, r13, (v_acts + (1 : Int32))))
      else
      some (.inr (v_acts, u13_now, v_readMany, v_signedAll, r13, v_acts))
    else
    (f_Model_read v_now v_moults v_words v_readMany v_signedAll ((v_pad (x1).toNatClampNeg) - (97 : Int32))).bind fun (r9, u9_now, u9_readMany, u9_signedAll) =>
    if r9 ≤ 0 then
      some (.inl ((x1 + 1), u9_now, u9_readMany, u9_signedAll, r9, (v_acts + (1 : Int32))))
    else
    some (.inr (v_acts, u9_now, u9_readMany, u9_signedAll, r9, v_acts))
  else
  if ix (x1 + (1 : Int32)) 60 = true then
  if (v_pad ((x1 + (1 : Int32))).toNatClampNeg) = (38 : Int32) then
    if ix (x1 + (2 : Int32)) 60 = true then
    (f_Model_herdAct v_now ((v_pad (x1).toNatClampNeg) - (65 : Int32)) (v_pad ((x1 + (1 : Int32))).toNatClampNeg) ((v_pad ((x1 + (2 : Int32))).toNatClampNeg) - (65 : Int32))).bind fun (r27, u27_now) =>
    if (v_pad ((x1 + (1 : Int32))).toNatClampNeg) = (38 : Int32) then
      if r27 ≤ 0 then
        some (.inl ((x1 + (3 : Int32)), u27_now, v_readMany, v_signedAll, r27, (v_acts + (1 : Int32))))
      else
      some (.inr (v_acts, u27_now, v_readMany, v_signedAll, r27, v_acts))
    else
    if r27 ≤ 0 then
      some (.inl ((x1 + (2 : Int32)), u27_now, v_readMany, v_signedAll, r27, (v_acts + (1 : Int32))))
    else
    some (.inr (v_acts, u27_now, v_readMany, v_signedAll, r27, v_acts))
    else none
  else
  (f_Model_herdAct v_now ((v_pad (x1).toNatClampNeg) - (65 : Int32)) (v_pad ((x1 + (1 : Int32))).toNatClampNeg) (0 : Int32)).bind fun (r19, u19_now) =>
  if (v_pad ((x1 + (1 : Int32))).toNatClampNeg) = (38 : Int32) then
    if r19 ≤ 0 then
      some (.inl ((x1 + (3 : Int32)), u19_now, v_readMany, v_signedAll, r19, (v_acts + (1 : Int32))))
    else
    some (.inr (v_acts, u19_now, v_readMany, v_signedAll, r19, v_acts))
  else
  if r19 ≤ 0 then
    some (.inl ((x1 + (2 : Int32)), u19_now, v_readMany, v_signedAll, r19, (v_acts + (1 : Int32))))
  else
  some (.inr (v_acts, u19_now, v_readMany, v_signedAll, r19, v_acts))
  else none
  else none
noncomputable def f_Model_goSeasons (v_book : Nat → Int32) (v_now : Nat → Int32) (v_moults : Nat → Int32) (v_words : Nat → Int32) (v_signs : Int32) (v_pad : Nat → Int32) (v_readMany : Int32) (v_signedAll : Int32) (v_reason : Int32) (v_acts : Int32) : Option (Int32 × (Nat → Int32) × Int32 × Int32 × Int32 × Int32) :=
  (f_Model_asNow v_book v_now v_readMany v_signedAll).bind fun (u1_now, u1_readMany, u1_signedAll) =>
  ev (fun s => b_Model_goSeasons_1 v_moults v_words v_signs v_pad s.1 s.2.1 s.2.2.1 s.2.2.2.1 s.2.2.2.2.1 s.2.2.2.2.2) ((0 : Int32), u1_now, u1_readMany, u1_signedAll, v_reason, (0 : Int32))
/-- SealStraitModel.judge -/
noncomputable def f_Model_judge (v_book : Nat → Int32) (v_now : Nat → Int32) (v_moults : Nat → Int32) (v_words : Nat → Int32) (v_signs : Int32) (v_pad : Nat → Int32) (v_readMany : Int32) (v_signedAll : Int32) (v_reason : Int32) (v_acts : Int32) (p1 : Int32) : Option (Int32 × (Nat → Int32) × Int32 × Int32 × Int32 × Int32) :=
  if (f_Model_in p1 (0 : Int32) (1 : Int32)) = 0 then
    some ((-2 : Int32), v_now, v_readMany, v_signedAll, v_reason, v_acts)
  else
  (f_Model_faultOf v_signs v_pad).bind fun r3 =>
  if r3 < 0 then
    (f_Model_goSeasons v_book v_now v_moults v_words v_signs v_pad v_readMany v_signedAll v_reason v_acts).bind fun (r6, u6_now, u6_readMany, u6_signedAll, u6_reason, u6_acts) =>
    if r6 < 0 then
      some (r6, u6_now, u6_readMany, u6_signedAll, u6_reason, u6_acts)
    else
    if p1 = 0 then
      some (r6, u6_now, u6_readMany, u6_signedAll, u6_reason, u6_acts)
    else
    some (u6_reason, u6_now, u6_readMany, u6_signedAll, u6_reason, u6_acts)
  else
  some ((-5 : Int32), v_now, v_readMany, v_signedAll, v_reason, v_acts)
/-- SealStraitModel.barOfSeasons -/
noncomputable def f_Model_barOfSeasons (v_book : Nat → Int32) (v_now : Nat → Int32) (v_moults : Nat → Int32) (v_words : Nat → Int32) (v_signs : Int32) (v_pad : Nat → Int32) (v_readMany : Int32) (v_signedAll : Int32) (v_reason : Int32) (v_acts : Int32) : Option (Int32 × (Nat → Int32) × Int32 × Int32 × Int32 × Int32) :=
  (f_Model_faultOf v_signs v_pad).bind fun r1 =>
  if 0 ≤ r1 then
    some ((-5 : Int32), v_now, v_readMany, v_signedAll, v_reason, v_acts)
  else
  (f_Model_goSeasons v_book v_now v_moults v_words v_signs v_pad v_readMany v_signedAll v_reason v_acts).bind fun (r4, u4_now, u4_readMany, u4_signedAll, u4_reason, u4_acts) =>
  if r4 < 0 then
    some ((0 : Int32), u4_now, u4_readMany, u4_signedAll, u4_reason, u4_acts)
  else
  some ((-5 : Int32), u4_now, u4_readMany, u4_signedAll, u4_reason, u4_acts)
/-- SealStraitModel.done -/
noncomputable def b_Model_done_1 (v_now : Nat → Int32) (x1 : Int32) (v_book : Nat → Int32) : Option ((Int32 × (Nat → Int32)) ⊕ ((Nat → Int32))) :=
  if (21 : Int32) ≤ x1 then
    some (.inr v_book)
  else
  if ix x1 21 = true then
  if ix x1 21 = true then
  some (.inl ((x1 + 1), (upd v_book (x1).toNatClampNeg (v_now (x1).toNatClampNeg))))
  else none
  else none
noncomputable def f_Model_done (v_book : Nat → Int32) (v_now : Nat → Int32) (v_moults : Nat → Int32) (v_words : Nat → Int32) (v_signs : Int32) (v_pad : Nat → Int32) (v_readMany : Int32) (v_signedAll : Int32) (v_reason : Int32) (v_acts : Int32) : Option (Int32 × (Nat → Int32) × (Nat → Int32) × Int32 × Int32 × Int32 × Int32 × Int32) :=
  (f_Model_barOfSeasons v_book v_now v_moults v_words v_signs v_pad v_readMany v_signedAll v_reason v_acts).bind fun (r1, u1_now, u1_readMany, u1_signedAll, u1_reason, u1_acts) =>
  if 0 ≤ r1 then
    (ev (fun s => b_Model_done_1 u1_now s.1 s.2) ((0 : Int32), v_book)).bind fun z8_book =>
    some (u1_acts, z8_book, u1_now, (0 : Int32), u1_readMany, u1_signedAll, u1_reason, u1_acts)
  else
  some ((-5 : Int32), v_book, u1_now, v_signs, u1_readMany, u1_signedAll, u1_reason, u1_acts)
/-- SealStraitModel.behind -/
noncomputable def f_Model_behind (v_book : Nat → Int32) (v_now : Nat → Int32) (v_moults : Nat → Int32) (v_words : Nat → Int32) (v_signs : Int32) (v_pad : Nat → Int32) (v_readMany : Int32) (v_signedAll : Int32) (v_reason : Int32) (v_acts : Int32) (p1 : Int32) (p2 : Int32) : Option (Int32 × (Nat → Int32) × Int32 × Int32 × Int32 × Int32) :=
  if (f_Model_isThere v_book p1) = 0 then
    some ((-1 : Int32), v_now, v_readMany, v_signedAll, v_reason, v_acts)
  else
  if (f_Model_in p2 (0 : Int32) (2 : Int32)) = 0 then
    some ((-2 : Int32), v_now, v_readMany, v_signedAll, v_reason, v_acts)
  else
  (f_Model_barOfSeasons v_book v_now v_moults v_words v_signs v_pad v_readMany v_signedAll v_reason v_acts).bind fun (r5, u5_now, u5_readMany, u5_signedAll, u5_reason, u5_acts) =>
  if 0 ≤ r5 then
    if (f_Model_stands u5_now p1) = 0 then
      some ((-6 : Int32), u5_now, u5_readMany, u5_signedAll, u5_reason, u5_acts)
    else
    if ix (((6 : Int32) * p2) + p1) 21 = true then
    some ((u5_now ((((6 : Int32) * p2) + p1)).toNatClampNeg), u5_now, u5_readMany, u5_signedAll, u5_reason, u5_acts)
    else none
  else
  some ((-5 : Int32), u5_now, u5_readMany, u5_signedAll, u5_reason, u5_acts)
/-- SealStraitModel.headsBeyond -/
noncomputable def b_Model_headsBeyond_1 (v_now : Nat → Int32) (x1 : Int32) (x2 : Int32) : Option ((Int32 × Int32) ⊕ (Int32)) :=
  if (6 : Int32) ≤ x2 then
    some (.inr x1)
  else
  if (f_Model_stands v_now x2) = 0 then
    some (.inl ((x1 + (0 : Int32)), (x2 + 1)))
  else
  if ix ((6 : Int32) + x2) 21 = true then
  if (v_now (((6 : Int32) + x2)).toNatClampNeg) = (1 : Int32) then
    if ix x2 21 = true then
    some (.inl ((x1 + (v_now (x2).toNatClampNeg)), (x2 + 1)))
    else none
  else
  some (.inl ((x1 + (0 : Int32)), (x2 + 1)))
  else none
noncomputable def f_Model_headsBeyond (v_now : Nat → Int32) : Option (Int32) :=
  (ev (fun s => b_Model_headsBeyond_1 v_now s.1 s.2) ((0 : Int32), (0 : Int32))).bind fun y1_8 =>
  some y1_8
/-- SealStraitModel.then -/
noncomputable def f_Model_then (v_book : Nat → Int32) (v_now : Nat → Int32) (v_moults : Nat → Int32) (v_words : Nat → Int32) (v_signs : Int32) (v_pad : Nat → Int32) (v_readMany : Int32) (v_signedAll : Int32) (v_reason : Int32) (v_acts : Int32) (p1 : Int32) : Option (Int32 × (Nat → Int32) × Int32 × Int32 × Int32 × Int32) :=
  if (f_Model_in p1 (0 : Int32) (4 : Int32)) = 0 then
    some ((-2 : Int32), v_now, v_readMany, v_signedAll, v_reason, v_acts)
  else
  (f_Model_barOfSeasons v_book v_now v_moults v_words v_signs v_pad v_readMany v_signedAll v_reason v_acts).bind fun (r3, u3_now, u3_readMany, u3_signedAll, u3_reason, u3_acts) =>
  if 0 ≤ r3 then
    if p1 = 0 then
      (f_Model_headsBeyond u3_now).bind fun r10 =>
      some (r10, u3_now, u3_readMany, u3_signedAll, u3_reason, u3_acts)
    else
    if (3 : Int32) ≤ p1 then
      if p1 = (3 : Int32) then
        some (u3_readMany, u3_now, u3_readMany, u3_signedAll, u3_reason, u3_acts)
      else
      some ((u3_signedAll &&& (v_book ((18 : Int32)).toNatClampNeg)), u3_now, u3_readMany, u3_signedAll, u3_reason, u3_acts)
    else
    if ix ((18 : Int32) + p1) 21 = true then
    some ((u3_now (((18 : Int32) + p1)).toNatClampNeg), u3_now, u3_readMany, u3_signedAll, u3_reason, u3_acts)
    else none
  else
  some ((-5 : Int32), u3_now, u3_readMany, u3_signedAll, u3_reason, u3_acts)
/-- SealStraitModel.who -/
noncomputable def f_Model_who (v_book : Nat → Int32) (v_now : Nat → Int32) (v_moults : Nat → Int32) (v_words : Nat → Int32) (v_readMany : Int32) (v_signedAll : Int32) (p1 : Int32) : Option (Int32 × (Nat → Int32) × Int32 × Int32) :=
  (f_Model_asNow v_book v_now v_readMany v_signedAll).bind fun (u1_now, u1_readMany, u1_signedAll) =>
  if (f_Model_isClause p1) = 0 then
    some ((-1 : Int32), u1_now, u1_readMany, u1_signedAll)
  else
  (f_Model_signers u1_now v_moults v_words p1).bind fun r5 =>
  some (r5, u1_now, u1_readMany, u1_signedAll)
/-- SealStraitModel.heard -/
noncomputable def f_Model_heard (v_now : Nat → Int32) (v_moults : Nat → Int32) (v_words : Nat → Int32) (p1 : Int32) (p2 : Int32) (p3 : Int32) : Option (Int32) :=
  if ix p1 6 = true then
  if ((v_now ((20 : Int32)).toNatClampNeg) - (v_now ((20 : Int32)).toNatClampNeg) / (12 : Int32) * (12 : Int32)) = (v_moults (p1).toNatClampNeg) then
    if (0 : Int32) = 0 then
      if (9 : Int32) ≤ (p2 - p2 / (10 : Int32) * (10 : Int32)) then
        some p2
      else
      some (p2 + (1 : Int32))
    else
    if ix p3 10 = true then
    some ((((10 : Int32) - ((p2 / (10 : Int32)) * (10 : Int32))) + (p2 - p2 / (10 : Int32) * (10 : Int32))) - (v_words (p3).toNatClampNeg))
    else none
  else
  if ix p1 21 = true then
  if (v_now (p1).toNatClampNeg) ≤ 0 then
    if (0 : Int32) = 0 then
      if (9 : Int32) ≤ (p2 - p2 / (10 : Int32) * (10 : Int32)) then
        some p2
      else
      some (p2 + (1 : Int32))
    else
    if ix p3 10 = true then
    some ((((10 : Int32) - ((p2 / (10 : Int32)) * (10 : Int32))) + (p2 - p2 / (10 : Int32) * (10 : Int32))) - (v_words (p3).toNatClampNeg))
    else none
  else
  if ix p3 10 = true then
  if (p2 - p2 / (10 : Int32) * (10 : Int32)) < (v_words (p3).toNatClampNeg) then
    if (0 : Int32) = 0 then
      if (9 : Int32) ≤ (p2 - p2 / (10 : Int32) * (10 : Int32)) then
        some p2
      else
      some (p2 + (1 : Int32))
    else
    if ix p3 10 = true then
    some ((((10 : Int32) - ((p2 / (10 : Int32)) * (10 : Int32))) + (p2 - p2 / (10 : Int32) * (10 : Int32))) - (v_words (p3).toNatClampNeg))
    else none
  else
  if (1 : Int32) = 0 then
    if (9 : Int32) ≤ (p2 - p2 / (10 : Int32) * (10 : Int32)) then
      some p2
    else
    some (p2 + (1 : Int32))
  else
  if ix p3 10 = true then
  some ((((10 : Int32) - ((p2 / (10 : Int32)) * (10 : Int32))) + (p2 - p2 / (10 : Int32) * (10 : Int32))) - (v_words (p3).toNatClampNeg))
  else none
  else none
  else none
  else none
/-- SealStraitModel.bring -/
noncomputable def b_Model_bring_1  (x6 : Int32) (v_reached : Nat → Int32) : Option ((Int32 × (Nat → Int32)) ⊕ ((Nat → Int32))) :=
  if (400 : Int32) ≤ x6 then
    some (.inr v_reached)
  else
  if ix x6 400 = true then
  some (.inl ((x6 + 1), (upd v_reached (x6).toNatClampNeg (-1 : Int32))))
  else none
noncomputable def b_Model_bring_3 (x1 : Int32) (x3 : Int32) (x9 : Int32) (x10 : Int32) (v_now : Nat → Int32) (v_moults : Nat → Int32) (v_words : Nat → Int32) (x7 : Int32) (x11 : Int32) (v_reached : Nat → Int32) (v_queue : Nat → Int32) : Option ((Int32 × Int32 × (Nat → Int32) × (Nat → Int32)) ⊕ (Int32 × (Nat → Int32) × (Nat → Int32))) :=
  if (10 : Int32) ≤ x11 then
    some (.inr (x7, v_reached, v_queue))
  else
  (f_Model_heard v_now v_moults v_words x1 (x9 / (20 : Int32)) x11).bind fun r32 =>
  (f_Model_heard v_now v_moults v_words x3 (x9 - x9 / (20 : Int32) * (20 : Int32)) x11).bind fun r34 =>
  if ix (((20 : Int32) * r32) + r34) 400 = true then
  if 0 ≤ (v_reached ((((20 : Int32) * r32) + r34)).toNatClampNeg) then
    some (.inl (x7, (x11 + 1), v_reached, v_queue))
  else
  if (10 : Int32) ≤ x10 then
    if ix (((20 : Int32) * r32) + r34) 400 = true then
    if ix x7 400 = true then
    some (.inl ((x7 + 1), (x11 + 1), (upd v_reached ((((20 : Int32) * r32) + r34)).toNatClampNeg (((10 : Int32) * ((x10 / (10 : Int32)) + (1 : Int32))) + (x10 - x10 / (10 : Int32) * (10 : Int32)))), (upd v_queue (x7).toNatClampNeg (((20 : Int32) * r32) + r34))))
    else none
    else none
  else
  if ix (((20 : Int32) * r32) + r34) 400 = true then
  if ix x7 400 = true then
  some (.inl ((x7 + 1), (x11 + 1), (upd v_reached ((((20 : Int32) * r32) + r34)).toNatClampNeg (((10 : Int32) * ((x10 / (10 : Int32)) + (1 : Int32))) + x11)), (upd v_queue (x7).toNatClampNeg (((20 : Int32) * r32) + r34))))
  else none
  else none
  else none
noncomputable def b_Model_bring_2 (x1 : Int32) (x2 : Int32) (x3 : Int32) (x4 : Int32) (x5 : Int32) (v_now : Nat → Int32) (v_readMany : Int32) (v_signedAll : Int32) (v_moults : Nat → Int32) (v_words : Nat → Int32) (x7 : Int32) (x8 : Int32) (v_reached : Nat → Int32) (v_queue : Nat → Int32) : Option ((Int32 × Int32 × (Nat → Int32) × (Nat → Int32)) ⊕ (Int32 × (Nat → Int32) × Int32 × Int32 × (Nat → Int32) × (Nat → Int32))) :=
  if x7 ≤ x8 then
    some (.inr ((-6 : Int32), v_now, v_readMany, v_signedAll, v_reached, v_queue))
  else
  if ix x8 400 = true then
  if ix (v_queue (x8).toNatClampNeg) 400 = true then
  if ((v_queue (x8).toNatClampNeg) / (200 : Int32)) = x2 then
    if (((v_queue (x8).toNatClampNeg) - (v_queue (x8).toNatClampNeg) / (20 : Int32) * (20 : Int32)) / (10 : Int32)) = x4 then
      if x5 = 0 then
        some (.inr (((v_reached ((v_queue (x8).toNatClampNeg)).toNatClampNeg) / (10 : Int32)), v_now, v_readMany, v_signedAll, v_reached, v_queue))
      else
      if (10 : Int32) ≤ (v_reached ((v_queue (x8).toNatClampNeg)).toNatClampNeg) then
        some (.inr (((v_reached ((v_queue (x8).toNatClampNeg)).toNatClampNeg) - (v_reached ((v_queue (x8).toNatClampNeg)).toNatClampNeg) / (10 : Int32) * (10 : Int32)), v_now, v_readMany, v_signedAll, v_reached, v_queue))
      else
      some (.inr ((-6 : Int32), v_now, v_readMany, v_signedAll, v_reached, v_queue))
    else
    (ev (fun s => b_Model_bring_3 x1 x3 (v_queue (x8).toNatClampNeg) (v_reached ((v_queue (x8).toNatClampNeg)).toNatClampNeg) v_now v_moults v_words s.1 s.2.1 s.2.2.1 s.2.2.2) (x7, (0 : Int32), v_reached, v_queue)).bind fun (y7_47, z47_reached, z47_queue) =>
    some (.inl (y7_47, (x8 + 1), z47_reached, z47_queue))
  else
  (ev (fun s => b_Model_bring_3 x1 x3 (v_queue (x8).toNatClampNeg) (v_reached ((v_queue (x8).toNatClampNeg)).toNatClampNeg) v_now v_moults v_words s.1 s.2.1 s.2.2.1 s.2.2.2) (x7, (0 : Int32), v_reached, v_queue)).bind fun (y7_43, z43_reached, z43_queue) =>
  some (.inl (y7_43, (x8 + 1), z43_reached, z43_queue))
  else none
  else none
noncomputable def f_Model_bring (v_book : Nat → Int32) (v_now : Nat → Int32) (v_moults : Nat → Int32) (v_words : Nat → Int32) (v_readMany : Int32) (v_signedAll : Int32) (v_reached : Nat → Int32) (v_queue : Nat → Int32) (p1 : Int32) (p2 : Int32) (p3 : Int32) (p4 : Int32) (p5 : Int32) : Option (Int32 × (Nat → Int32) × Int32 × Int32 × (Nat → Int32) × (Nat → Int32)) :=
  if (f_Model_isThere v_book p1) = 0 then
    some ((-1 : Int32), v_now, v_readMany, v_signedAll, v_reached, v_queue)
  else
  if (f_Model_isThere v_book p3) = 0 then
    some ((-1 : Int32), v_now, v_readMany, v_signedAll, v_reached, v_queue)
  else
  if p1 = p3 then
    some ((-1 : Int32), v_now, v_readMany, v_signedAll, v_reached, v_queue)
  else
  if (f_Model_in p2 (0 : Int32) (1 : Int32)) = 0 then
    some ((-2 : Int32), v_now, v_readMany, v_signedAll, v_reached, v_queue)
  else
  if (f_Model_in p4 (0 : Int32) (1 : Int32)) = 0 then
    some ((-2 : Int32), v_now, v_readMany, v_signedAll, v_reached, v_queue)
  else
  if (f_Model_in p5 (0 : Int32) (1 : Int32)) = 0 then
    some ((-2 : Int32), v_now, v_readMany, v_signedAll, v_reached, v_queue)
  else
  (f_Model_asNow v_book v_now v_readMany v_signedAll).bind fun (u12_now, u12_readMany, u12_signedAll) =>
  (ev (fun s => b_Model_bring_1 s.1 s.2) ((0 : Int32), v_reached)).bind fun z17_reached =>
  if ix ((6 : Int32) + p1) 21 = true then
  if ix ((12 : Int32) + p1) 21 = true then
  if ix ((6 : Int32) + p3) 21 = true then
  if ix ((12 : Int32) + p3) 21 = true then
  if ix ((((20 : Int32) * (((10 : Int32) * (u12_now (((6 : Int32) + p1)).toNatClampNeg)) + (u12_now (((12 : Int32) + p1)).toNatClampNeg))) + ((10 : Int32) * (u12_now (((6 : Int32) + p3)).toNatClampNeg))) + (u12_now (((12 : Int32) + p3)).toNatClampNeg)) 400 = true then
  ev (fun s => b_Model_bring_2 p1 p2 p3 p4 p5 u12_now u12_readMany u12_signedAll v_moults v_words s.1 s.2.1 s.2.2.1 s.2.2.2) ((1 : Int32), (0 : Int32), (upd z17_reached (((((20 : Int32) * (((10 : Int32) * (u12_now (((6 : Int32) + p1)).toNatClampNeg)) + (u12_now (((12 : Int32) + p1)).toNatClampNeg))) + ((10 : Int32) * (u12_now (((6 : Int32) + p3)).toNatClampNeg))) + (u12_now (((12 : Int32) + p3)).toNatClampNeg))).toNatClampNeg (0 : Int32)), (upd v_queue ((0 : Int32)).toNatClampNeg ((((20 : Int32) * (((10 : Int32) * (u12_now (((6 : Int32) + p1)).toNatClampNeg)) + (u12_now (((12 : Int32) + p1)).toNatClampNeg))) + ((10 : Int32) * (u12_now (((6 : Int32) + p3)).toNatClampNeg))) + (u12_now (((12 : Int32) + p3)).toNatClampNeg))))
  else none
  else none
  else none
  else none
  else none
/-- SealStraitModel.drop -/
noncomputable def b_Model_drop_2 (x1 : Int32) (x4 : Int32) (v_clashes : Nat → Int32) (x5 : Int32) (x6 : Int32) : Option ((Int32 × Int32) ⊕ (Int32)) :=
  if (10 : Int32) ≤ x6 then
    some (.inr x5)
  else
  if x5 = 0 then
    some (.inr x5)
  else
  if (f_Model_has (x1 &&& (x4 ^^^ (-1 : Int32))) x6) = 0 then
    some (.inl ((1 : Int32), (x6 + 1)))
  else
  if ix x6 10 = true then
  if (((v_clashes (x6).toNatClampNeg) &&& x1) &&& (x4 ^^^ (-1 : Int32))) = 0 then
    some (.inl ((1 : Int32), (x6 + 1)))
  else
  some (.inl ((0 : Int32), (x6 + 1)))
  else none
noncomputable def b_Model_drop_1 (x1 : Int32) (v_clashes : Nat → Int32) (x3 : Int32) (x4 : Int32) : Option ((Int32 × Int32) ⊕ (Int32)) :=
  if x4 < 0 then
    some (.inr x3)
  else
  if (x4 &&& (x1 ^^^ (-1 : Int32))) = 0 then
    (f_Model_bits x4).bind fun r20 =>
    (f_Model_bits x3).bind fun r22 =>
    if r22 < r20 then
      (ev (fun s => b_Model_drop_2 x1 x4 v_clashes s.1 s.2) ((0 : Int32), (0 : Int32))).bind fun y5_25 =>
      if y5_25 = 0 then
        some (.inl (x3, (x4 + (-1))))
      else
      some (.inl (x4, (x4 + (-1))))
    else
    (ev (fun s => b_Model_drop_2 x1 x4 v_clashes s.1 s.2) ((1 : Int32), (0 : Int32))).bind fun y5_29 =>
    if y5_29 = 0 then
      some (.inl (x3, (x4 + (-1))))
    else
    some (.inl (x4, (x4 + (-1))))
  else
  (ev (fun s => b_Model_drop_2 x1 x4 v_clashes s.1 s.2) ((0 : Int32), (0 : Int32))).bind fun y5_16 =>
  if y5_16 = 0 then
    some (.inl (x3, (x4 + (-1))))
  else
  some (.inl (x4, (x4 + (-1))))
noncomputable def f_Model_drop (v_clashes : Nat → Int32) (p1 : Int32) (p2 : Int32) : Option (Int32) :=
  if (f_Model_in p1 (0 : Int32) (1023 : Int32)) = 0 then
    some (-2 : Int32)
  else
  if (f_Model_in p2 (0 : Int32) (1 : Int32)) = 0 then
    some (-2 : Int32)
  else
  (ev (fun s => b_Model_drop_1 p1 v_clashes s.1 s.2) (p1, (1023 : Int32))).bind fun y3_33 =>
  if p2 = (1 : Int32) then
    some y3_33
  else
  (f_Model_bits y3_33).bind fun r37 =>
  some r37
/-- SealStraitModel.share -/
noncomputable def b_Model_share_1 (v_book : Nat → Int32) (x3 : Int32) (x4 : Int32) (v_got : Nat → Int32) : Option ((Int32 × Int32 × (Nat → Int32)) ⊕ (Int32 × (Nat → Int32))) :=
  if (6 : Int32) ≤ x4 then
    some (.inr (x3, v_got))
  else
  if ix x4 6 = true then
  if (f_Model_isThere v_book x4) = 0 then
    some (.inl ((x3 + (0 : Int32)), (x4 + 1), (upd v_got (x4).toNatClampNeg (0 : Int32))))
  else
  if ix x4 21 = true then
  some (.inl ((x3 + (v_book (x4).toNatClampNeg)), (x4 + 1), (upd v_got (x4).toNatClampNeg (0 : Int32))))
  else none
  else none
noncomputable def b_Model_share_3 (v_got : Nat → Int32) (v_book : Nat → Int32) (x5 : Int32) (x6 : Int32) : Option ((Int32 × Int32) ⊕ (Int32)) :=
  if (6 : Int32) ≤ x6 then
    some (.inr x5)
  else
  if (f_Model_isThere v_book x6) = 0 then
    some (.inl (x5, (x6 + 1)))
  else
  if x5 < 0 then
    some (.inl (x6, (x6 + 1)))
  else
  if ix x6 21 = true then
  if ix x5 6 = true then
  if ix x5 21 = true then
  if ix x6 6 = true then
  if ((v_book (x6).toNatClampNeg) * ((v_got (x5).toNatClampNeg) + (1 : Int32))) ≤ ((v_book (x5).toNatClampNeg) * ((v_got (x6).toNatClampNeg) + (1 : Int32))) then
    some (.inl (x5, (x6 + 1)))
  else
  some (.inl (x6, (x6 + 1)))
  else none
  else none
  else none
  else none
noncomputable def b_Model_share_2 (x2 : Int32) (v_book : Nat → Int32) (x4 : Int32) (v_got : Nat → Int32) : Option ((Int32 × (Nat → Int32)) ⊕ ((Nat → Int32))) :=
  if x2 ≤ x4 then
    some (.inr v_got)
  else
  (ev (fun s => b_Model_share_3 v_got v_book s.1 s.2) ((-6 : Int32), (0 : Int32))).bind fun y5_27 =>
  if ix y5_27 6 = true then
  if ix y5_27 6 = true then
  some (.inl ((x4 + 1), (upd v_got (y5_27).toNatClampNeg ((v_got (y5_27).toNatClampNeg) + (1 : Int32)))))
  else none
  else none
noncomputable def f_Model_share (v_book : Nat → Int32) (v_got : Nat → Int32) (p1 : Int32) (p2 : Int32) : Option (Int32 × (Nat → Int32)) :=
  if (f_Model_isThere v_book p1) = 0 then
    some ((-1 : Int32), v_got)
  else
  if (f_Model_in p2 (0 : Int32) (99 : Int32)) = 0 then
    some ((-2 : Int32), v_got)
  else
  (ev (fun s => b_Model_share_1 v_book s.1 s.2.1 s.2.2) ((0 : Int32), (0 : Int32), v_got)).bind fun (y3_11, z11_got) =>
  if y3_11 = 0 then
    some ((-6 : Int32), z11_got)
  else
  (ev (fun s => b_Model_share_2 p2 v_book s.1 s.2) ((0 : Int32), z11_got)).bind fun z32_got =>
  if ix p1 6 = true then
  some ((z32_got (p1).toNatClampNeg), z32_got)
  else none
/-- SealStraitModel.lowest -/
noncomputable def b_Model_lowest_1  (x5 : Int64) (x7 : Int64) : Option ((Int64 × Int64) ⊕ (Int64)) :=
  if (lg_cmp x7 (0 : Int64)) = 0 then
    some (.inr x5)
  else
  if ¬ x7 = 0 then
  some (.inl (x7, (x5 - x5 / x7 * x7)))
  else none
noncomputable def f_Model_lowest (p1 : Int64) (p2 : Int64) (p3 : Int32) : Option (Int64) :=
  (ev (fun s => b_Model_lowest_1 s.1 s.2) (p1, p2)).bind fun y5_4 =>
  if p3 = 0 then
    if ¬ y5_4 = 0 then
    some (p1 / y5_4)
    else none
  else
  if ¬ y5_4 = 0 then
  some (p2 / y5_4)
  else none
/-- SealStraitModel.layWait -/
noncomputable def b_Model_layWait_2 (x2 : Int32) (v_waitUp : Int64) (v_waitLow : Int64) (x4 : Int64) (x6 : Int32) : Option ((Int64 × Int32) ⊕ (Int64)) :=
  if x2 < x6 then
    some (.inr x4)
  else
  if (lg_cmp ((x6).toInt64 * v_waitLow) v_waitUp) ≤ 0 then
    some (.inl ((x4 + v_waitUp), (x6 + 1)))
  else
  some (.inl ((x4 + ((x6).toInt64 * v_waitLow)), (x6 + 1)))
noncomputable def b_Model_layWait_1 (x1 : Int32) (x2 : Int32) (x3 : Int32) (v_waitUp : Int64) (v_waitLow : Int64) : Option ((Int32 × Int64 × Int64) ⊕ (Int64 × Int64)) :=
  if x1 ≤ x3 then
    some (.inr (v_waitUp, v_waitLow))
  else
  (ev (fun s => b_Model_layWait_2 x2 v_waitUp v_waitLow s.1 s.2) ((0 : Int64), (0 : Int32))).bind fun y4_6 =>
  some (.inl ((x3 + 1), y4_6, (v_waitLow * ((x2 + (1 : Int32))).toInt64)))
noncomputable def f_Model_layWait (v_waitUp : Int64) (v_waitLow : Int64) (p1 : Int32) (p2 : Int32) : Option (Int64 × Int64) :=
  (ev (fun s => b_Model_layWait_1 p1 p2 s.1 s.2.1 s.2.2) ((0 : Int32), (0 : Int64), (1 : Int64))).bind fun (z9_waitUp, z9_waitLow) =>
  some (z9_waitUp, z9_waitLow)
/-- SealStraitModel.waiting -/
noncomputable def f_Model_waiting (v_waitUp : Int64) (v_waitLow : Int64) (p1 : Int32) (p2 : Int32) (p3 : Int32) : Option (Int64 × Int64 × Int64) :=
  if (f_Model_in p1 (1 : Int32) (12 : Int32)) = 0 then
    some ((-1000000000000000002 : Int64), v_waitUp, v_waitLow)
  else
  if (f_Model_in p2 (1 : Int32) (9 : Int32)) = 0 then
    some ((-1000000000000000002 : Int64), v_waitUp, v_waitLow)
  else
  if (f_Model_in p3 (0 : Int32) (1 : Int32)) = 0 then
    some ((-1000000000000000002 : Int64), v_waitUp, v_waitLow)
  else
  (f_Model_layWait v_waitUp v_waitLow p1 p2).bind fun (u7_waitUp, u7_waitLow) =>
  (f_Model_lowest u7_waitUp u7_waitLow p3).bind fun r9 =>
  some (r9, u7_waitUp, u7_waitLow)
/-- SealStraitModel.reads -/
noncomputable def b_Model_reads_1 (v_waitUp : Int64) (v_waitLow : Int64) (x3 : Int32) : Option ((Int32) ⊕ (Int32)) :=
  if 0 ≤ (lg_cmp ((x3).toInt64 * v_waitLow) v_waitUp) then
    some (.inr x3)
  else
  some (.inl (x3 + 1))
noncomputable def f_Model_reads (v_waitUp : Int64) (v_waitLow : Int64) (p1 : Int32) (p2 : Int32) : Option (Int32 × Int64 × Int64) :=
  if (f_Model_in p1 (1 : Int32) (12 : Int32)) = 0 then
    some ((-2 : Int32), v_waitUp, v_waitLow)
  else
  if (f_Model_in p2 (1 : Int32) (9 : Int32)) = 0 then
    some ((-2 : Int32), v_waitUp, v_waitLow)
  else
  (f_Model_layWait v_waitUp v_waitLow (p1 - (1 : Int32)) p2).bind fun (u5_waitUp, u5_waitLow) =>
  (ev (fun s => b_Model_reads_1 u5_waitUp u5_waitLow s) (0 : Int32)).bind fun y3_9 =>
  some (y3_9, u5_waitUp, u5_waitLow)
/-- SealStraitModel.counted -/
noncomputable def f_Model_counted (v_counts : Int32) (v_count : Nat → Int32) (p1 : Int32) (p2 : Int32) : Option (Int32 × Int32 × (Nat → Int32)) :=
  if (f_Model_in p1 (0 : Int32) (5 : Int32)) = 0 then
    some ((-1 : Int32), v_counts, v_count)
  else
  if (f_Model_in p2 (0 : Int32) (999 : Int32)) = 0 then
    some ((-2 : Int32), v_counts, v_count)
  else
  if v_counts = (8 : Int32) then
    some ((-4 : Int32), v_counts, v_count)
  else
  if ix ((2 : Int32) * v_counts) 16 = true then
  if ix (((2 : Int32) * v_counts) + (1 : Int32)) 16 = true then
  some ((v_counts + (1 : Int32)), (v_counts + (1 : Int32)), (upd (upd v_count (((2 : Int32) * v_counts)).toNatClampNeg p1) ((((2 : Int32) * v_counts) + (1 : Int32))).toNatClampNeg p2))
  else none
  else none
/-- SealStraitModel.forget -/
noncomputable def f_Model_forget (v_counts : Int32) : Option (Int32 × Int32) :=
  some (v_counts, (0 : Int32))
/-- SealStraitModel.wantingOff -/
noncomputable def b_Model_wantingOff_1 (x1 : Int32) (x2 : Int32) (v_book : Nat → Int32) (v_rocks : Nat → Int32) (x3 : Int32) (x4 : Int32) : Option ((Int32 × Int32) ⊕ (Int32)) :=
  if (6 : Int32) ≤ x4 then
    some (.inr x3)
  else
  if ix x1 6 = true then
  if (f_Model_has (x2 &&& (v_rocks (x1).toNatClampNeg)) x4) = 0 then
    some (.inl ((x3 + (0 : Int32)), (x4 + 1)))
  else
  if ix x4 21 = true then
  some (.inl ((x3 + (v_book (x4).toNatClampNeg)), (x4 + 1)))
  else none
  else none
noncomputable def f_Model_wantingOff (v_book : Nat → Int32) (v_rocks : Nat → Int32) (p1 : Int32) (p2 : Int32) : Option (Int32) :=
  (ev (fun s => b_Model_wantingOff_1 p1 p2 v_book v_rocks s.1 s.2) ((0 : Int32), (0 : Int32))).bind fun y3_7 =>
  some y3_7
/-- SealStraitModel.isFit -/
noncomputable def b_Model_isFit_1 (x1 : Int32) (v_book : Nat → Int32) (v_rocks : Nat → Int32) (v_counts : Int32) (v_count : Nat → Int32) (x2 : Int32) (x3 : Int32) : Option ((Int32 × Int32) ⊕ (Int32)) :=
  if v_counts ≤ x3 then
    some (.inr x2)
  else
  if x2 = 0 then
    some (.inr x2)
  else
  if ix ((2 : Int32) * x3) 16 = true then
  (f_Model_wantingOff v_book v_rocks (v_count (((2 : Int32) * x3)).toNatClampNeg) x1).bind fun r7 =>
  if ix (((2 : Int32) * x3) + (1 : Int32)) 16 = true then
  if r7 = (v_count ((((2 : Int32) * x3) + (1 : Int32))).toNatClampNeg) then
    some (.inl ((1 : Int32), (x3 + 1)))
  else
  some (.inl ((0 : Int32), (x3 + 1)))
  else none
  else none
noncomputable def f_Model_isFit (v_book : Nat → Int32) (v_rocks : Nat → Int32) (v_counts : Int32) (v_count : Nat → Int32) (p1 : Int32) : Option (Int32) :=
  if (p1 &&& ((v_book ((18 : Int32)).toNatClampNeg) ^^^ (-1 : Int32))) = 0 then
    (ev (fun s => b_Model_isFit_1 p1 v_book v_rocks v_counts v_count s.1 s.2) ((1 : Int32), (0 : Int32))).bind fun y2_15 =>
    if y2_15 = 0 ∨ y2_15 = 1 then
    some y2_15
    else none
  else
  (ev (fun s => b_Model_isFit_1 p1 v_book v_rocks v_counts v_count s.1 s.2) ((0 : Int32), (0 : Int32))).bind fun y2_11 =>
  if y2_11 = 0 ∨ y2_11 = 1 then
  some y2_11
  else none
/-- SealStraitModel.went -/
noncomputable def b_Model_went_1 (x1 : Int32) (v_book : Nat → Int32) (v_rocks : Nat → Int32) (v_counts : Int32) (v_count : Nat → Int32) (x2 : Int32) (x3 : Int32) : Option ((Int32 × Int32) ⊕ (Int32)) :=
  if (64 : Int32) ≤ x3 then
    if x1 = (-1 : Int32) then
      some (.inr x2)
    else
    some (.inr (-6 : Int32))
  else
  (f_Model_isFit v_book v_rocks v_counts v_count x3).bind fun r5 =>
  if r5 = 0 then
    some (.inl (x2, (x3 + 1)))
  else
  if x2 = x1 then
    some (.inr x3)
  else
  some (.inl ((x2 + 1), (x3 + 1)))
noncomputable def f_Model_went (v_book : Nat → Int32) (v_rocks : Nat → Int32) (v_counts : Int32) (v_count : Nat → Int32) (p1 : Int32) : Option (Int32) :=
  ev (fun s => b_Model_went_1 p1 v_book v_rocks v_counts v_count s.1 s.2) ((0 : Int32), (0 : Int32))
/-- SealStraitModel.ask -/
noncomputable def b_Model_ask_3 (x4 : Int32) (x6 : Int32) (v_book : Nat → Int32) (v_rocks : Nat → Int32) (v_counts : Int32) (v_count : Nat → Int32) (x7 : Int32) (x8 : Int32) : Option ((Int32 × Int32) ⊕ (Int32)) :=
  if (64 : Int32) ≤ x8 then
    some (.inr x7)
  else
  (f_Model_isFit v_book v_rocks v_counts v_count x6).bind fun r9 =>
  if r9 = 0 then
    some (.inr x7)
  else
  (f_Model_isFit v_book v_rocks v_counts v_count x8).bind fun r13 =>
  if r13 = 0 then
    some (.inl ((x7 + (0 : Int32)), (x8 + 1)))
  else
  (f_Model_wantingOff v_book v_rocks x4 x8).bind fun r16 =>
  (f_Model_wantingOff v_book v_rocks x4 x6).bind fun r18 =>
  if r16 = r18 then
    some (.inl ((x7 + (1 : Int32)), (x8 + 1)))
  else
  some (.inl ((x7 + (0 : Int32)), (x8 + 1)))
noncomputable def b_Model_ask_2 (x4 : Int32) (v_book : Nat → Int32) (v_rocks : Nat → Int32) (v_counts : Int32) (v_count : Nat → Int32) (x5 : Int32) (x6 : Int32) : Option ((Int32 × Int32) ⊕ (Int32)) :=
  if (64 : Int32) ≤ x6 then
    some (.inr x5)
  else
  (ev (fun s => b_Model_ask_3 x4 x6 v_book v_rocks v_counts v_count s.1 s.2) ((0 : Int32), (0 : Int32))).bind fun y7_21 =>
  if y7_21 ≤ x5 then
    some (.inl (x5, (x6 + 1)))
  else
  some (.inl (y7_21, (x6 + 1)))
noncomputable def b_Model_ask_1 (v_book : Nat → Int32) (v_rocks : Nat → Int32) (v_counts : Int32) (v_count : Nat → Int32) (x2 : Int32) (x3 : Int32) (x4 : Int32) : Option ((Int32 × Int32 × Int32) ⊕ (Int32 × Int32)) :=
  if (6 : Int32) ≤ x4 then
    some (.inr (x2, x3))
  else
  (ev (fun s => b_Model_ask_2 x4 v_book v_rocks v_counts v_count s.1 s.2) ((0 : Int32), (0 : Int32))).bind fun y5_25 =>
  if y5_25 ≤ 0 then
    if (0 : Int32) = 0 then
      if (0 : Int32) = 0 then
        some (.inl (x2, x3, (x4 + 1)))
      else
      some (.inl (x2, y5_25, (x4 + 1)))
    else
    if (0 : Int32) = 0 then
      some (.inl (x4, x3, (x4 + 1)))
    else
    some (.inl (x4, y5_25, (x4 + 1)))
  else
  if x3 ≤ y5_25 then
    if (0 : Int32) = 0 then
      if (0 : Int32) = 0 then
        some (.inl (x2, x3, (x4 + 1)))
      else
      some (.inl (x2, y5_25, (x4 + 1)))
    else
    if (0 : Int32) = 0 then
      some (.inl (x4, x3, (x4 + 1)))
    else
    some (.inl (x4, y5_25, (x4 + 1)))
  else
  if (1 : Int32) = 0 then
    if (1 : Int32) = 0 then
      some (.inl (x2, x3, (x4 + 1)))
    else
    some (.inl (x2, y5_25, (x4 + 1)))
  else
  if (1 : Int32) = 0 then
    some (.inl (x4, x3, (x4 + 1)))
  else
  some (.inl (x4, y5_25, (x4 + 1)))
noncomputable def f_Model_ask (v_book : Nat → Int32) (v_rocks : Nat → Int32) (v_counts : Int32) (v_count : Nat → Int32) (p1 : Int32) : Option (Int32) :=
  if (f_Model_in p1 (0 : Int32) (1 : Int32)) = 0 then
    some (-2 : Int32)
  else
  (ev (fun s => b_Model_ask_1 v_book v_rocks v_counts v_count s.1 s.2.1 s.2.2) ((-6 : Int32), (1000000 : Int32), (0 : Int32))).bind fun (y2_39, y3_39) =>
  if y2_39 < 0 then
    some y2_39
  else
  if p1 = 0 then
    some y2_39
  else
  some y3_39
/-- SealStraitModel.turning -/
noncomputable def b_Model_turning_2 (x4 : Int32) (v_words : Nat → Int32) (x5 : Int32) (x6 : Int32) : Option ((Int32 × Int32) ⊕ (Int32)) :=
  if (10 : Int32) ≤ x6 then
    some (.inr x5)
  else
  if (f_Model_has x4 x6) = 0 then
    some (.inl ((x5 - (0 : Int32)), (x6 + 1)))
  else
  if ix x6 10 = true then
  some (.inl ((x5 - (v_words (x6).toNatClampNeg)), (x6 + 1)))
  else none
noncomputable def b_Model_turning_3 (x4 : Int32) (x5 : Int32) (v_wins : Nat → Int32) (v_words : Nat → Int32) (x3 : Int32) (x6 : Int32) : Option ((Int32 × Int32) ⊕ (Int32)) :=
  if x6 < 0 then
    some (.inr x3)
  else
  if (f_Model_has x4 x6) = 0 then
    if ix x6 10 = true then
    if x5 < (v_words (x6).toNatClampNeg) then
      some (.inl (x3, (x6 + (-1))))
    else
    if ix (x4 ||| ((1 : Int32) <<< (x6 &&& 31))) 1024 = true then
    if (v_wins ((x4 ||| ((1 : Int32) <<< (x6 &&& 31)))).toNatClampNeg) = 0 then
      some (.inl (x6, (x6 + (-1))))
    else
    some (.inl (x3, (x6 + (-1))))
    else none
    else none
  else
  some (.inl (x3, (x6 + (-1))))
noncomputable def b_Model_turning_1 (x1 : Int32) (v_words : Nat → Int32) (x3 : Int32) (x4 : Int32) (v_wins : Nat → Int32) : Option ((Int32 × Int32 × (Nat → Int32)) ⊕ (Int32 × (Nat → Int32))) :=
  if x4 < 0 then
    some (.inr (x3, v_wins))
  else
  (ev (fun s => b_Model_turning_2 x4 v_words s.1 s.2) (x1, (0 : Int32))).bind fun y5_12 =>
  (ev (fun s => b_Model_turning_3 x4 y5_12 v_wins v_words s.1 s.2) ((-6 : Int32), (9 : Int32))).bind fun y3_23 =>
  if 0 ≤ y3_23 then
    if ix x4 1024 = true then
    some (.inl (y3_23, (x4 + (-1)), (upd v_wins (x4).toNatClampNeg (1 : Int32))))
    else none
  else
  if ix x4 1024 = true then
  some (.inl (y3_23, (x4 + (-1)), (upd v_wins (x4).toNatClampNeg (0 : Int32))))
  else none
noncomputable def f_Model_turning (v_words : Nat → Int32) (v_wins : Nat → Int32) (p1 : Int32) (p2 : Int32) : Option (Int32 × (Nat → Int32)) :=
  if (f_Model_in p1 (0 : Int32) (30 : Int32)) = 0 then
    some ((-2 : Int32), v_wins)
  else
  if (f_Model_in p2 (0 : Int32) (1 : Int32)) = 0 then
    some ((-2 : Int32), v_wins)
  else
  (ev (fun s => b_Model_turning_1 p1 v_words s.1 s.2.1 s.2.2) ((-6 : Int32), (1023 : Int32), v_wins)).bind fun (y3_29, z29_wins) =>
  if p2 = (1 : Int32) then
    some (y3_29, z29_wins)
  else
  some ((z29_wins ((0 : Int32)).toNatClampNeg), z29_wins)
/-- SealStraitModel.drift -/
noncomputable def b_Model_drift_1 (x2 : Int32) (x3 : Int32) (x4 : Int32) (x7 : Int64) (x9 : Int64) (x11 : Int64) (x13 : Int32) : Option ((Int64 × Int64 × Int64 × Int32) ⊕ (Int64 × Int64 × Int64)) :=
  if x4 ≤ x13 then
    some (.inr (x7, x9, x11))
  else
  some (.inl ((x7 * (10 : Int64)), (((x7 - x9) * (x2).toInt64) + (x9 * (((10 : Int32) - x3)).toInt64)), (((10 : Int64) * x11) + (((x7 - x9) * (x2).toInt64) + (x9 * (((10 : Int32) - x3)).toInt64))), (x13 + 1)))
noncomputable def f_Model_drift (p1 : Int32) (p2 : Int32) (p3 : Int32) (p4 : Int32) (p5 : Int32) (p6 : Int32) : Option (Int64) :=
  if (f_Model_in p1 (0 : Int32) (1 : Int32)) = 0 then
    some (-1000000000000000002 : Int64)
  else
  if (f_Model_in p2 (0 : Int32) (10 : Int32)) = 0 then
    some (-1000000000000000002 : Int64)
  else
  if (f_Model_in p3 (0 : Int32) (10 : Int32)) = 0 then
    some (-1000000000000000002 : Int64)
  else
  if (f_Model_in p5 (0 : Int32) (1 : Int32)) = 0 then
    some (-1000000000000000002 : Int64)
  else
  if p5 = 0 then
    if (f_Model_in p4 (0 : Int32) (17 : Int32)) = 0 then
      some (-1000000000000000002 : Int64)
    else
    if (f_Model_in p6 (0 : Int32) (1 : Int32)) = 0 then
      some (-1000000000000000002 : Int64)
    else
    (ev (fun s => b_Model_drift_1 p2 p3 p4 s.1 s.2.1 s.2.2.1 s.2.2.2) ((1 : Int64), (p1).toInt64, (0 : Int64), (0 : Int32))).bind fun (y7_28, y9_28, y11_28) =>
    if p5 = 0 then
      (f_Model_lowest y9_28 y7_28 p6).bind fun r34 =>
      some r34
    else
    (f_Model_lowest y11_28 y7_28 p6).bind fun r32 =>
    some r32
  else
  if (f_Model_in p4 (0 : Int32) (16 : Int32)) = 0 then
    some (-1000000000000000002 : Int64)
  else
  if (f_Model_in p6 (0 : Int32) (1 : Int32)) = 0 then
    some (-1000000000000000002 : Int64)
  else
  (ev (fun s => b_Model_drift_1 p2 p3 p4 s.1 s.2.1 s.2.2.1 s.2.2.2) ((1 : Int64), (p1).toInt64, (0 : Int64), (0 : Int32))).bind fun (y7_16, y9_16, y11_16) =>
  if p5 = 0 then
    (f_Model_lowest y9_16 y7_16 p6).bind fun r22 =>
    some r22
  else
  (f_Model_lowest y11_16 y7_16 p6).bind fun r20 =>
  some r20
/-- SealStraitModel.year -/
noncomputable def b_Model_year_1 (x2 : Int32) (v_moults : Nat → Int32) (v_words : Nat → Int32) (x4 : Int32) (x5 : Int32) (v_now : Nat → Int32) (v_readMany : Int32) (v_signedAll : Int32) (v_reason : Int32) : Option ((Int32 × Int32 × (Nat → Int32) × Int32 × Int32 × Int32) ⊕ ((Nat → Int32) × Int32 × Int32 × Int32)) :=
  if x2 ≤ x5 then
    some (.inr (v_now, v_readMany, v_signedAll, v_reason))
  else
  if (4 : Int32) ≤ (((((75 : Int32) * x4) + (74 : Int32)) - (((75 : Int32) * x4) + (74 : Int32)) / (65537 : Int32) * (65537 : Int32)) - ((((75 : Int32) * x4) + (74 : Int32)) - (((75 : Int32) * x4) + (74 : Int32)) / (65537 : Int32) * (65537 : Int32)) / (8 : Int32) * (8 : Int32)) then
    if (((((75 : Int32) * x4) + (74 : Int32)) - (((75 : Int32) * x4) + (74 : Int32)) / (65537 : Int32) * (65537 : Int32)) - ((((75 : Int32) * x4) + (74 : Int32)) - (((75 : Int32) * x4) + (74 : Int32)) / (65537 : Int32) * (65537 : Int32)) / (8 : Int32) * (8 : Int32)) = (4 : Int32) then
      (f_Model_whistle v_now ((((((75 : Int32) * x4) + (74 : Int32)) - (((75 : Int32) * x4) + (74 : Int32)) / (65537 : Int32) * (65537 : Int32)) / (8 : Int32)) - (((((75 : Int32) * x4) + (74 : Int32)) - (((75 : Int32) * x4) + (74 : Int32)) / (65537 : Int32) * (65537 : Int32)) / (8 : Int32)) / (6 : Int32) * (6 : Int32))).bind fun (r21, u21_now) =>
      some (.inl (((((75 : Int32) * x4) + (74 : Int32)) - (((75 : Int32) * x4) + (74 : Int32)) / (65537 : Int32) * (65537 : Int32)), (x5 + 1), u21_now, v_readMany, v_signedAll, r21))
    else
    if (((((75 : Int32) * x4) + (74 : Int32)) - (((75 : Int32) * x4) + (74 : Int32)) / (65537 : Int32) * (65537 : Int32)) - ((((75 : Int32) * x4) + (74 : Int32)) - (((75 : Int32) * x4) + (74 : Int32)) / (65537 : Int32) * (65537 : Int32)) / (8 : Int32) * (8 : Int32)) = (5 : Int32) then
      (f_Model_net v_now ((((((75 : Int32) * x4) + (74 : Int32)) - (((75 : Int32) * x4) + (74 : Int32)) / (65537 : Int32) * (65537 : Int32)) / (8 : Int32)) - (((((75 : Int32) * x4) + (74 : Int32)) - (((75 : Int32) * x4) + (74 : Int32)) / (65537 : Int32) * (65537 : Int32)) / (8 : Int32)) / (6 : Int32) * (6 : Int32))).bind fun (r19, u19_now) =>
      some (.inl (((((75 : Int32) * x4) + (74 : Int32)) - (((75 : Int32) * x4) + (74 : Int32)) / (65537 : Int32) * (65537 : Int32)), (x5 + 1), u19_now, v_readMany, v_signedAll, r19))
    else
    if (((((75 : Int32) * x4) + (74 : Int32)) - (((75 : Int32) * x4) + (74 : Int32)) / (65537 : Int32) * (65537 : Int32)) - ((((75 : Int32) * x4) + (74 : Int32)) - (((75 : Int32) * x4) + (74 : Int32)) / (65537 : Int32) * (65537 : Int32)) / (8 : Int32) * (8 : Int32)) = (6 : Int32) then
      (f_Model_join v_now ((((((75 : Int32) * x4) + (74 : Int32)) - (((75 : Int32) * x4) + (74 : Int32)) / (65537 : Int32) * (65537 : Int32)) / (8 : Int32)) - (((((75 : Int32) * x4) + (74 : Int32)) - (((75 : Int32) * x4) + (74 : Int32)) / (65537 : Int32) * (65537 : Int32)) / (8 : Int32)) / (6 : Int32) * (6 : Int32)) (((((((75 : Int32) * x4) + (74 : Int32)) - (((75 : Int32) * x4) + (74 : Int32)) / (65537 : Int32) * (65537 : Int32)) / (8 : Int32)) / (6 : Int32)) - ((((((75 : Int32) * x4) + (74 : Int32)) - (((75 : Int32) * x4) + (74 : Int32)) / (65537 : Int32) * (65537 : Int32)) / (8 : Int32)) / (6 : Int32)) / (6 : Int32) * (6 : Int32))).bind fun (r17, u17_now) =>
      some (.inl (((((75 : Int32) * x4) + (74 : Int32)) - (((75 : Int32) * x4) + (74 : Int32)) / (65537 : Int32) * (65537 : Int32)), (x5 + 1), u17_now, v_readMany, v_signedAll, r17))
    else
    (f_Model_endMonth v_now v_moults).bind fun (r15, u15_now) =>
    some (.inl (((((75 : Int32) * x4) + (74 : Int32)) - (((75 : Int32) * x4) + (74 : Int32)) / (65537 : Int32) * (65537 : Int32)), (x5 + 1), u15_now, v_readMany, v_signedAll, r15))
  else
  (f_Model_read v_now v_moults v_words v_readMany v_signedAll ((((((75 : Int32) * x4) + (74 : Int32)) - (((75 : Int32) * x4) + (74 : Int32)) / (65537 : Int32) * (65537 : Int32)) / (8 : Int32)) - (((((75 : Int32) * x4) + (74 : Int32)) - (((75 : Int32) * x4) + (74 : Int32)) / (65537 : Int32) * (65537 : Int32)) / (8 : Int32)) / (10 : Int32) * (10 : Int32))).bind fun (r23, u23_now, u23_readMany, u23_signedAll) =>
  some (.inl (((((75 : Int32) * x4) + (74 : Int32)) - (((75 : Int32) * x4) + (74 : Int32)) / (65537 : Int32) * (65537 : Int32)), (x5 + 1), u23_now, u23_readMany, u23_signedAll, r23))
noncomputable def b_Model_year_2 (v_now : Nat → Int32) (x5 : Int32) (x6 : Int32) : Option ((Int32 × Int32) ⊕ (Int32)) :=
  if (6 : Int32) ≤ x6 then
    some (.inr x5)
  else
  if (f_Model_stands v_now x6) = 0 then
    some (.inl ((x5 + (0 : Int32)), (x6 + 1)))
  else
  if ix ((12 : Int32) + x6) 21 = true then
  some (.inl ((x5 + (v_now (((12 : Int32) + x6)).toNatClampNeg)), (x6 + 1)))
  else none
noncomputable def f_Model_year (v_book : Nat → Int32) (v_now : Nat → Int32) (v_moults : Nat → Int32) (v_words : Nat → Int32) (v_readMany : Int32) (v_signedAll : Int32) (v_reason : Int32) (p1 : Int32) (p2 : Int32) (p3 : Int32) : Option (Int32 × (Nat → Int32) × Int32 × Int32 × Int32) :=
  if (f_Model_in p1 (0 : Int32) (9999 : Int32)) = 0 then
    some ((-2 : Int32), v_now, v_readMany, v_signedAll, v_reason)
  else
  if (f_Model_in p2 (1 : Int32) (99 : Int32)) = 0 then
    some ((-2 : Int32), v_now, v_readMany, v_signedAll, v_reason)
  else
  if (f_Model_in p3 (0 : Int32) (2 : Int32)) = 0 then
    some ((-2 : Int32), v_now, v_readMany, v_signedAll, v_reason)
  else
  (f_Model_asNow v_book v_now v_readMany v_signedAll).bind fun (u7_now, u7_readMany, u7_signedAll) =>
  (ev (fun s => b_Model_year_1 p2 v_moults v_words s.1 s.2.1 s.2.2.1 s.2.2.2.1 s.2.2.2.2.1 s.2.2.2.2.2) (p1, (0 : Int32), u7_now, u7_readMany, u7_signedAll, v_reason)).bind fun (z25_now, z25_readMany, z25_signedAll, z25_reason) =>
  (ev (fun s => b_Model_year_2 z25_now s.1 s.2) ((0 : Int32), (0 : Int32))).bind fun y5_33 =>
  if p3 = 0 then
    (f_Model_headsBeyond z25_now).bind fun r38 =>
    some (r38, z25_now, z25_readMany, z25_signedAll, z25_reason)
  else
  if p3 = (1 : Int32) then
    some ((z25_now ((19 : Int32)).toNatClampNeg), z25_now, z25_readMany, z25_signedAll, z25_reason)
  else
  some (y5_33, z25_now, z25_readMany, z25_signedAll, z25_reason)
/-- SealStraitModel.image -/
noncomputable def b_Model_image_1 (x2 : Int32) (v_book : Nat → Int32) (x3 : Int32) (v_image : Nat → Int32) : Option ((Int32 × (Nat → Int32)) ⊕ ((Nat → Int32))) :=
  if (21 : Int32) ≤ x3 then
    some (.inr v_image)
  else
  if ix x3 21 = true then
  if ix (x2 + x3) 160 = true then
  some (.inl ((x3 + 1), (upd v_image ((x2 + x3)).toNatClampNeg (v_book (x3).toNatClampNeg))))
  else none
  else none
noncomputable def b_Model_image_2 (x2 : Int32) (v_moults : Nat → Int32) (v_rocks : Nat → Int32) (x3 : Int32) (v_image : Nat → Int32) : Option ((Int32 × (Nat → Int32)) ⊕ ((Nat → Int32))) :=
  if (6 : Int32) ≤ x3 then
    some (.inr v_image)
  else
  if ix x3 6 = true then
  if ix ((x2 + (21 : Int32)) + x3) 160 = true then
  if ix x3 6 = true then
  if ix ((x2 + (27 : Int32)) + x3) 160 = true then
  some (.inl ((x3 + 1), (upd (upd v_image (((x2 + (21 : Int32)) + x3)).toNatClampNeg (v_moults (x3).toNatClampNeg)) (((x2 + (27 : Int32)) + x3)).toNatClampNeg (v_rocks (x3).toNatClampNeg))))
  else none
  else none
  else none
  else none
noncomputable def b_Model_image_3 (x2 : Int32) (v_words : Nat → Int32) (v_clashes : Nat → Int32) (x3 : Int32) (v_image : Nat → Int32) : Option ((Int32 × (Nat → Int32)) ⊕ ((Nat → Int32))) :=
  if (10 : Int32) ≤ x3 then
    some (.inr v_image)
  else
  if ix x3 10 = true then
  if ix ((x2 + (33 : Int32)) + x3) 160 = true then
  if ix x3 10 = true then
  if ix ((x2 + (43 : Int32)) + x3) 160 = true then
  some (.inl ((x3 + 1), (upd (upd v_image (((x2 + (33 : Int32)) + x3)).toNatClampNeg (v_words (x3).toNatClampNeg)) (((x2 + (43 : Int32)) + x3)).toNatClampNeg (v_clashes (x3).toNatClampNeg))))
  else none
  else none
  else none
  else none
noncomputable def b_Model_image_4 (x2 : Int32) (v_count : Nat → Int32) (x3 : Int32) (v_image : Nat → Int32) : Option ((Int32 × (Nat → Int32)) ⊕ ((Nat → Int32))) :=
  if (16 : Int32) ≤ x3 then
    some (.inr v_image)
  else
  if ix x3 16 = true then
  if ix ((x2 + (53 : Int32)) + x3) 160 = true then
  some (.inl ((x3 + 1), (upd v_image (((x2 + (53 : Int32)) + x3)).toNatClampNeg (v_count (x3).toNatClampNeg))))
  else none
  else none
noncomputable def f_Model_image (v_book : Nat → Int32) (v_moults : Nat → Int32) (v_words : Nat → Int32) (v_clashes : Nat → Int32) (v_rocks : Nat → Int32) (v_counts : Int32) (v_count : Nat → Int32) (v_image : Nat → Int32) (v_isKept : Nat → Int32) (p1 : Int32) : Option (Int32 × (Nat → Int32) × (Nat → Int32)) :=
  if (f_Model_in p1 (0 : Int32) (1 : Int32)) = 0 then
    some ((-2 : Int32), v_image, v_isKept)
  else
  (ev (fun s => b_Model_image_1 ((80 : Int32) * p1) v_book s.1 s.2) ((0 : Int32), v_image)).bind fun z7_image =>
  (ev (fun s => b_Model_image_2 ((80 : Int32) * p1) v_moults v_rocks s.1 s.2) ((0 : Int32), z7_image)).bind fun z16_image =>
  (ev (fun s => b_Model_image_3 ((80 : Int32) * p1) v_words v_clashes s.1 s.2) ((0 : Int32), z16_image)).bind fun z25_image =>
  (ev (fun s => b_Model_image_4 ((80 : Int32) * p1) v_count s.1 s.2) ((0 : Int32), z25_image)).bind fun z32_image =>
  if ix (((80 : Int32) * p1) + (70 : Int32)) 160 = true then
  if ix p1 2 = true then
  some ((1 : Int32), (upd z32_image ((((80 : Int32) * p1) + (70 : Int32))).toNatClampNeg v_counts), (upd v_isKept (p1).toNatClampNeg ((1 : Int32) &&& 1)))
  else none
  else none
/-- SealStraitModel.restore -/
noncomputable def b_Model_restore_1 (x2 : Int32) (v_image : Nat → Int32) (x3 : Int32) (v_book : Nat → Int32) : Option ((Int32 × (Nat → Int32)) ⊕ ((Nat → Int32))) :=
  if (21 : Int32) ≤ x3 then
    some (.inr v_book)
  else
  if ix (x2 + x3) 160 = true then
  if ix x3 21 = true then
  some (.inl ((x3 + 1), (upd v_book (x3).toNatClampNeg (v_image ((x2 + x3)).toNatClampNeg))))
  else none
  else none
noncomputable def b_Model_restore_2 (x2 : Int32) (v_image : Nat → Int32) (x3 : Int32) (v_moults : Nat → Int32) (v_rocks : Nat → Int32) : Option ((Int32 × (Nat → Int32) × (Nat → Int32)) ⊕ ((Nat → Int32) × (Nat → Int32))) :=
  if (6 : Int32) ≤ x3 then
    some (.inr (v_moults, v_rocks))
  else
  if ix ((x2 + (21 : Int32)) + x3) 160 = true then
  if ix x3 6 = true then
  if ix ((x2 + (27 : Int32)) + x3) 160 = true then
  if ix x3 6 = true then
  some (.inl ((x3 + 1), (upd v_moults (x3).toNatClampNeg (v_image (((x2 + (21 : Int32)) + x3)).toNatClampNeg)), (upd v_rocks (x3).toNatClampNeg (v_image (((x2 + (27 : Int32)) + x3)).toNatClampNeg))))
  else none
  else none
  else none
  else none
noncomputable def b_Model_restore_3 (x2 : Int32) (v_image : Nat → Int32) (x3 : Int32) (v_words : Nat → Int32) (v_clashes : Nat → Int32) : Option ((Int32 × (Nat → Int32) × (Nat → Int32)) ⊕ ((Nat → Int32) × (Nat → Int32))) :=
  if (10 : Int32) ≤ x3 then
    some (.inr (v_words, v_clashes))
  else
  if ix ((x2 + (33 : Int32)) + x3) 160 = true then
  if ix x3 10 = true then
  if ix ((x2 + (43 : Int32)) + x3) 160 = true then
  if ix x3 10 = true then
  some (.inl ((x3 + 1), (upd v_words (x3).toNatClampNeg (v_image (((x2 + (33 : Int32)) + x3)).toNatClampNeg)), (upd v_clashes (x3).toNatClampNeg (v_image (((x2 + (43 : Int32)) + x3)).toNatClampNeg))))
  else none
  else none
  else none
  else none
noncomputable def b_Model_restore_4 (x2 : Int32) (v_image : Nat → Int32) (x3 : Int32) (v_count : Nat → Int32) : Option ((Int32 × (Nat → Int32)) ⊕ ((Nat → Int32))) :=
  if (16 : Int32) ≤ x3 then
    some (.inr v_count)
  else
  if ix ((x2 + (53 : Int32)) + x3) 160 = true then
  if ix x3 16 = true then
  some (.inl ((x3 + 1), (upd v_count (x3).toNatClampNeg (v_image (((x2 + (53 : Int32)) + x3)).toNatClampNeg))))
  else none
  else none
noncomputable def f_Model_restore (v_book : Nat → Int32) (v_moults : Nat → Int32) (v_words : Nat → Int32) (v_clashes : Nat → Int32) (v_rocks : Nat → Int32) (v_counts : Int32) (v_count : Nat → Int32) (v_image : Nat → Int32) (v_isKept : Nat → Int32) (p1 : Int32) : Option (Int32 × (Nat → Int32) × (Nat → Int32) × (Nat → Int32) × (Nat → Int32) × (Nat → Int32) × Int32 × (Nat → Int32)) :=
  if (f_Model_in p1 (0 : Int32) (1 : Int32)) = 0 then
    some ((-2 : Int32), v_book, v_moults, v_words, v_clashes, v_rocks, v_counts, v_count)
  else
  if ix p1 2 = true then
  if (v_isKept (p1).toNatClampNeg) = 0 then
    some ((-3 : Int32), v_book, v_moults, v_words, v_clashes, v_rocks, v_counts, v_count)
  else
  (ev (fun s => b_Model_restore_1 ((80 : Int32) * p1) v_image s.1 s.2) ((0 : Int32), v_book)).bind fun z9_book =>
  (ev (fun s => b_Model_restore_2 ((80 : Int32) * p1) v_image s.1 s.2.1 s.2.2) ((0 : Int32), v_moults, v_rocks)).bind fun (z18_moults, z18_rocks) =>
  (ev (fun s => b_Model_restore_3 ((80 : Int32) * p1) v_image s.1 s.2.1 s.2.2) ((0 : Int32), v_words, v_clashes)).bind fun (z27_words, z27_clashes) =>
  (ev (fun s => b_Model_restore_4 ((80 : Int32) * p1) v_image s.1 s.2) ((0 : Int32), v_count)).bind fun z34_count =>
  if ix (((80 : Int32) * p1) + (70 : Int32)) 160 = true then
  some ((1 : Int32), z9_book, z18_moults, z27_words, z27_clashes, z18_rocks, (v_image ((((80 : Int32) * p1) + (70 : Int32))).toNatClampNeg), z34_count)
  else none
  else none
/-- SealStraitModel.told -/
noncomputable def f_Model_told (v_book : Nat → Int32) (v_moults : Nat → Int32) (v_words : Nat → Int32) (v_clashes : Nat → Int32) (v_rocks : Nat → Int32) (v_counts : Int32) (v_signs : Int32) (p1 : Int32) : Option (Int32) :=
  if p1 < (100 : Int32) then
    if p1 < (30 : Int32) then
      if p1 < (10 : Int32) then
        if p1 = (0 : Int32) then
          some v_signs
        else
        if p1 = (1 : Int32) then
          some (v_book ((18 : Int32)).toNatClampNeg)
        else
        if p1 = (2 : Int32) then
          some (v_book ((20 : Int32)).toNatClampNeg)
        else
        if p1 = (3 : Int32) then
          some (v_book ((19 : Int32)).toNatClampNeg)
        else
        if p1 = (4 : Int32) then
          some v_counts
        else
        some (-2 : Int32)
      else
      if (20 : Int32) ≤ p1 then
        if ix (p1 - (20 : Int32)) 10 = true then
        some (v_clashes ((p1 - (20 : Int32))).toNatClampNeg)
        else none
      else
      if ix (p1 - (10 : Int32)) 10 = true then
      some (v_words ((p1 - (10 : Int32))).toNatClampNeg)
      else none
    else
    if (f_Model_in p1 (30 : Int32) (35 : Int32)) = 0 then
      some (-2 : Int32)
    else
    if ix (p1 - (30 : Int32)) 6 = true then
    some (v_rocks ((p1 - (30 : Int32))).toNatClampNeg)
    else none
  else
  if (f_Model_isThere v_book ((p1 / (10 : Int32)) - (10 : Int32))) = 0 then
    some (-2 : Int32)
  else
  if (p1 - p1 / (10 : Int32) * (10 : Int32)) ≤ (3 : Int32) then
    if (p1 - p1 / (10 : Int32) * (10 : Int32)) = (3 : Int32) then
      if ix ((p1 / (10 : Int32)) - (10 : Int32)) 6 = true then
      some (v_moults (((p1 / (10 : Int32)) - (10 : Int32))).toNatClampNeg)
      else none
    else
    if ix (((6 : Int32) * (p1 - p1 / (10 : Int32) * (10 : Int32))) + ((p1 / (10 : Int32)) - (10 : Int32))) 21 = true then
    some (v_book ((((6 : Int32) * (p1 - p1 / (10 : Int32) * (10 : Int32))) + ((p1 / (10 : Int32)) - (10 : Int32)))).toNatClampNeg)
    else none
  else
  some (-2 : Int32)
