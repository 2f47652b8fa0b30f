/-! pure rows: bring -/
def bh (v w : Nat) (l : Bool) : Nat := if l = true ∧ w ≤ v % 10 then (1 - v / 10) * 10 + v % 10 - w else v / 10 * 10 + min (v % 10 + 1) 9
def mh (v w : Nat) (l : Bool) : Int32 := if l = true then (if (nI v - nI v / 10 * 10) < nI w then (if 9 ≤ (nI v - nI v / 10 * 10) then nI v else nI v + 1) else 10 - nI v / 10 * 10 + (nI v - nI v / 10 * 10) - nI w) else (if 9 ≤ (nI v - nI v / 10 * 10) then nI v else nI v + 1)
theorem bh_ev : ∀ v : Nat, v < 20 → ∀ w : Nat, w < 10 → 1 ≤ w → ∀ l : Bool, f_Bringing_behindReading (nI v) (nI w) (if l = true then 1 else 0) = nI (bh v w l) ∧ mh v w l = nI (bh v w l) ∧ bh v w l < 20 := by decide +kernel
theorem heard_ev {t mon lost : Int32} {hd sd md mt mt2 wd wd2 now : Nat → Int32} (hr : rSea t mon lost hd sd md now) (hm : eqn 6 mt mt2) (hw : eqn 10 wd wd2) {h c w : Nat} (hh : h < 6) (hc : c < 10) (hT : thr t h = true) (hwc : wd c = nI w) (v : Nat) : f_Model_heard now mt2 wd2 (nI h) (nI v) (nI c) = some (mh v w (lis t mon hd mt h)) := by
  unfold f_Model_heard mh lis
  obtain ⟨r1, r2, r3, r4⟩ := hr
  obtain ⟨a1, a2, a3⟩ := r1 h hh
  rw [show ((20 : Int32).toNatClampNeg) = 20 from rfl, r4]
  simp only [ix_t (show h < 6 by omega) (by decide), ix_t (show h < 21 by omega) (by decide), ix_t (show c < 10 by omega) (by decide), if_true, cl_n (show h < 2 ^ 31 by omega), cl_n (show c < 2 ^ 31 by omega), a1, ← hm h hh, ← hw c hc, hwc, one_ne, if_false, hT, Bool.true_and]
  by_cases c2 : mt h = mon - mon / 12 * 12
  · have c2' : mon - mon / 12 * 12 = mt h := c2.symm
    rw [if_pos c2', show (decide (0 < hd h) && !decide (mt h = mon - mon / 12 * 12)) = false by rw [decide_eq_true c2]; simp]
    simp only [Bool.false_eq_true, if_false]
    by_cases h9 : 9 ≤ nI v - nI v / 10 * 10
    · rw [if_pos h9, if_pos h9]
    · rw [if_neg h9, if_neg h9]
  · have c2' : ¬ mon - mon / 12 * 12 = mt h := fun z => c2 z.symm
    rw [if_neg c2']
    by_cases c3 : hd h ≤ 0
    · rw [if_pos c3, show (decide (0 < hd h) && !decide (mt h = mon - mon / 12 * 12)) = false by rw [decide_eq_false (show ¬ 0 < hd h by rw [← nle0]; exact fun z => z c3)]; simp]
      simp only [Bool.false_eq_true, if_false]
      by_cases h9 : 9 ≤ nI v - nI v / 10 * 10
      · rw [if_pos h9, if_pos h9]
      · rw [if_neg h9, if_neg h9]
    · rw [if_neg c3, show (decide (0 < hd h) && !decide (mt h = mon - mon / 12 * 12)) = true by rw [decide_eq_true ((nle0 _).mp c3), decide_eq_false c2]; rfl]
      simp only [if_true]
      by_cases c4 : nI v - nI v / 10 * 10 < nI w
      · rw [if_pos c4, if_pos c4]
        by_cases h9 : 9 ≤ nI v - nI v / 10 * 10
        · rw [if_pos h9, if_pos h9]
        · rw [if_neg h9, if_neg h9]
      · rw [if_neg c4, if_neg c4]
/-- a place of 400 as both sides know it -/
def bR (st fi re : Nat → Int32) (B p : Nat) : Prop := (st p = -6 ∧ re p = -1) ∨ (∃ s, s ≤ B ∧ st p = nI s ∧ ((s = 0 ∧ fi p = -6 ∧ re p = 0) ∨ (1 ≤ s ∧ ∃ f, f < 10 ∧ fi p = nI f ∧ re p = nI (10 * s + f))))
def bI (st fi qu re qu2 : Nat → Int32) (B n : Nat) : Prop := (∀ p, p < 400 → bR st fi re B p) ∧ (∀ j, j < n → ∃ q, q < 400 ∧ qu j = nI q ∧ qu2 j = nI q ∧ ¬ st q = -6) ∧ cN (fun p => !decide (st p = -6)) 400 = n
theorem bR.up {st fi re : Nat → Int32} {B p : Nat} (h : bR st fi re B p) : bR st fi re (B + 1) p := by
  rcases h with h | ⟨s, h1, h2⟩
  · exact Or.inl h
  · exact Or.inr ⟨s, by omega, h2⟩
theorem cN_lt {F : Nat → Bool} {p : Nat} (h : F p = false) : ∀ K, p < K → cN F K < K := by
  intro K
  induction K with
  | zero => intro h; omega
  | succ K ih =>
    intro hp
    rw [cN]
    by_cases hK : p = K
    · subst hK
      rw [if_neg (by rw [h]; decide)]
      have := cN_le F p; omega
    · have := ih (by omega)
      split <;> omega
theorem cN_cong {F G : Nat → Bool} : ∀ K, (∀ j, j < K → F j = G j) → cN F K = cN G K := by
  intro K
  induction K with
  | zero => intro _; rfl
  | succ K ih => intro h; rw [cN, cN, ih (fun j hj => h j (by omega)), h K (by omega)]
theorem cN_one {F G : Nat → Bool} {p : Nat} (h : F p = false) (hG : G p = true) (hj : ∀ j, j ≠ p → G j = F j) : ∀ K, p < K → cN G K = cN F K + 1 := by
  intro K
  induction K with
  | zero => intro h; omega
  | succ K ih =>
    intro hp
    rw [cN, cN]
    by_cases hK : p = K
    · subst hK
      rw [if_pos hG, if_neg (by rw [h]; decide), cN_cong p (fun j hjp => hj j (by omega))]
    · rw [ih (by omega), hj K (fun z => hK z.symm)]
      split <;> omega
/-- where a place leads from: how far it is, and by which CLAUSE first -/
def bS (s : Nat) (f0 r0 : Int32) : Prop := (s = 0 ∧ f0 = -6 ∧ r0 = 0) ∨ (1 ≤ s ∧ ∃ f, f < 10 ∧ f0 = nI f ∧ r0 = nI (10 * s + f))
theorem bR.neg {st fi re : Nat → Int32} {B p : Nat} (hB : B ≤ 1000) (h : bR st fi re B p) : (st p = -6 → re p = -1) ∧ (¬ st p = -6 → 0 ≤ re p) := by
  rcases h with h | ⟨s', a1, a2, a3⟩
  · exact ⟨fun _ => h.2, fun z => absurd h.1 z⟩
  · refine ⟨fun z => ?_, fun _ => ?_⟩
    · rw [a2] at z; exact absurd z (nI_n6 (by omega))
    · rcases a3 with ⟨_, _, z⟩ | ⟨_, f, f1, _, z⟩
      · rw [z]; decide
      · rw [z]; exact nI_pos' (by omega)
theorem reach_ev {st fi qu re qu2 : Nat → Int32} {B n p s f : Nat} (hB : B ≤ 1000) (hI : bI st fi qu re qu2 B n) (hp : p < 400) (hs : 1 ≤ s) (hsB : s ≤ B) (hf : f < 10) : (0 ≤ re p ∧ f_Bringing_reach st fi qu (nI n) (nI p) (nI s) (nI f) = some (st, fi, qu, nI n)) ∨ (¬ 0 ≤ re p ∧ n < 400 ∧ f_Bringing_reach st fi qu (nI n) (nI p) (nI s) (nI f) = some (upd st p (nI s), upd fi p (nI f), upd qu n (nI p), nI (n + 1)) ∧ bI (upd st p (nI s)) (upd fi p (nI f)) (upd qu n (nI p)) (upd re p (nI (10 * s + f))) (upd qu2 n (nI p)) B (n + 1)) := by
  obtain ⟨h1, h2, h3⟩ := hI
  have hin : f_Strait_within (nI p) 0 399 = 1 := win1 (a := 0) (b := 399) (by omega) (by omega) (by decide)
  have hneg := (h1 p hp).neg hB
  unfold f_Bringing_reach
  rw [hin, if_neg one_ne]
  by_cases hst : st p = -6
  · have hre := hneg.1 hst
    have hn := cN_lt (F := fun p => !decide (st p = -6)) (p := p) (by simp [hst]) 400 hp
    rw [h3] at hn
    refine Or.inr ⟨by rw [hre]; decide, hn, ?_, ?_, ?_, ?_⟩
    · rw [if_neg (lge (L := 400) (N := 400) rfl hn (by decide)), if_pos (ix_t hp (by decide)), cl_n (show p < 2 ^ 31 by omega), if_pos hst, if_pos (ix_t hp (by decide)), if_pos (ix_t hp (by decide)), if_pos (ix_t hn (by decide)), cl_n (show n < 2 ^ 31 by omega), nI_1]
    · intro q hq
      by_cases hqp : q = p
      · subst hqp
        exact Or.inr ⟨s, hsB, by rw [up_s], Or.inr ⟨hs, f, hf, by rw [up_s], by rw [up_s]⟩⟩
      · unfold bR
        rw [up_n hqp, up_n hqp, up_n hqp]
        exact h1 q hq
    · intro j hj
      by_cases hjn : j = n
      · subst hjn
        exact ⟨p, hp, by rw [up_s], by rw [up_s], by rw [up_s]; exact nI_n6 (by omega)⟩
      · obtain ⟨q, q1, q2, q3, q4⟩ := h2 j (by omega)
        refine ⟨q, q1, by rw [up_n hjn]; exact q2, by rw [up_n hjn]; exact q3, ?_⟩
        rw [up_n (fun z => q4 (by rw [z]; exact hst))]
        exact q4
    · rw [cN_one (F := fun p => !decide (st p = -6)) (p := p) (by simp [hst]) (by rw [up_s]; simp [nI_n6 (show s < 2 ^ 31 by omega)]) (fun j hj => by rw [up_n hj]) 400 hp, h3]
  · refine Or.inl ⟨hneg.2 hst, ?_⟩
    by_cases h4 : (400 : Int32) ≤ nI n
    · rw [if_pos h4]
    · rw [if_neg h4, if_pos (ix_t hp (by decide)), cl_n (by omega), if_neg hst]
theorem go_ev {t mon lost : Int32} {hd sd md mt mt2 wd wd2 now : Nat → Int32} (hr : rSea t mon lost hd sd md now) (hm : eqn 6 mt mt2) (hw : eqn 10 wd wd2) (hwd : bnd 10 wd 1 9) {h1 h3 q s B : Nat} (k1 : h1 < 6) (k3 : h3 < 6) (T1 : thr t h1 = true) (T3 : thr t h3 = true) (hq : q < 400) (hB : B ≤ 1000) (hsB : s + 1 ≤ B) {f0 r0 : Int32} (hS : bS s f0 r0) : ∀ d c st fi qu re qu2 n, c + d = 10 → bI st fi qu re qu2 B n → ∃ st' fi' qu' re' qu2' n', ev (fun z : Int32 × (Nat → Int32) × (Nat → Int32) × (Nat → Int32) × Int32 => b_Bringing_goOnFrom_1 (nI q) (nI (s + 1)) f0 (if lis t mon hd mt h1 = true then 1 else 0) (if lis t mon hd mt h3 = true then 1 else 0) wd z.1 z.2.1 z.2.2.1 z.2.2.2.1 z.2.2.2.2) (nI c, st, fi, qu, nI n) = some (st', fi', qu', nI n') ∧ ev (fun z : Int32 × Int32 × (Nat → Int32) × (Nat → Int32) => b_Model_bring_3 (nI h1) (nI h3) (nI q) r0 now mt2 wd2 z.1 z.2.1 z.2.2.1 z.2.2.2) (nI n, nI c, re, qu2) = some (nI n', re', qu2') ∧ bI st' fi' qu' re' qu2' B n' := by
  intro d
  induction d with
  | zero =>
    intro c st fi qu re qu2 n hc hI
    have : c = 10 := by omega
    subst this
    refine ⟨st, fi, qu, re, qu2, n, ev_inr ?_, ev_inr ?_, hI⟩
    · show b_Bringing_goOnFrom_1 _ _ _ _ _ wd (nI 10) st fi qu (nI n) = _
      unfold b_Bringing_goOnFrom_1
      rw [if_pos (lle (L := 10) (N := 10) rfl)]
    · show b_Model_bring_3 _ _ _ _ now mt2 wd2 (nI n) (nI 10) re qu2 = _
      unfold b_Model_bring_3
      rw [if_pos (lle (L := 10) (N := 10) rfl)]
  | succ d ih =>
    intro c st fi qu re qu2 n hc hI
    have hc10 : c < 10 := by omega
    obtain ⟨w, w1, w9, hwc⟩ := hwd c hc10
    have hv1 : q / 20 < 20 := by omega
    have hv2 : q % 20 < 20 := by omega
    obtain ⟨x1, x2, x3⟩ := bh_ev (q / 20) hv1 w (by omega) w1 (lis t mon hd mt h1)
    obtain ⟨y1, y2, y3⟩ := bh_ev (q % 20) hv2 w (by omega) w1 (lis t mon hd mt h3)
    have e1 := heard_ev hr hm hw k1 hc10 T1 hwc (q / 20)
    have e3 := heard_ev hr hm hw k3 hc10 T3 hwc (q % 20)
    rw [x2] at e1
    rw [y2] at e3
    generalize bh (q / 20) w (lis t mon hd mt h1) = a at x1 x3 e1
    generalize bh (q % 20) w (lis t mon hd mt h3) = b at y1 y3 e3
    have hp : 20 * a + b < 400 := by omega
    have d20 : nI q / 20 = nI (q / 20) := div_n (D := 20) (d := 20) rfl (by omega) (by decide) (by decide)
    have m20 : nI q - nI q / 20 * 20 = nI (q % 20) := rem_n (D := 20) (d := 20) rfl (by omega) (by decide) (by decide)
    have pl : nI a * 20 + nI b = nI (20 * a + b) := by rw [show (20 : Int32) = nI 20 from rfl, pk_mul, nI_add, Nat.mul_comm]
    have pl2 : (20 : Int32) * nI a + nI b = nI (20 * a + b) := by rw [show (20 : Int32) = nI 20 from rfl, pk_mul, nI_add]
    -- the CLAUSE that is first, and the reference's number
    obtain ⟨f, hf, hX, hM⟩ : ∃ f, f < 10 ∧ (∀ g : (Nat → Int32) × (Nat → Int32) × (Nat → Int32) × Int32 → Option ((Int32 × (Nat → Int32) × (Nat → Int32) × (Nat → Int32) × Int32) ⊕ ((Nat → Int32) × (Nat → Int32) × (Nat → Int32) × Int32)), (if f0 = -6 then (f_Bringing_reach st fi qu (nI n) (nI (20 * a + b)) (nI (s + 1)) (nI c)).bind g else (f_Bringing_reach st fi qu (nI n) (nI (20 * a + b)) (nI (s + 1)) f0).bind g) = (f_Bringing_reach st fi qu (nI n) (nI (20 * a + b)) (nI (s + 1)) (nI f)).bind g) ∧ (((10 : Int32) ≤ r0 ∧ (10 : Int32) * (r0 / 10 + 1) + (r0 - r0 / 10 * 10) = nI (10 * (s + 1) + f)) ∨ (¬ (10 : Int32) ≤ r0 ∧ (10 : Int32) * (r0 / 10 + 1) + nI c = nI (10 * (s + 1) + f))) := by
      rcases hS with ⟨rfl, rfl, rfl⟩ | ⟨s1, f, f1, rfl, rfl⟩
      · refine ⟨c, hc10, fun g => if_pos rfl, Or.inr ⟨by decide, ?_⟩⟩
        rw [show (10 : Int32) * (0 / 10 + 1) = nI 10 from by decide, nI_add]
      · refine ⟨f, f1, fun g => if_neg (nI_n6 (by omega)), Or.inl ⟨?_, ?_⟩⟩
        · exact nI_le (a := 10) (by omega) (by omega)
        · rw [rem_n (D := 10) (d := 10) rfl (by omega) (by decide) (by decide), div_n (D := 10) (d := 10) rfl (by omega) (by decide) (by decide), nI_1, show (10 : Int32) = nI 10 from rfl, pk_mul, nI_add]
          congr 1
          omega
    have hx : b_Bringing_goOnFrom_1 (nI q) (nI (s + 1)) f0 (if lis t mon hd mt h1 = true then 1 else 0) (if lis t mon hd mt h3 = true then 1 else 0) wd (nI c) st fi qu (nI n) = (f_Bringing_reach st fi qu (nI n) (nI (20 * a + b)) (nI (s + 1)) (nI f)).bind (fun u => some (.inl (nI (c + 1), u.1, u.2.1, u.2.2.1, u.2.2.2))) := by
      unfold b_Bringing_goOnFrom_1
      rw [if_neg (lge (L := 10) rfl hc10 (by decide)), wordsOf_ev wd hc10, Option.bind_some, m20, d20, hwc, x1, y1, pl, nI_1]
      exact hX _
    rcases reach_ev hB hI hp (show 1 ≤ s + 1 by omega) hsB hf with ⟨g1, g2⟩ | ⟨g1, g2, g3, g4⟩
    · obtain ⟨st', fi', qu', re', qu2', n', i1, i2, i3⟩ := ih (c + 1) st fi qu re qu2 n (by omega) hI
      refine ⟨st', fi', qu', re', qu2', n', ?_, ?_, i3⟩
      · rw [← i1]
        refine ev_inl ?_
        show b_Bringing_goOnFrom_1 (nI q) (nI (s + 1)) f0 _ _ wd (nI c) st fi qu (nI n) = _
        rw [hx, g2]; rfl
      · rw [← i2]
        refine ev_inl ?_
        show b_Model_bring_3 (nI h1) (nI h3) (nI q) r0 now mt2 wd2 (nI n) (nI c) re qu2 = _
        unfold b_Model_bring_3
        rw [if_neg (lge (L := 10) rfl hc10 (by decide)), m20, d20, e1, Option.bind_some, e3, Option.bind_some, pl2, if_pos (ix_t hp (by decide)), cl_n (by omega), if_pos g1, nI_1]
    · obtain ⟨st', fi', qu', re', qu2', n', i1, i2, i3⟩ := ih (c + 1) _ _ _ _ _ (n + 1) (by omega) g4
      refine ⟨st', fi', qu', re', qu2', n', ?_, ?_, i3⟩
      · rw [← i1]
        refine ev_inl ?_
        show b_Bringing_goOnFrom_1 (nI q) (nI (s + 1)) f0 _ _ wd (nI c) st fi qu (nI n) = _
        rw [hx, g3]; rfl
      · rw [← i2]
        refine ev_inl ?_
        show b_Model_bring_3 (nI h1) (nI h3) (nI q) r0 now mt2 wd2 (nI n) (nI c) re qu2 = _
        unfold b_Model_bring_3
        rw [if_neg (lge (L := 10) rfl hc10 (by decide)), m20, d20, e1, Option.bind_some, e3, Option.bind_some, pl2, if_pos (ix_t hp (by decide)), cl_n (by omega), if_neg g1, if_pos (ix_t hp (by decide)), if_pos (ix_t hp (by decide)), if_pos (ix_t g2 (by decide)), if_pos (ix_t g2 (by decide)), cl_n (show n < 2 ^ 31 by omega), nI_1, nI_1]
        rcases hM with ⟨m1, m2⟩ | ⟨m1, m2⟩
        · rw [if_pos m1, m2]
        · rw [if_neg m1, m2]
