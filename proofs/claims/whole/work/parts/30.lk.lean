/-! rules for the law: worlds of a front and a tail, calls that change the front alone, the script -/
theorem va_P_iff {D : va_G} {cl : List vw_C} {ws : va_W} {H : Heap} : va_P D cl ws H ↔ ∀ q ∈ ws, va_at D cl q H :=
  ⟨fun h q hq => by obtain ⟨k, hk⟩ := List.getElem?_of_mem hq; exact h k q hk, fun h k q hk => h q (List.mem_of_getElem? hk)⟩
theorem va_D_iff {A : Nat → Prop} {ws : va_W} : va_D A ws ↔ (ws.map Prod.fst).Nodup ∧ ∀ q ∈ ws, A q.1 := by
  constructor
  · intro h
    refine ⟨List.pairwise_iff_getElem.mpr ?_, fun q hq => ?_⟩
    · intro i j hi hj hij e
      rw [List.getElem_map, List.getElem_map] at e
      have hi' : i < ws.length := by simpa using hi
      have hj' : j < ws.length := by simpa using hj
      have := h.1 i j _ _ (List.getElem?_eq_getElem hi') (List.getElem?_eq_getElem hj') e
      omega
    · obtain ⟨k, hk⟩ := List.getElem?_of_mem hq
      exact h.2 k q hk
  · intro h
    refine ⟨fun i j p q hi hj e => ?_, fun k q hk => h.2 q (List.mem_of_getElem? hk)⟩
    obtain ⟨hi1, hi2⟩ := List.getElem?_eq_some_iff.mp hi
    obtain ⟨hj1, hj2⟩ := List.getElem?_eq_some_iff.mp hj
    have hp := List.pairwise_iff_getElem.mp h.1
    rcases Nat.lt_trichotomy i j with z | z | z
    · exact absurd (by rw [List.getElem_map, List.getElem_map, hi2, hj2]; exact e) (hp i j (by simpa using hi1) (by simpa using hj1) z)
    · exact z
    · exact absurd (by rw [List.getElem_map, List.getElem_map, hi2, hj2]; exact e.symm) (hp j i (by simpa using hj1) (by simpa using hi1) z)
/-- the place of a number in a list -/
def fIdx : List Nat → Nat → Nat → Option Nat
  | [], _, _ => none
  | i :: is, k, j => match Nat.beq i k with
    | true => some j
    | false => fIdx is k (j + 1)
theorem fIdx_some : ∀ {is : List Nat} {k j0 j : Nat}, fIdx is k j0 = some j → ∃ t, j = j0 + t ∧ is[t]? = some k := by
  intro is
  induction is with
  | nil => intro k j0 j h; cases h
  | cons i is ih =>
    intro k j0 j h
    unfold fIdx at h
    cases hb : Nat.beq i k with
    | true =>
      rw [hb] at h
      cases h
      exact ⟨0, rfl, by rw [Nat.eq_of_beq_eq_true hb]; rfl⟩
    | false =>
      rw [hb] at h
      obtain ⟨t, h1, h2⟩ := ih h
      exact ⟨t + 1, by omega, h2⟩
theorem fIdx_none : ∀ {is : List Nat} {k j0 : Nat}, fIdx is k j0 = none → k ∉ is := by
  intro is
  induction is with
  | nil => intro k j0 _ h; cases h
  | cons i is ih =>
    intro k j0 h hm
    unfold fIdx at h
    cases hb : Nat.beq i k with
    | true => rw [hb] at h; cases h
    | false =>
      rw [hb] at h
      rcases List.mem_cons.mp hm with z | z
      · rw [← z] at hb
        have : Nat.beq k k = true := Nat.beq_refl k
        rw [this] at hb
        cases hb
      · exact ih h z
/-- a front behind a call: the cells at the places isC are the call's, the others stay -/
def updC (isC : List Nat) (w1 : va_W) : Nat → va_W → va_W
  | _, [] => []
  | k, q :: ws => (match fIdx isC k 0 with
    | some j => (w1[j]?).getD q
    | none => q) :: updC isC w1 (k + 1) ws
theorem updC_get (isC : List Nat) (w1 : va_W) : ∀ (ws : va_W) (k0 k : Nat) (q1 : Nat × va_E), (updC isC w1 k0 ws)[k]? = some q1 → ∃ q, ws[k]? = some q ∧ q1 = (match fIdx isC (k0 + k) 0 with
    | some j => (w1[j]?).getD q
    | none => q) := by
  intro ws
  induction ws with
  | nil => intro k0 k q1 h; simp [updC] at h
  | cons q ws ih =>
    intro k0 k q1 h
    cases k with
    | zero =>
      refine ⟨q, rfl, ?_⟩
      have h2 : some (match fIdx isC k0 0 with | some j => (w1[j]?).getD q | none => q) = some q1 := h
      exact (Option.some.inj h2).symm
    | succ k =>
      have h2 : (updC isC w1 (k0 + 1) ws)[k]? = some q1 := h
      obtain ⟨q2, h3, h4⟩ := ih (k0 + 1) k q1 h2
      refine ⟨q2, h3, ?_⟩
      rw [show k0 + (k + 1) = k0 + 1 + k by omega]
      exact h4
theorem updC_len (isC : List Nat) (w1 : va_W) : ∀ (ws : va_W) (k0 : Nat), (updC isC w1 k0 ws).length = ws.length := by
  intro ws
  induction ws with
  | nil => intro k0; rfl
  | cons q ws ih => intro k0; simp [updC, ih]
theorem mapApp {wf : va_W} (wt : va_W) : ∀ {isC : List Nat} {wc : va_W}, isC.map (fun i => wf[i]?) = wc.map some → isC.map (fun i => (wf ++ wt)[i]?) = wc.map some := by
  intro isC
  induction isC with
  | nil => intro wc h; exact h
  | cons i is ih =>
    intro wc h
    cases wc with
    | nil => cases h
    | cons q wc =>
      simp only [List.map_cons, List.cons.injEq] at h ⊢
      refine ⟨?_, ih h.2⟩
      rw [List.getElem?_append_left (List.getElem?_eq_some_iff.mp h.1).1]
      exact h.1
theorem wjoin {A : Nat → Prop} {D : va_G} {wf wt wc w1 wn : va_W} {H H1 : Heap} (isC : List Nat) (hC : isC.map (fun i => wf[i]?) = wc.map some) (hw : w1.map Prod.fst = wc.map Prod.fst) (h2 : va_P D vwCl (wf ++ wt) H) (h3 : va_D A (wf ++ wt)) (hF : ∀ q, va_A wc H.size q → A q) (hk1 : ∀ q : Nat, q < H.size → ¬ va_A wc H.size q → H1[q]? = H[q]?) (hP : va_P D vwCl (w1 ++ wn) H1) (hD : va_D (va_A wc H.size) (w1 ++ wn)) : va_P D vwCl ((updC isC w1 0 wf ++ wt) ++ wn) H1 ∧ va_D A ((updC isC w1 0 wf ++ wt) ++ wn) := by
  have at1 : ∀ (j : Nat) (q : Nat × va_E), wc[j]? = some q → ∃ i, isC[j]? = some i ∧ wf[i]? = some q := by
    intro j q hq
    have h1 : (isC.map (fun i => wf[i]?))[j]? = some (some q) := by rw [hC, List.getElem?_map, hq]; rfl
    rw [List.getElem?_map] at h1
    cases hi : isC[j]? with
    | none => rw [hi] at h1; cases h1
    | some i => rw [hi] at h1; exact ⟨i, rfl, Option.some.inj h1⟩
  have at2 : ∀ (j i : Nat), isC[j]? = some i → ∃ q, wc[j]? = some q ∧ wf[i]? = some q := by
    intro j i hi
    have h1 : (wc.map some)[j]? = some (wf[i]?) := by rw [← hC, List.getElem?_map, hi]; rfl
    rw [List.getElem?_map] at h1
    cases hq : wc[j]? with
    | none => rw [hq] at h1; cases h1
    | some q => rw [hq] at h1; exact ⟨q, rfl, (Option.some.inj h1).symm⟩
  have cl1 : ∀ (k : Nat) (q1 : Nat × va_E), (updC isC w1 0 wf)[k]? = some q1 → ∃ q, wf[k]? = some q ∧ q1.1 = q.1 ∧ (q1 ∈ w1 ∨ (q1 = q ∧ k ∉ isC)) := by
    intro k q1 hk
    obtain ⟨q, hq, e⟩ := updC_get isC w1 wf 0 k q1 hk
    rw [Nat.zero_add] at e
    cases hf : fIdx isC k 0 with
    | none =>
      rw [hf] at e
      exact ⟨q, hq, by rw [e], Or.inr ⟨e, fIdx_none hf⟩⟩
    | some j =>
      rw [hf] at e
      obtain ⟨t, e1, e2⟩ := fIdx_some hf
      rw [Nat.zero_add] at e1
      subst e1
      obtain ⟨q0, g1, g2⟩ := at2 j k e2
      have e3 : q0 = q := Option.some.inj (g2.symm.trans hq)
      subst e3
      have g3 : (w1.map Prod.fst)[j]? = some q0.1 := by rw [hw, List.getElem?_map, g1]; rfl
      rw [List.getElem?_map] at g3
      cases g4 : w1[j]? with
      | none => rw [g4] at g3; cases g3
      | some q2 =>
        rw [g4] at g3
        have e4 : q1 = q2 := by
          rw [e]
          show (w1[j]?).getD q0 = q2
          rw [g4]
          rfl
        subst e4
        exact ⟨q0, hq, Option.some.inj g3, Or.inl (List.mem_of_getElem? g4)⟩
  have cl2 : ∀ (k : Nat) (q : Nat × va_E), (wf ++ wt)[k]? = some q → k ∉ isC → ¬ va_A wc H.size q.1 := by
    intro k q hk hn h
    rcases h with ⟨j, ee, h⟩ | h
    · obtain ⟨i, hi, hwf⟩ := at1 j _ h
      have hl := (List.getElem?_eq_some_iff.mp hwf).1
      have e1 : k = i := h3.1 k i q (q.1, ee) hk (by rw [List.getElem?_append_left hl]; exact hwf) rfl
      exact hn (by rw [e1]; exact List.mem_of_getElem? hi)
    · exact absurd ((h2 k q hk).lt) (Nat.not_lt.mpr h)
  have cl3 : ∀ i ∈ isC, i < wf.length := by
    intro i hi
    obtain ⟨j, hj⟩ := List.getElem?_of_mem hi
    obtain ⟨q, -, g⟩ := at2 j i hj
    exact (List.getElem?_eq_some_iff.mp g).1
  have hadr : (updC isC w1 0 wf).map Prod.fst = wf.map Prod.fst := by
    apply List.ext_getElem
    · simp [updC_len]
    · intro k hk1' hk2'
      rw [List.getElem_map, List.getElem_map]
      have hl : k < (updC isC w1 0 wf).length := by simpa using hk1'
      obtain ⟨q, g1, g2, -⟩ := cl1 k _ (List.getElem?_eq_getElem hl)
      rw [g2]
      obtain ⟨g3, g4⟩ := List.getElem?_eq_some_iff.mp g1
      rw [g4]
  constructor
  · refine va_P_iff.mpr fun q1 hq1 => ?_
    rcases List.mem_append.mp hq1 with hq2 | hq2
    · rcases List.mem_append.mp hq2 with hq3 | hq3
      · obtain ⟨k, hk⟩ := List.getElem?_of_mem hq3
        obtain ⟨q, g1, -, g3 | ⟨g3, g4⟩⟩ := cl1 k q1 hk
        · exact va_P_iff.mp hP q1 (List.mem_append_left _ g3)
        · subst g3
          have hl := (List.getElem?_eq_some_iff.mp g1).1
          have g5 : (wf ++ wt)[k]? = some q1 := by rw [List.getElem?_append_left hl]; exact g1
          exact (h2 k q1 g5).kept (hk1 _ (h2 k q1 g5).lt (cl2 k q1 g5 g4))
      · obtain ⟨k, hk⟩ := List.getElem?_of_mem hq3
        have g5 : (wf ++ wt)[wf.length + k]? = some q1 := by rw [List.getElem?_append_right (Nat.le_add_right _ _), Nat.add_sub_cancel_left]; exact hk
        exact (h2 _ q1 g5).kept (hk1 _ (h2 _ q1 g5).lt (cl2 _ q1 g5 (fun hm => by have := cl3 _ hm; omega)))
    · exact va_P_iff.mp hP q1 (List.mem_append_right _ hq2)
  · have hd3 := va_D_iff.mp h3
    have hdD := va_D_iff.mp hD
    refine va_D_iff.mpr ⟨?_, fun q1 hq1 => ?_⟩
    · rw [List.map_append, List.map_append, hadr, ← List.map_append]
      have hn1 := hdD.1
      rw [List.map_append] at hn1
      have hn2 := List.nodup_append.mp hn1
      refine List.nodup_append.mpr ⟨hd3.1, hn2.2.1, fun x hx y hy exy => ?_⟩
      subst exy
      obtain ⟨qx, hqx, ex⟩ := List.mem_map.mp hx
      obtain ⟨qy, hqy, ey⟩ := List.mem_map.mp hy
      have hlt : qx.1 < H.size := (va_P_iff.mp h2 qx hqx).lt
      have hva := hdD.2 qy (List.mem_append_right _ hqy)
      rcases hva with ⟨j, e, h⟩ | h
      · have h4 : qy.1 ∈ wc.map Prod.fst := List.mem_map.mpr ⟨_, List.mem_of_getElem? h, rfl⟩
        rw [← hw] at h4
        exact hn2.2.2 _ h4 _ (List.mem_map.mpr ⟨qy, hqy, rfl⟩) rfl
      · rw [ey] at h
        rw [ex] at hlt
        omega
    · rcases List.mem_append.mp hq1 with hq2 | hq2
      · rcases List.mem_append.mp hq2 with hq3 | hq3
        · obtain ⟨k, hk⟩ := List.getElem?_of_mem hq3
          obtain ⟨q, g1, g2, -⟩ := cl1 k q1 hk
          rw [g2]
          exact hd3.2 q (List.mem_append_left _ (List.mem_of_getElem? g1))
        · exact hd3.2 q1 (List.mem_append_right _ hq3)
      · exact hF _ (hdD.2 q1 (List.mem_append_right _ hq2))
section GK3
variable {p : Program} {l : Launch} {e : Env} {R : Room} {s : State} {m : MethodId} {args : Array Value} {below : List Frame} {meth : Method} {c : Code} {cells slots : Nat} {Q : State → Prop} {cc : ByteArray} {nL : Nat} {own : String} {Ts : List Cond} {D : va_G} {tys : List (ClassId × FieldType)} {A A' : Nat → Prop} {lv : List (Nat × Value)} {st rest : List Value} {ws : va_W} {pc : Nat}
theorem q_perm {ws' : va_W} (hp : ws.Perm ws') (k : qG p l e R s m args below meth c nL D A A' Q cells slots lv st ws' pc) : qG p l e R s m args below meth c nL D A A' Q cells slots lv st ws pc := fun H locs ls h1 h2 h3 h4 =>
  k H locs ls h1 (va_P_iff.mpr fun q hq => va_P_iff.mp h2 q (hp.mem_iff.mpr hq)) (va_D_iff.mpr ⟨(hp.map Prod.fst).nodup_iff.mp (va_D_iff.mp h3).1, fun q hq => (va_D_iff.mp h3).2 q (hp.mem_iff.mpr hq)⟩) h4
theorem q_twi {v : Int32} {a : Array Value} (hA : ∀ q, s.heap.size ≤ q → A q) {wf wf1 wt wc w1 : va_W} (isC : List Nat) (hr : ∀ (H : Heap) (locs : List Loc) (ls : Array Slot), lv_has ls nL lv → va_P D vwCl (wf ++ wt) H → va_D A (wf ++ wt) → va_S A s.heap H locs → va_Run p l e R s m args below meth c H locs cells slots 0 0 (F0 m pc ls st) rest (qWi v D w1 (va_A wc H.size) a) (va_A wc H.size)) (hC : isC.map (fun i => wf[i]?) = wc.map some) (hw : w1.map Prod.fst = wc.map Prod.fst) (hup : updC isC w1 0 wf = wf1) (k : qG p l e R s m args below meth c nL D A A Q cells slots lv (.int v :: rest) (wf1 ++ wt) (pc + 3)) : qG p l e R s m args below meth c nL D A A Q cells slots lv st (wf ++ wt) pc := fun H locs ls h1 h2 h3 h4 => by
  have hF := va_free h3 h4 hA isC (mapApp wt hC)
  exact va_calli (hr H locs ls h1 h2 h3 h4) h4 (fun q _ h => hF q h) hF (fun r u t H1 locs1 ht hvm hw1 hB hz1 hk1 hS => by
    obtain ⟨gP, gD⟩ := wjoin (wn := []) isC hC hw h2 h3 hF hk1 (by rw [List.append_nil, ← ht]; exact hB.1) (by rw [List.append_nil]; exact hB.2)
    rw [List.append_nil, hup] at gP gD
    have k2 := k H1 locs1 ls h1 gP gD hS
    have e1 : r = v := hw1
    rw [e1]
    exact k2)
theorem q_twl {v : Int64} {a : Array Value} (hA : ∀ q, s.heap.size ≤ q → A q) {wf wf1 wt wc w1 : va_W} (isC : List Nat) (hr : ∀ (H : Heap) (locs : List Loc) (ls : Array Slot), lv_has ls nL lv → va_P D vwCl (wf ++ wt) H → va_D A (wf ++ wt) → va_S A s.heap H locs → va_Run p l e R s m args below meth c H locs cells slots 0 0 (F0 m pc ls st) rest (qWl v D w1 (va_A wc H.size) a) (va_A wc H.size)) (hC : isC.map (fun i => wf[i]?) = wc.map some) (hw : w1.map Prod.fst = wc.map Prod.fst) (hup : updC isC w1 0 wf = wf1) (k : qG p l e R s m args below meth c nL D A A Q cells slots lv (.long v :: rest) (wf1 ++ wt) (pc + 3)) : qG p l e R s m args below meth c nL D A A Q cells slots lv st (wf ++ wt) pc := fun H locs ls h1 h2 h3 h4 => by
  have hF := va_free h3 h4 hA isC (mapApp wt hC)
  exact va_calll (hr H locs ls h1 h2 h3 h4) h4 (fun q _ h => hF q h) hF (fun r u t H1 locs1 ht hvm hw1 hB hz1 hk1 hS => by
    obtain ⟨gP, gD⟩ := wjoin (wn := []) isC hC hw h2 h3 hF hk1 (by rw [List.append_nil, ← ht]; exact hB.1) (by rw [List.append_nil]; exact hB.2)
    rw [List.append_nil, hup] at gP gD
    have k2 := k H1 locs1 ls h1 gP gD hS
    have e1 : r = v := hw1
    rw [e1]
    exact k2)
theorem q_tni {v : Int32} {a : Array Value} {mc ms : Nat} (hA : ∀ q, s.heap.size ≤ q → A q) {S : Type} {W1 w1 wn wf1 : S → va_W} {wf wt wc : va_W} (isC : List Nat) (hr : ∀ (H : Heap) (locs : List Loc) (ls : Array Slot), lv_has ls nL lv → va_P D vwCl (wf ++ wt) H → va_D A (wf ++ wt) → va_S A s.heap H locs → va_Run p l e R s m args below meth c H locs cells slots mc ms (F0 m pc ls st) rest (qNi v D W1 (va_A wc H.size) a) (va_A wc H.size)) (hC : isC.map (fun i => wf[i]?) = wc.map some) (hW1 : ∀ u, W1 u = w1 u ++ wn u) (hw : ∀ u, (w1 u).map Prod.fst = wc.map Prod.fst) (hup : ∀ u, updC isC (w1 u) 0 wf = wf1 u) (k : ∀ u : S, qG p l e R s m args below meth c nL D A A Q (cells + mc) (slots + ms) lv (.int v :: rest) ((wf1 u ++ wt) ++ wn u) (pc + 3)) : qG p l e R s m args below meth c nL D A A Q cells slots lv st (wf ++ wt) pc := fun H locs ls h1 h2 h3 h4 => by
  have hF := va_free h3 h4 hA isC (mapApp wt hC)
  exact va_calli (hr H locs ls h1 h2 h3 h4) h4 (fun q _ h => hF q h) hF (fun r u t H1 locs1 ht hvm hw1 hB hz1 hk1 hS => by
    obtain ⟨gP, gD⟩ := wjoin (w1 := w1 u) (wn := wn u) isC hC (hw u) h2 h3 hF hk1 (by rw [← hW1, ← ht]; exact hB.1) (by rw [← hW1]; exact hB.2)
    rw [hup u] at gP gD
    have k2 := k u H1 locs1 ls h1 gP gD hS
    have e1 : r = v := hw1
    rw [e1]
    exact k2)
/-- the script: its place t + j -/
theorem q_sld (C : qCx p s m args meth c cc nL own Ts D tys) {b L : Nat} {xs : Nat → Int32} (hX : va_X b L xs s s.heap) (hbl : b < s.heap.size) (hbA : ¬ A b) (hL : L ≤ 3584) {i : Int32} {j : Nat} (hi : i = nI j) (hj : j < L) (hd : decode cc pc = .ok (.iaload, 1)) (k : qG p l e R s m args below meth c nL D A A' Q cells slots lv (.int (xs j) :: rest) ws (pc + 1)) : qG p l e R s m args below meth c nL D A A' Q cells slots lv (.int i :: .ref b :: rest) ws pc := fun H locs ls h1 h2 h3 h4 => by
  subst hi
  have e1 : (nI j).toNatClampNeg = j := nI_clamp (by omega)
  refine va_sld C.1 C.2.1 hX hbl hbA h4 (nI_in hj (by omega)) hd ?_
  rw [e1]
  exact k H locs ls h1 h2 h3 h4
theorem q_slen (C : qCx p s m args meth c cc nL own Ts D tys) {b L : Nat} {xs : Nat → Int32} (hX : va_X b L xs s s.heap) (hbl : b < s.heap.size) (hbA : ¬ A b) (hd : decode cc pc = .ok (.arraylength, 1)) (k : qG p l e R s m args below meth c nL D A A' Q cells slots lv (.int (nI L) :: rest) ws (pc + 1)) : qG p l e R s m args below meth c nL D A A' Q cells slots lv (.ref b :: rest) ws pc := fun H locs ls h1 h2 h3 h4 => va_slen C.1 C.2.1 hX hbl hbA h4 hd (k H locs ls h1 h2 h3 h4)
/-- an argument out of the script: aload_0, iload_3, iconst j, iadd, iaload -/
theorem q_arg (C : qCx p s m args meth c cc nL own Ts D tys) {b L : Nat} {xs : Nat → Int32} (hX : va_X b L xs s s.heap) (hbl : b < s.heap.size) (hbA : ¬ A b) (hL : L ≤ 3584) {t : Nat} (j : Nat) {n : Int} (h0 : lv[0]? = some (3, .int (nI t))) (h3 : lv[3]? = some (0, .ref b)) (hj : t + j < L) (hn : Int32.ofInt n = nI j) (d0 : decode cc pc = .ok (.aload_n 0, 1)) (d1 : decode cc (pc + 1) = .ok (.iload_n 3, 1)) (d2 : decode cc (pc + 2) = .ok (.iconst n, 1)) (d3 : decode cc (pc + 3) = .ok (.iadd, 1)) (d4 : decode cc (pc + 4) = .ok (.iaload, 1)) (k : qG p l e R s m args below meth c nL D A A' Q cells slots lv (.int (xs (t + j)) :: st) ws (pc + 5)) : qG p l e R s m args below meth c nL D A A' Q cells slots lv st ws pc := by
  refine q_aload_n C d0 3 rfl h3 ?_
  refine q_iload_n C d1 0 rfl h0 ?_
  refine q_iconst C d2 hn ?_
  refine q_iadd C d3 ?_
  exact q_sld C hX hbl hbA hL (nI_add t j) hj d4 k
theorem q_arg6 (C : qCx p s m args meth c cc nL own Ts D tys) {b L : Nat} {xs : Nat → Int32} (hX : va_X b L xs s s.heap) (hbl : b < s.heap.size) (hbA : ¬ A b) (hL : L ≤ 3584) {t : Nat} (j : Nat) {n : Int} (h0 : lv[0]? = some (3, .int (nI t))) (h3 : lv[3]? = some (0, .ref b)) (hj : t + j < L) (hn : (Int8.ofInt n).toInt32 = nI j) (d0 : decode cc pc = .ok (.aload_n 0, 1)) (d1 : decode cc (pc + 1) = .ok (.iload_n 3, 1)) (d2 : decode cc (pc + 2) = .ok (.bipush n, 2)) (d3 : decode cc (pc + 4) = .ok (.iadd, 1)) (d4 : decode cc (pc + 5) = .ok (.iaload, 1)) (k : qG p l e R s m args below meth c nL D A A' Q cells slots lv (.int (xs (t + j)) :: st) ws (pc + 6)) : qG p l e R s m args below meth c nL D A A' Q cells slots lv st ws pc := by
  refine q_aload_n C d0 3 rfl h3 ?_
  refine q_iload_n C d1 0 rfl h0 ?_
  refine q_bipush C d2 hn ?_
  refine q_iadd C d3 ?_
  exact q_sld C hX hbl hbA hL (nI_add t j) hj d4 k
/-- a number as a boolean -/
theorem q_bool (C : qCx p s m args meth c cc nL own Ts D tys) {v : Int32} (d0 : decode cc pc = .ok (.ifCond .eq 7, 3)) (d1 : decode cc (pc + 3) = .ok (.iconst 1, 1)) (d2 : decode cc (pc + 4) = .ok (.goto 4, 3)) (d3 : decode cc (pc + 7) = .ok (.iconst 0, 1)) (k : qG p l e R s m args below meth c nL D A A' Q cells slots lv (.int (if v = 0 then 0 else 1) :: rest) ws (pc + 8)) : qG p l e R s m args below meth c nL D A A' Q cells slots lv (.int v :: rest) ws pc := by
  refine q_if_eq (tgt := pc + 7) C d0 (by omega) (fun z => ?_) (fun z => ?_)
  · rw [if_pos z] at k
    exact q_iconst (v := 0) C d3 (by decide) k
  · rw [if_neg z] at k
    refine q_iconst (v := 1) C d1 (by decide) ?_
    exact q_goto (tgt := pc + 8) C d2 (by omega) k
end GK3
