/-! my own judgement over the kit's rows: qG: from every heap that holds the cells ws, with the locals lv and the operand stack st at pc, the goal is reached -/
/-- the links to private members of a nest mate (18 of them), host SealStrait -/
def qNest : List (String × Nat × MethodName) := [(RX11, 11, yX8_init), (RX11, 32, yX7_init), (RX11, 45, yX10_init), (RX10, 11, yX8_init), (RX10, 20, yX0_init), (RX11, 52, yX1_init), (RX11, 59, yX4_init), (RX11, 66, yX3_init), (RX11, 73, yX2_init), (RX8, 34, yX11_within), (RX9, 24, yX11_within), (RX7, 30, yX11_within), (RX8, 45, yX11_has), (RX1, 58, yX11_within), (RX9, 28, yX11_has), (RX6, 31, yX11_within), (RX11, 256, yX5_init), (RX5, 9, yX8_init)]
/-- what rests on the tables and isn't a word of a method's list -/
def qN (U : State) : Prop := (∀ q ∈ qNest, va_Nw (.methodLinkNest q.1 q.2.1 q.2.2 "SealStrait") U) ∧ va_AO "SealStrait$Image" U
theorem qN.warm {s U : State} (hW : s.WarmedH U.vm) (h : qN s) : qN U := ⟨fun q hq => va_Nw.warmM hW (h.1 q hq), va_AO.moved hW.alike h.2⟩
theorem qN.calling {U : State} {g : JFrame} {mk : MethodId} {a : Array Value} (h : qN U) : qN (U.calling g mk a) := ⟨fun q hq => va_Nw.same rfl rfl (h.1 q hq), va_AO.moved (u := U) (U := U.calling g mk a) (Vm.Alike.refl U.vm) h.2⟩
/-- what stands at each point of a method -/
def qCx (p : Program) (s : State) (m : MethodId) (args : Array Value) (meth : Method) (c : Code) (cc : ByteArray) (nL : Nat) (own : String) (Ts : List Cond) (D : va_G) (tys : List (ClassId × FieldType)) : Prop :=
  p.tables.exec = Jvm.exec ∧ c.code = cc ∧ c.maxLocals = nL ∧ s.vm.findClass own = some m.cls ∧ (∀ w ∈ Ts, w.before args s = true) ∧ va_K D vwCl tys s ∧ qN s ∧ meth.locks = false
def qG (p : Program) (l : Launch) (e : Env) (R : Room) (s : State) (m : MethodId) (args : Array Value) (below : List Frame) (meth : Method) (c : Code) (nL : Nat) (D : va_G) (A A' : Nat → Prop) (Q : State → Prop) (cells slots : Nat) (lv : List (Nat × Value)) (st : List Value) (ws : va_W) (pc : Nat) : Prop :=
  ∀ (H : Heap) (locs : List Loc) (ls : Array Slot), lv_has ls nL lv → va_P D vwCl ws H → va_D A' ws → va_S A s.heap H locs → W p l e R s m args below meth c H locs cells slots Q (F0 m pc ls st)
/-- a contract's start -/
def qPc (av : List Value) (D : va_G) (tys : List (ClassId × FieldType)) (w : va_W) (sz : Nat) : Array Value → State → Prop := va_Pc av (fun U => U.heap.size = sz ∧ va_P D vwCl w U.heap ∧ va_K D vwCl tys U ∧ va_D (fun _ => True) w ∧ qN U)
/-- contracts' ends: what only reads (int, boolean, long), what writes (int, boolean, long, nothing) -/
def qRi (v : Int32) : Array Value → State → Outcome → State → Prop := va_Qi (S := Unit) (fun r _ => r = v) (fun _ _ => True) (fun _ => False)
def qRz (v : Int32) : Array Value → State → Outcome → State → Prop := va_Qi (S := Unit) (fun r _ => r = v ∧ (r = 0 ∨ r = 1)) (fun _ _ => True) (fun _ => False)
def qRl (v : Int64) : Array Value → State → Outcome → State → Prop := va_Ql (S := Unit) (fun r _ => r = v) (fun _ _ => True) (fun _ => False)
def qWi (v : Int32) (D : va_G) (w1 : va_W) (A : Nat → Prop) : Array Value → State → Outcome → State → Prop := va_Qi (S := Unit) (fun r _ => r = v) (fun _ t => va_P D vwCl w1 t.heap ∧ va_D A w1) A
def qWz (v : Int32) (D : va_G) (w1 : va_W) (A : Nat → Prop) : Array Value → State → Outcome → State → Prop := va_Qi (S := Unit) (fun r _ => r = v ∧ (r = 0 ∨ r = 1)) (fun _ t => va_P D vwCl w1 t.heap ∧ va_D A w1) A
def qWl (v : Int64) (D : va_G) (w1 : va_W) (A : Nat → Prop) : Array Value → State → Outcome → State → Prop := va_Ql (S := Unit) (fun r _ => r = v) (fun _ t => va_P D vwCl w1 t.heap ∧ va_D A w1) A
def qWv (D : va_G) (w1 : va_W) (A : Nat → Prop) : Array Value → State → Outcome → State → Prop := va_Qv (S := Unit) (fun _ => True) (fun _ t => va_P D vwCl w1 t.heap ∧ va_D A w1) A
/-- a constructor's end: the new cells' addresses are u -/
def qNv {S : Type} (D : va_G) (W1 : S → va_W) (A : Nat → Prop) : Array Value → State → Outcome → State → Prop := va_Qv (S := S) (fun _ => True) (fun u t => va_P D vwCl (W1 u) t.heap ∧ va_D A (W1 u)) A
theorem q_fm {α β : Type} {f : α → Option β} : ∀ {is : List α} {w : List β}, is.map f = w.map some → is.filterMap f = w := by
  intro is
  induction is with
  | nil =>
    intro w h
    cases w with
    | nil => rfl
    | cons x t => simp at h
  | cons i r ih =>
    intro w h
    cases w with
    | nil => simp at h
    | cons x t =>
      simp only [List.map_cons, List.cons.injEq] at h
      rw [List.filterMap_cons, h.1, ih h.2]
theorem q_nb {r : Int32} (h : r = 0 ∨ r = 1) : narrow .boolean (.int r) = .int r := by
  rcases h with h | h <;> subst h <;> rfl
theorem q_fb {r : Int32} (h : r = 0 ∨ r = 1) : fits .boolean (.int r) = true := by
  rcases h with h | h <;> subst h <;> rfl
theorem qPc.blind {av : List Value} {D : va_G} {tys : List (ClassId × FieldType)} {w : va_W} {sz : Nat} : FrameBlind (qPc av D tys w sz) := fun a U g mk q => by
  obtain ⟨q0, q1, qP, qK, qD, qn⟩ := q
  exact ⟨q0, q1, qP, va_K.moved (u := U) (U := U.calling g mk a) (Vm.Alike.refl U.vm) qK, qD, qn.calling⟩
section GK
variable {p : Program} {l : Launch} {e : Env} {R : Room} {s : State} {m : MethodId} {args : Array Value} {below : List Frame} {meth : Method} {c : Code} {cells slots : Nat} {Q : State → Prop} {cc : ByteArray} {nL : Nat} {own : String} {Ts : List Cond} {D : va_G} {tys : List (ClassId × FieldType)} {A A' : Nat → Prop} {lv : List (Nat × Value)} {st rest : List Value} {ws : va_W} {pc : Nat}
theorem qPc.pre (C : qCx p s m args meth c cc nL own Ts D tys) {av : List Value} {w : va_W} {H : Heap} (hP : va_P D vwCl w H) (hD : va_D A' w) : ∀ U : State, U.heap = H → s.WarmedH U.vm → qPc av D tys w H.size av.toArray U := fun U hU hW =>
  ⟨rfl, by rw [hU], by rw [hU]; exact hP, va_K.moved hW.alike C.2.2.2.2.2.1, hD.weaken (fun _ _ _ _ => trivial), C.2.2.2.2.2.2.1.warm hW⟩
theorem q_iconst (C : qCx p s m args meth c cc nL own Ts D tys) {n : Int} {v : Int32} (hd : decode cc pc = .ok (.iconst n, 1)) (hv : Int32.ofInt n = v)
    (k : qG p l e R s m args below meth c nL D A A' Q cells slots lv (.int v :: st) ws (pc + 1)) : qG p l e R s m args below meth c nL D A A' Q cells slots lv st ws pc := fun H locs ls h1 h2 h3 h4 => lv_iconst C.1 C.2.1 hd hv (k H locs ls h1 h2 h3 h4)
theorem q_bipush (C : qCx p s m args meth c cc nL own Ts D tys) {n : Int} {v : Int32} (hd : decode cc pc = .ok (.bipush n, 2)) (hv : (Int8.ofInt n).toInt32 = v)
    (k : qG p l e R s m args below meth c nL D A A' Q cells slots lv (.int v :: st) ws (pc + 2)) : qG p l e R s m args below meth c nL D A A' Q cells slots lv st ws pc := fun H locs ls h1 h2 h3 h4 => lv_bipush C.1 C.2.1 hd hv (k H locs ls h1 h2 h3 h4)
theorem q_sipush (C : qCx p s m args meth c cc nL own Ts D tys) {n : Int} {v : Int32} (hd : decode cc pc = .ok (.sipush n, 3)) (hv : (Int16.ofInt n).toInt32 = v)
    (k : qG p l e R s m args below meth c nL D A A' Q cells slots lv (.int v :: st) ws (pc + 3)) : qG p l e R s m args below meth c nL D A A' Q cells slots lv st ws pc := fun H locs ls h1 h2 h3 h4 => lv_sipush C.1 C.2.1 hd hv (k H locs ls h1 h2 h3 h4)
theorem q_lconst (C : qCx p s m args meth c cc nL own Ts D tys) {n : Fin 2} {v : Int64} (hd : decode cc pc = .ok (.lconst n, 1)) (hv : Int64.ofNat (n : Nat) = v)
    (k : qG p l e R s m args below meth c nL D A A' Q cells slots lv (.long v :: st) ws (pc + 1)) : qG p l e R s m args below meth c nL D A A' Q cells slots lv st ws pc := fun H locs ls h1 h2 h3 h4 => lv_lconst C.1 C.2.1 hd hv (k H locs ls h1 h2 h3 h4)
theorem q_ldc (C : qCx p s m args meth c cc nL own Ts D tys) {index : Nat} {v : Int32} (hm : Cond.constant own index v ∈ Ts) (hd : decode cc pc = .ok (.ldc index, 2))
    (k : qG p l e R s m args below meth c nL D A A' Q cells slots lv (.int v :: st) ws (pc + 2)) : qG p l e R s m args below meth c nL D A A' Q cells slots lv st ws pc := fun H locs ls h1 h2 h3 h4 => lv_ldc C.1 C.2.1 C.2.2.2.1 (C.2.2.2.2.1 _ hm) hd (k H locs ls h1 h2 h3 h4)
theorem q_ldcw (C : qCx p s m args meth c cc nL own Ts D tys) {index : Nat} {v : Int32} (hm : Cond.constant own index v ∈ Ts) (hd : decode cc pc = .ok (.ldc_w index, 3))
    (k : qG p l e R s m args below meth c nL D A A' Q cells slots lv (.int v :: st) ws (pc + 3)) : qG p l e R s m args below meth c nL D A A' Q cells slots lv st ws pc := fun H locs ls h1 h2 h3 h4 => lv_ldcw C.1 C.2.1 C.2.2.2.1 (C.2.2.2.2.1 _ hm) hd (k H locs ls h1 h2 h3 h4)
theorem q_ldc2 (C : qCx p s m args meth c cc nL own Ts D tys) {index : Nat} {v : Int64} (hm : Cond.constantLong own index v ∈ Ts) (hd : decode cc pc = .ok (.ldc2_w index, 3))
    (k : qG p l e R s m args below meth c nL D A A' Q cells slots lv (.long v :: st) ws (pc + 3)) : qG p l e R s m args below meth c nL D A A' Q cells slots lv st ws pc := fun H locs ls h1 h2 h3 h4 => lv_ldc2 C.1 C.2.1 C.2.2.2.1 (C.2.2.2.2.1 _ hm) hd (k H locs ls h1 h2 h3 h4)
theorem q_iload_n (C : qCx p s m args meth c cc nL own Ts D tys) {kk : Fin 4} {i : Nat} {x : Int32} (hd : decode cc pc = .ok (.iload_n kk, 1)) (j : Nat) (hi : (kk : Nat) = i) (hj : lv[j]? = some (i, .int x))
    (k : qG p l e R s m args below meth c nL D A A' Q cells slots lv (.int x :: st) ws (pc + 1)) : qG p l e R s m args below meth c nL D A A' Q cells slots lv st ws pc := fun H locs ls h1 h2 h3 h4 => lv_iload_n C.1 C.2.1 hd hi (lv_at h1 j hj) (k H locs ls h1 h2 h3 h4)
theorem q_iload (C : qCx p s m args meth c cc nL own Ts D tys) {i : Nat} {x : Int32} (hd : decode cc pc = .ok (.iload i, 2)) (j : Nat) (hj : lv[j]? = some (i, .int x))
    (k : qG p l e R s m args below meth c nL D A A' Q cells slots lv (.int x :: st) ws (pc + 2)) : qG p l e R s m args below meth c nL D A A' Q cells slots lv st ws pc := fun H locs ls h1 h2 h3 h4 => lv_iload C.1 C.2.1 hd (lv_at h1 j hj) (k H locs ls h1 h2 h3 h4)
theorem q_istore_n (C : qCx p s m args meth c cc nL own Ts D tys) {kk : Fin 4} {i : Nat} {x : Int32} (lv1 : List (Nat × Value)) (hd : decode cc pc = .ok (.istore_n kk, 1)) (hi : (kk : Nat) = i) (hn : i < nL) (hl : (i, Value.int x) :: lv.filter (fun q => !(q.1 == i) && !(q.1 + 1 == i && q.2.category == 2)) = lv1)
    (k : qG p l e R s m args below meth c nL D A A' Q cells slots lv1 rest ws (pc + 1)) : qG p l e R s m args below meth c nL D A A' Q cells slots lv (.int x :: rest) ws pc := fun H locs ls h1 h2 h3 h4 => lv_istore_n C.1 C.2.1 hd hi h1 hn hl (fun ls1 g1 => k H locs ls1 g1 h2 h3 h4)
theorem q_istore (C : qCx p s m args meth c cc nL own Ts D tys) {i : Nat} {x : Int32} (lv1 : List (Nat × Value)) (hd : decode cc pc = .ok (.istore i, 2)) (hn : i < nL) (hl : (i, Value.int x) :: lv.filter (fun q => !(q.1 == i) && !(q.1 + 1 == i && q.2.category == 2)) = lv1)
    (k : qG p l e R s m args below meth c nL D A A' Q cells slots lv1 rest ws (pc + 2)) : qG p l e R s m args below meth c nL D A A' Q cells slots lv (.int x :: rest) ws pc := fun H locs ls h1 h2 h3 h4 => lv_istore C.1 C.2.1 hd h1 hn hl (fun ls1 g1 => k H locs ls1 g1 h2 h3 h4)
theorem q_lload_n (C : qCx p s m args meth c cc nL own Ts D tys) {kk : Fin 4} {i : Nat} {x : Int64} (hd : decode cc pc = .ok (.lload_n kk, 1)) (j : Nat) (hi : (kk : Nat) = i) (hj : lv[j]? = some (i, .long x))
    (k : qG p l e R s m args below meth c nL D A A' Q cells slots lv (.long x :: st) ws (pc + 1)) : qG p l e R s m args below meth c nL D A A' Q cells slots lv st ws pc := fun H locs ls h1 h2 h3 h4 => lv_lload_n C.1 C.2.1 hd hi (lv_at h1 j hj) (k H locs ls h1 h2 h3 h4)
theorem q_lload (C : qCx p s m args meth c cc nL own Ts D tys) {i : Nat} {x : Int64} (hd : decode cc pc = .ok (.lload i, 2)) (j : Nat) (hj : lv[j]? = some (i, .long x))
    (k : qG p l e R s m args below meth c nL D A A' Q cells slots lv (.long x :: st) ws (pc + 2)) : qG p l e R s m args below meth c nL D A A' Q cells slots lv st ws pc := fun H locs ls h1 h2 h3 h4 => lv_lload C.1 C.2.1 hd (lv_at h1 j hj) (k H locs ls h1 h2 h3 h4)
theorem q_lstore_n (C : qCx p s m args meth c cc nL own Ts D tys) {kk : Fin 4} {i : Nat} {x : Int64} (lv1 : List (Nat × Value)) (hd : decode cc pc = .ok (.lstore_n kk, 1)) (hi : (kk : Nat) = i) (hn : i + 1 < nL) (hl : (i, Value.long x) :: lv.filter (fun q => !(q.1 == i) && (!(q.1 == i + 1) && !(q.1 + 1 == i && q.2.category == 2))) = lv1)
    (k : qG p l e R s m args below meth c nL D A A' Q cells slots lv1 rest ws (pc + 1)) : qG p l e R s m args below meth c nL D A A' Q cells slots lv (.long x :: rest) ws pc := fun H locs ls h1 h2 h3 h4 => lv_lstore_n C.1 C.2.1 hd hi h1 hn hl (fun ls1 g1 => k H locs ls1 g1 h2 h3 h4)
theorem q_lstore (C : qCx p s m args meth c cc nL own Ts D tys) {i : Nat} {x : Int64} (lv1 : List (Nat × Value)) (hd : decode cc pc = .ok (.lstore i, 2)) (hn : i + 1 < nL) (hl : (i, Value.long x) :: lv.filter (fun q => !(q.1 == i) && (!(q.1 == i + 1) && !(q.1 + 1 == i && q.2.category == 2))) = lv1)
    (k : qG p l e R s m args below meth c nL D A A' Q cells slots lv1 rest ws (pc + 2)) : qG p l e R s m args below meth c nL D A A' Q cells slots lv (.long x :: rest) ws pc := fun H locs ls h1 h2 h3 h4 => lv_lstore C.1 C.2.1 hd h1 hn hl (fun ls1 g1 => k H locs ls1 g1 h2 h3 h4)
theorem q_aload_n (C : qCx p s m args meth c cc nL own Ts D tys) {kk : Fin 4} {i : Nat} {x : Nat} (hd : decode cc pc = .ok (.aload_n kk, 1)) (j : Nat) (hi : (kk : Nat) = i) (hj : lv[j]? = some (i, .ref x))
    (k : qG p l e R s m args below meth c nL D A A' Q cells slots lv (.ref x :: st) ws (pc + 1)) : qG p l e R s m args below meth c nL D A A' Q cells slots lv st ws pc := fun H locs ls h1 h2 h3 h4 => lv_aload_n C.1 C.2.1 hd hi (lv_at h1 j hj) (k H locs ls h1 h2 h3 h4)
theorem q_aload (C : qCx p s m args meth c cc nL own Ts D tys) {i : Nat} {x : Nat} (hd : decode cc pc = .ok (.aload i, 2)) (j : Nat) (hj : lv[j]? = some (i, .ref x))
    (k : qG p l e R s m args below meth c nL D A A' Q cells slots lv (.ref x :: st) ws (pc + 2)) : qG p l e R s m args below meth c nL D A A' Q cells slots lv st ws pc := fun H locs ls h1 h2 h3 h4 => lv_aload C.1 C.2.1 hd (lv_at h1 j hj) (k H locs ls h1 h2 h3 h4)
theorem q_astore_n (C : qCx p s m args meth c cc nL own Ts D tys) {kk : Fin 4} {i : Nat} {x : Nat} (lv1 : List (Nat × Value)) (hd : decode cc pc = .ok (.astore_n kk, 1)) (hi : (kk : Nat) = i) (hn : i < nL) (hl : (i, Value.ref x) :: lv.filter (fun q => !(q.1 == i) && !(q.1 + 1 == i && q.2.category == 2)) = lv1)
    (k : qG p l e R s m args below meth c nL D A A' Q cells slots lv1 rest ws (pc + 1)) : qG p l e R s m args below meth c nL D A A' Q cells slots lv (.ref x :: rest) ws pc := fun H locs ls h1 h2 h3 h4 => lv_astore_n C.1 C.2.1 hd hi h1 hn hl (fun ls1 g1 => k H locs ls1 g1 h2 h3 h4)
theorem q_astore (C : qCx p s m args meth c cc nL own Ts D tys) {i : Nat} {x : Nat} (lv1 : List (Nat × Value)) (hd : decode cc pc = .ok (.astore i, 2)) (hn : i < nL) (hl : (i, Value.ref x) :: lv.filter (fun q => !(q.1 == i) && !(q.1 + 1 == i && q.2.category == 2)) = lv1)
    (k : qG p l e R s m args below meth c nL D A A' Q cells slots lv1 rest ws (pc + 2)) : qG p l e R s m args below meth c nL D A A' Q cells slots lv (.ref x :: rest) ws pc := fun H locs ls h1 h2 h3 h4 => lv_astore C.1 C.2.1 hd h1 hn hl (fun ls1 g1 => k H locs ls1 g1 h2 h3 h4)
theorem q_aload_nN (C : qCx p s m args meth c cc nL own Ts D tys) {kk : Fin 4} {i : Nat} (hd : decode cc pc = .ok (.aload_n kk, 1)) (j : Nat) (hi : (kk : Nat) = i) (hj : lv[j]? = some (i, .null))
    (k : qG p l e R s m args below meth c nL D A A' Q cells slots lv (.null :: st) ws (pc + 1)) : qG p l e R s m args below meth c nL D A A' Q cells slots lv st ws pc := fun H locs ls h1 h2 h3 h4 => lv_aload_nN C.1 C.2.1 hd hi (lv_at h1 j hj) (k H locs ls h1 h2 h3 h4)
theorem q_astore_nN (C : qCx p s m args meth c cc nL own Ts D tys) {kk : Fin 4} {i : Nat} (lv1 : List (Nat × Value)) (hd : decode cc pc = .ok (.astore_n kk, 1)) (hi : (kk : Nat) = i) (hn : i < nL) (hl : (i, Value.null) :: lv.filter (fun q => !(q.1 == i) && !(q.1 + 1 == i && q.2.category == 2)) = lv1)
    (k : qG p l e R s m args below meth c nL D A A' Q cells slots lv1 rest ws (pc + 1)) : qG p l e R s m args below meth c nL D A A' Q cells slots lv (.null :: rest) ws pc := fun H locs ls h1 h2 h3 h4 => lv_astore_nN C.1 C.2.1 hd hi h1 hn hl (fun ls1 g1 => k H locs ls1 g1 h2 h3 h4)
theorem q_iinc (C : qCx p s m args meth c cc nL own Ts D tys) {i : Nat} {n : Int} {x v : Int32} (lv1 : List (Nat × Value)) (hd : decode cc pc = .ok (.iinc i n, 3)) (j : Nat) (hj : lv[j]? = some (i, .int x)) (hv : x + Int32.ofInt n = v) (hn : i < nL) (hl : (i, Value.int v) :: lv.filter (fun q => !(q.1 == i) && !(q.1 + 1 == i && q.2.category == 2)) = lv1)
    (k : qG p l e R s m args below meth c nL D A A' Q cells slots lv1 st ws (pc + 3)) : qG p l e R s m args below meth c nL D A A' Q cells slots lv st ws pc := fun H locs ls h1 h2 h3 h4 => lv_iinc C.1 C.2.1 hd h1 (k := j) hj hv hn hl (fun ls1 g1 => k H locs ls1 g1 h2 h3 h4)
theorem q_iadd (C : qCx p s m args meth c cc nL own Ts D tys) {x y : Int32} (hd : decode cc pc = .ok (.iadd, 1))
    (k : qG p l e R s m args below meth c nL D A A' Q cells slots lv (.int (x + y) :: rest) ws (pc + 1)) : qG p l e R s m args below meth c nL D A A' Q cells slots lv (.int y :: .int x :: rest) ws pc := fun H locs ls h1 h2 h3 h4 => lv_iadd C.1 C.2.1 hd (k H locs ls h1 h2 h3 h4)
theorem q_isub (C : qCx p s m args meth c cc nL own Ts D tys) {x y : Int32} (hd : decode cc pc = .ok (.isub, 1))
    (k : qG p l e R s m args below meth c nL D A A' Q cells slots lv (.int (x - y) :: rest) ws (pc + 1)) : qG p l e R s m args below meth c nL D A A' Q cells slots lv (.int y :: .int x :: rest) ws pc := fun H locs ls h1 h2 h3 h4 => lv_isub C.1 C.2.1 hd (k H locs ls h1 h2 h3 h4)
theorem q_imul (C : qCx p s m args meth c cc nL own Ts D tys) {x y : Int32} (hd : decode cc pc = .ok (.imul, 1))
    (k : qG p l e R s m args below meth c nL D A A' Q cells slots lv (.int (x * y) :: rest) ws (pc + 1)) : qG p l e R s m args below meth c nL D A A' Q cells slots lv (.int y :: .int x :: rest) ws pc := fun H locs ls h1 h2 h3 h4 => lv_imul C.1 C.2.1 hd (k H locs ls h1 h2 h3 h4)
theorem q_iand (C : qCx p s m args meth c cc nL own Ts D tys) {x y : Int32} (hd : decode cc pc = .ok (.iand, 1))
    (k : qG p l e R s m args below meth c nL D A A' Q cells slots lv (.int (x &&& y) :: rest) ws (pc + 1)) : qG p l e R s m args below meth c nL D A A' Q cells slots lv (.int y :: .int x :: rest) ws pc := fun H locs ls h1 h2 h3 h4 => lv_iand C.1 C.2.1 hd (k H locs ls h1 h2 h3 h4)
theorem q_ior (C : qCx p s m args meth c cc nL own Ts D tys) {x y : Int32} (hd : decode cc pc = .ok (.ior, 1))
    (k : qG p l e R s m args below meth c nL D A A' Q cells slots lv (.int (x ||| y) :: rest) ws (pc + 1)) : qG p l e R s m args below meth c nL D A A' Q cells slots lv (.int y :: .int x :: rest) ws pc := fun H locs ls h1 h2 h3 h4 => lv_ior C.1 C.2.1 hd (k H locs ls h1 h2 h3 h4)
theorem q_ixor (C : qCx p s m args meth c cc nL own Ts D tys) {x y : Int32} (hd : decode cc pc = .ok (.ixor, 1))
    (k : qG p l e R s m args below meth c nL D A A' Q cells slots lv (.int (x ^^^ y) :: rest) ws (pc + 1)) : qG p l e R s m args below meth c nL D A A' Q cells slots lv (.int y :: .int x :: rest) ws pc := fun H locs ls h1 h2 h3 h4 => lv_ixor C.1 C.2.1 hd (k H locs ls h1 h2 h3 h4)
theorem q_ishl (C : qCx p s m args meth c cc nL own Ts D tys) {x y : Int32} (hd : decode cc pc = .ok (.ishl, 1))
    (k : qG p l e R s m args below meth c nL D A A' Q cells slots lv (.int (x <<< (y &&& 31)) :: rest) ws (pc + 1)) : qG p l e R s m args below meth c nL D A A' Q cells slots lv (.int y :: .int x :: rest) ws pc := fun H locs ls h1 h2 h3 h4 => lv_ishl C.1 C.2.1 hd (k H locs ls h1 h2 h3 h4)
theorem q_ishr (C : qCx p s m args meth c cc nL own Ts D tys) {x y : Int32} (hd : decode cc pc = .ok (.ishr, 1))
    (k : qG p l e R s m args below meth c nL D A A' Q cells slots lv (.int (x >>> (y &&& 31)) :: rest) ws (pc + 1)) : qG p l e R s m args below meth c nL D A A' Q cells slots lv (.int y :: .int x :: rest) ws pc := fun H locs ls h1 h2 h3 h4 => lv_ishr C.1 C.2.1 hd (k H locs ls h1 h2 h3 h4)
theorem q_idiv (C : qCx p s m args meth c cc nL own Ts D tys) {x y : Int32} (hd : decode cc pc = .ok (.idiv, 1)) (hne : ¬ y = 0)
    (k : qG p l e R s m args below meth c nL D A A' Q cells slots lv (.int (x / y) :: rest) ws (pc + 1)) : qG p l e R s m args below meth c nL D A A' Q cells slots lv (.int y :: .int x :: rest) ws pc := fun H locs ls h1 h2 h3 h4 => lv_idiv C.1 C.2.1 hd hne (k H locs ls h1 h2 h3 h4)
theorem q_irem (C : qCx p s m args meth c cc nL own Ts D tys) {x y : Int32} (hd : decode cc pc = .ok (.irem, 1)) (hne : ¬ y = 0)
    (k : qG p l e R s m args below meth c nL D A A' Q cells slots lv (.int (x - x / y * y) :: rest) ws (pc + 1)) : qG p l e R s m args below meth c nL D A A' Q cells slots lv (.int y :: .int x :: rest) ws pc := fun H locs ls h1 h2 h3 h4 => lv_irem C.1 C.2.1 hd hne (k H locs ls h1 h2 h3 h4)
theorem q_iushr (C : qCx p s m args meth c cc nL own Ts D tys) {x y : Int32} (hd : decode cc pc = .ok (.iushr, 1))
    (k : qG p l e R s m args below meth c nL D A A' Q cells slots lv (.int ((x.toUInt32 >>> (y.toUInt32 &&& Int32.toUInt32 31)).toInt32) :: rest) ws (pc + 1)) : qG p l e R s m args below meth c nL D A A' Q cells slots lv (.int y :: .int x :: rest) ws pc := fun H locs ls h1 h2 h3 h4 => lv_iushr C.1 C.2.1 hd rfl (k H locs ls h1 h2 h3 h4)
theorem q_ladd (C : qCx p s m args meth c cc nL own Ts D tys) {x y : Int64} (hd : decode cc pc = .ok (.ladd, 1))
    (k : qG p l e R s m args below meth c nL D A A' Q cells slots lv (.long (x + y) :: rest) ws (pc + 1)) : qG p l e R s m args below meth c nL D A A' Q cells slots lv (.long y :: .long x :: rest) ws pc := fun H locs ls h1 h2 h3 h4 => lv_ladd C.1 C.2.1 hd (k H locs ls h1 h2 h3 h4)
theorem q_lsub (C : qCx p s m args meth c cc nL own Ts D tys) {x y : Int64} (hd : decode cc pc = .ok (.lsub, 1))
    (k : qG p l e R s m args below meth c nL D A A' Q cells slots lv (.long (x - y) :: rest) ws (pc + 1)) : qG p l e R s m args below meth c nL D A A' Q cells slots lv (.long y :: .long x :: rest) ws pc := fun H locs ls h1 h2 h3 h4 => lv_lsub C.1 C.2.1 hd (k H locs ls h1 h2 h3 h4)
theorem q_lmul (C : qCx p s m args meth c cc nL own Ts D tys) {x y : Int64} (hd : decode cc pc = .ok (.lmul, 1))
    (k : qG p l e R s m args below meth c nL D A A' Q cells slots lv (.long (x * y) :: rest) ws (pc + 1)) : qG p l e R s m args below meth c nL D A A' Q cells slots lv (.long y :: .long x :: rest) ws pc := fun H locs ls h1 h2 h3 h4 => lv_lmul C.1 C.2.1 hd (k H locs ls h1 h2 h3 h4)
theorem q_ldiv (C : qCx p s m args meth c cc nL own Ts D tys) {x y : Int64} (hd : decode cc pc = .ok (.ldiv, 1)) (hne : ¬ y = 0)
    (k : qG p l e R s m args below meth c nL D A A' Q cells slots lv (.long (x / y) :: rest) ws (pc + 1)) : qG p l e R s m args below meth c nL D A A' Q cells slots lv (.long y :: .long x :: rest) ws pc := fun H locs ls h1 h2 h3 h4 => lv_ldiv C.1 C.2.1 hd hne (k H locs ls h1 h2 h3 h4)
theorem q_lrem (C : qCx p s m args meth c cc nL own Ts D tys) {x y : Int64} (hd : decode cc pc = .ok (.lrem, 1)) (hne : ¬ y = 0)
    (k : qG p l e R s m args below meth c nL D A A' Q cells slots lv (.long (x - x / y * y) :: rest) ws (pc + 1)) : qG p l e R s m args below meth c nL D A A' Q cells slots lv (.long y :: .long x :: rest) ws pc := fun H locs ls h1 h2 h3 h4 => lv_lrem C.1 C.2.1 hd hne (k H locs ls h1 h2 h3 h4)
theorem q_i2l (C : qCx p s m args meth c cc nL own Ts D tys) {x : Int32} (hd : decode cc pc = .ok (.i2l, 1))
    (k : qG p l e R s m args below meth c nL D A A' Q cells slots lv (.long x.toInt64 :: rest) ws (pc + 1)) : qG p l e R s m args below meth c nL D A A' Q cells slots lv (.int x :: rest) ws pc := fun H locs ls h1 h2 h3 h4 => lv_i2l C.1 C.2.1 hd rfl (k H locs ls h1 h2 h3 h4)
theorem q_lcmp (C : qCx p s m args meth c cc nL own Ts D tys) {x y : Int64} (hd : decode cc pc = .ok (.lcmp, 1))
    (k : qG p l e R s m args below meth c nL D A A' Q cells slots lv (.int (lg_cmp x y) :: rest) ws (pc + 1)) : qG p l e R s m args below meth c nL D A A' Q cells slots lv (.long y :: .long x :: rest) ws pc := fun H locs ls h1 h2 h3 h4 => W.lcmp C.1 C.2.1 hd (k H locs ls h1 h2 h3 h4)
theorem q_dup (C : qCx p s m args meth c cc nL own Ts D tys) {v : Value} (hd : decode cc pc = .ok (.dup, 1)) (hv : v.category = 1)
    (k : qG p l e R s m args below meth c nL D A A' Q cells slots lv (v :: v :: rest) ws (pc + 1)) : qG p l e R s m args below meth c nL D A A' Q cells slots lv (v :: rest) ws pc := fun H locs ls h1 h2 h3 h4 => lv_dup C.1 C.2.1 hd hv (k H locs ls h1 h2 h3 h4)
theorem q_pop (C : qCx p s m args meth c cc nL own Ts D tys) {v : Value} (hd : decode cc pc = .ok (.pop, 1)) (hv : v.category = 1)
    (k : qG p l e R s m args below meth c nL D A A' Q cells slots lv rest ws (pc + 1)) : qG p l e R s m args below meth c nL D A A' Q cells slots lv (v :: rest) ws pc := fun H locs ls h1 h2 h3 h4 => lv_pop C.1 C.2.1 hd hv (k H locs ls h1 h2 h3 h4)
theorem q_dup2 (C : qCx p s m args meth c cc nL own Ts D tys) {v v2 : Value} (hd : decode cc pc = .ok (.dup2, 1)) (hv : v.category = 1) (hv2 : v2.category = 1)
    (k : qG p l e R s m args below meth c nL D A A' Q cells slots lv (v :: v2 :: v :: v2 :: rest) ws (pc + 1)) : qG p l e R s m args below meth c nL D A A' Q cells slots lv (v :: v2 :: rest) ws pc := fun H locs ls h1 h2 h3 h4 => lv_dup2_11 C.1 C.2.1 hd hv hv2 (k H locs ls h1 h2 h3 h4)
theorem q_if_eq (C : qCx p s m args meth c cc nL own Ts D tys) {x : Int32} {off : Int} {tgt : Nat} (hd : decode cc pc = .ok (.ifCond .eq off, 3)) (ht : (pc : Int) + off = (tgt : Int)) (kt : x = 0 → qG p l e R s m args below meth c nL D A A' Q cells slots lv rest ws tgt) (kf : ¬ x = 0 → qG p l e R s m args below meth c nL D A A' Q cells slots lv rest ws (pc + 3)) : qG p l e R s m args below meth c nL D A A' Q cells slots lv (.int x :: rest) ws pc := fun H locs ls h1 h2 h3 h4 => lv_if_eq C.1 C.2.1 hd ht (fun z => kt z H locs ls h1 h2 h3 h4) (fun z => kf z H locs ls h1 h2 h3 h4)
theorem q_if_ne (C : qCx p s m args meth c cc nL own Ts D tys) {x : Int32} {off : Int} {tgt : Nat} (hd : decode cc pc = .ok (.ifCond .ne off, 3)) (ht : (pc : Int) + off = (tgt : Int)) (kt : ¬ x = 0 → qG p l e R s m args below meth c nL D A A' Q cells slots lv rest ws tgt) (kf : x = 0 → qG p l e R s m args below meth c nL D A A' Q cells slots lv rest ws (pc + 3)) : qG p l e R s m args below meth c nL D A A' Q cells slots lv (.int x :: rest) ws pc := fun H locs ls h1 h2 h3 h4 => lv_if_ne C.1 C.2.1 hd ht (fun z => kt z H locs ls h1 h2 h3 h4) (fun z => kf z H locs ls h1 h2 h3 h4)
theorem q_if_lt (C : qCx p s m args meth c cc nL own Ts D tys) {x : Int32} {off : Int} {tgt : Nat} (hd : decode cc pc = .ok (.ifCond .lt off, 3)) (ht : (pc : Int) + off = (tgt : Int)) (kt : x < 0 → qG p l e R s m args below meth c nL D A A' Q cells slots lv rest ws tgt) (kf : ¬ x < 0 → qG p l e R s m args below meth c nL D A A' Q cells slots lv rest ws (pc + 3)) : qG p l e R s m args below meth c nL D A A' Q cells slots lv (.int x :: rest) ws pc := fun H locs ls h1 h2 h3 h4 => lv_if_lt C.1 C.2.1 hd ht (fun z => kt z H locs ls h1 h2 h3 h4) (fun z => kf z H locs ls h1 h2 h3 h4)
theorem q_if_ge (C : qCx p s m args meth c cc nL own Ts D tys) {x : Int32} {off : Int} {tgt : Nat} (hd : decode cc pc = .ok (.ifCond .ge off, 3)) (ht : (pc : Int) + off = (tgt : Int)) (kt : 0 ≤ x → qG p l e R s m args below meth c nL D A A' Q cells slots lv rest ws tgt) (kf : ¬ 0 ≤ x → qG p l e R s m args below meth c nL D A A' Q cells slots lv rest ws (pc + 3)) : qG p l e R s m args below meth c nL D A A' Q cells slots lv (.int x :: rest) ws pc := fun H locs ls h1 h2 h3 h4 => lv_if_ge C.1 C.2.1 hd ht (fun z => kt z H locs ls h1 h2 h3 h4) (fun z => kf z H locs ls h1 h2 h3 h4)
theorem q_if_gt (C : qCx p s m args meth c cc nL own Ts D tys) {x : Int32} {off : Int} {tgt : Nat} (hd : decode cc pc = .ok (.ifCond .gt off, 3)) (ht : (pc : Int) + off = (tgt : Int)) (kt : 0 < x → qG p l e R s m args below meth c nL D A A' Q cells slots lv rest ws tgt) (kf : ¬ 0 < x → qG p l e R s m args below meth c nL D A A' Q cells slots lv rest ws (pc + 3)) : qG p l e R s m args below meth c nL D A A' Q cells slots lv (.int x :: rest) ws pc := fun H locs ls h1 h2 h3 h4 => lv_if_gt C.1 C.2.1 hd ht (fun z => kt z H locs ls h1 h2 h3 h4) (fun z => kf z H locs ls h1 h2 h3 h4)
theorem q_if_le (C : qCx p s m args meth c cc nL own Ts D tys) {x : Int32} {off : Int} {tgt : Nat} (hd : decode cc pc = .ok (.ifCond .le off, 3)) (ht : (pc : Int) + off = (tgt : Int)) (kt : x ≤ 0 → qG p l e R s m args below meth c nL D A A' Q cells slots lv rest ws tgt) (kf : ¬ x ≤ 0 → qG p l e R s m args below meth c nL D A A' Q cells slots lv rest ws (pc + 3)) : qG p l e R s m args below meth c nL D A A' Q cells slots lv (.int x :: rest) ws pc := fun H locs ls h1 h2 h3 h4 => lv_if_le C.1 C.2.1 hd ht (fun z => kt z H locs ls h1 h2 h3 h4) (fun z => kf z H locs ls h1 h2 h3 h4)
theorem q_icmp_eq (C : qCx p s m args meth c cc nL own Ts D tys) {x y : Int32} {off : Int} {tgt : Nat} (hd : decode cc pc = .ok (.if_icmp .eq off, 3)) (ht : (pc : Int) + off = (tgt : Int)) (kt : x = y → qG p l e R s m args below meth c nL D A A' Q cells slots lv rest ws tgt) (kf : ¬ x = y → qG p l e R s m args below meth c nL D A A' Q cells slots lv rest ws (pc + 3)) : qG p l e R s m args below meth c nL D A A' Q cells slots lv (.int y :: .int x :: rest) ws pc := fun H locs ls h1 h2 h3 h4 => lv_icmp_eq C.1 C.2.1 hd ht (fun z => kt z H locs ls h1 h2 h3 h4) (fun z => kf z H locs ls h1 h2 h3 h4)
theorem q_icmp_ne (C : qCx p s m args meth c cc nL own Ts D tys) {x y : Int32} {off : Int} {tgt : Nat} (hd : decode cc pc = .ok (.if_icmp .ne off, 3)) (ht : (pc : Int) + off = (tgt : Int)) (kt : ¬ x = y → qG p l e R s m args below meth c nL D A A' Q cells slots lv rest ws tgt) (kf : x = y → qG p l e R s m args below meth c nL D A A' Q cells slots lv rest ws (pc + 3)) : qG p l e R s m args below meth c nL D A A' Q cells slots lv (.int y :: .int x :: rest) ws pc := fun H locs ls h1 h2 h3 h4 => lv_icmp_ne C.1 C.2.1 hd ht (fun z => kt z H locs ls h1 h2 h3 h4) (fun z => kf z H locs ls h1 h2 h3 h4)
theorem q_icmp_lt (C : qCx p s m args meth c cc nL own Ts D tys) {x y : Int32} {off : Int} {tgt : Nat} (hd : decode cc pc = .ok (.if_icmp .lt off, 3)) (ht : (pc : Int) + off = (tgt : Int)) (kt : x < y → qG p l e R s m args below meth c nL D A A' Q cells slots lv rest ws tgt) (kf : ¬ x < y → qG p l e R s m args below meth c nL D A A' Q cells slots lv rest ws (pc + 3)) : qG p l e R s m args below meth c nL D A A' Q cells slots lv (.int y :: .int x :: rest) ws pc := fun H locs ls h1 h2 h3 h4 => lv_icmp_lt C.1 C.2.1 hd ht (fun z => kt z H locs ls h1 h2 h3 h4) (fun z => kf z H locs ls h1 h2 h3 h4)
theorem q_icmp_ge (C : qCx p s m args meth c cc nL own Ts D tys) {x y : Int32} {off : Int} {tgt : Nat} (hd : decode cc pc = .ok (.if_icmp .ge off, 3)) (ht : (pc : Int) + off = (tgt : Int)) (kt : y ≤ x → qG p l e R s m args below meth c nL D A A' Q cells slots lv rest ws tgt) (kf : ¬ y ≤ x → qG p l e R s m args below meth c nL D A A' Q cells slots lv rest ws (pc + 3)) : qG p l e R s m args below meth c nL D A A' Q cells slots lv (.int y :: .int x :: rest) ws pc := fun H locs ls h1 h2 h3 h4 => lv_icmp_ge C.1 C.2.1 hd ht (fun z => kt z H locs ls h1 h2 h3 h4) (fun z => kf z H locs ls h1 h2 h3 h4)
theorem q_icmp_gt (C : qCx p s m args meth c cc nL own Ts D tys) {x y : Int32} {off : Int} {tgt : Nat} (hd : decode cc pc = .ok (.if_icmp .gt off, 3)) (ht : (pc : Int) + off = (tgt : Int)) (kt : y < x → qG p l e R s m args below meth c nL D A A' Q cells slots lv rest ws tgt) (kf : ¬ y < x → qG p l e R s m args below meth c nL D A A' Q cells slots lv rest ws (pc + 3)) : qG p l e R s m args below meth c nL D A A' Q cells slots lv (.int y :: .int x :: rest) ws pc := fun H locs ls h1 h2 h3 h4 => lv_icmp_gt C.1 C.2.1 hd ht (fun z => kt z H locs ls h1 h2 h3 h4) (fun z => kf z H locs ls h1 h2 h3 h4)
theorem q_icmp_le (C : qCx p s m args meth c cc nL own Ts D tys) {x y : Int32} {off : Int} {tgt : Nat} (hd : decode cc pc = .ok (.if_icmp .le off, 3)) (ht : (pc : Int) + off = (tgt : Int)) (kt : x ≤ y → qG p l e R s m args below meth c nL D A A' Q cells slots lv rest ws tgt) (kf : ¬ x ≤ y → qG p l e R s m args below meth c nL D A A' Q cells slots lv rest ws (pc + 3)) : qG p l e R s m args below meth c nL D A A' Q cells slots lv (.int y :: .int x :: rest) ws pc := fun H locs ls h1 h2 h3 h4 => lv_icmp_le C.1 C.2.1 hd ht (fun z => kt z H locs ls h1 h2 h3 h4) (fun z => kf z H locs ls h1 h2 h3 h4)
theorem q_goto (C : qCx p s m args meth c cc nL own Ts D tys) {off : Int} {tgt : Nat} (hd : decode cc pc = .ok (.goto off, 3)) (ht : (pc : Int) + off = (tgt : Int)) (k : qG p l e R s m args below meth c nL D A A' Q cells slots lv st ws tgt) : qG p l e R s m args below meth c nL D A A' Q cells slots lv st ws pc := fun H locs ls h1 h2 h3 h4 => lv_goto C.1 C.2.1 hd ht (k H locs ls h1 h2 h3 h4)
theorem q_ifnonnull (C : qCx p s m args meth c cc nL own Ts D tys) {x : Nat} {off : Int} {tgt : Nat} (hd : decode cc pc = .ok (.ifnonnull off, 3)) (ht : (pc : Int) + off = (tgt : Int)) (k : qG p l e R s m args below meth c nL D A A' Q cells slots lv rest ws tgt) : qG p l e R s m args below meth c nL D A A' Q cells slots lv (.ref x :: rest) ws pc := fun H locs ls h1 h2 h3 h4 => lv_ifnonnull C.1 C.2.1 hd ht (k H locs ls h1 h2 h3 h4)
theorem q_ifnonnullN (C : qCx p s m args meth c cc nL own Ts D tys) {off : Int} (hd : decode cc pc = .ok (.ifnonnull off, 3)) (k : qG p l e R s m args below meth c nL D A A' Q cells slots lv rest ws (pc + 3)) : qG p l e R s m args below meth c nL D A A' Q cells slots lv (.null :: rest) ws pc := fun H locs ls h1 h2 h3 h4 => lv_ifnonnullN C.1 C.2.1 hd (k H locs ls h1 h2 h3 h4)
theorem q_tab (C : qCx p s m args meth c cc nL own Ts D tys) {dflt lo hi : Int} {offs : Array Int} {len : Nat} {x : Int32} {off : Int} {tgt : Nat} (hd : decode cc pc = .ok (.tableswitch dflt lo hi offs, len)) (v : Int) (hx : x.toInt = v) (h1 : ¬ v < lo) (h2 : ¬ hi < v) (ho : offs[(v - lo).toNat]? = some off) (ht : (pc : Int) + off = (tgt : Int)) (k : qG p l e R s m args below meth c nL D A A' Q cells slots lv rest ws tgt) : qG p l e R s m args below meth c nL D A A' Q cells slots lv (.int x :: rest) ws pc := by
  subst hx
  exact fun H locs ls g1 g2 g3 g4 => lv_tableIn C.1 C.2.1 hd h1 h2 ho ht (k H locs ls g1 g2 g3 g4)
theorem q_tabD (C : qCx p s m args meth c cc nL own Ts D tys) {dflt lo hi : Int} {offs : Array Int} {len : Nat} {x : Int32} {tgt : Nat} (hd : decode cc pc = .ok (.tableswitch dflt lo hi offs, len)) (h : x.toInt < lo ∨ hi < x.toInt) (ht : (pc : Int) + dflt = (tgt : Int)) (k : qG p l e R s m args below meth c nL D A A' Q cells slots lv rest ws tgt) : qG p l e R s m args below meth c nL D A A' Q cells slots lv (.int x :: rest) ws pc :=
  fun H locs ls g1 g2 g3 g4 => lv_tableOut C.1 C.2.1 hd h ht (k H locs ls g1 g2 g3 g4)
theorem q_lookup (C : qCx p s m args meth c cc nL own Ts D tys) {dflt : Int} {ps : Array (Int × Int)} {len : Nat} {x : Int32} {off : Int} {tgt : Nat} (hd : decode cc pc = .ok (.lookupswitch dflt ps, len)) (hp : (ps.toList.zip (ps.toList.drop 1)).all (fun (a, next) => a.1 < next.1) = true) (ho : Op.lookupswitch.offset ps.toList dflt x.toInt = off) (ht : (pc : Int) + off = (tgt : Int)) (k : qG p l e R s m args below meth c nL D A A' Q cells slots lv rest ws tgt) : qG p l e R s m args below meth c nL D A A' Q cells slots lv (.int x :: rest) ws pc :=
  fun H locs ls g1 g2 g3 g4 => lv_lookup C.1 C.2.1 hd hp ho ht (k H locs ls g1 g2 g3 g4)
theorem q_get (C : qCx p s m args meth c cc nL own Ts D tys) {ref C0 : String} {T : u_T} {N ci index a k0 : Nat} {fs : List Value} (hin : ∀ w ∈ u_ws C0 T N, w ∈ Ts) (q0 : Nat) (he : ws[q0]? = some (a, .inr (ci, fs))) (hc : vwCl[ci]? = some (C0, T, N)) (hk : k0 < N) (hlk : Cond.fieldLink own index ref (T k0).2.1 (T k0).2.2.1 ∈ Ts) (hsm : (T k0).1 = ref) {v : Value} (hv : fs[k0]? = some v) (hd : decode cc pc = .ok (.getfield index, 3)) (k : qG p l e R s m args below meth c nL D A A' Q cells slots lv (v :: rest) ws (pc + 3)) : qG p l e R s m args below meth c nL D A A' Q cells slots lv (.ref a :: rest) ws pc := fun H locs ls h1 h2 h3 h4 =>
  va_get C.1 C.2.1 C.2.2.2.2.1 hin C.2.2.2.1 C.2.2.2.2.2.1 h2 q0 he hc k0 hk (C.2.2.2.2.1 _ hlk) (fun x9 h9 => by rw [← hsm]; exact h9) hv hd (k H locs ls h1 h2 h3 h4)
theorem q_put (C : qCx p s m args meth c cc nL own Ts D tys) {ref C0 : String} {T : u_T} {N ci index a k0 : Nat} {fs : List Value} (hin : ∀ w ∈ u_ws C0 T N, w ∈ Ts) (q0 : Nat) (he : ws[q0]? = some (a, .inr (ci, fs))) (hc : vwCl[ci]? = some (C0, T, N)) (hk : k0 < N) (hlk : Cond.fieldLink own index ref (T k0).2.1 (T k0).2.2.1 ∈ Ts) (hsm : (T k0).1 = ref) (ty0 : Nat → FieldType) (hty : ∀ k, k < N → parseFieldDescriptor (T k).2.2.1 = some (ty0 k)) (hnm : ∀ a, a < N → ∀ b, b < N → a ≠ b → (T a).2.1 ≠ (T b).2.1) (hfin : (T k0).2.2.2 = false) {v : Value} (hn : narrow (ty0 k0) v = v) (hfit : fits (ty0 k0) v = true) (hl : k0 < fs.length) (ws1 : va_W) (hw : ws.set q0 (a, .inr (ci, fs.set k0 v)) = ws1) (hd : decode cc pc = .ok (.putfield index, 3)) (k : qG p l e R s m args below meth c nL D A A Q cells slots lv rest ws1 (pc + 3)) : qG p l e R s m args below meth c nL D A A Q cells slots lv (v :: .ref a :: rest) ws pc := fun H locs ls h1 h2 h3 h4 =>
  va_put C.1 C.2.1 C.2.2.2.2.1 hin ty0 hty hnm C.2.2.2.1 C.2.2.2.2.2.1 h2 h3 h4 q0 he hc k0 hk (C.2.2.2.2.1 _ hlk) (fun x9 h9 => by rw [← hsm]; exact h9) hfin (hty k0 hk) hn hfit hl hd (fun H1 locs1 g2 g3 g4 => k H1 locs1 ls h1 (hw ▸ g2) (hw ▸ g3) g4)
theorem q_putF (C : qCx p s m args meth c cc nL own Ts D tys) {ref C0 : String} {T : u_T} {N ci index a k0 : Nat} {fs : List Value} (hin : ∀ w ∈ u_ws C0 T N, w ∈ Ts) (q0 : Nat) (he : ws[q0]? = some (a, .inr (ci, fs))) (hc : vwCl[ci]? = some (C0, T, N)) (hk : k0 < N) (hlk : Cond.fieldLink own index ref (T k0).2.1 (T k0).2.2.1 ∈ Ts) (hsm : (T k0).1 = ref) (ty0 : Nat → FieldType) (hty : ∀ k, k < N → parseFieldDescriptor (T k).2.2.1 = some (ty0 k)) (hnm : ∀ a, a < N → ∀ b, b < N → a ≠ b → (T a).2.1 ≠ (T b).2.1) (hfin : (T k0).2.2.2 = true) (hin2 : meth.name = "<init>") (hdecl : (T k0).1 = own) {v : Value} (hn : narrow (ty0 k0) v = v) (hfit : fits (ty0 k0) v = true) (hl : k0 < fs.length) (ws1 : va_W) (hw : ws.set q0 (a, .inr (ci, fs.set k0 v)) = ws1) (hd : decode cc pc = .ok (.putfield index, 3)) (k : qG p l e R s m args below meth c nL D A A Q cells slots lv rest ws1 (pc + 3)) : qG p l e R s m args below meth c nL D A A Q cells slots lv (v :: .ref a :: rest) ws pc := fun H locs ls h1 h2 h3 h4 =>
  va_putF C.1 C.2.1 C.2.2.2.2.1 hin ty0 hty hnm C.2.2.2.1 C.2.2.2.2.2.1 h2 h3 h4 q0 he hc k0 hk (C.2.2.2.2.1 _ hlk) (fun x9 h9 => by rw [← hsm]; exact h9) hfin hin2 hdecl (hty k0 hk) hn hfit hl hd (fun H1 locs1 g2 g3 g4 => k H1 locs1 ls h1 (hw ▸ g2) (hw ▸ g3) g4)
theorem q_iald (C : qCx p s m args meth c cc nL own Ts D tys) (q0 t0 : Nat) {cA : ClassId} {n a : Nat} {f : Nat → Int32} (ha : ws[q0]? = some (a, .inl (cA, n, .inl f))) (ht : tys[t0]? = some (cA, .int)) {i : Int32} (hin : vp_in i n) (hd : decode cc pc = .ok (.iaload, 1)) (k : qG p l e R s m args below meth c nL D A A' Q cells slots lv (.int (f i.toNatClampNeg) :: rest) ws (pc + 1)) : qG p l e R s m args below meth c nL D A A' Q cells slots lv (.int i :: .ref a :: rest) ws pc := fun H locs ls h1 h2 h3 h4 =>
  va_iald C.1 C.2.1 C.2.2.2.2.2.1 h2 q0 t0 ha ht hin hd (k H locs ls h1 h2 h3 h4)
theorem q_zald (C : qCx p s m args meth c cc nL own Ts D tys) (q0 t0 : Nat) {cA : ClassId} {n a : Nat} {f : Nat → Int32} (ha : ws[q0]? = some (a, .inl (cA, n, .inl f))) (ht : tys[t0]? = some (cA, .boolean)) {i : Int32} (hin : vp_in i n) (hd : decode cc pc = .ok (.baload, 1)) (k : qG p l e R s m args below meth c nL D A A' Q cells slots lv (.int (f i.toNatClampNeg) :: rest) ws (pc + 1)) : qG p l e R s m args below meth c nL D A A' Q cells slots lv (.int i :: .ref a :: rest) ws pc := fun H locs ls h1 h2 h3 h4 =>
  va_zald C.1 C.2.1 C.2.2.2.2.2.1 h2 q0 t0 ha ht hin hd (k H locs ls h1 h2 h3 h4)
theorem q_aald (C : qCx p s m args meth c cc nL own Ts D tys) (q0 t0 : Nat) {cA : ClassId} {n a : Nat} {C0 : String} {f : Nat → Option Nat} (ha : ws[q0]? = some (a, .inl (cA, n, .inr (.inr (.inr (.inr f)))))) (ht : tys[t0]? = some (cA, .object C0)) {i : Int32} (hin : vp_in i n) (v : Value) (hv : va_rf (f i.toNatClampNeg) = v) (hd : decode cc pc = .ok (.aaload, 1)) (k : qG p l e R s m args below meth c nL D A A' Q cells slots lv (v :: rest) ws (pc + 1)) : qG p l e R s m args below meth c nL D A A' Q cells slots lv (.int i :: .ref a :: rest) ws pc := by
  subst hv
  exact fun H locs ls h1 h2 h3 h4 => va_aldq C.1 C.2.1 C.2.2.2.2.2.1 h2 q0 t0 ha ht hin hd (k H locs ls h1 h2 h3 h4)
theorem q_iast (C : qCx p s m args meth c cc nL own Ts D tys) (q0 t0 : Nat) {cA : ClassId} {n a : Nat} {f : Nat → Int32} (ha : ws[q0]? = some (a, .inl (cA, n, .inl f))) (ht : tys[t0]? = some (cA, .int)) {i x : Int32} (hin : vp_in i n) (ws1 : va_W) (hw : ws.set q0 (a, .inl (cA, n, .inl (upd f i.toNatClampNeg x))) = ws1) (hd : decode cc pc = .ok (.iastore, 1)) (k : qG p l e R s m args below meth c nL D A A Q cells slots lv rest ws1 (pc + 1)) : qG p l e R s m args below meth c nL D A A Q cells slots lv (.int x :: .int i :: .ref a :: rest) ws pc := fun H locs ls h1 h2 h3 h4 =>
  va_iast C.1 C.2.1 C.2.2.2.2.2.1 h2 h3 h4 q0 t0 ha ht hin hd (fun H1 locs1 g2 g3 g4 => k H1 locs1 ls h1 (hw ▸ g2) (hw ▸ g3) g4)
theorem q_zast (C : qCx p s m args meth c cc nL own Ts D tys) (q0 t0 : Nat) {cA : ClassId} {n a : Nat} {f : Nat → Int32} (ha : ws[q0]? = some (a, .inl (cA, n, .inl f))) (ht : tys[t0]? = some (cA, .boolean)) {i x : Int32} (hin : vp_in i n) (ws1 : va_W) (hw : ws.set q0 (a, .inl (cA, n, .inl (upd f i.toNatClampNeg (x &&& 1)))) = ws1) (hd : decode cc pc = .ok (.bastore, 1)) (k : qG p l e R s m args below meth c nL D A A Q cells slots lv rest ws1 (pc + 1)) : qG p l e R s m args below meth c nL D A A Q cells slots lv (.int x :: .int i :: .ref a :: rest) ws pc := fun H locs ls h1 h2 h3 h4 =>
  va_zast C.1 C.2.1 C.2.2.2.2.2.1 h2 h3 h4 q0 t0 ha ht hin hd (fun H1 locs1 g2 g3 g4 => k H1 locs1 ls h1 (hw ▸ g2) (hw ▸ g3) g4)
theorem q_aast (C : qCx p s m args meth c cc nL own Ts D tys) (q0 t0 qk ci : Nat) {cA : ClassId} {r : vw_C} {n v a : Nat} {vs : List Value} {f : Nat → Option Nat} (ha : ws[q0]? = some (a, .inl (cA, n, .inr (.inr (.inr (.inr f)))))) (ht : tys[t0]? = some (cA, .object r.1)) (hv : ws[qk]? = some (v, .inr (ci, vs))) (hc : vwCl[ci]? = some r) {i : Int32} (hin : vp_in i n) (ws1 : va_W) (hw : ws.set q0 (a, .inl (cA, n, .inr (.inr (.inr (.inr (va_up f i.toNatClampNeg (some v))))))) = ws1) (hd : decode cc pc = .ok (.aastore, 1)) (k : qG p l e R s m args below meth c nL D A A Q cells slots lv rest ws1 (pc + 1)) : qG p l e R s m args below meth c nL D A A Q cells slots lv (.ref v :: .int i :: .ref a :: rest) ws pc := fun H locs ls h1 h2 h3 h4 =>
  va_astq C.1 C.2.1 C.2.2.2.2.2.1 h2 h3 h4 q0 t0 qk ci ha ht hv hc hin hd (fun H1 locs1 g2 g3 g4 => k H1 locs1 ls h1 (hw ▸ g2) (hw ▸ g3) g4)
theorem q_alen (C : qCx p s m args meth c cc nL own Ts D tys) (q0 t0 : Nat) {cA : ClassId} {a : Nat} {x : vp_A} (ha : ws[q0]? = some (a, .inl (cA, x))) {ty : FieldType} (ht : tys[t0]? = some (cA, ty)) {v : Int32} (hv : Int32.ofNat x.1 = v) (hd : decode cc pc = .ok (.arraylength, 1)) (k : qG p l e R s m args below meth c nL D A A' Q cells slots lv (.int v :: rest) ws (pc + 1)) : qG p l e R s m args below meth c nL D A A' Q cells slots lv (.ref a :: rest) ws pc := fun H locs ls h1 h2 h3 h4 =>
  va_alen C.1 C.2.1 C.2.2.2.2.2.1 h2 q0 t0 ha ht hv hd (k H locs ls h1 h2 h3 h4)
theorem q_mmin (C : qCx p s m args meth c cc nL own Ts D tys) {index : Nat} {x y : Int32} (hl : Cond.methodLink own index Lib.Math.min.name ∈ Ts) (hst : Cond.static Lib.Math.min.name ∈ Ts) (hi : Cond.initialized "java/lang/Math" ∈ Ts) (hcd : Cond.code Lib.Math.min.name Lib.Math.min.code 2 (some .int) ∈ Ts) (hf : 1 ≤ R.frames) (hlo : (rest.map fun v => v.category).sum + 13 ≤ R.locals) (hc : cells ≤ R.cells) (hs : slots ≤ R.slots) (hd : decode cc pc = .ok (.invokestatic index, 3)) (k : qG p l e R s m args below meth c nL D A A' Q cells slots lv (.int (if y < x then y else x) :: rest) ws (pc + 3)) : qG p l e R s m args below meth c nL D A A' Q cells slots lv (.int y :: .int x :: rest) ws pc := fun H locs ls h1 h2 h3 h4 =>
  va_mmin C.1 C.2.1 (by rw [C.2.2.1]; exact h1.1.symm) C.2.2.2.1 (C.2.2.2.2.1 _ hl) (C.2.2.2.2.1 _ hst) (C.2.2.2.2.1 _ hi) (C.2.2.2.2.1 _ hcd) hf hlo hc hs hd (k H locs ls h1 h2 h3 h4)
theorem q_mmax (C : qCx p s m args meth c cc nL own Ts D tys) {index : Nat} {x y : Int32} (hl : Cond.methodLink own index Lib.Math.max.name ∈ Ts) (hst : Cond.static Lib.Math.max.name ∈ Ts) (hi : Cond.initialized "java/lang/Math" ∈ Ts) (hcd : Cond.code Lib.Math.max.name Lib.Math.max.code 2 (some .int) ∈ Ts) (hf : 1 ≤ R.frames) (hlo : (rest.map fun v => v.category).sum + 13 ≤ R.locals) (hc : cells ≤ R.cells) (hs : slots ≤ R.slots) (hd : decode cc pc = .ok (.invokestatic index, 3)) (k : qG p l e R s m args below meth c nL D A A' Q cells slots lv (.int (if x < y then y else x) :: rest) ws (pc + 3)) : qG p l e R s m args below meth c nL D A A' Q cells slots lv (.int y :: .int x :: rest) ws pc := fun H locs ls h1 h2 h3 h4 =>
  va_mmax C.1 C.2.1 (by rw [C.2.2.1]; exact h1.1.symm) C.2.2.2.1 (C.2.2.2.2.1 _ hl) (C.2.2.2.2.1 _ hst) (C.2.2.2.2.1 _ hi) (C.2.2.2.2.1 _ hcd) hf hlo hc hs hd (k H locs ls h1 h2 h3 h4)
theorem q_mmaxL (C : qCx p s m args meth c cc nL own Ts D tys) {index : Nat} {x y : Int64} (hl : Cond.methodLink own index Lib.MathLoose.max_long.x ∈ Ts) (hst : Cond.static Lib.MathLoose.max_long.x ∈ Ts) (hi : Cond.initialized "java/lang/Math" ∈ Ts) (hcd : Cond.code Lib.MathLoose.max_long.x Lib.MathLoose.max_long.code 4 (some .long) ∈ Ts) (hf : 1 ≤ R.frames) (hlo : (rest.map fun v => v.category).sum + 15 ≤ R.locals) (hc : cells ≤ R.cells) (hs : slots ≤ R.slots) (hd : decode cc pc = .ok (.invokestatic index, 3)) (k : qG p l e R s m args below meth c nL D A A' Q cells slots lv (.long (if y < x then x else y) :: rest) ws (pc + 3)) : qG p l e R s m args below meth c nL D A A' Q cells slots lv (.long y :: .long x :: rest) ws pc := fun H locs ls h1 h2 h3 h4 =>
  va_mmax_long C.1 C.2.1 (by rw [C.2.2.1]; exact h1.1.symm) C.2.2.2.1 (C.2.2.2.2.1 _ hl) (C.2.2.2.2.1 _ hst) (C.2.2.2.2.1 _ hi) (C.2.2.2.2.1 _ hcd) hf hlo hc hs hd (k H locs ls h1 h2 h3 h4)
theorem q_newa (C : qCx p s m args meth c cc nL own Ts D tys) (hA : ∀ q, s.heap.size ≤ q → A q) {atype : ArrayType} (hm : Cond.arrayClass (newarray.typeOf atype) ∈ Ts) {ty : FieldType} (hty : newarray.typeOf atype = ty) (t0 : Nat) {cA : ClassId} (ht : tys[t0]? = some (cA, ty)) (hprim : ∀ cB : ClassId, va_RA s cA ty → va_RA s cB ty → cB = cA) {n : Int32} {N' : Nat} {a0 : vp_A} (ha : ∀ cA : ClassId, vp_cell cA a0 = arrV cA N' (fun _ => defaultValue ty)) (hn : ¬ n < 0) (hN : n.toNatClampNeg = N') (hby : N' * componentBytes ty ≤ 536870912) (hcells : cells + 1 ≤ R.cells) (hslots : slots + N' ≤ R.slots) (hd : decode cc pc = .ok (.newarray atype, 2))
    (k : ∀ q : Nat, qG p l e R s m args below meth c nL D A A Q (cells + 1) (slots + N') lv (.ref q :: rest) (ws ++ [(q, .inl (cA, a0))]) (pc + 2)) : qG p l e R s m args below meth c nL D A A Q cells slots lv (.int n :: rest) ws pc := fun H locs ls h1 h2 h3 h4 =>
  va_newa C.1 C.2.1 (C.2.2.2.2.1 _ hm) hty C.2.2.2.2.2.1 h2 h3 h4 hA ha hn hN hby hcells hslots hd (fun q cB H1 gK g2 g3 g4 => by
    have e1 : cB = cA := hprim cB (gK.2 t0 _ ((List.getElem?_append_left (List.getElem?_eq_some_iff.mp ht).1).trans ht)).2 (gK.2 tys.length _ (by rw [List.getElem?_append_right (Nat.le_refl _), Nat.sub_self]; rfl)).2
    subst e1
    exact k q H1 locs ls h1 g2 g3 g4)
theorem q_newq (C : qCx p s m args meth c cc nL own Ts D tys) (hA : ∀ q, s.heap.size ≤ q → A q) {index : Nat} (hm : Cond.classLink own index "SealStrait$Image" ∈ Ts) (t0 : Nat) {cA : ClassId} (ht : tys[t0]? = some (cA, .object "SealStrait$Image")) {n : Int32} {N' : Nat} (hn : ¬ n < 0) (hN : n.toNatClampNeg = N') (hby : N' * 4 ≤ 536870912) (hcells : cells + 1 ≤ R.cells) (hslots : slots + N' ≤ R.slots) (hd : decode cc pc = .ok (.anewarray index, 3))
    (k : ∀ q : Nat, qG p l e R s m args below meth c nL D A A Q (cells + 1) (slots + N') lv (.ref q :: rest) (ws ++ [(q, .inl (cA, N', .inr (.inr (.inr (.inr (fun _ => none))))))]) (pc + 3)) : qG p l e R s m args below meth c nL D A A Q cells slots lv (.int n :: rest) ws pc := fun H locs ls h1 h2 h3 h4 =>
  va_newq C.1 C.2.1 C.2.2.2.1 (C.2.2.2.2.1 _ hm) C.2.2.2.2.2.2.1.2 C.2.2.2.2.2.1 h2 h3 h4 hA hn hN hby hcells hslots hd (fun q cB H1 gK g2 g3 g4 => by
    have e1 : cB = cA := by
      obtain ⟨_, _, _, _, _, f1⟩ := (gK.2 t0 _ ((List.getElem?_append_left (List.getElem?_eq_some_iff.mp ht).1).trans ht)).2
      obtain ⟨_, _, _, _, _, f2⟩ := (gK.2 tys.length _ (by rw [List.getElem?_append_right (Nat.le_refl _), Nat.sub_self]; rfl)).2
      exact Option.some.inj (f2.symm.trans f1)
    subst e1
    exact k q H1 locs ls h1 g2 g3 g4)
theorem q_new (C : qCx p s m args meth c cc nL own Ts D tys) (hA : ∀ q, s.heap.size ≤ q → A q) {C0 : String} {T : u_T} {N ci index : Nat} (hin : ∀ w ∈ u_ws C0 T N, w ∈ Ts) (ty : Nat → FieldType) (hty : ∀ k, k < N → parseFieldDescriptor (T k).2.2.1 = some (ty k)) (hm1 : Cond.classLink own index C0 ∈ Ts) (hm2 : Cond.instantiable C0 N ∈ Ts) (hm3 : Cond.initialized C0 ∈ Ts) (hc : vwCl[ci]? = some (C0, T, N)) {fs : List Value} (hfs : ∀ j, j < N → defaultValue (ty j) = vp_V fs j) (hcells : cells + 1 ≤ R.cells) (hslots : slots + N ≤ R.slots) (hd : decode cc pc = .ok (.new index, 3))
    (k : ∀ q : Nat, qG p l e R s m args below meth c nL D A A Q (cells + 1) (slots + N) lv (.ref q :: st) (ws ++ [(q, .inr (ci, fs))]) (pc + 3)) : qG p l e R s m args below meth c nL D A A Q cells slots lv st ws pc := fun H locs ls h1 h2 h3 h4 =>
  va_new C.1 C.2.1 C.2.2.2.2.1 hin ty hty C.2.2.2.1 (C.2.2.2.2.1 _ hm1) (C.2.2.2.2.1 _ hm2) (C.2.2.2.2.1 _ hm3) C.2.2.2.2.2.1 h2 h3 h4 hA hc hfs hcells hslots hd (fun q H1 g2 g3 g4 => k q H1 locs ls h1 g2 g3 g4)
theorem q_objInit (C : qCx p s m args meth c cc nL own Ts D tys) {index a : Nat} (hm1 : Cond.methodLink own index objectInit ∈ Ts) (hm2 : Cond.instanceMethod objectInit ∈ Ts) (hm3 : Cond.code objectInit ⟨#[0xb1]⟩ 1 none ∈ Ts) (hf : 1 ≤ R.frames) (hlo : (rest.map fun v => v.category).sum + 12 ≤ R.locals) (hd : decode cc pc = .ok (.invokespecial index, 3)) (k : qG p l e R s m args below meth c nL D A A' Q cells slots lv rest ws (pc + 3)) : qG p l e R s m args below meth c nL D A A' Q cells slots lv (.ref a :: rest) ws pc := fun H locs ls h1 h2 h3 h4 =>
  W.objInit C.1 C.2.1 C.2.2.2.1 (C.2.2.2.2.1 _ hm1) (C.2.2.2.2.1 _ hm2) (C.2.2.2.2.1 _ hm3) rfl (by rw [C.2.2.1]; exact h1.1) rfl hd hf (by show 2 * 0 + _ + 12 ≤ _; omega) (k H locs ls h1 h2 h3 h4)
theorem q_cells {k n : Nat} (h1 : cells ≤ k) (h2 : slots ≤ n) (kk : qG p l e R s m args below meth c nL D A A' Q k n lv st ws pc) : qG p l e R s m args below meth c nL D A A' Q cells slots lv st ws pc := fun H locs ls g1 g2 g3 g4 => W.widen h1 h2 (kk H locs ls g1 g2 g3 g4)
theorem q_lsel {lv1 : List (Nat × Value)} (ks : List Nat) (h : lv_pick lv ks = lv1) (k : qG p l e R s m args below meth c nL D A A' Q cells slots lv1 st ws pc) : qG p l e R s m args below meth c nL D A A' Q cells slots lv st ws pc := fun H locs ls g1 g2 g3 g4 => k H locs ls (lv_sub g1 ks h) g2 g3 g4
theorem q_wsub {ws1 : va_W} (is : List Nat) (hn : va_nd is = true) (hs : is.map (fun i => ws[i]?) = ws1.map some) (k : qG p l e R s m args below meth c nL D A A' Q cells slots lv st ws1 pc) : qG p l e R s m args below meth c nL D A A' Q cells slots lv st ws pc := fun H locs ls g1 g2 g3 g4 => k H locs ls g1 (g2.sub is (q_fm hs)) (g3.sub is hn hs) g4
theorem q_ireti (C : qCx p s m args meth c cc nL own Ts D tys) (hA0 : A = (fun _ => False)) {v : Int32} (hr : meth.sig.returnType = some .int) (hd : decode cc pc = .ok (.ireturn, 1)) (hQ : Q = MQ below (qRi v) args s cells slots A) : qG p l e R s m args below meth c nL D A A' Q cells slots lv [.int v] ws pc := by
  subst hA0; subst hQ; exact fun H locs ls h1 h2 h3 h4 =>
  W.iret C.1 C.2.1 hr (fun t ht hW => ⟨⟨v, (), rfl, rfl, trivial⟩, h4.F ht⟩) h4.2.2 hd C.2.2.2.2.2.2.2
theorem q_iretz (C : qCx p s m args meth c cc nL own Ts D tys) (hA0 : A = (fun _ => False)) {v : Int32} (hr : meth.sig.returnType = some .boolean) (hz : v = 0 ∨ v = 1) (hd : decode cc pc = .ok (.ireturn, 1)) (hQ : Q = MQ below (qRz v) args s cells slots A) : qG p l e R s m args below meth c nL D A A' Q cells slots lv [.int v] ws pc := by
  subst hA0; subst hQ; exact fun H locs ls h1 h2 h3 h4 =>
  W.zret C.1 C.2.1 hr (q_nb hz) (fun t ht hW => ⟨⟨v, (), rfl, ⟨rfl, hz⟩, trivial⟩, h4.F ht⟩) h4.2.2 hd C.2.2.2.2.2.2.2
theorem q_iretl (C : qCx p s m args meth c cc nL own Ts D tys) (hA0 : A = (fun _ => False)) {v : Int64} (hr : meth.sig.returnType = some .long) (hd : decode cc pc = .ok (.lreturn, 1)) (hQ : Q = MQ below (qRl v) args s cells slots A) : qG p l e R s m args below meth c nL D A A' Q cells slots lv [.long v] ws pc := by
  subst hA0; subst hQ; exact fun H locs ls h1 h2 h3 h4 =>
  W.lret C.1 C.2.1 hr (fun t ht hW => ⟨⟨v, (), rfl, rfl, trivial⟩, h4.F ht⟩) h4.2.2 hd C.2.2.2.2.2.2.2
theorem q_wreti (C : qCx p s m args meth c cc nL own Ts D tys) {v : Int32} (hr : meth.sig.returnType = some .int) (hd : decode cc pc = .ok (.ireturn, 1)) (hQ : Q = MQ below (qWi v D ws A) args s cells slots A) : qG p l e R s m args below meth c nL D A A Q cells slots lv [.int v] ws pc := by
  subst hQ; exact fun H locs ls h1 h2 h3 h4 =>
  W.iret C.1 C.2.1 hr (fun t ht hW => ⟨⟨v, (), rfl, rfl, by rw [ht]; exact h2, h3⟩, h4.F ht⟩) h4.2.2 hd C.2.2.2.2.2.2.2
theorem q_wretz (C : qCx p s m args meth c cc nL own Ts D tys) {v : Int32} (hr : meth.sig.returnType = some .boolean) (hz : v = 0 ∨ v = 1) (hd : decode cc pc = .ok (.ireturn, 1)) (hQ : Q = MQ below (qWz v D ws A) args s cells slots A) : qG p l e R s m args below meth c nL D A A Q cells slots lv [.int v] ws pc := by
  subst hQ; exact fun H locs ls h1 h2 h3 h4 =>
  W.zret C.1 C.2.1 hr (q_nb hz) (fun t ht hW => ⟨⟨v, (), rfl, ⟨rfl, hz⟩, by rw [ht]; exact h2, h3⟩, h4.F ht⟩) h4.2.2 hd C.2.2.2.2.2.2.2
theorem q_wretl (C : qCx p s m args meth c cc nL own Ts D tys) {v : Int64} (hr : meth.sig.returnType = some .long) (hd : decode cc pc = .ok (.lreturn, 1)) (hQ : Q = MQ below (qWl v D ws A) args s cells slots A) : qG p l e R s m args below meth c nL D A A Q cells slots lv [.long v] ws pc := by
  subst hQ; exact fun H locs ls h1 h2 h3 h4 =>
  W.lret C.1 C.2.1 hr (fun t ht hW => ⟨⟨v, (), rfl, rfl, by rw [ht]; exact h2, h3⟩, h4.F ht⟩) h4.2.2 hd C.2.2.2.2.2.2.2
theorem q_wretv (C : qCx p s m args meth c cc nL own Ts D tys) (hr : meth.sig.returnType = none) (hd : decode cc pc = .ok (.return_, 1)) (hQ : Q = MQ below (qWv D ws A) args s cells slots A) : qG p l e R s m args below meth c nL D A A Q cells slots lv [] ws pc := by
  subst hQ; exact fun H locs ls h1 h2 h3 h4 =>
  W.vret C.1 C.2.1 hr (fun t ht hW => ⟨⟨(), rfl, trivial, by rw [ht]; exact h2, h3⟩, h4.F ht⟩) h4.2.2 hd C.2.2.2.2.2.2.2
theorem q_nretv (C : qCx p s m args meth c cc nL own Ts D tys) {S : Type} {W1 : S → va_W} (u : S) (hu : W1 u = ws) (hr : meth.sig.returnType = none) (hd : decode cc pc = .ok (.return_, 1)) (hQ : Q = MQ below (qNv D W1 A) args s cells slots A) : qG p l e R s m args below meth c nL D A A Q cells slots lv [] ws pc := by
  subst hQ; exact fun H locs ls h1 h2 h3 h4 =>
  W.vret C.1 C.2.1 hr (fun t ht hW => ⟨⟨u, rfl, trivial, by rw [ht, hu]; exact h2, by rw [hu]; exact h3⟩, h4.F ht⟩) h4.2.2 hd C.2.2.2.2.2.2.2
theorem q_met_r {y : MethodName} {wsy ws' : List Cond} {rm : Room} {maxL : Nat} {ret : Option FieldType} {av : List Value} {w0 : va_W} {sz : Nat} {Qc : Array Value → State → Outcome → State → Prop} (hy : plainName y.cls = true) (hw : wsy = Cond.code y cc maxL ret :: ws') (ho : y.cls = own) {lv0 : List (Nat × Value)} (hlv : lv_args 0 av = lv0) (hlen : (lg_sl av).length ≤ maxL)
    (body : ∀ (p : Program) (e : Env) (s : State) (m : MethodId) (args : Array Value) (below : List Frame) (meth : Method) (c : Code), qCx p s m args meth c cc maxL own wsy D tys → meth.sig.returnType = ret → ∀ (A A' : Nat → Prop) (Q : State → Prop), A = (fun _ => False) → Q = MQ below Qc args s 0 0 A → qG p l e rm s m args below meth c maxL D A A' Q 0 0 lv0 [] w0 0) : Met l y wsy rm (qPc av D tys w0 sz) Qc 0 0 (fun _ => False) := by
  refine Met.ofW (cc := cc) (maxL := maxL) (ret := ret) hy hw ?_
  intro p e s m args below meth c s₁ B hml hv
  obtain ⟨rfl, hsz, hP, hK, hD, hN⟩ := hv
  have hl := lv_entry av (n := maxL) hlen
  rw [lg_entry_eq]
  rw [hlv] at hl
  subst ho
  exact body p e s m _ below meth c ⟨B.exec, B.bytes, hml, findClass_of_methodNamed B.named, atoms_spec (ws := wsy) B.pre, hK, hN, B.notSynchronized⟩ B.returns _ _ _ rfl rfl s.heap [] _ hl hP hD va_S.rf
theorem q_met_w {y : MethodName} {wsy ws' : List Cond} {rm : Room} {maxL mc ms : Nat} {ret : Option FieldType} {av : List Value} {w0 : va_W} {sz : Nat} {Qc : (Nat → Prop) → Array Value → State → Outcome → State → Prop} (hy : plainName y.cls = true) (hw : wsy = Cond.code y cc maxL ret :: ws') (ho : y.cls = own) {lv0 : List (Nat × Value)} (hlv : lv_args 0 av = lv0) (hlen : (lg_sl av).length ≤ maxL)
    (body : ∀ (p : Program) (e : Env) (s : State) (m : MethodId) (args : Array Value) (below : List Frame) (meth : Method) (c : Code) (A : Nat → Prop), (∀ q, s.heap.size ≤ q → A q) → qCx p s m args meth c cc maxL own wsy D tys → meth.sig.returnType = ret → meth.name = y.name → ∀ (Q : State → Prop), Q = MQ below (Qc A) args s mc ms A → qG p l e rm s m args below meth c maxL D A A Q 0 0 lv0 [] w0 0) : Met l y wsy rm (qPc av D tys w0 sz) (Qc (va_A w0 sz)) mc ms (va_A w0 sz) := by
  refine Met.ofW (cc := cc) (maxL := maxL) (ret := ret) hy hw ?_
  intro p e s m args below meth c s₁ B hml hv
  obtain ⟨rfl, hsz, hP, hK, hD, hN⟩ := hv
  have hl := lv_entry av (n := maxL) hlen
  rw [lg_entry_eq]
  rw [hlv] at hl
  subst ho
  subst hsz
  exact body p e s m _ below meth c _ (fun q h => Or.inr h) ⟨B.exec, B.bytes, hml, findClass_of_methodNamed B.named, atoms_spec (ws := wsy) B.pre, hK, hN, B.notSynchronized⟩ B.returns (name_of_methodNamed B.named B.method).1 _ rfl s.heap [] _ hl hP (hD.self) va_S.rf
theorem q_runV (C : qCx p s m args meth c cc nL own Ts D tys) {y : MethodName} {bytes : ByteArray} {maxL n index mc ms : Nat} {ret : Option FieldType} {wsy : List Cond} {rm : Room} {As : List Value} {wc : va_W} {Qc : Nat → Array Value → State → Outcome → State → Prop} {free : Nat → Addr → Prop} {C0 : String} {b ci : Nat} {fs : List Value} {q : vw_C} (hM : ∀ sz, Met l y wsy rm (qPc (.ref b :: As) D tys wc sz) (Qc sz) mc ms (free sz)) (cw : CallW R s args own C0 index y bytes maxL ret wsy rm mc ms n) (q0 : Nat) (hb0 : ws[q0]? = some (b, .inr (ci, fs))) (hc : vwCl[ci]? = some q) (hq : q.1 = C0) (isC : List Nat) (hC : isC.map (fun i => ws[i]?) = wc.map some) (hnd : va_nd isC = true) (hn : As.length = n) (hst : st = As.reverse ++ .ref b :: rest) (hW : (rest.map fun v => v.category).sum ≤ 8) (hd : decode cc pc = .ok (.invokevirtual index, 3)) (hf : cells + mc ≤ R.cells ∧ slots + ms ≤ R.slots) : ∀ (H : Heap) (locs : List Loc) (ls : Array Slot), lv_has ls nL lv → va_P D vwCl ws H → va_D A' ws → va_S A s.heap H locs → va_Run p l e R s m args below meth c H locs cells slots mc ms (F0 m pc ls st) rest (Qc H.size (Value.ref b :: As).toArray) (free H.size) := fun H locs ls h1 h2 h3 h4 => by
  subst hq
  exact va_runV (As := As) (rest := rest) (nL := nL) ⟨C.1, C.2.1, C.2.2.1, C.2.2.2.1, C.2.2.2.2.1⟩ (hM H.size) cw ⟨qPc.blind, va_recv C.2.2.2.2.2.1 h2 hc hb0, qPc.pre C (h2.sub isC (q_fm hC)) (h3.sub isC hnd hC)⟩ rfl hn h1.1 hst (lv_room hW) hd hf
theorem q_runS (C : qCx p s m args meth c cc nL own Ts D tys) {y : MethodName} {bytes : ByteArray} {maxL n index mc ms : Nat} {ret : Option FieldType} {wsy : List Cond} {rm : Room} {As : List Value} {wc : va_W} {Qc : Nat → Array Value → State → Outcome → State → Prop} {free : Nat → Addr → Prop} (hM : ∀ sz, Met l y wsy rm (qPc As D tys wc sz) (Qc sz) mc ms (free sz)) (cw : CallB R s args own index y bytes maxL ret wsy rm mc ms n ∧ (Cond.static y).before args s = true) (isC : List Nat) (hC : isC.map (fun i => ws[i]?) = wc.map some) (hnd : va_nd isC = true) (hn : As.length = n) (hst : st = As.reverse ++ rest) (hW : (rest.map fun v => v.category).sum ≤ 8) (hd : decode cc pc = .ok (.invokestatic index, 3)) (hf : cells + mc ≤ R.cells ∧ slots + ms ≤ R.slots) : ∀ (H : Heap) (locs : List Loc) (ls : Array Slot), lv_has ls nL lv → va_P D vwCl ws H → va_D A' ws → va_S A s.heap H locs → va_Run p l e R s m args below meth c H locs cells slots mc ms (F0 m pc ls st) rest (Qc H.size As.toArray) (free H.size) := fun H locs ls h1 h2 h3 h4 =>
  va_runS (As := As) (rest := rest) (nL := nL) ⟨C.1, C.2.1, C.2.2.1, C.2.2.2.1, C.2.2.2.2.1⟩ (hM H.size) cw ⟨qPc.blind, qPc.pre C (h2.sub isC (q_fm hC)) (h3.sub isC hnd hC)⟩ rfl hn h1.1 hst (lv_room hW) hd hf
theorem q_runSN (C : qCx p s m args meth c cc nL own Ts D tys) {y : MethodName} {bytes : ByteArray} {maxL n index mc ms : Nat} {ret : Option FieldType} {wsy : List Cond} {rm : Room} {As : List Value} {wc : va_W} {Qc : Nat → Array Value → State → Outcome → State → Prop} {free : Nat → Addr → Prop} {ws' : List Cond} (hM : ∀ sz, Met l y wsy rm (qPc As D tys wc sz) (Qc sz) mc ms (free sz)) (hG : GoodIn Ts wsy) (hw : wsy = Cond.code y bytes maxL ret :: ws') (hrc : rm.cells = mc) (hrs : rm.slots = ms) (hnl : (own, index, y) ∈ qNest) (hini : Cond.initialized y.cls ∈ Ts) (hstat : Cond.static y ∈ Ts) (hdd : y.cls ≠ "java/lang/invoke/MethodHandle" ∧ y.cls ≠ "java/lang/invoke/VarHandle" ∧ (parseMethodDescriptor y.desc).map (fun d => d.parameters.length) = some n) (hR : rm.frames + 1 ≤ R.frames ∧ 8 + (maxL + 11) + rm.locals ≤ R.locals) (isC : List Nat) (hC : isC.map (fun i => ws[i]?) = wc.map some) (hnd : va_nd isC = true) (hn : As.length = n) (hst : st = As.reverse ++ rest) (hW : (rest.map fun v => v.category).sum ≤ 8) (hd : decode cc pc = .ok (.invokestatic index, 3)) (hf : cells + mc ≤ R.cells ∧ slots + ms ≤ R.slots) : ∀ (H : Heap) (locs : List Loc) (ls : Array Slot), lv_has ls nL lv → va_P D vwCl ws H → va_D A' ws → va_S A s.heap H locs → va_Run p l e R s m args below meth c H locs cells slots mc ms (F0 m pc ls st) rest (Qc H.size As.toArray) (free H.size) := fun H locs ls h1 h2 h3 h4 =>
  va_runSN (As := As) (rest := rest) (nL := nL) ⟨C.1, C.2.1, C.2.2.1, C.2.2.2.1, C.2.2.2.2.1⟩ (hM H.size) ⟨va_cnB n C.2.2.2.2.1 hG hw hrc hrs (C.2.2.2.2.2.2.1.1 _ hnl) (C.2.2.2.2.1 _ hini) hdd hR, C.2.2.2.2.1 _ hstat, trivial⟩ ⟨qPc.blind, qPc.pre C (h2.sub isC (q_fm hC)) (h3.sub isC hnd hC)⟩ rfl hn h1.1 hst (lv_room hW) hd hf
theorem q_runI (C : qCx p s m args meth c cc nL own Ts D tys) {y : MethodName} {bytes : ByteArray} {maxL n index mc ms : Nat} {ret : Option FieldType} {wsy : List Cond} {rm : Room} {As : List Value} {wc : va_W} {Qc : Nat → Array Value → State → Outcome → State → Prop} {free : Nat → Addr → Prop} {b : Nat} (hM : ∀ sz, Met l y wsy rm (qPc (.ref b :: As) D tys wc sz) (Qc sz) mc ms (free sz)) (cw : CallB R s args own index y bytes maxL none wsy rm mc ms n ∧ y.name = "<init>" ∧ (Cond.instanceMethod y).before args s = true) (isC : List Nat) (hC : isC.map (fun i => ws[i]?) = wc.map some) (hnd : va_nd isC = true) (hn : As.length = n) (hst : st = As.reverse ++ .ref b :: rest) (hW : (rest.map fun v => v.category).sum ≤ 8) (hd : decode cc pc = .ok (.invokespecial index, 3)) (hf : cells + mc ≤ R.cells ∧ slots + ms ≤ R.slots) : ∀ (H : Heap) (locs : List Loc) (ls : Array Slot), lv_has ls nL lv → va_P D vwCl ws H → va_D A' ws → va_S A s.heap H locs → va_Run p l e R s m args below meth c H locs cells slots mc ms (F0 m pc ls st) rest (Qc H.size (Value.ref b :: As).toArray) (free H.size) := fun H locs ls h1 h2 h3 h4 =>
  va_runI (As := As) (rest := rest) (nL := nL) ⟨C.1, C.2.1, C.2.2.1, C.2.2.2.1, C.2.2.2.2.1⟩ (hM H.size) cw ⟨qPc.blind, qPc.pre C (h2.sub isC (q_fm hC)) (h3.sub isC hnd hC)⟩ rfl hn h1.1 hst (lv_room hW) hd hf
theorem q_runIN (C : qCx p s m args meth c cc nL own Ts D tys) {y : MethodName} {bytes : ByteArray} {maxL n index mc ms : Nat} {ret : Option FieldType} {wsy : List Cond} {rm : Room} {As : List Value} {wc : va_W} {Qc : Nat → Array Value → State → Outcome → State → Prop} {free : Nat → Addr → Prop} {ws' : List Cond} {b : Nat} (hM : ∀ sz, Met l y wsy rm (qPc (.ref b :: As) D tys wc sz) (Qc sz) mc ms (free sz)) (hG : GoodIn Ts wsy) (hw : wsy = Cond.code y bytes maxL none :: ws') (hrc : rm.cells = mc) (hrs : rm.slots = ms) (hnl : (own, index, y) ∈ qNest) (hini : Cond.initialized y.cls ∈ Ts) (hinst : Cond.instanceMethod y ∈ Ts) (hy1 : y.name = "<init>") (hdd : y.cls ≠ "java/lang/invoke/MethodHandle" ∧ y.cls ≠ "java/lang/invoke/VarHandle" ∧ (parseMethodDescriptor y.desc).map (fun d => d.parameters.length) = some n) (hR : rm.frames + 1 ≤ R.frames ∧ 8 + (maxL + 11) + rm.locals ≤ R.locals) (isC : List Nat) (hC : isC.map (fun i => ws[i]?) = wc.map some) (hnd : va_nd isC = true) (hn : As.length = n) (hst : st = As.reverse ++ .ref b :: rest) (hW : (rest.map fun v => v.category).sum ≤ 8) (hd : decode cc pc = .ok (.invokespecial index, 3)) (hf : cells + mc ≤ R.cells ∧ slots + ms ≤ R.slots) : ∀ (H : Heap) (locs : List Loc) (ls : Array Slot), lv_has ls nL lv → va_P D vwCl ws H → va_D A' ws → va_S A s.heap H locs → va_Run p l e R s m args below meth c H locs cells slots mc ms (F0 m pc ls st) rest (Qc H.size (Value.ref b :: As).toArray) (free H.size) := fun H locs ls h1 h2 h3 h4 =>
  va_runIN (As := As) (rest := rest) (nL := nL) ⟨C.1, C.2.1, C.2.2.1, C.2.2.2.1, C.2.2.2.2.1⟩ (hM H.size) ⟨va_cnB n C.2.2.2.2.1 hG hw hrc hrs (C.2.2.2.2.2.2.1.1 _ hnl) (C.2.2.2.2.1 _ hini) hdd hR, hy1, C.2.2.2.2.1 _ hinst⟩ ⟨qPc.blind, qPc.pre C (h2.sub isC (q_fm hC)) (h3.sub isC hnd hC)⟩ rfl hn h1.1 hst (lv_room hW) hd hf
theorem q_roi {v : Int32} {a : Array Value} (hr : ∀ (H : Heap) (locs : List Loc) (ls : Array Slot), lv_has ls nL lv → va_P D vwCl ws H → va_D A' ws → va_S A s.heap H locs → va_Run p l e R s m args below meth c H locs cells slots 0 0 (F0 m pc ls st) rest (qRi v a) (fun _ => False)) (k : qG p l e R s m args below meth c nL D A A' Q cells slots lv (.int v :: rest) ws (pc + 3)) : qG p l e R s m args below meth c nL D A A' Q cells slots lv st ws pc := fun H locs ls h1 h2 h3 h4 =>
  va_calli (hr H locs ls h1 h2 h3 h4) h4 (fun q _ h => h.elim) (fun q h => h.elim) (fun r u t H1 locs1 ht hvm hw hB hz1 hk1 hS => by
    have e1 : r = v := hw
    have k2 := k H1 locs1 ls h1 (h2.kept (fun i q hq => hk1 q.1 ((h2 i q hq).lt) (fun z => z))) h3 hS
    rw [e1]
    exact k2)
theorem q_roz {v : Int32} {a : Array Value} (hr : ∀ (H : Heap) (locs : List Loc) (ls : Array Slot), lv_has ls nL lv → va_P D vwCl ws H → va_D A' ws → va_S A s.heap H locs → va_Run p l e R s m args below meth c H locs cells slots 0 0 (F0 m pc ls st) rest (qRz v a) (fun _ => False)) (k : (v = 0 ∨ v = 1) → qG p l e R s m args below meth c nL D A A' Q cells slots lv (.int v :: rest) ws (pc + 3)) : qG p l e R s m args below meth c nL D A A' Q cells slots lv st ws pc := fun H locs ls h1 h2 h3 h4 =>
  va_calli (hr H locs ls h1 h2 h3 h4) h4 (fun q _ h => h.elim) (fun q h => h.elim) (fun r u t H1 locs1 ht hvm hw hB hz1 hk1 hS => by
    have e1 : r = v := hw.1
    have k2 := k (by rw [← hw.1]; exact hw.2) H1 locs1 ls h1 (h2.kept (fun i q hq => hk1 q.1 ((h2 i q hq).lt) (fun z => z))) h3 hS
    rw [e1]
    exact k2)
theorem q_rol {v : Int64} {a : Array Value} (hr : ∀ (H : Heap) (locs : List Loc) (ls : Array Slot), lv_has ls nL lv → va_P D vwCl ws H → va_D A' ws → va_S A s.heap H locs → va_Run p l e R s m args below meth c H locs cells slots 0 0 (F0 m pc ls st) rest (qRl v a) (fun _ => False)) (k : qG p l e R s m args below meth c nL D A A' Q cells slots lv (.long v :: rest) ws (pc + 3)) : qG p l e R s m args below meth c nL D A A' Q cells slots lv st ws pc := fun H locs ls h1 h2 h3 h4 =>
  va_calll (hr H locs ls h1 h2 h3 h4) h4 (fun q _ h => h.elim) (fun q h => h.elim) (fun r u t H1 locs1 ht hvm hw hB hz1 hk1 hS => by
    have e1 : r = v := hw
    have k2 := k H1 locs1 ls h1 (h2.kept (fun i q hq => hk1 q.1 ((h2 i q hq).lt) (fun z => z))) h3 hS
    rw [e1]
    exact k2)
theorem q_rwi {v : Int32} {a : Array Value} (hA : ∀ q, s.heap.size ≤ q → A q) {wc w1 : va_W} (ws1 : va_W) (isC isR : List Nat) (hC : isC.map (fun i => ws[i]?) = wc.map some) (hR : isR.map (fun i => ws[i]?) = (isR.filterMap (fun i => ws[i]?)).map some) (hn : va_nd isR = true) (hdis : ∀ i ∈ isR, i ∉ isC) (is1 : List Nat) (hn1 : va_nd is1 = true) (hs1 : is1.map (fun i => (isR.filterMap (fun i => ws[i]?) ++ w1)[i]?) = ws1.map some) (hr : ∀ (H : Heap) (locs : List Loc) (ls : Array Slot), lv_has ls nL lv → va_P D vwCl ws H → va_D A ws → va_S A s.heap H locs → va_Run p l e R s m args below meth c H locs cells slots 0 0 (F0 m pc ls st) rest (qWi v D w1 (va_A wc H.size) a) (va_A wc H.size)) (k : qG p l e R s m args below meth c nL D A A Q cells slots lv (.int v :: rest) ws1 (pc + 3)) : qG p l e R s m args below meth c nL D A A Q cells slots lv st ws pc := fun H locs ls h1 h2 h3 h4 => by
  have hF := va_free h3 h4 hA isC hC
  exact va_calli (hr H locs ls h1 h2 h3 h4) h4 (fun q _ h => hF q h) hF (fun r u t H1 locs1 ht hvm hw hB hz1 hk1 hS => by
    obtain ⟨gP, gD⟩ := va_join (w1 := w1) h2 h3 isC isR hC hR hn hdis hk1 hF (by rw [← ht]; exact hB.1) hB.2
    have k2 := k H1 locs1 ls h1 (gP.sub is1 (q_fm hs1)) (gD.sub is1 hn1 hs1) hS
    have e1 : r = v := hw
    rw [e1]
    exact k2)
theorem q_rwz {v : Int32} {a : Array Value} (hA : ∀ q, s.heap.size ≤ q → A q) {wc w1 : va_W} (ws1 : va_W) (isC isR : List Nat) (hC : isC.map (fun i => ws[i]?) = wc.map some) (hR : isR.map (fun i => ws[i]?) = (isR.filterMap (fun i => ws[i]?)).map some) (hn : va_nd isR = true) (hdis : ∀ i ∈ isR, i ∉ isC) (is1 : List Nat) (hn1 : va_nd is1 = true) (hs1 : is1.map (fun i => (isR.filterMap (fun i => ws[i]?) ++ w1)[i]?) = ws1.map some) (hr : ∀ (H : Heap) (locs : List Loc) (ls : Array Slot), lv_has ls nL lv → va_P D vwCl ws H → va_D A ws → va_S A s.heap H locs → va_Run p l e R s m args below meth c H locs cells slots 0 0 (F0 m pc ls st) rest (qWz v D w1 (va_A wc H.size) a) (va_A wc H.size)) (k : (v = 0 ∨ v = 1) → qG p l e R s m args below meth c nL D A A Q cells slots lv (.int v :: rest) ws1 (pc + 3)) : qG p l e R s m args below meth c nL D A A Q cells slots lv st ws pc := fun H locs ls h1 h2 h3 h4 => by
  have hF := va_free h3 h4 hA isC hC
  exact va_calli (hr H locs ls h1 h2 h3 h4) h4 (fun q _ h => hF q h) hF (fun r u t H1 locs1 ht hvm hw hB hz1 hk1 hS => by
    obtain ⟨gP, gD⟩ := va_join (w1 := w1) h2 h3 isC isR hC hR hn hdis hk1 hF (by rw [← ht]; exact hB.1) hB.2
    have k2 := k (by rw [← hw.1]; exact hw.2) H1 locs1 ls h1 (gP.sub is1 (q_fm hs1)) (gD.sub is1 hn1 hs1) hS
    have e1 : r = v := hw.1
    rw [e1]
    exact k2)
theorem q_rwl {v : Int64} {a : Array Value} (hA : ∀ q, s.heap.size ≤ q → A q) {wc w1 : va_W} (ws1 : va_W) (isC isR : List Nat) (hC : isC.map (fun i => ws[i]?) = wc.map some) (hR : isR.map (fun i => ws[i]?) = (isR.filterMap (fun i => ws[i]?)).map some) (hn : va_nd isR = true) (hdis : ∀ i ∈ isR, i ∉ isC) (is1 : List Nat) (hn1 : va_nd is1 = true) (hs1 : is1.map (fun i => (isR.filterMap (fun i => ws[i]?) ++ w1)[i]?) = ws1.map some) (hr : ∀ (H : Heap) (locs : List Loc) (ls : Array Slot), lv_has ls nL lv → va_P D vwCl ws H → va_D A ws → va_S A s.heap H locs → va_Run p l e R s m args below meth c H locs cells slots 0 0 (F0 m pc ls st) rest (qWl v D w1 (va_A wc H.size) a) (va_A wc H.size)) (k : qG p l e R s m args below meth c nL D A A Q cells slots lv (.long v :: rest) ws1 (pc + 3)) : qG p l e R s m args below meth c nL D A A Q cells slots lv st ws pc := fun H locs ls h1 h2 h3 h4 => by
  have hF := va_free h3 h4 hA isC hC
  exact va_calll (hr H locs ls h1 h2 h3 h4) h4 (fun q _ h => hF q h) hF (fun r u t H1 locs1 ht hvm hw hB hz1 hk1 hS => by
    obtain ⟨gP, gD⟩ := va_join (w1 := w1) h2 h3 isC isR hC hR hn hdis hk1 hF (by rw [← ht]; exact hB.1) hB.2
    have k2 := k H1 locs1 ls h1 (gP.sub is1 (q_fm hs1)) (gD.sub is1 hn1 hs1) hS
    have e1 : r = v := hw
    rw [e1]
    exact k2)
theorem q_rwv {a : Array Value} (hA : ∀ q, s.heap.size ≤ q → A q) {wc w1 : va_W} (ws1 : va_W) (isC isR : List Nat) (hC : isC.map (fun i => ws[i]?) = wc.map some) (hR : isR.map (fun i => ws[i]?) = (isR.filterMap (fun i => ws[i]?)).map some) (hn : va_nd isR = true) (hdis : ∀ i ∈ isR, i ∉ isC) (is1 : List Nat) (hn1 : va_nd is1 = true) (hs1 : is1.map (fun i => (isR.filterMap (fun i => ws[i]?) ++ w1)[i]?) = ws1.map some) (hr : ∀ (H : Heap) (locs : List Loc) (ls : Array Slot), lv_has ls nL lv → va_P D vwCl ws H → va_D A ws → va_S A s.heap H locs → va_Run p l e R s m args below meth c H locs cells slots 0 0 (F0 m pc ls st) rest (qWv D w1 (va_A wc H.size) a) (va_A wc H.size)) (k : qG p l e R s m args below meth c nL D A A Q cells slots lv rest ws1 (pc + 3)) : qG p l e R s m args below meth c nL D A A Q cells slots lv st ws pc := fun H locs ls h1 h2 h3 h4 => by
  have hF := va_free h3 h4 hA isC hC
  exact va_callv (hr H locs ls h1 h2 h3 h4) h4 (fun q _ h => hF q h) hF (fun u t H1 locs1 ht hvm hw hB hz1 hk1 hS => by
    obtain ⟨gP, gD⟩ := va_join (w1 := w1) h2 h3 isC isR hC hR hn hdis hk1 hF (by rw [← ht]; exact hB.1) hB.2
    have k2 := k H1 locs1 ls h1 (gP.sub is1 (q_fm hs1)) (gD.sub is1 hn1 hs1) hS
    exact k2)
theorem q_rnv {a : Array Value} {mc ms : Nat} (hA : ∀ q, s.heap.size ≤ q → A q) {S : Type} {W1 : S → va_W} {wc : va_W} (ws1 : S → va_W) (isC isR : List Nat) (hC : isC.map (fun i => ws[i]?) = wc.map some) (hR : isR.map (fun i => ws[i]?) = (isR.filterMap (fun i => ws[i]?)).map some) (hn : va_nd isR = true) (hdis : ∀ i ∈ isR, i ∉ isC) (is1 : List Nat) (hn1 : va_nd is1 = true) (hs1 : ∀ u, is1.map (fun i => (isR.filterMap (fun i => ws[i]?) ++ W1 u)[i]?) = (ws1 u).map some) (hr : ∀ (H : Heap) (locs : List Loc) (ls : Array Slot), lv_has ls nL lv → va_P D vwCl ws H → va_D A ws → va_S A s.heap H locs → va_Run p l e R s m args below meth c H locs cells slots mc ms (F0 m pc ls st) rest (qNv D W1 (va_A wc H.size) a) (va_A wc H.size)) (k : ∀ u : S, qG p l e R s m args below meth c nL D A A Q (cells + mc) (slots + ms) lv rest (ws1 u) (pc + 3)) : qG p l e R s m args below meth c nL D A A Q cells slots lv st ws pc := fun H locs ls h1 h2 h3 h4 => by
  have hF := va_free h3 h4 hA isC hC
  exact va_callv (hr H locs ls h1 h2 h3 h4) h4 (fun q _ h => hF q h) hF (fun u t H1 locs1 ht hvm hw hB hz1 hk1 hS => by
    obtain ⟨gP, gD⟩ := va_join (w1 := W1 u) h2 h3 isC isR hC hR hn hdis hk1 hF (by rw [← ht]; exact hB.1) hB.2
    exact k u H1 locs1 ls h1 (gP.sub is1 (q_fm (hs1 u))) (gD.sub is1 hn1 (hs1 u)) hS)
end GK
/-! loops: a block B of a method is a step; ev B is where its steps come to -/
def evr {σ ρ : Type} (B : σ → Option (σ ⊕ ρ)) : Nat → σ → Option ρ
  | 0, _ => none
  | n + 1, s => match B s with
    | none => none
    | some (.inl t) => evr B n t
    | some (.inr r) => some r
theorem evr_S {σ ρ : Type} (B : σ → Option (σ ⊕ ρ)) (n : Nat) (s : σ) : evr B (n + 1) s = match B s with | none => none | some (.inl t) => evr B n t | some (.inr r) => some r := rfl
theorem evr_inl {σ ρ : Type} {B : σ → Option (σ ⊕ ρ)} {n : Nat} {s t : σ} (h : B s = some (.inl t)) : evr B (n + 1) s = evr B n t := by rw [evr_S, h]
theorem evr_inr {σ ρ : Type} {B : σ → Option (σ ⊕ ρ)} {n : Nat} {s : σ} {r : ρ} (h : B s = some (.inr r)) : evr B (n + 1) s = some r := by rw [evr_S, h]
theorem evr_mono {σ ρ : Type} {B : σ → Option (σ ⊕ ρ)} : ∀ (n : Nat) (s : σ) (r : ρ), evr B n s = some r → evr B (n + 1) s = some r := by
  intro n
  induction n with
  | zero => intro s r h; cases h
  | succ n ih =>
    intro s r h
    rw [evr_S] at h ⊢
    cases hB : B s with
    | none => rw [hB] at h; cases h
    | some x =>
      rw [hB] at h
      cases x with
      | inl t => exact ih t r h
      | inr r2 => exact h
theorem evr_le {σ ρ : Type} {B : σ → Option (σ ⊕ ρ)} {n k : Nat} {s : σ} {r : ρ} (hk : n ≤ k) (h : evr B n s = some r) : evr B k s = some r := by
  obtain ⟨d, rfl⟩ := Nat.exists_eq_add_of_le hk
  induction d with
  | zero => exact h
  | succ d ih => exact evr_mono _ _ _ (ih (Nat.le_add_right n d))
theorem evr_det {σ ρ : Type} {B : σ → Option (σ ⊕ ρ)} {n k : Nat} {s : σ} {r r2 : ρ} (h : evr B n s = some r) (h2 : evr B k s = some r2) : r = r2 :=
  Option.some.inj ((evr_le (Nat.le_max_left n k) h).symm.trans (evr_le (Nat.le_max_right n k) h2))
noncomputable def ev {σ ρ : Type} (B : σ → Option (σ ⊕ ρ)) (s : σ) : Option ρ := Classical.epsilon (h := ⟨none⟩) (fun o : Option ρ => match o with
  | some r => ∃ n, evr B n s = some r
  | none => ∀ n, evr B n s = none)
theorem ev_iff {σ ρ : Type} (B : σ → Option (σ ⊕ ρ)) (s : σ) (r : ρ) : ev B s = some r ↔ ∃ n, evr B n s = some r := by
  have hs : (match ev B s with | some r => ∃ n, evr B n s = some r | none => ∀ n, evr B n s = none) := by
    refine Classical.epsilon_spec (p := fun o : Option ρ => match o with | some r => ∃ n, evr B n s = some r | none => ∀ n, evr B n s = none) ?_
    by_cases h : ∃ r n, evr B n s = some r
    · obtain ⟨r, h⟩ := h
      exact ⟨some r, h⟩
    · refine ⟨none, fun n => ?_⟩
      cases hn : evr B n s with
      | none => rfl
      | some r => exact absurd ⟨r, n, hn⟩ h
  constructor
  · intro h
    rw [h] at hs
    exact hs
  · intro h
    obtain ⟨n, hn⟩ := h
    cases he : ev B s with
    | none =>
      rw [he] at hs
      have h9 : evr B n s = none := hs n
      rw [h9] at hn
      cases hn
    | some r2 =>
      rw [he] at hs
      obtain ⟨k, hk⟩ := hs
      rw [evr_det hk hn]
theorem ev_inl {σ ρ : Type} {B : σ → Option (σ ⊕ ρ)} {s t : σ} (h : B s = some (.inl t)) : ev B s = ev B t := by
  have key : ∀ r, ev B s = some r ↔ ev B t = some r := by
    intro r
    rw [ev_iff, ev_iff]
    constructor
    · rintro ⟨n, hn⟩
      cases n with
      | zero => cases hn
      | succ n => exact ⟨n, by rw [evr_inl h] at hn; exact hn⟩
    · rintro ⟨n, hn⟩
      exact ⟨n + 1, by rw [evr_inl h]; exact hn⟩
  cases h1 : ev B s with
  | some r => exact ((key r).mp h1).symm
  | none =>
    cases h2 : ev B t with
    | none => rfl
    | some r => rw [(key r).mpr h2] at h1; cases h1
theorem ev_inr {σ ρ : Type} {B : σ → Option (σ ⊕ ρ)} {s : σ} {r : ρ} (h : B s = some (.inr r)) : ev B s = some r := (ev_iff B s r).mpr ⟨1, evr_inr h⟩
/-- a loop that counts -/
theorem ev_for {σ ρ : Type} {B : σ → Option (σ ⊕ ρ)} (f : Nat → σ) (N : Nat) (h : ∀ k, k < N → B (f k) = some (.inl (f (k + 1)))) : ∀ k, k ≤ N → ev B (f k) = ev B (f N) := by
  intro k hk
  obtain ⟨d, hd⟩ := Nat.exists_eq_add_of_le hk
  induction d generalizing k with
  | zero => rw [hd]; rfl
  | succ d ih => rw [ev_inl (h k (by omega)), ih (k + 1) (by omega) (by omega)]
theorem ite_t {α : Type} {c : Prop} {h : Decidable c} {a b r : α} (hF : (if c then a else b) = r) (z : c) : a = r := (if_pos z).symm.trans hF
theorem ite_f {α : Type} {c : Prop} {h : Decidable c} {a b r : α} (hF : (if c then a else b) = r) (z : ¬ c) : b = r := (if_neg z).symm.trans hF
theorem ite_c {α : Type} {c : Prop} {h : Decidable c} {a : Option α} {r : α} (hF : (if c then a else none) = some r) : c ∧ a = some r := by
  by_cases z : c
  · exact ⟨z, ite_t hF z⟩
  · cases (ite_f hF z)
theorem evr_0 {σ ρ : Type} {B : σ → Option (σ ⊕ ρ)} {s : σ} {r : ρ} (h : evr B 0 s = some r) : False := by cases h
theorem evr_c {σ ρ : Type} {B : σ → Option (σ ⊕ ρ)} {n : Nat} {s : σ} {r : ρ} (h : evr B (n + 1) s = some r) : ∃ o, B s = some o ∧ (∀ t, o = .inl t → evr B n t = some r) ∧ (∀ r2, o = .inr r2 → r2 = r) := by
  rw [evr_S] at h
  cases hB : B s with
  | none => rw [hB] at h; cases h
  | some x =>
    rw [hB] at h
    refine ⟨x, rfl, ?_, ?_⟩
    · intro t ht
      subst ht
      exact h
    · intro r2 ht
      subst ht
      exact Option.some.inj h
/-- an index in range -/
def ix (i : Int32) (n : Nat) : Bool := decide (0 ≤ i) && decide (i.toNatClampNeg < n)
theorem ix_in {i : Int32} {n : Nat} (h : ix i n = true) : vp_in i n := by
  unfold ix at h
  simp only [Bool.and_eq_true, decide_eq_true_eq] at h
  intro z
  rcases z with z | z
  · have h1 := h.1
    rw [Int32.le_iff_toInt_le] at h1
    rw [Int32.lt_iff_toInt_lt] at z
    omega
  · omega
theorem q_hprim {s : State} {cA cB : ClassId} (h1 : va_RA s cA .int) (h2 : va_RA s cB .int) : cB = cA := Option.some.inj (h2.symm.trans h1)
theorem q_hprimZ {s : State} {cA cB : ClassId} (h1 : va_RA s cA .boolean) (h2 : va_RA s cB .boolean) : cB = cA := Option.some.inj (h2.symm.trans h1)
/-- the array classes of the claim -/
abbrev qT (cI cZ cQ : ClassId) : List (ClassId × FieldType) := [(cI, .int), (cZ, .boolean), (cQ, .object "SealStrait$Image")]
theorem bind_c {α β : Type} {a : Option α} {f : α → Option β} {r : β} (hF : a.bind f = some r) : ∃ x, a = some x ∧ f x = some r := by
  cases a with
  | none => cases hF
  | some x => exact ⟨x, rfl, hF⟩
