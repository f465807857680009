/-! the tables' words that may be handed on, one list for all methods -/
def jB : List Cond := lw_tbl.filter goodWord
theorem jB_good {w : Cond} (h : w ∈ jB) : (w.onTables && w.keeps) = true ∨ ∃ ty, w = .arrayClass ty := good_of_word (List.mem_filter.mp h).2
theorem jB_hts {args : Array Value} {s : State} (h : ∀ w ∈ lw_tbl, w.before args s = true) : ∀ w ∈ jB, w.before args s = true := fun w hw => h w (List.mem_filter.mp hw).1
theorem jB_0 {w : Cond} (i : Nat) (h : (k2_sels lw_privs)[i]? = some w) (g : goodWord w = true) : w ∈ jB := List.mem_filter.mpr ⟨List.mem_append_left _ (List.mem_of_getElem? h), g⟩
theorem jB_1 {w : Cond} (i : Nat) (h : tables_1_1[i]? = some w) (g : goodWord w = true) : w ∈ jB := List.mem_filter.mpr ⟨List.mem_append_right _ (List.mem_append_left _ (List.mem_of_getElem? h)), g⟩
theorem jB_2 {w : Cond} (i : Nat) (h : tables_1_2[i]? = some w) (g : goodWord w = true) : w ∈ jB := List.mem_filter.mpr ⟨List.mem_append_right _ (List.mem_append_right _ (List.mem_append_left _ (List.mem_of_getElem? h))), g⟩
theorem jB_3 {w : Cond} (i : Nat) (h : tables_1_3[i]? = some w) (g : goodWord w = true) : w ∈ jB := List.mem_filter.mpr ⟨List.mem_append_right _ (List.mem_append_right _ (List.mem_append_right _ (List.mem_append_left _ (List.mem_of_getElem? h)))), g⟩
theorem jB_4 {w : Cond} (i : Nat) (h : tables_1_4[i]? = some w) (g : goodWord w = true) : w ∈ jB := List.mem_filter.mpr ⟨List.mem_append_right _ (List.mem_append_right _ (List.mem_append_right _ (List.mem_append_right _ (List.mem_of_getElem? h)))), g⟩
/-! arithmetic of the pure texts -/
def jrem (x y : Int32) : Int32 := x - x / y * y
def jreml (x y : Int64) : Int64 := x - x / y * y
def jshl (x y : Int32) : Int32 := x <<< (y &&& 31)
def jshr (x y : Int32) : Int32 := x >>> (y &&& 31)
def jushr (x y : Int32) : Int32 := (x.toUInt32 >>> (y.toUInt32 &&& Int32.toUInt32 31)).toInt32
def jlushr (x : Int64) (y : Int32) : Int64 := (x.toUInt64 >>> (y.toInt64.toUInt64 &&& Int64.toUInt64 63)).toInt64
def jlshl (x : Int64) (y : Int32) : Int64 := x <<< (y.toInt64 &&& 63)
def jabs (x : Int32) : Int32 := if 0 ≤ x then x else 0 - x
def jmax (x y : Int32) : Int32 := if x < y then y else x
def jchar (x : Int32) : Int32 := (x.toUInt32 % 65536).toInt32
/-! The walking judgement jT: from a place in a method's frame, with listed locals, stack and world, the frame ends by a return of which Po speaks. jM: a method's contract in these words. -/
abbrev jE : Type := va_G × ClassId × ClassId × ClassId
abbrev jK : Type := ByteArray × Nat × Option FieldType × MethodName × Room
abbrev jt (E : jE) : List (ClassId × FieldType) := [(E.2.1, .int), (E.2.2.1, .long), (E.2.2.2, .char)]
abbrev jI (E : jE) (a n : Nat) (f : Nat → Int32) : Nat × va_E := (a, .inl (E.2.1, n, .inl f))
abbrev jJ (E : jE) (a n : Nat) (f : Nat → Int64) : Nat × va_E := (a, .inl (E.2.2.1, n, .inr (.inl f)))
abbrev jH (E : jE) (a n : Nat) (f : Nat → Int32) : Nat × va_E := (a, .inl (E.2.2.2, n, .inl f))
abbrev jO (a ci : Nat) (fs : List Value) : Nat × va_E := (a, .inr (ci, fs))
def jNl : List Cond := [.fieldLinkNest RX9 62 RX5 "cards" "I" RX9, .fieldLinkNest RX9 84 RX8 "length" "I" RX9, .fieldLinkNest RX9 95 RX7 "held" "I" RX9, .fieldLinkNest RX9 98 RX6 "held" "I" RX9, .fieldLinkNest RX9 136 RX5 "deal" "J" RX9, .fieldLinkNest RX9 230 RX5 "acts" "I" RX9, .fieldLinkNest RX2 15 RX5 "cards" "I" RX9, .methodLinkNest RX9 9 yX8_init RX9, .methodLinkNest RX9 18 yX5_init RX9, .methodLinkNest RX9 40 yX7_init RX9, .methodLinkNest RX9 47 yX0_init RX9, .methodLinkNest RX9 54 yX2_init RX9, .methodLinkNest RX5 46 yX9_within RX9, .methodLinkNest RX5 52 yX9_isKind RX9, .methodLinkNest RX2 52 yX9_within RX9]
def jN (s : State) : Prop := ∀ w ∈ jNl, va_Nw w s
theorem jN_warm {s U : State} (hW : s.WarmedH U.vm) (h : jN s) : jN U := by
  intro w hw
  have h1 := h w hw
  simp only [jNl, List.mem_cons, List.not_mem_nil, or_false] at hw
  rcases hw with rfl | rfl | rfl | rfl | rfl | rfl | rfl | rfl | rfl | rfl | rfl | rfl | rfl | rfl | rfl <;> first | exact va_Nw.warmF hW h1 | exact va_Nw.warmM hW h1
theorem jN_same {u U : State} (e : u.vm = U.vm) (h : jN u) : jN U := by
  intro w hw
  have h1 := h w hw
  simp only [jNl, List.mem_cons, List.not_mem_nil, or_false] at hw
  rcases hw with rfl | rfl | rfl | rfl | rfl | rfl | rfl | rfl | rfl | rfl | rfl | rfl | rfl | rfl | rfl <;> exact va_Nw.same rfl e h1
/-- a method's start and end -/
def jP (E : jE) (av : List Value) (w0 : va_W) (sz : Nat) : Array Value → State → Prop := va_Pc av (fun U => U.heap.size = sz ∧ va_P E.1 vwCl w0 U.heap ∧ va_K E.1 vwCl (jt E) U ∧ jN U ∧ va_D (fun _ => True) w0)
def jQ (E : jE) (Po : Option Value → va_W → Prop) (A : Nat → Prop) : Array Value → State → Outcome → State → Prop := fun _ st oc t => (∃ (r : Option Value) (w1 : va_W), oc = .returned r ∧ Po r w1 ∧ va_P E.1 vwCl w1 t.heap ∧ va_D A w1) ∧ va_F A st t
/-- a settled end: this answer, this world -/
def jd (r : Option Value) (w : va_W) : Option Value → va_W → Prop := fun r' w' => r' = r ∧ w' = w
def jM (l : Launch) (E : jE) (K : jK) (av : List Value) (w0 : va_W) (Po : Option Value → va_W → Prop) : Prop :=
  ∀ sz : Nat, Met l K.2.2.2.1 (Cond.code K.2.2.2.1 K.1 K.2.1 K.2.2.1 :: jB) K.2.2.2.2 (jP E av w0 sz) (jQ E Po (va_A w0 sz)) K.2.2.2.2.cells K.2.2.2.2.slots (va_A w0 sz)
def jX (E : jE) (K : jK) (p : Program) (s : State) (m : MethodId) (args : Array Value) (meth : Method) (c : Code) (A : Nat → Prop) : Prop :=
  p.tables.exec = Jvm.exec ∧ c.code = K.1 ∧ c.maxLocals = K.2.1 ∧ s.vm.findClass K.2.2.2.1.cls = some m.cls ∧ (∀ w ∈ jB, w.before args s = true) ∧ meth.sig.returnType = K.2.2.1 ∧ meth.locks = false ∧ meth.name = K.2.2.2.1.name ∧ va_K E.1 vwCl (jt E) s ∧ jN s ∧ (∀ q : Nat, s.heap.size ≤ q → A q)
def jT (l : Launch) (E : jE) (K : jK) (k n : Nat) (pc : Nat) (lv : List (Nat × Value)) (st : List Value) (w : va_W) (Po : Option Value → va_W → Prop) : Prop :=
  ∀ (p : Program) (e : Env) (s : State) (m : MethodId) (args : Array Value) (below : List Frame) (meth : Method) (c : Code) (A : Nat → Prop), jX E K p s m args meth c A →
    ∀ (H : Heap) (locs : List Loc) (ls : Array Slot), va_P E.1 vwCl w H → va_D A w → va_S A s.heap H locs → lv_has ls K.2.1 lv →
      W p l e K.2.2.2.2 s m args below meth c H locs k n (MQ below (jQ E Po A) args s K.2.2.2.2.cells K.2.2.2.2.slots A) (F0 m pc ls st)
theorem jP_blind {E : jE} {av : List Value} {w0 : va_W} {sz : Nat} : FrameBlind (jP E av w0 sz) := by
  intro a U g mk q
  obtain ⟨q0, q1, q2, q3, q4, q5⟩ := q
  exact ⟨q0, q1, q2, va_K.moved (u := U) (U := U.calling g mk a) (Vm.Alike.refl U.vm) q3, jN_same (u := U) (U := U.calling g mk a) rfl q4, q5⟩
section JT
variable {l : Launch} {E : jE} {K : jK} {k n pc : Nat} {lv : List (Nat × Value)} {st : List Value} {w : va_W} {Po : Option Value → va_W → Prop}
/-- a contract out of a walk from the entry -/
theorem j_met {av : List Value} {w0 : va_W} (lv : List (Nat × Value)) (hy : plainName K.2.2.2.1.cls = true) (hlen : (lg_sl av).length ≤ K.2.1) (hlv : lv_args 0 av = lv) (kk : jT l E K 0 0 0 lv [] w0 Po) : jM l E K av w0 Po := by
  intro sz
  refine Met.ofW (cc := K.1) (maxL := K.2.1) (ret := K.2.2.1) hy rfl ?_
  intro p e s m args below meth c s₁ B hml hv
  obtain ⟨rfl, hsz, hP, hK, hN, hD0⟩ := hv
  subst hsz
  have hts := atoms_spec (ws := Cond.code K.2.2.2.1 K.1 K.2.1 K.2.2.1 :: jB) B.pre
  have hl := lv_entry av (n := K.2.1) hlen
  rw [lg_entry_eq]
  rw [hlv] at hl
  exact kk p e s m av.toArray below meth c (va_A w0 s.heap.size) ⟨B.exec, B.bytes, hml, findClass_of_methodNamed B.named, fun w h => hts w (List.mem_cons_of_mem _ h), B.returns, B.notSynchronized, (name_of_methodNamed B.named B.method).1, hK, hN, fun q h => Or.inr h⟩ s.heap [] _ hP hD0.self va_S.rf hl
theorem j_sub {lv' : List (Nat × Value)} (ks : List Nat) (h : lv_pick lv ks = lv') (kk : jT l E K k n pc lv' st w Po) : jT l E K k n pc lv st w Po := by
  intro p e s m args below meth c A X H locs ls hP hD hS hl
  exact kk p e s m args below meth c A X H locs ls hP hD hS (lv_sub hl ks h)
theorem j_iconst {i : Int} {v : Int32} (d : decode K.1 pc = .ok (.iconst i, 1)) (hv : Int32.ofInt i = v) (kk : jT l E K k n (pc + 1) lv (.int v :: st) w Po) : jT l E K k n pc lv st w Po := by
  intro p e s m args below meth c A X H locs ls hP hD hS hl
  exact lv_iconst X.1 X.2.1 d hv (kk p e s m args below meth c A X H locs ls hP hD hS hl)
theorem j_bipush {i : Int} {v : Int32} (d : decode K.1 pc = .ok (.bipush i, 2)) (hv : (Int8.ofInt i).toInt32 = v) (kk : jT l E K k n (pc + 2) lv (.int v :: st) w Po) : jT l E K k n pc lv st w Po := by
  intro p e s m args below meth c A X H locs ls hP hD hS hl
  exact lv_bipush X.1 X.2.1 d hv (kk p e s m args below meth c A X H locs ls hP hD hS hl)
theorem j_sipush {i : Int} {v : Int32} (d : decode K.1 pc = .ok (.sipush i, 3)) (hv : (Int16.ofInt i).toInt32 = v) (kk : jT l E K k n (pc + 3) lv (.int v :: st) w Po) : jT l E K k n pc lv st w Po := by
  intro p e s m args below meth c A X H locs ls hP hD hS hl
  exact lv_sipush X.1 X.2.1 d hv (kk p e s m args below meth c A X H locs ls hP hD hS hl)
theorem j_lconst {i : Fin 2} {v : Int64} (d : decode K.1 pc = .ok (.lconst i, 1)) (hv : Int64.ofNat (i : Nat) = v) (kk : jT l E K k n (pc + 1) lv (.long v :: st) w Po) : jT l E K k n pc lv st w Po := by
  intro p e s m args below meth c A X H locs ls hP hD hS hl
  exact lv_lconst X.1 X.2.1 d hv (kk p e s m args below meth c A X H locs ls hP hD hS hl)
theorem j_ldc {i : Nat} {v : Int32} (hc : Cond.constant K.2.2.2.1.cls i v ∈ jB) (d : decode K.1 pc = .ok (.ldc i, 2)) (kk : jT l E K k n (pc + 2) lv (.int v :: st) w Po) : jT l E K k n pc lv st w Po := by
  intro p e s m args below meth c A X H locs ls hP hD hS hl
  exact lv_ldc X.1 X.2.1 X.2.2.2.1 (X.2.2.2.2.1 _ hc) d (kk p e s m args below meth c A X H locs ls hP hD hS hl)
theorem j_ldc2 {i : Nat} {v : Int64} (hc : Cond.constantLong K.2.2.2.1.cls i v ∈ jB) (d : decode K.1 pc = .ok (.ldc2_w i, 3)) (kk : jT l E K k n (pc + 3) lv (.long v :: st) w Po) : jT l E K k n pc lv st w Po := by
  intro p e s m args below meth c A X H locs ls hP hD hS hl
  exact lv_ldc2 X.1 X.2.1 X.2.2.2.1 (X.2.2.2.2.1 _ hc) d (kk p e s m args below meth c A X H locs ls hP hD hS hl)
theorem j_iload_n {q : Fin 4} {i : Nat} {x : Int32} (j : Nat) (d : decode K.1 pc = .ok (.iload_n q, 1)) (hi : (q : Nat) = i) (hj : lv[j]? = some (i, .int x)) (kk : jT l E K k n (pc + 1) lv (.int x :: st) w Po) : jT l E K k n pc lv st w Po := by
  intro p e s m args below meth c A X H locs ls hP hD hS hl
  exact lv_iload_n X.1 X.2.1 d hi (lv_at hl j hj) (kk p e s m args below meth c A X H locs ls hP hD hS hl)
theorem j_iload {i : Nat} {x : Int32} (j : Nat) (d : decode K.1 pc = .ok (.iload i, 2)) (hj : lv[j]? = some (i, .int x)) (kk : jT l E K k n (pc + 2) lv (.int x :: st) w Po) : jT l E K k n pc lv st w Po := by
  intro p e s m args below meth c A X H locs ls hP hD hS hl
  exact lv_iload X.1 X.2.1 d (lv_at hl j hj) (kk p e s m args below meth c A X H locs ls hP hD hS hl)
theorem j_lload_n {q : Fin 4} {i : Nat} {x : Int64} (j : Nat) (d : decode K.1 pc = .ok (.lload_n q, 1)) (hi : (q : Nat) = i) (hj : lv[j]? = some (i, .long x)) (kk : jT l E K k n (pc + 1) lv (.long x :: st) w Po) : jT l E K k n pc lv st w Po := by
  intro p e s m args below meth c A X H locs ls hP hD hS hl
  exact lv_lload_n X.1 X.2.1 d hi (lv_at hl j hj) (kk p e s m args below meth c A X H locs ls hP hD hS hl)
theorem j_lload {i : Nat} {x : Int64} (j : Nat) (d : decode K.1 pc = .ok (.lload i, 2)) (hj : lv[j]? = some (i, .long x)) (kk : jT l E K k n (pc + 2) lv (.long x :: st) w Po) : jT l E K k n pc lv st w Po := by
  intro p e s m args below meth c A X H locs ls hP hD hS hl
  exact lv_lload X.1 X.2.1 d (lv_at hl j hj) (kk p e s m args below meth c A X H locs ls hP hD hS hl)
theorem j_aload_n {q : Fin 4} {i x : Nat} (j : Nat) (d : decode K.1 pc = .ok (.aload_n q, 1)) (hi : (q : Nat) = i) (hj : lv[j]? = some (i, .ref x)) (kk : jT l E K k n (pc + 1) lv (.ref x :: st) w Po) : jT l E K k n pc lv st w Po := by
  intro p e s m args below meth c A X H locs ls hP hD hS hl
  exact lv_aload_n X.1 X.2.1 d hi (lv_at hl j hj) (kk p e s m args below meth c A X H locs ls hP hD hS hl)
theorem j_aload {i x : Nat} (j : Nat) (d : decode K.1 pc = .ok (.aload i, 2)) (hj : lv[j]? = some (i, .ref x)) (kk : jT l E K k n (pc + 2) lv (.ref x :: st) w Po) : jT l E K k n pc lv st w Po := by
  intro p e s m args below meth c A X H locs ls hP hD hS hl
  exact lv_aload X.1 X.2.1 d (lv_at hl j hj) (kk p e s m args below meth c A X H locs ls hP hD hS hl)
theorem j_istore_n {q : Fin 4} {i : Nat} {x : Int32} {lv' : List (Nat × Value)} (d : decode K.1 pc = .ok (.istore_n q, 1)) (hi : (q : Nat) = i) (hn : i < K.2.1) (hl' : (i, Value.int x) :: lv.filter (fun q => !(q.1 == i) && !(q.1 + 1 == i && q.2.category == 2)) = lv') (kk : jT l E K k n (pc + 1) lv' st w Po) : jT l E K k n pc lv (.int x :: st) w Po := by
  intro p e s m args below meth c A X H locs ls hP hD hS hl
  exact lv_istore_n X.1 X.2.1 d hi hl hn hl' (fun ls' h' => kk p e s m args below meth c A X H locs ls' hP hD hS h')
theorem j_istore {i : Nat} {x : Int32} {lv' : List (Nat × Value)} (d : decode K.1 pc = .ok (.istore i, 2)) (hn : i < K.2.1) (hl' : (i, Value.int x) :: lv.filter (fun q => !(q.1 == i) && !(q.1 + 1 == i && q.2.category == 2)) = lv') (kk : jT l E K k n (pc + 2) lv' st w Po) : jT l E K k n pc lv (.int x :: st) w Po := by
  intro p e s m args below meth c A X H locs ls hP hD hS hl
  exact lv_istore X.1 X.2.1 d hl hn hl' (fun ls' h' => kk p e s m args below meth c A X H locs ls' hP hD hS h')
theorem j_lstore_n {q : Fin 4} {i : Nat} {x : Int64} {lv' : List (Nat × Value)} (d : decode K.1 pc = .ok (.lstore_n q, 1)) (hi : (q : Nat) = i) (hn : i + 1 < K.2.1) (hl' : (i, Value.long x) :: lv.filter (fun q => !(q.1 == i) && (!(q.1 == i + 1) && !(q.1 + 1 == i && q.2.category == 2))) = lv') (kk : jT l E K k n (pc + 1) lv' st w Po) : jT l E K k n pc lv (.long x :: st) w Po := by
  intro p e s m args below meth c A X H locs ls hP hD hS hl
  exact lv_lstore_n X.1 X.2.1 d hi hl hn hl' (fun ls' h' => kk p e s m args below meth c A X H locs ls' hP hD hS h')
theorem j_lstore {i : Nat} {x : Int64} {lv' : List (Nat × Value)} (d : decode K.1 pc = .ok (.lstore i, 2)) (hn : i + 1 < K.2.1) (hl' : (i, Value.long x) :: lv.filter (fun q => !(q.1 == i) && (!(q.1 == i + 1) && !(q.1 + 1 == i && q.2.category == 2))) = lv') (kk : jT l E K k n (pc + 2) lv' st w Po) : jT l E K k n pc lv (.long x :: st) w Po := by
  intro p e s m args below meth c A X H locs ls hP hD hS hl
  exact lv_lstore X.1 X.2.1 d hl hn hl' (fun ls' h' => kk p e s m args below meth c A X H locs ls' hP hD hS h')
theorem j_iinc {i j : Nat} {z : Int} {x v : Int32} {lv' : List (Nat × Value)} (d : decode K.1 pc = .ok (.iinc i z, 3)) (hj : lv[j]? = some (i, .int x)) (hv : x + Int32.ofInt z = v) (hn : i < K.2.1) (hl' : (i, Value.int v) :: lv.filter (fun q => !(q.1 == i) && !(q.1 + 1 == i && q.2.category == 2)) = lv') (kk : jT l E K k n (pc + 3) lv' st w Po) : jT l E K k n pc lv st w Po := by
  intro p e s m args below meth c A X H locs ls hP hD hS hl
  exact lv_iinc X.1 X.2.1 d hl hj hv hn hl' (fun ls' h' => kk p e s m args below meth c A X H locs ls' hP hD hS h')
theorem j_iadd {x y : Int32} (d : decode K.1 pc = .ok (.iadd, 1)) (kk : jT l E K k n (pc + 1) lv (.int (x + y) :: st) w Po) : jT l E K k n pc lv (.int y :: .int x :: st) w Po := by
  intro p e s m args below meth c A X H locs ls hP hD hS hl
  exact lv_iadd X.1 X.2.1 d (kk p e s m args below meth c A X H locs ls hP hD hS hl)
theorem j_isub {x y : Int32} (d : decode K.1 pc = .ok (.isub, 1)) (kk : jT l E K k n (pc + 1) lv (.int (x - y) :: st) w Po) : jT l E K k n pc lv (.int y :: .int x :: st) w Po := by
  intro p e s m args below meth c A X H locs ls hP hD hS hl
  exact lv_isub X.1 X.2.1 d (kk p e s m args below meth c A X H locs ls hP hD hS hl)
theorem j_imul {x y : Int32} (d : decode K.1 pc = .ok (.imul, 1)) (kk : jT l E K k n (pc + 1) lv (.int (x * y) :: st) w Po) : jT l E K k n pc lv (.int y :: .int x :: st) w Po := by
  intro p e s m args below meth c A X H locs ls hP hD hS hl
  exact lv_imul X.1 X.2.1 d (kk p e s m args below meth c A X H locs ls hP hD hS hl)
theorem j_iand {x y : Int32} (d : decode K.1 pc = .ok (.iand, 1)) (kk : jT l E K k n (pc + 1) lv (.int (x &&& y) :: st) w Po) : jT l E K k n pc lv (.int y :: .int x :: st) w Po := by
  intro p e s m args below meth c A X H locs ls hP hD hS hl
  exact lv_iand X.1 X.2.1 d (kk p e s m args below meth c A X H locs ls hP hD hS hl)
theorem j_ior {x y : Int32} (d : decode K.1 pc = .ok (.ior, 1)) (kk : jT l E K k n (pc + 1) lv (.int (x ||| y) :: st) w Po) : jT l E K k n pc lv (.int y :: .int x :: st) w Po := by
  intro p e s m args below meth c A X H locs ls hP hD hS hl
  exact lv_ior X.1 X.2.1 d (kk p e s m args below meth c A X H locs ls hP hD hS hl)
theorem j_ixor {x y : Int32} (d : decode K.1 pc = .ok (.ixor, 1)) (kk : jT l E K k n (pc + 1) lv (.int (x ^^^ y) :: st) w Po) : jT l E K k n pc lv (.int y :: .int x :: st) w Po := by
  intro p e s m args below meth c A X H locs ls hP hD hS hl
  exact lv_ixor X.1 X.2.1 d (kk p e s m args below meth c A X H locs ls hP hD hS hl)
theorem j_ishl {x y : Int32} (d : decode K.1 pc = .ok (.ishl, 1)) (kk : jT l E K k n (pc + 1) lv (.int (jshl x y) :: st) w Po) : jT l E K k n pc lv (.int y :: .int x :: st) w Po := by
  intro p e s m args below meth c A X H locs ls hP hD hS hl
  exact lv_ishl X.1 X.2.1 d (kk p e s m args below meth c A X H locs ls hP hD hS hl)
theorem j_ishr {x y : Int32} (d : decode K.1 pc = .ok (.ishr, 1)) (kk : jT l E K k n (pc + 1) lv (.int (jshr x y) :: st) w Po) : jT l E K k n pc lv (.int y :: .int x :: st) w Po := by
  intro p e s m args below meth c A X H locs ls hP hD hS hl
  exact lv_ishr X.1 X.2.1 d (kk p e s m args below meth c A X H locs ls hP hD hS hl)
theorem j_iushr {x : Int32} {y : Int32} (d : decode K.1 pc = .ok (.iushr, 1)) (kk : jT l E K k n (pc + 1) lv (.int (jushr x y) :: st) w Po) : jT l E K k n pc lv (.int y :: .int x :: st) w Po := by
  intro p e s m args below meth c A X H locs ls hP hD hS hl
  exact lv_iushr X.1 X.2.1 d rfl (kk p e s m args below meth c A X H locs ls hP hD hS hl)
theorem j_ladd {x y : Int64} (d : decode K.1 pc = .ok (.ladd, 1)) (kk : jT l E K k n (pc + 1) lv (.long (x + y) :: st) w Po) : jT l E K k n pc lv (.long y :: .long x :: st) w Po := by
  intro p e s m args below meth c A X H locs ls hP hD hS hl
  exact lv_ladd X.1 X.2.1 d (kk p e s m args below meth c A X H locs ls hP hD hS hl)
theorem j_lmul {x y : Int64} (d : decode K.1 pc = .ok (.lmul, 1)) (kk : jT l E K k n (pc + 1) lv (.long (x * y) :: st) w Po) : jT l E K k n pc lv (.long y :: .long x :: st) w Po := by
  intro p e s m args below meth c A X H locs ls hP hD hS hl
  exact lv_lmul X.1 X.2.1 d (kk p e s m args below meth c A X H locs ls hP hD hS hl)
theorem j_lor {x y : Int64} (d : decode K.1 pc = .ok (.lor, 1)) (kk : jT l E K k n (pc + 1) lv (.long (x ||| y) :: st) w Po) : jT l E K k n pc lv (.long y :: .long x :: st) w Po := by
  intro p e s m args below meth c A X H locs ls hP hD hS hl
  exact lv_lor X.1 X.2.1 d (kk p e s m args below meth c A X H locs ls hP hD hS hl)
theorem j_lushr {x : Int64} {y : Int32} (d : decode K.1 pc = .ok (.lushr, 1)) (kk : jT l E K k n (pc + 1) lv (.long (jlushr x y) :: st) w Po) : jT l E K k n pc lv (.int y :: .long x :: st) w Po := by
  intro p e s m args below meth c A X H locs ls hP hD hS hl
  exact lv_lushr X.1 X.2.1 d rfl (kk p e s m args below meth c A X H locs ls hP hD hS hl)
theorem j_lshl {x : Int64} {y : Int32} (d : decode K.1 pc = .ok (.lshl, 1)) (kk : jT l E K k n (pc + 1) lv (.long (jlshl x y) :: st) w Po) : jT l E K k n pc lv (.int y :: .long x :: st) w Po := by
  intro p e s m args below meth c A X H locs ls hP hD hS hl
  exact lv_lshl X.1 X.2.1 d rfl (kk p e s m args below meth c A X H locs ls hP hD hS hl)
theorem j_i2l {x : Int32} (d : decode K.1 pc = .ok (.i2l, 1)) (kk : jT l E K k n (pc + 1) lv (.long x.toInt64 :: st) w Po) : jT l E K k n pc lv (.int x :: st) w Po := by
  intro p e s m args below meth c A X H locs ls hP hD hS hl
  exact lv_i2l X.1 X.2.1 d rfl (kk p e s m args below meth c A X H locs ls hP hD hS hl)
theorem j_l2i {x : Int64} (d : decode K.1 pc = .ok (.l2i, 1)) (kk : jT l E K k n (pc + 1) lv (.int x.toInt32 :: st) w Po) : jT l E K k n pc lv (.long x :: st) w Po := by
  intro p e s m args below meth c A X H locs ls hP hD hS hl
  exact lv_l2i X.1 X.2.1 d rfl (kk p e s m args below meth c A X H locs ls hP hD hS hl)
theorem j_i2c {x : Int32} (d : decode K.1 pc = .ok (.i2c, 1)) (kk : jT l E K k n (pc + 1) lv (.int (jchar x) :: st) w Po) : jT l E K k n pc lv (.int x :: st) w Po := by
  intro p e s m args below meth c A X H locs ls hP hD hS hl
  exact lv_i2c X.1 X.2.1 d rfl (kk p e s m args below meth c A X H locs ls hP hD hS hl)
theorem j_lcmp {x y : Int64} (d : decode K.1 pc = .ok (.lcmp, 1)) (kk : jT l E K k n (pc + 1) lv (.int (lg_cmp x y) :: st) w Po) : jT l E K k n pc lv (.long y :: .long x :: st) w Po := by
  intro p e s m args below meth c A X H locs ls hP hD hS hl
  exact W.lcmp X.1 X.2.1 d (kk p e s m args below meth c A X H locs ls hP hD hS hl)
theorem j_dup {v : Value} (d : decode K.1 pc = .ok (.dup, 1)) (hv : v.category = 1) (kk : jT l E K k n (pc + 1) lv (v :: v :: st) w Po) : jT l E K k n pc lv (v :: st) w Po := by
  intro p e s m args below meth c A X H locs ls hP hD hS hl
  exact lv_dup X.1 X.2.1 d hv (kk p e s m args below meth c A X H locs ls hP hD hS hl)
theorem j_pop {v : Value} (d : decode K.1 pc = .ok (.pop, 1)) (hv : v.category = 1) (kk : jT l E K k n (pc + 1) lv st w Po) : jT l E K k n pc lv (v :: st) w Po := by
  intro p e s m args below meth c A X H locs ls hP hD hS hl
  exact lv_pop X.1 X.2.1 d hv (kk p e s m args below meth c A X H locs ls hP hD hS hl)
theorem j_goto {off : Int} {tgt : Nat} (d : decode K.1 pc = .ok (.goto off, 3)) (ht : (pc : Int) + off = (tgt : Int)) (kk : jT l E K k n tgt lv st w Po) : jT l E K k n pc lv st w Po := by
  intro p e s m args below meth c A X H locs ls hP hD hS hl
  exact lv_goto X.1 X.2.1 d ht (kk p e s m args below meth c A X H locs ls hP hD hS hl)
end JT
/-! guards of the pure texts: an index in its row, a divisor that isn't 0, a boolean that is 0 or 1 -/
def jgi {α : Type} (i : Int32) (N : Nat) (a : Option α) : Option α := if i < 0 ∨ N ≤ i.toNatClampNeg then none else a
def jgd {α : Type} (y : Int32) (a : Option α) : Option α := if y = 0 then none else a
def jge {α : Type} (y : Int64) (a : Option α) : Option α := if y = 0 then none else a
def jgz {α : Type} (x : Int32) (a : Option α) : Option α := if x = 0 ∨ x = 1 then a else none
theorem jgi_s {α : Type} {i : Int32} {N : Nat} {a : Option α} {u : α} (h : jgi i N a = some u) : vp_in i N ∧ a = some u := by
  unfold jgi at h
  by_cases q : i < 0 ∨ N ≤ i.toNatClampNeg
  · rw [if_pos q] at h; cases h
  · rw [if_neg q] at h; exact ⟨q, h⟩
theorem jgd_s {α : Type} {y : Int32} {a : Option α} {u : α} (h : jgd y a = some u) : ¬ y = 0 ∧ a = some u := by
  unfold jgd at h
  by_cases q : y = 0
  · rw [if_pos q] at h; cases h
  · rw [if_neg q] at h; exact ⟨q, h⟩
theorem jge_s {α : Type} {y : Int64} {a : Option α} {u : α} (h : jge y a = some u) : ¬ y = 0 ∧ a = some u := by
  unfold jge at h
  by_cases q : y = 0
  · rw [if_pos q] at h; cases h
  · rw [if_neg q] at h; exact ⟨q, h⟩
theorem jgz_s {α : Type} {x : Int32} {a : Option α} {u : α} (h : jgz x a = some u) : (x = 0 ∨ x = 1) ∧ a = some u := by
  unfold jgz at h
  by_cases q : x = 0 ∨ x = 1
  · rw [if_pos q] at h; exact ⟨q, h⟩
  · rw [if_neg q] at h; cases h
theorem jbind_s {α β : Type} {o : Option α} {g : α → Option β} {u : β} (h : o.bind g = some u) : ∃ b, o = some b ∧ g b = some u := by
  cases o with
  | none => cases h
  | some b => exact ⟨b, rfl, h⟩
section JB
variable {l : Launch} {E : jE} {K : jK} {k n pc : Nat} {lv : List (Nat × Value)} {st : List Value} {w : va_W} {Po : Option Value → va_W → Prop} {α : Type} {a b o : Option α} {off : Int} {tgt : Nat}
theorem j_if_eq {x : Int32} {i : Decidable (x = 0)} (d : decode K.1 pc = .ok (.ifCond .eq off, 3)) (ht : (pc : Int) + off = (tgt : Int)) (h : @ite _ (x = 0) i a b = o) (kt : a = o → jT l E K k n tgt lv st w Po) (kf : b = o → jT l E K k n (pc + 3) lv st w Po) : jT l E K k n pc lv (.int x :: st) w Po := by
  intro p e s m args below meth c A X H locs ls hP hD hS hl
  exact lv_if_eq X.1 X.2.1 d ht (fun q => kt ((if_pos q).symm.trans h) p e s m args below meth c A X H locs ls hP hD hS hl) (fun q => kf ((if_neg q).symm.trans h) p e s m args below meth c A X H locs ls hP hD hS hl)
theorem j_if_ne {x : Int32} {i : Decidable (x = 0)} (d : decode K.1 pc = .ok (.ifCond .ne off, 3)) (ht : (pc : Int) + off = (tgt : Int)) (h : @ite _ (x = 0) i a b = o) (kt : b = o → jT l E K k n tgt lv st w Po) (kf : a = o → jT l E K k n (pc + 3) lv st w Po) : jT l E K k n pc lv (.int x :: st) w Po := by
  intro p e s m args below meth c A X H locs ls hP hD hS hl
  exact lv_if_ne X.1 X.2.1 d ht (fun q => kt ((if_neg q).symm.trans h) p e s m args below meth c A X H locs ls hP hD hS hl) (fun q => kf ((if_pos q).symm.trans h) p e s m args below meth c A X H locs ls hP hD hS hl)
theorem j_if_lt {x : Int32} {i : Decidable (x < 0)} (d : decode K.1 pc = .ok (.ifCond .lt off, 3)) (ht : (pc : Int) + off = (tgt : Int)) (h : @ite _ (x < 0) i a b = o) (kt : a = o → jT l E K k n tgt lv st w Po) (kf : b = o → jT l E K k n (pc + 3) lv st w Po) : jT l E K k n pc lv (.int x :: st) w Po := by
  intro p e s m args below meth c A X H locs ls hP hD hS hl
  exact lv_if_lt X.1 X.2.1 d ht (fun q => kt ((if_pos q).symm.trans h) p e s m args below meth c A X H locs ls hP hD hS hl) (fun q => kf ((if_neg q).symm.trans h) p e s m args below meth c A X H locs ls hP hD hS hl)
theorem j_if_ge {x : Int32} {i : Decidable (0 ≤ x)} (d : decode K.1 pc = .ok (.ifCond .ge off, 3)) (ht : (pc : Int) + off = (tgt : Int)) (h : @ite _ (0 ≤ x) i a b = o) (kt : a = o → jT l E K k n tgt lv st w Po) (kf : b = o → jT l E K k n (pc + 3) lv st w Po) : jT l E K k n pc lv (.int x :: st) w Po := by
  intro p e s m args below meth c A X H locs ls hP hD hS hl
  exact lv_if_ge X.1 X.2.1 d ht (fun q => kt ((if_pos q).symm.trans h) p e s m args below meth c A X H locs ls hP hD hS hl) (fun q => kf ((if_neg q).symm.trans h) p e s m args below meth c A X H locs ls hP hD hS hl)
theorem j_if_gt {x : Int32} {i : Decidable (0 < x)} (d : decode K.1 pc = .ok (.ifCond .gt off, 3)) (ht : (pc : Int) + off = (tgt : Int)) (h : @ite _ (0 < x) i a b = o) (kt : a = o → jT l E K k n tgt lv st w Po) (kf : b = o → jT l E K k n (pc + 3) lv st w Po) : jT l E K k n pc lv (.int x :: st) w Po := by
  intro p e s m args below meth c A X H locs ls hP hD hS hl
  exact lv_if_gt X.1 X.2.1 d ht (fun q => kt ((if_pos q).symm.trans h) p e s m args below meth c A X H locs ls hP hD hS hl) (fun q => kf ((if_neg q).symm.trans h) p e s m args below meth c A X H locs ls hP hD hS hl)
theorem j_if_le {x : Int32} {i : Decidable (x ≤ 0)} (d : decode K.1 pc = .ok (.ifCond .le off, 3)) (ht : (pc : Int) + off = (tgt : Int)) (h : @ite _ (x ≤ 0) i a b = o) (kt : a = o → jT l E K k n tgt lv st w Po) (kf : b = o → jT l E K k n (pc + 3) lv st w Po) : jT l E K k n pc lv (.int x :: st) w Po := by
  intro p e s m args below meth c A X H locs ls hP hD hS hl
  exact lv_if_le X.1 X.2.1 d ht (fun q => kt ((if_pos q).symm.trans h) p e s m args below meth c A X H locs ls hP hD hS hl) (fun q => kf ((if_neg q).symm.trans h) p e s m args below meth c A X H locs ls hP hD hS hl)
theorem j_icmp_eq {x y : Int32} {i : Decidable (x = y)} (d : decode K.1 pc = .ok (.if_icmp .eq off, 3)) (ht : (pc : Int) + off = (tgt : Int)) (h : @ite _ (x = y) i a b = o) (kt : a = o → jT l E K k n tgt lv st w Po) (kf : b = o → jT l E K k n (pc + 3) lv st w Po) : jT l E K k n pc lv (.int y :: .int x :: st) w Po := by
  intro p e s m args below meth c A X H locs ls hP hD hS hl
  exact lv_icmp_eq X.1 X.2.1 d ht (fun q => kt ((if_pos q).symm.trans h) p e s m args below meth c A X H locs ls hP hD hS hl) (fun q => kf ((if_neg q).symm.trans h) p e s m args below meth c A X H locs ls hP hD hS hl)
theorem j_icmp_ne {x y : Int32} {i : Decidable (x = y)} (d : decode K.1 pc = .ok (.if_icmp .ne off, 3)) (ht : (pc : Int) + off = (tgt : Int)) (h : @ite _ (x = y) i a b = o) (kt : b = o → jT l E K k n tgt lv st w Po) (kf : a = o → jT l E K k n (pc + 3) lv st w Po) : jT l E K k n pc lv (.int y :: .int x :: st) w Po := by
  intro p e s m args below meth c A X H locs ls hP hD hS hl
  exact lv_icmp_ne X.1 X.2.1 d ht (fun q => kt ((if_neg q).symm.trans h) p e s m args below meth c A X H locs ls hP hD hS hl) (fun q => kf ((if_pos q).symm.trans h) p e s m args below meth c A X H locs ls hP hD hS hl)
theorem j_icmp_lt {x y : Int32} {i : Decidable (x < y)} (d : decode K.1 pc = .ok (.if_icmp .lt off, 3)) (ht : (pc : Int) + off = (tgt : Int)) (h : @ite _ (x < y) i a b = o) (kt : a = o → jT l E K k n tgt lv st w Po) (kf : b = o → jT l E K k n (pc + 3) lv st w Po) : jT l E K k n pc lv (.int y :: .int x :: st) w Po := by
  intro p e s m args below meth c A X H locs ls hP hD hS hl
  exact lv_icmp_lt X.1 X.2.1 d ht (fun q => kt ((if_pos q).symm.trans h) p e s m args below meth c A X H locs ls hP hD hS hl) (fun q => kf ((if_neg q).symm.trans h) p e s m args below meth c A X H locs ls hP hD hS hl)
theorem j_icmp_ge {x y : Int32} {i : Decidable (y ≤ x)} (d : decode K.1 pc = .ok (.if_icmp .ge off, 3)) (ht : (pc : Int) + off = (tgt : Int)) (h : @ite _ (y ≤ x) i a b = o) (kt : a = o → jT l E K k n tgt lv st w Po) (kf : b = o → jT l E K k n (pc + 3) lv st w Po) : jT l E K k n pc lv (.int y :: .int x :: st) w Po := by
  intro p e s m args below meth c A X H locs ls hP hD hS hl
  exact lv_icmp_ge X.1 X.2.1 d ht (fun q => kt ((if_pos q).symm.trans h) p e s m args below meth c A X H locs ls hP hD hS hl) (fun q => kf ((if_neg q).symm.trans h) p e s m args below meth c A X H locs ls hP hD hS hl)
theorem j_icmp_gt {x y : Int32} {i : Decidable (y < x)} (d : decode K.1 pc = .ok (.if_icmp .gt off, 3)) (ht : (pc : Int) + off = (tgt : Int)) (h : @ite _ (y < x) i a b = o) (kt : a = o → jT l E K k n tgt lv st w Po) (kf : b = o → jT l E K k n (pc + 3) lv st w Po) : jT l E K k n pc lv (.int y :: .int x :: st) w Po := by
  intro p e s m args below meth c A X H locs ls hP hD hS hl
  exact lv_icmp_gt X.1 X.2.1 d ht (fun q => kt ((if_pos q).symm.trans h) p e s m args below meth c A X H locs ls hP hD hS hl) (fun q => kf ((if_neg q).symm.trans h) p e s m args below meth c A X H locs ls hP hD hS hl)
theorem j_icmp_le {x y : Int32} {i : Decidable (x ≤ y)} (d : decode K.1 pc = .ok (.if_icmp .le off, 3)) (ht : (pc : Int) + off = (tgt : Int)) (h : @ite _ (x ≤ y) i a b = o) (kt : a = o → jT l E K k n tgt lv st w Po) (kf : b = o → jT l E K k n (pc + 3) lv st w Po) : jT l E K k n pc lv (.int y :: .int x :: st) w Po := by
  intro p e s m args below meth c A X H locs ls hP hD hS hl
  exact lv_icmp_le X.1 X.2.1 d ht (fun q => kt ((if_pos q).symm.trans h) p e s m args below meth c A X H locs ls hP hD hS hl) (fun q => kf ((if_neg q).symm.trans h) p e s m args below meth c A X H locs ls hP hD hS hl)
theorem j_tableOut {dflt lo hi : Int} {offs : Array Int} {len : Nat} {x : Int32} (d : decode K.1 pc = .ok (.tableswitch dflt lo hi offs, len)) (h : x.toInt < lo ∨ hi < x.toInt) (ht : (pc : Int) + dflt = (tgt : Int)) (kk : jT l E K k n tgt lv st w Po) : jT l E K k n pc lv (.int x :: st) w Po := by
  intro p e s m args below meth c A X H locs ls hP hD hS hl
  exact lv_tableOut X.1 X.2.1 d h ht (kk p e s m args below meth c A X H locs ls hP hD hS hl)
theorem j_tableIn {dflt lo hi : Int} {offs : Array Int} {len : Nat} {x : Int32} (v : Int32) (e : x = v) (d : decode K.1 pc = .ok (.tableswitch dflt lo hi offs, len)) (h1 : ¬ v.toInt < lo) (h2 : ¬ hi < v.toInt) (ho : offs[(v.toInt - lo).toNat]? = some off) (ht : (pc : Int) + off = (tgt : Int)) (kk : jT l E K k n tgt lv st w Po) : jT l E K k n pc lv (.int x :: st) w Po := by
  subst e
  intro p e s m args below meth c A X H locs ls hP hD hS hl
  exact lv_tableIn X.1 X.2.1 d h1 h2 ho ht (kk p e s m args below meth c A X H locs ls hP hD hS hl)
theorem j_lookup {dflt : Int} {ps : Array (Int × Int)} {len : Nat} {x : Int32} (d : decode K.1 pc = .ok (.lookupswitch dflt ps, len)) (hp : (ps.toList.zip (ps.toList.drop 1)).all (fun (a, next) => a.1 < next.1) = true) (ho : Op.lookupswitch.offset ps.toList dflt x.toInt = off) (ht : (pc : Int) + off = (tgt : Int)) (kk : jT l E K k n tgt lv st w Po) : jT l E K k n pc lv (.int x :: st) w Po := by
  intro p e s m args below meth c A X H locs ls hP hD hS hl
  exact lv_lookup X.1 X.2.1 d hp ho ht (kk p e s m args below meth c A X H locs ls hP hD hS hl)
theorem j_idiv {x y : Int32} {u : α} (d : decode K.1 pc = .ok (.idiv, 1)) (h : jgd y a = some u) (kk : a = some u → jT l E K k n (pc + 1) lv (.int (x / y) :: st) w Po) : jT l E K k n pc lv (.int y :: .int x :: st) w Po := by
  obtain ⟨h0, h⟩ := jgd_s h
  intro p e s m args below meth c A X H locs ls hP hD hS hl
  exact lv_idiv X.1 X.2.1 d h0 (kk h p e s m args below meth c A X H locs ls hP hD hS hl)
theorem j_irem {x y : Int32} {u : α} (d : decode K.1 pc = .ok (.irem, 1)) (h : jgd y a = some u) (kk : a = some u → jT l E K k n (pc + 1) lv (.int (jrem x y) :: st) w Po) : jT l E K k n pc lv (.int y :: .int x :: st) w Po := by
  obtain ⟨h0, h⟩ := jgd_s h
  intro p e s m args below meth c A X H locs ls hP hD hS hl
  exact lv_irem X.1 X.2.1 d h0 (kk h p e s m args below meth c A X H locs ls hP hD hS hl)
theorem j_ldiv {x y : Int64} {u : α} (d : decode K.1 pc = .ok (.ldiv, 1)) (h : jge y a = some u) (kk : a = some u → jT l E K k n (pc + 1) lv (.long (x / y) :: st) w Po) : jT l E K k n pc lv (.long y :: .long x :: st) w Po := by
  obtain ⟨h0, h⟩ := jge_s h
  intro p e s m args below meth c A X H locs ls hP hD hS hl
  exact lv_ldiv X.1 X.2.1 d h0 (kk h p e s m args below meth c A X H locs ls hP hD hS hl)
theorem j_lrem {x y : Int64} {u : α} (d : decode K.1 pc = .ok (.lrem, 1)) (h : jge y a = some u) (kk : a = some u → jT l E K k n (pc + 1) lv (.long (jreml x y) :: st) w Po) : jT l E K k n pc lv (.long y :: .long x :: st) w Po := by
  obtain ⟨h0, h⟩ := jge_s h
  intro p e s m args below meth c A X H locs ls hP hD hS hl
  exact lv_lrem X.1 X.2.1 d h0 (kk h p e s m args below meth c A X H locs ls hP hD hS hl)
/-! arrays -/
theorem j_iald {a0 N : Nat} {f : Nat → Int32} {i : Int32} {u : α} (q0 : Nat) (ha : w[q0]? = some (jI E a0 N f)) (d : decode K.1 pc = .ok (.iaload, 1)) (h : jgi i N a = some u) (kk : a = some u → jT l E K k n (pc + 1) lv (.int (f i.toNatClampNeg) :: st) w Po) : jT l E K k n pc lv (.int i :: .ref a0 :: st) w Po := by
  obtain ⟨h0, h⟩ := jgi_s h
  intro p e s m args below meth c A X H locs ls hP hD hS hl
  exact va_iald X.1 X.2.1 X.2.2.2.2.2.2.2.2.1 hP q0 0 ha rfl h0 d (kk h p e s m args below meth c A X H locs ls hP hD hS hl)
theorem j_lald {a0 N : Nat} {f : Nat → Int64} {i : Int32} {u : α} (q0 : Nat) (ha : w[q0]? = some (jJ E a0 N f)) (d : decode K.1 pc = .ok (.laload, 1)) (h : jgi i N a = some u) (kk : a = some u → jT l E K k n (pc + 1) lv (.long (f i.toNatClampNeg) :: st) w Po) : jT l E K k n pc lv (.int i :: .ref a0 :: st) w Po := by
  obtain ⟨h0, h⟩ := jgi_s h
  intro p e s m args below meth c A X H locs ls hP hD hS hl
  exact va_lald X.1 X.2.1 X.2.2.2.2.2.2.2.2.1 hP q0 1 ha rfl h0 d (kk h p e s m args below meth c A X H locs ls hP hD hS hl)
theorem j_cald {a0 N : Nat} {f : Nat → Int32} {i : Int32} {u : α} (q0 : Nat) (ha : w[q0]? = some (jH E a0 N f)) (d : decode K.1 pc = .ok (.caload, 1)) (h : jgi i N a = some u) (kk : a = some u → jT l E K k n (pc + 1) lv (.int (f i.toNatClampNeg) :: st) w Po) : jT l E K k n pc lv (.int i :: .ref a0 :: st) w Po := by
  obtain ⟨h0, h⟩ := jgi_s h
  intro p e s m args below meth c A X H locs ls hP hD hS hl
  exact va_cald X.1 X.2.1 X.2.2.2.2.2.2.2.2.1 hP q0 2 ha rfl h0 d (kk h p e s m args below meth c A X H locs ls hP hD hS hl)
theorem j_iast {a0 N : Nat} {f : Nat → Int32} {i x : Int32} {u : α} {w' : va_W} (q0 : Nat) (ha : w[q0]? = some (jI E a0 N f)) (d : decode K.1 pc = .ok (.iastore, 1)) (h : jgi i N a = some u) (hw : w.set q0 (jI E a0 N (upd f i.toNatClampNeg x)) = w') (kk : a = some u → jT l E K k n (pc + 1) lv st w' Po) : jT l E K k n pc lv (.int x :: .int i :: .ref a0 :: st) w Po := by
  obtain ⟨h0, h⟩ := jgi_s h
  subst hw
  intro p e s m args below meth c A X H locs ls hP hD hS hl
  exact va_iast X.1 X.2.1 X.2.2.2.2.2.2.2.2.1 hP hD hS q0 0 ha rfl h0 d (fun H1 locs1 hP hD hS => kk h p e s m args below meth c A X H1 locs1 ls hP hD hS hl)
theorem j_last {a0 N : Nat} {f : Nat → Int64} {i : Int32} {x : Int64} {u : α} {w' : va_W} (q0 : Nat) (ha : w[q0]? = some (jJ E a0 N f)) (d : decode K.1 pc = .ok (.lastore, 1)) (h : jgi i N a = some u) (hw : w.set q0 (jJ E a0 N (vp_updL f i.toNatClampNeg x)) = w') (kk : a = some u → jT l E K k n (pc + 1) lv st w' Po) : jT l E K k n pc lv (.long x :: .int i :: .ref a0 :: st) w Po := by
  obtain ⟨h0, h⟩ := jgi_s h
  subst hw
  intro p e s m args below meth c A X H locs ls hP hD hS hl
  exact va_last X.1 X.2.1 X.2.2.2.2.2.2.2.2.1 hP hD hS q0 1 ha rfl h0 d (fun H1 locs1 hP hD hS => kk h p e s m args below meth c A X H1 locs1 ls hP hD hS hl)
theorem j_cast {a0 N : Nat} {f : Nat → Int32} {i x : Int32} {u : α} {w' : va_W} (q0 : Nat) (ha : w[q0]? = some (jH E a0 N f)) (d : decode K.1 pc = .ok (.castore, 1)) (h : jgi i N a = some u) (hw : w.set q0 (jH E a0 N (upd f i.toNatClampNeg (vp_nar .char x))) = w') (kk : a = some u → jT l E K k n (pc + 1) lv st w' Po) : jT l E K k n pc lv (.int x :: .int i :: .ref a0 :: st) w Po := by
  obtain ⟨h0, h⟩ := jgi_s h
  subst hw
  intro p e s m args below meth c A X H locs ls hP hD hS hl
  exact va_cast X.1 X.2.1 X.2.2.2.2.2.2.2.2.1 hP hD hS q0 2 ha rfl h0 d (fun H1 locs1 hP hD hS => kk h p e s m args below meth c A X H1 locs1 ls hP hD hS hl)
theorem j_alenI {a0 N : Nat} {f : Nat → Int32} {v : Int32} (q0 : Nat) (ha : w[q0]? = some (jI E a0 N f)) (d : decode K.1 pc = .ok (.arraylength, 1)) (hv : Int32.ofNat N = v) (kk : jT l E K k n (pc + 1) lv (.int v :: st) w Po) : jT l E K k n pc lv (.ref a0 :: st) w Po := by
  intro p e s m args below meth c A X H locs ls hP hD hS hl
  exact va_alen X.1 X.2.1 X.2.2.2.2.2.2.2.2.1 hP q0 0 ha rfl hv d (kk p e s m args below meth c A X H locs ls hP hD hS hl)
theorem j_alenJ {a0 N : Nat} {f : Nat → Int64} {v : Int32} (q0 : Nat) (ha : w[q0]? = some (jJ E a0 N f)) (d : decode K.1 pc = .ok (.arraylength, 1)) (hv : Int32.ofNat N = v) (kk : jT l E K k n (pc + 1) lv (.int v :: st) w Po) : jT l E K k n pc lv (.ref a0 :: st) w Po := by
  intro p e s m args below meth c A X H locs ls hP hD hS hl
  exact va_alen X.1 X.2.1 X.2.2.2.2.2.2.2.2.1 hP q0 1 ha rfl hv d (kk p e s m args below meth c A X H locs ls hP hD hS hl)
/-! fields -/
theorem j_get {a0 ci N i : Nat} {C : String} {T : u_T} {fs : List Value} {v : Value} (q0 fk : Nat) (he : w[q0]? = some (jO a0 ci fs)) (hc : vwCl[ci]? = some (C, T, N)) (hk : fk < N) (hin : ∀ w ∈ u_ws C T N, w ∈ jB) (hlink : Cond.fieldLink K.2.2.2.1.cls i (T fk).1 (T fk).2.1 (T fk).2.2.1 ∈ jB) (hv : fs[fk]? = some v) (d : decode K.1 pc = .ok (.getfield i, 3)) (kk : jT l E K k n (pc + 3) lv (v :: st) w Po) : jT l E K k n pc lv (.ref a0 :: st) w Po := by
  intro p e s m args below meth c A X H locs ls hP hD hS hl
  exact va_get X.1 X.2.1 X.2.2.2.2.1 hin X.2.2.2.1 X.2.2.2.2.2.2.2.2.1 hP q0 he hc fk hk (X.2.2.2.2.1 _ hlink) (fun _ h => h) hv d (kk p e s m args below meth c A X H locs ls hP hD hS hl)
theorem j_getN {a0 ci N i : Nat} {C host : String} {T : u_T} {fs : List Value} {v : Value} (q0 fk : Nat) (he : w[q0]? = some (jO a0 ci fs)) (hc : vwCl[ci]? = some (C, T, N)) (hk : fk < N) (hin : ∀ w ∈ u_ws C T N, w ∈ jB) (hlink : Cond.fieldLinkNest K.2.2.2.1.cls i (T fk).1 (T fk).2.1 (T fk).2.2.1 host ∈ jNl) (hv : fs[fk]? = some v) (d : decode K.1 pc = .ok (.getfield i, 3)) (kk : jT l E K k n (pc + 3) lv (v :: st) w Po) : jT l E K k n pc lv (.ref a0 :: st) w Po := by
  intro p e s m args below meth c A X H locs ls hP hD hS hl
  exact va_getN X.1 X.2.1 X.2.2.2.2.1 hin X.2.2.2.1 X.2.2.2.2.2.2.2.2.1 hP q0 he hc fk hk (va_Nw.use rfl (X.2.2.2.2.2.2.2.2.2.1 _ hlink)) (fun _ h => h) hv d (kk p e s m args below meth c A X H locs ls hP hD hS hl)
theorem j_put {a0 ci N i : Nat} {C : String} {T : u_T} {fs : List Value} {v : Value} {w' : va_W} {ty : FieldType} (ty0 : Nat → FieldType) (q0 fk : Nat) (hty : ∀ k, k < N → parseFieldDescriptor (T k).2.2.1 = some (ty0 k)) (hnm : ∀ a, a < N → ∀ b, b < N → a ≠ b → (T a).2.1 ≠ (T b).2.1) (he : w[q0]? = some (jO a0 ci fs)) (hc : vwCl[ci]? = some (C, T, N)) (hk : fk < N) (hin : ∀ w ∈ u_ws C T N, w ∈ jB) (hlink : Cond.fieldLink K.2.2.2.1.cls i (T fk).1 (T fk).2.1 (T fk).2.2.1 ∈ jB) (hfin : (T fk).2.2.2 = false) (ht : ty0 fk = ty) (hn : narrow ty v = v) (hfit : fits ty v = true) (hl0 : fk < fs.length) (d : decode K.1 pc = .ok (.putfield i, 3)) (hw : w.set q0 (jO a0 ci (fs.set fk v)) = w') (kk : jT l E K k n (pc + 3) lv st w' Po) : jT l E K k n pc lv (v :: .ref a0 :: st) w Po := by
  subst hw
  intro p e s m args below meth c A X H locs ls hP hD hS hl
  exact va_put X.1 X.2.1 X.2.2.2.2.1 hin ty0 hty hnm X.2.2.2.1 X.2.2.2.2.2.2.2.2.1 hP hD hS q0 he hc fk hk (X.2.2.2.2.1 _ hlink) (fun _ h => h) hfin ((hty fk hk).trans (congrArg some ht)) hn hfit hl0 d (fun H1 locs1 hP hD hS => kk p e s m args below meth c A X H1 locs1 ls hP hD hS hl)
theorem j_putN {a0 ci N i : Nat} {C host : String} {T : u_T} {fs : List Value} {v : Value} {w' : va_W} {ty : FieldType} (ty0 : Nat → FieldType) (q0 fk : Nat) (hty : ∀ k, k < N → parseFieldDescriptor (T k).2.2.1 = some (ty0 k)) (hnm : ∀ a, a < N → ∀ b, b < N → a ≠ b → (T a).2.1 ≠ (T b).2.1) (he : w[q0]? = some (jO a0 ci fs)) (hc : vwCl[ci]? = some (C, T, N)) (hk : fk < N) (hin : ∀ w ∈ u_ws C T N, w ∈ jB) (hlink : Cond.fieldLinkNest K.2.2.2.1.cls i (T fk).1 (T fk).2.1 (T fk).2.2.1 host ∈ jNl) (hfin : (T fk).2.2.2 = false) (ht : ty0 fk = ty) (hn : narrow ty v = v) (hfit : fits ty v = true) (hl0 : fk < fs.length) (d : decode K.1 pc = .ok (.putfield i, 3)) (hw : w.set q0 (jO a0 ci (fs.set fk v)) = w') (kk : jT l E K k n (pc + 3) lv st w' Po) : jT l E K k n pc lv (v :: .ref a0 :: st) w Po := by
  subst hw
  intro p e s m args below meth c A X H locs ls hP hD hS hl
  exact va_putN X.1 X.2.1 X.2.2.2.2.1 hin ty0 hty hnm X.2.2.2.1 X.2.2.2.2.2.2.2.2.1 hP hD hS q0 he hc fk hk (va_Nw.use rfl (X.2.2.2.2.2.2.2.2.2.1 _ hlink)) (fun _ h => h) hfin ((hty fk hk).trans (congrArg some ht)) hn hfit hl0 d (fun H1 locs1 hP hD hS => kk p e s m args below meth c A X H1 locs1 ls hP hD hS hl)
theorem j_bz {x : Int32} (h : x = 0 ∨ x = 1) : narrow .boolean (.int x) = .int x ∧ fits .boolean (.int x) = true := by
  rcases h with rfl | rfl <;> exact ⟨by decide, by decide⟩
/-! ends -/
theorem j_iret {v : Int32} (hr : K.2.2.1 = some .int) (d : decode K.1 pc = .ok (.ireturn, 1)) (hk : k ≤ K.2.2.2.2.cells) (hn : n ≤ K.2.2.2.2.slots) (hpo : Po (some (.int v)) w) : jT l E K k n pc lv [.int v] w Po := by
  intro p e s m args below meth c A X H locs ls hP hD hS hl
  exact W.widen hk hn (W.iret X.1 X.2.1 (X.2.2.2.2.2.1.trans hr) (fun t ht hW => ⟨⟨_, w, rfl, hpo, by rw [ht]; exact hP, hD⟩, hS.F ht⟩) hS.2.2 d X.2.2.2.2.2.2.1)
theorem j_zret {v : Int32} (hr : K.2.2.1 = some .boolean) (hz : v = 0 ∨ v = 1) (d : decode K.1 pc = .ok (.ireturn, 1)) (hk : k ≤ K.2.2.2.2.cells) (hn : n ≤ K.2.2.2.2.slots) (hpo : Po (some (.int v)) w) : jT l E K k n pc lv [.int v] w Po := by
  intro p e s m args below meth c A X H locs ls hP hD hS hl
  exact W.widen hk hn (W.zret X.1 X.2.1 (X.2.2.2.2.2.1.trans hr) (j_bz hz).1 (fun t ht hW => ⟨⟨_, w, rfl, hpo, by rw [ht]; exact hP, hD⟩, hS.F ht⟩) hS.2.2 d X.2.2.2.2.2.2.1)
theorem j_lret {v : Int64} (hr : K.2.2.1 = some .long) (d : decode K.1 pc = .ok (.lreturn, 1)) (hk : k ≤ K.2.2.2.2.cells) (hn : n ≤ K.2.2.2.2.slots) (hpo : Po (some (.long v)) w) : jT l E K k n pc lv [.long v] w Po := by
  intro p e s m args below meth c A X H locs ls hP hD hS hl
  exact W.widen hk hn (W.lret X.1 X.2.1 (X.2.2.2.2.2.1.trans hr) (fun t ht hW => ⟨⟨_, w, rfl, hpo, by rw [ht]; exact hP, hD⟩, hS.F ht⟩) hS.2.2 d X.2.2.2.2.2.2.1)
theorem j_vret (hr : K.2.2.1 = none) (d : decode K.1 pc = .ok (.return_, 1)) (hk : k ≤ K.2.2.2.2.cells) (hn : n ≤ K.2.2.2.2.slots) (hpo : Po none w) : jT l E K k n pc lv [] w Po := by
  intro p e s m args below meth c A X H locs ls hP hD hS hl
  exact W.widen hk hn (W.vret X.1 X.2.1 (X.2.2.2.2.2.1.trans hr) (fun t ht hW => ⟨⟨_, w, rfl, hpo, by rw [ht]; exact hP, hD⟩, hS.F ht⟩) hS.2.2 d X.2.2.2.2.2.2.1)
end JB
