/-! THE CLAIM OUT OF ONE WALK OF THE LAW'S BODY. Your part is whole_start (and what it stands on); all else here is the same for every law, but numbers. -/
def R_law : String := "LacedPackLaw"
def lw_P (b : Addr) (xs : List Int32) (args : Array Value) (s : State) : Prop := args = #[.ref b] ∧ s.IntsAt b xs ∧ xs.length ≤ 3072 ∧ (Jvm.Cond.and given_1 narrow_1).before args s = true
def lw_Q (_ : Array Value) (s : State) (o : Outcome) (t : State) : Prop := o = .returned (some (.int 1)) ∧ Framed s o t [] 600000 7302250
def lw_Z (below : List Frame) (a : Array Value) (s : State) : State → Prop := fun t => ∃ o, t.status = .running ∧ Ended t below o ∧ lw_Q a s o t
/-- the law's own end, with 1 on the stack, nothing written that was there before, its room as the claim has it -/
theorem lw_ret {p : Program} {l : Launch} {e : Env} {s : State} {m : MethodId} {below : List Frame} {meth : Method} {c : Code} {b : Nat} (hx : p.tables.exec = Jvm.exec) (hb : c.code = code) (hr : meth.sig.returnType = ret) (hlocks : meth.locks = false) {pc : Nat} {H : Heap} {ls : Array Slot} (hdg : decode code pc = .ok (.ireturn, 1)) : W p l e room_1 s m #[Value.ref b] below meth c H [] 600000 7302250 (lw_Z below #[Value.ref b] s) (F0 m pc ls [.int 1]) := by
  intro T hT X
  obtain ⟨fs, hret, hrun, hended, hW, hframe⟩ := X.leave (v := some (.int 1)) (hlocks := hlocks) (fun h => by rw [hr] at h; cases h)
  have hmeth' : T.vm.method? m = some meth := X.method'
  refine ⟨T.setFrames fs, ?_, .returned (some (.int 1)), hrun, hended, rfl, ⟨_, rfl⟩, hW, hframe⟩
  jvm_step X.here [X.here.top, hx, hb, hdg, hmeth', hr, ret, narrow_b1]
  (try refine ⟨rfl, ?_⟩); (try refine ⟨rfl, ?_⟩)
  first | (intro acts; rw [hret _ acts rfl rfl rfl]) | rw [hret _ _ rfl rfl rfl]
  exact Steps.refl _
/-- what holds at the law's entry: the machine, the code, the tables' words (any of lw_tbl by 'hts w (by decide +kernel)'), the script of L ints xs at the cell b, what the Statement gives of the start (any of its parts by flat_of_before) -/
def lw_At (p : Program) (s : State) (m : MethodId) (meth : Method) (c : Code) (b L : Nat) (xs : Nat → Int32) : Prop :=
  p.tables.exec = Jvm.exec ∧ c.code = code ∧ meth.sig.returnType = ret ∧ c.maxLocals = 4 ∧ s.vm.findClass R_law = some m.cls ∧ (∀ w ∈ lw_tbl, w.before #[Value.ref b] s = true) ∧ va_X b L xs s s.heap ∧ b < s.heap.size ∧ meth.locks = false ∧ (Jvm.Cond.and given_1 narrow_1).before #[Value.ref b] s = true
/-! the law's walk -/
abbrev lK (meth : Method) : jK := (code, 4, ret, ⟨"LacedPackLaw", meth.name, ""⟩, room_1)
def lT (p : Program) (l : Launch) (e : Env) (s : State) (m : MethodId) (below : List Frame) (meth : Method) (c : Code) (b : Nat) (E : jE) (k n : Nat) (pc : Nat) (lv : List (Nat × Value)) (st : List Value) (w : va_W) : Prop :=
  ∀ (H : Heap) (locs : List Loc) (ls : Array Slot), va_P E.1 vwCl w H → va_D (fun q : Nat => s.heap.size ≤ q) w → va_S (fun q : Nat => s.heap.size ≤ q) s.heap H locs → lv_has ls 4 lv →
    W p l e room_1 s m #[Value.ref b] below meth c H locs k n (lw_Z below #[Value.ref b] s) (F0 m pc ls st)
def lX (p : Program) (s : State) (m : MethodId) (meth : Method) (c : Code) (b L : Nat) (xs : Nat → Int32) (E : jE) : Prop :=
  jX E (lK meth) p s m #[Value.ref b] meth c (fun q : Nat => s.heap.size ≤ q) ∧ va_X b L xs s s.heap ∧ b < s.heap.size
section LW
variable {p : Program} {l : Launch} {e : Env} {s : State} {m : MethodId} {below : List Frame} {meth : Method} {c : Code} {b L : Nat} {xs : Nat → Int32} {E : jE} {k n pc : Nat} {lv : List (Nat × Value)} {st : List Value} {w : va_W}
theorem lt_sub {lv' : List (Nat × Value)} (ks : List Nat) (h : lv_pick lv ks = lv') (kk : lT p l e s m below meth c b E k n pc lv' st w) : lT p l e s m below meth c b E k n pc lv st w := by
  intro H locs ls hP hD hS hl
  exact kk H locs ls hP hD hS (lv_sub hl ks h)
theorem lt_world {w' : va_W} (h : w = w') (kk : lT p l e s m below meth c b E k n pc lv st w') : lT p l e s m below meth c b E k n pc lv st w := h ▸ kk
theorem lt_iconst (X : lX p s m meth c b L xs E) {i : Int} {v : Int32} (d : decode cL_law pc = .ok (.iconst i, 1)) (hv : Int32.ofInt i = v) (kk : lT p l e s m below meth c b E k n (pc + 1) lv (.int v :: st) w) : lT p l e s m below meth c b E k n pc lv st w := by
  intro H locs ls hP hD hS hl
  exact lv_iconst X.1.1 X.1.2.1 d hv (kk H locs ls hP hD hS hl)
theorem lt_bipush (X : lX p s m meth c b L xs E) {i : Int} {v : Int32} (d : decode cL_law pc = .ok (.bipush i, 2)) (hv : (Int8.ofInt i).toInt32 = v) (kk : lT p l e s m below meth c b E k n (pc + 2) lv (.int v :: st) w) : lT p l e s m below meth c b E k n pc lv st w := by
  intro H locs ls hP hD hS hl
  exact lv_bipush X.1.1 X.1.2.1 d hv (kk H locs ls hP hD hS hl)
theorem lt_iload_n (X : lX p s m meth c b L xs E) {q : Fin 4} {i : Nat} {x : Int32} (j : Nat) (d : decode cL_law pc = .ok (.iload_n q, 1)) (hi : (q : Nat) = i) (hj : lv[j]? = some (i, .int x)) (kk : lT p l e s m below meth c b E k n (pc + 1) lv (.int x :: st) w) : lT p l e s m below meth c b E k n pc lv st w := by
  intro H locs ls hP hD hS hl
  exact lv_iload_n X.1.1 X.1.2.1 d hi (lv_at hl j hj) (kk H locs ls hP hD hS hl)
theorem lt_aload_n (X : lX p s m meth c b L xs E) {q : Fin 4} {i x : Nat} (j : Nat) (d : decode cL_law pc = .ok (.aload_n q, 1)) (hi : (q : Nat) = i) (hj : lv[j]? = some (i, .ref x)) (kk : lT p l e s m below meth c b E k n (pc + 1) lv (.ref x :: st) w) : lT p l e s m below meth c b E k n pc lv st w := by
  intro H locs ls hP hD hS hl
  exact lv_aload_n X.1.1 X.1.2.1 d hi (lv_at hl j hj) (kk H locs ls hP hD hS hl)
theorem lt_istore_n (X : lX p s m meth c b L xs E) {q : Fin 4} {i : Nat} {x : Int32} {lv' : List (Nat × Value)} (d : decode cL_law pc = .ok (.istore_n q, 1)) (hi : (q : Nat) = i) (hn : i < 4) (hl' : (i, Value.int x) :: lv.filter (fun q => !(q.1 == i) && !(q.1 + 1 == i && q.2.category == 2)) = lv') (kk : lT p l e s m below meth c b E k n (pc + 1) lv' st w) : lT p l e s m below meth c b E k n pc lv (.int x :: st) w := by
  intro H locs ls hP hD hS hl
  exact lv_istore_n X.1.1 X.1.2.1 d hi hl hn hl' (fun ls' h' => kk H locs ls' hP hD hS h')
theorem lt_astore_n (X : lX p s m meth c b L xs E) {q : Fin 4} {i x : Nat} {lv' : List (Nat × Value)} (d : decode cL_law pc = .ok (.astore_n q, 1)) (hi : (q : Nat) = i) (hn : i < 4) (hl' : (i, Value.ref x) :: lv.filter (fun q => !(q.1 == i) && !(q.1 + 1 == i && q.2.category == 2)) = lv') (kk : lT p l e s m below meth c b E k n (pc + 1) lv' st w) : lT p l e s m below meth c b E k n pc lv (.ref x :: st) w := by
  intro H locs ls hP hD hS hl
  exact lv_astore_n X.1.1 X.1.2.1 d hi hl hn hl' (fun ls' h' => kk H locs ls' hP hD hS h')
theorem lt_iinc (X : lX p s m meth c b L xs E) {i j : Nat} {z : Int} {x v : Int32} {lv' : List (Nat × Value)} (d : decode cL_law pc = .ok (.iinc i z, 3)) (hj : lv[j]? = some (i, .int x)) (hv : x + Int32.ofInt z = v) (hn : i < 4) (hl' : (i, Value.int v) :: lv.filter (fun q => !(q.1 == i) && !(q.1 + 1 == i && q.2.category == 2)) = lv') (kk : lT p l e s m below meth c b E k n (pc + 3) lv' st w) : lT p l e s m below meth c b E k n pc lv st w := by
  intro H locs ls hP hD hS hl
  exact lv_iinc X.1.1 X.1.2.1 d hl hj hv hn hl' (fun ls' h' => kk H locs ls' hP hD hS h')
theorem lt_iadd (X : lX p s m meth c b L xs E) {x y : Int32} (d : decode cL_law pc = .ok (.iadd, 1)) (kk : lT p l e s m below meth c b E k n (pc + 1) lv (.int (x + y) :: st) w) : lT p l e s m below meth c b E k n pc lv (.int y :: .int x :: st) w := by
  intro H locs ls hP hD hS hl
  exact lv_iadd X.1.1 X.1.2.1 d (kk H locs ls hP hD hS hl)
theorem lt_isub (X : lX p s m meth c b L xs E) {x y : Int32} (d : decode cL_law pc = .ok (.isub, 1)) (kk : lT p l e s m below meth c b E k n (pc + 1) lv (.int (x - y) :: st) w) : lT p l e s m below meth c b E k n pc lv (.int y :: .int x :: st) w := by
  intro H locs ls hP hD hS hl
  exact lv_isub X.1.1 X.1.2.1 d (kk H locs ls hP hD hS hl)
theorem lt_iand (X : lX p s m meth c b L xs E) {x y : Int32} (d : decode cL_law pc = .ok (.iand, 1)) (kk : lT p l e s m below meth c b E k n (pc + 1) lv (.int (x &&& y) :: st) w) : lT p l e s m below meth c b E k n pc lv (.int y :: .int x :: st) w := by
  intro H locs ls hP hD hS hl
  exact lv_iand X.1.1 X.1.2.1 d (kk H locs ls hP hD hS hl)
theorem lt_goto (X : lX p s m meth c b L xs E) {off : Int} {tgt : Nat} (d : decode cL_law pc = .ok (.goto off, 3)) (ht : (pc : Int) + off = (tgt : Int)) (kk : lT p l e s m below meth c b E k n tgt lv st w) : lT p l e s m below meth c b E k n pc lv st w := by
  intro H locs ls hP hD hS hl
  exact lv_goto X.1.1 X.1.2.1 d ht (kk H locs ls hP hD hS hl)
theorem lt_dup (X : lX p s m meth c b L xs E) {v : Value} (d : decode cL_law pc = .ok (.dup, 1)) (hv : v.category = 1) (kk : lT p l e s m below meth c b E k n (pc + 1) lv (v :: v :: st) w) : lT p l e s m below meth c b E k n pc lv (v :: st) w := by
  intro H locs ls hP hD hS hl
  exact lv_dup X.1.1 X.1.2.1 d hv (kk H locs ls hP hD hS hl)
theorem lt_icmp_gt (X : lX p s m meth c b L xs E) {x y : Int32} {off : Int} {tgt : Nat} (d : decode cL_law pc = .ok (.if_icmp .gt off, 3)) (ht : (pc : Int) + off = (tgt : Int)) (kt : y < x → lT p l e s m below meth c b E k n tgt lv st w) (kf : ¬ y < x → lT p l e s m below meth c b E k n (pc + 3) lv st w) : lT p l e s m below meth c b E k n pc lv (.int y :: .int x :: st) w := by
  intro H locs ls hP hD hS hl
  exact lv_icmp_gt X.1.1 X.1.2.1 d ht (fun q => kt q H locs ls hP hD hS hl) (fun q => kf q H locs ls hP hD hS hl)
/-- the two answers are one: on -/
theorem lt_icmp_eq (X : lX p s m meth c b L xs E) {x y : Int32} {off : Int} {tgt : Nat} (h : x = y) (d : decode cL_law pc = .ok (.if_icmp .eq off, 3)) (ht : (pc : Int) + off = (tgt : Int)) (kk : lT p l e s m below meth c b E k n tgt lv st w) : lT p l e s m below meth c b E k n pc lv (.int y :: .int x :: st) w := by
  intro H locs ls hP hD hS hl
  exact lv_icmp_eq X.1.1 X.1.2.1 d ht (fun _ => kk H locs ls hP hD hS hl) (fun q => absurd h q)
theorem lt_tableIn (X : lX p s m meth c b L xs E) {dflt lo hi : Int} {offs : Array Int} {len : Nat} {x : Int32} {off : Int} {tgt : Nat} (v : Int32) (e1 : x = v) (d : decode cL_law pc = .ok (.tableswitch dflt lo hi offs, len)) (h1 : ¬ v.toInt < lo) (h2 : ¬ hi < v.toInt) (ho : offs[(v.toInt - lo).toNat]? = some off) (ht : (pc : Int) + off = (tgt : Int)) (kk : lT p l e s m below meth c b E k n tgt lv st w) : lT p l e s m below meth c b E k n pc lv (.int x :: st) w := by
  subst e1
  intro H locs ls hP hD hS hl
  exact lv_tableIn X.1.1 X.1.2.1 d h1 h2 ho ht (kk H locs ls hP hD hS hl)
theorem lt_tableOut (X : lX p s m meth c b L xs E) {dflt lo hi : Int} {offs : Array Int} {len : Nat} {x : Int32} {tgt : Nat} (d : decode cL_law pc = .ok (.tableswitch dflt lo hi offs, len)) (h : x.toInt < lo ∨ hi < x.toInt) (ht : (pc : Int) + dflt = (tgt : Int)) (kk : lT p l e s m below meth c b E k n tgt lv st w) : lT p l e s m below meth c b E k n pc lv (.int x :: st) w := by
  intro H locs ls hP hD hS hl
  exact lv_tableOut X.1.1 X.1.2.1 d h ht (kk H locs ls hP hD hS hl)
theorem lt_slen (X : lX p s m meth c b L xs E) (d : decode cL_law pc = .ok (.arraylength, 1)) (kk : lT p l e s m below meth c b E k n (pc + 1) lv (.int (nI L) :: st) w) : lT p l e s m below meth c b E k n pc lv (.ref b :: st) w := by
  intro H locs ls hP hD hS hl
  exact va_slen X.1.1 X.1.2.1 X.2.1 X.2.2 (Nat.not_le.mpr X.2.2) hS d (kk H locs ls hP hD hS hl)
theorem lt_sld (X : lX p s m meth c b L xs E) {i : Int32} (hin : vp_in i L) (d : decode cL_law pc = .ok (.iaload, 1)) (kk : lT p l e s m below meth c b E k n (pc + 1) lv (.int (xs i.toNatClampNeg) :: st) w) : lT p l e s m below meth c b E k n pc lv (.int i :: .ref b :: st) w := by
  intro H locs ls hP hD hS hl
  exact va_sld X.1.1 X.1.2.1 X.2.1 X.2.2 (Nat.not_le.mpr X.2.2) hS hin d (kk H locs ls hP hD hS hl)
theorem lt_end (X : lX p s m meth c b L xs E) (hk : k ≤ 600000) (hn : n ≤ 7302250) (d : decode cL_law pc = .ok (.ireturn, 1)) : lT p l e s m below meth c b E k n pc lv [.int 1] w := by
  intro H locs ls hP hD hS hl
  exact va_forget (fun q hq => hS.2.2 q hq) (W.widen hk hn (lw_ret X.1.1 X.1.2.1 X.1.2.2.2.2.2.1 X.1.2.2.2.2.2.2.1 d))
theorem lt_new (X : lX p s m meth c b L xs E) {ci N idx : Nat} {C : String} {T : u_T} {fs : List Value} {w' : Nat → va_W} (ty0 : Nat → FieldType) (hty : ∀ k, k < N → parseFieldDescriptor (T k).2.2.1 = some (ty0 k)) (hc : vwCl[ci]? = some (C, T, N)) (hin : ∀ w ∈ u_ws C T N, w ∈ jB) (hcl : Cond.classLink "LacedPackLaw" idx C ∈ jB) (hins : Cond.instantiable C N ∈ jB) (hini : Cond.initialized C ∈ jB) (hfs : ∀ j, j < N → defaultValue (ty0 j) = vp_V fs j) (hk : k + 1 ≤ 600000) (hs : n + N ≤ 7302250) (d : decode cL_law pc = .ok (.new idx, 3)) (hw : ∀ q, w ++ [jO q ci fs] = w' q) (kk : ∀ q, lT p l e s m below meth c b E (k + 1) (n + N) (pc + 3) lv (.ref q :: st) (w' q)) : lT p l e s m below meth c b E k n pc lv st w := by
  intro H locs ls hP hD hS hl
  refine va_new X.1.1 X.1.2.1 X.1.2.2.2.2.1 hin ty0 hty X.1.2.2.2.1 (X.1.2.2.2.2.1 _ hcl) (X.1.2.2.2.2.1 _ hins) (X.1.2.2.2.2.1 _ hini) X.1.2.2.2.2.2.2.2.2.1 hP hD hS (fun q h => h) hc hfs hk hs d (fun q H1 hP' hD' hS' => ?_)
  have hP2 : va_P E.1 vwCl (w' q) H1 := (hw q) ▸ hP'
  have hD2 : va_D (fun q : Nat => s.heap.size ≤ q) (w' q) := (hw q) ▸ hD'
  exact kk q H1 locs ls hP2 hD2 hS' hl
variable {Kc : jK} {nA idx : Nat}
theorem lt_I (X : lX p s m meth c b L xs E) {As rest st0 : List Value} {wc : va_W} {Po' : Option Value → va_W → Prop} {b0 : Nat} (isC isR : List Nat) (hM : jM l E Kc (.ref b0 :: As) wc Po') (hc : jCI Kc nA) (hlk : Cond.methodLink "LacedPackLaw" idx Kc.2.2.2.1 ∈ jB) (hn : As.length = nA) (hst : st0 = As.reverse ++ .ref b0 :: rest) (hrm : (rest.map fun v => v.category).sum ≤ 8) (hR : Kc.2.2.2.2.frames + 1 ≤ room_1.frames ∧ 8 + (Kc.2.1 + 11) + Kc.2.2.2.2.locals ≤ room_1.locals) (hkn : k + Kc.2.2.2.2.cells ≤ room_1.cells ∧ n + Kc.2.2.2.2.slots ≤ room_1.slots) (d : decode cL_law pc = .ok (.invokespecial idx, 3)) (hC : isC.map (fun i => w[i]?) = wc.map some) (hnd : va_nd isC = true) (hRl : isR.all (fun i => decide (i < w.length)) = true) (hRn : va_nd isR = true) (hdis : ∀ i ∈ isR, i ∉ isC) (hv : ∀ r w1, Po' r w1 → r = none)
    (kk : ∀ w1, Po' none w1 → lT p l e s m below meth c b E (k + Kc.2.2.2.2.cells) (n + Kc.2.2.2.2.slots) (pc + 3) lv rest (jrest w isR ++ w1)) : lT p l e s m below meth c b E k n pc lv st0 w := by
  intro H locs ls hP hD hS hl
  have hDc : va_D _ wc := hD.sub isC hnd hC
  have hr : va_Run p l e room_1 s m #[Value.ref b] below meth c H locs k n Kc.2.2.2.2.cells Kc.2.2.2.2.slots (F0 m pc ls st0) rest (jQ E Po' (va_A wc H.size) (.ref b0 :: As).toArray) (va_A wc H.size) := by
    have hM' := hM H.size
    rw [hc.2.1] at hM'
    exact va_runI (nL := 4) (own := "LacedPackLaw") ⟨X.1.1, X.1.2.1, X.1.2.2.1, X.1.2.2.2.1, X.1.2.2.2.2.1⟩ hM' (cwI (ws := Cond.code Kc.2.2.2.1 Kc.1 Kc.2.1 none :: jB) nA X.1.2.2.2.2.1 (j_good0 hc.1) rfl rfl rfl (X.1.2.2.2.2.1 _ hc.2.2.2.1) (X.1.2.2.2.2.1 _ hlk) (X.1.2.2.2.2.1 _ hc.2.2.1) hc.2.2.2.2.1 ⟨hc.2.2.2.2.2.1, hc.2.2.2.2.2.2.1, hc.2.2.2.2.2.2.2⟩ hR) ⟨jP_blind, fun U hU hW => ⟨rfl, by rw [hU], by rw [hU]; exact j_Pc hP hC, va_K.moved hW.alike X.1.2.2.2.2.2.2.2.2.1, jN_warm hW X.1.2.2.2.2.2.2.2.2.2.1, hDc.weaken (fun _ _ _ _ => trivial)⟩⟩ rfl hn hl.1 hst (lv_room hrm) d hkn
  have hF := j_free hD hS (fun q h => h) hC
  refine j_back hr hS hF (fun r w2 H1 locs1 hpo hP1 hD1 hsz hk hS1 => ?_)
  obtain rfl := hv r w2 hpo
  obtain ⟨hP2, hD2⟩ := va_join hP hD isC isR hC (jrest_map hRl) hRn hdis hk hF hP1 hD1
  exact kk w2 hpo H1 locs1 ls hP2 hD2 hS1 hl
theorem lt_V (X : lX p s m meth c b L xs E) {β : Type} {As rest st0 : List Value} {wc : va_W} {b0 q0 ci N : Nat} {C : String} {T : u_T} {fs : List Value} {fc : Option β} {u : β} {rv : Option Value} {w1 w' : va_W} {st1 : List Value} (isC : List Nat) (hb0 : w[q0]? = some (jO b0 ci fs)) (hcl : vwCl[ci]? = some (C, T, N)) (hCc : Kc.2.2.2.1.cls = C) (h : fc = some u) (hM : fc = some u → jM l E Kc (.ref b0 :: As) wc (jd rv w1)) (hc : jCV Kc nA) (hlk : Cond.methodLink "LacedPackLaw" idx Kc.2.2.2.1 ∈ jB) (hn : As.length = nA) (hst : st0 = As.reverse ++ .ref b0 :: rest) (hrm : (rest.map fun v => v.category).sum ≤ 8) (hR : Kc.2.2.2.2.frames + 1 ≤ room_1.frames ∧ 8 + (Kc.2.1 + 11) + Kc.2.2.2.2.locals ≤ room_1.locals) (hz : Kc.2.2.2.2.cells = 0 ∧ Kc.2.2.2.2.slots = 0) (hkn : k ≤ 600000 ∧ n ≤ 7302250) (d : decode cL_law pc = .ok (.invokevirtual idx, 3)) (hC : isC.map (fun i => w[i]?) = wc.map some) (hnd : va_nd isC = true) (hf : w1.map Prod.fst = wc.map Prod.fst) (hw : jput w isC w1 = w') (hs1 : rv.toList ++ rest = st1)
    (kk : lT p l e s m below meth c b E k n (pc + 3) lv st1 w') : lT p l e s m below meth c b E k n pc lv st0 w := by
  intro H locs ls hP hD hS hl
  have hr := j_runV (K := lK meth) (R := room_1) (e := e) (below := below) (locs := locs) (cells := k) (slots := n) X.1 hP hD hl.1 hb0 hcl hCc (hM h) hc hlk hn hst hrm hR (by rw [hz.1, hz.2]; exact hkn) d hC hnd
  refine j_back hr hS (j_free hD hS (fun q h => h) hC) (fun r w2 H1 locs1 hpo hP1 hD1 hsz hk hS1 => ?_)
  obtain ⟨rfl, rfl⟩ := hpo
  obtain ⟨hP2, hD2⟩ := j_put1 hP hD hC hf hw hk hP1
  have := kk H1 locs1 ls hP2 hD2 hS1 hl
  rw [hz.1, hz.2, hs1]
  exact this
end LW
