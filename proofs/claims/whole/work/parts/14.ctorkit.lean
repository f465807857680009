/-! constructors: new cells -/
section JN
variable {l : Launch} {E : jE} {K Kc : jK} {k n pc idx nA : Nat} {lv : List (Nat × Value)} {st : List Value} {w : va_W} {Po : Option Value → va_W → Prop}
theorem j_world {w' : va_W} (hw : w = w') (kk : jT l E K k n pc lv st w' Po) : jT l E K k n pc lv st w Po := hw ▸ kk
theorem j_objInit {a0 : Nat} (hlk : Cond.methodLink K.2.2.2.1.cls idx Lib.objectInit ∈ jB) (hi : Cond.instanceMethod Lib.objectInit ∈ jB) (hc : Cond.code Lib.objectInit ⟨#[0xb1]⟩ 1 none ∈ jB) (hfr : 1 ≤ K.2.2.2.2.frames) (hlo : (st.map fun v => v.category).sum + 12 ≤ K.2.2.2.2.locals) (d : decode K.1 pc = .ok (.invokespecial idx, 3)) (kk : jT l E K k n (pc + 3) lv st w Po) : jT l E K k n pc lv (.ref a0 :: st) w Po := by
  intro p e s m args below meth c A X H locs ls hP hD hS hl
  exact W.objInit X.1 X.2.1 X.2.2.2.1 (X.2.2.2.2.1 _ hlk) (X.2.2.2.2.1 _ hi) (X.2.2.2.2.1 _ hc) rfl (hl.1.trans X.2.2.1.symm) rfl d hfr (by show 2 * 0 + _ + 12 ≤ _; omega) (kk p e s m args below meth c A X H locs ls hP hD hS hl)
theorem j_newI {z : Int32} {N : Nat} {w' : Nat → va_W} (harr : Cond.arrayClass .int ∈ jB) (hn : ¬ z < 0) (hN : z.toNatClampNeg = N) (hb : N * 4 ≤ 536870912) (hk : k + 1 ≤ K.2.2.2.2.cells) (hs : n + N ≤ K.2.2.2.2.slots) (d : decode K.1 pc = .ok (.newarray .int, 2)) (hw : ∀ q, w ++ [jI E q N (fun _ => 0)] = w' q) (kk : ∀ q, jT l E K (k + 1) (n + N) (pc + 2) lv (.ref q :: st) (w' q) Po) : jT l E K k n pc lv (.int z :: st) w Po := by
  intro p e s m args below meth c A X H locs ls hP hD hS hl
  refine va_newa (atype := .int) (ty := .int) (a0 := (N, .inl (fun _ => 0))) X.1 X.2.1 (X.2.2.2.2.1 _ harr) rfl X.2.2.2.2.2.2.2.2.1 hP hD hS X.2.2.2.2.2.2.2.2.2.2 (fun _ => rfl) hn hN hb hk hs d (fun q cA H1 hK' hP' hD' hS' => ?_)
  have e1 : cA = E.2.1 := Option.some.inj ((hK'.2 3 _ rfl).2.symm.trans (X.2.2.2.2.2.2.2.2.1.2 0 _ rfl).2)
  subst e1
  have hP2 : va_P E.1 vwCl (w' q) H1 := (hw q) ▸ hP'
  have hD2 : va_D A (w' q) := (hw q) ▸ hD'
  exact kk q p e s m args below meth c A X H1 locs ls hP2 hD2 hS' hl
theorem j_newJ {z : Int32} {N : Nat} {w' : Nat → va_W} (harr : Cond.arrayClass .long ∈ jB) (hn : ¬ z < 0) (hN : z.toNatClampNeg = N) (hb : N * 8 ≤ 536870912) (hk : k + 1 ≤ K.2.2.2.2.cells) (hs : n + N ≤ K.2.2.2.2.slots) (d : decode K.1 pc = .ok (.newarray .long, 2)) (hw : ∀ q, w ++ [jJ E q N (fun _ => 0)] = w' q) (kk : ∀ q, jT l E K (k + 1) (n + N) (pc + 2) lv (.ref q :: st) (w' q) Po) : jT l E K k n pc lv (.int z :: st) w Po := by
  intro p e s m args below meth c A X H locs ls hP hD hS hl
  refine va_newa (atype := .long) (ty := .long) (a0 := (N, .inr (.inl (fun _ => 0)))) X.1 X.2.1 (X.2.2.2.2.1 _ harr) rfl X.2.2.2.2.2.2.2.2.1 hP hD hS X.2.2.2.2.2.2.2.2.2.2 (fun _ => rfl) hn hN hb hk hs d (fun q cA H1 hK' hP' hD' hS' => ?_)
  have e1 : cA = E.2.2.1 := Option.some.inj ((hK'.2 3 _ rfl).2.symm.trans (X.2.2.2.2.2.2.2.2.1.2 1 _ rfl).2)
  subst e1
  have hP2 : va_P E.1 vwCl (w' q) H1 := (hw q) ▸ hP'
  have hD2 : va_D A (w' q) := (hw q) ▸ hD'
  exact kk q p e s m args below meth c A X H1 locs ls hP2 hD2 hS' hl
theorem j_newH {z : Int32} {N : Nat} {w' : Nat → va_W} (harr : Cond.arrayClass .char ∈ jB) (hn : ¬ z < 0) (hN : z.toNatClampNeg = N) (hb : N * 2 ≤ 536870912) (hk : k + 1 ≤ K.2.2.2.2.cells) (hs : n + N ≤ K.2.2.2.2.slots) (d : decode K.1 pc = .ok (.newarray .char, 2)) (hw : ∀ q, w ++ [jH E q N (fun _ => 0)] = w' q) (kk : ∀ q, jT l E K (k + 1) (n + N) (pc + 2) lv (.ref q :: st) (w' q) Po) : jT l E K k n pc lv (.int z :: st) w Po := by
  intro p e s m args below meth c A X H locs ls hP hD hS hl
  refine va_newa (atype := .char) (ty := .char) (a0 := (N, .inl (fun _ => 0))) X.1 X.2.1 (X.2.2.2.2.1 _ harr) rfl X.2.2.2.2.2.2.2.2.1 hP hD hS X.2.2.2.2.2.2.2.2.2.2 (fun _ => rfl) hn hN hb hk hs d (fun q cA H1 hK' hP' hD' hS' => ?_)
  have e1 : cA = E.2.2.2 := Option.some.inj ((hK'.2 3 _ rfl).2.symm.trans (X.2.2.2.2.2.2.2.2.1.2 2 _ rfl).2)
  subst e1
  have hP2 : va_P E.1 vwCl (w' q) H1 := (hw q) ▸ hP'
  have hD2 : va_D A (w' q) := (hw q) ▸ hD'
  exact kk q p e s m args below meth c A X H1 locs ls hP2 hD2 hS' hl
theorem j_new {ci N : Nat} {C : String} {T : u_T} {fs : List Value} {w' : Nat → va_W} (ty0 : Nat → FieldType) (hty : ∀ k, k < N → parseFieldDescriptor (T k).2.2.1 = some (ty0 k)) (hc : vwCl[ci]? = some (C, T, N)) (hin : ∀ w ∈ u_ws C T N, w ∈ jB) (hcl : Cond.classLink K.2.2.2.1.cls idx C ∈ jB) (hins : Cond.instantiable C N ∈ jB) (hini : Cond.initialized C ∈ jB) (hfs : ∀ j, j < N → defaultValue (ty0 j) = vp_V fs j) (hk : k + 1 ≤ K.2.2.2.2.cells) (hs : n + N ≤ K.2.2.2.2.slots) (d : decode K.1 pc = .ok (.new idx, 3)) (hw : ∀ q, w ++ [jO q ci fs] = w' q) (kk : ∀ q, jT l E K (k + 1) (n + N) (pc + 3) lv (.ref q :: st) (w' q) Po) : jT l E K k n pc lv st w Po := by
  intro p e s m args below meth c A X H locs ls hP hD hS hl
  refine va_new X.1 X.2.1 X.2.2.2.2.1 hin ty0 hty X.2.2.2.1 (X.2.2.2.2.1 _ hcl) (X.2.2.2.2.1 _ hins) (X.2.2.2.2.1 _ hini) X.2.2.2.2.2.2.2.2.1 hP hD hS X.2.2.2.2.2.2.2.2.2.2 hc hfs hk hs d (fun q H1 hP' hD' hS' => ?_)
  have hP2 : va_P E.1 vwCl (w' q) H1 := (hw q) ▸ hP'
  have hD2 : va_D A (w' q) := (hw q) ▸ hD'
  exact kk q p e s m args below meth c A X H1 locs ls hP2 hD2 hS' hl
theorem j_putF {a0 ci N i : Nat} {C : String} {T : u_T} {fs : List Value} {v : Value} {w' : va_W} {ty : FieldType} (ty0 : Nat → FieldType) (q0 fk : Nat) (hty : ∀ k, k < N → parseFieldDescriptor (T k).2.2.1 = some (ty0 k)) (hnm : ∀ a, a < N → ∀ b, b < N → a ≠ b → (T a).2.1 ≠ (T b).2.1) (he : w[q0]? = some (jO a0 ci fs)) (hc : vwCl[ci]? = some (C, T, N)) (hk : fk < N) (hin : ∀ w ∈ u_ws C T N, w ∈ jB) (hlink : Cond.fieldLink K.2.2.2.1.cls i (T fk).1 (T fk).2.1 (T fk).2.2.1 ∈ jB) (hfin : (T fk).2.2.2 = true) (hinit : K.2.2.2.1.name = "<init>") (hdecl : (T fk).1 = K.2.2.2.1.cls) (ht : ty0 fk = ty) (hn : narrow ty v = v) (hfit : fits ty v = true) (hl0 : fk < fs.length) (d : decode K.1 pc = .ok (.putfield i, 3)) (hw : w.set q0 (jO a0 ci (fs.set fk v)) = w') (kk : jT l E K k n (pc + 3) lv st w' Po) : jT l E K k n pc lv (v :: .ref a0 :: st) w Po := by
  subst hw
  intro p e s m args below meth c A X H locs ls hP hD hS hl
  exact va_putF X.1 X.2.1 X.2.2.2.2.1 hin ty0 hty hnm X.2.2.2.1 X.2.2.2.2.2.2.2.2.1 hP hD hS q0 he hc fk hk (X.2.2.2.2.1 _ hlink) (fun _ h => h) hfin (X.2.2.2.2.2.2.2.1.trans hinit) hdecl ((hty fk hk).trans (congrArg some ht)) hn hfit hl0 d (fun H1 locs1 hP hD hS => kk p e s m args below meth c A X H1 locs1 ls hP hD hS hl)
/-- the world behind a constructor's call: the caller's other cells, then the callee's -/
def jrest (w : va_W) (isR : List Nat) : va_W := isR.filterMap (fun i => w[i]?)
theorem jrest_map {w : va_W} : ∀ {isR : List Nat}, isR.all (fun i => decide (i < w.length)) = true → isR.map (fun i => w[i]?) = (jrest w isR).map some
  | [], _ => rfl
  | i :: is, h => by
    rw [List.all_cons, Bool.and_eq_true] at h
    have hi : i < w.length := of_decide_eq_true h.1
    have e := List.getElem?_eq_getElem hi
    show w[i]? :: is.map (fun i => w[i]?) = (List.filterMap (fun i => w[i]?) (i :: is)).map some
    rw [jrest_map h.2, List.filterMap_cons, e]
    rfl
theorem j_I {As rest st0 : List Value} {wc : va_W} {Po' : Option Value → va_W → Prop} {b0 : Nat} (isC isR : List Nat) (hM : jM l E Kc (.ref b0 :: As) wc Po') (hc : jCI Kc nA) (hlk : Cond.methodLink K.2.2.2.1.cls idx Kc.2.2.2.1 ∈ jB) (hn : As.length = nA) (hst : st0 = As.reverse ++ .ref b0 :: rest) (hrm : (rest.map fun v => v.category).sum ≤ 8) (hR : Kc.2.2.2.2.frames + 1 ≤ K.2.2.2.2.frames ∧ 8 + (Kc.2.1 + 11) + Kc.2.2.2.2.locals ≤ K.2.2.2.2.locals) (hkn : k + Kc.2.2.2.2.cells ≤ K.2.2.2.2.cells ∧ n + Kc.2.2.2.2.slots ≤ K.2.2.2.2.slots) (d : decode K.1 pc = .ok (.invokespecial idx, 3)) (hC : isC.map (fun i => w[i]?) = wc.map some) (hnd : va_nd isC = true) (hRl : isR.all (fun i => decide (i < w.length)) = true) (hRn : va_nd isR = true) (hdis : ∀ i ∈ isR, i ∉ isC) (hv : ∀ r w1, Po' r w1 → r = none)
    (kk : ∀ w1, Po' none w1 → jT l E K (k + Kc.2.2.2.2.cells) (n + Kc.2.2.2.2.slots) (pc + 3) lv rest (jrest w isR ++ w1) Po) : jT l E K k n pc lv st0 w Po := by
  intro p e s m args below meth c A X H locs ls hP hD hS hl
  have hDc : va_D A wc := hD.sub isC hnd hC
  have hr : va_Run p l e K.2.2.2.2 s m args below meth c H locs k n Kc.2.2.2.2.cells Kc.2.2.2.2.slots (F0 m pc ls st0) rest (jQ E Po' (va_A wc H.size) (.ref b0 :: As).toArray) (va_A wc H.size) := by
    have hM' := hM H.size
    rw [hc.2.1] at hM'
    exact va_runI (nL := K.2.1) ⟨X.1, X.2.1, X.2.2.1, X.2.2.2.1, X.2.2.2.2.1⟩ hM' (cwI (ws := Cond.code Kc.2.2.2.1 Kc.1 Kc.2.1 none :: jB) nA X.2.2.2.2.1 (j_good0 hc.1) rfl rfl rfl (X.2.2.2.2.1 _ hc.2.2.2.1) (X.2.2.2.2.1 _ hlk) (X.2.2.2.2.1 _ hc.2.2.1) hc.2.2.2.2.1 ⟨hc.2.2.2.2.2.1, hc.2.2.2.2.2.2.1, hc.2.2.2.2.2.2.2⟩ hR) ⟨jP_blind, fun U hU hW => ⟨rfl, by rw [hU], by rw [hU]; exact j_Pc hP hC, va_K.moved hW.alike X.2.2.2.2.2.2.2.2.1, jN_warm hW X.2.2.2.2.2.2.2.2.2.1, hDc.weaken (fun _ _ _ _ => trivial)⟩⟩ rfl hn hl.1 hst (lv_room hrm) d hkn
  have hF := j_free hD hS X.2.2.2.2.2.2.2.2.2.2 hC
  refine j_back hr hS hF (fun r w2 H1 locs1 hpo hP1 hD1 hsz hk hS1 => ?_)
  obtain rfl := hv r w2 hpo
  obtain ⟨hP2, hD2⟩ := va_join hP hD isC isR hC (jrest_map hRl) hRn hdis hk hF hP1 hD1
  exact kk w2 hpo p e s m args below meth c A X H1 locs1 ls hP2 hD2 hS1 hl
theorem j_IN {As rest st0 : List Value} {wc : va_W} {Po' : Option Value → va_W → Prop} {b0 : Nat} (host : String) (isC isR : List Nat) (hM : jM l E Kc (.ref b0 :: As) wc Po') (hc : jCI Kc nA) (hlk : Cond.methodLinkNest K.2.2.2.1.cls idx Kc.2.2.2.1 host ∈ jNl) (hn : As.length = nA) (hst : st0 = As.reverse ++ .ref b0 :: rest) (hrm : (rest.map fun v => v.category).sum ≤ 8) (hR : Kc.2.2.2.2.frames + 1 ≤ K.2.2.2.2.frames ∧ 8 + (Kc.2.1 + 11) + Kc.2.2.2.2.locals ≤ K.2.2.2.2.locals) (hkn : k + Kc.2.2.2.2.cells ≤ K.2.2.2.2.cells ∧ n + Kc.2.2.2.2.slots ≤ K.2.2.2.2.slots) (d : decode K.1 pc = .ok (.invokespecial idx, 3)) (hC : isC.map (fun i => w[i]?) = wc.map some) (hnd : va_nd isC = true) (hRl : isR.all (fun i => decide (i < w.length)) = true) (hRn : va_nd isR = true) (hdis : ∀ i ∈ isR, i ∉ isC) (hv : ∀ r w1, Po' r w1 → r = none)
    (kk : ∀ w1, Po' none w1 → jT l E K (k + Kc.2.2.2.2.cells) (n + Kc.2.2.2.2.slots) (pc + 3) lv rest (jrest w isR ++ w1) Po) : jT l E K k n pc lv st0 w Po := by
  intro p e s m args below meth c A X H locs ls hP hD hS hl
  have hDc : va_D A wc := hD.sub isC hnd hC
  have hr : va_Run p l e K.2.2.2.2 s m args below meth c H locs k n Kc.2.2.2.2.cells Kc.2.2.2.2.slots (F0 m pc ls st0) rest (jQ E Po' (va_A wc H.size) (.ref b0 :: As).toArray) (va_A wc H.size) := by
    have hM' := hM H.size
    rw [hc.2.1] at hM'
    exact va_runIN (nL := K.2.1) ⟨X.1, X.2.1, X.2.2.1, X.2.2.2.1, X.2.2.2.2.1⟩ hM' ⟨va_cnB (ws := Cond.code Kc.2.2.2.1 Kc.1 Kc.2.1 none :: jB) nA X.2.2.2.2.1 (j_good0 hc.1) rfl rfl rfl (X.2.2.2.2.2.2.2.2.2.1 _ hlk) (X.2.2.2.2.1 _ hc.2.2.2.1) ⟨hc.2.2.2.2.2.1, hc.2.2.2.2.2.2.1, hc.2.2.2.2.2.2.2⟩ hR, hc.2.2.2.2.1, X.2.2.2.2.1 _ hc.2.2.1⟩ ⟨jP_blind, fun U hU hW => ⟨rfl, by rw [hU], by rw [hU]; exact j_Pc hP hC, va_K.moved hW.alike X.2.2.2.2.2.2.2.2.1, jN_warm hW X.2.2.2.2.2.2.2.2.2.1, hDc.weaken (fun _ _ _ _ => trivial)⟩⟩ rfl hn hl.1 hst (lv_room hrm) d hkn
  have hF := j_free hD hS X.2.2.2.2.2.2.2.2.2.2 hC
  refine j_back hr hS hF (fun r w2 H1 locs1 hpo hP1 hD1 hsz hk hS1 => ?_)
  obtain rfl := hv r w2 hpo
  obtain ⟨hP2, hD2⟩ := va_join hP hD isC isR hC (jrest_map hRl) hRn hdis hk hF hP1 hD1
  exact kk w2 hpo p e s m args below meth c A X H1 locs1 ls hP2 hD2 hS1 hl
end JN
