/-! calls: a callee's contract used in a walk -/
/-- cells put into their places of a world -/
def jput (w : va_W) (is : List Nat) (w1 : va_W) : va_W := (is.zip w1).foldl (fun a q => a.set q.1 q.2) w
theorem jput_nil (w w1 : va_W) : jput w [] w1 = w := rfl
theorem jput_cons (w : va_W) (i : Nat) (is : List Nat) (q : Nat × va_E) (w1 : va_W) : jput w (i :: is) (q :: w1) = jput (w.set i q) is w1 := rfl
theorem jput_P {D : va_G} {cl : List vw_C} {H : Heap} : ∀ (is : List Nat) (w w1 : va_W), is.length = w1.length → (∀ (k : Nat) (q : Nat × va_E), w[k]? = some q → k ∉ is → va_at D cl q H) → (∀ q ∈ w1, va_at D cl q H) → va_P D cl (jput w is w1) H
  | [], w, w1, _, h, _ => fun k q hk => h k q hk List.not_mem_nil
  | i :: is, w, [], hl, _, _ => by cases hl
  | i :: is, w, q :: w1, hl, h, h1 => by
    refine jput_P is (w.set i q) w1 (Nat.succ.inj hl) (fun k x hk hn => ?_) (fun x hx => h1 x (List.mem_cons_of_mem _ hx))
    by_cases e : k = i
    · subst e
      rw [List.getElem?_set] at hk
      simp only [if_true] at hk
      by_cases e2 : k < w.length
      · rw [if_pos e2] at hk
        cases hk
        exact h1 _ List.mem_cons_self
      · rw [if_neg e2] at hk
        cases hk
    · rw [List.getElem?_set_ne (Ne.symm e)] at hk
      exact h k x hk (fun z => (List.mem_cons.mp z).elim e hn)
theorem jput_fst : ∀ (is : List Nat) (w w1 : va_W), is.map (fun i => (w.map Prod.fst)[i]?) = w1.map (fun q => some q.1) → (jput w is w1).map Prod.fst = w.map Prod.fst
  | [], w, w1, _ => rfl
  | i :: is, w, [], h => by cases h
  | i :: is, w, q :: w1, h => by
    have h1 : (w.map Prod.fst)[i]? = some q.1 := (List.cons.inj h).1
    have e : (w.set i q).map Prod.fst = w.map Prod.fst := by
      rw [List.map_set]
      obtain ⟨hi, he⟩ := List.getElem?_eq_some_iff.mp h1
      rw [← he, List.set_getElem_self]
    rw [jput_cons, jput_fst is (w.set i q) w1 (by rw [e]; exact (List.cons.inj h).2), e]
theorem va_D_fst {A : Nat → Prop} {w w' : va_W} (h : va_D A w) (e : w'.map Prod.fst = w.map Prod.fst) : va_D A w' := by
  have at' : ∀ (k : Nat) (q : Nat × va_E), w'[k]? = some q → ∃ q', w[k]? = some q' ∧ q'.1 = q.1 := by
    intro k q hk
    have h1 : (w'.map Prod.fst)[k]? = some q.1 := by rw [List.getElem?_map, hk]; rfl
    rw [e, List.getElem?_map] at h1
    cases h2 : w[k]? with
    | none => rw [h2] at h1; cases h1
    | some z => rw [h2] at h1; exact ⟨z, rfl, Option.some.inj h1⟩
  refine ⟨fun i j p q hi hj hpq => ?_, fun k q hk => ?_⟩
  · obtain ⟨p', h1, h2⟩ := at' i p hi
    obtain ⟨q', h3, h4⟩ := at' j q hj
    exact h.1 i j p' q' h1 h3 (h2.trans (hpq.trans h4.symm))
  · obtain ⟨q', h1, h2⟩ := at' k q hk
    rw [← h2]
    exact h.2 k q' h1
/-- what a callee is, by the tables -/
def jCS (Kc : jK) (nA : Nat) : Prop := Cond.code Kc.2.2.2.1 Kc.1 Kc.2.1 Kc.2.2.1 ∈ jB ∧ Cond.static Kc.2.2.2.1 ∈ jB ∧ Cond.initialized Kc.2.2.2.1.cls ∈ jB ∧ Kc.2.2.2.1.cls ≠ "java/lang/invoke/MethodHandle" ∧ Kc.2.2.2.1.cls ≠ "java/lang/invoke/VarHandle" ∧ (parseMethodDescriptor Kc.2.2.2.1.desc).map (fun d => d.parameters.length) = some nA
def jCV (Kc : jK) (nA : Nat) : Prop := Cond.code Kc.2.2.2.1 Kc.1 Kc.2.1 Kc.2.2.1 ∈ jB ∧ Cond.instanceMethod Kc.2.2.2.1 ∈ jB ∧ Cond.selects Kc.2.2.2.1.cls Kc.2.2.2.1 Kc.2.2.2.1 ∈ jB ∧ Cond.initialized Kc.2.2.2.1.cls ∈ jB ∧ Kc.2.2.2.1.cls ≠ "java/lang/invoke/MethodHandle" ∧ Kc.2.2.2.1.cls ≠ "java/lang/invoke/VarHandle" ∧ (parseMethodDescriptor Kc.2.2.2.1.desc).map (fun d => d.parameters.length) = some nA
def jCI (Kc : jK) (nA : Nat) : Prop := Cond.code Kc.2.2.2.1 Kc.1 Kc.2.1 none ∈ jB ∧ Kc.2.2.1 = none ∧ Cond.instanceMethod Kc.2.2.2.1 ∈ jB ∧ Cond.initialized Kc.2.2.2.1.cls ∈ jB ∧ Kc.2.2.2.1.name = "<init>" ∧ Kc.2.2.2.1.cls ≠ "java/lang/invoke/MethodHandle" ∧ Kc.2.2.2.1.cls ≠ "java/lang/invoke/VarHandle" ∧ (parseMethodDescriptor Kc.2.2.2.1.desc).map (fun d => d.parameters.length) = some nA
theorem j_goodL : ∀ {hd : List Cond} {w : Cond}, (∀ x ∈ hd, x ∈ jB) → w ∈ jB → GoodIn jB (hd ++ w :: jB) := by
  intro hd w h hc x hx
  have hm : x ∈ jB := by
    rcases List.mem_append.mp hx with q | q
    · exact h x q
    · rcases List.mem_cons.mp q with q | q
      · rw [q]; exact hc
      · exact q
  exact ⟨hm, jB_good hm⟩
theorem j_good0 {w : Cond} (hc : w ∈ jB) : GoodIn jB (w :: jB) := j_goodL (hd := []) (fun _ h => absurd h List.not_mem_nil) hc
theorem j_goodS {own : String} {idx : Nat} {y : MethodName} {w : Cond} (h1 : Cond.methodLink own idx y ∈ jB) (h2 : Cond.static y ∈ jB) (h3 : Cond.initialized y.cls ∈ jB) (hc : w ∈ jB) : GoodIn jB (va_wsS own idx y (w :: jB)) :=
  j_goodL (hd := [.methodLink own idx y, .static y, .initialized y.cls]) (List.forall_mem_cons.mpr ⟨h1, List.forall_mem_cons.mpr ⟨h2, List.forall_mem_cons.mpr ⟨h3, fun _ h => absurd h List.not_mem_nil⟩⟩⟩) hc
theorem j_goodV {own C : String} {idx : Nat} {y : MethodName} {w : Cond} (h1 : Cond.methodLink own idx y ∈ jB) (h2 : Cond.instanceMethod y ∈ jB) (h3 : Cond.selects C y y ∈ jB) (h4 : Cond.initialized C ∈ jB) (hc : w ∈ jB) : GoodIn jB (wsV own idx C y (w :: jB)) :=
  j_goodL (hd := [.methodLink own idx y, .instanceMethod y, .selects C y y, .initialized C]) (List.forall_mem_cons.mpr ⟨h1, List.forall_mem_cons.mpr ⟨h2, List.forall_mem_cons.mpr ⟨h3, List.forall_mem_cons.mpr ⟨h4, fun _ h => absurd h List.not_mem_nil⟩⟩⟩⟩) hc
section JCALL
variable {p : Program} {l : Launch} {e : Env} {R : Room} {s : State} {m : MethodId} {args : Array Value} {below : List Frame} {meth : Method} {c : Code} {H : Heap} {locs : List Loc} {cells slots : Nat} {Q : State → Prop} {ls : Array Slot}
/-- behind a call -/
theorem j_back {E : jE} {mc ms pc : Nat} {rest st0 : List Value} {Po : Option Value → va_W → Prop} {A A1 : Nat → Prop} {H0 : Heap} {a : Array Value} (hr : va_Run p l e R s m args below meth c H locs cells slots mc ms (F0 m pc ls st0) rest (jQ E Po A1 a) A1) (hS : va_S A H0 H locs) (hf : ∀ q, A1 q → A q)
    (kk : ∀ (r : Option Value) (w1 : va_W) (H1 : Heap) (locs1 : List Loc), Po r w1 → va_P E.1 vwCl w1 H1 → va_D A1 w1 → H.size ≤ H1.size → (∀ q : Nat, q < H.size → ¬ A1 q → H1[q]? = H[q]?) → va_S A H0 H1 locs1 → W p l e R s m args below meth c H1 locs1 (cells + mc) (slots + ms) Q (F0 m (pc + 3) ls (r.toList ++ rest))) : W p l e R s m args below meth c H locs cells slots Q (F0 m pc ls st0) := by
  intro T hT X
  obtain ⟨v, st₀, t, T', L, h0, X', hL, e1, e2, ⟨⟨r, w1, hv, hpo, hP1, hD1⟩, hz, hk⟩, st⟩ := hr T hT X
  cases hv
  rw [h0] at hz hk
  obtain ⟨t2, a1, b1⟩ := kk v w1 T'.heap (locs ++ L) hpo (by rw [e1]; exact hP1) hD1 (by rw [e1]; exact hz) (fun q h1 h2 => by rw [e1]; exact hk q h1 h2)
    ⟨Nat.le_trans hS.1 (by rw [e1]; exact hz), fun q h1 h2 => by rw [e1, hk q (Nat.lt_of_lt_of_le h1 hS.1) (fun z => h2 (hf q z))]; exact hS.2.1 q h1 h2, fun q hq => by
      rcases List.mem_append.mp hq with h | h
      · exact hS.2.2 q h
      · exact hf _ (hL q h)⟩ T' rfl X'
  exact ⟨t2, st t2 a1, b1⟩
theorem j_isC {w wc : va_W} {isC : List Nat} (hC : isC.map (fun i => w[i]?) = wc.map some) {k : Nat} {q : Nat × va_E} (hk : wc[k]? = some q) : ∃ i, isC[k]? = some i ∧ w[i]? = some q := by
  have h1 : (isC.map (fun i => w[i]?))[k]? = some (some q) := by rw [hC, List.getElem?_map, hk]; rfl
  rw [List.getElem?_map] at h1
  cases hi : isC[k]? with
  | none => rw [hi] at h1; cases h1
  | some i => rw [hi] at h1; exact ⟨i, rfl, Option.some.inj h1⟩
theorem j_Pc {D : va_G} {w wc : va_W} {isC : List Nat} {H : Heap} (hP : va_P D vwCl w H) (hC : isC.map (fun i => w[i]?) = wc.map some) : va_P D vwCl wc H := by
  intro k q hk
  obtain ⟨i, -, h⟩ := j_isC hC hk
  exact hP i q h
theorem j_free {A : Nat → Prop} {w wc : va_W} {isC : List Nat} {H0 H : Heap} {locs : List Loc} (hD : va_D A w) (hS : va_S A H0 H locs) (hA : ∀ q, H0.size ≤ q → A q) (hC : isC.map (fun i => w[i]?) = wc.map some) : ∀ q, va_A wc H.size q → A q := va_free hD hS hA isC hC
/-- the world behind a call that leaves its cells at their addresses -/
theorem j_put1 {D : va_G} {A : Nat → Prop} {w wc w1 w' : va_W} {isC : List Nat} {H H1 : Heap} (hP : va_P D vwCl w H) (hD : va_D A w) (hC : isC.map (fun i => w[i]?) = wc.map some) (hf : w1.map Prod.fst = wc.map Prod.fst) (hw : jput w isC w1 = w')
    (hk : ∀ q : Nat, q < H.size → ¬ va_A wc H.size q → H1[q]? = H[q]?) (hP1 : va_P D vwCl w1 H1) : va_P D vwCl w' H1 ∧ va_D A w' := by
  subst hw
  have hlen : isC.length = w1.length := by
    have h1 := congrArg List.length hC
    have h2 := congrArg List.length hf
    simp only [List.length_map] at h1 h2
    rw [h1, h2]
  refine ⟨jput_P isC w w1 hlen (fun k q hq hn => (hP k q hq).kept (hk q.1 (hP k q hq).lt (fun z => ?_))) (fun q hq => ?_), va_D_fst hD (jput_fst isC w w1 ?_)⟩
  · rcases z with ⟨j, x, hj⟩ | z
    · obtain ⟨i, h1, h2⟩ := j_isC hC hj
      have := hD.1 k i q (q.1, x) hq h2 rfl
      subst this
      exact hn (List.mem_of_getElem? h1)
    · exact absurd (hP k q hq).lt (Nat.not_lt.mpr z)
  · obtain ⟨j, hj⟩ := List.getElem?_of_mem hq
    exact hP1 j q hj
  · have e1 : isC.map (fun i => (w.map Prod.fst)[i]?) = (isC.map (fun i => w[i]?)).map (fun o => o.map Prod.fst) := by simp [List.map_map, Function.comp_def]
    have e2 : w1.map (fun q => some q.1) = (w1.map Prod.fst).map some := by simp [List.map_map, Function.comp_def]
    rw [e1, hC, e2, hf]
    simp [List.map_map, Function.comp_def]
variable {E : jE} {K Kc : jK} {A : Nat → Prop} {w wc : va_W} {isC : List Nat} {Po : Option Value → va_W → Prop} {As rest st0 : List Value} {idx nA pc : Nat}
theorem j_runS (X : jX E K p s m args meth c A) (hP : va_P E.1 vwCl w H) (hD : va_D A w) (hl : ls.size = K.2.1) (hM : jM l E Kc As wc Po) (hc : jCS Kc nA) (hlk : Cond.methodLink K.2.2.2.1.cls idx Kc.2.2.2.1 ∈ jB) (hn : As.length = nA) (hst : st0 = As.reverse ++ rest) (hrm : (rest.map fun v => v.category).sum ≤ 8) (hR : Kc.2.2.2.2.frames + 1 ≤ R.frames ∧ 8 + (Kc.2.1 + 11) + Kc.2.2.2.2.locals ≤ R.locals) (hcs : cells + Kc.2.2.2.2.cells ≤ R.cells ∧ slots + Kc.2.2.2.2.slots ≤ R.slots) (d : decode K.1 pc = .ok (.invokestatic idx, 3)) (hC : isC.map (fun i => w[i]?) = wc.map some) (hnd : va_nd isC = true) :
    va_Run p l e R s m args below meth c H locs cells slots Kc.2.2.2.2.cells Kc.2.2.2.2.slots (F0 m pc ls st0) rest (jQ E Po (va_A wc H.size) As.toArray) (va_A wc H.size) := by
  have hDc : va_D A wc := hD.sub isC hnd hC
  exact va_runS (nL := K.2.1) ⟨X.1, X.2.1, X.2.2.1, X.2.2.2.1, X.2.2.2.2.1⟩ (hM H.size) (va_cwS (ws := Cond.code Kc.2.2.2.1 Kc.1 Kc.2.1 Kc.2.2.1 :: jB) nA X.2.2.2.2.1 (j_goodS hlk hc.2.1 hc.2.2.1 hc.1) rfl rfl rfl ⟨hc.2.2.2.1, hc.2.2.2.2.1, hc.2.2.2.2.2⟩ hR) ⟨jP_blind, fun U hU hW => ⟨rfl, by rw [hU], by rw [hU]; exact j_Pc hP hC, va_K.moved hW.alike X.2.2.2.2.2.2.2.2.1, jN_warm hW X.2.2.2.2.2.2.2.2.2.1, hDc.weaken (fun _ _ _ _ => trivial)⟩⟩ rfl hn hl hst (lv_room hrm) d hcs
theorem j_runSN (host : String) (X : jX E K p s m args meth c A) (hP : va_P E.1 vwCl w H) (hD : va_D A w) (hl : ls.size = K.2.1) (hM : jM l E Kc As wc Po) (hc : jCS Kc nA) (hlk : Cond.methodLinkNest K.2.2.2.1.cls idx Kc.2.2.2.1 host ∈ jNl) (hn : As.length = nA) (hst : st0 = As.reverse ++ rest) (hrm : (rest.map fun v => v.category).sum ≤ 8) (hR : Kc.2.2.2.2.frames + 1 ≤ R.frames ∧ 8 + (Kc.2.1 + 11) + Kc.2.2.2.2.locals ≤ R.locals) (hcs : cells + Kc.2.2.2.2.cells ≤ R.cells ∧ slots + Kc.2.2.2.2.slots ≤ R.slots) (d : decode K.1 pc = .ok (.invokestatic idx, 3)) (hC : isC.map (fun i => w[i]?) = wc.map some) (hnd : va_nd isC = true) :
    va_Run p l e R s m args below meth c H locs cells slots Kc.2.2.2.2.cells Kc.2.2.2.2.slots (F0 m pc ls st0) rest (jQ E Po (va_A wc H.size) As.toArray) (va_A wc H.size) := by
  have hDc : va_D A wc := hD.sub isC hnd hC
  exact va_runSN (nL := K.2.1) ⟨X.1, X.2.1, X.2.2.1, X.2.2.2.1, X.2.2.2.2.1⟩ (hM H.size) ⟨va_cnB (ws := Cond.code Kc.2.2.2.1 Kc.1 Kc.2.1 Kc.2.2.1 :: jB) nA X.2.2.2.2.1 (j_good0 hc.1) rfl rfl rfl (X.2.2.2.2.2.2.2.2.2.1 _ hlk) (X.2.2.2.2.1 _ hc.2.2.1) ⟨hc.2.2.2.1, hc.2.2.2.2.1, hc.2.2.2.2.2⟩ hR, X.2.2.2.2.1 _ hc.2.1, trivial⟩ ⟨jP_blind, fun U hU hW => ⟨rfl, by rw [hU], by rw [hU]; exact j_Pc hP hC, va_K.moved hW.alike X.2.2.2.2.2.2.2.2.1, jN_warm hW X.2.2.2.2.2.2.2.2.2.1, hDc.weaken (fun _ _ _ _ => trivial)⟩⟩ rfl hn hl hst (lv_room hrm) d hcs
theorem j_runV {b q0 ci N : Nat} {C : String} {T : u_T} {fs : List Value} (X : jX E K p s m args meth c A) (hP : va_P E.1 vwCl w H) (hD : va_D A w) (hl : ls.size = K.2.1) (hb : w[q0]? = some (jO b ci fs)) (hcl : vwCl[ci]? = some (C, T, N)) (hCc : Kc.2.2.2.1.cls = C) (hM : jM l E Kc (.ref b :: As) wc Po) (hc : jCV Kc nA) (hlk : Cond.methodLink K.2.2.2.1.cls idx Kc.2.2.2.1 ∈ jB) (hn : As.length = nA) (hst : st0 = As.reverse ++ .ref b :: rest) (hrm : (rest.map fun v => v.category).sum ≤ 8) (hR : Kc.2.2.2.2.frames + 1 ≤ R.frames ∧ 8 + (Kc.2.1 + 11) + Kc.2.2.2.2.locals ≤ R.locals) (hcs : cells + Kc.2.2.2.2.cells ≤ R.cells ∧ slots + Kc.2.2.2.2.slots ≤ R.slots) (d : decode K.1 pc = .ok (.invokevirtual idx, 3)) (hC : isC.map (fun i => w[i]?) = wc.map some) (hnd : va_nd isC = true) :
    va_Run p l e R s m args below meth c H locs cells slots Kc.2.2.2.2.cells Kc.2.2.2.2.slots (F0 m pc ls st0) rest (jQ E Po (va_A wc H.size) (.ref b :: As).toArray) (va_A wc H.size) := by
  have hDc : va_D A wc := hD.sub isC hnd hC
  exact va_runV (nL := K.2.1) (C := Kc.2.2.2.1.cls) ⟨X.1, X.2.1, X.2.2.1, X.2.2.2.1, X.2.2.2.2.1⟩ (hM H.size) (cwV (ws := Cond.code Kc.2.2.2.1 Kc.1 Kc.2.1 Kc.2.2.1 :: jB) nA X.2.2.2.2.1 (j_goodV hlk hc.2.1 hc.2.2.1 hc.2.2.2.1 hc.1) rfl rfl rfl ⟨rfl, hc.2.2.2.2.1, hc.2.2.2.2.2.1, hc.2.2.2.2.2.2⟩ hR) ⟨jP_blind, hCc ▸ va_recv X.2.2.2.2.2.2.2.2.1 hP hcl hb, fun U hU hW => ⟨rfl, by rw [hU], by rw [hU]; exact j_Pc hP hC, va_K.moved hW.alike X.2.2.2.2.2.2.2.2.1, jN_warm hW X.2.2.2.2.2.2.2.2.2.1, hDc.weaken (fun _ _ _ _ => trivial)⟩⟩ rfl hn hl hst (lv_room hrm) d hcs
end JCALL
section JC2
variable {l : Launch} {E : jE} {K Kc : jK} {k n pc idx nA : Nat} {lv : List (Nat × Value)} {w wc : va_W} {Po : Option Value → va_W → Prop} {α β : Type} {As rest st0 : List Value} {fc : Option β} {g : β → Option α} {u : α}
/-- a static call without a world -/
theorem j_S0 {rv : β → Value} (h : fc.bind g = some u) (hM : ∀ b, fc = some b → jM l E Kc As [] (jd (some (rv b)) [])) (hc : jCS Kc nA) (hlk : Cond.methodLink K.2.2.2.1.cls idx Kc.2.2.2.1 ∈ jB) (hn : As.length = nA) (hst : st0 = As.reverse ++ rest) (hrm : (rest.map fun v => v.category).sum ≤ 8) (hR : Kc.2.2.2.2.frames + 1 ≤ K.2.2.2.2.frames ∧ 8 + (Kc.2.1 + 11) + Kc.2.2.2.2.locals ≤ K.2.2.2.2.locals) (hz : Kc.2.2.2.2.cells = 0 ∧ Kc.2.2.2.2.slots = 0) (hkn : k ≤ K.2.2.2.2.cells ∧ n ≤ K.2.2.2.2.slots) (d : decode K.1 pc = .ok (.invokestatic idx, 3))
    (kk : ∀ b, g b = some u → jT l E K k n (pc + 3) lv (rv b :: rest) w Po) : jT l E K k n pc lv st0 w Po := by
  obtain ⟨b, hb, hg⟩ := jbind_s h
  intro p e s m args below meth c A X H locs ls hP hD hS hl
  have hr := j_runS (e := e) (below := below) (locs := locs) (cells := k) (slots := n) (w := w) (isC := []) X hP hD hl.1 (hM b hb) hc hlk hn hst hrm hR (by rw [hz.1, hz.2]; exact hkn) d rfl rfl
  refine j_back hr hS (j_free hD hS X.2.2.2.2.2.2.2.2.2.2 (isC := []) rfl) (fun r w1 H1 locs1 hpo hP1 hD1 hsz hk hS1 => ?_)
  obtain ⟨rfl, rfl⟩ := hpo
  obtain ⟨hP2, hD2⟩ := j_put1 (isC := []) (w' := w) hP hD rfl rfl rfl hk hP1
  have := kk b hg p e s m args below meth c A X H1 locs1 ls hP2 hD2 hS1 hl
  rw [hz.1, hz.2]
  exact this
/-- a static call of a nest mate, without a world -/
theorem j_SN {rv : β → Value} (host : String) (h : fc.bind g = some u) (hM : ∀ b, fc = some b → jM l E Kc As [] (jd (some (rv b)) [])) (hc : jCS Kc nA) (hlk : Cond.methodLinkNest K.2.2.2.1.cls idx Kc.2.2.2.1 host ∈ jNl) (hn : As.length = nA) (hst : st0 = As.reverse ++ rest) (hrm : (rest.map fun v => v.category).sum ≤ 8) (hR : Kc.2.2.2.2.frames + 1 ≤ K.2.2.2.2.frames ∧ 8 + (Kc.2.1 + 11) + Kc.2.2.2.2.locals ≤ K.2.2.2.2.locals) (hz : Kc.2.2.2.2.cells = 0 ∧ Kc.2.2.2.2.slots = 0) (hkn : k ≤ K.2.2.2.2.cells ∧ n ≤ K.2.2.2.2.slots) (d : decode K.1 pc = .ok (.invokestatic idx, 3))
    (kk : ∀ b, g b = some u → jT l E K k n (pc + 3) lv (rv b :: rest) w Po) : jT l E K k n pc lv st0 w Po := by
  obtain ⟨b, hb, hg⟩ := jbind_s h
  intro p e s m args below meth c A X H locs ls hP hD hS hl
  have hr := j_runSN (e := e) (below := below) (locs := locs) (cells := k) (slots := n) (w := w) (isC := []) host X hP hD hl.1 (hM b hb) hc hlk hn hst hrm hR (by rw [hz.1, hz.2]; exact hkn) d rfl rfl
  refine j_back hr hS (j_free hD hS X.2.2.2.2.2.2.2.2.2.2 (isC := []) rfl) (fun r w1 H1 locs1 hpo hP1 hD1 hsz hk hS1 => ?_)
  obtain ⟨rfl, rfl⟩ := hpo
  obtain ⟨hP2, hD2⟩ := j_put1 (isC := []) (w' := w) hP hD rfl rfl rfl hk hP1
  have := kk b hg p e s m args below meth c A X H1 locs1 ls hP2 hD2 hS1 hl
  rw [hz.1, hz.2]
  exact this
/-- a static call with a world: 'rv' is none for a void method -/
theorem j_S {rv : β → Option Value} {w1 w' : β → va_W} (isC : List Nat) (h : fc.bind g = some u) (hM : ∀ b, fc = some b → jM l E Kc As wc (jd (rv b) (w1 b))) (hc : jCS Kc nA) (hlk : Cond.methodLink K.2.2.2.1.cls idx Kc.2.2.2.1 ∈ jB) (hn : As.length = nA) (hst : st0 = As.reverse ++ rest) (hrm : (rest.map fun v => v.category).sum ≤ 8) (hR : Kc.2.2.2.2.frames + 1 ≤ K.2.2.2.2.frames ∧ 8 + (Kc.2.1 + 11) + Kc.2.2.2.2.locals ≤ K.2.2.2.2.locals) (hz : Kc.2.2.2.2.cells = 0 ∧ Kc.2.2.2.2.slots = 0) (hkn : k ≤ K.2.2.2.2.cells ∧ n ≤ K.2.2.2.2.slots) (d : decode K.1 pc = .ok (.invokestatic idx, 3)) (hC : isC.map (fun i => w[i]?) = wc.map some) (hnd : va_nd isC = true) (hf : ∀ b, (w1 b).map Prod.fst = wc.map Prod.fst) (hw : ∀ b, jput w isC (w1 b) = w' b) {st1 : β → List Value} (hs1 : ∀ b, (rv b).toList ++ rest = st1 b)
    (kk : ∀ b, g b = some u → jT l E K k n (pc + 3) lv (st1 b) (w' b) Po) : jT l E K k n pc lv st0 w Po := by
  obtain ⟨b, hb, hg⟩ := jbind_s h
  intro p e s m args below meth c A X H locs ls hP hD hS hl
  have hr := j_runS (e := e) (below := below) (locs := locs) (cells := k) (slots := n) X hP hD hl.1 (hM b hb) hc hlk hn hst hrm hR (by rw [hz.1, hz.2]; exact hkn) d hC hnd
  refine j_back hr hS (j_free hD hS X.2.2.2.2.2.2.2.2.2.2 hC) (fun r w2 H1 locs1 hpo hP1 hD1 hsz hk hS1 => ?_)
  obtain ⟨rfl, rfl⟩ := hpo
  obtain ⟨hP2, hD2⟩ := j_put1 hP hD hC (hf b) (hw b) hk hP1
  have := kk b hg p e s m args below meth c A X H1 locs1 ls hP2 hD2 hS1 hl
  rw [hz.1, hz.2, hs1]
  exact this
/-- a call of an object's method -/
theorem j_V {b0 q0 ci N : Nat} {C : String} {T : u_T} {fs : List Value} {rv : β → Option Value} {w1 w' : β → va_W} (isC : List Nat) (hb0 : w[q0]? = some (jO b0 ci fs)) (hcl : vwCl[ci]? = some (C, T, N)) (hCc : Kc.2.2.2.1.cls = C) (h : fc.bind g = some u) (hM : ∀ b, fc = some b → jM l E Kc (.ref b0 :: As) wc (jd (rv b) (w1 b))) (hc : jCV Kc nA) (hlk : Cond.methodLink K.2.2.2.1.cls idx Kc.2.2.2.1 ∈ jB) (hn : As.length = nA) (hst : st0 = As.reverse ++ .ref b0 :: rest) (hrm : (rest.map fun v => v.category).sum ≤ 8) (hR : Kc.2.2.2.2.frames + 1 ≤ K.2.2.2.2.frames ∧ 8 + (Kc.2.1 + 11) + Kc.2.2.2.2.locals ≤ K.2.2.2.2.locals) (hz : Kc.2.2.2.2.cells = 0 ∧ Kc.2.2.2.2.slots = 0) (hkn : k ≤ K.2.2.2.2.cells ∧ n ≤ K.2.2.2.2.slots) (d : decode K.1 pc = .ok (.invokevirtual idx, 3)) (hC : isC.map (fun i => w[i]?) = wc.map some) (hnd : va_nd isC = true) (hf : ∀ b, (w1 b).map Prod.fst = wc.map Prod.fst) (hw : ∀ b, jput w isC (w1 b) = w' b) {st1 : β → List Value} (hs1 : ∀ b, (rv b).toList ++ rest = st1 b)
    (kk : ∀ b, g b = some u → jT l E K k n (pc + 3) lv (st1 b) (w' b) Po) : jT l E K k n pc lv st0 w Po := by
  obtain ⟨b, hb, hg⟩ := jbind_s h
  intro p e s m args below meth c A X H locs ls hP hD hS hl
  have hr := j_runV (e := e) (below := below) (locs := locs) (cells := k) (slots := n) X hP hD hl.1 hb0 hcl hCc (hM b hb) hc hlk hn hst hrm hR (by rw [hz.1, hz.2]; exact hkn) d hC hnd
  refine j_back hr hS (j_free hD hS X.2.2.2.2.2.2.2.2.2.2 hC) (fun r w2 H1 locs1 hpo hP1 hD1 hsz hk hS1 => ?_)
  obtain ⟨rfl, rfl⟩ := hpo
  obtain ⟨hP2, hD2⟩ := j_put1 hP hD hC (hf b) (hw b) hk hP1
  have := kk b hg p e s m args below meth c A X H1 locs1 ls hP2 hD2 hS1 hl
  rw [hz.1, hz.2, hs1]
  exact this
/-- Math.abs -/
theorem j_abs {st : List Value} {x : Int32} (hlk : Cond.methodLink K.2.2.2.1.cls idx Lib.Math.abs.name ∈ jB) (hst : Cond.static Lib.Math.abs.name ∈ jB) (hin : Cond.initialized "java/lang/Math" ∈ jB) (hco : Cond.code Lib.Math.abs.name Lib.Math.abs.code 1 (some .int) ∈ jB) (hfr : 1 ≤ K.2.2.2.2.frames) (hlo : (st.map fun v => v.category).sum + 13 ≤ K.2.2.2.2.locals) (hkn : k ≤ K.2.2.2.2.cells ∧ n ≤ K.2.2.2.2.slots) (d : decode K.1 pc = .ok (.invokestatic idx, 3)) (kk : jT l E K k n (pc + 3) lv (.int (jabs x) :: st) w Po) : jT l E K k n pc lv (.int x :: st) w Po := by
  intro p e s m args below meth c A X H locs ls hP hD hS hl
  exact va_mabs X.1 X.2.1 (X.2.2.1.trans hl.1.symm) X.2.2.2.1 (X.2.2.2.2.1 _ hlk) (X.2.2.2.2.1 _ hst) (X.2.2.2.2.1 _ hin) (X.2.2.2.2.1 _ hco) hfr hlo hkn.1 hkn.2 d (kk p e s m args below meth c A X H locs ls hP hD hS hl)
/-- Math.max -/
theorem j_max {st : List Value} {x y : Int32} (hlk : Cond.methodLink K.2.2.2.1.cls idx Lib.Math.max.name ∈ jB) (hst : Cond.static Lib.Math.max.name ∈ jB) (hin : Cond.initialized "java/lang/Math" ∈ jB) (hco : Cond.code Lib.Math.max.name Lib.Math.max.code 2 (some .int) ∈ jB) (hfr : 1 ≤ K.2.2.2.2.frames) (hlo : (st.map fun v => v.category).sum + 13 ≤ K.2.2.2.2.locals) (hkn : k ≤ K.2.2.2.2.cells ∧ n ≤ K.2.2.2.2.slots) (d : decode K.1 pc = .ok (.invokestatic idx, 3)) (kk : jT l E K k n (pc + 3) lv (.int (jmax x y) :: st) w Po) : jT l E K k n pc lv (.int y :: .int x :: st) w Po := by
  intro p e s m args below meth c A X H locs ls hP hD hS hl
  exact va_mmax X.1 X.2.1 (X.2.2.1.trans hl.1.symm) X.2.2.2.1 (X.2.2.2.2.1 _ hlk) (X.2.2.2.2.1 _ hst) (X.2.2.2.2.1 _ hin) (X.2.2.2.2.1 _ hco) hfr hlo hkn.1 hkn.2 d (kk p e s m args below meth c A X H locs ls hP hD hS hl)
/-- guard of System.arraycopy -/
def jgc {α : Type} (sp dp m : Int32) (n0 n1 : Nat) (a : Option α) : Option α := if sp < 0 ∨ dp < 0 ∨ m < 0 ∨ n0 < sp.toNatClampNeg + m.toNatClampNeg ∨ n1 < dp.toNatClampNeg + m.toNatClampNeg then none else a
theorem jgc_s {α : Type} {sp dp m : Int32} {n0 n1 : Nat} {a : Option α} {u : α} (h : jgc sp dp m n0 n1 a = some u) : (¬ sp < 0 ∧ ¬ dp < 0 ∧ ¬ m < 0 ∧ sp.toNatClampNeg + m.toNatClampNeg ≤ n0 ∧ dp.toNatClampNeg + m.toNatClampNeg ≤ n1) ∧ a = some u := by
  unfold jgc at h
  by_cases q : sp < 0 ∨ dp < 0 ∨ m < 0 ∨ n0 < sp.toNatClampNeg + m.toNatClampNeg ∨ n1 < dp.toNatClampNeg + m.toNatClampNeg
  · rw [if_pos q] at h; cases h
  · rw [if_neg q] at h
    simp only [not_or, Nat.not_lt] at q
    exact ⟨q, h⟩
/-- System.arraycopy within one row of longs -/
theorem j_copyl {st : List Value} {a0 N : Nat} {f : Nat → Int64} {sp dp mm : Int32} {a : Option α} {w' : va_W} (q0 : Nat) (hlk : Cond.methodLink K.2.2.2.1.cls idx arraycopyName ∈ jB) (hna : Cond.native arraycopyName ∈ jB) (hst : Cond.static arraycopyName ∈ jB) (hin : Cond.initialized "java/lang/System" ∈ jB) (hfr : 1 ≤ K.2.2.2.2.frames) (hlo : (st.map fun v => v.category).sum + (nativeFrameWords "java/lang/System" "arraycopy" 5 + 11) ≤ K.2.2.2.2.locals) (d : decode K.1 pc = .ok (.invokestatic idx, 3)) (ha : w[q0]? = some (jJ E a0 N f)) (h : jgc sp dp mm N N a = some u) (hw : w.set q0 (jJ E a0 N (va_cpy f f sp.toNatClampNeg dp.toNatClampNeg mm.toNatClampNeg)) = w') (kk : a = some u → jT l E K k n (pc + 3) lv st w' Po) : jT l E K k n pc lv (.int mm :: .int dp :: .ref a0 :: .int sp :: .ref a0 :: st) w Po := by
  obtain ⟨⟨h1, h2, h3, h4, h5⟩, h⟩ := jgc_s h
  subst hw
  intro p e s m args below meth c A X H locs ls hP hD hS hl
  exact va_copyl X.1 X.2.1 (X.2.2.1.trans hl.1.symm) X.2.2.2.1 (X.2.2.2.2.1 _ hlk) (X.2.2.2.2.1 _ hna) (X.2.2.2.2.1 _ hst) (X.2.2.2.2.1 _ hin) X.2.2.2.2.2.2.2.2.1 hP hD hS q0 q0 1 1 ha ha rfl rfl rfl h1 h2 h3 h4 h5 (fun _ _ => rfl) hfr hlo d (fun H1 locs1 hP hD hS => kk h p e s m args below meth c A X H1 locs1 ls hP hD hS hl)
end JC2
