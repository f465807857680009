/-! how many orders -/
def same (n : Nat) (o o' : Nat → Nat) : Prop := ∀ k, k < n → o k = o' k
theorem same.sy {n : Nat} {o o' : Nat → Nat} (h : same n o o') : same n o' o := fun k hk => (h k hk).symm
theorem same.tr {n : Nat} {o o' o2 : Nat → Nat} (h : same n o o') (h' : same n o' o2) : same n o o2 := fun k hk => (h k hk).trans (h' k hk)
theorem same_mv {n a : Nat} {o o' : Nat → Nat} (h2 : 2 ≤ n) (hn : n ≤ 16) (ha : a < 6 + n) (h : same n o o') : same n (fun k => o (mv n a k)) (fun k => o' (mv n a k)) := fun k hk => h _ (mv_lt n (by omega) h2 a ha k hk)
def Wr (n : Nat) : Nat → (Nat → Nat) → Prop
  | 0, o => o = fun k => k
  | d + 1, o => ∃ a o', a < 2 ∧ Wr n d o' ∧ o = fun k => o' (mv n a k)
theorem Wr.perm {n : Nat} (h2 : 2 ≤ n) (hn : n ≤ 16) : ∀ d o, Wr n d o → perm n o
  | 0, o, h => by
    rw [show o = fun k => k from h]
    exact perm_id n
  | d + 1, o, ⟨a, o', ha, hw, e⟩ => by
    rw [e]
    exact perm_comp (Wr.perm h2 hn d o' hw) (mv_perm h2 hn (by omega))
theorem lN_inj64 {a b : Nat} (ha : a < 2 ^ 64) (hb : b < 2 ^ 64) : lN a = lN b ↔ a = b := by
  constructor
  · intro h
    have := congrArg (fun x : Int64 => x.toBitVec.toNat) h
    simp only [wb_tn ha, wb_tn hb] at this
    exact this
  · intro h
    rw [h]
theorem code_eq {n : Nat} {o o' : Nat → Nat} (hn : n ≤ 16) (ho : perm n o) (ho' : perm n o') : lN (pk n o) = lN (pk n o') ↔ same n o o' := by
  rw [lN_inj64 (pk_64 hn (ho.lt hn)) (pk_64 hn (ho'.lt hn))]
  exact ⟨fun h => pk_inj (ho.lt hn) (ho'.lt hn) h, fun h => pk_congr h⟩
def dist (n H : Nat) (F : Nat → Nat → Nat) : Prop := ∀ i j, i < j → j < H → ¬ same n (F i) (F j)
theorem cnt_le {n H K : Nat} {F G : Nat → Nat → Nat} (hF : dist n H F) (h : ∀ i, i < H → ∃ j, j < K ∧ same n (F i) (G j)) : H ≤ K := by
  have hx : ∀ i, ∃ j, i < H → j < K ∧ same n (F i) (G j) := fun i => by
    by_cases q : i < H
    · obtain ⟨j, a⟩ := h i q
      exact ⟨j, fun _ => a⟩
    · exact ⟨0, fun z => absurd z q⟩
  refine fb_holes K H (fun i => Classical.choose (hx i)) (fun i hi => (Classical.choose_spec (hx i) hi).1) (fun i j hij hj e => ?_)
  have e1 := (Classical.choose_spec (hx i) (by omega)).2
  have e2 := (Classical.choose_spec (hx j) hj).2
  have e' : Classical.choose (hx i) = Classical.choose (hx j) := e
  rw [e'] at e1
  exact hF i j hij hj (e1.tr e2.sy)
def stf (n H : Nat) (F : Nat → Nat → Nat) (found : Nat → Int64) : Prop := (∀ i, i < H → perm n (F i) ∧ found i = lN (pk n (F i))) ∧ dist n H F
theorem lg0 (a b : Int64) : (lg_cmp a b = (0 : Int32)) ↔ a = b := lg_cmp_eq a b
theorem x_held {n H : Nat} {F : Nat → Nat → Nat} {o : Nat → Nat} {found : Nat → Int64} (hn : n ≤ 16) (hH : H < 127) (hs : stf n H F found) (ho : perm n o) : ∃ H' F' found', f_X0_heldWith Fu (lN (pk n o)) (nI H) found = some (nI H', found') ∧ H ≤ H' ∧ H' ≤ H + 1 ∧ stf n H' F' found' ∧ (∀ i, i < H → F' i = F i ∧ found' i = found i) ∧ (∀ i, i < H' → i < H ∨ F' i = o) ∧ ∃ j, j < H' ∧ same n (F' j) o := by
  refine for_upR (fun f k (_ : Unit) => g_X0_heldWith_3 Fu (lN (pk n o)) (nI H) f (nI k) found) H (fun k _ => ∀ i, i < k → ¬ same n (F i) o) (fun r => ∃ H' F' found', r = some (nI H', found') ∧ H ≤ H' ∧ H' ≤ H + 1 ∧ stf n H' F' found' ∧ (∀ i, i < H → F' i = F i ∧ found' i = found i) ∧ (∀ i, i < H' → i < H ∨ F' i = o) ∧ ∃ j, j < H' ∧ same n (F' j) o) (fun f k s hk hi => ?_) (fun f s hi => ?_) Fu 0 () (Nat.zero_le _) (fu_lt (by omega)) (fun i hi => absurd hi (by omega))
  · obtain ⟨a1, a2⟩ := hs.1 k hk
    have e : g_X0_heldWith_3 Fu (lN (pk n o)) (nI H) (f + 1) (nI k) found = if lg_cmp (lN (pk n (F k))) (lN (pk n o)) = (0 : Int32) then some (nI H, found) else g_X0_heldWith_3 Fu (lN (pk n o)) (nI H) f (nI (k + 1)) found := by
      rw [g_X0_heldWith_3, if_neg (nI_ge hk (by omega)), z_127, if_neg (nI_ge (by omega) (by omega)), jgi_n (by omega) (by omega), nI_clamp (by omega), a2, nI_1]
    by_cases q : same n (F k) o
    · refine Or.inr ⟨H, F, found, ?_, Nat.le_refl _, by omega, hs, fun i _ => ⟨rfl, rfl⟩, fun i hi => Or.inl hi, k, hk, q⟩
      show g_X0_heldWith_3 Fu (lN (pk n o)) (nI H) (f + 1) (nI k) found = _
      rw [e, if_pos ((lg0 _ _).mpr ((code_eq hn a1 ho).mpr q))]
    · refine Or.inl ⟨(), fun i hi2 => ?_, ?_⟩
      · by_cases w : i = k
        · rw [w]
          exact q
        · exact hi i (by omega)
      · show g_X0_heldWith_3 Fu (lN (pk n o)) (nI H) (f + 1) (nI k) found = _
        rw [e, if_neg (fun z => q ((code_eq hn a1 ho).mp ((lg0 _ _).mp z)))]
  · refine ⟨H + 1, fun i => if i = H then o else F i, vp_updL found H (lN (pk n o)), ?_, by omega, by omega, ⟨fun i hi2 => ?_, fun i j hij hj => ?_⟩, fun i hi2 => ⟨if_neg (by omega), pk_uLn (by omega)⟩, fun i hi2 => ?_, H, by omega, ?_⟩
    · show g_X0_heldWith_3 Fu (lN (pk n o)) (nI H) (f + 1) (nI H) found = _
      rw [g_X0_heldWith_3, if_pos (nI_le (Nat.le_refl H) (by omega))]
      unfold g_X0_heldWith_39
      rw [if_neg (nI_pos (by omega)), z_127, if_pos (nI_lt hH (by omega)), jgi_n hH (by omega), nI_clamp (by omega), nI_1]
    · dsimp only
      by_cases w : i = H
      · rw [if_pos w, w, pk_uLs]
        exact ⟨ho, rfl⟩
      · rw [if_neg w, pk_uLn w]
        exact hs.1 i (by omega)
    · dsimp only
      rw [if_neg (by omega)]
      by_cases w : j = H
      · rw [if_pos w]
        exact hi i (by omega)
      · rw [if_neg w]
        exact hs.2 i j hij (by omega)
    · by_cases w : i = H
      · exact Or.inr (if_pos w)
      · exact Or.inl (by omega)
    · dsimp only
      rw [if_pos rfl]
      exact fun k hk => rfl
/-- all orders of at most s lacings are in it, the successors of the first N too -/
def full (n s N H : Nat) (F : Nat → Nat → Nat) : Prop := (∀ i, i < H → ∃ d, d ≤ s ∧ Wr n d (F i)) ∧ (∀ i, i < N → ∀ a, a < 2 → ∃ j, j < H ∧ same n (F j) (fun k => F i (mv n a k)))
def has (n s E : Nat) (F : Nat → Nat → Nat) : Prop := ∀ d o, d ≤ s → Wr n d o → ∃ j, j < E ∧ same n (F j) o
theorem x_orders {n k : Nat} (h2 : 2 ≤ n) (hn : n ≤ 16) (hk : k ≤ 6) (found0 : Nat → Int64) : ∃ H F found, f_X0_countOrders Fu (nI k) (nI n) found0 = some (nI H, found) ∧ dist n H F ∧ (∀ i, i < H → ∃ d, d ≤ k ∧ Wr n d (F i)) ∧ has n k H F := by
  unfold f_X0_countOrders
  rw [show f_X3_lacing Fu (0 : Int32) (nI n) = _ from t_lac n (by omega) h2 0 (by omega), some_bind', show f_X3_lacing Fu (1 : Int32) (nI n) = _ from t_lac n (by omega) h2 1 (by omega), some_bind', t_ord n (by omega), some_bind', show ∀ a : Option (Int32 × (Nat → Int64)), jgi (0 : Int32) 127 a = a from fun a => jgi_n (k := 0) (by omega) (by omega) a]
  rw [show (0 : Int32).toNatClampNeg = 0 from rfl]
  refine for_upR (fun f s (t : Int32 × Int32 × (Nat → Int64)) => g_X0_countOrders_32 Fu (nI k) (nI n) f (lN (pk n (mv n 0))) (lN (pk n (mv n 1))) t.1 t.2.1 (nI s) t.2.2) k (fun s t => ∃ H N F, t.1 = nI H ∧ t.2.1 = nI N ∧ N ≤ H ∧ H < 2 ^ (s + 1) ∧ H - N ≤ 2 ^ s ∧ stf n H F t.2.2 ∧ full n s N H F ∧ has n s H F) (fun r => ∃ H F found, r = some (nI H, found) ∧ dist n H F ∧ (∀ i, i < H → ∃ d, d ≤ k ∧ Wr n d (F i)) ∧ has n k H F) (fun f s t hs hi => Or.inl ?_) (fun f t hi => ?_) Fu 0 (1, 0, vp_updL found0 0 (lN (pk n (fun k => k)))) (Nat.zero_le _) (fu_lt (by omega)) ⟨1, 0, fun _ k => k, rfl, rfl, by omega, by decide, by decide, ⟨fun i hi => ?_, fun i j hij hj => absurd hj (by omega)⟩, ⟨fun i hi => ⟨0, by omega, rfl⟩, fun i hi => absurd hi (by omega)⟩, fun d o hd ho => ?_⟩
  · obtain ⟨held, newest, found⟩ := t
    obtain ⟨E, N, F, e1, e2, b1, b2, b3, hst, hfu, hha⟩ := hi
    dsimp only at e1 e2 hst
    subst e1 e2
    have pk6 : 2 ^ s ≤ 2 ^ 5 := Nat.pow_le_pow_right (by decide) (by omega)
    have ps : 2 ^ (s + 1) = 2 ^ s * 2 := Nat.pow_succ ..
    have ps2 : 2 ^ (s + 1 + 1) = 2 ^ s * 2 * 2 := by rw [Nat.pow_succ, ps]
    show ∃ s', _ ∧ g_X0_countOrders_32 Fu (nI k) (nI n) (f + 1) (lN (pk n (mv n 0))) (lN (pk n (mv n 1))) (nI E) (nI N) (nI s) found = _
    rw [g_X0_countOrders_32, if_neg (nI_ge hs (by omega))]
    refine for_upR (fun f2 i (t : Int32 × (Nat → Int64)) => g_X0_countOrders_46 Fu (nI k) (nI n) (fun qx3 qx5 qx7 qx8 qx9 qf_o_found => g_X0_countOrders_32 Fu (nI k) (nI n) f qx3 qx5 qx7 qx8 qx9 qf_o_found) f2 (lN (pk n (mv n 0))) (lN (pk n (mv n 1))) t.1 (nI s) (nI E) (nI i) t.2) E (fun i t => ∃ H F', t.1 = nI H ∧ E ≤ H ∧ H ≤ E + 2 * (i - N) ∧ N ≤ i ∧ stf n H F' t.2 ∧ (∀ j, j < E → F' j = F j) ∧ full n (s + 1) i H F') (fun r => ∃ s' : Int32 × Int32 × (Nat → Int64), (∃ H N F, s'.1 = nI H ∧ s'.2.1 = nI N ∧ N ≤ H ∧ H < 2 ^ (s + 1 + 1) ∧ H - N ≤ 2 ^ (s + 1) ∧ stf n H F s'.2.2 ∧ full n (s + 1) N H F ∧ has n (s + 1) H F) ∧ r = g_X0_countOrders_32 Fu (nI k) (nI n) f (lN (pk n (mv n 0))) (lN (pk n (mv n 1))) s'.1 s'.2.1 (nI (s + 1)) s'.2.2) (fun f2 i t hiE hi => Or.inl ?_) (fun f2 t hi => ?_) Fu N (nI E, found) b1 (fu_lt (by omega)) ⟨E, F, rfl, Nat.le_refl _, by omega, Nat.le_refl _, hst, fun _ _ => rfl, ⟨fun i hi => ?_, hfu.2⟩⟩
    · obtain ⟨held, fnd⟩ := t
      obtain ⟨H, F', e1, c1, c2, c3, hst', hF, hfu'⟩ := hi
      dsimp only at e1 hst'
      subst e1
      obtain ⟨p1, p2⟩ := hst'.1 i (by omega)
      have m0 := mv_perm h2 hn (show 0 < 6 + n by omega)
      have m1 := mv_perm h2 hn (show 1 < 6 + n by omega)
      obtain ⟨H1, F1, fnd1, q1, q2, q3, q4, q5, q6, j1, j2, j3⟩ := x_held hn (by omega) hst' (perm_comp p1 m0)
      obtain ⟨p1', p2'⟩ := q4.1 i (by omega)
      rw [(q5 i (by omega)).1] at p1' p2'
      obtain ⟨H2, F2, fnd2, r1, r2, r3, r4, r5, r6, l1, l2, l3⟩ := x_held hn (by omega) q4 (perm_comp p1' m1)
      refine ⟨(nI H2, fnd2), ⟨H2, F2, rfl, by omega, by omega, by omega, r4, fun j hj => ?_, fun j hj => ?_, fun j hj a ha => ?_⟩, ?_⟩
      · rw [(r5 j (by omega)).1, (q5 j (by omega)).1, hF j hj]
      · obtain ⟨d, d1, d2⟩ := hfu'.1 i (by omega)
        have hd : ∃ d, d ≤ s ∧ Wr n d (F' i) := by
          obtain ⟨d, d1, d2⟩ := hfu.1 i hiE
          rw [← hF i hiE] at d2
          exact ⟨d, d1, d2⟩
        obtain ⟨d, d1, d2⟩ := hd
        rcases r6 j hj with w | w
        · rw [(r5 j w).1]
          rcases q6 j w with v | v
          · rw [(q5 j v).1]
            exact hfu'.1 j v
          · rw [v]
            exact ⟨d + 1, by omega, 0, F' i, by omega, d2, rfl⟩
        · rw [w]
          exact ⟨d + 1, by omega, 1, F' i, by omega, d2, rfl⟩
      · have ej : F2 j = F' j := by rw [(r5 j (by omega)).1, (q5 j (by omega)).1]
        rw [ej]
        by_cases w : j = i
        · subst w
          rcases (show a = 0 ∨ a = 1 by omega) with rfl | rfl
          · exact ⟨j1, by omega, by rw [(r5 j1 j2).1]; exact j3⟩
          · exact ⟨l1, l2, l3⟩
        · obtain ⟨x, x1, x2⟩ := hfu'.2 j (by omega) a ha
          exact ⟨x, by omega, by rw [(r5 x (by omega)).1, (q5 x x1).1]; exact x2⟩
      · show g_X0_countOrders_46 Fu (nI k) (nI n) _ (f2 + 1) (lN (pk n (mv n 0))) (lN (pk n (mv n 1))) (nI H) (nI s) (nI E) (nI i) fnd = g_X0_countOrders_46 Fu (nI k) (nI n) _ f2 (lN (pk n (mv n 0))) (lN (pk n (mv n 1))) (nI H2) (nI s) (nI E) (nI (i + 1)) fnd2
        rw [g_X0_countOrders_46, if_neg (nI_ge hiE (by omega)), z_127, if_neg (nI_ge (by omega) (by omega)), jgi_n (by omega) (by omega), nI_clamp (by omega), p2, x_moved hn p1 m0, some_bind', q1, some_bind', jgi_n (by omega) (by omega)]
        dsimp only
        rw [p2', x_moved hn p1' m1, some_bind', r1, some_bind', nI_1]
    · obtain ⟨held, fnd⟩ := t
      obtain ⟨H, F', e1, c1, c2, c3, hst', hF, hfu'⟩ := hi
      dsimp only at e1 hst'
      subst e1
      refine ⟨(nI H, nI E, fnd), ⟨H, E, F', rfl, rfl, c1, by omega, by omega, hst', hfu', fun d o hd ho => ?_⟩, ?_⟩
      · by_cases w : d ≤ s
        · obtain ⟨j, j1, j2⟩ := hha d o w ho
          exact ⟨j, by omega, by rw [hF j j1]; exact j2⟩
        · have : d = s + 1 := by omega
          subst this
          obtain ⟨a, o', ha, ho', rfl⟩ := ho
          obtain ⟨j, j1, j2⟩ := hha s o' (Nat.le_refl _) ho'
          obtain ⟨x, x1, x2⟩ := hfu'.2 j j1 a ha
          refine ⟨x, x1, x2.tr ?_⟩
          rw [hF j j1]
          exact same_mv h2 hn (by omega) j2
      · show g_X0_countOrders_46 Fu (nI k) (nI n) _ (f2 + 1) (lN (pk n (mv n 0))) (lN (pk n (mv n 1))) (nI H) (nI s) (nI E) (nI E) fnd = _
        rw [g_X0_countOrders_46, if_pos (nI_le (Nat.le_refl _) (by omega)), nI_1]
    · obtain ⟨d, d1, d2⟩ := hfu.1 i hi
      exact ⟨d, by omega, d2⟩
  · obtain ⟨held, newest, found⟩ := t
    obtain ⟨E, N, F, e1, e2, b1, b2, b3, hst, hfu, hha⟩ := hi
    dsimp only at e1 e2 hst
    subst e1 e2
    refine ⟨E, F, found, ?_, hst.2, hfu.1, hha⟩
    show g_X0_countOrders_32 Fu (nI k) (nI n) (f + 1) (lN (pk n (mv n 0))) (lN (pk n (mv n 1))) (nI E) (nI N) (nI k) found = _
    rw [g_X0_countOrders_32, if_pos (nI_le (Nat.le_refl _) (by omega))]
  · have : i = 0 := by omega
    subst this
    exact ⟨perm_id n, show vp_updL found0 0 (lN (pk n (fun k => k))) 0 = lN (pk n (fun k => k)) from pk_uLs⟩
  · have : d = 0 := by omega
    subst this
    rw [show o = fun k => k from ho]
    exact ⟨0, by omega, fun k _ => rfl⟩
