/-! orders put away, and acts -/
theorem jRo.l {n : Nat} {order : Int64} {st : Nat → Int32} (h : jRo n order st 0) : ∃ o, perm n o ∧ order = lN (pk n o) ∧ lays n o st := by
  obtain ⟨o, a, b, c⟩ := h
  exact ⟨o, a, b, fun k hk => by have := c k hk; rwa [Nat.zero_add] at this⟩
theorem jRo_l {n : Nat} {o : Nat → Nat} {st : Nat → Int32} (ho : perm n o) (h : lays n o st) : jRo n (lN (pk n o)) st 0 := ⟨o, ho, rfl, fun k hk => by rw [Nat.zero_add]; exact h k hk⟩
theorem ofN (N : Nat) : Int32.ofNat N = nI N := rfl
theorem x_put6 {N h : Nat} (hN : N < 2 ^ 31) (hh : h < N) (order : Int64) (ps : Nat → Int64) : f_X6_put Fu N order (nI h) ps = some (nI (h + 1), vp_updL ps h order) := by
  unfold f_X6_put f_X6_isFull
  rw [ofN, if_pos (nI_lt hh hN), some_bind', if_pos rfl]
  unfold g_X6_put_38
  rw [if_neg (nI_pos (by omega)), ofN, if_neg (nI_ge hh hN), jgi_n hh hN, z_1, nI_add, nI_clamp (by omega)]
theorem x_putFull (order : Int64) (ps : Nat → Int64) : f_X6_put Fu 8 order (nI 8) ps = some (nI 8, vp_updL (va_cpy ps ps 1 0 7) 7 order) := by
  unfold f_X6_put f_X6_isFull
  rw [if_neg (by decide), some_bind', if_neg (by decide)]
  unfold jgc
  rw [if_neg (by decide)]
  unfold g_X6_put_38
  rw [if_neg (by decide), if_neg (by decide)]
  show jgi (nI 7) 8 _ = _
  rw [jgi_n (by omega) (by omega)]
  rfl
theorem cp_in {a b c k : Nat} {src dst : Nat → Int32} (h : k < c) : cp a b c src dst (a + k) = src (b + k) := by
  unfold cp
  rw [if_pos (by omega)]
  congr 1
  omega
theorem cp_out {a b c k : Nat} {src dst : Nat → Int32} (h : k < a ∨ a + c ≤ k) : cp a b c src dst k = dst k := by
  unfold cp
  rw [if_neg (by omega)]
theorem jRp_push {N n h : Nat} {ps : Nat → Int64} {was : Nat → Int32} {order : Int64} {st : Nat → Int32} (hh : h < N) (hj : ∀ j, j < h → jRo n (ps j) was (16 * j)) (ho : jRo n order st 0) : jRp N n (nI (h + 1)) (vp_updL ps h order) (nI (h + 1)) (cp (16 * h) 0 16 st was) := by
  refine ⟨h + 1, hh, rfl, rfl, fun j hj2 => ?_⟩
  by_cases q : j = h
  · subst q
    obtain ⟨o, a, b, c⟩ := ho
    rw [pk_uLs]
    exact ⟨o, a, b, fun k hk => by rw [cp_in hk]; exact c k hk⟩
  · obtain ⟨o, a, b, c⟩ := hj j (by omega)
    rw [pk_uLn q]
    exact ⟨o, a, b, fun k hk => by rw [cp_out (by omega)]; exact c k hk⟩
theorem m_shift (st was : Nat → Int32) : f_X10_remembers Fu st (nI 8) was = some (nI 8, cp 112 0 16 st (fa_fill (fun j => was (j + 16)) was 112)) := by
  unfold f_X10_remembers
  rw [if_pos (show nI 8 = (8 : Int32) from rfl)]
  have := for_up (fun f k s => g_X10_remembers_11 Fu st f (nI k) (nI 8) s) 112 (fun k => fa_fill (fun j => was (j + 16)) was k) (some (nI 8, cp 112 0 16 st (fa_fill (fun j => was (j + 16)) was 112))) (fun f k hk => by
    show g_X10_remembers_11 Fu st (f + 1) (nI k) (nI 8) (fa_fill (fun j => was (j + 16)) was k) = _
    rw [g_X10_remembers_11, z_112, if_neg (nI_ge hk (by omega)), z_16, nI_add, jgi_n (by omega) (by omega), jgi_n (by omega) (by omega), nI_clamp (by omega), nI_clamp (by omega), fa_fill_out (by omega), z_1, nI_add, ← fa_fill_succ]) (fun f => by
    show g_X10_remembers_11 Fu st (f + 1) (nI 112) (nI 8) _ = _
    rw [g_X10_remembers_11, z_112, if_pos (nI_le (Nat.le_refl 112) (by omega))]
    unfold g_X10_remembers_48
    rw [z_1, pk_sub (by omega), z_16, pk_mul, z_0, m_copies (by omega) (by omega) (by omega) (by omega), some_bind', nI_add]) Fu 0 (Nat.zero_le _) (fu_lt (by omega))
  rw [fa_fill_0] at this
  exact this
theorem m_remembers {h : Nat} (hh : h < 8) (st was : Nat → Int32) : f_X10_remembers Fu st (nI h) was = some (nI (h + 1), cp (16 * h) 0 16 st was) := by
  unfold f_X10_remembers
  rw [if_neg (fun z => by rw [z_8] at z; have := (nI_eq (by omega) (by omega)).mp z; omega)]
  unfold g_X10_remembers_48
  rw [z_16, pk_mul, z_0, m_copies (by omega) (by omega) (by omega) (by omega), some_bind', z_1, nI_add]
theorem s_put {n : Nat} {ph acts : Int32} {ps : Nat → Int64} {was : Nat → Int32} {order : Int64} {st : Nat → Int32} (hp : jRp 8 n ph ps acts was) (ho : jRo n order st 0) : ∃ u v, f_X6_put Fu 8 order ph ps = some u ∧ f_X10_remembers Fu st acts was = some v ∧ jRp 8 n u.1 u.2 v.1 v.2 := by
  obtain ⟨h, h8, rfl, rfl, hj⟩ := hp
  by_cases q : h < 8
  · exact ⟨_, _, x_put6 (by omega) q order ps, m_remembers q st was, jRp_push q hj ho⟩
  · have : h = 8 := by omega
    subst this
    refine ⟨_, _, x_putFull order ps, m_shift st was, ?_⟩
    have e := jRp_push (N := 8) (h := 7) (n := n) (ps := va_cpy ps ps 1 0 7) (was := fa_fill (fun j => was (j + 16)) was 112) (order := order) (st := st) (by omega) (fun j hj2 => by
      obtain ⟨o, a, b, c⟩ := hj (j + 1) (by omega)
      refine ⟨o, a, ?_, fun k hk => ?_⟩
      · rw [pk_cpy_in (by omega) (by omega), ← b]
        congr 1
        omega
      · rw [fa_fill_in (by omega), ← c k hk]
        congr 1
        omega) ho
    exact e
theorem s_take {N n : Nat} {h : Nat} {ps : Nat → Int64} {was st : Nat → Int32} (hN : N < 100) (h0 : 0 < h) (hh : h ≤ N) (hj : ∀ j, j < h → jRo n (ps j) was (16 * j)) : f_X6_takeLast Fu N ps (nI h) = some (ps (h - 1), nI (h - 1)) ∧ f_X10_copies Fu 16 (16 * N) (0 : Int32) ((16 : Int32) * (nI h - (1 : Int32))) (16 : Int32) was st = some (cp 0 (16 * (h - 1)) 16 was st) ∧ jRo n (ps (h - 1)) (cp 0 (16 * (h - 1)) 16 was st) 0 := by
  refine ⟨?_, ?_, ?_⟩
  · unfold f_X6_takeLast
    rw [if_neg (nI_nle h0 (by omega)), ofN, if_pos (nI_le hh (by omega)), z_1, pk_sub (by omega), jgi_n (by omega) (by omega), nI_clamp (by omega)]
  · rw [z_1, pk_sub (by omega), z_16, pk_mul, z_0, m_copies (by omega) (by omega) (by omega) (by omega)]
  · obtain ⟨o, a, b, c⟩ := hj (h - 1) (by omega)
    exact ⟨o, a, b, fun k hk => by rw [cp_in hk]; exact c k hk⟩
/-- an act on both sides -/
theorem s_act {n a : Nat} {ph acts : Int32} {ps : Nat → Int64} {was : Nat → Int32} {order : Int64} {st : Nat → Int32} (h2 : 2 ≤ n) (hn : n ≤ 16) (ha : a < 6 + n) (hp : jRp 8 n ph ps acts was) (ho : jRo n order st 0) (now ring then_ : Nat → Int32) : ∃ u v, f_X9_act Fu (lN (pk n (mv n a))) (nI n) order ph ps = some u ∧ f_X10_does Fu (nI a) (nI n) acts now ring st then_ was = some v ∧ u.1 = v.1 ∧ jRo n u.2.1 v.2.2.2.2.1 0 ∧ jRp 8 n u.2.2.1 u.2.2.2 v.2.1 v.2.2.2.2.2.2 := by
  obtain ⟨u1, v1, e1, e2, hp'⟩ := s_put hp ho
  obtain ⟨o, hpm, rfl, hl⟩ := ho.l
  obtain ⟨b2, e3, l2⟩ := l_asItIs hl now
  obtain ⟨b3, e4, l3⟩ := l_acts h2 hn ha l2 ring then_
  obtain ⟨b4, e5, l4⟩ := l_copies l3 st
  have hm := mv_perm h2 hn ha
  have hom := perm_comp hpm hm
  unfold f_X9_act f_X10_does
  rw [e1, some_bind', x_moved hn hpm hm, some_bind', show (0 : Int32) = nI 0 from rfl, x_at hn (hom.lt hn) (by omega), some_bind', e2, some_bind', e3, some_bind', e4, some_bind']
  rw [show f_X10_copies Fu 16 16 (nI 0) (nI 0) (16 : Int32) b3.1 st = some b4 from e5, some_bind', jgi_n (by omega) (by omega)]
  refine ⟨_, _, rfl, rfl, ?_, jRo_l hom l4, hp'⟩
  show nI (o (mv n a 0)) = b4 (nI 0).toNatClampNeg
  rw [nI_clamp (by omega), l4.at hn (by omega)]
theorem s_deals {n : Nat} {dealMany : Int32} {lact : Int32} {ldeal : Int64} {deal : Nat → Int32} {ph acts : Int32} {ps : Nat → Int64} {was : Nat → Int32} {order : Int64} {st : Nat → Int32} (h2 : 2 ≤ n) (hn : n ≤ 16) (hd : jRd n lact ldeal dealMany deal) (hp : jRp 8 n ph ps acts was) (ho : jRo n order st 0) (now ring then_ : Nat → Int32) : ∃ u v, f_X9_act Fu ldeal (nI n) order ph ps = some u ∧ f_X10_deal Fu (nI n) dealMany deal acts now ring st then_ was = some v ∧ u.1 = v.1 ∧ jRo n u.2.1 v.2.2.2.2.1 0 ∧ jRp 8 n u.2.2.1 u.2.2.2 v.2.1 v.2.2.2.2.2.2 := by
  obtain ⟨q, d, hq, rfl, rfl, hdd, rfl⟩ := hd
  obtain ⟨u1, v1, e1, e2, hp'⟩ := s_put hp ho
  obtain ⟨o, hpm, rfl, hl⟩ := ho.l
  obtain ⟨b2, e3, l2⟩ := l_asItIs hl now
  obtain ⟨b3, e4, l3⟩ := l_deals h2 hn hq hdd l2 ring then_
  obtain ⟨b4, e5, l4⟩ := l_copies l3 st
  have hm := dmv_perm h2 hn q (fun k hk => (hdd k hk).1)
  have hom := perm_comp hpm hm
  unfold f_X9_act f_X10_deal
  rw [e1, some_bind', x_moved hn hpm hm, some_bind', show (0 : Int32) = nI 0 from rfl, x_at hn (hom.lt hn) (by omega), some_bind', e2, some_bind', e3, some_bind', e4, some_bind']
  rw [show f_X10_copies Fu 16 16 (nI 0) (nI 0) (16 : Int32) b3.1 st = some b4 from e5, some_bind', jgi_n (by omega) (by omega)]
  refine ⟨_, _, rfl, rfl, ?_, jRo_l hom l4, hp'⟩
  show nI (o (dmv n d q 0)) = b4 (nI 0).toNatClampNeg
  rw [nI_clamp (by omega), l4.at hn (by omega)]
/-- rising rows -/
theorem places {n : Nat} {o : Nat → Nat} (ho : perm n o) : ∃ P : Nat → Nat, ∀ c, c < n → P c < n ∧ o (P c) = c := by
  have : ∀ c, ∃ p, c < n → p < n ∧ o p = c := fun c => by
    by_cases q : c < n
    · obtain ⟨p, a, b⟩ := perm_onto ho q
      exact ⟨p, fun _ => ⟨a, b⟩⟩
    · exact ⟨0, fun z => absurd z q⟩
  exact ⟨fun c => Classical.choose (this c), fun c hc => Classical.choose_spec (this c) hc⟩
theorem l_rising {n : Nat} {o P : Nat → Nat} {now : Nat → Int32} (h2 : 2 ≤ n) (hn : n ≤ 16) (ho : perm n o) (hP : ∀ c, c < n → P c < n ∧ o (P c) = c) (h : lays n o now) : f_X10_risingNow Fu (nI n) now = some (nI (ris P (n - 1))) := by
  refine for_up (fun f k s => g_X10_risingNow_4 Fu (nI n) now f s (nI k)) (n - 1) (fun k => nI (ris P k)) _ (fun f k hk => ?_) (fun f => ?_) Fu 0 (Nat.zero_le _) (fu_lt (by omega))
  · show g_X10_risingNow_4 Fu (nI n) now (f + 1) (nI (ris P k)) (nI k) = g_X10_risingNow_4 Fu (nI n) now f (nI (ris P k + if P (k + 1) < P k then 1 else 0)) (nI (k + 1))
    have b1 := hP k (by omega)
    have b2 := hP (k + 1) (by omega)
    rw [g_X10_risingNow_4, z_1, nI_add, if_neg (nI_ge (by omega) (by omega)), l_placeOf hn ho h b2.1 b2.2, some_bind', l_placeOf hn ho h b1.1 b1.2, some_bind', z_0, nI_add, nI_add]
    by_cases q : P (k + 1) < P k
    · rw [if_neg (nI_ge q (by omega)), if_pos q]
    · rw [if_pos (nI_le (by omega) (by omega)), if_neg q]
  · show g_X10_risingNow_4 Fu (nI n) now (f + 1) (nI (ris P (n - 1))) (nI (n - 1)) = _
    rw [g_X10_risingNow_4, z_1, nI_add, if_pos (nI_le (by omega) (by omega))]
