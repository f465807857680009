/-! rounds of a move -/
def it (m : Nat → Nat) : Nat → Nat → Nat
  | 0, p => p
  | k + 1, p => it m k (m p)
theorem it_s (m : Nat → Nat) : ∀ k p, it m (k + 1) p = m (it m k p)
  | 0, _ => rfl
  | k + 1, p => it_s m k (m p)
theorem it_add (m : Nat → Nat) (a : Nat) : ∀ b p, it m (a + b) p = it m b (it m a p)
  | 0, _ => rfl
  | b + 1, p => by
    show it m (a + b + 1) p = _
    rw [it_s, it_s, it_add m a b p]
theorem it_perm {n : Nat} {m : Nat → Nat} (h : perm n m) : ∀ k, perm n (it m k)
  | 0 => perm_id n
  | k + 1 => by
    show perm n (fun p => it m k (m p))
    exact perm_comp (it_perm h k) h
/-- a place's round is so long -/
def rlen (m : Nat → Nat) (p L : Nat) : Prop := 0 < L ∧ it m L p = p ∧ ∀ j, 0 < j → j < L → ¬ it m j p = p
theorem rlen_one {m : Nat → Nat} {p L L' : Nat} (h : rlen m p L) (h' : rlen m p L') : L = L' := by
  rcases Nat.lt_trichotomy L L' with q | q | q
  · exact absurd h.2.1 (h'.2.2 L h.1 q)
  · exact q
  · exact absurd h'.2.1 (h.2.2 L' h'.1 q)
theorem it_mul {m : Nat → Nat} {p L : Nat} (h : it m L p = p) : ∀ q, it m (L * q) p = p
  | 0 => rfl
  | q + 1 => by
    rw [Nat.mul_succ, it_add, it_mul h q, h]
theorem rlen_dvd {m : Nat → Nat} {p L : Nat} (h : rlen m p L) (k : Nat) : it m k p = p ↔ L ∣ k := by
  constructor
  · intro e
    have h1 : it m (k % L) p = p := by
      have h3 := Nat.div_add_mod k L
      have h4 := it_add m (L * (k / L)) (k % L) p
      rw [h3, it_mul h.2.1] at h4
      rw [← h4, e]
    rcases Nat.eq_zero_or_pos (k % L) with q | q
    · exact Nat.dvd_of_mod_eq_zero q
    · exact absurd h1 (h.2.2 _ q (Nat.mod_lt _ h.1))
  · rintro ⟨q, rfl⟩
    exact it_mul h.2.1 q
theorem rlen_ex {n : Nat} {m : Nat → Nat} (h : perm n m) {p : Nat} (hp : p < n) : ∃ L, L ≤ n ∧ rlen m p L := by
  have hx : ∃ k, 0 < k ∧ k ≤ n ∧ it m k p = p := by
    obtain ⟨i, j, hij, hj, e⟩ := fb_twice (m := n) (n := n + 1) (f := fun k => it m k p) (fun k _ => (it_perm h k).1 p hp) (by omega)
    refine ⟨j - i, by omega, by omega, ?_⟩
    have h1 : it m (j - i + i) p = it m i (it m (j - i) p) := it_add m (j - i) i p
    rw [show j - i + i = j by omega] at h1
    have h2 : it m i (it m (j - i) p) = it m i p := by rw [← h1]; exact e.symm
    exact (it_perm h i).2 _ _ ((it_perm h (j - i)).1 p hp) hp h2
  obtain ⟨k, ⟨k1, k2, k3⟩, hmin⟩ := pk_least (fun k => 0 < k ∧ k ≤ n ∧ it m k p = p) hx
  exact ⟨k, k2, k1, k3, fun j hj hjk e => hmin j hjk ⟨hj, by omega, e⟩⟩
theorem x_roundLength {n p L : Nat} {m : Nat → Nat} (h2 : 2 ≤ n) (hn : n ≤ 16) (hm : perm n m) (hp : p < n) (hL : rlen m p L) : f_X4_roundLength Fu (lN (pk n m)) (nI n) (nI p) = some (nI L) := by
  obtain ⟨L', hL', hR⟩ := rlen_ex hm hp
  have e := rlen_one hR hL
  subst e
  refine for_upR (fun f k (s : Int32) => g_X4_roundLength_6 Fu (lN (pk n m)) (nI n) (nI p) f s (nI k)) n (fun k s => 0 < k ∧ s = nI (it m (k - 1) p) ∧ ∀ j, 0 < j → j < k → ¬ it m j p = p) (fun r => r = some (nI L')) (fun f k s hk hi => ?_) (fun f s hi => ?_) Fu 1 (nI p) (by omega) (fu_lt (by omega)) ⟨by omega, rfl, fun j a b => absurd b (by omega)⟩
  · obtain ⟨k0, rfl, hno⟩ := hi
    have b := (it_perm hm (k - 1)).1 p hp
    have b2 := (it_perm hm k).1 p hp
    have e : g_X4_roundLength_6 Fu (lN (pk n m)) (nI n) (nI p) (f + 1) (nI (it m (k - 1) p)) (nI k) = if nI (it m k p) = nI p then some (nI k) else g_X4_roundLength_6 Fu (lN (pk n m)) (nI n) (nI p) f (nI (it m k p)) (nI (k + 1)) := by
      rw [g_X4_roundLength_6, if_neg (nI_ge hk (by omega)), x_at hn (hm.lt hn) b, some_bind', ← it_s m (k - 1) p, show k - 1 + 1 = k by omega, nI_1]
    by_cases q : it m k p = p
    · refine Or.inr ?_
      show g_X4_roundLength_6 Fu (lN (pk n m)) (nI n) (nI p) (f + 1) (nI (it m (k - 1) p)) (nI k) = _
      rw [e, if_pos (by rw [q]), rlen_one ⟨k0, q, hno⟩ hR]
    · refine Or.inl ⟨nI (it m k p), ⟨by omega, rfl, fun j a b => ?_⟩, ?_⟩
      · by_cases w : j = k
        · rw [w]
          exact q
        · exact hno j a (by omega)
      · show g_X4_roundLength_6 Fu (lN (pk n m)) (nI n) (nI p) (f + 1) (nI (it m (k - 1) p)) (nI k) = _
        rw [e, if_neg (fun z => q ((nI_eq (by omega) (by omega)).mp z))]
  · obtain ⟨k0, rfl, hno⟩ := hi
    show g_X4_roundLength_6 Fu (lN (pk n m)) (nI n) (nI p) (f + 1) (nI (it m (n - 1) p)) (nI n) = _
    rw [g_X4_roundLength_6, if_pos (nI_le (Nat.le_refl n) (by omega))]
    have : L' = n := by
      rcases Nat.lt_or_ge L' n with q | q
      · exact absurd hR.2.1 (hno L' hR.1 q)
      · omega
    rw [this]
theorem m_round {n a p L : Nat} (h2 : 2 ≤ n) (hn : n ≤ 16) (ha : a < 6 + n) (hp : p < n) (hL : rlen (mv n a) p L) (hLn : L ≤ n) {now : Nat → Int32} (hl : lays n (fun k => k) now) (ring then_ : Nat → Int32) : ∃ v, g_X10_round_29 Fu (nI p) (nI a) (nI n) Fu (0 : Int32) (1 : Int32) now ring then_ = some v ∧ v.1 = nI L := by
  have hm := mv_perm h2 hn ha
  refine for_upR (fun f k (s : Int32 × (Nat → Int32) × (Nat → Int32) × (Nat → Int32)) => g_X10_round_29 Fu (nI p) (nI a) (nI n) f (nI k) s.1 s.2.1 s.2.2.1 s.2.2.2) L (fun k s => s.1 = (if k < L then 1 else 0) ∧ lays n (it (mv n a) k) s.2.1) (fun r => ∃ v, r = some v ∧ v.1 = nI L) (fun f k s hk hi => Or.inl ?_) (fun f s hi => ⟨(nI L, s.2), ?_, rfl⟩) Fu 0 (1, now, ring, then_) (Nat.zero_le _) (fu_lt (by omega)) ⟨by rw [if_pos hL.1], hl⟩
  · obtain ⟨b, e, hb⟩ := l_acts h2 hn ha hi.2 s.2.2.1 s.2.2.2
    have hb' : lays n (it (mv n a) (k + 1)) b.1 := hb
    have bd := (it_perm hm (k + 1)).1 p hp
    refine ⟨(if k + 1 < L then 1 else 0, b), ⟨rfl, hb'⟩, ?_⟩
    show g_X10_round_29 Fu (nI p) (nI a) (nI n) (f + 1) (nI k) s.1 s.2.1 s.2.2.1 s.2.2.2 = g_X10_round_29 Fu (nI p) (nI a) (nI n) f (nI (k + 1)) (if k + 1 < L then 1 else 0) b.1 b.2.1 b.2.2
    rw [hi.1, if_pos hk, g_X10_round_29, if_neg (by decide), e, some_bind', jgi_n (by omega) (by omega), nI_clamp (by omega), hb'.at hn hp, nI_1]
    by_cases q : k + 1 < L
    · rw [if_neg (fun z => hL.2.2 (k + 1) (by omega) q ((nI_eq (by omega) (by omega)).mp z)), if_pos q]
    · have : k + 1 = L := by omega
      rw [if_pos (by rw [this, hL.2.1]), if_neg q]
  · show g_X10_round_29 Fu (nI p) (nI a) (nI n) (f + 1) (nI L) s.1 s.2.1 s.2.2.1 s.2.2.2 = _
    rw [hi.1, if_neg (by omega), g_X10_round_29, if_pos rfl]
theorem st_round {v_x_order : Int64} {v_x_text_length : Int32} {f_x_text_letters : Nat → Int32} {v_x_laid_cards : Int32} {v_x_laid_colours : Int32} {v_x_laid_acts : Int32} {v_x_laid_deal : Int64} {v_x_past_held : Int32} {f_x_past_stored : Nat → Int64} {v_x_kept_held : Int32} {f_x_kept_stored : Nat → Int64} {v_x_sightings_held : Int32} {f_x_sightings_cards : Nat → Int32} {f_x_sightings_places : Nat → Int32} {v_m_cards : Int32} {v_m_dealMany : Int32} {v_m_acts : Int32} {v_m_keeps : Int32} {v_m_seens : Int32} {v_m_texted : Int32} {f_m_colour : Nat → Int32} {f_m_deal : Nat → Int32} {f_m_st : Nat → Int32} {f_m_was : Nat → Int32} {f_m_kept : Nat → Int32} {f_m_seen : Nat → Int32} {f_m_text : Nat → Int32} {f_m_now : Nat → Int32} {f_m_then : Nat → Int32} {f_m_ring : Nat → Int32} (y1 : Int32) (y2 : Int32) (h : jR v_x_order v_x_text_length f_x_text_letters v_x_laid_cards v_x_laid_colours v_x_laid_acts v_x_laid_deal v_x_past_held f_x_past_stored v_x_kept_held f_x_kept_stored v_x_sightings_held f_x_sightings_cards f_x_sightings_places v_m_cards f_m_colour v_m_dealMany f_m_deal f_m_st v_m_acts f_m_was v_m_keeps f_m_kept v_m_seens f_m_seen f_m_text v_m_texted) : ∃ u v, f_X9_round Fu y1 y2 v_x_laid_cards = some u ∧ f_X10_round Fu y1 y2 v_m_cards f_m_now f_m_ring f_m_then = some v ∧ u = v.1 ∧ jR v_x_order v_x_text_length f_x_text_letters v_x_laid_cards v_x_laid_colours v_x_laid_acts v_x_laid_deal v_x_past_held f_x_past_stored v_x_kept_held f_x_kept_stored v_x_sightings_held f_x_sightings_cards f_x_sightings_places v_m_cards f_m_colour v_m_dealMany f_m_deal f_m_st v_m_acts f_m_was v_m_keeps f_m_kept v_m_seens f_m_seen f_m_text v_m_texted := by
  have hh := h
  obtain ⟨n, h2, hn, rfl, rfl, ht, ho, hc, hd, hp, hk, hs⟩ := h
  unfold f_X9_round f_X10_round
  rcases gcard h2 hn y1 with ⟨p, hp1, rfl, e1, e2, e3⟩ | ⟨_, e1, e2, e3⟩
  · rw [e2, e3, some_bind', some_bind', if_neg not10, if_neg not10]
    rcases gkind y2 with ⟨a, ha, rfl, e4, e5⟩ | ⟨_, e4, e5⟩
    · obtain ⟨L, hLn, hL⟩ := rlen_ex (mv_perm h2 hn (show a < 6 + n by omega)) hp1
      obtain ⟨b, g1, g2⟩ := l_lies n f_m_now
      obtain ⟨v, v1, v2⟩ := m_round h2 hn (by omega) hp1 hL hLn g2 f_m_ring f_m_then
      rw [e4, e5, some_bind', some_bind', if_neg not10, if_neg not10, t_lac n (by omega) h2 a ha, some_bind', x_roundLength h2 hn (mv_perm h2 hn (by omega)) hp1 hL, g1, some_bind', some_bind', v1]
      exact ⟨_, _, rfl, rfl, v2.symm, hh⟩
    · rw [e4, e5, some_bind', some_bind', if_pos rfl, if_pos rfl]
      exact ⟨_, _, rfl, rfl, rfl, hh⟩
  · rw [e2, e3, some_bind', some_bind', if_pos rfl, if_pos rfl]
    exact ⟨_, _, rfl, rfl, rfl, hh⟩
/-! all lie as before -/
/-- the least number of times after which the first k places hold their own -/
def lcmTo (m : Nat → Nat) (k T : Nat) : Prop := 0 < T ∧ T ∣ 720720 ∧ ∀ M, (∀ p, p < k → it m M p = p) ↔ T ∣ M
theorem dvd16 : ∀ L, L < 17 → 0 < L → L ∣ 720720 := by decide
theorem x_times {n : Nat} {m : Nat → Nat} (h2 : 2 ≤ n) (hn : n ≤ 16) (hm : perm n m) : ∃ T, lcmTo m n T ∧ f_X4_timesTillSame Fu (lN (pk n m)) (nI n) = some (nI T) := by
  refine for_upR (fun f k (s : Int32) => g_X4_timesTillSame_5 Fu (lN (pk n m)) (nI n) f s (nI k)) n (fun k s => ∃ T, lcmTo m k T ∧ s = nI T) (fun r => ∃ T, lcmTo m n T ∧ r = some (nI T)) (fun f k s hk hi => Or.inl ?_) (fun f s hi => ?_) Fu 0 (1 : Int32) (Nat.zero_le _) (fu_lt (by omega)) ⟨1, ⟨by omega, ⟨720720, rfl⟩, fun M => ⟨fun _ => Nat.one_dvd _, fun _ p hp => absurd hp (by omega)⟩⟩, rfl⟩
  · obtain ⟨T, ⟨t0, t1, t2⟩, rfl⟩ := hi
    obtain ⟨L, hLn, hL⟩ := rlen_ex hm hk
    have hT : T ≤ 720720 := Nat.le_of_dvd (by decide) t1
    have hg : 0 < Nat.gcd T L := Nat.gcd_pos_of_pos_left _ t0
    have hgT : Nat.gcd T L ≤ T := Nat.le_of_dvd t0 (Nat.gcd_dvd_left T L)
    have el : T / Nat.gcd T L * L = Nat.lcm T L := by
      rw [Nat.div_mul_right_comm (Nat.gcd_dvd_left T L)]
      rfl
    refine ⟨nI (Nat.lcm T L), ⟨Nat.lcm T L, ⟨Nat.lcm_pos t0 hL.1, Nat.lcm_dvd t1 (dvd16 L (by omega) hL.1), fun M => ?_⟩, rfl⟩, ?_⟩
    · constructor
      · intro h
        exact Nat.lcm_dvd ((t2 M).mp fun p hp => h p (by omega)) ((rlen_dvd hL M).mp (h k (by omega)))
      · intro h p hp
        by_cases q : p = k
        · rw [q]
          exact (rlen_dvd hL M).mpr (Nat.dvd_trans (Nat.dvd_lcm_right T L) h)
        · exact (t2 M).mpr (Nat.dvd_trans (Nat.dvd_lcm_left T L) h) p (by omega)
    · show g_X4_timesTillSame_5 Fu (lN (pk n m)) (nI n) (f + 1) (nI T) (nI k) = g_X4_timesTillSame_5 Fu (lN (pk n m)) (nI n) f (nI (Nat.lcm T L)) (nI (k + 1))
      rw [g_X4_timesTillSame_5, if_neg (nI_ge hk (by omega)), x_roundLength h2 hn hm hk hL, some_bind', x_common (by omega) (by omega), some_bind', if_neg (nI_nle hg (by omega)), jgd_k hg (by omega), pk_div (by omega) hg (by omega), pk_mul, nI_1, el]
  · obtain ⟨T, hT, rfl⟩ := hi
    refine ⟨T, hT, ?_⟩
    show g_X4_timesTillSame_5 Fu (lN (pk n m)) (nI n) (f + 1) (nI T) (nI n) = _
    rw [g_X4_timesTillSame_5, if_pos (nI_le (Nat.le_refl n) (by omega))]
theorem m_again {n T : Nat} {m : Nat → Nat} {y deal q} (h2 : 2 ≤ n) (hn : n ≤ 16) (hm : perm n m) (hT : lcmTo m n T) {now : Nat → Int32} (hl : lays n (fun k => k) now) (ring then_ : Nat → Int32)
    (hs : ∀ (o : Nat → Nat) (now ring then_ : Nat → Int32), lays n o now → ∃ b : (Nat → Int32) × (Nat → Int32) × (Nat → Int32), lays n (fun k => o (m k)) b.1 ∧ ∀ (f : Nat) (k : Int32), g_X10_again_22 Fu y (nI n) q deal (f + 1) k (1 : Int32) now ring then_ = (f_X10_isInOrder Fu (nI n) b.1).bind fun b2 => if b2 = (0 : Int32) then g_X10_again_22 Fu y (nI n) q deal f (k + (1 : Int32)) (1 : Int32) b.1 b.2.1 b.2.2 else g_X10_again_22 Fu y (nI n) q deal f (k + (1 : Int32)) (0 : Int32) b.1 b.2.1 b.2.2) : ∃ v, g_X10_again_22 Fu y (nI n) q deal Fu (0 : Int32) (1 : Int32) now ring then_ = some v ∧ v.1 = nI T := by
  have hT7 : T ≤ 720720 := Nat.le_of_dvd (by decide) hT.2.1
  refine for_upR (fun f k (s : Int32 × (Nat → Int32) × (Nat → Int32) × (Nat → Int32)) => g_X10_again_22 Fu y (nI n) q deal f (nI k) s.1 s.2.1 s.2.2.1 s.2.2.2) T (fun k s => s.1 = (if k < T then 1 else 0) ∧ lays n (it m k) s.2.1) (fun r => ∃ v, r = some v ∧ v.1 = nI T) (fun f k s hk hi => Or.inl ?_) (fun f s hi => ⟨(nI T, s.2), ?_, rfl⟩) Fu 0 (1, now, ring, then_) (Nat.zero_le _) (by show T - 0 < 1000000; omega) ⟨by rw [if_pos hT.1], hl⟩
  · obtain ⟨b, hb, e⟩ := hs _ _ s.2.2.1 s.2.2.2 hi.2
    have hb' : lays n (it m (k + 1)) b.1 := hb
    obtain ⟨bl, e2, hbl⟩ := l_isInOrder hn (it_perm hm (k + 1)) hb'
    refine ⟨(if k + 1 < T then 1 else 0, b), ⟨rfl, hb'⟩, ?_⟩
    show g_X10_again_22 Fu y (nI n) q deal (f + 1) (nI k) s.1 s.2.1 s.2.2.1 s.2.2.2 = g_X10_again_22 Fu y (nI n) q deal f (nI (k + 1)) (if k + 1 < T then 1 else 0) b.1 b.2.1 b.2.2
    rw [hi.1, if_pos hk, e, e2, some_bind', nI_1]
    by_cases w : k + 1 < T
    · have : bl = false := by
        cases bl with
        | false => rfl
        | true =>
          have h3 := (hT.2.2 (k + 1)).mp (hbl.mp rfl)
          have := Nat.le_of_dvd (by omega) h3
          omega
      rw [this, if_pos w, if_pos (by decide)]
    · have e4 : k + 1 = T := by omega
      have : bl = true := hbl.mpr ((hT.2.2 (k + 1)).mpr (by rw [e4]; exact Nat.dvd_refl T))
      rw [this, if_neg w, if_neg (by decide)]
  · show g_X10_again_22 Fu y (nI n) q deal (f + 1) (nI T) s.1 s.2.1 s.2.2.1 s.2.2.2 = _
    rw [hi.1, if_neg (by omega), g_X10_again_22, if_pos rfl]
theorem st_again {v_x_order : Int64} {v_x_text_length : Int32} {f_x_text_letters : Nat → Int32} {v_x_laid_cards : Int32} {v_x_laid_colours : Int32} {v_x_laid_acts : Int32} {v_x_laid_deal : Int64} {v_x_past_held : Int32} {f_x_past_stored : Nat → Int64} {v_x_kept_held : Int32} {f_x_kept_stored : Nat → Int64} {v_x_sightings_held : Int32} {f_x_sightings_cards : Nat → Int32} {f_x_sightings_places : Nat → Int32} {v_m_cards : Int32} {v_m_dealMany : Int32} {v_m_acts : Int32} {v_m_keeps : Int32} {v_m_seens : Int32} {v_m_texted : Int32} {f_m_colour : Nat → Int32} {f_m_deal : Nat → Int32} {f_m_st : Nat → Int32} {f_m_was : Nat → Int32} {f_m_kept : Nat → Int32} {f_m_seen : Nat → Int32} {f_m_text : Nat → Int32} {f_m_now : Nat → Int32} {f_m_then : Nat → Int32} {f_m_ring : Nat → Int32} (y1 : Int32) (h : jR v_x_order v_x_text_length f_x_text_letters v_x_laid_cards v_x_laid_colours v_x_laid_acts v_x_laid_deal v_x_past_held f_x_past_stored v_x_kept_held f_x_kept_stored v_x_sightings_held f_x_sightings_cards f_x_sightings_places v_m_cards f_m_colour v_m_dealMany f_m_deal f_m_st v_m_acts f_m_was v_m_keeps f_m_kept v_m_seens f_m_seen f_m_text v_m_texted) : ∃ u v, f_X9_again Fu y1 v_x_laid_cards v_x_laid_deal = some u ∧ f_X10_again Fu y1 v_m_cards v_m_dealMany f_m_deal f_m_now f_m_ring f_m_then = some v ∧ u = v.1 ∧ jR v_x_order v_x_text_length f_x_text_letters v_x_laid_cards v_x_laid_colours v_x_laid_acts v_x_laid_deal v_x_past_held f_x_past_stored v_x_kept_held f_x_kept_stored v_x_sightings_held f_x_sightings_cards f_x_sightings_places v_m_cards f_m_colour v_m_dealMany f_m_deal f_m_st v_m_acts f_m_was v_m_keeps f_m_kept v_m_seens f_m_seen f_m_text v_m_texted := by
  have hh := h
  obtain ⟨n, h2, hn, rfl, rfl, ht, ho, hc, hd, hp, hk, hs⟩ := h
  obtain ⟨q, d, hq, rfl, rfl, hdd, rfl⟩ := hd
  unfold f_X9_again f_X10_again
  obtain ⟨b, g1, g2⟩ := l_lies n f_m_now
  rcases gin_n (lo := 0) (hi := 5) (by omega) (by omega) y1 with ⟨a, _, ha, rfl, e1, e2⟩ | ⟨e0, e1, e2⟩
  · rw [show f_X10_in Fu (nI a) (0 : Int32) (5 : Int32) = some 1 from e2, some_bind', if_neg not10, g1, some_bind']
    by_cases w : a = 5
    · subst w
      have hm := dmv_perm h2 hn q (fun k hk => (hdd k hk).1)
      obtain ⟨T, t1, t2⟩ := x_times h2 hn hm
      obtain ⟨v, v1, v2⟩ := m_again (y := nI 5) (q := nI q) (deal := f_m_deal) h2 hn hm t1 g2 f_m_ring f_m_then (fun o now ring then_ hl => by
        obtain ⟨b3, e3, l3⟩ := l_deals h2 hn hq hdd hl ring then_
        refine ⟨b3, l3, fun f k => ?_⟩
        rw [g_X10_again_22, if_neg (by decide), if_pos (show nI 5 = (5 : Int32) from rfl), e3, some_bind'])
      rw [if_pos (show nI 5 = (5 : Int32) from rfl), t2, v1]
      exact ⟨_, _, rfl, rfl, v2.symm, hh⟩
    · have ha5 : a < 5 := by omega
      have hm := mv_perm h2 hn (show a < 6 + n by omega)
      have n5 : ¬ nI a = (5 : Int32) := fun z => w ((nI_eq (b := 5) (by omega) (by omega)).mp z)
      obtain ⟨T, t1, t2⟩ := x_times h2 hn hm
      obtain ⟨v, v1, v2⟩ := m_again (y := nI a) (q := nI q) (deal := f_m_deal) h2 hn hm t1 g2 f_m_ring f_m_then (fun o now ring then_ hl => by
        obtain ⟨b3, e3, l3⟩ := l_acts h2 hn (show a < 6 + n by omega) hl ring then_
        refine ⟨b3, l3, fun f k => ?_⟩
        rw [g_X10_again_22, if_neg (by decide), if_neg n5, e3, some_bind'])
      have ek : f_X9_isKind Fu (nI a) = some 1 := by
        rcases gkind (nI a) with ⟨_, _, _, e4, _⟩ | ⟨e4, _⟩
        · exact e4
        · exact absurd rfl (e4 a ha5)
      rw [if_neg n5, ek, some_bind', if_neg not10, t_lac n (by omega) h2 a ha5, some_bind', t2, v1]
      exact ⟨_, _, rfl, rfl, v2.symm, hh⟩
  · have ek : f_X9_isKind Fu y1 = some 0 := by
      rcases gkind y1 with ⟨k, hk, r, _⟩ | ⟨_, e4, _⟩
      · exact absurd r (e0 k (by omega) (by omega))
      · exact e4
    rw [show f_X10_in Fu y1 (0 : Int32) (5 : Int32) = some 0 from e2, some_bind', if_pos rfl, if_neg (show ¬ y1 = (5 : Int32) from e0 5 (by omega) (by omega)), ek, some_bind', if_pos rfl]
    exact ⟨_, _, rfl, rfl, rfl, hh⟩
