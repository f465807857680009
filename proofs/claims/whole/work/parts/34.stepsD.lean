theorem not01 : ¬ (0 : Int32) = 1 := by decide
theorem st_likely {v_x_order : Int64} {v_x_text_length : Int32} {f_x_text_letters : Nat → Int32} {v_x_laid_cards : Int32} {v_x_laid_colours : Int32} {v_x_laid_acts : Int32} {v_x_laid_deal : Int64} {v_x_past_held : Int32} {f_x_past_stored : Nat → Int64} {v_x_kept_held : Int32} {f_x_kept_stored : Nat → Int64} {v_x_sightings_held : Int32} {f_x_sightings_cards : Nat → Int32} {f_x_sightings_places : Nat → Int32} {v_m_cards : Int32} {v_m_dealMany : Int32} {v_m_acts : Int32} {v_m_keeps : Int32} {v_m_seens : Int32} {v_m_texted : Int32} {f_m_colour : Nat → Int32} {f_m_deal : Nat → Int32} {f_m_st : Nat → Int32} {f_m_was : Nat → Int32} {f_m_kept : Nat → Int32} {f_m_seen : Nat → Int32} {f_m_text : Nat → Int32} {f_m_now : Nat → Int32} {f_m_then : Nat → Int32} {f_m_ring : Nat → Int32} {f_m_goes : Nat → Int32} (y1 : Int32) (y2 : Int32) (y3 : Int32) (y4 : Int32) (y5 : Int32) (h : jR v_x_order v_x_text_length f_x_text_letters v_x_laid_cards v_x_laid_colours v_x_laid_acts v_x_laid_deal v_x_past_held f_x_past_stored v_x_kept_held f_x_kept_stored v_x_sightings_held f_x_sightings_cards f_x_sightings_places v_m_cards f_m_colour v_m_dealMany f_m_deal f_m_st v_m_acts f_m_was v_m_keeps f_m_kept v_m_seens f_m_seen f_m_text v_m_texted) : ∃ u v, f_X9_likely Fu y1 y2 y3 y4 y5 v_x_order v_x_laid_cards = some u ∧ f_X10_likely Fu y1 y2 y3 y4 y5 v_m_cards f_m_st f_m_goes f_m_now f_m_ring f_m_then = some v ∧ u = v.1 ∧ jR v_x_order v_x_text_length f_x_text_letters v_x_laid_cards v_x_laid_colours v_x_laid_acts v_x_laid_deal v_x_past_held f_x_past_stored v_x_kept_held f_x_kept_stored v_x_sightings_held f_x_sightings_cards f_x_sightings_places v_m_cards f_m_colour v_m_dealMany f_m_deal f_m_st v_m_acts f_m_was v_m_keeps f_m_kept v_m_seens f_m_seen f_m_text v_m_texted := by
  have hh := h
  obtain ⟨n, h2, hn, rfl, rfl, ht, ho, hc, hd, hp, hk, hs⟩ := h
  obtain ⟨o, hpm, rfl, hl⟩ := ho.l
  unfold f_X9_likely f_X10_likely
  have bad : ∀ s0 : Int32, (f_X9_isCard Fu y1 (nI n) = some 0 ∨ f_X9_isPlace Fu y2 (nI n) = some 0 ∨ s0 = 0) → g_X9_likely_35 Fu y1 y2 y3 y4 y5 (lN (pk n o)) (nI n) s0 = some (-1) := by
    intro s0 hb
    unfold g_X9_likely_35
    rcases gcard h2 hn y1 with ⟨a, ha, _, e1, _, e3⟩ | ⟨_, e1, _, e3⟩
    · rw [e1, some_bind', if_neg not10]
      rcases gcard h2 hn y2 with ⟨b, hb2, _, _, e5, e6⟩ | ⟨_, _, e5, e6⟩
      · rw [e5, some_bind', if_neg not10]
        rcases hb with hb | hb | hb
        · rw [e1] at hb
          exact absurd (Option.some.inj hb) not10
        · rw [e5] at hb
          exact absurd (Option.some.inj hb) not10
        · rw [if_pos hb]
      · rw [e5, some_bind', if_pos rfl]
    · rw [e1, some_bind', if_pos rfl]
  rcases gcard h2 hn y1 with ⟨a, ha, r1, e1, _, e3⟩ | ⟨_, e1, _, e3⟩
  · rcases gcard h2 hn y2 with ⟨q, hq, r2, _, e5, e6⟩ | ⟨_, _, e5, e6⟩
    · rw [e3, some_bind', if_neg not10, e6, some_bind', if_neg not10]
      rcases gin_n (lo := 0) (hi := 5) (by omega) (by omega) y3 with ⟨m, _, hm, r3, f1, f2⟩ | ⟨_, f1, f2⟩
      · rw [show f_X9_within Fu y3 (0 : Int32) (5 : Int32) = some 1 from f1, show f_X10_in Fu y3 (0 : Int32) (5 : Int32) = some 1 from f2, some_bind', some_bind', if_neg not10, if_neg not10]
        rcases gin_n (lo := 0) (hi := 10) (by omega) (by omega) y4 with ⟨x, _, hx, r4, f3, f4⟩ | ⟨_, f3, f4⟩
        · rw [show f_X9_within Fu y4 (0 : Int32) (10 : Int32) = some 1 from f3, show f_X10_in Fu y4 (0 : Int32) (10 : Int32) = some 1 from f4, some_bind', some_bind', if_neg not10, if_neg not10]
          rcases gin_n (lo := 0) (hi := 1) (by omega) (by omega) y5 with ⟨z, _, hz, r5, f5, f6⟩ | ⟨_, f5, f6⟩
          · rw [show f_X9_within Fu y5 (0 : Int32) (1 : Int32) = some 1 from f5, show f_X10_in Fu y5 (0 : Int32) (1 : Int32) = some 1 from f6, some_bind', some_bind', if_neg not10, if_neg not10]
            subst r1 r2 r3 r4
            obtain ⟨p, p1, p2⟩ := perm_onto hpm ha
            obtain ⟨b6, g1, g2⟩ := m_findGoes h2 hn f_m_goes f_m_now f_m_ring f_m_then
            obtain ⟨b7, g3, g4⟩ := l_asItIs hl b6.2.1
            have hb := abW_le (n := n) (p := p) (q := q) hm hx (2 ^ m)
            have hb2 : 2 ^ m ≤ 32 := Nat.le_trans (Nat.pow_le_pow_right (by omega) hm) (by decide)
            have hb3 : 10 ^ m ≤ 100000 := Nat.le_trans (Nat.pow_le_pow_right (by omega) hm) (by decide)
            obtain ⟨w, w1, w2⟩ := s_low (a := abW n p m x q (2 ^ m)) (b := 10 ^ m) y5 (by omega) (Nat.pow_pos (by omega)) (by omega)
            unfold g_X9_likely_35
            rw [e1, some_bind', if_neg not10, e5, some_bind', if_neg not10, if_neg not10, x_placeOf hn hpm p1 p2, some_bind', x_likely h2 hn p1 hq hm hx, w1, g1, some_bind', g3, some_bind', l_placeOf hn hpm g4 p1 p2, some_bind', m_likely h2 hn p1 hq hm hx g2, w2]
            exact ⟨_, _, rfl, rfl, rfl, hh⟩
          · rw [show f_X9_within Fu y5 (0 : Int32) (1 : Int32) = some 0 from f5, show f_X10_in Fu y5 (0 : Int32) (1 : Int32) = some 0 from f6, some_bind', some_bind', if_pos rfl, if_pos rfl, bad 0 (Or.inr (Or.inr rfl))]
            exact ⟨_, _, rfl, rfl, rfl, hh⟩
        · rw [show f_X9_within Fu y4 (0 : Int32) (10 : Int32) = some 0 from f3, show f_X10_in Fu y4 (0 : Int32) (10 : Int32) = some 0 from f4, some_bind', some_bind', if_pos rfl, if_pos rfl, bad 0 (Or.inr (Or.inr rfl))]
          exact ⟨_, _, rfl, rfl, rfl, hh⟩
      · rw [show f_X9_within Fu y3 (0 : Int32) (5 : Int32) = some 0 from f1, show f_X10_in Fu y3 (0 : Int32) (5 : Int32) = some 0 from f2, some_bind', some_bind', if_pos rfl, if_pos rfl, bad 0 (Or.inr (Or.inr rfl))]
        exact ⟨_, _, rfl, rfl, rfl, hh⟩
    · rw [e3, some_bind', if_neg not10, e6, some_bind', if_pos rfl]
      rcases gin_n (lo := 0) (hi := 5) (by omega) (by omega) y3 with ⟨m, _, hm, r3, f1, f2⟩ | ⟨_, f1, f2⟩
      · rw [show f_X9_within Fu y3 (0 : Int32) (5 : Int32) = some 1 from f1, some_bind', if_neg not10]
        rcases gin_n (lo := 0) (hi := 10) (by omega) (by omega) y4 with ⟨x, _, hx, r4, f3, f4⟩ | ⟨_, f3, f4⟩
        · rw [show f_X9_within Fu y4 (0 : Int32) (10 : Int32) = some 1 from f3, some_bind', if_neg not10]
          rcases gin_n (lo := 0) (hi := 1) (by omega) (by omega) y5 with ⟨z, _, hz, r5, f5, f6⟩ | ⟨_, f5, f6⟩
          · rw [show f_X9_within Fu y5 (0 : Int32) (1 : Int32) = some 1 from f5, some_bind', if_neg not10, bad 1 (Or.inr (Or.inl e5))]
            exact ⟨_, _, rfl, rfl, rfl, hh⟩
          · rw [show f_X9_within Fu y5 (0 : Int32) (1 : Int32) = some 0 from f5, some_bind', if_pos rfl, bad 0 (Or.inr (Or.inr rfl))]
            exact ⟨_, _, rfl, rfl, rfl, hh⟩
        · rw [show f_X9_within Fu y4 (0 : Int32) (10 : Int32) = some 0 from f3, some_bind', if_pos rfl, bad 0 (Or.inr (Or.inr rfl))]
          exact ⟨_, _, rfl, rfl, rfl, hh⟩
      · rw [show f_X9_within Fu y3 (0 : Int32) (5 : Int32) = some 0 from f1, some_bind', if_pos rfl, bad 0 (Or.inr (Or.inr rfl))]
        exact ⟨_, _, rfl, rfl, rfl, hh⟩
  · rw [e3, some_bind', if_pos rfl]
    rcases gin_n (lo := 0) (hi := 5) (by omega) (by omega) y3 with ⟨m, _, hm, r3, f1, f2⟩ | ⟨_, f1, f2⟩
    · rw [show f_X9_within Fu y3 (0 : Int32) (5 : Int32) = some 1 from f1, some_bind', if_neg not10]
      rcases gin_n (lo := 0) (hi := 10) (by omega) (by omega) y4 with ⟨x, _, hx, r4, f3, f4⟩ | ⟨_, f3, f4⟩
      · rw [show f_X9_within Fu y4 (0 : Int32) (10 : Int32) = some 1 from f3, some_bind', if_neg not10]
        rcases gin_n (lo := 0) (hi := 1) (by omega) (by omega) y5 with ⟨z, _, hz, r5, f5, f6⟩ | ⟨_, f5, f6⟩
        · rw [show f_X9_within Fu y5 (0 : Int32) (1 : Int32) = some 1 from f5, some_bind', if_neg not10, bad 1 (Or.inl e1)]
          exact ⟨_, _, rfl, rfl, rfl, hh⟩
        · rw [show f_X9_within Fu y5 (0 : Int32) (1 : Int32) = some 0 from f5, some_bind', if_pos rfl, bad 0 (Or.inr (Or.inr rfl))]
          exact ⟨_, _, rfl, rfl, rfl, hh⟩
      · rw [show f_X9_within Fu y4 (0 : Int32) (10 : Int32) = some 0 from f3, some_bind', if_pos rfl, bad 0 (Or.inr (Or.inr rfl))]
        exact ⟨_, _, rfl, rfl, rfl, hh⟩
    · rw [show f_X9_within Fu y3 (0 : Int32) (5 : Int32) = some 0 from f1, some_bind', if_pos rfl, bad 0 (Or.inr (Or.inr rfl))]
      exact ⟨_, _, rfl, rfl, rfl, hh⟩
/-! dealings -/
def drw (z t : Nat) : Nat := (7919 * z + 6151 * t + 1) * (7919 * z + 6151 * t + 1) % 65521 / 2
theorem drw_lt (z t : Nat) : drw z t < 40000 := by
  unfold drw
  have : (7919 * z + 6151 * t + 1) * (7919 * z + 6151 * t + 1) % 65521 < 65521 := Nat.mod_lt _ (by decide)
  omega
def dcode (n d : Nat) : Nat := if d % 7 < 5 then d % 7 else if d % 7 = 5 then 6 + d / 8 % n else 5
theorem dcode_lt {n : Nat} (h2 : 2 ≤ n) (d : Nat) : dcode n d < 6 + n := by
  unfold dcode
  have h1 : d / 8 % n < n := Nat.mod_lt _ (by omega)
  split
  · omega
  · split <;> omega
theorem drw_x {z t : Nat} (hz : z ≤ 9999) (ht : t < 60) : ((jreml (((((7919 : Int64) * (nI z).toInt64) + ((6151 : Int64) * (nI t).toInt64)) + (1 : Int64)) * ((((7919 : Int64) * (nI z).toInt64) + ((6151 : Int64) * (nI t).toInt64)) + (1 : Int64))) (65521 : Int64)) / (2 : Int64)).toInt32 = nI (drw z t) := by
  have e : (((7919 : Int64) * (nI z).toInt64) + ((6151 : Int64) * (nI t).toInt64)) + (1 : Int64) = lN (7919 * z + 6151 * t + 1) := by
    rw [nI_l (by omega), nI_l (by omega)]
    show lN 7919 * lN z + lN 6151 * lN t + lN 1 = _
    rw [show ∀ a b : Nat, lN a * lN b = lN (a * b) from fun a b => (Int64.ofNat_mul a b).symm, show ∀ a b : Nat, lN a * lN b = lN (a * b) from fun a b => (Int64.ofNat_mul a b).symm, show ∀ a b : Nat, lN a + lN b = lN (a + b) from fun a b => (Int64.ofNat_add a b).symm, show ∀ a b : Nat, lN a + lN b = lN (a + b) from fun a b => (Int64.ofNat_add a b).symm]
  rw [e]
  have hb : 7919 * z + 6151 * t + 1 < 80000000 := by omega
  have hs : (7919 * z + 6151 * t + 1) * (7919 * z + 6151 * t + 1) < 80000000 * 80000000 := Nat.mul_lt_mul'' hb hb
  unfold jreml drw
  rw [show ∀ a b : Nat, lN a * lN b = lN (a * b) from fun a b => (Int64.ofNat_mul a b).symm]
  have h3 : (7919 * z + 6151 * t + 1) * (7919 * z + 6151 * t + 1) % 65521 < 65521 := Nat.mod_lt _ (by decide)
  rw [show (65521 : Int64) = lN 65521 from rfl, show (2 : Int64) = lN 2 from rfl, pk_lRem (by omega) (by decide) (by decide), pk_lDiv (by omega) (by decide) (by decide), lN_i]
theorem x_drawOf {z t : Nat} (hz : z ≤ 9999) (ht : t < 60) : f_X9_drawOf Fu (nI z) (nI t) = some (nI (drw z t)) := by
  unfold f_X9_drawOf
  rw [jge_6, jge_2, drw_x hz ht]
theorem x_drawn {n d : Nat} (h2 : 2 ≤ n) (hn : n ≤ 16) (hd : d < 40000) : f_X9_drawnMove Fu (nI d) (nI n) = some (lN (pk n (mv n (dcode n d)))) := by
  unfold f_X9_drawnMove dcode
  rw [jgd_7, show (7 : Int32) = nI 7 from rfl, jrem_n (by omega) (by omega) (by omega)]
  have h1 : d % 7 < 7 := Nat.mod_lt _ (by decide)
  have h3 : d / 8 % n < n := Nat.mod_lt _ (by omega)
  by_cases q : d % 7 < 5
  · rw [if_neg (show ¬ (5 : Int32) ≤ nI (d % 7) from nI_ge (b := 5) q (by omega)), if_pos q, t_lac n (by omega) h2 _ q]
    rfl
  · rw [if_pos (show (5 : Int32) ≤ nI (d % 7) from nI_le (a := 5) (by omega) (by omega)), if_neg q]
    by_cases w : d % 7 = 5
    · rw [if_pos (by rw [w]; rfl), if_pos w, if_neg (nI_nle (by omega) (by omega)), jgd_8, jgd_k (by omega) (by omega), show (8 : Int32) = nI 8 from rfl, pk_div (by omega) (by omega) (by omega), jrem_n (by omega) (by omega) (by omega), t_cut n (by omega) h2 _ h3]
      rfl
    · rw [if_neg (show ¬ nI (d % 7) = (5 : Int32) from fun z => w ((nI_eq (b := 5) (by omega) (by omega)).mp z)), if_neg w, t_turn n (by omega) h2]
      rfl
def dorder (n z : Nat) (o : Nat → Nat) : Nat → Nat → Nat
  | 0 => o
  | t + 1 => fun k => dorder n z o t (mv n (dcode n (drw z t)) k)
theorem dorder_perm {n z : Nat} {o : Nat → Nat} (h2 : 2 ≤ n) (hn : n ≤ 16) (ho : perm n o) : ∀ t, perm n (dorder n z o t)
  | 0 => ho
  | t + 1 => by
    show perm n (fun k => dorder n z o t (mv n (dcode n (drw z t)) k))
    exact perm_comp (dorder_perm h2 hn ho t) (mv_perm h2 hn (dcode_lt h2 _))
/-- what the question asks of the order -/
def dask (n : Nat) (o e P : Nat → Nat) (w : Nat) : Int32 := if w = 0 then nI (e 0) else if w = 1 then nI (fb_ct (fun k => decide (o k = e k)) n) else nI (ris P (n - 1))
theorem x_dealing {n z m w : Nat} {o P : Nat → Nat} (h2 : 2 ≤ n) (hn : n ≤ 16) (hz : z ≤ 9999) (hm : m ≤ 60) (hw : w ≤ 2) (ho : perm n o) (hP : ∀ c, c < n → P c < n ∧ dorder n z o m (P c) = c) : g_X9_dealing_41 Fu (nI z) (nI m) (nI w) (lN (pk n o)) (nI n) Fu (lN (pk n o)) (0 : Int32) = some (dask n o (dorder n z o m) P w) := by
  refine for_up (fun f k s => g_X9_dealing_41 Fu (nI z) (nI m) (nI w) (lN (pk n o)) (nI n) f s (nI k)) m (fun k => lN (pk n (dorder n z o k))) _ (fun f k hk => ?_) (fun f => ?_) Fu 0 (Nat.zero_le _) (fu_lt (by omega))
  · show g_X9_dealing_41 Fu (nI z) (nI m) (nI w) (lN (pk n o)) (nI n) (f + 1) (lN (pk n (dorder n z o k))) (nI k) = g_X9_dealing_41 Fu (nI z) (nI m) (nI w) (lN (pk n o)) (nI n) f (lN (pk n (fun j => dorder n z o k (mv n (dcode n (drw z k)) j)))) (nI (k + 1))
    rw [g_X9_dealing_41, if_neg (nI_ge hk (by omega)), x_drawOf hz (by omega), some_bind', x_drawn h2 hn (drw_lt z k), some_bind', x_moved hn (dorder_perm h2 hn ho k) (mv_perm h2 hn (dcode_lt h2 _)), some_bind', nI_1]
  · show g_X9_dealing_41 Fu (nI z) (nI m) (nI w) (lN (pk n o)) (nI n) (f + 1) (lN (pk n (dorder n z o m))) (nI m) = _
    have hd := dorder_perm (z := z) h2 hn ho m
    rw [g_X9_dealing_41, if_pos (nI_le (Nat.le_refl m) (by omega))]
    unfold dask
    by_cases q : w = 0
    · subst q
      rw [if_pos (show nI 0 = (0 : Int32) from rfl), if_pos rfl, show (0 : Int32) = nI 0 from rfl, x_at hn (hd.lt hn) (by omega)]
      rfl
    · rw [if_neg (nI_ne0 (by omega) (by omega)), if_neg q]
      by_cases q1 : w = 1
      · subst q1
        rw [if_pos (show nI 1 = (1 : Int32) from rfl), if_pos rfl, x_sameCards hn ho hd]
        rfl
      · rw [if_neg (show ¬ nI w = (1 : Int32) from fun z => q1 ((nI_eq (b := 1) (by omega) (by omega)).mp z)), if_neg q1, x_risingRows h2 hn hd hP]
        rfl
theorem m_dealEnd {n w : Nat} {o e P : Nat → Nat} {st now : Nat → Int32} (h2 : 2 ≤ n) (hn : n ≤ 16) (hw : w ≤ 2) (ho : perm n o) (he : perm n e) (hl : lays n o st) (hl2 : lays n e now) (hP : ∀ c, c < n → P c < n ∧ e (P c) = c) (y1 y2 : Int32) (ring then_ : Nat → Int32) : g_X10_dealing_136 Fu y1 y2 (nI w) (nI n) st Fu (0 : Int32) (0 : Int32) now ring then_ = some (dask n o e P w, now, ring, then_) := by
  refine for_up (fun f k s => g_X10_dealing_136 Fu y1 y2 (nI w) (nI n) st f s (nI k) now ring then_) n (fun k => nI (fb_ct (fun k => decide (o k = e k)) k)) _ (fun f k hk => ?_) (fun f => ?_) Fu 0 (Nat.zero_le _) (fu_lt (by omega))
  · show g_X10_dealing_136 Fu y1 y2 (nI w) (nI n) st (f + 1) (nI (fb_ct (fun k => decide (o k = e k)) k)) (nI k) now ring then_ = g_X10_dealing_136 Fu y1 y2 (nI w) (nI n) st f (nI (fb_ct (fun k => decide (o k = e k)) k + (if decide (o k = e k) then 1 else 0))) (nI (k + 1)) now ring then_
    have b1 := ho.1 k hk
    have b2 := he.1 k hk
    rw [g_X10_dealing_136, if_neg (nI_ge hk (by omega)), jgi_n (by omega) (by omega), jgi_n (by omega) (by omega), nI_clamp (by omega), hl.at hn hk, hl2.at hn hk, nI_1 k, nI_1, z_0, nI_add]
    by_cases q : o k = e k
    · rw [if_pos (by rw [q]), decide_eq_true q, if_pos rfl]
    · rw [if_neg (fun z => q ((nI_eq (by omega) (by omega)).mp z).symm), decide_eq_false q]
      rfl
  · show g_X10_dealing_136 Fu y1 y2 (nI w) (nI n) st (f + 1) (nI (fb_ct (fun k => decide (o k = e k)) n)) (nI n) now ring then_ = _
    rw [g_X10_dealing_136, if_pos (nI_le (Nat.le_refl n) (by omega))]
    unfold dask
    by_cases q : w = 0
    · subst q
      rw [if_pos (show nI 0 = (0 : Int32) from rfl), if_pos rfl, show (0 : Int32) = nI 0 from rfl, jgi_n (by omega) (by omega), nI_clamp (by omega), hl2.at hn (by omega)]
    · rw [if_neg (nI_ne0 (by omega) (by omega)), if_neg q]
      by_cases q1 : w = 1
      · subst q1
        rw [if_pos (show nI 1 = (1 : Int32) from rfl), if_pos rfl]
      · rw [if_neg (show ¬ nI w = (1 : Int32) from fun z => q1 ((nI_eq (b := 1) (by omega) (by omega)).mp z)), if_neg q1, l_rising h2 hn he hP hl2]
        rfl
theorem m_dealing {n z m w : Nat} {o P : Nat → Nat} {st now : Nat → Int32} (h2 : 2 ≤ n) (hn : n ≤ 16) (hz : z ≤ 9999) (hm : m ≤ 60) (hw : w ≤ 2) (ho : perm n o) (hl : lays n o st) (hl2 : lays n o now) (hP : ∀ c, c < n → P c < n ∧ dorder n z o m (P c) = c) (ring then_ : Nat → Int32) : ∃ v, g_X10_dealing_39 Fu (nI z) (nI m) (nI w) (nI n) st Fu (0 : Int32) now ring then_ = some v ∧ v.1 = dask n o (dorder n z o m) P w := by
  refine for_upR (fun f k (s : (Nat → Int32) × (Nat → Int32) × (Nat → Int32)) => g_X10_dealing_39 Fu (nI z) (nI m) (nI w) (nI n) st f (nI k) s.1 s.2.1 s.2.2) m (fun k s => lays n (dorder n z o k) s.1) (fun r => ∃ v, r = some v ∧ v.1 = dask n o (dorder n z o m) P w) (fun f k s hk hi => Or.inl ?_) (fun f s hi => ?_) Fu 0 (now, ring, then_) (Nat.zero_le _) (fu_lt (by omega)) hl2
  · have hd := drw_lt z k
    have hc := dcode_lt h2 (drw z k)
    obtain ⟨b, e, hb⟩ := l_acts h2 hn hc hi s.2.1 s.2.2
    refine ⟨b, hb, ?_⟩
    show g_X10_dealing_39 Fu (nI z) (nI m) (nI w) (nI n) st (f + 1) (nI k) s.1 s.2.1 s.2.2 = g_X10_dealing_39 Fu (nI z) (nI m) (nI w) (nI n) st f (nI (k + 1)) b.1 b.2.1 b.2.2
    rw [g_X10_dealing_39, if_neg (nI_ge hk (by omega)), jge_6, jge_2, jgd_7, drw_x hz (by omega), show (7 : Int32) = nI 7 from rfl, jrem_n (by omega) (by omega) (by omega), nI_1]
    have h1 : drw z k % 7 < 7 := Nat.mod_lt _ (by decide)
    have h3 : drw z k / 8 % n < n := Nat.mod_lt _ (by omega)
    unfold dcode at e
    by_cases q : drw z k % 7 < 5
    · rw [if_pos q] at e
      rw [if_neg (show ¬ (5 : Int32) ≤ nI (drw z k % 7) from nI_ge (b := 5) q (by omega)), e, some_bind']
    · rw [if_neg q] at e
      rw [if_pos (show (5 : Int32) ≤ nI (drw z k % 7) from nI_le (a := 5) (by omega) (by omega))]
      by_cases w : drw z k % 7 = 5
      · rw [if_pos w] at e
        rw [if_pos (by rw [w]; rfl), jgd_8, jgd_k (by omega) (by omega), show (8 : Int32) = nI 8 from rfl, pk_div (by omega) (by omega) (by omega), jrem_n (by omega) (by omega) (by omega), z_6, nI_add, e, some_bind']
      · rw [if_neg w] at e
        rw [if_neg (show ¬ nI (drw z k % 7) = (5 : Int32) from fun z => w ((nI_eq (b := 5) (by omega) (by omega)).mp z)), show (5 : Int32) = nI 5 from rfl, e, some_bind']
  · refine ⟨(dask n o (dorder n z o m) P w, s.1, s.2.1, s.2.2), ?_, rfl⟩
    show g_X10_dealing_39 Fu (nI z) (nI m) (nI w) (nI n) st (f + 1) (nI m) s.1 s.2.1 s.2.2 = _
    rw [g_X10_dealing_39, if_pos (nI_le (Nat.le_refl m) (by omega)), m_dealEnd h2 hn hw ho (dorder_perm h2 hn ho m) hl hi hP]
theorem st_dealing {v_x_order : Int64} {v_x_text_length : Int32} {f_x_text_letters : Nat → Int32} {v_x_laid_cards : Int32} {v_x_laid_colours : Int32} {v_x_laid_acts : Int32} {v_x_laid_deal : Int64} {v_x_past_held : Int32} {f_x_past_stored : Nat → Int64} {v_x_kept_held : Int32} {f_x_kept_stored : Nat → Int64} {v_x_sightings_held : Int32} {f_x_sightings_cards : Nat → Int32} {f_x_sightings_places : Nat → Int32} {v_m_cards : Int32} {v_m_dealMany : Int32} {v_m_acts : Int32} {v_m_keeps : Int32} {v_m_seens : Int32} {v_m_texted : Int32} {f_m_colour : Nat → Int32} {f_m_deal : Nat → Int32} {f_m_st : Nat → Int32} {f_m_was : Nat → Int32} {f_m_kept : Nat → Int32} {f_m_seen : Nat → Int32} {f_m_text : Nat → Int32} {f_m_now : Nat → Int32} {f_m_then : Nat → Int32} {f_m_ring : Nat → Int32} (y1 : Int32) (y2 : Int32) (y3 : Int32) (h : jR v_x_order v_x_text_length f_x_text_letters v_x_laid_cards v_x_laid_colours v_x_laid_acts v_x_laid_deal v_x_past_held f_x_past_stored v_x_kept_held f_x_kept_stored v_x_sightings_held f_x_sightings_cards f_x_sightings_places v_m_cards f_m_colour v_m_dealMany f_m_deal f_m_st v_m_acts f_m_was v_m_keeps f_m_kept v_m_seens f_m_seen f_m_text v_m_texted) : ∃ u v, f_X9_dealing Fu y1 y2 y3 v_x_order v_x_laid_cards = some u ∧ f_X10_dealing Fu y1 y2 y3 v_m_cards f_m_st f_m_now f_m_ring f_m_then = some v ∧ u = v.1 ∧ jR v_x_order v_x_text_length f_x_text_letters v_x_laid_cards v_x_laid_colours v_x_laid_acts v_x_laid_deal v_x_past_held f_x_past_stored v_x_kept_held f_x_kept_stored v_x_sightings_held f_x_sightings_cards f_x_sightings_places v_m_cards f_m_colour v_m_dealMany f_m_deal f_m_st v_m_acts f_m_was v_m_keeps f_m_kept v_m_seens f_m_seen f_m_text v_m_texted := by
  have hh := h
  obtain ⟨n, h2, hn, rfl, rfl, ht, ho, hc, hd, hp, hk, hs⟩ := h
  obtain ⟨o, hpm, rfl, hl⟩ := ho.l
  unfold f_X9_dealing f_X10_dealing
  rcases gin_n (lo := 0) (hi := 9999) (by omega) (by omega) y1 with ⟨z, _, hz, rfl, f1, f2⟩ | ⟨_, f1, f2⟩
  · rw [show f_X9_within Fu (nI z) (0 : Int32) (9999 : Int32) = some 1 from f1, show f_X10_in Fu (nI z) (0 : Int32) (9999 : Int32) = some 1 from f2, some_bind', some_bind', if_neg not10, if_neg not10]
    rcases gin_n (lo := 1) (hi := 60) (by omega) (by omega) y2 with ⟨m, hm1, hm, rfl, f3, f4⟩ | ⟨_, f3, f4⟩
    · rw [show f_X9_within Fu (nI m) (1 : Int32) (60 : Int32) = some 1 from f3, show f_X10_in Fu (nI m) (1 : Int32) (60 : Int32) = some 1 from f4, some_bind', some_bind', if_neg not10, if_neg not10]
      rcases gin_n (lo := 0) (hi := 2) (by omega) (by omega) y3 with ⟨w, _, hw, rfl, f5, f6⟩ | ⟨_, f5, f6⟩
      · obtain ⟨P, hP⟩ := places (dorder_perm (z := z) h2 hn hpm m)
        obtain ⟨b4, g1, g2⟩ := l_asItIs hl f_m_now
        obtain ⟨v, v1, v2⟩ := m_dealing h2 hn hz hm hw hpm hl g2 hP f_m_ring f_m_then
        rw [show f_X9_within Fu (nI w) (0 : Int32) (2 : Int32) = some 1 from f5, show f_X10_in Fu (nI w) (0 : Int32) (2 : Int32) = some 1 from f6, some_bind', some_bind', if_neg not10, if_neg not10, x_dealing h2 hn hz hm hw hpm hP, g1, some_bind', v1]
        exact ⟨_, _, rfl, rfl, v2.symm, hh⟩
      · rw [show f_X9_within Fu y3 (0 : Int32) (2 : Int32) = some 0 from f5, show f_X10_in Fu y3 (0 : Int32) (2 : Int32) = some 0 from f6, some_bind', some_bind', if_pos rfl, if_pos rfl]
        exact ⟨_, _, rfl, rfl, rfl, hh⟩
    · rw [show f_X9_within Fu y2 (1 : Int32) (60 : Int32) = some 0 from f3, show f_X10_in Fu y2 (1 : Int32) (60 : Int32) = some 0 from f4, some_bind', some_bind', if_pos rfl, if_pos rfl]
      exact ⟨_, _, rfl, rfl, rfl, hh⟩
  · rw [show f_X9_within Fu y1 (0 : Int32) (9999 : Int32) = some 0 from f1, show f_X10_in Fu y1 (0 : Int32) (9999 : Int32) = some 0 from f2, some_bind', some_bind', if_pos rfl, if_pos rfl]
    exact ⟨_, _, rfl, rfl, rfl, hh⟩
