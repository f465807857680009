theorem st_write {v_x_order : Int64} {v_x_text_length : Int32} {f_x_text_letters : Nat → Int32} {v_x_laid_cards : Int32} {v_x_laid_colours : Int32} {v_x_laid_acts : Int32} {v_x_laid_deal : Int64} {v_x_past_held : Int32} {f_x_past_stored : Nat → Int64} {v_x_kept_held : Int32} {f_x_kept_stored : Nat → Int64} {v_x_sightings_held : Int32} {f_x_sightings_cards : Nat → Int32} {f_x_sightings_places : Nat → Int32} {v_m_cards : Int32} {v_m_dealMany : Int32} {v_m_acts : Int32} {v_m_keeps : Int32} {v_m_seens : Int32} {v_m_texted : Int32} {f_m_colour : Nat → Int32} {f_m_deal : Nat → Int32} {f_m_st : Nat → Int32} {f_m_was : Nat → Int32} {f_m_kept : Nat → Int32} {f_m_seen : Nat → Int32} {f_m_text : Nat → Int32} (y1 : Int32) (h : jR v_x_order v_x_text_length f_x_text_letters v_x_laid_cards v_x_laid_colours v_x_laid_acts v_x_laid_deal v_x_past_held f_x_past_stored v_x_kept_held f_x_kept_stored v_x_sightings_held f_x_sightings_cards f_x_sightings_places v_m_cards f_m_colour v_m_dealMany f_m_deal f_m_st v_m_acts f_m_was v_m_keeps f_m_kept v_m_seens f_m_seen f_m_text v_m_texted) : ∃ u v, f_X9_write Fu y1 v_x_text_length f_x_text_letters = some u ∧ f_X10_write Fu y1 v_m_texted f_m_text = some v ∧ u.1 = v.1 ∧ jR v_x_order u.2.1 u.2.2 v_x_laid_cards v_x_laid_colours v_x_laid_acts v_x_laid_deal v_x_past_held f_x_past_stored v_x_kept_held f_x_kept_stored v_x_sightings_held f_x_sightings_cards f_x_sightings_places v_m_cards f_m_colour v_m_dealMany f_m_deal f_m_st v_m_acts f_m_was v_m_keeps f_m_kept v_m_seens f_m_seen v.2.2 v.2.1 := by
  obtain ⟨n, h2, hn, rfl, rfl, ⟨T, hT, rfl, rfl, hl⟩, ho, hc, hd, hp, hk, hs⟩ := h
  unfold f_X9_write f_X10_write
  rcases gin_n (lo := 32) (hi := 126) (by omega) (by omega) y1 with ⟨c, c1, c2, rfl, e1, e2⟩ | ⟨_, e1, e2⟩
  · rw [show (32 : Int32) = nI 32 from rfl, show (126 : Int32) = nI 126 from rfl, e1, e2, some_bind', some_bind', if_neg not10, if_neg not10]
    unfold f_X8_append
    rw [if_neg (nI_pos (by omega)), z_200, z_1]
    by_cases q : T < 200
    · rw [if_pos (nI_lt q (by omega)), if_neg (fun z => by have := (nI_eq (by omega) (by omega)).mp z; omega), jgi_n q (by omega), jgi_n q (by omega), some_bind', if_neg (show ¬ nI 1 = (0 : Int32) by decide), nI_add, nI_clamp (by omega)]
      refine ⟨_, _, rfl, rfl, rfl, n, h2, hn, rfl, rfl, ⟨T + 1, by omega, rfl, rfl, fun k hk => ?_⟩, ho, hc, hd, hp, hk, hs⟩
      show ∃ c_1, 32 ≤ c_1 ∧ c_1 ≤ 126 ∧ upd f_x_text_letters T (vp_nar .char (jchar (nI c))) k = nI c_1 ∧ upd f_m_text T (nI c) k = nI c_1
      by_cases w : k = T
      · subst w
        rw [pk_us, pk_us]
        refine ⟨c, c1, c2, ?_, rfl⟩
        unfold jchar
        rw [pk_char, pk_tn (by omega), Nat.mod_eq_of_lt (by omega), vp_nar_char]
        exact fb_char (by omega)
      · rw [pk_un w, pk_un w]
        exact hl k (by omega)
    · have : T = 200 := by omega
      subst this
      rw [if_neg (nI_nlt (Nat.le_refl _) (by omega)), some_bind', if_pos rfl, if_pos rfl]
      exact ⟨_, _, rfl, rfl, rfl, n, h2, hn, rfl, rfl, ⟨200, hT, rfl, rfl, hl⟩, ho, hc, hd, hp, hk, hs⟩
  · rw [show (32 : Int32) = nI 32 from rfl, show (126 : Int32) = nI 126 from rfl, e1, e2, some_bind', some_bind', if_pos rfl, if_pos rfl]
    exact ⟨_, _, rfl, rfl, rfl, n, h2, hn, rfl, rfl, ⟨T, hT, rfl, rfl, hl⟩, ho, hc, hd, hp, hk, hs⟩
theorem st_wipe {v_x_order : Int64} {v_x_text_length : Int32} {f_x_text_letters : Nat → Int32} {v_x_laid_cards : Int32} {v_x_laid_colours : Int32} {v_x_laid_acts : Int32} {v_x_laid_deal : Int64} {v_x_past_held : Int32} {f_x_past_stored : Nat → Int64} {v_x_kept_held : Int32} {f_x_kept_stored : Nat → Int64} {v_x_sightings_held : Int32} {f_x_sightings_cards : Nat → Int32} {f_x_sightings_places : Nat → Int32} {v_m_cards : Int32} {v_m_dealMany : Int32} {v_m_acts : Int32} {v_m_keeps : Int32} {v_m_seens : Int32} {v_m_texted : Int32} {f_m_colour : Nat → Int32} {f_m_deal : Nat → Int32} {f_m_st : Nat → Int32} {f_m_was : Nat → Int32} {f_m_kept : Nat → Int32} {f_m_seen : Nat → Int32} {f_m_text : Nat → Int32} (h : jR v_x_order v_x_text_length f_x_text_letters v_x_laid_cards v_x_laid_colours v_x_laid_acts v_x_laid_deal v_x_past_held f_x_past_stored v_x_kept_held f_x_kept_stored v_x_sightings_held f_x_sightings_cards f_x_sightings_places v_m_cards f_m_colour v_m_dealMany f_m_deal f_m_st v_m_acts f_m_was v_m_keeps f_m_kept v_m_seens f_m_seen f_m_text v_m_texted) : ∃ u v, f_X9_wipe Fu v_x_text_length = some u ∧ f_X10_wipe Fu v_m_texted = some v ∧ u.1 = v.1 ∧ jR v_x_order u.2 f_x_text_letters v_x_laid_cards v_x_laid_colours v_x_laid_acts v_x_laid_deal v_x_past_held f_x_past_stored v_x_kept_held f_x_kept_stored v_x_sightings_held f_x_sightings_cards f_x_sightings_places v_m_cards f_m_colour v_m_dealMany f_m_deal f_m_st v_m_acts f_m_was v_m_keeps f_m_kept v_m_seens f_m_seen f_m_text v.2 := by
  obtain ⟨n, h2, hn, rfl, rfl, ⟨T, hT, rfl, rfl, hl⟩, ho, hc, hd, hp, hk, hs⟩ := h
  exact ⟨_, _, rfl, rfl, rfl, n, h2, hn, rfl, rfl, ⟨0, by omega, rfl, rfl, fun k hk => absurd hk (by omega)⟩, ho, hc, hd, hp, hk, hs⟩
theorem st_at {v_x_order : Int64} {v_x_text_length : Int32} {f_x_text_letters : Nat → Int32} {v_x_laid_cards : Int32} {v_x_laid_colours : Int32} {v_x_laid_acts : Int32} {v_x_laid_deal : Int64} {v_x_past_held : Int32} {f_x_past_stored : Nat → Int64} {v_x_kept_held : Int32} {f_x_kept_stored : Nat → Int64} {v_x_sightings_held : Int32} {f_x_sightings_cards : Nat → Int32} {f_x_sightings_places : Nat → Int32} {v_m_cards : Int32} {v_m_dealMany : Int32} {v_m_acts : Int32} {v_m_keeps : Int32} {v_m_seens : Int32} {v_m_texted : Int32} {f_m_colour : Nat → Int32} {f_m_deal : Nat → Int32} {f_m_st : Nat → Int32} {f_m_was : Nat → Int32} {f_m_kept : Nat → Int32} {f_m_seen : Nat → Int32} {f_m_text : Nat → Int32} (y1 : Int32) (h : jR v_x_order v_x_text_length f_x_text_letters v_x_laid_cards v_x_laid_colours v_x_laid_acts v_x_laid_deal v_x_past_held f_x_past_stored v_x_kept_held f_x_kept_stored v_x_sightings_held f_x_sightings_cards f_x_sightings_places v_m_cards f_m_colour v_m_dealMany f_m_deal f_m_st v_m_acts f_m_was v_m_keeps f_m_kept v_m_seens f_m_seen f_m_text v_m_texted) : ∃ u v, f_X9_at Fu y1 v_x_order v_x_laid_cards = some u ∧ f_X10_at Fu y1 v_m_cards f_m_st = some v ∧ u = v ∧ jR v_x_order v_x_text_length f_x_text_letters v_x_laid_cards v_x_laid_colours v_x_laid_acts v_x_laid_deal v_x_past_held f_x_past_stored v_x_kept_held f_x_kept_stored v_x_sightings_held f_x_sightings_cards f_x_sightings_places v_m_cards f_m_colour v_m_dealMany f_m_deal f_m_st v_m_acts f_m_was v_m_keeps f_m_kept v_m_seens f_m_seen f_m_text v_m_texted := by
  have hh := h
  obtain ⟨n, h2, hn, rfl, rfl, ht, ho, hc, hd, hp, hk, hs⟩ := h
  obtain ⟨o, hpm, rfl, hl⟩ := ho.l
  unfold f_X9_at f_X10_at
  rcases gcard h2 hn y1 with ⟨k, hk, rfl, e1, e2, e3⟩ | ⟨_, e1, e2, e3⟩
  · rw [e2, e3, some_bind', some_bind', if_neg not10, if_neg not10, x_at hn (hpm.lt hn) hk, jgi_n (by omega) (by omega), nI_clamp (by omega), hl.at hn hk]
    exact ⟨_, _, rfl, rfl, rfl, hh⟩
  · rw [e2, e3, some_bind', some_bind', if_pos rfl, if_pos rfl]
    exact ⟨_, _, rfl, rfl, rfl, hh⟩
theorem st_where {v_x_order : Int64} {v_x_text_length : Int32} {f_x_text_letters : Nat → Int32} {v_x_laid_cards : Int32} {v_x_laid_colours : Int32} {v_x_laid_acts : Int32} {v_x_laid_deal : Int64} {v_x_past_held : Int32} {f_x_past_stored : Nat → Int64} {v_x_kept_held : Int32} {f_x_kept_stored : Nat → Int64} {v_x_sightings_held : Int32} {f_x_sightings_cards : Nat → Int32} {f_x_sightings_places : Nat → Int32} {v_m_cards : Int32} {v_m_dealMany : Int32} {v_m_acts : Int32} {v_m_keeps : Int32} {v_m_seens : Int32} {v_m_texted : Int32} {f_m_colour : Nat → Int32} {f_m_deal : Nat → Int32} {f_m_st : Nat → Int32} {f_m_was : Nat → Int32} {f_m_kept : Nat → Int32} {f_m_seen : Nat → Int32} {f_m_text : Nat → Int32} {f_m_now : Nat → Int32} (y1 : Int32) (h : jR v_x_order v_x_text_length f_x_text_letters v_x_laid_cards v_x_laid_colours v_x_laid_acts v_x_laid_deal v_x_past_held f_x_past_stored v_x_kept_held f_x_kept_stored v_x_sightings_held f_x_sightings_cards f_x_sightings_places v_m_cards f_m_colour v_m_dealMany f_m_deal f_m_st v_m_acts f_m_was v_m_keeps f_m_kept v_m_seens f_m_seen f_m_text v_m_texted) : ∃ u v, f_X9_where Fu y1 v_x_order v_x_laid_cards = some u ∧ f_X10_where Fu y1 v_m_cards f_m_st f_m_now = some v ∧ u = v.1 ∧ jR v_x_order v_x_text_length f_x_text_letters v_x_laid_cards v_x_laid_colours v_x_laid_acts v_x_laid_deal v_x_past_held f_x_past_stored v_x_kept_held f_x_kept_stored v_x_sightings_held f_x_sightings_cards f_x_sightings_places v_m_cards f_m_colour v_m_dealMany f_m_deal f_m_st v_m_acts f_m_was v_m_keeps f_m_kept v_m_seens f_m_seen f_m_text v_m_texted := by
  have hh := h
  obtain ⟨n, h2, hn, rfl, rfl, ht, ho, hc, hd, hp, hk, hs⟩ := h
  obtain ⟨o, hpm, rfl, hl⟩ := ho.l
  unfold f_X9_where f_X10_where
  rcases gcard h2 hn y1 with ⟨k, hk, rfl, e1, e2, e3⟩ | ⟨_, e1, e2, e3⟩
  · obtain ⟨b, e4, l4⟩ := l_asItIs hl f_m_now
    obtain ⟨p, p1, p2⟩ := perm_onto hpm hk
    rw [e1, e3, some_bind', some_bind', if_neg not10, if_neg not10, x_placeOf hn hpm p1 p2, e4, some_bind', some_bind', l_placeOf hn hpm l4 p1 p2]
    exact ⟨_, _, rfl, rfl, rfl, hh⟩
  · rw [e1, e3, some_bind', some_bind', if_pos rfl, if_pos rfl]
    exact ⟨_, _, rfl, rfl, rfl, hh⟩
theorem st_colour {v_x_order : Int64} {v_x_text_length : Int32} {f_x_text_letters : Nat → Int32} {v_x_laid_cards : Int32} {v_x_laid_colours : Int32} {v_x_laid_acts : Int32} {v_x_laid_deal : Int64} {v_x_past_held : Int32} {f_x_past_stored : Nat → Int64} {v_x_kept_held : Int32} {f_x_kept_stored : Nat → Int64} {v_x_sightings_held : Int32} {f_x_sightings_cards : Nat → Int32} {f_x_sightings_places : Nat → Int32} {v_m_cards : Int32} {v_m_dealMany : Int32} {v_m_acts : Int32} {v_m_keeps : Int32} {v_m_seens : Int32} {v_m_texted : Int32} {f_m_colour : Nat → Int32} {f_m_deal : Nat → Int32} {f_m_st : Nat → Int32} {f_m_was : Nat → Int32} {f_m_kept : Nat → Int32} {f_m_seen : Nat → Int32} {f_m_text : Nat → Int32} (y1 : Int32) (h : jR v_x_order v_x_text_length f_x_text_letters v_x_laid_cards v_x_laid_colours v_x_laid_acts v_x_laid_deal v_x_past_held f_x_past_stored v_x_kept_held f_x_kept_stored v_x_sightings_held f_x_sightings_cards f_x_sightings_places v_m_cards f_m_colour v_m_dealMany f_m_deal f_m_st v_m_acts f_m_was v_m_keeps f_m_kept v_m_seens f_m_seen f_m_text v_m_texted) : ∃ u v, f_X9_colour Fu y1 v_x_laid_cards v_x_laid_colours = some u ∧ f_X10_colour Fu y1 v_m_cards f_m_colour = some v ∧ u = v ∧ jR v_x_order v_x_text_length f_x_text_letters v_x_laid_cards v_x_laid_colours v_x_laid_acts v_x_laid_deal v_x_past_held f_x_past_stored v_x_kept_held f_x_kept_stored v_x_sightings_held f_x_sightings_cards f_x_sightings_places v_m_cards f_m_colour v_m_dealMany f_m_deal f_m_st v_m_acts f_m_was v_m_keeps f_m_kept v_m_seens f_m_seen f_m_text v_m_texted := by
  have hh := h
  obtain ⟨n, h2, hn, rfl, rfl, ht, ho, hc, hd, hp, hk, hs⟩ := h
  unfold f_X9_colour f_X10_colour
  rcases gcard h2 hn y1 with ⟨k, hk, rfl, e1, e2, e3⟩ | ⟨_, e1, e2, e3⟩
  · obtain ⟨v, v4, c1, c2⟩ := hc k (by omega)
    rw [e1, e3, some_bind', some_bind', if_neg not10, if_neg not10, jgi_n (by omega) (by omega), nI_clamp (by omega), c2]
    unfold f_X5_colourOf
    rw [c1]
    exact ⟨_, _, rfl, rfl, rfl, hh⟩
  · rw [e1, e3, some_bind', some_bind', if_pos rfl, if_pos rfl]
    exact ⟨_, _, rfl, rfl, rfl, hh⟩
theorem st_lace {v_x_order : Int64} {v_x_text_length : Int32} {f_x_text_letters : Nat → Int32} {v_x_laid_cards : Int32} {v_x_laid_colours : Int32} {v_x_laid_acts : Int32} {v_x_laid_deal : Int64} {v_x_past_held : Int32} {f_x_past_stored : Nat → Int64} {v_x_kept_held : Int32} {f_x_kept_stored : Nat → Int64} {v_x_sightings_held : Int32} {f_x_sightings_cards : Nat → Int32} {f_x_sightings_places : Nat → Int32} {v_m_cards : Int32} {v_m_dealMany : Int32} {v_m_acts : Int32} {v_m_keeps : Int32} {v_m_seens : Int32} {v_m_texted : Int32} {f_m_colour : Nat → Int32} {f_m_deal : Nat → Int32} {f_m_st : Nat → Int32} {f_m_was : Nat → Int32} {f_m_kept : Nat → Int32} {f_m_seen : Nat → Int32} {f_m_text : Nat → Int32} {f_m_now : Nat → Int32} {f_m_then : Nat → Int32} {f_m_ring : Nat → Int32} (y1 : Int32) (h : jR v_x_order v_x_text_length f_x_text_letters v_x_laid_cards v_x_laid_colours v_x_laid_acts v_x_laid_deal v_x_past_held f_x_past_stored v_x_kept_held f_x_kept_stored v_x_sightings_held f_x_sightings_cards f_x_sightings_places v_m_cards f_m_colour v_m_dealMany f_m_deal f_m_st v_m_acts f_m_was v_m_keeps f_m_kept v_m_seens f_m_seen f_m_text v_m_texted) : ∃ u v, f_X9_lace Fu y1 v_x_laid_cards v_x_order v_x_past_held f_x_past_stored = some u ∧ f_X10_lace Fu y1 v_m_cards v_m_acts f_m_now f_m_ring f_m_st f_m_then f_m_was = some v ∧ u.1 = v.1 ∧ jR u.2.1 v_x_text_length f_x_text_letters v_x_laid_cards v_x_laid_colours v_x_laid_acts v_x_laid_deal u.2.2.1 u.2.2.2 v_x_kept_held f_x_kept_stored v_x_sightings_held f_x_sightings_cards f_x_sightings_places v_m_cards f_m_colour v_m_dealMany f_m_deal v.2.2.2.2.1 v.2.1 v.2.2.2.2.2.2 v_m_keeps f_m_kept v_m_seens f_m_seen f_m_text v_m_texted := by
  have hh := h
  obtain ⟨n, h2, hn, rfl, rfl, ht, ho, hc, hd, hp, hk, hs⟩ := h
  unfold f_X9_lace f_X10_lace
  rcases gkind y1 with ⟨k, hk5, rfl, e1, e2⟩ | ⟨_, e1, e2⟩
  · obtain ⟨u, v, a1, a2, a3, a4, a5⟩ := s_act h2 hn (a := k) (by omega) hp ho f_m_now f_m_ring f_m_then
    rw [e1, e2, some_bind', some_bind', if_neg not10, if_neg not10, t_lac n (by omega) h2 k hk5, some_bind', a1, a2]
    exact ⟨_, _, rfl, rfl, a3, n, h2, hn, rfl, rfl, ht, a4, hc, hd, a5, hk, hs⟩
  · rw [e1, e2, some_bind', some_bind', if_pos rfl, if_pos rfl]
    exact ⟨_, _, rfl, rfl, rfl, hh⟩
theorem st_cut {v_x_order : Int64} {v_x_text_length : Int32} {f_x_text_letters : Nat → Int32} {v_x_laid_cards : Int32} {v_x_laid_colours : Int32} {v_x_laid_acts : Int32} {v_x_laid_deal : Int64} {v_x_past_held : Int32} {f_x_past_stored : Nat → Int64} {v_x_kept_held : Int32} {f_x_kept_stored : Nat → Int64} {v_x_sightings_held : Int32} {f_x_sightings_cards : Nat → Int32} {f_x_sightings_places : Nat → Int32} {v_m_cards : Int32} {v_m_dealMany : Int32} {v_m_acts : Int32} {v_m_keeps : Int32} {v_m_seens : Int32} {v_m_texted : Int32} {f_m_colour : Nat → Int32} {f_m_deal : Nat → Int32} {f_m_st : Nat → Int32} {f_m_was : Nat → Int32} {f_m_kept : Nat → Int32} {f_m_seen : Nat → Int32} {f_m_text : Nat → Int32} {f_m_now : Nat → Int32} {f_m_then : Nat → Int32} {f_m_ring : Nat → Int32} (y1 : Int32) (h : jR v_x_order v_x_text_length f_x_text_letters v_x_laid_cards v_x_laid_colours v_x_laid_acts v_x_laid_deal v_x_past_held f_x_past_stored v_x_kept_held f_x_kept_stored v_x_sightings_held f_x_sightings_cards f_x_sightings_places v_m_cards f_m_colour v_m_dealMany f_m_deal f_m_st v_m_acts f_m_was v_m_keeps f_m_kept v_m_seens f_m_seen f_m_text v_m_texted) : ∃ u v, f_X9_cut Fu y1 v_x_laid_cards v_x_order v_x_past_held f_x_past_stored = some u ∧ f_X10_cut Fu y1 v_m_cards v_m_acts f_m_now f_m_ring f_m_st f_m_then f_m_was = some v ∧ u.1 = v.1 ∧ jR u.2.1 v_x_text_length f_x_text_letters v_x_laid_cards v_x_laid_colours v_x_laid_acts v_x_laid_deal u.2.2.1 u.2.2.2 v_x_kept_held f_x_kept_stored v_x_sightings_held f_x_sightings_cards f_x_sightings_places v_m_cards f_m_colour v_m_dealMany f_m_deal v.2.2.2.2.1 v.2.1 v.2.2.2.2.2.2 v_m_keeps f_m_kept v_m_seens f_m_seen f_m_text v_m_texted := by
  have hh := h
  obtain ⟨n, h2, hn, rfl, rfl, ht, ho, hc, hd, hp, hk, hs⟩ := h
  unfold f_X9_cut f_X10_cut
  rw [show f_X9_within Fu y1 (0 : Int32) (nI n - (1 : Int32)) = f_X9_isCard Fu y1 (nI n) from by
    rcases gcard h2 hn y1 with ⟨k, hk, rfl, e1, e2, e3⟩ | ⟨_, e1, e2, e3⟩ <;>
    · rw [e1]
      unfold f_X9_isCard at e1
      generalize f_X9_within Fu _ (0 : Int32) (nI n - (1 : Int32)) = w at e1
      cases w with
      | none => exact absurd e1 (by intro z; cases z)
      | some w =>
        rw [some_bind'] at e1
        unfold jgz at e1
        split at e1
        · exact e1
        · cases e1]
  rcases gcard h2 hn y1 with ⟨k, hk16, rfl, e1, e2, e3⟩ | ⟨_, e1, e2, e3⟩
  · obtain ⟨u, v, a1, a2, a3, a4, a5⟩ := s_act h2 hn (a := 6 + k) (by omega) hp ho f_m_now f_m_ring f_m_then
    rw [e1, e3, some_bind', some_bind', if_neg not10, if_neg not10, t_cut n (by omega) h2 k hk16, some_bind', a1, show (6 : Int32) + nI k = nI (6 + k) from by rw [z_6, nI_add], a2]
    exact ⟨_, _, rfl, rfl, a3, n, h2, hn, rfl, rfl, ht, a4, hc, hd, a5, hk, hs⟩
  · rw [e1, e3, some_bind', some_bind', if_pos rfl, if_pos rfl]
    exact ⟨_, _, rfl, rfl, rfl, hh⟩
theorem st_turn {v_x_order : Int64} {v_x_text_length : Int32} {f_x_text_letters : Nat → Int32} {v_x_laid_cards : Int32} {v_x_laid_colours : Int32} {v_x_laid_acts : Int32} {v_x_laid_deal : Int64} {v_x_past_held : Int32} {f_x_past_stored : Nat → Int64} {v_x_kept_held : Int32} {f_x_kept_stored : Nat → Int64} {v_x_sightings_held : Int32} {f_x_sightings_cards : Nat → Int32} {f_x_sightings_places : Nat → Int32} {v_m_cards : Int32} {v_m_dealMany : Int32} {v_m_acts : Int32} {v_m_keeps : Int32} {v_m_seens : Int32} {v_m_texted : Int32} {f_m_colour : Nat → Int32} {f_m_deal : Nat → Int32} {f_m_st : Nat → Int32} {f_m_was : Nat → Int32} {f_m_kept : Nat → Int32} {f_m_seen : Nat → Int32} {f_m_text : Nat → Int32} {f_m_now : Nat → Int32} {f_m_then : Nat → Int32} {f_m_ring : Nat → Int32} (h : jR v_x_order v_x_text_length f_x_text_letters v_x_laid_cards v_x_laid_colours v_x_laid_acts v_x_laid_deal v_x_past_held f_x_past_stored v_x_kept_held f_x_kept_stored v_x_sightings_held f_x_sightings_cards f_x_sightings_places v_m_cards f_m_colour v_m_dealMany f_m_deal f_m_st v_m_acts f_m_was v_m_keeps f_m_kept v_m_seens f_m_seen f_m_text v_m_texted) : ∃ u v, f_X9_turn Fu v_x_laid_cards v_x_order v_x_past_held f_x_past_stored = some u ∧ f_X10_turn Fu v_m_cards v_m_acts f_m_now f_m_ring f_m_st f_m_then f_m_was = some v ∧ u.1 = v.1 ∧ jR u.2.1 v_x_text_length f_x_text_letters v_x_laid_cards v_x_laid_colours v_x_laid_acts v_x_laid_deal u.2.2.1 u.2.2.2 v_x_kept_held f_x_kept_stored v_x_sightings_held f_x_sightings_cards f_x_sightings_places v_m_cards f_m_colour v_m_dealMany f_m_deal v.2.2.2.2.1 v.2.1 v.2.2.2.2.2.2 v_m_keeps f_m_kept v_m_seens f_m_seen f_m_text v_m_texted := by
  obtain ⟨n, h2, hn, rfl, rfl, ht, ho, hc, hd, hp, hk, hs⟩ := h
  unfold f_X9_turn f_X10_turn
  obtain ⟨u, v, a1, a2, a3, a4, a5⟩ := s_act h2 hn (a := 5) (by omega) hp ho f_m_now f_m_ring f_m_then
  rw [t_turn n (by omega) h2, some_bind', a1, show (5 : Int32) = nI 5 from rfl, a2]
  exact ⟨_, _, rfl, rfl, a3, n, h2, hn, rfl, rfl, ht, a4, hc, hd, a5, hk, hs⟩
theorem st_deal {v_x_order : Int64} {v_x_text_length : Int32} {f_x_text_letters : Nat → Int32} {v_x_laid_cards : Int32} {v_x_laid_colours : Int32} {v_x_laid_acts : Int32} {v_x_laid_deal : Int64} {v_x_past_held : Int32} {f_x_past_stored : Nat → Int64} {v_x_kept_held : Int32} {f_x_kept_stored : Nat → Int64} {v_x_sightings_held : Int32} {f_x_sightings_cards : Nat → Int32} {f_x_sightings_places : Nat → Int32} {v_m_cards : Int32} {v_m_dealMany : Int32} {v_m_acts : Int32} {v_m_keeps : Int32} {v_m_seens : Int32} {v_m_texted : Int32} {f_m_colour : Nat → Int32} {f_m_deal : Nat → Int32} {f_m_st : Nat → Int32} {f_m_was : Nat → Int32} {f_m_kept : Nat → Int32} {f_m_seen : Nat → Int32} {f_m_text : Nat → Int32} {f_m_now : Nat → Int32} {f_m_then : Nat → Int32} {f_m_ring : Nat → Int32} (h : jR v_x_order v_x_text_length f_x_text_letters v_x_laid_cards v_x_laid_colours v_x_laid_acts v_x_laid_deal v_x_past_held f_x_past_stored v_x_kept_held f_x_kept_stored v_x_sightings_held f_x_sightings_cards f_x_sightings_places v_m_cards f_m_colour v_m_dealMany f_m_deal f_m_st v_m_acts f_m_was v_m_keeps f_m_kept v_m_seens f_m_seen f_m_text v_m_texted) : ∃ u v, f_X9_deal Fu v_x_laid_cards v_x_laid_deal v_x_order v_x_past_held f_x_past_stored = some u ∧ f_X10_deal Fu v_m_cards v_m_dealMany f_m_deal v_m_acts f_m_now f_m_ring f_m_st f_m_then f_m_was = some v ∧ u.1 = v.1 ∧ jR u.2.1 v_x_text_length f_x_text_letters v_x_laid_cards v_x_laid_colours v_x_laid_acts v_x_laid_deal u.2.2.1 u.2.2.2 v_x_kept_held f_x_kept_stored v_x_sightings_held f_x_sightings_cards f_x_sightings_places v_m_cards f_m_colour v_m_dealMany f_m_deal v.2.2.2.2.1 v.2.1 v.2.2.2.2.2.2 v_m_keeps f_m_kept v_m_seens f_m_seen f_m_text v_m_texted := by
  obtain ⟨n, h2, hn, rfl, rfl, ht, ho, hc, hd, hp, hk, hs⟩ := h
  unfold f_X9_deal
  obtain ⟨u, v, a1, a2, a3, a4, a5⟩ := s_deals h2 hn hd hp ho f_m_now f_m_ring f_m_then
  rw [a1, a2]
  exact ⟨_, _, rfl, rfl, a3, n, h2, hn, rfl, rfl, ht, a4, hc, hd, a5, hk, hs⟩
theorem st_undo {v_x_order : Int64} {v_x_text_length : Int32} {f_x_text_letters : Nat → Int32} {v_x_laid_cards : Int32} {v_x_laid_colours : Int32} {v_x_laid_acts : Int32} {v_x_laid_deal : Int64} {v_x_past_held : Int32} {f_x_past_stored : Nat → Int64} {v_x_kept_held : Int32} {f_x_kept_stored : Nat → Int64} {v_x_sightings_held : Int32} {f_x_sightings_cards : Nat → Int32} {f_x_sightings_places : Nat → Int32} {v_m_cards : Int32} {v_m_dealMany : Int32} {v_m_acts : Int32} {v_m_keeps : Int32} {v_m_seens : Int32} {v_m_texted : Int32} {f_m_colour : Nat → Int32} {f_m_deal : Nat → Int32} {f_m_st : Nat → Int32} {f_m_was : Nat → Int32} {f_m_kept : Nat → Int32} {f_m_seen : Nat → Int32} {f_m_text : Nat → Int32} (h : jR v_x_order v_x_text_length f_x_text_letters v_x_laid_cards v_x_laid_colours v_x_laid_acts v_x_laid_deal v_x_past_held f_x_past_stored v_x_kept_held f_x_kept_stored v_x_sightings_held f_x_sightings_cards f_x_sightings_places v_m_cards f_m_colour v_m_dealMany f_m_deal f_m_st v_m_acts f_m_was v_m_keeps f_m_kept v_m_seens f_m_seen f_m_text v_m_texted) : ∃ u v, f_X9_undo Fu f_x_past_stored v_x_order v_x_past_held = some u ∧ f_X10_undo Fu f_m_was v_m_acts f_m_st = some v ∧ u.1 = v.1 ∧ jR u.2.1 v_x_text_length f_x_text_letters v_x_laid_cards v_x_laid_colours v_x_laid_acts v_x_laid_deal u.2.2 f_x_past_stored v_x_kept_held f_x_kept_stored v_x_sightings_held f_x_sightings_cards f_x_sightings_places v_m_cards f_m_colour v_m_dealMany f_m_deal v.2.2 v.2.1 f_m_was v_m_keeps f_m_kept v_m_seens f_m_seen f_m_text v_m_texted := by
  have hh := h
  obtain ⟨n, h2, hn, rfl, rfl, ht, ho, hc, hd, ⟨t, h8, rfl, rfl, hj⟩, hk, hs⟩ := h
  unfold f_X9_undo f_X10_undo
  by_cases q : t = 0
  · subst q
    rw [if_pos (show nI 0 = (0 : Int32) from rfl), if_pos (show nI 0 = (0 : Int32) from rfl)]
    exact ⟨_, _, rfl, rfl, rfl, hh⟩
  · obtain ⟨a1, a2, a3⟩ := s_take (N := 8) (st := f_m_st) (by omega) (by omega) h8 hj
    rw [if_neg (nI_ne0 (by omega) (by omega)), if_neg (nI_ne0 (by omega) (by omega)), a1, some_bind']
    rw [show f_X10_copies Fu 16 128 (0 : Int32) ((16 : Int32) * (nI t - (1 : Int32))) (16 : Int32) f_m_was f_m_st = some (cp 0 (16 * (t - 1)) 16 f_m_was f_m_st) from a2, some_bind']
    rw [show nI t - (1 : Int32) = nI (t - 1) from by rw [z_1, pk_sub (by omega)]]
    exact ⟨_, _, rfl, rfl, rfl, n, h2, hn, rfl, rfl, ht, a3, hc, hd, ⟨t - 1, by omega, rfl, rfl, fun j hj2 => hj j (by omega)⟩, hk, hs⟩
theorem st_back {v_x_order : Int64} {v_x_text_length : Int32} {f_x_text_letters : Nat → Int32} {v_x_laid_cards : Int32} {v_x_laid_colours : Int32} {v_x_laid_acts : Int32} {v_x_laid_deal : Int64} {v_x_past_held : Int32} {f_x_past_stored : Nat → Int64} {v_x_kept_held : Int32} {f_x_kept_stored : Nat → Int64} {v_x_sightings_held : Int32} {f_x_sightings_cards : Nat → Int32} {f_x_sightings_places : Nat → Int32} {v_m_cards : Int32} {v_m_dealMany : Int32} {v_m_acts : Int32} {v_m_keeps : Int32} {v_m_seens : Int32} {v_m_texted : Int32} {f_m_colour : Nat → Int32} {f_m_deal : Nat → Int32} {f_m_st : Nat → Int32} {f_m_was : Nat → Int32} {f_m_kept : Nat → Int32} {f_m_seen : Nat → Int32} {f_m_text : Nat → Int32} (h : jR v_x_order v_x_text_length f_x_text_letters v_x_laid_cards v_x_laid_colours v_x_laid_acts v_x_laid_deal v_x_past_held f_x_past_stored v_x_kept_held f_x_kept_stored v_x_sightings_held f_x_sightings_cards f_x_sightings_places v_m_cards f_m_colour v_m_dealMany f_m_deal f_m_st v_m_acts f_m_was v_m_keeps f_m_kept v_m_seens f_m_seen f_m_text v_m_texted) : ∃ u v, f_X9_back Fu f_x_kept_stored v_x_order v_x_kept_held v_x_past_held = some u ∧ f_X10_back Fu f_m_kept v_m_acts v_m_keeps f_m_st = some v ∧ u.1 = v.1 ∧ jR u.2.1 v_x_text_length f_x_text_letters v_x_laid_cards v_x_laid_colours v_x_laid_acts v_x_laid_deal u.2.2.2 f_x_past_stored u.2.2.1 f_x_kept_stored v_x_sightings_held f_x_sightings_cards f_x_sightings_places v_m_cards f_m_colour v_m_dealMany f_m_deal v.2.2.2 v.2.1 f_m_was v.2.2.1 f_m_kept v_m_seens f_m_seen f_m_text v_m_texted := by
  have hh := h
  obtain ⟨n, h2, hn, rfl, rfl, ht, ho, hc, hd, hp, ⟨t, h8, rfl, rfl, hj⟩, hs⟩ := h
  unfold f_X9_back f_X10_back
  by_cases q : t = 0
  · subst q
    rw [if_pos (show nI 0 = (0 : Int32) from rfl), if_pos (show nI 0 = (0 : Int32) from rfl)]
    exact ⟨_, _, rfl, rfl, rfl, hh⟩
  · obtain ⟨a1, a2, a3⟩ := s_take (N := 2) (st := f_m_st) (by omega) (by omega) h8 hj
    rw [if_neg (nI_ne0 (by omega) (by omega)), if_neg (nI_ne0 (by omega) (by omega)), a1, some_bind']
    rw [show f_X10_copies Fu 16 32 (0 : Int32) ((16 : Int32) * (nI t - (1 : Int32))) (16 : Int32) f_m_kept f_m_st = some (cp 0 (16 * (t - 1)) 16 f_m_kept f_m_st) from a2, some_bind']
    rw [show nI t - (1 : Int32) = nI (t - 1) from by rw [z_1, pk_sub (by omega)]]
    exact ⟨_, _, rfl, rfl, rfl, n, h2, hn, rfl, rfl, ht, a3, hc, hd, ⟨0, by omega, rfl, rfl, fun j hj2 => absurd hj2 (by omega)⟩, ⟨t - 1, by omega, rfl, rfl, fun j hj2 => hj j (by omega)⟩, hs⟩
theorem st_keep {v_x_order : Int64} {v_x_text_length : Int32} {f_x_text_letters : Nat → Int32} {v_x_laid_cards : Int32} {v_x_laid_colours : Int32} {v_x_laid_acts : Int32} {v_x_laid_deal : Int64} {v_x_past_held : Int32} {f_x_past_stored : Nat → Int64} {v_x_kept_held : Int32} {f_x_kept_stored : Nat → Int64} {v_x_sightings_held : Int32} {f_x_sightings_cards : Nat → Int32} {f_x_sightings_places : Nat → Int32} {v_m_cards : Int32} {v_m_dealMany : Int32} {v_m_acts : Int32} {v_m_keeps : Int32} {v_m_seens : Int32} {v_m_texted : Int32} {f_m_colour : Nat → Int32} {f_m_deal : Nat → Int32} {f_m_st : Nat → Int32} {f_m_was : Nat → Int32} {f_m_kept : Nat → Int32} {f_m_seen : Nat → Int32} {f_m_text : Nat → Int32} (h : jR v_x_order v_x_text_length f_x_text_letters v_x_laid_cards v_x_laid_colours v_x_laid_acts v_x_laid_deal v_x_past_held f_x_past_stored v_x_kept_held f_x_kept_stored v_x_sightings_held f_x_sightings_cards f_x_sightings_places v_m_cards f_m_colour v_m_dealMany f_m_deal f_m_st v_m_acts f_m_was v_m_keeps f_m_kept v_m_seens f_m_seen f_m_text v_m_texted) : ∃ u v, f_X9_keep Fu v_x_order v_x_kept_held f_x_kept_stored = some u ∧ f_X10_keep Fu f_m_st v_m_keeps f_m_kept = some v ∧ u.1 = v.1 ∧ jR v_x_order v_x_text_length f_x_text_letters v_x_laid_cards v_x_laid_colours v_x_laid_acts v_x_laid_deal v_x_past_held f_x_past_stored u.2.1 u.2.2 v_x_sightings_held f_x_sightings_cards f_x_sightings_places v_m_cards f_m_colour v_m_dealMany f_m_deal f_m_st v_m_acts f_m_was v.2.1 v.2.2 v_m_seens f_m_seen f_m_text v_m_texted := by
  have hh := h
  obtain ⟨n, h2, hn, rfl, rfl, ht, ho, hc, hd, hp, ⟨t, h8, rfl, rfl, hj⟩, hs⟩ := h
  unfold f_X9_keep f_X10_keep f_X6_isFull
  by_cases q : t = 2
  · subst q
    rw [if_neg (by decide), some_bind', if_neg (by decide), if_pos (show nI 2 = (2 : Int32) from rfl)]
    exact ⟨_, _, rfl, rfl, rfl, hh⟩
  · rw [ofN, if_pos (nI_lt (show t < 2 by omega) (by omega)), some_bind', if_pos rfl, if_neg (fun z => by rw [z_2] at z; have := (nI_eq (by omega) (by omega)).mp z; omega), x_put6 (by omega) (by omega), some_bind', z_16, pk_mul, z_0, m_copies (by omega) (by omega) (by omega) (by omega), some_bind', z_1, nI_add]
    exact ⟨_, _, rfl, rfl, rfl, n, h2, hn, rfl, rfl, ht, ho, hc, hd, hp, jRp_push (by omega) hj ho, hs⟩
theorem st_count {v_x_order : Int64} {v_x_text_length : Int32} {f_x_text_letters : Nat → Int32} {v_x_laid_cards : Int32} {v_x_laid_colours : Int32} {v_x_laid_acts : Int32} {v_x_laid_deal : Int64} {v_x_past_held : Int32} {f_x_past_stored : Nat → Int64} {v_x_kept_held : Int32} {f_x_kept_stored : Nat → Int64} {v_x_sightings_held : Int32} {f_x_sightings_cards : Nat → Int32} {f_x_sightings_places : Nat → Int32} {v_m_cards : Int32} {v_m_dealMany : Int32} {v_m_acts : Int32} {v_m_keeps : Int32} {v_m_seens : Int32} {v_m_texted : Int32} {f_m_colour : Nat → Int32} {f_m_deal : Nat → Int32} {f_m_st : Nat → Int32} {f_m_was : Nat → Int32} {f_m_kept : Nat → Int32} {f_m_seen : Nat → Int32} {f_m_text : Nat → Int32} (y1 : Int32) (h : jR v_x_order v_x_text_length f_x_text_letters v_x_laid_cards v_x_laid_colours v_x_laid_acts v_x_laid_deal v_x_past_held f_x_past_stored v_x_kept_held f_x_kept_stored v_x_sightings_held f_x_sightings_cards f_x_sightings_places v_m_cards f_m_colour v_m_dealMany f_m_deal f_m_st v_m_acts f_m_was v_m_keeps f_m_kept v_m_seens f_m_seen f_m_text v_m_texted) : ∃ u v, f_X9_count Fu y1 v_x_kept_held v_x_laid_cards v_x_laid_acts v_x_past_held v_x_sightings_held v_x_text_length = some u ∧ f_X10_count Fu y1 v_m_cards v_m_dealMany v_m_acts v_m_keeps v_m_seens v_m_texted = some v ∧ u = v ∧ jR v_x_order v_x_text_length f_x_text_letters v_x_laid_cards v_x_laid_colours v_x_laid_acts v_x_laid_deal v_x_past_held f_x_past_stored v_x_kept_held f_x_kept_stored v_x_sightings_held f_x_sightings_cards f_x_sightings_places v_m_cards f_m_colour v_m_dealMany f_m_deal f_m_st v_m_acts f_m_was v_m_keeps f_m_kept v_m_seens f_m_seen f_m_text v_m_texted := by
  have hh := h
  obtain ⟨n, h2, hn, rfl, rfl, ⟨T, hT, rfl, rfl, hl⟩, ho, hc, ⟨q, d, hq, rfl, rfl, hd⟩, ⟨t, h8, rfl, rfl, hj⟩, ⟨t2, h82, rfl, rfl, hj2⟩, ⟨z, hz, rfl, rfl, hs⟩⟩ := h
  have e : ∃ u, f_X9_count Fu y1 (nI t2) (nI n) (nI q) (nI t) (nI z) (nI T) = some u := by
    unfold f_X9_count
    repeat' split
    all_goals exact ⟨_, rfl⟩
  obtain ⟨u, e⟩ := e
  exact ⟨u, u, e, e, rfl, hh⟩
theorem st_forget {v_x_order : Int64} {v_x_text_length : Int32} {f_x_text_letters : Nat → Int32} {v_x_laid_cards : Int32} {v_x_laid_colours : Int32} {v_x_laid_acts : Int32} {v_x_laid_deal : Int64} {v_x_past_held : Int32} {f_x_past_stored : Nat → Int64} {v_x_kept_held : Int32} {f_x_kept_stored : Nat → Int64} {v_x_sightings_held : Int32} {f_x_sightings_cards : Nat → Int32} {f_x_sightings_places : Nat → Int32} {v_m_cards : Int32} {v_m_dealMany : Int32} {v_m_acts : Int32} {v_m_keeps : Int32} {v_m_seens : Int32} {v_m_texted : Int32} {f_m_colour : Nat → Int32} {f_m_deal : Nat → Int32} {f_m_st : Nat → Int32} {f_m_was : Nat → Int32} {f_m_kept : Nat → Int32} {f_m_seen : Nat → Int32} {f_m_text : Nat → Int32} (h : jR v_x_order v_x_text_length f_x_text_letters v_x_laid_cards v_x_laid_colours v_x_laid_acts v_x_laid_deal v_x_past_held f_x_past_stored v_x_kept_held f_x_kept_stored v_x_sightings_held f_x_sightings_cards f_x_sightings_places v_m_cards f_m_colour v_m_dealMany f_m_deal f_m_st v_m_acts f_m_was v_m_keeps f_m_kept v_m_seens f_m_seen f_m_text v_m_texted) : ∃ u v, f_X9_forget Fu v_x_sightings_held = some u ∧ f_X10_forget Fu v_m_seens = some v ∧ u.1 = v.1 ∧ jR v_x_order v_x_text_length f_x_text_letters v_x_laid_cards v_x_laid_colours v_x_laid_acts v_x_laid_deal v_x_past_held f_x_past_stored v_x_kept_held f_x_kept_stored u.2 f_x_sightings_cards f_x_sightings_places v_m_cards f_m_colour v_m_dealMany f_m_deal f_m_st v_m_acts f_m_was v_m_keeps f_m_kept v.2 f_m_seen f_m_text v_m_texted := by
  obtain ⟨n, h2, hn, rfl, rfl, ht, ho, hc, hd, hp, hk, ⟨z, hz, rfl, rfl, hs⟩⟩ := h
  exact ⟨_, _, rfl, rfl, rfl, n, h2, hn, rfl, rfl, ht, ho, hc, hd, hp, hk, ⟨0, by omega, rfl, rfl, fun k hk => absurd hk (by omega)⟩⟩
theorem st_seen {v_x_order : Int64} {v_x_text_length : Int32} {f_x_text_letters : Nat → Int32} {v_x_laid_cards : Int32} {v_x_laid_colours : Int32} {v_x_laid_acts : Int32} {v_x_laid_deal : Int64} {v_x_past_held : Int32} {f_x_past_stored : Nat → Int64} {v_x_kept_held : Int32} {f_x_kept_stored : Nat → Int64} {v_x_sightings_held : Int32} {f_x_sightings_cards : Nat → Int32} {f_x_sightings_places : Nat → Int32} {v_m_cards : Int32} {v_m_dealMany : Int32} {v_m_acts : Int32} {v_m_keeps : Int32} {v_m_seens : Int32} {v_m_texted : Int32} {f_m_colour : Nat → Int32} {f_m_deal : Nat → Int32} {f_m_st : Nat → Int32} {f_m_was : Nat → Int32} {f_m_kept : Nat → Int32} {f_m_seen : Nat → Int32} {f_m_text : Nat → Int32} (y1 : Int32) (y2 : Int32) (h : jR v_x_order v_x_text_length f_x_text_letters v_x_laid_cards v_x_laid_colours v_x_laid_acts v_x_laid_deal v_x_past_held f_x_past_stored v_x_kept_held f_x_kept_stored v_x_sightings_held f_x_sightings_cards f_x_sightings_places v_m_cards f_m_colour v_m_dealMany f_m_deal f_m_st v_m_acts f_m_was v_m_keeps f_m_kept v_m_seens f_m_seen f_m_text v_m_texted) : ∃ u v, f_X9_seen Fu y1 y2 v_x_laid_cards v_x_sightings_held f_x_sightings_cards f_x_sightings_places = some u ∧ f_X10_seen Fu y1 y2 v_m_cards v_m_seens f_m_seen = some v ∧ u.1 = v.1 ∧ jR v_x_order v_x_text_length f_x_text_letters v_x_laid_cards v_x_laid_colours v_x_laid_acts v_x_laid_deal v_x_past_held f_x_past_stored v_x_kept_held f_x_kept_stored u.2.1 u.2.2.1 u.2.2.2 v_m_cards f_m_colour v_m_dealMany f_m_deal f_m_st v_m_acts f_m_was v_m_keeps f_m_kept v.2.1 v.2.2 f_m_text v_m_texted := by
  have hh := h
  obtain ⟨n, h2, hn, rfl, rfl, ht, ho, hc, hd, hp, hk, ⟨z, hz, rfl, rfl, hs⟩⟩ := h
  unfold f_X9_seen f_X10_seen
  rcases gcard h2 hn y1 with ⟨a, ha, rfl, e1, _, e3⟩ | ⟨_, e1, _, e3⟩
  · rw [e1, e3, some_bind', some_bind', if_neg not10, if_neg not10]
    rcases gcard h2 hn y2 with ⟨b, hb, rfl, _, e5, e6⟩ | ⟨_, _, e5, e6⟩
    · rw [e5, e6, some_bind', some_bind', if_neg not10, if_neg not10]
      unfold f_X7_add
      rw [if_neg (nI_pos (by omega)), z_8]
      by_cases q : z < 8
      · rw [if_pos (nI_lt q (by omega)), if_neg (fun w => by have := (nI_eq (by omega) (by omega)).mp w; omega), jgi_n q (by omega), jgi_n q (by omega), some_bind', if_neg (show ¬ (1 : Int32) = 0 by decide), z_1, z_2, nI_add, pk_mul, nI_add, jgi_n (by omega) (by omega), jgi_n (by omega) (by omega), nI_clamp (by omega), nI_clamp (by omega), nI_clamp (by omega)]
        refine ⟨_, _, rfl, rfl, rfl, n, h2, hn, rfl, rfl, ht, ho, hc, hd, hp, hk, ⟨z + 1, by omega, rfl, rfl, fun k hk2 => ?_⟩⟩
        show ∃ a_1 b_1, a_1 < n ∧ b_1 < n ∧ upd f_x_sightings_cards z (nI a) k = nI a_1 ∧ upd f_x_sightings_places z (nI b) k = nI b_1 ∧ upd (upd f_m_seen (2 * z) (nI a)) (2 * z + 1) (nI b) (2 * k) = nI a_1 ∧ upd (upd f_m_seen (2 * z) (nI a)) (2 * z + 1) (nI b) (2 * k + 1) = nI b_1
        by_cases w : k = z
        · subst w
          rw [pk_us, pk_us, pk_us, pk_un (by omega), pk_us]
          exact ⟨a, b, ha, hb, rfl, rfl, rfl, rfl⟩
        · rw [pk_un w, pk_un w, pk_un (by omega), pk_un (by omega), pk_un (by omega), pk_un (by omega)]
          exact hs k (by omega)
      · have : z = 8 := by omega
        subst this
        rw [if_neg (nI_nlt (Nat.le_refl _) (by omega)), some_bind', if_pos rfl, if_pos rfl]
        exact ⟨_, _, rfl, rfl, rfl, hh⟩
    · rw [e5, e6, some_bind', some_bind', if_pos rfl, if_pos rfl]
      exact ⟨_, _, rfl, rfl, rfl, hh⟩
  · rw [e1, e3, some_bind', some_bind', if_pos rfl, if_pos rfl]
    exact ⟨_, _, rfl, rfl, rfl, hh⟩
theorem st_rising {v_x_order : Int64} {v_x_text_length : Int32} {f_x_text_letters : Nat → Int32} {v_x_laid_cards : Int32} {v_x_laid_colours : Int32} {v_x_laid_acts : Int32} {v_x_laid_deal : Int64} {v_x_past_held : Int32} {f_x_past_stored : Nat → Int64} {v_x_kept_held : Int32} {f_x_kept_stored : Nat → Int64} {v_x_sightings_held : Int32} {f_x_sightings_cards : Nat → Int32} {f_x_sightings_places : Nat → Int32} {v_m_cards : Int32} {v_m_dealMany : Int32} {v_m_acts : Int32} {v_m_keeps : Int32} {v_m_seens : Int32} {v_m_texted : Int32} {f_m_colour : Nat → Int32} {f_m_deal : Nat → Int32} {f_m_st : Nat → Int32} {f_m_was : Nat → Int32} {f_m_kept : Nat → Int32} {f_m_seen : Nat → Int32} {f_m_text : Nat → Int32} {f_m_now : Nat → Int32} (h : jR v_x_order v_x_text_length f_x_text_letters v_x_laid_cards v_x_laid_colours v_x_laid_acts v_x_laid_deal v_x_past_held f_x_past_stored v_x_kept_held f_x_kept_stored v_x_sightings_held f_x_sightings_cards f_x_sightings_places v_m_cards f_m_colour v_m_dealMany f_m_deal f_m_st v_m_acts f_m_was v_m_keeps f_m_kept v_m_seens f_m_seen f_m_text v_m_texted) : ∃ u v, f_X9_rising Fu v_x_order v_x_laid_cards = some u ∧ f_X10_rising Fu v_m_cards f_m_st f_m_now = some v ∧ u = v.1 ∧ jR v_x_order v_x_text_length f_x_text_letters v_x_laid_cards v_x_laid_colours v_x_laid_acts v_x_laid_deal v_x_past_held f_x_past_stored v_x_kept_held f_x_kept_stored v_x_sightings_held f_x_sightings_cards f_x_sightings_places v_m_cards f_m_colour v_m_dealMany f_m_deal f_m_st v_m_acts f_m_was v_m_keeps f_m_kept v_m_seens f_m_seen f_m_text v_m_texted := by
  have hh := h
  obtain ⟨n, h2, hn, rfl, rfl, ht, ho, hc, hd, hp, hk, hs⟩ := h
  obtain ⟨o, hpm, rfl, hl⟩ := ho.l
  unfold f_X9_rising f_X10_rising
  obtain ⟨P, hP⟩ := places hpm
  obtain ⟨b, e4, l4⟩ := l_asItIs hl f_m_now
  rw [x_risingRows h2 hn hpm hP, e4, some_bind', some_bind', l_rising h2 hn hpm hP l4]
  exact ⟨_, _, rfl, rfl, rfl, hh⟩
