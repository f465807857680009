/-! the reference's masks -/
theorem pc_top {w n : Nat} (hw : w < 2 ^ n) : ∀ s, pc w (n + s) = pc w n
  | 0 => rfl
  | s + 1 => by
    have e : bt2 w (n + s) = 0 := by
      unfold bt2
      rw [Nat.div_eq_of_lt (Nat.lt_of_lt_of_le hw (Nat.pow_le_pow_right (by decide) (by omega)))]
    show pc w (n + s) + bt2 w (n + s) = _
    rw [e, pc_top hw s, Nat.add_zero]
theorem m_bits {w n : Nat} (hn : n ≤ 16) (hw : w < 2 ^ n) : f_X10_bits Fu (nI w) = some (nI (pc w n)) := by
  have hw16 : w < 2 ^ 16 := Nat.lt_of_lt_of_le hw (Nat.pow_le_pow_right (by decide) hn)
  rw [← pc_top hw (16 - n), show n + (16 - n) = 16 by omega]
  refine for_up (fun f k s => g_X10_bits_4 Fu (nI w) f s (nI k)) 16 (fun k => nI (pc w k)) _ (fun f k hk => ?_) (fun f => ?_) Fu 0 (Nat.zero_le _) (fu_lt (by omega))
  · show g_X10_bits_4 Fu (nI w) (f + 1) (nI (pc w k)) (nI k) = g_X10_bits_4 Fu (nI w) f (nI (pc w k + bt2 w k)) (nI (k + 1))
    rw [g_X10_bits_4, z_16, if_neg (nI_ge hk (by omega)), bit_n (by omega) (by omega), nI_1, nI_add]
    rfl
  · show g_X10_bits_4 Fu (nI w) (f + 1) (nI (pc w 16)) (nI 16) = _
    rw [g_X10_bits_4, if_pos (by decide)]
def oc (o : Nat → Nat) (c w x : Nat) : Nat := if bt2 w x = 1 then o (c - 1 - pc w x) else o (c + (x - pc w x))
abbrev fine (u v : Nat → Nat) (n w : Nat) : Prop := ∀ p, p < n / 2 → ¬ cd u v w (2 * p) = cd u v w (2 * p + 1)
theorem sub_sub_n (c a b : Nat) : nI c - nI a - nI b = nI c - nI (a + b) := by rw [Int32.sub_sub, nI_add]
theorem m_mask {n c w : Nat} {o col : Nat → Nat} {lcol : Int32} {colour st : Nat → Int32} (h2 : 2 ≤ n) (hn : n ≤ 16) (hv : coloured lcol colour col) (ho : perm n o) (hl : lays n o st) (hc : c ≤ n) (hw : w < 2 ^ n) (hwc : pc w n = c) (y2 x3 x4 : Int32) (K : Int32 → Int32 → Int32 → (Nat → Int32) → Option (Int32 × (Nat → Int32))) (then_ : Nat → Int32) : ∃ t, g_X10_sure_62 Fu (nI c) y2 (nI n) colour st K Fu x3 x4 (nI w) (nI c - (1 : Int32)) (nI c) (0 : Int32) then_ = K (x3 + (if decide (fine (uC col o c) (vC col o c) n w) then 1 else 0)) (x4 + (1 : Int32)) (nI (w + 1)) t := by
  have hw16 : w < 2 ^ 16 := Nat.lt_of_lt_of_le hw (Nat.pow_le_pow_right (by decide) hn)
  have pm : ∀ t, t ≤ n → pc w t ≤ c ∧ c ≤ pc w t + (n - t) := fun t ht => by
    have := pc_mono w t (n - t)
    rw [show t + (n - t) = n by omega, hwc] at this
    exact this
  have oc_lt : ∀ x, x < n → oc o c w x < 16 := fun x hx => by
    have h1 := pm (x + 1) (by omega)
    have h3 : pc w (x + 1) = pc w x + bt2 w x := rfl
    have h4 := pc_le w x
    have h5 := bt2_lt w x
    unfold oc
    by_cases q : bt2 w x = 1
    · rw [if_pos q]
      exact ho.lt hn _ (by omega)
    · rw [if_neg q]
      exact ho.lt hn _ (by omega)
  have col_oc : ∀ x, col (oc o c w x) = cd (uC col o c) (vC col o c) w x := fun x => by
    unfold oc cd
    by_cases q : bt2 w x = 1
    · rw [if_pos q, if_pos q]
      rfl
    · rw [if_neg q, if_neg q]
      rfl
  refine for_upR (fun f t (s : Nat → Int32) => g_X10_sure_62 Fu (nI c) y2 (nI n) colour st K f x3 x4 (nI w) (nI c - nI (pc w t + 1)) (nI (c + (t - pc w t))) (nI t) s) n (fun t s => ∀ x, x < t → s x = nI (oc o c w x)) (fun r => ∃ t, r = K (x3 + (if decide (fine (uC col o c) (vC col o c) n w) then 1 else 0)) (x4 + (1 : Int32)) (nI (w + 1)) t) (fun f t s ht hs => Or.inl ?_) (fun f s hs => ⟨s, ?_⟩) Fu 0 then_ (Nat.zero_le _) (fu_lt (by omega)) (fun x hx => absurd hx (by omega))
  · have h1 := pm (t + 1) (by omega)
    have h0 := pm t (by omega)
    have h3 : pc w (t + 1) = pc w t + bt2 w t := rfl
    have h4 := pc_le w t
    have h5 := bt2_lt w t
    refine ⟨upd s t (nI (oc o c w t)), fun x hx => ?_, ?_⟩
    · by_cases q : x = t
      · rw [q, pk_us]
      · rw [pk_un q]
        exact hs x (by omega)
    · show g_X10_sure_62 Fu (nI c) y2 (nI n) colour st K (f + 1) x3 x4 (nI w) (nI c - nI (pc w t + 1)) (nI (c + (t - pc w t))) (nI t) s = g_X10_sure_62 Fu (nI c) y2 (nI n) colour st K f x3 x4 (nI w) (nI c - nI (pc w (t + 1) + 1)) (nI (c + (t + 1 - pc w (t + 1)))) (nI (t + 1)) (upd s t (nI (oc o c w t)))
      have eb : jshr (nI w) (nI t) &&& 1 = nI (bt2 w t) := bit_n (by omega) (by omega)
      rw [g_X10_sure_62, if_neg (nI_ge ht (by omega)), eb, h3]
      unfold oc
      by_cases q : bt2 w t = 1
      · rw [if_pos (show nI (bt2 w t) = (1 : Int32) by rw [q]; rfl), if_pos q]
        unfold g_X10_sure_87
        rw [if_neg (show ¬ (1 : Int32) = 0 by decide), if_neg (show ¬ (1 : Int32) = 0 by decide), show nI c - nI (pc w t + 1) = nI (c - (pc w t + 1)) from pk_sub (by omega), jgi_n (by omega) (by omega), jgi_n (by omega) (by omega), nI_clamp (by omega), nI_clamp (by omega), hl.at hn (show c - (pc w t + 1) < n by omega)]
        unfold g_X10_sure_125
        rw [if_neg (show ¬ (1 : Int32) = 0 by decide), nI_1, ← show nI c - nI (pc w t + 1) = nI (c - (pc w t + 1)) from pk_sub (by omega), show (1 : Int32) = nI 1 from rfl, sub_sub_n, show (0 : Int32) = nI 0 from rfl, nI_add, q, show c - (pc w t + 1) = c - 1 - pc w t by omega, show pc w t + 1 + 1 = pc w t + bt2 w t + 1 by omega, show c + (t - pc w t) + 0 = c + (t + 1 - (pc w t + 1)) by omega, q]
      · have q0 : bt2 w t = 0 := by omega
        rw [if_neg (show ¬ nI (bt2 w t) = (1 : Int32) by rw [q0]; decide), if_neg q]
        unfold g_X10_sure_87
        rw [if_pos (show (0 : Int32) = 0 from rfl), if_pos (show (0 : Int32) = 0 from rfl), jgi_n (by omega) (by omega), jgi_n (by omega) (by omega), nI_clamp (by omega), nI_clamp (by omega), hl.at hn (show c + (t - pc w t) < n by omega)]
        unfold g_X10_sure_125
        rw [if_pos (show (0 : Int32) = 0 from rfl), nI_1, nI_1, show (0 : Int32) = nI 0 from rfl, sub_sub_n, q0, show pc w t + 1 + 0 = pc w t + 0 + 1 by omega, show c + (t - pc w t) + 1 = c + (t + 1 - (pc w t + 0)) by omega]
  · show g_X10_sure_62 Fu (nI c) y2 (nI n) colour st K (f + 1) x3 x4 (nI w) (nI c - nI (pc w n + 1)) (nI (c + (n - pc w n))) (nI n) s = _
    rw [g_X10_sure_62, if_pos (nI_le (Nat.le_refl n) (by omega)), m_unlike (o := oc o c w) hv h2 hn oc_lt hs, some_bind', jgd_2, show nI n / (2 : Int32) = nI (n / 2) from half_n (by omega), nI_1]
    have hu : un col (oc o c w) (n / 2) ≤ n / 2 := fb_ct_le _ _
    have hf : un col (oc o c w) (n / 2) = n / 2 ↔ fine (uC col o c) (vC col o c) n w := by
      unfold un
      rw [fb_ct_all]
      simp only [decide_eq_true_eq, col_oc]
    by_cases q : fine (uC col o c) (vC col o c) n w
    · rw [if_pos (by rw [hf.mpr q]), if_pos (decide_eq_true q)]
    · rw [if_neg (fun z => q (hf.mp ((nI_eq (by omega) (by omega)).mp z))), if_neg (fun z => q (of_decide_eq_true z))]
theorem m_sure {n c : Nat} {o col : Nat → Nat} {lcol : Int32} {colour st : Nat → Int32} (h2 : 2 ≤ n) (hn : n ≤ 16) (hv : coloured lcol colour col) (ho : perm n o) (hl : lays n o st) (hc : c ≤ n) (y2 : Int32) (then_ : Nat → Int32) : ∃ t, g_X10_sure_31 Fu (nI c) y2 (nI n) colour st Fu (0 : Int32) (0 : Int32) (0 : Int32) then_ = (f_X10_lowest Fu (nI (goodW (uC col o c) (vC col o c) n c)) (nI (allW n c)) y2).bind fun b1 => some (b1, t) := by
  have hp : 2 ^ n ≤ 2 ^ 16 := Nat.pow_le_pow_right (by decide) hn
  refine for_upR (fun f w (s : Int32 × Int32 × (Nat → Int32)) => g_X10_sure_31 Fu (nI c) y2 (nI n) colour st f s.1 s.2.1 (nI w) s.2.2) (2 ^ n) (fun w s => s.1 = nI (fb_ct (fun w => decide (pc w n = c ∧ ∀ p, p < n / 2 → ¬ cd (uC col o c) (vC col o c) w (2 * p) = cd (uC col o c) (vC col o c) w (2 * p + 1))) w) ∧ s.2.1 = nI (fb_ct (fun w => decide (pc w n = c)) w)) (fun r => ∃ t, r = (f_X10_lowest Fu (nI (goodW (uC col o c) (vC col o c) n c)) (nI (allW n c)) y2).bind fun b1 => some (b1, t)) (fun f w s hw hs => Or.inl ?_) (fun f s hs => ⟨s.2.2, ?_⟩) Fu 0 (0, 0, then_) (Nat.zero_le _) (fu_lt (by omega)) ⟨rfl, rfl⟩
  · obtain ⟨g, a, th⟩ := s
    obtain ⟨e1, e2⟩ := hs
    dsimp only at e1 e2
    show ∃ s' : Int32 × Int32 × (Nat → Int32), _ ∧ g_X10_sure_31 Fu (nI c) y2 (nI n) colour st (f + 1) g a (nI w) th = _
    rw [g_X10_sure_31, jshl_n (by omega), if_neg (nI_ge hw (by omega)), m_bits hn hw, some_bind', fb_ct_succ, fb_ct_succ]
    have pl := pc_le w n
    by_cases q : pc w n = c
    · obtain ⟨t, et⟩ := m_mask h2 hn hv ho hl hc hw q y2 g a (fun qx3 qx4 qx5 qf_o_then => g_X10_sure_31 Fu (nI c) y2 (nI n) colour st f qx3 qx4 qx5 qf_o_then) th
      rw [if_pos (show nI (pc w n) = nI c by rw [q]), et]
      refine ⟨(g + (if decide (fine (uC col o c) (vC col o c) n w) then 1 else 0), a + 1, t), ⟨?_, ?_⟩, rfl⟩
      · dsimp only
        rw [e1]
        by_cases v : fine (uC col o c) (vC col o c) n w
        · rw [if_pos (decide_eq_true v), if_pos (decide_eq_true ⟨q, v⟩), nI_1]
        · rw [if_neg (fun z => v (of_decide_eq_true z)), if_neg (fun z => v (of_decide_eq_true z).2), Int32.add_zero]
          rfl
      · dsimp only
        rw [e2, if_pos (decide_eq_true q), nI_1]
    · rw [if_neg (show ¬ nI (pc w n) = nI c from fun z => q ((nI_eq (by omega) (by omega)).mp z)), nI_1]
      refine ⟨(g, a, th), ⟨?_, ?_⟩, rfl⟩
      · dsimp only
        rw [e1, if_neg (fun z => q (of_decide_eq_true z).1)]
        rfl
      · dsimp only
        rw [e2, if_neg (fun z => q (of_decide_eq_true z))]
        rfl
  · obtain ⟨g, a, th⟩ := s
    obtain ⟨e1, e2⟩ := hs
    dsimp only at e1 e2
    subst e1 e2
    show g_X10_sure_31 Fu (nI c) y2 (nI n) colour st (f + 1) _ _ (nI (2 ^ n)) th = _
    rw [g_X10_sure_31, jshl_n (by omega), if_pos (nI_le (Nat.le_refl _) (by omega))]
    rfl
theorem st_sure {v_x_order : Int64} {v_x_text_length : Int32} {f_x_text_letters : Nat → Int32} {v_x_laid_cards : Int32} {v_x_laid_colours : Int32} {v_x_laid_acts : Int32} {v_x_laid_deal : Int64} {v_x_past_held : Int32} {f_x_past_stored : Nat → Int64} {v_x_kept_held : Int32} {f_x_kept_stored : Nat → Int64} {v_x_sightings_held : Int32} {f_x_sightings_cards : Nat → Int32} {f_x_sightings_places : Nat → Int32} {f_x_mix_ways : Nat → Int32} {v_m_cards : Int32} {v_m_dealMany : Int32} {v_m_acts : Int32} {v_m_keeps : Int32} {v_m_seens : Int32} {v_m_texted : Int32} {f_m_colour : Nat → Int32} {f_m_deal : Nat → Int32} {f_m_st : Nat → Int32} {f_m_was : Nat → Int32} {f_m_kept : Nat → Int32} {f_m_seen : Nat → Int32} {f_m_text : Nat → Int32} {f_m_then : Nat → Int32} (y1 : Int32) (y2 : Int32) (h : jR v_x_order v_x_text_length f_x_text_letters v_x_laid_cards v_x_laid_colours v_x_laid_acts v_x_laid_deal v_x_past_held f_x_past_stored v_x_kept_held f_x_kept_stored v_x_sightings_held f_x_sightings_cards f_x_sightings_places v_m_cards f_m_colour v_m_dealMany f_m_deal f_m_st v_m_acts f_m_was v_m_keeps f_m_kept v_m_seens f_m_seen f_m_text v_m_texted) : ∃ u v, f_X9_sure Fu y1 y2 v_x_order v_x_laid_cards v_x_laid_colours f_x_mix_ways = some u ∧ f_X10_sure Fu y1 y2 v_m_cards f_m_colour f_m_st f_m_then = some v ∧ u.1 = v.1 ∧ jR v_x_order v_x_text_length f_x_text_letters v_x_laid_cards v_x_laid_colours v_x_laid_acts v_x_laid_deal v_x_past_held f_x_past_stored v_x_kept_held f_x_kept_stored v_x_sightings_held f_x_sightings_cards f_x_sightings_places v_m_cards f_m_colour v_m_dealMany f_m_deal f_m_st v_m_acts f_m_was v_m_keeps f_m_kept v_m_seens f_m_seen f_m_text v_m_texted := by
  have hh := h
  obtain ⟨n, h2, hn, rfl, rfl, ht, ho, hc, hd, hp, hk, hs⟩ := h
  obtain ⟨o, hpm, rfl, hl⟩ := ho.l
  obtain ⟨col, hv⟩ := hc.v
  unfold f_X9_sure f_X10_sure
  rcases gin_n (lo := 0) (hi := n) (by omega) (by omega) y1 with ⟨c, _, hcn, rfl, e1, e2⟩ | ⟨_, e1, e2⟩
  · rw [show f_X9_within Fu (nI c) (0 : Int32) (nI n) = some 1 from e1, show f_X10_in Fu (nI c) (0 : Int32) (nI n) = some 1 from e2, some_bind', some_bind', if_neg not10, if_neg not10]
    rcases gin_n (lo := 0) (hi := 1) (by omega) (by omega) y2 with ⟨z, _, hz, rfl, e3, e4⟩ | ⟨_, e3, e4⟩
    · rw [show f_X9_within Fu (nI z) (0 : Int32) (1 : Int32) = some 1 from e3, show f_X10_in Fu (nI z) (0 : Int32) (1 : Int32) = some 1 from e4, some_bind', some_bind', if_neg not10, if_neg not10]
      obtain ⟨f', x1⟩ := x_good h2 hn hv hpm hcn f_x_mix_ways
      obtain ⟨t, m1⟩ := m_sure h2 hn hv hpm hl hcn (nI z) f_m_then
      have hpn : 2 ^ n ≤ 65536 := Nat.le_trans (Nat.pow_le_pow_right (by decide) hn) (by decide)
      have hg : goodW (uC col o c) (vC col o c) n c ≤ 2 ^ n := fb_ct_le _ _
      have ha : allW n c ≤ 2 ^ n := fb_ct_le _ _
      have ha0 : 0 < allW n c := by
        rw [all_cb]
        exact cb_pos n (by omega) c (by omega)
      obtain ⟨w, w1, w2⟩ := s_low (a := goodW (uC col o c) (vC col o c) n c) (b := allW n c) (nI z) (by omega) ha0 (by omega)
      rw [x1, some_bind', x_choices n (by omega) c (by omega), some_bind', ← all_cb, w1, some_bind', m1, w2]
      exact ⟨_, _, rfl, rfl, rfl, hh⟩
    · rw [show f_X9_within Fu y2 (0 : Int32) (1 : Int32) = some 0 from e3, show f_X10_in Fu y2 (0 : Int32) (1 : Int32) = some 0 from e4, some_bind', some_bind', if_pos rfl, if_pos rfl]
      exact ⟨_, _, rfl, rfl, rfl, hh⟩
  · rw [show f_X9_within Fu y1 (0 : Int32) (nI n) = some 0 from e1, show f_X10_in Fu y1 (0 : Int32) (nI n) = some 0 from e2, some_bind', some_bind', if_pos rfl, if_pos rfl]
    exact ⟨_, _, rfl, rfl, rfl, hh⟩
