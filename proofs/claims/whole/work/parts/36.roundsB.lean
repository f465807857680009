/-! how many rounds: the row below 16 decides -/
abbrev fs {α β : Type} (o : Option (α × β)) : Option α := o.map (fun p => p.1)
theorem r58_cg {y n : Int32} {k1 k2 : Int32 → Int32 → Int32 → (Nat → Int32) → (Nat → Int32) → (Nat → Int32) → Option (Int32 × (Nat → Int32) × (Nat → Int32) × (Nat → Int32))} {now c ring r0 then_ t0 : Nat → Int32} (hk : ∀ x2 x3 x4, fs (k1 x2 x3 x4 now ring then_) = fs (k2 x2 x3 x4 c r0 t0)) (hc : ∀ k, k < 16 → now k = c k) : ∀ f x2 x3 x4 x5, fs (g_X10_rounds_58 Fu y n k1 f x2 x3 x4 x5 now ring then_) = fs (g_X10_rounds_58 Fu y n k2 f x2 x3 x4 x5 c r0 t0)
  | 0, _, _, _, _ => rfl
  | f + 1, x2, x3, x4, x5 => by
    rw [g_X10_rounds_58, g_X10_rounds_58]
    by_cases q : jshr x2 x5 &&& 1 = 0
    · rw [if_pos q, if_pos q]
      unfold jgi
      by_cases w : x5 < 0 ∨ 16 ≤ x5.toNatClampNeg
      · rw [if_pos w, if_pos w]
      · rw [if_neg w, if_neg w, hc _ (by omega)]
        exact r58_cg hk hc f _ x3 x4 _
    · rw [if_neg q, if_neg q]
      exact hk x2 x3 (x4 + 1)
theorem r28_cg {y n : Int32} {now c ring r0 then_ t0 : Nat → Int32} (hc : ∀ k, k < 16 → now k = c k) : ∀ f x2 x3 x4, fs (g_X10_rounds_28 Fu y n f x2 x3 x4 now ring then_) = fs (g_X10_rounds_28 Fu y n f x2 x3 x4 c r0 t0)
  | 0, _, _, _ => rfl
  | f + 1, x2, x3, x4 => by
    rw [g_X10_rounds_28, g_X10_rounds_28]
    by_cases q : n ≤ x4
    · rw [if_pos q, if_pos q]
      rfl
    · rw [if_neg q, if_neg q]
      by_cases w : jshr x2 x4 &&& 1 = 0
      · rw [if_pos w, if_pos w]
        exact r58_cg (fun x2 x3 x4 => r28_cg hc f x2 x3 x4) hc _ _ _ _ _
      · rw [if_neg w, if_neg w]
        exact r58_cg (fun x2 x3 x4 => r28_cg hc f x2 x3 x4) hc _ _ _ _ _
def rcOk (n a : Nat) : Bool := match f_X4_roundCount Fu (lN (pk n (mv n a))) (nI n) with
  | some r => decide (fs (g_X10_rounds_28 Fu (nI a) (nI n) Fu (0 : Int32) (0 : Int32) (0 : Int32) (fun k => nI (ex n (mv n a) k)) (fun _ => 0) (fun _ => 0)) = some r)
  | none => false
set_option maxRecDepth 100000 in
theorem rc_ok : ∀ n, n < 17 → 2 ≤ n → ∀ a, a < 5 → rcOk n a = true := by decide +kernel
theorem st_rounds {v_x_order : Int64} {v_x_text_length : Int32} {f_x_text_letters : Nat → Int32} {v_x_laid_cards : Int32} {v_x_laid_colours : Int32} {v_x_laid_acts : Int32} {v_x_laid_deal : Int64} {v_x_past_held : Int32} {f_x_past_stored : Nat → Int64} {v_x_kept_held : Int32} {f_x_kept_stored : Nat → Int64} {v_x_sightings_held : Int32} {f_x_sightings_cards : Nat → Int32} {f_x_sightings_places : Nat → Int32} {v_m_cards : Int32} {v_m_dealMany : Int32} {v_m_acts : Int32} {v_m_keeps : Int32} {v_m_seens : Int32} {v_m_texted : Int32} {f_m_colour : Nat → Int32} {f_m_deal : Nat → Int32} {f_m_st : Nat → Int32} {f_m_was : Nat → Int32} {f_m_kept : Nat → Int32} {f_m_seen : Nat → Int32} {f_m_text : Nat → Int32} {f_m_now : Nat → Int32} {f_m_then : Nat → Int32} {f_m_ring : Nat → Int32} (y1 : Int32) (h : jR v_x_order v_x_text_length f_x_text_letters v_x_laid_cards v_x_laid_colours v_x_laid_acts v_x_laid_deal v_x_past_held f_x_past_stored v_x_kept_held f_x_kept_stored v_x_sightings_held f_x_sightings_cards f_x_sightings_places v_m_cards f_m_colour v_m_dealMany f_m_deal f_m_st v_m_acts f_m_was v_m_keeps f_m_kept v_m_seens f_m_seen f_m_text v_m_texted) : ∃ u v, f_X9_rounds Fu y1 v_x_laid_cards = some u ∧ f_X10_rounds Fu y1 v_m_cards f_m_now f_m_ring f_m_then = some v ∧ u = v.1 ∧ jR v_x_order v_x_text_length f_x_text_letters v_x_laid_cards v_x_laid_colours v_x_laid_acts v_x_laid_deal v_x_past_held f_x_past_stored v_x_kept_held f_x_kept_stored v_x_sightings_held f_x_sightings_cards f_x_sightings_places v_m_cards f_m_colour v_m_dealMany f_m_deal f_m_st v_m_acts f_m_was v_m_keeps f_m_kept v_m_seens f_m_seen f_m_text v_m_texted := by
  have hh := h
  obtain ⟨n, h2, hn, rfl, rfl, ht, ho, hc, hd, hp, hk, hs⟩ := h
  unfold f_X9_rounds f_X10_rounds
  rcases gkind y1 with ⟨a, ha, rfl, e4, e5⟩ | ⟨_, e4, e5⟩
  · obtain ⟨b, g1, g2⟩ := l_lies n f_m_now
    obtain ⟨b3, g3, g4⟩ := l_acts h2 hn (show a < 6 + n by omega) g2 f_m_ring f_m_then
    rw [e4, e5, some_bind', some_bind', if_neg not10, if_neg not10, t_lac n (by omega) h2 a ha, some_bind', g1, some_bind', g3, some_bind']
    have h1 := rc_ok n (by omega) h2 a ha
    have h3 := r28_cg (y := nI a) (n := nI n) (now := b3.1) (c := fun k => nI (ex n (mv n a) k)) (ring := b3.2.1) (r0 := fun _ => 0) (then_ := b3.2.2) (t0 := fun _ => 0) (fun k hk => g4 k hk) Fu 0 0 0
    unfold rcOk at h1
    cases e : f_X4_roundCount Fu (lN (pk n (mv n a))) (nI n) with
    | none =>
      rw [e] at h1
      exact absurd (show false = true from h1) Bool.false_ne_true
    | some r =>
      rw [e] at h1
      have h4 := of_decide_eq_true h1
      rw [h4] at h3
      cases e6 : g_X10_rounds_28 Fu (nI a) (nI n) Fu 0 0 0 b3.1 b3.2.1 b3.2.2 with
      | none =>
        rw [e6] at h3
        cases h3
      | some v =>
        rw [e6] at h3
        exact ⟨_, _, rfl, rfl, (Option.some.inj h3).symm, hh⟩
  · rw [e4, e5, some_bind', some_bind', if_pos rfl, if_pos rfl]
    exact ⟨_, _, rfl, rfl, rfl, hh⟩
