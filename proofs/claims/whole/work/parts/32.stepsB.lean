/-! sightings -/
def fitK (A B : Nat → Nat) (z : Nat) (m : Nat → Nat) : Bool := decide (∀ j, j < z → m (B j) = A j)
theorem fitK_succ (A B : Nat → Nat) (z : Nat) (m : Nat → Nat) : fitK A B (z + 1) m = (fitK A B z m && decide (m (B z) = A z)) := by
  unfold fitK
  rw [Bool.eq_iff_iff]
  simp only [Bool.and_eq_true, decide_eq_true_eq]
  refine ⟨fun h => ⟨fun j hj => h j (by omega), h z (by omega)⟩, fun h j hj => ?_⟩
  by_cases q : j = z
  · rw [q]
    exact h.2
  · exact h.1 j (by omega)
def sights (n z : Nat) (A B : Nat → Nat) (sc sp seen : Nat → Int32) : Prop := ∀ j, j < z → A j < n ∧ B j < n ∧ sc j = nI (A j) ∧ sp j = nI (B j) ∧ seen (2 * j) = nI (A j) ∧ seen (2 * j + 1) = nI (B j)
theorem jRs.s {n : Nat} {sh : Int32} {sc sp : Nat → Int32} {seens : Int32} {seen : Nat → Int32} (h : jRs n sh sc sp seens seen) : ∃ z A B, z ≤ 8 ∧ sh = nI z ∧ seens = nI z ∧ sights n z A B sc sp seen := by
  obtain ⟨z, h8, e1, e2, hs⟩ := h
  have ha : ∀ j, ∃ a, j < z → ∃ b, a < n ∧ b < n ∧ sc j = nI a ∧ sp j = nI b ∧ seen (2 * j) = nI a ∧ seen (2 * j + 1) = nI b := fun j => by
    by_cases q : j < z
    · obtain ⟨a, c⟩ := hs j q
      exact ⟨a, fun _ => c⟩
    · exact ⟨0, fun w => absurd w q⟩
  have hb : ∀ j, ∃ b, j < z → Classical.choose (ha j) < n ∧ b < n ∧ sc j = nI (Classical.choose (ha j)) ∧ sp j = nI b ∧ seen (2 * j) = nI (Classical.choose (ha j)) ∧ seen (2 * j + 1) = nI b := fun j => by
    by_cases q : j < z
    · obtain ⟨b, c⟩ := Classical.choose_spec (ha j) q
      exact ⟨b, fun _ => c⟩
    · exact ⟨0, fun w => absurd w q⟩
  exact ⟨z, fun j => Classical.choose (ha j), fun j => Classical.choose (hb j), h8, e1, e2, fun j hj => Classical.choose_spec (hb j) hj⟩
theorem x_fit {n z : Nat} {A B m : Nat → Nat} {sc sp seen : Nat → Int32} (hn : n ≤ 16) (hz : z ≤ 8) (hs : sights n z A B sc sp seen) (hm : perm n m) : f_X7_fit Fu (lN (pk n m)) (nI z) sc sp = some (if fitK A B z m then 1 else 0) := by
  refine for_upR (fun f k (_ : Unit) => g_X7_fit_2 Fu (lN (pk n m)) (nI z) sc sp f (nI k)) z (fun k _ => fitK A B k m = true) (fun r => r = some (if fitK A B z m then 1 else 0)) (fun f k s hk hi => ?_) (fun f s hi => ?_) Fu 0 () (Nat.zero_le _) (fu_lt (by omega)) (by unfold fitK; simp)
  · obtain ⟨a1, a2, a3, a4, _, _⟩ := hs k hk
    have e : g_X7_fit_2 Fu (lN (pk n m)) (nI z) sc sp (f + 1) (nI k) = if nI (m (B k)) = nI (A k) then g_X7_fit_2 Fu (lN (pk n m)) (nI z) sc sp f (nI (k + 1)) else some 0 := by
      rw [g_X7_fit_2, if_neg (nI_ge hk (by omega)), z_8, if_neg (nI_ge (by omega) (by omega)), jgi_n (by omega) (by omega), nI_clamp (by omega), a4, x_at hn (hm.lt hn) a2, some_bind', jgi_n (by omega) (by omega), a3, z_1, nI_add]
    have b := hm.1 _ a2
    by_cases q : m (B k) = A k
    · refine Or.inl ⟨(), ?_, ?_⟩
      · rw [fitK_succ, hi, decide_eq_true q]
        rfl
      · show g_X7_fit_2 Fu (lN (pk n m)) (nI z) sc sp (f + 1) (nI k) = _
        rw [e, if_pos (by rw [q])]
    · refine Or.inr ?_
      show g_X7_fit_2 Fu (lN (pk n m)) (nI z) sc sp (f + 1) (nI k) = _
      rw [e, if_neg (fun w => q ((nI_eq (by omega) (by omega)).mp w))]
      have : ¬ fitK A B z m = true := fun w => q (by unfold fitK at w; exact of_decide_eq_true w k hk)
      rw [if_neg this]
  · show g_X7_fit_2 Fu (lN (pk n m)) (nI z) sc sp (f + 1) (nI z) = _
    rw [g_X7_fit_2, if_pos (nI_le (Nat.le_refl z) (by omega)), if_pos hi]
theorem m_isBy {n z a : Nat} {A B : Nat → Nat} {sc sp seen : Nat → Int32} (h2 : 2 ≤ n) (hn : n ≤ 16) (hz : z ≤ 8) (hs : sights n z A B sc sp seen) (ha : a < 6 + n) (now ring then_ : Nat → Int32) : ∃ b : Int32 × (Nat → Int32) × (Nat → Int32) × (Nat → Int32), f_X10_isBy Fu (nI a) (nI n) (nI z) seen now ring then_ = some b ∧ b.1 = if fitK A B z (mv n a) then 1 else 0 := by
  unfold f_X10_isBy
  obtain ⟨b1, e1, l1⟩ := l_lies n now
  obtain ⟨b2, e2, l2⟩ := l_acts h2 hn ha l1 ring then_
  rw [e1, some_bind', e2, some_bind']
  have hm := mv_perm h2 hn ha
  refine for_up (fun f k (s : Bool) => g_X10_isBy_16 Fu (nI a) (nI n) (nI z) seen f (if s then 1 else 0) (nI k) b2.1 b2.2.1 b2.2.2) z (fun k => fitK A B k (mv n a)) (some (if fitK A B z (mv n a) then 1 else 0, b2.1, b2.2.1, b2.2.2)) (fun f k hk => ?_) (fun f => ?_) Fu 0 (Nat.zero_le _) (fu_lt (by omega)) |> fun h => ⟨_, by rw [show fitK A B 0 (mv n a) = true by unfold fitK; simp] at h; exact h, rfl⟩
  · show g_X10_isBy_16 Fu (nI a) (nI n) (nI z) seen (f + 1) (if fitK A B k (mv n a) then 1 else 0) (nI k) b2.1 b2.2.1 b2.2.2 = g_X10_isBy_16 Fu (nI a) (nI n) (nI z) seen f (if fitK A B (k + 1) (mv n a) then 1 else 0) (nI (k + 1)) b2.1 b2.2.1 b2.2.2
    obtain ⟨a1, a2, _, _, a5, a6⟩ := hs k hk
    have b := hm.1 _ a2
    rw [g_X10_isBy_16, if_neg (nI_ge hk (by omega)), fitK_succ, z_2, pk_mul, z_1, nI_add (2 * k) 1, nI_add k 1, jgi_n (by omega) (by omega), nI_clamp (by omega), nI_clamp (by omega), a6, jgi_n (by omega) (by omega), jgi_n (by omega) (by omega), nI_clamp (by omega), a5, l2.at hn a2]
    cases w : fitK A B k (mv n a)
    · rw [if_pos (by decide)]
      rfl
    · rw [if_neg (by decide)]
      by_cases q : mv n a (B k) = A k
      · rw [if_pos (by rw [q]), decide_eq_true q]
        rfl
      · rw [if_neg (fun w => q ((nI_eq (by omega) (by omega)).mp w)), decide_eq_false q]
        rfl
  · show g_X10_isBy_16 Fu (nI a) (nI n) (nI z) seen (f + 1) (if fitK A B z (mv n a) then 1 else 0) (nI z) b2.1 b2.2.1 b2.2.2 = _
    rw [g_X10_isBy_16, if_pos (nI_le (Nat.le_refl z) (by omega))]
    cases fitK A B z (mv n a)
    · exact jgz_0 _
    · exact jgz_1 _
/-- bits of the numbers that fit -/
def btr (p : Nat → Bool) : Nat → Int32
  | 0 => 0
  | k + 1 => if p k then btr p k ||| jshl 1 (nI k) else btr p k
theorem x_fitCuts {n z : Nat} {A B : Nat → Nat} {sc sp seen : Nat → Int32} (h2 : 2 ≤ n) (hn : n ≤ 16) (hz : z ≤ 8) (hs : sights n z A B sc sp seen) : f_X9_fittingCuts Fu (nI n) (nI z) sc sp = some (btr (fun k => fitK A B z (mv n (6 + k))) n) := by
  refine for_up (fun f k s => g_X9_fittingCuts_4 Fu (nI n) (nI z) sc sp f s (nI k)) n (fun k => btr (fun k => fitK A B z (mv n (6 + k))) k) _ (fun f k hk => ?_) (fun f => ?_) Fu 0 (Nat.zero_le _) (fu_lt (by omega))
  · show g_X9_fittingCuts_4 Fu (nI n) (nI z) sc sp (f + 1) (btr _ k) (nI k) = g_X9_fittingCuts_4 Fu (nI n) (nI z) sc sp f (if fitK A B z (mv n (6 + k)) then btr _ k ||| jshl 1 (nI k) else btr _ k) (nI (k + 1))
    rw [g_X9_fittingCuts_4, if_neg (nI_ge hk (by omega)), t_cut n (by omega) h2 k hk, some_bind', x_fit hn hz hs (mv_perm h2 hn (by omega)), some_bind']
    cases fitK A B z (mv n (6 + k))
    · rw [if_pos (by decide)]
      simp only [nI_1, if_true, if_false, Bool.false_eq_true]
    · rw [if_neg (by decide)]
      simp only [nI_1, if_true, if_false, Bool.false_eq_true]
  · show g_X9_fittingCuts_4 Fu (nI n) (nI z) sc sp (f + 1) (btr _ n) (nI n) = _
    rw [g_X9_fittingCuts_4, if_pos (nI_le (Nat.le_refl n) (by omega))]
theorem x_fitKinds {n z : Nat} {A B : Nat → Nat} {sc sp seen : Nat → Int32} (h2 : 2 ≤ n) (hn : n ≤ 16) (hz : z ≤ 8) (hs : sights n z A B sc sp seen) : f_X9_fittingKinds Fu (nI n) (nI z) sc sp = some (btr (fun k => fitK A B z (mv n k)) 6) := by
  refine for_up (fun f k s => g_X9_fittingKinds_4 Fu (nI n) (nI z) sc sp f s (nI k)) 5 (fun k => btr (fun k => fitK A B z (mv n k)) k) _ (fun f k hk => ?_) (fun f => ?_) Fu 0 (Nat.zero_le _) (fu_lt (by omega))
  · show g_X9_fittingKinds_4 Fu (nI n) (nI z) sc sp (f + 1) (btr _ k) (nI k) = g_X9_fittingKinds_4 Fu (nI n) (nI z) sc sp f (if fitK A B z (mv n k) then btr _ k ||| jshl 1 (nI k) else btr _ k) (nI (k + 1))
    rw [g_X9_fittingKinds_4, z_5, if_neg (nI_ge hk (by omega)), t_lac n (by omega) h2 k hk, some_bind', x_fit hn hz hs (mv_perm h2 hn (by omega)), some_bind']
    cases fitK A B z (mv n k)
    · rw [if_pos (by decide)]
      simp only [nI_1, if_true, if_false, Bool.false_eq_true]
    · rw [if_neg (by decide)]
      simp only [nI_1, if_true, if_false, Bool.false_eq_true]
  · show g_X9_fittingKinds_4 Fu (nI n) (nI z) sc sp (f + 1) (btr _ 5) (nI 5) = some (if fitK A B z (mv n 5) then btr _ 5 ||| jshl 1 (nI 5) else btr _ 5)
    rw [g_X9_fittingKinds_4, if_pos (by decide), t_turn n (by omega) h2, some_bind', x_fit hn hz hs (mv_perm h2 hn (by omega)), some_bind']
    cases fitK A B z (mv n 5)
    · rw [if_pos (by decide)]
      rfl
    · rw [if_neg (by decide)]
      rfl
theorem m_done {n z w e : Nat} {A B : Nat → Nat} {sc sp seen : Nat → Int32} (h2 : 2 ≤ n) (hn : n ≤ 16) (hz : z ≤ 8) (hs : sights n z A B sc sp seen) (hw : w = 0 ∧ e = 6 ∨ w = 1 ∧ e = n) (now ring then_ : Nat → Int32) : ∃ v, g_X10_done_15 Fu (nI w) (nI n) (nI z) seen Fu (0 : Int32) (0 : Int32) now ring then_ = some v ∧ v.1 = btr (fun k => fitK A B z (mv n (6 * w + k))) e := by
  refine for_upR (fun f k (s : Int32 × (Nat → Int32) × (Nat → Int32) × (Nat → Int32)) => g_X10_done_15 Fu (nI w) (nI n) (nI z) seen f s.1 (nI k) s.2.1 s.2.2.1 s.2.2.2) e (fun k s => s.1 = btr (fun k => fitK A B z (mv n (6 * w + k))) k) (fun r => ∃ v, r = some v ∧ v.1 = btr (fun k => fitK A B z (mv n (6 * w + k))) e) (fun f k s hk hi => Or.inl ?_) (fun f s hi => ⟨s, ?_, hi⟩) Fu 0 (0, now, ring, then_) (Nat.zero_le _) (fu_lt (by omega)) rfl
  · obtain ⟨b, e1, e2⟩ := m_isBy (a := 6 * w + k) h2 hn hz hs (by omega) s.2.1 s.2.2.1 s.2.2.2
    refine ⟨(btr (fun k => fitK A B z (mv n (6 * w + k))) (k + 1), b.2.1, b.2.2.1, b.2.2.2), rfl, ?_⟩
    show g_X10_done_15 Fu (nI w) (nI n) (nI z) seen (f + 1) s.1 (nI k) s.2.1 s.2.2.1 s.2.2.2 = g_X10_done_15 Fu (nI w) (nI n) (nI z) seen f (if fitK A B z (mv n (6 * w + k)) then btr _ k ||| jshl 1 (nI k) else btr _ k) (nI (k + 1)) b.2.1 b.2.2.1 b.2.2.2
    rw [hi, g_X10_done_15]
    have tail : g_X10_done_46 Fu (nI w) (nI n) (nI z) seen (fun qx2 qx3 qf_o_now qf_o_ring qf_o_then => g_X10_done_15 Fu (nI w) (nI n) (nI z) seen f qx2 qx3 qf_o_now qf_o_ring qf_o_then) (nI k) (btr (fun k => fitK A B z (mv n (6 * w + k))) k) (nI (6 * w + k)) s.2.1 s.2.2.1 s.2.2.2 = g_X10_done_15 Fu (nI w) (nI n) (nI z) seen f (if fitK A B z (mv n (6 * w + k)) then btr (fun k => fitK A B z (mv n (6 * w + k))) k ||| jshl 1 (nI k) else btr (fun k => fitK A B z (mv n (6 * w + k))) k) (nI (k + 1)) b.2.1 b.2.2.1 b.2.2.2 := by
      unfold g_X10_done_46
      rw [e1, some_bind', e2]
      cases fitK A B z (mv n (6 * w + k))
      · rw [if_pos (by decide), Int32.or_zero]
        simp only [nI_1, if_true, if_false, Bool.false_eq_true]
      · rw [if_neg (by decide)]
        simp only [nI_1, if_true, if_false, Bool.false_eq_true]
    rcases hw with ⟨rfl, rfl⟩ | ⟨rfl, rfl⟩
    · rw [if_pos (show nI 0 = (0 : Int32) from rfl), z_6, if_neg (nI_ge hk (by omega)), if_pos (show nI 0 = (0 : Int32) from rfl)]
      simpa using tail
    · rw [if_neg (by decide), if_neg (nI_ge hk (by omega)), if_neg (by decide), z_6, nI_add]
      exact tail
  · show g_X10_done_15 Fu (nI w) (nI n) (nI z) seen (f + 1) s.1 (nI e) s.2.1 s.2.2.1 s.2.2.2 = _
    rw [g_X10_done_15]
    rcases hw with ⟨rfl, rfl⟩ | ⟨rfl, rfl⟩
    · rw [if_pos (show nI 0 = (0 : Int32) from rfl), if_pos (by decide)]
    · rw [if_neg (by decide), if_pos (nI_le (Nat.le_refl _) (by omega))]
theorem st_done {v_x_order : Int64} {v_x_text_length : Int32} {f_x_text_letters : Nat → Int32} {v_x_laid_cards : Int32} {v_x_laid_colours : Int32} {v_x_laid_acts : Int32} {v_x_laid_deal : Int64} {v_x_past_held : Int32} {f_x_past_stored : Nat → Int64} {v_x_kept_held : Int32} {f_x_kept_stored : Nat → Int64} {v_x_sightings_held : Int32} {f_x_sightings_cards : Nat → Int32} {f_x_sightings_places : Nat → Int32} {v_m_cards : Int32} {v_m_dealMany : Int32} {v_m_acts : Int32} {v_m_keeps : Int32} {v_m_seens : Int32} {v_m_texted : Int32} {f_m_colour : Nat → Int32} {f_m_deal : Nat → Int32} {f_m_st : Nat → Int32} {f_m_was : Nat → Int32} {f_m_kept : Nat → Int32} {f_m_seen : Nat → Int32} {f_m_text : Nat → Int32} {f_m_now : Nat → Int32} {f_m_then : Nat → Int32} {f_m_ring : Nat → Int32} (y1 : Int32) (h : jR v_x_order v_x_text_length f_x_text_letters v_x_laid_cards v_x_laid_colours v_x_laid_acts v_x_laid_deal v_x_past_held f_x_past_stored v_x_kept_held f_x_kept_stored v_x_sightings_held f_x_sightings_cards f_x_sightings_places v_m_cards f_m_colour v_m_dealMany f_m_deal f_m_st v_m_acts f_m_was v_m_keeps f_m_kept v_m_seens f_m_seen f_m_text v_m_texted) : ∃ u v, f_X9_done Fu y1 v_x_laid_cards v_x_sightings_held f_x_sightings_cards f_x_sightings_places = some u ∧ f_X10_done Fu y1 v_m_cards v_m_seens f_m_seen f_m_now f_m_ring f_m_then = some v ∧ u = v.1 ∧ jR v_x_order v_x_text_length f_x_text_letters v_x_laid_cards v_x_laid_colours v_x_laid_acts v_x_laid_deal v_x_past_held f_x_past_stored v_x_kept_held f_x_kept_stored v_x_sightings_held f_x_sightings_cards f_x_sightings_places v_m_cards f_m_colour v_m_dealMany f_m_deal f_m_st v_m_acts f_m_was v_m_keeps f_m_kept v_m_seens f_m_seen f_m_text v_m_texted := by
  have hh := h
  obtain ⟨n, h2, hn, rfl, rfl, ht, ho, hc, hd, hp, hk, hs⟩ := h
  obtain ⟨z, A, B, hz, rfl, rfl, hS⟩ := hs.s
  unfold f_X9_done f_X10_done
  rcases gin_n (lo := 0) (hi := 1) (by omega) (by omega) y1 with ⟨w, _, w1, rfl, e1, e2⟩ | ⟨e0, e1, e2⟩
  · rw [show f_X10_in Fu (nI w) (0 : Int32) (1 : Int32) = some 1 from e2, some_bind', if_neg not10]
    by_cases q : w = 0
    · subst q
      obtain ⟨v, v1, v2⟩ := m_done (w := 0) (e := 6) h2 hn hz hS (Or.inl ⟨rfl, rfl⟩) f_m_now f_m_ring f_m_then
      rw [if_pos (show nI 0 = (0 : Int32) from rfl), x_fitKinds h2 hn hz hS, v1]
      refine ⟨_, v, rfl, rfl, ?_, hh⟩
      rw [v2]
      simp
    · have : w = 1 := by omega
      subst this
      obtain ⟨v, v1, v2⟩ := m_done (w := 1) (e := n) h2 hn hz hS (Or.inr ⟨rfl, rfl⟩) f_m_now f_m_ring f_m_then
      rw [if_neg (by decide), if_pos (show nI 1 = (1 : Int32) from rfl), x_fitCuts h2 hn hz hS, v1]
      refine ⟨_, v, rfl, rfl, ?_, hh⟩
      rw [v2]
  · rw [show f_X10_in Fu y1 (0 : Int32) (1 : Int32) = some 0 from e2, some_bind', if_pos rfl, if_neg (show ¬ y1 = (0 : Int32) from e0 0 (by omega) (by omega)), if_neg (show ¬ y1 = (1 : Int32) from e0 1 (by omega) (by omega))]
    exact ⟨_, _, rfl, rfl, rfl, hh⟩
theorem st_pairs {v_x_order : Int64} {v_x_text_length : Int32} {f_x_text_letters : Nat → Int32} {v_x_laid_cards : Int32} {v_x_laid_colours : Int32} {v_x_laid_acts : Int32} {v_x_laid_deal : Int64} {v_x_past_held : Int32} {f_x_past_stored : Nat → Int64} {v_x_kept_held : Int32} {f_x_kept_stored : Nat → Int64} {v_x_sightings_held : Int32} {f_x_sightings_cards : Nat → Int32} {f_x_sightings_places : Nat → Int32} {v_m_cards : Int32} {v_m_dealMany : Int32} {v_m_acts : Int32} {v_m_keeps : Int32} {v_m_seens : Int32} {v_m_texted : Int32} {f_m_colour : Nat → Int32} {f_m_deal : Nat → Int32} {f_m_st : Nat → Int32} {f_m_was : Nat → Int32} {f_m_kept : Nat → Int32} {f_m_seen : Nat → Int32} {f_m_text : Nat → Int32} (h : jR v_x_order v_x_text_length f_x_text_letters v_x_laid_cards v_x_laid_colours v_x_laid_acts v_x_laid_deal v_x_past_held f_x_past_stored v_x_kept_held f_x_kept_stored v_x_sightings_held f_x_sightings_cards f_x_sightings_places v_m_cards f_m_colour v_m_dealMany f_m_deal f_m_st v_m_acts f_m_was v_m_keeps f_m_kept v_m_seens f_m_seen f_m_text v_m_texted) : ∃ u v, f_X9_pairs Fu v_x_order v_x_laid_cards v_x_laid_colours = some u ∧ f_X10_pairs Fu v_m_cards f_m_colour f_m_st = some v ∧ u = v ∧ jR v_x_order v_x_text_length f_x_text_letters v_x_laid_cards v_x_laid_colours v_x_laid_acts v_x_laid_deal v_x_past_held f_x_past_stored v_x_kept_held f_x_kept_stored v_x_sightings_held f_x_sightings_cards f_x_sightings_places v_m_cards f_m_colour v_m_dealMany f_m_deal f_m_st v_m_acts f_m_was v_m_keeps f_m_kept v_m_seens f_m_seen f_m_text v_m_texted := by
  have hh := h
  obtain ⟨n, h2, hn, rfl, rfl, ht, ho, hc, hd, hp, hk, hs⟩ := h
  obtain ⟨o, hpm, rfl, hl⟩ := ho.l
  obtain ⟨v, hv⟩ := hc.v
  unfold f_X10_pairs
  rw [x_pairs hv h2 hn hpm, m_unlike hv h2 hn (hpm.lt hn) (fun k hk => hl.at hn hk)]
  exact ⟨_, _, rfl, rfl, rfl, hh⟩
