/-! the walks -/
set_option maxRecDepth 20000 in
theorem c_X9_write {l : Launch} {E : jE} {F : Nat} {x1 : Int32} {a_o a_o_text a_o_draft a_o_laid a_o_past a_o_kept a_o_sightings a_o_finder a_o_mix a_o_text_letters : Nat} {w_o_order : Int64} {w_o_text_next : Int32} {v_o_text_length : Int32} {f_o_text_letters : Nat → Int32} : ∀ u : Int32 × Int32 × (Nat → Int32), f_X9_write F x1 v_o_text_length f_o_text_letters = some u → jM l E K_X9_write [.ref a_o, .int x1] [jO a_o 6 [.ref a_o_text, .ref a_o_draft, .ref a_o_laid, .ref a_o_past, .ref a_o_kept, .ref a_o_sightings, .ref a_o_finder, .ref a_o_mix, .long w_o_order], jO a_o_text 5 [.ref a_o_text_letters, .int v_o_text_length, .int w_o_text_next], jH E a_o_text_letters 200 f_o_text_letters] (jd (some (.int u.1)) [jO a_o 6 [.ref a_o_text, .ref a_o_draft, .ref a_o_laid, .ref a_o_past, .ref a_o_kept, .ref a_o_sightings, .ref a_o_finder, .ref a_o_mix, .long w_o_order], jO a_o_text 5 [.ref a_o_text_letters, .int u.2.1, .int w_o_text_next], jH E a_o_text_letters 200 u.2.2]) := by
  intro u h
  unfold f_X9_write at h
  refine j_met [(0, .ref a_o), (1, .int x1)] (by decide +kernel) (Nat.le_of_ble_eq_true rfl) rfl ?_
  refine j_iload_n (pc := 0) 1 dX9_write_0 rfl rfl ?_
  refine j_bipush (pc := 1) dX9_write_1 bc_32 ?_
  refine j_bipush (pc := 3) dX9_write_3 bc_126 ?_
  refine j_S0 (pc := 5) (Kc := K_X9_within) (As := [.int x1, .int (32 : Int32), .int (126 : Int32)]) (rest := []) h c_X9_within q_X9_within m1_157 rfl rfl (Nat.le_of_ble_eq_true rfl) ⟨(Nat.le_of_ble_eq_true rfl), (Nat.le_of_ble_eq_true rfl)⟩ ⟨rfl, rfl⟩ ⟨(Nat.le_of_ble_eq_true rfl), (Nat.le_of_ble_eq_true rfl)⟩ dX9_write_5 (fun b1 h => ?_)
  refine j_if_ne (pc := 8) (tgt := 13) dX9_write_8 (by decide) h (fun h => ?_) (fun h => ?_)
  · refine j_aload_n (pc := 13) 0 dX9_write_13 rfl rfl ?_
    refine j_get (pc := 14) (v := .ref a_o_text) 0 0 rfl rfl (Nat.le_of_ble_eq_true rfl) iwX9 m1_188 rfl dX9_write_14 ?_
    refine j_iload_n (pc := 17) 1 dX9_write_17 rfl rfl ?_
    refine j_V (pc := 18) (q0 := 1) (Kc := K_X8_append) (As := [.int x1]) (rest := []) (wc := [jO a_o_text 5 [.ref a_o_text_letters, .int v_o_text_length, .int w_o_text_next], jH E a_o_text_letters 200 f_o_text_letters]) (w' := fun b2 => [jO a_o 6 [.ref a_o_text, .ref a_o_draft, .ref a_o_laid, .ref a_o_past, .ref a_o_kept, .ref a_o_sightings, .ref a_o_finder, .ref a_o_mix, .long w_o_order], jO a_o_text 5 [.ref a_o_text_letters, .int b2.2.1, .int w_o_text_next], jH E a_o_text_letters 200 b2.2.2]) (st1 := fun b2 => [.int b2.1]) [1, 2] rfl rfl rfl h c_X8_append q_X8_append m1_220 rfl rfl (Nat.le_of_ble_eq_true rfl) ⟨(Nat.le_of_ble_eq_true rfl), (Nat.le_of_ble_eq_true rfl)⟩ ⟨rfl, rfl⟩ ⟨(Nat.le_of_ble_eq_true rfl), (Nat.le_of_ble_eq_true rfl)⟩ dX9_write_18 rfl (by decide) (fun _ => rfl) (fun _ => rfl) (fun _ => rfl) (fun b2 h => ?_)
    refine j_if_eq (pc := 21) (tgt := 34) dX9_write_21 (by decide) h (fun h => ?_) (fun h => ?_)
    · refine j_bipush (pc := 34) dX9_write_34 bc_m3 ?_
      cases h
      exact j_iret (pc := 36) rfl dX9_write_36 (Nat.le_of_ble_eq_true rfl) (Nat.le_of_ble_eq_true rfl) (jd_i rfl rfl)
    · refine j_aload_n (pc := 24) 0 dX9_write_24 rfl rfl ?_
      refine j_get (pc := 25) (v := .ref a_o_text) 0 0 rfl rfl (Nat.le_of_ble_eq_true rfl) iwX9 m1_188 rfl dX9_write_25 ?_
      refine j_getN (pc := 28) (v := .int b2.2.1) 1 1 rfl rfl (Nat.le_of_ble_eq_true rfl) iwX8 (List.mem_of_getElem? (i := 1) rfl) rfl dX9_write_28 ?_
      refine j_goto (pc := 31) (tgt := 36) dX9_write_31 (by decide) ?_
      cases h
      exact j_iret (pc := 36) rfl dX9_write_36 (Nat.le_of_ble_eq_true rfl) (Nat.le_of_ble_eq_true rfl) (jd_i rfl rfl)
  · refine j_iconst (pc := 11) dX9_write_11 ic_m1 ?_
    cases h
    exact j_iret (pc := 12) rfl dX9_write_12 (Nat.le_of_ble_eq_true rfl) (Nat.le_of_ble_eq_true rfl) (jd_i rfl rfl)
set_option maxRecDepth 20000 in
theorem c_X9_wipe {l : Launch} {E : jE} {F : Nat} {a_o a_o_text a_o_draft a_o_laid a_o_past a_o_kept a_o_sightings a_o_finder a_o_mix a_o_text_letters : Nat} {w_o_order : Int64} {w_o_text_next : Int32} {v_o_text_length : Int32} : ∀ u : Int32 × Int32, f_X9_wipe F v_o_text_length = some u → jM l E K_X9_wipe [.ref a_o] [jO a_o 6 [.ref a_o_text, .ref a_o_draft, .ref a_o_laid, .ref a_o_past, .ref a_o_kept, .ref a_o_sightings, .ref a_o_finder, .ref a_o_mix, .long w_o_order], jO a_o_text 5 [.ref a_o_text_letters, .int v_o_text_length, .int w_o_text_next]] (jd (some (.int u.1)) [jO a_o 6 [.ref a_o_text, .ref a_o_draft, .ref a_o_laid, .ref a_o_past, .ref a_o_kept, .ref a_o_sightings, .ref a_o_finder, .ref a_o_mix, .long w_o_order], jO a_o_text 5 [.ref a_o_text_letters, .int u.2, .int w_o_text_next]]) := by
  intro u h
  unfold f_X9_wipe at h
  refine j_met [(0, .ref a_o)] (by decide +kernel) (Nat.le_of_ble_eq_true rfl) rfl ?_
  refine j_aload_n (pc := 0) 0 dX9_wipe_0 rfl rfl ?_
  refine j_get (pc := 1) (v := .ref a_o_text) 0 0 rfl rfl (Nat.le_of_ble_eq_true rfl) iwX9 m1_188 rfl dX9_wipe_1 ?_
  refine j_getN (pc := 4) (v := .int v_o_text_length) 1 1 rfl rfl (Nat.le_of_ble_eq_true rfl) iwX8 (List.mem_of_getElem? (i := 1) rfl) rfl dX9_wipe_4 ?_
  refine j_istore_n (pc := 7) (lv' := [(1, .int v_o_text_length), (0, .ref a_o)]) dX9_wipe_7 rfl (Nat.le_of_ble_eq_true rfl) rfl ?_
  refine j_aload_n (pc := 8) 1 dX9_wipe_8 rfl rfl ?_
  refine j_get (pc := 9) (v := .ref a_o_text) 0 0 rfl rfl (Nat.le_of_ble_eq_true rfl) iwX9 m1_188 rfl dX9_wipe_9 ?_
  refine j_iconst (pc := 12) dX9_wipe_12 ic_0 ?_
  refine j_putN (pc := 13) (w' := [jO a_o 6 [.ref a_o_text, .ref a_o_draft, .ref a_o_laid, .ref a_o_past, .ref a_o_kept, .ref a_o_sightings, .ref a_o_finder, .ref a_o_mix, .long w_o_order], jO a_o_text 5 [.ref a_o_text_letters, .int (0 : Int32), .int w_o_text_next]]) tyX8 1 1 tyX8_ok nmX8 rfl rfl (Nat.le_of_ble_eq_true rfl) iwX8 (List.mem_of_getElem? (i := 1) rfl) rfl rfl rfl rfl (Nat.le_of_ble_eq_true rfl) dX9_wipe_13 rfl ?_
  refine j_iload_n (pc := 16) 0 dX9_wipe_16 rfl rfl ?_
  cases h
  exact j_iret (pc := 17) rfl dX9_wipe_17 (Nat.le_of_ble_eq_true rfl) (Nat.le_of_ble_eq_true rfl) (jd_i rfl rfl)
set_option maxRecDepth 20000 in
theorem c_X9_fault {l : Launch} {E : jE} {F : Nat} {v_o_text_length : Int32} {f_o_text_letters : Nat → Int32} {a_o a_o_text a_o_draft a_o_laid a_o_past a_o_kept a_o_sightings a_o_finder a_o_mix a_o_text_letters : Nat} {w_o_order : Int64} {v_o_draft_cards : Int32} {v_o_draft_colours : Int32} {v_o_draft_acts : Int32} {v_o_draft_deal : Int64} {v_o_draft_cardsAreFixed : Int32} {v_o_text_next : Int32} : ∀ u : Int32 × Int32 × Int32 × Int32 × Int64 × Int32 × Int32, f_X9_fault F v_o_text_length f_o_text_letters v_o_draft_cards v_o_draft_colours v_o_draft_acts v_o_draft_deal v_o_draft_cardsAreFixed v_o_text_next = some u → jM l E K_X9_fault [.ref a_o] [jO a_o 6 [.ref a_o_text, .ref a_o_draft, .ref a_o_laid, .ref a_o_past, .ref a_o_kept, .ref a_o_sightings, .ref a_o_finder, .ref a_o_mix, .long w_o_order], jO a_o_draft 2 [.int v_o_draft_cards, .int v_o_draft_colours, .int v_o_draft_acts, .long v_o_draft_deal, .int v_o_draft_cardsAreFixed], jO a_o_text 5 [.ref a_o_text_letters, .int v_o_text_length, .int v_o_text_next], jH E a_o_text_letters 200 f_o_text_letters] (jd (some (.int u.1)) [jO a_o 6 [.ref a_o_text, .ref a_o_draft, .ref a_o_laid, .ref a_o_past, .ref a_o_kept, .ref a_o_sightings, .ref a_o_finder, .ref a_o_mix, .long w_o_order], jO a_o_draft 2 [.int u.2.1, .int u.2.2.1, .int u.2.2.2.1, .long u.2.2.2.2.1, .int u.2.2.2.2.2.1], jO a_o_text 5 [.ref a_o_text_letters, .int v_o_text_length, .int u.2.2.2.2.2.2], jH E a_o_text_letters 200 f_o_text_letters]) := by
  intro u h
  unfold f_X9_fault at h
  refine j_met [(0, .ref a_o)] (by decide +kernel) (Nat.le_of_ble_eq_true rfl) rfl ?_
  refine j_aload_n (pc := 0) 0 dX9_fault_0 rfl rfl ?_
  refine j_get (pc := 1) (v := .ref a_o_text) 0 0 rfl rfl (Nat.le_of_ble_eq_true rfl) iwX9 m1_188 rfl dX9_fault_1 ?_
  refine j_aload_n (pc := 4) 0 dX9_fault_4 rfl rfl ?_
  refine j_get (pc := 5) (v := .ref a_o_draft) 0 1 rfl rfl (Nat.le_of_ble_eq_true rfl) iwX9 m1_189 rfl dX9_fault_5 ?_
  refine j_V (pc := 8) (q0 := 2) (Kc := K_X8_firstFault) (As := [.ref a_o_draft]) (rest := []) (wc := [jO a_o_text 5 [.ref a_o_text_letters, .int v_o_text_length, .int v_o_text_next], jO a_o_draft 2 [.int v_o_draft_cards, .int v_o_draft_colours, .int v_o_draft_acts, .long v_o_draft_deal, .int v_o_draft_cardsAreFixed], jH E a_o_text_letters 200 f_o_text_letters]) (w' := fun b1 => [jO a_o 6 [.ref a_o_text, .ref a_o_draft, .ref a_o_laid, .ref a_o_past, .ref a_o_kept, .ref a_o_sightings, .ref a_o_finder, .ref a_o_mix, .long w_o_order], jO a_o_draft 2 [.int b1.2.2.1, .int b1.2.2.2.1, .int b1.2.2.2.2.1, .long b1.2.2.2.2.2.1, .int b1.2.2.2.2.2.2], jO a_o_text 5 [.ref a_o_text_letters, .int v_o_text_length, .int b1.2.1], jH E a_o_text_letters 200 f_o_text_letters]) (st1 := fun b1 => [.int b1.1]) [2, 1, 3] rfl rfl rfl h c_X8_firstFault q_X8_firstFault m1_232 rfl rfl (Nat.le_of_ble_eq_true rfl) ⟨(Nat.le_of_ble_eq_true rfl), (Nat.le_of_ble_eq_true rfl)⟩ ⟨rfl, rfl⟩ ⟨(Nat.le_of_ble_eq_true rfl), (Nat.le_of_ble_eq_true rfl)⟩ dX9_fault_8 rfl (by decide) (fun _ => rfl) (fun _ => rfl) (fun _ => rfl) (fun b1 h => ?_)
  cases h
  exact j_iret (pc := 11) rfl dX9_fault_11 (Nat.le_of_ble_eq_true rfl) (Nat.le_of_ble_eq_true rfl) (jd_i rfl rfl)
set_option maxRecDepth 20000 in
theorem c_X9_lay {l : Launch} {E : jE} {F : Nat} {v_o_text_length : Int32} {f_o_text_letters : Nat → Int32} {a_o a_o_text a_o_draft a_o_laid a_o_past a_o_kept a_o_sightings a_o_finder a_o_mix a_o_kept_stored a_o_past_stored a_o_sightings_cards a_o_sightings_places a_o_text_letters : Nat} {v_o_order : Int64} {v_o_draft_cards : Int32} {v_o_draft_colours : Int32} {v_o_draft_acts : Int32} {v_o_draft_deal : Int64} {v_o_draft_cardsAreFixed : Int32} {v_o_kept_held : Int32} {v_o_laid_cards : Int32} {v_o_laid_colours : Int32} {v_o_laid_acts : Int32} {v_o_laid_deal : Int64} {v_o_laid_cardsAreFixed : Int32} {v_o_past_held : Int32} {v_o_sightings_held : Int32} {v_o_text_next : Int32} : ∀ u : Int32 × Int64 × Int32 × Int32 × Int32 × Int64 × Int32 × Int32 × Int32 × Int32 × Int32 × Int64 × Int32 × Int32 × Int32 × Int32, f_X9_lay F v_o_text_length f_o_text_letters v_o_order v_o_draft_cards v_o_draft_colours v_o_draft_acts v_o_draft_deal v_o_draft_cardsAreFixed v_o_kept_held v_o_laid_cards v_o_laid_colours v_o_laid_acts v_o_laid_deal v_o_laid_cardsAreFixed v_o_past_held v_o_sightings_held v_o_text_next = some u → jM l E K_X9_lay [.ref a_o] [jO a_o 6 [.ref a_o_text, .ref a_o_draft, .ref a_o_laid, .ref a_o_past, .ref a_o_kept, .ref a_o_sightings, .ref a_o_finder, .ref a_o_mix, .long v_o_order], jO a_o_draft 2 [.int v_o_draft_cards, .int v_o_draft_colours, .int v_o_draft_acts, .long v_o_draft_deal, .int v_o_draft_cardsAreFixed], jO a_o_kept 3 [.ref a_o_kept_stored, .int v_o_kept_held], jO a_o_laid 2 [.int v_o_laid_cards, .int v_o_laid_colours, .int v_o_laid_acts, .long v_o_laid_deal, .int v_o_laid_cardsAreFixed], jO a_o_past 3 [.ref a_o_past_stored, .int v_o_past_held], jO a_o_sightings 4 [.ref a_o_sightings_cards, .ref a_o_sightings_places, .int v_o_sightings_held], jO a_o_text 5 [.ref a_o_text_letters, .int v_o_text_length, .int v_o_text_next], jH E a_o_text_letters 200 f_o_text_letters] (jd (some (.int u.1)) [jO a_o 6 [.ref a_o_text, .ref a_o_draft, .ref a_o_laid, .ref a_o_past, .ref a_o_kept, .ref a_o_sightings, .ref a_o_finder, .ref a_o_mix, .long u.2.1], jO a_o_draft 2 [.int u.2.2.1, .int u.2.2.2.1, .int u.2.2.2.2.1, .long u.2.2.2.2.2.1, .int u.2.2.2.2.2.2.1], jO a_o_kept 3 [.ref a_o_kept_stored, .int u.2.2.2.2.2.2.2.1], jO a_o_laid 2 [.int u.2.2.2.2.2.2.2.2.1, .int u.2.2.2.2.2.2.2.2.2.1, .int u.2.2.2.2.2.2.2.2.2.2.1, .long u.2.2.2.2.2.2.2.2.2.2.2.1, .int u.2.2.2.2.2.2.2.2.2.2.2.2.1], jO a_o_past 3 [.ref a_o_past_stored, .int u.2.2.2.2.2.2.2.2.2.2.2.2.2.1], jO a_o_sightings 4 [.ref a_o_sightings_cards, .ref a_o_sightings_places, .int u.2.2.2.2.2.2.2.2.2.2.2.2.2.2.1], jO a_o_text 5 [.ref a_o_text_letters, .int v_o_text_length, .int u.2.2.2.2.2.2.2.2.2.2.2.2.2.2.2], jH E a_o_text_letters 200 f_o_text_letters]) := by
  intro u h
  unfold f_X9_lay at h
  refine j_met [(0, .ref a_o)] (by decide +kernel) (Nat.le_of_ble_eq_true rfl) rfl ?_
  refine j_aload_n (pc := 0) 0 dX9_lay_0 rfl rfl ?_
  refine j_get (pc := 1) (v := .ref a_o_text) 0 0 rfl rfl (Nat.le_of_ble_eq_true rfl) iwX9 m1_188 rfl dX9_lay_1 ?_
  refine j_getN (pc := 4) (v := .int v_o_text_length) 6 1 rfl rfl (Nat.le_of_ble_eq_true rfl) iwX8 (List.mem_of_getElem? (i := 1) rfl) rfl dX9_lay_4 ?_
  refine j_if_eq (pc := 7) (tgt := 26) dX9_lay_7 (by decide) h (fun h => ?_) (fun h => ?_)
  · refine j_bipush (pc := 26) dX9_lay_26 bc_m2 ?_
    cases h
    exact j_iret (pc := 28) rfl dX9_lay_28 (Nat.le_of_ble_eq_true rfl) (Nat.le_of_ble_eq_true rfl) (jd_i rfl rfl)
  · refine j_aload_n (pc := 10) 0 dX9_lay_10 rfl rfl ?_
    refine j_get (pc := 11) (v := .ref a_o_text) 0 0 rfl rfl (Nat.le_of_ble_eq_true rfl) iwX9 m1_188 rfl dX9_lay_11 ?_
    refine j_aload_n (pc := 14) 0 dX9_lay_14 rfl rfl ?_
    refine j_get (pc := 15) (v := .ref a_o_draft) 0 1 rfl rfl (Nat.le_of_ble_eq_true rfl) iwX9 m1_189 rfl dX9_lay_15 ?_
    refine j_V (pc := 18) (q0 := 6) (Kc := K_X8_firstFault) (As := [.ref a_o_draft]) (rest := []) (wc := [jO a_o_text 5 [.ref a_o_text_letters, .int v_o_text_length, .int v_o_text_next], jO a_o_draft 2 [.int v_o_draft_cards, .int v_o_draft_colours, .int v_o_draft_acts, .long v_o_draft_deal, .int v_o_draft_cardsAreFixed], jH E a_o_text_letters 200 f_o_text_letters]) (w' := fun b1 => [jO a_o 6 [.ref a_o_text, .ref a_o_draft, .ref a_o_laid, .ref a_o_past, .ref a_o_kept, .ref a_o_sightings, .ref a_o_finder, .ref a_o_mix, .long v_o_order], jO a_o_draft 2 [.int b1.2.2.1, .int b1.2.2.2.1, .int b1.2.2.2.2.1, .long b1.2.2.2.2.2.1, .int b1.2.2.2.2.2.2], jO a_o_kept 3 [.ref a_o_kept_stored, .int v_o_kept_held], jO a_o_laid 2 [.int v_o_laid_cards, .int v_o_laid_colours, .int v_o_laid_acts, .long v_o_laid_deal, .int v_o_laid_cardsAreFixed], jO a_o_past 3 [.ref a_o_past_stored, .int v_o_past_held], jO a_o_sightings 4 [.ref a_o_sightings_cards, .ref a_o_sightings_places, .int v_o_sightings_held], jO a_o_text 5 [.ref a_o_text_letters, .int v_o_text_length, .int b1.2.1], jH E a_o_text_letters 200 f_o_text_letters]) (st1 := fun b1 => [.int b1.1]) [6, 1, 7] rfl rfl rfl h c_X8_firstFault q_X8_firstFault m1_232 rfl rfl (Nat.le_of_ble_eq_true rfl) ⟨(Nat.le_of_ble_eq_true rfl), (Nat.le_of_ble_eq_true rfl)⟩ ⟨rfl, rfl⟩ ⟨(Nat.le_of_ble_eq_true rfl), (Nat.le_of_ble_eq_true rfl)⟩ dX9_lay_18 rfl (by decide) (fun _ => rfl) (fun _ => rfl) (fun _ => rfl) (fun b1 h => ?_)
    refine j_bipush (pc := 21) dX9_lay_21 bc_m4 ?_
    refine j_icmp_eq (pc := 23) (tgt := 29) dX9_lay_23 (by decide) h (fun h => ?_) (fun h => ?_)
    · refine j_aload_n (pc := 29) 0 dX9_lay_29 rfl rfl ?_
      refine j_get (pc := 30) (v := .ref a_o_laid) 0 2 rfl rfl (Nat.le_of_ble_eq_true rfl) iwX9 m1_190 rfl dX9_lay_30 ?_
      refine j_aload_n (pc := 33) 0 dX9_lay_33 rfl rfl ?_
      refine j_get (pc := 34) (v := .ref a_o_draft) 0 1 rfl rfl (Nat.le_of_ble_eq_true rfl) iwX9 m1_189 rfl dX9_lay_34 ?_
      refine j_V (pc := 37) (q0 := 3) (Kc := K_X5_become) (As := [.ref a_o_draft]) (rest := []) (wc := [jO a_o_laid 2 [.int v_o_laid_cards, .int v_o_laid_colours, .int v_o_laid_acts, .long v_o_laid_deal, .int v_o_laid_cardsAreFixed], jO a_o_draft 2 [.int b1.2.2.1, .int b1.2.2.2.1, .int b1.2.2.2.2.1, .long b1.2.2.2.2.2.1, .int b1.2.2.2.2.2.2]]) (w' := fun b2 => [jO a_o 6 [.ref a_o_text, .ref a_o_draft, .ref a_o_laid, .ref a_o_past, .ref a_o_kept, .ref a_o_sightings, .ref a_o_finder, .ref a_o_mix, .long v_o_order], jO a_o_draft 2 [.int b1.2.2.1, .int b1.2.2.2.1, .int b1.2.2.2.2.1, .long b1.2.2.2.2.2.1, .int b1.2.2.2.2.2.2], jO a_o_kept 3 [.ref a_o_kept_stored, .int v_o_kept_held], jO a_o_laid 2 [.int b2.1, .int b2.2.1, .int b2.2.2.1, .long b2.2.2.2.1, .int b2.2.2.2.2], jO a_o_past 3 [.ref a_o_past_stored, .int v_o_past_held], jO a_o_sightings 4 [.ref a_o_sightings_cards, .ref a_o_sightings_places, .int v_o_sightings_held], jO a_o_text 5 [.ref a_o_text_letters, .int v_o_text_length, .int b1.2.1], jH E a_o_text_letters 200 f_o_text_letters]) (st1 := fun b2 => []) [3, 1] rfl rfl rfl h c_X5_become q_X5_become m2_26 rfl rfl (Nat.le_of_ble_eq_true rfl) ⟨(Nat.le_of_ble_eq_true rfl), (Nat.le_of_ble_eq_true rfl)⟩ ⟨rfl, rfl⟩ ⟨(Nat.le_of_ble_eq_true rfl), (Nat.le_of_ble_eq_true rfl)⟩ dX9_lay_37 rfl (by decide) (fun _ => rfl) (fun _ => rfl) (fun _ => rfl) (fun b2 h => ?_)
      refine j_aload_n (pc := 40) 0 dX9_lay_40 rfl rfl ?_
      refine j_aload_n (pc := 41) 0 dX9_lay_41 rfl rfl ?_
      refine j_get (pc := 42) (v := .ref a_o_laid) 0 2 rfl rfl (Nat.le_of_ble_eq_true rfl) iwX9 m1_190 rfl dX9_lay_42 ?_
      refine j_getN (pc := 45) (v := .int b2.1) 3 0 rfl rfl (Nat.le_of_ble_eq_true rfl) iwX5 (List.mem_of_getElem? (i := 0) rfl) rfl dX9_lay_45 ?_
      refine j_S0 (pc := 48) (Kc := K_X4_inOrder) (As := [.int b2.1]) (rest := [.ref a_o]) h c_X4_inOrder q_X4_inOrder m1_187 rfl rfl (Nat.le_of_ble_eq_true rfl) ⟨(Nat.le_of_ble_eq_true rfl), (Nat.le_of_ble_eq_true rfl)⟩ ⟨rfl, rfl⟩ ⟨(Nat.le_of_ble_eq_true rfl), (Nat.le_of_ble_eq_true rfl)⟩ dX9_lay_48 (fun b3 h => ?_)
      refine j_put (pc := 51) (w' := [jO a_o 6 [.ref a_o_text, .ref a_o_draft, .ref a_o_laid, .ref a_o_past, .ref a_o_kept, .ref a_o_sightings, .ref a_o_finder, .ref a_o_mix, .long b3], jO a_o_draft 2 [.int b1.2.2.1, .int b1.2.2.2.1, .int b1.2.2.2.2.1, .long b1.2.2.2.2.2.1, .int b1.2.2.2.2.2.2], jO a_o_kept 3 [.ref a_o_kept_stored, .int v_o_kept_held], jO a_o_laid 2 [.int b2.1, .int b2.2.1, .int b2.2.2.1, .long b2.2.2.2.1, .int b2.2.2.2.2], jO a_o_past 3 [.ref a_o_past_stored, .int v_o_past_held], jO a_o_sightings 4 [.ref a_o_sightings_cards, .ref a_o_sightings_places, .int v_o_sightings_held], jO a_o_text 5 [.ref a_o_text_letters, .int v_o_text_length, .int b1.2.1], jH E a_o_text_letters 200 f_o_text_letters]) tyX9 0 8 tyX9_ok nmX9 rfl rfl (Nat.le_of_ble_eq_true rfl) iwX9 m1_196 rfl rfl rfl rfl (Nat.le_of_ble_eq_true rfl) dX9_lay_51 rfl ?_
      refine j_aload_n (pc := 54) 0 dX9_lay_54 rfl rfl ?_
      refine j_get (pc := 55) (v := .ref a_o_sightings) 0 5 rfl rfl (Nat.le_of_ble_eq_true rfl) iwX9 m1_193 rfl dX9_lay_55 ?_
      refine j_iconst (pc := 58) dX9_lay_58 ic_0 ?_
      refine j_putN (pc := 59) (w' := [jO a_o 6 [.ref a_o_text, .ref a_o_draft, .ref a_o_laid, .ref a_o_past, .ref a_o_kept, .ref a_o_sightings, .ref a_o_finder, .ref a_o_mix, .long b3], jO a_o_draft 2 [.int b1.2.2.1, .int b1.2.2.2.1, .int b1.2.2.2.2.1, .long b1.2.2.2.2.2.1, .int b1.2.2.2.2.2.2], jO a_o_kept 3 [.ref a_o_kept_stored, .int v_o_kept_held], jO a_o_laid 2 [.int b2.1, .int b2.2.1, .int b2.2.2.1, .long b2.2.2.2.1, .int b2.2.2.2.2], jO a_o_past 3 [.ref a_o_past_stored, .int v_o_past_held], jO a_o_sightings 4 [.ref a_o_sightings_cards, .ref a_o_sightings_places, .int (0 : Int32)], jO a_o_text 5 [.ref a_o_text_letters, .int v_o_text_length, .int b1.2.1], jH E a_o_text_letters 200 f_o_text_letters]) tyX7 5 2 tyX7_ok nmX7 rfl rfl (Nat.le_of_ble_eq_true rfl) iwX7 (List.mem_of_getElem? (i := 2) rfl) rfl rfl rfl rfl (Nat.le_of_ble_eq_true rfl) dX9_lay_59 rfl ?_
      refine j_aload_n (pc := 62) 0 dX9_lay_62 rfl rfl ?_
      refine j_get (pc := 63) (v := .ref a_o_past) 0 3 rfl rfl (Nat.le_of_ble_eq_true rfl) iwX9 m1_191 rfl dX9_lay_63 ?_
      refine j_iconst (pc := 66) dX9_lay_66 ic_0 ?_
      refine j_putN (pc := 67) (w' := [jO a_o 6 [.ref a_o_text, .ref a_o_draft, .ref a_o_laid, .ref a_o_past, .ref a_o_kept, .ref a_o_sightings, .ref a_o_finder, .ref a_o_mix, .long b3], jO a_o_draft 2 [.int b1.2.2.1, .int b1.2.2.2.1, .int b1.2.2.2.2.1, .long b1.2.2.2.2.2.1, .int b1.2.2.2.2.2.2], jO a_o_kept 3 [.ref a_o_kept_stored, .int v_o_kept_held], jO a_o_laid 2 [.int b2.1, .int b2.2.1, .int b2.2.2.1, .long b2.2.2.2.1, .int b2.2.2.2.2], jO a_o_past 3 [.ref a_o_past_stored, .int (0 : Int32)], jO a_o_sightings 4 [.ref a_o_sightings_cards, .ref a_o_sightings_places, .int (0 : Int32)], jO a_o_text 5 [.ref a_o_text_letters, .int v_o_text_length, .int b1.2.1], jH E a_o_text_letters 200 f_o_text_letters]) tyX6 4 1 tyX6_ok nmX6 rfl rfl (Nat.le_of_ble_eq_true rfl) iwX6 (List.mem_of_getElem? (i := 3) rfl) rfl rfl rfl rfl (Nat.le_of_ble_eq_true rfl) dX9_lay_67 rfl ?_
      refine j_aload_n (pc := 70) 0 dX9_lay_70 rfl rfl ?_
      refine j_get (pc := 71) (v := .ref a_o_kept) 0 4 rfl rfl (Nat.le_of_ble_eq_true rfl) iwX9 m1_192 rfl dX9_lay_71 ?_
      refine j_iconst (pc := 74) dX9_lay_74 ic_0 ?_
      refine j_putN (pc := 75) (w' := [jO a_o 6 [.ref a_o_text, .ref a_o_draft, .ref a_o_laid, .ref a_o_past, .ref a_o_kept, .ref a_o_sightings, .ref a_o_finder, .ref a_o_mix, .long b3], jO a_o_draft 2 [.int b1.2.2.1, .int b1.2.2.2.1, .int b1.2.2.2.2.1, .long b1.2.2.2.2.2.1, .int b1.2.2.2.2.2.2], jO a_o_kept 3 [.ref a_o_kept_stored, .int (0 : Int32)], jO a_o_laid 2 [.int b2.1, .int b2.2.1, .int b2.2.2.1, .long b2.2.2.2.1, .int b2.2.2.2.2], jO a_o_past 3 [.ref a_o_past_stored, .int (0 : Int32)], jO a_o_sightings 4 [.ref a_o_sightings_cards, .ref a_o_sightings_places, .int (0 : Int32)], jO a_o_text 5 [.ref a_o_text_letters, .int v_o_text_length, .int b1.2.1], jH E a_o_text_letters 200 f_o_text_letters]) tyX6 2 1 tyX6_ok nmX6 rfl rfl (Nat.le_of_ble_eq_true rfl) iwX6 (List.mem_of_getElem? (i := 3) rfl) rfl rfl rfl rfl (Nat.le_of_ble_eq_true rfl) dX9_lay_75 rfl ?_
      refine j_aload_n (pc := 78) 0 dX9_lay_78 rfl rfl ?_
      refine j_get (pc := 79) (v := .ref a_o_laid) 0 2 rfl rfl (Nat.le_of_ble_eq_true rfl) iwX9 m1_190 rfl dX9_lay_79 ?_
      refine j_getN (pc := 82) (v := .int b2.1) 3 0 rfl rfl (Nat.le_of_ble_eq_true rfl) iwX5 (List.mem_of_getElem? (i := 0) rfl) rfl dX9_lay_82 ?_
      cases h
      exact j_iret (pc := 85) rfl dX9_lay_85 (Nat.le_of_ble_eq_true rfl) (Nat.le_of_ble_eq_true rfl) (jd_i rfl rfl)
    · refine j_bipush (pc := 26) dX9_lay_26 bc_m2 ?_
      cases h
      exact j_iret (pc := 28) rfl dX9_lay_28 (Nat.le_of_ble_eq_true rfl) (Nat.le_of_ble_eq_true rfl) (jd_i rfl rfl)
set_option maxRecDepth 20000 in
theorem c_X9_isPlace {l : Launch} {E : jE} {F : Nat} {x1 : Int32} {v_o_laid_cards : Int32} {a_o a_o_text a_o_draft a_o_laid a_o_past a_o_kept a_o_sightings a_o_finder a_o_mix : Nat} {w_o_order : Int64} {w_o_laid_colours : Int32} {w_o_laid_acts : Int32} {w_o_laid_deal : Int64} {w_o_laid_cardsAreFixed : Int32} : ∀ u : Int32, f_X9_isPlace F x1 v_o_laid_cards = some u → jM l E K_X9_isPlace [.ref a_o, .int x1] [jO a_o 6 [.ref a_o_text, .ref a_o_draft, .ref a_o_laid, .ref a_o_past, .ref a_o_kept, .ref a_o_sightings, .ref a_o_finder, .ref a_o_mix, .long w_o_order], jO a_o_laid 2 [.int v_o_laid_cards, .int w_o_laid_colours, .int w_o_laid_acts, .long w_o_laid_deal, .int w_o_laid_cardsAreFixed]] (jd (some (.int u)) [jO a_o 6 [.ref a_o_text, .ref a_o_draft, .ref a_o_laid, .ref a_o_past, .ref a_o_kept, .ref a_o_sightings, .ref a_o_finder, .ref a_o_mix, .long w_o_order], jO a_o_laid 2 [.int v_o_laid_cards, .int w_o_laid_colours, .int w_o_laid_acts, .long w_o_laid_deal, .int w_o_laid_cardsAreFixed]]) := by
  intro u h
  unfold f_X9_isPlace at h
  refine j_met [(0, .ref a_o), (1, .int x1)] (by decide +kernel) (Nat.le_of_ble_eq_true rfl) rfl ?_
  refine j_iload_n (pc := 0) 1 dX9_isPlace_0 rfl rfl ?_
  refine j_iconst (pc := 1) dX9_isPlace_1 ic_0 ?_
  refine j_aload_n (pc := 2) 0 dX9_isPlace_2 rfl rfl ?_
  refine j_get (pc := 3) (v := .ref a_o_laid) 0 2 rfl rfl (Nat.le_of_ble_eq_true rfl) iwX9 m1_190 rfl dX9_isPlace_3 ?_
  refine j_getN (pc := 6) (v := .int v_o_laid_cards) 1 0 rfl rfl (Nat.le_of_ble_eq_true rfl) iwX5 (List.mem_of_getElem? (i := 0) rfl) rfl dX9_isPlace_6 ?_
  refine j_iconst (pc := 9) dX9_isPlace_9 ic_1 ?_
  refine j_isub (pc := 10) dX9_isPlace_10 ?_
  refine j_S0 (pc := 11) (Kc := K_X9_within) (As := [.int x1, .int (0 : Int32), .int (v_o_laid_cards - (1 : Int32))]) (rest := []) h c_X9_within q_X9_within m1_157 rfl rfl (Nat.le_of_ble_eq_true rfl) ⟨(Nat.le_of_ble_eq_true rfl), (Nat.le_of_ble_eq_true rfl)⟩ ⟨rfl, rfl⟩ ⟨(Nat.le_of_ble_eq_true rfl), (Nat.le_of_ble_eq_true rfl)⟩ dX9_isPlace_11 (fun b1 h => ?_)
  obtain ⟨hz, h⟩ := jgz_s h
  cases h
  exact j_zret (pc := 14) rfl hz dX9_isPlace_14 (Nat.le_of_ble_eq_true rfl) (Nat.le_of_ble_eq_true rfl) (jd_i rfl rfl)
set_option maxRecDepth 20000 in
theorem c_X9_at {l : Launch} {E : jE} {F : Nat} {x1 : Int32} {v_o_order : Int64} {v_o_laid_cards : Int32} {a_o a_o_text a_o_draft a_o_laid a_o_past a_o_kept a_o_sightings a_o_finder a_o_mix : Nat} {w_o_laid_colours : Int32} {w_o_laid_acts : Int32} {w_o_laid_deal : Int64} {w_o_laid_cardsAreFixed : Int32} : ∀ u : Int32, f_X9_at F x1 v_o_order v_o_laid_cards = some u → jM l E K_X9_at [.ref a_o, .int x1] [jO a_o 6 [.ref a_o_text, .ref a_o_draft, .ref a_o_laid, .ref a_o_past, .ref a_o_kept, .ref a_o_sightings, .ref a_o_finder, .ref a_o_mix, .long v_o_order], jO a_o_laid 2 [.int v_o_laid_cards, .int w_o_laid_colours, .int w_o_laid_acts, .long w_o_laid_deal, .int w_o_laid_cardsAreFixed]] (jd (some (.int u)) [jO a_o 6 [.ref a_o_text, .ref a_o_draft, .ref a_o_laid, .ref a_o_past, .ref a_o_kept, .ref a_o_sightings, .ref a_o_finder, .ref a_o_mix, .long v_o_order], jO a_o_laid 2 [.int v_o_laid_cards, .int w_o_laid_colours, .int w_o_laid_acts, .long w_o_laid_deal, .int w_o_laid_cardsAreFixed]]) := by
  intro u h
  unfold f_X9_at at h
  refine j_met [(0, .ref a_o), (1, .int x1)] (by decide +kernel) (Nat.le_of_ble_eq_true rfl) rfl ?_
  refine j_aload_n (pc := 0) 0 dX9_at_0 rfl rfl ?_
  refine j_iload_n (pc := 1) 1 dX9_at_1 rfl rfl ?_
  refine j_V (pc := 2) (q0 := 0) (Kc := K_X9_isPlace) (As := [.int x1]) (rest := []) (wc := [jO a_o 6 [.ref a_o_text, .ref a_o_draft, .ref a_o_laid, .ref a_o_past, .ref a_o_kept, .ref a_o_sightings, .ref a_o_finder, .ref a_o_mix, .long v_o_order], jO a_o_laid 2 [.int v_o_laid_cards, .int w_o_laid_colours, .int w_o_laid_acts, .long w_o_laid_deal, .int w_o_laid_cardsAreFixed]]) (w' := fun b1 => [jO a_o 6 [.ref a_o_text, .ref a_o_draft, .ref a_o_laid, .ref a_o_past, .ref a_o_kept, .ref a_o_sightings, .ref a_o_finder, .ref a_o_mix, .long v_o_order], jO a_o_laid 2 [.int v_o_laid_cards, .int w_o_laid_colours, .int w_o_laid_acts, .long w_o_laid_deal, .int w_o_laid_cardsAreFixed]]) (st1 := fun b1 => [.int b1]) [0, 1] rfl rfl rfl h c_X9_isPlace q_X9_isPlace m2_34 rfl rfl (Nat.le_of_ble_eq_true rfl) ⟨(Nat.le_of_ble_eq_true rfl), (Nat.le_of_ble_eq_true rfl)⟩ ⟨rfl, rfl⟩ ⟨(Nat.le_of_ble_eq_true rfl), (Nat.le_of_ble_eq_true rfl)⟩ dX9_at_2 rfl (by decide) (fun _ => rfl) (fun _ => rfl) (fun _ => rfl) (fun b1 h => ?_)
  refine j_if_eq (pc := 5) (tgt := 19) dX9_at_5 (by decide) h (fun h => ?_) (fun h => ?_)
  · refine j_iconst (pc := 19) dX9_at_19 ic_m1 ?_
    cases h
    exact j_iret (pc := 20) rfl dX9_at_20 (Nat.le_of_ble_eq_true rfl) (Nat.le_of_ble_eq_true rfl) (jd_i rfl rfl)
  · refine j_aload_n (pc := 8) 0 dX9_at_8 rfl rfl ?_
    refine j_get (pc := 9) (v := .long v_o_order) 0 8 rfl rfl (Nat.le_of_ble_eq_true rfl) iwX9 m1_196 rfl dX9_at_9 ?_
    refine j_iload_n (pc := 12) 1 dX9_at_12 rfl rfl ?_
    refine j_S0 (pc := 13) (Kc := K_X4_cardAt) (As := [.long v_o_order, .int x1]) (rest := []) h c_X4_cardAt q_X4_cardAt m2_38 rfl rfl (Nat.le_of_ble_eq_true rfl) ⟨(Nat.le_of_ble_eq_true rfl), (Nat.le_of_ble_eq_true rfl)⟩ ⟨rfl, rfl⟩ ⟨(Nat.le_of_ble_eq_true rfl), (Nat.le_of_ble_eq_true rfl)⟩ dX9_at_13 (fun b2 h => ?_)
    refine j_goto (pc := 16) (tgt := 20) dX9_at_16 (by decide) ?_
    cases h
    exact j_iret (pc := 20) rfl dX9_at_20 (Nat.le_of_ble_eq_true rfl) (Nat.le_of_ble_eq_true rfl) (jd_i rfl rfl)
set_option maxRecDepth 20000 in
theorem c_X9_isCard {l : Launch} {E : jE} {F : Nat} {x1 : Int32} {v_o_laid_cards : Int32} {a_o a_o_text a_o_draft a_o_laid a_o_past a_o_kept a_o_sightings a_o_finder a_o_mix : Nat} {w_o_order : Int64} {w_o_laid_colours : Int32} {w_o_laid_acts : Int32} {w_o_laid_deal : Int64} {w_o_laid_cardsAreFixed : Int32} : ∀ u : Int32, f_X9_isCard F x1 v_o_laid_cards = some u → jM l E K_X9_isCard [.ref a_o, .int x1] [jO a_o 6 [.ref a_o_text, .ref a_o_draft, .ref a_o_laid, .ref a_o_past, .ref a_o_kept, .ref a_o_sightings, .ref a_o_finder, .ref a_o_mix, .long w_o_order], jO a_o_laid 2 [.int v_o_laid_cards, .int w_o_laid_colours, .int w_o_laid_acts, .long w_o_laid_deal, .int w_o_laid_cardsAreFixed]] (jd (some (.int u)) [jO a_o 6 [.ref a_o_text, .ref a_o_draft, .ref a_o_laid, .ref a_o_past, .ref a_o_kept, .ref a_o_sightings, .ref a_o_finder, .ref a_o_mix, .long w_o_order], jO a_o_laid 2 [.int v_o_laid_cards, .int w_o_laid_colours, .int w_o_laid_acts, .long w_o_laid_deal, .int w_o_laid_cardsAreFixed]]) := by
  intro u h
  unfold f_X9_isCard at h
  refine j_met [(0, .ref a_o), (1, .int x1)] (by decide +kernel) (Nat.le_of_ble_eq_true rfl) rfl ?_
  refine j_iload_n (pc := 0) 1 dX9_isCard_0 rfl rfl ?_
  refine j_iconst (pc := 1) dX9_isCard_1 ic_0 ?_
  refine j_aload_n (pc := 2) 0 dX9_isCard_2 rfl rfl ?_
  refine j_get (pc := 3) (v := .ref a_o_laid) 0 2 rfl rfl (Nat.le_of_ble_eq_true rfl) iwX9 m1_190 rfl dX9_isCard_3 ?_
  refine j_getN (pc := 6) (v := .int v_o_laid_cards) 1 0 rfl rfl (Nat.le_of_ble_eq_true rfl) iwX5 (List.mem_of_getElem? (i := 0) rfl) rfl dX9_isCard_6 ?_
  refine j_iconst (pc := 9) dX9_isCard_9 ic_1 ?_
  refine j_isub (pc := 10) dX9_isCard_10 ?_
  refine j_S0 (pc := 11) (Kc := K_X9_within) (As := [.int x1, .int (0 : Int32), .int (v_o_laid_cards - (1 : Int32))]) (rest := []) h c_X9_within q_X9_within m1_157 rfl rfl (Nat.le_of_ble_eq_true rfl) ⟨(Nat.le_of_ble_eq_true rfl), (Nat.le_of_ble_eq_true rfl)⟩ ⟨rfl, rfl⟩ ⟨(Nat.le_of_ble_eq_true rfl), (Nat.le_of_ble_eq_true rfl)⟩ dX9_isCard_11 (fun b1 h => ?_)
  obtain ⟨hz, h⟩ := jgz_s h
  cases h
  exact j_zret (pc := 14) rfl hz dX9_isCard_14 (Nat.le_of_ble_eq_true rfl) (Nat.le_of_ble_eq_true rfl) (jd_i rfl rfl)
set_option maxRecDepth 20000 in
theorem c_X9_where {l : Launch} {E : jE} {F : Nat} {x1 : Int32} {v_o_order : Int64} {v_o_laid_cards : Int32} {a_o a_o_text a_o_draft a_o_laid a_o_past a_o_kept a_o_sightings a_o_finder a_o_mix : Nat} {w_o_laid_colours : Int32} {w_o_laid_acts : Int32} {w_o_laid_deal : Int64} {w_o_laid_cardsAreFixed : Int32} : ∀ u : Int32, f_X9_where F x1 v_o_order v_o_laid_cards = some u → jM l E K_X9_where [.ref a_o, .int x1] [jO a_o 6 [.ref a_o_text, .ref a_o_draft, .ref a_o_laid, .ref a_o_past, .ref a_o_kept, .ref a_o_sightings, .ref a_o_finder, .ref a_o_mix, .long v_o_order], jO a_o_laid 2 [.int v_o_laid_cards, .int w_o_laid_colours, .int w_o_laid_acts, .long w_o_laid_deal, .int w_o_laid_cardsAreFixed]] (jd (some (.int u)) [jO a_o 6 [.ref a_o_text, .ref a_o_draft, .ref a_o_laid, .ref a_o_past, .ref a_o_kept, .ref a_o_sightings, .ref a_o_finder, .ref a_o_mix, .long v_o_order], jO a_o_laid 2 [.int v_o_laid_cards, .int w_o_laid_colours, .int w_o_laid_acts, .long w_o_laid_deal, .int w_o_laid_cardsAreFixed]]) := by
  intro u h
  unfold f_X9_where at h
  refine j_met [(0, .ref a_o), (1, .int x1)] (by decide +kernel) (Nat.le_of_ble_eq_true rfl) rfl ?_
  refine j_aload_n (pc := 0) 0 dX9_where_0 rfl rfl ?_
  refine j_iload_n (pc := 1) 1 dX9_where_1 rfl rfl ?_
  refine j_V (pc := 2) (q0 := 0) (Kc := K_X9_isCard) (As := [.int x1]) (rest := []) (wc := [jO a_o 6 [.ref a_o_text, .ref a_o_draft, .ref a_o_laid, .ref a_o_past, .ref a_o_kept, .ref a_o_sightings, .ref a_o_finder, .ref a_o_mix, .long v_o_order], jO a_o_laid 2 [.int v_o_laid_cards, .int w_o_laid_colours, .int w_o_laid_acts, .long w_o_laid_deal, .int w_o_laid_cardsAreFixed]]) (w' := fun b1 => [jO a_o 6 [.ref a_o_text, .ref a_o_draft, .ref a_o_laid, .ref a_o_past, .ref a_o_kept, .ref a_o_sightings, .ref a_o_finder, .ref a_o_mix, .long v_o_order], jO a_o_laid 2 [.int v_o_laid_cards, .int w_o_laid_colours, .int w_o_laid_acts, .long w_o_laid_deal, .int w_o_laid_cardsAreFixed]]) (st1 := fun b1 => [.int b1]) [0, 1] rfl rfl rfl h c_X9_isCard q_X9_isCard m2_43 rfl rfl (Nat.le_of_ble_eq_true rfl) ⟨(Nat.le_of_ble_eq_true rfl), (Nat.le_of_ble_eq_true rfl)⟩ ⟨rfl, rfl⟩ ⟨(Nat.le_of_ble_eq_true rfl), (Nat.le_of_ble_eq_true rfl)⟩ dX9_where_2 rfl (by decide) (fun _ => rfl) (fun _ => rfl) (fun _ => rfl) (fun b1 h => ?_)
  refine j_if_eq (pc := 5) (tgt := 26) dX9_where_5 (by decide) h (fun h => ?_) (fun h => ?_)
  · refine j_iconst (pc := 26) dX9_where_26 ic_m1 ?_
    cases h
    exact j_iret (pc := 27) rfl dX9_where_27 (Nat.le_of_ble_eq_true rfl) (Nat.le_of_ble_eq_true rfl) (jd_i rfl rfl)
  · refine j_aload_n (pc := 8) 0 dX9_where_8 rfl rfl ?_
    refine j_get (pc := 9) (v := .long v_o_order) 0 8 rfl rfl (Nat.le_of_ble_eq_true rfl) iwX9 m1_196 rfl dX9_where_9 ?_
    refine j_aload_n (pc := 12) 0 dX9_where_12 rfl rfl ?_
    refine j_get (pc := 13) (v := .ref a_o_laid) 0 2 rfl rfl (Nat.le_of_ble_eq_true rfl) iwX9 m1_190 rfl dX9_where_13 ?_
    refine j_getN (pc := 16) (v := .int v_o_laid_cards) 1 0 rfl rfl (Nat.le_of_ble_eq_true rfl) iwX5 (List.mem_of_getElem? (i := 0) rfl) rfl dX9_where_16 ?_
    refine j_iload_n (pc := 19) 1 dX9_where_19 rfl rfl ?_
    refine j_S0 (pc := 20) (Kc := K_X4_placeOf) (As := [.long v_o_order, .int v_o_laid_cards, .int x1]) (rest := []) h c_X4_placeOf q_X4_placeOf m2_47 rfl rfl (Nat.le_of_ble_eq_true rfl) ⟨(Nat.le_of_ble_eq_true rfl), (Nat.le_of_ble_eq_true rfl)⟩ ⟨rfl, rfl⟩ ⟨(Nat.le_of_ble_eq_true rfl), (Nat.le_of_ble_eq_true rfl)⟩ dX9_where_20 (fun b2 h => ?_)
    refine j_goto (pc := 23) (tgt := 27) dX9_where_23 (by decide) ?_
    cases h
    exact j_iret (pc := 27) rfl dX9_where_27 (Nat.le_of_ble_eq_true rfl) (Nat.le_of_ble_eq_true rfl) (jd_i rfl rfl)
set_option maxRecDepth 20000 in
theorem c_X9_colour {l : Launch} {E : jE} {F : Nat} {x1 : Int32} {v_o_laid_cards : Int32} {v_o_laid_colours : Int32} {a_o a_o_text a_o_draft a_o_laid a_o_past a_o_kept a_o_sightings a_o_finder a_o_mix : Nat} {w_o_order : Int64} {w_o_laid_acts : Int32} {w_o_laid_deal : Int64} {w_o_laid_cardsAreFixed : Int32} : ∀ u : Int32, f_X9_colour F x1 v_o_laid_cards v_o_laid_colours = some u → jM l E K_X9_colour [.ref a_o, .int x1] [jO a_o 6 [.ref a_o_text, .ref a_o_draft, .ref a_o_laid, .ref a_o_past, .ref a_o_kept, .ref a_o_sightings, .ref a_o_finder, .ref a_o_mix, .long w_o_order], jO a_o_laid 2 [.int v_o_laid_cards, .int v_o_laid_colours, .int w_o_laid_acts, .long w_o_laid_deal, .int w_o_laid_cardsAreFixed]] (jd (some (.int u)) [jO a_o 6 [.ref a_o_text, .ref a_o_draft, .ref a_o_laid, .ref a_o_past, .ref a_o_kept, .ref a_o_sightings, .ref a_o_finder, .ref a_o_mix, .long w_o_order], jO a_o_laid 2 [.int v_o_laid_cards, .int v_o_laid_colours, .int w_o_laid_acts, .long w_o_laid_deal, .int w_o_laid_cardsAreFixed]]) := by
  intro u h
  unfold f_X9_colour at h
  refine j_met [(0, .ref a_o), (1, .int x1)] (by decide +kernel) (Nat.le_of_ble_eq_true rfl) rfl ?_
  refine j_aload_n (pc := 0) 0 dX9_colour_0 rfl rfl ?_
  refine j_iload_n (pc := 1) 1 dX9_colour_1 rfl rfl ?_
  refine j_V (pc := 2) (q0 := 0) (Kc := K_X9_isCard) (As := [.int x1]) (rest := []) (wc := [jO a_o 6 [.ref a_o_text, .ref a_o_draft, .ref a_o_laid, .ref a_o_past, .ref a_o_kept, .ref a_o_sightings, .ref a_o_finder, .ref a_o_mix, .long w_o_order], jO a_o_laid 2 [.int v_o_laid_cards, .int v_o_laid_colours, .int w_o_laid_acts, .long w_o_laid_deal, .int w_o_laid_cardsAreFixed]]) (w' := fun b1 => [jO a_o 6 [.ref a_o_text, .ref a_o_draft, .ref a_o_laid, .ref a_o_past, .ref a_o_kept, .ref a_o_sightings, .ref a_o_finder, .ref a_o_mix, .long w_o_order], jO a_o_laid 2 [.int v_o_laid_cards, .int v_o_laid_colours, .int w_o_laid_acts, .long w_o_laid_deal, .int w_o_laid_cardsAreFixed]]) (st1 := fun b1 => [.int b1]) [0, 1] rfl rfl rfl h c_X9_isCard q_X9_isCard m2_43 rfl rfl (Nat.le_of_ble_eq_true rfl) ⟨(Nat.le_of_ble_eq_true rfl), (Nat.le_of_ble_eq_true rfl)⟩ ⟨rfl, rfl⟩ ⟨(Nat.le_of_ble_eq_true rfl), (Nat.le_of_ble_eq_true rfl)⟩ dX9_colour_2 rfl (by decide) (fun _ => rfl) (fun _ => rfl) (fun _ => rfl) (fun b1 h => ?_)
  refine j_if_eq (pc := 5) (tgt := 19) dX9_colour_5 (by decide) h (fun h => ?_) (fun h => ?_)
  · refine j_iconst (pc := 19) dX9_colour_19 ic_m1 ?_
    cases h
    exact j_iret (pc := 20) rfl dX9_colour_20 (Nat.le_of_ble_eq_true rfl) (Nat.le_of_ble_eq_true rfl) (jd_i rfl rfl)
  · refine j_aload_n (pc := 8) 0 dX9_colour_8 rfl rfl ?_
    refine j_get (pc := 9) (v := .ref a_o_laid) 0 2 rfl rfl (Nat.le_of_ble_eq_true rfl) iwX9 m1_190 rfl dX9_colour_9 ?_
    refine j_iload_n (pc := 12) 1 dX9_colour_12 rfl rfl ?_
    refine j_V (pc := 13) (q0 := 1) (Kc := K_X5_colourOf) (As := [.int x1]) (rest := []) (wc := [jO a_o_laid 2 [.int v_o_laid_cards, .int v_o_laid_colours, .int w_o_laid_acts, .long w_o_laid_deal, .int w_o_laid_cardsAreFixed]]) (w' := fun b2 => [jO a_o 6 [.ref a_o_text, .ref a_o_draft, .ref a_o_laid, .ref a_o_past, .ref a_o_kept, .ref a_o_sightings, .ref a_o_finder, .ref a_o_mix, .long w_o_order], jO a_o_laid 2 [.int v_o_laid_cards, .int v_o_laid_colours, .int w_o_laid_acts, .long w_o_laid_deal, .int w_o_laid_cardsAreFixed]]) (st1 := fun b2 => [.int b2]) [1] rfl rfl rfl h c_X5_colourOf q_X5_colourOf m2_54 rfl rfl (Nat.le_of_ble_eq_true rfl) ⟨(Nat.le_of_ble_eq_true rfl), (Nat.le_of_ble_eq_true rfl)⟩ ⟨rfl, rfl⟩ ⟨(Nat.le_of_ble_eq_true rfl), (Nat.le_of_ble_eq_true rfl)⟩ dX9_colour_13 rfl (by decide) (fun _ => rfl) (fun _ => rfl) (fun _ => rfl) (fun b2 h => ?_)
    refine j_goto (pc := 16) (tgt := 20) dX9_colour_16 (by decide) ?_
    cases h
    exact j_iret (pc := 20) rfl dX9_colour_20 (Nat.le_of_ble_eq_true rfl) (Nat.le_of_ble_eq_true rfl) (jd_i rfl rfl)
set_option maxRecDepth 20000 in
theorem c_X9_act {l : Launch} {E : jE} {F : Nat} {x1 : Int64} {v_o_laid_cards : Int32} {a_o a_o_text a_o_draft a_o_laid a_o_past a_o_kept a_o_sightings a_o_finder a_o_mix a_o_past_stored : Nat} {w_o_laid_colours : Int32} {w_o_laid_acts : Int32} {w_o_laid_deal : Int64} {w_o_laid_cardsAreFixed : Int32} {v_o_order : Int64} {v_o_past_held : Int32} {f_o_past_stored : Nat → Int64} : ∀ u : Int32 × Int64 × Int32 × (Nat → Int64), f_X9_act F x1 v_o_laid_cards v_o_order v_o_past_held f_o_past_stored = some u → jM l E K_X9_act [.ref a_o, .long x1] [jO a_o 6 [.ref a_o_text, .ref a_o_draft, .ref a_o_laid, .ref a_o_past, .ref a_o_kept, .ref a_o_sightings, .ref a_o_finder, .ref a_o_mix, .long v_o_order], jO a_o_laid 2 [.int v_o_laid_cards, .int w_o_laid_colours, .int w_o_laid_acts, .long w_o_laid_deal, .int w_o_laid_cardsAreFixed], jO a_o_past 3 [.ref a_o_past_stored, .int v_o_past_held], jJ E a_o_past_stored 8 f_o_past_stored] (jd (some (.int u.1)) [jO a_o 6 [.ref a_o_text, .ref a_o_draft, .ref a_o_laid, .ref a_o_past, .ref a_o_kept, .ref a_o_sightings, .ref a_o_finder, .ref a_o_mix, .long u.2.1], jO a_o_laid 2 [.int v_o_laid_cards, .int w_o_laid_colours, .int w_o_laid_acts, .long w_o_laid_deal, .int w_o_laid_cardsAreFixed], jO a_o_past 3 [.ref a_o_past_stored, .int u.2.2.1], jJ E a_o_past_stored 8 u.2.2.2]) := by
  intro u h
  unfold f_X9_act at h
  refine j_met [(0, .ref a_o), (1, .long x1)] (by decide +kernel) (Nat.le_of_ble_eq_true rfl) rfl ?_
  refine j_aload_n (pc := 0) 0 dX9_act_0 rfl rfl ?_
  refine j_get (pc := 1) (v := .ref a_o_past) 0 3 rfl rfl (Nat.le_of_ble_eq_true rfl) iwX9 m1_191 rfl dX9_act_1 ?_
  refine j_aload_n (pc := 4) 0 dX9_act_4 rfl rfl ?_
  refine j_get (pc := 5) (v := .long v_o_order) 0 8 rfl rfl (Nat.le_of_ble_eq_true rfl) iwX9 m1_196 rfl dX9_act_5 ?_
  refine j_V (pc := 8) (q0 := 2) (Kc := K_X6_put) (As := [.long v_o_order]) (rest := []) (wc := [jO a_o_past 3 [.ref a_o_past_stored, .int v_o_past_held], jJ E a_o_past_stored 8 f_o_past_stored]) (w' := fun b1 => [jO a_o 6 [.ref a_o_text, .ref a_o_draft, .ref a_o_laid, .ref a_o_past, .ref a_o_kept, .ref a_o_sightings, .ref a_o_finder, .ref a_o_mix, .long v_o_order], jO a_o_laid 2 [.int v_o_laid_cards, .int w_o_laid_colours, .int w_o_laid_acts, .long w_o_laid_deal, .int w_o_laid_cardsAreFixed], jO a_o_past 3 [.ref a_o_past_stored, .int b1.1], jJ E a_o_past_stored 8 b1.2]) (st1 := fun b1 => []) [2, 3] rfl rfl rfl h c_X6_put q_X6_put m2_68 rfl rfl (Nat.le_of_ble_eq_true rfl) ⟨(Nat.le_of_ble_eq_true rfl), (Nat.le_of_ble_eq_true rfl)⟩ ⟨rfl, rfl⟩ ⟨(Nat.le_of_ble_eq_true rfl), (Nat.le_of_ble_eq_true rfl)⟩ dX9_act_8 rfl (by decide) (fun _ => rfl) (fun _ => rfl) (fun _ => rfl) (fun b1 h => ?_)
  refine j_aload_n (pc := 11) 0 dX9_act_11 rfl rfl ?_
  refine j_aload_n (pc := 12) 0 dX9_act_12 rfl rfl ?_
  refine j_get (pc := 13) (v := .long v_o_order) 0 8 rfl rfl (Nat.le_of_ble_eq_true rfl) iwX9 m1_196 rfl dX9_act_13 ?_
  refine j_lload_n (pc := 16) 1 dX9_act_16 rfl rfl ?_
  refine j_aload_n (pc := 17) 0 dX9_act_17 rfl rfl ?_
  refine j_get (pc := 18) (v := .ref a_o_laid) 0 2 rfl rfl (Nat.le_of_ble_eq_true rfl) iwX9 m1_190 rfl dX9_act_18 ?_
  refine j_getN (pc := 21) (v := .int v_o_laid_cards) 1 0 rfl rfl (Nat.le_of_ble_eq_true rfl) iwX5 (List.mem_of_getElem? (i := 0) rfl) rfl dX9_act_21 ?_
  refine j_S0 (pc := 24) (Kc := K_X4_moved) (As := [.long v_o_order, .long x1, .int v_o_laid_cards]) (rest := [.ref a_o]) h c_X4_moved q_X4_moved m2_79 rfl rfl (Nat.le_of_ble_eq_true rfl) ⟨(Nat.le_of_ble_eq_true rfl), (Nat.le_of_ble_eq_true rfl)⟩ ⟨rfl, rfl⟩ ⟨(Nat.le_of_ble_eq_true rfl), (Nat.le_of_ble_eq_true rfl)⟩ dX9_act_24 (fun b2 h => ?_)
  refine j_put (pc := 27) (w' := [jO a_o 6 [.ref a_o_text, .ref a_o_draft, .ref a_o_laid, .ref a_o_past, .ref a_o_kept, .ref a_o_sightings, .ref a_o_finder, .ref a_o_mix, .long b2], jO a_o_laid 2 [.int v_o_laid_cards, .int w_o_laid_colours, .int w_o_laid_acts, .long w_o_laid_deal, .int w_o_laid_cardsAreFixed], jO a_o_past 3 [.ref a_o_past_stored, .int b1.1], jJ E a_o_past_stored 8 b1.2]) tyX9 0 8 tyX9_ok nmX9 rfl rfl (Nat.le_of_ble_eq_true rfl) iwX9 m1_196 rfl rfl rfl rfl (Nat.le_of_ble_eq_true rfl) dX9_act_27 rfl ?_
  refine j_aload_n (pc := 30) 0 dX9_act_30 rfl rfl ?_
  refine j_get (pc := 31) (v := .long b2) 0 8 rfl rfl (Nat.le_of_ble_eq_true rfl) iwX9 m1_196 rfl dX9_act_31 ?_
  refine j_iconst (pc := 34) dX9_act_34 ic_0 ?_
  refine j_S0 (pc := 35) (Kc := K_X4_cardAt) (As := [.long b2, .int (0 : Int32)]) (rest := []) h c_X4_cardAt q_X4_cardAt m2_38 rfl rfl (Nat.le_of_ble_eq_true rfl) ⟨(Nat.le_of_ble_eq_true rfl), (Nat.le_of_ble_eq_true rfl)⟩ ⟨rfl, rfl⟩ ⟨(Nat.le_of_ble_eq_true rfl), (Nat.le_of_ble_eq_true rfl)⟩ dX9_act_35 (fun b3 h => ?_)
  cases h
  exact j_iret (pc := 38) rfl dX9_act_38 (Nat.le_of_ble_eq_true rfl) (Nat.le_of_ble_eq_true rfl) (jd_i rfl rfl)
set_option maxRecDepth 20000 in
theorem c_X9_lace {l : Launch} {E : jE} {F : Nat} {x1 : Int32} {v_o_laid_cards : Int32} {a_o a_o_text a_o_draft a_o_laid a_o_past a_o_kept a_o_sightings a_o_finder a_o_mix a_o_past_stored : Nat} {w_o_laid_colours : Int32} {w_o_laid_acts : Int32} {w_o_laid_deal : Int64} {w_o_laid_cardsAreFixed : Int32} {v_o_order : Int64} {v_o_past_held : Int32} {f_o_past_stored : Nat → Int64} : ∀ u : Int32 × Int64 × Int32 × (Nat → Int64), f_X9_lace F x1 v_o_laid_cards v_o_order v_o_past_held f_o_past_stored = some u → jM l E K_X9_lace [.ref a_o, .int x1] [jO a_o 6 [.ref a_o_text, .ref a_o_draft, .ref a_o_laid, .ref a_o_past, .ref a_o_kept, .ref a_o_sightings, .ref a_o_finder, .ref a_o_mix, .long v_o_order], jO a_o_laid 2 [.int v_o_laid_cards, .int w_o_laid_colours, .int w_o_laid_acts, .long w_o_laid_deal, .int w_o_laid_cardsAreFixed], jO a_o_past 3 [.ref a_o_past_stored, .int v_o_past_held], jJ E a_o_past_stored 8 f_o_past_stored] (jd (some (.int u.1)) [jO a_o 6 [.ref a_o_text, .ref a_o_draft, .ref a_o_laid, .ref a_o_past, .ref a_o_kept, .ref a_o_sightings, .ref a_o_finder, .ref a_o_mix, .long u.2.1], jO a_o_laid 2 [.int v_o_laid_cards, .int w_o_laid_colours, .int w_o_laid_acts, .long w_o_laid_deal, .int w_o_laid_cardsAreFixed], jO a_o_past 3 [.ref a_o_past_stored, .int u.2.2.1], jJ E a_o_past_stored 8 u.2.2.2]) := by
  intro u h
  unfold f_X9_lace at h
  refine j_met [(0, .ref a_o), (1, .int x1)] (by decide +kernel) (Nat.le_of_ble_eq_true rfl) rfl ?_
  refine j_iload_n (pc := 0) 1 dX9_lace_0 rfl rfl ?_
  refine j_S0 (pc := 1) (Kc := K_X9_isKind) (As := [.int x1]) (rest := []) h c_X9_isKind q_X9_isKind m2_62 rfl rfl (Nat.le_of_ble_eq_true rfl) ⟨(Nat.le_of_ble_eq_true rfl), (Nat.le_of_ble_eq_true rfl)⟩ ⟨rfl, rfl⟩ ⟨(Nat.le_of_ble_eq_true rfl), (Nat.le_of_ble_eq_true rfl)⟩ dX9_lace_1 (fun b1 h => ?_)
  refine j_if_eq (pc := 4) (tgt := 25) dX9_lace_4 (by decide) h (fun h => ?_) (fun h => ?_)
  · refine j_iconst (pc := 25) dX9_lace_25 ic_m1 ?_
    cases h
    exact j_iret (pc := 26) rfl dX9_lace_26 (Nat.le_of_ble_eq_true rfl) (Nat.le_of_ble_eq_true rfl) (jd_i rfl rfl)
  · refine j_aload_n (pc := 7) 0 dX9_lace_7 rfl rfl ?_
    refine j_iload_n (pc := 8) 1 dX9_lace_8 rfl rfl ?_
    refine j_aload_n (pc := 9) 0 dX9_lace_9 rfl rfl ?_
    refine j_get (pc := 10) (v := .ref a_o_laid) 0 2 rfl rfl (Nat.le_of_ble_eq_true rfl) iwX9 m1_190 rfl dX9_lace_10 ?_
    refine j_getN (pc := 13) (v := .int v_o_laid_cards) 1 0 rfl rfl (Nat.le_of_ble_eq_true rfl) iwX5 (List.mem_of_getElem? (i := 0) rfl) rfl dX9_lace_13 ?_
    refine j_S0 (pc := 16) (Kc := K_X3_lacing) (As := [.int x1, .int v_o_laid_cards]) (rest := [.ref a_o]) h c_X3_lacing q_X3_lacing m2_63 rfl rfl (Nat.le_of_ble_eq_true rfl) ⟨(Nat.le_of_ble_eq_true rfl), (Nat.le_of_ble_eq_true rfl)⟩ ⟨rfl, rfl⟩ ⟨(Nat.le_of_ble_eq_true rfl), (Nat.le_of_ble_eq_true rfl)⟩ dX9_lace_16 (fun b2 h => ?_)
    refine j_V (pc := 19) (q0 := 0) (Kc := K_X9_act) (As := [.long b2]) (rest := []) (wc := [jO a_o 6 [.ref a_o_text, .ref a_o_draft, .ref a_o_laid, .ref a_o_past, .ref a_o_kept, .ref a_o_sightings, .ref a_o_finder, .ref a_o_mix, .long v_o_order], jO a_o_laid 2 [.int v_o_laid_cards, .int w_o_laid_colours, .int w_o_laid_acts, .long w_o_laid_deal, .int w_o_laid_cardsAreFixed], jO a_o_past 3 [.ref a_o_past_stored, .int v_o_past_held], jJ E a_o_past_stored 8 f_o_past_stored]) (w' := fun b3 => [jO a_o 6 [.ref a_o_text, .ref a_o_draft, .ref a_o_laid, .ref a_o_past, .ref a_o_kept, .ref a_o_sightings, .ref a_o_finder, .ref a_o_mix, .long b3.2.1], jO a_o_laid 2 [.int v_o_laid_cards, .int w_o_laid_colours, .int w_o_laid_acts, .long w_o_laid_deal, .int w_o_laid_cardsAreFixed], jO a_o_past 3 [.ref a_o_past_stored, .int b3.2.2.1], jJ E a_o_past_stored 8 b3.2.2.2]) (st1 := fun b3 => [.int b3.1]) [0, 1, 2, 3] rfl rfl rfl h c_X9_act q_X9_act m2_64 rfl rfl (Nat.le_of_ble_eq_true rfl) ⟨(Nat.le_of_ble_eq_true rfl), (Nat.le_of_ble_eq_true rfl)⟩ ⟨rfl, rfl⟩ ⟨(Nat.le_of_ble_eq_true rfl), (Nat.le_of_ble_eq_true rfl)⟩ dX9_lace_19 rfl (by decide) (fun _ => rfl) (fun _ => rfl) (fun _ => rfl) (fun b3 h => ?_)
    refine j_goto (pc := 22) (tgt := 26) dX9_lace_22 (by decide) ?_
    cases h
    exact j_iret (pc := 26) rfl dX9_lace_26 (Nat.le_of_ble_eq_true rfl) (Nat.le_of_ble_eq_true rfl) (jd_i rfl rfl)
set_option maxRecDepth 20000 in
theorem c_X9_cut {l : Launch} {E : jE} {F : Nat} {x1 : Int32} {v_o_laid_cards : Int32} {a_o a_o_text a_o_draft a_o_laid a_o_past a_o_kept a_o_sightings a_o_finder a_o_mix a_o_past_stored : Nat} {w_o_laid_colours : Int32} {w_o_laid_acts : Int32} {w_o_laid_deal : Int64} {w_o_laid_cardsAreFixed : Int32} {v_o_order : Int64} {v_o_past_held : Int32} {f_o_past_stored : Nat → Int64} : ∀ u : Int32 × Int64 × Int32 × (Nat → Int64), f_X9_cut F x1 v_o_laid_cards v_o_order v_o_past_held f_o_past_stored = some u → jM l E K_X9_cut [.ref a_o, .int x1] [jO a_o 6 [.ref a_o_text, .ref a_o_draft, .ref a_o_laid, .ref a_o_past, .ref a_o_kept, .ref a_o_sightings, .ref a_o_finder, .ref a_o_mix, .long v_o_order], jO a_o_laid 2 [.int v_o_laid_cards, .int w_o_laid_colours, .int w_o_laid_acts, .long w_o_laid_deal, .int w_o_laid_cardsAreFixed], jO a_o_past 3 [.ref a_o_past_stored, .int v_o_past_held], jJ E a_o_past_stored 8 f_o_past_stored] (jd (some (.int u.1)) [jO a_o 6 [.ref a_o_text, .ref a_o_draft, .ref a_o_laid, .ref a_o_past, .ref a_o_kept, .ref a_o_sightings, .ref a_o_finder, .ref a_o_mix, .long u.2.1], jO a_o_laid 2 [.int v_o_laid_cards, .int w_o_laid_colours, .int w_o_laid_acts, .long w_o_laid_deal, .int w_o_laid_cardsAreFixed], jO a_o_past 3 [.ref a_o_past_stored, .int u.2.2.1], jJ E a_o_past_stored 8 u.2.2.2]) := by
  intro u h
  unfold f_X9_cut at h
  refine j_met [(0, .ref a_o), (1, .int x1)] (by decide +kernel) (Nat.le_of_ble_eq_true rfl) rfl ?_
  refine j_iload_n (pc := 0) 1 dX9_cut_0 rfl rfl ?_
  refine j_iconst (pc := 1) dX9_cut_1 ic_0 ?_
  refine j_aload_n (pc := 2) 0 dX9_cut_2 rfl rfl ?_
  refine j_get (pc := 3) (v := .ref a_o_laid) 0 2 rfl rfl (Nat.le_of_ble_eq_true rfl) iwX9 m1_190 rfl dX9_cut_3 ?_
  refine j_getN (pc := 6) (v := .int v_o_laid_cards) 1 0 rfl rfl (Nat.le_of_ble_eq_true rfl) iwX5 (List.mem_of_getElem? (i := 0) rfl) rfl dX9_cut_6 ?_
  refine j_iconst (pc := 9) dX9_cut_9 ic_1 ?_
  refine j_isub (pc := 10) dX9_cut_10 ?_
  refine j_S0 (pc := 11) (Kc := K_X9_within) (As := [.int x1, .int (0 : Int32), .int (v_o_laid_cards - (1 : Int32))]) (rest := []) h c_X9_within q_X9_within m1_157 rfl rfl (Nat.le_of_ble_eq_true rfl) ⟨(Nat.le_of_ble_eq_true rfl), (Nat.le_of_ble_eq_true rfl)⟩ ⟨rfl, rfl⟩ ⟨(Nat.le_of_ble_eq_true rfl), (Nat.le_of_ble_eq_true rfl)⟩ dX9_cut_11 (fun b1 h => ?_)
  refine j_if_eq (pc := 14) (tgt := 35) dX9_cut_14 (by decide) h (fun h => ?_) (fun h => ?_)
  · refine j_iconst (pc := 35) dX9_cut_35 ic_m1 ?_
    cases h
    exact j_iret (pc := 36) rfl dX9_cut_36 (Nat.le_of_ble_eq_true rfl) (Nat.le_of_ble_eq_true rfl) (jd_i rfl rfl)
  · refine j_aload_n (pc := 17) 0 dX9_cut_17 rfl rfl ?_
    refine j_iload_n (pc := 18) 1 dX9_cut_18 rfl rfl ?_
    refine j_aload_n (pc := 19) 0 dX9_cut_19 rfl rfl ?_
    refine j_get (pc := 20) (v := .ref a_o_laid) 0 2 rfl rfl (Nat.le_of_ble_eq_true rfl) iwX9 m1_190 rfl dX9_cut_20 ?_
    refine j_getN (pc := 23) (v := .int v_o_laid_cards) 1 0 rfl rfl (Nat.le_of_ble_eq_true rfl) iwX5 (List.mem_of_getElem? (i := 0) rfl) rfl dX9_cut_23 ?_
    refine j_S0 (pc := 26) (Kc := K_X3_cutAt) (As := [.int x1, .int v_o_laid_cards]) (rest := [.ref a_o]) h c_X3_cutAt q_X3_cutAt m2_84 rfl rfl (Nat.le_of_ble_eq_true rfl) ⟨(Nat.le_of_ble_eq_true rfl), (Nat.le_of_ble_eq_true rfl)⟩ ⟨rfl, rfl⟩ ⟨(Nat.le_of_ble_eq_true rfl), (Nat.le_of_ble_eq_true rfl)⟩ dX9_cut_26 (fun b2 h => ?_)
    refine j_V (pc := 29) (q0 := 0) (Kc := K_X9_act) (As := [.long b2]) (rest := []) (wc := [jO a_o 6 [.ref a_o_text, .ref a_o_draft, .ref a_o_laid, .ref a_o_past, .ref a_o_kept, .ref a_o_sightings, .ref a_o_finder, .ref a_o_mix, .long v_o_order], jO a_o_laid 2 [.int v_o_laid_cards, .int w_o_laid_colours, .int w_o_laid_acts, .long w_o_laid_deal, .int w_o_laid_cardsAreFixed], jO a_o_past 3 [.ref a_o_past_stored, .int v_o_past_held], jJ E a_o_past_stored 8 f_o_past_stored]) (w' := fun b3 => [jO a_o 6 [.ref a_o_text, .ref a_o_draft, .ref a_o_laid, .ref a_o_past, .ref a_o_kept, .ref a_o_sightings, .ref a_o_finder, .ref a_o_mix, .long b3.2.1], jO a_o_laid 2 [.int v_o_laid_cards, .int w_o_laid_colours, .int w_o_laid_acts, .long w_o_laid_deal, .int w_o_laid_cardsAreFixed], jO a_o_past 3 [.ref a_o_past_stored, .int b3.2.2.1], jJ E a_o_past_stored 8 b3.2.2.2]) (st1 := fun b3 => [.int b3.1]) [0, 1, 2, 3] rfl rfl rfl h c_X9_act q_X9_act m2_64 rfl rfl (Nat.le_of_ble_eq_true rfl) ⟨(Nat.le_of_ble_eq_true rfl), (Nat.le_of_ble_eq_true rfl)⟩ ⟨rfl, rfl⟩ ⟨(Nat.le_of_ble_eq_true rfl), (Nat.le_of_ble_eq_true rfl)⟩ dX9_cut_29 rfl (by decide) (fun _ => rfl) (fun _ => rfl) (fun _ => rfl) (fun b3 h => ?_)
    refine j_goto (pc := 32) (tgt := 36) dX9_cut_32 (by decide) ?_
    cases h
    exact j_iret (pc := 36) rfl dX9_cut_36 (Nat.le_of_ble_eq_true rfl) (Nat.le_of_ble_eq_true rfl) (jd_i rfl rfl)
set_option maxRecDepth 20000 in
theorem c_X9_turn {l : Launch} {E : jE} {F : Nat} {v_o_laid_cards : Int32} {a_o a_o_text a_o_draft a_o_laid a_o_past a_o_kept a_o_sightings a_o_finder a_o_mix a_o_past_stored : Nat} {w_o_laid_colours : Int32} {w_o_laid_acts : Int32} {w_o_laid_deal : Int64} {w_o_laid_cardsAreFixed : Int32} {v_o_order : Int64} {v_o_past_held : Int32} {f_o_past_stored : Nat → Int64} : ∀ u : Int32 × Int64 × Int32 × (Nat → Int64), f_X9_turn F v_o_laid_cards v_o_order v_o_past_held f_o_past_stored = some u → jM l E K_X9_turn [.ref a_o] [jO a_o 6 [.ref a_o_text, .ref a_o_draft, .ref a_o_laid, .ref a_o_past, .ref a_o_kept, .ref a_o_sightings, .ref a_o_finder, .ref a_o_mix, .long v_o_order], jO a_o_laid 2 [.int v_o_laid_cards, .int w_o_laid_colours, .int w_o_laid_acts, .long w_o_laid_deal, .int w_o_laid_cardsAreFixed], jO a_o_past 3 [.ref a_o_past_stored, .int v_o_past_held], jJ E a_o_past_stored 8 f_o_past_stored] (jd (some (.int u.1)) [jO a_o 6 [.ref a_o_text, .ref a_o_draft, .ref a_o_laid, .ref a_o_past, .ref a_o_kept, .ref a_o_sightings, .ref a_o_finder, .ref a_o_mix, .long u.2.1], jO a_o_laid 2 [.int v_o_laid_cards, .int w_o_laid_colours, .int w_o_laid_acts, .long w_o_laid_deal, .int w_o_laid_cardsAreFixed], jO a_o_past 3 [.ref a_o_past_stored, .int u.2.2.1], jJ E a_o_past_stored 8 u.2.2.2]) := by
  intro u h
  unfold f_X9_turn at h
  refine j_met [(0, .ref a_o)] (by decide +kernel) (Nat.le_of_ble_eq_true rfl) rfl ?_
  refine j_aload_n (pc := 0) 0 dX9_turn_0 rfl rfl ?_
  refine j_aload_n (pc := 1) 0 dX9_turn_1 rfl rfl ?_
  refine j_get (pc := 2) (v := .ref a_o_laid) 0 2 rfl rfl (Nat.le_of_ble_eq_true rfl) iwX9 m1_190 rfl dX9_turn_2 ?_
  refine j_getN (pc := 5) (v := .int v_o_laid_cards) 1 0 rfl rfl (Nat.le_of_ble_eq_true rfl) iwX5 (List.mem_of_getElem? (i := 0) rfl) rfl dX9_turn_5 ?_
  refine j_S0 (pc := 8) (Kc := K_X3_turnedOver) (As := [.int v_o_laid_cards]) (rest := [.ref a_o]) h c_X3_turnedOver q_X3_turnedOver m2_89 rfl rfl (Nat.le_of_ble_eq_true rfl) ⟨(Nat.le_of_ble_eq_true rfl), (Nat.le_of_ble_eq_true rfl)⟩ ⟨rfl, rfl⟩ ⟨(Nat.le_of_ble_eq_true rfl), (Nat.le_of_ble_eq_true rfl)⟩ dX9_turn_8 (fun b1 h => ?_)
  refine j_V (pc := 11) (q0 := 0) (Kc := K_X9_act) (As := [.long b1]) (rest := []) (wc := [jO a_o 6 [.ref a_o_text, .ref a_o_draft, .ref a_o_laid, .ref a_o_past, .ref a_o_kept, .ref a_o_sightings, .ref a_o_finder, .ref a_o_mix, .long v_o_order], jO a_o_laid 2 [.int v_o_laid_cards, .int w_o_laid_colours, .int w_o_laid_acts, .long w_o_laid_deal, .int w_o_laid_cardsAreFixed], jO a_o_past 3 [.ref a_o_past_stored, .int v_o_past_held], jJ E a_o_past_stored 8 f_o_past_stored]) (w' := fun b2 => [jO a_o 6 [.ref a_o_text, .ref a_o_draft, .ref a_o_laid, .ref a_o_past, .ref a_o_kept, .ref a_o_sightings, .ref a_o_finder, .ref a_o_mix, .long b2.2.1], jO a_o_laid 2 [.int v_o_laid_cards, .int w_o_laid_colours, .int w_o_laid_acts, .long w_o_laid_deal, .int w_o_laid_cardsAreFixed], jO a_o_past 3 [.ref a_o_past_stored, .int b2.2.2.1], jJ E a_o_past_stored 8 b2.2.2.2]) (st1 := fun b2 => [.int b2.1]) [0, 1, 2, 3] rfl rfl rfl h c_X9_act q_X9_act m2_64 rfl rfl (Nat.le_of_ble_eq_true rfl) ⟨(Nat.le_of_ble_eq_true rfl), (Nat.le_of_ble_eq_true rfl)⟩ ⟨rfl, rfl⟩ ⟨(Nat.le_of_ble_eq_true rfl), (Nat.le_of_ble_eq_true rfl)⟩ dX9_turn_11 rfl (by decide) (fun _ => rfl) (fun _ => rfl) (fun _ => rfl) (fun b2 h => ?_)
  cases h
  exact j_iret (pc := 14) rfl dX9_turn_14 (Nat.le_of_ble_eq_true rfl) (Nat.le_of_ble_eq_true rfl) (jd_i rfl rfl)
set_option maxRecDepth 20000 in
theorem c_X9_deal {l : Launch} {E : jE} {F : Nat} {v_o_laid_cards : Int32} {v_o_laid_deal : Int64} {a_o a_o_text a_o_draft a_o_laid a_o_past a_o_kept a_o_sightings a_o_finder a_o_mix a_o_past_stored : Nat} {w_o_laid_colours : Int32} {w_o_laid_acts : Int32} {w_o_laid_cardsAreFixed : Int32} {v_o_order : Int64} {v_o_past_held : Int32} {f_o_past_stored : Nat → Int64} : ∀ u : Int32 × Int64 × Int32 × (Nat → Int64), f_X9_deal F v_o_laid_cards v_o_laid_deal v_o_order v_o_past_held f_o_past_stored = some u → jM l E K_X9_deal [.ref a_o] [jO a_o 6 [.ref a_o_text, .ref a_o_draft, .ref a_o_laid, .ref a_o_past, .ref a_o_kept, .ref a_o_sightings, .ref a_o_finder, .ref a_o_mix, .long v_o_order], jO a_o_laid 2 [.int v_o_laid_cards, .int w_o_laid_colours, .int w_o_laid_acts, .long v_o_laid_deal, .int w_o_laid_cardsAreFixed], jO a_o_past 3 [.ref a_o_past_stored, .int v_o_past_held], jJ E a_o_past_stored 8 f_o_past_stored] (jd (some (.int u.1)) [jO a_o 6 [.ref a_o_text, .ref a_o_draft, .ref a_o_laid, .ref a_o_past, .ref a_o_kept, .ref a_o_sightings, .ref a_o_finder, .ref a_o_mix, .long u.2.1], jO a_o_laid 2 [.int v_o_laid_cards, .int w_o_laid_colours, .int w_o_laid_acts, .long v_o_laid_deal, .int w_o_laid_cardsAreFixed], jO a_o_past 3 [.ref a_o_past_stored, .int u.2.2.1], jJ E a_o_past_stored 8 u.2.2.2]) := by
  intro u h
  unfold f_X9_deal at h
  refine j_met [(0, .ref a_o)] (by decide +kernel) (Nat.le_of_ble_eq_true rfl) rfl ?_
  refine j_aload_n (pc := 0) 0 dX9_deal_0 rfl rfl ?_
  refine j_aload_n (pc := 1) 0 dX9_deal_1 rfl rfl ?_
  refine j_get (pc := 2) (v := .ref a_o_laid) 0 2 rfl rfl (Nat.le_of_ble_eq_true rfl) iwX9 m1_190 rfl dX9_deal_2 ?_
  refine j_getN (pc := 5) (v := .long v_o_laid_deal) 1 3 rfl rfl (Nat.le_of_ble_eq_true rfl) iwX5 (List.mem_of_getElem? (i := 4) rfl) rfl dX9_deal_5 ?_
  refine j_V (pc := 8) (q0 := 0) (Kc := K_X9_act) (As := [.long v_o_laid_deal]) (rest := []) (wc := [jO a_o 6 [.ref a_o_text, .ref a_o_draft, .ref a_o_laid, .ref a_o_past, .ref a_o_kept, .ref a_o_sightings, .ref a_o_finder, .ref a_o_mix, .long v_o_order], jO a_o_laid 2 [.int v_o_laid_cards, .int w_o_laid_colours, .int w_o_laid_acts, .long v_o_laid_deal, .int w_o_laid_cardsAreFixed], jO a_o_past 3 [.ref a_o_past_stored, .int v_o_past_held], jJ E a_o_past_stored 8 f_o_past_stored]) (w' := fun b1 => [jO a_o 6 [.ref a_o_text, .ref a_o_draft, .ref a_o_laid, .ref a_o_past, .ref a_o_kept, .ref a_o_sightings, .ref a_o_finder, .ref a_o_mix, .long b1.2.1], jO a_o_laid 2 [.int v_o_laid_cards, .int w_o_laid_colours, .int w_o_laid_acts, .long v_o_laid_deal, .int w_o_laid_cardsAreFixed], jO a_o_past 3 [.ref a_o_past_stored, .int b1.2.2.1], jJ E a_o_past_stored 8 b1.2.2.2]) (st1 := fun b1 => [.int b1.1]) [0, 1, 2, 3] rfl rfl rfl h c_X9_act q_X9_act m2_64 rfl rfl (Nat.le_of_ble_eq_true rfl) ⟨(Nat.le_of_ble_eq_true rfl), (Nat.le_of_ble_eq_true rfl)⟩ ⟨rfl, rfl⟩ ⟨(Nat.le_of_ble_eq_true rfl), (Nat.le_of_ble_eq_true rfl)⟩ dX9_deal_8 rfl (by decide) (fun _ => rfl) (fun _ => rfl) (fun _ => rfl) (fun b1 h => ?_)
  cases h
  exact j_iret (pc := 11) rfl dX9_deal_11 (Nat.le_of_ble_eq_true rfl) (Nat.le_of_ble_eq_true rfl) (jd_i rfl rfl)
set_option maxRecDepth 20000 in
theorem c_X9_undo {l : Launch} {E : jE} {F : Nat} {f_o_past_stored : Nat → Int64} {a_o a_o_text a_o_draft a_o_laid a_o_past a_o_kept a_o_sightings a_o_finder a_o_mix a_o_past_stored : Nat} {v_o_order : Int64} {v_o_past_held : Int32} : ∀ u : Int32 × Int64 × Int32, f_X9_undo F f_o_past_stored v_o_order v_o_past_held = some u → jM l E K_X9_undo [.ref a_o] [jO a_o 6 [.ref a_o_text, .ref a_o_draft, .ref a_o_laid, .ref a_o_past, .ref a_o_kept, .ref a_o_sightings, .ref a_o_finder, .ref a_o_mix, .long v_o_order], jO a_o_past 3 [.ref a_o_past_stored, .int v_o_past_held], jJ E a_o_past_stored 8 f_o_past_stored] (jd (some (.int u.1)) [jO a_o 6 [.ref a_o_text, .ref a_o_draft, .ref a_o_laid, .ref a_o_past, .ref a_o_kept, .ref a_o_sightings, .ref a_o_finder, .ref a_o_mix, .long u.2.1], jO a_o_past 3 [.ref a_o_past_stored, .int u.2.2], jJ E a_o_past_stored 8 f_o_past_stored]) := by
  intro u h
  unfold f_X9_undo at h
  refine j_met [(0, .ref a_o)] (by decide +kernel) (Nat.le_of_ble_eq_true rfl) rfl ?_
  refine j_aload_n (pc := 0) 0 dX9_undo_0 rfl rfl ?_
  refine j_get (pc := 1) (v := .ref a_o_past) 0 3 rfl rfl (Nat.le_of_ble_eq_true rfl) iwX9 m1_191 rfl dX9_undo_1 ?_
  refine j_getN (pc := 4) (v := .int v_o_past_held) 1 1 rfl rfl (Nat.le_of_ble_eq_true rfl) iwX6 (List.mem_of_getElem? (i := 3) rfl) rfl dX9_undo_4 ?_
  refine j_if_ne (pc := 7) (tgt := 13) dX9_undo_7 (by decide) h (fun h => ?_) (fun h => ?_)
  · refine j_aload_n (pc := 13) 0 dX9_undo_13 rfl rfl ?_
    refine j_aload_n (pc := 14) 0 dX9_undo_14 rfl rfl ?_
    refine j_get (pc := 15) (v := .ref a_o_past) 0 3 rfl rfl (Nat.le_of_ble_eq_true rfl) iwX9 m1_191 rfl dX9_undo_15 ?_
    refine j_V (pc := 18) (q0 := 1) (Kc := K_X6_takeLast) (As := []) (rest := [.ref a_o]) (wc := [jO a_o_past 3 [.ref a_o_past_stored, .int v_o_past_held], jJ E a_o_past_stored 8 f_o_past_stored]) (w' := fun b1 => [jO a_o 6 [.ref a_o_text, .ref a_o_draft, .ref a_o_laid, .ref a_o_past, .ref a_o_kept, .ref a_o_sightings, .ref a_o_finder, .ref a_o_mix, .long v_o_order], jO a_o_past 3 [.ref a_o_past_stored, .int b1.2], jJ E a_o_past_stored 8 f_o_past_stored]) (st1 := fun b1 => [.long b1.1, .ref a_o]) [1, 2] rfl rfl rfl h c_X6_takeLast q_X6_takeLast m2_100 rfl rfl (Nat.le_of_ble_eq_true rfl) ⟨(Nat.le_of_ble_eq_true rfl), (Nat.le_of_ble_eq_true rfl)⟩ ⟨rfl, rfl⟩ ⟨(Nat.le_of_ble_eq_true rfl), (Nat.le_of_ble_eq_true rfl)⟩ dX9_undo_18 rfl (by decide) (fun _ => rfl) (fun _ => rfl) (fun _ => rfl) (fun b1 h => ?_)
    refine j_put (pc := 21) (w' := [jO a_o 6 [.ref a_o_text, .ref a_o_draft, .ref a_o_laid, .ref a_o_past, .ref a_o_kept, .ref a_o_sightings, .ref a_o_finder, .ref a_o_mix, .long b1.1], jO a_o_past 3 [.ref a_o_past_stored, .int b1.2], jJ E a_o_past_stored 8 f_o_past_stored]) tyX9 0 8 tyX9_ok nmX9 rfl rfl (Nat.le_of_ble_eq_true rfl) iwX9 m1_196 rfl rfl rfl rfl (Nat.le_of_ble_eq_true rfl) dX9_undo_21 rfl ?_
    refine j_aload_n (pc := 24) 0 dX9_undo_24 rfl rfl ?_
    refine j_get (pc := 25) (v := .ref a_o_past) 0 3 rfl rfl (Nat.le_of_ble_eq_true rfl) iwX9 m1_191 rfl dX9_undo_25 ?_
    refine j_getN (pc := 28) (v := .int b1.2) 1 1 rfl rfl (Nat.le_of_ble_eq_true rfl) iwX6 (List.mem_of_getElem? (i := 3) rfl) rfl dX9_undo_28 ?_
    cases h
    exact j_iret (pc := 31) rfl dX9_undo_31 (Nat.le_of_ble_eq_true rfl) (Nat.le_of_ble_eq_true rfl) (jd_i rfl rfl)
  · refine j_bipush (pc := 10) dX9_undo_10 bc_m2 ?_
    cases h
    exact j_iret (pc := 12) rfl dX9_undo_12 (Nat.le_of_ble_eq_true rfl) (Nat.le_of_ble_eq_true rfl) (jd_i rfl rfl)
set_option maxRecDepth 20000 in
theorem c_X9_again {l : Launch} {E : jE} {F : Nat} {x1 : Int32} {v_o_laid_cards : Int32} {v_o_laid_deal : Int64} {a_o a_o_text a_o_draft a_o_laid a_o_past a_o_kept a_o_sightings a_o_finder a_o_mix : Nat} {w_o_order : Int64} {w_o_laid_colours : Int32} {w_o_laid_acts : Int32} {w_o_laid_cardsAreFixed : Int32} : ∀ u : Int32, f_X9_again F x1 v_o_laid_cards v_o_laid_deal = some u → jM l E K_X9_again [.ref a_o, .int x1] [jO a_o 6 [.ref a_o_text, .ref a_o_draft, .ref a_o_laid, .ref a_o_past, .ref a_o_kept, .ref a_o_sightings, .ref a_o_finder, .ref a_o_mix, .long w_o_order], jO a_o_laid 2 [.int v_o_laid_cards, .int w_o_laid_colours, .int w_o_laid_acts, .long v_o_laid_deal, .int w_o_laid_cardsAreFixed]] (jd (some (.int u)) [jO a_o 6 [.ref a_o_text, .ref a_o_draft, .ref a_o_laid, .ref a_o_past, .ref a_o_kept, .ref a_o_sightings, .ref a_o_finder, .ref a_o_mix, .long w_o_order], jO a_o_laid 2 [.int v_o_laid_cards, .int w_o_laid_colours, .int w_o_laid_acts, .long v_o_laid_deal, .int w_o_laid_cardsAreFixed]]) := by
  intro u h
  unfold f_X9_again at h
  refine j_met [(0, .ref a_o), (1, .int x1)] (by decide +kernel) (Nat.le_of_ble_eq_true rfl) rfl ?_
  refine j_iload_n (pc := 0) 1 dX9_again_0 rfl rfl ?_
  refine j_iconst (pc := 1) dX9_again_1 ic_5 ?_
  refine j_icmp_ne (pc := 2) (tgt := 23) dX9_again_2 (by decide) h (fun h => ?_) (fun h => ?_)
  · refine j_iload_n (pc := 23) 1 dX9_again_23 rfl rfl ?_
    refine j_S0 (pc := 24) (Kc := K_X9_isKind) (As := [.int x1]) (rest := []) h c_X9_isKind q_X9_isKind m2_62 rfl rfl (Nat.le_of_ble_eq_true rfl) ⟨(Nat.le_of_ble_eq_true rfl), (Nat.le_of_ble_eq_true rfl)⟩ ⟨rfl, rfl⟩ ⟨(Nat.le_of_ble_eq_true rfl), (Nat.le_of_ble_eq_true rfl)⟩ dX9_again_24 (fun b1 h => ?_)
    refine j_if_eq (pc := 27) (tgt := 54) dX9_again_27 (by decide) h (fun h => ?_) (fun h => ?_)
    · refine j_iconst (pc := 54) dX9_again_54 ic_m1 ?_
      cases h
      exact j_iret (pc := 55) rfl dX9_again_55 (Nat.le_of_ble_eq_true rfl) (Nat.le_of_ble_eq_true rfl) (jd_i rfl rfl)
    · refine j_iload_n (pc := 30) 1 dX9_again_30 rfl rfl ?_
      refine j_aload_n (pc := 31) 0 dX9_again_31 rfl rfl ?_
      refine j_get (pc := 32) (v := .ref a_o_laid) 0 2 rfl rfl (Nat.le_of_ble_eq_true rfl) iwX9 m1_190 rfl dX9_again_32 ?_
      refine j_getN (pc := 35) (v := .int v_o_laid_cards) 1 0 rfl rfl (Nat.le_of_ble_eq_true rfl) iwX5 (List.mem_of_getElem? (i := 0) rfl) rfl dX9_again_35 ?_
      refine j_S0 (pc := 38) (Kc := K_X3_lacing) (As := [.int x1, .int v_o_laid_cards]) (rest := []) h c_X3_lacing q_X3_lacing m2_63 rfl rfl (Nat.le_of_ble_eq_true rfl) ⟨(Nat.le_of_ble_eq_true rfl), (Nat.le_of_ble_eq_true rfl)⟩ ⟨rfl, rfl⟩ ⟨(Nat.le_of_ble_eq_true rfl), (Nat.le_of_ble_eq_true rfl)⟩ dX9_again_38 (fun b2 h => ?_)
      refine j_aload_n (pc := 41) 0 dX9_again_41 rfl rfl ?_
      refine j_get (pc := 42) (v := .ref a_o_laid) 0 2 rfl rfl (Nat.le_of_ble_eq_true rfl) iwX9 m1_190 rfl dX9_again_42 ?_
      refine j_getN (pc := 45) (v := .int v_o_laid_cards) 1 0 rfl rfl (Nat.le_of_ble_eq_true rfl) iwX5 (List.mem_of_getElem? (i := 0) rfl) rfl dX9_again_45 ?_
      refine j_S0 (pc := 48) (Kc := K_X4_timesTillSame) (As := [.long b2, .int v_o_laid_cards]) (rest := []) h c_X4_timesTillSame q_X4_timesTillSame m2_108 rfl rfl (Nat.le_of_ble_eq_true rfl) ⟨(Nat.le_of_ble_eq_true rfl), (Nat.le_of_ble_eq_true rfl)⟩ ⟨rfl, rfl⟩ ⟨(Nat.le_of_ble_eq_true rfl), (Nat.le_of_ble_eq_true rfl)⟩ dX9_again_48 (fun b3 h => ?_)
      refine j_goto (pc := 51) (tgt := 55) dX9_again_51 (by decide) ?_
      cases h
      exact j_iret (pc := 55) rfl dX9_again_55 (Nat.le_of_ble_eq_true rfl) (Nat.le_of_ble_eq_true rfl) (jd_i rfl rfl)
  · refine j_aload_n (pc := 5) 0 dX9_again_5 rfl rfl ?_
    refine j_get (pc := 6) (v := .ref a_o_laid) 0 2 rfl rfl (Nat.le_of_ble_eq_true rfl) iwX9 m1_190 rfl dX9_again_6 ?_
    refine j_getN (pc := 9) (v := .long v_o_laid_deal) 1 3 rfl rfl (Nat.le_of_ble_eq_true rfl) iwX5 (List.mem_of_getElem? (i := 4) rfl) rfl dX9_again_9 ?_
    refine j_aload_n (pc := 12) 0 dX9_again_12 rfl rfl ?_
    refine j_get (pc := 13) (v := .ref a_o_laid) 0 2 rfl rfl (Nat.le_of_ble_eq_true rfl) iwX9 m1_190 rfl dX9_again_13 ?_
    refine j_getN (pc := 16) (v := .int v_o_laid_cards) 1 0 rfl rfl (Nat.le_of_ble_eq_true rfl) iwX5 (List.mem_of_getElem? (i := 0) rfl) rfl dX9_again_16 ?_
    refine j_S0 (pc := 19) (Kc := K_X4_timesTillSame) (As := [.long v_o_laid_deal, .int v_o_laid_cards]) (rest := []) h c_X4_timesTillSame q_X4_timesTillSame m2_108 rfl rfl (Nat.le_of_ble_eq_true rfl) ⟨(Nat.le_of_ble_eq_true rfl), (Nat.le_of_ble_eq_true rfl)⟩ ⟨rfl, rfl⟩ ⟨(Nat.le_of_ble_eq_true rfl), (Nat.le_of_ble_eq_true rfl)⟩ dX9_again_19 (fun b4 h => ?_)
    cases h
    exact j_iret (pc := 22) rfl dX9_again_22 (Nat.le_of_ble_eq_true rfl) (Nat.le_of_ble_eq_true rfl) (jd_i rfl rfl)
set_option maxRecDepth 20000 in
theorem c_X9_round {l : Launch} {E : jE} {F : Nat} {x1 : Int32} {x2 : Int32} {v_o_laid_cards : Int32} {a_o a_o_text a_o_draft a_o_laid a_o_past a_o_kept a_o_sightings a_o_finder a_o_mix : Nat} {w_o_order : Int64} {w_o_laid_colours : Int32} {w_o_laid_acts : Int32} {w_o_laid_deal : Int64} {w_o_laid_cardsAreFixed : Int32} : ∀ u : Int32, f_X9_round F x1 x2 v_o_laid_cards = some u → jM l E K_X9_round [.ref a_o, .int x1, .int x2] [jO a_o 6 [.ref a_o_text, .ref a_o_draft, .ref a_o_laid, .ref a_o_past, .ref a_o_kept, .ref a_o_sightings, .ref a_o_finder, .ref a_o_mix, .long w_o_order], jO a_o_laid 2 [.int v_o_laid_cards, .int w_o_laid_colours, .int w_o_laid_acts, .long w_o_laid_deal, .int w_o_laid_cardsAreFixed]] (jd (some (.int u)) [jO a_o 6 [.ref a_o_text, .ref a_o_draft, .ref a_o_laid, .ref a_o_past, .ref a_o_kept, .ref a_o_sightings, .ref a_o_finder, .ref a_o_mix, .long w_o_order], jO a_o_laid 2 [.int v_o_laid_cards, .int w_o_laid_colours, .int w_o_laid_acts, .long w_o_laid_deal, .int w_o_laid_cardsAreFixed]]) := by
  intro u h
  unfold f_X9_round at h
  refine j_met [(0, .ref a_o), (1, .int x1), (2, .int x2)] (by decide +kernel) (Nat.le_of_ble_eq_true rfl) rfl ?_
  refine j_aload_n (pc := 0) 0 dX9_round_0 rfl rfl ?_
  refine j_iload_n (pc := 1) 1 dX9_round_1 rfl rfl ?_
  refine j_V (pc := 2) (q0 := 0) (Kc := K_X9_isPlace) (As := [.int x1]) (rest := []) (wc := [jO a_o 6 [.ref a_o_text, .ref a_o_draft, .ref a_o_laid, .ref a_o_past, .ref a_o_kept, .ref a_o_sightings, .ref a_o_finder, .ref a_o_mix, .long w_o_order], jO a_o_laid 2 [.int v_o_laid_cards, .int w_o_laid_colours, .int w_o_laid_acts, .long w_o_laid_deal, .int w_o_laid_cardsAreFixed]]) (w' := fun b1 => [jO a_o 6 [.ref a_o_text, .ref a_o_draft, .ref a_o_laid, .ref a_o_past, .ref a_o_kept, .ref a_o_sightings, .ref a_o_finder, .ref a_o_mix, .long w_o_order], jO a_o_laid 2 [.int v_o_laid_cards, .int w_o_laid_colours, .int w_o_laid_acts, .long w_o_laid_deal, .int w_o_laid_cardsAreFixed]]) (st1 := fun b1 => [.int b1]) [0, 1] rfl rfl rfl h c_X9_isPlace q_X9_isPlace m2_34 rfl rfl (Nat.le_of_ble_eq_true rfl) ⟨(Nat.le_of_ble_eq_true rfl), (Nat.le_of_ble_eq_true rfl)⟩ ⟨rfl, rfl⟩ ⟨(Nat.le_of_ble_eq_true rfl), (Nat.le_of_ble_eq_true rfl)⟩ dX9_round_2 rfl (by decide) (fun _ => rfl) (fun _ => rfl) (fun _ => rfl) (fun b1 h => ?_)
  refine j_if_eq (pc := 5) (tgt := 15) dX9_round_5 (by decide) h (fun h => ?_) (fun h => ?_)
  · refine j_iconst (pc := 15) dX9_round_15 ic_m1 ?_
    cases h
    exact j_iret (pc := 16) rfl dX9_round_16 (Nat.le_of_ble_eq_true rfl) (Nat.le_of_ble_eq_true rfl) (jd_i rfl rfl)
  · refine j_iload_n (pc := 8) 2 dX9_round_8 rfl rfl ?_
    refine j_S0 (pc := 9) (Kc := K_X9_isKind) (As := [.int x2]) (rest := []) h c_X9_isKind q_X9_isKind m2_62 rfl rfl (Nat.le_of_ble_eq_true rfl) ⟨(Nat.le_of_ble_eq_true rfl), (Nat.le_of_ble_eq_true rfl)⟩ ⟨rfl, rfl⟩ ⟨(Nat.le_of_ble_eq_true rfl), (Nat.le_of_ble_eq_true rfl)⟩ dX9_round_9 (fun b2 h => ?_)
    refine j_if_ne (pc := 12) (tgt := 17) dX9_round_12 (by decide) h (fun h => ?_) (fun h => ?_)
    · refine j_iload_n (pc := 17) 2 dX9_round_17 rfl rfl ?_
      refine j_aload_n (pc := 18) 0 dX9_round_18 rfl rfl ?_
      refine j_get (pc := 19) (v := .ref a_o_laid) 0 2 rfl rfl (Nat.le_of_ble_eq_true rfl) iwX9 m1_190 rfl dX9_round_19 ?_
      refine j_getN (pc := 22) (v := .int v_o_laid_cards) 1 0 rfl rfl (Nat.le_of_ble_eq_true rfl) iwX5 (List.mem_of_getElem? (i := 0) rfl) rfl dX9_round_22 ?_
      refine j_S0 (pc := 25) (Kc := K_X3_lacing) (As := [.int x2, .int v_o_laid_cards]) (rest := []) h c_X3_lacing q_X3_lacing m2_63 rfl rfl (Nat.le_of_ble_eq_true rfl) ⟨(Nat.le_of_ble_eq_true rfl), (Nat.le_of_ble_eq_true rfl)⟩ ⟨rfl, rfl⟩ ⟨(Nat.le_of_ble_eq_true rfl), (Nat.le_of_ble_eq_true rfl)⟩ dX9_round_25 (fun b3 h => ?_)
      refine j_aload_n (pc := 28) 0 dX9_round_28 rfl rfl ?_
      refine j_get (pc := 29) (v := .ref a_o_laid) 0 2 rfl rfl (Nat.le_of_ble_eq_true rfl) iwX9 m1_190 rfl dX9_round_29 ?_
      refine j_getN (pc := 32) (v := .int v_o_laid_cards) 1 0 rfl rfl (Nat.le_of_ble_eq_true rfl) iwX5 (List.mem_of_getElem? (i := 0) rfl) rfl dX9_round_32 ?_
      refine j_iload_n (pc := 35) 1 dX9_round_35 rfl rfl ?_
      refine j_S0 (pc := 36) (Kc := K_X4_roundLength) (As := [.long b3, .int v_o_laid_cards, .int x1]) (rest := []) h c_X4_roundLength q_X4_roundLength m2_121 rfl rfl (Nat.le_of_ble_eq_true rfl) ⟨(Nat.le_of_ble_eq_true rfl), (Nat.le_of_ble_eq_true rfl)⟩ ⟨rfl, rfl⟩ ⟨(Nat.le_of_ble_eq_true rfl), (Nat.le_of_ble_eq_true rfl)⟩ dX9_round_36 (fun b4 h => ?_)
      cases h
      exact j_iret (pc := 39) rfl dX9_round_39 (Nat.le_of_ble_eq_true rfl) (Nat.le_of_ble_eq_true rfl) (jd_i rfl rfl)
    · refine j_iconst (pc := 15) dX9_round_15 ic_m1 ?_
      cases h
      exact j_iret (pc := 16) rfl dX9_round_16 (Nat.le_of_ble_eq_true rfl) (Nat.le_of_ble_eq_true rfl) (jd_i rfl rfl)
set_option maxRecDepth 20000 in
theorem c_X9_rounds {l : Launch} {E : jE} {F : Nat} {x1 : Int32} {v_o_laid_cards : Int32} {a_o a_o_text a_o_draft a_o_laid a_o_past a_o_kept a_o_sightings a_o_finder a_o_mix : Nat} {w_o_order : Int64} {w_o_laid_colours : Int32} {w_o_laid_acts : Int32} {w_o_laid_deal : Int64} {w_o_laid_cardsAreFixed : Int32} : ∀ u : Int32, f_X9_rounds F x1 v_o_laid_cards = some u → jM l E K_X9_rounds [.ref a_o, .int x1] [jO a_o 6 [.ref a_o_text, .ref a_o_draft, .ref a_o_laid, .ref a_o_past, .ref a_o_kept, .ref a_o_sightings, .ref a_o_finder, .ref a_o_mix, .long w_o_order], jO a_o_laid 2 [.int v_o_laid_cards, .int w_o_laid_colours, .int w_o_laid_acts, .long w_o_laid_deal, .int w_o_laid_cardsAreFixed]] (jd (some (.int u)) [jO a_o 6 [.ref a_o_text, .ref a_o_draft, .ref a_o_laid, .ref a_o_past, .ref a_o_kept, .ref a_o_sightings, .ref a_o_finder, .ref a_o_mix, .long w_o_order], jO a_o_laid 2 [.int v_o_laid_cards, .int w_o_laid_colours, .int w_o_laid_acts, .long w_o_laid_deal, .int w_o_laid_cardsAreFixed]]) := by
  intro u h
  unfold f_X9_rounds at h
  refine j_met [(0, .ref a_o), (1, .int x1)] (by decide +kernel) (Nat.le_of_ble_eq_true rfl) rfl ?_
  refine j_iload_n (pc := 0) 1 dX9_rounds_0 rfl rfl ?_
  refine j_S0 (pc := 1) (Kc := K_X9_isKind) (As := [.int x1]) (rest := []) h c_X9_isKind q_X9_isKind m2_62 rfl rfl (Nat.le_of_ble_eq_true rfl) ⟨(Nat.le_of_ble_eq_true rfl), (Nat.le_of_ble_eq_true rfl)⟩ ⟨rfl, rfl⟩ ⟨(Nat.le_of_ble_eq_true rfl), (Nat.le_of_ble_eq_true rfl)⟩ dX9_rounds_1 (fun b1 h => ?_)
  refine j_if_eq (pc := 4) (tgt := 31) dX9_rounds_4 (by decide) h (fun h => ?_) (fun h => ?_)
  · refine j_iconst (pc := 31) dX9_rounds_31 ic_m1 ?_
    cases h
    exact j_iret (pc := 32) rfl dX9_rounds_32 (Nat.le_of_ble_eq_true rfl) (Nat.le_of_ble_eq_true rfl) (jd_i rfl rfl)
  · refine j_iload_n (pc := 7) 1 dX9_rounds_7 rfl rfl ?_
    refine j_aload_n (pc := 8) 0 dX9_rounds_8 rfl rfl ?_
    refine j_get (pc := 9) (v := .ref a_o_laid) 0 2 rfl rfl (Nat.le_of_ble_eq_true rfl) iwX9 m1_190 rfl dX9_rounds_9 ?_
    refine j_getN (pc := 12) (v := .int v_o_laid_cards) 1 0 rfl rfl (Nat.le_of_ble_eq_true rfl) iwX5 (List.mem_of_getElem? (i := 0) rfl) rfl dX9_rounds_12 ?_
    refine j_S0 (pc := 15) (Kc := K_X3_lacing) (As := [.int x1, .int v_o_laid_cards]) (rest := []) h c_X3_lacing q_X3_lacing m2_63 rfl rfl (Nat.le_of_ble_eq_true rfl) ⟨(Nat.le_of_ble_eq_true rfl), (Nat.le_of_ble_eq_true rfl)⟩ ⟨rfl, rfl⟩ ⟨(Nat.le_of_ble_eq_true rfl), (Nat.le_of_ble_eq_true rfl)⟩ dX9_rounds_15 (fun b2 h => ?_)
    refine j_aload_n (pc := 18) 0 dX9_rounds_18 rfl rfl ?_
    refine j_get (pc := 19) (v := .ref a_o_laid) 0 2 rfl rfl (Nat.le_of_ble_eq_true rfl) iwX9 m1_190 rfl dX9_rounds_19 ?_
    refine j_getN (pc := 22) (v := .int v_o_laid_cards) 1 0 rfl rfl (Nat.le_of_ble_eq_true rfl) iwX5 (List.mem_of_getElem? (i := 0) rfl) rfl dX9_rounds_22 ?_
    refine j_S0 (pc := 25) (Kc := K_X4_roundCount) (As := [.long b2, .int v_o_laid_cards]) (rest := []) h c_X4_roundCount q_X4_roundCount m2_126 rfl rfl (Nat.le_of_ble_eq_true rfl) ⟨(Nat.le_of_ble_eq_true rfl), (Nat.le_of_ble_eq_true rfl)⟩ ⟨rfl, rfl⟩ ⟨(Nat.le_of_ble_eq_true rfl), (Nat.le_of_ble_eq_true rfl)⟩ dX9_rounds_25 (fun b3 h => ?_)
    refine j_goto (pc := 28) (tgt := 32) dX9_rounds_28 (by decide) ?_
    cases h
    exact j_iret (pc := 32) rfl dX9_rounds_32 (Nat.le_of_ble_eq_true rfl) (Nat.le_of_ble_eq_true rfl) (jd_i rfl rfl)
set_option maxRecDepth 20000 in
theorem c_X9_bring {l : Launch} {E : jE} {F : Nat} {x1 : Int32} {x2 : Int32} {x3 : Int32} {v_o_order : Int64} {v_o_laid_cards : Int32} {a_o a_o_text a_o_draft a_o_laid a_o_past a_o_kept a_o_sightings a_o_finder a_o_mix a_o_finder_stepsFrom a_o_finder_pairTree a_o_finder_found : Nat} {w_o_laid_colours : Int32} {w_o_laid_acts : Int32} {w_o_laid_deal : Int64} {w_o_laid_cardsAreFixed : Int32} {f_o_finder_stepsFrom : Nat → Int32} : ∀ u : Int32 × (Nat → Int32), f_X9_bring F x1 x2 x3 v_o_order v_o_laid_cards f_o_finder_stepsFrom = some u → jM l E K_X9_bring [.ref a_o, .int x1, .int x2, .int x3] [jO a_o 6 [.ref a_o_text, .ref a_o_draft, .ref a_o_laid, .ref a_o_past, .ref a_o_kept, .ref a_o_sightings, .ref a_o_finder, .ref a_o_mix, .long v_o_order], jO a_o_finder 0 [.ref a_o_finder_stepsFrom, .ref a_o_finder_pairTree, .ref a_o_finder_found], jO a_o_laid 2 [.int v_o_laid_cards, .int w_o_laid_colours, .int w_o_laid_acts, .long w_o_laid_deal, .int w_o_laid_cardsAreFixed], jI E a_o_finder_stepsFrom 16 f_o_finder_stepsFrom] (jd (some (.int u.1)) [jO a_o 6 [.ref a_o_text, .ref a_o_draft, .ref a_o_laid, .ref a_o_past, .ref a_o_kept, .ref a_o_sightings, .ref a_o_finder, .ref a_o_mix, .long v_o_order], jO a_o_finder 0 [.ref a_o_finder_stepsFrom, .ref a_o_finder_pairTree, .ref a_o_finder_found], jO a_o_laid 2 [.int v_o_laid_cards, .int w_o_laid_colours, .int w_o_laid_acts, .long w_o_laid_deal, .int w_o_laid_cardsAreFixed], jI E a_o_finder_stepsFrom 16 u.2]) := by
  intro u h
  unfold f_X9_bring at h
  refine j_met [(0, .ref a_o), (1, .int x1), (2, .int x2), (3, .int x3)] (by decide +kernel) (Nat.le_of_ble_eq_true rfl) rfl ?_
  refine j_aload_n (pc := 0) 0 dX9_bring_0 rfl rfl ?_
  refine j_iload_n (pc := 1) 1 dX9_bring_1 rfl rfl ?_
  refine j_V (pc := 2) (q0 := 0) (Kc := K_X9_isCard) (As := [.int x1]) (rest := []) (wc := [jO a_o 6 [.ref a_o_text, .ref a_o_draft, .ref a_o_laid, .ref a_o_past, .ref a_o_kept, .ref a_o_sightings, .ref a_o_finder, .ref a_o_mix, .long v_o_order], jO a_o_laid 2 [.int v_o_laid_cards, .int w_o_laid_colours, .int w_o_laid_acts, .long w_o_laid_deal, .int w_o_laid_cardsAreFixed]]) (w' := fun b1 => [jO a_o 6 [.ref a_o_text, .ref a_o_draft, .ref a_o_laid, .ref a_o_past, .ref a_o_kept, .ref a_o_sightings, .ref a_o_finder, .ref a_o_mix, .long v_o_order], jO a_o_finder 0 [.ref a_o_finder_stepsFrom, .ref a_o_finder_pairTree, .ref a_o_finder_found], jO a_o_laid 2 [.int v_o_laid_cards, .int w_o_laid_colours, .int w_o_laid_acts, .long w_o_laid_deal, .int w_o_laid_cardsAreFixed], jI E a_o_finder_stepsFrom 16 f_o_finder_stepsFrom]) (st1 := fun b1 => [.int b1]) [0, 2] rfl rfl rfl h c_X9_isCard q_X9_isCard m2_43 rfl rfl (Nat.le_of_ble_eq_true rfl) ⟨(Nat.le_of_ble_eq_true rfl), (Nat.le_of_ble_eq_true rfl)⟩ ⟨rfl, rfl⟩ ⟨(Nat.le_of_ble_eq_true rfl), (Nat.le_of_ble_eq_true rfl)⟩ dX9_bring_2 rfl (by decide) (fun _ => rfl) (fun _ => rfl) (fun _ => rfl) (fun b1 h => ?_)
  refine j_if_eq (pc := 5) (tgt := 21) dX9_bring_5 (by decide) h (fun h => ?_) (fun h => ?_)
  · refine j_iconst (pc := 21) dX9_bring_21 ic_m1 ?_
    cases h
    exact j_iret (pc := 22) rfl dX9_bring_22 (Nat.le_of_ble_eq_true rfl) (Nat.le_of_ble_eq_true rfl) (jd_i rfl rfl)
  · refine j_aload_n (pc := 8) 0 dX9_bring_8 rfl rfl ?_
    refine j_iload_n (pc := 9) 2 dX9_bring_9 rfl rfl ?_
    refine j_V (pc := 10) (q0 := 0) (Kc := K_X9_isPlace) (As := [.int x2]) (rest := []) (wc := [jO a_o 6 [.ref a_o_text, .ref a_o_draft, .ref a_o_laid, .ref a_o_past, .ref a_o_kept, .ref a_o_sightings, .ref a_o_finder, .ref a_o_mix, .long v_o_order], jO a_o_laid 2 [.int v_o_laid_cards, .int w_o_laid_colours, .int w_o_laid_acts, .long w_o_laid_deal, .int w_o_laid_cardsAreFixed]]) (w' := fun b2 => [jO a_o 6 [.ref a_o_text, .ref a_o_draft, .ref a_o_laid, .ref a_o_past, .ref a_o_kept, .ref a_o_sightings, .ref a_o_finder, .ref a_o_mix, .long v_o_order], jO a_o_finder 0 [.ref a_o_finder_stepsFrom, .ref a_o_finder_pairTree, .ref a_o_finder_found], jO a_o_laid 2 [.int v_o_laid_cards, .int w_o_laid_colours, .int w_o_laid_acts, .long w_o_laid_deal, .int w_o_laid_cardsAreFixed], jI E a_o_finder_stepsFrom 16 f_o_finder_stepsFrom]) (st1 := fun b2 => [.int b2]) [0, 2] rfl rfl rfl h c_X9_isPlace q_X9_isPlace m2_34 rfl rfl (Nat.le_of_ble_eq_true rfl) ⟨(Nat.le_of_ble_eq_true rfl), (Nat.le_of_ble_eq_true rfl)⟩ ⟨rfl, rfl⟩ ⟨(Nat.le_of_ble_eq_true rfl), (Nat.le_of_ble_eq_true rfl)⟩ dX9_bring_10 rfl (by decide) (fun _ => rfl) (fun _ => rfl) (fun _ => rfl) (fun b2 h => ?_)
    refine j_if_eq (pc := 13) (tgt := 21) dX9_bring_13 (by decide) h (fun h => ?_) (fun h => ?_)
    · refine j_iconst (pc := 21) dX9_bring_21 ic_m1 ?_
      cases h
      exact j_iret (pc := 22) rfl dX9_bring_22 (Nat.le_of_ble_eq_true rfl) (Nat.le_of_ble_eq_true rfl) (jd_i rfl rfl)
    · refine j_iload_n (pc := 16) 3 dX9_bring_16 rfl rfl ?_
      refine j_iconst (pc := 17) dX9_bring_17 ic_m1 ?_
      refine j_icmp_ge (pc := 18) (tgt := 23) dX9_bring_18 (by decide) h (fun h => ?_) (fun h => ?_)
      · refine j_aload_n (pc := 23) 0 dX9_bring_23 rfl rfl ?_
        refine j_get (pc := 24) (v := .long v_o_order) 0 8 rfl rfl (Nat.le_of_ble_eq_true rfl) iwX9 m1_196 rfl dX9_bring_24 ?_
        refine j_aload_n (pc := 27) 0 dX9_bring_27 rfl rfl ?_
        refine j_get (pc := 28) (v := .ref a_o_laid) 0 2 rfl rfl (Nat.le_of_ble_eq_true rfl) iwX9 m1_190 rfl dX9_bring_28 ?_
        refine j_getN (pc := 31) (v := .int v_o_laid_cards) 2 0 rfl rfl (Nat.le_of_ble_eq_true rfl) iwX5 (List.mem_of_getElem? (i := 0) rfl) rfl dX9_bring_31 ?_
        refine j_iload_n (pc := 34) 1 dX9_bring_34 rfl rfl ?_
        refine j_S0 (pc := 35) (Kc := K_X4_placeOf) (As := [.long v_o_order, .int v_o_laid_cards, .int x1]) (rest := []) h c_X4_placeOf q_X4_placeOf m2_47 rfl rfl (Nat.le_of_ble_eq_true rfl) ⟨(Nat.le_of_ble_eq_true rfl), (Nat.le_of_ble_eq_true rfl)⟩ ⟨rfl, rfl⟩ ⟨(Nat.le_of_ble_eq_true rfl), (Nat.le_of_ble_eq_true rfl)⟩ dX9_bring_35 (fun b3 h => ?_)
        refine j_istore (pc := 38) (lv' := [(4, .int b3), (0, .ref a_o), (1, .int x1), (2, .int x2), (3, .int x3)]) dX9_bring_38 (Nat.le_of_ble_eq_true rfl) rfl ?_
        refine j_aload_n (pc := 40) 1 dX9_bring_40 rfl rfl ?_
        refine j_get (pc := 41) (v := .ref a_o_finder) 0 6 rfl rfl (Nat.le_of_ble_eq_true rfl) iwX9 m1_194 rfl dX9_bring_41 ?_
        refine j_iload_n (pc := 44) 3 dX9_bring_44 rfl rfl ?_
        refine j_aload_n (pc := 45) 1 dX9_bring_45 rfl rfl ?_
        refine j_get (pc := 46) (v := .ref a_o_laid) 0 2 rfl rfl (Nat.le_of_ble_eq_true rfl) iwX9 m1_190 rfl dX9_bring_46 ?_
        refine j_getN (pc := 49) (v := .int v_o_laid_cards) 2 0 rfl rfl (Nat.le_of_ble_eq_true rfl) iwX5 (List.mem_of_getElem? (i := 0) rfl) rfl dX9_bring_49 ?_
        refine j_V (pc := 52) (q0 := 1) (Kc := K_X0_findWaysTo) (As := [.int x2, .int v_o_laid_cards]) (rest := []) (wc := [jO a_o_finder 0 [.ref a_o_finder_stepsFrom, .ref a_o_finder_pairTree, .ref a_o_finder_found], jI E a_o_finder_stepsFrom 16 f_o_finder_stepsFrom]) (w' := fun b4 => [jO a_o 6 [.ref a_o_text, .ref a_o_draft, .ref a_o_laid, .ref a_o_past, .ref a_o_kept, .ref a_o_sightings, .ref a_o_finder, .ref a_o_mix, .long v_o_order], jO a_o_finder 0 [.ref a_o_finder_stepsFrom, .ref a_o_finder_pairTree, .ref a_o_finder_found], jO a_o_laid 2 [.int v_o_laid_cards, .int w_o_laid_colours, .int w_o_laid_acts, .long w_o_laid_deal, .int w_o_laid_cardsAreFixed], jI E a_o_finder_stepsFrom 16 b4]) (st1 := fun b4 => []) [1, 3] rfl rfl rfl h c_X0_findWaysTo q_X0_findWaysTo m2_136 rfl rfl (Nat.le_of_ble_eq_true rfl) ⟨(Nat.le_of_ble_eq_true rfl), (Nat.le_of_ble_eq_true rfl)⟩ ⟨rfl, rfl⟩ ⟨(Nat.le_of_ble_eq_true rfl), (Nat.le_of_ble_eq_true rfl)⟩ dX9_bring_52 rfl (by decide) (fun _ => rfl) (fun _ => rfl) (fun _ => rfl) (fun b4 h => ?_)
        refine j_iload_n (pc := 55) 4 dX9_bring_55 rfl rfl ?_
        refine j_iconst (pc := 56) dX9_bring_56 ic_m1 ?_
        refine j_icmp_ne (pc := 57) (tgt := 72) dX9_bring_57 (by decide) h (fun h => ?_) (fun h => ?_)
        · refine j_aload_n (pc := 72) 1 dX9_bring_72 rfl rfl ?_
          refine j_get (pc := 73) (v := .ref a_o_finder) 0 6 rfl rfl (Nat.le_of_ble_eq_true rfl) iwX9 m1_194 rfl dX9_bring_73 ?_
          refine j_iload (pc := 76) 0 dX9_bring_76 rfl ?_
          refine j_iload_n (pc := 78) 4 dX9_bring_78 rfl rfl ?_
          refine j_aload_n (pc := 79) 1 dX9_bring_79 rfl rfl ?_
          refine j_get (pc := 80) (v := .ref a_o_laid) 0 2 rfl rfl (Nat.le_of_ble_eq_true rfl) iwX9 m1_190 rfl dX9_bring_80 ?_
          refine j_getN (pc := 83) (v := .int v_o_laid_cards) 2 0 rfl rfl (Nat.le_of_ble_eq_true rfl) iwX5 (List.mem_of_getElem? (i := 0) rfl) rfl dX9_bring_83 ?_
          refine j_V (pc := 86) (q0 := 1) (Kc := K_X0_kindOnWay) (As := [.int b3, .int x3, .int v_o_laid_cards]) (rest := []) (wc := [jO a_o_finder 0 [.ref a_o_finder_stepsFrom, .ref a_o_finder_pairTree, .ref a_o_finder_found], jI E a_o_finder_stepsFrom 16 b4]) (w' := fun b5 => [jO a_o 6 [.ref a_o_text, .ref a_o_draft, .ref a_o_laid, .ref a_o_past, .ref a_o_kept, .ref a_o_sightings, .ref a_o_finder, .ref a_o_mix, .long v_o_order], jO a_o_finder 0 [.ref a_o_finder_stepsFrom, .ref a_o_finder_pairTree, .ref a_o_finder_found], jO a_o_laid 2 [.int v_o_laid_cards, .int w_o_laid_colours, .int w_o_laid_acts, .long w_o_laid_deal, .int w_o_laid_cardsAreFixed], jI E a_o_finder_stepsFrom 16 b4]) (st1 := fun b5 => [.int b5]) [1, 3] rfl rfl rfl h c_X0_kindOnWay q_X0_kindOnWay m2_152 rfl rfl (Nat.le_of_ble_eq_true rfl) ⟨(Nat.le_of_ble_eq_true rfl), (Nat.le_of_ble_eq_true rfl)⟩ ⟨rfl, rfl⟩ ⟨(Nat.le_of_ble_eq_true rfl), (Nat.le_of_ble_eq_true rfl)⟩ dX9_bring_86 rfl (by decide) (fun _ => rfl) (fun _ => rfl) (fun _ => rfl) (fun b5 h => ?_)
          cases h
          exact j_iret (pc := 89) rfl dX9_bring_89 (Nat.le_of_ble_eq_true rfl) (Nat.le_of_ble_eq_true rfl) (jd_i rfl rfl)
        · refine j_aload_n (pc := 60) 1 dX9_bring_60 rfl rfl ?_
          refine j_get (pc := 61) (v := .ref a_o_finder) 0 6 rfl rfl (Nat.le_of_ble_eq_true rfl) iwX9 m1_194 rfl dX9_bring_61 ?_
          refine j_iload (pc := 64) 0 dX9_bring_64 rfl ?_
          refine j_V (pc := 66) (q0 := 1) (Kc := K_X0_fewestFrom) (As := [.int b3]) (rest := []) (wc := [jO a_o_finder 0 [.ref a_o_finder_stepsFrom, .ref a_o_finder_pairTree, .ref a_o_finder_found], jI E a_o_finder_stepsFrom 16 b4]) (w' := fun b6 => [jO a_o 6 [.ref a_o_text, .ref a_o_draft, .ref a_o_laid, .ref a_o_past, .ref a_o_kept, .ref a_o_sightings, .ref a_o_finder, .ref a_o_mix, .long v_o_order], jO a_o_finder 0 [.ref a_o_finder_stepsFrom, .ref a_o_finder_pairTree, .ref a_o_finder_found], jO a_o_laid 2 [.int v_o_laid_cards, .int w_o_laid_colours, .int w_o_laid_acts, .long w_o_laid_deal, .int w_o_laid_cardsAreFixed], jI E a_o_finder_stepsFrom 16 b4]) (st1 := fun b6 => [.int b6]) [1, 3] rfl rfl rfl h c_X0_fewestFrom q_X0_fewestFrom m2_151 rfl rfl (Nat.le_of_ble_eq_true rfl) ⟨(Nat.le_of_ble_eq_true rfl), (Nat.le_of_ble_eq_true rfl)⟩ ⟨rfl, rfl⟩ ⟨(Nat.le_of_ble_eq_true rfl), (Nat.le_of_ble_eq_true rfl)⟩ dX9_bring_66 rfl (by decide) (fun _ => rfl) (fun _ => rfl) (fun _ => rfl) (fun b6 h => ?_)
          refine j_goto (pc := 69) (tgt := 89) dX9_bring_69 (by decide) ?_
          cases h
          exact j_iret (pc := 89) rfl dX9_bring_89 (Nat.le_of_ble_eq_true rfl) (Nat.le_of_ble_eq_true rfl) (jd_i rfl rfl)
      · refine j_iconst (pc := 21) dX9_bring_21 ic_m1 ?_
        cases h
        exact j_iret (pc := 22) rfl dX9_bring_22 (Nat.le_of_ble_eq_true rfl) (Nat.le_of_ble_eq_true rfl) (jd_i rfl rfl)
set_option maxRecDepth 20000 in
theorem c_X9_beside {l : Launch} {E : jE} {F : Nat} {x1 : Int32} {x2 : Int32} {v_o_order : Int64} {v_o_laid_cards : Int32} {a_o a_o_text a_o_draft a_o_laid a_o_past a_o_kept a_o_sightings a_o_finder a_o_mix a_o_finder_stepsFrom a_o_finder_pairTree a_o_finder_found : Nat} {w_o_laid_colours : Int32} {w_o_laid_acts : Int32} {w_o_laid_deal : Int64} {w_o_laid_cardsAreFixed : Int32} {f_o_finder_pairTree : Nat → Int32} : ∀ u : Int32 × (Nat → Int32), f_X9_beside F x1 x2 v_o_order v_o_laid_cards f_o_finder_pairTree = some u → jM l E K_X9_beside [.ref a_o, .int x1, .int x2] [jO a_o 6 [.ref a_o_text, .ref a_o_draft, .ref a_o_laid, .ref a_o_past, .ref a_o_kept, .ref a_o_sightings, .ref a_o_finder, .ref a_o_mix, .long v_o_order], jO a_o_finder 0 [.ref a_o_finder_stepsFrom, .ref a_o_finder_pairTree, .ref a_o_finder_found], jO a_o_laid 2 [.int v_o_laid_cards, .int w_o_laid_colours, .int w_o_laid_acts, .long w_o_laid_deal, .int w_o_laid_cardsAreFixed], jI E a_o_finder_pairTree 511 f_o_finder_pairTree] (jd (some (.int u.1)) [jO a_o 6 [.ref a_o_text, .ref a_o_draft, .ref a_o_laid, .ref a_o_past, .ref a_o_kept, .ref a_o_sightings, .ref a_o_finder, .ref a_o_mix, .long v_o_order], jO a_o_finder 0 [.ref a_o_finder_stepsFrom, .ref a_o_finder_pairTree, .ref a_o_finder_found], jO a_o_laid 2 [.int v_o_laid_cards, .int w_o_laid_colours, .int w_o_laid_acts, .long w_o_laid_deal, .int w_o_laid_cardsAreFixed], jI E a_o_finder_pairTree 511 u.2]) := by
  intro u h
  unfold f_X9_beside at h
  refine j_met [(0, .ref a_o), (1, .int x1), (2, .int x2)] (by decide +kernel) (Nat.le_of_ble_eq_true rfl) rfl ?_
  refine j_aload_n (pc := 0) 0 dX9_beside_0 rfl rfl ?_
  refine j_iload_n (pc := 1) 1 dX9_beside_1 rfl rfl ?_
  refine j_V (pc := 2) (q0 := 0) (Kc := K_X9_isCard) (As := [.int x1]) (rest := []) (wc := [jO a_o 6 [.ref a_o_text, .ref a_o_draft, .ref a_o_laid, .ref a_o_past, .ref a_o_kept, .ref a_o_sightings, .ref a_o_finder, .ref a_o_mix, .long v_o_order], jO a_o_laid 2 [.int v_o_laid_cards, .int w_o_laid_colours, .int w_o_laid_acts, .long w_o_laid_deal, .int w_o_laid_cardsAreFixed]]) (w' := fun b1 => [jO a_o 6 [.ref a_o_text, .ref a_o_draft, .ref a_o_laid, .ref a_o_past, .ref a_o_kept, .ref a_o_sightings, .ref a_o_finder, .ref a_o_mix, .long v_o_order], jO a_o_finder 0 [.ref a_o_finder_stepsFrom, .ref a_o_finder_pairTree, .ref a_o_finder_found], jO a_o_laid 2 [.int v_o_laid_cards, .int w_o_laid_colours, .int w_o_laid_acts, .long w_o_laid_deal, .int w_o_laid_cardsAreFixed], jI E a_o_finder_pairTree 511 f_o_finder_pairTree]) (st1 := fun b1 => [.int b1]) [0, 2] rfl rfl rfl h c_X9_isCard q_X9_isCard m2_43 rfl rfl (Nat.le_of_ble_eq_true rfl) ⟨(Nat.le_of_ble_eq_true rfl), (Nat.le_of_ble_eq_true rfl)⟩ ⟨rfl, rfl⟩ ⟨(Nat.le_of_ble_eq_true rfl), (Nat.le_of_ble_eq_true rfl)⟩ dX9_beside_2 rfl (by decide) (fun _ => rfl) (fun _ => rfl) (fun _ => rfl) (fun b1 h => ?_)
  refine j_if_eq (pc := 5) (tgt := 21) dX9_beside_5 (by decide) h (fun h => ?_) (fun h => ?_)
  · refine j_iconst (pc := 21) dX9_beside_21 ic_m1 ?_
    cases h
    exact j_iret (pc := 22) rfl dX9_beside_22 (Nat.le_of_ble_eq_true rfl) (Nat.le_of_ble_eq_true rfl) (jd_i rfl rfl)
  · refine j_aload_n (pc := 8) 0 dX9_beside_8 rfl rfl ?_
    refine j_iload_n (pc := 9) 2 dX9_beside_9 rfl rfl ?_
    refine j_V (pc := 10) (q0 := 0) (Kc := K_X9_isCard) (As := [.int x2]) (rest := []) (wc := [jO a_o 6 [.ref a_o_text, .ref a_o_draft, .ref a_o_laid, .ref a_o_past, .ref a_o_kept, .ref a_o_sightings, .ref a_o_finder, .ref a_o_mix, .long v_o_order], jO a_o_laid 2 [.int v_o_laid_cards, .int w_o_laid_colours, .int w_o_laid_acts, .long w_o_laid_deal, .int w_o_laid_cardsAreFixed]]) (w' := fun b2 => [jO a_o 6 [.ref a_o_text, .ref a_o_draft, .ref a_o_laid, .ref a_o_past, .ref a_o_kept, .ref a_o_sightings, .ref a_o_finder, .ref a_o_mix, .long v_o_order], jO a_o_finder 0 [.ref a_o_finder_stepsFrom, .ref a_o_finder_pairTree, .ref a_o_finder_found], jO a_o_laid 2 [.int v_o_laid_cards, .int w_o_laid_colours, .int w_o_laid_acts, .long w_o_laid_deal, .int w_o_laid_cardsAreFixed], jI E a_o_finder_pairTree 511 f_o_finder_pairTree]) (st1 := fun b2 => [.int b2]) [0, 2] rfl rfl rfl h c_X9_isCard q_X9_isCard m2_43 rfl rfl (Nat.le_of_ble_eq_true rfl) ⟨(Nat.le_of_ble_eq_true rfl), (Nat.le_of_ble_eq_true rfl)⟩ ⟨rfl, rfl⟩ ⟨(Nat.le_of_ble_eq_true rfl), (Nat.le_of_ble_eq_true rfl)⟩ dX9_beside_10 rfl (by decide) (fun _ => rfl) (fun _ => rfl) (fun _ => rfl) (fun b2 h => ?_)
    refine j_if_eq (pc := 13) (tgt := 21) dX9_beside_13 (by decide) h (fun h => ?_) (fun h => ?_)
    · refine j_iconst (pc := 21) dX9_beside_21 ic_m1 ?_
      cases h
      exact j_iret (pc := 22) rfl dX9_beside_22 (Nat.le_of_ble_eq_true rfl) (Nat.le_of_ble_eq_true rfl) (jd_i rfl rfl)
    · refine j_iload_n (pc := 16) 1 dX9_beside_16 rfl rfl ?_
      refine j_iload_n (pc := 17) 2 dX9_beside_17 rfl rfl ?_
      refine j_icmp_ne (pc := 18) (tgt := 23) dX9_beside_18 (by decide) h (fun h => ?_) (fun h => ?_)
      · refine j_aload_n (pc := 23) 0 dX9_beside_23 rfl rfl ?_
        refine j_get (pc := 24) (v := .long v_o_order) 0 8 rfl rfl (Nat.le_of_ble_eq_true rfl) iwX9 m1_196 rfl dX9_beside_24 ?_
        refine j_aload_n (pc := 27) 0 dX9_beside_27 rfl rfl ?_
        refine j_get (pc := 28) (v := .ref a_o_laid) 0 2 rfl rfl (Nat.le_of_ble_eq_true rfl) iwX9 m1_190 rfl dX9_beside_28 ?_
        refine j_getN (pc := 31) (v := .int v_o_laid_cards) 2 0 rfl rfl (Nat.le_of_ble_eq_true rfl) iwX5 (List.mem_of_getElem? (i := 0) rfl) rfl dX9_beside_31 ?_
        refine j_iload_n (pc := 34) 1 dX9_beside_34 rfl rfl ?_
        refine j_S0 (pc := 35) (Kc := K_X4_placeOf) (As := [.long v_o_order, .int v_o_laid_cards, .int x1]) (rest := []) h c_X4_placeOf q_X4_placeOf m2_47 rfl rfl (Nat.le_of_ble_eq_true rfl) ⟨(Nat.le_of_ble_eq_true rfl), (Nat.le_of_ble_eq_true rfl)⟩ ⟨rfl, rfl⟩ ⟨(Nat.le_of_ble_eq_true rfl), (Nat.le_of_ble_eq_true rfl)⟩ dX9_beside_35 (fun b3 h => ?_)
        refine j_istore_n (pc := 38) (lv' := [(3, .int b3), (0, .ref a_o), (1, .int x1), (2, .int x2)]) dX9_beside_38 rfl (Nat.le_of_ble_eq_true rfl) rfl ?_
        refine j_aload_n (pc := 39) 1 dX9_beside_39 rfl rfl ?_
        refine j_get (pc := 40) (v := .long v_o_order) 0 8 rfl rfl (Nat.le_of_ble_eq_true rfl) iwX9 m1_196 rfl dX9_beside_40 ?_
        refine j_aload_n (pc := 43) 1 dX9_beside_43 rfl rfl ?_
        refine j_get (pc := 44) (v := .ref a_o_laid) 0 2 rfl rfl (Nat.le_of_ble_eq_true rfl) iwX9 m1_190 rfl dX9_beside_44 ?_
        refine j_getN (pc := 47) (v := .int v_o_laid_cards) 2 0 rfl rfl (Nat.le_of_ble_eq_true rfl) iwX5 (List.mem_of_getElem? (i := 0) rfl) rfl dX9_beside_47 ?_
        refine j_iload_n (pc := 50) 3 dX9_beside_50 rfl rfl ?_
        refine j_S0 (pc := 51) (Kc := K_X4_placeOf) (As := [.long v_o_order, .int v_o_laid_cards, .int x2]) (rest := []) h c_X4_placeOf q_X4_placeOf m2_47 rfl rfl (Nat.le_of_ble_eq_true rfl) ⟨(Nat.le_of_ble_eq_true rfl), (Nat.le_of_ble_eq_true rfl)⟩ ⟨rfl, rfl⟩ ⟨(Nat.le_of_ble_eq_true rfl), (Nat.le_of_ble_eq_true rfl)⟩ dX9_beside_51 (fun b4 h => ?_)
        refine j_istore (pc := 54) (lv' := [(4, .int b4), (3, .int b3), (0, .ref a_o), (1, .int x1), (2, .int x2)]) dX9_beside_54 (Nat.le_of_ble_eq_true rfl) rfl ?_
        refine j_aload_n (pc := 56) 2 dX9_beside_56 rfl rfl ?_
        refine j_get (pc := 57) (v := .ref a_o_finder) 0 6 rfl rfl (Nat.le_of_ble_eq_true rfl) iwX9 m1_194 rfl dX9_beside_57 ?_
        refine j_iload_n (pc := 60) 1 dX9_beside_60 rfl rfl ?_
        refine j_iload (pc := 61) 0 dX9_beside_61 rfl ?_
        refine j_aload_n (pc := 63) 2 dX9_beside_63 rfl rfl ?_
        refine j_get (pc := 64) (v := .ref a_o_laid) 0 2 rfl rfl (Nat.le_of_ble_eq_true rfl) iwX9 m1_190 rfl dX9_beside_64 ?_
        refine j_getN (pc := 67) (v := .int v_o_laid_cards) 2 0 rfl rfl (Nat.le_of_ble_eq_true rfl) iwX5 (List.mem_of_getElem? (i := 0) rfl) rfl dX9_beside_67 ?_
        refine j_V (pc := 70) (q0 := 1) (Kc := K_X0_fewestTillNeighbours) (As := [.int b3, .int b4, .int v_o_laid_cards]) (rest := []) (wc := [jO a_o_finder 0 [.ref a_o_finder_stepsFrom, .ref a_o_finder_pairTree, .ref a_o_finder_found], jI E a_o_finder_pairTree 511 f_o_finder_pairTree]) (w' := fun b5 => [jO a_o 6 [.ref a_o_text, .ref a_o_draft, .ref a_o_laid, .ref a_o_past, .ref a_o_kept, .ref a_o_sightings, .ref a_o_finder, .ref a_o_mix, .long v_o_order], jO a_o_finder 0 [.ref a_o_finder_stepsFrom, .ref a_o_finder_pairTree, .ref a_o_finder_found], jO a_o_laid 2 [.int v_o_laid_cards, .int w_o_laid_colours, .int w_o_laid_acts, .long w_o_laid_deal, .int w_o_laid_cardsAreFixed], jI E a_o_finder_pairTree 511 b5.2]) (st1 := fun b5 => [.int b5.1]) [1, 3] rfl rfl rfl h c_X0_fewestTillNeighbours q_X0_fewestTillNeighbours m2_164 rfl rfl (Nat.le_of_ble_eq_true rfl) ⟨(Nat.le_of_ble_eq_true rfl), (Nat.le_of_ble_eq_true rfl)⟩ ⟨rfl, rfl⟩ ⟨(Nat.le_of_ble_eq_true rfl), (Nat.le_of_ble_eq_true rfl)⟩ dX9_beside_70 rfl (by decide) (fun _ => rfl) (fun _ => rfl) (fun _ => rfl) (fun b5 h => ?_)
        cases h
        exact j_iret (pc := 73) rfl dX9_beside_73 (Nat.le_of_ble_eq_true rfl) (Nat.le_of_ble_eq_true rfl) (jd_i rfl rfl)
      · refine j_iconst (pc := 21) dX9_beside_21 ic_m1 ?_
        cases h
        exact j_iret (pc := 22) rfl dX9_beside_22 (Nat.le_of_ble_eq_true rfl) (Nat.le_of_ble_eq_true rfl) (jd_i rfl rfl)
set_option maxRecDepth 20000 in
theorem c_X9_orders {l : Launch} {E : jE} {F : Nat} {x1 : Int32} {v_o_laid_cards : Int32} {a_o a_o_text a_o_draft a_o_laid a_o_past a_o_kept a_o_sightings a_o_finder a_o_mix a_o_finder_stepsFrom a_o_finder_pairTree a_o_finder_found : Nat} {w_o_order : Int64} {w_o_laid_colours : Int32} {w_o_laid_acts : Int32} {w_o_laid_deal : Int64} {w_o_laid_cardsAreFixed : Int32} {f_o_finder_found : Nat → Int64} : ∀ u : Int32 × (Nat → Int64), f_X9_orders F x1 v_o_laid_cards f_o_finder_found = some u → jM l E K_X9_orders [.ref a_o, .int x1] [jO a_o 6 [.ref a_o_text, .ref a_o_draft, .ref a_o_laid, .ref a_o_past, .ref a_o_kept, .ref a_o_sightings, .ref a_o_finder, .ref a_o_mix, .long w_o_order], jO a_o_finder 0 [.ref a_o_finder_stepsFrom, .ref a_o_finder_pairTree, .ref a_o_finder_found], jO a_o_laid 2 [.int v_o_laid_cards, .int w_o_laid_colours, .int w_o_laid_acts, .long w_o_laid_deal, .int w_o_laid_cardsAreFixed], jJ E a_o_finder_found 127 f_o_finder_found] (jd (some (.int u.1)) [jO a_o 6 [.ref a_o_text, .ref a_o_draft, .ref a_o_laid, .ref a_o_past, .ref a_o_kept, .ref a_o_sightings, .ref a_o_finder, .ref a_o_mix, .long w_o_order], jO a_o_finder 0 [.ref a_o_finder_stepsFrom, .ref a_o_finder_pairTree, .ref a_o_finder_found], jO a_o_laid 2 [.int v_o_laid_cards, .int w_o_laid_colours, .int w_o_laid_acts, .long w_o_laid_deal, .int w_o_laid_cardsAreFixed], jJ E a_o_finder_found 127 u.2]) := by
  intro u h
  unfold f_X9_orders at h
  refine j_met [(0, .ref a_o), (1, .int x1)] (by decide +kernel) (Nat.le_of_ble_eq_true rfl) rfl ?_
  refine j_iload_n (pc := 0) 1 dX9_orders_0 rfl rfl ?_
  refine j_iconst (pc := 1) dX9_orders_1 ic_0 ?_
  refine j_bipush (pc := 2) dX9_orders_2 bc_6 ?_
  refine j_S0 (pc := 4) (Kc := K_X9_within) (As := [.int x1, .int (0 : Int32), .int (6 : Int32)]) (rest := []) h c_X9_within q_X9_within m1_157 rfl rfl (Nat.le_of_ble_eq_true rfl) ⟨(Nat.le_of_ble_eq_true rfl), (Nat.le_of_ble_eq_true rfl)⟩ ⟨rfl, rfl⟩ ⟨(Nat.le_of_ble_eq_true rfl), (Nat.le_of_ble_eq_true rfl)⟩ dX9_orders_4 (fun b1 h => ?_)
  refine j_if_eq (pc := 7) (tgt := 28) dX9_orders_7 (by decide) h (fun h => ?_) (fun h => ?_)
  · refine j_iconst (pc := 28) dX9_orders_28 ic_m1 ?_
    cases h
    exact j_iret (pc := 29) rfl dX9_orders_29 (Nat.le_of_ble_eq_true rfl) (Nat.le_of_ble_eq_true rfl) (jd_i rfl rfl)
  · refine j_aload_n (pc := 10) 0 dX9_orders_10 rfl rfl ?_
    refine j_get (pc := 11) (v := .ref a_o_finder) 0 6 rfl rfl (Nat.le_of_ble_eq_true rfl) iwX9 m1_194 rfl dX9_orders_11 ?_
    refine j_iload_n (pc := 14) 1 dX9_orders_14 rfl rfl ?_
    refine j_aload_n (pc := 15) 0 dX9_orders_15 rfl rfl ?_
    refine j_get (pc := 16) (v := .ref a_o_laid) 0 2 rfl rfl (Nat.le_of_ble_eq_true rfl) iwX9 m1_190 rfl dX9_orders_16 ?_
    refine j_getN (pc := 19) (v := .int v_o_laid_cards) 2 0 rfl rfl (Nat.le_of_ble_eq_true rfl) iwX5 (List.mem_of_getElem? (i := 0) rfl) rfl dX9_orders_19 ?_
    refine j_V (pc := 22) (q0 := 1) (Kc := K_X0_countOrders) (As := [.int x1, .int v_o_laid_cards]) (rest := []) (wc := [jO a_o_finder 0 [.ref a_o_finder_stepsFrom, .ref a_o_finder_pairTree, .ref a_o_finder_found], jJ E a_o_finder_found 127 f_o_finder_found]) (w' := fun b2 => [jO a_o 6 [.ref a_o_text, .ref a_o_draft, .ref a_o_laid, .ref a_o_past, .ref a_o_kept, .ref a_o_sightings, .ref a_o_finder, .ref a_o_mix, .long w_o_order], jO a_o_finder 0 [.ref a_o_finder_stepsFrom, .ref a_o_finder_pairTree, .ref a_o_finder_found], jO a_o_laid 2 [.int v_o_laid_cards, .int w_o_laid_colours, .int w_o_laid_acts, .long w_o_laid_deal, .int w_o_laid_cardsAreFixed], jJ E a_o_finder_found 127 b2.2]) (st1 := fun b2 => [.int b2.1]) [1, 3] rfl rfl rfl h c_X0_countOrders q_X0_countOrders m2_181 rfl rfl (Nat.le_of_ble_eq_true rfl) ⟨(Nat.le_of_ble_eq_true rfl), (Nat.le_of_ble_eq_true rfl)⟩ ⟨rfl, rfl⟩ ⟨(Nat.le_of_ble_eq_true rfl), (Nat.le_of_ble_eq_true rfl)⟩ dX9_orders_22 rfl (by decide) (fun _ => rfl) (fun _ => rfl) (fun _ => rfl) (fun b2 h => ?_)
    refine j_goto (pc := 25) (tgt := 29) dX9_orders_25 (by decide) ?_
    cases h
    exact j_iret (pc := 29) rfl dX9_orders_29 (Nat.le_of_ble_eq_true rfl) (Nat.le_of_ble_eq_true rfl) (jd_i rfl rfl)
set_option maxRecDepth 20000 in
theorem c_X9_rising {l : Launch} {E : jE} {F : Nat} {v_o_order : Int64} {v_o_laid_cards : Int32} {a_o a_o_text a_o_draft a_o_laid a_o_past a_o_kept a_o_sightings a_o_finder a_o_mix : Nat} {w_o_laid_colours : Int32} {w_o_laid_acts : Int32} {w_o_laid_deal : Int64} {w_o_laid_cardsAreFixed : Int32} : ∀ u : Int32, f_X9_rising F v_o_order v_o_laid_cards = some u → jM l E K_X9_rising [.ref a_o] [jO a_o 6 [.ref a_o_text, .ref a_o_draft, .ref a_o_laid, .ref a_o_past, .ref a_o_kept, .ref a_o_sightings, .ref a_o_finder, .ref a_o_mix, .long v_o_order], jO a_o_laid 2 [.int v_o_laid_cards, .int w_o_laid_colours, .int w_o_laid_acts, .long w_o_laid_deal, .int w_o_laid_cardsAreFixed]] (jd (some (.int u)) [jO a_o 6 [.ref a_o_text, .ref a_o_draft, .ref a_o_laid, .ref a_o_past, .ref a_o_kept, .ref a_o_sightings, .ref a_o_finder, .ref a_o_mix, .long v_o_order], jO a_o_laid 2 [.int v_o_laid_cards, .int w_o_laid_colours, .int w_o_laid_acts, .long w_o_laid_deal, .int w_o_laid_cardsAreFixed]]) := by
  intro u h
  unfold f_X9_rising at h
  refine j_met [(0, .ref a_o)] (by decide +kernel) (Nat.le_of_ble_eq_true rfl) rfl ?_
  refine j_aload_n (pc := 0) 0 dX9_rising_0 rfl rfl ?_
  refine j_get (pc := 1) (v := .long v_o_order) 0 8 rfl rfl (Nat.le_of_ble_eq_true rfl) iwX9 m1_196 rfl dX9_rising_1 ?_
  refine j_aload_n (pc := 4) 0 dX9_rising_4 rfl rfl ?_
  refine j_get (pc := 5) (v := .ref a_o_laid) 0 2 rfl rfl (Nat.le_of_ble_eq_true rfl) iwX9 m1_190 rfl dX9_rising_5 ?_
  refine j_getN (pc := 8) (v := .int v_o_laid_cards) 1 0 rfl rfl (Nat.le_of_ble_eq_true rfl) iwX5 (List.mem_of_getElem? (i := 0) rfl) rfl dX9_rising_8 ?_
  refine j_S0 (pc := 11) (Kc := K_X4_risingRows) (As := [.long v_o_order, .int v_o_laid_cards]) (rest := []) h c_X4_risingRows q_X4_risingRows m2_196 rfl rfl (Nat.le_of_ble_eq_true rfl) ⟨(Nat.le_of_ble_eq_true rfl), (Nat.le_of_ble_eq_true rfl)⟩ ⟨rfl, rfl⟩ ⟨(Nat.le_of_ble_eq_true rfl), (Nat.le_of_ble_eq_true rfl)⟩ dX9_rising_11 (fun b1 h => ?_)
  cases h
  exact j_iret (pc := 14) rfl dX9_rising_14 (Nat.le_of_ble_eq_true rfl) (Nat.le_of_ble_eq_true rfl) (jd_i rfl rfl)
set_option maxRecDepth 20000 in
theorem w_X9_pairs_4 {l : Launch} {E : jE} {F : Nat} {v_o_order : Int64} {v_o_laid_cards : Int32} {v_o_laid_colours : Int32} {a_o a_o_text a_o_draft a_o_laid a_o_past a_o_kept a_o_sightings a_o_finder a_o_mix : Nat} {w_o_laid_acts : Int32} {w_o_laid_deal : Int64} {w_o_laid_cardsAreFixed : Int32} : ∀ (n : Nat) (x1 : Int32) (x2 : Int32) (u : Int32), g_X9_pairs_4 F v_o_order v_o_laid_cards v_o_laid_colours n x1 x2 = some u → jT l E K_X9_pairs 0 0 4 [(0, .ref a_o), (1, .int x1), (2, .int x2)] [] [jO a_o 6 [.ref a_o_text, .ref a_o_draft, .ref a_o_laid, .ref a_o_past, .ref a_o_kept, .ref a_o_sightings, .ref a_o_finder, .ref a_o_mix, .long v_o_order], jO a_o_laid 2 [.int v_o_laid_cards, .int v_o_laid_colours, .int w_o_laid_acts, .long w_o_laid_deal, .int w_o_laid_cardsAreFixed]] (jd (some (.int u)) [jO a_o 6 [.ref a_o_text, .ref a_o_draft, .ref a_o_laid, .ref a_o_past, .ref a_o_kept, .ref a_o_sightings, .ref a_o_finder, .ref a_o_mix, .long v_o_order], jO a_o_laid 2 [.int v_o_laid_cards, .int v_o_laid_colours, .int w_o_laid_acts, .long w_o_laid_deal, .int w_o_laid_cardsAreFixed]]) := by
  intro n
  induction n with
  | zero =>
    intro x1 x2 u h
    rw [g_X9_pairs_4] at h
    cases h
  | succ n ih =>
    intro x1 x2 u h
    rw [g_X9_pairs_4] at h
    refine j_iload_n (pc := 4) 2 dX9_pairs_4 rfl rfl ?_
    refine j_iconst (pc := 5) dX9_pairs_5 ic_1 ?_
    refine j_iadd (pc := 6) dX9_pairs_6 ?_
    refine j_aload_n (pc := 7) 0 dX9_pairs_7 rfl rfl ?_
    refine j_get (pc := 8) (v := .ref a_o_laid) 0 2 rfl rfl (Nat.le_of_ble_eq_true rfl) iwX9 m1_190 rfl dX9_pairs_8 ?_
    refine j_getN (pc := 11) (v := .int v_o_laid_cards) 1 0 rfl rfl (Nat.le_of_ble_eq_true rfl) iwX5 (List.mem_of_getElem? (i := 0) rfl) rfl dX9_pairs_11 ?_
    refine j_icmp_ge (pc := 14) (tgt := 54) dX9_pairs_14 (by decide) h (fun h => ?_) (fun h => ?_)
    · refine j_iload_n (pc := 54) 1 dX9_pairs_54 rfl rfl ?_
      cases h
      exact j_iret (pc := 55) rfl dX9_pairs_55 (Nat.le_of_ble_eq_true rfl) (Nat.le_of_ble_eq_true rfl) (jd_i rfl rfl)
    · refine j_aload_n (pc := 17) 0 dX9_pairs_17 rfl rfl ?_
      refine j_get (pc := 18) (v := .ref a_o_laid) 0 2 rfl rfl (Nat.le_of_ble_eq_true rfl) iwX9 m1_190 rfl dX9_pairs_18 ?_
      refine j_aload_n (pc := 21) 0 dX9_pairs_21 rfl rfl ?_
      refine j_get (pc := 22) (v := .long v_o_order) 0 8 rfl rfl (Nat.le_of_ble_eq_true rfl) iwX9 m1_196 rfl dX9_pairs_22 ?_
      refine j_iload_n (pc := 25) 2 dX9_pairs_25 rfl rfl ?_
      refine j_S0 (pc := 26) (Kc := K_X4_cardAt) (As := [.long v_o_order, .int x2]) (rest := [.ref a_o_laid]) h c_X4_cardAt q_X4_cardAt m2_38 rfl rfl (Nat.le_of_ble_eq_true rfl) ⟨(Nat.le_of_ble_eq_true rfl), (Nat.le_of_ble_eq_true rfl)⟩ ⟨rfl, rfl⟩ ⟨(Nat.le_of_ble_eq_true rfl), (Nat.le_of_ble_eq_true rfl)⟩ dX9_pairs_26 (fun b1 h => ?_)
      refine j_aload_n (pc := 29) 0 dX9_pairs_29 rfl rfl ?_
      refine j_get (pc := 30) (v := .long v_o_order) 0 8 rfl rfl (Nat.le_of_ble_eq_true rfl) iwX9 m1_196 rfl dX9_pairs_30 ?_
      refine j_iload_n (pc := 33) 2 dX9_pairs_33 rfl rfl ?_
      refine j_iconst (pc := 34) dX9_pairs_34 ic_1 ?_
      refine j_iadd (pc := 35) dX9_pairs_35 ?_
      refine j_S0 (pc := 36) (Kc := K_X4_cardAt) (As := [.long v_o_order, .int (x2 + (1 : Int32))]) (rest := [.int b1, .ref a_o_laid]) h c_X4_cardAt q_X4_cardAt m2_38 rfl rfl (Nat.le_of_ble_eq_true rfl) ⟨(Nat.le_of_ble_eq_true rfl), (Nat.le_of_ble_eq_true rfl)⟩ ⟨rfl, rfl⟩ ⟨(Nat.le_of_ble_eq_true rfl), (Nat.le_of_ble_eq_true rfl)⟩ dX9_pairs_36 (fun b2 h => ?_)
      refine j_V (pc := 39) (q0 := 1) (Kc := K_X5_areUnlike) (As := [.int b1, .int b2]) (rest := []) (wc := [jO a_o_laid 2 [.int v_o_laid_cards, .int v_o_laid_colours, .int w_o_laid_acts, .long w_o_laid_deal, .int w_o_laid_cardsAreFixed]]) (w' := fun b3 => [jO a_o 6 [.ref a_o_text, .ref a_o_draft, .ref a_o_laid, .ref a_o_past, .ref a_o_kept, .ref a_o_sightings, .ref a_o_finder, .ref a_o_mix, .long v_o_order], jO a_o_laid 2 [.int v_o_laid_cards, .int v_o_laid_colours, .int w_o_laid_acts, .long w_o_laid_deal, .int w_o_laid_cardsAreFixed]]) (st1 := fun b3 => [.int b3]) [1] rfl rfl rfl h c_X5_areUnlike q_X5_areUnlike m2_203 rfl rfl (Nat.le_of_ble_eq_true rfl) ⟨(Nat.le_of_ble_eq_true rfl), (Nat.le_of_ble_eq_true rfl)⟩ ⟨rfl, rfl⟩ ⟨(Nat.le_of_ble_eq_true rfl), (Nat.le_of_ble_eq_true rfl)⟩ dX9_pairs_39 rfl (by decide) (fun _ => rfl) (fun _ => rfl) (fun _ => rfl) (fun b3 h => ?_)
      refine j_if_eq (pc := 42) (tgt := 48) dX9_pairs_42 (by decide) h (fun h => ?_) (fun h => ?_)
      · refine j_iinc (pc := 48) (j := 2) (lv' := [(2, .int (x2 + (2 : Int32))), (0, .ref a_o), (1, .int x1)]) dX9_pairs_48 rfl (congrArg (fun z => x2 + z) ic_2) (Nat.le_of_ble_eq_true rfl) rfl ?_
        refine j_goto (pc := 51) (tgt := 4) dX9_pairs_51 (by decide) ?_
        exact j_sub (lv' := [(0, .ref a_o), (1, .int x1), (2, .int (x2 + (2 : Int32)))]) [1, 2, 0] rfl (ih _ _ u h)
      · refine j_iinc (pc := 45) (j := 1) (lv' := [(1, .int (x1 + (1 : Int32))), (0, .ref a_o), (2, .int x2)]) dX9_pairs_45 rfl (congrArg (fun z => x1 + z) ic_1) (Nat.le_of_ble_eq_true rfl) rfl ?_
        refine j_iinc (pc := 48) (j := 2) (lv' := [(2, .int (x2 + (2 : Int32))), (1, .int (x1 + (1 : Int32))), (0, .ref a_o)]) dX9_pairs_48 rfl (congrArg (fun z => x2 + z) ic_2) (Nat.le_of_ble_eq_true rfl) rfl ?_
        refine j_goto (pc := 51) (tgt := 4) dX9_pairs_51 (by decide) ?_
        exact j_sub (lv' := [(0, .ref a_o), (1, .int (x1 + (1 : Int32))), (2, .int (x2 + (2 : Int32)))]) [2, 1, 0] rfl (ih _ _ u h)
set_option maxRecDepth 20000 in
theorem c_X9_pairs {l : Launch} {E : jE} {F : Nat} {v_o_order : Int64} {v_o_laid_cards : Int32} {v_o_laid_colours : Int32} {a_o a_o_text a_o_draft a_o_laid a_o_past a_o_kept a_o_sightings a_o_finder a_o_mix : Nat} {w_o_laid_acts : Int32} {w_o_laid_deal : Int64} {w_o_laid_cardsAreFixed : Int32} : ∀ u : Int32, f_X9_pairs F v_o_order v_o_laid_cards v_o_laid_colours = some u → jM l E K_X9_pairs [.ref a_o] [jO a_o 6 [.ref a_o_text, .ref a_o_draft, .ref a_o_laid, .ref a_o_past, .ref a_o_kept, .ref a_o_sightings, .ref a_o_finder, .ref a_o_mix, .long v_o_order], jO a_o_laid 2 [.int v_o_laid_cards, .int v_o_laid_colours, .int w_o_laid_acts, .long w_o_laid_deal, .int w_o_laid_cardsAreFixed]] (jd (some (.int u)) [jO a_o 6 [.ref a_o_text, .ref a_o_draft, .ref a_o_laid, .ref a_o_past, .ref a_o_kept, .ref a_o_sightings, .ref a_o_finder, .ref a_o_mix, .long v_o_order], jO a_o_laid 2 [.int v_o_laid_cards, .int v_o_laid_colours, .int w_o_laid_acts, .long w_o_laid_deal, .int w_o_laid_cardsAreFixed]]) := by
  intro u h
  unfold f_X9_pairs at h
  refine j_met [(0, .ref a_o)] (by decide +kernel) (Nat.le_of_ble_eq_true rfl) rfl ?_
  refine j_iconst (pc := 0) dX9_pairs_0 ic_0 ?_
  refine j_istore_n (pc := 1) (lv' := [(1, .int (0 : Int32)), (0, .ref a_o)]) dX9_pairs_1 rfl (Nat.le_of_ble_eq_true rfl) rfl ?_
  refine j_iconst (pc := 2) dX9_pairs_2 ic_0 ?_
  refine j_istore_n (pc := 3) (lv' := [(2, .int (0 : Int32)), (1, .int (0 : Int32)), (0, .ref a_o)]) dX9_pairs_3 rfl (Nat.le_of_ble_eq_true rfl) rfl ?_
  exact j_sub (lv' := [(0, .ref a_o), (1, .int (0 : Int32)), (2, .int (0 : Int32))]) [2, 1, 0] rfl (w_X9_pairs_4 _ _ _ u h)
set_option maxRecDepth 20000 in
theorem c_X9_sure {l : Launch} {E : jE} {F : Nat} {x1 : Int32} {x2 : Int32} {v_o_order : Int64} {v_o_laid_cards : Int32} {v_o_laid_colours : Int32} {a_o a_o_text a_o_draft a_o_laid a_o_past a_o_kept a_o_sightings a_o_finder a_o_mix a_o_mix_ways : Nat} {w_o_laid_acts : Int32} {w_o_laid_deal : Int64} {w_o_laid_cardsAreFixed : Int32} {f_o_mix_ways : Nat → Int32} : ∀ u : Int32 × (Nat → Int32), f_X9_sure F x1 x2 v_o_order v_o_laid_cards v_o_laid_colours f_o_mix_ways = some u → jM l E K_X9_sure [.ref a_o, .int x1, .int x2] [jO a_o 6 [.ref a_o_text, .ref a_o_draft, .ref a_o_laid, .ref a_o_past, .ref a_o_kept, .ref a_o_sightings, .ref a_o_finder, .ref a_o_mix, .long v_o_order], jO a_o_laid 2 [.int v_o_laid_cards, .int v_o_laid_colours, .int w_o_laid_acts, .long w_o_laid_deal, .int w_o_laid_cardsAreFixed], jO a_o_mix 1 [.ref a_o_mix_ways], jI E a_o_mix_ways 289 f_o_mix_ways] (jd (some (.int u.1)) [jO a_o 6 [.ref a_o_text, .ref a_o_draft, .ref a_o_laid, .ref a_o_past, .ref a_o_kept, .ref a_o_sightings, .ref a_o_finder, .ref a_o_mix, .long v_o_order], jO a_o_laid 2 [.int v_o_laid_cards, .int v_o_laid_colours, .int w_o_laid_acts, .long w_o_laid_deal, .int w_o_laid_cardsAreFixed], jO a_o_mix 1 [.ref a_o_mix_ways], jI E a_o_mix_ways 289 u.2]) := by
  intro u h
  unfold f_X9_sure at h
  refine j_met [(0, .ref a_o), (1, .int x1), (2, .int x2)] (by decide +kernel) (Nat.le_of_ble_eq_true rfl) rfl ?_
  refine j_iload_n (pc := 0) 1 dX9_sure_0 rfl rfl ?_
  refine j_iconst (pc := 1) dX9_sure_1 ic_0 ?_
  refine j_aload_n (pc := 2) 0 dX9_sure_2 rfl rfl ?_
  refine j_get (pc := 3) (v := .ref a_o_laid) 0 2 rfl rfl (Nat.le_of_ble_eq_true rfl) iwX9 m1_190 rfl dX9_sure_3 ?_
  refine j_getN (pc := 6) (v := .int v_o_laid_cards) 1 0 rfl rfl (Nat.le_of_ble_eq_true rfl) iwX5 (List.mem_of_getElem? (i := 0) rfl) rfl dX9_sure_6 ?_
  refine j_S0 (pc := 9) (Kc := K_X9_within) (As := [.int x1, .int (0 : Int32), .int v_o_laid_cards]) (rest := []) h c_X9_within q_X9_within m1_157 rfl rfl (Nat.le_of_ble_eq_true rfl) ⟨(Nat.le_of_ble_eq_true rfl), (Nat.le_of_ble_eq_true rfl)⟩ ⟨rfl, rfl⟩ ⟨(Nat.le_of_ble_eq_true rfl), (Nat.le_of_ble_eq_true rfl)⟩ dX9_sure_9 (fun b1 h => ?_)
  refine j_if_eq (pc := 12) (tgt := 24) dX9_sure_12 (by decide) h (fun h => ?_) (fun h => ?_)
  · refine j_iconst (pc := 24) dX9_sure_24 ic_m1 ?_
    cases h
    exact j_iret (pc := 25) rfl dX9_sure_25 (Nat.le_of_ble_eq_true rfl) (Nat.le_of_ble_eq_true rfl) (jd_i rfl rfl)
  · refine j_iload_n (pc := 15) 2 dX9_sure_15 rfl rfl ?_
    refine j_iconst (pc := 16) dX9_sure_16 ic_0 ?_
    refine j_iconst (pc := 17) dX9_sure_17 ic_1 ?_
    refine j_S0 (pc := 18) (Kc := K_X9_within) (As := [.int x2, .int (0 : Int32), .int (1 : Int32)]) (rest := []) h c_X9_within q_X9_within m1_157 rfl rfl (Nat.le_of_ble_eq_true rfl) ⟨(Nat.le_of_ble_eq_true rfl), (Nat.le_of_ble_eq_true rfl)⟩ ⟨rfl, rfl⟩ ⟨(Nat.le_of_ble_eq_true rfl), (Nat.le_of_ble_eq_true rfl)⟩ dX9_sure_18 (fun b2 h => ?_)
    refine j_if_ne (pc := 21) (tgt := 26) dX9_sure_21 (by decide) h (fun h => ?_) (fun h => ?_)
    · refine j_aload_n (pc := 26) 0 dX9_sure_26 rfl rfl ?_
      refine j_get (pc := 27) (v := .ref a_o_mix) 0 7 rfl rfl (Nat.le_of_ble_eq_true rfl) iwX9 m1_195 rfl dX9_sure_27 ?_
      refine j_aload_n (pc := 30) 0 dX9_sure_30 rfl rfl ?_
      refine j_get (pc := 31) (v := .ref a_o_laid) 0 2 rfl rfl (Nat.le_of_ble_eq_true rfl) iwX9 m1_190 rfl dX9_sure_31 ?_
      refine j_aload_n (pc := 34) 0 dX9_sure_34 rfl rfl ?_
      refine j_get (pc := 35) (v := .long v_o_order) 0 8 rfl rfl (Nat.le_of_ble_eq_true rfl) iwX9 m1_196 rfl dX9_sure_35 ?_
      refine j_iload_n (pc := 38) 1 dX9_sure_38 rfl rfl ?_
      refine j_V (pc := 39) (q0 := 2) (Kc := K_X2_goodWays) (As := [.ref a_o_laid, .long v_o_order, .int x1]) (rest := []) (wc := [jO a_o_mix 1 [.ref a_o_mix_ways], jO a_o_laid 2 [.int v_o_laid_cards, .int v_o_laid_colours, .int w_o_laid_acts, .long w_o_laid_deal, .int w_o_laid_cardsAreFixed], jI E a_o_mix_ways 289 f_o_mix_ways]) (w' := fun b3 => [jO a_o 6 [.ref a_o_text, .ref a_o_draft, .ref a_o_laid, .ref a_o_past, .ref a_o_kept, .ref a_o_sightings, .ref a_o_finder, .ref a_o_mix, .long v_o_order], jO a_o_laid 2 [.int v_o_laid_cards, .int v_o_laid_colours, .int w_o_laid_acts, .long w_o_laid_deal, .int w_o_laid_cardsAreFixed], jO a_o_mix 1 [.ref a_o_mix_ways], jI E a_o_mix_ways 289 b3.2]) (st1 := fun b3 => [.int b3.1]) [2, 1, 3] rfl rfl rfl h c_X2_goodWays q_X2_goodWays m2_212 rfl rfl (Nat.le_of_ble_eq_true rfl) ⟨(Nat.le_of_ble_eq_true rfl), (Nat.le_of_ble_eq_true rfl)⟩ ⟨rfl, rfl⟩ ⟨(Nat.le_of_ble_eq_true rfl), (Nat.le_of_ble_eq_true rfl)⟩ dX9_sure_39 rfl (by decide) (fun _ => rfl) (fun _ => rfl) (fun _ => rfl) (fun b3 h => ?_)
      refine j_istore_n (pc := 42) (lv' := [(3, .int b3.1), (0, .ref a_o), (1, .int x1), (2, .int x2)]) dX9_sure_42 rfl (Nat.le_of_ble_eq_true rfl) rfl ?_
      refine j_iload_n (pc := 43) 0 dX9_sure_43 rfl rfl ?_
      refine j_aload_n (pc := 44) 1 dX9_sure_44 rfl rfl ?_
      refine j_get (pc := 45) (v := .ref a_o_laid) 0 2 rfl rfl (Nat.le_of_ble_eq_true rfl) iwX9 m1_190 rfl dX9_sure_45 ?_
      refine j_getN (pc := 48) (v := .int v_o_laid_cards) 1 0 rfl rfl (Nat.le_of_ble_eq_true rfl) iwX5 (List.mem_of_getElem? (i := 0) rfl) rfl dX9_sure_48 ?_
      refine j_iload_n (pc := 51) 2 dX9_sure_51 rfl rfl ?_
      refine j_S0 (pc := 52) (Kc := K_X1_choices) (As := [.int v_o_laid_cards, .int x1]) (rest := [.int b3.1]) h c_X1_choices q_X1_choices m2_238 rfl rfl (Nat.le_of_ble_eq_true rfl) ⟨(Nat.le_of_ble_eq_true rfl), (Nat.le_of_ble_eq_true rfl)⟩ ⟨rfl, rfl⟩ ⟨(Nat.le_of_ble_eq_true rfl), (Nat.le_of_ble_eq_true rfl)⟩ dX9_sure_52 (fun b4 h => ?_)
      refine j_iload_n (pc := 55) 3 dX9_sure_55 rfl rfl ?_
      refine j_S0 (pc := 56) (Kc := K_X1_partOf) (As := [.int b3.1, .int b4, .int x2]) (rest := []) h c_X1_partOf q_X1_partOf m3_1 rfl rfl (Nat.le_of_ble_eq_true rfl) ⟨(Nat.le_of_ble_eq_true rfl), (Nat.le_of_ble_eq_true rfl)⟩ ⟨rfl, rfl⟩ ⟨(Nat.le_of_ble_eq_true rfl), (Nat.le_of_ble_eq_true rfl)⟩ dX9_sure_56 (fun b5 h => ?_)
      cases h
      exact j_iret (pc := 59) rfl dX9_sure_59 (Nat.le_of_ble_eq_true rfl) (Nat.le_of_ble_eq_true rfl) (jd_i rfl rfl)
    · refine j_iconst (pc := 24) dX9_sure_24 ic_m1 ?_
      cases h
      exact j_iret (pc := 25) rfl dX9_sure_25 (Nat.le_of_ble_eq_true rfl) (Nat.le_of_ble_eq_true rfl) (jd_i rfl rfl)
set_option maxRecDepth 20000 in
theorem c_X9_seen {l : Launch} {E : jE} {F : Nat} {x1 : Int32} {x2 : Int32} {v_o_laid_cards : Int32} {a_o a_o_text a_o_draft a_o_laid a_o_past a_o_kept a_o_sightings a_o_finder a_o_mix a_o_sightings_cards a_o_sightings_places : Nat} {w_o_order : Int64} {w_o_laid_colours : Int32} {w_o_laid_acts : Int32} {w_o_laid_deal : Int64} {w_o_laid_cardsAreFixed : Int32} {v_o_sightings_held : Int32} {f_o_sightings_cards : Nat → Int32} {f_o_sightings_places : Nat → Int32} : ∀ u : Int32 × Int32 × (Nat → Int32) × (Nat → Int32), f_X9_seen F x1 x2 v_o_laid_cards v_o_sightings_held f_o_sightings_cards f_o_sightings_places = some u → jM l E K_X9_seen [.ref a_o, .int x1, .int x2] [jO a_o 6 [.ref a_o_text, .ref a_o_draft, .ref a_o_laid, .ref a_o_past, .ref a_o_kept, .ref a_o_sightings, .ref a_o_finder, .ref a_o_mix, .long w_o_order], jO a_o_laid 2 [.int v_o_laid_cards, .int w_o_laid_colours, .int w_o_laid_acts, .long w_o_laid_deal, .int w_o_laid_cardsAreFixed], jO a_o_sightings 4 [.ref a_o_sightings_cards, .ref a_o_sightings_places, .int v_o_sightings_held], jI E a_o_sightings_cards 8 f_o_sightings_cards, jI E a_o_sightings_places 8 f_o_sightings_places] (jd (some (.int u.1)) [jO a_o 6 [.ref a_o_text, .ref a_o_draft, .ref a_o_laid, .ref a_o_past, .ref a_o_kept, .ref a_o_sightings, .ref a_o_finder, .ref a_o_mix, .long w_o_order], jO a_o_laid 2 [.int v_o_laid_cards, .int w_o_laid_colours, .int w_o_laid_acts, .long w_o_laid_deal, .int w_o_laid_cardsAreFixed], jO a_o_sightings 4 [.ref a_o_sightings_cards, .ref a_o_sightings_places, .int u.2.1], jI E a_o_sightings_cards 8 u.2.2.1, jI E a_o_sightings_places 8 u.2.2.2]) := by
  intro u h
  unfold f_X9_seen at h
  refine j_met [(0, .ref a_o), (1, .int x1), (2, .int x2)] (by decide +kernel) (Nat.le_of_ble_eq_true rfl) rfl ?_
  refine j_aload_n (pc := 0) 0 dX9_seen_0 rfl rfl ?_
  refine j_iload_n (pc := 1) 1 dX9_seen_1 rfl rfl ?_
  refine j_V (pc := 2) (q0 := 0) (Kc := K_X9_isCard) (As := [.int x1]) (rest := []) (wc := [jO a_o 6 [.ref a_o_text, .ref a_o_draft, .ref a_o_laid, .ref a_o_past, .ref a_o_kept, .ref a_o_sightings, .ref a_o_finder, .ref a_o_mix, .long w_o_order], jO a_o_laid 2 [.int v_o_laid_cards, .int w_o_laid_colours, .int w_o_laid_acts, .long w_o_laid_deal, .int w_o_laid_cardsAreFixed]]) (w' := fun b1 => [jO a_o 6 [.ref a_o_text, .ref a_o_draft, .ref a_o_laid, .ref a_o_past, .ref a_o_kept, .ref a_o_sightings, .ref a_o_finder, .ref a_o_mix, .long w_o_order], jO a_o_laid 2 [.int v_o_laid_cards, .int w_o_laid_colours, .int w_o_laid_acts, .long w_o_laid_deal, .int w_o_laid_cardsAreFixed], jO a_o_sightings 4 [.ref a_o_sightings_cards, .ref a_o_sightings_places, .int v_o_sightings_held], jI E a_o_sightings_cards 8 f_o_sightings_cards, jI E a_o_sightings_places 8 f_o_sightings_places]) (st1 := fun b1 => [.int b1]) [0, 1] rfl rfl rfl h c_X9_isCard q_X9_isCard m2_43 rfl rfl (Nat.le_of_ble_eq_true rfl) ⟨(Nat.le_of_ble_eq_true rfl), (Nat.le_of_ble_eq_true rfl)⟩ ⟨rfl, rfl⟩ ⟨(Nat.le_of_ble_eq_true rfl), (Nat.le_of_ble_eq_true rfl)⟩ dX9_seen_2 rfl (by decide) (fun _ => rfl) (fun _ => rfl) (fun _ => rfl) (fun b1 h => ?_)
  refine j_if_eq (pc := 5) (tgt := 16) dX9_seen_5 (by decide) h (fun h => ?_) (fun h => ?_)
  · refine j_iconst (pc := 16) dX9_seen_16 ic_m1 ?_
    cases h
    exact j_iret (pc := 17) rfl dX9_seen_17 (Nat.le_of_ble_eq_true rfl) (Nat.le_of_ble_eq_true rfl) (jd_i rfl rfl)
  · refine j_aload_n (pc := 8) 0 dX9_seen_8 rfl rfl ?_
    refine j_iload_n (pc := 9) 2 dX9_seen_9 rfl rfl ?_
    refine j_V (pc := 10) (q0 := 0) (Kc := K_X9_isPlace) (As := [.int x2]) (rest := []) (wc := [jO a_o 6 [.ref a_o_text, .ref a_o_draft, .ref a_o_laid, .ref a_o_past, .ref a_o_kept, .ref a_o_sightings, .ref a_o_finder, .ref a_o_mix, .long w_o_order], jO a_o_laid 2 [.int v_o_laid_cards, .int w_o_laid_colours, .int w_o_laid_acts, .long w_o_laid_deal, .int w_o_laid_cardsAreFixed]]) (w' := fun b2 => [jO a_o 6 [.ref a_o_text, .ref a_o_draft, .ref a_o_laid, .ref a_o_past, .ref a_o_kept, .ref a_o_sightings, .ref a_o_finder, .ref a_o_mix, .long w_o_order], jO a_o_laid 2 [.int v_o_laid_cards, .int w_o_laid_colours, .int w_o_laid_acts, .long w_o_laid_deal, .int w_o_laid_cardsAreFixed], jO a_o_sightings 4 [.ref a_o_sightings_cards, .ref a_o_sightings_places, .int v_o_sightings_held], jI E a_o_sightings_cards 8 f_o_sightings_cards, jI E a_o_sightings_places 8 f_o_sightings_places]) (st1 := fun b2 => [.int b2]) [0, 1] rfl rfl rfl h c_X9_isPlace q_X9_isPlace m2_34 rfl rfl (Nat.le_of_ble_eq_true rfl) ⟨(Nat.le_of_ble_eq_true rfl), (Nat.le_of_ble_eq_true rfl)⟩ ⟨rfl, rfl⟩ ⟨(Nat.le_of_ble_eq_true rfl), (Nat.le_of_ble_eq_true rfl)⟩ dX9_seen_10 rfl (by decide) (fun _ => rfl) (fun _ => rfl) (fun _ => rfl) (fun b2 h => ?_)
    refine j_if_ne (pc := 13) (tgt := 18) dX9_seen_13 (by decide) h (fun h => ?_) (fun h => ?_)
    · refine j_aload_n (pc := 18) 0 dX9_seen_18 rfl rfl ?_
      refine j_get (pc := 19) (v := .ref a_o_sightings) 0 5 rfl rfl (Nat.le_of_ble_eq_true rfl) iwX9 m1_193 rfl dX9_seen_19 ?_
      refine j_iload_n (pc := 22) 1 dX9_seen_22 rfl rfl ?_
      refine j_iload_n (pc := 23) 2 dX9_seen_23 rfl rfl ?_
      refine j_V (pc := 24) (q0 := 2) (Kc := K_X7_add) (As := [.int x1, .int x2]) (rest := []) (wc := [jO a_o_sightings 4 [.ref a_o_sightings_cards, .ref a_o_sightings_places, .int v_o_sightings_held], jI E a_o_sightings_cards 8 f_o_sightings_cards, jI E a_o_sightings_places 8 f_o_sightings_places]) (w' := fun b3 => [jO a_o 6 [.ref a_o_text, .ref a_o_draft, .ref a_o_laid, .ref a_o_past, .ref a_o_kept, .ref a_o_sightings, .ref a_o_finder, .ref a_o_mix, .long w_o_order], jO a_o_laid 2 [.int v_o_laid_cards, .int w_o_laid_colours, .int w_o_laid_acts, .long w_o_laid_deal, .int w_o_laid_cardsAreFixed], jO a_o_sightings 4 [.ref a_o_sightings_cards, .ref a_o_sightings_places, .int b3.2.1], jI E a_o_sightings_cards 8 b3.2.2.1, jI E a_o_sightings_places 8 b3.2.2.2]) (st1 := fun b3 => [.int b3.1]) [2, 3, 4] rfl rfl rfl h c_X7_add q_X7_add m3_9 rfl rfl (Nat.le_of_ble_eq_true rfl) ⟨(Nat.le_of_ble_eq_true rfl), (Nat.le_of_ble_eq_true rfl)⟩ ⟨rfl, rfl⟩ ⟨(Nat.le_of_ble_eq_true rfl), (Nat.le_of_ble_eq_true rfl)⟩ dX9_seen_24 rfl (by decide) (fun _ => rfl) (fun _ => rfl) (fun _ => rfl) (fun b3 h => ?_)
      refine j_if_eq (pc := 27) (tgt := 40) dX9_seen_27 (by decide) h (fun h => ?_) (fun h => ?_)
      · refine j_bipush (pc := 40) dX9_seen_40 bc_m3 ?_
        cases h
        exact j_iret (pc := 42) rfl dX9_seen_42 (Nat.le_of_ble_eq_true rfl) (Nat.le_of_ble_eq_true rfl) (jd_i rfl rfl)
      · refine j_aload_n (pc := 30) 0 dX9_seen_30 rfl rfl ?_
        refine j_get (pc := 31) (v := .ref a_o_sightings) 0 5 rfl rfl (Nat.le_of_ble_eq_true rfl) iwX9 m1_193 rfl dX9_seen_31 ?_
        refine j_getN (pc := 34) (v := .int b3.2.1) 2 2 rfl rfl (Nat.le_of_ble_eq_true rfl) iwX7 (List.mem_of_getElem? (i := 2) rfl) rfl dX9_seen_34 ?_
        refine j_goto (pc := 37) (tgt := 42) dX9_seen_37 (by decide) ?_
        cases h
        exact j_iret (pc := 42) rfl dX9_seen_42 (Nat.le_of_ble_eq_true rfl) (Nat.le_of_ble_eq_true rfl) (jd_i rfl rfl)
    · refine j_iconst (pc := 16) dX9_seen_16 ic_m1 ?_
      cases h
      exact j_iret (pc := 17) rfl dX9_seen_17 (Nat.le_of_ble_eq_true rfl) (Nat.le_of_ble_eq_true rfl) (jd_i rfl rfl)
set_option maxRecDepth 20000 in
theorem c_X9_forget {l : Launch} {E : jE} {F : Nat} {a_o a_o_text a_o_draft a_o_laid a_o_past a_o_kept a_o_sightings a_o_finder a_o_mix a_o_sightings_cards a_o_sightings_places : Nat} {w_o_order : Int64} {v_o_sightings_held : Int32} : ∀ u : Int32 × Int32, f_X9_forget F v_o_sightings_held = some u → jM l E K_X9_forget [.ref a_o] [jO a_o 6 [.ref a_o_text, .ref a_o_draft, .ref a_o_laid, .ref a_o_past, .ref a_o_kept, .ref a_o_sightings, .ref a_o_finder, .ref a_o_mix, .long w_o_order], jO a_o_sightings 4 [.ref a_o_sightings_cards, .ref a_o_sightings_places, .int v_o_sightings_held]] (jd (some (.int u.1)) [jO a_o 6 [.ref a_o_text, .ref a_o_draft, .ref a_o_laid, .ref a_o_past, .ref a_o_kept, .ref a_o_sightings, .ref a_o_finder, .ref a_o_mix, .long w_o_order], jO a_o_sightings 4 [.ref a_o_sightings_cards, .ref a_o_sightings_places, .int u.2]]) := by
  intro u h
  unfold f_X9_forget at h
  refine j_met [(0, .ref a_o)] (by decide +kernel) (Nat.le_of_ble_eq_true rfl) rfl ?_
  refine j_aload_n (pc := 0) 0 dX9_forget_0 rfl rfl ?_
  refine j_get (pc := 1) (v := .ref a_o_sightings) 0 5 rfl rfl (Nat.le_of_ble_eq_true rfl) iwX9 m1_193 rfl dX9_forget_1 ?_
  refine j_getN (pc := 4) (v := .int v_o_sightings_held) 1 2 rfl rfl (Nat.le_of_ble_eq_true rfl) iwX7 (List.mem_of_getElem? (i := 2) rfl) rfl dX9_forget_4 ?_
  refine j_istore_n (pc := 7) (lv' := [(1, .int v_o_sightings_held), (0, .ref a_o)]) dX9_forget_7 rfl (Nat.le_of_ble_eq_true rfl) rfl ?_
  refine j_aload_n (pc := 8) 1 dX9_forget_8 rfl rfl ?_
  refine j_get (pc := 9) (v := .ref a_o_sightings) 0 5 rfl rfl (Nat.le_of_ble_eq_true rfl) iwX9 m1_193 rfl dX9_forget_9 ?_
  refine j_iconst (pc := 12) dX9_forget_12 ic_0 ?_
  refine j_putN (pc := 13) (w' := [jO a_o 6 [.ref a_o_text, .ref a_o_draft, .ref a_o_laid, .ref a_o_past, .ref a_o_kept, .ref a_o_sightings, .ref a_o_finder, .ref a_o_mix, .long w_o_order], jO a_o_sightings 4 [.ref a_o_sightings_cards, .ref a_o_sightings_places, .int (0 : Int32)]]) tyX7 1 2 tyX7_ok nmX7 rfl rfl (Nat.le_of_ble_eq_true rfl) iwX7 (List.mem_of_getElem? (i := 2) rfl) rfl rfl rfl rfl (Nat.le_of_ble_eq_true rfl) dX9_forget_13 rfl ?_
  refine j_iload_n (pc := 16) 0 dX9_forget_16 rfl rfl ?_
  cases h
  exact j_iret (pc := 17) rfl dX9_forget_17 (Nat.le_of_ble_eq_true rfl) (Nat.le_of_ble_eq_true rfl) (jd_i rfl rfl)
set_option maxRecDepth 20000 in
theorem w_X9_fittingKinds_4 {l : Launch} {E : jE} {F : Nat} {v_o_laid_cards : Int32} {v_o_sightings_held : Int32} {f_o_sightings_cards : Nat → Int32} {f_o_sightings_places : Nat → Int32} {a_o a_o_text a_o_draft a_o_laid a_o_past a_o_kept a_o_sightings a_o_finder a_o_mix a_o_sightings_cards a_o_sightings_places : Nat} {w_o_order : Int64} {w_o_laid_colours : Int32} {w_o_laid_acts : Int32} {w_o_laid_deal : Int64} {w_o_laid_cardsAreFixed : Int32} : ∀ (n : Nat) (x1 : Int32) (x2 : Int32) (u : Int32), g_X9_fittingKinds_4 F v_o_laid_cards v_o_sightings_held f_o_sightings_cards f_o_sightings_places n x1 x2 = some u → jT l E K_X9_fittingKinds 0 0 4 [(0, .ref a_o), (1, .int x1), (2, .int x2)] [] [jO a_o 6 [.ref a_o_text, .ref a_o_draft, .ref a_o_laid, .ref a_o_past, .ref a_o_kept, .ref a_o_sightings, .ref a_o_finder, .ref a_o_mix, .long w_o_order], jO a_o_laid 2 [.int v_o_laid_cards, .int w_o_laid_colours, .int w_o_laid_acts, .long w_o_laid_deal, .int w_o_laid_cardsAreFixed], jO a_o_sightings 4 [.ref a_o_sightings_cards, .ref a_o_sightings_places, .int v_o_sightings_held], jI E a_o_sightings_cards 8 f_o_sightings_cards, jI E a_o_sightings_places 8 f_o_sightings_places] (jd (some (.int u)) [jO a_o 6 [.ref a_o_text, .ref a_o_draft, .ref a_o_laid, .ref a_o_past, .ref a_o_kept, .ref a_o_sightings, .ref a_o_finder, .ref a_o_mix, .long w_o_order], jO a_o_laid 2 [.int v_o_laid_cards, .int w_o_laid_colours, .int w_o_laid_acts, .long w_o_laid_deal, .int w_o_laid_cardsAreFixed], jO a_o_sightings 4 [.ref a_o_sightings_cards, .ref a_o_sightings_places, .int v_o_sightings_held], jI E a_o_sightings_cards 8 f_o_sightings_cards, jI E a_o_sightings_places 8 f_o_sightings_places]) := by
  intro n
  induction n with
  | zero =>
    intro x1 x2 u h
    rw [g_X9_fittingKinds_4] at h
    cases h
  | succ n ih =>
    intro x1 x2 u h
    rw [g_X9_fittingKinds_4] at h
    refine j_iload_n (pc := 4) 2 dX9_fittingKinds_4 rfl rfl ?_
    refine j_iconst (pc := 5) dX9_fittingKinds_5 ic_5 ?_
    refine j_icmp_ge (pc := 6) (tgt := 42) dX9_fittingKinds_6 (by decide) h (fun h => ?_) (fun h => ?_)
    · refine j_aload_n (pc := 42) 0 dX9_fittingKinds_42 rfl rfl ?_
      refine j_get (pc := 43) (v := .ref a_o_sightings) 0 5 rfl rfl (Nat.le_of_ble_eq_true rfl) iwX9 m1_193 rfl dX9_fittingKinds_43 ?_
      refine j_aload_n (pc := 46) 0 dX9_fittingKinds_46 rfl rfl ?_
      refine j_get (pc := 47) (v := .ref a_o_laid) 0 2 rfl rfl (Nat.le_of_ble_eq_true rfl) iwX9 m1_190 rfl dX9_fittingKinds_47 ?_
      refine j_getN (pc := 50) (v := .int v_o_laid_cards) 1 0 rfl rfl (Nat.le_of_ble_eq_true rfl) iwX5 (List.mem_of_getElem? (i := 0) rfl) rfl dX9_fittingKinds_50 ?_
      refine j_S0 (pc := 53) (Kc := K_X3_turnedOver) (As := [.int v_o_laid_cards]) (rest := [.ref a_o_sightings]) h c_X3_turnedOver q_X3_turnedOver m2_89 rfl rfl (Nat.le_of_ble_eq_true rfl) ⟨(Nat.le_of_ble_eq_true rfl), (Nat.le_of_ble_eq_true rfl)⟩ ⟨rfl, rfl⟩ ⟨(Nat.le_of_ble_eq_true rfl), (Nat.le_of_ble_eq_true rfl)⟩ dX9_fittingKinds_53 (fun b1 h => ?_)
      refine j_V (pc := 56) (q0 := 2) (Kc := K_X7_fit) (As := [.long b1]) (rest := []) (wc := [jO a_o_sightings 4 [.ref a_o_sightings_cards, .ref a_o_sightings_places, .int v_o_sightings_held], jI E a_o_sightings_cards 8 f_o_sightings_cards, jI E a_o_sightings_places 8 f_o_sightings_places]) (w' := fun b2 => [jO a_o 6 [.ref a_o_text, .ref a_o_draft, .ref a_o_laid, .ref a_o_past, .ref a_o_kept, .ref a_o_sightings, .ref a_o_finder, .ref a_o_mix, .long w_o_order], jO a_o_laid 2 [.int v_o_laid_cards, .int w_o_laid_colours, .int w_o_laid_acts, .long w_o_laid_deal, .int w_o_laid_cardsAreFixed], jO a_o_sightings 4 [.ref a_o_sightings_cards, .ref a_o_sightings_places, .int v_o_sightings_held], jI E a_o_sightings_cards 8 f_o_sightings_cards, jI E a_o_sightings_places 8 f_o_sightings_places]) (st1 := fun b2 => [.int b2]) [2, 3, 4] rfl rfl rfl h c_X7_fit q_X7_fit m3_25 rfl rfl (Nat.le_of_ble_eq_true rfl) ⟨(Nat.le_of_ble_eq_true rfl), (Nat.le_of_ble_eq_true rfl)⟩ ⟨rfl, rfl⟩ ⟨(Nat.le_of_ble_eq_true rfl), (Nat.le_of_ble_eq_true rfl)⟩ dX9_fittingKinds_56 rfl (by decide) (fun _ => rfl) (fun _ => rfl) (fun _ => rfl) (fun b2 h => ?_)
      refine j_if_eq (pc := 59) (tgt := 69) dX9_fittingKinds_59 (by decide) h (fun h => ?_) (fun h => ?_)
      · refine j_iload_n (pc := 69) 1 dX9_fittingKinds_69 rfl rfl ?_
        cases h
        exact j_iret (pc := 70) rfl dX9_fittingKinds_70 (Nat.le_of_ble_eq_true rfl) (Nat.le_of_ble_eq_true rfl) (jd_i rfl rfl)
      · refine j_iload_n (pc := 62) 1 dX9_fittingKinds_62 rfl rfl ?_
        refine j_bipush (pc := 63) dX9_fittingKinds_63 bc_32 ?_
        refine j_ior (pc := 65) dX9_fittingKinds_65 ?_
        refine j_goto (pc := 66) (tgt := 70) dX9_fittingKinds_66 (by decide) ?_
        cases h
        exact j_iret (pc := 70) rfl dX9_fittingKinds_70 (Nat.le_of_ble_eq_true rfl) (Nat.le_of_ble_eq_true rfl) (jd_i rfl rfl)
    · refine j_aload_n (pc := 9) 0 dX9_fittingKinds_9 rfl rfl ?_
      refine j_get (pc := 10) (v := .ref a_o_sightings) 0 5 rfl rfl (Nat.le_of_ble_eq_true rfl) iwX9 m1_193 rfl dX9_fittingKinds_10 ?_
      refine j_iload_n (pc := 13) 2 dX9_fittingKinds_13 rfl rfl ?_
      refine j_aload_n (pc := 14) 0 dX9_fittingKinds_14 rfl rfl ?_
      refine j_get (pc := 15) (v := .ref a_o_laid) 0 2 rfl rfl (Nat.le_of_ble_eq_true rfl) iwX9 m1_190 rfl dX9_fittingKinds_15 ?_
      refine j_getN (pc := 18) (v := .int v_o_laid_cards) 1 0 rfl rfl (Nat.le_of_ble_eq_true rfl) iwX5 (List.mem_of_getElem? (i := 0) rfl) rfl dX9_fittingKinds_18 ?_
      refine j_S0 (pc := 21) (Kc := K_X3_lacing) (As := [.int x2, .int v_o_laid_cards]) (rest := [.ref a_o_sightings]) h c_X3_lacing q_X3_lacing m2_63 rfl rfl (Nat.le_of_ble_eq_true rfl) ⟨(Nat.le_of_ble_eq_true rfl), (Nat.le_of_ble_eq_true rfl)⟩ ⟨rfl, rfl⟩ ⟨(Nat.le_of_ble_eq_true rfl), (Nat.le_of_ble_eq_true rfl)⟩ dX9_fittingKinds_21 (fun b3 h => ?_)
      refine j_V (pc := 24) (q0 := 2) (Kc := K_X7_fit) (As := [.long b3]) (rest := []) (wc := [jO a_o_sightings 4 [.ref a_o_sightings_cards, .ref a_o_sightings_places, .int v_o_sightings_held], jI E a_o_sightings_cards 8 f_o_sightings_cards, jI E a_o_sightings_places 8 f_o_sightings_places]) (w' := fun b4 => [jO a_o 6 [.ref a_o_text, .ref a_o_draft, .ref a_o_laid, .ref a_o_past, .ref a_o_kept, .ref a_o_sightings, .ref a_o_finder, .ref a_o_mix, .long w_o_order], jO a_o_laid 2 [.int v_o_laid_cards, .int w_o_laid_colours, .int w_o_laid_acts, .long w_o_laid_deal, .int w_o_laid_cardsAreFixed], jO a_o_sightings 4 [.ref a_o_sightings_cards, .ref a_o_sightings_places, .int v_o_sightings_held], jI E a_o_sightings_cards 8 f_o_sightings_cards, jI E a_o_sightings_places 8 f_o_sightings_places]) (st1 := fun b4 => [.int b4]) [2, 3, 4] rfl rfl rfl h c_X7_fit q_X7_fit m3_25 rfl rfl (Nat.le_of_ble_eq_true rfl) ⟨(Nat.le_of_ble_eq_true rfl), (Nat.le_of_ble_eq_true rfl)⟩ ⟨rfl, rfl⟩ ⟨(Nat.le_of_ble_eq_true rfl), (Nat.le_of_ble_eq_true rfl)⟩ dX9_fittingKinds_24 rfl (by decide) (fun _ => rfl) (fun _ => rfl) (fun _ => rfl) (fun b4 h => ?_)
      refine j_if_eq (pc := 27) (tgt := 36) dX9_fittingKinds_27 (by decide) h (fun h => ?_) (fun h => ?_)
      · refine j_iinc (pc := 36) (j := 2) (lv' := [(2, .int (x2 + (1 : Int32))), (0, .ref a_o), (1, .int x1)]) dX9_fittingKinds_36 rfl (congrArg (fun z => x2 + z) ic_1) (Nat.le_of_ble_eq_true rfl) rfl ?_
        refine j_goto (pc := 39) (tgt := 4) dX9_fittingKinds_39 (by decide) ?_
        exact j_sub (lv' := [(0, .ref a_o), (1, .int x1), (2, .int (x2 + (1 : Int32)))]) [1, 2, 0] rfl (ih _ _ u h)
      · refine j_iload_n (pc := 30) 1 dX9_fittingKinds_30 rfl rfl ?_
        refine j_iconst (pc := 31) dX9_fittingKinds_31 ic_1 ?_
        refine j_iload_n (pc := 32) 2 dX9_fittingKinds_32 rfl rfl ?_
        refine j_ishl (pc := 33) dX9_fittingKinds_33 ?_
        refine j_ior (pc := 34) dX9_fittingKinds_34 ?_
        refine j_istore_n (pc := 35) (lv' := [(1, .int (x1 ||| (jshl (1 : Int32) x2))), (0, .ref a_o), (2, .int x2)]) dX9_fittingKinds_35 rfl (Nat.le_of_ble_eq_true rfl) rfl ?_
        refine j_iinc (pc := 36) (j := 2) (lv' := [(2, .int (x2 + (1 : Int32))), (1, .int (x1 ||| (jshl (1 : Int32) x2))), (0, .ref a_o)]) dX9_fittingKinds_36 rfl (congrArg (fun z => x2 + z) ic_1) (Nat.le_of_ble_eq_true rfl) rfl ?_
        refine j_goto (pc := 39) (tgt := 4) dX9_fittingKinds_39 (by decide) ?_
        exact j_sub (lv' := [(0, .ref a_o), (1, .int (x1 ||| (jshl (1 : Int32) x2))), (2, .int (x2 + (1 : Int32)))]) [2, 1, 0] rfl (ih _ _ u h)
set_option maxRecDepth 20000 in
theorem c_X9_fittingKinds {l : Launch} {E : jE} {F : Nat} {v_o_laid_cards : Int32} {v_o_sightings_held : Int32} {f_o_sightings_cards : Nat → Int32} {f_o_sightings_places : Nat → Int32} {a_o a_o_text a_o_draft a_o_laid a_o_past a_o_kept a_o_sightings a_o_finder a_o_mix a_o_sightings_cards a_o_sightings_places : Nat} {w_o_order : Int64} {w_o_laid_colours : Int32} {w_o_laid_acts : Int32} {w_o_laid_deal : Int64} {w_o_laid_cardsAreFixed : Int32} : ∀ u : Int32, f_X9_fittingKinds F v_o_laid_cards v_o_sightings_held f_o_sightings_cards f_o_sightings_places = some u → jM l E K_X9_fittingKinds [.ref a_o] [jO a_o 6 [.ref a_o_text, .ref a_o_draft, .ref a_o_laid, .ref a_o_past, .ref a_o_kept, .ref a_o_sightings, .ref a_o_finder, .ref a_o_mix, .long w_o_order], jO a_o_laid 2 [.int v_o_laid_cards, .int w_o_laid_colours, .int w_o_laid_acts, .long w_o_laid_deal, .int w_o_laid_cardsAreFixed], jO a_o_sightings 4 [.ref a_o_sightings_cards, .ref a_o_sightings_places, .int v_o_sightings_held], jI E a_o_sightings_cards 8 f_o_sightings_cards, jI E a_o_sightings_places 8 f_o_sightings_places] (jd (some (.int u)) [jO a_o 6 [.ref a_o_text, .ref a_o_draft, .ref a_o_laid, .ref a_o_past, .ref a_o_kept, .ref a_o_sightings, .ref a_o_finder, .ref a_o_mix, .long w_o_order], jO a_o_laid 2 [.int v_o_laid_cards, .int w_o_laid_colours, .int w_o_laid_acts, .long w_o_laid_deal, .int w_o_laid_cardsAreFixed], jO a_o_sightings 4 [.ref a_o_sightings_cards, .ref a_o_sightings_places, .int v_o_sightings_held], jI E a_o_sightings_cards 8 f_o_sightings_cards, jI E a_o_sightings_places 8 f_o_sightings_places]) := by
  intro u h
  unfold f_X9_fittingKinds at h
  refine j_met [(0, .ref a_o)] (by decide +kernel) (Nat.le_of_ble_eq_true rfl) rfl ?_
  refine j_iconst (pc := 0) dX9_fittingKinds_0 ic_0 ?_
  refine j_istore_n (pc := 1) (lv' := [(1, .int (0 : Int32)), (0, .ref a_o)]) dX9_fittingKinds_1 rfl (Nat.le_of_ble_eq_true rfl) rfl ?_
  refine j_iconst (pc := 2) dX9_fittingKinds_2 ic_0 ?_
  refine j_istore_n (pc := 3) (lv' := [(2, .int (0 : Int32)), (1, .int (0 : Int32)), (0, .ref a_o)]) dX9_fittingKinds_3 rfl (Nat.le_of_ble_eq_true rfl) rfl ?_
  exact j_sub (lv' := [(0, .ref a_o), (1, .int (0 : Int32)), (2, .int (0 : Int32))]) [2, 1, 0] rfl (w_X9_fittingKinds_4 _ _ _ u h)
set_option maxRecDepth 20000 in
theorem w_X9_fittingCuts_4 {l : Launch} {E : jE} {F : Nat} {v_o_laid_cards : Int32} {v_o_sightings_held : Int32} {f_o_sightings_cards : Nat → Int32} {f_o_sightings_places : Nat → Int32} {a_o a_o_text a_o_draft a_o_laid a_o_past a_o_kept a_o_sightings a_o_finder a_o_mix a_o_sightings_cards a_o_sightings_places : Nat} {w_o_order : Int64} {w_o_laid_colours : Int32} {w_o_laid_acts : Int32} {w_o_laid_deal : Int64} {w_o_laid_cardsAreFixed : Int32} : ∀ (n : Nat) (x1 : Int32) (x2 : Int32) (u : Int32), g_X9_fittingCuts_4 F v_o_laid_cards v_o_sightings_held f_o_sightings_cards f_o_sightings_places n x1 x2 = some u → jT l E K_X9_fittingCuts 0 0 4 [(0, .ref a_o), (1, .int x1), (2, .int x2)] [] [jO a_o 6 [.ref a_o_text, .ref a_o_draft, .ref a_o_laid, .ref a_o_past, .ref a_o_kept, .ref a_o_sightings, .ref a_o_finder, .ref a_o_mix, .long w_o_order], jO a_o_laid 2 [.int v_o_laid_cards, .int w_o_laid_colours, .int w_o_laid_acts, .long w_o_laid_deal, .int w_o_laid_cardsAreFixed], jO a_o_sightings 4 [.ref a_o_sightings_cards, .ref a_o_sightings_places, .int v_o_sightings_held], jI E a_o_sightings_cards 8 f_o_sightings_cards, jI E a_o_sightings_places 8 f_o_sightings_places] (jd (some (.int u)) [jO a_o 6 [.ref a_o_text, .ref a_o_draft, .ref a_o_laid, .ref a_o_past, .ref a_o_kept, .ref a_o_sightings, .ref a_o_finder, .ref a_o_mix, .long w_o_order], jO a_o_laid 2 [.int v_o_laid_cards, .int w_o_laid_colours, .int w_o_laid_acts, .long w_o_laid_deal, .int w_o_laid_cardsAreFixed], jO a_o_sightings 4 [.ref a_o_sightings_cards, .ref a_o_sightings_places, .int v_o_sightings_held], jI E a_o_sightings_cards 8 f_o_sightings_cards, jI E a_o_sightings_places 8 f_o_sightings_places]) := by
  intro n
  induction n with
  | zero =>
    intro x1 x2 u h
    rw [g_X9_fittingCuts_4] at h
    cases h
  | succ n ih =>
    intro x1 x2 u h
    rw [g_X9_fittingCuts_4] at h
    refine j_iload_n (pc := 4) 2 dX9_fittingCuts_4 rfl rfl ?_
    refine j_aload_n (pc := 5) 0 dX9_fittingCuts_5 rfl rfl ?_
    refine j_get (pc := 6) (v := .ref a_o_laid) 0 2 rfl rfl (Nat.le_of_ble_eq_true rfl) iwX9 m1_190 rfl dX9_fittingCuts_6 ?_
    refine j_getN (pc := 9) (v := .int v_o_laid_cards) 1 0 rfl rfl (Nat.le_of_ble_eq_true rfl) iwX5 (List.mem_of_getElem? (i := 0) rfl) rfl dX9_fittingCuts_9 ?_
    refine j_icmp_ge (pc := 12) (tgt := 48) dX9_fittingCuts_12 (by decide) h (fun h => ?_) (fun h => ?_)
    · refine j_iload_n (pc := 48) 1 dX9_fittingCuts_48 rfl rfl ?_
      cases h
      exact j_iret (pc := 49) rfl dX9_fittingCuts_49 (Nat.le_of_ble_eq_true rfl) (Nat.le_of_ble_eq_true rfl) (jd_i rfl rfl)
    · refine j_aload_n (pc := 15) 0 dX9_fittingCuts_15 rfl rfl ?_
      refine j_get (pc := 16) (v := .ref a_o_sightings) 0 5 rfl rfl (Nat.le_of_ble_eq_true rfl) iwX9 m1_193 rfl dX9_fittingCuts_16 ?_
      refine j_iload_n (pc := 19) 2 dX9_fittingCuts_19 rfl rfl ?_
      refine j_aload_n (pc := 20) 0 dX9_fittingCuts_20 rfl rfl ?_
      refine j_get (pc := 21) (v := .ref a_o_laid) 0 2 rfl rfl (Nat.le_of_ble_eq_true rfl) iwX9 m1_190 rfl dX9_fittingCuts_21 ?_
      refine j_getN (pc := 24) (v := .int v_o_laid_cards) 1 0 rfl rfl (Nat.le_of_ble_eq_true rfl) iwX5 (List.mem_of_getElem? (i := 0) rfl) rfl dX9_fittingCuts_24 ?_
      refine j_S0 (pc := 27) (Kc := K_X3_cutAt) (As := [.int x2, .int v_o_laid_cards]) (rest := [.ref a_o_sightings]) h c_X3_cutAt q_X3_cutAt m2_84 rfl rfl (Nat.le_of_ble_eq_true rfl) ⟨(Nat.le_of_ble_eq_true rfl), (Nat.le_of_ble_eq_true rfl)⟩ ⟨rfl, rfl⟩ ⟨(Nat.le_of_ble_eq_true rfl), (Nat.le_of_ble_eq_true rfl)⟩ dX9_fittingCuts_27 (fun b1 h => ?_)
      refine j_V (pc := 30) (q0 := 2) (Kc := K_X7_fit) (As := [.long b1]) (rest := []) (wc := [jO a_o_sightings 4 [.ref a_o_sightings_cards, .ref a_o_sightings_places, .int v_o_sightings_held], jI E a_o_sightings_cards 8 f_o_sightings_cards, jI E a_o_sightings_places 8 f_o_sightings_places]) (w' := fun b2 => [jO a_o 6 [.ref a_o_text, .ref a_o_draft, .ref a_o_laid, .ref a_o_past, .ref a_o_kept, .ref a_o_sightings, .ref a_o_finder, .ref a_o_mix, .long w_o_order], jO a_o_laid 2 [.int v_o_laid_cards, .int w_o_laid_colours, .int w_o_laid_acts, .long w_o_laid_deal, .int w_o_laid_cardsAreFixed], jO a_o_sightings 4 [.ref a_o_sightings_cards, .ref a_o_sightings_places, .int v_o_sightings_held], jI E a_o_sightings_cards 8 f_o_sightings_cards, jI E a_o_sightings_places 8 f_o_sightings_places]) (st1 := fun b2 => [.int b2]) [2, 3, 4] rfl rfl rfl h c_X7_fit q_X7_fit m3_25 rfl rfl (Nat.le_of_ble_eq_true rfl) ⟨(Nat.le_of_ble_eq_true rfl), (Nat.le_of_ble_eq_true rfl)⟩ ⟨rfl, rfl⟩ ⟨(Nat.le_of_ble_eq_true rfl), (Nat.le_of_ble_eq_true rfl)⟩ dX9_fittingCuts_30 rfl (by decide) (fun _ => rfl) (fun _ => rfl) (fun _ => rfl) (fun b2 h => ?_)
      refine j_if_eq (pc := 33) (tgt := 42) dX9_fittingCuts_33 (by decide) h (fun h => ?_) (fun h => ?_)
      · refine j_iinc (pc := 42) (j := 2) (lv' := [(2, .int (x2 + (1 : Int32))), (0, .ref a_o), (1, .int x1)]) dX9_fittingCuts_42 rfl (congrArg (fun z => x2 + z) ic_1) (Nat.le_of_ble_eq_true rfl) rfl ?_
        refine j_goto (pc := 45) (tgt := 4) dX9_fittingCuts_45 (by decide) ?_
        exact j_sub (lv' := [(0, .ref a_o), (1, .int x1), (2, .int (x2 + (1 : Int32)))]) [1, 2, 0] rfl (ih _ _ u h)
      · refine j_iload_n (pc := 36) 1 dX9_fittingCuts_36 rfl rfl ?_
        refine j_iconst (pc := 37) dX9_fittingCuts_37 ic_1 ?_
        refine j_iload_n (pc := 38) 2 dX9_fittingCuts_38 rfl rfl ?_
        refine j_ishl (pc := 39) dX9_fittingCuts_39 ?_
        refine j_ior (pc := 40) dX9_fittingCuts_40 ?_
        refine j_istore_n (pc := 41) (lv' := [(1, .int (x1 ||| (jshl (1 : Int32) x2))), (0, .ref a_o), (2, .int x2)]) dX9_fittingCuts_41 rfl (Nat.le_of_ble_eq_true rfl) rfl ?_
        refine j_iinc (pc := 42) (j := 2) (lv' := [(2, .int (x2 + (1 : Int32))), (1, .int (x1 ||| (jshl (1 : Int32) x2))), (0, .ref a_o)]) dX9_fittingCuts_42 rfl (congrArg (fun z => x2 + z) ic_1) (Nat.le_of_ble_eq_true rfl) rfl ?_
        refine j_goto (pc := 45) (tgt := 4) dX9_fittingCuts_45 (by decide) ?_
        exact j_sub (lv' := [(0, .ref a_o), (1, .int (x1 ||| (jshl (1 : Int32) x2))), (2, .int (x2 + (1 : Int32)))]) [2, 1, 0] rfl (ih _ _ u h)
set_option maxRecDepth 20000 in
theorem c_X9_fittingCuts {l : Launch} {E : jE} {F : Nat} {v_o_laid_cards : Int32} {v_o_sightings_held : Int32} {f_o_sightings_cards : Nat → Int32} {f_o_sightings_places : Nat → Int32} {a_o a_o_text a_o_draft a_o_laid a_o_past a_o_kept a_o_sightings a_o_finder a_o_mix a_o_sightings_cards a_o_sightings_places : Nat} {w_o_order : Int64} {w_o_laid_colours : Int32} {w_o_laid_acts : Int32} {w_o_laid_deal : Int64} {w_o_laid_cardsAreFixed : Int32} : ∀ u : Int32, f_X9_fittingCuts F v_o_laid_cards v_o_sightings_held f_o_sightings_cards f_o_sightings_places = some u → jM l E K_X9_fittingCuts [.ref a_o] [jO a_o 6 [.ref a_o_text, .ref a_o_draft, .ref a_o_laid, .ref a_o_past, .ref a_o_kept, .ref a_o_sightings, .ref a_o_finder, .ref a_o_mix, .long w_o_order], jO a_o_laid 2 [.int v_o_laid_cards, .int w_o_laid_colours, .int w_o_laid_acts, .long w_o_laid_deal, .int w_o_laid_cardsAreFixed], jO a_o_sightings 4 [.ref a_o_sightings_cards, .ref a_o_sightings_places, .int v_o_sightings_held], jI E a_o_sightings_cards 8 f_o_sightings_cards, jI E a_o_sightings_places 8 f_o_sightings_places] (jd (some (.int u)) [jO a_o 6 [.ref a_o_text, .ref a_o_draft, .ref a_o_laid, .ref a_o_past, .ref a_o_kept, .ref a_o_sightings, .ref a_o_finder, .ref a_o_mix, .long w_o_order], jO a_o_laid 2 [.int v_o_laid_cards, .int w_o_laid_colours, .int w_o_laid_acts, .long w_o_laid_deal, .int w_o_laid_cardsAreFixed], jO a_o_sightings 4 [.ref a_o_sightings_cards, .ref a_o_sightings_places, .int v_o_sightings_held], jI E a_o_sightings_cards 8 f_o_sightings_cards, jI E a_o_sightings_places 8 f_o_sightings_places]) := by
  intro u h
  unfold f_X9_fittingCuts at h
  refine j_met [(0, .ref a_o)] (by decide +kernel) (Nat.le_of_ble_eq_true rfl) rfl ?_
  refine j_iconst (pc := 0) dX9_fittingCuts_0 ic_0 ?_
  refine j_istore_n (pc := 1) (lv' := [(1, .int (0 : Int32)), (0, .ref a_o)]) dX9_fittingCuts_1 rfl (Nat.le_of_ble_eq_true rfl) rfl ?_
  refine j_iconst (pc := 2) dX9_fittingCuts_2 ic_0 ?_
  refine j_istore_n (pc := 3) (lv' := [(2, .int (0 : Int32)), (1, .int (0 : Int32)), (0, .ref a_o)]) dX9_fittingCuts_3 rfl (Nat.le_of_ble_eq_true rfl) rfl ?_
  exact j_sub (lv' := [(0, .ref a_o), (1, .int (0 : Int32)), (2, .int (0 : Int32))]) [2, 1, 0] rfl (w_X9_fittingCuts_4 _ _ _ u h)
set_option maxRecDepth 20000 in
theorem c_X9_done {l : Launch} {E : jE} {F : Nat} {x1 : Int32} {v_o_laid_cards : Int32} {v_o_sightings_held : Int32} {f_o_sightings_cards : Nat → Int32} {f_o_sightings_places : Nat → Int32} {a_o a_o_text a_o_draft a_o_laid a_o_past a_o_kept a_o_sightings a_o_finder a_o_mix a_o_sightings_cards a_o_sightings_places : Nat} {w_o_order : Int64} {w_o_laid_colours : Int32} {w_o_laid_acts : Int32} {w_o_laid_deal : Int64} {w_o_laid_cardsAreFixed : Int32} : ∀ u : Int32, f_X9_done F x1 v_o_laid_cards v_o_sightings_held f_o_sightings_cards f_o_sightings_places = some u → jM l E K_X9_done [.ref a_o, .int x1] [jO a_o 6 [.ref a_o_text, .ref a_o_draft, .ref a_o_laid, .ref a_o_past, .ref a_o_kept, .ref a_o_sightings, .ref a_o_finder, .ref a_o_mix, .long w_o_order], jO a_o_laid 2 [.int v_o_laid_cards, .int w_o_laid_colours, .int w_o_laid_acts, .long w_o_laid_deal, .int w_o_laid_cardsAreFixed], jO a_o_sightings 4 [.ref a_o_sightings_cards, .ref a_o_sightings_places, .int v_o_sightings_held], jI E a_o_sightings_cards 8 f_o_sightings_cards, jI E a_o_sightings_places 8 f_o_sightings_places] (jd (some (.int u)) [jO a_o 6 [.ref a_o_text, .ref a_o_draft, .ref a_o_laid, .ref a_o_past, .ref a_o_kept, .ref a_o_sightings, .ref a_o_finder, .ref a_o_mix, .long w_o_order], jO a_o_laid 2 [.int v_o_laid_cards, .int w_o_laid_colours, .int w_o_laid_acts, .long w_o_laid_deal, .int w_o_laid_cardsAreFixed], jO a_o_sightings 4 [.ref a_o_sightings_cards, .ref a_o_sightings_places, .int v_o_sightings_held], jI E a_o_sightings_cards 8 f_o_sightings_cards, jI E a_o_sightings_places 8 f_o_sightings_places]) := by
  intro u h
  unfold f_X9_done at h
  refine j_met [(0, .ref a_o), (1, .int x1)] (by decide +kernel) (Nat.le_of_ble_eq_true rfl) rfl ?_
  refine j_iload_n (pc := 0) 1 dX9_done_0 rfl rfl ?_
  refine j_if_ne (pc := 1) (tgt := 9) dX9_done_1 (by decide) h (fun h => ?_) (fun h => ?_)
  · refine j_iload_n (pc := 9) 1 dX9_done_9 rfl rfl ?_
    refine j_iconst (pc := 10) dX9_done_10 ic_1 ?_
    refine j_icmp_ne (pc := 11) (tgt := 21) dX9_done_11 (by decide) h (fun h => ?_) (fun h => ?_)
    · refine j_iconst (pc := 21) dX9_done_21 ic_m1 ?_
      cases h
      exact j_iret (pc := 22) rfl dX9_done_22 (Nat.le_of_ble_eq_true rfl) (Nat.le_of_ble_eq_true rfl) (jd_i rfl rfl)
    · refine j_aload_n (pc := 14) 0 dX9_done_14 rfl rfl ?_
      refine j_V (pc := 15) (q0 := 0) (Kc := K_X9_fittingCuts) (As := []) (rest := []) (wc := [jO a_o 6 [.ref a_o_text, .ref a_o_draft, .ref a_o_laid, .ref a_o_past, .ref a_o_kept, .ref a_o_sightings, .ref a_o_finder, .ref a_o_mix, .long w_o_order], jO a_o_laid 2 [.int v_o_laid_cards, .int w_o_laid_colours, .int w_o_laid_acts, .long w_o_laid_deal, .int w_o_laid_cardsAreFixed], jO a_o_sightings 4 [.ref a_o_sightings_cards, .ref a_o_sightings_places, .int v_o_sightings_held], jI E a_o_sightings_cards 8 f_o_sightings_cards, jI E a_o_sightings_places 8 f_o_sightings_places]) (w' := fun b1 => [jO a_o 6 [.ref a_o_text, .ref a_o_draft, .ref a_o_laid, .ref a_o_past, .ref a_o_kept, .ref a_o_sightings, .ref a_o_finder, .ref a_o_mix, .long w_o_order], jO a_o_laid 2 [.int v_o_laid_cards, .int w_o_laid_colours, .int w_o_laid_acts, .long w_o_laid_deal, .int w_o_laid_cardsAreFixed], jO a_o_sightings 4 [.ref a_o_sightings_cards, .ref a_o_sightings_places, .int v_o_sightings_held], jI E a_o_sightings_cards 8 f_o_sightings_cards, jI E a_o_sightings_places 8 f_o_sightings_places]) (st1 := fun b1 => [.int b1]) [0, 1, 2, 3, 4] rfl rfl rfl h c_X9_fittingCuts q_X9_fittingCuts m3_30 rfl rfl (Nat.le_of_ble_eq_true rfl) ⟨(Nat.le_of_ble_eq_true rfl), (Nat.le_of_ble_eq_true rfl)⟩ ⟨rfl, rfl⟩ ⟨(Nat.le_of_ble_eq_true rfl), (Nat.le_of_ble_eq_true rfl)⟩ dX9_done_15 rfl (by decide) (fun _ => rfl) (fun _ => rfl) (fun _ => rfl) (fun b1 h => ?_)
      refine j_goto (pc := 18) (tgt := 22) dX9_done_18 (by decide) ?_
      cases h
      exact j_iret (pc := 22) rfl dX9_done_22 (Nat.le_of_ble_eq_true rfl) (Nat.le_of_ble_eq_true rfl) (jd_i rfl rfl)
  · refine j_aload_n (pc := 4) 0 dX9_done_4 rfl rfl ?_
    refine j_V (pc := 5) (q0 := 0) (Kc := K_X9_fittingKinds) (As := []) (rest := []) (wc := [jO a_o 6 [.ref a_o_text, .ref a_o_draft, .ref a_o_laid, .ref a_o_past, .ref a_o_kept, .ref a_o_sightings, .ref a_o_finder, .ref a_o_mix, .long w_o_order], jO a_o_laid 2 [.int v_o_laid_cards, .int w_o_laid_colours, .int w_o_laid_acts, .long w_o_laid_deal, .int w_o_laid_cardsAreFixed], jO a_o_sightings 4 [.ref a_o_sightings_cards, .ref a_o_sightings_places, .int v_o_sightings_held], jI E a_o_sightings_cards 8 f_o_sightings_cards, jI E a_o_sightings_places 8 f_o_sightings_places]) (w' := fun b2 => [jO a_o 6 [.ref a_o_text, .ref a_o_draft, .ref a_o_laid, .ref a_o_past, .ref a_o_kept, .ref a_o_sightings, .ref a_o_finder, .ref a_o_mix, .long w_o_order], jO a_o_laid 2 [.int v_o_laid_cards, .int w_o_laid_colours, .int w_o_laid_acts, .long w_o_laid_deal, .int w_o_laid_cardsAreFixed], jO a_o_sightings 4 [.ref a_o_sightings_cards, .ref a_o_sightings_places, .int v_o_sightings_held], jI E a_o_sightings_cards 8 f_o_sightings_cards, jI E a_o_sightings_places 8 f_o_sightings_places]) (st1 := fun b2 => [.int b2]) [0, 1, 2, 3, 4] rfl rfl rfl h c_X9_fittingKinds q_X9_fittingKinds m3_21 rfl rfl (Nat.le_of_ble_eq_true rfl) ⟨(Nat.le_of_ble_eq_true rfl), (Nat.le_of_ble_eq_true rfl)⟩ ⟨rfl, rfl⟩ ⟨(Nat.le_of_ble_eq_true rfl), (Nat.le_of_ble_eq_true rfl)⟩ dX9_done_5 rfl (by decide) (fun _ => rfl) (fun _ => rfl) (fun _ => rfl) (fun b2 h => ?_)
    cases h
    exact j_iret (pc := 8) rfl dX9_done_8 (Nat.le_of_ble_eq_true rfl) (Nat.le_of_ble_eq_true rfl) (jd_i rfl rfl)
set_option maxRecDepth 20000 in
theorem w_X9_endOfWay_6 {l : Launch} {E : jE} {F : Nat} {x1 : Int32} {x2 : Int32} {x3 : Int32} {v_o_laid_cards : Int32} {a_o a_o_text a_o_draft a_o_laid a_o_past a_o_kept a_o_sightings a_o_finder a_o_mix : Nat} {w_o_order : Int64} {w_o_laid_colours : Int32} {w_o_laid_acts : Int32} {w_o_laid_deal : Int64} {w_o_laid_cardsAreFixed : Int32} : ∀ (n : Nat) (x4 : Int32) (x5 : Int32) (u : Int32), g_X9_endOfWay_6 F x1 x2 x3 v_o_laid_cards n x4 x5 = some u → jT l E K_X9_endOfWay 0 0 6 [(0, .ref a_o), (2, .int x2), (3, .int x3), (4, .int x4), (5, .int x5)] [] [jO a_o 6 [.ref a_o_text, .ref a_o_draft, .ref a_o_laid, .ref a_o_past, .ref a_o_kept, .ref a_o_sightings, .ref a_o_finder, .ref a_o_mix, .long w_o_order], jO a_o_laid 2 [.int v_o_laid_cards, .int w_o_laid_colours, .int w_o_laid_acts, .long w_o_laid_deal, .int w_o_laid_cardsAreFixed]] (jd (some (.int u)) [jO a_o 6 [.ref a_o_text, .ref a_o_draft, .ref a_o_laid, .ref a_o_past, .ref a_o_kept, .ref a_o_sightings, .ref a_o_finder, .ref a_o_mix, .long w_o_order], jO a_o_laid 2 [.int v_o_laid_cards, .int w_o_laid_colours, .int w_o_laid_acts, .long w_o_laid_deal, .int w_o_laid_cardsAreFixed]]) := by
  intro n
  induction n with
  | zero =>
    intro x4 x5 u h
    rw [g_X9_endOfWay_6] at h
    cases h
  | succ n ih =>
    intro x4 x5 u h
    rw [g_X9_endOfWay_6] at h
    refine j_iload (pc := 6) 4 dX9_endOfWay_6 rfl ?_
    refine j_iload_n (pc := 8) 2 dX9_endOfWay_8 rfl rfl ?_
    refine j_icmp_ge (pc := 9) (tgt := 38) dX9_endOfWay_9 (by decide) h (fun h => ?_) (fun h => ?_)
    · refine j_iload (pc := 38) 3 dX9_endOfWay_38 rfl ?_
      cases h
      exact j_iret (pc := 40) rfl dX9_endOfWay_40 (Nat.le_of_ble_eq_true rfl) (Nat.le_of_ble_eq_true rfl) (jd_i rfl rfl)
    · refine j_iload_n (pc := 12) 1 dX9_endOfWay_12 rfl rfl ?_
      refine j_iload (pc := 13) 4 dX9_endOfWay_13 rfl ?_
      refine j_ishr (pc := 15) dX9_endOfWay_15 ?_
      refine j_iconst (pc := 16) dX9_endOfWay_16 ic_1 ?_
      refine j_iand (pc := 17) dX9_endOfWay_17 ?_
      refine j_aload_n (pc := 18) 0 dX9_endOfWay_18 rfl rfl ?_
      refine j_get (pc := 19) (v := .ref a_o_laid) 0 2 rfl rfl (Nat.le_of_ble_eq_true rfl) iwX9 m1_190 rfl dX9_endOfWay_19 ?_
      refine j_getN (pc := 22) (v := .int v_o_laid_cards) 1 0 rfl rfl (Nat.le_of_ble_eq_true rfl) iwX5 (List.mem_of_getElem? (i := 0) rfl) rfl dX9_endOfWay_22 ?_
      refine j_iload (pc := 25) 3 dX9_endOfWay_25 rfl ?_
      refine j_S0 (pc := 27) (Kc := K_X3_goal) (As := [.int ((jshr x2 x5) &&& (1 : Int32)), .int v_o_laid_cards, .int x4]) (rest := []) h c_X3_goal q_X3_goal m3_42 rfl rfl (Nat.le_of_ble_eq_true rfl) ⟨(Nat.le_of_ble_eq_true rfl), (Nat.le_of_ble_eq_true rfl)⟩ ⟨rfl, rfl⟩ ⟨(Nat.le_of_ble_eq_true rfl), (Nat.le_of_ble_eq_true rfl)⟩ dX9_endOfWay_27 (fun b1 h => ?_)
      refine j_istore (pc := 30) (lv' := [(4, .int b1), (0, .ref a_o), (2, .int x2), (3, .int x3), (5, .int x5)]) dX9_endOfWay_30 (Nat.le_of_ble_eq_true rfl) rfl ?_
      refine j_iinc (pc := 32) (j := 4) (lv' := [(5, .int (x5 + (1 : Int32))), (4, .int b1), (0, .ref a_o), (2, .int x2), (3, .int x3)]) dX9_endOfWay_32 rfl (congrArg (fun z => x5 + z) ic_1) (Nat.le_of_ble_eq_true rfl) rfl ?_
      refine j_goto (pc := 35) (tgt := 6) dX9_endOfWay_35 (by decide) ?_
      exact j_sub (lv' := [(0, .ref a_o), (2, .int x2), (3, .int x3), (4, .int b1), (5, .int (x5 + (1 : Int32)))]) [2, 3, 4, 1, 0] rfl (ih _ _ u h)
set_option maxRecDepth 20000 in
theorem c_X9_endOfWay {l : Launch} {E : jE} {F : Nat} {x1 : Int32} {x2 : Int32} {x3 : Int32} {v_o_laid_cards : Int32} {a_o a_o_text a_o_draft a_o_laid a_o_past a_o_kept a_o_sightings a_o_finder a_o_mix : Nat} {w_o_order : Int64} {w_o_laid_colours : Int32} {w_o_laid_acts : Int32} {w_o_laid_deal : Int64} {w_o_laid_cardsAreFixed : Int32} : ∀ u : Int32, f_X9_endOfWay F x1 x2 x3 v_o_laid_cards = some u → jM l E K_X9_endOfWay [.ref a_o, .int x1, .int x2, .int x3] [jO a_o 6 [.ref a_o_text, .ref a_o_draft, .ref a_o_laid, .ref a_o_past, .ref a_o_kept, .ref a_o_sightings, .ref a_o_finder, .ref a_o_mix, .long w_o_order], jO a_o_laid 2 [.int v_o_laid_cards, .int w_o_laid_colours, .int w_o_laid_acts, .long w_o_laid_deal, .int w_o_laid_cardsAreFixed]] (jd (some (.int u)) [jO a_o 6 [.ref a_o_text, .ref a_o_draft, .ref a_o_laid, .ref a_o_past, .ref a_o_kept, .ref a_o_sightings, .ref a_o_finder, .ref a_o_mix, .long w_o_order], jO a_o_laid 2 [.int v_o_laid_cards, .int w_o_laid_colours, .int w_o_laid_acts, .long w_o_laid_deal, .int w_o_laid_cardsAreFixed]]) := by
  intro u h
  unfold f_X9_endOfWay at h
  refine j_met [(0, .ref a_o), (1, .int x1), (2, .int x2), (3, .int x3)] (by decide +kernel) (Nat.le_of_ble_eq_true rfl) rfl ?_
  refine j_iload_n (pc := 0) 1 dX9_endOfWay_0 rfl rfl ?_
  refine j_istore (pc := 1) (lv' := [(4, .int x1), (0, .ref a_o), (1, .int x1), (2, .int x2), (3, .int x3)]) dX9_endOfWay_1 (Nat.le_of_ble_eq_true rfl) rfl ?_
  refine j_iconst (pc := 3) dX9_endOfWay_3 ic_0 ?_
  refine j_istore (pc := 4) (lv' := [(5, .int (0 : Int32)), (4, .int x1), (0, .ref a_o), (1, .int x1), (2, .int x2), (3, .int x3)]) dX9_endOfWay_4 (Nat.le_of_ble_eq_true rfl) rfl ?_
  exact j_sub (lv' := [(0, .ref a_o), (2, .int x2), (3, .int x3), (4, .int x1), (5, .int (0 : Int32))]) [2, 4, 5, 1, 0] rfl (w_X9_endOfWay_6 _ _ _ u h)
set_option maxRecDepth 20000 in
theorem w_X9_weightOfWay_5 {l : Launch} {E : jE} {F : Nat} {x0 : Int32} {x1 : Int32} {x2 : Int32} : ∀ (n : Nat) (x3 : Int32) (x4 : Int32) (u : Int32), g_X9_weightOfWay_5 F x0 x1 x2 n x3 x4 = some u → jT l E K_X9_weightOfWay 0 0 5 [(0, .int x0), (1, .int x1), (2, .int x2), (3, .int x3), (4, .int x4)] [] [] (jd (some (.int u)) []) := by
  intro n
  induction n with
  | zero =>
    intro x3 x4 u h
    rw [g_X9_weightOfWay_5] at h
    cases h
  | succ n ih =>
    intro x3 x4 u h
    rw [g_X9_weightOfWay_5] at h
    refine j_iload (pc := 5) 4 dX9_weightOfWay_5 rfl ?_
    refine j_iload_n (pc := 7) 1 dX9_weightOfWay_7 rfl rfl ?_
    refine j_icmp_ge (pc := 8) (tgt := 37) dX9_weightOfWay_8 (by decide) h (fun h => ?_) (fun h => ?_)
    · refine j_iload_n (pc := 37) 3 dX9_weightOfWay_37 rfl rfl ?_
      cases h
      exact j_iret (pc := 38) rfl dX9_weightOfWay_38 (Nat.le_of_ble_eq_true rfl) (Nat.le_of_ble_eq_true rfl) (jd_i rfl rfl)
    · refine j_iload_n (pc := 11) 3 dX9_weightOfWay_11 rfl rfl ?_
      refine j_iload_n (pc := 12) 0 dX9_weightOfWay_12 rfl rfl ?_
      refine j_iload (pc := 13) 4 dX9_weightOfWay_13 rfl ?_
      refine j_ishr (pc := 15) dX9_weightOfWay_15 ?_
      refine j_iconst (pc := 16) dX9_weightOfWay_16 ic_1 ?_
      refine j_iand (pc := 17) dX9_weightOfWay_17 ?_
      refine j_if_ne (pc := 18) (tgt := 25) dX9_weightOfWay_18 (by decide) h (fun h => ?_) (fun h => ?_)
      · refine j_bipush (pc := 25) dX9_weightOfWay_25 bc_10 ?_
        refine j_iload_n (pc := 27) 2 dX9_weightOfWay_27 rfl rfl ?_
        refine j_isub (pc := 28) dX9_weightOfWay_28 ?_
        refine j_imul (pc := 29) dX9_weightOfWay_29 ?_
        refine j_istore_n (pc := 30) (lv' := [(3, .int (x3 * ((10 : Int32) - x2))), (0, .int x0), (1, .int x1), (2, .int x2), (4, .int x4)]) dX9_weightOfWay_30 rfl (Nat.le_of_ble_eq_true rfl) rfl ?_
        refine j_iinc (pc := 31) (j := 4) (lv' := [(4, .int (x4 + (1 : Int32))), (3, .int (x3 * ((10 : Int32) - x2))), (0, .int x0), (1, .int x1), (2, .int x2)]) dX9_weightOfWay_31 rfl (congrArg (fun z => x4 + z) ic_1) (Nat.le_of_ble_eq_true rfl) rfl ?_
        refine j_goto (pc := 34) (tgt := 5) dX9_weightOfWay_34 (by decide) ?_
        exact j_sub (lv' := [(0, .int x0), (1, .int x1), (2, .int x2), (3, .int (x3 * ((10 : Int32) - x2))), (4, .int (x4 + (1 : Int32)))]) [2, 3, 4, 1, 0] rfl (ih _ _ u h)
      · refine j_iload_n (pc := 21) 2 dX9_weightOfWay_21 rfl rfl ?_
        refine j_goto (pc := 22) (tgt := 29) dX9_weightOfWay_22 (by decide) ?_
        refine j_imul (pc := 29) dX9_weightOfWay_29 ?_
        refine j_istore_n (pc := 30) (lv' := [(3, .int (x3 * x2)), (0, .int x0), (1, .int x1), (2, .int x2), (4, .int x4)]) dX9_weightOfWay_30 rfl (Nat.le_of_ble_eq_true rfl) rfl ?_
        refine j_iinc (pc := 31) (j := 4) (lv' := [(4, .int (x4 + (1 : Int32))), (3, .int (x3 * x2)), (0, .int x0), (1, .int x1), (2, .int x2)]) dX9_weightOfWay_31 rfl (congrArg (fun z => x4 + z) ic_1) (Nat.le_of_ble_eq_true rfl) rfl ?_
        refine j_goto (pc := 34) (tgt := 5) dX9_weightOfWay_34 (by decide) ?_
        exact j_sub (lv' := [(0, .int x0), (1, .int x1), (2, .int x2), (3, .int (x3 * x2)), (4, .int (x4 + (1 : Int32)))]) [2, 3, 4, 1, 0] rfl (ih _ _ u h)
set_option maxRecDepth 20000 in
theorem c_X9_weightOfWay {l : Launch} {E : jE} {F : Nat} {x0 : Int32} {x1 : Int32} {x2 : Int32} : ∀ u : Int32, f_X9_weightOfWay F x0 x1 x2 = some u → jM l E K_X9_weightOfWay [.int x0, .int x1, .int x2] [] (jd (some (.int u)) []) := by
  intro u h
  unfold f_X9_weightOfWay at h
  refine j_met [(0, .int x0), (1, .int x1), (2, .int x2)] (by decide +kernel) (Nat.le_of_ble_eq_true rfl) rfl ?_
  refine j_iconst (pc := 0) dX9_weightOfWay_0 ic_1 ?_
  refine j_istore_n (pc := 1) (lv' := [(3, .int (1 : Int32)), (0, .int x0), (1, .int x1), (2, .int x2)]) dX9_weightOfWay_1 rfl (Nat.le_of_ble_eq_true rfl) rfl ?_
  refine j_iconst (pc := 2) dX9_weightOfWay_2 ic_0 ?_
  refine j_istore (pc := 3) (lv' := [(4, .int (0 : Int32)), (3, .int (1 : Int32)), (0, .int x0), (1, .int x1), (2, .int x2)]) dX9_weightOfWay_3 (Nat.le_of_ble_eq_true rfl) rfl ?_
  exact j_sub (lv' := [(0, .int x0), (1, .int x1), (2, .int x2), (3, .int (1 : Int32)), (4, .int (0 : Int32))]) [2, 3, 4, 1, 0] rfl (w_X9_weightOfWay_5 _ _ _ u h)
set_option maxRecDepth 20000 in
theorem w_X9_powerOfTen_4 {l : Launch} {E : jE} {F : Nat} {x0 : Int32} : ∀ (n : Nat) (x1 : Int32) (x2 : Int32) (u : Int32), g_X9_powerOfTen_4 F x0 n x1 x2 = some u → jT l E K_X9_powerOfTen 0 0 4 [(0, .int x0), (1, .int x1), (2, .int x2)] [] [] (jd (some (.int u)) []) := by
  intro n
  induction n with
  | zero =>
    intro x1 x2 u h
    rw [g_X9_powerOfTen_4] at h
    cases h
  | succ n ih =>
    intro x1 x2 u h
    rw [g_X9_powerOfTen_4] at h
    refine j_iload_n (pc := 4) 2 dX9_powerOfTen_4 rfl rfl ?_
    refine j_iload_n (pc := 5) 0 dX9_powerOfTen_5 rfl rfl ?_
    refine j_icmp_ge (pc := 6) (tgt := 20) dX9_powerOfTen_6 (by decide) h (fun h => ?_) (fun h => ?_)
    · refine j_iload_n (pc := 20) 1 dX9_powerOfTen_20 rfl rfl ?_
      cases h
      exact j_iret (pc := 21) rfl dX9_powerOfTen_21 (Nat.le_of_ble_eq_true rfl) (Nat.le_of_ble_eq_true rfl) (jd_i rfl rfl)
    · refine j_iload_n (pc := 9) 1 dX9_powerOfTen_9 rfl rfl ?_
      refine j_bipush (pc := 10) dX9_powerOfTen_10 bc_10 ?_
      refine j_imul (pc := 12) dX9_powerOfTen_12 ?_
      refine j_istore_n (pc := 13) (lv' := [(1, .int (x1 * (10 : Int32))), (0, .int x0), (2, .int x2)]) dX9_powerOfTen_13 rfl (Nat.le_of_ble_eq_true rfl) rfl ?_
      refine j_iinc (pc := 14) (j := 2) (lv' := [(2, .int (x2 + (1 : Int32))), (1, .int (x1 * (10 : Int32))), (0, .int x0)]) dX9_powerOfTen_14 rfl (congrArg (fun z => x2 + z) ic_1) (Nat.le_of_ble_eq_true rfl) rfl ?_
      refine j_goto (pc := 17) (tgt := 4) dX9_powerOfTen_17 (by decide) ?_
      exact j_sub (lv' := [(0, .int x0), (1, .int (x1 * (10 : Int32))), (2, .int (x2 + (1 : Int32)))]) [2, 1, 0] rfl (ih _ _ u h)
set_option maxRecDepth 20000 in
theorem c_X9_powerOfTen {l : Launch} {E : jE} {F : Nat} {x0 : Int32} : ∀ u : Int32, f_X9_powerOfTen F x0 = some u → jM l E K_X9_powerOfTen [.int x0] [] (jd (some (.int u)) []) := by
  intro u h
  unfold f_X9_powerOfTen at h
  refine j_met [(0, .int x0)] (by decide +kernel) (Nat.le_of_ble_eq_true rfl) rfl ?_
  refine j_iconst (pc := 0) dX9_powerOfTen_0 ic_1 ?_
  refine j_istore_n (pc := 1) (lv' := [(1, .int (1 : Int32)), (0, .int x0)]) dX9_powerOfTen_1 rfl (Nat.le_of_ble_eq_true rfl) rfl ?_
  refine j_iconst (pc := 2) dX9_powerOfTen_2 ic_0 ?_
  refine j_istore_n (pc := 3) (lv' := [(2, .int (0 : Int32)), (1, .int (1 : Int32)), (0, .int x0)]) dX9_powerOfTen_3 rfl (Nat.le_of_ble_eq_true rfl) rfl ?_
  exact j_sub (lv' := [(0, .int x0), (1, .int (1 : Int32)), (2, .int (0 : Int32))]) [2, 1, 0] rfl (w_X9_powerOfTen_4 _ _ _ u h)
set_option maxRecDepth 20000 in
theorem w_X9_likely_83 {l : Launch} {E : jE} {F : Nat} {x1 : Int32} {x2 : Int32} {x3 : Int32} {x4 : Int32} {x5 : Int32} {v_o_order : Int64} {v_o_laid_cards : Int32} {a_o a_o_text a_o_draft a_o_laid a_o_past a_o_kept a_o_sightings a_o_finder a_o_mix : Nat} {w_o_laid_colours : Int32} {w_o_laid_acts : Int32} {w_o_laid_deal : Int64} {w_o_laid_cardsAreFixed : Int32} : ∀ (n : Nat) (x7 : Int32) (x8 : Int32) (x9 : Int32) (u : Int32), g_X9_likely_83 F x1 x2 x3 x4 x5 v_o_order v_o_laid_cards n x7 x8 x9 = some u → jT l E K_X9_likely 0 0 83 [(0, .ref a_o), (2, .int x2), (3, .int x3), (4, .int x4), (5, .int x5), (7, .int x7), (8, .int x8), (9, .int x9)] [] [jO a_o 6 [.ref a_o_text, .ref a_o_draft, .ref a_o_laid, .ref a_o_past, .ref a_o_kept, .ref a_o_sightings, .ref a_o_finder, .ref a_o_mix, .long v_o_order], jO a_o_laid 2 [.int v_o_laid_cards, .int w_o_laid_colours, .int w_o_laid_acts, .long w_o_laid_deal, .int w_o_laid_cardsAreFixed]] (jd (some (.int u)) [jO a_o 6 [.ref a_o_text, .ref a_o_draft, .ref a_o_laid, .ref a_o_past, .ref a_o_kept, .ref a_o_sightings, .ref a_o_finder, .ref a_o_mix, .long v_o_order], jO a_o_laid 2 [.int v_o_laid_cards, .int w_o_laid_colours, .int w_o_laid_acts, .long w_o_laid_deal, .int w_o_laid_cardsAreFixed]]) := by
  intro n
  induction n with
  | zero =>
    intro x7 x8 x9 u h
    rw [g_X9_likely_83] at h
    cases h
  | succ n ih =>
    intro x7 x8 x9 u h
    rw [g_X9_likely_83] at h
    refine j_iload (pc := 83) 7 dX9_likely_83 rfl ?_
    refine j_iconst (pc := 85) dX9_likely_85 ic_1 ?_
    refine j_iload_n (pc := 86) 2 dX9_likely_86 rfl rfl ?_
    refine j_ishl (pc := 87) dX9_likely_87 ?_
    refine j_icmp_ge (pc := 88) (tgt := 123) dX9_likely_88 (by decide) h (fun h => ?_) (fun h => ?_)
    · refine j_iload (pc := 123) 6 dX9_likely_123 rfl ?_
      refine j_iload_n (pc := 125) 2 dX9_likely_125 rfl rfl ?_
      refine j_S0 (pc := 126) (Kc := K_X9_powerOfTen) (As := [.int x3]) (rest := [.int x8]) h c_X9_powerOfTen q_X9_powerOfTen m3_46 rfl rfl (Nat.le_of_ble_eq_true rfl) ⟨(Nat.le_of_ble_eq_true rfl), (Nat.le_of_ble_eq_true rfl)⟩ ⟨rfl, rfl⟩ ⟨(Nat.le_of_ble_eq_true rfl), (Nat.le_of_ble_eq_true rfl)⟩ dX9_likely_126 (fun b1 h => ?_)
      refine j_iload (pc := 129) 4 dX9_likely_129 rfl ?_
      refine j_S0 (pc := 131) (Kc := K_X1_partOf) (As := [.int x8, .int b1, .int x5]) (rest := []) h c_X1_partOf q_X1_partOf m3_1 rfl rfl (Nat.le_of_ble_eq_true rfl) ⟨(Nat.le_of_ble_eq_true rfl), (Nat.le_of_ble_eq_true rfl)⟩ ⟨rfl, rfl⟩ ⟨(Nat.le_of_ble_eq_true rfl), (Nat.le_of_ble_eq_true rfl)⟩ dX9_likely_131 (fun b2 h => ?_)
      cases h
      exact j_iret (pc := 134) rfl dX9_likely_134 (Nat.le_of_ble_eq_true rfl) (Nat.le_of_ble_eq_true rfl) (jd_i rfl rfl)
    · refine j_aload_n (pc := 91) 0 dX9_likely_91 rfl rfl ?_
      refine j_iload (pc := 92) 5 dX9_likely_92 rfl ?_
      refine j_iload (pc := 94) 7 dX9_likely_94 rfl ?_
      refine j_iload_n (pc := 96) 2 dX9_likely_96 rfl rfl ?_
      refine j_V (pc := 97) (q0 := 0) (Kc := K_X9_endOfWay) (As := [.int x7, .int x9, .int x3]) (rest := []) (wc := [jO a_o 6 [.ref a_o_text, .ref a_o_draft, .ref a_o_laid, .ref a_o_past, .ref a_o_kept, .ref a_o_sightings, .ref a_o_finder, .ref a_o_mix, .long v_o_order], jO a_o_laid 2 [.int v_o_laid_cards, .int w_o_laid_colours, .int w_o_laid_acts, .long w_o_laid_deal, .int w_o_laid_cardsAreFixed]]) (w' := fun b3 => [jO a_o 6 [.ref a_o_text, .ref a_o_draft, .ref a_o_laid, .ref a_o_past, .ref a_o_kept, .ref a_o_sightings, .ref a_o_finder, .ref a_o_mix, .long v_o_order], jO a_o_laid 2 [.int v_o_laid_cards, .int w_o_laid_colours, .int w_o_laid_acts, .long w_o_laid_deal, .int w_o_laid_cardsAreFixed]]) (st1 := fun b3 => [.int b3]) [0, 1] rfl rfl rfl h c_X9_endOfWay q_X9_endOfWay m3_38 rfl rfl (Nat.le_of_ble_eq_true rfl) ⟨(Nat.le_of_ble_eq_true rfl), (Nat.le_of_ble_eq_true rfl)⟩ ⟨rfl, rfl⟩ ⟨(Nat.le_of_ble_eq_true rfl), (Nat.le_of_ble_eq_true rfl)⟩ dX9_likely_97 rfl (by decide) (fun _ => rfl) (fun _ => rfl) (fun _ => rfl) (fun b3 h => ?_)
      refine j_iload_n (pc := 100) 1 dX9_likely_100 rfl rfl ?_
      refine j_icmp_ne (pc := 101) (tgt := 117) dX9_likely_101 (by decide) h (fun h => ?_) (fun h => ?_)
      · refine j_iinc (pc := 117) (j := 7) (lv' := [(9, .int (x9 + (1 : Int32))), (0, .ref a_o), (2, .int x2), (3, .int x3), (4, .int x4), (5, .int x5), (7, .int x7), (8, .int x8)]) dX9_likely_117 rfl (congrArg (fun z => x9 + z) ic_1) (Nat.le_of_ble_eq_true rfl) rfl ?_
        refine j_goto (pc := 120) (tgt := 83) dX9_likely_120 (by decide) ?_
        exact j_sub (lv' := [(0, .ref a_o), (2, .int x2), (3, .int x3), (4, .int x4), (5, .int x5), (7, .int x7), (8, .int x8), (9, .int (x9 + (1 : Int32)))]) [1, 2, 3, 4, 5, 6, 7, 0] rfl (ih _ _ _ u h)
      · refine j_iload (pc := 104) 6 dX9_likely_104 rfl ?_
        refine j_iload (pc := 106) 7 dX9_likely_106 rfl ?_
        refine j_iload_n (pc := 108) 2 dX9_likely_108 rfl rfl ?_
        refine j_iload (pc := 109) 3 dX9_likely_109 rfl ?_
        refine j_S0 (pc := 111) (Kc := K_X9_weightOfWay) (As := [.int x9, .int x3, .int x4]) (rest := [.int x8]) h c_X9_weightOfWay q_X9_weightOfWay m3_43 rfl rfl (Nat.le_of_ble_eq_true rfl) ⟨(Nat.le_of_ble_eq_true rfl), (Nat.le_of_ble_eq_true rfl)⟩ ⟨rfl, rfl⟩ ⟨(Nat.le_of_ble_eq_true rfl), (Nat.le_of_ble_eq_true rfl)⟩ dX9_likely_111 (fun b4 h => ?_)
        refine j_iadd (pc := 114) dX9_likely_114 ?_
        refine j_istore (pc := 115) (lv' := [(8, .int (x8 + b4)), (0, .ref a_o), (2, .int x2), (3, .int x3), (4, .int x4), (5, .int x5), (7, .int x7), (9, .int x9)]) dX9_likely_115 (Nat.le_of_ble_eq_true rfl) rfl ?_
        refine j_iinc (pc := 117) (j := 7) (lv' := [(9, .int (x9 + (1 : Int32))), (8, .int (x8 + b4)), (0, .ref a_o), (2, .int x2), (3, .int x3), (4, .int x4), (5, .int x5), (7, .int x7)]) dX9_likely_117 rfl (congrArg (fun z => x9 + z) ic_1) (Nat.le_of_ble_eq_true rfl) rfl ?_
        refine j_goto (pc := 120) (tgt := 83) dX9_likely_120 (by decide) ?_
        exact j_sub (lv' := [(0, .ref a_o), (2, .int x2), (3, .int x3), (4, .int x4), (5, .int x5), (7, .int x7), (8, .int (x8 + b4)), (9, .int (x9 + (1 : Int32)))]) [2, 3, 4, 5, 6, 7, 1, 0] rfl (ih _ _ _ u h)
set_option maxRecDepth 20000 in
theorem w_X9_likely_35 {l : Launch} {E : jE} {F : Nat} {x1 : Int32} {x2 : Int32} {x3 : Int32} {x4 : Int32} {x5 : Int32} {v_o_order : Int64} {v_o_laid_cards : Int32} {a_o a_o_text a_o_draft a_o_laid a_o_past a_o_kept a_o_sightings a_o_finder a_o_mix : Nat} {w_o_laid_colours : Int32} {w_o_laid_acts : Int32} {w_o_laid_deal : Int64} {w_o_laid_cardsAreFixed : Int32} : ∀ (s0 : Int32) (u : Int32), g_X9_likely_35 F x1 x2 x3 x4 x5 v_o_order v_o_laid_cards s0 = some u → jT l E K_X9_likely 0 0 35 [(0, .ref a_o), (1, .int x1), (2, .int x2), (3, .int x3), (4, .int x4), (5, .int x5)] [.int s0] [jO a_o 6 [.ref a_o_text, .ref a_o_draft, .ref a_o_laid, .ref a_o_past, .ref a_o_kept, .ref a_o_sightings, .ref a_o_finder, .ref a_o_mix, .long v_o_order], jO a_o_laid 2 [.int v_o_laid_cards, .int w_o_laid_colours, .int w_o_laid_acts, .long w_o_laid_deal, .int w_o_laid_cardsAreFixed]] (jd (some (.int u)) [jO a_o 6 [.ref a_o_text, .ref a_o_draft, .ref a_o_laid, .ref a_o_past, .ref a_o_kept, .ref a_o_sightings, .ref a_o_finder, .ref a_o_mix, .long v_o_order], jO a_o_laid 2 [.int v_o_laid_cards, .int w_o_laid_colours, .int w_o_laid_acts, .long w_o_laid_deal, .int w_o_laid_cardsAreFixed]]) := by
  intro s0 u h
  unfold g_X9_likely_35 at h
  refine j_istore (pc := 35) (lv' := [(6, .int s0), (0, .ref a_o), (1, .int x1), (2, .int x2), (3, .int x3), (4, .int x4), (5, .int x5)]) dX9_likely_35 (Nat.le_of_ble_eq_true rfl) rfl ?_
  refine j_aload_n (pc := 37) 1 dX9_likely_37 rfl rfl ?_
  refine j_iload_n (pc := 38) 2 dX9_likely_38 rfl rfl ?_
  refine j_V (pc := 39) (q0 := 0) (Kc := K_X9_isCard) (As := [.int x1]) (rest := []) (wc := [jO a_o 6 [.ref a_o_text, .ref a_o_draft, .ref a_o_laid, .ref a_o_past, .ref a_o_kept, .ref a_o_sightings, .ref a_o_finder, .ref a_o_mix, .long v_o_order], jO a_o_laid 2 [.int v_o_laid_cards, .int w_o_laid_colours, .int w_o_laid_acts, .long w_o_laid_deal, .int w_o_laid_cardsAreFixed]]) (w' := fun b1 => [jO a_o 6 [.ref a_o_text, .ref a_o_draft, .ref a_o_laid, .ref a_o_past, .ref a_o_kept, .ref a_o_sightings, .ref a_o_finder, .ref a_o_mix, .long v_o_order], jO a_o_laid 2 [.int v_o_laid_cards, .int w_o_laid_colours, .int w_o_laid_acts, .long w_o_laid_deal, .int w_o_laid_cardsAreFixed]]) (st1 := fun b1 => [.int b1]) [0, 1] rfl rfl rfl h c_X9_isCard q_X9_isCard m2_43 rfl rfl (Nat.le_of_ble_eq_true rfl) ⟨(Nat.le_of_ble_eq_true rfl), (Nat.le_of_ble_eq_true rfl)⟩ ⟨rfl, rfl⟩ ⟨(Nat.le_of_ble_eq_true rfl), (Nat.le_of_ble_eq_true rfl)⟩ dX9_likely_39 rfl (by decide) (fun _ => rfl) (fun _ => rfl) (fun _ => rfl) (fun b1 h => ?_)
  refine j_if_eq (pc := 42) (tgt := 58) dX9_likely_42 (by decide) h (fun h => ?_) (fun h => ?_)
  · refine j_iconst (pc := 58) dX9_likely_58 ic_m1 ?_
    cases h
    exact j_iret (pc := 59) rfl dX9_likely_59 (Nat.le_of_ble_eq_true rfl) (Nat.le_of_ble_eq_true rfl) (jd_i rfl rfl)
  · refine j_aload_n (pc := 45) 1 dX9_likely_45 rfl rfl ?_
    refine j_iload_n (pc := 46) 3 dX9_likely_46 rfl rfl ?_
    refine j_V (pc := 47) (q0 := 0) (Kc := K_X9_isPlace) (As := [.int x2]) (rest := []) (wc := [jO a_o 6 [.ref a_o_text, .ref a_o_draft, .ref a_o_laid, .ref a_o_past, .ref a_o_kept, .ref a_o_sightings, .ref a_o_finder, .ref a_o_mix, .long v_o_order], jO a_o_laid 2 [.int v_o_laid_cards, .int w_o_laid_colours, .int w_o_laid_acts, .long w_o_laid_deal, .int w_o_laid_cardsAreFixed]]) (w' := fun b2 => [jO a_o 6 [.ref a_o_text, .ref a_o_draft, .ref a_o_laid, .ref a_o_past, .ref a_o_kept, .ref a_o_sightings, .ref a_o_finder, .ref a_o_mix, .long v_o_order], jO a_o_laid 2 [.int v_o_laid_cards, .int w_o_laid_colours, .int w_o_laid_acts, .long w_o_laid_deal, .int w_o_laid_cardsAreFixed]]) (st1 := fun b2 => [.int b2]) [0, 1] rfl rfl rfl h c_X9_isPlace q_X9_isPlace m2_34 rfl rfl (Nat.le_of_ble_eq_true rfl) ⟨(Nat.le_of_ble_eq_true rfl), (Nat.le_of_ble_eq_true rfl)⟩ ⟨rfl, rfl⟩ ⟨(Nat.le_of_ble_eq_true rfl), (Nat.le_of_ble_eq_true rfl)⟩ dX9_likely_47 rfl (by decide) (fun _ => rfl) (fun _ => rfl) (fun _ => rfl) (fun b2 h => ?_)
    refine j_if_eq (pc := 50) (tgt := 58) dX9_likely_50 (by decide) h (fun h => ?_) (fun h => ?_)
    · refine j_iconst (pc := 58) dX9_likely_58 ic_m1 ?_
      cases h
      exact j_iret (pc := 59) rfl dX9_likely_59 (Nat.le_of_ble_eq_true rfl) (Nat.le_of_ble_eq_true rfl) (jd_i rfl rfl)
    · refine j_iload (pc := 53) 0 dX9_likely_53 rfl ?_
      refine j_if_ne (pc := 55) (tgt := 60) dX9_likely_55 (by decide) h (fun h => ?_) (fun h => ?_)
      · refine j_aload_n (pc := 60) 1 dX9_likely_60 rfl rfl ?_
        refine j_get (pc := 61) (v := .long v_o_order) 0 8 rfl rfl (Nat.le_of_ble_eq_true rfl) iwX9 m1_196 rfl dX9_likely_61 ?_
        refine j_aload_n (pc := 64) 1 dX9_likely_64 rfl rfl ?_
        refine j_get (pc := 65) (v := .ref a_o_laid) 0 2 rfl rfl (Nat.le_of_ble_eq_true rfl) iwX9 m1_190 rfl dX9_likely_65 ?_
        refine j_getN (pc := 68) (v := .int v_o_laid_cards) 1 0 rfl rfl (Nat.le_of_ble_eq_true rfl) iwX5 (List.mem_of_getElem? (i := 0) rfl) rfl dX9_likely_68 ?_
        refine j_iload_n (pc := 71) 2 dX9_likely_71 rfl rfl ?_
        refine j_S0 (pc := 72) (Kc := K_X4_placeOf) (As := [.long v_o_order, .int v_o_laid_cards, .int x1]) (rest := []) h c_X4_placeOf q_X4_placeOf m2_47 rfl rfl (Nat.le_of_ble_eq_true rfl) ⟨(Nat.le_of_ble_eq_true rfl), (Nat.le_of_ble_eq_true rfl)⟩ ⟨rfl, rfl⟩ ⟨(Nat.le_of_ble_eq_true rfl), (Nat.le_of_ble_eq_true rfl)⟩ dX9_likely_72 (fun b3 h => ?_)
        refine j_istore (pc := 75) (lv' := [(7, .int b3), (6, .int s0), (0, .ref a_o), (1, .int x1), (2, .int x2), (3, .int x3), (4, .int x4), (5, .int x5)]) dX9_likely_75 (Nat.le_of_ble_eq_true rfl) rfl ?_
        refine j_iconst (pc := 77) dX9_likely_77 ic_0 ?_
        refine j_istore (pc := 78) (lv' := [(8, .int (0 : Int32)), (7, .int b3), (6, .int s0), (0, .ref a_o), (1, .int x1), (2, .int x2), (3, .int x3), (4, .int x4), (5, .int x5)]) dX9_likely_78 (Nat.le_of_ble_eq_true rfl) rfl ?_
        refine j_iconst (pc := 80) dX9_likely_80 ic_0 ?_
        refine j_istore (pc := 81) (lv' := [(9, .int (0 : Int32)), (8, .int (0 : Int32)), (7, .int b3), (6, .int s0), (0, .ref a_o), (1, .int x1), (2, .int x2), (3, .int x3), (4, .int x4), (5, .int x5)]) dX9_likely_81 (Nat.le_of_ble_eq_true rfl) rfl ?_
        exact j_sub (lv' := [(0, .ref a_o), (2, .int x2), (3, .int x3), (4, .int x4), (5, .int x5), (7, .int b3), (8, .int (0 : Int32)), (9, .int (0 : Int32))]) [4, 6, 7, 8, 9, 2, 1, 0] rfl (w_X9_likely_83 _ _ _ _ u h)
      · refine j_iconst (pc := 58) dX9_likely_58 ic_m1 ?_
        cases h
        exact j_iret (pc := 59) rfl dX9_likely_59 (Nat.le_of_ble_eq_true rfl) (Nat.le_of_ble_eq_true rfl) (jd_i rfl rfl)
set_option maxRecDepth 20000 in
theorem c_X9_likely {l : Launch} {E : jE} {F : Nat} {x1 : Int32} {x2 : Int32} {x3 : Int32} {x4 : Int32} {x5 : Int32} {v_o_order : Int64} {v_o_laid_cards : Int32} {a_o a_o_text a_o_draft a_o_laid a_o_past a_o_kept a_o_sightings a_o_finder a_o_mix : Nat} {w_o_laid_colours : Int32} {w_o_laid_acts : Int32} {w_o_laid_deal : Int64} {w_o_laid_cardsAreFixed : Int32} : ∀ u : Int32, f_X9_likely F x1 x2 x3 x4 x5 v_o_order v_o_laid_cards = some u → jM l E K_X9_likely [.ref a_o, .int x1, .int x2, .int x3, .int x4, .int x5] [jO a_o 6 [.ref a_o_text, .ref a_o_draft, .ref a_o_laid, .ref a_o_past, .ref a_o_kept, .ref a_o_sightings, .ref a_o_finder, .ref a_o_mix, .long v_o_order], jO a_o_laid 2 [.int v_o_laid_cards, .int w_o_laid_colours, .int w_o_laid_acts, .long w_o_laid_deal, .int w_o_laid_cardsAreFixed]] (jd (some (.int u)) [jO a_o 6 [.ref a_o_text, .ref a_o_draft, .ref a_o_laid, .ref a_o_past, .ref a_o_kept, .ref a_o_sightings, .ref a_o_finder, .ref a_o_mix, .long v_o_order], jO a_o_laid 2 [.int v_o_laid_cards, .int w_o_laid_colours, .int w_o_laid_acts, .long w_o_laid_deal, .int w_o_laid_cardsAreFixed]]) := by
  intro u h
  unfold f_X9_likely at h
  refine j_met [(0, .ref a_o), (1, .int x1), (2, .int x2), (3, .int x3), (4, .int x4), (5, .int x5)] (by decide +kernel) (Nat.le_of_ble_eq_true rfl) rfl ?_
  refine j_iload_n (pc := 0) 3 dX9_likely_0 rfl rfl ?_
  refine j_iconst (pc := 1) dX9_likely_1 ic_0 ?_
  refine j_iconst (pc := 2) dX9_likely_2 ic_5 ?_
  refine j_S0 (pc := 3) (Kc := K_X9_within) (As := [.int x3, .int (0 : Int32), .int (5 : Int32)]) (rest := []) h c_X9_within q_X9_within m1_157 rfl rfl (Nat.le_of_ble_eq_true rfl) ⟨(Nat.le_of_ble_eq_true rfl), (Nat.le_of_ble_eq_true rfl)⟩ ⟨rfl, rfl⟩ ⟨(Nat.le_of_ble_eq_true rfl), (Nat.le_of_ble_eq_true rfl)⟩ dX9_likely_3 (fun b1 h => ?_)
  refine j_if_eq (pc := 6) (tgt := 34) dX9_likely_6 (by decide) h (fun h => ?_) (fun h => ?_)
  · refine j_iconst (pc := 34) dX9_likely_34 ic_0 ?_
    exact w_X9_likely_35 _ u h
  · refine j_iload (pc := 9) 4 dX9_likely_9 rfl ?_
    refine j_iconst (pc := 11) dX9_likely_11 ic_0 ?_
    refine j_bipush (pc := 12) dX9_likely_12 bc_10 ?_
    refine j_S0 (pc := 14) (Kc := K_X9_within) (As := [.int x4, .int (0 : Int32), .int (10 : Int32)]) (rest := []) h c_X9_within q_X9_within m1_157 rfl rfl (Nat.le_of_ble_eq_true rfl) ⟨(Nat.le_of_ble_eq_true rfl), (Nat.le_of_ble_eq_true rfl)⟩ ⟨rfl, rfl⟩ ⟨(Nat.le_of_ble_eq_true rfl), (Nat.le_of_ble_eq_true rfl)⟩ dX9_likely_14 (fun b2 h => ?_)
    refine j_if_eq (pc := 17) (tgt := 34) dX9_likely_17 (by decide) h (fun h => ?_) (fun h => ?_)
    · refine j_iconst (pc := 34) dX9_likely_34 ic_0 ?_
      exact w_X9_likely_35 _ u h
    · refine j_iload (pc := 20) 5 dX9_likely_20 rfl ?_
      refine j_iconst (pc := 22) dX9_likely_22 ic_0 ?_
      refine j_iconst (pc := 23) dX9_likely_23 ic_1 ?_
      refine j_S0 (pc := 24) (Kc := K_X9_within) (As := [.int x5, .int (0 : Int32), .int (1 : Int32)]) (rest := []) h c_X9_within q_X9_within m1_157 rfl rfl (Nat.le_of_ble_eq_true rfl) ⟨(Nat.le_of_ble_eq_true rfl), (Nat.le_of_ble_eq_true rfl)⟩ ⟨rfl, rfl⟩ ⟨(Nat.le_of_ble_eq_true rfl), (Nat.le_of_ble_eq_true rfl)⟩ dX9_likely_24 (fun b3 h => ?_)
      refine j_if_eq (pc := 27) (tgt := 34) dX9_likely_27 (by decide) h (fun h => ?_) (fun h => ?_)
      · refine j_iconst (pc := 34) dX9_likely_34 ic_0 ?_
        exact w_X9_likely_35 _ u h
      · refine j_iconst (pc := 30) dX9_likely_30 ic_1 ?_
        refine j_goto (pc := 31) (tgt := 35) dX9_likely_31 (by decide) ?_
        exact w_X9_likely_35 _ u h
set_option maxRecDepth 20000 in
theorem c_X9_drawOf {l : Launch} {E : jE} {F : Nat} {x0 : Int32} {x1 : Int32} : ∀ u : Int32, f_X9_drawOf F x0 x1 = some u → jM l E K_X9_drawOf [.int x0, .int x1] [] (jd (some (.int u)) []) := by
  intro u h
  unfold f_X9_drawOf at h
  refine j_met [(0, .int x0), (1, .int x1)] (by decide +kernel) (Nat.le_of_ble_eq_true rfl) rfl ?_
  refine j_ldc2 (pc := 0) m3_56 dX9_drawOf_0 ?_
  refine j_iload_n (pc := 3) 0 dX9_drawOf_3 rfl rfl ?_
  refine j_i2l (pc := 4) dX9_drawOf_4 ?_
  refine j_lmul (pc := 5) dX9_drawOf_5 ?_
  refine j_ldc2 (pc := 6) m3_57 dX9_drawOf_6 ?_
  refine j_iload_n (pc := 9) 1 dX9_drawOf_9 rfl rfl ?_
  refine j_i2l (pc := 10) dX9_drawOf_10 ?_
  refine j_lmul (pc := 11) dX9_drawOf_11 ?_
  refine j_ladd (pc := 12) dX9_drawOf_12 ?_
  refine j_lconst (pc := 13) dX9_drawOf_13 lc_1 ?_
  refine j_ladd (pc := 14) dX9_drawOf_14 ?_
  refine j_lstore_n (pc := 15) (lv' := [(2, .long ((((7919 : Int64) * x0.toInt64) + ((6151 : Int64) * x1.toInt64)) + (1 : Int64))), (0, .int x0), (1, .int x1)]) dX9_drawOf_15 rfl (Nat.le_of_ble_eq_true rfl) rfl ?_
  refine j_lload_n (pc := 16) 0 dX9_drawOf_16 rfl rfl ?_
  refine j_lload_n (pc := 17) 0 dX9_drawOf_17 rfl rfl ?_
  refine j_lmul (pc := 18) dX9_drawOf_18 ?_
  refine j_ldc2 (pc := 19) m3_58 dX9_drawOf_19 ?_
  refine j_lrem (pc := 22) dX9_drawOf_22 h (fun h => ?_)
  refine j_ldc2 (pc := 23) m3_59 dX9_drawOf_23 ?_
  refine j_ldiv (pc := 26) dX9_drawOf_26 h (fun h => ?_)
  refine j_l2i (pc := 27) dX9_drawOf_27 ?_
  cases h
  exact j_iret (pc := 28) rfl dX9_drawOf_28 (Nat.le_of_ble_eq_true rfl) (Nat.le_of_ble_eq_true rfl) (jd_i rfl rfl)
set_option maxRecDepth 20000 in
theorem c_X9_drawnMove {l : Launch} {E : jE} {F : Nat} {x1 : Int32} {v_o_laid_cards : Int32} {a_o a_o_text a_o_draft a_o_laid a_o_past a_o_kept a_o_sightings a_o_finder a_o_mix : Nat} {w_o_order : Int64} {w_o_laid_colours : Int32} {w_o_laid_acts : Int32} {w_o_laid_deal : Int64} {w_o_laid_cardsAreFixed : Int32} : ∀ u : Int64, f_X9_drawnMove F x1 v_o_laid_cards = some u → jM l E K_X9_drawnMove [.ref a_o, .int x1] [jO a_o 6 [.ref a_o_text, .ref a_o_draft, .ref a_o_laid, .ref a_o_past, .ref a_o_kept, .ref a_o_sightings, .ref a_o_finder, .ref a_o_mix, .long w_o_order], jO a_o_laid 2 [.int v_o_laid_cards, .int w_o_laid_colours, .int w_o_laid_acts, .long w_o_laid_deal, .int w_o_laid_cardsAreFixed]] (jd (some (.long u)) [jO a_o 6 [.ref a_o_text, .ref a_o_draft, .ref a_o_laid, .ref a_o_past, .ref a_o_kept, .ref a_o_sightings, .ref a_o_finder, .ref a_o_mix, .long w_o_order], jO a_o_laid 2 [.int v_o_laid_cards, .int w_o_laid_colours, .int w_o_laid_acts, .long w_o_laid_deal, .int w_o_laid_cardsAreFixed]]) := by
  intro u h
  unfold f_X9_drawnMove at h
  refine j_met [(0, .ref a_o), (1, .int x1)] (by decide +kernel) (Nat.le_of_ble_eq_true rfl) rfl ?_
  refine j_iload_n (pc := 0) 1 dX9_drawnMove_0 rfl rfl ?_
  refine j_bipush (pc := 1) dX9_drawnMove_1 bc_7 ?_
  refine j_irem (pc := 3) dX9_drawnMove_3 h (fun h => ?_)
  refine j_istore_n (pc := 4) (lv' := [(2, .int (jrem x1 (7 : Int32))), (0, .ref a_o), (1, .int x1)]) dX9_drawnMove_4 rfl (Nat.le_of_ble_eq_true rfl) rfl ?_
  refine j_iload_n (pc := 5) 0 dX9_drawnMove_5 rfl rfl ?_
  refine j_iconst (pc := 6) dX9_drawnMove_6 ic_5 ?_
  refine j_icmp_ge (pc := 7) (tgt := 22) dX9_drawnMove_7 (by decide) h (fun h => ?_) (fun h => ?_)
  · refine j_iload_n (pc := 22) 0 dX9_drawnMove_22 rfl rfl ?_
    refine j_iconst (pc := 23) dX9_drawnMove_23 ic_5 ?_
    refine j_icmp_ne (pc := 24) (tgt := 60) dX9_drawnMove_24 (by decide) h (fun h => ?_) (fun h => ?_)
    · refine j_aload_n (pc := 60) 1 dX9_drawnMove_60 rfl rfl ?_
      refine j_get (pc := 61) (v := .ref a_o_laid) 0 2 rfl rfl (Nat.le_of_ble_eq_true rfl) iwX9 m1_190 rfl dX9_drawnMove_61 ?_
      refine j_getN (pc := 64) (v := .int v_o_laid_cards) 1 0 rfl rfl (Nat.le_of_ble_eq_true rfl) iwX5 (List.mem_of_getElem? (i := 0) rfl) rfl dX9_drawnMove_64 ?_
      refine j_S0 (pc := 67) (Kc := K_X3_turnedOver) (As := [.int v_o_laid_cards]) (rest := []) h c_X3_turnedOver q_X3_turnedOver m2_89 rfl rfl (Nat.le_of_ble_eq_true rfl) ⟨(Nat.le_of_ble_eq_true rfl), (Nat.le_of_ble_eq_true rfl)⟩ ⟨rfl, rfl⟩ ⟨(Nat.le_of_ble_eq_true rfl), (Nat.le_of_ble_eq_true rfl)⟩ dX9_drawnMove_67 (fun b1 h => ?_)
      cases h
      exact j_lret (pc := 70) rfl dX9_drawnMove_70 (Nat.le_of_ble_eq_true rfl) (Nat.le_of_ble_eq_true rfl) (jd_i rfl rfl)
    · refine j_aload_n (pc := 27) 1 dX9_drawnMove_27 rfl rfl ?_
      refine j_get (pc := 28) (v := .ref a_o_laid) 0 2 rfl rfl (Nat.le_of_ble_eq_true rfl) iwX9 m1_190 rfl dX9_drawnMove_28 ?_
      refine j_getN (pc := 31) (v := .int v_o_laid_cards) 1 0 rfl rfl (Nat.le_of_ble_eq_true rfl) iwX5 (List.mem_of_getElem? (i := 0) rfl) rfl dX9_drawnMove_31 ?_
      refine j_if_le (pc := 34) (tgt := 60) dX9_drawnMove_34 (by decide) h (fun h => ?_) (fun h => ?_)
      · refine j_aload_n (pc := 60) 1 dX9_drawnMove_60 rfl rfl ?_
        refine j_get (pc := 61) (v := .ref a_o_laid) 0 2 rfl rfl (Nat.le_of_ble_eq_true rfl) iwX9 m1_190 rfl dX9_drawnMove_61 ?_
        refine j_getN (pc := 64) (v := .int v_o_laid_cards) 1 0 rfl rfl (Nat.le_of_ble_eq_true rfl) iwX5 (List.mem_of_getElem? (i := 0) rfl) rfl dX9_drawnMove_64 ?_
        refine j_S0 (pc := 67) (Kc := K_X3_turnedOver) (As := [.int v_o_laid_cards]) (rest := []) h c_X3_turnedOver q_X3_turnedOver m2_89 rfl rfl (Nat.le_of_ble_eq_true rfl) ⟨(Nat.le_of_ble_eq_true rfl), (Nat.le_of_ble_eq_true rfl)⟩ ⟨rfl, rfl⟩ ⟨(Nat.le_of_ble_eq_true rfl), (Nat.le_of_ble_eq_true rfl)⟩ dX9_drawnMove_67 (fun b2 h => ?_)
        cases h
        exact j_lret (pc := 70) rfl dX9_drawnMove_70 (Nat.le_of_ble_eq_true rfl) (Nat.le_of_ble_eq_true rfl) (jd_i rfl rfl)
      · refine j_iload_n (pc := 37) 2 dX9_drawnMove_37 rfl rfl ?_
        refine j_bipush (pc := 38) dX9_drawnMove_38 bc_8 ?_
        refine j_idiv (pc := 40) dX9_drawnMove_40 h (fun h => ?_)
        refine j_aload_n (pc := 41) 1 dX9_drawnMove_41 rfl rfl ?_
        refine j_get (pc := 42) (v := .ref a_o_laid) 0 2 rfl rfl (Nat.le_of_ble_eq_true rfl) iwX9 m1_190 rfl dX9_drawnMove_42 ?_
        refine j_getN (pc := 45) (v := .int v_o_laid_cards) 1 0 rfl rfl (Nat.le_of_ble_eq_true rfl) iwX5 (List.mem_of_getElem? (i := 0) rfl) rfl dX9_drawnMove_45 ?_
        refine j_irem (pc := 48) dX9_drawnMove_48 h (fun h => ?_)
        refine j_aload_n (pc := 49) 1 dX9_drawnMove_49 rfl rfl ?_
        refine j_get (pc := 50) (v := .ref a_o_laid) 0 2 rfl rfl (Nat.le_of_ble_eq_true rfl) iwX9 m1_190 rfl dX9_drawnMove_50 ?_
        refine j_getN (pc := 53) (v := .int v_o_laid_cards) 1 0 rfl rfl (Nat.le_of_ble_eq_true rfl) iwX5 (List.mem_of_getElem? (i := 0) rfl) rfl dX9_drawnMove_53 ?_
        refine j_S0 (pc := 56) (Kc := K_X3_cutAt) (As := [.int (jrem (x1 / (8 : Int32)) v_o_laid_cards), .int v_o_laid_cards]) (rest := []) h c_X3_cutAt q_X3_cutAt m2_84 rfl rfl (Nat.le_of_ble_eq_true rfl) ⟨(Nat.le_of_ble_eq_true rfl), (Nat.le_of_ble_eq_true rfl)⟩ ⟨rfl, rfl⟩ ⟨(Nat.le_of_ble_eq_true rfl), (Nat.le_of_ble_eq_true rfl)⟩ dX9_drawnMove_56 (fun b3 h => ?_)
        cases h
        exact j_lret (pc := 59) rfl dX9_drawnMove_59 (Nat.le_of_ble_eq_true rfl) (Nat.le_of_ble_eq_true rfl) (jd_i rfl rfl)
  · refine j_iload_n (pc := 10) 0 dX9_drawnMove_10 rfl rfl ?_
    refine j_aload_n (pc := 11) 1 dX9_drawnMove_11 rfl rfl ?_
    refine j_get (pc := 12) (v := .ref a_o_laid) 0 2 rfl rfl (Nat.le_of_ble_eq_true rfl) iwX9 m1_190 rfl dX9_drawnMove_12 ?_
    refine j_getN (pc := 15) (v := .int v_o_laid_cards) 1 0 rfl rfl (Nat.le_of_ble_eq_true rfl) iwX5 (List.mem_of_getElem? (i := 0) rfl) rfl dX9_drawnMove_15 ?_
    refine j_S0 (pc := 18) (Kc := K_X3_lacing) (As := [.int (jrem x1 (7 : Int32)), .int v_o_laid_cards]) (rest := []) h c_X3_lacing q_X3_lacing m2_63 rfl rfl (Nat.le_of_ble_eq_true rfl) ⟨(Nat.le_of_ble_eq_true rfl), (Nat.le_of_ble_eq_true rfl)⟩ ⟨rfl, rfl⟩ ⟨(Nat.le_of_ble_eq_true rfl), (Nat.le_of_ble_eq_true rfl)⟩ dX9_drawnMove_18 (fun b4 h => ?_)
    cases h
    exact j_lret (pc := 21) rfl dX9_drawnMove_21 (Nat.le_of_ble_eq_true rfl) (Nat.le_of_ble_eq_true rfl) (jd_i rfl rfl)
set_option maxRecDepth 20000 in
theorem w_X9_dealing_41 {l : Launch} {E : jE} {F : Nat} {x1 : Int32} {x2 : Int32} {x3 : Int32} {v_o_order : Int64} {v_o_laid_cards : Int32} {a_o a_o_text a_o_draft a_o_laid a_o_past a_o_kept a_o_sightings a_o_finder a_o_mix : Nat} {w_o_laid_colours : Int32} {w_o_laid_acts : Int32} {w_o_laid_deal : Int64} {w_o_laid_cardsAreFixed : Int32} : ∀ (n : Nat) (x4 : Int64) (x6 : Int32) (u : Int32), g_X9_dealing_41 F x1 x2 x3 v_o_order v_o_laid_cards n x4 x6 = some u → jT l E K_X9_dealing 0 0 41 [(0, .ref a_o), (1, .int x1), (2, .int x2), (3, .int x3), (4, .long x4), (6, .int x6)] [] [jO a_o 6 [.ref a_o_text, .ref a_o_draft, .ref a_o_laid, .ref a_o_past, .ref a_o_kept, .ref a_o_sightings, .ref a_o_finder, .ref a_o_mix, .long v_o_order], jO a_o_laid 2 [.int v_o_laid_cards, .int w_o_laid_colours, .int w_o_laid_acts, .long w_o_laid_deal, .int w_o_laid_cardsAreFixed]] (jd (some (.int u)) [jO a_o 6 [.ref a_o_text, .ref a_o_draft, .ref a_o_laid, .ref a_o_past, .ref a_o_kept, .ref a_o_sightings, .ref a_o_finder, .ref a_o_mix, .long v_o_order], jO a_o_laid 2 [.int v_o_laid_cards, .int w_o_laid_colours, .int w_o_laid_acts, .long w_o_laid_deal, .int w_o_laid_cardsAreFixed]]) := by
  intro n
  induction n with
  | zero =>
    intro x4 x6 u h
    rw [g_X9_dealing_41] at h
    cases h
  | succ n ih =>
    intro x4 x6 u h
    rw [g_X9_dealing_41] at h
    refine j_iload (pc := 41) 5 dX9_dealing_41 rfl ?_
    refine j_iload_n (pc := 43) 2 dX9_dealing_43 rfl rfl ?_
    refine j_icmp_ge (pc := 44) (tgt := 77) dX9_dealing_44 (by decide) h (fun h => ?_) (fun h => ?_)
    · refine j_iload_n (pc := 77) 3 dX9_dealing_77 rfl rfl ?_
      refine j_if_ne (pc := 78) (tgt := 88) dX9_dealing_78 (by decide) h (fun h => ?_) (fun h => ?_)
      · refine j_iload_n (pc := 88) 3 dX9_dealing_88 rfl rfl ?_
        refine j_iconst (pc := 89) dX9_dealing_89 ic_1 ?_
        refine j_icmp_ne (pc := 90) (tgt := 112) dX9_dealing_90 (by decide) h (fun h => ?_) (fun h => ?_)
        · refine j_lload (pc := 112) 4 dX9_dealing_112 rfl ?_
          refine j_aload_n (pc := 114) 0 dX9_dealing_114 rfl rfl ?_
          refine j_get (pc := 115) (v := .ref a_o_laid) 0 2 rfl rfl (Nat.le_of_ble_eq_true rfl) iwX9 m1_190 rfl dX9_dealing_115 ?_
          refine j_getN (pc := 118) (v := .int v_o_laid_cards) 1 0 rfl rfl (Nat.le_of_ble_eq_true rfl) iwX5 (List.mem_of_getElem? (i := 0) rfl) rfl dX9_dealing_118 ?_
          refine j_S0 (pc := 121) (Kc := K_X4_risingRows) (As := [.long x4, .int v_o_laid_cards]) (rest := []) h c_X4_risingRows q_X4_risingRows m2_196 rfl rfl (Nat.le_of_ble_eq_true rfl) ⟨(Nat.le_of_ble_eq_true rfl), (Nat.le_of_ble_eq_true rfl)⟩ ⟨rfl, rfl⟩ ⟨(Nat.le_of_ble_eq_true rfl), (Nat.le_of_ble_eq_true rfl)⟩ dX9_dealing_121 (fun b1 h => ?_)
          cases h
          exact j_iret (pc := 124) rfl dX9_dealing_124 (Nat.le_of_ble_eq_true rfl) (Nat.le_of_ble_eq_true rfl) (jd_i rfl rfl)
        · refine j_aload_n (pc := 93) 0 dX9_dealing_93 rfl rfl ?_
          refine j_get (pc := 94) (v := .long v_o_order) 0 8 rfl rfl (Nat.le_of_ble_eq_true rfl) iwX9 m1_196 rfl dX9_dealing_94 ?_
          refine j_lload (pc := 97) 4 dX9_dealing_97 rfl ?_
          refine j_aload_n (pc := 99) 0 dX9_dealing_99 rfl rfl ?_
          refine j_get (pc := 100) (v := .ref a_o_laid) 0 2 rfl rfl (Nat.le_of_ble_eq_true rfl) iwX9 m1_190 rfl dX9_dealing_100 ?_
          refine j_getN (pc := 103) (v := .int v_o_laid_cards) 1 0 rfl rfl (Nat.le_of_ble_eq_true rfl) iwX5 (List.mem_of_getElem? (i := 0) rfl) rfl dX9_dealing_103 ?_
          refine j_S0 (pc := 106) (Kc := K_X4_sameCards) (As := [.long v_o_order, .long x4, .int v_o_laid_cards]) (rest := []) h c_X4_sameCards q_X4_sameCards m3_64 rfl rfl (Nat.le_of_ble_eq_true rfl) ⟨(Nat.le_of_ble_eq_true rfl), (Nat.le_of_ble_eq_true rfl)⟩ ⟨rfl, rfl⟩ ⟨(Nat.le_of_ble_eq_true rfl), (Nat.le_of_ble_eq_true rfl)⟩ dX9_dealing_106 (fun b2 h => ?_)
          refine j_goto (pc := 109) (tgt := 124) dX9_dealing_109 (by decide) ?_
          cases h
          exact j_iret (pc := 124) rfl dX9_dealing_124 (Nat.le_of_ble_eq_true rfl) (Nat.le_of_ble_eq_true rfl) (jd_i rfl rfl)
      · refine j_lload (pc := 81) 4 dX9_dealing_81 rfl ?_
        refine j_iconst (pc := 83) dX9_dealing_83 ic_0 ?_
        refine j_S0 (pc := 84) (Kc := K_X4_cardAt) (As := [.long x4, .int (0 : Int32)]) (rest := []) h c_X4_cardAt q_X4_cardAt m2_38 rfl rfl (Nat.le_of_ble_eq_true rfl) ⟨(Nat.le_of_ble_eq_true rfl), (Nat.le_of_ble_eq_true rfl)⟩ ⟨rfl, rfl⟩ ⟨(Nat.le_of_ble_eq_true rfl), (Nat.le_of_ble_eq_true rfl)⟩ dX9_dealing_84 (fun b3 h => ?_)
        cases h
        exact j_iret (pc := 87) rfl dX9_dealing_87 (Nat.le_of_ble_eq_true rfl) (Nat.le_of_ble_eq_true rfl) (jd_i rfl rfl)
    · refine j_lload (pc := 47) 4 dX9_dealing_47 rfl ?_
      refine j_aload_n (pc := 49) 0 dX9_dealing_49 rfl rfl ?_
      refine j_iload_n (pc := 50) 1 dX9_dealing_50 rfl rfl ?_
      refine j_iload (pc := 51) 5 dX9_dealing_51 rfl ?_
      refine j_S0 (pc := 53) (Kc := K_X9_drawOf) (As := [.int x1, .int x6]) (rest := [.ref a_o, .long x4]) h c_X9_drawOf q_X9_drawOf m3_53 rfl rfl (Nat.le_of_ble_eq_true rfl) ⟨(Nat.le_of_ble_eq_true rfl), (Nat.le_of_ble_eq_true rfl)⟩ ⟨rfl, rfl⟩ ⟨(Nat.le_of_ble_eq_true rfl), (Nat.le_of_ble_eq_true rfl)⟩ dX9_dealing_53 (fun b4 h => ?_)
      refine j_V (pc := 56) (q0 := 0) (Kc := K_X9_drawnMove) (As := [.int b4]) (rest := [.long x4]) (wc := [jO a_o 6 [.ref a_o_text, .ref a_o_draft, .ref a_o_laid, .ref a_o_past, .ref a_o_kept, .ref a_o_sightings, .ref a_o_finder, .ref a_o_mix, .long v_o_order], jO a_o_laid 2 [.int v_o_laid_cards, .int w_o_laid_colours, .int w_o_laid_acts, .long w_o_laid_deal, .int w_o_laid_cardsAreFixed]]) (w' := fun b5 => [jO a_o 6 [.ref a_o_text, .ref a_o_draft, .ref a_o_laid, .ref a_o_past, .ref a_o_kept, .ref a_o_sightings, .ref a_o_finder, .ref a_o_mix, .long v_o_order], jO a_o_laid 2 [.int v_o_laid_cards, .int w_o_laid_colours, .int w_o_laid_acts, .long w_o_laid_deal, .int w_o_laid_cardsAreFixed]]) (st1 := fun b5 => [.long b5, .long x4]) [0, 1] rfl rfl rfl h c_X9_drawnMove q_X9_drawnMove m3_60 rfl rfl (Nat.le_of_ble_eq_true rfl) ⟨(Nat.le_of_ble_eq_true rfl), (Nat.le_of_ble_eq_true rfl)⟩ ⟨rfl, rfl⟩ ⟨(Nat.le_of_ble_eq_true rfl), (Nat.le_of_ble_eq_true rfl)⟩ dX9_dealing_56 rfl (by decide) (fun _ => rfl) (fun _ => rfl) (fun _ => rfl) (fun b5 h => ?_)
      refine j_aload_n (pc := 59) 0 dX9_dealing_59 rfl rfl ?_
      refine j_get (pc := 60) (v := .ref a_o_laid) 0 2 rfl rfl (Nat.le_of_ble_eq_true rfl) iwX9 m1_190 rfl dX9_dealing_60 ?_
      refine j_getN (pc := 63) (v := .int v_o_laid_cards) 1 0 rfl rfl (Nat.le_of_ble_eq_true rfl) iwX5 (List.mem_of_getElem? (i := 0) rfl) rfl dX9_dealing_63 ?_
      refine j_S0 (pc := 66) (Kc := K_X4_moved) (As := [.long x4, .long b5, .int v_o_laid_cards]) (rest := []) h c_X4_moved q_X4_moved m2_79 rfl rfl (Nat.le_of_ble_eq_true rfl) ⟨(Nat.le_of_ble_eq_true rfl), (Nat.le_of_ble_eq_true rfl)⟩ ⟨rfl, rfl⟩ ⟨(Nat.le_of_ble_eq_true rfl), (Nat.le_of_ble_eq_true rfl)⟩ dX9_dealing_66 (fun b6 h => ?_)
      refine j_lstore (pc := 69) (lv' := [(4, .long b6), (0, .ref a_o), (1, .int x1), (2, .int x2), (3, .int x3), (6, .int x6)]) dX9_dealing_69 (Nat.le_of_ble_eq_true rfl) rfl ?_
      refine j_iinc (pc := 71) (j := 5) (lv' := [(6, .int (x6 + (1 : Int32))), (4, .long b6), (0, .ref a_o), (1, .int x1), (2, .int x2), (3, .int x3)]) dX9_dealing_71 rfl (congrArg (fun z => x6 + z) ic_1) (Nat.le_of_ble_eq_true rfl) rfl ?_
      refine j_goto (pc := 74) (tgt := 41) dX9_dealing_74 (by decide) ?_
      exact j_sub (lv' := [(0, .ref a_o), (1, .int x1), (2, .int x2), (3, .int x3), (4, .long b6), (6, .int (x6 + (1 : Int32)))]) [2, 3, 4, 5, 1, 0] rfl (ih _ _ u h)
set_option maxRecDepth 20000 in
theorem c_X9_dealing {l : Launch} {E : jE} {F : Nat} {x1 : Int32} {x2 : Int32} {x3 : Int32} {v_o_order : Int64} {v_o_laid_cards : Int32} {a_o a_o_text a_o_draft a_o_laid a_o_past a_o_kept a_o_sightings a_o_finder a_o_mix : Nat} {w_o_laid_colours : Int32} {w_o_laid_acts : Int32} {w_o_laid_deal : Int64} {w_o_laid_cardsAreFixed : Int32} : ∀ u : Int32, f_X9_dealing F x1 x2 x3 v_o_order v_o_laid_cards = some u → jM l E K_X9_dealing [.ref a_o, .int x1, .int x2, .int x3] [jO a_o 6 [.ref a_o_text, .ref a_o_draft, .ref a_o_laid, .ref a_o_past, .ref a_o_kept, .ref a_o_sightings, .ref a_o_finder, .ref a_o_mix, .long v_o_order], jO a_o_laid 2 [.int v_o_laid_cards, .int w_o_laid_colours, .int w_o_laid_acts, .long w_o_laid_deal, .int w_o_laid_cardsAreFixed]] (jd (some (.int u)) [jO a_o 6 [.ref a_o_text, .ref a_o_draft, .ref a_o_laid, .ref a_o_past, .ref a_o_kept, .ref a_o_sightings, .ref a_o_finder, .ref a_o_mix, .long v_o_order], jO a_o_laid 2 [.int v_o_laid_cards, .int w_o_laid_colours, .int w_o_laid_acts, .long w_o_laid_deal, .int w_o_laid_cardsAreFixed]]) := by
  intro u h
  unfold f_X9_dealing at h
  refine j_met [(0, .ref a_o), (1, .int x1), (2, .int x2), (3, .int x3)] (by decide +kernel) (Nat.le_of_ble_eq_true rfl) rfl ?_
  refine j_iload_n (pc := 0) 1 dX9_dealing_0 rfl rfl ?_
  refine j_iconst (pc := 1) dX9_dealing_1 ic_0 ?_
  refine j_sipush (pc := 2) dX9_dealing_2 sc_9999 ?_
  refine j_S0 (pc := 5) (Kc := K_X9_within) (As := [.int x1, .int (0 : Int32), .int (9999 : Int32)]) (rest := []) h c_X9_within q_X9_within m1_157 rfl rfl (Nat.le_of_ble_eq_true rfl) ⟨(Nat.le_of_ble_eq_true rfl), (Nat.le_of_ble_eq_true rfl)⟩ ⟨rfl, rfl⟩ ⟨(Nat.le_of_ble_eq_true rfl), (Nat.le_of_ble_eq_true rfl)⟩ dX9_dealing_5 (fun b1 h => ?_)
  refine j_if_eq (pc := 8) (tgt := 30) dX9_dealing_8 (by decide) h (fun h => ?_) (fun h => ?_)
  · refine j_iconst (pc := 30) dX9_dealing_30 ic_m1 ?_
    cases h
    exact j_iret (pc := 31) rfl dX9_dealing_31 (Nat.le_of_ble_eq_true rfl) (Nat.le_of_ble_eq_true rfl) (jd_i rfl rfl)
  · refine j_iload_n (pc := 11) 2 dX9_dealing_11 rfl rfl ?_
    refine j_iconst (pc := 12) dX9_dealing_12 ic_1 ?_
    refine j_bipush (pc := 13) dX9_dealing_13 bc_60 ?_
    refine j_S0 (pc := 15) (Kc := K_X9_within) (As := [.int x2, .int (1 : Int32), .int (60 : Int32)]) (rest := []) h c_X9_within q_X9_within m1_157 rfl rfl (Nat.le_of_ble_eq_true rfl) ⟨(Nat.le_of_ble_eq_true rfl), (Nat.le_of_ble_eq_true rfl)⟩ ⟨rfl, rfl⟩ ⟨(Nat.le_of_ble_eq_true rfl), (Nat.le_of_ble_eq_true rfl)⟩ dX9_dealing_15 (fun b2 h => ?_)
    refine j_if_eq (pc := 18) (tgt := 30) dX9_dealing_18 (by decide) h (fun h => ?_) (fun h => ?_)
    · refine j_iconst (pc := 30) dX9_dealing_30 ic_m1 ?_
      cases h
      exact j_iret (pc := 31) rfl dX9_dealing_31 (Nat.le_of_ble_eq_true rfl) (Nat.le_of_ble_eq_true rfl) (jd_i rfl rfl)
    · refine j_iload_n (pc := 21) 3 dX9_dealing_21 rfl rfl ?_
      refine j_iconst (pc := 22) dX9_dealing_22 ic_0 ?_
      refine j_iconst (pc := 23) dX9_dealing_23 ic_2 ?_
      refine j_S0 (pc := 24) (Kc := K_X9_within) (As := [.int x3, .int (0 : Int32), .int (2 : Int32)]) (rest := []) h c_X9_within q_X9_within m1_157 rfl rfl (Nat.le_of_ble_eq_true rfl) ⟨(Nat.le_of_ble_eq_true rfl), (Nat.le_of_ble_eq_true rfl)⟩ ⟨rfl, rfl⟩ ⟨(Nat.le_of_ble_eq_true rfl), (Nat.le_of_ble_eq_true rfl)⟩ dX9_dealing_24 (fun b3 h => ?_)
      refine j_if_ne (pc := 27) (tgt := 32) dX9_dealing_27 (by decide) h (fun h => ?_) (fun h => ?_)
      · refine j_aload_n (pc := 32) 0 dX9_dealing_32 rfl rfl ?_
        refine j_get (pc := 33) (v := .long v_o_order) 0 8 rfl rfl (Nat.le_of_ble_eq_true rfl) iwX9 m1_196 rfl dX9_dealing_33 ?_
        refine j_lstore (pc := 36) (lv' := [(4, .long v_o_order), (0, .ref a_o), (1, .int x1), (2, .int x2), (3, .int x3)]) dX9_dealing_36 (Nat.le_of_ble_eq_true rfl) rfl ?_
        refine j_iconst (pc := 38) dX9_dealing_38 ic_0 ?_
        refine j_istore (pc := 39) (lv' := [(6, .int (0 : Int32)), (4, .long v_o_order), (0, .ref a_o), (1, .int x1), (2, .int x2), (3, .int x3)]) dX9_dealing_39 (Nat.le_of_ble_eq_true rfl) rfl ?_
        exact j_sub (lv' := [(0, .ref a_o), (1, .int x1), (2, .int x2), (3, .int x3), (4, .long v_o_order), (6, .int (0 : Int32))]) [2, 3, 4, 5, 1, 0] rfl (w_X9_dealing_41 _ _ _ u h)
      · refine j_iconst (pc := 30) dX9_dealing_30 ic_m1 ?_
        cases h
        exact j_iret (pc := 31) rfl dX9_dealing_31 (Nat.le_of_ble_eq_true rfl) (Nat.le_of_ble_eq_true rfl) (jd_i rfl rfl)
set_option maxRecDepth 20000 in
theorem c_X9_keep {l : Launch} {E : jE} {F : Nat} {v_o_order : Int64} {a_o a_o_text a_o_draft a_o_laid a_o_past a_o_kept a_o_sightings a_o_finder a_o_mix a_o_kept_stored : Nat} {v_o_kept_held : Int32} {f_o_kept_stored : Nat → Int64} : ∀ u : Int32 × Int32 × (Nat → Int64), f_X9_keep F v_o_order v_o_kept_held f_o_kept_stored = some u → jM l E K_X9_keep [.ref a_o] [jO a_o 6 [.ref a_o_text, .ref a_o_draft, .ref a_o_laid, .ref a_o_past, .ref a_o_kept, .ref a_o_sightings, .ref a_o_finder, .ref a_o_mix, .long v_o_order], jO a_o_kept 3 [.ref a_o_kept_stored, .int v_o_kept_held], jJ E a_o_kept_stored 2 f_o_kept_stored] (jd (some (.int u.1)) [jO a_o 6 [.ref a_o_text, .ref a_o_draft, .ref a_o_laid, .ref a_o_past, .ref a_o_kept, .ref a_o_sightings, .ref a_o_finder, .ref a_o_mix, .long v_o_order], jO a_o_kept 3 [.ref a_o_kept_stored, .int u.2.1], jJ E a_o_kept_stored 2 u.2.2]) := by
  intro u h
  unfold f_X9_keep at h
  refine j_met [(0, .ref a_o)] (by decide +kernel) (Nat.le_of_ble_eq_true rfl) rfl ?_
  refine j_aload_n (pc := 0) 0 dX9_keep_0 rfl rfl ?_
  refine j_get (pc := 1) (v := .ref a_o_kept) 0 4 rfl rfl (Nat.le_of_ble_eq_true rfl) iwX9 m1_192 rfl dX9_keep_1 ?_
  refine j_V (pc := 4) (q0 := 1) (Kc := K_X6_isFull) (As := []) (rest := []) (wc := [jO a_o_kept 3 [.ref a_o_kept_stored, .int v_o_kept_held], jJ E a_o_kept_stored 2 f_o_kept_stored]) (w' := fun b1 => [jO a_o 6 [.ref a_o_text, .ref a_o_draft, .ref a_o_laid, .ref a_o_past, .ref a_o_kept, .ref a_o_sightings, .ref a_o_finder, .ref a_o_mix, .long v_o_order], jO a_o_kept 3 [.ref a_o_kept_stored, .int v_o_kept_held], jJ E a_o_kept_stored 2 f_o_kept_stored]) (st1 := fun b1 => [.int b1]) [1, 2] rfl rfl rfl h c_X6_isFull q_X6_isFull m3_71 rfl rfl (Nat.le_of_ble_eq_true rfl) ⟨(Nat.le_of_ble_eq_true rfl), (Nat.le_of_ble_eq_true rfl)⟩ ⟨rfl, rfl⟩ ⟨(Nat.le_of_ble_eq_true rfl), (Nat.le_of_ble_eq_true rfl)⟩ dX9_keep_4 rfl (by decide) (fun _ => rfl) (fun _ => rfl) (fun _ => rfl) (fun b1 h => ?_)
  refine j_if_eq (pc := 7) (tgt := 13) dX9_keep_7 (by decide) h (fun h => ?_) (fun h => ?_)
  · refine j_aload_n (pc := 13) 0 dX9_keep_13 rfl rfl ?_
    refine j_get (pc := 14) (v := .ref a_o_kept) 0 4 rfl rfl (Nat.le_of_ble_eq_true rfl) iwX9 m1_192 rfl dX9_keep_14 ?_
    refine j_aload_n (pc := 17) 0 dX9_keep_17 rfl rfl ?_
    refine j_get (pc := 18) (v := .long v_o_order) 0 8 rfl rfl (Nat.le_of_ble_eq_true rfl) iwX9 m1_196 rfl dX9_keep_18 ?_
    refine j_V (pc := 21) (q0 := 1) (Kc := K_X6_put) (As := [.long v_o_order]) (rest := []) (wc := [jO a_o_kept 3 [.ref a_o_kept_stored, .int v_o_kept_held], jJ E a_o_kept_stored 2 f_o_kept_stored]) (w' := fun b2 => [jO a_o 6 [.ref a_o_text, .ref a_o_draft, .ref a_o_laid, .ref a_o_past, .ref a_o_kept, .ref a_o_sightings, .ref a_o_finder, .ref a_o_mix, .long v_o_order], jO a_o_kept 3 [.ref a_o_kept_stored, .int b2.1], jJ E a_o_kept_stored 2 b2.2]) (st1 := fun b2 => []) [1, 2] rfl rfl rfl h c_X6_put q_X6_put m2_68 rfl rfl (Nat.le_of_ble_eq_true rfl) ⟨(Nat.le_of_ble_eq_true rfl), (Nat.le_of_ble_eq_true rfl)⟩ ⟨rfl, rfl⟩ ⟨(Nat.le_of_ble_eq_true rfl), (Nat.le_of_ble_eq_true rfl)⟩ dX9_keep_21 rfl (by decide) (fun _ => rfl) (fun _ => rfl) (fun _ => rfl) (fun b2 h => ?_)
    refine j_aload_n (pc := 24) 0 dX9_keep_24 rfl rfl ?_
    refine j_get (pc := 25) (v := .ref a_o_kept) 0 4 rfl rfl (Nat.le_of_ble_eq_true rfl) iwX9 m1_192 rfl dX9_keep_25 ?_
    refine j_getN (pc := 28) (v := .int b2.1) 1 1 rfl rfl (Nat.le_of_ble_eq_true rfl) iwX6 (List.mem_of_getElem? (i := 3) rfl) rfl dX9_keep_28 ?_
    cases h
    exact j_iret (pc := 31) rfl dX9_keep_31 (Nat.le_of_ble_eq_true rfl) (Nat.le_of_ble_eq_true rfl) (jd_i rfl rfl)
  · refine j_bipush (pc := 10) dX9_keep_10 bc_m3 ?_
    cases h
    exact j_iret (pc := 12) rfl dX9_keep_12 (Nat.le_of_ble_eq_true rfl) (Nat.le_of_ble_eq_true rfl) (jd_i rfl rfl)
set_option maxRecDepth 20000 in
theorem c_X9_back {l : Launch} {E : jE} {F : Nat} {f_o_kept_stored : Nat → Int64} {a_o a_o_text a_o_draft a_o_laid a_o_past a_o_kept a_o_sightings a_o_finder a_o_mix a_o_kept_stored a_o_past_stored : Nat} {v_o_order : Int64} {v_o_kept_held : Int32} {v_o_past_held : Int32} : ∀ u : Int32 × Int64 × Int32 × Int32, f_X9_back F f_o_kept_stored v_o_order v_o_kept_held v_o_past_held = some u → jM l E K_X9_back [.ref a_o] [jO a_o 6 [.ref a_o_text, .ref a_o_draft, .ref a_o_laid, .ref a_o_past, .ref a_o_kept, .ref a_o_sightings, .ref a_o_finder, .ref a_o_mix, .long v_o_order], jO a_o_kept 3 [.ref a_o_kept_stored, .int v_o_kept_held], jO a_o_past 3 [.ref a_o_past_stored, .int v_o_past_held], jJ E a_o_kept_stored 2 f_o_kept_stored] (jd (some (.int u.1)) [jO a_o 6 [.ref a_o_text, .ref a_o_draft, .ref a_o_laid, .ref a_o_past, .ref a_o_kept, .ref a_o_sightings, .ref a_o_finder, .ref a_o_mix, .long u.2.1], jO a_o_kept 3 [.ref a_o_kept_stored, .int u.2.2.1], jO a_o_past 3 [.ref a_o_past_stored, .int u.2.2.2], jJ E a_o_kept_stored 2 f_o_kept_stored]) := by
  intro u h
  unfold f_X9_back at h
  refine j_met [(0, .ref a_o)] (by decide +kernel) (Nat.le_of_ble_eq_true rfl) rfl ?_
  refine j_aload_n (pc := 0) 0 dX9_back_0 rfl rfl ?_
  refine j_get (pc := 1) (v := .ref a_o_kept) 0 4 rfl rfl (Nat.le_of_ble_eq_true rfl) iwX9 m1_192 rfl dX9_back_1 ?_
  refine j_getN (pc := 4) (v := .int v_o_kept_held) 1 1 rfl rfl (Nat.le_of_ble_eq_true rfl) iwX6 (List.mem_of_getElem? (i := 3) rfl) rfl dX9_back_4 ?_
  refine j_if_ne (pc := 7) (tgt := 13) dX9_back_7 (by decide) h (fun h => ?_) (fun h => ?_)
  · refine j_aload_n (pc := 13) 0 dX9_back_13 rfl rfl ?_
    refine j_aload_n (pc := 14) 0 dX9_back_14 rfl rfl ?_
    refine j_get (pc := 15) (v := .ref a_o_kept) 0 4 rfl rfl (Nat.le_of_ble_eq_true rfl) iwX9 m1_192 rfl dX9_back_15 ?_
    refine j_V (pc := 18) (q0 := 1) (Kc := K_X6_takeLast) (As := []) (rest := [.ref a_o]) (wc := [jO a_o_kept 3 [.ref a_o_kept_stored, .int v_o_kept_held], jJ E a_o_kept_stored 2 f_o_kept_stored]) (w' := fun b1 => [jO a_o 6 [.ref a_o_text, .ref a_o_draft, .ref a_o_laid, .ref a_o_past, .ref a_o_kept, .ref a_o_sightings, .ref a_o_finder, .ref a_o_mix, .long v_o_order], jO a_o_kept 3 [.ref a_o_kept_stored, .int b1.2], jO a_o_past 3 [.ref a_o_past_stored, .int v_o_past_held], jJ E a_o_kept_stored 2 f_o_kept_stored]) (st1 := fun b1 => [.long b1.1, .ref a_o]) [1, 3] rfl rfl rfl h c_X6_takeLast q_X6_takeLast m2_100 rfl rfl (Nat.le_of_ble_eq_true rfl) ⟨(Nat.le_of_ble_eq_true rfl), (Nat.le_of_ble_eq_true rfl)⟩ ⟨rfl, rfl⟩ ⟨(Nat.le_of_ble_eq_true rfl), (Nat.le_of_ble_eq_true rfl)⟩ dX9_back_18 rfl (by decide) (fun _ => rfl) (fun _ => rfl) (fun _ => rfl) (fun b1 h => ?_)
    refine j_put (pc := 21) (w' := [jO a_o 6 [.ref a_o_text, .ref a_o_draft, .ref a_o_laid, .ref a_o_past, .ref a_o_kept, .ref a_o_sightings, .ref a_o_finder, .ref a_o_mix, .long b1.1], jO a_o_kept 3 [.ref a_o_kept_stored, .int b1.2], jO a_o_past 3 [.ref a_o_past_stored, .int v_o_past_held], jJ E a_o_kept_stored 2 f_o_kept_stored]) tyX9 0 8 tyX9_ok nmX9 rfl rfl (Nat.le_of_ble_eq_true rfl) iwX9 m1_196 rfl rfl rfl rfl (Nat.le_of_ble_eq_true rfl) dX9_back_21 rfl ?_
    refine j_aload_n (pc := 24) 0 dX9_back_24 rfl rfl ?_
    refine j_get (pc := 25) (v := .ref a_o_past) 0 3 rfl rfl (Nat.le_of_ble_eq_true rfl) iwX9 m1_191 rfl dX9_back_25 ?_
    refine j_iconst (pc := 28) dX9_back_28 ic_0 ?_
    refine j_putN (pc := 29) (w' := [jO a_o 6 [.ref a_o_text, .ref a_o_draft, .ref a_o_laid, .ref a_o_past, .ref a_o_kept, .ref a_o_sightings, .ref a_o_finder, .ref a_o_mix, .long b1.1], jO a_o_kept 3 [.ref a_o_kept_stored, .int b1.2], jO a_o_past 3 [.ref a_o_past_stored, .int (0 : Int32)], jJ E a_o_kept_stored 2 f_o_kept_stored]) tyX6 2 1 tyX6_ok nmX6 rfl rfl (Nat.le_of_ble_eq_true rfl) iwX6 (List.mem_of_getElem? (i := 3) rfl) rfl rfl rfl rfl (Nat.le_of_ble_eq_true rfl) dX9_back_29 rfl ?_
    refine j_aload_n (pc := 32) 0 dX9_back_32 rfl rfl ?_
    refine j_get (pc := 33) (v := .ref a_o_kept) 0 4 rfl rfl (Nat.le_of_ble_eq_true rfl) iwX9 m1_192 rfl dX9_back_33 ?_
    refine j_getN (pc := 36) (v := .int b1.2) 1 1 rfl rfl (Nat.le_of_ble_eq_true rfl) iwX6 (List.mem_of_getElem? (i := 3) rfl) rfl dX9_back_36 ?_
    cases h
    exact j_iret (pc := 39) rfl dX9_back_39 (Nat.le_of_ble_eq_true rfl) (Nat.le_of_ble_eq_true rfl) (jd_i rfl rfl)
  · refine j_bipush (pc := 10) dX9_back_10 bc_m2 ?_
    cases h
    exact j_iret (pc := 12) rfl dX9_back_12 (Nat.le_of_ble_eq_true rfl) (Nat.le_of_ble_eq_true rfl) (jd_i rfl rfl)
set_option maxRecDepth 20000 in
theorem c_X9_count {l : Launch} {E : jE} {F : Nat} {x1 : Int32} {v_o_kept_held : Int32} {v_o_laid_cards : Int32} {v_o_laid_acts : Int32} {v_o_past_held : Int32} {v_o_sightings_held : Int32} {v_o_text_length : Int32} {a_o a_o_text a_o_draft a_o_laid a_o_past a_o_kept a_o_sightings a_o_finder a_o_mix a_o_kept_stored a_o_past_stored a_o_sightings_cards a_o_sightings_places a_o_text_letters : Nat} {w_o_order : Int64} {w_o_laid_colours : Int32} {w_o_laid_deal : Int64} {w_o_laid_cardsAreFixed : Int32} {w_o_text_next : Int32} : ∀ u : Int32, f_X9_count F x1 v_o_kept_held v_o_laid_cards v_o_laid_acts v_o_past_held v_o_sightings_held v_o_text_length = some u → jM l E K_X9_count [.ref a_o, .int x1] [jO a_o 6 [.ref a_o_text, .ref a_o_draft, .ref a_o_laid, .ref a_o_past, .ref a_o_kept, .ref a_o_sightings, .ref a_o_finder, .ref a_o_mix, .long w_o_order], jO a_o_kept 3 [.ref a_o_kept_stored, .int v_o_kept_held], jO a_o_laid 2 [.int v_o_laid_cards, .int w_o_laid_colours, .int v_o_laid_acts, .long w_o_laid_deal, .int w_o_laid_cardsAreFixed], jO a_o_past 3 [.ref a_o_past_stored, .int v_o_past_held], jO a_o_sightings 4 [.ref a_o_sightings_cards, .ref a_o_sightings_places, .int v_o_sightings_held], jO a_o_text 5 [.ref a_o_text_letters, .int v_o_text_length, .int w_o_text_next]] (jd (some (.int u)) [jO a_o 6 [.ref a_o_text, .ref a_o_draft, .ref a_o_laid, .ref a_o_past, .ref a_o_kept, .ref a_o_sightings, .ref a_o_finder, .ref a_o_mix, .long w_o_order], jO a_o_kept 3 [.ref a_o_kept_stored, .int v_o_kept_held], jO a_o_laid 2 [.int v_o_laid_cards, .int w_o_laid_colours, .int v_o_laid_acts, .long w_o_laid_deal, .int w_o_laid_cardsAreFixed], jO a_o_past 3 [.ref a_o_past_stored, .int v_o_past_held], jO a_o_sightings 4 [.ref a_o_sightings_cards, .ref a_o_sightings_places, .int v_o_sightings_held], jO a_o_text 5 [.ref a_o_text_letters, .int v_o_text_length, .int w_o_text_next]]) := by
  intro u h
  unfold f_X9_count at h
  refine j_met [(0, .ref a_o), (1, .int x1)] (by decide +kernel) (Nat.le_of_ble_eq_true rfl) rfl ?_
  refine j_iload_n (pc := 0) 1 dX9_count_0 rfl rfl ?_
  refine jbr h (fun z0 h => ?_) (fun z0 h => ?_)
  · refine j_tableIn (pc := 1) (tgt := 40) (0 : Int32) z0 dX9_count_1 (by decide) (by decide) rfl (by decide) ?_
    refine j_aload_n (pc := 40) 0 dX9_count_40 rfl rfl ?_
    refine j_get (pc := 41) (v := .ref a_o_laid) 0 2 rfl rfl (Nat.le_of_ble_eq_true rfl) iwX9 m1_190 rfl dX9_count_41 ?_
    refine j_getN (pc := 44) (v := .int v_o_laid_cards) 2 0 rfl rfl (Nat.le_of_ble_eq_true rfl) iwX5 (List.mem_of_getElem? (i := 0) rfl) rfl dX9_count_44 ?_
    cases h
    exact j_iret (pc := 47) rfl dX9_count_47 (Nat.le_of_ble_eq_true rfl) (Nat.le_of_ble_eq_true rfl) (jd_i rfl rfl)
  refine jbr h (fun z1 h => ?_) (fun z1 h => ?_)
  · refine j_tableIn (pc := 1) (tgt := 48) (1 : Int32) z1 dX9_count_1 (by decide) (by decide) rfl (by decide) ?_
    refine j_aload_n (pc := 48) 0 dX9_count_48 rfl rfl ?_
    refine j_get (pc := 49) (v := .ref a_o_laid) 0 2 rfl rfl (Nat.le_of_ble_eq_true rfl) iwX9 m1_190 rfl dX9_count_49 ?_
    refine j_getN (pc := 52) (v := .int v_o_laid_acts) 2 2 rfl rfl (Nat.le_of_ble_eq_true rfl) iwX5 (List.mem_of_getElem? (i := 5) rfl) rfl dX9_count_52 ?_
    cases h
    exact j_iret (pc := 55) rfl dX9_count_55 (Nat.le_of_ble_eq_true rfl) (Nat.le_of_ble_eq_true rfl) (jd_i rfl rfl)
  refine jbr h (fun z2 h => ?_) (fun z2 h => ?_)
  · refine j_tableIn (pc := 1) (tgt := 56) (2 : Int32) z2 dX9_count_1 (by decide) (by decide) rfl (by decide) ?_
    refine j_aload_n (pc := 56) 0 dX9_count_56 rfl rfl ?_
    refine j_get (pc := 57) (v := .ref a_o_sightings) 0 5 rfl rfl (Nat.le_of_ble_eq_true rfl) iwX9 m1_193 rfl dX9_count_57 ?_
    refine j_getN (pc := 60) (v := .int v_o_sightings_held) 4 2 rfl rfl (Nat.le_of_ble_eq_true rfl) iwX7 (List.mem_of_getElem? (i := 2) rfl) rfl dX9_count_60 ?_
    cases h
    exact j_iret (pc := 63) rfl dX9_count_63 (Nat.le_of_ble_eq_true rfl) (Nat.le_of_ble_eq_true rfl) (jd_i rfl rfl)
  refine jbr h (fun z3 h => ?_) (fun z3 h => ?_)
  · refine j_tableIn (pc := 1) (tgt := 64) (3 : Int32) z3 dX9_count_1 (by decide) (by decide) rfl (by decide) ?_
    refine j_aload_n (pc := 64) 0 dX9_count_64 rfl rfl ?_
    refine j_get (pc := 65) (v := .ref a_o_past) 0 3 rfl rfl (Nat.le_of_ble_eq_true rfl) iwX9 m1_191 rfl dX9_count_65 ?_
    refine j_getN (pc := 68) (v := .int v_o_past_held) 3 1 rfl rfl (Nat.le_of_ble_eq_true rfl) iwX6 (List.mem_of_getElem? (i := 3) rfl) rfl dX9_count_68 ?_
    cases h
    exact j_iret (pc := 71) rfl dX9_count_71 (Nat.le_of_ble_eq_true rfl) (Nat.le_of_ble_eq_true rfl) (jd_i rfl rfl)
  refine jbr h (fun z4 h => ?_) (fun z4 h => ?_)
  · refine j_tableIn (pc := 1) (tgt := 72) (4 : Int32) z4 dX9_count_1 (by decide) (by decide) rfl (by decide) ?_
    refine j_aload_n (pc := 72) 0 dX9_count_72 rfl rfl ?_
    refine j_get (pc := 73) (v := .ref a_o_kept) 0 4 rfl rfl (Nat.le_of_ble_eq_true rfl) iwX9 m1_192 rfl dX9_count_73 ?_
    refine j_getN (pc := 76) (v := .int v_o_kept_held) 1 1 rfl rfl (Nat.le_of_ble_eq_true rfl) iwX6 (List.mem_of_getElem? (i := 3) rfl) rfl dX9_count_76 ?_
    cases h
    exact j_iret (pc := 79) rfl dX9_count_79 (Nat.le_of_ble_eq_true rfl) (Nat.le_of_ble_eq_true rfl) (jd_i rfl rfl)
  refine jbr h (fun z5 h => ?_) (fun z5 h => ?_)
  · refine j_tableIn (pc := 1) (tgt := 80) (5 : Int32) z5 dX9_count_1 (by decide) (by decide) rfl (by decide) ?_
    refine j_aload_n (pc := 80) 0 dX9_count_80 rfl rfl ?_
    refine j_get (pc := 81) (v := .ref a_o_text) 0 0 rfl rfl (Nat.le_of_ble_eq_true rfl) iwX9 m1_188 rfl dX9_count_81 ?_
    refine j_getN (pc := 84) (v := .int v_o_text_length) 5 1 rfl rfl (Nat.le_of_ble_eq_true rfl) iwX8 (List.mem_of_getElem? (i := 1) rfl) rfl dX9_count_84 ?_
    cases h
    exact j_iret (pc := 87) rfl dX9_count_87 (Nat.le_of_ble_eq_true rfl) (Nat.le_of_ble_eq_true rfl) (jd_i rfl rfl)
  refine j_tableOut (pc := 1) (tgt := 88) dX9_count_1 (by have e0 := j_ne z0 (z := 0) (by decide); have e1 := j_ne z1 (z := 1) (by decide); have e2 := j_ne z2 (z := 2) (by decide); have e3 := j_ne z3 (z := 3) (by decide); have e4 := j_ne z4 (z := 4) (by decide); have e5 := j_ne z5 (z := 5) (by decide); omega) (by decide) ?_
  refine j_iconst (pc := 88) dX9_count_88 ic_m1 ?_
  cases h
  exact j_iret (pc := 89) rfl dX9_count_89 (Nat.le_of_ble_eq_true rfl) (Nat.le_of_ble_eq_true rfl) (jd_i rfl rfl)
