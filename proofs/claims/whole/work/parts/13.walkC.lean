/-! the walks -/
set_option maxRecDepth 20000 in
theorem w_X10_colours_2 {l : Launch} {E : jE} {F : Nat} {a_o a_o_colour a_o_deal a_o_st a_o_was a_o_kept a_o_seen a_o_text a_o_told a_o_readColour a_o_readDeal a_o_now a_o_then a_o_ring a_o_goes a_o_far a_o_met : Nat} {w_o_cards : Int32} {w_o_dealMany : Int32} {w_o_acts : Int32} {w_o_keeps : Int32} {w_o_seens : Int32} {w_o_texted : Int32} {w_o_at : Int32} {w_o_isBegun : Int32} {w_o_readCards : Int32} {w_o_readDeals : Int32} {w_o_metMany : Int32} : ∀ (n : Nat) (x1 : Int32) (f_o_readColour : Nat → Int32) (u : (Nat → Int32)), g_X10_colours_2 F n x1 f_o_readColour = some u → jT l E K_X10_colours 0 0 2 [(0, .ref a_o), (1, .int x1)] [] [jO a_o 7 [.int w_o_cards, .ref a_o_colour, .int w_o_dealMany, .ref a_o_deal, .ref a_o_st, .int w_o_acts, .ref a_o_was, .int w_o_keeps, .ref a_o_kept, .int w_o_seens, .ref a_o_seen, .ref a_o_text, .int w_o_texted, .int w_o_at, .ref a_o_told, .int w_o_isBegun, .int w_o_readCards, .ref a_o_readColour, .int w_o_readDeals, .ref a_o_readDeal, .ref a_o_now, .ref a_o_then, .ref a_o_ring, .ref a_o_goes, .ref a_o_far, .ref a_o_met, .int w_o_metMany], jI E a_o_readColour 16 f_o_readColour] (jd none [jO a_o 7 [.int w_o_cards, .ref a_o_colour, .int w_o_dealMany, .ref a_o_deal, .ref a_o_st, .int w_o_acts, .ref a_o_was, .int w_o_keeps, .ref a_o_kept, .int w_o_seens, .ref a_o_seen, .ref a_o_text, .int w_o_texted, .int w_o_at, .ref a_o_told, .int w_o_isBegun, .int w_o_readCards, .ref a_o_readColour, .int w_o_readDeals, .ref a_o_readDeal, .ref a_o_now, .ref a_o_then, .ref a_o_ring, .ref a_o_goes, .ref a_o_far, .ref a_o_met, .int w_o_metMany], jI E a_o_readColour 16 u]) := by
  intro n
  induction n with
  | zero =>
    intro x1 f_o_readColour u h
    rw [g_X10_colours_2] at h
    cases h
  | succ n ih =>
    intro x1 f_o_readColour u h
    rw [g_X10_colours_2] at h
    refine j_iload_n (pc := 2) 1 dX10_colours_2 rfl rfl ?_
    refine j_bipush (pc := 3) dX10_colours_3 bc_16 ?_
    refine j_icmp_ge (pc := 5) (tgt := 23) dX10_colours_5 (by decide) h (fun h => ?_) (fun h => ?_)
    · cases h
      exact j_vret (pc := 23) rfl dX10_colours_23 (Nat.le_of_ble_eq_true rfl) (Nat.le_of_ble_eq_true rfl) (jd_i rfl rfl)
    · refine j_aload_n (pc := 8) 0 dX10_colours_8 rfl rfl ?_
      refine j_get (pc := 9) (v := .ref a_o_readColour) 0 17 rfl rfl (Nat.le_of_ble_eq_true rfl) iwX10 m3_121 rfl dX10_colours_9 ?_
      refine j_iload_n (pc := 12) 1 dX10_colours_12 rfl rfl ?_
      refine j_iload_n (pc := 13) 1 dX10_colours_13 rfl rfl ?_
      refine j_iconst (pc := 14) dX10_colours_14 ic_2 ?_
      refine j_irem (pc := 15) dX10_colours_15 h (fun h => ?_)
      refine j_iast (pc := 16) (w' := [jO a_o 7 [.int w_o_cards, .ref a_o_colour, .int w_o_dealMany, .ref a_o_deal, .ref a_o_st, .int w_o_acts, .ref a_o_was, .int w_o_keeps, .ref a_o_kept, .int w_o_seens, .ref a_o_seen, .ref a_o_text, .int w_o_texted, .int w_o_at, .ref a_o_told, .int w_o_isBegun, .int w_o_readCards, .ref a_o_readColour, .int w_o_readDeals, .ref a_o_readDeal, .ref a_o_now, .ref a_o_then, .ref a_o_ring, .ref a_o_goes, .ref a_o_far, .ref a_o_met, .int w_o_metMany], jI E a_o_readColour 16 (upd f_o_readColour x1.toNatClampNeg (jrem x1 (2 : Int32)))]) 1 rfl dX10_colours_16 h rfl (fun h => ?_)
      refine j_iinc (pc := 17) (j := 1) (lv' := [(1, .int (x1 + (1 : Int32))), (0, .ref a_o)]) dX10_colours_17 rfl (congrArg (fun z => x1 + z) ic_1) (Nat.le_of_ble_eq_true rfl) rfl ?_
      refine j_goto (pc := 20) (tgt := 2) dX10_colours_20 (by decide) ?_
      exact j_sub (lv' := [(0, .ref a_o), (1, .int (x1 + (1 : Int32)))]) [1, 0] rfl (ih _ _ u h)
set_option maxRecDepth 20000 in
theorem c_X10_colours {l : Launch} {E : jE} {F : Nat} {a_o a_o_colour a_o_deal a_o_st a_o_was a_o_kept a_o_seen a_o_text a_o_told a_o_readColour a_o_readDeal a_o_now a_o_then a_o_ring a_o_goes a_o_far a_o_met : Nat} {w_o_cards : Int32} {w_o_dealMany : Int32} {w_o_acts : Int32} {w_o_keeps : Int32} {w_o_seens : Int32} {w_o_texted : Int32} {w_o_at : Int32} {w_o_isBegun : Int32} {w_o_readCards : Int32} {w_o_readDeals : Int32} {w_o_metMany : Int32} {f_o_readColour : Nat → Int32} : ∀ u : (Nat → Int32), f_X10_colours F f_o_readColour = some u → jM l E K_X10_colours [.ref a_o] [jO a_o 7 [.int w_o_cards, .ref a_o_colour, .int w_o_dealMany, .ref a_o_deal, .ref a_o_st, .int w_o_acts, .ref a_o_was, .int w_o_keeps, .ref a_o_kept, .int w_o_seens, .ref a_o_seen, .ref a_o_text, .int w_o_texted, .int w_o_at, .ref a_o_told, .int w_o_isBegun, .int w_o_readCards, .ref a_o_readColour, .int w_o_readDeals, .ref a_o_readDeal, .ref a_o_now, .ref a_o_then, .ref a_o_ring, .ref a_o_goes, .ref a_o_far, .ref a_o_met, .int w_o_metMany], jI E a_o_readColour 16 f_o_readColour] (jd none [jO a_o 7 [.int w_o_cards, .ref a_o_colour, .int w_o_dealMany, .ref a_o_deal, .ref a_o_st, .int w_o_acts, .ref a_o_was, .int w_o_keeps, .ref a_o_kept, .int w_o_seens, .ref a_o_seen, .ref a_o_text, .int w_o_texted, .int w_o_at, .ref a_o_told, .int w_o_isBegun, .int w_o_readCards, .ref a_o_readColour, .int w_o_readDeals, .ref a_o_readDeal, .ref a_o_now, .ref a_o_then, .ref a_o_ring, .ref a_o_goes, .ref a_o_far, .ref a_o_met, .int w_o_metMany], jI E a_o_readColour 16 u]) := by
  intro u h
  unfold f_X10_colours at h
  refine j_met [(0, .ref a_o)] (by decide +kernel) (Nat.le_of_ble_eq_true rfl) rfl ?_
  refine j_iconst (pc := 0) dX10_colours_0 ic_0 ?_
  refine j_istore_n (pc := 1) (lv' := [(1, .int (0 : Int32)), (0, .ref a_o)]) dX10_colours_1 rfl (Nat.le_of_ble_eq_true rfl) rfl ?_
  exact j_sub (lv' := [(0, .ref a_o), (1, .int (0 : Int32))]) [1, 0] rfl (w_X10_colours_2 _ _ _ u h)
set_option maxRecDepth 20000 in
theorem c_X10_clearTold {l : Launch} {E : jE} {F : Nat} {a_o a_o_colour a_o_deal a_o_st a_o_was a_o_kept a_o_seen a_o_text a_o_told a_o_readColour a_o_readDeal a_o_now a_o_then a_o_ring a_o_goes a_o_far a_o_met : Nat} {w_o_cards : Int32} {w_o_dealMany : Int32} {w_o_acts : Int32} {w_o_keeps : Int32} {w_o_seens : Int32} {w_o_texted : Int32} {w_o_at : Int32} {w_o_metMany : Int32} {v_o_isBegun : Int32} {v_o_readCards : Int32} {v_o_readDeals : Int32} {f_o_readColour : Nat → Int32} : ∀ u : Int32 × Int32 × Int32 × (Nat → Int32), f_X10_clearTold F v_o_isBegun v_o_readCards v_o_readDeals f_o_readColour = some u → jM l E K_X10_clearTold [.ref a_o] [jO a_o 7 [.int w_o_cards, .ref a_o_colour, .int w_o_dealMany, .ref a_o_deal, .ref a_o_st, .int w_o_acts, .ref a_o_was, .int w_o_keeps, .ref a_o_kept, .int w_o_seens, .ref a_o_seen, .ref a_o_text, .int w_o_texted, .int w_o_at, .ref a_o_told, .int v_o_isBegun, .int v_o_readCards, .ref a_o_readColour, .int v_o_readDeals, .ref a_o_readDeal, .ref a_o_now, .ref a_o_then, .ref a_o_ring, .ref a_o_goes, .ref a_o_far, .ref a_o_met, .int w_o_metMany], jI E a_o_readColour 16 f_o_readColour] (jd none [jO a_o 7 [.int w_o_cards, .ref a_o_colour, .int w_o_dealMany, .ref a_o_deal, .ref a_o_st, .int w_o_acts, .ref a_o_was, .int w_o_keeps, .ref a_o_kept, .int w_o_seens, .ref a_o_seen, .ref a_o_text, .int w_o_texted, .int w_o_at, .ref a_o_told, .int u.1, .int u.2.1, .ref a_o_readColour, .int u.2.2.1, .ref a_o_readDeal, .ref a_o_now, .ref a_o_then, .ref a_o_ring, .ref a_o_goes, .ref a_o_far, .ref a_o_met, .int w_o_metMany], jI E a_o_readColour 16 u.2.2.2]) := by
  intro u h
  unfold f_X10_clearTold at h
  refine j_met [(0, .ref a_o)] (by decide +kernel) (Nat.le_of_ble_eq_true rfl) rfl ?_
  refine j_aload_n (pc := 0) 0 dX10_clearTold_0 rfl rfl ?_
  refine j_iconst (pc := 1) dX10_clearTold_1 ic_0 ?_
  refine j_put (pc := 2) (w' := [jO a_o 7 [.int w_o_cards, .ref a_o_colour, .int w_o_dealMany, .ref a_o_deal, .ref a_o_st, .int w_o_acts, .ref a_o_was, .int w_o_keeps, .ref a_o_kept, .int w_o_seens, .ref a_o_seen, .ref a_o_text, .int w_o_texted, .int w_o_at, .ref a_o_told, .int (0 : Int32), .int v_o_readCards, .ref a_o_readColour, .int v_o_readDeals, .ref a_o_readDeal, .ref a_o_now, .ref a_o_then, .ref a_o_ring, .ref a_o_goes, .ref a_o_far, .ref a_o_met, .int w_o_metMany], jI E a_o_readColour 16 f_o_readColour]) tyX10 0 15 tyX10_ok nmX10 rfl rfl (Nat.le_of_ble_eq_true rfl) iwX10 m3_119 rfl rfl (j_bz (Or.inl rfl)).1 (j_bz (Or.inl rfl)).2 (Nat.le_of_ble_eq_true rfl) dX10_clearTold_2 rfl ?_
  refine j_aload_n (pc := 5) 0 dX10_clearTold_5 rfl rfl ?_
  refine j_bipush (pc := 6) dX10_clearTold_6 bc_8 ?_
  refine j_put (pc := 8) (w' := [jO a_o 7 [.int w_o_cards, .ref a_o_colour, .int w_o_dealMany, .ref a_o_deal, .ref a_o_st, .int w_o_acts, .ref a_o_was, .int w_o_keeps, .ref a_o_kept, .int w_o_seens, .ref a_o_seen, .ref a_o_text, .int w_o_texted, .int w_o_at, .ref a_o_told, .int (0 : Int32), .int (8 : Int32), .ref a_o_readColour, .int v_o_readDeals, .ref a_o_readDeal, .ref a_o_now, .ref a_o_then, .ref a_o_ring, .ref a_o_goes, .ref a_o_far, .ref a_o_met, .int w_o_metMany], jI E a_o_readColour 16 f_o_readColour]) tyX10 0 16 tyX10_ok nmX10 rfl rfl (Nat.le_of_ble_eq_true rfl) iwX10 m3_120 rfl rfl rfl rfl (Nat.le_of_ble_eq_true rfl) dX10_clearTold_8 rfl ?_
  refine j_aload_n (pc := 11) 0 dX10_clearTold_11 rfl rfl ?_
  refine j_iconst (pc := 12) dX10_clearTold_12 ic_0 ?_
  refine j_put (pc := 13) (w' := [jO a_o 7 [.int w_o_cards, .ref a_o_colour, .int w_o_dealMany, .ref a_o_deal, .ref a_o_st, .int w_o_acts, .ref a_o_was, .int w_o_keeps, .ref a_o_kept, .int w_o_seens, .ref a_o_seen, .ref a_o_text, .int w_o_texted, .int w_o_at, .ref a_o_told, .int (0 : Int32), .int (8 : Int32), .ref a_o_readColour, .int (0 : Int32), .ref a_o_readDeal, .ref a_o_now, .ref a_o_then, .ref a_o_ring, .ref a_o_goes, .ref a_o_far, .ref a_o_met, .int w_o_metMany], jI E a_o_readColour 16 f_o_readColour]) tyX10 0 18 tyX10_ok nmX10 rfl rfl (Nat.le_of_ble_eq_true rfl) iwX10 m3_122 rfl rfl rfl rfl (Nat.le_of_ble_eq_true rfl) dX10_clearTold_13 rfl ?_
  refine j_aload_n (pc := 16) 0 dX10_clearTold_16 rfl rfl ?_
  refine j_V (pc := 17) (q0 := 0) (Kc := K_X10_colours) (As := []) (rest := []) (wc := [jO a_o 7 [.int w_o_cards, .ref a_o_colour, .int w_o_dealMany, .ref a_o_deal, .ref a_o_st, .int w_o_acts, .ref a_o_was, .int w_o_keeps, .ref a_o_kept, .int w_o_seens, .ref a_o_seen, .ref a_o_text, .int w_o_texted, .int w_o_at, .ref a_o_told, .int (0 : Int32), .int (8 : Int32), .ref a_o_readColour, .int (0 : Int32), .ref a_o_readDeal, .ref a_o_now, .ref a_o_then, .ref a_o_ring, .ref a_o_goes, .ref a_o_far, .ref a_o_met, .int w_o_metMany], jI E a_o_readColour 16 f_o_readColour]) (w' := fun b1 => [jO a_o 7 [.int w_o_cards, .ref a_o_colour, .int w_o_dealMany, .ref a_o_deal, .ref a_o_st, .int w_o_acts, .ref a_o_was, .int w_o_keeps, .ref a_o_kept, .int w_o_seens, .ref a_o_seen, .ref a_o_text, .int w_o_texted, .int w_o_at, .ref a_o_told, .int (0 : Int32), .int (8 : Int32), .ref a_o_readColour, .int (0 : Int32), .ref a_o_readDeal, .ref a_o_now, .ref a_o_then, .ref a_o_ring, .ref a_o_goes, .ref a_o_far, .ref a_o_met, .int w_o_metMany], jI E a_o_readColour 16 b1]) (st1 := fun b1 => []) [0, 1] rfl rfl rfl h c_X10_colours q_X10_colours m3_90 rfl rfl (Nat.le_of_ble_eq_true rfl) ⟨(Nat.le_of_ble_eq_true rfl), (Nat.le_of_ble_eq_true rfl)⟩ ⟨rfl, rfl⟩ ⟨(Nat.le_of_ble_eq_true rfl), (Nat.le_of_ble_eq_true rfl)⟩ dX10_clearTold_17 rfl (by decide) (fun _ => rfl) (fun _ => rfl) (fun _ => rfl) (fun b1 h => ?_)
  cases h
  exact j_vret (pc := 20) rfl dX10_clearTold_20 (Nat.le_of_ble_eq_true rfl) (Nat.le_of_ble_eq_true rfl) (jd_i rfl rfl)
set_option maxRecDepth 20000 in
theorem w_X10_copies_3 {l : Launch} {E : jE} {F : Nat} {n_p0 : Nat} {n_p2 : Nat} {x1 : Int32} {x3 : Int32} {x4 : Int32} {f_p2 : Nat → Int32} {a_p0 a_p2 : Nat} : ∀ (n : Nat) (x5 : Int32) (f_p0 : Nat → Int32) (u : (Nat → Int32)), g_X10_copies_3 F n_p0 n_p2 x1 x3 x4 f_p2 n x5 f_p0 = some u → jT l E K_X10_copies 0 0 3 [(0, .ref a_p0), (1, .int x1), (2, .ref a_p2), (3, .int x3), (4, .int x4), (5, .int x5)] [] [jI E a_p0 n_p0 f_p0, jI E a_p2 n_p2 f_p2] (jd none [jI E a_p0 n_p0 u, jI E a_p2 n_p2 f_p2]) := by
  intro n
  induction n with
  | zero =>
    intro x5 f_p0 u h
    rw [g_X10_copies_3] at h
    cases h
  | succ n ih =>
    intro x5 f_p0 u h
    rw [g_X10_copies_3] at h
    refine j_iload (pc := 3) 5 dX10_copies_3 rfl ?_
    refine j_iload (pc := 5) 4 dX10_copies_5 rfl ?_
    refine j_icmp_ge (pc := 7) (tgt := 28) dX10_copies_7 (by decide) h (fun h => ?_) (fun h => ?_)
    · cases h
      exact j_vret (pc := 28) rfl dX10_copies_28 (Nat.le_of_ble_eq_true rfl) (Nat.le_of_ble_eq_true rfl) (jd_i rfl rfl)
    · refine j_aload_n (pc := 10) 0 dX10_copies_10 rfl rfl ?_
      refine j_iload_n (pc := 11) 1 dX10_copies_11 rfl rfl ?_
      refine j_iload (pc := 12) 5 dX10_copies_12 rfl ?_
      refine j_iadd (pc := 14) dX10_copies_14 ?_
      refine j_aload_n (pc := 15) 2 dX10_copies_15 rfl rfl ?_
      refine j_iload_n (pc := 16) 3 dX10_copies_16 rfl rfl ?_
      refine j_iload (pc := 17) 5 dX10_copies_17 rfl ?_
      refine j_iadd (pc := 19) dX10_copies_19 ?_
      refine j_iald (pc := 20) 1 rfl dX10_copies_20 h (fun h => ?_)
      refine j_iast (pc := 21) (w' := [jI E a_p0 n_p0 (upd f_p0 (x1 + x5).toNatClampNeg (f_p2 (x3 + x5).toNatClampNeg)), jI E a_p2 n_p2 f_p2]) 0 rfl dX10_copies_21 h rfl (fun h => ?_)
      refine j_iinc (pc := 22) (j := 5) (lv' := [(5, .int (x5 + (1 : Int32))), (0, .ref a_p0), (1, .int x1), (2, .ref a_p2), (3, .int x3), (4, .int x4)]) dX10_copies_22 rfl (congrArg (fun z => x5 + z) ic_1) (Nat.le_of_ble_eq_true rfl) rfl ?_
      refine j_goto (pc := 25) (tgt := 3) dX10_copies_25 (by decide) ?_
      exact j_sub (lv' := [(0, .ref a_p0), (1, .int x1), (2, .ref a_p2), (3, .int x3), (4, .int x4), (5, .int (x5 + (1 : Int32)))]) [1, 2, 3, 4, 5, 0] rfl (ih _ _ u h)
set_option maxRecDepth 20000 in
theorem c_X10_copies {l : Launch} {E : jE} {F : Nat} {n_p0 : Nat} {n_p2 : Nat} {x1 : Int32} {x3 : Int32} {x4 : Int32} {f_p2 : Nat → Int32} {a_p0 a_p2 : Nat} {f_p0 : Nat → Int32} : ∀ u : (Nat → Int32), f_X10_copies F n_p0 n_p2 x1 x3 x4 f_p2 f_p0 = some u → jM l E K_X10_copies [.ref a_p0, .int x1, .ref a_p2, .int x3, .int x4] [jI E a_p0 n_p0 f_p0, jI E a_p2 n_p2 f_p2] (jd none [jI E a_p0 n_p0 u, jI E a_p2 n_p2 f_p2]) := by
  intro u h
  unfold f_X10_copies at h
  refine j_met [(0, .ref a_p0), (1, .int x1), (2, .ref a_p2), (3, .int x3), (4, .int x4)] (by decide +kernel) (Nat.le_of_ble_eq_true rfl) rfl ?_
  refine j_iconst (pc := 0) dX10_copies_0 ic_0 ?_
  refine j_istore (pc := 1) (lv' := [(5, .int (0 : Int32)), (0, .ref a_p0), (1, .int x1), (2, .ref a_p2), (3, .int x3), (4, .int x4)]) dX10_copies_1 (Nat.le_of_ble_eq_true rfl) rfl ?_
  exact j_sub (lv' := [(0, .ref a_p0), (1, .int x1), (2, .ref a_p2), (3, .int x3), (4, .int x4), (5, .int (0 : Int32))]) [1, 2, 3, 4, 5, 0] rfl (w_X10_copies_3 _ _ _ u h)
set_option maxRecDepth 20000 in
theorem w_X10_lies_2 {l : Launch} {E : jE} {F : Nat} {n_p0 : Nat} {a_p0 : Nat} : ∀ (n : Nat) (x1 : Int32) (f_p0 : Nat → Int32) (u : (Nat → Int32)), g_X10_lies_2 F n_p0 n x1 f_p0 = some u → jT l E K_X10_lies 0 0 2 [(0, .ref a_p0), (1, .int x1)] [] [jI E a_p0 n_p0 f_p0] (jd none [jI E a_p0 n_p0 u]) := by
  intro n
  induction n with
  | zero =>
    intro x1 f_p0 u h
    rw [g_X10_lies_2] at h
    cases h
  | succ n ih =>
    intro x1 f_p0 u h
    rw [g_X10_lies_2] at h
    refine j_iload_n (pc := 2) 1 dX10_lies_2 rfl rfl ?_
    refine j_bipush (pc := 3) dX10_lies_3 bc_16 ?_
    refine j_icmp_ge (pc := 5) (tgt := 18) dX10_lies_5 (by decide) h (fun h => ?_) (fun h => ?_)
    · cases h
      exact j_vret (pc := 18) rfl dX10_lies_18 (Nat.le_of_ble_eq_true rfl) (Nat.le_of_ble_eq_true rfl) (jd_i rfl rfl)
    · refine j_aload_n (pc := 8) 0 dX10_lies_8 rfl rfl ?_
      refine j_iload_n (pc := 9) 1 dX10_lies_9 rfl rfl ?_
      refine j_iload_n (pc := 10) 1 dX10_lies_10 rfl rfl ?_
      refine j_iast (pc := 11) (w' := [jI E a_p0 n_p0 (upd f_p0 x1.toNatClampNeg x1)]) 0 rfl dX10_lies_11 h rfl (fun h => ?_)
      refine j_iinc (pc := 12) (j := 1) (lv' := [(1, .int (x1 + (1 : Int32))), (0, .ref a_p0)]) dX10_lies_12 rfl (congrArg (fun z => x1 + z) ic_1) (Nat.le_of_ble_eq_true rfl) rfl ?_
      refine j_goto (pc := 15) (tgt := 2) dX10_lies_15 (by decide) ?_
      exact j_sub (lv' := [(0, .ref a_p0), (1, .int (x1 + (1 : Int32)))]) [1, 0] rfl (ih _ _ u h)
set_option maxRecDepth 20000 in
theorem c_X10_lies {l : Launch} {E : jE} {F : Nat} {n_p0 : Nat} {a_p0 : Nat} {f_p0 : Nat → Int32} : ∀ u : (Nat → Int32), f_X10_lies F n_p0 f_p0 = some u → jM l E K_X10_lies [.ref a_p0] [jI E a_p0 n_p0 f_p0] (jd none [jI E a_p0 n_p0 u]) := by
  intro u h
  unfold f_X10_lies at h
  refine j_met [(0, .ref a_p0)] (by decide +kernel) (Nat.le_of_ble_eq_true rfl) rfl ?_
  refine j_iconst (pc := 0) dX10_lies_0 ic_0 ?_
  refine j_istore_n (pc := 1) (lv' := [(1, .int (0 : Int32)), (0, .ref a_p0)]) dX10_lies_1 rfl (Nat.le_of_ble_eq_true rfl) rfl ?_
  exact j_sub (lv' := [(0, .ref a_p0), (1, .int (0 : Int32))]) [1, 0] rfl (w_X10_lies_2 _ _ _ u h)
set_option maxRecDepth 20000 in
theorem c_X10_settles {l : Launch} {E : jE} {F : Nat} {v_o_readCards : Int32} {v_o_readDeals : Int32} {f_o_readColour : Nat → Int32} {f_o_readDeal : Nat → Int32} {a_o a_o_colour a_o_deal a_o_st a_o_was a_o_kept a_o_seen a_o_text a_o_told a_o_readColour a_o_readDeal a_o_now a_o_then a_o_ring a_o_goes a_o_far a_o_met : Nat} {w_o_texted : Int32} {w_o_at : Int32} {w_o_isBegun : Int32} {w_o_metMany : Int32} {v_o_cards : Int32} {v_o_dealMany : Int32} {v_o_acts : Int32} {v_o_keeps : Int32} {v_o_seens : Int32} {f_o_colour : Nat → Int32} {f_o_deal : Nat → Int32} {f_o_st : Nat → Int32} : ∀ u : Int32 × Int32 × Int32 × Int32 × Int32 × (Nat → Int32) × (Nat → Int32) × (Nat → Int32), f_X10_settles F v_o_readCards v_o_readDeals f_o_readColour f_o_readDeal v_o_cards v_o_dealMany v_o_acts v_o_keeps v_o_seens f_o_colour f_o_deal f_o_st = some u → jM l E K_X10_settles [.ref a_o] [jO a_o 7 [.int v_o_cards, .ref a_o_colour, .int v_o_dealMany, .ref a_o_deal, .ref a_o_st, .int v_o_acts, .ref a_o_was, .int v_o_keeps, .ref a_o_kept, .int v_o_seens, .ref a_o_seen, .ref a_o_text, .int w_o_texted, .int w_o_at, .ref a_o_told, .int w_o_isBegun, .int v_o_readCards, .ref a_o_readColour, .int v_o_readDeals, .ref a_o_readDeal, .ref a_o_now, .ref a_o_then, .ref a_o_ring, .ref a_o_goes, .ref a_o_far, .ref a_o_met, .int w_o_metMany], jI E a_o_colour 16 f_o_colour, jI E a_o_deal 16 f_o_deal, jI E a_o_readColour 16 f_o_readColour, jI E a_o_readDeal 16 f_o_readDeal, jI E a_o_st 16 f_o_st] (jd none [jO a_o 7 [.int u.1, .ref a_o_colour, .int u.2.1, .ref a_o_deal, .ref a_o_st, .int u.2.2.1, .ref a_o_was, .int u.2.2.2.1, .ref a_o_kept, .int u.2.2.2.2.1, .ref a_o_seen, .ref a_o_text, .int w_o_texted, .int w_o_at, .ref a_o_told, .int w_o_isBegun, .int v_o_readCards, .ref a_o_readColour, .int v_o_readDeals, .ref a_o_readDeal, .ref a_o_now, .ref a_o_then, .ref a_o_ring, .ref a_o_goes, .ref a_o_far, .ref a_o_met, .int w_o_metMany], jI E a_o_colour 16 u.2.2.2.2.2.1, jI E a_o_deal 16 u.2.2.2.2.2.2.1, jI E a_o_readColour 16 f_o_readColour, jI E a_o_readDeal 16 f_o_readDeal, jI E a_o_st 16 u.2.2.2.2.2.2.2]) := by
  intro u h
  unfold f_X10_settles at h
  refine j_met [(0, .ref a_o)] (by decide +kernel) (Nat.le_of_ble_eq_true rfl) rfl ?_
  refine j_aload_n (pc := 0) 0 dX10_settles_0 rfl rfl ?_
  refine j_aload_n (pc := 1) 0 dX10_settles_1 rfl rfl ?_
  refine j_get (pc := 2) (v := .int v_o_readCards) 0 16 rfl rfl (Nat.le_of_ble_eq_true rfl) iwX10 m3_120 rfl dX10_settles_2 ?_
  refine j_put (pc := 5) (w' := [jO a_o 7 [.int v_o_readCards, .ref a_o_colour, .int v_o_dealMany, .ref a_o_deal, .ref a_o_st, .int v_o_acts, .ref a_o_was, .int v_o_keeps, .ref a_o_kept, .int v_o_seens, .ref a_o_seen, .ref a_o_text, .int w_o_texted, .int w_o_at, .ref a_o_told, .int w_o_isBegun, .int v_o_readCards, .ref a_o_readColour, .int v_o_readDeals, .ref a_o_readDeal, .ref a_o_now, .ref a_o_then, .ref a_o_ring, .ref a_o_goes, .ref a_o_far, .ref a_o_met, .int w_o_metMany], jI E a_o_colour 16 f_o_colour, jI E a_o_deal 16 f_o_deal, jI E a_o_readColour 16 f_o_readColour, jI E a_o_readDeal 16 f_o_readDeal, jI E a_o_st 16 f_o_st]) tyX10 0 0 tyX10_ok nmX10 rfl rfl (Nat.le_of_ble_eq_true rfl) iwX10 m3_104 rfl rfl rfl rfl (Nat.le_of_ble_eq_true rfl) dX10_settles_5 rfl ?_
  refine j_aload_n (pc := 8) 0 dX10_settles_8 rfl rfl ?_
  refine j_get (pc := 9) (v := .ref a_o_colour) 0 1 rfl rfl (Nat.le_of_ble_eq_true rfl) iwX10 m3_105 rfl dX10_settles_9 ?_
  refine j_iconst (pc := 12) dX10_settles_12 ic_0 ?_
  refine j_aload_n (pc := 13) 0 dX10_settles_13 rfl rfl ?_
  refine j_get (pc := 14) (v := .ref a_o_readColour) 0 17 rfl rfl (Nat.le_of_ble_eq_true rfl) iwX10 m3_121 rfl dX10_settles_14 ?_
  refine j_iconst (pc := 17) dX10_settles_17 ic_0 ?_
  refine j_bipush (pc := 18) dX10_settles_18 bc_16 ?_
  refine j_S (pc := 20) (Kc := K_X10_copies) (As := [.ref a_o_colour, .int (0 : Int32), .ref a_o_readColour, .int (0 : Int32), .int (16 : Int32)]) (rest := []) (wc := [jI E a_o_colour 16 f_o_colour, jI E a_o_readColour 16 f_o_readColour]) (w' := fun b1 => [jO a_o 7 [.int v_o_readCards, .ref a_o_colour, .int v_o_dealMany, .ref a_o_deal, .ref a_o_st, .int v_o_acts, .ref a_o_was, .int v_o_keeps, .ref a_o_kept, .int v_o_seens, .ref a_o_seen, .ref a_o_text, .int w_o_texted, .int w_o_at, .ref a_o_told, .int w_o_isBegun, .int v_o_readCards, .ref a_o_readColour, .int v_o_readDeals, .ref a_o_readDeal, .ref a_o_now, .ref a_o_then, .ref a_o_ring, .ref a_o_goes, .ref a_o_far, .ref a_o_met, .int w_o_metMany], jI E a_o_colour 16 b1, jI E a_o_deal 16 f_o_deal, jI E a_o_readColour 16 f_o_readColour, jI E a_o_readDeal 16 f_o_readDeal, jI E a_o_st 16 f_o_st]) (st1 := fun b1 => []) [1, 3] h c_X10_copies q_X10_copies m3_98 rfl rfl (Nat.le_of_ble_eq_true rfl) ⟨(Nat.le_of_ble_eq_true rfl), (Nat.le_of_ble_eq_true rfl)⟩ ⟨rfl, rfl⟩ ⟨(Nat.le_of_ble_eq_true rfl), (Nat.le_of_ble_eq_true rfl)⟩ dX10_settles_20 rfl (by decide) (fun _ => rfl) (fun _ => rfl) (fun _ => rfl) (fun b1 h => ?_)
  refine j_aload_n (pc := 23) 0 dX10_settles_23 rfl rfl ?_
  refine j_aload_n (pc := 24) 0 dX10_settles_24 rfl rfl ?_
  refine j_get (pc := 25) (v := .int v_o_readDeals) 0 18 rfl rfl (Nat.le_of_ble_eq_true rfl) iwX10 m3_122 rfl dX10_settles_25 ?_
  refine j_put (pc := 28) (w' := [jO a_o 7 [.int v_o_readCards, .ref a_o_colour, .int v_o_readDeals, .ref a_o_deal, .ref a_o_st, .int v_o_acts, .ref a_o_was, .int v_o_keeps, .ref a_o_kept, .int v_o_seens, .ref a_o_seen, .ref a_o_text, .int w_o_texted, .int w_o_at, .ref a_o_told, .int w_o_isBegun, .int v_o_readCards, .ref a_o_readColour, .int v_o_readDeals, .ref a_o_readDeal, .ref a_o_now, .ref a_o_then, .ref a_o_ring, .ref a_o_goes, .ref a_o_far, .ref a_o_met, .int w_o_metMany], jI E a_o_colour 16 b1, jI E a_o_deal 16 f_o_deal, jI E a_o_readColour 16 f_o_readColour, jI E a_o_readDeal 16 f_o_readDeal, jI E a_o_st 16 f_o_st]) tyX10 0 2 tyX10_ok nmX10 rfl rfl (Nat.le_of_ble_eq_true rfl) iwX10 m3_106 rfl rfl rfl rfl (Nat.le_of_ble_eq_true rfl) dX10_settles_28 rfl ?_
  refine j_aload_n (pc := 31) 0 dX10_settles_31 rfl rfl ?_
  refine j_get (pc := 32) (v := .ref a_o_deal) 0 3 rfl rfl (Nat.le_of_ble_eq_true rfl) iwX10 m3_107 rfl dX10_settles_32 ?_
  refine j_iconst (pc := 35) dX10_settles_35 ic_0 ?_
  refine j_aload_n (pc := 36) 0 dX10_settles_36 rfl rfl ?_
  refine j_get (pc := 37) (v := .ref a_o_readDeal) 0 19 rfl rfl (Nat.le_of_ble_eq_true rfl) iwX10 m3_123 rfl dX10_settles_37 ?_
  refine j_iconst (pc := 40) dX10_settles_40 ic_0 ?_
  refine j_bipush (pc := 41) dX10_settles_41 bc_16 ?_
  refine j_S (pc := 43) (Kc := K_X10_copies) (As := [.ref a_o_deal, .int (0 : Int32), .ref a_o_readDeal, .int (0 : Int32), .int (16 : Int32)]) (rest := []) (wc := [jI E a_o_deal 16 f_o_deal, jI E a_o_readDeal 16 f_o_readDeal]) (w' := fun b2 => [jO a_o 7 [.int v_o_readCards, .ref a_o_colour, .int v_o_readDeals, .ref a_o_deal, .ref a_o_st, .int v_o_acts, .ref a_o_was, .int v_o_keeps, .ref a_o_kept, .int v_o_seens, .ref a_o_seen, .ref a_o_text, .int w_o_texted, .int w_o_at, .ref a_o_told, .int w_o_isBegun, .int v_o_readCards, .ref a_o_readColour, .int v_o_readDeals, .ref a_o_readDeal, .ref a_o_now, .ref a_o_then, .ref a_o_ring, .ref a_o_goes, .ref a_o_far, .ref a_o_met, .int w_o_metMany], jI E a_o_colour 16 b1, jI E a_o_deal 16 b2, jI E a_o_readColour 16 f_o_readColour, jI E a_o_readDeal 16 f_o_readDeal, jI E a_o_st 16 f_o_st]) (st1 := fun b2 => []) [2, 4] h c_X10_copies q_X10_copies m3_98 rfl rfl (Nat.le_of_ble_eq_true rfl) ⟨(Nat.le_of_ble_eq_true rfl), (Nat.le_of_ble_eq_true rfl)⟩ ⟨rfl, rfl⟩ ⟨(Nat.le_of_ble_eq_true rfl), (Nat.le_of_ble_eq_true rfl)⟩ dX10_settles_43 rfl (by decide) (fun _ => rfl) (fun _ => rfl) (fun _ => rfl) (fun b2 h => ?_)
  refine j_aload_n (pc := 46) 0 dX10_settles_46 rfl rfl ?_
  refine j_get (pc := 47) (v := .ref a_o_st) 0 4 rfl rfl (Nat.le_of_ble_eq_true rfl) iwX10 m3_108 rfl dX10_settles_47 ?_
  refine j_S (pc := 50) (Kc := K_X10_lies) (As := [.ref a_o_st]) (rest := []) (wc := [jI E a_o_st 16 f_o_st]) (w' := fun b3 => [jO a_o 7 [.int v_o_readCards, .ref a_o_colour, .int v_o_readDeals, .ref a_o_deal, .ref a_o_st, .int v_o_acts, .ref a_o_was, .int v_o_keeps, .ref a_o_kept, .int v_o_seens, .ref a_o_seen, .ref a_o_text, .int w_o_texted, .int w_o_at, .ref a_o_told, .int w_o_isBegun, .int v_o_readCards, .ref a_o_readColour, .int v_o_readDeals, .ref a_o_readDeal, .ref a_o_now, .ref a_o_then, .ref a_o_ring, .ref a_o_goes, .ref a_o_far, .ref a_o_met, .int w_o_metMany], jI E a_o_colour 16 b1, jI E a_o_deal 16 b2, jI E a_o_readColour 16 f_o_readColour, jI E a_o_readDeal 16 f_o_readDeal, jI E a_o_st 16 b3]) (st1 := fun b3 => []) [5] h c_X10_lies q_X10_lies m3_101 rfl rfl (Nat.le_of_ble_eq_true rfl) ⟨(Nat.le_of_ble_eq_true rfl), (Nat.le_of_ble_eq_true rfl)⟩ ⟨rfl, rfl⟩ ⟨(Nat.le_of_ble_eq_true rfl), (Nat.le_of_ble_eq_true rfl)⟩ dX10_settles_50 rfl (by decide) (fun _ => rfl) (fun _ => rfl) (fun _ => rfl) (fun b3 h => ?_)
  refine j_aload_n (pc := 53) 0 dX10_settles_53 rfl rfl ?_
  refine j_iconst (pc := 54) dX10_settles_54 ic_0 ?_
  refine j_put (pc := 55) (w' := [jO a_o 7 [.int v_o_readCards, .ref a_o_colour, .int v_o_readDeals, .ref a_o_deal, .ref a_o_st, .int (0 : Int32), .ref a_o_was, .int v_o_keeps, .ref a_o_kept, .int v_o_seens, .ref a_o_seen, .ref a_o_text, .int w_o_texted, .int w_o_at, .ref a_o_told, .int w_o_isBegun, .int v_o_readCards, .ref a_o_readColour, .int v_o_readDeals, .ref a_o_readDeal, .ref a_o_now, .ref a_o_then, .ref a_o_ring, .ref a_o_goes, .ref a_o_far, .ref a_o_met, .int w_o_metMany], jI E a_o_colour 16 b1, jI E a_o_deal 16 b2, jI E a_o_readColour 16 f_o_readColour, jI E a_o_readDeal 16 f_o_readDeal, jI E a_o_st 16 b3]) tyX10 0 5 tyX10_ok nmX10 rfl rfl (Nat.le_of_ble_eq_true rfl) iwX10 m3_109 rfl rfl rfl rfl (Nat.le_of_ble_eq_true rfl) dX10_settles_55 rfl ?_
  refine j_aload_n (pc := 58) 0 dX10_settles_58 rfl rfl ?_
  refine j_iconst (pc := 59) dX10_settles_59 ic_0 ?_
  refine j_put (pc := 60) (w' := [jO a_o 7 [.int v_o_readCards, .ref a_o_colour, .int v_o_readDeals, .ref a_o_deal, .ref a_o_st, .int (0 : Int32), .ref a_o_was, .int (0 : Int32), .ref a_o_kept, .int v_o_seens, .ref a_o_seen, .ref a_o_text, .int w_o_texted, .int w_o_at, .ref a_o_told, .int w_o_isBegun, .int v_o_readCards, .ref a_o_readColour, .int v_o_readDeals, .ref a_o_readDeal, .ref a_o_now, .ref a_o_then, .ref a_o_ring, .ref a_o_goes, .ref a_o_far, .ref a_o_met, .int w_o_metMany], jI E a_o_colour 16 b1, jI E a_o_deal 16 b2, jI E a_o_readColour 16 f_o_readColour, jI E a_o_readDeal 16 f_o_readDeal, jI E a_o_st 16 b3]) tyX10 0 7 tyX10_ok nmX10 rfl rfl (Nat.le_of_ble_eq_true rfl) iwX10 m3_111 rfl rfl rfl rfl (Nat.le_of_ble_eq_true rfl) dX10_settles_60 rfl ?_
  refine j_aload_n (pc := 63) 0 dX10_settles_63 rfl rfl ?_
  refine j_iconst (pc := 64) dX10_settles_64 ic_0 ?_
  refine j_put (pc := 65) (w' := [jO a_o 7 [.int v_o_readCards, .ref a_o_colour, .int v_o_readDeals, .ref a_o_deal, .ref a_o_st, .int (0 : Int32), .ref a_o_was, .int (0 : Int32), .ref a_o_kept, .int (0 : Int32), .ref a_o_seen, .ref a_o_text, .int w_o_texted, .int w_o_at, .ref a_o_told, .int w_o_isBegun, .int v_o_readCards, .ref a_o_readColour, .int v_o_readDeals, .ref a_o_readDeal, .ref a_o_now, .ref a_o_then, .ref a_o_ring, .ref a_o_goes, .ref a_o_far, .ref a_o_met, .int w_o_metMany], jI E a_o_colour 16 b1, jI E a_o_deal 16 b2, jI E a_o_readColour 16 f_o_readColour, jI E a_o_readDeal 16 f_o_readDeal, jI E a_o_st 16 b3]) tyX10 0 9 tyX10_ok nmX10 rfl rfl (Nat.le_of_ble_eq_true rfl) iwX10 m3_113 rfl rfl rfl rfl (Nat.le_of_ble_eq_true rfl) dX10_settles_65 rfl ?_
  cases h
  exact j_vret (pc := 68) rfl dX10_settles_68 (Nat.le_of_ble_eq_true rfl) (Nat.le_of_ble_eq_true rfl) (jd_i rfl rfl)
set_option maxRecDepth 20000 in
theorem c_X10_in {l : Launch} {E : jE} {F : Nat} {x0 : Int32} {x1 : Int32} {x2 : Int32} : ∀ u : Int32, f_X10_in F x0 x1 x2 = some u → jM l E K_X10_in [.int x0, .int x1, .int x2] [] (jd (some (.int u)) []) := by
  intro u h
  unfold f_X10_in at h
  refine j_met [(0, .int x0), (1, .int x1), (2, .int x2)] (by decide +kernel) (Nat.le_of_ble_eq_true rfl) rfl ?_
  refine j_iload_n (pc := 0) 0 dX10_in_0 rfl rfl ?_
  refine j_iload_n (pc := 1) 1 dX10_in_1 rfl rfl ?_
  refine j_icmp_lt (pc := 2) (tgt := 14) dX10_in_2 (by decide) h (fun h => ?_) (fun h => ?_)
  · refine j_iconst (pc := 14) dX10_in_14 ic_0 ?_
    cases h
    exact j_zret (pc := 15) rfl (Or.inl rfl) dX10_in_15 (Nat.le_of_ble_eq_true rfl) (Nat.le_of_ble_eq_true rfl) (jd_i rfl rfl)
  · refine j_iload_n (pc := 5) 0 dX10_in_5 rfl rfl ?_
    refine j_iload_n (pc := 6) 2 dX10_in_6 rfl rfl ?_
    refine j_icmp_gt (pc := 7) (tgt := 14) dX10_in_7 (by decide) h (fun h => ?_) (fun h => ?_)
    · refine j_iconst (pc := 14) dX10_in_14 ic_0 ?_
      cases h
      exact j_zret (pc := 15) rfl (Or.inl rfl) dX10_in_15 (Nat.le_of_ble_eq_true rfl) (Nat.le_of_ble_eq_true rfl) (jd_i rfl rfl)
    · refine j_iconst (pc := 10) dX10_in_10 ic_1 ?_
      refine j_goto (pc := 11) (tgt := 15) dX10_in_11 (by decide) ?_
      cases h
      exact j_zret (pc := 15) rfl (Or.inr rfl) dX10_in_15 (Nat.le_of_ble_eq_true rfl) (Nat.le_of_ble_eq_true rfl) (jd_i rfl rfl)
set_option maxRecDepth 20000 in
theorem c_X10_isCard {l : Launch} {E : jE} {F : Nat} {x1 : Int32} {v_o_cards : Int32} {a_o a_o_colour a_o_deal a_o_st a_o_was a_o_kept a_o_seen a_o_text a_o_told a_o_readColour a_o_readDeal a_o_now a_o_then a_o_ring a_o_goes a_o_far a_o_met : Nat} {w_o_dealMany : Int32} {w_o_acts : Int32} {w_o_keeps : Int32} {w_o_seens : Int32} {w_o_texted : Int32} {w_o_at : Int32} {w_o_isBegun : Int32} {w_o_readCards : Int32} {w_o_readDeals : Int32} {w_o_metMany : Int32} : ∀ u : Int32, f_X10_isCard F x1 v_o_cards = some u → jM l E K_X10_isCard [.ref a_o, .int x1] [jO a_o 7 [.int v_o_cards, .ref a_o_colour, .int w_o_dealMany, .ref a_o_deal, .ref a_o_st, .int w_o_acts, .ref a_o_was, .int w_o_keeps, .ref a_o_kept, .int w_o_seens, .ref a_o_seen, .ref a_o_text, .int w_o_texted, .int w_o_at, .ref a_o_told, .int w_o_isBegun, .int w_o_readCards, .ref a_o_readColour, .int w_o_readDeals, .ref a_o_readDeal, .ref a_o_now, .ref a_o_then, .ref a_o_ring, .ref a_o_goes, .ref a_o_far, .ref a_o_met, .int w_o_metMany]] (jd (some (.int u)) [jO a_o 7 [.int v_o_cards, .ref a_o_colour, .int w_o_dealMany, .ref a_o_deal, .ref a_o_st, .int w_o_acts, .ref a_o_was, .int w_o_keeps, .ref a_o_kept, .int w_o_seens, .ref a_o_seen, .ref a_o_text, .int w_o_texted, .int w_o_at, .ref a_o_told, .int w_o_isBegun, .int w_o_readCards, .ref a_o_readColour, .int w_o_readDeals, .ref a_o_readDeal, .ref a_o_now, .ref a_o_then, .ref a_o_ring, .ref a_o_goes, .ref a_o_far, .ref a_o_met, .int w_o_metMany]]) := by
  intro u h
  unfold f_X10_isCard at h
  refine j_met [(0, .ref a_o), (1, .int x1)] (by decide +kernel) (Nat.le_of_ble_eq_true rfl) rfl ?_
  refine j_iload_n (pc := 0) 1 dX10_isCard_0 rfl rfl ?_
  refine j_iconst (pc := 1) dX10_isCard_1 ic_0 ?_
  refine j_aload_n (pc := 2) 0 dX10_isCard_2 rfl rfl ?_
  refine j_get (pc := 3) (v := .int v_o_cards) 0 0 rfl rfl (Nat.le_of_ble_eq_true rfl) iwX10 m3_104 rfl dX10_isCard_3 ?_
  refine j_iconst (pc := 6) dX10_isCard_6 ic_1 ?_
  refine j_isub (pc := 7) dX10_isCard_7 ?_
  refine j_S0 (pc := 8) (Kc := K_X10_in) (As := [.int x1, .int (0 : Int32), .int (v_o_cards - (1 : Int32))]) (rest := []) h c_X10_in q_X10_in m3_190 rfl rfl (Nat.le_of_ble_eq_true rfl) ⟨(Nat.le_of_ble_eq_true rfl), (Nat.le_of_ble_eq_true rfl)⟩ ⟨rfl, rfl⟩ ⟨(Nat.le_of_ble_eq_true rfl), (Nat.le_of_ble_eq_true rfl)⟩ dX10_isCard_8 (fun b1 h => ?_)
  obtain ⟨hz, h⟩ := jgz_s h
  cases h
  exact j_zret (pc := 11) rfl hz dX10_isCard_11 (Nat.le_of_ble_eq_true rfl) (Nat.le_of_ble_eq_true rfl) (jd_i rfl rfl)
set_option maxRecDepth 20000 in
theorem c_X10_isKind {l : Launch} {E : jE} {F : Nat} {x0 : Int32} : ∀ u : Int32, f_X10_isKind F x0 = some u → jM l E K_X10_isKind [.int x0] [] (jd (some (.int u)) []) := by
  intro u h
  unfold f_X10_isKind at h
  refine j_met [(0, .int x0)] (by decide +kernel) (Nat.le_of_ble_eq_true rfl) rfl ?_
  refine j_iload_n (pc := 0) 0 dX10_isKind_0 rfl rfl ?_
  refine j_iconst (pc := 1) dX10_isKind_1 ic_0 ?_
  refine j_iconst (pc := 2) dX10_isKind_2 ic_4 ?_
  refine j_S0 (pc := 3) (Kc := K_X10_in) (As := [.int x0, .int (0 : Int32), .int (4 : Int32)]) (rest := []) h c_X10_in q_X10_in m3_190 rfl rfl (Nat.le_of_ble_eq_true rfl) ⟨(Nat.le_of_ble_eq_true rfl), (Nat.le_of_ble_eq_true rfl)⟩ ⟨rfl, rfl⟩ ⟨(Nat.le_of_ble_eq_true rfl), (Nat.le_of_ble_eq_true rfl)⟩ dX10_isKind_3 (fun b1 h => ?_)
  obtain ⟨hz, h⟩ := jgz_s h
  cases h
  exact j_zret (pc := 6) rfl hz dX10_isKind_6 (Nat.le_of_ble_eq_true rfl) (Nat.le_of_ble_eq_true rfl) (jd_i rfl rfl)
set_option maxRecDepth 20000 in
theorem c_X10_write {l : Launch} {E : jE} {F : Nat} {x1 : Int32} {a_o a_o_colour a_o_deal a_o_st a_o_was a_o_kept a_o_seen a_o_text a_o_told a_o_readColour a_o_readDeal a_o_now a_o_then a_o_ring a_o_goes a_o_far a_o_met : Nat} {w_o_cards : Int32} {w_o_dealMany : Int32} {w_o_acts : Int32} {w_o_keeps : Int32} {w_o_seens : Int32} {w_o_at : Int32} {w_o_isBegun : Int32} {w_o_readCards : Int32} {w_o_readDeals : Int32} {w_o_metMany : Int32} {v_o_texted : Int32} {f_o_text : Nat → Int32} : ∀ u : Int32 × Int32 × (Nat → Int32), f_X10_write F x1 v_o_texted f_o_text = some u → jM l E K_X10_write [.ref a_o, .int x1] [jO a_o 7 [.int w_o_cards, .ref a_o_colour, .int w_o_dealMany, .ref a_o_deal, .ref a_o_st, .int w_o_acts, .ref a_o_was, .int w_o_keeps, .ref a_o_kept, .int w_o_seens, .ref a_o_seen, .ref a_o_text, .int v_o_texted, .int w_o_at, .ref a_o_told, .int w_o_isBegun, .int w_o_readCards, .ref a_o_readColour, .int w_o_readDeals, .ref a_o_readDeal, .ref a_o_now, .ref a_o_then, .ref a_o_ring, .ref a_o_goes, .ref a_o_far, .ref a_o_met, .int w_o_metMany], jI E a_o_text 200 f_o_text] (jd (some (.int u.1)) [jO a_o 7 [.int w_o_cards, .ref a_o_colour, .int w_o_dealMany, .ref a_o_deal, .ref a_o_st, .int w_o_acts, .ref a_o_was, .int w_o_keeps, .ref a_o_kept, .int w_o_seens, .ref a_o_seen, .ref a_o_text, .int u.2.1, .int w_o_at, .ref a_o_told, .int w_o_isBegun, .int w_o_readCards, .ref a_o_readColour, .int w_o_readDeals, .ref a_o_readDeal, .ref a_o_now, .ref a_o_then, .ref a_o_ring, .ref a_o_goes, .ref a_o_far, .ref a_o_met, .int w_o_metMany], jI E a_o_text 200 u.2.2]) := by
  intro u h
  unfold f_X10_write at h
  refine j_met [(0, .ref a_o), (1, .int x1)] (by decide +kernel) (Nat.le_of_ble_eq_true rfl) rfl ?_
  refine j_iload_n (pc := 0) 1 dX10_write_0 rfl rfl ?_
  refine j_bipush (pc := 1) dX10_write_1 bc_32 ?_
  refine j_bipush (pc := 3) dX10_write_3 bc_126 ?_
  refine j_S0 (pc := 5) (Kc := K_X10_in) (As := [.int x1, .int (32 : Int32), .int (126 : Int32)]) (rest := []) h c_X10_in q_X10_in m3_190 rfl rfl (Nat.le_of_ble_eq_true rfl) ⟨(Nat.le_of_ble_eq_true rfl), (Nat.le_of_ble_eq_true rfl)⟩ ⟨rfl, rfl⟩ ⟨(Nat.le_of_ble_eq_true rfl), (Nat.le_of_ble_eq_true rfl)⟩ dX10_write_5 (fun b1 h => ?_)
  refine j_if_ne (pc := 8) (tgt := 13) dX10_write_8 (by decide) h (fun h => ?_) (fun h => ?_)
  · refine j_aload_n (pc := 13) 0 dX10_write_13 rfl rfl ?_
    refine j_get (pc := 14) (v := .int v_o_texted) 0 12 rfl rfl (Nat.le_of_ble_eq_true rfl) iwX10 m3_116 rfl dX10_write_14 ?_
    refine j_sipush (pc := 17) dX10_write_17 sc_200 ?_
    refine j_icmp_ne (pc := 20) (tgt := 26) dX10_write_20 (by decide) h (fun h => ?_) (fun h => ?_)
    · refine j_aload_n (pc := 26) 0 dX10_write_26 rfl rfl ?_
      refine j_get (pc := 27) (v := .ref a_o_text) 0 11 rfl rfl (Nat.le_of_ble_eq_true rfl) iwX10 m3_115 rfl dX10_write_27 ?_
      refine j_aload_n (pc := 30) 0 dX10_write_30 rfl rfl ?_
      refine j_get (pc := 31) (v := .int v_o_texted) 0 12 rfl rfl (Nat.le_of_ble_eq_true rfl) iwX10 m3_116 rfl dX10_write_31 ?_
      refine j_iload_n (pc := 34) 1 dX10_write_34 rfl rfl ?_
      refine j_iast (pc := 35) (w' := [jO a_o 7 [.int w_o_cards, .ref a_o_colour, .int w_o_dealMany, .ref a_o_deal, .ref a_o_st, .int w_o_acts, .ref a_o_was, .int w_o_keeps, .ref a_o_kept, .int w_o_seens, .ref a_o_seen, .ref a_o_text, .int v_o_texted, .int w_o_at, .ref a_o_told, .int w_o_isBegun, .int w_o_readCards, .ref a_o_readColour, .int w_o_readDeals, .ref a_o_readDeal, .ref a_o_now, .ref a_o_then, .ref a_o_ring, .ref a_o_goes, .ref a_o_far, .ref a_o_met, .int w_o_metMany], jI E a_o_text 200 (upd f_o_text v_o_texted.toNatClampNeg x1)]) 1 rfl dX10_write_35 h rfl (fun h => ?_)
      refine j_aload_n (pc := 36) 0 dX10_write_36 rfl rfl ?_
      refine j_dup (pc := 37) dX10_write_37 rfl ?_
      refine j_get (pc := 38) (v := .int v_o_texted) 0 12 rfl rfl (Nat.le_of_ble_eq_true rfl) iwX10 m3_116 rfl dX10_write_38 ?_
      refine j_iconst (pc := 41) dX10_write_41 ic_1 ?_
      refine j_iadd (pc := 42) dX10_write_42 ?_
      refine j_put (pc := 43) (w' := [jO a_o 7 [.int w_o_cards, .ref a_o_colour, .int w_o_dealMany, .ref a_o_deal, .ref a_o_st, .int w_o_acts, .ref a_o_was, .int w_o_keeps, .ref a_o_kept, .int w_o_seens, .ref a_o_seen, .ref a_o_text, .int (v_o_texted + (1 : Int32)), .int w_o_at, .ref a_o_told, .int w_o_isBegun, .int w_o_readCards, .ref a_o_readColour, .int w_o_readDeals, .ref a_o_readDeal, .ref a_o_now, .ref a_o_then, .ref a_o_ring, .ref a_o_goes, .ref a_o_far, .ref a_o_met, .int w_o_metMany], jI E a_o_text 200 (upd f_o_text v_o_texted.toNatClampNeg x1)]) tyX10 0 12 tyX10_ok nmX10 rfl rfl (Nat.le_of_ble_eq_true rfl) iwX10 m3_116 rfl rfl rfl rfl (Nat.le_of_ble_eq_true rfl) dX10_write_43 rfl ?_
      refine j_aload_n (pc := 46) 0 dX10_write_46 rfl rfl ?_
      refine j_get (pc := 47) (v := .int (v_o_texted + (1 : Int32))) 0 12 rfl rfl (Nat.le_of_ble_eq_true rfl) iwX10 m3_116 rfl dX10_write_47 ?_
      cases h
      exact j_iret (pc := 50) rfl dX10_write_50 (Nat.le_of_ble_eq_true rfl) (Nat.le_of_ble_eq_true rfl) (jd_i rfl rfl)
    · refine j_bipush (pc := 23) dX10_write_23 bc_m3 ?_
      cases h
      exact j_iret (pc := 25) rfl dX10_write_25 (Nat.le_of_ble_eq_true rfl) (Nat.le_of_ble_eq_true rfl) (jd_i rfl rfl)
  · refine j_iconst (pc := 11) dX10_write_11 ic_m1 ?_
    cases h
    exact j_iret (pc := 12) rfl dX10_write_12 (Nat.le_of_ble_eq_true rfl) (Nat.le_of_ble_eq_true rfl) (jd_i rfl rfl)
set_option maxRecDepth 20000 in
theorem c_X10_wipe {l : Launch} {E : jE} {F : Nat} {a_o a_o_colour a_o_deal a_o_st a_o_was a_o_kept a_o_seen a_o_text a_o_told a_o_readColour a_o_readDeal a_o_now a_o_then a_o_ring a_o_goes a_o_far a_o_met : Nat} {w_o_cards : Int32} {w_o_dealMany : Int32} {w_o_acts : Int32} {w_o_keeps : Int32} {w_o_seens : Int32} {w_o_at : Int32} {w_o_isBegun : Int32} {w_o_readCards : Int32} {w_o_readDeals : Int32} {w_o_metMany : Int32} {v_o_texted : Int32} : ∀ u : Int32 × Int32, f_X10_wipe F v_o_texted = some u → jM l E K_X10_wipe [.ref a_o] [jO a_o 7 [.int w_o_cards, .ref a_o_colour, .int w_o_dealMany, .ref a_o_deal, .ref a_o_st, .int w_o_acts, .ref a_o_was, .int w_o_keeps, .ref a_o_kept, .int w_o_seens, .ref a_o_seen, .ref a_o_text, .int v_o_texted, .int w_o_at, .ref a_o_told, .int w_o_isBegun, .int w_o_readCards, .ref a_o_readColour, .int w_o_readDeals, .ref a_o_readDeal, .ref a_o_now, .ref a_o_then, .ref a_o_ring, .ref a_o_goes, .ref a_o_far, .ref a_o_met, .int w_o_metMany]] (jd (some (.int u.1)) [jO a_o 7 [.int w_o_cards, .ref a_o_colour, .int w_o_dealMany, .ref a_o_deal, .ref a_o_st, .int w_o_acts, .ref a_o_was, .int w_o_keeps, .ref a_o_kept, .int w_o_seens, .ref a_o_seen, .ref a_o_text, .int u.2, .int w_o_at, .ref a_o_told, .int w_o_isBegun, .int w_o_readCards, .ref a_o_readColour, .int w_o_readDeals, .ref a_o_readDeal, .ref a_o_now, .ref a_o_then, .ref a_o_ring, .ref a_o_goes, .ref a_o_far, .ref a_o_met, .int w_o_metMany]]) := by
  intro u h
  unfold f_X10_wipe at h
  refine j_met [(0, .ref a_o)] (by decide +kernel) (Nat.le_of_ble_eq_true rfl) rfl ?_
  refine j_aload_n (pc := 0) 0 dX10_wipe_0 rfl rfl ?_
  refine j_get (pc := 1) (v := .int v_o_texted) 0 12 rfl rfl (Nat.le_of_ble_eq_true rfl) iwX10 m3_116 rfl dX10_wipe_1 ?_
  refine j_istore_n (pc := 4) (lv' := [(1, .int v_o_texted), (0, .ref a_o)]) dX10_wipe_4 rfl (Nat.le_of_ble_eq_true rfl) rfl ?_
  refine j_aload_n (pc := 5) 1 dX10_wipe_5 rfl rfl ?_
  refine j_iconst (pc := 6) dX10_wipe_6 ic_0 ?_
  refine j_put (pc := 7) (w' := [jO a_o 7 [.int w_o_cards, .ref a_o_colour, .int w_o_dealMany, .ref a_o_deal, .ref a_o_st, .int w_o_acts, .ref a_o_was, .int w_o_keeps, .ref a_o_kept, .int w_o_seens, .ref a_o_seen, .ref a_o_text, .int (0 : Int32), .int w_o_at, .ref a_o_told, .int w_o_isBegun, .int w_o_readCards, .ref a_o_readColour, .int w_o_readDeals, .ref a_o_readDeal, .ref a_o_now, .ref a_o_then, .ref a_o_ring, .ref a_o_goes, .ref a_o_far, .ref a_o_met, .int w_o_metMany]]) tyX10 0 12 tyX10_ok nmX10 rfl rfl (Nat.le_of_ble_eq_true rfl) iwX10 m3_116 rfl rfl rfl rfl (Nat.le_of_ble_eq_true rfl) dX10_wipe_7 rfl ?_
  refine j_iload_n (pc := 10) 0 dX10_wipe_10 rfl rfl ?_
  cases h
  exact j_iret (pc := 11) rfl dX10_wipe_11 (Nat.le_of_ble_eq_true rfl) (Nat.le_of_ble_eq_true rfl) (jd_i rfl rfl)
set_option maxRecDepth 20000 in
theorem c_X10_letterAt {l : Launch} {E : jE} {F : Nat} {x1 : Int32} {v_o_texted : Int32} {f_o_text : Nat → Int32} {a_o a_o_colour a_o_deal a_o_st a_o_was a_o_kept a_o_seen a_o_text a_o_told a_o_readColour a_o_readDeal a_o_now a_o_then a_o_ring a_o_goes a_o_far a_o_met : Nat} {w_o_cards : Int32} {w_o_dealMany : Int32} {w_o_acts : Int32} {w_o_keeps : Int32} {w_o_seens : Int32} {w_o_at : Int32} {w_o_isBegun : Int32} {w_o_readCards : Int32} {w_o_readDeals : Int32} {w_o_metMany : Int32} : ∀ u : Int32, f_X10_letterAt F x1 v_o_texted f_o_text = some u → jM l E K_X10_letterAt [.ref a_o, .int x1] [jO a_o 7 [.int w_o_cards, .ref a_o_colour, .int w_o_dealMany, .ref a_o_deal, .ref a_o_st, .int w_o_acts, .ref a_o_was, .int w_o_keeps, .ref a_o_kept, .int w_o_seens, .ref a_o_seen, .ref a_o_text, .int v_o_texted, .int w_o_at, .ref a_o_told, .int w_o_isBegun, .int w_o_readCards, .ref a_o_readColour, .int w_o_readDeals, .ref a_o_readDeal, .ref a_o_now, .ref a_o_then, .ref a_o_ring, .ref a_o_goes, .ref a_o_far, .ref a_o_met, .int w_o_metMany], jI E a_o_text 200 f_o_text] (jd (some (.int u)) [jO a_o 7 [.int w_o_cards, .ref a_o_colour, .int w_o_dealMany, .ref a_o_deal, .ref a_o_st, .int w_o_acts, .ref a_o_was, .int w_o_keeps, .ref a_o_kept, .int w_o_seens, .ref a_o_seen, .ref a_o_text, .int v_o_texted, .int w_o_at, .ref a_o_told, .int w_o_isBegun, .int w_o_readCards, .ref a_o_readColour, .int w_o_readDeals, .ref a_o_readDeal, .ref a_o_now, .ref a_o_then, .ref a_o_ring, .ref a_o_goes, .ref a_o_far, .ref a_o_met, .int w_o_metMany], jI E a_o_text 200 f_o_text]) := by
  intro u h
  unfold f_X10_letterAt at h
  refine j_met [(0, .ref a_o), (1, .int x1)] (by decide +kernel) (Nat.le_of_ble_eq_true rfl) rfl ?_
  refine j_iload_n (pc := 0) 1 dX10_letterAt_0 rfl rfl ?_
  refine j_aload_n (pc := 1) 0 dX10_letterAt_1 rfl rfl ?_
  refine j_get (pc := 2) (v := .int v_o_texted) 0 12 rfl rfl (Nat.le_of_ble_eq_true rfl) iwX10 m3_116 rfl dX10_letterAt_2 ?_
  refine j_icmp_ge (pc := 5) (tgt := 17) dX10_letterAt_5 (by decide) h (fun h => ?_) (fun h => ?_)
  · refine j_iconst (pc := 17) dX10_letterAt_17 ic_m1 ?_
    cases h
    exact j_iret (pc := 18) rfl dX10_letterAt_18 (Nat.le_of_ble_eq_true rfl) (Nat.le_of_ble_eq_true rfl) (jd_i rfl rfl)
  · refine j_aload_n (pc := 8) 0 dX10_letterAt_8 rfl rfl ?_
    refine j_get (pc := 9) (v := .ref a_o_text) 0 11 rfl rfl (Nat.le_of_ble_eq_true rfl) iwX10 m3_115 rfl dX10_letterAt_9 ?_
    refine j_iload_n (pc := 12) 1 dX10_letterAt_12 rfl rfl ?_
    refine j_iald (pc := 13) 1 rfl dX10_letterAt_13 h (fun h => ?_)
    refine j_goto (pc := 14) (tgt := 18) dX10_letterAt_14 (by decide) ?_
    cases h
    exact j_iret (pc := 18) rfl dX10_letterAt_18 (Nat.le_of_ble_eq_true rfl) (Nat.le_of_ble_eq_true rfl) (jd_i rfl rfl)
set_option maxRecDepth 20000 in
theorem c_X10_isFigure {l : Launch} {E : jE} {F : Nat} {x0 : Int32} : ∀ u : Int32, f_X10_isFigure F x0 = some u → jM l E K_X10_isFigure [.int x0] [] (jd (some (.int u)) []) := by
  intro u h
  unfold f_X10_isFigure at h
  refine j_met [(0, .int x0)] (by decide +kernel) (Nat.le_of_ble_eq_true rfl) rfl ?_
  refine j_iload_n (pc := 0) 0 dX10_isFigure_0 rfl rfl ?_
  refine j_bipush (pc := 1) dX10_isFigure_1 bc_48 ?_
  refine j_bipush (pc := 3) dX10_isFigure_3 bc_57 ?_
  refine j_S0 (pc := 5) (Kc := K_X10_in) (As := [.int x0, .int (48 : Int32), .int (57 : Int32)]) (rest := []) h c_X10_in q_X10_in m3_190 rfl rfl (Nat.le_of_ble_eq_true rfl) ⟨(Nat.le_of_ble_eq_true rfl), (Nat.le_of_ble_eq_true rfl)⟩ ⟨rfl, rfl⟩ ⟨(Nat.le_of_ble_eq_true rfl), (Nat.le_of_ble_eq_true rfl)⟩ dX10_isFigure_5 (fun b1 h => ?_)
  obtain ⟨hz, h⟩ := jgz_s h
  cases h
  exact j_zret (pc := 8) rfl hz dX10_isFigure_8 (Nat.le_of_ble_eq_true rfl) (Nat.le_of_ble_eq_true rfl) (jd_i rfl rfl)
set_option maxRecDepth 20000 in
theorem w_X10_readNumbers_101 {l : Launch} {E : jE} {F : Nat} {x1 : Int32} {v_o_texted : Int32} {f_o_text : Nat → Int32} {a_o a_o_colour a_o_deal a_o_st a_o_was a_o_kept a_o_seen a_o_text a_o_told a_o_readColour a_o_readDeal a_o_now a_o_then a_o_ring a_o_goes a_o_far a_o_met : Nat} {w_o_cards : Int32} {w_o_dealMany : Int32} {w_o_acts : Int32} {w_o_keeps : Int32} {w_o_seens : Int32} {w_o_isBegun : Int32} {w_o_readCards : Int32} {w_o_readDeals : Int32} {w_o_metMany : Int32} {k_2 : Int32 → Int32 → (Nat → Int32) → Option (Int32 × Int32 × (Nat → Int32))} (hk_2 : ∀ (x2 : Int32) (v_o_at : Int32) (f_o_told : Nat → Int32) (u : Int32 × Int32 × (Nat → Int32)), k_2 x2 v_o_at f_o_told = some u → jT l E K_X10_readNumbers 0 0 2 [(0, .ref a_o), (1, .int x1), (2, .int x2)] [] [jO a_o 7 [.int w_o_cards, .ref a_o_colour, .int w_o_dealMany, .ref a_o_deal, .ref a_o_st, .int w_o_acts, .ref a_o_was, .int w_o_keeps, .ref a_o_kept, .int w_o_seens, .ref a_o_seen, .ref a_o_text, .int v_o_texted, .int v_o_at, .ref a_o_told, .int w_o_isBegun, .int w_o_readCards, .ref a_o_readColour, .int w_o_readDeals, .ref a_o_readDeal, .ref a_o_now, .ref a_o_then, .ref a_o_ring, .ref a_o_goes, .ref a_o_far, .ref a_o_met, .int w_o_metMany], jI E a_o_text 200 f_o_text, jI E a_o_told 2 f_o_told] (jd (some (.int u.1)) [jO a_o 7 [.int w_o_cards, .ref a_o_colour, .int w_o_dealMany, .ref a_o_deal, .ref a_o_st, .int w_o_acts, .ref a_o_was, .int w_o_keeps, .ref a_o_kept, .int w_o_seens, .ref a_o_seen, .ref a_o_text, .int v_o_texted, .int u.2.1, .ref a_o_told, .int w_o_isBegun, .int w_o_readCards, .ref a_o_readColour, .int w_o_readDeals, .ref a_o_readDeal, .ref a_o_now, .ref a_o_then, .ref a_o_ring, .ref a_o_goes, .ref a_o_far, .ref a_o_met, .int w_o_metMany], jI E a_o_text 200 f_o_text, jI E a_o_told 2 u.2.2])) : ∀ (x2 : Int32) (v_o_at : Int32) (f_o_told : Nat → Int32) (u : Int32 × Int32 × (Nat → Int32)), g_X10_readNumbers_101 F x1 v_o_texted f_o_text k_2 x2 v_o_at f_o_told = some u → jT l E K_X10_readNumbers 0 0 101 [(0, .ref a_o), (1, .int x1), (2, .int x2)] [] [jO a_o 7 [.int w_o_cards, .ref a_o_colour, .int w_o_dealMany, .ref a_o_deal, .ref a_o_st, .int w_o_acts, .ref a_o_was, .int w_o_keeps, .ref a_o_kept, .int w_o_seens, .ref a_o_seen, .ref a_o_text, .int v_o_texted, .int v_o_at, .ref a_o_told, .int w_o_isBegun, .int w_o_readCards, .ref a_o_readColour, .int w_o_readDeals, .ref a_o_readDeal, .ref a_o_now, .ref a_o_then, .ref a_o_ring, .ref a_o_goes, .ref a_o_far, .ref a_o_met, .int w_o_metMany], jI E a_o_text 200 f_o_text, jI E a_o_told 2 f_o_told] (jd (some (.int u.1)) [jO a_o 7 [.int w_o_cards, .ref a_o_colour, .int w_o_dealMany, .ref a_o_deal, .ref a_o_st, .int w_o_acts, .ref a_o_was, .int w_o_keeps, .ref a_o_kept, .int w_o_seens, .ref a_o_seen, .ref a_o_text, .int v_o_texted, .int u.2.1, .ref a_o_told, .int w_o_isBegun, .int w_o_readCards, .ref a_o_readColour, .int w_o_readDeals, .ref a_o_readDeal, .ref a_o_now, .ref a_o_then, .ref a_o_ring, .ref a_o_goes, .ref a_o_far, .ref a_o_met, .int w_o_metMany], jI E a_o_text 200 f_o_text, jI E a_o_told 2 u.2.2]) := by
  intro x2 v_o_at f_o_told u h
  unfold g_X10_readNumbers_101 at h
  refine j_aload_n (pc := 101) 0 dX10_readNumbers_101 rfl rfl ?_
  refine j_aload_n (pc := 102) 0 dX10_readNumbers_102 rfl rfl ?_
  refine j_get (pc := 103) (v := .int v_o_at) 0 13 rfl rfl (Nat.le_of_ble_eq_true rfl) iwX10 m3_117 rfl dX10_readNumbers_103 ?_
  refine j_V (pc := 106) (q0 := 0) (Kc := K_X10_letterAt) (As := [.int v_o_at]) (rest := []) (wc := [jO a_o 7 [.int w_o_cards, .ref a_o_colour, .int w_o_dealMany, .ref a_o_deal, .ref a_o_st, .int w_o_acts, .ref a_o_was, .int w_o_keeps, .ref a_o_kept, .int w_o_seens, .ref a_o_seen, .ref a_o_text, .int v_o_texted, .int v_o_at, .ref a_o_told, .int w_o_isBegun, .int w_o_readCards, .ref a_o_readColour, .int w_o_readDeals, .ref a_o_readDeal, .ref a_o_now, .ref a_o_then, .ref a_o_ring, .ref a_o_goes, .ref a_o_far, .ref a_o_met, .int w_o_metMany], jI E a_o_text 200 f_o_text]) (w' := fun b1 => [jO a_o 7 [.int w_o_cards, .ref a_o_colour, .int w_o_dealMany, .ref a_o_deal, .ref a_o_st, .int w_o_acts, .ref a_o_was, .int w_o_keeps, .ref a_o_kept, .int w_o_seens, .ref a_o_seen, .ref a_o_text, .int v_o_texted, .int v_o_at, .ref a_o_told, .int w_o_isBegun, .int w_o_readCards, .ref a_o_readColour, .int w_o_readDeals, .ref a_o_readDeal, .ref a_o_now, .ref a_o_then, .ref a_o_ring, .ref a_o_goes, .ref a_o_far, .ref a_o_met, .int w_o_metMany], jI E a_o_text 200 f_o_text, jI E a_o_told 2 f_o_told]) (st1 := fun b1 => [.int b1]) [0, 1] rfl rfl rfl h c_X10_letterAt q_X10_letterAt m3_205 rfl rfl (Nat.le_of_ble_eq_true rfl) ⟨(Nat.le_of_ble_eq_true rfl), (Nat.le_of_ble_eq_true rfl)⟩ ⟨rfl, rfl⟩ ⟨(Nat.le_of_ble_eq_true rfl), (Nat.le_of_ble_eq_true rfl)⟩ dX10_readNumbers_106 rfl (by decide) (fun _ => rfl) (fun _ => rfl) (fun _ => rfl) (fun b1 h => ?_)
  refine j_iload_n (pc := 109) 2 dX10_readNumbers_109 rfl rfl ?_
  refine j_iload_n (pc := 110) 1 dX10_readNumbers_110 rfl rfl ?_
  refine j_iconst (pc := 111) dX10_readNumbers_111 ic_1 ?_
  refine j_isub (pc := 112) dX10_readNumbers_112 ?_
  refine j_icmp_ge (pc := 113) (tgt := 121) dX10_readNumbers_113 (by decide) h (fun h => ?_) (fun h => ?_)
  · refine j_bipush (pc := 121) dX10_readNumbers_121 bc_59 ?_
    refine j_icmp_eq (pc := 123) (tgt := 128) dX10_readNumbers_123 (by decide) h (fun h => ?_) (fun h => ?_)
    · refine j_aload_n (pc := 128) 0 dX10_readNumbers_128 rfl rfl ?_
      refine j_dup (pc := 129) dX10_readNumbers_129 rfl ?_
      refine j_get (pc := 130) (v := .int v_o_at) 0 13 rfl rfl (Nat.le_of_ble_eq_true rfl) iwX10 m3_117 rfl dX10_readNumbers_130 ?_
      refine j_iconst (pc := 133) dX10_readNumbers_133 ic_1 ?_
      refine j_iadd (pc := 134) dX10_readNumbers_134 ?_
      refine j_put (pc := 135) (w' := [jO a_o 7 [.int w_o_cards, .ref a_o_colour, .int w_o_dealMany, .ref a_o_deal, .ref a_o_st, .int w_o_acts, .ref a_o_was, .int w_o_keeps, .ref a_o_kept, .int w_o_seens, .ref a_o_seen, .ref a_o_text, .int v_o_texted, .int (v_o_at + (1 : Int32)), .ref a_o_told, .int w_o_isBegun, .int w_o_readCards, .ref a_o_readColour, .int w_o_readDeals, .ref a_o_readDeal, .ref a_o_now, .ref a_o_then, .ref a_o_ring, .ref a_o_goes, .ref a_o_far, .ref a_o_met, .int w_o_metMany], jI E a_o_text 200 f_o_text, jI E a_o_told 2 f_o_told]) tyX10 0 13 tyX10_ok nmX10 rfl rfl (Nat.le_of_ble_eq_true rfl) iwX10 m3_117 rfl rfl rfl rfl (Nat.le_of_ble_eq_true rfl) dX10_readNumbers_135 rfl ?_
      refine j_iinc (pc := 138) (j := 2) (lv' := [(2, .int (x2 + (1 : Int32))), (0, .ref a_o), (1, .int x1)]) dX10_readNumbers_138 rfl (congrArg (fun z => x2 + z) ic_1) (Nat.le_of_ble_eq_true rfl) rfl ?_
      refine j_goto (pc := 141) (tgt := 2) dX10_readNumbers_141 (by decide) ?_
      exact j_sub (lv' := [(0, .ref a_o), (1, .int x1), (2, .int (x2 + (1 : Int32)))]) [1, 2, 0] rfl (hk_2 _ _ _ u h)
    · refine j_iconst (pc := 126) dX10_readNumbers_126 ic_0 ?_
      cases h
      exact j_zret (pc := 127) rfl (Or.inl rfl) dX10_readNumbers_127 (Nat.le_of_ble_eq_true rfl) (Nat.le_of_ble_eq_true rfl) (jd_i rfl rfl)
  · refine j_bipush (pc := 116) dX10_readNumbers_116 bc_44 ?_
    refine j_goto (pc := 118) (tgt := 123) dX10_readNumbers_118 (by decide) ?_
    refine j_icmp_eq (pc := 123) (tgt := 128) dX10_readNumbers_123 (by decide) h (fun h => ?_) (fun h => ?_)
    · refine j_aload_n (pc := 128) 0 dX10_readNumbers_128 rfl rfl ?_
      refine j_dup (pc := 129) dX10_readNumbers_129 rfl ?_
      refine j_get (pc := 130) (v := .int v_o_at) 0 13 rfl rfl (Nat.le_of_ble_eq_true rfl) iwX10 m3_117 rfl dX10_readNumbers_130 ?_
      refine j_iconst (pc := 133) dX10_readNumbers_133 ic_1 ?_
      refine j_iadd (pc := 134) dX10_readNumbers_134 ?_
      refine j_put (pc := 135) (w' := [jO a_o 7 [.int w_o_cards, .ref a_o_colour, .int w_o_dealMany, .ref a_o_deal, .ref a_o_st, .int w_o_acts, .ref a_o_was, .int w_o_keeps, .ref a_o_kept, .int w_o_seens, .ref a_o_seen, .ref a_o_text, .int v_o_texted, .int (v_o_at + (1 : Int32)), .ref a_o_told, .int w_o_isBegun, .int w_o_readCards, .ref a_o_readColour, .int w_o_readDeals, .ref a_o_readDeal, .ref a_o_now, .ref a_o_then, .ref a_o_ring, .ref a_o_goes, .ref a_o_far, .ref a_o_met, .int w_o_metMany], jI E a_o_text 200 f_o_text, jI E a_o_told 2 f_o_told]) tyX10 0 13 tyX10_ok nmX10 rfl rfl (Nat.le_of_ble_eq_true rfl) iwX10 m3_117 rfl rfl rfl rfl (Nat.le_of_ble_eq_true rfl) dX10_readNumbers_135 rfl ?_
      refine j_iinc (pc := 138) (j := 2) (lv' := [(2, .int (x2 + (1 : Int32))), (0, .ref a_o), (1, .int x1)]) dX10_readNumbers_138 rfl (congrArg (fun z => x2 + z) ic_1) (Nat.le_of_ble_eq_true rfl) rfl ?_
      refine j_goto (pc := 141) (tgt := 2) dX10_readNumbers_141 (by decide) ?_
      exact j_sub (lv' := [(0, .ref a_o), (1, .int x1), (2, .int (x2 + (1 : Int32)))]) [1, 2, 0] rfl (hk_2 _ _ _ u h)
    · refine j_iconst (pc := 126) dX10_readNumbers_126 ic_0 ?_
      cases h
      exact j_zret (pc := 127) rfl (Or.inl rfl) dX10_readNumbers_127 (Nat.le_of_ble_eq_true rfl) (Nat.le_of_ble_eq_true rfl) (jd_i rfl rfl)
set_option maxRecDepth 20000 in
theorem w_X10_readNumbers_2 {l : Launch} {E : jE} {F : Nat} {x1 : Int32} {v_o_texted : Int32} {f_o_text : Nat → Int32} {a_o a_o_colour a_o_deal a_o_st a_o_was a_o_kept a_o_seen a_o_text a_o_told a_o_readColour a_o_readDeal a_o_now a_o_then a_o_ring a_o_goes a_o_far a_o_met : Nat} {w_o_cards : Int32} {w_o_dealMany : Int32} {w_o_acts : Int32} {w_o_keeps : Int32} {w_o_seens : Int32} {w_o_isBegun : Int32} {w_o_readCards : Int32} {w_o_readDeals : Int32} {w_o_metMany : Int32} : ∀ (n : Nat) (x2 : Int32) (v_o_at : Int32) (f_o_told : Nat → Int32) (u : Int32 × Int32 × (Nat → Int32)), g_X10_readNumbers_2 F x1 v_o_texted f_o_text n x2 v_o_at f_o_told = some u → jT l E K_X10_readNumbers 0 0 2 [(0, .ref a_o), (1, .int x1), (2, .int x2)] [] [jO a_o 7 [.int w_o_cards, .ref a_o_colour, .int w_o_dealMany, .ref a_o_deal, .ref a_o_st, .int w_o_acts, .ref a_o_was, .int w_o_keeps, .ref a_o_kept, .int w_o_seens, .ref a_o_seen, .ref a_o_text, .int v_o_texted, .int v_o_at, .ref a_o_told, .int w_o_isBegun, .int w_o_readCards, .ref a_o_readColour, .int w_o_readDeals, .ref a_o_readDeal, .ref a_o_now, .ref a_o_then, .ref a_o_ring, .ref a_o_goes, .ref a_o_far, .ref a_o_met, .int w_o_metMany], jI E a_o_text 200 f_o_text, jI E a_o_told 2 f_o_told] (jd (some (.int u.1)) [jO a_o 7 [.int w_o_cards, .ref a_o_colour, .int w_o_dealMany, .ref a_o_deal, .ref a_o_st, .int w_o_acts, .ref a_o_was, .int w_o_keeps, .ref a_o_kept, .int w_o_seens, .ref a_o_seen, .ref a_o_text, .int v_o_texted, .int u.2.1, .ref a_o_told, .int w_o_isBegun, .int w_o_readCards, .ref a_o_readColour, .int w_o_readDeals, .ref a_o_readDeal, .ref a_o_now, .ref a_o_then, .ref a_o_ring, .ref a_o_goes, .ref a_o_far, .ref a_o_met, .int w_o_metMany], jI E a_o_text 200 f_o_text, jI E a_o_told 2 u.2.2]) := by
  intro n
  induction n with
  | zero =>
    intro x2 v_o_at f_o_told u h
    rw [g_X10_readNumbers_2] at h
    cases h
  | succ n ih =>
    intro x2 v_o_at f_o_told u h
    rw [g_X10_readNumbers_2] at h
    refine j_iload_n (pc := 2) 2 dX10_readNumbers_2 rfl rfl ?_
    refine j_iload_n (pc := 3) 1 dX10_readNumbers_3 rfl rfl ?_
    refine j_icmp_ge (pc := 4) (tgt := 144) dX10_readNumbers_4 (by decide) h (fun h => ?_) (fun h => ?_)
    · refine j_iconst (pc := 144) dX10_readNumbers_144 ic_1 ?_
      cases h
      exact j_zret (pc := 145) rfl (Or.inr rfl) dX10_readNumbers_145 (Nat.le_of_ble_eq_true rfl) (Nat.le_of_ble_eq_true rfl) (jd_i rfl rfl)
    · refine j_aload_n (pc := 7) 0 dX10_readNumbers_7 rfl rfl ?_
      refine j_aload_n (pc := 8) 0 dX10_readNumbers_8 rfl rfl ?_
      refine j_get (pc := 9) (v := .int v_o_at) 0 13 rfl rfl (Nat.le_of_ble_eq_true rfl) iwX10 m3_117 rfl dX10_readNumbers_9 ?_
      refine j_V (pc := 12) (q0 := 0) (Kc := K_X10_letterAt) (As := [.int v_o_at]) (rest := []) (wc := [jO a_o 7 [.int w_o_cards, .ref a_o_colour, .int w_o_dealMany, .ref a_o_deal, .ref a_o_st, .int w_o_acts, .ref a_o_was, .int w_o_keeps, .ref a_o_kept, .int w_o_seens, .ref a_o_seen, .ref a_o_text, .int v_o_texted, .int v_o_at, .ref a_o_told, .int w_o_isBegun, .int w_o_readCards, .ref a_o_readColour, .int w_o_readDeals, .ref a_o_readDeal, .ref a_o_now, .ref a_o_then, .ref a_o_ring, .ref a_o_goes, .ref a_o_far, .ref a_o_met, .int w_o_metMany], jI E a_o_text 200 f_o_text]) (w' := fun b1 => [jO a_o 7 [.int w_o_cards, .ref a_o_colour, .int w_o_dealMany, .ref a_o_deal, .ref a_o_st, .int w_o_acts, .ref a_o_was, .int w_o_keeps, .ref a_o_kept, .int w_o_seens, .ref a_o_seen, .ref a_o_text, .int v_o_texted, .int v_o_at, .ref a_o_told, .int w_o_isBegun, .int w_o_readCards, .ref a_o_readColour, .int w_o_readDeals, .ref a_o_readDeal, .ref a_o_now, .ref a_o_then, .ref a_o_ring, .ref a_o_goes, .ref a_o_far, .ref a_o_met, .int w_o_metMany], jI E a_o_text 200 f_o_text, jI E a_o_told 2 f_o_told]) (st1 := fun b1 => [.int b1]) [0, 1] rfl rfl rfl h c_X10_letterAt q_X10_letterAt m3_205 rfl rfl (Nat.le_of_ble_eq_true rfl) ⟨(Nat.le_of_ble_eq_true rfl), (Nat.le_of_ble_eq_true rfl)⟩ ⟨rfl, rfl⟩ ⟨(Nat.le_of_ble_eq_true rfl), (Nat.le_of_ble_eq_true rfl)⟩ dX10_readNumbers_12 rfl (by decide) (fun _ => rfl) (fun _ => rfl) (fun _ => rfl) (fun b1 h => ?_)
      refine j_S0 (pc := 15) (Kc := K_X10_isFigure) (As := [.int b1]) (rest := []) h c_X10_isFigure q_X10_isFigure m3_217 rfl rfl (Nat.le_of_ble_eq_true rfl) ⟨(Nat.le_of_ble_eq_true rfl), (Nat.le_of_ble_eq_true rfl)⟩ ⟨rfl, rfl⟩ ⟨(Nat.le_of_ble_eq_true rfl), (Nat.le_of_ble_eq_true rfl)⟩ dX10_readNumbers_15 (fun b2 h => ?_)
      refine j_if_ne (pc := 18) (tgt := 23) dX10_readNumbers_18 (by decide) h (fun h => ?_) (fun h => ?_)
      · refine j_aload_n (pc := 23) 0 dX10_readNumbers_23 rfl rfl ?_
        refine j_get (pc := 24) (v := .ref a_o_told) 0 14 rfl rfl (Nat.le_of_ble_eq_true rfl) iwX10 m3_118 rfl dX10_readNumbers_24 ?_
        refine j_iload_n (pc := 27) 2 dX10_readNumbers_27 rfl rfl ?_
        refine j_aload_n (pc := 28) 0 dX10_readNumbers_28 rfl rfl ?_
        refine j_aload_n (pc := 29) 0 dX10_readNumbers_29 rfl rfl ?_
        refine j_get (pc := 30) (v := .int v_o_at) 0 13 rfl rfl (Nat.le_of_ble_eq_true rfl) iwX10 m3_117 rfl dX10_readNumbers_30 ?_
        refine j_V (pc := 33) (q0 := 0) (Kc := K_X10_letterAt) (As := [.int v_o_at]) (rest := [.int x2, .ref a_o_told]) (wc := [jO a_o 7 [.int w_o_cards, .ref a_o_colour, .int w_o_dealMany, .ref a_o_deal, .ref a_o_st, .int w_o_acts, .ref a_o_was, .int w_o_keeps, .ref a_o_kept, .int w_o_seens, .ref a_o_seen, .ref a_o_text, .int v_o_texted, .int v_o_at, .ref a_o_told, .int w_o_isBegun, .int w_o_readCards, .ref a_o_readColour, .int w_o_readDeals, .ref a_o_readDeal, .ref a_o_now, .ref a_o_then, .ref a_o_ring, .ref a_o_goes, .ref a_o_far, .ref a_o_met, .int w_o_metMany], jI E a_o_text 200 f_o_text]) (w' := fun b3 => [jO a_o 7 [.int w_o_cards, .ref a_o_colour, .int w_o_dealMany, .ref a_o_deal, .ref a_o_st, .int w_o_acts, .ref a_o_was, .int w_o_keeps, .ref a_o_kept, .int w_o_seens, .ref a_o_seen, .ref a_o_text, .int v_o_texted, .int v_o_at, .ref a_o_told, .int w_o_isBegun, .int w_o_readCards, .ref a_o_readColour, .int w_o_readDeals, .ref a_o_readDeal, .ref a_o_now, .ref a_o_then, .ref a_o_ring, .ref a_o_goes, .ref a_o_far, .ref a_o_met, .int w_o_metMany], jI E a_o_text 200 f_o_text, jI E a_o_told 2 f_o_told]) (st1 := fun b3 => [.int b3, .int x2, .ref a_o_told]) [0, 1] rfl rfl rfl h c_X10_letterAt q_X10_letterAt m3_205 rfl rfl (Nat.le_of_ble_eq_true rfl) ⟨(Nat.le_of_ble_eq_true rfl), (Nat.le_of_ble_eq_true rfl)⟩ ⟨rfl, rfl⟩ ⟨(Nat.le_of_ble_eq_true rfl), (Nat.le_of_ble_eq_true rfl)⟩ dX10_readNumbers_33 rfl (by decide) (fun _ => rfl) (fun _ => rfl) (fun _ => rfl) (fun b3 h => ?_)
        refine j_bipush (pc := 36) dX10_readNumbers_36 bc_48 ?_
        refine j_isub (pc := 38) dX10_readNumbers_38 ?_
        refine j_iast (pc := 39) (w' := [jO a_o 7 [.int w_o_cards, .ref a_o_colour, .int w_o_dealMany, .ref a_o_deal, .ref a_o_st, .int w_o_acts, .ref a_o_was, .int w_o_keeps, .ref a_o_kept, .int w_o_seens, .ref a_o_seen, .ref a_o_text, .int v_o_texted, .int v_o_at, .ref a_o_told, .int w_o_isBegun, .int w_o_readCards, .ref a_o_readColour, .int w_o_readDeals, .ref a_o_readDeal, .ref a_o_now, .ref a_o_then, .ref a_o_ring, .ref a_o_goes, .ref a_o_far, .ref a_o_met, .int w_o_metMany], jI E a_o_text 200 f_o_text, jI E a_o_told 2 (upd f_o_told x2.toNatClampNeg (b3 - (48 : Int32)))]) 2 rfl dX10_readNumbers_39 h rfl (fun h => ?_)
        refine j_aload_n (pc := 40) 0 dX10_readNumbers_40 rfl rfl ?_
        refine j_dup (pc := 41) dX10_readNumbers_41 rfl ?_
        refine j_get (pc := 42) (v := .int v_o_at) 0 13 rfl rfl (Nat.le_of_ble_eq_true rfl) iwX10 m3_117 rfl dX10_readNumbers_42 ?_
        refine j_iconst (pc := 45) dX10_readNumbers_45 ic_1 ?_
        refine j_iadd (pc := 46) dX10_readNumbers_46 ?_
        refine j_put (pc := 47) (w' := [jO a_o 7 [.int w_o_cards, .ref a_o_colour, .int w_o_dealMany, .ref a_o_deal, .ref a_o_st, .int w_o_acts, .ref a_o_was, .int w_o_keeps, .ref a_o_kept, .int w_o_seens, .ref a_o_seen, .ref a_o_text, .int v_o_texted, .int (v_o_at + (1 : Int32)), .ref a_o_told, .int w_o_isBegun, .int w_o_readCards, .ref a_o_readColour, .int w_o_readDeals, .ref a_o_readDeal, .ref a_o_now, .ref a_o_then, .ref a_o_ring, .ref a_o_goes, .ref a_o_far, .ref a_o_met, .int w_o_metMany], jI E a_o_text 200 f_o_text, jI E a_o_told 2 (upd f_o_told x2.toNatClampNeg (b3 - (48 : Int32)))]) tyX10 0 13 tyX10_ok nmX10 rfl rfl (Nat.le_of_ble_eq_true rfl) iwX10 m3_117 rfl rfl rfl rfl (Nat.le_of_ble_eq_true rfl) dX10_readNumbers_47 rfl ?_
        refine j_aload_n (pc := 50) 0 dX10_readNumbers_50 rfl rfl ?_
        refine j_aload_n (pc := 51) 0 dX10_readNumbers_51 rfl rfl ?_
        refine j_get (pc := 52) (v := .int (v_o_at + (1 : Int32))) 0 13 rfl rfl (Nat.le_of_ble_eq_true rfl) iwX10 m3_117 rfl dX10_readNumbers_52 ?_
        refine j_V (pc := 55) (q0 := 0) (Kc := K_X10_letterAt) (As := [.int (v_o_at + (1 : Int32))]) (rest := []) (wc := [jO a_o 7 [.int w_o_cards, .ref a_o_colour, .int w_o_dealMany, .ref a_o_deal, .ref a_o_st, .int w_o_acts, .ref a_o_was, .int w_o_keeps, .ref a_o_kept, .int w_o_seens, .ref a_o_seen, .ref a_o_text, .int v_o_texted, .int (v_o_at + (1 : Int32)), .ref a_o_told, .int w_o_isBegun, .int w_o_readCards, .ref a_o_readColour, .int w_o_readDeals, .ref a_o_readDeal, .ref a_o_now, .ref a_o_then, .ref a_o_ring, .ref a_o_goes, .ref a_o_far, .ref a_o_met, .int w_o_metMany], jI E a_o_text 200 f_o_text]) (w' := fun b4 => [jO a_o 7 [.int w_o_cards, .ref a_o_colour, .int w_o_dealMany, .ref a_o_deal, .ref a_o_st, .int w_o_acts, .ref a_o_was, .int w_o_keeps, .ref a_o_kept, .int w_o_seens, .ref a_o_seen, .ref a_o_text, .int v_o_texted, .int (v_o_at + (1 : Int32)), .ref a_o_told, .int w_o_isBegun, .int w_o_readCards, .ref a_o_readColour, .int w_o_readDeals, .ref a_o_readDeal, .ref a_o_now, .ref a_o_then, .ref a_o_ring, .ref a_o_goes, .ref a_o_far, .ref a_o_met, .int w_o_metMany], jI E a_o_text 200 f_o_text, jI E a_o_told 2 (upd f_o_told x2.toNatClampNeg (b3 - (48 : Int32)))]) (st1 := fun b4 => [.int b4]) [0, 1] rfl rfl rfl h c_X10_letterAt q_X10_letterAt m3_205 rfl rfl (Nat.le_of_ble_eq_true rfl) ⟨(Nat.le_of_ble_eq_true rfl), (Nat.le_of_ble_eq_true rfl)⟩ ⟨rfl, rfl⟩ ⟨(Nat.le_of_ble_eq_true rfl), (Nat.le_of_ble_eq_true rfl)⟩ dX10_readNumbers_55 rfl (by decide) (fun _ => rfl) (fun _ => rfl) (fun _ => rfl) (fun b4 h => ?_)
        refine j_S0 (pc := 58) (Kc := K_X10_isFigure) (As := [.int b4]) (rest := []) h c_X10_isFigure q_X10_isFigure m3_217 rfl rfl (Nat.le_of_ble_eq_true rfl) ⟨(Nat.le_of_ble_eq_true rfl), (Nat.le_of_ble_eq_true rfl)⟩ ⟨rfl, rfl⟩ ⟨(Nat.le_of_ble_eq_true rfl), (Nat.le_of_ble_eq_true rfl)⟩ dX10_readNumbers_58 (fun b5 h => ?_)
        refine j_if_eq (pc := 61) (tgt := 101) dX10_readNumbers_61 (by decide) h (fun h => ?_) (fun h => ?_)
        · exact w_X10_readNumbers_101 ih _ _ _ u h
        · refine j_aload_n (pc := 64) 0 dX10_readNumbers_64 rfl rfl ?_
          refine j_get (pc := 65) (v := .ref a_o_told) 0 14 rfl rfl (Nat.le_of_ble_eq_true rfl) iwX10 m3_118 rfl dX10_readNumbers_65 ?_
          refine j_iload_n (pc := 68) 2 dX10_readNumbers_68 rfl rfl ?_
          refine j_bipush (pc := 69) dX10_readNumbers_69 bc_10 ?_
          refine j_aload_n (pc := 71) 0 dX10_readNumbers_71 rfl rfl ?_
          refine j_get (pc := 72) (v := .ref a_o_told) 0 14 rfl rfl (Nat.le_of_ble_eq_true rfl) iwX10 m3_118 rfl dX10_readNumbers_72 ?_
          refine j_iload_n (pc := 75) 2 dX10_readNumbers_75 rfl rfl ?_
          refine j_iald (pc := 76) 2 rfl dX10_readNumbers_76 h (fun h => ?_)
          refine j_imul (pc := 77) dX10_readNumbers_77 ?_
          refine j_aload_n (pc := 78) 0 dX10_readNumbers_78 rfl rfl ?_
          refine j_aload_n (pc := 79) 0 dX10_readNumbers_79 rfl rfl ?_
          refine j_get (pc := 80) (v := .int (v_o_at + (1 : Int32))) 0 13 rfl rfl (Nat.le_of_ble_eq_true rfl) iwX10 m3_117 rfl dX10_readNumbers_80 ?_
          refine j_V (pc := 83) (q0 := 0) (Kc := K_X10_letterAt) (As := [.int (v_o_at + (1 : Int32))]) (rest := [.int ((10 : Int32) * ((upd f_o_told x2.toNatClampNeg (b3 - (48 : Int32))) x2.toNatClampNeg)), .int x2, .ref a_o_told]) (wc := [jO a_o 7 [.int w_o_cards, .ref a_o_colour, .int w_o_dealMany, .ref a_o_deal, .ref a_o_st, .int w_o_acts, .ref a_o_was, .int w_o_keeps, .ref a_o_kept, .int w_o_seens, .ref a_o_seen, .ref a_o_text, .int v_o_texted, .int (v_o_at + (1 : Int32)), .ref a_o_told, .int w_o_isBegun, .int w_o_readCards, .ref a_o_readColour, .int w_o_readDeals, .ref a_o_readDeal, .ref a_o_now, .ref a_o_then, .ref a_o_ring, .ref a_o_goes, .ref a_o_far, .ref a_o_met, .int w_o_metMany], jI E a_o_text 200 f_o_text]) (w' := fun b6 => [jO a_o 7 [.int w_o_cards, .ref a_o_colour, .int w_o_dealMany, .ref a_o_deal, .ref a_o_st, .int w_o_acts, .ref a_o_was, .int w_o_keeps, .ref a_o_kept, .int w_o_seens, .ref a_o_seen, .ref a_o_text, .int v_o_texted, .int (v_o_at + (1 : Int32)), .ref a_o_told, .int w_o_isBegun, .int w_o_readCards, .ref a_o_readColour, .int w_o_readDeals, .ref a_o_readDeal, .ref a_o_now, .ref a_o_then, .ref a_o_ring, .ref a_o_goes, .ref a_o_far, .ref a_o_met, .int w_o_metMany], jI E a_o_text 200 f_o_text, jI E a_o_told 2 (upd f_o_told x2.toNatClampNeg (b3 - (48 : Int32)))]) (st1 := fun b6 => [.int b6, .int ((10 : Int32) * ((upd f_o_told x2.toNatClampNeg (b3 - (48 : Int32))) x2.toNatClampNeg)), .int x2, .ref a_o_told]) [0, 1] rfl rfl rfl h c_X10_letterAt q_X10_letterAt m3_205 rfl rfl (Nat.le_of_ble_eq_true rfl) ⟨(Nat.le_of_ble_eq_true rfl), (Nat.le_of_ble_eq_true rfl)⟩ ⟨rfl, rfl⟩ ⟨(Nat.le_of_ble_eq_true rfl), (Nat.le_of_ble_eq_true rfl)⟩ dX10_readNumbers_83 rfl (by decide) (fun _ => rfl) (fun _ => rfl) (fun _ => rfl) (fun b6 h => ?_)
          refine j_iadd (pc := 86) dX10_readNumbers_86 ?_
          refine j_bipush (pc := 87) dX10_readNumbers_87 bc_48 ?_
          refine j_isub (pc := 89) dX10_readNumbers_89 ?_
          refine j_iast (pc := 90) (w' := [jO a_o 7 [.int w_o_cards, .ref a_o_colour, .int w_o_dealMany, .ref a_o_deal, .ref a_o_st, .int w_o_acts, .ref a_o_was, .int w_o_keeps, .ref a_o_kept, .int w_o_seens, .ref a_o_seen, .ref a_o_text, .int v_o_texted, .int (v_o_at + (1 : Int32)), .ref a_o_told, .int w_o_isBegun, .int w_o_readCards, .ref a_o_readColour, .int w_o_readDeals, .ref a_o_readDeal, .ref a_o_now, .ref a_o_then, .ref a_o_ring, .ref a_o_goes, .ref a_o_far, .ref a_o_met, .int w_o_metMany], jI E a_o_text 200 f_o_text, jI E a_o_told 2 (upd (upd f_o_told x2.toNatClampNeg (b3 - (48 : Int32))) x2.toNatClampNeg ((((10 : Int32) * ((upd f_o_told x2.toNatClampNeg (b3 - (48 : Int32))) x2.toNatClampNeg)) + b6) - (48 : Int32)))]) 2 rfl dX10_readNumbers_90 h rfl (fun h => ?_)
          refine j_aload_n (pc := 91) 0 dX10_readNumbers_91 rfl rfl ?_
          refine j_dup (pc := 92) dX10_readNumbers_92 rfl ?_
          refine j_get (pc := 93) (v := .int (v_o_at + (1 : Int32))) 0 13 rfl rfl (Nat.le_of_ble_eq_true rfl) iwX10 m3_117 rfl dX10_readNumbers_93 ?_
          refine j_iconst (pc := 96) dX10_readNumbers_96 ic_1 ?_
          refine j_iadd (pc := 97) dX10_readNumbers_97 ?_
          refine j_put (pc := 98) (w' := [jO a_o 7 [.int w_o_cards, .ref a_o_colour, .int w_o_dealMany, .ref a_o_deal, .ref a_o_st, .int w_o_acts, .ref a_o_was, .int w_o_keeps, .ref a_o_kept, .int w_o_seens, .ref a_o_seen, .ref a_o_text, .int v_o_texted, .int ((v_o_at + (1 : Int32)) + (1 : Int32)), .ref a_o_told, .int w_o_isBegun, .int w_o_readCards, .ref a_o_readColour, .int w_o_readDeals, .ref a_o_readDeal, .ref a_o_now, .ref a_o_then, .ref a_o_ring, .ref a_o_goes, .ref a_o_far, .ref a_o_met, .int w_o_metMany], jI E a_o_text 200 f_o_text, jI E a_o_told 2 (upd (upd f_o_told x2.toNatClampNeg (b3 - (48 : Int32))) x2.toNatClampNeg ((((10 : Int32) * ((upd f_o_told x2.toNatClampNeg (b3 - (48 : Int32))) x2.toNatClampNeg)) + b6) - (48 : Int32)))]) tyX10 0 13 tyX10_ok nmX10 rfl rfl (Nat.le_of_ble_eq_true rfl) iwX10 m3_117 rfl rfl rfl rfl (Nat.le_of_ble_eq_true rfl) dX10_readNumbers_98 rfl ?_
          exact w_X10_readNumbers_101 ih _ _ _ u h
      · refine j_iconst (pc := 21) dX10_readNumbers_21 ic_0 ?_
        cases h
        exact j_zret (pc := 22) rfl (Or.inl rfl) dX10_readNumbers_22 (Nat.le_of_ble_eq_true rfl) (Nat.le_of_ble_eq_true rfl) (jd_i rfl rfl)
set_option maxRecDepth 20000 in
theorem c_X10_readNumbers {l : Launch} {E : jE} {F : Nat} {x1 : Int32} {v_o_texted : Int32} {f_o_text : Nat → Int32} {a_o a_o_colour a_o_deal a_o_st a_o_was a_o_kept a_o_seen a_o_text a_o_told a_o_readColour a_o_readDeal a_o_now a_o_then a_o_ring a_o_goes a_o_far a_o_met : Nat} {w_o_cards : Int32} {w_o_dealMany : Int32} {w_o_acts : Int32} {w_o_keeps : Int32} {w_o_seens : Int32} {w_o_isBegun : Int32} {w_o_readCards : Int32} {w_o_readDeals : Int32} {w_o_metMany : Int32} {v_o_at : Int32} {f_o_told : Nat → Int32} : ∀ u : Int32 × Int32 × (Nat → Int32), f_X10_readNumbers F x1 v_o_texted f_o_text v_o_at f_o_told = some u → jM l E K_X10_readNumbers [.ref a_o, .int x1] [jO a_o 7 [.int w_o_cards, .ref a_o_colour, .int w_o_dealMany, .ref a_o_deal, .ref a_o_st, .int w_o_acts, .ref a_o_was, .int w_o_keeps, .ref a_o_kept, .int w_o_seens, .ref a_o_seen, .ref a_o_text, .int v_o_texted, .int v_o_at, .ref a_o_told, .int w_o_isBegun, .int w_o_readCards, .ref a_o_readColour, .int w_o_readDeals, .ref a_o_readDeal, .ref a_o_now, .ref a_o_then, .ref a_o_ring, .ref a_o_goes, .ref a_o_far, .ref a_o_met, .int w_o_metMany], jI E a_o_text 200 f_o_text, jI E a_o_told 2 f_o_told] (jd (some (.int u.1)) [jO a_o 7 [.int w_o_cards, .ref a_o_colour, .int w_o_dealMany, .ref a_o_deal, .ref a_o_st, .int w_o_acts, .ref a_o_was, .int w_o_keeps, .ref a_o_kept, .int w_o_seens, .ref a_o_seen, .ref a_o_text, .int v_o_texted, .int u.2.1, .ref a_o_told, .int w_o_isBegun, .int w_o_readCards, .ref a_o_readColour, .int w_o_readDeals, .ref a_o_readDeal, .ref a_o_now, .ref a_o_then, .ref a_o_ring, .ref a_o_goes, .ref a_o_far, .ref a_o_met, .int w_o_metMany], jI E a_o_text 200 f_o_text, jI E a_o_told 2 u.2.2]) := by
  intro u h
  unfold f_X10_readNumbers at h
  refine j_met [(0, .ref a_o), (1, .int x1)] (by decide +kernel) (Nat.le_of_ble_eq_true rfl) rfl ?_
  refine j_iconst (pc := 0) dX10_readNumbers_0 ic_0 ?_
  refine j_istore_n (pc := 1) (lv' := [(2, .int (0 : Int32)), (0, .ref a_o), (1, .int x1)]) dX10_readNumbers_1 rfl (Nat.le_of_ble_eq_true rfl) rfl ?_
  exact j_sub (lv' := [(0, .ref a_o), (1, .int x1), (2, .int (0 : Int32))]) [1, 2, 0] rfl (w_X10_readNumbers_2 _ _ _ _ u h)
set_option maxRecDepth 20000 in
theorem c_X10_isTold {l : Launch} {E : jE} {F : Nat} {x1 : Int32} {x2 : Int32} {x3 : Int32} {f_o_told : Nat → Int32} {a_o a_o_colour a_o_deal a_o_st a_o_was a_o_kept a_o_seen a_o_text a_o_told a_o_readColour a_o_readDeal a_o_now a_o_then a_o_ring a_o_goes a_o_far a_o_met : Nat} {w_o_cards : Int32} {w_o_dealMany : Int32} {w_o_acts : Int32} {w_o_keeps : Int32} {w_o_seens : Int32} {w_o_texted : Int32} {w_o_at : Int32} {w_o_isBegun : Int32} {w_o_readCards : Int32} {w_o_readDeals : Int32} {w_o_metMany : Int32} : ∀ u : Int32, f_X10_isTold F x1 x2 x3 f_o_told = some u → jM l E K_X10_isTold [.ref a_o, .int x1, .int x2, .int x3] [jO a_o 7 [.int w_o_cards, .ref a_o_colour, .int w_o_dealMany, .ref a_o_deal, .ref a_o_st, .int w_o_acts, .ref a_o_was, .int w_o_keeps, .ref a_o_kept, .int w_o_seens, .ref a_o_seen, .ref a_o_text, .int w_o_texted, .int w_o_at, .ref a_o_told, .int w_o_isBegun, .int w_o_readCards, .ref a_o_readColour, .int w_o_readDeals, .ref a_o_readDeal, .ref a_o_now, .ref a_o_then, .ref a_o_ring, .ref a_o_goes, .ref a_o_far, .ref a_o_met, .int w_o_metMany], jI E a_o_told 2 f_o_told] (jd (some (.int u)) [jO a_o 7 [.int w_o_cards, .ref a_o_colour, .int w_o_dealMany, .ref a_o_deal, .ref a_o_st, .int w_o_acts, .ref a_o_was, .int w_o_keeps, .ref a_o_kept, .int w_o_seens, .ref a_o_seen, .ref a_o_text, .int w_o_texted, .int w_o_at, .ref a_o_told, .int w_o_isBegun, .int w_o_readCards, .ref a_o_readColour, .int w_o_readDeals, .ref a_o_readDeal, .ref a_o_now, .ref a_o_then, .ref a_o_ring, .ref a_o_goes, .ref a_o_far, .ref a_o_met, .int w_o_metMany], jI E a_o_told 2 f_o_told]) := by
  intro u h
  unfold f_X10_isTold at h
  refine j_met [(0, .ref a_o), (1, .int x1), (2, .int x2), (3, .int x3)] (by decide +kernel) (Nat.le_of_ble_eq_true rfl) rfl ?_
  refine j_aload_n (pc := 0) 0 dX10_isTold_0 rfl rfl ?_
  refine j_get (pc := 1) (v := .ref a_o_told) 0 14 rfl rfl (Nat.le_of_ble_eq_true rfl) iwX10 m3_118 rfl dX10_isTold_1 ?_
  refine j_iload_n (pc := 4) 1 dX10_isTold_4 rfl rfl ?_
  refine j_iald (pc := 5) 1 rfl dX10_isTold_5 h (fun h => ?_)
  refine j_iload_n (pc := 6) 2 dX10_isTold_6 rfl rfl ?_
  refine j_iload_n (pc := 7) 3 dX10_isTold_7 rfl rfl ?_
  refine j_S0 (pc := 8) (Kc := K_X10_in) (As := [.int (f_o_told x1.toNatClampNeg), .int x2, .int x3]) (rest := []) h c_X10_in q_X10_in m3_190 rfl rfl (Nat.le_of_ble_eq_true rfl) ⟨(Nat.le_of_ble_eq_true rfl), (Nat.le_of_ble_eq_true rfl)⟩ ⟨rfl, rfl⟩ ⟨(Nat.le_of_ble_eq_true rfl), (Nat.le_of_ble_eq_true rfl)⟩ dX10_isTold_8 (fun b1 h => ?_)
  obtain ⟨hz, h⟩ := jgz_s h
  cases h
  exact j_zret (pc := 11) rfl hz dX10_isTold_11 (Nat.le_of_ble_eq_true rfl) (Nat.le_of_ble_eq_true rfl) (jd_i rfl rfl)
set_option maxRecDepth 20000 in
theorem w_X10_readCardsOf_31 {l : Launch} {E : jE} {F : Nat} {v_o_texted : Int32} {v_o_isBegun : Int32} {f_o_text : Nat → Int32} {a_o a_o_colour a_o_deal a_o_st a_o_was a_o_kept a_o_seen a_o_text a_o_told a_o_readColour a_o_readDeal a_o_now a_o_then a_o_ring a_o_goes a_o_far a_o_met : Nat} {w_o_cards : Int32} {w_o_dealMany : Int32} {w_o_acts : Int32} {w_o_keeps : Int32} {w_o_seens : Int32} {w_o_readDeals : Int32} {w_o_metMany : Int32} : ∀ (s0 : Int32) (v_o_at : Int32) (v_o_readCards : Int32) (f_o_told : Nat → Int32) (u : Int32 × Int32 × Int32 × (Nat → Int32)), g_X10_readCardsOf_31 F v_o_texted v_o_isBegun f_o_text s0 v_o_at v_o_readCards f_o_told = some u → jT l E K_X10_readCardsOf 0 0 31 [(0, .ref a_o)] [.int s0] [jO a_o 7 [.int w_o_cards, .ref a_o_colour, .int w_o_dealMany, .ref a_o_deal, .ref a_o_st, .int w_o_acts, .ref a_o_was, .int w_o_keeps, .ref a_o_kept, .int w_o_seens, .ref a_o_seen, .ref a_o_text, .int v_o_texted, .int v_o_at, .ref a_o_told, .int v_o_isBegun, .int v_o_readCards, .ref a_o_readColour, .int w_o_readDeals, .ref a_o_readDeal, .ref a_o_now, .ref a_o_then, .ref a_o_ring, .ref a_o_goes, .ref a_o_far, .ref a_o_met, .int w_o_metMany], jI E a_o_text 200 f_o_text, jI E a_o_told 2 f_o_told] (jd (some (.int u.1)) [jO a_o 7 [.int w_o_cards, .ref a_o_colour, .int w_o_dealMany, .ref a_o_deal, .ref a_o_st, .int w_o_acts, .ref a_o_was, .int w_o_keeps, .ref a_o_kept, .int w_o_seens, .ref a_o_seen, .ref a_o_text, .int v_o_texted, .int u.2.1, .ref a_o_told, .int v_o_isBegun, .int u.2.2.1, .ref a_o_readColour, .int w_o_readDeals, .ref a_o_readDeal, .ref a_o_now, .ref a_o_then, .ref a_o_ring, .ref a_o_goes, .ref a_o_far, .ref a_o_met, .int w_o_metMany], jI E a_o_text 200 f_o_text, jI E a_o_told 2 u.2.2.2]) := by
  intro s0 v_o_at v_o_readCards f_o_told u h
  unfold g_X10_readCardsOf_31 at h
  refine j_istore_n (pc := 31) (lv' := [(1, .int s0), (0, .ref a_o)]) dX10_readCardsOf_31 rfl (Nat.le_of_ble_eq_true rfl) rfl ?_
  refine j_aload_n (pc := 32) 1 dX10_readCardsOf_32 rfl rfl ?_
  refine j_iload_n (pc := 33) 0 dX10_readCardsOf_33 rfl rfl ?_
  refine j_if_eq (pc := 34) (tgt := 46) dX10_readCardsOf_34 (by decide) h (fun h => ?_) (fun h => ?_)
  · refine j_aload_n (pc := 46) 1 dX10_readCardsOf_46 rfl rfl ?_
    refine j_get (pc := 47) (v := .int v_o_readCards) 0 16 rfl rfl (Nat.le_of_ble_eq_true rfl) iwX10 m3_120 rfl dX10_readCardsOf_47 ?_
    refine j_put (pc := 50) (w' := [jO a_o 7 [.int w_o_cards, .ref a_o_colour, .int w_o_dealMany, .ref a_o_deal, .ref a_o_st, .int w_o_acts, .ref a_o_was, .int w_o_keeps, .ref a_o_kept, .int w_o_seens, .ref a_o_seen, .ref a_o_text, .int v_o_texted, .int v_o_at, .ref a_o_told, .int v_o_isBegun, .int v_o_readCards, .ref a_o_readColour, .int w_o_readDeals, .ref a_o_readDeal, .ref a_o_now, .ref a_o_then, .ref a_o_ring, .ref a_o_goes, .ref a_o_far, .ref a_o_met, .int w_o_metMany], jI E a_o_text 200 f_o_text, jI E a_o_told 2 f_o_told]) tyX10 0 16 tyX10_ok nmX10 rfl rfl (Nat.le_of_ble_eq_true rfl) iwX10 m3_120 rfl rfl rfl rfl (Nat.le_of_ble_eq_true rfl) dX10_readCardsOf_50 rfl ?_
    refine j_iload_n (pc := 53) 0 dX10_readCardsOf_53 rfl rfl ?_
    obtain ⟨hz, h⟩ := jgz_s h
    cases h
    exact j_zret (pc := 54) rfl hz dX10_readCardsOf_54 (Nat.le_of_ble_eq_true rfl) (Nat.le_of_ble_eq_true rfl) (jd_i rfl rfl)
  · refine j_aload_n (pc := 37) 1 dX10_readCardsOf_37 rfl rfl ?_
    refine j_get (pc := 38) (v := .ref a_o_told) 0 14 rfl rfl (Nat.le_of_ble_eq_true rfl) iwX10 m3_118 rfl dX10_readCardsOf_38 ?_
    refine j_iconst (pc := 41) dX10_readCardsOf_41 ic_0 ?_
    refine j_iald (pc := 42) 2 rfl dX10_readCardsOf_42 h (fun h => ?_)
    refine j_goto (pc := 43) (tgt := 50) dX10_readCardsOf_43 (by decide) ?_
    refine j_put (pc := 50) (w' := [jO a_o 7 [.int w_o_cards, .ref a_o_colour, .int w_o_dealMany, .ref a_o_deal, .ref a_o_st, .int w_o_acts, .ref a_o_was, .int w_o_keeps, .ref a_o_kept, .int w_o_seens, .ref a_o_seen, .ref a_o_text, .int v_o_texted, .int v_o_at, .ref a_o_told, .int v_o_isBegun, .int (f_o_told (0 : Int32).toNatClampNeg), .ref a_o_readColour, .int w_o_readDeals, .ref a_o_readDeal, .ref a_o_now, .ref a_o_then, .ref a_o_ring, .ref a_o_goes, .ref a_o_far, .ref a_o_met, .int w_o_metMany], jI E a_o_text 200 f_o_text, jI E a_o_told 2 f_o_told]) tyX10 0 16 tyX10_ok nmX10 rfl rfl (Nat.le_of_ble_eq_true rfl) iwX10 m3_120 rfl rfl rfl rfl (Nat.le_of_ble_eq_true rfl) dX10_readCardsOf_50 rfl ?_
    refine j_iload_n (pc := 53) 0 dX10_readCardsOf_53 rfl rfl ?_
    obtain ⟨hz, h⟩ := jgz_s h
    cases h
    exact j_zret (pc := 54) rfl hz dX10_readCardsOf_54 (Nat.le_of_ble_eq_true rfl) (Nat.le_of_ble_eq_true rfl) (jd_i rfl rfl)
set_option maxRecDepth 20000 in
theorem c_X10_readCardsOf {l : Launch} {E : jE} {F : Nat} {v_o_texted : Int32} {v_o_isBegun : Int32} {f_o_text : Nat → Int32} {a_o a_o_colour a_o_deal a_o_st a_o_was a_o_kept a_o_seen a_o_text a_o_told a_o_readColour a_o_readDeal a_o_now a_o_then a_o_ring a_o_goes a_o_far a_o_met : Nat} {w_o_cards : Int32} {w_o_dealMany : Int32} {w_o_acts : Int32} {w_o_keeps : Int32} {w_o_seens : Int32} {w_o_readDeals : Int32} {w_o_metMany : Int32} {v_o_at : Int32} {v_o_readCards : Int32} {f_o_told : Nat → Int32} : ∀ u : Int32 × Int32 × Int32 × (Nat → Int32), f_X10_readCardsOf F v_o_texted v_o_isBegun f_o_text v_o_at v_o_readCards f_o_told = some u → jM l E K_X10_readCardsOf [.ref a_o] [jO a_o 7 [.int w_o_cards, .ref a_o_colour, .int w_o_dealMany, .ref a_o_deal, .ref a_o_st, .int w_o_acts, .ref a_o_was, .int w_o_keeps, .ref a_o_kept, .int w_o_seens, .ref a_o_seen, .ref a_o_text, .int v_o_texted, .int v_o_at, .ref a_o_told, .int v_o_isBegun, .int v_o_readCards, .ref a_o_readColour, .int w_o_readDeals, .ref a_o_readDeal, .ref a_o_now, .ref a_o_then, .ref a_o_ring, .ref a_o_goes, .ref a_o_far, .ref a_o_met, .int w_o_metMany], jI E a_o_text 200 f_o_text, jI E a_o_told 2 f_o_told] (jd (some (.int u.1)) [jO a_o 7 [.int w_o_cards, .ref a_o_colour, .int w_o_dealMany, .ref a_o_deal, .ref a_o_st, .int w_o_acts, .ref a_o_was, .int w_o_keeps, .ref a_o_kept, .int w_o_seens, .ref a_o_seen, .ref a_o_text, .int v_o_texted, .int u.2.1, .ref a_o_told, .int v_o_isBegun, .int u.2.2.1, .ref a_o_readColour, .int w_o_readDeals, .ref a_o_readDeal, .ref a_o_now, .ref a_o_then, .ref a_o_ring, .ref a_o_goes, .ref a_o_far, .ref a_o_met, .int w_o_metMany], jI E a_o_text 200 f_o_text, jI E a_o_told 2 u.2.2.2]) := by
  intro u h
  unfold f_X10_readCardsOf at h
  refine j_met [(0, .ref a_o)] (by decide +kernel) (Nat.le_of_ble_eq_true rfl) rfl ?_
  refine j_aload_n (pc := 0) 0 dX10_readCardsOf_0 rfl rfl ?_
  refine j_get (pc := 1) (v := .int v_o_isBegun) 0 15 rfl rfl (Nat.le_of_ble_eq_true rfl) iwX10 m3_119 rfl dX10_readCardsOf_1 ?_
  refine j_if_ne (pc := 4) (tgt := 30) dX10_readCardsOf_4 (by decide) h (fun h => ?_) (fun h => ?_)
  · refine j_iconst (pc := 30) dX10_readCardsOf_30 ic_0 ?_
    exact w_X10_readCardsOf_31 _ _ _ _ u h
  · refine j_aload_n (pc := 7) 0 dX10_readCardsOf_7 rfl rfl ?_
    refine j_iconst (pc := 8) dX10_readCardsOf_8 ic_1 ?_
    refine j_V (pc := 9) (q0 := 0) (Kc := K_X10_readNumbers) (As := [.int (1 : Int32)]) (rest := []) (wc := [jO a_o 7 [.int w_o_cards, .ref a_o_colour, .int w_o_dealMany, .ref a_o_deal, .ref a_o_st, .int w_o_acts, .ref a_o_was, .int w_o_keeps, .ref a_o_kept, .int w_o_seens, .ref a_o_seen, .ref a_o_text, .int v_o_texted, .int v_o_at, .ref a_o_told, .int v_o_isBegun, .int v_o_readCards, .ref a_o_readColour, .int w_o_readDeals, .ref a_o_readDeal, .ref a_o_now, .ref a_o_then, .ref a_o_ring, .ref a_o_goes, .ref a_o_far, .ref a_o_met, .int w_o_metMany], jI E a_o_text 200 f_o_text, jI E a_o_told 2 f_o_told]) (w' := fun b1 => [jO a_o 7 [.int w_o_cards, .ref a_o_colour, .int w_o_dealMany, .ref a_o_deal, .ref a_o_st, .int w_o_acts, .ref a_o_was, .int w_o_keeps, .ref a_o_kept, .int w_o_seens, .ref a_o_seen, .ref a_o_text, .int v_o_texted, .int b1.2.1, .ref a_o_told, .int v_o_isBegun, .int v_o_readCards, .ref a_o_readColour, .int w_o_readDeals, .ref a_o_readDeal, .ref a_o_now, .ref a_o_then, .ref a_o_ring, .ref a_o_goes, .ref a_o_far, .ref a_o_met, .int w_o_metMany], jI E a_o_text 200 f_o_text, jI E a_o_told 2 b1.2.2]) (st1 := fun b1 => [.int b1.1]) [0, 1, 2] rfl rfl rfl h c_X10_readNumbers q_X10_readNumbers m3_213 rfl rfl (Nat.le_of_ble_eq_true rfl) ⟨(Nat.le_of_ble_eq_true rfl), (Nat.le_of_ble_eq_true rfl)⟩ ⟨rfl, rfl⟩ ⟨(Nat.le_of_ble_eq_true rfl), (Nat.le_of_ble_eq_true rfl)⟩ dX10_readCardsOf_9 rfl (by decide) (fun _ => rfl) (fun _ => rfl) (fun _ => rfl) (fun b1 h => ?_)
    refine j_if_eq (pc := 12) (tgt := 30) dX10_readCardsOf_12 (by decide) h (fun h => ?_) (fun h => ?_)
    · refine j_iconst (pc := 30) dX10_readCardsOf_30 ic_0 ?_
      exact w_X10_readCardsOf_31 _ _ _ _ u h
    · refine j_aload_n (pc := 15) 0 dX10_readCardsOf_15 rfl rfl ?_
      refine j_iconst (pc := 16) dX10_readCardsOf_16 ic_0 ?_
      refine j_iconst (pc := 17) dX10_readCardsOf_17 ic_2 ?_
      refine j_bipush (pc := 18) dX10_readCardsOf_18 bc_16 ?_
      refine j_V (pc := 20) (q0 := 0) (Kc := K_X10_isTold) (As := [.int (0 : Int32), .int (2 : Int32), .int (16 : Int32)]) (rest := []) (wc := [jO a_o 7 [.int w_o_cards, .ref a_o_colour, .int w_o_dealMany, .ref a_o_deal, .ref a_o_st, .int w_o_acts, .ref a_o_was, .int w_o_keeps, .ref a_o_kept, .int w_o_seens, .ref a_o_seen, .ref a_o_text, .int v_o_texted, .int b1.2.1, .ref a_o_told, .int v_o_isBegun, .int v_o_readCards, .ref a_o_readColour, .int w_o_readDeals, .ref a_o_readDeal, .ref a_o_now, .ref a_o_then, .ref a_o_ring, .ref a_o_goes, .ref a_o_far, .ref a_o_met, .int w_o_metMany], jI E a_o_told 2 b1.2.2]) (w' := fun b2 => [jO a_o 7 [.int w_o_cards, .ref a_o_colour, .int w_o_dealMany, .ref a_o_deal, .ref a_o_st, .int w_o_acts, .ref a_o_was, .int w_o_keeps, .ref a_o_kept, .int w_o_seens, .ref a_o_seen, .ref a_o_text, .int v_o_texted, .int b1.2.1, .ref a_o_told, .int v_o_isBegun, .int v_o_readCards, .ref a_o_readColour, .int w_o_readDeals, .ref a_o_readDeal, .ref a_o_now, .ref a_o_then, .ref a_o_ring, .ref a_o_goes, .ref a_o_far, .ref a_o_met, .int w_o_metMany], jI E a_o_text 200 f_o_text, jI E a_o_told 2 b1.2.2]) (st1 := fun b2 => [.int b2]) [0, 2] rfl rfl rfl h c_X10_isTold q_X10_isTold m3_220 rfl rfl (Nat.le_of_ble_eq_true rfl) ⟨(Nat.le_of_ble_eq_true rfl), (Nat.le_of_ble_eq_true rfl)⟩ ⟨rfl, rfl⟩ ⟨(Nat.le_of_ble_eq_true rfl), (Nat.le_of_ble_eq_true rfl)⟩ dX10_readCardsOf_20 rfl (by decide) (fun _ => rfl) (fun _ => rfl) (fun _ => rfl) (fun b2 h => ?_)
      refine j_if_eq (pc := 23) (tgt := 30) dX10_readCardsOf_23 (by decide) h (fun h => ?_) (fun h => ?_)
      · refine j_iconst (pc := 30) dX10_readCardsOf_30 ic_0 ?_
        exact w_X10_readCardsOf_31 _ _ _ _ u h
      · refine j_iconst (pc := 26) dX10_readCardsOf_26 ic_1 ?_
        refine j_goto (pc := 27) (tgt := 31) dX10_readCardsOf_27 (by decide) ?_
        exact w_X10_readCardsOf_31 _ _ _ _ u h
set_option maxRecDepth 20000 in
theorem c_X10_readColourOf {l : Launch} {E : jE} {F : Nat} {v_o_texted : Int32} {v_o_readCards : Int32} {f_o_text : Nat → Int32} {a_o a_o_colour a_o_deal a_o_st a_o_was a_o_kept a_o_seen a_o_text a_o_told a_o_readColour a_o_readDeal a_o_now a_o_then a_o_ring a_o_goes a_o_far a_o_met : Nat} {w_o_cards : Int32} {w_o_dealMany : Int32} {w_o_acts : Int32} {w_o_keeps : Int32} {w_o_seens : Int32} {w_o_isBegun : Int32} {w_o_readDeals : Int32} {w_o_metMany : Int32} {v_o_at : Int32} {f_o_readColour : Nat → Int32} {f_o_told : Nat → Int32} : ∀ u : Int32 × Int32 × (Nat → Int32) × (Nat → Int32), f_X10_readColourOf F v_o_texted v_o_readCards f_o_text v_o_at f_o_readColour f_o_told = some u → jM l E K_X10_readColourOf [.ref a_o] [jO a_o 7 [.int w_o_cards, .ref a_o_colour, .int w_o_dealMany, .ref a_o_deal, .ref a_o_st, .int w_o_acts, .ref a_o_was, .int w_o_keeps, .ref a_o_kept, .int w_o_seens, .ref a_o_seen, .ref a_o_text, .int v_o_texted, .int v_o_at, .ref a_o_told, .int w_o_isBegun, .int v_o_readCards, .ref a_o_readColour, .int w_o_readDeals, .ref a_o_readDeal, .ref a_o_now, .ref a_o_then, .ref a_o_ring, .ref a_o_goes, .ref a_o_far, .ref a_o_met, .int w_o_metMany], jI E a_o_readColour 16 f_o_readColour, jI E a_o_text 200 f_o_text, jI E a_o_told 2 f_o_told] (jd (some (.int u.1)) [jO a_o 7 [.int w_o_cards, .ref a_o_colour, .int w_o_dealMany, .ref a_o_deal, .ref a_o_st, .int w_o_acts, .ref a_o_was, .int w_o_keeps, .ref a_o_kept, .int w_o_seens, .ref a_o_seen, .ref a_o_text, .int v_o_texted, .int u.2.1, .ref a_o_told, .int w_o_isBegun, .int v_o_readCards, .ref a_o_readColour, .int w_o_readDeals, .ref a_o_readDeal, .ref a_o_now, .ref a_o_then, .ref a_o_ring, .ref a_o_goes, .ref a_o_far, .ref a_o_met, .int w_o_metMany], jI E a_o_readColour 16 u.2.2.1, jI E a_o_text 200 f_o_text, jI E a_o_told 2 u.2.2.2]) := by
  intro u h
  unfold f_X10_readColourOf at h
  refine j_met [(0, .ref a_o)] (by decide +kernel) (Nat.le_of_ble_eq_true rfl) rfl ?_
  refine j_aload_n (pc := 0) 0 dX10_readColourOf_0 rfl rfl ?_
  refine j_iconst (pc := 1) dX10_readColourOf_1 ic_2 ?_
  refine j_V (pc := 2) (q0 := 0) (Kc := K_X10_readNumbers) (As := [.int (2 : Int32)]) (rest := []) (wc := [jO a_o 7 [.int w_o_cards, .ref a_o_colour, .int w_o_dealMany, .ref a_o_deal, .ref a_o_st, .int w_o_acts, .ref a_o_was, .int w_o_keeps, .ref a_o_kept, .int w_o_seens, .ref a_o_seen, .ref a_o_text, .int v_o_texted, .int v_o_at, .ref a_o_told, .int w_o_isBegun, .int v_o_readCards, .ref a_o_readColour, .int w_o_readDeals, .ref a_o_readDeal, .ref a_o_now, .ref a_o_then, .ref a_o_ring, .ref a_o_goes, .ref a_o_far, .ref a_o_met, .int w_o_metMany], jI E a_o_text 200 f_o_text, jI E a_o_told 2 f_o_told]) (w' := fun b1 => [jO a_o 7 [.int w_o_cards, .ref a_o_colour, .int w_o_dealMany, .ref a_o_deal, .ref a_o_st, .int w_o_acts, .ref a_o_was, .int w_o_keeps, .ref a_o_kept, .int w_o_seens, .ref a_o_seen, .ref a_o_text, .int v_o_texted, .int b1.2.1, .ref a_o_told, .int w_o_isBegun, .int v_o_readCards, .ref a_o_readColour, .int w_o_readDeals, .ref a_o_readDeal, .ref a_o_now, .ref a_o_then, .ref a_o_ring, .ref a_o_goes, .ref a_o_far, .ref a_o_met, .int w_o_metMany], jI E a_o_readColour 16 f_o_readColour, jI E a_o_text 200 f_o_text, jI E a_o_told 2 b1.2.2]) (st1 := fun b1 => [.int b1.1]) [0, 2, 3] rfl rfl rfl h c_X10_readNumbers q_X10_readNumbers m3_213 rfl rfl (Nat.le_of_ble_eq_true rfl) ⟨(Nat.le_of_ble_eq_true rfl), (Nat.le_of_ble_eq_true rfl)⟩ ⟨rfl, rfl⟩ ⟨(Nat.le_of_ble_eq_true rfl), (Nat.le_of_ble_eq_true rfl)⟩ dX10_readColourOf_2 rfl (by decide) (fun _ => rfl) (fun _ => rfl) (fun _ => rfl) (fun b1 h => ?_)
  refine j_if_eq (pc := 5) (tgt := 33) dX10_readColourOf_5 (by decide) h (fun h => ?_) (fun h => ?_)
  · refine j_iconst (pc := 33) dX10_readColourOf_33 ic_0 ?_
    cases h
    exact j_zret (pc := 34) rfl (Or.inl rfl) dX10_readColourOf_34 (Nat.le_of_ble_eq_true rfl) (Nat.le_of_ble_eq_true rfl) (jd_i rfl rfl)
  · refine j_aload_n (pc := 8) 0 dX10_readColourOf_8 rfl rfl ?_
    refine j_iconst (pc := 9) dX10_readColourOf_9 ic_0 ?_
    refine j_iconst (pc := 10) dX10_readColourOf_10 ic_0 ?_
    refine j_aload_n (pc := 11) 0 dX10_readColourOf_11 rfl rfl ?_
    refine j_get (pc := 12) (v := .int v_o_readCards) 0 16 rfl rfl (Nat.le_of_ble_eq_true rfl) iwX10 m3_120 rfl dX10_readColourOf_12 ?_
    refine j_iconst (pc := 15) dX10_readColourOf_15 ic_1 ?_
    refine j_isub (pc := 16) dX10_readColourOf_16 ?_
    refine j_V (pc := 17) (q0 := 0) (Kc := K_X10_isTold) (As := [.int (0 : Int32), .int (0 : Int32), .int (v_o_readCards - (1 : Int32))]) (rest := []) (wc := [jO a_o 7 [.int w_o_cards, .ref a_o_colour, .int w_o_dealMany, .ref a_o_deal, .ref a_o_st, .int w_o_acts, .ref a_o_was, .int w_o_keeps, .ref a_o_kept, .int w_o_seens, .ref a_o_seen, .ref a_o_text, .int v_o_texted, .int b1.2.1, .ref a_o_told, .int w_o_isBegun, .int v_o_readCards, .ref a_o_readColour, .int w_o_readDeals, .ref a_o_readDeal, .ref a_o_now, .ref a_o_then, .ref a_o_ring, .ref a_o_goes, .ref a_o_far, .ref a_o_met, .int w_o_metMany], jI E a_o_told 2 b1.2.2]) (w' := fun b2 => [jO a_o 7 [.int w_o_cards, .ref a_o_colour, .int w_o_dealMany, .ref a_o_deal, .ref a_o_st, .int w_o_acts, .ref a_o_was, .int w_o_keeps, .ref a_o_kept, .int w_o_seens, .ref a_o_seen, .ref a_o_text, .int v_o_texted, .int b1.2.1, .ref a_o_told, .int w_o_isBegun, .int v_o_readCards, .ref a_o_readColour, .int w_o_readDeals, .ref a_o_readDeal, .ref a_o_now, .ref a_o_then, .ref a_o_ring, .ref a_o_goes, .ref a_o_far, .ref a_o_met, .int w_o_metMany], jI E a_o_readColour 16 f_o_readColour, jI E a_o_text 200 f_o_text, jI E a_o_told 2 b1.2.2]) (st1 := fun b2 => [.int b2]) [0, 3] rfl rfl rfl h c_X10_isTold q_X10_isTold m3_220 rfl rfl (Nat.le_of_ble_eq_true rfl) ⟨(Nat.le_of_ble_eq_true rfl), (Nat.le_of_ble_eq_true rfl)⟩ ⟨rfl, rfl⟩ ⟨(Nat.le_of_ble_eq_true rfl), (Nat.le_of_ble_eq_true rfl)⟩ dX10_readColourOf_17 rfl (by decide) (fun _ => rfl) (fun _ => rfl) (fun _ => rfl) (fun b2 h => ?_)
    refine j_if_eq (pc := 20) (tgt := 33) dX10_readColourOf_20 (by decide) h (fun h => ?_) (fun h => ?_)
    · refine j_iconst (pc := 33) dX10_readColourOf_33 ic_0 ?_
      cases h
      exact j_zret (pc := 34) rfl (Or.inl rfl) dX10_readColourOf_34 (Nat.le_of_ble_eq_true rfl) (Nat.le_of_ble_eq_true rfl) (jd_i rfl rfl)
    · refine j_aload_n (pc := 23) 0 dX10_readColourOf_23 rfl rfl ?_
      refine j_iconst (pc := 24) dX10_readColourOf_24 ic_1 ?_
      refine j_iconst (pc := 25) dX10_readColourOf_25 ic_0 ?_
      refine j_iconst (pc := 26) dX10_readColourOf_26 ic_3 ?_
      refine j_V (pc := 27) (q0 := 0) (Kc := K_X10_isTold) (As := [.int (1 : Int32), .int (0 : Int32), .int (3 : Int32)]) (rest := []) (wc := [jO a_o 7 [.int w_o_cards, .ref a_o_colour, .int w_o_dealMany, .ref a_o_deal, .ref a_o_st, .int w_o_acts, .ref a_o_was, .int w_o_keeps, .ref a_o_kept, .int w_o_seens, .ref a_o_seen, .ref a_o_text, .int v_o_texted, .int b1.2.1, .ref a_o_told, .int w_o_isBegun, .int v_o_readCards, .ref a_o_readColour, .int w_o_readDeals, .ref a_o_readDeal, .ref a_o_now, .ref a_o_then, .ref a_o_ring, .ref a_o_goes, .ref a_o_far, .ref a_o_met, .int w_o_metMany], jI E a_o_told 2 b1.2.2]) (w' := fun b3 => [jO a_o 7 [.int w_o_cards, .ref a_o_colour, .int w_o_dealMany, .ref a_o_deal, .ref a_o_st, .int w_o_acts, .ref a_o_was, .int w_o_keeps, .ref a_o_kept, .int w_o_seens, .ref a_o_seen, .ref a_o_text, .int v_o_texted, .int b1.2.1, .ref a_o_told, .int w_o_isBegun, .int v_o_readCards, .ref a_o_readColour, .int w_o_readDeals, .ref a_o_readDeal, .ref a_o_now, .ref a_o_then, .ref a_o_ring, .ref a_o_goes, .ref a_o_far, .ref a_o_met, .int w_o_metMany], jI E a_o_readColour 16 f_o_readColour, jI E a_o_text 200 f_o_text, jI E a_o_told 2 b1.2.2]) (st1 := fun b3 => [.int b3]) [0, 3] rfl rfl rfl h c_X10_isTold q_X10_isTold m3_220 rfl rfl (Nat.le_of_ble_eq_true rfl) ⟨(Nat.le_of_ble_eq_true rfl), (Nat.le_of_ble_eq_true rfl)⟩ ⟨rfl, rfl⟩ ⟨(Nat.le_of_ble_eq_true rfl), (Nat.le_of_ble_eq_true rfl)⟩ dX10_readColourOf_27 rfl (by decide) (fun _ => rfl) (fun _ => rfl) (fun _ => rfl) (fun b3 h => ?_)
      refine j_if_ne (pc := 30) (tgt := 35) dX10_readColourOf_30 (by decide) h (fun h => ?_) (fun h => ?_)
      · refine j_aload_n (pc := 35) 0 dX10_readColourOf_35 rfl rfl ?_
        refine j_get (pc := 36) (v := .ref a_o_readColour) 0 17 rfl rfl (Nat.le_of_ble_eq_true rfl) iwX10 m3_121 rfl dX10_readColourOf_36 ?_
        refine j_aload_n (pc := 39) 0 dX10_readColourOf_39 rfl rfl ?_
        refine j_get (pc := 40) (v := .ref a_o_told) 0 14 rfl rfl (Nat.le_of_ble_eq_true rfl) iwX10 m3_118 rfl dX10_readColourOf_40 ?_
        refine j_iconst (pc := 43) dX10_readColourOf_43 ic_0 ?_
        refine j_iald (pc := 44) 3 rfl dX10_readColourOf_44 h (fun h => ?_)
        refine j_aload_n (pc := 45) 0 dX10_readColourOf_45 rfl rfl ?_
        refine j_get (pc := 46) (v := .ref a_o_told) 0 14 rfl rfl (Nat.le_of_ble_eq_true rfl) iwX10 m3_118 rfl dX10_readColourOf_46 ?_
        refine j_iconst (pc := 49) dX10_readColourOf_49 ic_1 ?_
        refine j_iald (pc := 50) 3 rfl dX10_readColourOf_50 h (fun h => ?_)
        refine j_iast (pc := 51) (w' := [jO a_o 7 [.int w_o_cards, .ref a_o_colour, .int w_o_dealMany, .ref a_o_deal, .ref a_o_st, .int w_o_acts, .ref a_o_was, .int w_o_keeps, .ref a_o_kept, .int w_o_seens, .ref a_o_seen, .ref a_o_text, .int v_o_texted, .int b1.2.1, .ref a_o_told, .int w_o_isBegun, .int v_o_readCards, .ref a_o_readColour, .int w_o_readDeals, .ref a_o_readDeal, .ref a_o_now, .ref a_o_then, .ref a_o_ring, .ref a_o_goes, .ref a_o_far, .ref a_o_met, .int w_o_metMany], jI E a_o_readColour 16 (upd f_o_readColour (b1.2.2 (0 : Int32).toNatClampNeg).toNatClampNeg (b1.2.2 (1 : Int32).toNatClampNeg)), jI E a_o_text 200 f_o_text, jI E a_o_told 2 b1.2.2]) 1 rfl dX10_readColourOf_51 h rfl (fun h => ?_)
        refine j_iconst (pc := 52) dX10_readColourOf_52 ic_1 ?_
        cases h
        exact j_zret (pc := 53) rfl (Or.inr rfl) dX10_readColourOf_53 (Nat.le_of_ble_eq_true rfl) (Nat.le_of_ble_eq_true rfl) (jd_i rfl rfl)
      · refine j_iconst (pc := 33) dX10_readColourOf_33 ic_0 ?_
        cases h
        exact j_zret (pc := 34) rfl (Or.inl rfl) dX10_readColourOf_34 (Nat.le_of_ble_eq_true rfl) (Nat.le_of_ble_eq_true rfl) (jd_i rfl rfl)
set_option maxRecDepth 20000 in
theorem c_X10_readDealOf {l : Launch} {E : jE} {F : Nat} {x1 : Int32} {x2 : Int32} {v_o_texted : Int32} {f_o_text : Nat → Int32} {a_o a_o_colour a_o_deal a_o_st a_o_was a_o_kept a_o_seen a_o_text a_o_told a_o_readColour a_o_readDeal a_o_now a_o_then a_o_ring a_o_goes a_o_far a_o_met : Nat} {w_o_cards : Int32} {w_o_dealMany : Int32} {w_o_acts : Int32} {w_o_keeps : Int32} {w_o_seens : Int32} {w_o_isBegun : Int32} {w_o_readCards : Int32} {w_o_metMany : Int32} {v_o_at : Int32} {v_o_readDeals : Int32} {f_o_readDeal : Nat → Int32} {f_o_told : Nat → Int32} : ∀ u : Int32 × Int32 × Int32 × (Nat → Int32) × (Nat → Int32), f_X10_readDealOf F x1 x2 v_o_texted f_o_text v_o_at v_o_readDeals f_o_readDeal f_o_told = some u → jM l E K_X10_readDealOf [.ref a_o, .int x1, .int x2] [jO a_o 7 [.int w_o_cards, .ref a_o_colour, .int w_o_dealMany, .ref a_o_deal, .ref a_o_st, .int w_o_acts, .ref a_o_was, .int w_o_keeps, .ref a_o_kept, .int w_o_seens, .ref a_o_seen, .ref a_o_text, .int v_o_texted, .int v_o_at, .ref a_o_told, .int w_o_isBegun, .int w_o_readCards, .ref a_o_readColour, .int v_o_readDeals, .ref a_o_readDeal, .ref a_o_now, .ref a_o_then, .ref a_o_ring, .ref a_o_goes, .ref a_o_far, .ref a_o_met, .int w_o_metMany], jI E a_o_readDeal 16 f_o_readDeal, jI E a_o_text 200 f_o_text, jI E a_o_told 2 f_o_told] (jd (some (.int u.1)) [jO a_o 7 [.int w_o_cards, .ref a_o_colour, .int w_o_dealMany, .ref a_o_deal, .ref a_o_st, .int w_o_acts, .ref a_o_was, .int w_o_keeps, .ref a_o_kept, .int w_o_seens, .ref a_o_seen, .ref a_o_text, .int v_o_texted, .int u.2.1, .ref a_o_told, .int w_o_isBegun, .int w_o_readCards, .ref a_o_readColour, .int u.2.2.1, .ref a_o_readDeal, .ref a_o_now, .ref a_o_then, .ref a_o_ring, .ref a_o_goes, .ref a_o_far, .ref a_o_met, .int w_o_metMany], jI E a_o_readDeal 16 u.2.2.2.1, jI E a_o_text 200 f_o_text, jI E a_o_told 2 u.2.2.2.2]) := by
  intro u h
  unfold f_X10_readDealOf at h
  refine j_met [(0, .ref a_o), (1, .int x1), (2, .int x2)] (by decide +kernel) (Nat.le_of_ble_eq_true rfl) rfl ?_
  refine j_aload_n (pc := 0) 0 dX10_readDealOf_0 rfl rfl ?_
  refine j_get (pc := 1) (v := .int v_o_readDeals) 0 18 rfl rfl (Nat.le_of_ble_eq_true rfl) iwX10 m3_122 rfl dX10_readDealOf_1 ?_
  refine j_bipush (pc := 4) dX10_readDealOf_4 bc_16 ?_
  refine j_icmp_eq (pc := 6) (tgt := 27) dX10_readDealOf_6 (by decide) h (fun h => ?_) (fun h => ?_)
  · refine j_iconst (pc := 27) dX10_readDealOf_27 ic_0 ?_
    cases h
    exact j_zret (pc := 28) rfl (Or.inl rfl) dX10_readDealOf_28 (Nat.le_of_ble_eq_true rfl) (Nat.le_of_ble_eq_true rfl) (jd_i rfl rfl)
  · refine j_aload_n (pc := 9) 0 dX10_readDealOf_9 rfl rfl ?_
    refine j_iconst (pc := 10) dX10_readDealOf_10 ic_1 ?_
    refine j_V (pc := 11) (q0 := 0) (Kc := K_X10_readNumbers) (As := [.int (1 : Int32)]) (rest := []) (wc := [jO a_o 7 [.int w_o_cards, .ref a_o_colour, .int w_o_dealMany, .ref a_o_deal, .ref a_o_st, .int w_o_acts, .ref a_o_was, .int w_o_keeps, .ref a_o_kept, .int w_o_seens, .ref a_o_seen, .ref a_o_text, .int v_o_texted, .int v_o_at, .ref a_o_told, .int w_o_isBegun, .int w_o_readCards, .ref a_o_readColour, .int v_o_readDeals, .ref a_o_readDeal, .ref a_o_now, .ref a_o_then, .ref a_o_ring, .ref a_o_goes, .ref a_o_far, .ref a_o_met, .int w_o_metMany], jI E a_o_text 200 f_o_text, jI E a_o_told 2 f_o_told]) (w' := fun b1 => [jO a_o 7 [.int w_o_cards, .ref a_o_colour, .int w_o_dealMany, .ref a_o_deal, .ref a_o_st, .int w_o_acts, .ref a_o_was, .int w_o_keeps, .ref a_o_kept, .int w_o_seens, .ref a_o_seen, .ref a_o_text, .int v_o_texted, .int b1.2.1, .ref a_o_told, .int w_o_isBegun, .int w_o_readCards, .ref a_o_readColour, .int v_o_readDeals, .ref a_o_readDeal, .ref a_o_now, .ref a_o_then, .ref a_o_ring, .ref a_o_goes, .ref a_o_far, .ref a_o_met, .int w_o_metMany], jI E a_o_readDeal 16 f_o_readDeal, jI E a_o_text 200 f_o_text, jI E a_o_told 2 b1.2.2]) (st1 := fun b1 => [.int b1.1]) [0, 2, 3] rfl rfl rfl h c_X10_readNumbers q_X10_readNumbers m3_213 rfl rfl (Nat.le_of_ble_eq_true rfl) ⟨(Nat.le_of_ble_eq_true rfl), (Nat.le_of_ble_eq_true rfl)⟩ ⟨rfl, rfl⟩ ⟨(Nat.le_of_ble_eq_true rfl), (Nat.le_of_ble_eq_true rfl)⟩ dX10_readDealOf_11 rfl (by decide) (fun _ => rfl) (fun _ => rfl) (fun _ => rfl) (fun b1 h => ?_)
    refine j_if_eq (pc := 14) (tgt := 27) dX10_readDealOf_14 (by decide) h (fun h => ?_) (fun h => ?_)
    · refine j_iconst (pc := 27) dX10_readDealOf_27 ic_0 ?_
      cases h
      exact j_zret (pc := 28) rfl (Or.inl rfl) dX10_readDealOf_28 (Nat.le_of_ble_eq_true rfl) (Nat.le_of_ble_eq_true rfl) (jd_i rfl rfl)
    · refine j_aload_n (pc := 17) 0 dX10_readDealOf_17 rfl rfl ?_
      refine j_iconst (pc := 18) dX10_readDealOf_18 ic_0 ?_
      refine j_iconst (pc := 19) dX10_readDealOf_19 ic_0 ?_
      refine j_iload_n (pc := 20) 2 dX10_readDealOf_20 rfl rfl ?_
      refine j_V (pc := 21) (q0 := 0) (Kc := K_X10_isTold) (As := [.int (0 : Int32), .int (0 : Int32), .int x2]) (rest := []) (wc := [jO a_o 7 [.int w_o_cards, .ref a_o_colour, .int w_o_dealMany, .ref a_o_deal, .ref a_o_st, .int w_o_acts, .ref a_o_was, .int w_o_keeps, .ref a_o_kept, .int w_o_seens, .ref a_o_seen, .ref a_o_text, .int v_o_texted, .int b1.2.1, .ref a_o_told, .int w_o_isBegun, .int w_o_readCards, .ref a_o_readColour, .int v_o_readDeals, .ref a_o_readDeal, .ref a_o_now, .ref a_o_then, .ref a_o_ring, .ref a_o_goes, .ref a_o_far, .ref a_o_met, .int w_o_metMany], jI E a_o_told 2 b1.2.2]) (w' := fun b2 => [jO a_o 7 [.int w_o_cards, .ref a_o_colour, .int w_o_dealMany, .ref a_o_deal, .ref a_o_st, .int w_o_acts, .ref a_o_was, .int w_o_keeps, .ref a_o_kept, .int w_o_seens, .ref a_o_seen, .ref a_o_text, .int v_o_texted, .int b1.2.1, .ref a_o_told, .int w_o_isBegun, .int w_o_readCards, .ref a_o_readColour, .int v_o_readDeals, .ref a_o_readDeal, .ref a_o_now, .ref a_o_then, .ref a_o_ring, .ref a_o_goes, .ref a_o_far, .ref a_o_met, .int w_o_metMany], jI E a_o_readDeal 16 f_o_readDeal, jI E a_o_text 200 f_o_text, jI E a_o_told 2 b1.2.2]) (st1 := fun b2 => [.int b2]) [0, 3] rfl rfl rfl h c_X10_isTold q_X10_isTold m3_220 rfl rfl (Nat.le_of_ble_eq_true rfl) ⟨(Nat.le_of_ble_eq_true rfl), (Nat.le_of_ble_eq_true rfl)⟩ ⟨rfl, rfl⟩ ⟨(Nat.le_of_ble_eq_true rfl), (Nat.le_of_ble_eq_true rfl)⟩ dX10_readDealOf_21 rfl (by decide) (fun _ => rfl) (fun _ => rfl) (fun _ => rfl) (fun b2 h => ?_)
      refine j_if_ne (pc := 24) (tgt := 29) dX10_readDealOf_24 (by decide) h (fun h => ?_) (fun h => ?_)
      · refine j_aload_n (pc := 29) 0 dX10_readDealOf_29 rfl rfl ?_
        refine j_get (pc := 30) (v := .ref a_o_readDeal) 0 19 rfl rfl (Nat.le_of_ble_eq_true rfl) iwX10 m3_123 rfl dX10_readDealOf_30 ?_
        refine j_aload_n (pc := 33) 0 dX10_readDealOf_33 rfl rfl ?_
        refine j_get (pc := 34) (v := .int v_o_readDeals) 0 18 rfl rfl (Nat.le_of_ble_eq_true rfl) iwX10 m3_122 rfl dX10_readDealOf_34 ?_
        refine j_iload_n (pc := 37) 1 dX10_readDealOf_37 rfl rfl ?_
        refine j_aload_n (pc := 38) 0 dX10_readDealOf_38 rfl rfl ?_
        refine j_get (pc := 39) (v := .ref a_o_told) 0 14 rfl rfl (Nat.le_of_ble_eq_true rfl) iwX10 m3_118 rfl dX10_readDealOf_39 ?_
        refine j_iconst (pc := 42) dX10_readDealOf_42 ic_0 ?_
        refine j_iald (pc := 43) 3 rfl dX10_readDealOf_43 h (fun h => ?_)
        refine j_iadd (pc := 44) dX10_readDealOf_44 ?_
        refine j_iast (pc := 45) (w' := [jO a_o 7 [.int w_o_cards, .ref a_o_colour, .int w_o_dealMany, .ref a_o_deal, .ref a_o_st, .int w_o_acts, .ref a_o_was, .int w_o_keeps, .ref a_o_kept, .int w_o_seens, .ref a_o_seen, .ref a_o_text, .int v_o_texted, .int b1.2.1, .ref a_o_told, .int w_o_isBegun, .int w_o_readCards, .ref a_o_readColour, .int v_o_readDeals, .ref a_o_readDeal, .ref a_o_now, .ref a_o_then, .ref a_o_ring, .ref a_o_goes, .ref a_o_far, .ref a_o_met, .int w_o_metMany], jI E a_o_readDeal 16 (upd f_o_readDeal v_o_readDeals.toNatClampNeg (x1 + (b1.2.2 (0 : Int32).toNatClampNeg))), jI E a_o_text 200 f_o_text, jI E a_o_told 2 b1.2.2]) 1 rfl dX10_readDealOf_45 h rfl (fun h => ?_)
        refine j_aload_n (pc := 46) 0 dX10_readDealOf_46 rfl rfl ?_
        refine j_dup (pc := 47) dX10_readDealOf_47 rfl ?_
        refine j_get (pc := 48) (v := .int v_o_readDeals) 0 18 rfl rfl (Nat.le_of_ble_eq_true rfl) iwX10 m3_122 rfl dX10_readDealOf_48 ?_
        refine j_iconst (pc := 51) dX10_readDealOf_51 ic_1 ?_
        refine j_iadd (pc := 52) dX10_readDealOf_52 ?_
        refine j_put (pc := 53) (w' := [jO a_o 7 [.int w_o_cards, .ref a_o_colour, .int w_o_dealMany, .ref a_o_deal, .ref a_o_st, .int w_o_acts, .ref a_o_was, .int w_o_keeps, .ref a_o_kept, .int w_o_seens, .ref a_o_seen, .ref a_o_text, .int v_o_texted, .int b1.2.1, .ref a_o_told, .int w_o_isBegun, .int w_o_readCards, .ref a_o_readColour, .int (v_o_readDeals + (1 : Int32)), .ref a_o_readDeal, .ref a_o_now, .ref a_o_then, .ref a_o_ring, .ref a_o_goes, .ref a_o_far, .ref a_o_met, .int w_o_metMany], jI E a_o_readDeal 16 (upd f_o_readDeal v_o_readDeals.toNatClampNeg (x1 + (b1.2.2 (0 : Int32).toNatClampNeg))), jI E a_o_text 200 f_o_text, jI E a_o_told 2 b1.2.2]) tyX10 0 18 tyX10_ok nmX10 rfl rfl (Nat.le_of_ble_eq_true rfl) iwX10 m3_122 rfl rfl rfl rfl (Nat.le_of_ble_eq_true rfl) dX10_readDealOf_53 rfl ?_
        refine j_iconst (pc := 56) dX10_readDealOf_56 ic_1 ?_
        cases h
        exact j_zret (pc := 57) rfl (Or.inr rfl) dX10_readDealOf_57 (Nat.le_of_ble_eq_true rfl) (Nat.le_of_ble_eq_true rfl) (jd_i rfl rfl)
      · refine j_iconst (pc := 27) dX10_readDealOf_27 ic_0 ?_
        cases h
        exact j_zret (pc := 28) rfl (Or.inl rfl) dX10_readDealOf_28 (Nat.le_of_ble_eq_true rfl) (Nat.le_of_ble_eq_true rfl) (jd_i rfl rfl)
set_option maxRecDepth 20000 in
theorem c_X10_readItem {l : Launch} {E : jE} {F : Nat} {v_o_texted : Int32} {f_o_text : Nat → Int32} {a_o a_o_colour a_o_deal a_o_st a_o_was a_o_kept a_o_seen a_o_text a_o_told a_o_readColour a_o_readDeal a_o_now a_o_then a_o_ring a_o_goes a_o_far a_o_met : Nat} {w_o_cards : Int32} {w_o_dealMany : Int32} {w_o_acts : Int32} {w_o_keeps : Int32} {w_o_seens : Int32} {w_o_metMany : Int32} {v_o_at : Int32} {v_o_isBegun : Int32} {v_o_readCards : Int32} {v_o_readDeals : Int32} {f_o_readColour : Nat → Int32} {f_o_readDeal : Nat → Int32} {f_o_told : Nat → Int32} : ∀ u : Int32 × Int32 × Int32 × Int32 × Int32 × (Nat → Int32) × (Nat → Int32) × (Nat → Int32), f_X10_readItem F v_o_texted f_o_text v_o_at v_o_isBegun v_o_readCards v_o_readDeals f_o_readColour f_o_readDeal f_o_told = some u → jM l E K_X10_readItem [.ref a_o] [jO a_o 7 [.int w_o_cards, .ref a_o_colour, .int w_o_dealMany, .ref a_o_deal, .ref a_o_st, .int w_o_acts, .ref a_o_was, .int w_o_keeps, .ref a_o_kept, .int w_o_seens, .ref a_o_seen, .ref a_o_text, .int v_o_texted, .int v_o_at, .ref a_o_told, .int v_o_isBegun, .int v_o_readCards, .ref a_o_readColour, .int v_o_readDeals, .ref a_o_readDeal, .ref a_o_now, .ref a_o_then, .ref a_o_ring, .ref a_o_goes, .ref a_o_far, .ref a_o_met, .int w_o_metMany], jI E a_o_readColour 16 f_o_readColour, jI E a_o_readDeal 16 f_o_readDeal, jI E a_o_text 200 f_o_text, jI E a_o_told 2 f_o_told] (jd (some (.int u.1)) [jO a_o 7 [.int w_o_cards, .ref a_o_colour, .int w_o_dealMany, .ref a_o_deal, .ref a_o_st, .int w_o_acts, .ref a_o_was, .int w_o_keeps, .ref a_o_kept, .int w_o_seens, .ref a_o_seen, .ref a_o_text, .int v_o_texted, .int u.2.1, .ref a_o_told, .int u.2.2.1, .int u.2.2.2.1, .ref a_o_readColour, .int u.2.2.2.2.1, .ref a_o_readDeal, .ref a_o_now, .ref a_o_then, .ref a_o_ring, .ref a_o_goes, .ref a_o_far, .ref a_o_met, .int w_o_metMany], jI E a_o_readColour 16 u.2.2.2.2.2.1, jI E a_o_readDeal 16 u.2.2.2.2.2.2.1, jI E a_o_text 200 f_o_text, jI E a_o_told 2 u.2.2.2.2.2.2.2]) := by
  intro u h
  unfold f_X10_readItem at h
  refine j_met [(0, .ref a_o)] (by decide +kernel) (Nat.le_of_ble_eq_true rfl) rfl ?_
  refine j_aload_n (pc := 0) 0 dX10_readItem_0 rfl rfl ?_
  refine j_aload_n (pc := 1) 0 dX10_readItem_1 rfl rfl ?_
  refine j_get (pc := 2) (v := .int v_o_at) 0 13 rfl rfl (Nat.le_of_ble_eq_true rfl) iwX10 m3_117 rfl dX10_readItem_2 ?_
  refine j_V (pc := 5) (q0 := 0) (Kc := K_X10_letterAt) (As := [.int v_o_at]) (rest := []) (wc := [jO a_o 7 [.int w_o_cards, .ref a_o_colour, .int w_o_dealMany, .ref a_o_deal, .ref a_o_st, .int w_o_acts, .ref a_o_was, .int w_o_keeps, .ref a_o_kept, .int w_o_seens, .ref a_o_seen, .ref a_o_text, .int v_o_texted, .int v_o_at, .ref a_o_told, .int v_o_isBegun, .int v_o_readCards, .ref a_o_readColour, .int v_o_readDeals, .ref a_o_readDeal, .ref a_o_now, .ref a_o_then, .ref a_o_ring, .ref a_o_goes, .ref a_o_far, .ref a_o_met, .int w_o_metMany], jI E a_o_text 200 f_o_text]) (w' := fun b1 => [jO a_o 7 [.int w_o_cards, .ref a_o_colour, .int w_o_dealMany, .ref a_o_deal, .ref a_o_st, .int w_o_acts, .ref a_o_was, .int w_o_keeps, .ref a_o_kept, .int w_o_seens, .ref a_o_seen, .ref a_o_text, .int v_o_texted, .int v_o_at, .ref a_o_told, .int v_o_isBegun, .int v_o_readCards, .ref a_o_readColour, .int v_o_readDeals, .ref a_o_readDeal, .ref a_o_now, .ref a_o_then, .ref a_o_ring, .ref a_o_goes, .ref a_o_far, .ref a_o_met, .int w_o_metMany], jI E a_o_readColour 16 f_o_readColour, jI E a_o_readDeal 16 f_o_readDeal, jI E a_o_text 200 f_o_text, jI E a_o_told 2 f_o_told]) (st1 := fun b1 => [.int b1]) [0, 3] rfl rfl rfl h c_X10_letterAt q_X10_letterAt m3_205 rfl rfl (Nat.le_of_ble_eq_true rfl) ⟨(Nat.le_of_ble_eq_true rfl), (Nat.le_of_ble_eq_true rfl)⟩ ⟨rfl, rfl⟩ ⟨(Nat.le_of_ble_eq_true rfl), (Nat.le_of_ble_eq_true rfl)⟩ dX10_readItem_5 rfl (by decide) (fun _ => rfl) (fun _ => rfl) (fun _ => rfl) (fun b1 h => ?_)
  refine j_istore_n (pc := 8) (lv' := [(1, .int b1), (0, .ref a_o)]) dX10_readItem_8 rfl (Nat.le_of_ble_eq_true rfl) rfl ?_
  refine j_aload_n (pc := 9) 1 dX10_readItem_9 rfl rfl ?_
  refine j_dup (pc := 10) dX10_readItem_10 rfl ?_
  refine j_get (pc := 11) (v := .int v_o_at) 0 13 rfl rfl (Nat.le_of_ble_eq_true rfl) iwX10 m3_117 rfl dX10_readItem_11 ?_
  refine j_iconst (pc := 14) dX10_readItem_14 ic_1 ?_
  refine j_iadd (pc := 15) dX10_readItem_15 ?_
  refine j_put (pc := 16) (w' := [jO a_o 7 [.int w_o_cards, .ref a_o_colour, .int w_o_dealMany, .ref a_o_deal, .ref a_o_st, .int w_o_acts, .ref a_o_was, .int w_o_keeps, .ref a_o_kept, .int w_o_seens, .ref a_o_seen, .ref a_o_text, .int v_o_texted, .int (v_o_at + (1 : Int32)), .ref a_o_told, .int v_o_isBegun, .int v_o_readCards, .ref a_o_readColour, .int v_o_readDeals, .ref a_o_readDeal, .ref a_o_now, .ref a_o_then, .ref a_o_ring, .ref a_o_goes, .ref a_o_far, .ref a_o_met, .int w_o_metMany], jI E a_o_readColour 16 f_o_readColour, jI E a_o_readDeal 16 f_o_readDeal, jI E a_o_text 200 f_o_text, jI E a_o_told 2 f_o_told]) tyX10 0 13 tyX10_ok nmX10 rfl rfl (Nat.le_of_ble_eq_true rfl) iwX10 m3_117 rfl rfl rfl rfl (Nat.le_of_ble_eq_true rfl) dX10_readItem_16 rfl ?_
  refine j_iload_n (pc := 19) 0 dX10_readItem_19 rfl rfl ?_
  refine j_bipush (pc := 20) dX10_readItem_20 bc_110 ?_
  refine j_icmp_ne (pc := 22) (tgt := 30) dX10_readItem_22 (by decide) h (fun h => ?_) (fun h => ?_)
  · refine j_aload_n (pc := 30) 1 dX10_readItem_30 rfl rfl ?_
    refine j_iconst (pc := 31) dX10_readItem_31 ic_1 ?_
    refine j_put (pc := 32) (w' := [jO a_o 7 [.int w_o_cards, .ref a_o_colour, .int w_o_dealMany, .ref a_o_deal, .ref a_o_st, .int w_o_acts, .ref a_o_was, .int w_o_keeps, .ref a_o_kept, .int w_o_seens, .ref a_o_seen, .ref a_o_text, .int v_o_texted, .int (v_o_at + (1 : Int32)), .ref a_o_told, .int (1 : Int32), .int v_o_readCards, .ref a_o_readColour, .int v_o_readDeals, .ref a_o_readDeal, .ref a_o_now, .ref a_o_then, .ref a_o_ring, .ref a_o_goes, .ref a_o_far, .ref a_o_met, .int w_o_metMany], jI E a_o_readColour 16 f_o_readColour, jI E a_o_readDeal 16 f_o_readDeal, jI E a_o_text 200 f_o_text, jI E a_o_told 2 f_o_told]) tyX10 0 15 tyX10_ok nmX10 rfl rfl (Nat.le_of_ble_eq_true rfl) iwX10 m3_119 rfl rfl (j_bz (Or.inr rfl)).1 (j_bz (Or.inr rfl)).2 (Nat.le_of_ble_eq_true rfl) dX10_readItem_32 rfl ?_
    refine j_iload_n (pc := 35) 0 dX10_readItem_35 rfl rfl ?_
    refine jbr h (fun z99 h => ?_) (fun z99 h => ?_)
    · refine j_lookup (pc := 36) (tgt := 72) (off := 36) dX10_readItem_36 (by decide) (by rw [z99]; decide +kernel) (by decide) ?_
      refine j_aload_n (pc := 72) 1 dX10_readItem_72 rfl rfl ?_
      refine j_V (pc := 73) (q0 := 0) (Kc := K_X10_readColourOf) (As := []) (rest := []) (wc := [jO a_o 7 [.int w_o_cards, .ref a_o_colour, .int w_o_dealMany, .ref a_o_deal, .ref a_o_st, .int w_o_acts, .ref a_o_was, .int w_o_keeps, .ref a_o_kept, .int w_o_seens, .ref a_o_seen, .ref a_o_text, .int v_o_texted, .int (v_o_at + (1 : Int32)), .ref a_o_told, .int (1 : Int32), .int v_o_readCards, .ref a_o_readColour, .int v_o_readDeals, .ref a_o_readDeal, .ref a_o_now, .ref a_o_then, .ref a_o_ring, .ref a_o_goes, .ref a_o_far, .ref a_o_met, .int w_o_metMany], jI E a_o_readColour 16 f_o_readColour, jI E a_o_text 200 f_o_text, jI E a_o_told 2 f_o_told]) (w' := fun b2 => [jO a_o 7 [.int w_o_cards, .ref a_o_colour, .int w_o_dealMany, .ref a_o_deal, .ref a_o_st, .int w_o_acts, .ref a_o_was, .int w_o_keeps, .ref a_o_kept, .int w_o_seens, .ref a_o_seen, .ref a_o_text, .int v_o_texted, .int b2.2.1, .ref a_o_told, .int (1 : Int32), .int v_o_readCards, .ref a_o_readColour, .int v_o_readDeals, .ref a_o_readDeal, .ref a_o_now, .ref a_o_then, .ref a_o_ring, .ref a_o_goes, .ref a_o_far, .ref a_o_met, .int w_o_metMany], jI E a_o_readColour 16 b2.2.2.1, jI E a_o_readDeal 16 f_o_readDeal, jI E a_o_text 200 f_o_text, jI E a_o_told 2 b2.2.2.2]) (st1 := fun b2 => [.int b2.1]) [0, 1, 3, 4] rfl rfl rfl h c_X10_readColourOf q_X10_readColourOf m3_224 rfl rfl (Nat.le_of_ble_eq_true rfl) ⟨(Nat.le_of_ble_eq_true rfl), (Nat.le_of_ble_eq_true rfl)⟩ ⟨rfl, rfl⟩ ⟨(Nat.le_of_ble_eq_true rfl), (Nat.le_of_ble_eq_true rfl)⟩ dX10_readItem_73 rfl (by decide) (fun _ => rfl) (fun _ => rfl) (fun _ => rfl) (fun b2 h => ?_)
      obtain ⟨hz, h⟩ := jgz_s h
      cases h
      exact j_zret (pc := 76) rfl hz dX10_readItem_76 (Nat.le_of_ble_eq_true rfl) (Nat.le_of_ble_eq_true rfl) (jd_i rfl rfl)
    refine jbr h (fun z108 h => ?_) (fun z108 h => ?_)
    · refine j_lookup (pc := 36) (tgt := 77) (off := 41) dX10_readItem_36 (by decide) (by rw [z108]; decide +kernel) (by decide) ?_
      refine j_aload_n (pc := 77) 1 dX10_readItem_77 rfl rfl ?_
      refine j_iconst (pc := 78) dX10_readItem_78 ic_0 ?_
      refine j_iconst (pc := 79) dX10_readItem_79 ic_4 ?_
      refine j_V (pc := 80) (q0 := 0) (Kc := K_X10_readDealOf) (As := [.int (0 : Int32), .int (4 : Int32)]) (rest := []) (wc := [jO a_o 7 [.int w_o_cards, .ref a_o_colour, .int w_o_dealMany, .ref a_o_deal, .ref a_o_st, .int w_o_acts, .ref a_o_was, .int w_o_keeps, .ref a_o_kept, .int w_o_seens, .ref a_o_seen, .ref a_o_text, .int v_o_texted, .int (v_o_at + (1 : Int32)), .ref a_o_told, .int (1 : Int32), .int v_o_readCards, .ref a_o_readColour, .int v_o_readDeals, .ref a_o_readDeal, .ref a_o_now, .ref a_o_then, .ref a_o_ring, .ref a_o_goes, .ref a_o_far, .ref a_o_met, .int w_o_metMany], jI E a_o_readDeal 16 f_o_readDeal, jI E a_o_text 200 f_o_text, jI E a_o_told 2 f_o_told]) (w' := fun b3 => [jO a_o 7 [.int w_o_cards, .ref a_o_colour, .int w_o_dealMany, .ref a_o_deal, .ref a_o_st, .int w_o_acts, .ref a_o_was, .int w_o_keeps, .ref a_o_kept, .int w_o_seens, .ref a_o_seen, .ref a_o_text, .int v_o_texted, .int b3.2.1, .ref a_o_told, .int (1 : Int32), .int v_o_readCards, .ref a_o_readColour, .int b3.2.2.1, .ref a_o_readDeal, .ref a_o_now, .ref a_o_then, .ref a_o_ring, .ref a_o_goes, .ref a_o_far, .ref a_o_met, .int w_o_metMany], jI E a_o_readColour 16 f_o_readColour, jI E a_o_readDeal 16 b3.2.2.2.1, jI E a_o_text 200 f_o_text, jI E a_o_told 2 b3.2.2.2.2]) (st1 := fun b3 => [.int b3.1]) [0, 2, 3, 4] rfl rfl rfl h c_X10_readDealOf q_X10_readDealOf m3_228 rfl rfl (Nat.le_of_ble_eq_true rfl) ⟨(Nat.le_of_ble_eq_true rfl), (Nat.le_of_ble_eq_true rfl)⟩ ⟨rfl, rfl⟩ ⟨(Nat.le_of_ble_eq_true rfl), (Nat.le_of_ble_eq_true rfl)⟩ dX10_readItem_80 rfl (by decide) (fun _ => rfl) (fun _ => rfl) (fun _ => rfl) (fun b3 h => ?_)
      obtain ⟨hz, h⟩ := jgz_s h
      cases h
      exact j_zret (pc := 83) rfl hz dX10_readItem_83 (Nat.le_of_ble_eq_true rfl) (Nat.le_of_ble_eq_true rfl) (jd_i rfl rfl)
    refine jbr h (fun z120 h => ?_) (fun z120 h => ?_)
    · refine j_lookup (pc := 36) (tgt := 84) (off := 48) dX10_readItem_36 (by decide) (by rw [z120]; decide +kernel) (by decide) ?_
      refine j_aload_n (pc := 84) 1 dX10_readItem_84 rfl rfl ?_
      refine j_bipush (pc := 85) dX10_readItem_85 bc_6 ?_
      refine j_aload_n (pc := 87) 1 dX10_readItem_87 rfl rfl ?_
      refine j_get (pc := 88) (v := .int v_o_readCards) 0 16 rfl rfl (Nat.le_of_ble_eq_true rfl) iwX10 m3_120 rfl dX10_readItem_88 ?_
      refine j_iconst (pc := 91) dX10_readItem_91 ic_1 ?_
      refine j_isub (pc := 92) dX10_readItem_92 ?_
      refine j_V (pc := 93) (q0 := 0) (Kc := K_X10_readDealOf) (As := [.int (6 : Int32), .int (v_o_readCards - (1 : Int32))]) (rest := []) (wc := [jO a_o 7 [.int w_o_cards, .ref a_o_colour, .int w_o_dealMany, .ref a_o_deal, .ref a_o_st, .int w_o_acts, .ref a_o_was, .int w_o_keeps, .ref a_o_kept, .int w_o_seens, .ref a_o_seen, .ref a_o_text, .int v_o_texted, .int (v_o_at + (1 : Int32)), .ref a_o_told, .int (1 : Int32), .int v_o_readCards, .ref a_o_readColour, .int v_o_readDeals, .ref a_o_readDeal, .ref a_o_now, .ref a_o_then, .ref a_o_ring, .ref a_o_goes, .ref a_o_far, .ref a_o_met, .int w_o_metMany], jI E a_o_readDeal 16 f_o_readDeal, jI E a_o_text 200 f_o_text, jI E a_o_told 2 f_o_told]) (w' := fun b4 => [jO a_o 7 [.int w_o_cards, .ref a_o_colour, .int w_o_dealMany, .ref a_o_deal, .ref a_o_st, .int w_o_acts, .ref a_o_was, .int w_o_keeps, .ref a_o_kept, .int w_o_seens, .ref a_o_seen, .ref a_o_text, .int v_o_texted, .int b4.2.1, .ref a_o_told, .int (1 : Int32), .int v_o_readCards, .ref a_o_readColour, .int b4.2.2.1, .ref a_o_readDeal, .ref a_o_now, .ref a_o_then, .ref a_o_ring, .ref a_o_goes, .ref a_o_far, .ref a_o_met, .int w_o_metMany], jI E a_o_readColour 16 f_o_readColour, jI E a_o_readDeal 16 b4.2.2.2.1, jI E a_o_text 200 f_o_text, jI E a_o_told 2 b4.2.2.2.2]) (st1 := fun b4 => [.int b4.1]) [0, 2, 3, 4] rfl rfl rfl h c_X10_readDealOf q_X10_readDealOf m3_228 rfl rfl (Nat.le_of_ble_eq_true rfl) ⟨(Nat.le_of_ble_eq_true rfl), (Nat.le_of_ble_eq_true rfl)⟩ ⟨rfl, rfl⟩ ⟨(Nat.le_of_ble_eq_true rfl), (Nat.le_of_ble_eq_true rfl)⟩ dX10_readItem_93 rfl (by decide) (fun _ => rfl) (fun _ => rfl) (fun _ => rfl) (fun b4 h => ?_)
      obtain ⟨hz, h⟩ := jgz_s h
      cases h
      exact j_zret (pc := 96) rfl hz dX10_readItem_96 (Nat.le_of_ble_eq_true rfl) (Nat.le_of_ble_eq_true rfl) (jd_i rfl rfl)
    refine j_lookup (pc := 36) (tgt := 97) (off := 61) dX10_readItem_36 (by decide) (by show Op.lookupswitch.offset [(99, 36), (108, 41), (120, 48)] 61 _ = _; rw [lv_osw z99 (by decide), lv_osw z108 (by decide), lv_osw z120 (by decide)]; rfl) (by decide) ?_
    refine j_iconst (pc := 97) dX10_readItem_97 ic_0 ?_
    cases h
    exact j_zret (pc := 98) rfl (Or.inl rfl) dX10_readItem_98 (Nat.le_of_ble_eq_true rfl) (Nat.le_of_ble_eq_true rfl) (jd_i rfl rfl)
  · refine j_aload_n (pc := 25) 1 dX10_readItem_25 rfl rfl ?_
    refine j_V (pc := 26) (q0 := 0) (Kc := K_X10_readCardsOf) (As := []) (rest := []) (wc := [jO a_o 7 [.int w_o_cards, .ref a_o_colour, .int w_o_dealMany, .ref a_o_deal, .ref a_o_st, .int w_o_acts, .ref a_o_was, .int w_o_keeps, .ref a_o_kept, .int w_o_seens, .ref a_o_seen, .ref a_o_text, .int v_o_texted, .int (v_o_at + (1 : Int32)), .ref a_o_told, .int v_o_isBegun, .int v_o_readCards, .ref a_o_readColour, .int v_o_readDeals, .ref a_o_readDeal, .ref a_o_now, .ref a_o_then, .ref a_o_ring, .ref a_o_goes, .ref a_o_far, .ref a_o_met, .int w_o_metMany], jI E a_o_text 200 f_o_text, jI E a_o_told 2 f_o_told]) (w' := fun b5 => [jO a_o 7 [.int w_o_cards, .ref a_o_colour, .int w_o_dealMany, .ref a_o_deal, .ref a_o_st, .int w_o_acts, .ref a_o_was, .int w_o_keeps, .ref a_o_kept, .int w_o_seens, .ref a_o_seen, .ref a_o_text, .int v_o_texted, .int b5.2.1, .ref a_o_told, .int v_o_isBegun, .int b5.2.2.1, .ref a_o_readColour, .int v_o_readDeals, .ref a_o_readDeal, .ref a_o_now, .ref a_o_then, .ref a_o_ring, .ref a_o_goes, .ref a_o_far, .ref a_o_met, .int w_o_metMany], jI E a_o_readColour 16 f_o_readColour, jI E a_o_readDeal 16 f_o_readDeal, jI E a_o_text 200 f_o_text, jI E a_o_told 2 b5.2.2.2]) (st1 := fun b5 => [.int b5.1]) [0, 3, 4] rfl rfl rfl h c_X10_readCardsOf q_X10_readCardsOf m3_209 rfl rfl (Nat.le_of_ble_eq_true rfl) ⟨(Nat.le_of_ble_eq_true rfl), (Nat.le_of_ble_eq_true rfl)⟩ ⟨rfl, rfl⟩ ⟨(Nat.le_of_ble_eq_true rfl), (Nat.le_of_ble_eq_true rfl)⟩ dX10_readItem_26 rfl (by decide) (fun _ => rfl) (fun _ => rfl) (fun _ => rfl) (fun b5 h => ?_)
    obtain ⟨hz, h⟩ := jgz_s h
    cases h
    exact j_zret (pc := 29) rfl hz dX10_readItem_29 (Nat.le_of_ble_eq_true rfl) (Nat.le_of_ble_eq_true rfl) (jd_i rfl rfl)
set_option maxRecDepth 20000 in
theorem w_X10_fault_9 {l : Launch} {E : jE} {F : Nat} {v_o_texted : Int32} {f_o_text : Nat → Int32} {a_o a_o_colour a_o_deal a_o_st a_o_was a_o_kept a_o_seen a_o_text a_o_told a_o_readColour a_o_readDeal a_o_now a_o_then a_o_ring a_o_goes a_o_far a_o_met : Nat} {w_o_cards : Int32} {w_o_dealMany : Int32} {w_o_acts : Int32} {w_o_keeps : Int32} {w_o_seens : Int32} {w_o_metMany : Int32} : ∀ (n : Nat) (v_o_at : Int32) (v_o_isBegun : Int32) (v_o_readCards : Int32) (v_o_readDeals : Int32) (f_o_readColour : Nat → Int32) (f_o_readDeal : Nat → Int32) (f_o_told : Nat → Int32) (u : Int32 × Int32 × Int32 × Int32 × Int32 × (Nat → Int32) × (Nat → Int32) × (Nat → Int32)), g_X10_fault_9 F v_o_texted f_o_text n v_o_at v_o_isBegun v_o_readCards v_o_readDeals f_o_readColour f_o_readDeal f_o_told = some u → jT l E K_X10_fault 0 0 9 [(0, .ref a_o)] [] [jO a_o 7 [.int w_o_cards, .ref a_o_colour, .int w_o_dealMany, .ref a_o_deal, .ref a_o_st, .int w_o_acts, .ref a_o_was, .int w_o_keeps, .ref a_o_kept, .int w_o_seens, .ref a_o_seen, .ref a_o_text, .int v_o_texted, .int v_o_at, .ref a_o_told, .int v_o_isBegun, .int v_o_readCards, .ref a_o_readColour, .int v_o_readDeals, .ref a_o_readDeal, .ref a_o_now, .ref a_o_then, .ref a_o_ring, .ref a_o_goes, .ref a_o_far, .ref a_o_met, .int w_o_metMany], jI E a_o_readColour 16 f_o_readColour, jI E a_o_readDeal 16 f_o_readDeal, jI E a_o_text 200 f_o_text, jI E a_o_told 2 f_o_told] (jd (some (.int u.1)) [jO a_o 7 [.int w_o_cards, .ref a_o_colour, .int w_o_dealMany, .ref a_o_deal, .ref a_o_st, .int w_o_acts, .ref a_o_was, .int w_o_keeps, .ref a_o_kept, .int w_o_seens, .ref a_o_seen, .ref a_o_text, .int v_o_texted, .int u.2.1, .ref a_o_told, .int u.2.2.1, .int u.2.2.2.1, .ref a_o_readColour, .int u.2.2.2.2.1, .ref a_o_readDeal, .ref a_o_now, .ref a_o_then, .ref a_o_ring, .ref a_o_goes, .ref a_o_far, .ref a_o_met, .int w_o_metMany], jI E a_o_readColour 16 u.2.2.2.2.2.1, jI E a_o_readDeal 16 u.2.2.2.2.2.2.1, jI E a_o_text 200 f_o_text, jI E a_o_told 2 u.2.2.2.2.2.2.2]) := by
  intro n
  induction n with
  | zero =>
    intro v_o_at v_o_isBegun v_o_readCards v_o_readDeals f_o_readColour f_o_readDeal f_o_told u h
    rw [g_X10_fault_9] at h
    cases h
  | succ n ih =>
    intro v_o_at v_o_isBegun v_o_readCards v_o_readDeals f_o_readColour f_o_readDeal f_o_told u h
    rw [g_X10_fault_9] at h
    refine j_aload_n (pc := 9) 0 dX10_fault_9 rfl rfl ?_
    refine j_get (pc := 10) (v := .int v_o_at) 0 13 rfl rfl (Nat.le_of_ble_eq_true rfl) iwX10 m3_117 rfl dX10_fault_10 ?_
    refine j_aload_n (pc := 13) 0 dX10_fault_13 rfl rfl ?_
    refine j_get (pc := 14) (v := .int v_o_texted) 0 12 rfl rfl (Nat.le_of_ble_eq_true rfl) iwX10 m3_116 rfl dX10_fault_14 ?_
    refine j_icmp_ge (pc := 17) (tgt := 37) dX10_fault_17 (by decide) h (fun h => ?_) (fun h => ?_)
    · refine j_bipush (pc := 37) dX10_fault_37 bc_m4 ?_
      cases h
      exact j_iret (pc := 39) rfl dX10_fault_39 (Nat.le_of_ble_eq_true rfl) (Nat.le_of_ble_eq_true rfl) (jd_i rfl rfl)
    · refine j_aload_n (pc := 20) 0 dX10_fault_20 rfl rfl ?_
      refine j_get (pc := 21) (v := .int v_o_at) 0 13 rfl rfl (Nat.le_of_ble_eq_true rfl) iwX10 m3_117 rfl dX10_fault_21 ?_
      refine j_istore_n (pc := 24) (lv' := [(1, .int v_o_at), (0, .ref a_o)]) dX10_fault_24 rfl (Nat.le_of_ble_eq_true rfl) rfl ?_
      refine j_aload_n (pc := 25) 1 dX10_fault_25 rfl rfl ?_
      refine j_V (pc := 26) (q0 := 0) (Kc := K_X10_readItem) (As := []) (rest := []) (wc := [jO a_o 7 [.int w_o_cards, .ref a_o_colour, .int w_o_dealMany, .ref a_o_deal, .ref a_o_st, .int w_o_acts, .ref a_o_was, .int w_o_keeps, .ref a_o_kept, .int w_o_seens, .ref a_o_seen, .ref a_o_text, .int v_o_texted, .int v_o_at, .ref a_o_told, .int v_o_isBegun, .int v_o_readCards, .ref a_o_readColour, .int v_o_readDeals, .ref a_o_readDeal, .ref a_o_now, .ref a_o_then, .ref a_o_ring, .ref a_o_goes, .ref a_o_far, .ref a_o_met, .int w_o_metMany], jI E a_o_readColour 16 f_o_readColour, jI E a_o_readDeal 16 f_o_readDeal, jI E a_o_text 200 f_o_text, jI E a_o_told 2 f_o_told]) (w' := fun b1 => [jO a_o 7 [.int w_o_cards, .ref a_o_colour, .int w_o_dealMany, .ref a_o_deal, .ref a_o_st, .int w_o_acts, .ref a_o_was, .int w_o_keeps, .ref a_o_kept, .int w_o_seens, .ref a_o_seen, .ref a_o_text, .int v_o_texted, .int b1.2.1, .ref a_o_told, .int b1.2.2.1, .int b1.2.2.2.1, .ref a_o_readColour, .int b1.2.2.2.2.1, .ref a_o_readDeal, .ref a_o_now, .ref a_o_then, .ref a_o_ring, .ref a_o_goes, .ref a_o_far, .ref a_o_met, .int w_o_metMany], jI E a_o_readColour 16 b1.2.2.2.2.2.1, jI E a_o_readDeal 16 b1.2.2.2.2.2.2.1, jI E a_o_text 200 f_o_text, jI E a_o_told 2 b1.2.2.2.2.2.2.2]) (st1 := fun b1 => [.int b1.1]) [0, 1, 2, 3, 4] rfl rfl rfl h c_X10_readItem q_X10_readItem m3_201 rfl rfl (Nat.le_of_ble_eq_true rfl) ⟨(Nat.le_of_ble_eq_true rfl), (Nat.le_of_ble_eq_true rfl)⟩ ⟨rfl, rfl⟩ ⟨(Nat.le_of_ble_eq_true rfl), (Nat.le_of_ble_eq_true rfl)⟩ dX10_fault_26 rfl (by decide) (fun _ => rfl) (fun _ => rfl) (fun _ => rfl) (fun b1 h => ?_)
      refine j_if_ne (pc := 29) (tgt := 34) dX10_fault_29 (by decide) h (fun h => ?_) (fun h => ?_)
      · refine j_goto (pc := 34) (tgt := 9) dX10_fault_34 (by decide) ?_
        exact j_sub (lv' := [(0, .ref a_o)]) [1] rfl (ih _ _ _ _ _ _ _ u h)
      · refine j_iload_n (pc := 32) 0 dX10_fault_32 rfl rfl ?_
        cases h
        exact j_iret (pc := 33) rfl dX10_fault_33 (Nat.le_of_ble_eq_true rfl) (Nat.le_of_ble_eq_true rfl) (jd_i rfl rfl)
set_option maxRecDepth 20000 in
theorem c_X10_fault {l : Launch} {E : jE} {F : Nat} {v_o_texted : Int32} {f_o_text : Nat → Int32} {a_o a_o_colour a_o_deal a_o_st a_o_was a_o_kept a_o_seen a_o_text a_o_told a_o_readColour a_o_readDeal a_o_now a_o_then a_o_ring a_o_goes a_o_far a_o_met : Nat} {w_o_cards : Int32} {w_o_dealMany : Int32} {w_o_acts : Int32} {w_o_keeps : Int32} {w_o_seens : Int32} {w_o_metMany : Int32} {v_o_at : Int32} {v_o_isBegun : Int32} {v_o_readCards : Int32} {v_o_readDeals : Int32} {f_o_readColour : Nat → Int32} {f_o_readDeal : Nat → Int32} {f_o_told : Nat → Int32} : ∀ u : Int32 × Int32 × Int32 × Int32 × Int32 × (Nat → Int32) × (Nat → Int32) × (Nat → Int32), f_X10_fault F v_o_texted f_o_text v_o_at v_o_isBegun v_o_readCards v_o_readDeals f_o_readColour f_o_readDeal f_o_told = some u → jM l E K_X10_fault [.ref a_o] [jO a_o 7 [.int w_o_cards, .ref a_o_colour, .int w_o_dealMany, .ref a_o_deal, .ref a_o_st, .int w_o_acts, .ref a_o_was, .int w_o_keeps, .ref a_o_kept, .int w_o_seens, .ref a_o_seen, .ref a_o_text, .int v_o_texted, .int v_o_at, .ref a_o_told, .int v_o_isBegun, .int v_o_readCards, .ref a_o_readColour, .int v_o_readDeals, .ref a_o_readDeal, .ref a_o_now, .ref a_o_then, .ref a_o_ring, .ref a_o_goes, .ref a_o_far, .ref a_o_met, .int w_o_metMany], jI E a_o_readColour 16 f_o_readColour, jI E a_o_readDeal 16 f_o_readDeal, jI E a_o_text 200 f_o_text, jI E a_o_told 2 f_o_told] (jd (some (.int u.1)) [jO a_o 7 [.int w_o_cards, .ref a_o_colour, .int w_o_dealMany, .ref a_o_deal, .ref a_o_st, .int w_o_acts, .ref a_o_was, .int w_o_keeps, .ref a_o_kept, .int w_o_seens, .ref a_o_seen, .ref a_o_text, .int v_o_texted, .int u.2.1, .ref a_o_told, .int u.2.2.1, .int u.2.2.2.1, .ref a_o_readColour, .int u.2.2.2.2.1, .ref a_o_readDeal, .ref a_o_now, .ref a_o_then, .ref a_o_ring, .ref a_o_goes, .ref a_o_far, .ref a_o_met, .int w_o_metMany], jI E a_o_readColour 16 u.2.2.2.2.2.1, jI E a_o_readDeal 16 u.2.2.2.2.2.2.1, jI E a_o_text 200 f_o_text, jI E a_o_told 2 u.2.2.2.2.2.2.2]) := by
  intro u h
  unfold f_X10_fault at h
  refine j_met [(0, .ref a_o)] (by decide +kernel) (Nat.le_of_ble_eq_true rfl) rfl ?_
  refine j_aload_n (pc := 0) 0 dX10_fault_0 rfl rfl ?_
  refine j_iconst (pc := 1) dX10_fault_1 ic_0 ?_
  refine j_put (pc := 2) (w' := [jO a_o 7 [.int w_o_cards, .ref a_o_colour, .int w_o_dealMany, .ref a_o_deal, .ref a_o_st, .int w_o_acts, .ref a_o_was, .int w_o_keeps, .ref a_o_kept, .int w_o_seens, .ref a_o_seen, .ref a_o_text, .int v_o_texted, .int (0 : Int32), .ref a_o_told, .int v_o_isBegun, .int v_o_readCards, .ref a_o_readColour, .int v_o_readDeals, .ref a_o_readDeal, .ref a_o_now, .ref a_o_then, .ref a_o_ring, .ref a_o_goes, .ref a_o_far, .ref a_o_met, .int w_o_metMany], jI E a_o_readColour 16 f_o_readColour, jI E a_o_readDeal 16 f_o_readDeal, jI E a_o_text 200 f_o_text, jI E a_o_told 2 f_o_told]) tyX10 0 13 tyX10_ok nmX10 rfl rfl (Nat.le_of_ble_eq_true rfl) iwX10 m3_117 rfl rfl rfl rfl (Nat.le_of_ble_eq_true rfl) dX10_fault_2 rfl ?_
  refine j_aload_n (pc := 5) 0 dX10_fault_5 rfl rfl ?_
  refine j_V (pc := 6) (q0 := 0) (Kc := K_X10_clearTold) (As := []) (rest := []) (wc := [jO a_o 7 [.int w_o_cards, .ref a_o_colour, .int w_o_dealMany, .ref a_o_deal, .ref a_o_st, .int w_o_acts, .ref a_o_was, .int w_o_keeps, .ref a_o_kept, .int w_o_seens, .ref a_o_seen, .ref a_o_text, .int v_o_texted, .int (0 : Int32), .ref a_o_told, .int v_o_isBegun, .int v_o_readCards, .ref a_o_readColour, .int v_o_readDeals, .ref a_o_readDeal, .ref a_o_now, .ref a_o_then, .ref a_o_ring, .ref a_o_goes, .ref a_o_far, .ref a_o_met, .int w_o_metMany], jI E a_o_readColour 16 f_o_readColour]) (w' := fun b1 => [jO a_o 7 [.int w_o_cards, .ref a_o_colour, .int w_o_dealMany, .ref a_o_deal, .ref a_o_st, .int w_o_acts, .ref a_o_was, .int w_o_keeps, .ref a_o_kept, .int w_o_seens, .ref a_o_seen, .ref a_o_text, .int v_o_texted, .int (0 : Int32), .ref a_o_told, .int b1.1, .int b1.2.1, .ref a_o_readColour, .int b1.2.2.1, .ref a_o_readDeal, .ref a_o_now, .ref a_o_then, .ref a_o_ring, .ref a_o_goes, .ref a_o_far, .ref a_o_met, .int w_o_metMany], jI E a_o_readColour 16 b1.2.2.2, jI E a_o_readDeal 16 f_o_readDeal, jI E a_o_text 200 f_o_text, jI E a_o_told 2 f_o_told]) (st1 := fun b1 => []) [0, 1] rfl rfl rfl h c_X10_clearTold q_X10_clearTold m3_86 rfl rfl (Nat.le_of_ble_eq_true rfl) ⟨(Nat.le_of_ble_eq_true rfl), (Nat.le_of_ble_eq_true rfl)⟩ ⟨rfl, rfl⟩ ⟨(Nat.le_of_ble_eq_true rfl), (Nat.le_of_ble_eq_true rfl)⟩ dX10_fault_6 rfl (by decide) (fun _ => rfl) (fun _ => rfl) (fun _ => rfl) (fun b1 h => ?_)
  exact w_X10_fault_9 _ _ _ _ _ _ _ _ u h
set_option maxRecDepth 20000 in
theorem c_X10_lay {l : Launch} {E : jE} {F : Nat} {v_o_texted : Int32} {f_o_text : Nat → Int32} {a_o a_o_colour a_o_deal a_o_st a_o_was a_o_kept a_o_seen a_o_text a_o_told a_o_readColour a_o_readDeal a_o_now a_o_then a_o_ring a_o_goes a_o_far a_o_met : Nat} {w_o_metMany : Int32} {v_o_cards : Int32} {v_o_dealMany : Int32} {v_o_acts : Int32} {v_o_keeps : Int32} {v_o_seens : Int32} {v_o_at : Int32} {v_o_isBegun : Int32} {v_o_readCards : Int32} {v_o_readDeals : Int32} {f_o_colour : Nat → Int32} {f_o_deal : Nat → Int32} {f_o_readColour : Nat → Int32} {f_o_readDeal : Nat → Int32} {f_o_st : Nat → Int32} {f_o_told : Nat → Int32} : ∀ u : Int32 × Int32 × Int32 × Int32 × Int32 × Int32 × Int32 × Int32 × Int32 × Int32 × (Nat → Int32) × (Nat → Int32) × (Nat → Int32) × (Nat → Int32) × (Nat → Int32) × (Nat → Int32), f_X10_lay F v_o_texted f_o_text v_o_cards v_o_dealMany v_o_acts v_o_keeps v_o_seens v_o_at v_o_isBegun v_o_readCards v_o_readDeals f_o_colour f_o_deal f_o_readColour f_o_readDeal f_o_st f_o_told = some u → jM l E K_X10_lay [.ref a_o] [jO a_o 7 [.int v_o_cards, .ref a_o_colour, .int v_o_dealMany, .ref a_o_deal, .ref a_o_st, .int v_o_acts, .ref a_o_was, .int v_o_keeps, .ref a_o_kept, .int v_o_seens, .ref a_o_seen, .ref a_o_text, .int v_o_texted, .int v_o_at, .ref a_o_told, .int v_o_isBegun, .int v_o_readCards, .ref a_o_readColour, .int v_o_readDeals, .ref a_o_readDeal, .ref a_o_now, .ref a_o_then, .ref a_o_ring, .ref a_o_goes, .ref a_o_far, .ref a_o_met, .int w_o_metMany], jI E a_o_colour 16 f_o_colour, jI E a_o_deal 16 f_o_deal, jI E a_o_readColour 16 f_o_readColour, jI E a_o_readDeal 16 f_o_readDeal, jI E a_o_st 16 f_o_st, jI E a_o_text 200 f_o_text, jI E a_o_told 2 f_o_told] (jd (some (.int u.1)) [jO a_o 7 [.int u.2.1, .ref a_o_colour, .int u.2.2.1, .ref a_o_deal, .ref a_o_st, .int u.2.2.2.1, .ref a_o_was, .int u.2.2.2.2.1, .ref a_o_kept, .int u.2.2.2.2.2.1, .ref a_o_seen, .ref a_o_text, .int v_o_texted, .int u.2.2.2.2.2.2.1, .ref a_o_told, .int u.2.2.2.2.2.2.2.1, .int u.2.2.2.2.2.2.2.2.1, .ref a_o_readColour, .int u.2.2.2.2.2.2.2.2.2.1, .ref a_o_readDeal, .ref a_o_now, .ref a_o_then, .ref a_o_ring, .ref a_o_goes, .ref a_o_far, .ref a_o_met, .int w_o_metMany], jI E a_o_colour 16 u.2.2.2.2.2.2.2.2.2.2.1, jI E a_o_deal 16 u.2.2.2.2.2.2.2.2.2.2.2.1, jI E a_o_readColour 16 u.2.2.2.2.2.2.2.2.2.2.2.2.1, jI E a_o_readDeal 16 u.2.2.2.2.2.2.2.2.2.2.2.2.2.1, jI E a_o_st 16 u.2.2.2.2.2.2.2.2.2.2.2.2.2.2.1, jI E a_o_text 200 f_o_text, jI E a_o_told 2 u.2.2.2.2.2.2.2.2.2.2.2.2.2.2.2]) := by
  intro u h
  unfold f_X10_lay at h
  refine j_met [(0, .ref a_o)] (by decide +kernel) (Nat.le_of_ble_eq_true rfl) rfl ?_
  refine j_aload_n (pc := 0) 0 dX10_lay_0 rfl rfl ?_
  refine j_get (pc := 1) (v := .int v_o_texted) 0 12 rfl rfl (Nat.le_of_ble_eq_true rfl) iwX10 m3_116 rfl dX10_lay_1 ?_
  refine j_if_eq (pc := 4) (tgt := 16) dX10_lay_4 (by decide) h (fun h => ?_) (fun h => ?_)
  · refine j_bipush (pc := 16) dX10_lay_16 bc_m2 ?_
    cases h
    exact j_iret (pc := 18) rfl dX10_lay_18 (Nat.le_of_ble_eq_true rfl) (Nat.le_of_ble_eq_true rfl) (jd_i rfl rfl)
  · refine j_aload_n (pc := 7) 0 dX10_lay_7 rfl rfl ?_
    refine j_V (pc := 8) (q0 := 0) (Kc := K_X10_fault) (As := []) (rest := []) (wc := [jO a_o 7 [.int v_o_cards, .ref a_o_colour, .int v_o_dealMany, .ref a_o_deal, .ref a_o_st, .int v_o_acts, .ref a_o_was, .int v_o_keeps, .ref a_o_kept, .int v_o_seens, .ref a_o_seen, .ref a_o_text, .int v_o_texted, .int v_o_at, .ref a_o_told, .int v_o_isBegun, .int v_o_readCards, .ref a_o_readColour, .int v_o_readDeals, .ref a_o_readDeal, .ref a_o_now, .ref a_o_then, .ref a_o_ring, .ref a_o_goes, .ref a_o_far, .ref a_o_met, .int w_o_metMany], jI E a_o_readColour 16 f_o_readColour, jI E a_o_readDeal 16 f_o_readDeal, jI E a_o_text 200 f_o_text, jI E a_o_told 2 f_o_told]) (w' := fun b1 => [jO a_o 7 [.int v_o_cards, .ref a_o_colour, .int v_o_dealMany, .ref a_o_deal, .ref a_o_st, .int v_o_acts, .ref a_o_was, .int v_o_keeps, .ref a_o_kept, .int v_o_seens, .ref a_o_seen, .ref a_o_text, .int v_o_texted, .int b1.2.1, .ref a_o_told, .int b1.2.2.1, .int b1.2.2.2.1, .ref a_o_readColour, .int b1.2.2.2.2.1, .ref a_o_readDeal, .ref a_o_now, .ref a_o_then, .ref a_o_ring, .ref a_o_goes, .ref a_o_far, .ref a_o_met, .int w_o_metMany], jI E a_o_colour 16 f_o_colour, jI E a_o_deal 16 f_o_deal, jI E a_o_readColour 16 b1.2.2.2.2.2.1, jI E a_o_readDeal 16 b1.2.2.2.2.2.2.1, jI E a_o_st 16 f_o_st, jI E a_o_text 200 f_o_text, jI E a_o_told 2 b1.2.2.2.2.2.2.2]) (st1 := fun b1 => [.int b1.1]) [0, 3, 4, 6, 7] rfl rfl rfl h c_X10_fault q_X10_fault m3_236 rfl rfl (Nat.le_of_ble_eq_true rfl) ⟨(Nat.le_of_ble_eq_true rfl), (Nat.le_of_ble_eq_true rfl)⟩ ⟨rfl, rfl⟩ ⟨(Nat.le_of_ble_eq_true rfl), (Nat.le_of_ble_eq_true rfl)⟩ dX10_lay_8 rfl (by decide) (fun _ => rfl) (fun _ => rfl) (fun _ => rfl) (fun b1 h => ?_)
    refine j_bipush (pc := 11) dX10_lay_11 bc_m4 ?_
    refine j_icmp_eq (pc := 13) (tgt := 19) dX10_lay_13 (by decide) h (fun h => ?_) (fun h => ?_)
    · refine j_aload_n (pc := 19) 0 dX10_lay_19 rfl rfl ?_
      refine j_V (pc := 20) (q0 := 0) (Kc := K_X10_settles) (As := []) (rest := []) (wc := [jO a_o 7 [.int v_o_cards, .ref a_o_colour, .int v_o_dealMany, .ref a_o_deal, .ref a_o_st, .int v_o_acts, .ref a_o_was, .int v_o_keeps, .ref a_o_kept, .int v_o_seens, .ref a_o_seen, .ref a_o_text, .int v_o_texted, .int b1.2.1, .ref a_o_told, .int b1.2.2.1, .int b1.2.2.2.1, .ref a_o_readColour, .int b1.2.2.2.2.1, .ref a_o_readDeal, .ref a_o_now, .ref a_o_then, .ref a_o_ring, .ref a_o_goes, .ref a_o_far, .ref a_o_met, .int w_o_metMany], jI E a_o_colour 16 f_o_colour, jI E a_o_deal 16 f_o_deal, jI E a_o_readColour 16 b1.2.2.2.2.2.1, jI E a_o_readDeal 16 b1.2.2.2.2.2.2.1, jI E a_o_st 16 f_o_st]) (w' := fun b2 => [jO a_o 7 [.int b2.1, .ref a_o_colour, .int b2.2.1, .ref a_o_deal, .ref a_o_st, .int b2.2.2.1, .ref a_o_was, .int b2.2.2.2.1, .ref a_o_kept, .int b2.2.2.2.2.1, .ref a_o_seen, .ref a_o_text, .int v_o_texted, .int b1.2.1, .ref a_o_told, .int b1.2.2.1, .int b1.2.2.2.1, .ref a_o_readColour, .int b1.2.2.2.2.1, .ref a_o_readDeal, .ref a_o_now, .ref a_o_then, .ref a_o_ring, .ref a_o_goes, .ref a_o_far, .ref a_o_met, .int w_o_metMany], jI E a_o_colour 16 b2.2.2.2.2.2.1, jI E a_o_deal 16 b2.2.2.2.2.2.2.1, jI E a_o_readColour 16 b1.2.2.2.2.2.1, jI E a_o_readDeal 16 b1.2.2.2.2.2.2.1, jI E a_o_st 16 b2.2.2.2.2.2.2.2, jI E a_o_text 200 f_o_text, jI E a_o_told 2 b1.2.2.2.2.2.2.2]) (st1 := fun b2 => []) [0, 1, 2, 3, 4, 5] rfl rfl rfl h c_X10_settles q_X10_settles m3_94 rfl rfl (Nat.le_of_ble_eq_true rfl) ⟨(Nat.le_of_ble_eq_true rfl), (Nat.le_of_ble_eq_true rfl)⟩ ⟨rfl, rfl⟩ ⟨(Nat.le_of_ble_eq_true rfl), (Nat.le_of_ble_eq_true rfl)⟩ dX10_lay_20 rfl (by decide) (fun _ => rfl) (fun _ => rfl) (fun _ => rfl) (fun b2 h => ?_)
      refine j_aload_n (pc := 23) 0 dX10_lay_23 rfl rfl ?_
      refine j_get (pc := 24) (v := .int b2.1) 0 0 rfl rfl (Nat.le_of_ble_eq_true rfl) iwX10 m3_104 rfl dX10_lay_24 ?_
      cases h
      exact j_iret (pc := 27) rfl dX10_lay_27 (Nat.le_of_ble_eq_true rfl) (Nat.le_of_ble_eq_true rfl) (jd_i rfl rfl)
    · refine j_bipush (pc := 16) dX10_lay_16 bc_m2 ?_
      cases h
      exact j_iret (pc := 18) rfl dX10_lay_18 (Nat.le_of_ble_eq_true rfl) (Nat.le_of_ble_eq_true rfl) (jd_i rfl rfl)
set_option maxRecDepth 20000 in
theorem c_X10_asItIs {l : Launch} {E : jE} {F : Nat} {f_o_st : Nat → Int32} {a_o a_o_colour a_o_deal a_o_st a_o_was a_o_kept a_o_seen a_o_text a_o_told a_o_readColour a_o_readDeal a_o_now a_o_then a_o_ring a_o_goes a_o_far a_o_met : Nat} {w_o_cards : Int32} {w_o_dealMany : Int32} {w_o_acts : Int32} {w_o_keeps : Int32} {w_o_seens : Int32} {w_o_texted : Int32} {w_o_at : Int32} {w_o_isBegun : Int32} {w_o_readCards : Int32} {w_o_readDeals : Int32} {w_o_metMany : Int32} {f_o_now : Nat → Int32} : ∀ u : (Nat → Int32), f_X10_asItIs F f_o_st f_o_now = some u → jM l E K_X10_asItIs [.ref a_o] [jO a_o 7 [.int w_o_cards, .ref a_o_colour, .int w_o_dealMany, .ref a_o_deal, .ref a_o_st, .int w_o_acts, .ref a_o_was, .int w_o_keeps, .ref a_o_kept, .int w_o_seens, .ref a_o_seen, .ref a_o_text, .int w_o_texted, .int w_o_at, .ref a_o_told, .int w_o_isBegun, .int w_o_readCards, .ref a_o_readColour, .int w_o_readDeals, .ref a_o_readDeal, .ref a_o_now, .ref a_o_then, .ref a_o_ring, .ref a_o_goes, .ref a_o_far, .ref a_o_met, .int w_o_metMany], jI E a_o_now 16 f_o_now, jI E a_o_st 16 f_o_st] (jd none [jO a_o 7 [.int w_o_cards, .ref a_o_colour, .int w_o_dealMany, .ref a_o_deal, .ref a_o_st, .int w_o_acts, .ref a_o_was, .int w_o_keeps, .ref a_o_kept, .int w_o_seens, .ref a_o_seen, .ref a_o_text, .int w_o_texted, .int w_o_at, .ref a_o_told, .int w_o_isBegun, .int w_o_readCards, .ref a_o_readColour, .int w_o_readDeals, .ref a_o_readDeal, .ref a_o_now, .ref a_o_then, .ref a_o_ring, .ref a_o_goes, .ref a_o_far, .ref a_o_met, .int w_o_metMany], jI E a_o_now 16 u, jI E a_o_st 16 f_o_st]) := by
  intro u h
  unfold f_X10_asItIs at h
  refine j_met [(0, .ref a_o)] (by decide +kernel) (Nat.le_of_ble_eq_true rfl) rfl ?_
  refine j_aload_n (pc := 0) 0 dX10_asItIs_0 rfl rfl ?_
  refine j_get (pc := 1) (v := .ref a_o_now) 0 20 rfl rfl (Nat.le_of_ble_eq_true rfl) iwX10 m3_124 rfl dX10_asItIs_1 ?_
  refine j_iconst (pc := 4) dX10_asItIs_4 ic_0 ?_
  refine j_aload_n (pc := 5) 0 dX10_asItIs_5 rfl rfl ?_
  refine j_get (pc := 6) (v := .ref a_o_st) 0 4 rfl rfl (Nat.le_of_ble_eq_true rfl) iwX10 m3_108 rfl dX10_asItIs_6 ?_
  refine j_iconst (pc := 9) dX10_asItIs_9 ic_0 ?_
  refine j_bipush (pc := 10) dX10_asItIs_10 bc_16 ?_
  refine j_S (pc := 12) (Kc := K_X10_copies) (As := [.ref a_o_now, .int (0 : Int32), .ref a_o_st, .int (0 : Int32), .int (16 : Int32)]) (rest := []) (wc := [jI E a_o_now 16 f_o_now, jI E a_o_st 16 f_o_st]) (w' := fun b1 => [jO a_o 7 [.int w_o_cards, .ref a_o_colour, .int w_o_dealMany, .ref a_o_deal, .ref a_o_st, .int w_o_acts, .ref a_o_was, .int w_o_keeps, .ref a_o_kept, .int w_o_seens, .ref a_o_seen, .ref a_o_text, .int w_o_texted, .int w_o_at, .ref a_o_told, .int w_o_isBegun, .int w_o_readCards, .ref a_o_readColour, .int w_o_readDeals, .ref a_o_readDeal, .ref a_o_now, .ref a_o_then, .ref a_o_ring, .ref a_o_goes, .ref a_o_far, .ref a_o_met, .int w_o_metMany], jI E a_o_now 16 b1, jI E a_o_st 16 f_o_st]) (st1 := fun b1 => []) [1, 2] h c_X10_copies q_X10_copies m3_98 rfl rfl (Nat.le_of_ble_eq_true rfl) ⟨(Nat.le_of_ble_eq_true rfl), (Nat.le_of_ble_eq_true rfl)⟩ ⟨rfl, rfl⟩ ⟨(Nat.le_of_ble_eq_true rfl), (Nat.le_of_ble_eq_true rfl)⟩ dX10_asItIs_12 rfl (by decide) (fun _ => rfl) (fun _ => rfl) (fun _ => rfl) (fun b1 h => ?_)
  cases h
  exact j_vret (pc := 15) rfl dX10_asItIs_15 (Nat.le_of_ble_eq_true rfl) (Nat.le_of_ble_eq_true rfl) (jd_i rfl rfl)
set_option maxRecDepth 20000 in
theorem w_X10_falls_3 {l : Launch} {E : jE} {F : Nat} {x1 : Int32} {x2 : Int32} {x3 : Int32} {v_o_cards : Int32} {f_o_now : Nat → Int32} {a_o a_o_colour a_o_deal a_o_st a_o_was a_o_kept a_o_seen a_o_text a_o_told a_o_readColour a_o_readDeal a_o_now a_o_then a_o_ring a_o_goes a_o_far a_o_met : Nat} {w_o_dealMany : Int32} {w_o_acts : Int32} {w_o_keeps : Int32} {w_o_seens : Int32} {w_o_texted : Int32} {w_o_at : Int32} {w_o_isBegun : Int32} {w_o_readCards : Int32} {w_o_readDeals : Int32} {w_o_metMany : Int32} : ∀ (n : Nat) (x4 : Int32) (f_o_then : Nat → Int32) (u : (Nat → Int32)), g_X10_falls_3 F x1 x2 x3 v_o_cards f_o_now n x4 f_o_then = some u → jT l E K_X10_falls 0 0 3 [(0, .ref a_o), (1, .int x1), (2, .int x2), (3, .int x3), (4, .int x4)] [] [jO a_o 7 [.int v_o_cards, .ref a_o_colour, .int w_o_dealMany, .ref a_o_deal, .ref a_o_st, .int w_o_acts, .ref a_o_was, .int w_o_keeps, .ref a_o_kept, .int w_o_seens, .ref a_o_seen, .ref a_o_text, .int w_o_texted, .int w_o_at, .ref a_o_told, .int w_o_isBegun, .int w_o_readCards, .ref a_o_readColour, .int w_o_readDeals, .ref a_o_readDeal, .ref a_o_now, .ref a_o_then, .ref a_o_ring, .ref a_o_goes, .ref a_o_far, .ref a_o_met, .int w_o_metMany], jI E a_o_now 16 f_o_now, jI E a_o_then 16 f_o_then] (jd none [jO a_o 7 [.int v_o_cards, .ref a_o_colour, .int w_o_dealMany, .ref a_o_deal, .ref a_o_st, .int w_o_acts, .ref a_o_was, .int w_o_keeps, .ref a_o_kept, .int w_o_seens, .ref a_o_seen, .ref a_o_text, .int w_o_texted, .int w_o_at, .ref a_o_told, .int w_o_isBegun, .int w_o_readCards, .ref a_o_readColour, .int w_o_readDeals, .ref a_o_readDeal, .ref a_o_now, .ref a_o_then, .ref a_o_ring, .ref a_o_goes, .ref a_o_far, .ref a_o_met, .int w_o_metMany], jI E a_o_now 16 f_o_now, jI E a_o_then 16 u]) := by
  intro n
  induction n with
  | zero =>
    intro x4 f_o_then u h
    rw [g_X10_falls_3] at h
    cases h
  | succ n ih =>
    intro x4 f_o_then u h
    rw [g_X10_falls_3] at h
    refine j_iload (pc := 3) 4 dX10_falls_3 rfl ?_
    refine j_aload_n (pc := 5) 0 dX10_falls_5 rfl rfl ?_
    refine j_get (pc := 6) (v := .int v_o_cards) 0 0 rfl rfl (Nat.le_of_ble_eq_true rfl) iwX10 m3_104 rfl dX10_falls_6 ?_
    refine j_icmp_ge (pc := 9) (tgt := 58) dX10_falls_9 (by decide) h (fun h => ?_) (fun h => ?_)
    · cases h
      exact j_vret (pc := 58) rfl dX10_falls_58 (Nat.le_of_ble_eq_true rfl) (Nat.le_of_ble_eq_true rfl) (jd_i rfl rfl)
    · refine j_iload (pc := 12) 4 dX10_falls_12 rfl ?_
      refine j_iconst (pc := 14) dX10_falls_14 ic_2 ?_
      refine j_irem (pc := 15) dX10_falls_15 h (fun h => ?_)
      refine j_if_ne (pc := 16) (tgt := 30) dX10_falls_16 (by decide) h (fun h => ?_) (fun h => ?_)
      · refine j_iload_n (pc := 30) 3 dX10_falls_30 rfl rfl ?_
        refine j_iload (pc := 31) 4 dX10_falls_31 rfl ?_
        refine j_iconst (pc := 33) dX10_falls_33 ic_2 ?_
        refine j_idiv (pc := 34) dX10_falls_34 h (fun h => ?_)
        refine j_iadd (pc := 35) dX10_falls_35 ?_
        refine j_istore (pc := 36) (lv' := [(5, .int (x3 + (x4 / (2 : Int32)))), (0, .ref a_o), (1, .int x1), (2, .int x2), (3, .int x3), (4, .int x4)]) dX10_falls_36 (Nat.le_of_ble_eq_true rfl) rfl ?_
        refine j_aload_n (pc := 38) 1 dX10_falls_38 rfl rfl ?_
        refine j_get (pc := 39) (v := .ref a_o_then) 0 21 rfl rfl (Nat.le_of_ble_eq_true rfl) iwX10 m3_125 rfl dX10_falls_39 ?_
        refine j_iload (pc := 42) 5 dX10_falls_42 rfl ?_
        refine j_aload_n (pc := 44) 1 dX10_falls_44 rfl rfl ?_
        refine j_get (pc := 45) (v := .ref a_o_now) 0 20 rfl rfl (Nat.le_of_ble_eq_true rfl) iwX10 m3_124 rfl dX10_falls_45 ?_
        refine j_iload (pc := 48) 0 dX10_falls_48 rfl ?_
        refine j_iald (pc := 50) 1 rfl dX10_falls_50 h (fun h => ?_)
        refine j_iast (pc := 51) (w' := [jO a_o 7 [.int v_o_cards, .ref a_o_colour, .int w_o_dealMany, .ref a_o_deal, .ref a_o_st, .int w_o_acts, .ref a_o_was, .int w_o_keeps, .ref a_o_kept, .int w_o_seens, .ref a_o_seen, .ref a_o_text, .int w_o_texted, .int w_o_at, .ref a_o_told, .int w_o_isBegun, .int w_o_readCards, .ref a_o_readColour, .int w_o_readDeals, .ref a_o_readDeal, .ref a_o_now, .ref a_o_then, .ref a_o_ring, .ref a_o_goes, .ref a_o_far, .ref a_o_met, .int w_o_metMany], jI E a_o_now 16 f_o_now, jI E a_o_then 16 (upd f_o_then x4.toNatClampNeg (f_o_now (x3 + (x4 / (2 : Int32))).toNatClampNeg))]) 2 rfl dX10_falls_51 h rfl (fun h => ?_)
        refine j_iinc (pc := 52) (j := 5) (lv' := [(4, .int (x4 + (1 : Int32))), (5, .int (x3 + (x4 / (2 : Int32)))), (0, .ref a_o), (1, .int x1), (2, .int x2), (3, .int x3)]) dX10_falls_52 rfl (congrArg (fun z => x4 + z) ic_1) (Nat.le_of_ble_eq_true rfl) rfl ?_
        refine j_goto (pc := 55) (tgt := 3) dX10_falls_55 (by decide) ?_
        exact j_sub (lv' := [(0, .ref a_o), (1, .int x1), (2, .int x2), (3, .int x3), (4, .int (x4 + (1 : Int32)))]) [2, 3, 4, 5, 0] rfl (ih _ _ u h)
      · refine j_iload_n (pc := 19) 1 dX10_falls_19 rfl rfl ?_
        refine j_iload (pc := 20) 4 dX10_falls_20 rfl ?_
        refine j_iconst (pc := 22) dX10_falls_22 ic_2 ?_
        refine j_idiv (pc := 23) dX10_falls_23 h (fun h => ?_)
        refine j_iload_n (pc := 24) 2 dX10_falls_24 rfl rfl ?_
        refine j_imul (pc := 25) dX10_falls_25 ?_
        refine j_iadd (pc := 26) dX10_falls_26 ?_
        refine j_goto (pc := 27) (tgt := 36) dX10_falls_27 (by decide) ?_
        refine j_istore (pc := 36) (lv' := [(5, .int (x1 + ((x4 / (2 : Int32)) * x2))), (0, .ref a_o), (1, .int x1), (2, .int x2), (3, .int x3), (4, .int x4)]) dX10_falls_36 (Nat.le_of_ble_eq_true rfl) rfl ?_
        refine j_aload_n (pc := 38) 1 dX10_falls_38 rfl rfl ?_
        refine j_get (pc := 39) (v := .ref a_o_then) 0 21 rfl rfl (Nat.le_of_ble_eq_true rfl) iwX10 m3_125 rfl dX10_falls_39 ?_
        refine j_iload (pc := 42) 5 dX10_falls_42 rfl ?_
        refine j_aload_n (pc := 44) 1 dX10_falls_44 rfl rfl ?_
        refine j_get (pc := 45) (v := .ref a_o_now) 0 20 rfl rfl (Nat.le_of_ble_eq_true rfl) iwX10 m3_124 rfl dX10_falls_45 ?_
        refine j_iload (pc := 48) 0 dX10_falls_48 rfl ?_
        refine j_iald (pc := 50) 1 rfl dX10_falls_50 h (fun h => ?_)
        refine j_iast (pc := 51) (w' := [jO a_o 7 [.int v_o_cards, .ref a_o_colour, .int w_o_dealMany, .ref a_o_deal, .ref a_o_st, .int w_o_acts, .ref a_o_was, .int w_o_keeps, .ref a_o_kept, .int w_o_seens, .ref a_o_seen, .ref a_o_text, .int w_o_texted, .int w_o_at, .ref a_o_told, .int w_o_isBegun, .int w_o_readCards, .ref a_o_readColour, .int w_o_readDeals, .ref a_o_readDeal, .ref a_o_now, .ref a_o_then, .ref a_o_ring, .ref a_o_goes, .ref a_o_far, .ref a_o_met, .int w_o_metMany], jI E a_o_now 16 f_o_now, jI E a_o_then 16 (upd f_o_then x4.toNatClampNeg (f_o_now (x1 + ((x4 / (2 : Int32)) * x2)).toNatClampNeg))]) 2 rfl dX10_falls_51 h rfl (fun h => ?_)
        refine j_iinc (pc := 52) (j := 5) (lv' := [(4, .int (x4 + (1 : Int32))), (5, .int (x1 + ((x4 / (2 : Int32)) * x2))), (0, .ref a_o), (1, .int x1), (2, .int x2), (3, .int x3)]) dX10_falls_52 rfl (congrArg (fun z => x4 + z) ic_1) (Nat.le_of_ble_eq_true rfl) rfl ?_
        refine j_goto (pc := 55) (tgt := 3) dX10_falls_55 (by decide) ?_
        exact j_sub (lv' := [(0, .ref a_o), (1, .int x1), (2, .int x2), (3, .int x3), (4, .int (x4 + (1 : Int32)))]) [2, 3, 4, 5, 0] rfl (ih _ _ u h)
set_option maxRecDepth 20000 in
theorem c_X10_falls {l : Launch} {E : jE} {F : Nat} {x1 : Int32} {x2 : Int32} {x3 : Int32} {v_o_cards : Int32} {f_o_now : Nat → Int32} {a_o a_o_colour a_o_deal a_o_st a_o_was a_o_kept a_o_seen a_o_text a_o_told a_o_readColour a_o_readDeal a_o_now a_o_then a_o_ring a_o_goes a_o_far a_o_met : Nat} {w_o_dealMany : Int32} {w_o_acts : Int32} {w_o_keeps : Int32} {w_o_seens : Int32} {w_o_texted : Int32} {w_o_at : Int32} {w_o_isBegun : Int32} {w_o_readCards : Int32} {w_o_readDeals : Int32} {w_o_metMany : Int32} {f_o_then : Nat → Int32} : ∀ u : (Nat → Int32), f_X10_falls F x1 x2 x3 v_o_cards f_o_now f_o_then = some u → jM l E K_X10_falls [.ref a_o, .int x1, .int x2, .int x3] [jO a_o 7 [.int v_o_cards, .ref a_o_colour, .int w_o_dealMany, .ref a_o_deal, .ref a_o_st, .int w_o_acts, .ref a_o_was, .int w_o_keeps, .ref a_o_kept, .int w_o_seens, .ref a_o_seen, .ref a_o_text, .int w_o_texted, .int w_o_at, .ref a_o_told, .int w_o_isBegun, .int w_o_readCards, .ref a_o_readColour, .int w_o_readDeals, .ref a_o_readDeal, .ref a_o_now, .ref a_o_then, .ref a_o_ring, .ref a_o_goes, .ref a_o_far, .ref a_o_met, .int w_o_metMany], jI E a_o_now 16 f_o_now, jI E a_o_then 16 f_o_then] (jd none [jO a_o 7 [.int v_o_cards, .ref a_o_colour, .int w_o_dealMany, .ref a_o_deal, .ref a_o_st, .int w_o_acts, .ref a_o_was, .int w_o_keeps, .ref a_o_kept, .int w_o_seens, .ref a_o_seen, .ref a_o_text, .int w_o_texted, .int w_o_at, .ref a_o_told, .int w_o_isBegun, .int w_o_readCards, .ref a_o_readColour, .int w_o_readDeals, .ref a_o_readDeal, .ref a_o_now, .ref a_o_then, .ref a_o_ring, .ref a_o_goes, .ref a_o_far, .ref a_o_met, .int w_o_metMany], jI E a_o_now 16 f_o_now, jI E a_o_then 16 u]) := by
  intro u h
  unfold f_X10_falls at h
  refine j_met [(0, .ref a_o), (1, .int x1), (2, .int x2), (3, .int x3)] (by decide +kernel) (Nat.le_of_ble_eq_true rfl) rfl ?_
  refine j_iconst (pc := 0) dX10_falls_0 ic_0 ?_
  refine j_istore (pc := 1) (lv' := [(4, .int (0 : Int32)), (0, .ref a_o), (1, .int x1), (2, .int x2), (3, .int x3)]) dX10_falls_1 (Nat.le_of_ble_eq_true rfl) rfl ?_
  exact j_sub (lv' := [(0, .ref a_o), (1, .int x1), (2, .int x2), (3, .int x3), (4, .int (0 : Int32))]) [1, 2, 3, 4, 0] rfl (w_X10_falls_3 _ _ _ u h)
set_option maxRecDepth 20000 in
theorem w_X10_milks_2 {l : Launch} {E : jE} {F : Nat} {v_o_cards : Int32} {f_o_now : Nat → Int32} {a_o a_o_colour a_o_deal a_o_st a_o_was a_o_kept a_o_seen a_o_text a_o_told a_o_readColour a_o_readDeal a_o_now a_o_then a_o_ring a_o_goes a_o_far a_o_met : Nat} {w_o_dealMany : Int32} {w_o_acts : Int32} {w_o_keeps : Int32} {w_o_seens : Int32} {w_o_texted : Int32} {w_o_at : Int32} {w_o_isBegun : Int32} {w_o_readCards : Int32} {w_o_readDeals : Int32} {w_o_metMany : Int32} : ∀ (n : Nat) (x1 : Int32) (f_o_then : Nat → Int32) (u : (Nat → Int32)), g_X10_milks_2 F v_o_cards f_o_now n x1 f_o_then = some u → jT l E K_X10_milks 0 0 2 [(0, .ref a_o), (1, .int x1)] [] [jO a_o 7 [.int v_o_cards, .ref a_o_colour, .int w_o_dealMany, .ref a_o_deal, .ref a_o_st, .int w_o_acts, .ref a_o_was, .int w_o_keeps, .ref a_o_kept, .int w_o_seens, .ref a_o_seen, .ref a_o_text, .int w_o_texted, .int w_o_at, .ref a_o_told, .int w_o_isBegun, .int w_o_readCards, .ref a_o_readColour, .int w_o_readDeals, .ref a_o_readDeal, .ref a_o_now, .ref a_o_then, .ref a_o_ring, .ref a_o_goes, .ref a_o_far, .ref a_o_met, .int w_o_metMany], jI E a_o_now 16 f_o_now, jI E a_o_then 16 f_o_then] (jd none [jO a_o 7 [.int v_o_cards, .ref a_o_colour, .int w_o_dealMany, .ref a_o_deal, .ref a_o_st, .int w_o_acts, .ref a_o_was, .int w_o_keeps, .ref a_o_kept, .int w_o_seens, .ref a_o_seen, .ref a_o_text, .int w_o_texted, .int w_o_at, .ref a_o_told, .int w_o_isBegun, .int w_o_readCards, .ref a_o_readColour, .int w_o_readDeals, .ref a_o_readDeal, .ref a_o_now, .ref a_o_then, .ref a_o_ring, .ref a_o_goes, .ref a_o_far, .ref a_o_met, .int w_o_metMany], jI E a_o_now 16 f_o_now, jI E a_o_then 16 u]) := by
  intro n
  induction n with
  | zero =>
    intro x1 f_o_then u h
    rw [g_X10_milks_2] at h
    cases h
  | succ n ih =>
    intro x1 f_o_then u h
    rw [g_X10_milks_2] at h
    refine j_iload_n (pc := 2) 1 dX10_milks_2 rfl rfl ?_
    refine j_aload_n (pc := 3) 0 dX10_milks_3 rfl rfl ?_
    refine j_get (pc := 4) (v := .int v_o_cards) 0 0 rfl rfl (Nat.le_of_ble_eq_true rfl) iwX10 m3_104 rfl dX10_milks_4 ?_
    refine j_icmp_ge (pc := 7) (tgt := 49) dX10_milks_7 (by decide) h (fun h => ?_) (fun h => ?_)
    · cases h
      exact j_vret (pc := 49) rfl dX10_milks_49 (Nat.le_of_ble_eq_true rfl) (Nat.le_of_ble_eq_true rfl) (jd_i rfl rfl)
    · refine j_aload_n (pc := 10) 0 dX10_milks_10 rfl rfl ?_
      refine j_get (pc := 11) (v := .ref a_o_then) 0 21 rfl rfl (Nat.le_of_ble_eq_true rfl) iwX10 m3_125 rfl dX10_milks_11 ?_
      refine j_iload_n (pc := 14) 1 dX10_milks_14 rfl rfl ?_
      refine j_aload_n (pc := 15) 0 dX10_milks_15 rfl rfl ?_
      refine j_get (pc := 16) (v := .ref a_o_now) 0 20 rfl rfl (Nat.le_of_ble_eq_true rfl) iwX10 m3_124 rfl dX10_milks_16 ?_
      refine j_iload_n (pc := 19) 1 dX10_milks_19 rfl rfl ?_
      refine j_iconst (pc := 20) dX10_milks_20 ic_2 ?_
      refine j_irem (pc := 21) dX10_milks_21 h (fun h => ?_)
      refine j_if_ne (pc := 22) (tgt := 31) dX10_milks_22 (by decide) h (fun h => ?_) (fun h => ?_)
      · refine j_aload_n (pc := 31) 0 dX10_milks_31 rfl rfl ?_
        refine j_get (pc := 32) (v := .int v_o_cards) 0 0 rfl rfl (Nat.le_of_ble_eq_true rfl) iwX10 m3_104 rfl dX10_milks_32 ?_
        refine j_iconst (pc := 35) dX10_milks_35 ic_1 ?_
        refine j_isub (pc := 36) dX10_milks_36 ?_
        refine j_iload_n (pc := 37) 1 dX10_milks_37 rfl rfl ?_
        refine j_iconst (pc := 38) dX10_milks_38 ic_2 ?_
        refine j_idiv (pc := 39) dX10_milks_39 h (fun h => ?_)
        refine j_isub (pc := 40) dX10_milks_40 ?_
        refine j_iald (pc := 41) 1 rfl dX10_milks_41 h (fun h => ?_)
        refine j_iast (pc := 42) (w' := [jO a_o 7 [.int v_o_cards, .ref a_o_colour, .int w_o_dealMany, .ref a_o_deal, .ref a_o_st, .int w_o_acts, .ref a_o_was, .int w_o_keeps, .ref a_o_kept, .int w_o_seens, .ref a_o_seen, .ref a_o_text, .int w_o_texted, .int w_o_at, .ref a_o_told, .int w_o_isBegun, .int w_o_readCards, .ref a_o_readColour, .int w_o_readDeals, .ref a_o_readDeal, .ref a_o_now, .ref a_o_then, .ref a_o_ring, .ref a_o_goes, .ref a_o_far, .ref a_o_met, .int w_o_metMany], jI E a_o_now 16 f_o_now, jI E a_o_then 16 (upd f_o_then x1.toNatClampNeg (f_o_now ((v_o_cards - (1 : Int32)) - (x1 / (2 : Int32))).toNatClampNeg))]) 2 rfl dX10_milks_42 h rfl (fun h => ?_)
        refine j_iinc (pc := 43) (j := 1) (lv' := [(1, .int (x1 + (1 : Int32))), (0, .ref a_o)]) dX10_milks_43 rfl (congrArg (fun z => x1 + z) ic_1) (Nat.le_of_ble_eq_true rfl) rfl ?_
        refine j_goto (pc := 46) (tgt := 2) dX10_milks_46 (by decide) ?_
        exact j_sub (lv' := [(0, .ref a_o), (1, .int (x1 + (1 : Int32)))]) [1, 0] rfl (ih _ _ u h)
      · refine j_iload_n (pc := 25) 1 dX10_milks_25 rfl rfl ?_
        refine j_iconst (pc := 26) dX10_milks_26 ic_2 ?_
        refine j_idiv (pc := 27) dX10_milks_27 h (fun h => ?_)
        refine j_goto (pc := 28) (tgt := 41) dX10_milks_28 (by decide) ?_
        refine j_iald (pc := 41) 1 rfl dX10_milks_41 h (fun h => ?_)
        refine j_iast (pc := 42) (w' := [jO a_o 7 [.int v_o_cards, .ref a_o_colour, .int w_o_dealMany, .ref a_o_deal, .ref a_o_st, .int w_o_acts, .ref a_o_was, .int w_o_keeps, .ref a_o_kept, .int w_o_seens, .ref a_o_seen, .ref a_o_text, .int w_o_texted, .int w_o_at, .ref a_o_told, .int w_o_isBegun, .int w_o_readCards, .ref a_o_readColour, .int w_o_readDeals, .ref a_o_readDeal, .ref a_o_now, .ref a_o_then, .ref a_o_ring, .ref a_o_goes, .ref a_o_far, .ref a_o_met, .int w_o_metMany], jI E a_o_now 16 f_o_now, jI E a_o_then 16 (upd f_o_then x1.toNatClampNeg (f_o_now (x1 / (2 : Int32)).toNatClampNeg))]) 2 rfl dX10_milks_42 h rfl (fun h => ?_)
        refine j_iinc (pc := 43) (j := 1) (lv' := [(1, .int (x1 + (1 : Int32))), (0, .ref a_o)]) dX10_milks_43 rfl (congrArg (fun z => x1 + z) ic_1) (Nat.le_of_ble_eq_true rfl) rfl ?_
        refine j_goto (pc := 46) (tgt := 2) dX10_milks_46 (by decide) ?_
        exact j_sub (lv' := [(0, .ref a_o), (1, .int (x1 + (1 : Int32)))]) [1, 0] rfl (ih _ _ u h)
set_option maxRecDepth 20000 in
theorem c_X10_milks {l : Launch} {E : jE} {F : Nat} {v_o_cards : Int32} {f_o_now : Nat → Int32} {a_o a_o_colour a_o_deal a_o_st a_o_was a_o_kept a_o_seen a_o_text a_o_told a_o_readColour a_o_readDeal a_o_now a_o_then a_o_ring a_o_goes a_o_far a_o_met : Nat} {w_o_dealMany : Int32} {w_o_acts : Int32} {w_o_keeps : Int32} {w_o_seens : Int32} {w_o_texted : Int32} {w_o_at : Int32} {w_o_isBegun : Int32} {w_o_readCards : Int32} {w_o_readDeals : Int32} {w_o_metMany : Int32} {f_o_then : Nat → Int32} : ∀ u : (Nat → Int32), f_X10_milks F v_o_cards f_o_now f_o_then = some u → jM l E K_X10_milks [.ref a_o] [jO a_o 7 [.int v_o_cards, .ref a_o_colour, .int w_o_dealMany, .ref a_o_deal, .ref a_o_st, .int w_o_acts, .ref a_o_was, .int w_o_keeps, .ref a_o_kept, .int w_o_seens, .ref a_o_seen, .ref a_o_text, .int w_o_texted, .int w_o_at, .ref a_o_told, .int w_o_isBegun, .int w_o_readCards, .ref a_o_readColour, .int w_o_readDeals, .ref a_o_readDeal, .ref a_o_now, .ref a_o_then, .ref a_o_ring, .ref a_o_goes, .ref a_o_far, .ref a_o_met, .int w_o_metMany], jI E a_o_now 16 f_o_now, jI E a_o_then 16 f_o_then] (jd none [jO a_o 7 [.int v_o_cards, .ref a_o_colour, .int w_o_dealMany, .ref a_o_deal, .ref a_o_st, .int w_o_acts, .ref a_o_was, .int w_o_keeps, .ref a_o_kept, .int w_o_seens, .ref a_o_seen, .ref a_o_text, .int w_o_texted, .int w_o_at, .ref a_o_told, .int w_o_isBegun, .int w_o_readCards, .ref a_o_readColour, .int w_o_readDeals, .ref a_o_readDeal, .ref a_o_now, .ref a_o_then, .ref a_o_ring, .ref a_o_goes, .ref a_o_far, .ref a_o_met, .int w_o_metMany], jI E a_o_now 16 f_o_now, jI E a_o_then 16 u]) := by
  intro u h
  unfold f_X10_milks at h
  refine j_met [(0, .ref a_o)] (by decide +kernel) (Nat.le_of_ble_eq_true rfl) rfl ?_
  refine j_iconst (pc := 0) dX10_milks_0 ic_0 ?_
  refine j_istore_n (pc := 1) (lv' := [(1, .int (0 : Int32)), (0, .ref a_o)]) dX10_milks_1 rfl (Nat.le_of_ble_eq_true rfl) rfl ?_
  exact j_sub (lv' := [(0, .ref a_o), (1, .int (0 : Int32))]) [1, 0] rfl (w_X10_milks_2 _ _ _ u h)
set_option maxRecDepth 20000 in
theorem w_X10_under_26 {l : Launch} {E : jE} {F : Nat} {v_o_cards : Int32} {f_o_now : Nat → Int32} {a_o a_o_colour a_o_deal a_o_st a_o_was a_o_kept a_o_seen a_o_text a_o_told a_o_readColour a_o_readDeal a_o_now a_o_then a_o_ring a_o_goes a_o_far a_o_met : Nat} {w_o_dealMany : Int32} {w_o_acts : Int32} {w_o_keeps : Int32} {w_o_seens : Int32} {w_o_texted : Int32} {w_o_at : Int32} {w_o_isBegun : Int32} {w_o_readCards : Int32} {w_o_readDeals : Int32} {w_o_metMany : Int32} : ∀ (n : Nat) (x1 : Int32) (x2 : Int32) (x3 : Int32) (f_o_ring : Nat → Int32) (f_o_then : Nat → Int32) (u : (Nat → Int32) × (Nat → Int32)), g_X10_under_26 F v_o_cards f_o_now n x1 x2 x3 f_o_ring f_o_then = some u → jT l E K_X10_under 0 0 26 [(0, .ref a_o), (1, .int x1), (2, .int x2), (3, .int x3)] [] [jO a_o 7 [.int v_o_cards, .ref a_o_colour, .int w_o_dealMany, .ref a_o_deal, .ref a_o_st, .int w_o_acts, .ref a_o_was, .int w_o_keeps, .ref a_o_kept, .int w_o_seens, .ref a_o_seen, .ref a_o_text, .int w_o_texted, .int w_o_at, .ref a_o_told, .int w_o_isBegun, .int w_o_readCards, .ref a_o_readColour, .int w_o_readDeals, .ref a_o_readDeal, .ref a_o_now, .ref a_o_then, .ref a_o_ring, .ref a_o_goes, .ref a_o_far, .ref a_o_met, .int w_o_metMany], jI E a_o_now 16 f_o_now, jI E a_o_ring 32 f_o_ring, jI E a_o_then 16 f_o_then] (jd none [jO a_o 7 [.int v_o_cards, .ref a_o_colour, .int w_o_dealMany, .ref a_o_deal, .ref a_o_st, .int w_o_acts, .ref a_o_was, .int w_o_keeps, .ref a_o_kept, .int w_o_seens, .ref a_o_seen, .ref a_o_text, .int w_o_texted, .int w_o_at, .ref a_o_told, .int w_o_isBegun, .int w_o_readCards, .ref a_o_readColour, .int w_o_readDeals, .ref a_o_readDeal, .ref a_o_now, .ref a_o_then, .ref a_o_ring, .ref a_o_goes, .ref a_o_far, .ref a_o_met, .int w_o_metMany], jI E a_o_now 16 f_o_now, jI E a_o_ring 32 u.1, jI E a_o_then 16 u.2]) := by
  intro n
  induction n with
  | zero =>
    intro x1 x2 x3 f_o_ring f_o_then u h
    rw [g_X10_under_26] at h
    cases h
  | succ n ih =>
    intro x1 x2 x3 f_o_ring f_o_then u h
    rw [g_X10_under_26] at h
    refine j_iload_n (pc := 26) 3 dX10_under_26 rfl rfl ?_
    refine j_aload_n (pc := 27) 0 dX10_under_27 rfl rfl ?_
    refine j_get (pc := 28) (v := .int v_o_cards) 0 0 rfl rfl (Nat.le_of_ble_eq_true rfl) iwX10 m3_104 rfl dX10_under_28 ?_
    refine j_icmp_ge (pc := 31) (tgt := 84) dX10_under_31 (by decide) h (fun h => ?_) (fun h => ?_)
    · cases h
      exact j_vret (pc := 84) rfl dX10_under_84 (Nat.le_of_ble_eq_true rfl) (Nat.le_of_ble_eq_true rfl) (jd_i rfl rfl)
    · refine j_aload_n (pc := 34) 0 dX10_under_34 rfl rfl ?_
      refine j_get (pc := 35) (v := .ref a_o_then) 0 21 rfl rfl (Nat.le_of_ble_eq_true rfl) iwX10 m3_125 rfl dX10_under_35 ?_
      refine j_iload_n (pc := 38) 3 dX10_under_38 rfl rfl ?_
      refine j_aload_n (pc := 39) 0 dX10_under_39 rfl rfl ?_
      refine j_get (pc := 40) (v := .ref a_o_ring) 0 22 rfl rfl (Nat.le_of_ble_eq_true rfl) iwX10 m3_126 rfl dX10_under_40 ?_
      refine j_iload_n (pc := 43) 1 dX10_under_43 rfl rfl ?_
      refine j_iald (pc := 44) 2 rfl dX10_under_44 h (fun h => ?_)
      refine j_iast (pc := 45) (w' := [jO a_o 7 [.int v_o_cards, .ref a_o_colour, .int w_o_dealMany, .ref a_o_deal, .ref a_o_st, .int w_o_acts, .ref a_o_was, .int w_o_keeps, .ref a_o_kept, .int w_o_seens, .ref a_o_seen, .ref a_o_text, .int w_o_texted, .int w_o_at, .ref a_o_told, .int w_o_isBegun, .int w_o_readCards, .ref a_o_readColour, .int w_o_readDeals, .ref a_o_readDeal, .ref a_o_now, .ref a_o_then, .ref a_o_ring, .ref a_o_goes, .ref a_o_far, .ref a_o_met, .int w_o_metMany], jI E a_o_now 16 f_o_now, jI E a_o_ring 32 f_o_ring, jI E a_o_then 16 (upd f_o_then x3.toNatClampNeg (f_o_ring x1.toNatClampNeg))]) 3 rfl dX10_under_45 h rfl (fun h => ?_)
      refine j_iinc (pc := 46) (j := 1) (lv' := [(1, .int (x1 + (1 : Int32))), (0, .ref a_o), (2, .int x2), (3, .int x3)]) dX10_under_46 rfl (congrArg (fun z => x1 + z) ic_1) (Nat.le_of_ble_eq_true rfl) rfl ?_
      refine j_iload_n (pc := 49) 0 dX10_under_49 rfl rfl ?_
      refine j_iload_n (pc := 50) 2 dX10_under_50 rfl rfl ?_
      refine j_icmp_ge (pc := 51) (tgt := 78) dX10_under_51 (by decide) h (fun h => ?_) (fun h => ?_)
      · refine j_iinc (pc := 78) (j := 3) (lv' := [(3, .int (x3 + (1 : Int32))), (1, .int (x1 + (1 : Int32))), (0, .ref a_o), (2, .int x2)]) dX10_under_78 rfl (congrArg (fun z => x3 + z) ic_1) (Nat.le_of_ble_eq_true rfl) rfl ?_
        refine j_goto (pc := 81) (tgt := 26) dX10_under_81 (by decide) ?_
        exact j_sub (lv' := [(0, .ref a_o), (1, .int (x1 + (1 : Int32))), (2, .int x2), (3, .int (x3 + (1 : Int32)))]) [2, 1, 3, 0] rfl (ih _ _ _ _ _ u h)
      · refine j_aload_n (pc := 54) 1 dX10_under_54 rfl rfl ?_
        refine j_get (pc := 55) (v := .ref a_o_ring) 0 22 rfl rfl (Nat.le_of_ble_eq_true rfl) iwX10 m3_126 rfl dX10_under_55 ?_
        refine j_iload_n (pc := 58) 2 dX10_under_58 rfl rfl ?_
        refine j_bipush (pc := 59) dX10_under_59 bc_32 ?_
        refine j_irem (pc := 61) dX10_under_61 h (fun h => ?_)
        refine j_aload_n (pc := 62) 1 dX10_under_62 rfl rfl ?_
        refine j_get (pc := 63) (v := .ref a_o_ring) 0 22 rfl rfl (Nat.le_of_ble_eq_true rfl) iwX10 m3_126 rfl dX10_under_63 ?_
        refine j_iload_n (pc := 66) 0 dX10_under_66 rfl rfl ?_
        refine j_bipush (pc := 67) dX10_under_67 bc_32 ?_
        refine j_irem (pc := 69) dX10_under_69 h (fun h => ?_)
        refine j_iald (pc := 70) 2 rfl dX10_under_70 h (fun h => ?_)
        refine j_iast (pc := 71) (w' := [jO a_o 7 [.int v_o_cards, .ref a_o_colour, .int w_o_dealMany, .ref a_o_deal, .ref a_o_st, .int w_o_acts, .ref a_o_was, .int w_o_keeps, .ref a_o_kept, .int w_o_seens, .ref a_o_seen, .ref a_o_text, .int w_o_texted, .int w_o_at, .ref a_o_told, .int w_o_isBegun, .int w_o_readCards, .ref a_o_readColour, .int w_o_readDeals, .ref a_o_readDeal, .ref a_o_now, .ref a_o_then, .ref a_o_ring, .ref a_o_goes, .ref a_o_far, .ref a_o_met, .int w_o_metMany], jI E a_o_now 16 f_o_now, jI E a_o_ring 32 (upd f_o_ring (jrem x2 (32 : Int32)).toNatClampNeg (f_o_ring (jrem (x1 + (1 : Int32)) (32 : Int32)).toNatClampNeg)), jI E a_o_then 16 (upd f_o_then x3.toNatClampNeg (f_o_ring x1.toNatClampNeg))]) 2 rfl dX10_under_71 h rfl (fun h => ?_)
        refine j_iinc (pc := 72) (j := 2) (lv' := [(2, .int (x2 + (1 : Int32))), (1, .int (x1 + (1 : Int32))), (0, .ref a_o), (3, .int x3)]) dX10_under_72 rfl (congrArg (fun z => x2 + z) ic_1) (Nat.le_of_ble_eq_true rfl) rfl ?_
        refine j_iinc (pc := 75) (j := 1) (lv' := [(1, .int ((x1 + (1 : Int32)) + (1 : Int32))), (2, .int (x2 + (1 : Int32))), (0, .ref a_o), (3, .int x3)]) dX10_under_75 rfl (congrArg (fun z => (x1 + (1 : Int32)) + z) ic_1) (Nat.le_of_ble_eq_true rfl) rfl ?_
        refine j_iinc (pc := 78) (j := 3) (lv' := [(3, .int (x3 + (1 : Int32))), (1, .int ((x1 + (1 : Int32)) + (1 : Int32))), (2, .int (x2 + (1 : Int32))), (0, .ref a_o)]) dX10_under_78 rfl (congrArg (fun z => x3 + z) ic_1) (Nat.le_of_ble_eq_true rfl) rfl ?_
        refine j_goto (pc := 81) (tgt := 26) dX10_under_81 (by decide) ?_
        exact j_sub (lv' := [(0, .ref a_o), (1, .int ((x1 + (1 : Int32)) + (1 : Int32))), (2, .int (x2 + (1 : Int32))), (3, .int (x3 + (1 : Int32)))]) [3, 1, 2, 0] rfl (ih _ _ _ _ _ u h)
set_option maxRecDepth 20000 in
theorem c_X10_under {l : Launch} {E : jE} {F : Nat} {v_o_cards : Int32} {f_o_now : Nat → Int32} {a_o a_o_colour a_o_deal a_o_st a_o_was a_o_kept a_o_seen a_o_text a_o_told a_o_readColour a_o_readDeal a_o_now a_o_then a_o_ring a_o_goes a_o_far a_o_met : Nat} {w_o_dealMany : Int32} {w_o_acts : Int32} {w_o_keeps : Int32} {w_o_seens : Int32} {w_o_texted : Int32} {w_o_at : Int32} {w_o_isBegun : Int32} {w_o_readCards : Int32} {w_o_readDeals : Int32} {w_o_metMany : Int32} {f_o_ring : Nat → Int32} {f_o_then : Nat → Int32} : ∀ u : (Nat → Int32) × (Nat → Int32), f_X10_under F v_o_cards f_o_now f_o_ring f_o_then = some u → jM l E K_X10_under [.ref a_o] [jO a_o 7 [.int v_o_cards, .ref a_o_colour, .int w_o_dealMany, .ref a_o_deal, .ref a_o_st, .int w_o_acts, .ref a_o_was, .int w_o_keeps, .ref a_o_kept, .int w_o_seens, .ref a_o_seen, .ref a_o_text, .int w_o_texted, .int w_o_at, .ref a_o_told, .int w_o_isBegun, .int w_o_readCards, .ref a_o_readColour, .int w_o_readDeals, .ref a_o_readDeal, .ref a_o_now, .ref a_o_then, .ref a_o_ring, .ref a_o_goes, .ref a_o_far, .ref a_o_met, .int w_o_metMany], jI E a_o_now 16 f_o_now, jI E a_o_ring 32 f_o_ring, jI E a_o_then 16 f_o_then] (jd none [jO a_o 7 [.int v_o_cards, .ref a_o_colour, .int w_o_dealMany, .ref a_o_deal, .ref a_o_st, .int w_o_acts, .ref a_o_was, .int w_o_keeps, .ref a_o_kept, .int w_o_seens, .ref a_o_seen, .ref a_o_text, .int w_o_texted, .int w_o_at, .ref a_o_told, .int w_o_isBegun, .int w_o_readCards, .ref a_o_readColour, .int w_o_readDeals, .ref a_o_readDeal, .ref a_o_now, .ref a_o_then, .ref a_o_ring, .ref a_o_goes, .ref a_o_far, .ref a_o_met, .int w_o_metMany], jI E a_o_now 16 f_o_now, jI E a_o_ring 32 u.1, jI E a_o_then 16 u.2]) := by
  intro u h
  unfold f_X10_under at h
  refine j_met [(0, .ref a_o)] (by decide +kernel) (Nat.le_of_ble_eq_true rfl) rfl ?_
  refine j_aload_n (pc := 0) 0 dX10_under_0 rfl rfl ?_
  refine j_get (pc := 1) (v := .ref a_o_ring) 0 22 rfl rfl (Nat.le_of_ble_eq_true rfl) iwX10 m3_126 rfl dX10_under_1 ?_
  refine j_iconst (pc := 4) dX10_under_4 ic_0 ?_
  refine j_aload_n (pc := 5) 0 dX10_under_5 rfl rfl ?_
  refine j_get (pc := 6) (v := .ref a_o_now) 0 20 rfl rfl (Nat.le_of_ble_eq_true rfl) iwX10 m3_124 rfl dX10_under_6 ?_
  refine j_iconst (pc := 9) dX10_under_9 ic_0 ?_
  refine j_aload_n (pc := 10) 0 dX10_under_10 rfl rfl ?_
  refine j_get (pc := 11) (v := .int v_o_cards) 0 0 rfl rfl (Nat.le_of_ble_eq_true rfl) iwX10 m3_104 rfl dX10_under_11 ?_
  refine j_S (pc := 14) (Kc := K_X10_copies) (As := [.ref a_o_ring, .int (0 : Int32), .ref a_o_now, .int (0 : Int32), .int v_o_cards]) (rest := []) (wc := [jI E a_o_ring 32 f_o_ring, jI E a_o_now 16 f_o_now]) (w' := fun b1 => [jO a_o 7 [.int v_o_cards, .ref a_o_colour, .int w_o_dealMany, .ref a_o_deal, .ref a_o_st, .int w_o_acts, .ref a_o_was, .int w_o_keeps, .ref a_o_kept, .int w_o_seens, .ref a_o_seen, .ref a_o_text, .int w_o_texted, .int w_o_at, .ref a_o_told, .int w_o_isBegun, .int w_o_readCards, .ref a_o_readColour, .int w_o_readDeals, .ref a_o_readDeal, .ref a_o_now, .ref a_o_then, .ref a_o_ring, .ref a_o_goes, .ref a_o_far, .ref a_o_met, .int w_o_metMany], jI E a_o_now 16 f_o_now, jI E a_o_ring 32 b1, jI E a_o_then 16 f_o_then]) (st1 := fun b1 => []) [2, 1] h c_X10_copies q_X10_copies m3_98 rfl rfl (Nat.le_of_ble_eq_true rfl) ⟨(Nat.le_of_ble_eq_true rfl), (Nat.le_of_ble_eq_true rfl)⟩ ⟨rfl, rfl⟩ ⟨(Nat.le_of_ble_eq_true rfl), (Nat.le_of_ble_eq_true rfl)⟩ dX10_under_14 rfl (by decide) (fun _ => rfl) (fun _ => rfl) (fun _ => rfl) (fun b1 h => ?_)
  refine j_iconst (pc := 17) dX10_under_17 ic_0 ?_
  refine j_istore_n (pc := 18) (lv' := [(1, .int (0 : Int32)), (0, .ref a_o)]) dX10_under_18 rfl (Nat.le_of_ble_eq_true rfl) rfl ?_
  refine j_aload_n (pc := 19) 1 dX10_under_19 rfl rfl ?_
  refine j_get (pc := 20) (v := .int v_o_cards) 0 0 rfl rfl (Nat.le_of_ble_eq_true rfl) iwX10 m3_104 rfl dX10_under_20 ?_
  refine j_istore_n (pc := 23) (lv' := [(2, .int v_o_cards), (1, .int (0 : Int32)), (0, .ref a_o)]) dX10_under_23 rfl (Nat.le_of_ble_eq_true rfl) rfl ?_
  refine j_iconst (pc := 24) dX10_under_24 ic_0 ?_
  refine j_istore_n (pc := 25) (lv' := [(3, .int (0 : Int32)), (2, .int v_o_cards), (1, .int (0 : Int32)), (0, .ref a_o)]) dX10_under_25 rfl (Nat.le_of_ble_eq_true rfl) rfl ?_
  exact j_sub (lv' := [(0, .ref a_o), (1, .int (0 : Int32)), (2, .int v_o_cards), (3, .int (0 : Int32))]) [3, 2, 1, 0] rfl (w_X10_under_26 _ _ _ _ _ _ u h)
set_option maxRecDepth 20000 in
theorem w_X10_cuts_2 {l : Launch} {E : jE} {F : Nat} {x1 : Int32} {v_o_cards : Int32} {f_o_now : Nat → Int32} {a_o a_o_colour a_o_deal a_o_st a_o_was a_o_kept a_o_seen a_o_text a_o_told a_o_readColour a_o_readDeal a_o_now a_o_then a_o_ring a_o_goes a_o_far a_o_met : Nat} {w_o_dealMany : Int32} {w_o_acts : Int32} {w_o_keeps : Int32} {w_o_seens : Int32} {w_o_texted : Int32} {w_o_at : Int32} {w_o_isBegun : Int32} {w_o_readCards : Int32} {w_o_readDeals : Int32} {w_o_metMany : Int32} : ∀ (n : Nat) (x2 : Int32) (f_o_then : Nat → Int32) (u : (Nat → Int32)), g_X10_cuts_2 F x1 v_o_cards f_o_now n x2 f_o_then = some u → jT l E K_X10_cuts 0 0 2 [(0, .ref a_o), (1, .int x1), (2, .int x2)] [] [jO a_o 7 [.int v_o_cards, .ref a_o_colour, .int w_o_dealMany, .ref a_o_deal, .ref a_o_st, .int w_o_acts, .ref a_o_was, .int w_o_keeps, .ref a_o_kept, .int w_o_seens, .ref a_o_seen, .ref a_o_text, .int w_o_texted, .int w_o_at, .ref a_o_told, .int w_o_isBegun, .int w_o_readCards, .ref a_o_readColour, .int w_o_readDeals, .ref a_o_readDeal, .ref a_o_now, .ref a_o_then, .ref a_o_ring, .ref a_o_goes, .ref a_o_far, .ref a_o_met, .int w_o_metMany], jI E a_o_now 16 f_o_now, jI E a_o_then 16 f_o_then] (jd none [jO a_o 7 [.int v_o_cards, .ref a_o_colour, .int w_o_dealMany, .ref a_o_deal, .ref a_o_st, .int w_o_acts, .ref a_o_was, .int w_o_keeps, .ref a_o_kept, .int w_o_seens, .ref a_o_seen, .ref a_o_text, .int w_o_texted, .int w_o_at, .ref a_o_told, .int w_o_isBegun, .int w_o_readCards, .ref a_o_readColour, .int w_o_readDeals, .ref a_o_readDeal, .ref a_o_now, .ref a_o_then, .ref a_o_ring, .ref a_o_goes, .ref a_o_far, .ref a_o_met, .int w_o_metMany], jI E a_o_now 16 f_o_now, jI E a_o_then 16 u]) := by
  intro n
  induction n with
  | zero =>
    intro x2 f_o_then u h
    rw [g_X10_cuts_2] at h
    cases h
  | succ n ih =>
    intro x2 f_o_then u h
    rw [g_X10_cuts_2] at h
    refine j_iload_n (pc := 2) 2 dX10_cuts_2 rfl rfl ?_
    refine j_aload_n (pc := 3) 0 dX10_cuts_3 rfl rfl ?_
    refine j_get (pc := 4) (v := .int v_o_cards) 0 0 rfl rfl (Nat.le_of_ble_eq_true rfl) iwX10 m3_104 rfl dX10_cuts_4 ?_
    refine j_icmp_ge (pc := 7) (tgt := 35) dX10_cuts_7 (by decide) h (fun h => ?_) (fun h => ?_)
    · cases h
      exact j_vret (pc := 35) rfl dX10_cuts_35 (Nat.le_of_ble_eq_true rfl) (Nat.le_of_ble_eq_true rfl) (jd_i rfl rfl)
    · refine j_aload_n (pc := 10) 0 dX10_cuts_10 rfl rfl ?_
      refine j_get (pc := 11) (v := .ref a_o_then) 0 21 rfl rfl (Nat.le_of_ble_eq_true rfl) iwX10 m3_125 rfl dX10_cuts_11 ?_
      refine j_iload_n (pc := 14) 2 dX10_cuts_14 rfl rfl ?_
      refine j_aload_n (pc := 15) 0 dX10_cuts_15 rfl rfl ?_
      refine j_get (pc := 16) (v := .ref a_o_now) 0 20 rfl rfl (Nat.le_of_ble_eq_true rfl) iwX10 m3_124 rfl dX10_cuts_16 ?_
      refine j_iload_n (pc := 19) 2 dX10_cuts_19 rfl rfl ?_
      refine j_iload_n (pc := 20) 1 dX10_cuts_20 rfl rfl ?_
      refine j_iadd (pc := 21) dX10_cuts_21 ?_
      refine j_aload_n (pc := 22) 0 dX10_cuts_22 rfl rfl ?_
      refine j_get (pc := 23) (v := .int v_o_cards) 0 0 rfl rfl (Nat.le_of_ble_eq_true rfl) iwX10 m3_104 rfl dX10_cuts_23 ?_
      refine j_irem (pc := 26) dX10_cuts_26 h (fun h => ?_)
      refine j_iald (pc := 27) 1 rfl dX10_cuts_27 h (fun h => ?_)
      refine j_iast (pc := 28) (w' := [jO a_o 7 [.int v_o_cards, .ref a_o_colour, .int w_o_dealMany, .ref a_o_deal, .ref a_o_st, .int w_o_acts, .ref a_o_was, .int w_o_keeps, .ref a_o_kept, .int w_o_seens, .ref a_o_seen, .ref a_o_text, .int w_o_texted, .int w_o_at, .ref a_o_told, .int w_o_isBegun, .int w_o_readCards, .ref a_o_readColour, .int w_o_readDeals, .ref a_o_readDeal, .ref a_o_now, .ref a_o_then, .ref a_o_ring, .ref a_o_goes, .ref a_o_far, .ref a_o_met, .int w_o_metMany], jI E a_o_now 16 f_o_now, jI E a_o_then 16 (upd f_o_then x2.toNatClampNeg (f_o_now (jrem (x2 + x1) v_o_cards).toNatClampNeg))]) 2 rfl dX10_cuts_28 h rfl (fun h => ?_)
      refine j_iinc (pc := 29) (j := 2) (lv' := [(2, .int (x2 + (1 : Int32))), (0, .ref a_o), (1, .int x1)]) dX10_cuts_29 rfl (congrArg (fun z => x2 + z) ic_1) (Nat.le_of_ble_eq_true rfl) rfl ?_
      refine j_goto (pc := 32) (tgt := 2) dX10_cuts_32 (by decide) ?_
      exact j_sub (lv' := [(0, .ref a_o), (1, .int x1), (2, .int (x2 + (1 : Int32)))]) [1, 2, 0] rfl (ih _ _ u h)
set_option maxRecDepth 20000 in
theorem c_X10_cuts {l : Launch} {E : jE} {F : Nat} {x1 : Int32} {v_o_cards : Int32} {f_o_now : Nat → Int32} {a_o a_o_colour a_o_deal a_o_st a_o_was a_o_kept a_o_seen a_o_text a_o_told a_o_readColour a_o_readDeal a_o_now a_o_then a_o_ring a_o_goes a_o_far a_o_met : Nat} {w_o_dealMany : Int32} {w_o_acts : Int32} {w_o_keeps : Int32} {w_o_seens : Int32} {w_o_texted : Int32} {w_o_at : Int32} {w_o_isBegun : Int32} {w_o_readCards : Int32} {w_o_readDeals : Int32} {w_o_metMany : Int32} {f_o_then : Nat → Int32} : ∀ u : (Nat → Int32), f_X10_cuts F x1 v_o_cards f_o_now f_o_then = some u → jM l E K_X10_cuts [.ref a_o, .int x1] [jO a_o 7 [.int v_o_cards, .ref a_o_colour, .int w_o_dealMany, .ref a_o_deal, .ref a_o_st, .int w_o_acts, .ref a_o_was, .int w_o_keeps, .ref a_o_kept, .int w_o_seens, .ref a_o_seen, .ref a_o_text, .int w_o_texted, .int w_o_at, .ref a_o_told, .int w_o_isBegun, .int w_o_readCards, .ref a_o_readColour, .int w_o_readDeals, .ref a_o_readDeal, .ref a_o_now, .ref a_o_then, .ref a_o_ring, .ref a_o_goes, .ref a_o_far, .ref a_o_met, .int w_o_metMany], jI E a_o_now 16 f_o_now, jI E a_o_then 16 f_o_then] (jd none [jO a_o 7 [.int v_o_cards, .ref a_o_colour, .int w_o_dealMany, .ref a_o_deal, .ref a_o_st, .int w_o_acts, .ref a_o_was, .int w_o_keeps, .ref a_o_kept, .int w_o_seens, .ref a_o_seen, .ref a_o_text, .int w_o_texted, .int w_o_at, .ref a_o_told, .int w_o_isBegun, .int w_o_readCards, .ref a_o_readColour, .int w_o_readDeals, .ref a_o_readDeal, .ref a_o_now, .ref a_o_then, .ref a_o_ring, .ref a_o_goes, .ref a_o_far, .ref a_o_met, .int w_o_metMany], jI E a_o_now 16 f_o_now, jI E a_o_then 16 u]) := by
  intro u h
  unfold f_X10_cuts at h
  refine j_met [(0, .ref a_o), (1, .int x1)] (by decide +kernel) (Nat.le_of_ble_eq_true rfl) rfl ?_
  refine j_iconst (pc := 0) dX10_cuts_0 ic_0 ?_
  refine j_istore_n (pc := 1) (lv' := [(2, .int (0 : Int32)), (0, .ref a_o), (1, .int x1)]) dX10_cuts_1 rfl (Nat.le_of_ble_eq_true rfl) rfl ?_
  exact j_sub (lv' := [(0, .ref a_o), (1, .int x1), (2, .int (0 : Int32))]) [1, 2, 0] rfl (w_X10_cuts_2 _ _ _ u h)
set_option maxRecDepth 20000 in
theorem w_X10_acts_155 {l : Launch} {E : jE} {F : Nat} {x1 : Int32} {v_o_cards : Int32} {a_o a_o_colour a_o_deal a_o_st a_o_was a_o_kept a_o_seen a_o_text a_o_told a_o_readColour a_o_readDeal a_o_now a_o_then a_o_ring a_o_goes a_o_far a_o_met : Nat} {w_o_dealMany : Int32} {w_o_acts : Int32} {w_o_keeps : Int32} {w_o_seens : Int32} {w_o_texted : Int32} {w_o_at : Int32} {w_o_isBegun : Int32} {w_o_readCards : Int32} {w_o_readDeals : Int32} {w_o_metMany : Int32} : ∀ (f_o_now : Nat → Int32) (f_o_ring : Nat → Int32) (f_o_then : Nat → Int32) (u : (Nat → Int32) × (Nat → Int32) × (Nat → Int32)), g_X10_acts_155 F x1 v_o_cards f_o_now f_o_ring f_o_then = some u → jT l E K_X10_acts 0 0 155 [(0, .ref a_o)] [] [jO a_o 7 [.int v_o_cards, .ref a_o_colour, .int w_o_dealMany, .ref a_o_deal, .ref a_o_st, .int w_o_acts, .ref a_o_was, .int w_o_keeps, .ref a_o_kept, .int w_o_seens, .ref a_o_seen, .ref a_o_text, .int w_o_texted, .int w_o_at, .ref a_o_told, .int w_o_isBegun, .int w_o_readCards, .ref a_o_readColour, .int w_o_readDeals, .ref a_o_readDeal, .ref a_o_now, .ref a_o_then, .ref a_o_ring, .ref a_o_goes, .ref a_o_far, .ref a_o_met, .int w_o_metMany], jI E a_o_now 16 f_o_now, jI E a_o_ring 32 f_o_ring, jI E a_o_then 16 f_o_then] (jd none [jO a_o 7 [.int v_o_cards, .ref a_o_colour, .int w_o_dealMany, .ref a_o_deal, .ref a_o_st, .int w_o_acts, .ref a_o_was, .int w_o_keeps, .ref a_o_kept, .int w_o_seens, .ref a_o_seen, .ref a_o_text, .int w_o_texted, .int w_o_at, .ref a_o_told, .int w_o_isBegun, .int w_o_readCards, .ref a_o_readColour, .int w_o_readDeals, .ref a_o_readDeal, .ref a_o_now, .ref a_o_then, .ref a_o_ring, .ref a_o_goes, .ref a_o_far, .ref a_o_met, .int w_o_metMany], jI E a_o_now 16 u.1, jI E a_o_ring 32 u.2.1, jI E a_o_then 16 u.2.2]) := by
  intro f_o_now f_o_ring f_o_then u h
  unfold g_X10_acts_155 at h
  refine j_aload_n (pc := 155) 0 dX10_acts_155 rfl rfl ?_
  refine j_get (pc := 156) (v := .ref a_o_now) 0 20 rfl rfl (Nat.le_of_ble_eq_true rfl) iwX10 m3_124 rfl dX10_acts_156 ?_
  refine j_iconst (pc := 159) dX10_acts_159 ic_0 ?_
  refine j_aload_n (pc := 160) 0 dX10_acts_160 rfl rfl ?_
  refine j_get (pc := 161) (v := .ref a_o_then) 0 21 rfl rfl (Nat.le_of_ble_eq_true rfl) iwX10 m3_125 rfl dX10_acts_161 ?_
  refine j_iconst (pc := 164) dX10_acts_164 ic_0 ?_
  refine j_aload_n (pc := 165) 0 dX10_acts_165 rfl rfl ?_
  refine j_get (pc := 166) (v := .int v_o_cards) 0 0 rfl rfl (Nat.le_of_ble_eq_true rfl) iwX10 m3_104 rfl dX10_acts_166 ?_
  refine j_S (pc := 169) (Kc := K_X10_copies) (As := [.ref a_o_now, .int (0 : Int32), .ref a_o_then, .int (0 : Int32), .int v_o_cards]) (rest := []) (wc := [jI E a_o_now 16 f_o_now, jI E a_o_then 16 f_o_then]) (w' := fun b1 => [jO a_o 7 [.int v_o_cards, .ref a_o_colour, .int w_o_dealMany, .ref a_o_deal, .ref a_o_st, .int w_o_acts, .ref a_o_was, .int w_o_keeps, .ref a_o_kept, .int w_o_seens, .ref a_o_seen, .ref a_o_text, .int w_o_texted, .int w_o_at, .ref a_o_told, .int w_o_isBegun, .int w_o_readCards, .ref a_o_readColour, .int w_o_readDeals, .ref a_o_readDeal, .ref a_o_now, .ref a_o_then, .ref a_o_ring, .ref a_o_goes, .ref a_o_far, .ref a_o_met, .int w_o_metMany], jI E a_o_now 16 b1, jI E a_o_ring 32 f_o_ring, jI E a_o_then 16 f_o_then]) (st1 := fun b1 => []) [1, 3] h c_X10_copies q_X10_copies m3_98 rfl rfl (Nat.le_of_ble_eq_true rfl) ⟨(Nat.le_of_ble_eq_true rfl), (Nat.le_of_ble_eq_true rfl)⟩ ⟨rfl, rfl⟩ ⟨(Nat.le_of_ble_eq_true rfl), (Nat.le_of_ble_eq_true rfl)⟩ dX10_acts_169 rfl (by decide) (fun _ => rfl) (fun _ => rfl) (fun _ => rfl) (fun b1 h => ?_)
  cases h
  exact j_vret (pc := 172) rfl dX10_acts_172 (Nat.le_of_ble_eq_true rfl) (Nat.le_of_ble_eq_true rfl) (jd_i rfl rfl)
set_option maxRecDepth 20000 in
theorem w_X10_acts_108 {l : Launch} {E : jE} {F : Nat} {x1 : Int32} {v_o_cards : Int32} {a_o a_o_colour a_o_deal a_o_st a_o_was a_o_kept a_o_seen a_o_text a_o_told a_o_readColour a_o_readDeal a_o_now a_o_then a_o_ring a_o_goes a_o_far a_o_met : Nat} {w_o_dealMany : Int32} {w_o_acts : Int32} {w_o_keeps : Int32} {w_o_seens : Int32} {w_o_texted : Int32} {w_o_at : Int32} {w_o_isBegun : Int32} {w_o_readCards : Int32} {w_o_readDeals : Int32} {w_o_metMany : Int32} : ∀ (n : Nat) (x4 : Int32) (f_o_now : Nat → Int32) (f_o_ring : Nat → Int32) (f_o_then : Nat → Int32) (u : (Nat → Int32) × (Nat → Int32) × (Nat → Int32)), g_X10_acts_108 F x1 v_o_cards n x4 f_o_now f_o_ring f_o_then = some u → jT l E K_X10_acts 0 0 108 [(0, .ref a_o), (4, .int x4)] [] [jO a_o 7 [.int v_o_cards, .ref a_o_colour, .int w_o_dealMany, .ref a_o_deal, .ref a_o_st, .int w_o_acts, .ref a_o_was, .int w_o_keeps, .ref a_o_kept, .int w_o_seens, .ref a_o_seen, .ref a_o_text, .int w_o_texted, .int w_o_at, .ref a_o_told, .int w_o_isBegun, .int w_o_readCards, .ref a_o_readColour, .int w_o_readDeals, .ref a_o_readDeal, .ref a_o_now, .ref a_o_then, .ref a_o_ring, .ref a_o_goes, .ref a_o_far, .ref a_o_met, .int w_o_metMany], jI E a_o_now 16 f_o_now, jI E a_o_ring 32 f_o_ring, jI E a_o_then 16 f_o_then] (jd none [jO a_o 7 [.int v_o_cards, .ref a_o_colour, .int w_o_dealMany, .ref a_o_deal, .ref a_o_st, .int w_o_acts, .ref a_o_was, .int w_o_keeps, .ref a_o_kept, .int w_o_seens, .ref a_o_seen, .ref a_o_text, .int w_o_texted, .int w_o_at, .ref a_o_told, .int w_o_isBegun, .int w_o_readCards, .ref a_o_readColour, .int w_o_readDeals, .ref a_o_readDeal, .ref a_o_now, .ref a_o_then, .ref a_o_ring, .ref a_o_goes, .ref a_o_far, .ref a_o_met, .int w_o_metMany], jI E a_o_now 16 u.1, jI E a_o_ring 32 u.2.1, jI E a_o_then 16 u.2.2]) := by
  intro n
  induction n with
  | zero =>
    intro x4 f_o_now f_o_ring f_o_then u h
    rw [g_X10_acts_108] at h
    cases h
  | succ n ih =>
    intro x4 f_o_now f_o_ring f_o_then u h
    rw [g_X10_acts_108] at h
    refine j_iload (pc := 108) 1 dX10_acts_108 rfl ?_
    refine j_aload_n (pc := 110) 0 dX10_acts_110 rfl rfl ?_
    refine j_get (pc := 111) (v := .int v_o_cards) 0 0 rfl rfl (Nat.le_of_ble_eq_true rfl) iwX10 m3_104 rfl dX10_acts_111 ?_
    refine j_icmp_ge (pc := 114) (tgt := 144) dX10_acts_114 (by decide) h (fun h => ?_) (fun h => ?_)
    · refine j_goto (pc := 144) (tgt := 155) dX10_acts_144 (by decide) ?_
      exact j_sub (lv' := [(0, .ref a_o)]) [0] rfl (w_X10_acts_155 _ _ _ u h)
    · refine j_aload_n (pc := 117) 0 dX10_acts_117 rfl rfl ?_
      refine j_get (pc := 118) (v := .ref a_o_then) 0 21 rfl rfl (Nat.le_of_ble_eq_true rfl) iwX10 m3_125 rfl dX10_acts_118 ?_
      refine j_iload (pc := 121) 1 dX10_acts_121 rfl ?_
      refine j_aload_n (pc := 123) 0 dX10_acts_123 rfl rfl ?_
      refine j_get (pc := 124) (v := .ref a_o_now) 0 20 rfl rfl (Nat.le_of_ble_eq_true rfl) iwX10 m3_124 rfl dX10_acts_124 ?_
      refine j_aload_n (pc := 127) 0 dX10_acts_127 rfl rfl ?_
      refine j_get (pc := 128) (v := .int v_o_cards) 0 0 rfl rfl (Nat.le_of_ble_eq_true rfl) iwX10 m3_104 rfl dX10_acts_128 ?_
      refine j_iconst (pc := 131) dX10_acts_131 ic_1 ?_
      refine j_isub (pc := 132) dX10_acts_132 ?_
      refine j_iload (pc := 133) 1 dX10_acts_133 rfl ?_
      refine j_isub (pc := 135) dX10_acts_135 ?_
      refine j_iald (pc := 136) 1 rfl dX10_acts_136 h (fun h => ?_)
      refine j_iast (pc := 137) (w' := [jO a_o 7 [.int v_o_cards, .ref a_o_colour, .int w_o_dealMany, .ref a_o_deal, .ref a_o_st, .int w_o_acts, .ref a_o_was, .int w_o_keeps, .ref a_o_kept, .int w_o_seens, .ref a_o_seen, .ref a_o_text, .int w_o_texted, .int w_o_at, .ref a_o_told, .int w_o_isBegun, .int w_o_readCards, .ref a_o_readColour, .int w_o_readDeals, .ref a_o_readDeal, .ref a_o_now, .ref a_o_then, .ref a_o_ring, .ref a_o_goes, .ref a_o_far, .ref a_o_met, .int w_o_metMany], jI E a_o_now 16 f_o_now, jI E a_o_ring 32 f_o_ring, jI E a_o_then 16 (upd f_o_then x4.toNatClampNeg (f_o_now ((v_o_cards - (1 : Int32)) - x4).toNatClampNeg))]) 3 rfl dX10_acts_137 h rfl (fun h => ?_)
      refine j_iinc (pc := 138) (j := 1) (lv' := [(4, .int (x4 + (1 : Int32))), (0, .ref a_o)]) dX10_acts_138 rfl (congrArg (fun z => x4 + z) ic_1) (Nat.le_of_ble_eq_true rfl) rfl ?_
      refine j_goto (pc := 141) (tgt := 108) dX10_acts_141 (by decide) ?_
      exact j_sub (lv' := [(0, .ref a_o), (4, .int (x4 + (1 : Int32)))]) [1, 0] rfl (ih _ _ _ _ u h)
set_option maxRecDepth 20000 in
theorem c_X10_acts {l : Launch} {E : jE} {F : Nat} {x1 : Int32} {v_o_cards : Int32} {a_o a_o_colour a_o_deal a_o_st a_o_was a_o_kept a_o_seen a_o_text a_o_told a_o_readColour a_o_readDeal a_o_now a_o_then a_o_ring a_o_goes a_o_far a_o_met : Nat} {w_o_dealMany : Int32} {w_o_acts : Int32} {w_o_keeps : Int32} {w_o_seens : Int32} {w_o_texted : Int32} {w_o_at : Int32} {w_o_isBegun : Int32} {w_o_readCards : Int32} {w_o_readDeals : Int32} {w_o_metMany : Int32} {f_o_now : Nat → Int32} {f_o_ring : Nat → Int32} {f_o_then : Nat → Int32} : ∀ u : (Nat → Int32) × (Nat → Int32) × (Nat → Int32), f_X10_acts F x1 v_o_cards f_o_now f_o_ring f_o_then = some u → jM l E K_X10_acts [.ref a_o, .int x1] [jO a_o 7 [.int v_o_cards, .ref a_o_colour, .int w_o_dealMany, .ref a_o_deal, .ref a_o_st, .int w_o_acts, .ref a_o_was, .int w_o_keeps, .ref a_o_kept, .int w_o_seens, .ref a_o_seen, .ref a_o_text, .int w_o_texted, .int w_o_at, .ref a_o_told, .int w_o_isBegun, .int w_o_readCards, .ref a_o_readColour, .int w_o_readDeals, .ref a_o_readDeal, .ref a_o_now, .ref a_o_then, .ref a_o_ring, .ref a_o_goes, .ref a_o_far, .ref a_o_met, .int w_o_metMany], jI E a_o_now 16 f_o_now, jI E a_o_ring 32 f_o_ring, jI E a_o_then 16 f_o_then] (jd none [jO a_o 7 [.int v_o_cards, .ref a_o_colour, .int w_o_dealMany, .ref a_o_deal, .ref a_o_st, .int w_o_acts, .ref a_o_was, .int w_o_keeps, .ref a_o_kept, .int w_o_seens, .ref a_o_seen, .ref a_o_text, .int w_o_texted, .int w_o_at, .ref a_o_told, .int w_o_isBegun, .int w_o_readCards, .ref a_o_readColour, .int w_o_readDeals, .ref a_o_readDeal, .ref a_o_now, .ref a_o_then, .ref a_o_ring, .ref a_o_goes, .ref a_o_far, .ref a_o_met, .int w_o_metMany], jI E a_o_now 16 u.1, jI E a_o_ring 32 u.2.1, jI E a_o_then 16 u.2.2]) := by
  intro u h
  unfold f_X10_acts at h
  refine j_met [(0, .ref a_o), (1, .int x1)] (by decide +kernel) (Nat.le_of_ble_eq_true rfl) rfl ?_
  refine j_aload_n (pc := 0) 0 dX10_acts_0 rfl rfl ?_
  refine j_get (pc := 1) (v := .int v_o_cards) 0 0 rfl rfl (Nat.le_of_ble_eq_true rfl) iwX10 m3_104 rfl dX10_acts_1 ?_
  refine j_iconst (pc := 4) dX10_acts_4 ic_1 ?_
  refine j_iadd (pc := 5) dX10_acts_5 ?_
  refine j_iconst (pc := 6) dX10_acts_6 ic_2 ?_
  refine j_idiv (pc := 7) dX10_acts_7 h (fun h => ?_)
  refine j_istore_n (pc := 8) (lv' := [(2, .int ((v_o_cards + (1 : Int32)) / (2 : Int32))), (0, .ref a_o), (1, .int x1)]) dX10_acts_8 rfl (Nat.le_of_ble_eq_true rfl) rfl ?_
  refine j_aload_n (pc := 9) 1 dX10_acts_9 rfl rfl ?_
  refine j_get (pc := 10) (v := .int v_o_cards) 0 0 rfl rfl (Nat.le_of_ble_eq_true rfl) iwX10 m3_104 rfl dX10_acts_10 ?_
  refine j_iload_n (pc := 13) 0 dX10_acts_13 rfl rfl ?_
  refine j_isub (pc := 14) dX10_acts_14 ?_
  refine j_istore_n (pc := 15) (lv' := [(3, .int (v_o_cards - ((v_o_cards + (1 : Int32)) / (2 : Int32)))), (2, .int ((v_o_cards + (1 : Int32)) / (2 : Int32))), (0, .ref a_o), (1, .int x1)]) dX10_acts_15 rfl (Nat.le_of_ble_eq_true rfl) rfl ?_
  refine j_iload_n (pc := 16) 3 dX10_acts_16 rfl rfl ?_
  refine jbr h (fun z0 h => ?_) (fun z0 h => ?_)
  · refine j_tableIn (pc := 17) (tgt := 56) (0 : Int32) z0 dX10_acts_17 (by decide) (by decide) rfl (by decide) ?_
    refine j_aload_n (pc := 56) 2 dX10_acts_56 rfl rfl ?_
    refine j_iconst (pc := 57) dX10_acts_57 ic_0 ?_
    refine j_iconst (pc := 58) dX10_acts_58 ic_1 ?_
    refine j_iload_n (pc := 59) 1 dX10_acts_59 rfl rfl ?_
    refine j_V (pc := 60) (q0 := 0) (Kc := K_X10_falls) (As := [.int (0 : Int32), .int (1 : Int32), .int ((v_o_cards + (1 : Int32)) / (2 : Int32))]) (rest := []) (wc := [jO a_o 7 [.int v_o_cards, .ref a_o_colour, .int w_o_dealMany, .ref a_o_deal, .ref a_o_st, .int w_o_acts, .ref a_o_was, .int w_o_keeps, .ref a_o_kept, .int w_o_seens, .ref a_o_seen, .ref a_o_text, .int w_o_texted, .int w_o_at, .ref a_o_told, .int w_o_isBegun, .int w_o_readCards, .ref a_o_readColour, .int w_o_readDeals, .ref a_o_readDeal, .ref a_o_now, .ref a_o_then, .ref a_o_ring, .ref a_o_goes, .ref a_o_far, .ref a_o_met, .int w_o_metMany], jI E a_o_now 16 f_o_now, jI E a_o_then 16 f_o_then]) (w' := fun b1 => [jO a_o 7 [.int v_o_cards, .ref a_o_colour, .int w_o_dealMany, .ref a_o_deal, .ref a_o_st, .int w_o_acts, .ref a_o_was, .int w_o_keeps, .ref a_o_kept, .int w_o_seens, .ref a_o_seen, .ref a_o_text, .int w_o_texted, .int w_o_at, .ref a_o_told, .int w_o_isBegun, .int w_o_readCards, .ref a_o_readColour, .int w_o_readDeals, .ref a_o_readDeal, .ref a_o_now, .ref a_o_then, .ref a_o_ring, .ref a_o_goes, .ref a_o_far, .ref a_o_met, .int w_o_metMany], jI E a_o_now 16 f_o_now, jI E a_o_ring 32 f_o_ring, jI E a_o_then 16 b1]) (st1 := fun b1 => []) [0, 1, 3] rfl rfl rfl h c_X10_falls q_X10_falls m4_40 rfl rfl (Nat.le_of_ble_eq_true rfl) ⟨(Nat.le_of_ble_eq_true rfl), (Nat.le_of_ble_eq_true rfl)⟩ ⟨rfl, rfl⟩ ⟨(Nat.le_of_ble_eq_true rfl), (Nat.le_of_ble_eq_true rfl)⟩ dX10_acts_60 rfl (by decide) (fun _ => rfl) (fun _ => rfl) (fun _ => rfl) (fun b1 h => ?_)
    refine j_goto (pc := 63) (tgt := 155) dX10_acts_63 (by decide) ?_
    exact j_sub (lv' := [(0, .ref a_o)]) [2] rfl (w_X10_acts_155 _ _ _ u h)
  refine jbr h (fun z1 h => ?_) (fun z1 h => ?_)
  · refine j_tableIn (pc := 17) (tgt := 66) (1 : Int32) z1 dX10_acts_17 (by decide) (by decide) rfl (by decide) ?_
    refine j_aload_n (pc := 66) 2 dX10_acts_66 rfl rfl ?_
    refine j_iload_n (pc := 67) 0 dX10_acts_67 rfl rfl ?_
    refine j_iconst (pc := 68) dX10_acts_68 ic_1 ?_
    refine j_iconst (pc := 69) dX10_acts_69 ic_0 ?_
    refine j_V (pc := 70) (q0 := 0) (Kc := K_X10_falls) (As := [.int (v_o_cards - ((v_o_cards + (1 : Int32)) / (2 : Int32))), .int (1 : Int32), .int (0 : Int32)]) (rest := []) (wc := [jO a_o 7 [.int v_o_cards, .ref a_o_colour, .int w_o_dealMany, .ref a_o_deal, .ref a_o_st, .int w_o_acts, .ref a_o_was, .int w_o_keeps, .ref a_o_kept, .int w_o_seens, .ref a_o_seen, .ref a_o_text, .int w_o_texted, .int w_o_at, .ref a_o_told, .int w_o_isBegun, .int w_o_readCards, .ref a_o_readColour, .int w_o_readDeals, .ref a_o_readDeal, .ref a_o_now, .ref a_o_then, .ref a_o_ring, .ref a_o_goes, .ref a_o_far, .ref a_o_met, .int w_o_metMany], jI E a_o_now 16 f_o_now, jI E a_o_then 16 f_o_then]) (w' := fun b2 => [jO a_o 7 [.int v_o_cards, .ref a_o_colour, .int w_o_dealMany, .ref a_o_deal, .ref a_o_st, .int w_o_acts, .ref a_o_was, .int w_o_keeps, .ref a_o_kept, .int w_o_seens, .ref a_o_seen, .ref a_o_text, .int w_o_texted, .int w_o_at, .ref a_o_told, .int w_o_isBegun, .int w_o_readCards, .ref a_o_readColour, .int w_o_readDeals, .ref a_o_readDeal, .ref a_o_now, .ref a_o_then, .ref a_o_ring, .ref a_o_goes, .ref a_o_far, .ref a_o_met, .int w_o_metMany], jI E a_o_now 16 f_o_now, jI E a_o_ring 32 f_o_ring, jI E a_o_then 16 b2]) (st1 := fun b2 => []) [0, 1, 3] rfl rfl rfl h c_X10_falls q_X10_falls m4_40 rfl rfl (Nat.le_of_ble_eq_true rfl) ⟨(Nat.le_of_ble_eq_true rfl), (Nat.le_of_ble_eq_true rfl)⟩ ⟨rfl, rfl⟩ ⟨(Nat.le_of_ble_eq_true rfl), (Nat.le_of_ble_eq_true rfl)⟩ dX10_acts_70 rfl (by decide) (fun _ => rfl) (fun _ => rfl) (fun _ => rfl) (fun b2 h => ?_)
    refine j_goto (pc := 73) (tgt := 155) dX10_acts_73 (by decide) ?_
    exact j_sub (lv' := [(0, .ref a_o)]) [2] rfl (w_X10_acts_155 _ _ _ u h)
  refine jbr h (fun z2 h => ?_) (fun z2 h => ?_)
  · refine j_tableIn (pc := 17) (tgt := 76) (2 : Int32) z2 dX10_acts_17 (by decide) (by decide) rfl (by decide) ?_
    refine j_aload_n (pc := 76) 2 dX10_acts_76 rfl rfl ?_
    refine j_V (pc := 77) (q0 := 0) (Kc := K_X10_milks) (As := []) (rest := []) (wc := [jO a_o 7 [.int v_o_cards, .ref a_o_colour, .int w_o_dealMany, .ref a_o_deal, .ref a_o_st, .int w_o_acts, .ref a_o_was, .int w_o_keeps, .ref a_o_kept, .int w_o_seens, .ref a_o_seen, .ref a_o_text, .int w_o_texted, .int w_o_at, .ref a_o_told, .int w_o_isBegun, .int w_o_readCards, .ref a_o_readColour, .int w_o_readDeals, .ref a_o_readDeal, .ref a_o_now, .ref a_o_then, .ref a_o_ring, .ref a_o_goes, .ref a_o_far, .ref a_o_met, .int w_o_metMany], jI E a_o_now 16 f_o_now, jI E a_o_then 16 f_o_then]) (w' := fun b3 => [jO a_o 7 [.int v_o_cards, .ref a_o_colour, .int w_o_dealMany, .ref a_o_deal, .ref a_o_st, .int w_o_acts, .ref a_o_was, .int w_o_keeps, .ref a_o_kept, .int w_o_seens, .ref a_o_seen, .ref a_o_text, .int w_o_texted, .int w_o_at, .ref a_o_told, .int w_o_isBegun, .int w_o_readCards, .ref a_o_readColour, .int w_o_readDeals, .ref a_o_readDeal, .ref a_o_now, .ref a_o_then, .ref a_o_ring, .ref a_o_goes, .ref a_o_far, .ref a_o_met, .int w_o_metMany], jI E a_o_now 16 f_o_now, jI E a_o_ring 32 f_o_ring, jI E a_o_then 16 b3]) (st1 := fun b3 => []) [0, 1, 3] rfl rfl rfl h c_X10_milks q_X10_milks m4_44 rfl rfl (Nat.le_of_ble_eq_true rfl) ⟨(Nat.le_of_ble_eq_true rfl), (Nat.le_of_ble_eq_true rfl)⟩ ⟨rfl, rfl⟩ ⟨(Nat.le_of_ble_eq_true rfl), (Nat.le_of_ble_eq_true rfl)⟩ dX10_acts_77 rfl (by decide) (fun _ => rfl) (fun _ => rfl) (fun _ => rfl) (fun b3 h => ?_)
    refine j_goto (pc := 80) (tgt := 155) dX10_acts_80 (by decide) ?_
    exact j_sub (lv' := [(0, .ref a_o)]) [2] rfl (w_X10_acts_155 _ _ _ u h)
  refine jbr h (fun z3 h => ?_) (fun z3 h => ?_)
  · refine j_tableIn (pc := 17) (tgt := 83) (3 : Int32) z3 dX10_acts_17 (by decide) (by decide) rfl (by decide) ?_
    refine j_aload_n (pc := 83) 2 dX10_acts_83 rfl rfl ?_
    refine j_V (pc := 84) (q0 := 0) (Kc := K_X10_under) (As := []) (rest := []) (wc := [jO a_o 7 [.int v_o_cards, .ref a_o_colour, .int w_o_dealMany, .ref a_o_deal, .ref a_o_st, .int w_o_acts, .ref a_o_was, .int w_o_keeps, .ref a_o_kept, .int w_o_seens, .ref a_o_seen, .ref a_o_text, .int w_o_texted, .int w_o_at, .ref a_o_told, .int w_o_isBegun, .int w_o_readCards, .ref a_o_readColour, .int w_o_readDeals, .ref a_o_readDeal, .ref a_o_now, .ref a_o_then, .ref a_o_ring, .ref a_o_goes, .ref a_o_far, .ref a_o_met, .int w_o_metMany], jI E a_o_now 16 f_o_now, jI E a_o_ring 32 f_o_ring, jI E a_o_then 16 f_o_then]) (w' := fun b4 => [jO a_o 7 [.int v_o_cards, .ref a_o_colour, .int w_o_dealMany, .ref a_o_deal, .ref a_o_st, .int w_o_acts, .ref a_o_was, .int w_o_keeps, .ref a_o_kept, .int w_o_seens, .ref a_o_seen, .ref a_o_text, .int w_o_texted, .int w_o_at, .ref a_o_told, .int w_o_isBegun, .int w_o_readCards, .ref a_o_readColour, .int w_o_readDeals, .ref a_o_readDeal, .ref a_o_now, .ref a_o_then, .ref a_o_ring, .ref a_o_goes, .ref a_o_far, .ref a_o_met, .int w_o_metMany], jI E a_o_now 16 f_o_now, jI E a_o_ring 32 b4.1, jI E a_o_then 16 b4.2]) (st1 := fun b4 => []) [0, 1, 2, 3] rfl rfl rfl h c_X10_under q_X10_under m4_48 rfl rfl (Nat.le_of_ble_eq_true rfl) ⟨(Nat.le_of_ble_eq_true rfl), (Nat.le_of_ble_eq_true rfl)⟩ ⟨rfl, rfl⟩ ⟨(Nat.le_of_ble_eq_true rfl), (Nat.le_of_ble_eq_true rfl)⟩ dX10_acts_84 rfl (by decide) (fun _ => rfl) (fun _ => rfl) (fun _ => rfl) (fun b4 h => ?_)
    refine j_goto (pc := 87) (tgt := 155) dX10_acts_87 (by decide) ?_
    exact j_sub (lv' := [(0, .ref a_o)]) [2] rfl (w_X10_acts_155 _ _ _ u h)
  refine jbr h (fun z4 h => ?_) (fun z4 h => ?_)
  · refine j_tableIn (pc := 17) (tgt := 90) (4 : Int32) z4 dX10_acts_17 (by decide) (by decide) rfl (by decide) ?_
    refine j_aload_n (pc := 90) 2 dX10_acts_90 rfl rfl ?_
    refine j_aload_n (pc := 91) 2 dX10_acts_91 rfl rfl ?_
    refine j_get (pc := 92) (v := .int v_o_cards) 0 0 rfl rfl (Nat.le_of_ble_eq_true rfl) iwX10 m3_104 rfl dX10_acts_92 ?_
    refine j_iconst (pc := 95) dX10_acts_95 ic_1 ?_
    refine j_isub (pc := 96) dX10_acts_96 ?_
    refine j_iconst (pc := 97) dX10_acts_97 ic_m1 ?_
    refine j_iconst (pc := 98) dX10_acts_98 ic_0 ?_
    refine j_V (pc := 99) (q0 := 0) (Kc := K_X10_falls) (As := [.int (v_o_cards - (1 : Int32)), .int (-1 : Int32), .int (0 : Int32)]) (rest := []) (wc := [jO a_o 7 [.int v_o_cards, .ref a_o_colour, .int w_o_dealMany, .ref a_o_deal, .ref a_o_st, .int w_o_acts, .ref a_o_was, .int w_o_keeps, .ref a_o_kept, .int w_o_seens, .ref a_o_seen, .ref a_o_text, .int w_o_texted, .int w_o_at, .ref a_o_told, .int w_o_isBegun, .int w_o_readCards, .ref a_o_readColour, .int w_o_readDeals, .ref a_o_readDeal, .ref a_o_now, .ref a_o_then, .ref a_o_ring, .ref a_o_goes, .ref a_o_far, .ref a_o_met, .int w_o_metMany], jI E a_o_now 16 f_o_now, jI E a_o_then 16 f_o_then]) (w' := fun b5 => [jO a_o 7 [.int v_o_cards, .ref a_o_colour, .int w_o_dealMany, .ref a_o_deal, .ref a_o_st, .int w_o_acts, .ref a_o_was, .int w_o_keeps, .ref a_o_kept, .int w_o_seens, .ref a_o_seen, .ref a_o_text, .int w_o_texted, .int w_o_at, .ref a_o_told, .int w_o_isBegun, .int w_o_readCards, .ref a_o_readColour, .int w_o_readDeals, .ref a_o_readDeal, .ref a_o_now, .ref a_o_then, .ref a_o_ring, .ref a_o_goes, .ref a_o_far, .ref a_o_met, .int w_o_metMany], jI E a_o_now 16 f_o_now, jI E a_o_ring 32 f_o_ring, jI E a_o_then 16 b5]) (st1 := fun b5 => []) [0, 1, 3] rfl rfl rfl h c_X10_falls q_X10_falls m4_40 rfl rfl (Nat.le_of_ble_eq_true rfl) ⟨(Nat.le_of_ble_eq_true rfl), (Nat.le_of_ble_eq_true rfl)⟩ ⟨rfl, rfl⟩ ⟨(Nat.le_of_ble_eq_true rfl), (Nat.le_of_ble_eq_true rfl)⟩ dX10_acts_99 rfl (by decide) (fun _ => rfl) (fun _ => rfl) (fun _ => rfl) (fun b5 h => ?_)
    refine j_goto (pc := 102) (tgt := 155) dX10_acts_102 (by decide) ?_
    exact j_sub (lv' := [(0, .ref a_o)]) [2] rfl (w_X10_acts_155 _ _ _ u h)
  refine jbr h (fun z5 h => ?_) (fun z5 h => ?_)
  · refine j_tableIn (pc := 17) (tgt := 105) (5 : Int32) z5 dX10_acts_17 (by decide) (by decide) rfl (by decide) ?_
    refine j_iconst (pc := 105) dX10_acts_105 ic_0 ?_
    refine j_istore (pc := 106) (lv' := [(4, .int (0 : Int32)), (3, .int (v_o_cards - ((v_o_cards + (1 : Int32)) / (2 : Int32)))), (2, .int ((v_o_cards + (1 : Int32)) / (2 : Int32))), (0, .ref a_o), (1, .int x1)]) dX10_acts_106 (Nat.le_of_ble_eq_true rfl) rfl ?_
    exact j_sub (lv' := [(0, .ref a_o), (4, .int (0 : Int32))]) [3, 0] rfl (w_X10_acts_108 _ _ _ _ _ u h)
  refine j_tableOut (pc := 17) (tgt := 147) dX10_acts_17 (by have e0 := j_ne z0 (z := 0) (by decide); have e1 := j_ne z1 (z := 1) (by decide); have e2 := j_ne z2 (z := 2) (by decide); have e3 := j_ne z3 (z := 3) (by decide); have e4 := j_ne z4 (z := 4) (by decide); have e5 := j_ne z5 (z := 5) (by decide); omega) (by decide) ?_
  refine j_aload_n (pc := 147) 2 dX10_acts_147 rfl rfl ?_
  refine j_iload_n (pc := 148) 3 dX10_acts_148 rfl rfl ?_
  refine j_bipush (pc := 149) dX10_acts_149 bc_6 ?_
  refine j_isub (pc := 151) dX10_acts_151 ?_
  refine j_V (pc := 152) (q0 := 0) (Kc := K_X10_cuts) (As := [.int (x1 - (6 : Int32))]) (rest := []) (wc := [jO a_o 7 [.int v_o_cards, .ref a_o_colour, .int w_o_dealMany, .ref a_o_deal, .ref a_o_st, .int w_o_acts, .ref a_o_was, .int w_o_keeps, .ref a_o_kept, .int w_o_seens, .ref a_o_seen, .ref a_o_text, .int w_o_texted, .int w_o_at, .ref a_o_told, .int w_o_isBegun, .int w_o_readCards, .ref a_o_readColour, .int w_o_readDeals, .ref a_o_readDeal, .ref a_o_now, .ref a_o_then, .ref a_o_ring, .ref a_o_goes, .ref a_o_far, .ref a_o_met, .int w_o_metMany], jI E a_o_now 16 f_o_now, jI E a_o_then 16 f_o_then]) (w' := fun b6 => [jO a_o 7 [.int v_o_cards, .ref a_o_colour, .int w_o_dealMany, .ref a_o_deal, .ref a_o_st, .int w_o_acts, .ref a_o_was, .int w_o_keeps, .ref a_o_kept, .int w_o_seens, .ref a_o_seen, .ref a_o_text, .int w_o_texted, .int w_o_at, .ref a_o_told, .int w_o_isBegun, .int w_o_readCards, .ref a_o_readColour, .int w_o_readDeals, .ref a_o_readDeal, .ref a_o_now, .ref a_o_then, .ref a_o_ring, .ref a_o_goes, .ref a_o_far, .ref a_o_met, .int w_o_metMany], jI E a_o_now 16 f_o_now, jI E a_o_ring 32 f_o_ring, jI E a_o_then 16 b6]) (st1 := fun b6 => []) [0, 1, 3] rfl rfl rfl h c_X10_cuts q_X10_cuts m4_52 rfl rfl (Nat.le_of_ble_eq_true rfl) ⟨(Nat.le_of_ble_eq_true rfl), (Nat.le_of_ble_eq_true rfl)⟩ ⟨rfl, rfl⟩ ⟨(Nat.le_of_ble_eq_true rfl), (Nat.le_of_ble_eq_true rfl)⟩ dX10_acts_152 rfl (by decide) (fun _ => rfl) (fun _ => rfl) (fun _ => rfl) (fun b6 h => ?_)
  exact j_sub (lv' := [(0, .ref a_o)]) [2] rfl (w_X10_acts_155 _ _ _ u h)
set_option maxRecDepth 20000 in
theorem w_X10_deals_2 {l : Launch} {E : jE} {F : Nat} {v_o_cards : Int32} {v_o_dealMany : Int32} {f_o_deal : Nat → Int32} {a_o a_o_colour a_o_deal a_o_st a_o_was a_o_kept a_o_seen a_o_text a_o_told a_o_readColour a_o_readDeal a_o_now a_o_then a_o_ring a_o_goes a_o_far a_o_met : Nat} {w_o_acts : Int32} {w_o_keeps : Int32} {w_o_seens : Int32} {w_o_texted : Int32} {w_o_at : Int32} {w_o_isBegun : Int32} {w_o_readCards : Int32} {w_o_readDeals : Int32} {w_o_metMany : Int32} : ∀ (n : Nat) (x1 : Int32) (f_o_now : Nat → Int32) (f_o_ring : Nat → Int32) (f_o_then : Nat → Int32) (u : (Nat → Int32) × (Nat → Int32) × (Nat → Int32)), g_X10_deals_2 F v_o_cards v_o_dealMany f_o_deal n x1 f_o_now f_o_ring f_o_then = some u → jT l E K_X10_deals 0 0 2 [(0, .ref a_o), (1, .int x1)] [] [jO a_o 7 [.int v_o_cards, .ref a_o_colour, .int v_o_dealMany, .ref a_o_deal, .ref a_o_st, .int w_o_acts, .ref a_o_was, .int w_o_keeps, .ref a_o_kept, .int w_o_seens, .ref a_o_seen, .ref a_o_text, .int w_o_texted, .int w_o_at, .ref a_o_told, .int w_o_isBegun, .int w_o_readCards, .ref a_o_readColour, .int w_o_readDeals, .ref a_o_readDeal, .ref a_o_now, .ref a_o_then, .ref a_o_ring, .ref a_o_goes, .ref a_o_far, .ref a_o_met, .int w_o_metMany], jI E a_o_deal 16 f_o_deal, jI E a_o_now 16 f_o_now, jI E a_o_ring 32 f_o_ring, jI E a_o_then 16 f_o_then] (jd none [jO a_o 7 [.int v_o_cards, .ref a_o_colour, .int v_o_dealMany, .ref a_o_deal, .ref a_o_st, .int w_o_acts, .ref a_o_was, .int w_o_keeps, .ref a_o_kept, .int w_o_seens, .ref a_o_seen, .ref a_o_text, .int w_o_texted, .int w_o_at, .ref a_o_told, .int w_o_isBegun, .int w_o_readCards, .ref a_o_readColour, .int w_o_readDeals, .ref a_o_readDeal, .ref a_o_now, .ref a_o_then, .ref a_o_ring, .ref a_o_goes, .ref a_o_far, .ref a_o_met, .int w_o_metMany], jI E a_o_deal 16 f_o_deal, jI E a_o_now 16 u.1, jI E a_o_ring 32 u.2.1, jI E a_o_then 16 u.2.2]) := by
  intro n
  induction n with
  | zero =>
    intro x1 f_o_now f_o_ring f_o_then u h
    rw [g_X10_deals_2] at h
    cases h
  | succ n ih =>
    intro x1 f_o_now f_o_ring f_o_then u h
    rw [g_X10_deals_2] at h
    refine j_iload_n (pc := 2) 1 dX10_deals_2 rfl rfl ?_
    refine j_aload_n (pc := 3) 0 dX10_deals_3 rfl rfl ?_
    refine j_get (pc := 4) (v := .int v_o_dealMany) 0 2 rfl rfl (Nat.le_of_ble_eq_true rfl) iwX10 m3_106 rfl dX10_deals_4 ?_
    refine j_icmp_ge (pc := 7) (tgt := 26) dX10_deals_7 (by decide) h (fun h => ?_) (fun h => ?_)
    · cases h
      exact j_vret (pc := 26) rfl dX10_deals_26 (Nat.le_of_ble_eq_true rfl) (Nat.le_of_ble_eq_true rfl) (jd_i rfl rfl)
    · refine j_aload_n (pc := 10) 0 dX10_deals_10 rfl rfl ?_
      refine j_aload_n (pc := 11) 0 dX10_deals_11 rfl rfl ?_
      refine j_get (pc := 12) (v := .ref a_o_deal) 0 3 rfl rfl (Nat.le_of_ble_eq_true rfl) iwX10 m3_107 rfl dX10_deals_12 ?_
      refine j_iload_n (pc := 15) 1 dX10_deals_15 rfl rfl ?_
      refine j_iald (pc := 16) 1 rfl dX10_deals_16 h (fun h => ?_)
      refine j_V (pc := 17) (q0 := 0) (Kc := K_X10_acts) (As := [.int (f_o_deal x1.toNatClampNeg)]) (rest := []) (wc := [jO a_o 7 [.int v_o_cards, .ref a_o_colour, .int v_o_dealMany, .ref a_o_deal, .ref a_o_st, .int w_o_acts, .ref a_o_was, .int w_o_keeps, .ref a_o_kept, .int w_o_seens, .ref a_o_seen, .ref a_o_text, .int w_o_texted, .int w_o_at, .ref a_o_told, .int w_o_isBegun, .int w_o_readCards, .ref a_o_readColour, .int w_o_readDeals, .ref a_o_readDeal, .ref a_o_now, .ref a_o_then, .ref a_o_ring, .ref a_o_goes, .ref a_o_far, .ref a_o_met, .int w_o_metMany], jI E a_o_now 16 f_o_now, jI E a_o_ring 32 f_o_ring, jI E a_o_then 16 f_o_then]) (w' := fun b1 => [jO a_o 7 [.int v_o_cards, .ref a_o_colour, .int v_o_dealMany, .ref a_o_deal, .ref a_o_st, .int w_o_acts, .ref a_o_was, .int w_o_keeps, .ref a_o_kept, .int w_o_seens, .ref a_o_seen, .ref a_o_text, .int w_o_texted, .int w_o_at, .ref a_o_told, .int w_o_isBegun, .int w_o_readCards, .ref a_o_readColour, .int w_o_readDeals, .ref a_o_readDeal, .ref a_o_now, .ref a_o_then, .ref a_o_ring, .ref a_o_goes, .ref a_o_far, .ref a_o_met, .int w_o_metMany], jI E a_o_deal 16 f_o_deal, jI E a_o_now 16 b1.1, jI E a_o_ring 32 b1.2.1, jI E a_o_then 16 b1.2.2]) (st1 := fun b1 => []) [0, 2, 3, 4] rfl rfl rfl h c_X10_acts q_X10_acts m4_36 rfl rfl (Nat.le_of_ble_eq_true rfl) ⟨(Nat.le_of_ble_eq_true rfl), (Nat.le_of_ble_eq_true rfl)⟩ ⟨rfl, rfl⟩ ⟨(Nat.le_of_ble_eq_true rfl), (Nat.le_of_ble_eq_true rfl)⟩ dX10_deals_17 rfl (by decide) (fun _ => rfl) (fun _ => rfl) (fun _ => rfl) (fun b1 h => ?_)
      refine j_iinc (pc := 20) (j := 1) (lv' := [(1, .int (x1 + (1 : Int32))), (0, .ref a_o)]) dX10_deals_20 rfl (congrArg (fun z => x1 + z) ic_1) (Nat.le_of_ble_eq_true rfl) rfl ?_
      refine j_goto (pc := 23) (tgt := 2) dX10_deals_23 (by decide) ?_
      exact j_sub (lv' := [(0, .ref a_o), (1, .int (x1 + (1 : Int32)))]) [1, 0] rfl (ih _ _ _ _ u h)
set_option maxRecDepth 20000 in
theorem c_X10_deals {l : Launch} {E : jE} {F : Nat} {v_o_cards : Int32} {v_o_dealMany : Int32} {f_o_deal : Nat → Int32} {a_o a_o_colour a_o_deal a_o_st a_o_was a_o_kept a_o_seen a_o_text a_o_told a_o_readColour a_o_readDeal a_o_now a_o_then a_o_ring a_o_goes a_o_far a_o_met : Nat} {w_o_acts : Int32} {w_o_keeps : Int32} {w_o_seens : Int32} {w_o_texted : Int32} {w_o_at : Int32} {w_o_isBegun : Int32} {w_o_readCards : Int32} {w_o_readDeals : Int32} {w_o_metMany : Int32} {f_o_now : Nat → Int32} {f_o_ring : Nat → Int32} {f_o_then : Nat → Int32} : ∀ u : (Nat → Int32) × (Nat → Int32) × (Nat → Int32), f_X10_deals F v_o_cards v_o_dealMany f_o_deal f_o_now f_o_ring f_o_then = some u → jM l E K_X10_deals [.ref a_o] [jO a_o 7 [.int v_o_cards, .ref a_o_colour, .int v_o_dealMany, .ref a_o_deal, .ref a_o_st, .int w_o_acts, .ref a_o_was, .int w_o_keeps, .ref a_o_kept, .int w_o_seens, .ref a_o_seen, .ref a_o_text, .int w_o_texted, .int w_o_at, .ref a_o_told, .int w_o_isBegun, .int w_o_readCards, .ref a_o_readColour, .int w_o_readDeals, .ref a_o_readDeal, .ref a_o_now, .ref a_o_then, .ref a_o_ring, .ref a_o_goes, .ref a_o_far, .ref a_o_met, .int w_o_metMany], jI E a_o_deal 16 f_o_deal, jI E a_o_now 16 f_o_now, jI E a_o_ring 32 f_o_ring, jI E a_o_then 16 f_o_then] (jd none [jO a_o 7 [.int v_o_cards, .ref a_o_colour, .int v_o_dealMany, .ref a_o_deal, .ref a_o_st, .int w_o_acts, .ref a_o_was, .int w_o_keeps, .ref a_o_kept, .int w_o_seens, .ref a_o_seen, .ref a_o_text, .int w_o_texted, .int w_o_at, .ref a_o_told, .int w_o_isBegun, .int w_o_readCards, .ref a_o_readColour, .int w_o_readDeals, .ref a_o_readDeal, .ref a_o_now, .ref a_o_then, .ref a_o_ring, .ref a_o_goes, .ref a_o_far, .ref a_o_met, .int w_o_metMany], jI E a_o_deal 16 f_o_deal, jI E a_o_now 16 u.1, jI E a_o_ring 32 u.2.1, jI E a_o_then 16 u.2.2]) := by
  intro u h
  unfold f_X10_deals at h
  refine j_met [(0, .ref a_o)] (by decide +kernel) (Nat.le_of_ble_eq_true rfl) rfl ?_
  refine j_iconst (pc := 0) dX10_deals_0 ic_0 ?_
  refine j_istore_n (pc := 1) (lv' := [(1, .int (0 : Int32)), (0, .ref a_o)]) dX10_deals_1 rfl (Nat.le_of_ble_eq_true rfl) rfl ?_
  exact j_sub (lv' := [(0, .ref a_o), (1, .int (0 : Int32))]) [1, 0] rfl (w_X10_deals_2 _ _ _ _ _ u h)
set_option maxRecDepth 20000 in
theorem w_X10_placeOf_2 {l : Launch} {E : jE} {F : Nat} {x1 : Int32} {f_o_now : Nat → Int32} {a_o a_o_colour a_o_deal a_o_st a_o_was a_o_kept a_o_seen a_o_text a_o_told a_o_readColour a_o_readDeal a_o_now a_o_then a_o_ring a_o_goes a_o_far a_o_met : Nat} {w_o_cards : Int32} {w_o_dealMany : Int32} {w_o_acts : Int32} {w_o_keeps : Int32} {w_o_seens : Int32} {w_o_texted : Int32} {w_o_at : Int32} {w_o_isBegun : Int32} {w_o_readCards : Int32} {w_o_readDeals : Int32} {w_o_metMany : Int32} : ∀ (n : Nat) (x2 : Int32) (u : Int32), g_X10_placeOf_2 F x1 f_o_now n x2 = some u → jT l E K_X10_placeOf 0 0 2 [(0, .ref a_o), (1, .int x1), (2, .int x2)] [] [jO a_o 7 [.int w_o_cards, .ref a_o_colour, .int w_o_dealMany, .ref a_o_deal, .ref a_o_st, .int w_o_acts, .ref a_o_was, .int w_o_keeps, .ref a_o_kept, .int w_o_seens, .ref a_o_seen, .ref a_o_text, .int w_o_texted, .int w_o_at, .ref a_o_told, .int w_o_isBegun, .int w_o_readCards, .ref a_o_readColour, .int w_o_readDeals, .ref a_o_readDeal, .ref a_o_now, .ref a_o_then, .ref a_o_ring, .ref a_o_goes, .ref a_o_far, .ref a_o_met, .int w_o_metMany], jI E a_o_now 16 f_o_now] (jd (some (.int u)) [jO a_o 7 [.int w_o_cards, .ref a_o_colour, .int w_o_dealMany, .ref a_o_deal, .ref a_o_st, .int w_o_acts, .ref a_o_was, .int w_o_keeps, .ref a_o_kept, .int w_o_seens, .ref a_o_seen, .ref a_o_text, .int w_o_texted, .int w_o_at, .ref a_o_told, .int w_o_isBegun, .int w_o_readCards, .ref a_o_readColour, .int w_o_readDeals, .ref a_o_readDeal, .ref a_o_now, .ref a_o_then, .ref a_o_ring, .ref a_o_goes, .ref a_o_far, .ref a_o_met, .int w_o_metMany], jI E a_o_now 16 f_o_now]) := by
  intro n
  induction n with
  | zero =>
    intro x2 u h
    rw [g_X10_placeOf_2] at h
    cases h
  | succ n ih =>
    intro x2 u h
    rw [g_X10_placeOf_2] at h
    refine j_aload_n (pc := 2) 0 dX10_placeOf_2 rfl rfl ?_
    refine j_get (pc := 3) (v := .ref a_o_now) 0 20 rfl rfl (Nat.le_of_ble_eq_true rfl) iwX10 m3_124 rfl dX10_placeOf_3 ?_
    refine j_iload_n (pc := 6) 2 dX10_placeOf_6 rfl rfl ?_
    refine j_iald (pc := 7) 1 rfl dX10_placeOf_7 h (fun h => ?_)
    refine j_iload_n (pc := 8) 1 dX10_placeOf_8 rfl rfl ?_
    refine j_icmp_eq (pc := 9) (tgt := 18) dX10_placeOf_9 (by decide) h (fun h => ?_) (fun h => ?_)
    · refine j_iload_n (pc := 18) 2 dX10_placeOf_18 rfl rfl ?_
      cases h
      exact j_iret (pc := 19) rfl dX10_placeOf_19 (Nat.le_of_ble_eq_true rfl) (Nat.le_of_ble_eq_true rfl) (jd_i rfl rfl)
    · refine j_iinc (pc := 12) (j := 2) (lv' := [(2, .int (x2 + (1 : Int32))), (0, .ref a_o), (1, .int x1)]) dX10_placeOf_12 rfl (congrArg (fun z => x2 + z) ic_1) (Nat.le_of_ble_eq_true rfl) rfl ?_
      refine j_goto (pc := 15) (tgt := 2) dX10_placeOf_15 (by decide) ?_
      exact j_sub (lv' := [(0, .ref a_o), (1, .int x1), (2, .int (x2 + (1 : Int32)))]) [1, 2, 0] rfl (ih _ u h)
set_option maxRecDepth 20000 in
theorem c_X10_placeOf {l : Launch} {E : jE} {F : Nat} {x1 : Int32} {f_o_now : Nat → Int32} {a_o a_o_colour a_o_deal a_o_st a_o_was a_o_kept a_o_seen a_o_text a_o_told a_o_readColour a_o_readDeal a_o_now a_o_then a_o_ring a_o_goes a_o_far a_o_met : Nat} {w_o_cards : Int32} {w_o_dealMany : Int32} {w_o_acts : Int32} {w_o_keeps : Int32} {w_o_seens : Int32} {w_o_texted : Int32} {w_o_at : Int32} {w_o_isBegun : Int32} {w_o_readCards : Int32} {w_o_readDeals : Int32} {w_o_metMany : Int32} : ∀ u : Int32, f_X10_placeOf F x1 f_o_now = some u → jM l E K_X10_placeOf [.ref a_o, .int x1] [jO a_o 7 [.int w_o_cards, .ref a_o_colour, .int w_o_dealMany, .ref a_o_deal, .ref a_o_st, .int w_o_acts, .ref a_o_was, .int w_o_keeps, .ref a_o_kept, .int w_o_seens, .ref a_o_seen, .ref a_o_text, .int w_o_texted, .int w_o_at, .ref a_o_told, .int w_o_isBegun, .int w_o_readCards, .ref a_o_readColour, .int w_o_readDeals, .ref a_o_readDeal, .ref a_o_now, .ref a_o_then, .ref a_o_ring, .ref a_o_goes, .ref a_o_far, .ref a_o_met, .int w_o_metMany], jI E a_o_now 16 f_o_now] (jd (some (.int u)) [jO a_o 7 [.int w_o_cards, .ref a_o_colour, .int w_o_dealMany, .ref a_o_deal, .ref a_o_st, .int w_o_acts, .ref a_o_was, .int w_o_keeps, .ref a_o_kept, .int w_o_seens, .ref a_o_seen, .ref a_o_text, .int w_o_texted, .int w_o_at, .ref a_o_told, .int w_o_isBegun, .int w_o_readCards, .ref a_o_readColour, .int w_o_readDeals, .ref a_o_readDeal, .ref a_o_now, .ref a_o_then, .ref a_o_ring, .ref a_o_goes, .ref a_o_far, .ref a_o_met, .int w_o_metMany], jI E a_o_now 16 f_o_now]) := by
  intro u h
  unfold f_X10_placeOf at h
  refine j_met [(0, .ref a_o), (1, .int x1)] (by decide +kernel) (Nat.le_of_ble_eq_true rfl) rfl ?_
  refine j_iconst (pc := 0) dX10_placeOf_0 ic_0 ?_
  refine j_istore_n (pc := 1) (lv' := [(2, .int (0 : Int32)), (0, .ref a_o), (1, .int x1)]) dX10_placeOf_1 rfl (Nat.le_of_ble_eq_true rfl) rfl ?_
  exact j_sub (lv' := [(0, .ref a_o), (1, .int x1), (2, .int (0 : Int32))]) [1, 2, 0] rfl (w_X10_placeOf_2 _ _ u h)
set_option maxRecDepth 20000 in
theorem c_X10_at {l : Launch} {E : jE} {F : Nat} {x1 : Int32} {v_o_cards : Int32} {f_o_st : Nat → Int32} {a_o a_o_colour a_o_deal a_o_st a_o_was a_o_kept a_o_seen a_o_text a_o_told a_o_readColour a_o_readDeal a_o_now a_o_then a_o_ring a_o_goes a_o_far a_o_met : Nat} {w_o_dealMany : Int32} {w_o_acts : Int32} {w_o_keeps : Int32} {w_o_seens : Int32} {w_o_texted : Int32} {w_o_at : Int32} {w_o_isBegun : Int32} {w_o_readCards : Int32} {w_o_readDeals : Int32} {w_o_metMany : Int32} : ∀ u : Int32, f_X10_at F x1 v_o_cards f_o_st = some u → jM l E K_X10_at [.ref a_o, .int x1] [jO a_o 7 [.int v_o_cards, .ref a_o_colour, .int w_o_dealMany, .ref a_o_deal, .ref a_o_st, .int w_o_acts, .ref a_o_was, .int w_o_keeps, .ref a_o_kept, .int w_o_seens, .ref a_o_seen, .ref a_o_text, .int w_o_texted, .int w_o_at, .ref a_o_told, .int w_o_isBegun, .int w_o_readCards, .ref a_o_readColour, .int w_o_readDeals, .ref a_o_readDeal, .ref a_o_now, .ref a_o_then, .ref a_o_ring, .ref a_o_goes, .ref a_o_far, .ref a_o_met, .int w_o_metMany], jI E a_o_st 16 f_o_st] (jd (some (.int u)) [jO a_o 7 [.int v_o_cards, .ref a_o_colour, .int w_o_dealMany, .ref a_o_deal, .ref a_o_st, .int w_o_acts, .ref a_o_was, .int w_o_keeps, .ref a_o_kept, .int w_o_seens, .ref a_o_seen, .ref a_o_text, .int w_o_texted, .int w_o_at, .ref a_o_told, .int w_o_isBegun, .int w_o_readCards, .ref a_o_readColour, .int w_o_readDeals, .ref a_o_readDeal, .ref a_o_now, .ref a_o_then, .ref a_o_ring, .ref a_o_goes, .ref a_o_far, .ref a_o_met, .int w_o_metMany], jI E a_o_st 16 f_o_st]) := by
  intro u h
  unfold f_X10_at at h
  refine j_met [(0, .ref a_o), (1, .int x1)] (by decide +kernel) (Nat.le_of_ble_eq_true rfl) rfl ?_
  refine j_aload_n (pc := 0) 0 dX10_at_0 rfl rfl ?_
  refine j_iload_n (pc := 1) 1 dX10_at_1 rfl rfl ?_
  refine j_V (pc := 2) (q0 := 0) (Kc := K_X10_isCard) (As := [.int x1]) (rest := []) (wc := [jO a_o 7 [.int v_o_cards, .ref a_o_colour, .int w_o_dealMany, .ref a_o_deal, .ref a_o_st, .int w_o_acts, .ref a_o_was, .int w_o_keeps, .ref a_o_kept, .int w_o_seens, .ref a_o_seen, .ref a_o_text, .int w_o_texted, .int w_o_at, .ref a_o_told, .int w_o_isBegun, .int w_o_readCards, .ref a_o_readColour, .int w_o_readDeals, .ref a_o_readDeal, .ref a_o_now, .ref a_o_then, .ref a_o_ring, .ref a_o_goes, .ref a_o_far, .ref a_o_met, .int w_o_metMany]]) (w' := fun b1 => [jO a_o 7 [.int v_o_cards, .ref a_o_colour, .int w_o_dealMany, .ref a_o_deal, .ref a_o_st, .int w_o_acts, .ref a_o_was, .int w_o_keeps, .ref a_o_kept, .int w_o_seens, .ref a_o_seen, .ref a_o_text, .int w_o_texted, .int w_o_at, .ref a_o_told, .int w_o_isBegun, .int w_o_readCards, .ref a_o_readColour, .int w_o_readDeals, .ref a_o_readDeal, .ref a_o_now, .ref a_o_then, .ref a_o_ring, .ref a_o_goes, .ref a_o_far, .ref a_o_met, .int w_o_metMany], jI E a_o_st 16 f_o_st]) (st1 := fun b1 => [.int b1]) [0] rfl rfl rfl h c_X10_isCard q_X10_isCard m4_1 rfl rfl (Nat.le_of_ble_eq_true rfl) ⟨(Nat.le_of_ble_eq_true rfl), (Nat.le_of_ble_eq_true rfl)⟩ ⟨rfl, rfl⟩ ⟨(Nat.le_of_ble_eq_true rfl), (Nat.le_of_ble_eq_true rfl)⟩ dX10_at_2 rfl (by decide) (fun _ => rfl) (fun _ => rfl) (fun _ => rfl) (fun b1 h => ?_)
  refine j_if_eq (pc := 5) (tgt := 17) dX10_at_5 (by decide) h (fun h => ?_) (fun h => ?_)
  · refine j_iconst (pc := 17) dX10_at_17 ic_m1 ?_
    cases h
    exact j_iret (pc := 18) rfl dX10_at_18 (Nat.le_of_ble_eq_true rfl) (Nat.le_of_ble_eq_true rfl) (jd_i rfl rfl)
  · refine j_aload_n (pc := 8) 0 dX10_at_8 rfl rfl ?_
    refine j_get (pc := 9) (v := .ref a_o_st) 0 4 rfl rfl (Nat.le_of_ble_eq_true rfl) iwX10 m3_108 rfl dX10_at_9 ?_
    refine j_iload_n (pc := 12) 1 dX10_at_12 rfl rfl ?_
    refine j_iald (pc := 13) 1 rfl dX10_at_13 h (fun h => ?_)
    refine j_goto (pc := 14) (tgt := 18) dX10_at_14 (by decide) ?_
    cases h
    exact j_iret (pc := 18) rfl dX10_at_18 (Nat.le_of_ble_eq_true rfl) (Nat.le_of_ble_eq_true rfl) (jd_i rfl rfl)
set_option maxRecDepth 20000 in
theorem c_X10_where {l : Launch} {E : jE} {F : Nat} {x1 : Int32} {v_o_cards : Int32} {f_o_st : Nat → Int32} {a_o a_o_colour a_o_deal a_o_st a_o_was a_o_kept a_o_seen a_o_text a_o_told a_o_readColour a_o_readDeal a_o_now a_o_then a_o_ring a_o_goes a_o_far a_o_met : Nat} {w_o_dealMany : Int32} {w_o_acts : Int32} {w_o_keeps : Int32} {w_o_seens : Int32} {w_o_texted : Int32} {w_o_at : Int32} {w_o_isBegun : Int32} {w_o_readCards : Int32} {w_o_readDeals : Int32} {w_o_metMany : Int32} {f_o_now : Nat → Int32} : ∀ u : Int32 × (Nat → Int32), f_X10_where F x1 v_o_cards f_o_st f_o_now = some u → jM l E K_X10_where [.ref a_o, .int x1] [jO a_o 7 [.int v_o_cards, .ref a_o_colour, .int w_o_dealMany, .ref a_o_deal, .ref a_o_st, .int w_o_acts, .ref a_o_was, .int w_o_keeps, .ref a_o_kept, .int w_o_seens, .ref a_o_seen, .ref a_o_text, .int w_o_texted, .int w_o_at, .ref a_o_told, .int w_o_isBegun, .int w_o_readCards, .ref a_o_readColour, .int w_o_readDeals, .ref a_o_readDeal, .ref a_o_now, .ref a_o_then, .ref a_o_ring, .ref a_o_goes, .ref a_o_far, .ref a_o_met, .int w_o_metMany], jI E a_o_now 16 f_o_now, jI E a_o_st 16 f_o_st] (jd (some (.int u.1)) [jO a_o 7 [.int v_o_cards, .ref a_o_colour, .int w_o_dealMany, .ref a_o_deal, .ref a_o_st, .int w_o_acts, .ref a_o_was, .int w_o_keeps, .ref a_o_kept, .int w_o_seens, .ref a_o_seen, .ref a_o_text, .int w_o_texted, .int w_o_at, .ref a_o_told, .int w_o_isBegun, .int w_o_readCards, .ref a_o_readColour, .int w_o_readDeals, .ref a_o_readDeal, .ref a_o_now, .ref a_o_then, .ref a_o_ring, .ref a_o_goes, .ref a_o_far, .ref a_o_met, .int w_o_metMany], jI E a_o_now 16 u.2, jI E a_o_st 16 f_o_st]) := by
  intro u h
  unfold f_X10_where at h
  refine j_met [(0, .ref a_o), (1, .int x1)] (by decide +kernel) (Nat.le_of_ble_eq_true rfl) rfl ?_
  refine j_aload_n (pc := 0) 0 dX10_where_0 rfl rfl ?_
  refine j_iload_n (pc := 1) 1 dX10_where_1 rfl rfl ?_
  refine j_V (pc := 2) (q0 := 0) (Kc := K_X10_isCard) (As := [.int x1]) (rest := []) (wc := [jO a_o 7 [.int v_o_cards, .ref a_o_colour, .int w_o_dealMany, .ref a_o_deal, .ref a_o_st, .int w_o_acts, .ref a_o_was, .int w_o_keeps, .ref a_o_kept, .int w_o_seens, .ref a_o_seen, .ref a_o_text, .int w_o_texted, .int w_o_at, .ref a_o_told, .int w_o_isBegun, .int w_o_readCards, .ref a_o_readColour, .int w_o_readDeals, .ref a_o_readDeal, .ref a_o_now, .ref a_o_then, .ref a_o_ring, .ref a_o_goes, .ref a_o_far, .ref a_o_met, .int w_o_metMany]]) (w' := fun b1 => [jO a_o 7 [.int v_o_cards, .ref a_o_colour, .int w_o_dealMany, .ref a_o_deal, .ref a_o_st, .int w_o_acts, .ref a_o_was, .int w_o_keeps, .ref a_o_kept, .int w_o_seens, .ref a_o_seen, .ref a_o_text, .int w_o_texted, .int w_o_at, .ref a_o_told, .int w_o_isBegun, .int w_o_readCards, .ref a_o_readColour, .int w_o_readDeals, .ref a_o_readDeal, .ref a_o_now, .ref a_o_then, .ref a_o_ring, .ref a_o_goes, .ref a_o_far, .ref a_o_met, .int w_o_metMany], jI E a_o_now 16 f_o_now, jI E a_o_st 16 f_o_st]) (st1 := fun b1 => [.int b1]) [0] rfl rfl rfl h c_X10_isCard q_X10_isCard m4_1 rfl rfl (Nat.le_of_ble_eq_true rfl) ⟨(Nat.le_of_ble_eq_true rfl), (Nat.le_of_ble_eq_true rfl)⟩ ⟨rfl, rfl⟩ ⟨(Nat.le_of_ble_eq_true rfl), (Nat.le_of_ble_eq_true rfl)⟩ dX10_where_2 rfl (by decide) (fun _ => rfl) (fun _ => rfl) (fun _ => rfl) (fun b1 h => ?_)
  refine j_if_ne (pc := 5) (tgt := 10) dX10_where_5 (by decide) h (fun h => ?_) (fun h => ?_)
  · refine j_aload_n (pc := 10) 0 dX10_where_10 rfl rfl ?_
    refine j_V (pc := 11) (q0 := 0) (Kc := K_X10_asItIs) (As := []) (rest := []) (wc := [jO a_o 7 [.int v_o_cards, .ref a_o_colour, .int w_o_dealMany, .ref a_o_deal, .ref a_o_st, .int w_o_acts, .ref a_o_was, .int w_o_keeps, .ref a_o_kept, .int w_o_seens, .ref a_o_seen, .ref a_o_text, .int w_o_texted, .int w_o_at, .ref a_o_told, .int w_o_isBegun, .int w_o_readCards, .ref a_o_readColour, .int w_o_readDeals, .ref a_o_readDeal, .ref a_o_now, .ref a_o_then, .ref a_o_ring, .ref a_o_goes, .ref a_o_far, .ref a_o_met, .int w_o_metMany], jI E a_o_now 16 f_o_now, jI E a_o_st 16 f_o_st]) (w' := fun b2 => [jO a_o 7 [.int v_o_cards, .ref a_o_colour, .int w_o_dealMany, .ref a_o_deal, .ref a_o_st, .int w_o_acts, .ref a_o_was, .int w_o_keeps, .ref a_o_kept, .int w_o_seens, .ref a_o_seen, .ref a_o_text, .int w_o_texted, .int w_o_at, .ref a_o_told, .int w_o_isBegun, .int w_o_readCards, .ref a_o_readColour, .int w_o_readDeals, .ref a_o_readDeal, .ref a_o_now, .ref a_o_then, .ref a_o_ring, .ref a_o_goes, .ref a_o_far, .ref a_o_met, .int w_o_metMany], jI E a_o_now 16 b2, jI E a_o_st 16 f_o_st]) (st1 := fun b2 => []) [0, 1, 2] rfl rfl rfl h c_X10_asItIs q_X10_asItIs m4_9 rfl rfl (Nat.le_of_ble_eq_true rfl) ⟨(Nat.le_of_ble_eq_true rfl), (Nat.le_of_ble_eq_true rfl)⟩ ⟨rfl, rfl⟩ ⟨(Nat.le_of_ble_eq_true rfl), (Nat.le_of_ble_eq_true rfl)⟩ dX10_where_11 rfl (by decide) (fun _ => rfl) (fun _ => rfl) (fun _ => rfl) (fun b2 h => ?_)
    refine j_aload_n (pc := 14) 0 dX10_where_14 rfl rfl ?_
    refine j_iload_n (pc := 15) 1 dX10_where_15 rfl rfl ?_
    refine j_V (pc := 16) (q0 := 0) (Kc := K_X10_placeOf) (As := [.int x1]) (rest := []) (wc := [jO a_o 7 [.int v_o_cards, .ref a_o_colour, .int w_o_dealMany, .ref a_o_deal, .ref a_o_st, .int w_o_acts, .ref a_o_was, .int w_o_keeps, .ref a_o_kept, .int w_o_seens, .ref a_o_seen, .ref a_o_text, .int w_o_texted, .int w_o_at, .ref a_o_told, .int w_o_isBegun, .int w_o_readCards, .ref a_o_readColour, .int w_o_readDeals, .ref a_o_readDeal, .ref a_o_now, .ref a_o_then, .ref a_o_ring, .ref a_o_goes, .ref a_o_far, .ref a_o_met, .int w_o_metMany], jI E a_o_now 16 b2]) (w' := fun b3 => [jO a_o 7 [.int v_o_cards, .ref a_o_colour, .int w_o_dealMany, .ref a_o_deal, .ref a_o_st, .int w_o_acts, .ref a_o_was, .int w_o_keeps, .ref a_o_kept, .int w_o_seens, .ref a_o_seen, .ref a_o_text, .int w_o_texted, .int w_o_at, .ref a_o_told, .int w_o_isBegun, .int w_o_readCards, .ref a_o_readColour, .int w_o_readDeals, .ref a_o_readDeal, .ref a_o_now, .ref a_o_then, .ref a_o_ring, .ref a_o_goes, .ref a_o_far, .ref a_o_met, .int w_o_metMany], jI E a_o_now 16 b2, jI E a_o_st 16 f_o_st]) (st1 := fun b3 => [.int b3]) [0, 1] rfl rfl rfl h c_X10_placeOf q_X10_placeOf m4_13 rfl rfl (Nat.le_of_ble_eq_true rfl) ⟨(Nat.le_of_ble_eq_true rfl), (Nat.le_of_ble_eq_true rfl)⟩ ⟨rfl, rfl⟩ ⟨(Nat.le_of_ble_eq_true rfl), (Nat.le_of_ble_eq_true rfl)⟩ dX10_where_16 rfl (by decide) (fun _ => rfl) (fun _ => rfl) (fun _ => rfl) (fun b3 h => ?_)
    cases h
    exact j_iret (pc := 19) rfl dX10_where_19 (Nat.le_of_ble_eq_true rfl) (Nat.le_of_ble_eq_true rfl) (jd_i rfl rfl)
  · refine j_iconst (pc := 8) dX10_where_8 ic_m1 ?_
    cases h
    exact j_iret (pc := 9) rfl dX10_where_9 (Nat.le_of_ble_eq_true rfl) (Nat.le_of_ble_eq_true rfl) (jd_i rfl rfl)
set_option maxRecDepth 20000 in
theorem c_X10_colour {l : Launch} {E : jE} {F : Nat} {x1 : Int32} {v_o_cards : Int32} {f_o_colour : Nat → Int32} {a_o a_o_colour a_o_deal a_o_st a_o_was a_o_kept a_o_seen a_o_text a_o_told a_o_readColour a_o_readDeal a_o_now a_o_then a_o_ring a_o_goes a_o_far a_o_met : Nat} {w_o_dealMany : Int32} {w_o_acts : Int32} {w_o_keeps : Int32} {w_o_seens : Int32} {w_o_texted : Int32} {w_o_at : Int32} {w_o_isBegun : Int32} {w_o_readCards : Int32} {w_o_readDeals : Int32} {w_o_metMany : Int32} : ∀ u : Int32, f_X10_colour F x1 v_o_cards f_o_colour = some u → jM l E K_X10_colour [.ref a_o, .int x1] [jO a_o 7 [.int v_o_cards, .ref a_o_colour, .int w_o_dealMany, .ref a_o_deal, .ref a_o_st, .int w_o_acts, .ref a_o_was, .int w_o_keeps, .ref a_o_kept, .int w_o_seens, .ref a_o_seen, .ref a_o_text, .int w_o_texted, .int w_o_at, .ref a_o_told, .int w_o_isBegun, .int w_o_readCards, .ref a_o_readColour, .int w_o_readDeals, .ref a_o_readDeal, .ref a_o_now, .ref a_o_then, .ref a_o_ring, .ref a_o_goes, .ref a_o_far, .ref a_o_met, .int w_o_metMany], jI E a_o_colour 16 f_o_colour] (jd (some (.int u)) [jO a_o 7 [.int v_o_cards, .ref a_o_colour, .int w_o_dealMany, .ref a_o_deal, .ref a_o_st, .int w_o_acts, .ref a_o_was, .int w_o_keeps, .ref a_o_kept, .int w_o_seens, .ref a_o_seen, .ref a_o_text, .int w_o_texted, .int w_o_at, .ref a_o_told, .int w_o_isBegun, .int w_o_readCards, .ref a_o_readColour, .int w_o_readDeals, .ref a_o_readDeal, .ref a_o_now, .ref a_o_then, .ref a_o_ring, .ref a_o_goes, .ref a_o_far, .ref a_o_met, .int w_o_metMany], jI E a_o_colour 16 f_o_colour]) := by
  intro u h
  unfold f_X10_colour at h
  refine j_met [(0, .ref a_o), (1, .int x1)] (by decide +kernel) (Nat.le_of_ble_eq_true rfl) rfl ?_
  refine j_aload_n (pc := 0) 0 dX10_colour_0 rfl rfl ?_
  refine j_iload_n (pc := 1) 1 dX10_colour_1 rfl rfl ?_
  refine j_V (pc := 2) (q0 := 0) (Kc := K_X10_isCard) (As := [.int x1]) (rest := []) (wc := [jO a_o 7 [.int v_o_cards, .ref a_o_colour, .int w_o_dealMany, .ref a_o_deal, .ref a_o_st, .int w_o_acts, .ref a_o_was, .int w_o_keeps, .ref a_o_kept, .int w_o_seens, .ref a_o_seen, .ref a_o_text, .int w_o_texted, .int w_o_at, .ref a_o_told, .int w_o_isBegun, .int w_o_readCards, .ref a_o_readColour, .int w_o_readDeals, .ref a_o_readDeal, .ref a_o_now, .ref a_o_then, .ref a_o_ring, .ref a_o_goes, .ref a_o_far, .ref a_o_met, .int w_o_metMany]]) (w' := fun b1 => [jO a_o 7 [.int v_o_cards, .ref a_o_colour, .int w_o_dealMany, .ref a_o_deal, .ref a_o_st, .int w_o_acts, .ref a_o_was, .int w_o_keeps, .ref a_o_kept, .int w_o_seens, .ref a_o_seen, .ref a_o_text, .int w_o_texted, .int w_o_at, .ref a_o_told, .int w_o_isBegun, .int w_o_readCards, .ref a_o_readColour, .int w_o_readDeals, .ref a_o_readDeal, .ref a_o_now, .ref a_o_then, .ref a_o_ring, .ref a_o_goes, .ref a_o_far, .ref a_o_met, .int w_o_metMany], jI E a_o_colour 16 f_o_colour]) (st1 := fun b1 => [.int b1]) [0] rfl rfl rfl h c_X10_isCard q_X10_isCard m4_1 rfl rfl (Nat.le_of_ble_eq_true rfl) ⟨(Nat.le_of_ble_eq_true rfl), (Nat.le_of_ble_eq_true rfl)⟩ ⟨rfl, rfl⟩ ⟨(Nat.le_of_ble_eq_true rfl), (Nat.le_of_ble_eq_true rfl)⟩ dX10_colour_2 rfl (by decide) (fun _ => rfl) (fun _ => rfl) (fun _ => rfl) (fun b1 h => ?_)
  refine j_if_eq (pc := 5) (tgt := 17) dX10_colour_5 (by decide) h (fun h => ?_) (fun h => ?_)
  · refine j_iconst (pc := 17) dX10_colour_17 ic_m1 ?_
    cases h
    exact j_iret (pc := 18) rfl dX10_colour_18 (Nat.le_of_ble_eq_true rfl) (Nat.le_of_ble_eq_true rfl) (jd_i rfl rfl)
  · refine j_aload_n (pc := 8) 0 dX10_colour_8 rfl rfl ?_
    refine j_get (pc := 9) (v := .ref a_o_colour) 0 1 rfl rfl (Nat.le_of_ble_eq_true rfl) iwX10 m3_105 rfl dX10_colour_9 ?_
    refine j_iload_n (pc := 12) 1 dX10_colour_12 rfl rfl ?_
    refine j_iald (pc := 13) 1 rfl dX10_colour_13 h (fun h => ?_)
    refine j_goto (pc := 14) (tgt := 18) dX10_colour_14 (by decide) ?_
    cases h
    exact j_iret (pc := 18) rfl dX10_colour_18 (Nat.le_of_ble_eq_true rfl) (Nat.le_of_ble_eq_true rfl) (jd_i rfl rfl)
set_option maxRecDepth 20000 in
theorem w_X10_remembers_48 {l : Launch} {E : jE} {F : Nat} {f_o_st : Nat → Int32} {a_o a_o_colour a_o_deal a_o_st a_o_was a_o_kept a_o_seen a_o_text a_o_told a_o_readColour a_o_readDeal a_o_now a_o_then a_o_ring a_o_goes a_o_far a_o_met : Nat} {w_o_cards : Int32} {w_o_dealMany : Int32} {w_o_keeps : Int32} {w_o_seens : Int32} {w_o_texted : Int32} {w_o_at : Int32} {w_o_isBegun : Int32} {w_o_readCards : Int32} {w_o_readDeals : Int32} {w_o_metMany : Int32} : ∀ (v_o_acts : Int32) (f_o_was : Nat → Int32) (u : Int32 × (Nat → Int32)), g_X10_remembers_48 F f_o_st v_o_acts f_o_was = some u → jT l E K_X10_remembers 0 0 48 [(0, .ref a_o)] [] [jO a_o 7 [.int w_o_cards, .ref a_o_colour, .int w_o_dealMany, .ref a_o_deal, .ref a_o_st, .int v_o_acts, .ref a_o_was, .int w_o_keeps, .ref a_o_kept, .int w_o_seens, .ref a_o_seen, .ref a_o_text, .int w_o_texted, .int w_o_at, .ref a_o_told, .int w_o_isBegun, .int w_o_readCards, .ref a_o_readColour, .int w_o_readDeals, .ref a_o_readDeal, .ref a_o_now, .ref a_o_then, .ref a_o_ring, .ref a_o_goes, .ref a_o_far, .ref a_o_met, .int w_o_metMany], jI E a_o_st 16 f_o_st, jI E a_o_was 128 f_o_was] (jd none [jO a_o 7 [.int w_o_cards, .ref a_o_colour, .int w_o_dealMany, .ref a_o_deal, .ref a_o_st, .int u.1, .ref a_o_was, .int w_o_keeps, .ref a_o_kept, .int w_o_seens, .ref a_o_seen, .ref a_o_text, .int w_o_texted, .int w_o_at, .ref a_o_told, .int w_o_isBegun, .int w_o_readCards, .ref a_o_readColour, .int w_o_readDeals, .ref a_o_readDeal, .ref a_o_now, .ref a_o_then, .ref a_o_ring, .ref a_o_goes, .ref a_o_far, .ref a_o_met, .int w_o_metMany], jI E a_o_st 16 f_o_st, jI E a_o_was 128 u.2]) := by
  intro v_o_acts f_o_was u h
  unfold g_X10_remembers_48 at h
  refine j_aload_n (pc := 48) 0 dX10_remembers_48 rfl rfl ?_
  refine j_get (pc := 49) (v := .ref a_o_was) 0 6 rfl rfl (Nat.le_of_ble_eq_true rfl) iwX10 m3_110 rfl dX10_remembers_49 ?_
  refine j_bipush (pc := 52) dX10_remembers_52 bc_16 ?_
  refine j_aload_n (pc := 54) 0 dX10_remembers_54 rfl rfl ?_
  refine j_get (pc := 55) (v := .int v_o_acts) 0 5 rfl rfl (Nat.le_of_ble_eq_true rfl) iwX10 m3_109 rfl dX10_remembers_55 ?_
  refine j_imul (pc := 58) dX10_remembers_58 ?_
  refine j_aload_n (pc := 59) 0 dX10_remembers_59 rfl rfl ?_
  refine j_get (pc := 60) (v := .ref a_o_st) 0 4 rfl rfl (Nat.le_of_ble_eq_true rfl) iwX10 m3_108 rfl dX10_remembers_60 ?_
  refine j_iconst (pc := 63) dX10_remembers_63 ic_0 ?_
  refine j_bipush (pc := 64) dX10_remembers_64 bc_16 ?_
  refine j_S (pc := 66) (Kc := K_X10_copies) (As := [.ref a_o_was, .int ((16 : Int32) * v_o_acts), .ref a_o_st, .int (0 : Int32), .int (16 : Int32)]) (rest := []) (wc := [jI E a_o_was 128 f_o_was, jI E a_o_st 16 f_o_st]) (w' := fun b1 => [jO a_o 7 [.int w_o_cards, .ref a_o_colour, .int w_o_dealMany, .ref a_o_deal, .ref a_o_st, .int v_o_acts, .ref a_o_was, .int w_o_keeps, .ref a_o_kept, .int w_o_seens, .ref a_o_seen, .ref a_o_text, .int w_o_texted, .int w_o_at, .ref a_o_told, .int w_o_isBegun, .int w_o_readCards, .ref a_o_readColour, .int w_o_readDeals, .ref a_o_readDeal, .ref a_o_now, .ref a_o_then, .ref a_o_ring, .ref a_o_goes, .ref a_o_far, .ref a_o_met, .int w_o_metMany], jI E a_o_st 16 f_o_st, jI E a_o_was 128 b1]) (st1 := fun b1 => []) [2, 1] h c_X10_copies q_X10_copies m3_98 rfl rfl (Nat.le_of_ble_eq_true rfl) ⟨(Nat.le_of_ble_eq_true rfl), (Nat.le_of_ble_eq_true rfl)⟩ ⟨rfl, rfl⟩ ⟨(Nat.le_of_ble_eq_true rfl), (Nat.le_of_ble_eq_true rfl)⟩ dX10_remembers_66 rfl (by decide) (fun _ => rfl) (fun _ => rfl) (fun _ => rfl) (fun b1 h => ?_)
  refine j_aload_n (pc := 69) 0 dX10_remembers_69 rfl rfl ?_
  refine j_dup (pc := 70) dX10_remembers_70 rfl ?_
  refine j_get (pc := 71) (v := .int v_o_acts) 0 5 rfl rfl (Nat.le_of_ble_eq_true rfl) iwX10 m3_109 rfl dX10_remembers_71 ?_
  refine j_iconst (pc := 74) dX10_remembers_74 ic_1 ?_
  refine j_iadd (pc := 75) dX10_remembers_75 ?_
  refine j_put (pc := 76) (w' := [jO a_o 7 [.int w_o_cards, .ref a_o_colour, .int w_o_dealMany, .ref a_o_deal, .ref a_o_st, .int (v_o_acts + (1 : Int32)), .ref a_o_was, .int w_o_keeps, .ref a_o_kept, .int w_o_seens, .ref a_o_seen, .ref a_o_text, .int w_o_texted, .int w_o_at, .ref a_o_told, .int w_o_isBegun, .int w_o_readCards, .ref a_o_readColour, .int w_o_readDeals, .ref a_o_readDeal, .ref a_o_now, .ref a_o_then, .ref a_o_ring, .ref a_o_goes, .ref a_o_far, .ref a_o_met, .int w_o_metMany], jI E a_o_st 16 f_o_st, jI E a_o_was 128 b1]) tyX10 0 5 tyX10_ok nmX10 rfl rfl (Nat.le_of_ble_eq_true rfl) iwX10 m3_109 rfl rfl rfl rfl (Nat.le_of_ble_eq_true rfl) dX10_remembers_76 rfl ?_
  cases h
  exact j_vret (pc := 79) rfl dX10_remembers_79 (Nat.le_of_ble_eq_true rfl) (Nat.le_of_ble_eq_true rfl) (jd_i rfl rfl)
set_option maxRecDepth 20000 in
theorem w_X10_remembers_11 {l : Launch} {E : jE} {F : Nat} {f_o_st : Nat → Int32} {a_o a_o_colour a_o_deal a_o_st a_o_was a_o_kept a_o_seen a_o_text a_o_told a_o_readColour a_o_readDeal a_o_now a_o_then a_o_ring a_o_goes a_o_far a_o_met : Nat} {w_o_cards : Int32} {w_o_dealMany : Int32} {w_o_keeps : Int32} {w_o_seens : Int32} {w_o_texted : Int32} {w_o_at : Int32} {w_o_isBegun : Int32} {w_o_readCards : Int32} {w_o_readDeals : Int32} {w_o_metMany : Int32} : ∀ (n : Nat) (x1 : Int32) (v_o_acts : Int32) (f_o_was : Nat → Int32) (u : Int32 × (Nat → Int32)), g_X10_remembers_11 F f_o_st n x1 v_o_acts f_o_was = some u → jT l E K_X10_remembers 0 0 11 [(0, .ref a_o), (1, .int x1)] [] [jO a_o 7 [.int w_o_cards, .ref a_o_colour, .int w_o_dealMany, .ref a_o_deal, .ref a_o_st, .int v_o_acts, .ref a_o_was, .int w_o_keeps, .ref a_o_kept, .int w_o_seens, .ref a_o_seen, .ref a_o_text, .int w_o_texted, .int w_o_at, .ref a_o_told, .int w_o_isBegun, .int w_o_readCards, .ref a_o_readColour, .int w_o_readDeals, .ref a_o_readDeal, .ref a_o_now, .ref a_o_then, .ref a_o_ring, .ref a_o_goes, .ref a_o_far, .ref a_o_met, .int w_o_metMany], jI E a_o_st 16 f_o_st, jI E a_o_was 128 f_o_was] (jd none [jO a_o 7 [.int w_o_cards, .ref a_o_colour, .int w_o_dealMany, .ref a_o_deal, .ref a_o_st, .int u.1, .ref a_o_was, .int w_o_keeps, .ref a_o_kept, .int w_o_seens, .ref a_o_seen, .ref a_o_text, .int w_o_texted, .int w_o_at, .ref a_o_told, .int w_o_isBegun, .int w_o_readCards, .ref a_o_readColour, .int w_o_readDeals, .ref a_o_readDeal, .ref a_o_now, .ref a_o_then, .ref a_o_ring, .ref a_o_goes, .ref a_o_far, .ref a_o_met, .int w_o_metMany], jI E a_o_st 16 f_o_st, jI E a_o_was 128 u.2]) := by
  intro n
  induction n with
  | zero =>
    intro x1 v_o_acts f_o_was u h
    rw [g_X10_remembers_11] at h
    cases h
  | succ n ih =>
    intro x1 v_o_acts f_o_was u h
    rw [g_X10_remembers_11] at h
    refine j_iload_n (pc := 11) 1 dX10_remembers_11 rfl rfl ?_
    refine j_bipush (pc := 12) dX10_remembers_12 bc_112 ?_
    refine j_icmp_ge (pc := 14) (tgt := 38) dX10_remembers_14 (by decide) h (fun h => ?_) (fun h => ?_)
    · refine j_aload_n (pc := 38) 0 dX10_remembers_38 rfl rfl ?_
      refine j_dup (pc := 39) dX10_remembers_39 rfl ?_
      refine j_get (pc := 40) (v := .int v_o_acts) 0 5 rfl rfl (Nat.le_of_ble_eq_true rfl) iwX10 m3_109 rfl dX10_remembers_40 ?_
      refine j_iconst (pc := 43) dX10_remembers_43 ic_1 ?_
      refine j_isub (pc := 44) dX10_remembers_44 ?_
      refine j_put (pc := 45) (w' := [jO a_o 7 [.int w_o_cards, .ref a_o_colour, .int w_o_dealMany, .ref a_o_deal, .ref a_o_st, .int (v_o_acts - (1 : Int32)), .ref a_o_was, .int w_o_keeps, .ref a_o_kept, .int w_o_seens, .ref a_o_seen, .ref a_o_text, .int w_o_texted, .int w_o_at, .ref a_o_told, .int w_o_isBegun, .int w_o_readCards, .ref a_o_readColour, .int w_o_readDeals, .ref a_o_readDeal, .ref a_o_now, .ref a_o_then, .ref a_o_ring, .ref a_o_goes, .ref a_o_far, .ref a_o_met, .int w_o_metMany], jI E a_o_st 16 f_o_st, jI E a_o_was 128 f_o_was]) tyX10 0 5 tyX10_ok nmX10 rfl rfl (Nat.le_of_ble_eq_true rfl) iwX10 m3_109 rfl rfl rfl rfl (Nat.le_of_ble_eq_true rfl) dX10_remembers_45 rfl ?_
      exact j_sub (lv' := [(0, .ref a_o)]) [0] rfl (w_X10_remembers_48 _ _ u h)
    · refine j_aload_n (pc := 17) 0 dX10_remembers_17 rfl rfl ?_
      refine j_get (pc := 18) (v := .ref a_o_was) 0 6 rfl rfl (Nat.le_of_ble_eq_true rfl) iwX10 m3_110 rfl dX10_remembers_18 ?_
      refine j_iload_n (pc := 21) 1 dX10_remembers_21 rfl rfl ?_
      refine j_aload_n (pc := 22) 0 dX10_remembers_22 rfl rfl ?_
      refine j_get (pc := 23) (v := .ref a_o_was) 0 6 rfl rfl (Nat.le_of_ble_eq_true rfl) iwX10 m3_110 rfl dX10_remembers_23 ?_
      refine j_iload_n (pc := 26) 1 dX10_remembers_26 rfl rfl ?_
      refine j_bipush (pc := 27) dX10_remembers_27 bc_16 ?_
      refine j_iadd (pc := 29) dX10_remembers_29 ?_
      refine j_iald (pc := 30) 2 rfl dX10_remembers_30 h (fun h => ?_)
      refine j_iast (pc := 31) (w' := [jO a_o 7 [.int w_o_cards, .ref a_o_colour, .int w_o_dealMany, .ref a_o_deal, .ref a_o_st, .int v_o_acts, .ref a_o_was, .int w_o_keeps, .ref a_o_kept, .int w_o_seens, .ref a_o_seen, .ref a_o_text, .int w_o_texted, .int w_o_at, .ref a_o_told, .int w_o_isBegun, .int w_o_readCards, .ref a_o_readColour, .int w_o_readDeals, .ref a_o_readDeal, .ref a_o_now, .ref a_o_then, .ref a_o_ring, .ref a_o_goes, .ref a_o_far, .ref a_o_met, .int w_o_metMany], jI E a_o_st 16 f_o_st, jI E a_o_was 128 (upd f_o_was x1.toNatClampNeg (f_o_was (x1 + (16 : Int32)).toNatClampNeg))]) 2 rfl dX10_remembers_31 h rfl (fun h => ?_)
      refine j_iinc (pc := 32) (j := 1) (lv' := [(1, .int (x1 + (1 : Int32))), (0, .ref a_o)]) dX10_remembers_32 rfl (congrArg (fun z => x1 + z) ic_1) (Nat.le_of_ble_eq_true rfl) rfl ?_
      refine j_goto (pc := 35) (tgt := 11) dX10_remembers_35 (by decide) ?_
      exact j_sub (lv' := [(0, .ref a_o), (1, .int (x1 + (1 : Int32)))]) [1, 0] rfl (ih _ _ _ u h)
set_option maxRecDepth 20000 in
theorem c_X10_remembers {l : Launch} {E : jE} {F : Nat} {f_o_st : Nat → Int32} {a_o a_o_colour a_o_deal a_o_st a_o_was a_o_kept a_o_seen a_o_text a_o_told a_o_readColour a_o_readDeal a_o_now a_o_then a_o_ring a_o_goes a_o_far a_o_met : Nat} {w_o_cards : Int32} {w_o_dealMany : Int32} {w_o_keeps : Int32} {w_o_seens : Int32} {w_o_texted : Int32} {w_o_at : Int32} {w_o_isBegun : Int32} {w_o_readCards : Int32} {w_o_readDeals : Int32} {w_o_metMany : Int32} {v_o_acts : Int32} {f_o_was : Nat → Int32} : ∀ u : Int32 × (Nat → Int32), f_X10_remembers F f_o_st v_o_acts f_o_was = some u → jM l E K_X10_remembers [.ref a_o] [jO a_o 7 [.int w_o_cards, .ref a_o_colour, .int w_o_dealMany, .ref a_o_deal, .ref a_o_st, .int v_o_acts, .ref a_o_was, .int w_o_keeps, .ref a_o_kept, .int w_o_seens, .ref a_o_seen, .ref a_o_text, .int w_o_texted, .int w_o_at, .ref a_o_told, .int w_o_isBegun, .int w_o_readCards, .ref a_o_readColour, .int w_o_readDeals, .ref a_o_readDeal, .ref a_o_now, .ref a_o_then, .ref a_o_ring, .ref a_o_goes, .ref a_o_far, .ref a_o_met, .int w_o_metMany], jI E a_o_st 16 f_o_st, jI E a_o_was 128 f_o_was] (jd none [jO a_o 7 [.int w_o_cards, .ref a_o_colour, .int w_o_dealMany, .ref a_o_deal, .ref a_o_st, .int u.1, .ref a_o_was, .int w_o_keeps, .ref a_o_kept, .int w_o_seens, .ref a_o_seen, .ref a_o_text, .int w_o_texted, .int w_o_at, .ref a_o_told, .int w_o_isBegun, .int w_o_readCards, .ref a_o_readColour, .int w_o_readDeals, .ref a_o_readDeal, .ref a_o_now, .ref a_o_then, .ref a_o_ring, .ref a_o_goes, .ref a_o_far, .ref a_o_met, .int w_o_metMany], jI E a_o_st 16 f_o_st, jI E a_o_was 128 u.2]) := by
  intro u h
  unfold f_X10_remembers at h
  refine j_met [(0, .ref a_o)] (by decide +kernel) (Nat.le_of_ble_eq_true rfl) rfl ?_
  refine j_aload_n (pc := 0) 0 dX10_remembers_0 rfl rfl ?_
  refine j_get (pc := 1) (v := .int v_o_acts) 0 5 rfl rfl (Nat.le_of_ble_eq_true rfl) iwX10 m3_109 rfl dX10_remembers_1 ?_
  refine j_bipush (pc := 4) dX10_remembers_4 bc_8 ?_
  refine j_icmp_ne (pc := 6) (tgt := 48) dX10_remembers_6 (by decide) h (fun h => ?_) (fun h => ?_)
  · exact w_X10_remembers_48 _ _ u h
  · refine j_iconst (pc := 9) dX10_remembers_9 ic_0 ?_
    refine j_istore_n (pc := 10) (lv' := [(1, .int (0 : Int32)), (0, .ref a_o)]) dX10_remembers_10 rfl (Nat.le_of_ble_eq_true rfl) rfl ?_
    exact j_sub (lv' := [(0, .ref a_o), (1, .int (0 : Int32))]) [1, 0] rfl (w_X10_remembers_11 _ _ _ _ u h)
set_option maxRecDepth 20000 in
theorem c_X10_does {l : Launch} {E : jE} {F : Nat} {x1 : Int32} {v_o_cards : Int32} {a_o a_o_colour a_o_deal a_o_st a_o_was a_o_kept a_o_seen a_o_text a_o_told a_o_readColour a_o_readDeal a_o_now a_o_then a_o_ring a_o_goes a_o_far a_o_met : Nat} {w_o_dealMany : Int32} {w_o_keeps : Int32} {w_o_seens : Int32} {w_o_texted : Int32} {w_o_at : Int32} {w_o_isBegun : Int32} {w_o_readCards : Int32} {w_o_readDeals : Int32} {w_o_metMany : Int32} {v_o_acts : Int32} {f_o_now : Nat → Int32} {f_o_ring : Nat → Int32} {f_o_st : Nat → Int32} {f_o_then : Nat → Int32} {f_o_was : Nat → Int32} : ∀ u : Int32 × Int32 × (Nat → Int32) × (Nat → Int32) × (Nat → Int32) × (Nat → Int32) × (Nat → Int32), f_X10_does F x1 v_o_cards v_o_acts f_o_now f_o_ring f_o_st f_o_then f_o_was = some u → jM l E K_X10_does [.ref a_o, .int x1] [jO a_o 7 [.int v_o_cards, .ref a_o_colour, .int w_o_dealMany, .ref a_o_deal, .ref a_o_st, .int v_o_acts, .ref a_o_was, .int w_o_keeps, .ref a_o_kept, .int w_o_seens, .ref a_o_seen, .ref a_o_text, .int w_o_texted, .int w_o_at, .ref a_o_told, .int w_o_isBegun, .int w_o_readCards, .ref a_o_readColour, .int w_o_readDeals, .ref a_o_readDeal, .ref a_o_now, .ref a_o_then, .ref a_o_ring, .ref a_o_goes, .ref a_o_far, .ref a_o_met, .int w_o_metMany], jI E a_o_now 16 f_o_now, jI E a_o_ring 32 f_o_ring, jI E a_o_st 16 f_o_st, jI E a_o_then 16 f_o_then, jI E a_o_was 128 f_o_was] (jd (some (.int u.1)) [jO a_o 7 [.int v_o_cards, .ref a_o_colour, .int w_o_dealMany, .ref a_o_deal, .ref a_o_st, .int u.2.1, .ref a_o_was, .int w_o_keeps, .ref a_o_kept, .int w_o_seens, .ref a_o_seen, .ref a_o_text, .int w_o_texted, .int w_o_at, .ref a_o_told, .int w_o_isBegun, .int w_o_readCards, .ref a_o_readColour, .int w_o_readDeals, .ref a_o_readDeal, .ref a_o_now, .ref a_o_then, .ref a_o_ring, .ref a_o_goes, .ref a_o_far, .ref a_o_met, .int w_o_metMany], jI E a_o_now 16 u.2.2.1, jI E a_o_ring 32 u.2.2.2.1, jI E a_o_st 16 u.2.2.2.2.1, jI E a_o_then 16 u.2.2.2.2.2.1, jI E a_o_was 128 u.2.2.2.2.2.2]) := by
  intro u h
  unfold f_X10_does at h
  refine j_met [(0, .ref a_o), (1, .int x1)] (by decide +kernel) (Nat.le_of_ble_eq_true rfl) rfl ?_
  refine j_aload_n (pc := 0) 0 dX10_does_0 rfl rfl ?_
  refine j_V (pc := 1) (q0 := 0) (Kc := K_X10_remembers) (As := []) (rest := []) (wc := [jO a_o 7 [.int v_o_cards, .ref a_o_colour, .int w_o_dealMany, .ref a_o_deal, .ref a_o_st, .int v_o_acts, .ref a_o_was, .int w_o_keeps, .ref a_o_kept, .int w_o_seens, .ref a_o_seen, .ref a_o_text, .int w_o_texted, .int w_o_at, .ref a_o_told, .int w_o_isBegun, .int w_o_readCards, .ref a_o_readColour, .int w_o_readDeals, .ref a_o_readDeal, .ref a_o_now, .ref a_o_then, .ref a_o_ring, .ref a_o_goes, .ref a_o_far, .ref a_o_met, .int w_o_metMany], jI E a_o_st 16 f_o_st, jI E a_o_was 128 f_o_was]) (w' := fun b1 => [jO a_o 7 [.int v_o_cards, .ref a_o_colour, .int w_o_dealMany, .ref a_o_deal, .ref a_o_st, .int b1.1, .ref a_o_was, .int w_o_keeps, .ref a_o_kept, .int w_o_seens, .ref a_o_seen, .ref a_o_text, .int w_o_texted, .int w_o_at, .ref a_o_told, .int w_o_isBegun, .int w_o_readCards, .ref a_o_readColour, .int w_o_readDeals, .ref a_o_readDeal, .ref a_o_now, .ref a_o_then, .ref a_o_ring, .ref a_o_goes, .ref a_o_far, .ref a_o_met, .int w_o_metMany], jI E a_o_now 16 f_o_now, jI E a_o_ring 32 f_o_ring, jI E a_o_st 16 f_o_st, jI E a_o_then 16 f_o_then, jI E a_o_was 128 b1.2]) (st1 := fun b1 => []) [0, 3, 5] rfl rfl rfl h c_X10_remembers q_X10_remembers m4_32 rfl rfl (Nat.le_of_ble_eq_true rfl) ⟨(Nat.le_of_ble_eq_true rfl), (Nat.le_of_ble_eq_true rfl)⟩ ⟨rfl, rfl⟩ ⟨(Nat.le_of_ble_eq_true rfl), (Nat.le_of_ble_eq_true rfl)⟩ dX10_does_1 rfl (by decide) (fun _ => rfl) (fun _ => rfl) (fun _ => rfl) (fun b1 h => ?_)
  refine j_aload_n (pc := 4) 0 dX10_does_4 rfl rfl ?_
  refine j_V (pc := 5) (q0 := 0) (Kc := K_X10_asItIs) (As := []) (rest := []) (wc := [jO a_o 7 [.int v_o_cards, .ref a_o_colour, .int w_o_dealMany, .ref a_o_deal, .ref a_o_st, .int b1.1, .ref a_o_was, .int w_o_keeps, .ref a_o_kept, .int w_o_seens, .ref a_o_seen, .ref a_o_text, .int w_o_texted, .int w_o_at, .ref a_o_told, .int w_o_isBegun, .int w_o_readCards, .ref a_o_readColour, .int w_o_readDeals, .ref a_o_readDeal, .ref a_o_now, .ref a_o_then, .ref a_o_ring, .ref a_o_goes, .ref a_o_far, .ref a_o_met, .int w_o_metMany], jI E a_o_now 16 f_o_now, jI E a_o_st 16 f_o_st]) (w' := fun b2 => [jO a_o 7 [.int v_o_cards, .ref a_o_colour, .int w_o_dealMany, .ref a_o_deal, .ref a_o_st, .int b1.1, .ref a_o_was, .int w_o_keeps, .ref a_o_kept, .int w_o_seens, .ref a_o_seen, .ref a_o_text, .int w_o_texted, .int w_o_at, .ref a_o_told, .int w_o_isBegun, .int w_o_readCards, .ref a_o_readColour, .int w_o_readDeals, .ref a_o_readDeal, .ref a_o_now, .ref a_o_then, .ref a_o_ring, .ref a_o_goes, .ref a_o_far, .ref a_o_met, .int w_o_metMany], jI E a_o_now 16 b2, jI E a_o_ring 32 f_o_ring, jI E a_o_st 16 f_o_st, jI E a_o_then 16 f_o_then, jI E a_o_was 128 b1.2]) (st1 := fun b2 => []) [0, 1, 3] rfl rfl rfl h c_X10_asItIs q_X10_asItIs m4_9 rfl rfl (Nat.le_of_ble_eq_true rfl) ⟨(Nat.le_of_ble_eq_true rfl), (Nat.le_of_ble_eq_true rfl)⟩ ⟨rfl, rfl⟩ ⟨(Nat.le_of_ble_eq_true rfl), (Nat.le_of_ble_eq_true rfl)⟩ dX10_does_5 rfl (by decide) (fun _ => rfl) (fun _ => rfl) (fun _ => rfl) (fun b2 h => ?_)
  refine j_aload_n (pc := 8) 0 dX10_does_8 rfl rfl ?_
  refine j_iload_n (pc := 9) 1 dX10_does_9 rfl rfl ?_
  refine j_V (pc := 10) (q0 := 0) (Kc := K_X10_acts) (As := [.int x1]) (rest := []) (wc := [jO a_o 7 [.int v_o_cards, .ref a_o_colour, .int w_o_dealMany, .ref a_o_deal, .ref a_o_st, .int b1.1, .ref a_o_was, .int w_o_keeps, .ref a_o_kept, .int w_o_seens, .ref a_o_seen, .ref a_o_text, .int w_o_texted, .int w_o_at, .ref a_o_told, .int w_o_isBegun, .int w_o_readCards, .ref a_o_readColour, .int w_o_readDeals, .ref a_o_readDeal, .ref a_o_now, .ref a_o_then, .ref a_o_ring, .ref a_o_goes, .ref a_o_far, .ref a_o_met, .int w_o_metMany], jI E a_o_now 16 b2, jI E a_o_ring 32 f_o_ring, jI E a_o_then 16 f_o_then]) (w' := fun b3 => [jO a_o 7 [.int v_o_cards, .ref a_o_colour, .int w_o_dealMany, .ref a_o_deal, .ref a_o_st, .int b1.1, .ref a_o_was, .int w_o_keeps, .ref a_o_kept, .int w_o_seens, .ref a_o_seen, .ref a_o_text, .int w_o_texted, .int w_o_at, .ref a_o_told, .int w_o_isBegun, .int w_o_readCards, .ref a_o_readColour, .int w_o_readDeals, .ref a_o_readDeal, .ref a_o_now, .ref a_o_then, .ref a_o_ring, .ref a_o_goes, .ref a_o_far, .ref a_o_met, .int w_o_metMany], jI E a_o_now 16 b3.1, jI E a_o_ring 32 b3.2.1, jI E a_o_st 16 f_o_st, jI E a_o_then 16 b3.2.2, jI E a_o_was 128 b1.2]) (st1 := fun b3 => []) [0, 1, 2, 4] rfl rfl rfl h c_X10_acts q_X10_acts m4_36 rfl rfl (Nat.le_of_ble_eq_true rfl) ⟨(Nat.le_of_ble_eq_true rfl), (Nat.le_of_ble_eq_true rfl)⟩ ⟨rfl, rfl⟩ ⟨(Nat.le_of_ble_eq_true rfl), (Nat.le_of_ble_eq_true rfl)⟩ dX10_does_10 rfl (by decide) (fun _ => rfl) (fun _ => rfl) (fun _ => rfl) (fun b3 h => ?_)
  refine j_aload_n (pc := 13) 0 dX10_does_13 rfl rfl ?_
  refine j_get (pc := 14) (v := .ref a_o_st) 0 4 rfl rfl (Nat.le_of_ble_eq_true rfl) iwX10 m3_108 rfl dX10_does_14 ?_
  refine j_iconst (pc := 17) dX10_does_17 ic_0 ?_
  refine j_aload_n (pc := 18) 0 dX10_does_18 rfl rfl ?_
  refine j_get (pc := 19) (v := .ref a_o_now) 0 20 rfl rfl (Nat.le_of_ble_eq_true rfl) iwX10 m3_124 rfl dX10_does_19 ?_
  refine j_iconst (pc := 22) dX10_does_22 ic_0 ?_
  refine j_bipush (pc := 23) dX10_does_23 bc_16 ?_
  refine j_S (pc := 25) (Kc := K_X10_copies) (As := [.ref a_o_st, .int (0 : Int32), .ref a_o_now, .int (0 : Int32), .int (16 : Int32)]) (rest := []) (wc := [jI E a_o_st 16 f_o_st, jI E a_o_now 16 b3.1]) (w' := fun b4 => [jO a_o 7 [.int v_o_cards, .ref a_o_colour, .int w_o_dealMany, .ref a_o_deal, .ref a_o_st, .int b1.1, .ref a_o_was, .int w_o_keeps, .ref a_o_kept, .int w_o_seens, .ref a_o_seen, .ref a_o_text, .int w_o_texted, .int w_o_at, .ref a_o_told, .int w_o_isBegun, .int w_o_readCards, .ref a_o_readColour, .int w_o_readDeals, .ref a_o_readDeal, .ref a_o_now, .ref a_o_then, .ref a_o_ring, .ref a_o_goes, .ref a_o_far, .ref a_o_met, .int w_o_metMany], jI E a_o_now 16 b3.1, jI E a_o_ring 32 b3.2.1, jI E a_o_st 16 b4, jI E a_o_then 16 b3.2.2, jI E a_o_was 128 b1.2]) (st1 := fun b4 => []) [3, 1] h c_X10_copies q_X10_copies m3_98 rfl rfl (Nat.le_of_ble_eq_true rfl) ⟨(Nat.le_of_ble_eq_true rfl), (Nat.le_of_ble_eq_true rfl)⟩ ⟨rfl, rfl⟩ ⟨(Nat.le_of_ble_eq_true rfl), (Nat.le_of_ble_eq_true rfl)⟩ dX10_does_25 rfl (by decide) (fun _ => rfl) (fun _ => rfl) (fun _ => rfl) (fun b4 h => ?_)
  refine j_aload_n (pc := 28) 0 dX10_does_28 rfl rfl ?_
  refine j_get (pc := 29) (v := .ref a_o_st) 0 4 rfl rfl (Nat.le_of_ble_eq_true rfl) iwX10 m3_108 rfl dX10_does_29 ?_
  refine j_iconst (pc := 32) dX10_does_32 ic_0 ?_
  refine j_iald (pc := 33) 3 rfl dX10_does_33 h (fun h => ?_)
  cases h
  exact j_iret (pc := 34) rfl dX10_does_34 (Nat.le_of_ble_eq_true rfl) (Nat.le_of_ble_eq_true rfl) (jd_i rfl rfl)
set_option maxRecDepth 20000 in
theorem c_X10_lace {l : Launch} {E : jE} {F : Nat} {x1 : Int32} {v_o_cards : Int32} {a_o a_o_colour a_o_deal a_o_st a_o_was a_o_kept a_o_seen a_o_text a_o_told a_o_readColour a_o_readDeal a_o_now a_o_then a_o_ring a_o_goes a_o_far a_o_met : Nat} {w_o_dealMany : Int32} {w_o_keeps : Int32} {w_o_seens : Int32} {w_o_texted : Int32} {w_o_at : Int32} {w_o_isBegun : Int32} {w_o_readCards : Int32} {w_o_readDeals : Int32} {w_o_metMany : Int32} {v_o_acts : Int32} {f_o_now : Nat → Int32} {f_o_ring : Nat → Int32} {f_o_st : Nat → Int32} {f_o_then : Nat → Int32} {f_o_was : Nat → Int32} : ∀ u : Int32 × Int32 × (Nat → Int32) × (Nat → Int32) × (Nat → Int32) × (Nat → Int32) × (Nat → Int32), f_X10_lace F x1 v_o_cards v_o_acts f_o_now f_o_ring f_o_st f_o_then f_o_was = some u → jM l E K_X10_lace [.ref a_o, .int x1] [jO a_o 7 [.int v_o_cards, .ref a_o_colour, .int w_o_dealMany, .ref a_o_deal, .ref a_o_st, .int v_o_acts, .ref a_o_was, .int w_o_keeps, .ref a_o_kept, .int w_o_seens, .ref a_o_seen, .ref a_o_text, .int w_o_texted, .int w_o_at, .ref a_o_told, .int w_o_isBegun, .int w_o_readCards, .ref a_o_readColour, .int w_o_readDeals, .ref a_o_readDeal, .ref a_o_now, .ref a_o_then, .ref a_o_ring, .ref a_o_goes, .ref a_o_far, .ref a_o_met, .int w_o_metMany], jI E a_o_now 16 f_o_now, jI E a_o_ring 32 f_o_ring, jI E a_o_st 16 f_o_st, jI E a_o_then 16 f_o_then, jI E a_o_was 128 f_o_was] (jd (some (.int u.1)) [jO a_o 7 [.int v_o_cards, .ref a_o_colour, .int w_o_dealMany, .ref a_o_deal, .ref a_o_st, .int u.2.1, .ref a_o_was, .int w_o_keeps, .ref a_o_kept, .int w_o_seens, .ref a_o_seen, .ref a_o_text, .int w_o_texted, .int w_o_at, .ref a_o_told, .int w_o_isBegun, .int w_o_readCards, .ref a_o_readColour, .int w_o_readDeals, .ref a_o_readDeal, .ref a_o_now, .ref a_o_then, .ref a_o_ring, .ref a_o_goes, .ref a_o_far, .ref a_o_met, .int w_o_metMany], jI E a_o_now 16 u.2.2.1, jI E a_o_ring 32 u.2.2.2.1, jI E a_o_st 16 u.2.2.2.2.1, jI E a_o_then 16 u.2.2.2.2.2.1, jI E a_o_was 128 u.2.2.2.2.2.2]) := by
  intro u h
  unfold f_X10_lace at h
  refine j_met [(0, .ref a_o), (1, .int x1)] (by decide +kernel) (Nat.le_of_ble_eq_true rfl) rfl ?_
  refine j_iload_n (pc := 0) 1 dX10_lace_0 rfl rfl ?_
  refine j_S0 (pc := 1) (Kc := K_X10_isKind) (As := [.int x1]) (rest := []) h c_X10_isKind q_X10_isKind m4_25 rfl rfl (Nat.le_of_ble_eq_true rfl) ⟨(Nat.le_of_ble_eq_true rfl), (Nat.le_of_ble_eq_true rfl)⟩ ⟨rfl, rfl⟩ ⟨(Nat.le_of_ble_eq_true rfl), (Nat.le_of_ble_eq_true rfl)⟩ dX10_lace_1 (fun b1 h => ?_)
  refine j_if_eq (pc := 4) (tgt := 15) dX10_lace_4 (by decide) h (fun h => ?_) (fun h => ?_)
  · refine j_iconst (pc := 15) dX10_lace_15 ic_m1 ?_
    cases h
    exact j_iret (pc := 16) rfl dX10_lace_16 (Nat.le_of_ble_eq_true rfl) (Nat.le_of_ble_eq_true rfl) (jd_i rfl rfl)
  · refine j_aload_n (pc := 7) 0 dX10_lace_7 rfl rfl ?_
    refine j_iload_n (pc := 8) 1 dX10_lace_8 rfl rfl ?_
    refine j_V (pc := 9) (q0 := 0) (Kc := K_X10_does) (As := [.int x1]) (rest := []) (wc := [jO a_o 7 [.int v_o_cards, .ref a_o_colour, .int w_o_dealMany, .ref a_o_deal, .ref a_o_st, .int v_o_acts, .ref a_o_was, .int w_o_keeps, .ref a_o_kept, .int w_o_seens, .ref a_o_seen, .ref a_o_text, .int w_o_texted, .int w_o_at, .ref a_o_told, .int w_o_isBegun, .int w_o_readCards, .ref a_o_readColour, .int w_o_readDeals, .ref a_o_readDeal, .ref a_o_now, .ref a_o_then, .ref a_o_ring, .ref a_o_goes, .ref a_o_far, .ref a_o_met, .int w_o_metMany], jI E a_o_now 16 f_o_now, jI E a_o_ring 32 f_o_ring, jI E a_o_st 16 f_o_st, jI E a_o_then 16 f_o_then, jI E a_o_was 128 f_o_was]) (w' := fun b2 => [jO a_o 7 [.int v_o_cards, .ref a_o_colour, .int w_o_dealMany, .ref a_o_deal, .ref a_o_st, .int b2.2.1, .ref a_o_was, .int w_o_keeps, .ref a_o_kept, .int w_o_seens, .ref a_o_seen, .ref a_o_text, .int w_o_texted, .int w_o_at, .ref a_o_told, .int w_o_isBegun, .int w_o_readCards, .ref a_o_readColour, .int w_o_readDeals, .ref a_o_readDeal, .ref a_o_now, .ref a_o_then, .ref a_o_ring, .ref a_o_goes, .ref a_o_far, .ref a_o_met, .int w_o_metMany], jI E a_o_now 16 b2.2.2.1, jI E a_o_ring 32 b2.2.2.2.1, jI E a_o_st 16 b2.2.2.2.2.1, jI E a_o_then 16 b2.2.2.2.2.2.1, jI E a_o_was 128 b2.2.2.2.2.2.2]) (st1 := fun b2 => [.int b2.1]) [0, 1, 2, 3, 4, 5] rfl rfl rfl h c_X10_does q_X10_does m4_28 rfl rfl (Nat.le_of_ble_eq_true rfl) ⟨(Nat.le_of_ble_eq_true rfl), (Nat.le_of_ble_eq_true rfl)⟩ ⟨rfl, rfl⟩ ⟨(Nat.le_of_ble_eq_true rfl), (Nat.le_of_ble_eq_true rfl)⟩ dX10_lace_9 rfl (by decide) (fun _ => rfl) (fun _ => rfl) (fun _ => rfl) (fun b2 h => ?_)
    refine j_goto (pc := 12) (tgt := 16) dX10_lace_12 (by decide) ?_
    cases h
    exact j_iret (pc := 16) rfl dX10_lace_16 (Nat.le_of_ble_eq_true rfl) (Nat.le_of_ble_eq_true rfl) (jd_i rfl rfl)
set_option maxRecDepth 20000 in
theorem c_X10_cut {l : Launch} {E : jE} {F : Nat} {x1 : Int32} {v_o_cards : Int32} {a_o a_o_colour a_o_deal a_o_st a_o_was a_o_kept a_o_seen a_o_text a_o_told a_o_readColour a_o_readDeal a_o_now a_o_then a_o_ring a_o_goes a_o_far a_o_met : Nat} {w_o_dealMany : Int32} {w_o_keeps : Int32} {w_o_seens : Int32} {w_o_texted : Int32} {w_o_at : Int32} {w_o_isBegun : Int32} {w_o_readCards : Int32} {w_o_readDeals : Int32} {w_o_metMany : Int32} {v_o_acts : Int32} {f_o_now : Nat → Int32} {f_o_ring : Nat → Int32} {f_o_st : Nat → Int32} {f_o_then : Nat → Int32} {f_o_was : Nat → Int32} : ∀ u : Int32 × Int32 × (Nat → Int32) × (Nat → Int32) × (Nat → Int32) × (Nat → Int32) × (Nat → Int32), f_X10_cut F x1 v_o_cards v_o_acts f_o_now f_o_ring f_o_st f_o_then f_o_was = some u → jM l E K_X10_cut [.ref a_o, .int x1] [jO a_o 7 [.int v_o_cards, .ref a_o_colour, .int w_o_dealMany, .ref a_o_deal, .ref a_o_st, .int v_o_acts, .ref a_o_was, .int w_o_keeps, .ref a_o_kept, .int w_o_seens, .ref a_o_seen, .ref a_o_text, .int w_o_texted, .int w_o_at, .ref a_o_told, .int w_o_isBegun, .int w_o_readCards, .ref a_o_readColour, .int w_o_readDeals, .ref a_o_readDeal, .ref a_o_now, .ref a_o_then, .ref a_o_ring, .ref a_o_goes, .ref a_o_far, .ref a_o_met, .int w_o_metMany], jI E a_o_now 16 f_o_now, jI E a_o_ring 32 f_o_ring, jI E a_o_st 16 f_o_st, jI E a_o_then 16 f_o_then, jI E a_o_was 128 f_o_was] (jd (some (.int u.1)) [jO a_o 7 [.int v_o_cards, .ref a_o_colour, .int w_o_dealMany, .ref a_o_deal, .ref a_o_st, .int u.2.1, .ref a_o_was, .int w_o_keeps, .ref a_o_kept, .int w_o_seens, .ref a_o_seen, .ref a_o_text, .int w_o_texted, .int w_o_at, .ref a_o_told, .int w_o_isBegun, .int w_o_readCards, .ref a_o_readColour, .int w_o_readDeals, .ref a_o_readDeal, .ref a_o_now, .ref a_o_then, .ref a_o_ring, .ref a_o_goes, .ref a_o_far, .ref a_o_met, .int w_o_metMany], jI E a_o_now 16 u.2.2.1, jI E a_o_ring 32 u.2.2.2.1, jI E a_o_st 16 u.2.2.2.2.1, jI E a_o_then 16 u.2.2.2.2.2.1, jI E a_o_was 128 u.2.2.2.2.2.2]) := by
  intro u h
  unfold f_X10_cut at h
  refine j_met [(0, .ref a_o), (1, .int x1)] (by decide +kernel) (Nat.le_of_ble_eq_true rfl) rfl ?_
  refine j_aload_n (pc := 0) 0 dX10_cut_0 rfl rfl ?_
  refine j_iload_n (pc := 1) 1 dX10_cut_1 rfl rfl ?_
  refine j_V (pc := 2) (q0 := 0) (Kc := K_X10_isCard) (As := [.int x1]) (rest := []) (wc := [jO a_o 7 [.int v_o_cards, .ref a_o_colour, .int w_o_dealMany, .ref a_o_deal, .ref a_o_st, .int v_o_acts, .ref a_o_was, .int w_o_keeps, .ref a_o_kept, .int w_o_seens, .ref a_o_seen, .ref a_o_text, .int w_o_texted, .int w_o_at, .ref a_o_told, .int w_o_isBegun, .int w_o_readCards, .ref a_o_readColour, .int w_o_readDeals, .ref a_o_readDeal, .ref a_o_now, .ref a_o_then, .ref a_o_ring, .ref a_o_goes, .ref a_o_far, .ref a_o_met, .int w_o_metMany]]) (w' := fun b1 => [jO a_o 7 [.int v_o_cards, .ref a_o_colour, .int w_o_dealMany, .ref a_o_deal, .ref a_o_st, .int v_o_acts, .ref a_o_was, .int w_o_keeps, .ref a_o_kept, .int w_o_seens, .ref a_o_seen, .ref a_o_text, .int w_o_texted, .int w_o_at, .ref a_o_told, .int w_o_isBegun, .int w_o_readCards, .ref a_o_readColour, .int w_o_readDeals, .ref a_o_readDeal, .ref a_o_now, .ref a_o_then, .ref a_o_ring, .ref a_o_goes, .ref a_o_far, .ref a_o_met, .int w_o_metMany], jI E a_o_now 16 f_o_now, jI E a_o_ring 32 f_o_ring, jI E a_o_st 16 f_o_st, jI E a_o_then 16 f_o_then, jI E a_o_was 128 f_o_was]) (st1 := fun b1 => [.int b1]) [0] rfl rfl rfl h c_X10_isCard q_X10_isCard m4_1 rfl rfl (Nat.le_of_ble_eq_true rfl) ⟨(Nat.le_of_ble_eq_true rfl), (Nat.le_of_ble_eq_true rfl)⟩ ⟨rfl, rfl⟩ ⟨(Nat.le_of_ble_eq_true rfl), (Nat.le_of_ble_eq_true rfl)⟩ dX10_cut_2 rfl (by decide) (fun _ => rfl) (fun _ => rfl) (fun _ => rfl) (fun b1 h => ?_)
  refine j_if_eq (pc := 5) (tgt := 19) dX10_cut_5 (by decide) h (fun h => ?_) (fun h => ?_)
  · refine j_iconst (pc := 19) dX10_cut_19 ic_m1 ?_
    cases h
    exact j_iret (pc := 20) rfl dX10_cut_20 (Nat.le_of_ble_eq_true rfl) (Nat.le_of_ble_eq_true rfl) (jd_i rfl rfl)
  · refine j_aload_n (pc := 8) 0 dX10_cut_8 rfl rfl ?_
    refine j_bipush (pc := 9) dX10_cut_9 bc_6 ?_
    refine j_iload_n (pc := 11) 1 dX10_cut_11 rfl rfl ?_
    refine j_iadd (pc := 12) dX10_cut_12 ?_
    refine j_V (pc := 13) (q0 := 0) (Kc := K_X10_does) (As := [.int ((6 : Int32) + x1)]) (rest := []) (wc := [jO a_o 7 [.int v_o_cards, .ref a_o_colour, .int w_o_dealMany, .ref a_o_deal, .ref a_o_st, .int v_o_acts, .ref a_o_was, .int w_o_keeps, .ref a_o_kept, .int w_o_seens, .ref a_o_seen, .ref a_o_text, .int w_o_texted, .int w_o_at, .ref a_o_told, .int w_o_isBegun, .int w_o_readCards, .ref a_o_readColour, .int w_o_readDeals, .ref a_o_readDeal, .ref a_o_now, .ref a_o_then, .ref a_o_ring, .ref a_o_goes, .ref a_o_far, .ref a_o_met, .int w_o_metMany], jI E a_o_now 16 f_o_now, jI E a_o_ring 32 f_o_ring, jI E a_o_st 16 f_o_st, jI E a_o_then 16 f_o_then, jI E a_o_was 128 f_o_was]) (w' := fun b2 => [jO a_o 7 [.int v_o_cards, .ref a_o_colour, .int w_o_dealMany, .ref a_o_deal, .ref a_o_st, .int b2.2.1, .ref a_o_was, .int w_o_keeps, .ref a_o_kept, .int w_o_seens, .ref a_o_seen, .ref a_o_text, .int w_o_texted, .int w_o_at, .ref a_o_told, .int w_o_isBegun, .int w_o_readCards, .ref a_o_readColour, .int w_o_readDeals, .ref a_o_readDeal, .ref a_o_now, .ref a_o_then, .ref a_o_ring, .ref a_o_goes, .ref a_o_far, .ref a_o_met, .int w_o_metMany], jI E a_o_now 16 b2.2.2.1, jI E a_o_ring 32 b2.2.2.2.1, jI E a_o_st 16 b2.2.2.2.2.1, jI E a_o_then 16 b2.2.2.2.2.2.1, jI E a_o_was 128 b2.2.2.2.2.2.2]) (st1 := fun b2 => [.int b2.1]) [0, 1, 2, 3, 4, 5] rfl rfl rfl h c_X10_does q_X10_does m4_28 rfl rfl (Nat.le_of_ble_eq_true rfl) ⟨(Nat.le_of_ble_eq_true rfl), (Nat.le_of_ble_eq_true rfl)⟩ ⟨rfl, rfl⟩ ⟨(Nat.le_of_ble_eq_true rfl), (Nat.le_of_ble_eq_true rfl)⟩ dX10_cut_13 rfl (by decide) (fun _ => rfl) (fun _ => rfl) (fun _ => rfl) (fun b2 h => ?_)
    refine j_goto (pc := 16) (tgt := 20) dX10_cut_16 (by decide) ?_
    cases h
    exact j_iret (pc := 20) rfl dX10_cut_20 (Nat.le_of_ble_eq_true rfl) (Nat.le_of_ble_eq_true rfl) (jd_i rfl rfl)
set_option maxRecDepth 20000 in
theorem c_X10_turn {l : Launch} {E : jE} {F : Nat} {v_o_cards : Int32} {a_o a_o_colour a_o_deal a_o_st a_o_was a_o_kept a_o_seen a_o_text a_o_told a_o_readColour a_o_readDeal a_o_now a_o_then a_o_ring a_o_goes a_o_far a_o_met : Nat} {w_o_dealMany : Int32} {w_o_keeps : Int32} {w_o_seens : Int32} {w_o_texted : Int32} {w_o_at : Int32} {w_o_isBegun : Int32} {w_o_readCards : Int32} {w_o_readDeals : Int32} {w_o_metMany : Int32} {v_o_acts : Int32} {f_o_now : Nat → Int32} {f_o_ring : Nat → Int32} {f_o_st : Nat → Int32} {f_o_then : Nat → Int32} {f_o_was : Nat → Int32} : ∀ u : Int32 × Int32 × (Nat → Int32) × (Nat → Int32) × (Nat → Int32) × (Nat → Int32) × (Nat → Int32), f_X10_turn F v_o_cards v_o_acts f_o_now f_o_ring f_o_st f_o_then f_o_was = some u → jM l E K_X10_turn [.ref a_o] [jO a_o 7 [.int v_o_cards, .ref a_o_colour, .int w_o_dealMany, .ref a_o_deal, .ref a_o_st, .int v_o_acts, .ref a_o_was, .int w_o_keeps, .ref a_o_kept, .int w_o_seens, .ref a_o_seen, .ref a_o_text, .int w_o_texted, .int w_o_at, .ref a_o_told, .int w_o_isBegun, .int w_o_readCards, .ref a_o_readColour, .int w_o_readDeals, .ref a_o_readDeal, .ref a_o_now, .ref a_o_then, .ref a_o_ring, .ref a_o_goes, .ref a_o_far, .ref a_o_met, .int w_o_metMany], jI E a_o_now 16 f_o_now, jI E a_o_ring 32 f_o_ring, jI E a_o_st 16 f_o_st, jI E a_o_then 16 f_o_then, jI E a_o_was 128 f_o_was] (jd (some (.int u.1)) [jO a_o 7 [.int v_o_cards, .ref a_o_colour, .int w_o_dealMany, .ref a_o_deal, .ref a_o_st, .int u.2.1, .ref a_o_was, .int w_o_keeps, .ref a_o_kept, .int w_o_seens, .ref a_o_seen, .ref a_o_text, .int w_o_texted, .int w_o_at, .ref a_o_told, .int w_o_isBegun, .int w_o_readCards, .ref a_o_readColour, .int w_o_readDeals, .ref a_o_readDeal, .ref a_o_now, .ref a_o_then, .ref a_o_ring, .ref a_o_goes, .ref a_o_far, .ref a_o_met, .int w_o_metMany], jI E a_o_now 16 u.2.2.1, jI E a_o_ring 32 u.2.2.2.1, jI E a_o_st 16 u.2.2.2.2.1, jI E a_o_then 16 u.2.2.2.2.2.1, jI E a_o_was 128 u.2.2.2.2.2.2]) := by
  intro u h
  unfold f_X10_turn at h
  refine j_met [(0, .ref a_o)] (by decide +kernel) (Nat.le_of_ble_eq_true rfl) rfl ?_
  refine j_aload_n (pc := 0) 0 dX10_turn_0 rfl rfl ?_
  refine j_iconst (pc := 1) dX10_turn_1 ic_5 ?_
  refine j_V (pc := 2) (q0 := 0) (Kc := K_X10_does) (As := [.int (5 : Int32)]) (rest := []) (wc := [jO a_o 7 [.int v_o_cards, .ref a_o_colour, .int w_o_dealMany, .ref a_o_deal, .ref a_o_st, .int v_o_acts, .ref a_o_was, .int w_o_keeps, .ref a_o_kept, .int w_o_seens, .ref a_o_seen, .ref a_o_text, .int w_o_texted, .int w_o_at, .ref a_o_told, .int w_o_isBegun, .int w_o_readCards, .ref a_o_readColour, .int w_o_readDeals, .ref a_o_readDeal, .ref a_o_now, .ref a_o_then, .ref a_o_ring, .ref a_o_goes, .ref a_o_far, .ref a_o_met, .int w_o_metMany], jI E a_o_now 16 f_o_now, jI E a_o_ring 32 f_o_ring, jI E a_o_st 16 f_o_st, jI E a_o_then 16 f_o_then, jI E a_o_was 128 f_o_was]) (w' := fun b1 => [jO a_o 7 [.int v_o_cards, .ref a_o_colour, .int w_o_dealMany, .ref a_o_deal, .ref a_o_st, .int b1.2.1, .ref a_o_was, .int w_o_keeps, .ref a_o_kept, .int w_o_seens, .ref a_o_seen, .ref a_o_text, .int w_o_texted, .int w_o_at, .ref a_o_told, .int w_o_isBegun, .int w_o_readCards, .ref a_o_readColour, .int w_o_readDeals, .ref a_o_readDeal, .ref a_o_now, .ref a_o_then, .ref a_o_ring, .ref a_o_goes, .ref a_o_far, .ref a_o_met, .int w_o_metMany], jI E a_o_now 16 b1.2.2.1, jI E a_o_ring 32 b1.2.2.2.1, jI E a_o_st 16 b1.2.2.2.2.1, jI E a_o_then 16 b1.2.2.2.2.2.1, jI E a_o_was 128 b1.2.2.2.2.2.2]) (st1 := fun b1 => [.int b1.1]) [0, 1, 2, 3, 4, 5] rfl rfl rfl h c_X10_does q_X10_does m4_28 rfl rfl (Nat.le_of_ble_eq_true rfl) ⟨(Nat.le_of_ble_eq_true rfl), (Nat.le_of_ble_eq_true rfl)⟩ ⟨rfl, rfl⟩ ⟨(Nat.le_of_ble_eq_true rfl), (Nat.le_of_ble_eq_true rfl)⟩ dX10_turn_2 rfl (by decide) (fun _ => rfl) (fun _ => rfl) (fun _ => rfl) (fun b1 h => ?_)
  cases h
  exact j_iret (pc := 5) rfl dX10_turn_5 (Nat.le_of_ble_eq_true rfl) (Nat.le_of_ble_eq_true rfl) (jd_i rfl rfl)
set_option maxRecDepth 20000 in
theorem c_X10_deal {l : Launch} {E : jE} {F : Nat} {v_o_cards : Int32} {v_o_dealMany : Int32} {f_o_deal : Nat → Int32} {a_o a_o_colour a_o_deal a_o_st a_o_was a_o_kept a_o_seen a_o_text a_o_told a_o_readColour a_o_readDeal a_o_now a_o_then a_o_ring a_o_goes a_o_far a_o_met : Nat} {w_o_keeps : Int32} {w_o_seens : Int32} {w_o_texted : Int32} {w_o_at : Int32} {w_o_isBegun : Int32} {w_o_readCards : Int32} {w_o_readDeals : Int32} {w_o_metMany : Int32} {v_o_acts : Int32} {f_o_now : Nat → Int32} {f_o_ring : Nat → Int32} {f_o_st : Nat → Int32} {f_o_then : Nat → Int32} {f_o_was : Nat → Int32} : ∀ u : Int32 × Int32 × (Nat → Int32) × (Nat → Int32) × (Nat → Int32) × (Nat → Int32) × (Nat → Int32), f_X10_deal F v_o_cards v_o_dealMany f_o_deal v_o_acts f_o_now f_o_ring f_o_st f_o_then f_o_was = some u → jM l E K_X10_deal [.ref a_o] [jO a_o 7 [.int v_o_cards, .ref a_o_colour, .int v_o_dealMany, .ref a_o_deal, .ref a_o_st, .int v_o_acts, .ref a_o_was, .int w_o_keeps, .ref a_o_kept, .int w_o_seens, .ref a_o_seen, .ref a_o_text, .int w_o_texted, .int w_o_at, .ref a_o_told, .int w_o_isBegun, .int w_o_readCards, .ref a_o_readColour, .int w_o_readDeals, .ref a_o_readDeal, .ref a_o_now, .ref a_o_then, .ref a_o_ring, .ref a_o_goes, .ref a_o_far, .ref a_o_met, .int w_o_metMany], jI E a_o_deal 16 f_o_deal, jI E a_o_now 16 f_o_now, jI E a_o_ring 32 f_o_ring, jI E a_o_st 16 f_o_st, jI E a_o_then 16 f_o_then, jI E a_o_was 128 f_o_was] (jd (some (.int u.1)) [jO a_o 7 [.int v_o_cards, .ref a_o_colour, .int v_o_dealMany, .ref a_o_deal, .ref a_o_st, .int u.2.1, .ref a_o_was, .int w_o_keeps, .ref a_o_kept, .int w_o_seens, .ref a_o_seen, .ref a_o_text, .int w_o_texted, .int w_o_at, .ref a_o_told, .int w_o_isBegun, .int w_o_readCards, .ref a_o_readColour, .int w_o_readDeals, .ref a_o_readDeal, .ref a_o_now, .ref a_o_then, .ref a_o_ring, .ref a_o_goes, .ref a_o_far, .ref a_o_met, .int w_o_metMany], jI E a_o_deal 16 f_o_deal, jI E a_o_now 16 u.2.2.1, jI E a_o_ring 32 u.2.2.2.1, jI E a_o_st 16 u.2.2.2.2.1, jI E a_o_then 16 u.2.2.2.2.2.1, jI E a_o_was 128 u.2.2.2.2.2.2]) := by
  intro u h
  unfold f_X10_deal at h
  refine j_met [(0, .ref a_o)] (by decide +kernel) (Nat.le_of_ble_eq_true rfl) rfl ?_
  refine j_aload_n (pc := 0) 0 dX10_deal_0 rfl rfl ?_
  refine j_V (pc := 1) (q0 := 0) (Kc := K_X10_remembers) (As := []) (rest := []) (wc := [jO a_o 7 [.int v_o_cards, .ref a_o_colour, .int v_o_dealMany, .ref a_o_deal, .ref a_o_st, .int v_o_acts, .ref a_o_was, .int w_o_keeps, .ref a_o_kept, .int w_o_seens, .ref a_o_seen, .ref a_o_text, .int w_o_texted, .int w_o_at, .ref a_o_told, .int w_o_isBegun, .int w_o_readCards, .ref a_o_readColour, .int w_o_readDeals, .ref a_o_readDeal, .ref a_o_now, .ref a_o_then, .ref a_o_ring, .ref a_o_goes, .ref a_o_far, .ref a_o_met, .int w_o_metMany], jI E a_o_st 16 f_o_st, jI E a_o_was 128 f_o_was]) (w' := fun b1 => [jO a_o 7 [.int v_o_cards, .ref a_o_colour, .int v_o_dealMany, .ref a_o_deal, .ref a_o_st, .int b1.1, .ref a_o_was, .int w_o_keeps, .ref a_o_kept, .int w_o_seens, .ref a_o_seen, .ref a_o_text, .int w_o_texted, .int w_o_at, .ref a_o_told, .int w_o_isBegun, .int w_o_readCards, .ref a_o_readColour, .int w_o_readDeals, .ref a_o_readDeal, .ref a_o_now, .ref a_o_then, .ref a_o_ring, .ref a_o_goes, .ref a_o_far, .ref a_o_met, .int w_o_metMany], jI E a_o_deal 16 f_o_deal, jI E a_o_now 16 f_o_now, jI E a_o_ring 32 f_o_ring, jI E a_o_st 16 f_o_st, jI E a_o_then 16 f_o_then, jI E a_o_was 128 b1.2]) (st1 := fun b1 => []) [0, 4, 6] rfl rfl rfl h c_X10_remembers q_X10_remembers m4_32 rfl rfl (Nat.le_of_ble_eq_true rfl) ⟨(Nat.le_of_ble_eq_true rfl), (Nat.le_of_ble_eq_true rfl)⟩ ⟨rfl, rfl⟩ ⟨(Nat.le_of_ble_eq_true rfl), (Nat.le_of_ble_eq_true rfl)⟩ dX10_deal_1 rfl (by decide) (fun _ => rfl) (fun _ => rfl) (fun _ => rfl) (fun b1 h => ?_)
  refine j_aload_n (pc := 4) 0 dX10_deal_4 rfl rfl ?_
  refine j_V (pc := 5) (q0 := 0) (Kc := K_X10_asItIs) (As := []) (rest := []) (wc := [jO a_o 7 [.int v_o_cards, .ref a_o_colour, .int v_o_dealMany, .ref a_o_deal, .ref a_o_st, .int b1.1, .ref a_o_was, .int w_o_keeps, .ref a_o_kept, .int w_o_seens, .ref a_o_seen, .ref a_o_text, .int w_o_texted, .int w_o_at, .ref a_o_told, .int w_o_isBegun, .int w_o_readCards, .ref a_o_readColour, .int w_o_readDeals, .ref a_o_readDeal, .ref a_o_now, .ref a_o_then, .ref a_o_ring, .ref a_o_goes, .ref a_o_far, .ref a_o_met, .int w_o_metMany], jI E a_o_now 16 f_o_now, jI E a_o_st 16 f_o_st]) (w' := fun b2 => [jO a_o 7 [.int v_o_cards, .ref a_o_colour, .int v_o_dealMany, .ref a_o_deal, .ref a_o_st, .int b1.1, .ref a_o_was, .int w_o_keeps, .ref a_o_kept, .int w_o_seens, .ref a_o_seen, .ref a_o_text, .int w_o_texted, .int w_o_at, .ref a_o_told, .int w_o_isBegun, .int w_o_readCards, .ref a_o_readColour, .int w_o_readDeals, .ref a_o_readDeal, .ref a_o_now, .ref a_o_then, .ref a_o_ring, .ref a_o_goes, .ref a_o_far, .ref a_o_met, .int w_o_metMany], jI E a_o_deal 16 f_o_deal, jI E a_o_now 16 b2, jI E a_o_ring 32 f_o_ring, jI E a_o_st 16 f_o_st, jI E a_o_then 16 f_o_then, jI E a_o_was 128 b1.2]) (st1 := fun b2 => []) [0, 2, 4] rfl rfl rfl h c_X10_asItIs q_X10_asItIs m4_9 rfl rfl (Nat.le_of_ble_eq_true rfl) ⟨(Nat.le_of_ble_eq_true rfl), (Nat.le_of_ble_eq_true rfl)⟩ ⟨rfl, rfl⟩ ⟨(Nat.le_of_ble_eq_true rfl), (Nat.le_of_ble_eq_true rfl)⟩ dX10_deal_5 rfl (by decide) (fun _ => rfl) (fun _ => rfl) (fun _ => rfl) (fun b2 h => ?_)
  refine j_aload_n (pc := 8) 0 dX10_deal_8 rfl rfl ?_
  refine j_V (pc := 9) (q0 := 0) (Kc := K_X10_deals) (As := []) (rest := []) (wc := [jO a_o 7 [.int v_o_cards, .ref a_o_colour, .int v_o_dealMany, .ref a_o_deal, .ref a_o_st, .int b1.1, .ref a_o_was, .int w_o_keeps, .ref a_o_kept, .int w_o_seens, .ref a_o_seen, .ref a_o_text, .int w_o_texted, .int w_o_at, .ref a_o_told, .int w_o_isBegun, .int w_o_readCards, .ref a_o_readColour, .int w_o_readDeals, .ref a_o_readDeal, .ref a_o_now, .ref a_o_then, .ref a_o_ring, .ref a_o_goes, .ref a_o_far, .ref a_o_met, .int w_o_metMany], jI E a_o_deal 16 f_o_deal, jI E a_o_now 16 b2, jI E a_o_ring 32 f_o_ring, jI E a_o_then 16 f_o_then]) (w' := fun b3 => [jO a_o 7 [.int v_o_cards, .ref a_o_colour, .int v_o_dealMany, .ref a_o_deal, .ref a_o_st, .int b1.1, .ref a_o_was, .int w_o_keeps, .ref a_o_kept, .int w_o_seens, .ref a_o_seen, .ref a_o_text, .int w_o_texted, .int w_o_at, .ref a_o_told, .int w_o_isBegun, .int w_o_readCards, .ref a_o_readColour, .int w_o_readDeals, .ref a_o_readDeal, .ref a_o_now, .ref a_o_then, .ref a_o_ring, .ref a_o_goes, .ref a_o_far, .ref a_o_met, .int w_o_metMany], jI E a_o_deal 16 f_o_deal, jI E a_o_now 16 b3.1, jI E a_o_ring 32 b3.2.1, jI E a_o_st 16 f_o_st, jI E a_o_then 16 b3.2.2, jI E a_o_was 128 b1.2]) (st1 := fun b3 => []) [0, 1, 2, 3, 5] rfl rfl rfl h c_X10_deals q_X10_deals m4_68 rfl rfl (Nat.le_of_ble_eq_true rfl) ⟨(Nat.le_of_ble_eq_true rfl), (Nat.le_of_ble_eq_true rfl)⟩ ⟨rfl, rfl⟩ ⟨(Nat.le_of_ble_eq_true rfl), (Nat.le_of_ble_eq_true rfl)⟩ dX10_deal_9 rfl (by decide) (fun _ => rfl) (fun _ => rfl) (fun _ => rfl) (fun b3 h => ?_)
  refine j_aload_n (pc := 12) 0 dX10_deal_12 rfl rfl ?_
  refine j_get (pc := 13) (v := .ref a_o_st) 0 4 rfl rfl (Nat.le_of_ble_eq_true rfl) iwX10 m3_108 rfl dX10_deal_13 ?_
  refine j_iconst (pc := 16) dX10_deal_16 ic_0 ?_
  refine j_aload_n (pc := 17) 0 dX10_deal_17 rfl rfl ?_
  refine j_get (pc := 18) (v := .ref a_o_now) 0 20 rfl rfl (Nat.le_of_ble_eq_true rfl) iwX10 m3_124 rfl dX10_deal_18 ?_
  refine j_iconst (pc := 21) dX10_deal_21 ic_0 ?_
  refine j_bipush (pc := 22) dX10_deal_22 bc_16 ?_
  refine j_S (pc := 24) (Kc := K_X10_copies) (As := [.ref a_o_st, .int (0 : Int32), .ref a_o_now, .int (0 : Int32), .int (16 : Int32)]) (rest := []) (wc := [jI E a_o_st 16 f_o_st, jI E a_o_now 16 b3.1]) (w' := fun b4 => [jO a_o 7 [.int v_o_cards, .ref a_o_colour, .int v_o_dealMany, .ref a_o_deal, .ref a_o_st, .int b1.1, .ref a_o_was, .int w_o_keeps, .ref a_o_kept, .int w_o_seens, .ref a_o_seen, .ref a_o_text, .int w_o_texted, .int w_o_at, .ref a_o_told, .int w_o_isBegun, .int w_o_readCards, .ref a_o_readColour, .int w_o_readDeals, .ref a_o_readDeal, .ref a_o_now, .ref a_o_then, .ref a_o_ring, .ref a_o_goes, .ref a_o_far, .ref a_o_met, .int w_o_metMany], jI E a_o_deal 16 f_o_deal, jI E a_o_now 16 b3.1, jI E a_o_ring 32 b3.2.1, jI E a_o_st 16 b4, jI E a_o_then 16 b3.2.2, jI E a_o_was 128 b1.2]) (st1 := fun b4 => []) [4, 2] h c_X10_copies q_X10_copies m3_98 rfl rfl (Nat.le_of_ble_eq_true rfl) ⟨(Nat.le_of_ble_eq_true rfl), (Nat.le_of_ble_eq_true rfl)⟩ ⟨rfl, rfl⟩ ⟨(Nat.le_of_ble_eq_true rfl), (Nat.le_of_ble_eq_true rfl)⟩ dX10_deal_24 rfl (by decide) (fun _ => rfl) (fun _ => rfl) (fun _ => rfl) (fun b4 h => ?_)
  refine j_aload_n (pc := 27) 0 dX10_deal_27 rfl rfl ?_
  refine j_get (pc := 28) (v := .ref a_o_st) 0 4 rfl rfl (Nat.le_of_ble_eq_true rfl) iwX10 m3_108 rfl dX10_deal_28 ?_
  refine j_iconst (pc := 31) dX10_deal_31 ic_0 ?_
  refine j_iald (pc := 32) 4 rfl dX10_deal_32 h (fun h => ?_)
  cases h
  exact j_iret (pc := 33) rfl dX10_deal_33 (Nat.le_of_ble_eq_true rfl) (Nat.le_of_ble_eq_true rfl) (jd_i rfl rfl)
set_option maxRecDepth 20000 in
theorem c_X10_undo {l : Launch} {E : jE} {F : Nat} {f_o_was : Nat → Int32} {a_o a_o_colour a_o_deal a_o_st a_o_was a_o_kept a_o_seen a_o_text a_o_told a_o_readColour a_o_readDeal a_o_now a_o_then a_o_ring a_o_goes a_o_far a_o_met : Nat} {w_o_cards : Int32} {w_o_dealMany : Int32} {w_o_keeps : Int32} {w_o_seens : Int32} {w_o_texted : Int32} {w_o_at : Int32} {w_o_isBegun : Int32} {w_o_readCards : Int32} {w_o_readDeals : Int32} {w_o_metMany : Int32} {v_o_acts : Int32} {f_o_st : Nat → Int32} : ∀ u : Int32 × Int32 × (Nat → Int32), f_X10_undo F f_o_was v_o_acts f_o_st = some u → jM l E K_X10_undo [.ref a_o] [jO a_o 7 [.int w_o_cards, .ref a_o_colour, .int w_o_dealMany, .ref a_o_deal, .ref a_o_st, .int v_o_acts, .ref a_o_was, .int w_o_keeps, .ref a_o_kept, .int w_o_seens, .ref a_o_seen, .ref a_o_text, .int w_o_texted, .int w_o_at, .ref a_o_told, .int w_o_isBegun, .int w_o_readCards, .ref a_o_readColour, .int w_o_readDeals, .ref a_o_readDeal, .ref a_o_now, .ref a_o_then, .ref a_o_ring, .ref a_o_goes, .ref a_o_far, .ref a_o_met, .int w_o_metMany], jI E a_o_st 16 f_o_st, jI E a_o_was 128 f_o_was] (jd (some (.int u.1)) [jO a_o 7 [.int w_o_cards, .ref a_o_colour, .int w_o_dealMany, .ref a_o_deal, .ref a_o_st, .int u.2.1, .ref a_o_was, .int w_o_keeps, .ref a_o_kept, .int w_o_seens, .ref a_o_seen, .ref a_o_text, .int w_o_texted, .int w_o_at, .ref a_o_told, .int w_o_isBegun, .int w_o_readCards, .ref a_o_readColour, .int w_o_readDeals, .ref a_o_readDeal, .ref a_o_now, .ref a_o_then, .ref a_o_ring, .ref a_o_goes, .ref a_o_far, .ref a_o_met, .int w_o_metMany], jI E a_o_st 16 u.2.2, jI E a_o_was 128 f_o_was]) := by
  intro u h
  unfold f_X10_undo at h
  refine j_met [(0, .ref a_o)] (by decide +kernel) (Nat.le_of_ble_eq_true rfl) rfl ?_
  refine j_aload_n (pc := 0) 0 dX10_undo_0 rfl rfl ?_
  refine j_get (pc := 1) (v := .int v_o_acts) 0 5 rfl rfl (Nat.le_of_ble_eq_true rfl) iwX10 m3_109 rfl dX10_undo_1 ?_
  refine j_if_ne (pc := 4) (tgt := 10) dX10_undo_4 (by decide) h (fun h => ?_) (fun h => ?_)
  · refine j_aload_n (pc := 10) 0 dX10_undo_10 rfl rfl ?_
    refine j_dup (pc := 11) dX10_undo_11 rfl ?_
    refine j_get (pc := 12) (v := .int v_o_acts) 0 5 rfl rfl (Nat.le_of_ble_eq_true rfl) iwX10 m3_109 rfl dX10_undo_12 ?_
    refine j_iconst (pc := 15) dX10_undo_15 ic_1 ?_
    refine j_isub (pc := 16) dX10_undo_16 ?_
    refine j_put (pc := 17) (w' := [jO a_o 7 [.int w_o_cards, .ref a_o_colour, .int w_o_dealMany, .ref a_o_deal, .ref a_o_st, .int (v_o_acts - (1 : Int32)), .ref a_o_was, .int w_o_keeps, .ref a_o_kept, .int w_o_seens, .ref a_o_seen, .ref a_o_text, .int w_o_texted, .int w_o_at, .ref a_o_told, .int w_o_isBegun, .int w_o_readCards, .ref a_o_readColour, .int w_o_readDeals, .ref a_o_readDeal, .ref a_o_now, .ref a_o_then, .ref a_o_ring, .ref a_o_goes, .ref a_o_far, .ref a_o_met, .int w_o_metMany], jI E a_o_st 16 f_o_st, jI E a_o_was 128 f_o_was]) tyX10 0 5 tyX10_ok nmX10 rfl rfl (Nat.le_of_ble_eq_true rfl) iwX10 m3_109 rfl rfl rfl rfl (Nat.le_of_ble_eq_true rfl) dX10_undo_17 rfl ?_
    refine j_aload_n (pc := 20) 0 dX10_undo_20 rfl rfl ?_
    refine j_get (pc := 21) (v := .ref a_o_st) 0 4 rfl rfl (Nat.le_of_ble_eq_true rfl) iwX10 m3_108 rfl dX10_undo_21 ?_
    refine j_iconst (pc := 24) dX10_undo_24 ic_0 ?_
    refine j_aload_n (pc := 25) 0 dX10_undo_25 rfl rfl ?_
    refine j_get (pc := 26) (v := .ref a_o_was) 0 6 rfl rfl (Nat.le_of_ble_eq_true rfl) iwX10 m3_110 rfl dX10_undo_26 ?_
    refine j_bipush (pc := 29) dX10_undo_29 bc_16 ?_
    refine j_aload_n (pc := 31) 0 dX10_undo_31 rfl rfl ?_
    refine j_get (pc := 32) (v := .int (v_o_acts - (1 : Int32))) 0 5 rfl rfl (Nat.le_of_ble_eq_true rfl) iwX10 m3_109 rfl dX10_undo_32 ?_
    refine j_imul (pc := 35) dX10_undo_35 ?_
    refine j_bipush (pc := 36) dX10_undo_36 bc_16 ?_
    refine j_S (pc := 38) (Kc := K_X10_copies) (As := [.ref a_o_st, .int (0 : Int32), .ref a_o_was, .int ((16 : Int32) * (v_o_acts - (1 : Int32))), .int (16 : Int32)]) (rest := []) (wc := [jI E a_o_st 16 f_o_st, jI E a_o_was 128 f_o_was]) (w' := fun b1 => [jO a_o 7 [.int w_o_cards, .ref a_o_colour, .int w_o_dealMany, .ref a_o_deal, .ref a_o_st, .int (v_o_acts - (1 : Int32)), .ref a_o_was, .int w_o_keeps, .ref a_o_kept, .int w_o_seens, .ref a_o_seen, .ref a_o_text, .int w_o_texted, .int w_o_at, .ref a_o_told, .int w_o_isBegun, .int w_o_readCards, .ref a_o_readColour, .int w_o_readDeals, .ref a_o_readDeal, .ref a_o_now, .ref a_o_then, .ref a_o_ring, .ref a_o_goes, .ref a_o_far, .ref a_o_met, .int w_o_metMany], jI E a_o_st 16 b1, jI E a_o_was 128 f_o_was]) (st1 := fun b1 => []) [1, 2] h c_X10_copies q_X10_copies m3_98 rfl rfl (Nat.le_of_ble_eq_true rfl) ⟨(Nat.le_of_ble_eq_true rfl), (Nat.le_of_ble_eq_true rfl)⟩ ⟨rfl, rfl⟩ ⟨(Nat.le_of_ble_eq_true rfl), (Nat.le_of_ble_eq_true rfl)⟩ dX10_undo_38 rfl (by decide) (fun _ => rfl) (fun _ => rfl) (fun _ => rfl) (fun b1 h => ?_)
    refine j_aload_n (pc := 41) 0 dX10_undo_41 rfl rfl ?_
    refine j_get (pc := 42) (v := .int (v_o_acts - (1 : Int32))) 0 5 rfl rfl (Nat.le_of_ble_eq_true rfl) iwX10 m3_109 rfl dX10_undo_42 ?_
    cases h
    exact j_iret (pc := 45) rfl dX10_undo_45 (Nat.le_of_ble_eq_true rfl) (Nat.le_of_ble_eq_true rfl) (jd_i rfl rfl)
  · refine j_bipush (pc := 7) dX10_undo_7 bc_m2 ?_
    cases h
    exact j_iret (pc := 9) rfl dX10_undo_9 (Nat.le_of_ble_eq_true rfl) (Nat.le_of_ble_eq_true rfl) (jd_i rfl rfl)
set_option maxRecDepth 20000 in
theorem w_X10_isInOrder_4 {l : Launch} {E : jE} {F : Nat} {v_o_cards : Int32} {f_o_now : Nat → Int32} {a_o a_o_colour a_o_deal a_o_st a_o_was a_o_kept a_o_seen a_o_text a_o_told a_o_readColour a_o_readDeal a_o_now a_o_then a_o_ring a_o_goes a_o_far a_o_met : Nat} {w_o_dealMany : Int32} {w_o_acts : Int32} {w_o_keeps : Int32} {w_o_seens : Int32} {w_o_texted : Int32} {w_o_at : Int32} {w_o_isBegun : Int32} {w_o_readCards : Int32} {w_o_readDeals : Int32} {w_o_metMany : Int32} : ∀ (n : Nat) (x1 : Int32) (x2 : Int32) (u : Int32), g_X10_isInOrder_4 F v_o_cards f_o_now n x1 x2 = some u → jT l E K_X10_isInOrder 0 0 4 [(0, .ref a_o), (1, .int x1), (2, .int x2)] [] [jO a_o 7 [.int v_o_cards, .ref a_o_colour, .int w_o_dealMany, .ref a_o_deal, .ref a_o_st, .int w_o_acts, .ref a_o_was, .int w_o_keeps, .ref a_o_kept, .int w_o_seens, .ref a_o_seen, .ref a_o_text, .int w_o_texted, .int w_o_at, .ref a_o_told, .int w_o_isBegun, .int w_o_readCards, .ref a_o_readColour, .int w_o_readDeals, .ref a_o_readDeal, .ref a_o_now, .ref a_o_then, .ref a_o_ring, .ref a_o_goes, .ref a_o_far, .ref a_o_met, .int w_o_metMany], jI E a_o_now 16 f_o_now] (jd (some (.int u)) [jO a_o 7 [.int v_o_cards, .ref a_o_colour, .int w_o_dealMany, .ref a_o_deal, .ref a_o_st, .int w_o_acts, .ref a_o_was, .int w_o_keeps, .ref a_o_kept, .int w_o_seens, .ref a_o_seen, .ref a_o_text, .int w_o_texted, .int w_o_at, .ref a_o_told, .int w_o_isBegun, .int w_o_readCards, .ref a_o_readColour, .int w_o_readDeals, .ref a_o_readDeal, .ref a_o_now, .ref a_o_then, .ref a_o_ring, .ref a_o_goes, .ref a_o_far, .ref a_o_met, .int w_o_metMany], jI E a_o_now 16 f_o_now]) := by
  intro n
  induction n with
  | zero =>
    intro x1 x2 u h
    rw [g_X10_isInOrder_4] at h
    cases h
  | succ n ih =>
    intro x1 x2 u h
    rw [g_X10_isInOrder_4] at h
    refine j_iload_n (pc := 4) 2 dX10_isInOrder_4 rfl rfl ?_
    refine j_aload_n (pc := 5) 0 dX10_isInOrder_5 rfl rfl ?_
    refine j_get (pc := 6) (v := .int v_o_cards) 0 0 rfl rfl (Nat.le_of_ble_eq_true rfl) iwX10 m3_104 rfl dX10_isInOrder_6 ?_
    refine j_icmp_ge (pc := 9) (tgt := 38) dX10_isInOrder_9 (by decide) h (fun h => ?_) (fun h => ?_)
    · refine j_iload_n (pc := 38) 1 dX10_isInOrder_38 rfl rfl ?_
      obtain ⟨hz, h⟩ := jgz_s h
      cases h
      exact j_zret (pc := 39) rfl hz dX10_isInOrder_39 (Nat.le_of_ble_eq_true rfl) (Nat.le_of_ble_eq_true rfl) (jd_i rfl rfl)
    · refine j_iload_n (pc := 12) 1 dX10_isInOrder_12 rfl rfl ?_
      refine j_if_eq (pc := 13) (tgt := 30) dX10_isInOrder_13 (by decide) h (fun h => ?_) (fun h => ?_)
      · refine j_iconst (pc := 30) dX10_isInOrder_30 ic_0 ?_
        refine j_istore_n (pc := 31) (lv' := [(1, .int (0 : Int32)), (0, .ref a_o), (2, .int x2)]) dX10_isInOrder_31 rfl (Nat.le_of_ble_eq_true rfl) rfl ?_
        refine j_iinc (pc := 32) (j := 2) (lv' := [(2, .int (x2 + (1 : Int32))), (1, .int (0 : Int32)), (0, .ref a_o)]) dX10_isInOrder_32 rfl (congrArg (fun z => x2 + z) ic_1) (Nat.le_of_ble_eq_true rfl) rfl ?_
        refine j_goto (pc := 35) (tgt := 4) dX10_isInOrder_35 (by decide) ?_
        exact j_sub (lv' := [(0, .ref a_o), (1, .int (0 : Int32)), (2, .int (x2 + (1 : Int32)))]) [2, 1, 0] rfl (ih _ _ u h)
      · refine j_aload_n (pc := 16) 0 dX10_isInOrder_16 rfl rfl ?_
        refine j_get (pc := 17) (v := .ref a_o_now) 0 20 rfl rfl (Nat.le_of_ble_eq_true rfl) iwX10 m3_124 rfl dX10_isInOrder_17 ?_
        refine j_iload_n (pc := 20) 2 dX10_isInOrder_20 rfl rfl ?_
        refine j_iald (pc := 21) 1 rfl dX10_isInOrder_21 h (fun h => ?_)
        refine j_iload_n (pc := 22) 2 dX10_isInOrder_22 rfl rfl ?_
        refine j_icmp_ne (pc := 23) (tgt := 30) dX10_isInOrder_23 (by decide) h (fun h => ?_) (fun h => ?_)
        · refine j_iconst (pc := 30) dX10_isInOrder_30 ic_0 ?_
          refine j_istore_n (pc := 31) (lv' := [(1, .int (0 : Int32)), (0, .ref a_o), (2, .int x2)]) dX10_isInOrder_31 rfl (Nat.le_of_ble_eq_true rfl) rfl ?_
          refine j_iinc (pc := 32) (j := 2) (lv' := [(2, .int (x2 + (1 : Int32))), (1, .int (0 : Int32)), (0, .ref a_o)]) dX10_isInOrder_32 rfl (congrArg (fun z => x2 + z) ic_1) (Nat.le_of_ble_eq_true rfl) rfl ?_
          refine j_goto (pc := 35) (tgt := 4) dX10_isInOrder_35 (by decide) ?_
          exact j_sub (lv' := [(0, .ref a_o), (1, .int (0 : Int32)), (2, .int (x2 + (1 : Int32)))]) [2, 1, 0] rfl (ih _ _ u h)
        · refine j_iconst (pc := 26) dX10_isInOrder_26 ic_1 ?_
          refine j_goto (pc := 27) (tgt := 31) dX10_isInOrder_27 (by decide) ?_
          refine j_istore_n (pc := 31) (lv' := [(1, .int (1 : Int32)), (0, .ref a_o), (2, .int x2)]) dX10_isInOrder_31 rfl (Nat.le_of_ble_eq_true rfl) rfl ?_
          refine j_iinc (pc := 32) (j := 2) (lv' := [(2, .int (x2 + (1 : Int32))), (1, .int (1 : Int32)), (0, .ref a_o)]) dX10_isInOrder_32 rfl (congrArg (fun z => x2 + z) ic_1) (Nat.le_of_ble_eq_true rfl) rfl ?_
          refine j_goto (pc := 35) (tgt := 4) dX10_isInOrder_35 (by decide) ?_
          exact j_sub (lv' := [(0, .ref a_o), (1, .int (1 : Int32)), (2, .int (x2 + (1 : Int32)))]) [2, 1, 0] rfl (ih _ _ u h)
set_option maxRecDepth 20000 in
theorem c_X10_isInOrder {l : Launch} {E : jE} {F : Nat} {v_o_cards : Int32} {f_o_now : Nat → Int32} {a_o a_o_colour a_o_deal a_o_st a_o_was a_o_kept a_o_seen a_o_text a_o_told a_o_readColour a_o_readDeal a_o_now a_o_then a_o_ring a_o_goes a_o_far a_o_met : Nat} {w_o_dealMany : Int32} {w_o_acts : Int32} {w_o_keeps : Int32} {w_o_seens : Int32} {w_o_texted : Int32} {w_o_at : Int32} {w_o_isBegun : Int32} {w_o_readCards : Int32} {w_o_readDeals : Int32} {w_o_metMany : Int32} : ∀ u : Int32, f_X10_isInOrder F v_o_cards f_o_now = some u → jM l E K_X10_isInOrder [.ref a_o] [jO a_o 7 [.int v_o_cards, .ref a_o_colour, .int w_o_dealMany, .ref a_o_deal, .ref a_o_st, .int w_o_acts, .ref a_o_was, .int w_o_keeps, .ref a_o_kept, .int w_o_seens, .ref a_o_seen, .ref a_o_text, .int w_o_texted, .int w_o_at, .ref a_o_told, .int w_o_isBegun, .int w_o_readCards, .ref a_o_readColour, .int w_o_readDeals, .ref a_o_readDeal, .ref a_o_now, .ref a_o_then, .ref a_o_ring, .ref a_o_goes, .ref a_o_far, .ref a_o_met, .int w_o_metMany], jI E a_o_now 16 f_o_now] (jd (some (.int u)) [jO a_o 7 [.int v_o_cards, .ref a_o_colour, .int w_o_dealMany, .ref a_o_deal, .ref a_o_st, .int w_o_acts, .ref a_o_was, .int w_o_keeps, .ref a_o_kept, .int w_o_seens, .ref a_o_seen, .ref a_o_text, .int w_o_texted, .int w_o_at, .ref a_o_told, .int w_o_isBegun, .int w_o_readCards, .ref a_o_readColour, .int w_o_readDeals, .ref a_o_readDeal, .ref a_o_now, .ref a_o_then, .ref a_o_ring, .ref a_o_goes, .ref a_o_far, .ref a_o_met, .int w_o_metMany], jI E a_o_now 16 f_o_now]) := by
  intro u h
  unfold f_X10_isInOrder at h
  refine j_met [(0, .ref a_o)] (by decide +kernel) (Nat.le_of_ble_eq_true rfl) rfl ?_
  refine j_iconst (pc := 0) dX10_isInOrder_0 ic_1 ?_
  refine j_istore_n (pc := 1) (lv' := [(1, .int (1 : Int32)), (0, .ref a_o)]) dX10_isInOrder_1 rfl (Nat.le_of_ble_eq_true rfl) rfl ?_
  refine j_iconst (pc := 2) dX10_isInOrder_2 ic_0 ?_
  refine j_istore_n (pc := 3) (lv' := [(2, .int (0 : Int32)), (1, .int (1 : Int32)), (0, .ref a_o)]) dX10_isInOrder_3 rfl (Nat.le_of_ble_eq_true rfl) rfl ?_
  exact j_sub (lv' := [(0, .ref a_o), (1, .int (1 : Int32)), (2, .int (0 : Int32))]) [2, 1, 0] rfl (w_X10_isInOrder_4 _ _ _ u h)
set_option maxRecDepth 20000 in
theorem w_X10_again_22 {l : Launch} {E : jE} {F : Nat} {x1 : Int32} {v_o_cards : Int32} {v_o_dealMany : Int32} {f_o_deal : Nat → Int32} {a_o a_o_colour a_o_deal a_o_st a_o_was a_o_kept a_o_seen a_o_text a_o_told a_o_readColour a_o_readDeal a_o_now a_o_then a_o_ring a_o_goes a_o_far a_o_met : Nat} {w_o_acts : Int32} {w_o_keeps : Int32} {w_o_seens : Int32} {w_o_texted : Int32} {w_o_at : Int32} {w_o_isBegun : Int32} {w_o_readCards : Int32} {w_o_readDeals : Int32} {w_o_metMany : Int32} : ∀ (n : Nat) (x2 : Int32) (x3 : Int32) (f_o_now : Nat → Int32) (f_o_ring : Nat → Int32) (f_o_then : Nat → Int32) (u : Int32 × (Nat → Int32) × (Nat → Int32) × (Nat → Int32)), g_X10_again_22 F x1 v_o_cards v_o_dealMany f_o_deal n x2 x3 f_o_now f_o_ring f_o_then = some u → jT l E K_X10_again 0 0 22 [(0, .ref a_o), (1, .int x1), (2, .int x2), (3, .int x3)] [] [jO a_o 7 [.int v_o_cards, .ref a_o_colour, .int v_o_dealMany, .ref a_o_deal, .ref a_o_st, .int w_o_acts, .ref a_o_was, .int w_o_keeps, .ref a_o_kept, .int w_o_seens, .ref a_o_seen, .ref a_o_text, .int w_o_texted, .int w_o_at, .ref a_o_told, .int w_o_isBegun, .int w_o_readCards, .ref a_o_readColour, .int w_o_readDeals, .ref a_o_readDeal, .ref a_o_now, .ref a_o_then, .ref a_o_ring, .ref a_o_goes, .ref a_o_far, .ref a_o_met, .int w_o_metMany], jI E a_o_deal 16 f_o_deal, jI E a_o_now 16 f_o_now, jI E a_o_ring 32 f_o_ring, jI E a_o_then 16 f_o_then] (jd (some (.int u.1)) [jO a_o 7 [.int v_o_cards, .ref a_o_colour, .int v_o_dealMany, .ref a_o_deal, .ref a_o_st, .int w_o_acts, .ref a_o_was, .int w_o_keeps, .ref a_o_kept, .int w_o_seens, .ref a_o_seen, .ref a_o_text, .int w_o_texted, .int w_o_at, .ref a_o_told, .int w_o_isBegun, .int w_o_readCards, .ref a_o_readColour, .int w_o_readDeals, .ref a_o_readDeal, .ref a_o_now, .ref a_o_then, .ref a_o_ring, .ref a_o_goes, .ref a_o_far, .ref a_o_met, .int w_o_metMany], jI E a_o_deal 16 f_o_deal, jI E a_o_now 16 u.2.1, jI E a_o_ring 32 u.2.2.1, jI E a_o_then 16 u.2.2.2]) := by
  intro n
  induction n with
  | zero =>
    intro x2 x3 f_o_now f_o_ring f_o_then u h
    rw [g_X10_again_22] at h
    cases h
  | succ n ih =>
    intro x2 x3 f_o_now f_o_ring f_o_then u h
    rw [g_X10_again_22] at h
    refine j_iload_n (pc := 22) 3 dX10_again_22 rfl rfl ?_
    refine j_if_eq (pc := 23) (tgt := 62) dX10_again_23 (by decide) h (fun h => ?_) (fun h => ?_)
    · refine j_iload_n (pc := 62) 2 dX10_again_62 rfl rfl ?_
      cases h
      exact j_iret (pc := 63) rfl dX10_again_63 (Nat.le_of_ble_eq_true rfl) (Nat.le_of_ble_eq_true rfl) (jd_i rfl rfl)
    · refine j_iload_n (pc := 26) 1 dX10_again_26 rfl rfl ?_
      refine j_iconst (pc := 27) dX10_again_27 ic_5 ?_
      refine j_icmp_ne (pc := 28) (tgt := 38) dX10_again_28 (by decide) h (fun h => ?_) (fun h => ?_)
      · refine j_aload_n (pc := 38) 0 dX10_again_38 rfl rfl ?_
        refine j_iload_n (pc := 39) 1 dX10_again_39 rfl rfl ?_
        refine j_V (pc := 40) (q0 := 0) (Kc := K_X10_acts) (As := [.int x1]) (rest := []) (wc := [jO a_o 7 [.int v_o_cards, .ref a_o_colour, .int v_o_dealMany, .ref a_o_deal, .ref a_o_st, .int w_o_acts, .ref a_o_was, .int w_o_keeps, .ref a_o_kept, .int w_o_seens, .ref a_o_seen, .ref a_o_text, .int w_o_texted, .int w_o_at, .ref a_o_told, .int w_o_isBegun, .int w_o_readCards, .ref a_o_readColour, .int w_o_readDeals, .ref a_o_readDeal, .ref a_o_now, .ref a_o_then, .ref a_o_ring, .ref a_o_goes, .ref a_o_far, .ref a_o_met, .int w_o_metMany], jI E a_o_now 16 f_o_now, jI E a_o_ring 32 f_o_ring, jI E a_o_then 16 f_o_then]) (w' := fun b1 => [jO a_o 7 [.int v_o_cards, .ref a_o_colour, .int v_o_dealMany, .ref a_o_deal, .ref a_o_st, .int w_o_acts, .ref a_o_was, .int w_o_keeps, .ref a_o_kept, .int w_o_seens, .ref a_o_seen, .ref a_o_text, .int w_o_texted, .int w_o_at, .ref a_o_told, .int w_o_isBegun, .int w_o_readCards, .ref a_o_readColour, .int w_o_readDeals, .ref a_o_readDeal, .ref a_o_now, .ref a_o_then, .ref a_o_ring, .ref a_o_goes, .ref a_o_far, .ref a_o_met, .int w_o_metMany], jI E a_o_deal 16 f_o_deal, jI E a_o_now 16 b1.1, jI E a_o_ring 32 b1.2.1, jI E a_o_then 16 b1.2.2]) (st1 := fun b1 => []) [0, 2, 3, 4] rfl rfl rfl h c_X10_acts q_X10_acts m4_36 rfl rfl (Nat.le_of_ble_eq_true rfl) ⟨(Nat.le_of_ble_eq_true rfl), (Nat.le_of_ble_eq_true rfl)⟩ ⟨rfl, rfl⟩ ⟨(Nat.le_of_ble_eq_true rfl), (Nat.le_of_ble_eq_true rfl)⟩ dX10_again_40 rfl (by decide) (fun _ => rfl) (fun _ => rfl) (fun _ => rfl) (fun b1 h => ?_)
        refine j_iinc (pc := 43) (j := 2) (lv' := [(2, .int (x2 + (1 : Int32))), (0, .ref a_o), (1, .int x1), (3, .int x3)]) dX10_again_43 rfl (congrArg (fun z => x2 + z) ic_1) (Nat.le_of_ble_eq_true rfl) rfl ?_
        refine j_aload_n (pc := 46) 1 dX10_again_46 rfl rfl ?_
        refine j_V (pc := 47) (q0 := 0) (Kc := K_X10_isInOrder) (As := []) (rest := []) (wc := [jO a_o 7 [.int v_o_cards, .ref a_o_colour, .int v_o_dealMany, .ref a_o_deal, .ref a_o_st, .int w_o_acts, .ref a_o_was, .int w_o_keeps, .ref a_o_kept, .int w_o_seens, .ref a_o_seen, .ref a_o_text, .int w_o_texted, .int w_o_at, .ref a_o_told, .int w_o_isBegun, .int w_o_readCards, .ref a_o_readColour, .int w_o_readDeals, .ref a_o_readDeal, .ref a_o_now, .ref a_o_then, .ref a_o_ring, .ref a_o_goes, .ref a_o_far, .ref a_o_met, .int w_o_metMany], jI E a_o_now 16 b1.1]) (w' := fun b2 => [jO a_o 7 [.int v_o_cards, .ref a_o_colour, .int v_o_dealMany, .ref a_o_deal, .ref a_o_st, .int w_o_acts, .ref a_o_was, .int w_o_keeps, .ref a_o_kept, .int w_o_seens, .ref a_o_seen, .ref a_o_text, .int w_o_texted, .int w_o_at, .ref a_o_told, .int w_o_isBegun, .int w_o_readCards, .ref a_o_readColour, .int w_o_readDeals, .ref a_o_readDeal, .ref a_o_now, .ref a_o_then, .ref a_o_ring, .ref a_o_goes, .ref a_o_far, .ref a_o_met, .int w_o_metMany], jI E a_o_deal 16 f_o_deal, jI E a_o_now 16 b1.1, jI E a_o_ring 32 b1.2.1, jI E a_o_then 16 b1.2.2]) (st1 := fun b2 => [.int b2]) [0, 2] rfl rfl rfl h c_X10_isInOrder q_X10_isInOrder m4_80 rfl rfl (Nat.le_of_ble_eq_true rfl) ⟨(Nat.le_of_ble_eq_true rfl), (Nat.le_of_ble_eq_true rfl)⟩ ⟨rfl, rfl⟩ ⟨(Nat.le_of_ble_eq_true rfl), (Nat.le_of_ble_eq_true rfl)⟩ dX10_again_47 rfl (by decide) (fun _ => rfl) (fun _ => rfl) (fun _ => rfl) (fun b2 h => ?_)
        refine j_if_ne (pc := 50) (tgt := 57) dX10_again_50 (by decide) h (fun h => ?_) (fun h => ?_)
        · refine j_iconst (pc := 57) dX10_again_57 ic_0 ?_
          refine j_istore_n (pc := 58) (lv' := [(3, .int (0 : Int32)), (2, .int (x2 + (1 : Int32))), (0, .ref a_o), (1, .int x1)]) dX10_again_58 rfl (Nat.le_of_ble_eq_true rfl) rfl ?_
          refine j_goto (pc := 59) (tgt := 22) dX10_again_59 (by decide) ?_
          exact j_sub (lv' := [(0, .ref a_o), (1, .int x1), (2, .int (x2 + (1 : Int32))), (3, .int (0 : Int32))]) [2, 3, 1, 0] rfl (ih _ _ _ _ _ u h)
        · refine j_iconst (pc := 53) dX10_again_53 ic_1 ?_
          refine j_goto (pc := 54) (tgt := 58) dX10_again_54 (by decide) ?_
          refine j_istore_n (pc := 58) (lv' := [(3, .int (1 : Int32)), (2, .int (x2 + (1 : Int32))), (0, .ref a_o), (1, .int x1)]) dX10_again_58 rfl (Nat.le_of_ble_eq_true rfl) rfl ?_
          refine j_goto (pc := 59) (tgt := 22) dX10_again_59 (by decide) ?_
          exact j_sub (lv' := [(0, .ref a_o), (1, .int x1), (2, .int (x2 + (1 : Int32))), (3, .int (1 : Int32))]) [2, 3, 1, 0] rfl (ih _ _ _ _ _ u h)
      · refine j_aload_n (pc := 31) 0 dX10_again_31 rfl rfl ?_
        refine j_V (pc := 32) (q0 := 0) (Kc := K_X10_deals) (As := []) (rest := []) (wc := [jO a_o 7 [.int v_o_cards, .ref a_o_colour, .int v_o_dealMany, .ref a_o_deal, .ref a_o_st, .int w_o_acts, .ref a_o_was, .int w_o_keeps, .ref a_o_kept, .int w_o_seens, .ref a_o_seen, .ref a_o_text, .int w_o_texted, .int w_o_at, .ref a_o_told, .int w_o_isBegun, .int w_o_readCards, .ref a_o_readColour, .int w_o_readDeals, .ref a_o_readDeal, .ref a_o_now, .ref a_o_then, .ref a_o_ring, .ref a_o_goes, .ref a_o_far, .ref a_o_met, .int w_o_metMany], jI E a_o_deal 16 f_o_deal, jI E a_o_now 16 f_o_now, jI E a_o_ring 32 f_o_ring, jI E a_o_then 16 f_o_then]) (w' := fun b3 => [jO a_o 7 [.int v_o_cards, .ref a_o_colour, .int v_o_dealMany, .ref a_o_deal, .ref a_o_st, .int w_o_acts, .ref a_o_was, .int w_o_keeps, .ref a_o_kept, .int w_o_seens, .ref a_o_seen, .ref a_o_text, .int w_o_texted, .int w_o_at, .ref a_o_told, .int w_o_isBegun, .int w_o_readCards, .ref a_o_readColour, .int w_o_readDeals, .ref a_o_readDeal, .ref a_o_now, .ref a_o_then, .ref a_o_ring, .ref a_o_goes, .ref a_o_far, .ref a_o_met, .int w_o_metMany], jI E a_o_deal 16 f_o_deal, jI E a_o_now 16 b3.1, jI E a_o_ring 32 b3.2.1, jI E a_o_then 16 b3.2.2]) (st1 := fun b3 => []) [0, 1, 2, 3, 4] rfl rfl rfl h c_X10_deals q_X10_deals m4_68 rfl rfl (Nat.le_of_ble_eq_true rfl) ⟨(Nat.le_of_ble_eq_true rfl), (Nat.le_of_ble_eq_true rfl)⟩ ⟨rfl, rfl⟩ ⟨(Nat.le_of_ble_eq_true rfl), (Nat.le_of_ble_eq_true rfl)⟩ dX10_again_32 rfl (by decide) (fun _ => rfl) (fun _ => rfl) (fun _ => rfl) (fun b3 h => ?_)
        refine j_goto (pc := 35) (tgt := 43) dX10_again_35 (by decide) ?_
        refine j_iinc (pc := 43) (j := 2) (lv' := [(2, .int (x2 + (1 : Int32))), (0, .ref a_o), (1, .int x1), (3, .int x3)]) dX10_again_43 rfl (congrArg (fun z => x2 + z) ic_1) (Nat.le_of_ble_eq_true rfl) rfl ?_
        refine j_aload_n (pc := 46) 1 dX10_again_46 rfl rfl ?_
        refine j_V (pc := 47) (q0 := 0) (Kc := K_X10_isInOrder) (As := []) (rest := []) (wc := [jO a_o 7 [.int v_o_cards, .ref a_o_colour, .int v_o_dealMany, .ref a_o_deal, .ref a_o_st, .int w_o_acts, .ref a_o_was, .int w_o_keeps, .ref a_o_kept, .int w_o_seens, .ref a_o_seen, .ref a_o_text, .int w_o_texted, .int w_o_at, .ref a_o_told, .int w_o_isBegun, .int w_o_readCards, .ref a_o_readColour, .int w_o_readDeals, .ref a_o_readDeal, .ref a_o_now, .ref a_o_then, .ref a_o_ring, .ref a_o_goes, .ref a_o_far, .ref a_o_met, .int w_o_metMany], jI E a_o_now 16 b3.1]) (w' := fun b4 => [jO a_o 7 [.int v_o_cards, .ref a_o_colour, .int v_o_dealMany, .ref a_o_deal, .ref a_o_st, .int w_o_acts, .ref a_o_was, .int w_o_keeps, .ref a_o_kept, .int w_o_seens, .ref a_o_seen, .ref a_o_text, .int w_o_texted, .int w_o_at, .ref a_o_told, .int w_o_isBegun, .int w_o_readCards, .ref a_o_readColour, .int w_o_readDeals, .ref a_o_readDeal, .ref a_o_now, .ref a_o_then, .ref a_o_ring, .ref a_o_goes, .ref a_o_far, .ref a_o_met, .int w_o_metMany], jI E a_o_deal 16 f_o_deal, jI E a_o_now 16 b3.1, jI E a_o_ring 32 b3.2.1, jI E a_o_then 16 b3.2.2]) (st1 := fun b4 => [.int b4]) [0, 2] rfl rfl rfl h c_X10_isInOrder q_X10_isInOrder m4_80 rfl rfl (Nat.le_of_ble_eq_true rfl) ⟨(Nat.le_of_ble_eq_true rfl), (Nat.le_of_ble_eq_true rfl)⟩ ⟨rfl, rfl⟩ ⟨(Nat.le_of_ble_eq_true rfl), (Nat.le_of_ble_eq_true rfl)⟩ dX10_again_47 rfl (by decide) (fun _ => rfl) (fun _ => rfl) (fun _ => rfl) (fun b4 h => ?_)
        refine j_if_ne (pc := 50) (tgt := 57) dX10_again_50 (by decide) h (fun h => ?_) (fun h => ?_)
        · refine j_iconst (pc := 57) dX10_again_57 ic_0 ?_
          refine j_istore_n (pc := 58) (lv' := [(3, .int (0 : Int32)), (2, .int (x2 + (1 : Int32))), (0, .ref a_o), (1, .int x1)]) dX10_again_58 rfl (Nat.le_of_ble_eq_true rfl) rfl ?_
          refine j_goto (pc := 59) (tgt := 22) dX10_again_59 (by decide) ?_
          exact j_sub (lv' := [(0, .ref a_o), (1, .int x1), (2, .int (x2 + (1 : Int32))), (3, .int (0 : Int32))]) [2, 3, 1, 0] rfl (ih _ _ _ _ _ u h)
        · refine j_iconst (pc := 53) dX10_again_53 ic_1 ?_
          refine j_goto (pc := 54) (tgt := 58) dX10_again_54 (by decide) ?_
          refine j_istore_n (pc := 58) (lv' := [(3, .int (1 : Int32)), (2, .int (x2 + (1 : Int32))), (0, .ref a_o), (1, .int x1)]) dX10_again_58 rfl (Nat.le_of_ble_eq_true rfl) rfl ?_
          refine j_goto (pc := 59) (tgt := 22) dX10_again_59 (by decide) ?_
          exact j_sub (lv' := [(0, .ref a_o), (1, .int x1), (2, .int (x2 + (1 : Int32))), (3, .int (1 : Int32))]) [2, 3, 1, 0] rfl (ih _ _ _ _ _ u h)
set_option maxRecDepth 20000 in
theorem c_X10_again {l : Launch} {E : jE} {F : Nat} {x1 : Int32} {v_o_cards : Int32} {v_o_dealMany : Int32} {f_o_deal : Nat → Int32} {a_o a_o_colour a_o_deal a_o_st a_o_was a_o_kept a_o_seen a_o_text a_o_told a_o_readColour a_o_readDeal a_o_now a_o_then a_o_ring a_o_goes a_o_far a_o_met : Nat} {w_o_acts : Int32} {w_o_keeps : Int32} {w_o_seens : Int32} {w_o_texted : Int32} {w_o_at : Int32} {w_o_isBegun : Int32} {w_o_readCards : Int32} {w_o_readDeals : Int32} {w_o_metMany : Int32} {f_o_now : Nat → Int32} {f_o_ring : Nat → Int32} {f_o_then : Nat → Int32} : ∀ u : Int32 × (Nat → Int32) × (Nat → Int32) × (Nat → Int32), f_X10_again F x1 v_o_cards v_o_dealMany f_o_deal f_o_now f_o_ring f_o_then = some u → jM l E K_X10_again [.ref a_o, .int x1] [jO a_o 7 [.int v_o_cards, .ref a_o_colour, .int v_o_dealMany, .ref a_o_deal, .ref a_o_st, .int w_o_acts, .ref a_o_was, .int w_o_keeps, .ref a_o_kept, .int w_o_seens, .ref a_o_seen, .ref a_o_text, .int w_o_texted, .int w_o_at, .ref a_o_told, .int w_o_isBegun, .int w_o_readCards, .ref a_o_readColour, .int w_o_readDeals, .ref a_o_readDeal, .ref a_o_now, .ref a_o_then, .ref a_o_ring, .ref a_o_goes, .ref a_o_far, .ref a_o_met, .int w_o_metMany], jI E a_o_deal 16 f_o_deal, jI E a_o_now 16 f_o_now, jI E a_o_ring 32 f_o_ring, jI E a_o_then 16 f_o_then] (jd (some (.int u.1)) [jO a_o 7 [.int v_o_cards, .ref a_o_colour, .int v_o_dealMany, .ref a_o_deal, .ref a_o_st, .int w_o_acts, .ref a_o_was, .int w_o_keeps, .ref a_o_kept, .int w_o_seens, .ref a_o_seen, .ref a_o_text, .int w_o_texted, .int w_o_at, .ref a_o_told, .int w_o_isBegun, .int w_o_readCards, .ref a_o_readColour, .int w_o_readDeals, .ref a_o_readDeal, .ref a_o_now, .ref a_o_then, .ref a_o_ring, .ref a_o_goes, .ref a_o_far, .ref a_o_met, .int w_o_metMany], jI E a_o_deal 16 f_o_deal, jI E a_o_now 16 u.2.1, jI E a_o_ring 32 u.2.2.1, jI E a_o_then 16 u.2.2.2]) := by
  intro u h
  unfold f_X10_again at h
  refine j_met [(0, .ref a_o), (1, .int x1)] (by decide +kernel) (Nat.le_of_ble_eq_true rfl) rfl ?_
  refine j_iload_n (pc := 0) 1 dX10_again_0 rfl rfl ?_
  refine j_iconst (pc := 1) dX10_again_1 ic_0 ?_
  refine j_iconst (pc := 2) dX10_again_2 ic_5 ?_
  refine j_S0 (pc := 3) (Kc := K_X10_in) (As := [.int x1, .int (0 : Int32), .int (5 : Int32)]) (rest := []) h c_X10_in q_X10_in m3_190 rfl rfl (Nat.le_of_ble_eq_true rfl) ⟨(Nat.le_of_ble_eq_true rfl), (Nat.le_of_ble_eq_true rfl)⟩ ⟨rfl, rfl⟩ ⟨(Nat.le_of_ble_eq_true rfl), (Nat.le_of_ble_eq_true rfl)⟩ dX10_again_3 (fun b1 h => ?_)
  refine j_if_ne (pc := 6) (tgt := 11) dX10_again_6 (by decide) h (fun h => ?_) (fun h => ?_)
  · refine j_aload_n (pc := 11) 0 dX10_again_11 rfl rfl ?_
    refine j_get (pc := 12) (v := .ref a_o_now) 0 20 rfl rfl (Nat.le_of_ble_eq_true rfl) iwX10 m3_124 rfl dX10_again_12 ?_
    refine j_S (pc := 15) (Kc := K_X10_lies) (As := [.ref a_o_now]) (rest := []) (wc := [jI E a_o_now 16 f_o_now]) (w' := fun b2 => [jO a_o 7 [.int v_o_cards, .ref a_o_colour, .int v_o_dealMany, .ref a_o_deal, .ref a_o_st, .int w_o_acts, .ref a_o_was, .int w_o_keeps, .ref a_o_kept, .int w_o_seens, .ref a_o_seen, .ref a_o_text, .int w_o_texted, .int w_o_at, .ref a_o_told, .int w_o_isBegun, .int w_o_readCards, .ref a_o_readColour, .int w_o_readDeals, .ref a_o_readDeal, .ref a_o_now, .ref a_o_then, .ref a_o_ring, .ref a_o_goes, .ref a_o_far, .ref a_o_met, .int w_o_metMany], jI E a_o_deal 16 f_o_deal, jI E a_o_now 16 b2, jI E a_o_ring 32 f_o_ring, jI E a_o_then 16 f_o_then]) (st1 := fun b2 => []) [2] h c_X10_lies q_X10_lies m3_101 rfl rfl (Nat.le_of_ble_eq_true rfl) ⟨(Nat.le_of_ble_eq_true rfl), (Nat.le_of_ble_eq_true rfl)⟩ ⟨rfl, rfl⟩ ⟨(Nat.le_of_ble_eq_true rfl), (Nat.le_of_ble_eq_true rfl)⟩ dX10_again_15 rfl (by decide) (fun _ => rfl) (fun _ => rfl) (fun _ => rfl) (fun b2 h => ?_)
    refine j_iconst (pc := 18) dX10_again_18 ic_0 ?_
    refine j_istore_n (pc := 19) (lv' := [(2, .int (0 : Int32)), (0, .ref a_o), (1, .int x1)]) dX10_again_19 rfl (Nat.le_of_ble_eq_true rfl) rfl ?_
    refine j_iconst (pc := 20) dX10_again_20 ic_1 ?_
    refine j_istore_n (pc := 21) (lv' := [(3, .int (1 : Int32)), (2, .int (0 : Int32)), (0, .ref a_o), (1, .int x1)]) dX10_again_21 rfl (Nat.le_of_ble_eq_true rfl) rfl ?_
    exact j_sub (lv' := [(0, .ref a_o), (1, .int x1), (2, .int (0 : Int32)), (3, .int (1 : Int32))]) [2, 3, 1, 0] rfl (w_X10_again_22 _ _ _ _ _ _ u h)
  · refine j_iconst (pc := 9) dX10_again_9 ic_m1 ?_
    cases h
    exact j_iret (pc := 10) rfl dX10_again_10 (Nat.le_of_ble_eq_true rfl) (Nat.le_of_ble_eq_true rfl) (jd_i rfl rfl)
set_option maxRecDepth 20000 in
theorem w_X10_round_29 {l : Launch} {E : jE} {F : Nat} {x1 : Int32} {x2 : Int32} {v_o_cards : Int32} {a_o a_o_colour a_o_deal a_o_st a_o_was a_o_kept a_o_seen a_o_text a_o_told a_o_readColour a_o_readDeal a_o_now a_o_then a_o_ring a_o_goes a_o_far a_o_met : Nat} {w_o_dealMany : Int32} {w_o_acts : Int32} {w_o_keeps : Int32} {w_o_seens : Int32} {w_o_texted : Int32} {w_o_at : Int32} {w_o_isBegun : Int32} {w_o_readCards : Int32} {w_o_readDeals : Int32} {w_o_metMany : Int32} : ∀ (n : Nat) (x3 : Int32) (x4 : Int32) (f_o_now : Nat → Int32) (f_o_ring : Nat → Int32) (f_o_then : Nat → Int32) (u : Int32 × (Nat → Int32) × (Nat → Int32) × (Nat → Int32)), g_X10_round_29 F x1 x2 v_o_cards n x3 x4 f_o_now f_o_ring f_o_then = some u → jT l E K_X10_round 0 0 29 [(0, .ref a_o), (1, .int x1), (2, .int x2), (3, .int x3), (4, .int x4)] [] [jO a_o 7 [.int v_o_cards, .ref a_o_colour, .int w_o_dealMany, .ref a_o_deal, .ref a_o_st, .int w_o_acts, .ref a_o_was, .int w_o_keeps, .ref a_o_kept, .int w_o_seens, .ref a_o_seen, .ref a_o_text, .int w_o_texted, .int w_o_at, .ref a_o_told, .int w_o_isBegun, .int w_o_readCards, .ref a_o_readColour, .int w_o_readDeals, .ref a_o_readDeal, .ref a_o_now, .ref a_o_then, .ref a_o_ring, .ref a_o_goes, .ref a_o_far, .ref a_o_met, .int w_o_metMany], jI E a_o_now 16 f_o_now, jI E a_o_ring 32 f_o_ring, jI E a_o_then 16 f_o_then] (jd (some (.int u.1)) [jO a_o 7 [.int v_o_cards, .ref a_o_colour, .int w_o_dealMany, .ref a_o_deal, .ref a_o_st, .int w_o_acts, .ref a_o_was, .int w_o_keeps, .ref a_o_kept, .int w_o_seens, .ref a_o_seen, .ref a_o_text, .int w_o_texted, .int w_o_at, .ref a_o_told, .int w_o_isBegun, .int w_o_readCards, .ref a_o_readColour, .int w_o_readDeals, .ref a_o_readDeal, .ref a_o_now, .ref a_o_then, .ref a_o_ring, .ref a_o_goes, .ref a_o_far, .ref a_o_met, .int w_o_metMany], jI E a_o_now 16 u.2.1, jI E a_o_ring 32 u.2.2.1, jI E a_o_then 16 u.2.2.2]) := by
  intro n
  induction n with
  | zero =>
    intro x3 x4 f_o_now f_o_ring f_o_then u h
    rw [g_X10_round_29] at h
    cases h
  | succ n ih =>
    intro x3 x4 f_o_now f_o_ring f_o_then u h
    rw [g_X10_round_29] at h
    refine j_iload (pc := 29) 4 dX10_round_29 rfl ?_
    refine j_if_eq (pc := 31) (tgt := 62) dX10_round_31 (by decide) h (fun h => ?_) (fun h => ?_)
    · refine j_iload_n (pc := 62) 3 dX10_round_62 rfl rfl ?_
      cases h
      exact j_iret (pc := 63) rfl dX10_round_63 (Nat.le_of_ble_eq_true rfl) (Nat.le_of_ble_eq_true rfl) (jd_i rfl rfl)
    · refine j_aload_n (pc := 34) 0 dX10_round_34 rfl rfl ?_
      refine j_iload_n (pc := 35) 2 dX10_round_35 rfl rfl ?_
      refine j_V (pc := 36) (q0 := 0) (Kc := K_X10_acts) (As := [.int x2]) (rest := []) (wc := [jO a_o 7 [.int v_o_cards, .ref a_o_colour, .int w_o_dealMany, .ref a_o_deal, .ref a_o_st, .int w_o_acts, .ref a_o_was, .int w_o_keeps, .ref a_o_kept, .int w_o_seens, .ref a_o_seen, .ref a_o_text, .int w_o_texted, .int w_o_at, .ref a_o_told, .int w_o_isBegun, .int w_o_readCards, .ref a_o_readColour, .int w_o_readDeals, .ref a_o_readDeal, .ref a_o_now, .ref a_o_then, .ref a_o_ring, .ref a_o_goes, .ref a_o_far, .ref a_o_met, .int w_o_metMany], jI E a_o_now 16 f_o_now, jI E a_o_ring 32 f_o_ring, jI E a_o_then 16 f_o_then]) (w' := fun b1 => [jO a_o 7 [.int v_o_cards, .ref a_o_colour, .int w_o_dealMany, .ref a_o_deal, .ref a_o_st, .int w_o_acts, .ref a_o_was, .int w_o_keeps, .ref a_o_kept, .int w_o_seens, .ref a_o_seen, .ref a_o_text, .int w_o_texted, .int w_o_at, .ref a_o_told, .int w_o_isBegun, .int w_o_readCards, .ref a_o_readColour, .int w_o_readDeals, .ref a_o_readDeal, .ref a_o_now, .ref a_o_then, .ref a_o_ring, .ref a_o_goes, .ref a_o_far, .ref a_o_met, .int w_o_metMany], jI E a_o_now 16 b1.1, jI E a_o_ring 32 b1.2.1, jI E a_o_then 16 b1.2.2]) (st1 := fun b1 => []) [0, 1, 2, 3] rfl rfl rfl h c_X10_acts q_X10_acts m4_36 rfl rfl (Nat.le_of_ble_eq_true rfl) ⟨(Nat.le_of_ble_eq_true rfl), (Nat.le_of_ble_eq_true rfl)⟩ ⟨rfl, rfl⟩ ⟨(Nat.le_of_ble_eq_true rfl), (Nat.le_of_ble_eq_true rfl)⟩ dX10_round_36 rfl (by decide) (fun _ => rfl) (fun _ => rfl) (fun _ => rfl) (fun b1 h => ?_)
      refine j_iinc (pc := 39) (j := 3) (lv' := [(3, .int (x3 + (1 : Int32))), (0, .ref a_o), (1, .int x1), (2, .int x2), (4, .int x4)]) dX10_round_39 rfl (congrArg (fun z => x3 + z) ic_1) (Nat.le_of_ble_eq_true rfl) rfl ?_
      refine j_aload_n (pc := 42) 1 dX10_round_42 rfl rfl ?_
      refine j_get (pc := 43) (v := .ref a_o_now) 0 20 rfl rfl (Nat.le_of_ble_eq_true rfl) iwX10 m3_124 rfl dX10_round_43 ?_
      refine j_iload_n (pc := 46) 2 dX10_round_46 rfl rfl ?_
      refine j_iald (pc := 47) 1 rfl dX10_round_47 h (fun h => ?_)
      refine j_iload_n (pc := 48) 2 dX10_round_48 rfl rfl ?_
      refine j_icmp_eq (pc := 49) (tgt := 56) dX10_round_49 (by decide) h (fun h => ?_) (fun h => ?_)
      · refine j_iconst (pc := 56) dX10_round_56 ic_0 ?_
        refine j_istore (pc := 57) (lv' := [(4, .int (0 : Int32)), (3, .int (x3 + (1 : Int32))), (0, .ref a_o), (1, .int x1), (2, .int x2)]) dX10_round_57 (Nat.le_of_ble_eq_true rfl) rfl ?_
        refine j_goto (pc := 59) (tgt := 29) dX10_round_59 (by decide) ?_
        exact j_sub (lv' := [(0, .ref a_o), (1, .int x1), (2, .int x2), (3, .int (x3 + (1 : Int32))), (4, .int (0 : Int32))]) [2, 3, 4, 1, 0] rfl (ih _ _ _ _ _ u h)
      · refine j_iconst (pc := 52) dX10_round_52 ic_1 ?_
        refine j_goto (pc := 53) (tgt := 57) dX10_round_53 (by decide) ?_
        refine j_istore (pc := 57) (lv' := [(4, .int (1 : Int32)), (3, .int (x3 + (1 : Int32))), (0, .ref a_o), (1, .int x1), (2, .int x2)]) dX10_round_57 (Nat.le_of_ble_eq_true rfl) rfl ?_
        refine j_goto (pc := 59) (tgt := 29) dX10_round_59 (by decide) ?_
        exact j_sub (lv' := [(0, .ref a_o), (1, .int x1), (2, .int x2), (3, .int (x3 + (1 : Int32))), (4, .int (1 : Int32))]) [2, 3, 4, 1, 0] rfl (ih _ _ _ _ _ u h)
set_option maxRecDepth 20000 in
theorem c_X10_round {l : Launch} {E : jE} {F : Nat} {x1 : Int32} {x2 : Int32} {v_o_cards : Int32} {a_o a_o_colour a_o_deal a_o_st a_o_was a_o_kept a_o_seen a_o_text a_o_told a_o_readColour a_o_readDeal a_o_now a_o_then a_o_ring a_o_goes a_o_far a_o_met : Nat} {w_o_dealMany : Int32} {w_o_acts : Int32} {w_o_keeps : Int32} {w_o_seens : Int32} {w_o_texted : Int32} {w_o_at : Int32} {w_o_isBegun : Int32} {w_o_readCards : Int32} {w_o_readDeals : Int32} {w_o_metMany : Int32} {f_o_now : Nat → Int32} {f_o_ring : Nat → Int32} {f_o_then : Nat → Int32} : ∀ u : Int32 × (Nat → Int32) × (Nat → Int32) × (Nat → Int32), f_X10_round F x1 x2 v_o_cards f_o_now f_o_ring f_o_then = some u → jM l E K_X10_round [.ref a_o, .int x1, .int x2] [jO a_o 7 [.int v_o_cards, .ref a_o_colour, .int w_o_dealMany, .ref a_o_deal, .ref a_o_st, .int w_o_acts, .ref a_o_was, .int w_o_keeps, .ref a_o_kept, .int w_o_seens, .ref a_o_seen, .ref a_o_text, .int w_o_texted, .int w_o_at, .ref a_o_told, .int w_o_isBegun, .int w_o_readCards, .ref a_o_readColour, .int w_o_readDeals, .ref a_o_readDeal, .ref a_o_now, .ref a_o_then, .ref a_o_ring, .ref a_o_goes, .ref a_o_far, .ref a_o_met, .int w_o_metMany], jI E a_o_now 16 f_o_now, jI E a_o_ring 32 f_o_ring, jI E a_o_then 16 f_o_then] (jd (some (.int u.1)) [jO a_o 7 [.int v_o_cards, .ref a_o_colour, .int w_o_dealMany, .ref a_o_deal, .ref a_o_st, .int w_o_acts, .ref a_o_was, .int w_o_keeps, .ref a_o_kept, .int w_o_seens, .ref a_o_seen, .ref a_o_text, .int w_o_texted, .int w_o_at, .ref a_o_told, .int w_o_isBegun, .int w_o_readCards, .ref a_o_readColour, .int w_o_readDeals, .ref a_o_readDeal, .ref a_o_now, .ref a_o_then, .ref a_o_ring, .ref a_o_goes, .ref a_o_far, .ref a_o_met, .int w_o_metMany], jI E a_o_now 16 u.2.1, jI E a_o_ring 32 u.2.2.1, jI E a_o_then 16 u.2.2.2]) := by
  intro u h
  unfold f_X10_round at h
  refine j_met [(0, .ref a_o), (1, .int x1), (2, .int x2)] (by decide +kernel) (Nat.le_of_ble_eq_true rfl) rfl ?_
  refine j_aload_n (pc := 0) 0 dX10_round_0 rfl rfl ?_
  refine j_iload_n (pc := 1) 1 dX10_round_1 rfl rfl ?_
  refine j_V (pc := 2) (q0 := 0) (Kc := K_X10_isCard) (As := [.int x1]) (rest := []) (wc := [jO a_o 7 [.int v_o_cards, .ref a_o_colour, .int w_o_dealMany, .ref a_o_deal, .ref a_o_st, .int w_o_acts, .ref a_o_was, .int w_o_keeps, .ref a_o_kept, .int w_o_seens, .ref a_o_seen, .ref a_o_text, .int w_o_texted, .int w_o_at, .ref a_o_told, .int w_o_isBegun, .int w_o_readCards, .ref a_o_readColour, .int w_o_readDeals, .ref a_o_readDeal, .ref a_o_now, .ref a_o_then, .ref a_o_ring, .ref a_o_goes, .ref a_o_far, .ref a_o_met, .int w_o_metMany]]) (w' := fun b1 => [jO a_o 7 [.int v_o_cards, .ref a_o_colour, .int w_o_dealMany, .ref a_o_deal, .ref a_o_st, .int w_o_acts, .ref a_o_was, .int w_o_keeps, .ref a_o_kept, .int w_o_seens, .ref a_o_seen, .ref a_o_text, .int w_o_texted, .int w_o_at, .ref a_o_told, .int w_o_isBegun, .int w_o_readCards, .ref a_o_readColour, .int w_o_readDeals, .ref a_o_readDeal, .ref a_o_now, .ref a_o_then, .ref a_o_ring, .ref a_o_goes, .ref a_o_far, .ref a_o_met, .int w_o_metMany], jI E a_o_now 16 f_o_now, jI E a_o_ring 32 f_o_ring, jI E a_o_then 16 f_o_then]) (st1 := fun b1 => [.int b1]) [0] rfl rfl rfl h c_X10_isCard q_X10_isCard m4_1 rfl rfl (Nat.le_of_ble_eq_true rfl) ⟨(Nat.le_of_ble_eq_true rfl), (Nat.le_of_ble_eq_true rfl)⟩ ⟨rfl, rfl⟩ ⟨(Nat.le_of_ble_eq_true rfl), (Nat.le_of_ble_eq_true rfl)⟩ dX10_round_2 rfl (by decide) (fun _ => rfl) (fun _ => rfl) (fun _ => rfl) (fun b1 h => ?_)
  refine j_if_eq (pc := 5) (tgt := 15) dX10_round_5 (by decide) h (fun h => ?_) (fun h => ?_)
  · refine j_iconst (pc := 15) dX10_round_15 ic_m1 ?_
    cases h
    exact j_iret (pc := 16) rfl dX10_round_16 (Nat.le_of_ble_eq_true rfl) (Nat.le_of_ble_eq_true rfl) (jd_i rfl rfl)
  · refine j_iload_n (pc := 8) 2 dX10_round_8 rfl rfl ?_
    refine j_S0 (pc := 9) (Kc := K_X10_isKind) (As := [.int x2]) (rest := []) h c_X10_isKind q_X10_isKind m4_25 rfl rfl (Nat.le_of_ble_eq_true rfl) ⟨(Nat.le_of_ble_eq_true rfl), (Nat.le_of_ble_eq_true rfl)⟩ ⟨rfl, rfl⟩ ⟨(Nat.le_of_ble_eq_true rfl), (Nat.le_of_ble_eq_true rfl)⟩ dX10_round_9 (fun b2 h => ?_)
    refine j_if_ne (pc := 12) (tgt := 17) dX10_round_12 (by decide) h (fun h => ?_) (fun h => ?_)
    · refine j_aload_n (pc := 17) 0 dX10_round_17 rfl rfl ?_
      refine j_get (pc := 18) (v := .ref a_o_now) 0 20 rfl rfl (Nat.le_of_ble_eq_true rfl) iwX10 m3_124 rfl dX10_round_18 ?_
      refine j_S (pc := 21) (Kc := K_X10_lies) (As := [.ref a_o_now]) (rest := []) (wc := [jI E a_o_now 16 f_o_now]) (w' := fun b3 => [jO a_o 7 [.int v_o_cards, .ref a_o_colour, .int w_o_dealMany, .ref a_o_deal, .ref a_o_st, .int w_o_acts, .ref a_o_was, .int w_o_keeps, .ref a_o_kept, .int w_o_seens, .ref a_o_seen, .ref a_o_text, .int w_o_texted, .int w_o_at, .ref a_o_told, .int w_o_isBegun, .int w_o_readCards, .ref a_o_readColour, .int w_o_readDeals, .ref a_o_readDeal, .ref a_o_now, .ref a_o_then, .ref a_o_ring, .ref a_o_goes, .ref a_o_far, .ref a_o_met, .int w_o_metMany], jI E a_o_now 16 b3, jI E a_o_ring 32 f_o_ring, jI E a_o_then 16 f_o_then]) (st1 := fun b3 => []) [1] h c_X10_lies q_X10_lies m3_101 rfl rfl (Nat.le_of_ble_eq_true rfl) ⟨(Nat.le_of_ble_eq_true rfl), (Nat.le_of_ble_eq_true rfl)⟩ ⟨rfl, rfl⟩ ⟨(Nat.le_of_ble_eq_true rfl), (Nat.le_of_ble_eq_true rfl)⟩ dX10_round_21 rfl (by decide) (fun _ => rfl) (fun _ => rfl) (fun _ => rfl) (fun b3 h => ?_)
      refine j_iconst (pc := 24) dX10_round_24 ic_0 ?_
      refine j_istore_n (pc := 25) (lv' := [(3, .int (0 : Int32)), (0, .ref a_o), (1, .int x1), (2, .int x2)]) dX10_round_25 rfl (Nat.le_of_ble_eq_true rfl) rfl ?_
      refine j_iconst (pc := 26) dX10_round_26 ic_1 ?_
      refine j_istore (pc := 27) (lv' := [(4, .int (1 : Int32)), (3, .int (0 : Int32)), (0, .ref a_o), (1, .int x1), (2, .int x2)]) dX10_round_27 (Nat.le_of_ble_eq_true rfl) rfl ?_
      exact j_sub (lv' := [(0, .ref a_o), (1, .int x1), (2, .int x2), (3, .int (0 : Int32)), (4, .int (1 : Int32))]) [2, 3, 4, 1, 0] rfl (w_X10_round_29 _ _ _ _ _ _ u h)
    · refine j_iconst (pc := 15) dX10_round_15 ic_m1 ?_
      cases h
      exact j_iret (pc := 16) rfl dX10_round_16 (Nat.le_of_ble_eq_true rfl) (Nat.le_of_ble_eq_true rfl) (jd_i rfl rfl)
set_option maxRecDepth 20000 in
theorem w_X10_rounds_58 {l : Launch} {E : jE} {F : Nat} {x1 : Int32} {v_o_cards : Int32} {a_o a_o_colour a_o_deal a_o_st a_o_was a_o_kept a_o_seen a_o_text a_o_told a_o_readColour a_o_readDeal a_o_now a_o_then a_o_ring a_o_goes a_o_far a_o_met : Nat} {w_o_dealMany : Int32} {w_o_acts : Int32} {w_o_keeps : Int32} {w_o_seens : Int32} {w_o_texted : Int32} {w_o_at : Int32} {w_o_isBegun : Int32} {w_o_readCards : Int32} {w_o_readDeals : Int32} {w_o_metMany : Int32} {k_28 : Int32 → Int32 → Int32 → (Nat → Int32) → (Nat → Int32) → (Nat → Int32) → Option (Int32 × (Nat → Int32) × (Nat → Int32) × (Nat → Int32))} (hk_28 : ∀ (x2 : Int32) (x3 : Int32) (x4 : Int32) (f_o_now : Nat → Int32) (f_o_ring : Nat → Int32) (f_o_then : Nat → Int32) (u : Int32 × (Nat → Int32) × (Nat → Int32) × (Nat → Int32)), k_28 x2 x3 x4 f_o_now f_o_ring f_o_then = some u → jT l E K_X10_rounds 0 0 28 [(0, .ref a_o), (2, .int x2), (3, .int x3), (4, .int x4)] [] [jO a_o 7 [.int v_o_cards, .ref a_o_colour, .int w_o_dealMany, .ref a_o_deal, .ref a_o_st, .int w_o_acts, .ref a_o_was, .int w_o_keeps, .ref a_o_kept, .int w_o_seens, .ref a_o_seen, .ref a_o_text, .int w_o_texted, .int w_o_at, .ref a_o_told, .int w_o_isBegun, .int w_o_readCards, .ref a_o_readColour, .int w_o_readDeals, .ref a_o_readDeal, .ref a_o_now, .ref a_o_then, .ref a_o_ring, .ref a_o_goes, .ref a_o_far, .ref a_o_met, .int w_o_metMany], jI E a_o_now 16 f_o_now, jI E a_o_ring 32 f_o_ring, jI E a_o_then 16 f_o_then] (jd (some (.int u.1)) [jO a_o 7 [.int v_o_cards, .ref a_o_colour, .int w_o_dealMany, .ref a_o_deal, .ref a_o_st, .int w_o_acts, .ref a_o_was, .int w_o_keeps, .ref a_o_kept, .int w_o_seens, .ref a_o_seen, .ref a_o_text, .int w_o_texted, .int w_o_at, .ref a_o_told, .int w_o_isBegun, .int w_o_readCards, .ref a_o_readColour, .int w_o_readDeals, .ref a_o_readDeal, .ref a_o_now, .ref a_o_then, .ref a_o_ring, .ref a_o_goes, .ref a_o_far, .ref a_o_met, .int w_o_metMany], jI E a_o_now 16 u.2.1, jI E a_o_ring 32 u.2.2.1, jI E a_o_then 16 u.2.2.2])) : ∀ (n : Nat) (x2 : Int32) (x3 : Int32) (x4 : Int32) (x5 : Int32) (f_o_now : Nat → Int32) (f_o_ring : Nat → Int32) (f_o_then : Nat → Int32) (u : Int32 × (Nat → Int32) × (Nat → Int32) × (Nat → Int32)), g_X10_rounds_58 F x1 v_o_cards k_28 n x2 x3 x4 x5 f_o_now f_o_ring f_o_then = some u → jT l E K_X10_rounds 0 0 58 [(0, .ref a_o), (2, .int x2), (3, .int x3), (4, .int x4), (5, .int x5)] [] [jO a_o 7 [.int v_o_cards, .ref a_o_colour, .int w_o_dealMany, .ref a_o_deal, .ref a_o_st, .int w_o_acts, .ref a_o_was, .int w_o_keeps, .ref a_o_kept, .int w_o_seens, .ref a_o_seen, .ref a_o_text, .int w_o_texted, .int w_o_at, .ref a_o_told, .int w_o_isBegun, .int w_o_readCards, .ref a_o_readColour, .int w_o_readDeals, .ref a_o_readDeal, .ref a_o_now, .ref a_o_then, .ref a_o_ring, .ref a_o_goes, .ref a_o_far, .ref a_o_met, .int w_o_metMany], jI E a_o_now 16 f_o_now, jI E a_o_ring 32 f_o_ring, jI E a_o_then 16 f_o_then] (jd (some (.int u.1)) [jO a_o 7 [.int v_o_cards, .ref a_o_colour, .int w_o_dealMany, .ref a_o_deal, .ref a_o_st, .int w_o_acts, .ref a_o_was, .int w_o_keeps, .ref a_o_kept, .int w_o_seens, .ref a_o_seen, .ref a_o_text, .int w_o_texted, .int w_o_at, .ref a_o_told, .int w_o_isBegun, .int w_o_readCards, .ref a_o_readColour, .int w_o_readDeals, .ref a_o_readDeal, .ref a_o_now, .ref a_o_then, .ref a_o_ring, .ref a_o_goes, .ref a_o_far, .ref a_o_met, .int w_o_metMany], jI E a_o_now 16 u.2.1, jI E a_o_ring 32 u.2.2.1, jI E a_o_then 16 u.2.2.2]) := by
  intro n
  induction n with
  | zero =>
    intro x2 x3 x4 x5 f_o_now f_o_ring f_o_then u h
    rw [g_X10_rounds_58] at h
    cases h
  | succ n ih =>
    intro x2 x3 x4 x5 f_o_now f_o_ring f_o_then u h
    rw [g_X10_rounds_58] at h
    refine j_iload_n (pc := 58) 1 dX10_rounds_58 rfl rfl ?_
    refine j_iload (pc := 59) 4 dX10_rounds_59 rfl ?_
    refine j_ishr (pc := 61) dX10_rounds_61 ?_
    refine j_iconst (pc := 62) dX10_rounds_62 ic_1 ?_
    refine j_iand (pc := 63) dX10_rounds_63 ?_
    refine j_if_ne (pc := 64) (tgt := 86) dX10_rounds_64 (by decide) h (fun h => ?_) (fun h => ?_)
    · refine j_iinc (pc := 86) (j := 3) (lv' := [(4, .int (x4 + (1 : Int32))), (0, .ref a_o), (2, .int x2), (3, .int x3), (5, .int x5)]) dX10_rounds_86 rfl (congrArg (fun z => x4 + z) ic_1) (Nat.le_of_ble_eq_true rfl) rfl ?_
      refine j_goto (pc := 89) (tgt := 28) dX10_rounds_89 (by decide) ?_
      exact j_sub (lv' := [(0, .ref a_o), (2, .int x2), (3, .int x3), (4, .int (x4 + (1 : Int32)))]) [1, 2, 3, 0] rfl (hk_28 _ _ _ _ _ _ u h)
    · refine j_iload_n (pc := 67) 1 dX10_rounds_67 rfl rfl ?_
      refine j_iconst (pc := 68) dX10_rounds_68 ic_1 ?_
      refine j_iload (pc := 69) 4 dX10_rounds_69 rfl ?_
      refine j_ishl (pc := 71) dX10_rounds_71 ?_
      refine j_ior (pc := 72) dX10_rounds_72 ?_
      refine j_istore_n (pc := 73) (lv' := [(2, .int (x2 ||| (jshl (1 : Int32) x5))), (0, .ref a_o), (3, .int x3), (4, .int x4), (5, .int x5)]) dX10_rounds_73 rfl (Nat.le_of_ble_eq_true rfl) rfl ?_
      refine j_aload_n (pc := 74) 1 dX10_rounds_74 rfl rfl ?_
      refine j_get (pc := 75) (v := .ref a_o_now) 0 20 rfl rfl (Nat.le_of_ble_eq_true rfl) iwX10 m3_124 rfl dX10_rounds_75 ?_
      refine j_iload (pc := 78) 4 dX10_rounds_78 rfl ?_
      refine j_iald (pc := 80) 1 rfl dX10_rounds_80 h (fun h => ?_)
      refine j_istore (pc := 81) (lv' := [(5, .int (f_o_now x5.toNatClampNeg)), (2, .int (x2 ||| (jshl (1 : Int32) x5))), (0, .ref a_o), (3, .int x3), (4, .int x4)]) dX10_rounds_81 (Nat.le_of_ble_eq_true rfl) rfl ?_
      refine j_goto (pc := 83) (tgt := 58) dX10_rounds_83 (by decide) ?_
      exact j_sub (lv' := [(0, .ref a_o), (2, .int (x2 ||| (jshl (1 : Int32) x5))), (3, .int x3), (4, .int x4), (5, .int (f_o_now x5.toNatClampNeg))]) [2, 1, 3, 4, 0] rfl (ih _ _ _ _ _ _ _ u h)
set_option maxRecDepth 20000 in
theorem w_X10_rounds_28 {l : Launch} {E : jE} {F : Nat} {x1 : Int32} {v_o_cards : Int32} {a_o a_o_colour a_o_deal a_o_st a_o_was a_o_kept a_o_seen a_o_text a_o_told a_o_readColour a_o_readDeal a_o_now a_o_then a_o_ring a_o_goes a_o_far a_o_met : Nat} {w_o_dealMany : Int32} {w_o_acts : Int32} {w_o_keeps : Int32} {w_o_seens : Int32} {w_o_texted : Int32} {w_o_at : Int32} {w_o_isBegun : Int32} {w_o_readCards : Int32} {w_o_readDeals : Int32} {w_o_metMany : Int32} : ∀ (n : Nat) (x2 : Int32) (x3 : Int32) (x4 : Int32) (f_o_now : Nat → Int32) (f_o_ring : Nat → Int32) (f_o_then : Nat → Int32) (u : Int32 × (Nat → Int32) × (Nat → Int32) × (Nat → Int32)), g_X10_rounds_28 F x1 v_o_cards n x2 x3 x4 f_o_now f_o_ring f_o_then = some u → jT l E K_X10_rounds 0 0 28 [(0, .ref a_o), (2, .int x2), (3, .int x3), (4, .int x4)] [] [jO a_o 7 [.int v_o_cards, .ref a_o_colour, .int w_o_dealMany, .ref a_o_deal, .ref a_o_st, .int w_o_acts, .ref a_o_was, .int w_o_keeps, .ref a_o_kept, .int w_o_seens, .ref a_o_seen, .ref a_o_text, .int w_o_texted, .int w_o_at, .ref a_o_told, .int w_o_isBegun, .int w_o_readCards, .ref a_o_readColour, .int w_o_readDeals, .ref a_o_readDeal, .ref a_o_now, .ref a_o_then, .ref a_o_ring, .ref a_o_goes, .ref a_o_far, .ref a_o_met, .int w_o_metMany], jI E a_o_now 16 f_o_now, jI E a_o_ring 32 f_o_ring, jI E a_o_then 16 f_o_then] (jd (some (.int u.1)) [jO a_o 7 [.int v_o_cards, .ref a_o_colour, .int w_o_dealMany, .ref a_o_deal, .ref a_o_st, .int w_o_acts, .ref a_o_was, .int w_o_keeps, .ref a_o_kept, .int w_o_seens, .ref a_o_seen, .ref a_o_text, .int w_o_texted, .int w_o_at, .ref a_o_told, .int w_o_isBegun, .int w_o_readCards, .ref a_o_readColour, .int w_o_readDeals, .ref a_o_readDeal, .ref a_o_now, .ref a_o_then, .ref a_o_ring, .ref a_o_goes, .ref a_o_far, .ref a_o_met, .int w_o_metMany], jI E a_o_now 16 u.2.1, jI E a_o_ring 32 u.2.2.1, jI E a_o_then 16 u.2.2.2]) := by
  intro n
  induction n with
  | zero =>
    intro x2 x3 x4 f_o_now f_o_ring f_o_then u h
    rw [g_X10_rounds_28] at h
    cases h
  | succ n ih =>
    intro x2 x3 x4 f_o_now f_o_ring f_o_then u h
    rw [g_X10_rounds_28] at h
    refine j_iload (pc := 28) 3 dX10_rounds_28 rfl ?_
    refine j_aload_n (pc := 30) 0 dX10_rounds_30 rfl rfl ?_
    refine j_get (pc := 31) (v := .int v_o_cards) 0 0 rfl rfl (Nat.le_of_ble_eq_true rfl) iwX10 m3_104 rfl dX10_rounds_31 ?_
    refine j_icmp_ge (pc := 34) (tgt := 92) dX10_rounds_34 (by decide) h (fun h => ?_) (fun h => ?_)
    · refine j_iload_n (pc := 92) 2 dX10_rounds_92 rfl rfl ?_
      cases h
      exact j_iret (pc := 93) rfl dX10_rounds_93 (Nat.le_of_ble_eq_true rfl) (Nat.le_of_ble_eq_true rfl) (jd_i rfl rfl)
    · refine j_iload_n (pc := 37) 2 dX10_rounds_37 rfl rfl ?_
      refine j_iload_n (pc := 38) 1 dX10_rounds_38 rfl rfl ?_
      refine j_iload (pc := 39) 3 dX10_rounds_39 rfl ?_
      refine j_ishr (pc := 41) dX10_rounds_41 ?_
      refine j_iconst (pc := 42) dX10_rounds_42 ic_1 ?_
      refine j_iand (pc := 43) dX10_rounds_43 ?_
      refine j_if_ne (pc := 44) (tgt := 51) dX10_rounds_44 (by decide) h (fun h => ?_) (fun h => ?_)
      · refine j_iconst (pc := 51) dX10_rounds_51 ic_0 ?_
        refine j_iadd (pc := 52) dX10_rounds_52 ?_
        refine j_istore_n (pc := 53) (lv' := [(3, .int (x3 + (0 : Int32))), (0, .ref a_o), (2, .int x2), (4, .int x4)]) dX10_rounds_53 rfl (Nat.le_of_ble_eq_true rfl) rfl ?_
        refine j_iload (pc := 54) 3 dX10_rounds_54 rfl ?_
        refine j_istore (pc := 56) (lv' := [(5, .int x4), (3, .int (x3 + (0 : Int32))), (0, .ref a_o), (2, .int x2), (4, .int x4)]) dX10_rounds_56 (Nat.le_of_ble_eq_true rfl) rfl ?_
        exact j_sub (lv' := [(0, .ref a_o), (2, .int x2), (3, .int (x3 + (0 : Int32))), (4, .int x4), (5, .int x4)]) [2, 3, 1, 4, 0] rfl (w_X10_rounds_58 ih _ _ _ _ _ _ _ _ u h)
      · refine j_iconst (pc := 47) dX10_rounds_47 ic_1 ?_
        refine j_goto (pc := 48) (tgt := 52) dX10_rounds_48 (by decide) ?_
        refine j_iadd (pc := 52) dX10_rounds_52 ?_
        refine j_istore_n (pc := 53) (lv' := [(3, .int (x3 + (1 : Int32))), (0, .ref a_o), (2, .int x2), (4, .int x4)]) dX10_rounds_53 rfl (Nat.le_of_ble_eq_true rfl) rfl ?_
        refine j_iload (pc := 54) 3 dX10_rounds_54 rfl ?_
        refine j_istore (pc := 56) (lv' := [(5, .int x4), (3, .int (x3 + (1 : Int32))), (0, .ref a_o), (2, .int x2), (4, .int x4)]) dX10_rounds_56 (Nat.le_of_ble_eq_true rfl) rfl ?_
        exact j_sub (lv' := [(0, .ref a_o), (2, .int x2), (3, .int (x3 + (1 : Int32))), (4, .int x4), (5, .int x4)]) [2, 3, 1, 4, 0] rfl (w_X10_rounds_58 ih _ _ _ _ _ _ _ _ u h)
set_option maxRecDepth 20000 in
theorem c_X10_rounds {l : Launch} {E : jE} {F : Nat} {x1 : Int32} {v_o_cards : Int32} {a_o a_o_colour a_o_deal a_o_st a_o_was a_o_kept a_o_seen a_o_text a_o_told a_o_readColour a_o_readDeal a_o_now a_o_then a_o_ring a_o_goes a_o_far a_o_met : Nat} {w_o_dealMany : Int32} {w_o_acts : Int32} {w_o_keeps : Int32} {w_o_seens : Int32} {w_o_texted : Int32} {w_o_at : Int32} {w_o_isBegun : Int32} {w_o_readCards : Int32} {w_o_readDeals : Int32} {w_o_metMany : Int32} {f_o_now : Nat → Int32} {f_o_ring : Nat → Int32} {f_o_then : Nat → Int32} : ∀ u : Int32 × (Nat → Int32) × (Nat → Int32) × (Nat → Int32), f_X10_rounds F x1 v_o_cards f_o_now f_o_ring f_o_then = some u → jM l E K_X10_rounds [.ref a_o, .int x1] [jO a_o 7 [.int v_o_cards, .ref a_o_colour, .int w_o_dealMany, .ref a_o_deal, .ref a_o_st, .int w_o_acts, .ref a_o_was, .int w_o_keeps, .ref a_o_kept, .int w_o_seens, .ref a_o_seen, .ref a_o_text, .int w_o_texted, .int w_o_at, .ref a_o_told, .int w_o_isBegun, .int w_o_readCards, .ref a_o_readColour, .int w_o_readDeals, .ref a_o_readDeal, .ref a_o_now, .ref a_o_then, .ref a_o_ring, .ref a_o_goes, .ref a_o_far, .ref a_o_met, .int w_o_metMany], jI E a_o_now 16 f_o_now, jI E a_o_ring 32 f_o_ring, jI E a_o_then 16 f_o_then] (jd (some (.int u.1)) [jO a_o 7 [.int v_o_cards, .ref a_o_colour, .int w_o_dealMany, .ref a_o_deal, .ref a_o_st, .int w_o_acts, .ref a_o_was, .int w_o_keeps, .ref a_o_kept, .int w_o_seens, .ref a_o_seen, .ref a_o_text, .int w_o_texted, .int w_o_at, .ref a_o_told, .int w_o_isBegun, .int w_o_readCards, .ref a_o_readColour, .int w_o_readDeals, .ref a_o_readDeal, .ref a_o_now, .ref a_o_then, .ref a_o_ring, .ref a_o_goes, .ref a_o_far, .ref a_o_met, .int w_o_metMany], jI E a_o_now 16 u.2.1, jI E a_o_ring 32 u.2.2.1, jI E a_o_then 16 u.2.2.2]) := by
  intro u h
  unfold f_X10_rounds at h
  refine j_met [(0, .ref a_o), (1, .int x1)] (by decide +kernel) (Nat.le_of_ble_eq_true rfl) rfl ?_
  refine j_iload_n (pc := 0) 1 dX10_rounds_0 rfl rfl ?_
  refine j_S0 (pc := 1) (Kc := K_X10_isKind) (As := [.int x1]) (rest := []) h c_X10_isKind q_X10_isKind m4_25 rfl rfl (Nat.le_of_ble_eq_true rfl) ⟨(Nat.le_of_ble_eq_true rfl), (Nat.le_of_ble_eq_true rfl)⟩ ⟨rfl, rfl⟩ ⟨(Nat.le_of_ble_eq_true rfl), (Nat.le_of_ble_eq_true rfl)⟩ dX10_rounds_1 (fun b1 h => ?_)
  refine j_if_ne (pc := 4) (tgt := 9) dX10_rounds_4 (by decide) h (fun h => ?_) (fun h => ?_)
  · refine j_aload_n (pc := 9) 0 dX10_rounds_9 rfl rfl ?_
    refine j_get (pc := 10) (v := .ref a_o_now) 0 20 rfl rfl (Nat.le_of_ble_eq_true rfl) iwX10 m3_124 rfl dX10_rounds_10 ?_
    refine j_S (pc := 13) (Kc := K_X10_lies) (As := [.ref a_o_now]) (rest := []) (wc := [jI E a_o_now 16 f_o_now]) (w' := fun b2 => [jO a_o 7 [.int v_o_cards, .ref a_o_colour, .int w_o_dealMany, .ref a_o_deal, .ref a_o_st, .int w_o_acts, .ref a_o_was, .int w_o_keeps, .ref a_o_kept, .int w_o_seens, .ref a_o_seen, .ref a_o_text, .int w_o_texted, .int w_o_at, .ref a_o_told, .int w_o_isBegun, .int w_o_readCards, .ref a_o_readColour, .int w_o_readDeals, .ref a_o_readDeal, .ref a_o_now, .ref a_o_then, .ref a_o_ring, .ref a_o_goes, .ref a_o_far, .ref a_o_met, .int w_o_metMany], jI E a_o_now 16 b2, jI E a_o_ring 32 f_o_ring, jI E a_o_then 16 f_o_then]) (st1 := fun b2 => []) [1] h c_X10_lies q_X10_lies m3_101 rfl rfl (Nat.le_of_ble_eq_true rfl) ⟨(Nat.le_of_ble_eq_true rfl), (Nat.le_of_ble_eq_true rfl)⟩ ⟨rfl, rfl⟩ ⟨(Nat.le_of_ble_eq_true rfl), (Nat.le_of_ble_eq_true rfl)⟩ dX10_rounds_13 rfl (by decide) (fun _ => rfl) (fun _ => rfl) (fun _ => rfl) (fun b2 h => ?_)
    refine j_aload_n (pc := 16) 0 dX10_rounds_16 rfl rfl ?_
    refine j_iload_n (pc := 17) 1 dX10_rounds_17 rfl rfl ?_
    refine j_V (pc := 18) (q0 := 0) (Kc := K_X10_acts) (As := [.int x1]) (rest := []) (wc := [jO a_o 7 [.int v_o_cards, .ref a_o_colour, .int w_o_dealMany, .ref a_o_deal, .ref a_o_st, .int w_o_acts, .ref a_o_was, .int w_o_keeps, .ref a_o_kept, .int w_o_seens, .ref a_o_seen, .ref a_o_text, .int w_o_texted, .int w_o_at, .ref a_o_told, .int w_o_isBegun, .int w_o_readCards, .ref a_o_readColour, .int w_o_readDeals, .ref a_o_readDeal, .ref a_o_now, .ref a_o_then, .ref a_o_ring, .ref a_o_goes, .ref a_o_far, .ref a_o_met, .int w_o_metMany], jI E a_o_now 16 b2, jI E a_o_ring 32 f_o_ring, jI E a_o_then 16 f_o_then]) (w' := fun b3 => [jO a_o 7 [.int v_o_cards, .ref a_o_colour, .int w_o_dealMany, .ref a_o_deal, .ref a_o_st, .int w_o_acts, .ref a_o_was, .int w_o_keeps, .ref a_o_kept, .int w_o_seens, .ref a_o_seen, .ref a_o_text, .int w_o_texted, .int w_o_at, .ref a_o_told, .int w_o_isBegun, .int w_o_readCards, .ref a_o_readColour, .int w_o_readDeals, .ref a_o_readDeal, .ref a_o_now, .ref a_o_then, .ref a_o_ring, .ref a_o_goes, .ref a_o_far, .ref a_o_met, .int w_o_metMany], jI E a_o_now 16 b3.1, jI E a_o_ring 32 b3.2.1, jI E a_o_then 16 b3.2.2]) (st1 := fun b3 => []) [0, 1, 2, 3] rfl rfl rfl h c_X10_acts q_X10_acts m4_36 rfl rfl (Nat.le_of_ble_eq_true rfl) ⟨(Nat.le_of_ble_eq_true rfl), (Nat.le_of_ble_eq_true rfl)⟩ ⟨rfl, rfl⟩ ⟨(Nat.le_of_ble_eq_true rfl), (Nat.le_of_ble_eq_true rfl)⟩ dX10_rounds_18 rfl (by decide) (fun _ => rfl) (fun _ => rfl) (fun _ => rfl) (fun b3 h => ?_)
    refine j_iconst (pc := 21) dX10_rounds_21 ic_0 ?_
    refine j_istore_n (pc := 22) (lv' := [(2, .int (0 : Int32)), (0, .ref a_o), (1, .int x1)]) dX10_rounds_22 rfl (Nat.le_of_ble_eq_true rfl) rfl ?_
    refine j_iconst (pc := 23) dX10_rounds_23 ic_0 ?_
    refine j_istore_n (pc := 24) (lv' := [(3, .int (0 : Int32)), (2, .int (0 : Int32)), (0, .ref a_o), (1, .int x1)]) dX10_rounds_24 rfl (Nat.le_of_ble_eq_true rfl) rfl ?_
    refine j_iconst (pc := 25) dX10_rounds_25 ic_0 ?_
    refine j_istore (pc := 26) (lv' := [(4, .int (0 : Int32)), (3, .int (0 : Int32)), (2, .int (0 : Int32)), (0, .ref a_o), (1, .int x1)]) dX10_rounds_26 (Nat.le_of_ble_eq_true rfl) rfl ?_
    exact j_sub (lv' := [(0, .ref a_o), (2, .int (0 : Int32)), (3, .int (0 : Int32)), (4, .int (0 : Int32))]) [3, 2, 1, 0] rfl (w_X10_rounds_28 _ _ _ _ _ _ _ u h)
  · refine j_iconst (pc := 7) dX10_rounds_7 ic_m1 ?_
    cases h
    exact j_iret (pc := 8) rfl dX10_rounds_8 (Nat.le_of_ble_eq_true rfl) (Nat.le_of_ble_eq_true rfl) (jd_i rfl rfl)
set_option maxRecDepth 20000 in
theorem w_X10_findGoes_21 {l : Launch} {E : jE} {F : Nat} {v_o_cards : Int32} {a_o a_o_colour a_o_deal a_o_st a_o_was a_o_kept a_o_seen a_o_text a_o_told a_o_readColour a_o_readDeal a_o_now a_o_then a_o_ring a_o_goes a_o_far a_o_met : Nat} {w_o_dealMany : Int32} {w_o_acts : Int32} {w_o_keeps : Int32} {w_o_seens : Int32} {w_o_texted : Int32} {w_o_at : Int32} {w_o_isBegun : Int32} {w_o_readCards : Int32} {w_o_readDeals : Int32} {w_o_metMany : Int32} {k_2 : Int32 → (Nat → Int32) → (Nat → Int32) → (Nat → Int32) → (Nat → Int32) → Option ((Nat → Int32) × (Nat → Int32) × (Nat → Int32) × (Nat → Int32))} (hk_2 : ∀ (x1 : Int32) (f_o_goes : Nat → Int32) (f_o_now : Nat → Int32) (f_o_ring : Nat → Int32) (f_o_then : Nat → Int32) (u : (Nat → Int32) × (Nat → Int32) × (Nat → Int32) × (Nat → Int32)), k_2 x1 f_o_goes f_o_now f_o_ring f_o_then = some u → jT l E K_X10_findGoes 0 0 2 [(0, .ref a_o), (1, .int x1)] [] [jO a_o 7 [.int v_o_cards, .ref a_o_colour, .int w_o_dealMany, .ref a_o_deal, .ref a_o_st, .int w_o_acts, .ref a_o_was, .int w_o_keeps, .ref a_o_kept, .int w_o_seens, .ref a_o_seen, .ref a_o_text, .int w_o_texted, .int w_o_at, .ref a_o_told, .int w_o_isBegun, .int w_o_readCards, .ref a_o_readColour, .int w_o_readDeals, .ref a_o_readDeal, .ref a_o_now, .ref a_o_then, .ref a_o_ring, .ref a_o_goes, .ref a_o_far, .ref a_o_met, .int w_o_metMany], jI E a_o_goes 32 f_o_goes, jI E a_o_now 16 f_o_now, jI E a_o_ring 32 f_o_ring, jI E a_o_then 16 f_o_then] (jd none [jO a_o 7 [.int v_o_cards, .ref a_o_colour, .int w_o_dealMany, .ref a_o_deal, .ref a_o_st, .int w_o_acts, .ref a_o_was, .int w_o_keeps, .ref a_o_kept, .int w_o_seens, .ref a_o_seen, .ref a_o_text, .int w_o_texted, .int w_o_at, .ref a_o_told, .int w_o_isBegun, .int w_o_readCards, .ref a_o_readColour, .int w_o_readDeals, .ref a_o_readDeal, .ref a_o_now, .ref a_o_then, .ref a_o_ring, .ref a_o_goes, .ref a_o_far, .ref a_o_met, .int w_o_metMany], jI E a_o_goes 32 u.1, jI E a_o_now 16 u.2.1, jI E a_o_ring 32 u.2.2.1, jI E a_o_then 16 u.2.2.2])) : ∀ (n : Nat) (x1 : Int32) (x2 : Int32) (f_o_goes : Nat → Int32) (f_o_now : Nat → Int32) (f_o_ring : Nat → Int32) (f_o_then : Nat → Int32) (u : (Nat → Int32) × (Nat → Int32) × (Nat → Int32) × (Nat → Int32)), g_X10_findGoes_21 F v_o_cards k_2 n x1 x2 f_o_goes f_o_now f_o_ring f_o_then = some u → jT l E K_X10_findGoes 0 0 21 [(0, .ref a_o), (1, .int x1), (2, .int x2)] [] [jO a_o 7 [.int v_o_cards, .ref a_o_colour, .int w_o_dealMany, .ref a_o_deal, .ref a_o_st, .int w_o_acts, .ref a_o_was, .int w_o_keeps, .ref a_o_kept, .int w_o_seens, .ref a_o_seen, .ref a_o_text, .int w_o_texted, .int w_o_at, .ref a_o_told, .int w_o_isBegun, .int w_o_readCards, .ref a_o_readColour, .int w_o_readDeals, .ref a_o_readDeal, .ref a_o_now, .ref a_o_then, .ref a_o_ring, .ref a_o_goes, .ref a_o_far, .ref a_o_met, .int w_o_metMany], jI E a_o_goes 32 f_o_goes, jI E a_o_now 16 f_o_now, jI E a_o_ring 32 f_o_ring, jI E a_o_then 16 f_o_then] (jd none [jO a_o 7 [.int v_o_cards, .ref a_o_colour, .int w_o_dealMany, .ref a_o_deal, .ref a_o_st, .int w_o_acts, .ref a_o_was, .int w_o_keeps, .ref a_o_kept, .int w_o_seens, .ref a_o_seen, .ref a_o_text, .int w_o_texted, .int w_o_at, .ref a_o_told, .int w_o_isBegun, .int w_o_readCards, .ref a_o_readColour, .int w_o_readDeals, .ref a_o_readDeal, .ref a_o_now, .ref a_o_then, .ref a_o_ring, .ref a_o_goes, .ref a_o_far, .ref a_o_met, .int w_o_metMany], jI E a_o_goes 32 u.1, jI E a_o_now 16 u.2.1, jI E a_o_ring 32 u.2.2.1, jI E a_o_then 16 u.2.2.2]) := by
  intro n
  induction n with
  | zero =>
    intro x1 x2 f_o_goes f_o_now f_o_ring f_o_then u h
    rw [g_X10_findGoes_21] at h
    cases h
  | succ n ih =>
    intro x1 x2 f_o_goes f_o_now f_o_ring f_o_then u h
    rw [g_X10_findGoes_21] at h
    refine j_iload_n (pc := 21) 2 dX10_findGoes_21 rfl rfl ?_
    refine j_aload_n (pc := 22) 0 dX10_findGoes_22 rfl rfl ?_
    refine j_get (pc := 23) (v := .int v_o_cards) 0 0 rfl rfl (Nat.le_of_ble_eq_true rfl) iwX10 m3_104 rfl dX10_findGoes_23 ?_
    refine j_icmp_ge (pc := 26) (tgt := 52) dX10_findGoes_26 (by decide) h (fun h => ?_) (fun h => ?_)
    · refine j_iinc (pc := 52) (j := 1) (lv' := [(1, .int (x1 + (1 : Int32))), (0, .ref a_o), (2, .int x2)]) dX10_findGoes_52 rfl (congrArg (fun z => x1 + z) ic_1) (Nat.le_of_ble_eq_true rfl) rfl ?_
      refine j_goto (pc := 55) (tgt := 2) dX10_findGoes_55 (by decide) ?_
      exact j_sub (lv' := [(0, .ref a_o), (1, .int (x1 + (1 : Int32)))]) [1, 0] rfl (hk_2 _ _ _ _ _ u h)
    · refine j_aload_n (pc := 29) 0 dX10_findGoes_29 rfl rfl ?_
      refine j_get (pc := 30) (v := .ref a_o_goes) 0 23 rfl rfl (Nat.le_of_ble_eq_true rfl) iwX10 m3_127 rfl dX10_findGoes_30 ?_
      refine j_bipush (pc := 33) dX10_findGoes_33 bc_16 ?_
      refine j_iload_n (pc := 35) 1 dX10_findGoes_35 rfl rfl ?_
      refine j_imul (pc := 36) dX10_findGoes_36 ?_
      refine j_aload_n (pc := 37) 0 dX10_findGoes_37 rfl rfl ?_
      refine j_get (pc := 38) (v := .ref a_o_now) 0 20 rfl rfl (Nat.le_of_ble_eq_true rfl) iwX10 m3_124 rfl dX10_findGoes_38 ?_
      refine j_iload_n (pc := 41) 2 dX10_findGoes_41 rfl rfl ?_
      refine j_iald (pc := 42) 2 rfl dX10_findGoes_42 h (fun h => ?_)
      refine j_iadd (pc := 43) dX10_findGoes_43 ?_
      refine j_iload_n (pc := 44) 2 dX10_findGoes_44 rfl rfl ?_
      refine j_iast (pc := 45) (w' := [jO a_o 7 [.int v_o_cards, .ref a_o_colour, .int w_o_dealMany, .ref a_o_deal, .ref a_o_st, .int w_o_acts, .ref a_o_was, .int w_o_keeps, .ref a_o_kept, .int w_o_seens, .ref a_o_seen, .ref a_o_text, .int w_o_texted, .int w_o_at, .ref a_o_told, .int w_o_isBegun, .int w_o_readCards, .ref a_o_readColour, .int w_o_readDeals, .ref a_o_readDeal, .ref a_o_now, .ref a_o_then, .ref a_o_ring, .ref a_o_goes, .ref a_o_far, .ref a_o_met, .int w_o_metMany], jI E a_o_goes 32 (upd f_o_goes (((16 : Int32) * x1) + (f_o_now x2.toNatClampNeg)).toNatClampNeg x2), jI E a_o_now 16 f_o_now, jI E a_o_ring 32 f_o_ring, jI E a_o_then 16 f_o_then]) 1 rfl dX10_findGoes_45 h rfl (fun h => ?_)
      refine j_iinc (pc := 46) (j := 2) (lv' := [(2, .int (x2 + (1 : Int32))), (0, .ref a_o), (1, .int x1)]) dX10_findGoes_46 rfl (congrArg (fun z => x2 + z) ic_1) (Nat.le_of_ble_eq_true rfl) rfl ?_
      refine j_goto (pc := 49) (tgt := 21) dX10_findGoes_49 (by decide) ?_
      exact j_sub (lv' := [(0, .ref a_o), (1, .int x1), (2, .int (x2 + (1 : Int32)))]) [1, 2, 0] rfl (ih _ _ _ _ _ _ u h)
set_option maxRecDepth 20000 in
theorem w_X10_findGoes_2 {l : Launch} {E : jE} {F : Nat} {v_o_cards : Int32} {a_o a_o_colour a_o_deal a_o_st a_o_was a_o_kept a_o_seen a_o_text a_o_told a_o_readColour a_o_readDeal a_o_now a_o_then a_o_ring a_o_goes a_o_far a_o_met : Nat} {w_o_dealMany : Int32} {w_o_acts : Int32} {w_o_keeps : Int32} {w_o_seens : Int32} {w_o_texted : Int32} {w_o_at : Int32} {w_o_isBegun : Int32} {w_o_readCards : Int32} {w_o_readDeals : Int32} {w_o_metMany : Int32} : ∀ (n : Nat) (x1 : Int32) (f_o_goes : Nat → Int32) (f_o_now : Nat → Int32) (f_o_ring : Nat → Int32) (f_o_then : Nat → Int32) (u : (Nat → Int32) × (Nat → Int32) × (Nat → Int32) × (Nat → Int32)), g_X10_findGoes_2 F v_o_cards n x1 f_o_goes f_o_now f_o_ring f_o_then = some u → jT l E K_X10_findGoes 0 0 2 [(0, .ref a_o), (1, .int x1)] [] [jO a_o 7 [.int v_o_cards, .ref a_o_colour, .int w_o_dealMany, .ref a_o_deal, .ref a_o_st, .int w_o_acts, .ref a_o_was, .int w_o_keeps, .ref a_o_kept, .int w_o_seens, .ref a_o_seen, .ref a_o_text, .int w_o_texted, .int w_o_at, .ref a_o_told, .int w_o_isBegun, .int w_o_readCards, .ref a_o_readColour, .int w_o_readDeals, .ref a_o_readDeal, .ref a_o_now, .ref a_o_then, .ref a_o_ring, .ref a_o_goes, .ref a_o_far, .ref a_o_met, .int w_o_metMany], jI E a_o_goes 32 f_o_goes, jI E a_o_now 16 f_o_now, jI E a_o_ring 32 f_o_ring, jI E a_o_then 16 f_o_then] (jd none [jO a_o 7 [.int v_o_cards, .ref a_o_colour, .int w_o_dealMany, .ref a_o_deal, .ref a_o_st, .int w_o_acts, .ref a_o_was, .int w_o_keeps, .ref a_o_kept, .int w_o_seens, .ref a_o_seen, .ref a_o_text, .int w_o_texted, .int w_o_at, .ref a_o_told, .int w_o_isBegun, .int w_o_readCards, .ref a_o_readColour, .int w_o_readDeals, .ref a_o_readDeal, .ref a_o_now, .ref a_o_then, .ref a_o_ring, .ref a_o_goes, .ref a_o_far, .ref a_o_met, .int w_o_metMany], jI E a_o_goes 32 u.1, jI E a_o_now 16 u.2.1, jI E a_o_ring 32 u.2.2.1, jI E a_o_then 16 u.2.2.2]) := by
  intro n
  induction n with
  | zero =>
    intro x1 f_o_goes f_o_now f_o_ring f_o_then u h
    rw [g_X10_findGoes_2] at h
    cases h
  | succ n ih =>
    intro x1 f_o_goes f_o_now f_o_ring f_o_then u h
    rw [g_X10_findGoes_2] at h
    refine j_iload_n (pc := 2) 1 dX10_findGoes_2 rfl rfl ?_
    refine j_iconst (pc := 3) dX10_findGoes_3 ic_1 ?_
    refine j_icmp_gt (pc := 4) (tgt := 58) dX10_findGoes_4 (by decide) h (fun h => ?_) (fun h => ?_)
    · cases h
      exact j_vret (pc := 58) rfl dX10_findGoes_58 (Nat.le_of_ble_eq_true rfl) (Nat.le_of_ble_eq_true rfl) (jd_i rfl rfl)
    · refine j_aload_n (pc := 7) 0 dX10_findGoes_7 rfl rfl ?_
      refine j_get (pc := 8) (v := .ref a_o_now) 0 20 rfl rfl (Nat.le_of_ble_eq_true rfl) iwX10 m3_124 rfl dX10_findGoes_8 ?_
      refine j_S (pc := 11) (Kc := K_X10_lies) (As := [.ref a_o_now]) (rest := []) (wc := [jI E a_o_now 16 f_o_now]) (w' := fun b1 => [jO a_o 7 [.int v_o_cards, .ref a_o_colour, .int w_o_dealMany, .ref a_o_deal, .ref a_o_st, .int w_o_acts, .ref a_o_was, .int w_o_keeps, .ref a_o_kept, .int w_o_seens, .ref a_o_seen, .ref a_o_text, .int w_o_texted, .int w_o_at, .ref a_o_told, .int w_o_isBegun, .int w_o_readCards, .ref a_o_readColour, .int w_o_readDeals, .ref a_o_readDeal, .ref a_o_now, .ref a_o_then, .ref a_o_ring, .ref a_o_goes, .ref a_o_far, .ref a_o_met, .int w_o_metMany], jI E a_o_goes 32 f_o_goes, jI E a_o_now 16 b1, jI E a_o_ring 32 f_o_ring, jI E a_o_then 16 f_o_then]) (st1 := fun b1 => []) [2] h c_X10_lies q_X10_lies m3_101 rfl rfl (Nat.le_of_ble_eq_true rfl) ⟨(Nat.le_of_ble_eq_true rfl), (Nat.le_of_ble_eq_true rfl)⟩ ⟨rfl, rfl⟩ ⟨(Nat.le_of_ble_eq_true rfl), (Nat.le_of_ble_eq_true rfl)⟩ dX10_findGoes_11 rfl (by decide) (fun _ => rfl) (fun _ => rfl) (fun _ => rfl) (fun b1 h => ?_)
      refine j_aload_n (pc := 14) 0 dX10_findGoes_14 rfl rfl ?_
      refine j_iload_n (pc := 15) 1 dX10_findGoes_15 rfl rfl ?_
      refine j_V (pc := 16) (q0 := 0) (Kc := K_X10_acts) (As := [.int x1]) (rest := []) (wc := [jO a_o 7 [.int v_o_cards, .ref a_o_colour, .int w_o_dealMany, .ref a_o_deal, .ref a_o_st, .int w_o_acts, .ref a_o_was, .int w_o_keeps, .ref a_o_kept, .int w_o_seens, .ref a_o_seen, .ref a_o_text, .int w_o_texted, .int w_o_at, .ref a_o_told, .int w_o_isBegun, .int w_o_readCards, .ref a_o_readColour, .int w_o_readDeals, .ref a_o_readDeal, .ref a_o_now, .ref a_o_then, .ref a_o_ring, .ref a_o_goes, .ref a_o_far, .ref a_o_met, .int w_o_metMany], jI E a_o_now 16 b1, jI E a_o_ring 32 f_o_ring, jI E a_o_then 16 f_o_then]) (w' := fun b2 => [jO a_o 7 [.int v_o_cards, .ref a_o_colour, .int w_o_dealMany, .ref a_o_deal, .ref a_o_st, .int w_o_acts, .ref a_o_was, .int w_o_keeps, .ref a_o_kept, .int w_o_seens, .ref a_o_seen, .ref a_o_text, .int w_o_texted, .int w_o_at, .ref a_o_told, .int w_o_isBegun, .int w_o_readCards, .ref a_o_readColour, .int w_o_readDeals, .ref a_o_readDeal, .ref a_o_now, .ref a_o_then, .ref a_o_ring, .ref a_o_goes, .ref a_o_far, .ref a_o_met, .int w_o_metMany], jI E a_o_goes 32 f_o_goes, jI E a_o_now 16 b2.1, jI E a_o_ring 32 b2.2.1, jI E a_o_then 16 b2.2.2]) (st1 := fun b2 => []) [0, 2, 3, 4] rfl rfl rfl h c_X10_acts q_X10_acts m4_36 rfl rfl (Nat.le_of_ble_eq_true rfl) ⟨(Nat.le_of_ble_eq_true rfl), (Nat.le_of_ble_eq_true rfl)⟩ ⟨rfl, rfl⟩ ⟨(Nat.le_of_ble_eq_true rfl), (Nat.le_of_ble_eq_true rfl)⟩ dX10_findGoes_16 rfl (by decide) (fun _ => rfl) (fun _ => rfl) (fun _ => rfl) (fun b2 h => ?_)
      refine j_iconst (pc := 19) dX10_findGoes_19 ic_0 ?_
      refine j_istore_n (pc := 20) (lv' := [(2, .int (0 : Int32)), (0, .ref a_o), (1, .int x1)]) dX10_findGoes_20 rfl (Nat.le_of_ble_eq_true rfl) rfl ?_
      exact j_sub (lv' := [(0, .ref a_o), (1, .int x1), (2, .int (0 : Int32))]) [1, 2, 0] rfl (w_X10_findGoes_21 ih _ _ _ _ _ _ _ u h)
set_option maxRecDepth 20000 in
theorem c_X10_findGoes {l : Launch} {E : jE} {F : Nat} {v_o_cards : Int32} {a_o a_o_colour a_o_deal a_o_st a_o_was a_o_kept a_o_seen a_o_text a_o_told a_o_readColour a_o_readDeal a_o_now a_o_then a_o_ring a_o_goes a_o_far a_o_met : Nat} {w_o_dealMany : Int32} {w_o_acts : Int32} {w_o_keeps : Int32} {w_o_seens : Int32} {w_o_texted : Int32} {w_o_at : Int32} {w_o_isBegun : Int32} {w_o_readCards : Int32} {w_o_readDeals : Int32} {w_o_metMany : Int32} {f_o_goes : Nat → Int32} {f_o_now : Nat → Int32} {f_o_ring : Nat → Int32} {f_o_then : Nat → Int32} : ∀ u : (Nat → Int32) × (Nat → Int32) × (Nat → Int32) × (Nat → Int32), f_X10_findGoes F v_o_cards f_o_goes f_o_now f_o_ring f_o_then = some u → jM l E K_X10_findGoes [.ref a_o] [jO a_o 7 [.int v_o_cards, .ref a_o_colour, .int w_o_dealMany, .ref a_o_deal, .ref a_o_st, .int w_o_acts, .ref a_o_was, .int w_o_keeps, .ref a_o_kept, .int w_o_seens, .ref a_o_seen, .ref a_o_text, .int w_o_texted, .int w_o_at, .ref a_o_told, .int w_o_isBegun, .int w_o_readCards, .ref a_o_readColour, .int w_o_readDeals, .ref a_o_readDeal, .ref a_o_now, .ref a_o_then, .ref a_o_ring, .ref a_o_goes, .ref a_o_far, .ref a_o_met, .int w_o_metMany], jI E a_o_goes 32 f_o_goes, jI E a_o_now 16 f_o_now, jI E a_o_ring 32 f_o_ring, jI E a_o_then 16 f_o_then] (jd none [jO a_o 7 [.int v_o_cards, .ref a_o_colour, .int w_o_dealMany, .ref a_o_deal, .ref a_o_st, .int w_o_acts, .ref a_o_was, .int w_o_keeps, .ref a_o_kept, .int w_o_seens, .ref a_o_seen, .ref a_o_text, .int w_o_texted, .int w_o_at, .ref a_o_told, .int w_o_isBegun, .int w_o_readCards, .ref a_o_readColour, .int w_o_readDeals, .ref a_o_readDeal, .ref a_o_now, .ref a_o_then, .ref a_o_ring, .ref a_o_goes, .ref a_o_far, .ref a_o_met, .int w_o_metMany], jI E a_o_goes 32 u.1, jI E a_o_now 16 u.2.1, jI E a_o_ring 32 u.2.2.1, jI E a_o_then 16 u.2.2.2]) := by
  intro u h
  unfold f_X10_findGoes at h
  refine j_met [(0, .ref a_o)] (by decide +kernel) (Nat.le_of_ble_eq_true rfl) rfl ?_
  refine j_iconst (pc := 0) dX10_findGoes_0 ic_0 ?_
  refine j_istore_n (pc := 1) (lv' := [(1, .int (0 : Int32)), (0, .ref a_o)]) dX10_findGoes_1 rfl (Nat.le_of_ble_eq_true rfl) rfl ?_
  exact j_sub (lv' := [(0, .ref a_o), (1, .int (0 : Int32))]) [1, 0] rfl (w_X10_findGoes_2 _ _ _ _ _ _ u h)
set_option maxRecDepth 20000 in
theorem w_X10_findFar_95 {l : Launch} {E : jE} {F : Nat} {x1 : Int32} {v_o_cards : Int32} {a_o a_o_colour a_o_deal a_o_st a_o_was a_o_kept a_o_seen a_o_text a_o_told a_o_readColour a_o_readDeal a_o_now a_o_then a_o_ring a_o_goes a_o_far a_o_met : Nat} {w_o_dealMany : Int32} {w_o_acts : Int32} {w_o_keeps : Int32} {w_o_seens : Int32} {w_o_texted : Int32} {w_o_at : Int32} {w_o_isBegun : Int32} {w_o_readCards : Int32} {w_o_readDeals : Int32} {w_o_metMany : Int32} {k_37 : Int32 → (Nat → Int32) → (Nat → Int32) → (Nat → Int32) → (Nat → Int32) → (Nat → Int32) → Option ((Nat → Int32) × (Nat → Int32) × (Nat → Int32) × (Nat → Int32) × (Nat → Int32))} {k_45 : Int32 → Int32 → (Nat → Int32) → (Nat → Int32) → (Nat → Int32) → (Nat → Int32) → (Nat → Int32) → Option ((Nat → Int32) × (Nat → Int32) × (Nat → Int32) × (Nat → Int32) × (Nat → Int32))} (hk_37 : ∀ (x2 : Int32) (f_o_far : Nat → Int32) (f_o_goes : Nat → Int32) (f_o_now : Nat → Int32) (f_o_ring : Nat → Int32) (f_o_then : Nat → Int32) (u : (Nat → Int32) × (Nat → Int32) × (Nat → Int32) × (Nat → Int32) × (Nat → Int32)), k_37 x2 f_o_far f_o_goes f_o_now f_o_ring f_o_then = some u → jT l E K_X10_findFar 0 0 37 [(0, .ref a_o), (2, .int x2)] [] [jO a_o 7 [.int v_o_cards, .ref a_o_colour, .int w_o_dealMany, .ref a_o_deal, .ref a_o_st, .int w_o_acts, .ref a_o_was, .int w_o_keeps, .ref a_o_kept, .int w_o_seens, .ref a_o_seen, .ref a_o_text, .int w_o_texted, .int w_o_at, .ref a_o_told, .int w_o_isBegun, .int w_o_readCards, .ref a_o_readColour, .int w_o_readDeals, .ref a_o_readDeal, .ref a_o_now, .ref a_o_then, .ref a_o_ring, .ref a_o_goes, .ref a_o_far, .ref a_o_met, .int w_o_metMany], jI E a_o_far 16 f_o_far, jI E a_o_goes 32 f_o_goes, jI E a_o_now 16 f_o_now, jI E a_o_ring 32 f_o_ring, jI E a_o_then 16 f_o_then] (jd none [jO a_o 7 [.int v_o_cards, .ref a_o_colour, .int w_o_dealMany, .ref a_o_deal, .ref a_o_st, .int w_o_acts, .ref a_o_was, .int w_o_keeps, .ref a_o_kept, .int w_o_seens, .ref a_o_seen, .ref a_o_text, .int w_o_texted, .int w_o_at, .ref a_o_told, .int w_o_isBegun, .int w_o_readCards, .ref a_o_readColour, .int w_o_readDeals, .ref a_o_readDeal, .ref a_o_now, .ref a_o_then, .ref a_o_ring, .ref a_o_goes, .ref a_o_far, .ref a_o_met, .int w_o_metMany], jI E a_o_far 16 u.1, jI E a_o_goes 32 u.2.1, jI E a_o_now 16 u.2.2.1, jI E a_o_ring 32 u.2.2.2.1, jI E a_o_then 16 u.2.2.2.2])) (hk_45 : ∀ (x2 : Int32) (x3 : Int32) (f_o_far : Nat → Int32) (f_o_goes : Nat → Int32) (f_o_now : Nat → Int32) (f_o_ring : Nat → Int32) (f_o_then : Nat → Int32) (u : (Nat → Int32) × (Nat → Int32) × (Nat → Int32) × (Nat → Int32) × (Nat → Int32)), k_45 x2 x3 f_o_far f_o_goes f_o_now f_o_ring f_o_then = some u → jT l E K_X10_findFar 0 0 45 [(0, .ref a_o), (2, .int x2), (3, .int x3)] [] [jO a_o 7 [.int v_o_cards, .ref a_o_colour, .int w_o_dealMany, .ref a_o_deal, .ref a_o_st, .int w_o_acts, .ref a_o_was, .int w_o_keeps, .ref a_o_kept, .int w_o_seens, .ref a_o_seen, .ref a_o_text, .int w_o_texted, .int w_o_at, .ref a_o_told, .int w_o_isBegun, .int w_o_readCards, .ref a_o_readColour, .int w_o_readDeals, .ref a_o_readDeal, .ref a_o_now, .ref a_o_then, .ref a_o_ring, .ref a_o_goes, .ref a_o_far, .ref a_o_met, .int w_o_metMany], jI E a_o_far 16 f_o_far, jI E a_o_goes 32 f_o_goes, jI E a_o_now 16 f_o_now, jI E a_o_ring 32 f_o_ring, jI E a_o_then 16 f_o_then] (jd none [jO a_o 7 [.int v_o_cards, .ref a_o_colour, .int w_o_dealMany, .ref a_o_deal, .ref a_o_st, .int w_o_acts, .ref a_o_was, .int w_o_keeps, .ref a_o_kept, .int w_o_seens, .ref a_o_seen, .ref a_o_text, .int w_o_texted, .int w_o_at, .ref a_o_told, .int w_o_isBegun, .int w_o_readCards, .ref a_o_readColour, .int w_o_readDeals, .ref a_o_readDeal, .ref a_o_now, .ref a_o_then, .ref a_o_ring, .ref a_o_goes, .ref a_o_far, .ref a_o_met, .int w_o_metMany], jI E a_o_far 16 u.1, jI E a_o_goes 32 u.2.1, jI E a_o_now 16 u.2.2.1, jI E a_o_ring 32 u.2.2.2.1, jI E a_o_then 16 u.2.2.2.2])) : ∀ (x2 : Int32) (x3 : Int32) (s0 : Int32) (f_o_far : Nat → Int32) (f_o_goes : Nat → Int32) (f_o_now : Nat → Int32) (f_o_ring : Nat → Int32) (f_o_then : Nat → Int32) (u : (Nat → Int32) × (Nat → Int32) × (Nat → Int32) × (Nat → Int32) × (Nat → Int32)), g_X10_findFar_95 F x1 v_o_cards k_37 k_45 x2 x3 s0 f_o_far f_o_goes f_o_now f_o_ring f_o_then = some u → jT l E K_X10_findFar 0 0 95 [(0, .ref a_o), (2, .int x2), (3, .int x3)] [.int s0] [jO a_o 7 [.int v_o_cards, .ref a_o_colour, .int w_o_dealMany, .ref a_o_deal, .ref a_o_st, .int w_o_acts, .ref a_o_was, .int w_o_keeps, .ref a_o_kept, .int w_o_seens, .ref a_o_seen, .ref a_o_text, .int w_o_texted, .int w_o_at, .ref a_o_told, .int w_o_isBegun, .int w_o_readCards, .ref a_o_readColour, .int w_o_readDeals, .ref a_o_readDeal, .ref a_o_now, .ref a_o_then, .ref a_o_ring, .ref a_o_goes, .ref a_o_far, .ref a_o_met, .int w_o_metMany], jI E a_o_far 16 f_o_far, jI E a_o_goes 32 f_o_goes, jI E a_o_now 16 f_o_now, jI E a_o_ring 32 f_o_ring, jI E a_o_then 16 f_o_then] (jd none [jO a_o 7 [.int v_o_cards, .ref a_o_colour, .int w_o_dealMany, .ref a_o_deal, .ref a_o_st, .int w_o_acts, .ref a_o_was, .int w_o_keeps, .ref a_o_kept, .int w_o_seens, .ref a_o_seen, .ref a_o_text, .int w_o_texted, .int w_o_at, .ref a_o_told, .int w_o_isBegun, .int w_o_readCards, .ref a_o_readColour, .int w_o_readDeals, .ref a_o_readDeal, .ref a_o_now, .ref a_o_then, .ref a_o_ring, .ref a_o_goes, .ref a_o_far, .ref a_o_met, .int w_o_metMany], jI E a_o_far 16 u.1, jI E a_o_goes 32 u.2.1, jI E a_o_now 16 u.2.2.1, jI E a_o_ring 32 u.2.2.2.1, jI E a_o_then 16 u.2.2.2.2]) := by
  intro x2 x3 s0 f_o_far f_o_goes f_o_now f_o_ring f_o_then u h
  unfold g_X10_findFar_95 at h
  refine j_istore (pc := 95) (lv' := [(4, .int s0), (0, .ref a_o), (2, .int x2), (3, .int x3)]) dX10_findFar_95 (Nat.le_of_ble_eq_true rfl) rfl ?_
  refine j_aload_n (pc := 97) 1 dX10_findFar_97 rfl rfl ?_
  refine j_get (pc := 98) (v := .ref a_o_far) 0 24 rfl rfl (Nat.le_of_ble_eq_true rfl) iwX10 m3_128 rfl dX10_findFar_98 ?_
  refine j_iload_n (pc := 101) 3 dX10_findFar_101 rfl rfl ?_
  refine j_aload_n (pc := 102) 1 dX10_findFar_102 rfl rfl ?_
  refine j_get (pc := 103) (v := .ref a_o_far) 0 24 rfl rfl (Nat.le_of_ble_eq_true rfl) iwX10 m3_128 rfl dX10_findFar_103 ?_
  refine j_iload_n (pc := 106) 3 dX10_findFar_106 rfl rfl ?_
  refine j_iald (pc := 107) 1 rfl dX10_findFar_107 h (fun h => ?_)
  refine j_if_ge (pc := 108) (tgt := 120) dX10_findFar_108 (by decide) h (fun h => ?_) (fun h => ?_)
  · refine j_aload_n (pc := 120) 1 dX10_findFar_120 rfl rfl ?_
    refine j_get (pc := 121) (v := .ref a_o_far) 0 24 rfl rfl (Nat.le_of_ble_eq_true rfl) iwX10 m3_128 rfl dX10_findFar_121 ?_
    refine j_iload_n (pc := 124) 3 dX10_findFar_124 rfl rfl ?_
    refine j_iald (pc := 125) 1 rfl dX10_findFar_125 h (fun h => ?_)
    refine j_iast (pc := 126) (w' := [jO a_o 7 [.int v_o_cards, .ref a_o_colour, .int w_o_dealMany, .ref a_o_deal, .ref a_o_st, .int w_o_acts, .ref a_o_was, .int w_o_keeps, .ref a_o_kept, .int w_o_seens, .ref a_o_seen, .ref a_o_text, .int w_o_texted, .int w_o_at, .ref a_o_told, .int w_o_isBegun, .int w_o_readCards, .ref a_o_readColour, .int w_o_readDeals, .ref a_o_readDeal, .ref a_o_now, .ref a_o_then, .ref a_o_ring, .ref a_o_goes, .ref a_o_far, .ref a_o_met, .int w_o_metMany], jI E a_o_far 16 (upd f_o_far x3.toNatClampNeg (f_o_far x3.toNatClampNeg)), jI E a_o_goes 32 f_o_goes, jI E a_o_now 16 f_o_now, jI E a_o_ring 32 f_o_ring, jI E a_o_then 16 f_o_then]) 1 rfl dX10_findFar_126 h rfl (fun h => ?_)
    refine j_iinc (pc := 127) (j := 3) (lv' := [(3, .int (x3 + (1 : Int32))), (4, .int s0), (0, .ref a_o), (2, .int x2)]) dX10_findFar_127 rfl (congrArg (fun z => x3 + z) ic_1) (Nat.le_of_ble_eq_true rfl) rfl ?_
    refine j_goto (pc := 130) (tgt := 45) dX10_findFar_130 (by decide) ?_
    exact j_sub (lv' := [(0, .ref a_o), (2, .int x2), (3, .int (x3 + (1 : Int32)))]) [2, 3, 0] rfl (hk_45 _ _ _ _ _ _ _ u h)
  · refine j_iload (pc := 111) 0 dX10_findFar_111 rfl ?_
    refine j_if_eq (pc := 113) (tgt := 120) dX10_findFar_113 (by decide) h (fun h => ?_) (fun h => ?_)
    · refine j_aload_n (pc := 120) 1 dX10_findFar_120 rfl rfl ?_
      refine j_get (pc := 121) (v := .ref a_o_far) 0 24 rfl rfl (Nat.le_of_ble_eq_true rfl) iwX10 m3_128 rfl dX10_findFar_121 ?_
      refine j_iload_n (pc := 124) 3 dX10_findFar_124 rfl rfl ?_
      refine j_iald (pc := 125) 1 rfl dX10_findFar_125 h (fun h => ?_)
      refine j_iast (pc := 126) (w' := [jO a_o 7 [.int v_o_cards, .ref a_o_colour, .int w_o_dealMany, .ref a_o_deal, .ref a_o_st, .int w_o_acts, .ref a_o_was, .int w_o_keeps, .ref a_o_kept, .int w_o_seens, .ref a_o_seen, .ref a_o_text, .int w_o_texted, .int w_o_at, .ref a_o_told, .int w_o_isBegun, .int w_o_readCards, .ref a_o_readColour, .int w_o_readDeals, .ref a_o_readDeal, .ref a_o_now, .ref a_o_then, .ref a_o_ring, .ref a_o_goes, .ref a_o_far, .ref a_o_met, .int w_o_metMany], jI E a_o_far 16 (upd f_o_far x3.toNatClampNeg (f_o_far x3.toNatClampNeg)), jI E a_o_goes 32 f_o_goes, jI E a_o_now 16 f_o_now, jI E a_o_ring 32 f_o_ring, jI E a_o_then 16 f_o_then]) 1 rfl dX10_findFar_126 h rfl (fun h => ?_)
      refine j_iinc (pc := 127) (j := 3) (lv' := [(3, .int (x3 + (1 : Int32))), (4, .int s0), (0, .ref a_o), (2, .int x2)]) dX10_findFar_127 rfl (congrArg (fun z => x3 + z) ic_1) (Nat.le_of_ble_eq_true rfl) rfl ?_
      refine j_goto (pc := 130) (tgt := 45) dX10_findFar_130 (by decide) ?_
      exact j_sub (lv' := [(0, .ref a_o), (2, .int x2), (3, .int (x3 + (1 : Int32)))]) [2, 3, 0] rfl (hk_45 _ _ _ _ _ _ _ u h)
    · refine j_iload_n (pc := 116) 2 dX10_findFar_116 rfl rfl ?_
      refine j_goto (pc := 117) (tgt := 126) dX10_findFar_117 (by decide) ?_
      refine j_iast (pc := 126) (w' := [jO a_o 7 [.int v_o_cards, .ref a_o_colour, .int w_o_dealMany, .ref a_o_deal, .ref a_o_st, .int w_o_acts, .ref a_o_was, .int w_o_keeps, .ref a_o_kept, .int w_o_seens, .ref a_o_seen, .ref a_o_text, .int w_o_texted, .int w_o_at, .ref a_o_told, .int w_o_isBegun, .int w_o_readCards, .ref a_o_readColour, .int w_o_readDeals, .ref a_o_readDeal, .ref a_o_now, .ref a_o_then, .ref a_o_ring, .ref a_o_goes, .ref a_o_far, .ref a_o_met, .int w_o_metMany], jI E a_o_far 16 (upd f_o_far x3.toNatClampNeg x2), jI E a_o_goes 32 f_o_goes, jI E a_o_now 16 f_o_now, jI E a_o_ring 32 f_o_ring, jI E a_o_then 16 f_o_then]) 1 rfl dX10_findFar_126 h rfl (fun h => ?_)
      refine j_iinc (pc := 127) (j := 3) (lv' := [(3, .int (x3 + (1 : Int32))), (4, .int s0), (0, .ref a_o), (2, .int x2)]) dX10_findFar_127 rfl (congrArg (fun z => x3 + z) ic_1) (Nat.le_of_ble_eq_true rfl) rfl ?_
      refine j_goto (pc := 130) (tgt := 45) dX10_findFar_130 (by decide) ?_
      exact j_sub (lv' := [(0, .ref a_o), (2, .int x2), (3, .int (x3 + (1 : Int32)))]) [2, 3, 0] rfl (hk_45 _ _ _ _ _ _ _ u h)
set_option maxRecDepth 20000 in
theorem w_X10_findFar_45 {l : Launch} {E : jE} {F : Nat} {x1 : Int32} {v_o_cards : Int32} {a_o a_o_colour a_o_deal a_o_st a_o_was a_o_kept a_o_seen a_o_text a_o_told a_o_readColour a_o_readDeal a_o_now a_o_then a_o_ring a_o_goes a_o_far a_o_met : Nat} {w_o_dealMany : Int32} {w_o_acts : Int32} {w_o_keeps : Int32} {w_o_seens : Int32} {w_o_texted : Int32} {w_o_at : Int32} {w_o_isBegun : Int32} {w_o_readCards : Int32} {w_o_readDeals : Int32} {w_o_metMany : Int32} {k_37 : Int32 → (Nat → Int32) → (Nat → Int32) → (Nat → Int32) → (Nat → Int32) → (Nat → Int32) → Option ((Nat → Int32) × (Nat → Int32) × (Nat → Int32) × (Nat → Int32) × (Nat → Int32))} (hk_37 : ∀ (x2 : Int32) (f_o_far : Nat → Int32) (f_o_goes : Nat → Int32) (f_o_now : Nat → Int32) (f_o_ring : Nat → Int32) (f_o_then : Nat → Int32) (u : (Nat → Int32) × (Nat → Int32) × (Nat → Int32) × (Nat → Int32) × (Nat → Int32)), k_37 x2 f_o_far f_o_goes f_o_now f_o_ring f_o_then = some u → jT l E K_X10_findFar 0 0 37 [(0, .ref a_o), (2, .int x2)] [] [jO a_o 7 [.int v_o_cards, .ref a_o_colour, .int w_o_dealMany, .ref a_o_deal, .ref a_o_st, .int w_o_acts, .ref a_o_was, .int w_o_keeps, .ref a_o_kept, .int w_o_seens, .ref a_o_seen, .ref a_o_text, .int w_o_texted, .int w_o_at, .ref a_o_told, .int w_o_isBegun, .int w_o_readCards, .ref a_o_readColour, .int w_o_readDeals, .ref a_o_readDeal, .ref a_o_now, .ref a_o_then, .ref a_o_ring, .ref a_o_goes, .ref a_o_far, .ref a_o_met, .int w_o_metMany], jI E a_o_far 16 f_o_far, jI E a_o_goes 32 f_o_goes, jI E a_o_now 16 f_o_now, jI E a_o_ring 32 f_o_ring, jI E a_o_then 16 f_o_then] (jd none [jO a_o 7 [.int v_o_cards, .ref a_o_colour, .int w_o_dealMany, .ref a_o_deal, .ref a_o_st, .int w_o_acts, .ref a_o_was, .int w_o_keeps, .ref a_o_kept, .int w_o_seens, .ref a_o_seen, .ref a_o_text, .int w_o_texted, .int w_o_at, .ref a_o_told, .int w_o_isBegun, .int w_o_readCards, .ref a_o_readColour, .int w_o_readDeals, .ref a_o_readDeal, .ref a_o_now, .ref a_o_then, .ref a_o_ring, .ref a_o_goes, .ref a_o_far, .ref a_o_met, .int w_o_metMany], jI E a_o_far 16 u.1, jI E a_o_goes 32 u.2.1, jI E a_o_now 16 u.2.2.1, jI E a_o_ring 32 u.2.2.2.1, jI E a_o_then 16 u.2.2.2.2])) : ∀ (n : Nat) (x2 : Int32) (x3 : Int32) (f_o_far : Nat → Int32) (f_o_goes : Nat → Int32) (f_o_now : Nat → Int32) (f_o_ring : Nat → Int32) (f_o_then : Nat → Int32) (u : (Nat → Int32) × (Nat → Int32) × (Nat → Int32) × (Nat → Int32) × (Nat → Int32)), g_X10_findFar_45 F x1 v_o_cards k_37 n x2 x3 f_o_far f_o_goes f_o_now f_o_ring f_o_then = some u → jT l E K_X10_findFar 0 0 45 [(0, .ref a_o), (2, .int x2), (3, .int x3)] [] [jO a_o 7 [.int v_o_cards, .ref a_o_colour, .int w_o_dealMany, .ref a_o_deal, .ref a_o_st, .int w_o_acts, .ref a_o_was, .int w_o_keeps, .ref a_o_kept, .int w_o_seens, .ref a_o_seen, .ref a_o_text, .int w_o_texted, .int w_o_at, .ref a_o_told, .int w_o_isBegun, .int w_o_readCards, .ref a_o_readColour, .int w_o_readDeals, .ref a_o_readDeal, .ref a_o_now, .ref a_o_then, .ref a_o_ring, .ref a_o_goes, .ref a_o_far, .ref a_o_met, .int w_o_metMany], jI E a_o_far 16 f_o_far, jI E a_o_goes 32 f_o_goes, jI E a_o_now 16 f_o_now, jI E a_o_ring 32 f_o_ring, jI E a_o_then 16 f_o_then] (jd none [jO a_o 7 [.int v_o_cards, .ref a_o_colour, .int w_o_dealMany, .ref a_o_deal, .ref a_o_st, .int w_o_acts, .ref a_o_was, .int w_o_keeps, .ref a_o_kept, .int w_o_seens, .ref a_o_seen, .ref a_o_text, .int w_o_texted, .int w_o_at, .ref a_o_told, .int w_o_isBegun, .int w_o_readCards, .ref a_o_readColour, .int w_o_readDeals, .ref a_o_readDeal, .ref a_o_now, .ref a_o_then, .ref a_o_ring, .ref a_o_goes, .ref a_o_far, .ref a_o_met, .int w_o_metMany], jI E a_o_far 16 u.1, jI E a_o_goes 32 u.2.1, jI E a_o_now 16 u.2.2.1, jI E a_o_ring 32 u.2.2.2.1, jI E a_o_then 16 u.2.2.2.2]) := by
  intro n
  induction n with
  | zero =>
    intro x2 x3 f_o_far f_o_goes f_o_now f_o_ring f_o_then u h
    rw [g_X10_findFar_45] at h
    cases h
  | succ n ih =>
    intro x2 x3 f_o_far f_o_goes f_o_now f_o_ring f_o_then u h
    rw [g_X10_findFar_45] at h
    refine j_iload_n (pc := 45) 2 dX10_findFar_45 rfl rfl ?_
    refine j_aload_n (pc := 46) 0 dX10_findFar_46 rfl rfl ?_
    refine j_get (pc := 47) (v := .int v_o_cards) 0 0 rfl rfl (Nat.le_of_ble_eq_true rfl) iwX10 m3_104 rfl dX10_findFar_47 ?_
    refine j_icmp_ge (pc := 50) (tgt := 133) dX10_findFar_50 (by decide) h (fun h => ?_) (fun h => ?_)
    · refine j_iinc (pc := 133) (j := 1) (lv' := [(2, .int (x2 + (1 : Int32))), (0, .ref a_o), (3, .int x3)]) dX10_findFar_133 rfl (congrArg (fun z => x2 + z) ic_1) (Nat.le_of_ble_eq_true rfl) rfl ?_
      refine j_goto (pc := 136) (tgt := 37) dX10_findFar_136 (by decide) ?_
      exact j_sub (lv' := [(0, .ref a_o), (2, .int (x2 + (1 : Int32)))]) [1, 0] rfl (hk_37 _ _ _ _ _ _ u h)
    · refine j_aload_n (pc := 53) 0 dX10_findFar_53 rfl rfl ?_
      refine j_get (pc := 54) (v := .ref a_o_far) 0 24 rfl rfl (Nat.le_of_ble_eq_true rfl) iwX10 m3_128 rfl dX10_findFar_54 ?_
      refine j_aload_n (pc := 57) 0 dX10_findFar_57 rfl rfl ?_
      refine j_get (pc := 58) (v := .ref a_o_goes) 0 23 rfl rfl (Nat.le_of_ble_eq_true rfl) iwX10 m3_127 rfl dX10_findFar_58 ?_
      refine j_iload_n (pc := 61) 2 dX10_findFar_61 rfl rfl ?_
      refine j_iald (pc := 62) 2 rfl dX10_findFar_62 h (fun h => ?_)
      refine j_iald (pc := 63) 1 rfl dX10_findFar_63 h (fun h => ?_)
      refine j_iload_n (pc := 64) 1 dX10_findFar_64 rfl rfl ?_
      refine j_iconst (pc := 65) dX10_findFar_65 ic_1 ?_
      refine j_isub (pc := 66) dX10_findFar_66 ?_
      refine j_icmp_eq (pc := 67) (tgt := 90) dX10_findFar_67 (by decide) h (fun h => ?_) (fun h => ?_)
      · refine j_iconst (pc := 90) dX10_findFar_90 ic_1 ?_
        refine j_goto (pc := 91) (tgt := 95) dX10_findFar_91 (by decide) ?_
        exact w_X10_findFar_95 hk_37 ih _ _ _ _ _ _ _ _ u h
      · refine j_aload_n (pc := 70) 0 dX10_findFar_70 rfl rfl ?_
        refine j_get (pc := 71) (v := .ref a_o_far) 0 24 rfl rfl (Nat.le_of_ble_eq_true rfl) iwX10 m3_128 rfl dX10_findFar_71 ?_
        refine j_aload_n (pc := 74) 0 dX10_findFar_74 rfl rfl ?_
        refine j_get (pc := 75) (v := .ref a_o_goes) 0 23 rfl rfl (Nat.le_of_ble_eq_true rfl) iwX10 m3_127 rfl dX10_findFar_75 ?_
        refine j_bipush (pc := 78) dX10_findFar_78 bc_16 ?_
        refine j_iload_n (pc := 80) 2 dX10_findFar_80 rfl rfl ?_
        refine j_iadd (pc := 81) dX10_findFar_81 ?_
        refine j_iald (pc := 82) 2 rfl dX10_findFar_82 h (fun h => ?_)
        refine j_iald (pc := 83) 1 rfl dX10_findFar_83 h (fun h => ?_)
        refine j_iload_n (pc := 84) 1 dX10_findFar_84 rfl rfl ?_
        refine j_iconst (pc := 85) dX10_findFar_85 ic_1 ?_
        refine j_isub (pc := 86) dX10_findFar_86 ?_
        refine j_icmp_ne (pc := 87) (tgt := 94) dX10_findFar_87 (by decide) h (fun h => ?_) (fun h => ?_)
        · refine j_iconst (pc := 94) dX10_findFar_94 ic_0 ?_
          exact w_X10_findFar_95 hk_37 ih _ _ _ _ _ _ _ _ u h
        · refine j_iconst (pc := 90) dX10_findFar_90 ic_1 ?_
          refine j_goto (pc := 91) (tgt := 95) dX10_findFar_91 (by decide) ?_
          exact w_X10_findFar_95 hk_37 ih _ _ _ _ _ _ _ _ u h
set_option maxRecDepth 20000 in
theorem w_X10_findFar_37 {l : Launch} {E : jE} {F : Nat} {x1 : Int32} {v_o_cards : Int32} {a_o a_o_colour a_o_deal a_o_st a_o_was a_o_kept a_o_seen a_o_text a_o_told a_o_readColour a_o_readDeal a_o_now a_o_then a_o_ring a_o_goes a_o_far a_o_met : Nat} {w_o_dealMany : Int32} {w_o_acts : Int32} {w_o_keeps : Int32} {w_o_seens : Int32} {w_o_texted : Int32} {w_o_at : Int32} {w_o_isBegun : Int32} {w_o_readCards : Int32} {w_o_readDeals : Int32} {w_o_metMany : Int32} : ∀ (n : Nat) (x2 : Int32) (f_o_far : Nat → Int32) (f_o_goes : Nat → Int32) (f_o_now : Nat → Int32) (f_o_ring : Nat → Int32) (f_o_then : Nat → Int32) (u : (Nat → Int32) × (Nat → Int32) × (Nat → Int32) × (Nat → Int32) × (Nat → Int32)), g_X10_findFar_37 F x1 v_o_cards n x2 f_o_far f_o_goes f_o_now f_o_ring f_o_then = some u → jT l E K_X10_findFar 0 0 37 [(0, .ref a_o), (2, .int x2)] [] [jO a_o 7 [.int v_o_cards, .ref a_o_colour, .int w_o_dealMany, .ref a_o_deal, .ref a_o_st, .int w_o_acts, .ref a_o_was, .int w_o_keeps, .ref a_o_kept, .int w_o_seens, .ref a_o_seen, .ref a_o_text, .int w_o_texted, .int w_o_at, .ref a_o_told, .int w_o_isBegun, .int w_o_readCards, .ref a_o_readColour, .int w_o_readDeals, .ref a_o_readDeal, .ref a_o_now, .ref a_o_then, .ref a_o_ring, .ref a_o_goes, .ref a_o_far, .ref a_o_met, .int w_o_metMany], jI E a_o_far 16 f_o_far, jI E a_o_goes 32 f_o_goes, jI E a_o_now 16 f_o_now, jI E a_o_ring 32 f_o_ring, jI E a_o_then 16 f_o_then] (jd none [jO a_o 7 [.int v_o_cards, .ref a_o_colour, .int w_o_dealMany, .ref a_o_deal, .ref a_o_st, .int w_o_acts, .ref a_o_was, .int w_o_keeps, .ref a_o_kept, .int w_o_seens, .ref a_o_seen, .ref a_o_text, .int w_o_texted, .int w_o_at, .ref a_o_told, .int w_o_isBegun, .int w_o_readCards, .ref a_o_readColour, .int w_o_readDeals, .ref a_o_readDeal, .ref a_o_now, .ref a_o_then, .ref a_o_ring, .ref a_o_goes, .ref a_o_far, .ref a_o_met, .int w_o_metMany], jI E a_o_far 16 u.1, jI E a_o_goes 32 u.2.1, jI E a_o_now 16 u.2.2.1, jI E a_o_ring 32 u.2.2.2.1, jI E a_o_then 16 u.2.2.2.2]) := by
  intro n
  induction n with
  | zero =>
    intro x2 f_o_far f_o_goes f_o_now f_o_ring f_o_then u h
    rw [g_X10_findFar_37] at h
    cases h
  | succ n ih =>
    intro x2 f_o_far f_o_goes f_o_now f_o_ring f_o_then u h
    rw [g_X10_findFar_37] at h
    refine j_iload_n (pc := 37) 1 dX10_findFar_37 rfl rfl ?_
    refine j_bipush (pc := 38) dX10_findFar_38 bc_16 ?_
    refine j_icmp_ge (pc := 40) (tgt := 139) dX10_findFar_40 (by decide) h (fun h => ?_) (fun h => ?_)
    · cases h
      exact j_vret (pc := 139) rfl dX10_findFar_139 (Nat.le_of_ble_eq_true rfl) (Nat.le_of_ble_eq_true rfl) (jd_i rfl rfl)
    · refine j_iconst (pc := 43) dX10_findFar_43 ic_0 ?_
      refine j_istore_n (pc := 44) (lv' := [(3, .int (0 : Int32)), (0, .ref a_o), (2, .int x2)]) dX10_findFar_44 rfl (Nat.le_of_ble_eq_true rfl) rfl ?_
      exact j_sub (lv' := [(0, .ref a_o), (2, .int x2), (3, .int (0 : Int32))]) [1, 2, 0] rfl (w_X10_findFar_45 ih _ _ _ _ _ _ _ _ u h)
set_option maxRecDepth 20000 in
theorem w_X10_findFar_6 {l : Launch} {E : jE} {F : Nat} {x1 : Int32} {v_o_cards : Int32} {a_o a_o_colour a_o_deal a_o_st a_o_was a_o_kept a_o_seen a_o_text a_o_told a_o_readColour a_o_readDeal a_o_now a_o_then a_o_ring a_o_goes a_o_far a_o_met : Nat} {w_o_dealMany : Int32} {w_o_acts : Int32} {w_o_keeps : Int32} {w_o_seens : Int32} {w_o_texted : Int32} {w_o_at : Int32} {w_o_isBegun : Int32} {w_o_readCards : Int32} {w_o_readDeals : Int32} {w_o_metMany : Int32} : ∀ (n : Nat) (x2 : Int32) (f_o_far : Nat → Int32) (f_o_goes : Nat → Int32) (f_o_now : Nat → Int32) (f_o_ring : Nat → Int32) (f_o_then : Nat → Int32) (u : (Nat → Int32) × (Nat → Int32) × (Nat → Int32) × (Nat → Int32) × (Nat → Int32)), g_X10_findFar_6 F x1 v_o_cards n x2 f_o_far f_o_goes f_o_now f_o_ring f_o_then = some u → jT l E K_X10_findFar 0 0 6 [(0, .ref a_o), (1, .int x1), (2, .int x2)] [] [jO a_o 7 [.int v_o_cards, .ref a_o_colour, .int w_o_dealMany, .ref a_o_deal, .ref a_o_st, .int w_o_acts, .ref a_o_was, .int w_o_keeps, .ref a_o_kept, .int w_o_seens, .ref a_o_seen, .ref a_o_text, .int w_o_texted, .int w_o_at, .ref a_o_told, .int w_o_isBegun, .int w_o_readCards, .ref a_o_readColour, .int w_o_readDeals, .ref a_o_readDeal, .ref a_o_now, .ref a_o_then, .ref a_o_ring, .ref a_o_goes, .ref a_o_far, .ref a_o_met, .int w_o_metMany], jI E a_o_far 16 f_o_far, jI E a_o_goes 32 f_o_goes, jI E a_o_now 16 f_o_now, jI E a_o_ring 32 f_o_ring, jI E a_o_then 16 f_o_then] (jd none [jO a_o 7 [.int v_o_cards, .ref a_o_colour, .int w_o_dealMany, .ref a_o_deal, .ref a_o_st, .int w_o_acts, .ref a_o_was, .int w_o_keeps, .ref a_o_kept, .int w_o_seens, .ref a_o_seen, .ref a_o_text, .int w_o_texted, .int w_o_at, .ref a_o_told, .int w_o_isBegun, .int w_o_readCards, .ref a_o_readColour, .int w_o_readDeals, .ref a_o_readDeal, .ref a_o_now, .ref a_o_then, .ref a_o_ring, .ref a_o_goes, .ref a_o_far, .ref a_o_met, .int w_o_metMany], jI E a_o_far 16 u.1, jI E a_o_goes 32 u.2.1, jI E a_o_now 16 u.2.2.1, jI E a_o_ring 32 u.2.2.2.1, jI E a_o_then 16 u.2.2.2.2]) := by
  intro n
  induction n with
  | zero =>
    intro x2 f_o_far f_o_goes f_o_now f_o_ring f_o_then u h
    rw [g_X10_findFar_6] at h
    cases h
  | succ n ih =>
    intro x2 f_o_far f_o_goes f_o_now f_o_ring f_o_then u h
    rw [g_X10_findFar_6] at h
    refine j_iload_n (pc := 6) 2 dX10_findFar_6 rfl rfl ?_
    refine j_bipush (pc := 7) dX10_findFar_7 bc_16 ?_
    refine j_icmp_ge (pc := 9) (tgt := 35) dX10_findFar_9 (by decide) h (fun h => ?_) (fun h => ?_)
    · refine j_iconst (pc := 35) dX10_findFar_35 ic_1 ?_
      refine j_istore_n (pc := 36) (lv' := [(2, .int (1 : Int32)), (0, .ref a_o), (1, .int x1)]) dX10_findFar_36 rfl (Nat.le_of_ble_eq_true rfl) rfl ?_
      exact j_sub (lv' := [(0, .ref a_o), (2, .int (1 : Int32))]) [1, 0] rfl (w_X10_findFar_37 _ _ _ _ _ _ _ u h)
    · refine j_aload_n (pc := 12) 0 dX10_findFar_12 rfl rfl ?_
      refine j_get (pc := 13) (v := .ref a_o_far) 0 24 rfl rfl (Nat.le_of_ble_eq_true rfl) iwX10 m3_128 rfl dX10_findFar_13 ?_
      refine j_iload_n (pc := 16) 2 dX10_findFar_16 rfl rfl ?_
      refine j_iload_n (pc := 17) 2 dX10_findFar_17 rfl rfl ?_
      refine j_iload_n (pc := 18) 1 dX10_findFar_18 rfl rfl ?_
      refine j_icmp_ne (pc := 19) (tgt := 26) dX10_findFar_19 (by decide) h (fun h => ?_) (fun h => ?_)
      · refine j_bipush (pc := 26) dX10_findFar_26 bc_m4 ?_
        refine j_iast (pc := 28) (w' := [jO a_o 7 [.int v_o_cards, .ref a_o_colour, .int w_o_dealMany, .ref a_o_deal, .ref a_o_st, .int w_o_acts, .ref a_o_was, .int w_o_keeps, .ref a_o_kept, .int w_o_seens, .ref a_o_seen, .ref a_o_text, .int w_o_texted, .int w_o_at, .ref a_o_told, .int w_o_isBegun, .int w_o_readCards, .ref a_o_readColour, .int w_o_readDeals, .ref a_o_readDeal, .ref a_o_now, .ref a_o_then, .ref a_o_ring, .ref a_o_goes, .ref a_o_far, .ref a_o_met, .int w_o_metMany], jI E a_o_far 16 (upd f_o_far x2.toNatClampNeg (-4 : Int32)), jI E a_o_goes 32 f_o_goes, jI E a_o_now 16 f_o_now, jI E a_o_ring 32 f_o_ring, jI E a_o_then 16 f_o_then]) 1 rfl dX10_findFar_28 h rfl (fun h => ?_)
        refine j_iinc (pc := 29) (j := 2) (lv' := [(2, .int (x2 + (1 : Int32))), (0, .ref a_o), (1, .int x1)]) dX10_findFar_29 rfl (congrArg (fun z => x2 + z) ic_1) (Nat.le_of_ble_eq_true rfl) rfl ?_
        refine j_goto (pc := 32) (tgt := 6) dX10_findFar_32 (by decide) ?_
        exact j_sub (lv' := [(0, .ref a_o), (1, .int x1), (2, .int (x2 + (1 : Int32)))]) [1, 2, 0] rfl (ih _ _ _ _ _ _ u h)
      · refine j_iconst (pc := 22) dX10_findFar_22 ic_0 ?_
        refine j_goto (pc := 23) (tgt := 28) dX10_findFar_23 (by decide) ?_
        refine j_iast (pc := 28) (w' := [jO a_o 7 [.int v_o_cards, .ref a_o_colour, .int w_o_dealMany, .ref a_o_deal, .ref a_o_st, .int w_o_acts, .ref a_o_was, .int w_o_keeps, .ref a_o_kept, .int w_o_seens, .ref a_o_seen, .ref a_o_text, .int w_o_texted, .int w_o_at, .ref a_o_told, .int w_o_isBegun, .int w_o_readCards, .ref a_o_readColour, .int w_o_readDeals, .ref a_o_readDeal, .ref a_o_now, .ref a_o_then, .ref a_o_ring, .ref a_o_goes, .ref a_o_far, .ref a_o_met, .int w_o_metMany], jI E a_o_far 16 (upd f_o_far x2.toNatClampNeg (0 : Int32)), jI E a_o_goes 32 f_o_goes, jI E a_o_now 16 f_o_now, jI E a_o_ring 32 f_o_ring, jI E a_o_then 16 f_o_then]) 1 rfl dX10_findFar_28 h rfl (fun h => ?_)
        refine j_iinc (pc := 29) (j := 2) (lv' := [(2, .int (x2 + (1 : Int32))), (0, .ref a_o), (1, .int x1)]) dX10_findFar_29 rfl (congrArg (fun z => x2 + z) ic_1) (Nat.le_of_ble_eq_true rfl) rfl ?_
        refine j_goto (pc := 32) (tgt := 6) dX10_findFar_32 (by decide) ?_
        exact j_sub (lv' := [(0, .ref a_o), (1, .int x1), (2, .int (x2 + (1 : Int32)))]) [1, 2, 0] rfl (ih _ _ _ _ _ _ u h)
set_option maxRecDepth 20000 in
theorem c_X10_findFar {l : Launch} {E : jE} {F : Nat} {x1 : Int32} {v_o_cards : Int32} {a_o a_o_colour a_o_deal a_o_st a_o_was a_o_kept a_o_seen a_o_text a_o_told a_o_readColour a_o_readDeal a_o_now a_o_then a_o_ring a_o_goes a_o_far a_o_met : Nat} {w_o_dealMany : Int32} {w_o_acts : Int32} {w_o_keeps : Int32} {w_o_seens : Int32} {w_o_texted : Int32} {w_o_at : Int32} {w_o_isBegun : Int32} {w_o_readCards : Int32} {w_o_readDeals : Int32} {w_o_metMany : Int32} {f_o_far : Nat → Int32} {f_o_goes : Nat → Int32} {f_o_now : Nat → Int32} {f_o_ring : Nat → Int32} {f_o_then : Nat → Int32} : ∀ u : (Nat → Int32) × (Nat → Int32) × (Nat → Int32) × (Nat → Int32) × (Nat → Int32), f_X10_findFar F x1 v_o_cards f_o_far f_o_goes f_o_now f_o_ring f_o_then = some u → jM l E K_X10_findFar [.ref a_o, .int x1] [jO a_o 7 [.int v_o_cards, .ref a_o_colour, .int w_o_dealMany, .ref a_o_deal, .ref a_o_st, .int w_o_acts, .ref a_o_was, .int w_o_keeps, .ref a_o_kept, .int w_o_seens, .ref a_o_seen, .ref a_o_text, .int w_o_texted, .int w_o_at, .ref a_o_told, .int w_o_isBegun, .int w_o_readCards, .ref a_o_readColour, .int w_o_readDeals, .ref a_o_readDeal, .ref a_o_now, .ref a_o_then, .ref a_o_ring, .ref a_o_goes, .ref a_o_far, .ref a_o_met, .int w_o_metMany], jI E a_o_far 16 f_o_far, jI E a_o_goes 32 f_o_goes, jI E a_o_now 16 f_o_now, jI E a_o_ring 32 f_o_ring, jI E a_o_then 16 f_o_then] (jd none [jO a_o 7 [.int v_o_cards, .ref a_o_colour, .int w_o_dealMany, .ref a_o_deal, .ref a_o_st, .int w_o_acts, .ref a_o_was, .int w_o_keeps, .ref a_o_kept, .int w_o_seens, .ref a_o_seen, .ref a_o_text, .int w_o_texted, .int w_o_at, .ref a_o_told, .int w_o_isBegun, .int w_o_readCards, .ref a_o_readColour, .int w_o_readDeals, .ref a_o_readDeal, .ref a_o_now, .ref a_o_then, .ref a_o_ring, .ref a_o_goes, .ref a_o_far, .ref a_o_met, .int w_o_metMany], jI E a_o_far 16 u.1, jI E a_o_goes 32 u.2.1, jI E a_o_now 16 u.2.2.1, jI E a_o_ring 32 u.2.2.2.1, jI E a_o_then 16 u.2.2.2.2]) := by
  intro u h
  unfold f_X10_findFar at h
  refine j_met [(0, .ref a_o), (1, .int x1)] (by decide +kernel) (Nat.le_of_ble_eq_true rfl) rfl ?_
  refine j_aload_n (pc := 0) 0 dX10_findFar_0 rfl rfl ?_
  refine j_V (pc := 1) (q0 := 0) (Kc := K_X10_findGoes) (As := []) (rest := []) (wc := [jO a_o 7 [.int v_o_cards, .ref a_o_colour, .int w_o_dealMany, .ref a_o_deal, .ref a_o_st, .int w_o_acts, .ref a_o_was, .int w_o_keeps, .ref a_o_kept, .int w_o_seens, .ref a_o_seen, .ref a_o_text, .int w_o_texted, .int w_o_at, .ref a_o_told, .int w_o_isBegun, .int w_o_readCards, .ref a_o_readColour, .int w_o_readDeals, .ref a_o_readDeal, .ref a_o_now, .ref a_o_then, .ref a_o_ring, .ref a_o_goes, .ref a_o_far, .ref a_o_met, .int w_o_metMany], jI E a_o_goes 32 f_o_goes, jI E a_o_now 16 f_o_now, jI E a_o_ring 32 f_o_ring, jI E a_o_then 16 f_o_then]) (w' := fun b1 => [jO a_o 7 [.int v_o_cards, .ref a_o_colour, .int w_o_dealMany, .ref a_o_deal, .ref a_o_st, .int w_o_acts, .ref a_o_was, .int w_o_keeps, .ref a_o_kept, .int w_o_seens, .ref a_o_seen, .ref a_o_text, .int w_o_texted, .int w_o_at, .ref a_o_told, .int w_o_isBegun, .int w_o_readCards, .ref a_o_readColour, .int w_o_readDeals, .ref a_o_readDeal, .ref a_o_now, .ref a_o_then, .ref a_o_ring, .ref a_o_goes, .ref a_o_far, .ref a_o_met, .int w_o_metMany], jI E a_o_far 16 f_o_far, jI E a_o_goes 32 b1.1, jI E a_o_now 16 b1.2.1, jI E a_o_ring 32 b1.2.2.1, jI E a_o_then 16 b1.2.2.2]) (st1 := fun b1 => []) [0, 2, 3, 4, 5] rfl rfl rfl h c_X10_findGoes q_X10_findGoes m4_100 rfl rfl (Nat.le_of_ble_eq_true rfl) ⟨(Nat.le_of_ble_eq_true rfl), (Nat.le_of_ble_eq_true rfl)⟩ ⟨rfl, rfl⟩ ⟨(Nat.le_of_ble_eq_true rfl), (Nat.le_of_ble_eq_true rfl)⟩ dX10_findFar_1 rfl (by decide) (fun _ => rfl) (fun _ => rfl) (fun _ => rfl) (fun b1 h => ?_)
  refine j_iconst (pc := 4) dX10_findFar_4 ic_0 ?_
  refine j_istore_n (pc := 5) (lv' := [(2, .int (0 : Int32)), (0, .ref a_o), (1, .int x1)]) dX10_findFar_5 rfl (Nat.le_of_ble_eq_true rfl) rfl ?_
  exact j_sub (lv' := [(0, .ref a_o), (1, .int x1), (2, .int (0 : Int32))]) [1, 2, 0] rfl (w_X10_findFar_6 _ _ _ _ _ _ _ u h)
set_option maxRecDepth 20000 in
theorem w_X10_bring_97 {l : Launch} {E : jE} {F : Nat} {x1 : Int32} {x2 : Int32} {x3 : Int32} {v_o_cards : Int32} {f_o_st : Nat → Int32} {a_o a_o_colour a_o_deal a_o_st a_o_was a_o_kept a_o_seen a_o_text a_o_told a_o_readColour a_o_readDeal a_o_now a_o_then a_o_ring a_o_goes a_o_far a_o_met : Nat} {w_o_dealMany : Int32} {w_o_acts : Int32} {w_o_keeps : Int32} {w_o_seens : Int32} {w_o_texted : Int32} {w_o_at : Int32} {w_o_isBegun : Int32} {w_o_readCards : Int32} {w_o_readDeals : Int32} {w_o_metMany : Int32} {k_63 : Int32 → Int32 → Int32 → (Nat → Int32) → (Nat → Int32) → (Nat → Int32) → (Nat → Int32) → (Nat → Int32) → Option (Int32 × (Nat → Int32) × (Nat → Int32) × (Nat → Int32) × (Nat → Int32) × (Nat → Int32))} (hk_63 : ∀ (x4 : Int32) (x5 : Int32) (x6 : Int32) (f_o_far : Nat → Int32) (f_o_goes : Nat → Int32) (f_o_now : Nat → Int32) (f_o_ring : Nat → Int32) (f_o_then : Nat → Int32) (u : Int32 × (Nat → Int32) × (Nat → Int32) × (Nat → Int32) × (Nat → Int32) × (Nat → Int32)), k_63 x4 x5 x6 f_o_far f_o_goes f_o_now f_o_ring f_o_then = some u → jT l E K_X10_bring 0 0 63 [(0, .ref a_o), (3, .int x3), (4, .int x4), (5, .int x5), (6, .int x6)] [] [jO a_o 7 [.int v_o_cards, .ref a_o_colour, .int w_o_dealMany, .ref a_o_deal, .ref a_o_st, .int w_o_acts, .ref a_o_was, .int w_o_keeps, .ref a_o_kept, .int w_o_seens, .ref a_o_seen, .ref a_o_text, .int w_o_texted, .int w_o_at, .ref a_o_told, .int w_o_isBegun, .int w_o_readCards, .ref a_o_readColour, .int w_o_readDeals, .ref a_o_readDeal, .ref a_o_now, .ref a_o_then, .ref a_o_ring, .ref a_o_goes, .ref a_o_far, .ref a_o_met, .int w_o_metMany], jI E a_o_far 16 f_o_far, jI E a_o_goes 32 f_o_goes, jI E a_o_now 16 f_o_now, jI E a_o_ring 32 f_o_ring, jI E a_o_st 16 f_o_st, jI E a_o_then 16 f_o_then] (jd (some (.int u.1)) [jO a_o 7 [.int v_o_cards, .ref a_o_colour, .int w_o_dealMany, .ref a_o_deal, .ref a_o_st, .int w_o_acts, .ref a_o_was, .int w_o_keeps, .ref a_o_kept, .int w_o_seens, .ref a_o_seen, .ref a_o_text, .int w_o_texted, .int w_o_at, .ref a_o_told, .int w_o_isBegun, .int w_o_readCards, .ref a_o_readColour, .int w_o_readDeals, .ref a_o_readDeal, .ref a_o_now, .ref a_o_then, .ref a_o_ring, .ref a_o_goes, .ref a_o_far, .ref a_o_met, .int w_o_metMany], jI E a_o_far 16 u.2.1, jI E a_o_goes 32 u.2.2.1, jI E a_o_now 16 u.2.2.2.1, jI E a_o_ring 32 u.2.2.2.2.1, jI E a_o_st 16 f_o_st, jI E a_o_then 16 u.2.2.2.2.2])) : ∀ (x4 : Int32) (x5 : Int32) (x6 : Int32) (s0 : Int32) (f_o_far : Nat → Int32) (f_o_goes : Nat → Int32) (f_o_now : Nat → Int32) (f_o_ring : Nat → Int32) (f_o_then : Nat → Int32) (u : Int32 × (Nat → Int32) × (Nat → Int32) × (Nat → Int32) × (Nat → Int32) × (Nat → Int32)), g_X10_bring_97 F x1 x2 x3 v_o_cards f_o_st k_63 x4 x5 x6 s0 f_o_far f_o_goes f_o_now f_o_ring f_o_then = some u → jT l E K_X10_bring 0 0 97 [(0, .ref a_o), (3, .int x3), (4, .int x4), (5, .int x5), (6, .int x6)] [.int s0] [jO a_o 7 [.int v_o_cards, .ref a_o_colour, .int w_o_dealMany, .ref a_o_deal, .ref a_o_st, .int w_o_acts, .ref a_o_was, .int w_o_keeps, .ref a_o_kept, .int w_o_seens, .ref a_o_seen, .ref a_o_text, .int w_o_texted, .int w_o_at, .ref a_o_told, .int w_o_isBegun, .int w_o_readCards, .ref a_o_readColour, .int w_o_readDeals, .ref a_o_readDeal, .ref a_o_now, .ref a_o_then, .ref a_o_ring, .ref a_o_goes, .ref a_o_far, .ref a_o_met, .int w_o_metMany], jI E a_o_far 16 f_o_far, jI E a_o_goes 32 f_o_goes, jI E a_o_now 16 f_o_now, jI E a_o_ring 32 f_o_ring, jI E a_o_st 16 f_o_st, jI E a_o_then 16 f_o_then] (jd (some (.int u.1)) [jO a_o 7 [.int v_o_cards, .ref a_o_colour, .int w_o_dealMany, .ref a_o_deal, .ref a_o_st, .int w_o_acts, .ref a_o_was, .int w_o_keeps, .ref a_o_kept, .int w_o_seens, .ref a_o_seen, .ref a_o_text, .int w_o_texted, .int w_o_at, .ref a_o_told, .int w_o_isBegun, .int w_o_readCards, .ref a_o_readColour, .int w_o_readDeals, .ref a_o_readDeal, .ref a_o_now, .ref a_o_then, .ref a_o_ring, .ref a_o_goes, .ref a_o_far, .ref a_o_met, .int w_o_metMany], jI E a_o_far 16 u.2.1, jI E a_o_goes 32 u.2.2.1, jI E a_o_now 16 u.2.2.2.1, jI E a_o_ring 32 u.2.2.2.2.1, jI E a_o_st 16 f_o_st, jI E a_o_then 16 u.2.2.2.2.2]) := by
  intro x4 x5 x6 s0 f_o_far f_o_goes f_o_now f_o_ring f_o_then u h
  unfold g_X10_bring_97 at h
  refine j_istore (pc := 97) (lv' := [(7, .int s0), (0, .ref a_o), (3, .int x3), (4, .int x4), (5, .int x5), (6, .int x6)]) dX10_bring_97 (Nat.le_of_ble_eq_true rfl) rfl ?_
  refine j_iload (pc := 99) 5 dX10_bring_99 rfl ?_
  refine j_iload_n (pc := 101) 2 dX10_bring_101 rfl rfl ?_
  refine j_icmp_ne (pc := 102) (tgt := 108) dX10_bring_102 (by decide) h (fun h => ?_) (fun h => ?_)
  · refine j_aload_n (pc := 108) 1 dX10_bring_108 rfl rfl ?_
    refine j_get (pc := 109) (v := .ref a_o_goes) 0 23 rfl rfl (Nat.le_of_ble_eq_true rfl) iwX10 m3_127 rfl dX10_bring_109 ?_
    refine j_bipush (pc := 112) dX10_bring_112 bc_16 ?_
    refine j_iload (pc := 114) 0 dX10_bring_114 rfl ?_
    refine j_imul (pc := 116) dX10_bring_116 ?_
    refine j_iload (pc := 117) 3 dX10_bring_117 rfl ?_
    refine j_iadd (pc := 119) dX10_bring_119 ?_
    refine j_iald (pc := 120) 2 rfl dX10_bring_120 h (fun h => ?_)
    refine j_istore (pc := 121) (lv' := [(4, .int (f_o_goes (((16 : Int32) * s0) + x4).toNatClampNeg)), (7, .int s0), (0, .ref a_o), (3, .int x3), (5, .int x5), (6, .int x6)]) dX10_bring_121 (Nat.le_of_ble_eq_true rfl) rfl ?_
    refine j_iinc (pc := 123) (j := 5) (lv' := [(6, .int (x6 + (1 : Int32))), (4, .int (f_o_goes (((16 : Int32) * s0) + x4).toNatClampNeg)), (7, .int s0), (0, .ref a_o), (3, .int x3), (5, .int x5)]) dX10_bring_123 rfl (congrArg (fun z => x6 + z) ic_1) (Nat.le_of_ble_eq_true rfl) rfl ?_
    refine j_goto (pc := 126) (tgt := 63) dX10_bring_126 (by decide) ?_
    exact j_sub (lv' := [(0, .ref a_o), (3, .int x3), (4, .int (f_o_goes (((16 : Int32) * s0) + x4).toNatClampNeg)), (5, .int x5), (6, .int (x6 + (1 : Int32)))]) [3, 4, 1, 5, 0] rfl (hk_63 _ _ _ _ _ _ _ _ u h)
  · refine j_iload (pc := 105) 0 dX10_bring_105 rfl ?_
    cases h
    exact j_iret (pc := 107) rfl dX10_bring_107 (Nat.le_of_ble_eq_true rfl) (Nat.le_of_ble_eq_true rfl) (jd_i rfl rfl)
set_option maxRecDepth 20000 in
theorem w_X10_bring_63 {l : Launch} {E : jE} {F : Nat} {x1 : Int32} {x2 : Int32} {x3 : Int32} {v_o_cards : Int32} {f_o_st : Nat → Int32} {a_o a_o_colour a_o_deal a_o_st a_o_was a_o_kept a_o_seen a_o_text a_o_told a_o_readColour a_o_readDeal a_o_now a_o_then a_o_ring a_o_goes a_o_far a_o_met : Nat} {w_o_dealMany : Int32} {w_o_acts : Int32} {w_o_keeps : Int32} {w_o_seens : Int32} {w_o_texted : Int32} {w_o_at : Int32} {w_o_isBegun : Int32} {w_o_readCards : Int32} {w_o_readDeals : Int32} {w_o_metMany : Int32} : ∀ (n : Nat) (x4 : Int32) (x5 : Int32) (x6 : Int32) (f_o_far : Nat → Int32) (f_o_goes : Nat → Int32) (f_o_now : Nat → Int32) (f_o_ring : Nat → Int32) (f_o_then : Nat → Int32) (u : Int32 × (Nat → Int32) × (Nat → Int32) × (Nat → Int32) × (Nat → Int32) × (Nat → Int32)), g_X10_bring_63 F x1 x2 x3 v_o_cards f_o_st n x4 x5 x6 f_o_far f_o_goes f_o_now f_o_ring f_o_then = some u → jT l E K_X10_bring 0 0 63 [(0, .ref a_o), (3, .int x3), (4, .int x4), (5, .int x5), (6, .int x6)] [] [jO a_o 7 [.int v_o_cards, .ref a_o_colour, .int w_o_dealMany, .ref a_o_deal, .ref a_o_st, .int w_o_acts, .ref a_o_was, .int w_o_keeps, .ref a_o_kept, .int w_o_seens, .ref a_o_seen, .ref a_o_text, .int w_o_texted, .int w_o_at, .ref a_o_told, .int w_o_isBegun, .int w_o_readCards, .ref a_o_readColour, .int w_o_readDeals, .ref a_o_readDeal, .ref a_o_now, .ref a_o_then, .ref a_o_ring, .ref a_o_goes, .ref a_o_far, .ref a_o_met, .int w_o_metMany], jI E a_o_far 16 f_o_far, jI E a_o_goes 32 f_o_goes, jI E a_o_now 16 f_o_now, jI E a_o_ring 32 f_o_ring, jI E a_o_st 16 f_o_st, jI E a_o_then 16 f_o_then] (jd (some (.int u.1)) [jO a_o 7 [.int v_o_cards, .ref a_o_colour, .int w_o_dealMany, .ref a_o_deal, .ref a_o_st, .int w_o_acts, .ref a_o_was, .int w_o_keeps, .ref a_o_kept, .int w_o_seens, .ref a_o_seen, .ref a_o_text, .int w_o_texted, .int w_o_at, .ref a_o_told, .int w_o_isBegun, .int w_o_readCards, .ref a_o_readColour, .int w_o_readDeals, .ref a_o_readDeal, .ref a_o_now, .ref a_o_then, .ref a_o_ring, .ref a_o_goes, .ref a_o_far, .ref a_o_met, .int w_o_metMany], jI E a_o_far 16 u.2.1, jI E a_o_goes 32 u.2.2.1, jI E a_o_now 16 u.2.2.2.1, jI E a_o_ring 32 u.2.2.2.2.1, jI E a_o_st 16 f_o_st, jI E a_o_then 16 u.2.2.2.2.2]) := by
  intro n
  induction n with
  | zero =>
    intro x4 x5 x6 f_o_far f_o_goes f_o_now f_o_ring f_o_then u h
    rw [g_X10_bring_63] at h
    cases h
  | succ n ih =>
    intro x4 x5 x6 f_o_far f_o_goes f_o_now f_o_ring f_o_then u h
    rw [g_X10_bring_63] at h
    refine j_iload (pc := 63) 4 dX10_bring_63 rfl ?_
    refine j_iload (pc := 65) 3 dX10_bring_65 rfl ?_
    refine j_icmp_ge (pc := 67) (tgt := 129) dX10_bring_67 (by decide) h (fun h => ?_) (fun h => ?_)
    · refine j_bipush (pc := 129) dX10_bring_129 bc_m4 ?_
      cases h
      exact j_iret (pc := 131) rfl dX10_bring_131 (Nat.le_of_ble_eq_true rfl) (Nat.le_of_ble_eq_true rfl) (jd_i rfl rfl)
    · refine j_aload_n (pc := 70) 0 dX10_bring_70 rfl rfl ?_
      refine j_get (pc := 71) (v := .ref a_o_far) 0 24 rfl rfl (Nat.le_of_ble_eq_true rfl) iwX10 m3_128 rfl dX10_bring_71 ?_
      refine j_aload_n (pc := 74) 0 dX10_bring_74 rfl rfl ?_
      refine j_get (pc := 75) (v := .ref a_o_goes) 0 23 rfl rfl (Nat.le_of_ble_eq_true rfl) iwX10 m3_127 rfl dX10_bring_75 ?_
      refine j_iload (pc := 78) 2 dX10_bring_78 rfl ?_
      refine j_iald (pc := 80) 2 rfl dX10_bring_80 h (fun h => ?_)
      refine j_iald (pc := 81) 1 rfl dX10_bring_81 h (fun h => ?_)
      refine j_iload (pc := 82) 3 dX10_bring_82 rfl ?_
      refine j_iconst (pc := 84) dX10_bring_84 ic_1 ?_
      refine j_isub (pc := 85) dX10_bring_85 ?_
      refine j_iload (pc := 86) 4 dX10_bring_86 rfl ?_
      refine j_isub (pc := 88) dX10_bring_88 ?_
      refine j_icmp_ne (pc := 89) (tgt := 96) dX10_bring_89 (by decide) h (fun h => ?_) (fun h => ?_)
      · refine j_iconst (pc := 96) dX10_bring_96 ic_1 ?_
        exact w_X10_bring_97 ih _ _ _ _ _ _ _ _ _ u h
      · refine j_iconst (pc := 92) dX10_bring_92 ic_0 ?_
        refine j_goto (pc := 93) (tgt := 97) dX10_bring_93 (by decide) ?_
        exact w_X10_bring_97 ih _ _ _ _ _ _ _ _ _ u h
set_option maxRecDepth 20000 in
theorem c_X10_bring {l : Launch} {E : jE} {F : Nat} {x1 : Int32} {x2 : Int32} {x3 : Int32} {v_o_cards : Int32} {f_o_st : Nat → Int32} {a_o a_o_colour a_o_deal a_o_st a_o_was a_o_kept a_o_seen a_o_text a_o_told a_o_readColour a_o_readDeal a_o_now a_o_then a_o_ring a_o_goes a_o_far a_o_met : Nat} {w_o_dealMany : Int32} {w_o_acts : Int32} {w_o_keeps : Int32} {w_o_seens : Int32} {w_o_texted : Int32} {w_o_at : Int32} {w_o_isBegun : Int32} {w_o_readCards : Int32} {w_o_readDeals : Int32} {w_o_metMany : Int32} {f_o_far : Nat → Int32} {f_o_goes : Nat → Int32} {f_o_now : Nat → Int32} {f_o_ring : Nat → Int32} {f_o_then : Nat → Int32} : ∀ u : Int32 × (Nat → Int32) × (Nat → Int32) × (Nat → Int32) × (Nat → Int32) × (Nat → Int32), f_X10_bring F x1 x2 x3 v_o_cards f_o_st f_o_far f_o_goes f_o_now f_o_ring f_o_then = some u → jM l E K_X10_bring [.ref a_o, .int x1, .int x2, .int x3] [jO a_o 7 [.int v_o_cards, .ref a_o_colour, .int w_o_dealMany, .ref a_o_deal, .ref a_o_st, .int w_o_acts, .ref a_o_was, .int w_o_keeps, .ref a_o_kept, .int w_o_seens, .ref a_o_seen, .ref a_o_text, .int w_o_texted, .int w_o_at, .ref a_o_told, .int w_o_isBegun, .int w_o_readCards, .ref a_o_readColour, .int w_o_readDeals, .ref a_o_readDeal, .ref a_o_now, .ref a_o_then, .ref a_o_ring, .ref a_o_goes, .ref a_o_far, .ref a_o_met, .int w_o_metMany], jI E a_o_far 16 f_o_far, jI E a_o_goes 32 f_o_goes, jI E a_o_now 16 f_o_now, jI E a_o_ring 32 f_o_ring, jI E a_o_st 16 f_o_st, jI E a_o_then 16 f_o_then] (jd (some (.int u.1)) [jO a_o 7 [.int v_o_cards, .ref a_o_colour, .int w_o_dealMany, .ref a_o_deal, .ref a_o_st, .int w_o_acts, .ref a_o_was, .int w_o_keeps, .ref a_o_kept, .int w_o_seens, .ref a_o_seen, .ref a_o_text, .int w_o_texted, .int w_o_at, .ref a_o_told, .int w_o_isBegun, .int w_o_readCards, .ref a_o_readColour, .int w_o_readDeals, .ref a_o_readDeal, .ref a_o_now, .ref a_o_then, .ref a_o_ring, .ref a_o_goes, .ref a_o_far, .ref a_o_met, .int w_o_metMany], jI E a_o_far 16 u.2.1, jI E a_o_goes 32 u.2.2.1, jI E a_o_now 16 u.2.2.2.1, jI E a_o_ring 32 u.2.2.2.2.1, jI E a_o_st 16 f_o_st, jI E a_o_then 16 u.2.2.2.2.2]) := by
  intro u h
  unfold f_X10_bring at h
  refine j_met [(0, .ref a_o), (1, .int x1), (2, .int x2), (3, .int x3)] (by decide +kernel) (Nat.le_of_ble_eq_true rfl) rfl ?_
  refine j_aload_n (pc := 0) 0 dX10_bring_0 rfl rfl ?_
  refine j_iload_n (pc := 1) 1 dX10_bring_1 rfl rfl ?_
  refine j_V (pc := 2) (q0 := 0) (Kc := K_X10_isCard) (As := [.int x1]) (rest := []) (wc := [jO a_o 7 [.int v_o_cards, .ref a_o_colour, .int w_o_dealMany, .ref a_o_deal, .ref a_o_st, .int w_o_acts, .ref a_o_was, .int w_o_keeps, .ref a_o_kept, .int w_o_seens, .ref a_o_seen, .ref a_o_text, .int w_o_texted, .int w_o_at, .ref a_o_told, .int w_o_isBegun, .int w_o_readCards, .ref a_o_readColour, .int w_o_readDeals, .ref a_o_readDeal, .ref a_o_now, .ref a_o_then, .ref a_o_ring, .ref a_o_goes, .ref a_o_far, .ref a_o_met, .int w_o_metMany]]) (w' := fun b1 => [jO a_o 7 [.int v_o_cards, .ref a_o_colour, .int w_o_dealMany, .ref a_o_deal, .ref a_o_st, .int w_o_acts, .ref a_o_was, .int w_o_keeps, .ref a_o_kept, .int w_o_seens, .ref a_o_seen, .ref a_o_text, .int w_o_texted, .int w_o_at, .ref a_o_told, .int w_o_isBegun, .int w_o_readCards, .ref a_o_readColour, .int w_o_readDeals, .ref a_o_readDeal, .ref a_o_now, .ref a_o_then, .ref a_o_ring, .ref a_o_goes, .ref a_o_far, .ref a_o_met, .int w_o_metMany], jI E a_o_far 16 f_o_far, jI E a_o_goes 32 f_o_goes, jI E a_o_now 16 f_o_now, jI E a_o_ring 32 f_o_ring, jI E a_o_st 16 f_o_st, jI E a_o_then 16 f_o_then]) (st1 := fun b1 => [.int b1]) [0] rfl rfl rfl h c_X10_isCard q_X10_isCard m4_1 rfl rfl (Nat.le_of_ble_eq_true rfl) ⟨(Nat.le_of_ble_eq_true rfl), (Nat.le_of_ble_eq_true rfl)⟩ ⟨rfl, rfl⟩ ⟨(Nat.le_of_ble_eq_true rfl), (Nat.le_of_ble_eq_true rfl)⟩ dX10_bring_2 rfl (by decide) (fun _ => rfl) (fun _ => rfl) (fun _ => rfl) (fun b1 h => ?_)
  refine j_if_eq (pc := 5) (tgt := 21) dX10_bring_5 (by decide) h (fun h => ?_) (fun h => ?_)
  · refine j_iconst (pc := 21) dX10_bring_21 ic_m1 ?_
    cases h
    exact j_iret (pc := 22) rfl dX10_bring_22 (Nat.le_of_ble_eq_true rfl) (Nat.le_of_ble_eq_true rfl) (jd_i rfl rfl)
  · refine j_aload_n (pc := 8) 0 dX10_bring_8 rfl rfl ?_
    refine j_iload_n (pc := 9) 2 dX10_bring_9 rfl rfl ?_
    refine j_V (pc := 10) (q0 := 0) (Kc := K_X10_isCard) (As := [.int x2]) (rest := []) (wc := [jO a_o 7 [.int v_o_cards, .ref a_o_colour, .int w_o_dealMany, .ref a_o_deal, .ref a_o_st, .int w_o_acts, .ref a_o_was, .int w_o_keeps, .ref a_o_kept, .int w_o_seens, .ref a_o_seen, .ref a_o_text, .int w_o_texted, .int w_o_at, .ref a_o_told, .int w_o_isBegun, .int w_o_readCards, .ref a_o_readColour, .int w_o_readDeals, .ref a_o_readDeal, .ref a_o_now, .ref a_o_then, .ref a_o_ring, .ref a_o_goes, .ref a_o_far, .ref a_o_met, .int w_o_metMany]]) (w' := fun b2 => [jO a_o 7 [.int v_o_cards, .ref a_o_colour, .int w_o_dealMany, .ref a_o_deal, .ref a_o_st, .int w_o_acts, .ref a_o_was, .int w_o_keeps, .ref a_o_kept, .int w_o_seens, .ref a_o_seen, .ref a_o_text, .int w_o_texted, .int w_o_at, .ref a_o_told, .int w_o_isBegun, .int w_o_readCards, .ref a_o_readColour, .int w_o_readDeals, .ref a_o_readDeal, .ref a_o_now, .ref a_o_then, .ref a_o_ring, .ref a_o_goes, .ref a_o_far, .ref a_o_met, .int w_o_metMany], jI E a_o_far 16 f_o_far, jI E a_o_goes 32 f_o_goes, jI E a_o_now 16 f_o_now, jI E a_o_ring 32 f_o_ring, jI E a_o_st 16 f_o_st, jI E a_o_then 16 f_o_then]) (st1 := fun b2 => [.int b2]) [0] rfl rfl rfl h c_X10_isCard q_X10_isCard m4_1 rfl rfl (Nat.le_of_ble_eq_true rfl) ⟨(Nat.le_of_ble_eq_true rfl), (Nat.le_of_ble_eq_true rfl)⟩ ⟨rfl, rfl⟩ ⟨(Nat.le_of_ble_eq_true rfl), (Nat.le_of_ble_eq_true rfl)⟩ dX10_bring_10 rfl (by decide) (fun _ => rfl) (fun _ => rfl) (fun _ => rfl) (fun b2 h => ?_)
    refine j_if_eq (pc := 13) (tgt := 21) dX10_bring_13 (by decide) h (fun h => ?_) (fun h => ?_)
    · refine j_iconst (pc := 21) dX10_bring_21 ic_m1 ?_
      cases h
      exact j_iret (pc := 22) rfl dX10_bring_22 (Nat.le_of_ble_eq_true rfl) (Nat.le_of_ble_eq_true rfl) (jd_i rfl rfl)
    · refine j_iload_n (pc := 16) 3 dX10_bring_16 rfl rfl ?_
      refine j_iconst (pc := 17) dX10_bring_17 ic_m1 ?_
      refine j_icmp_ge (pc := 18) (tgt := 23) dX10_bring_18 (by decide) h (fun h => ?_) (fun h => ?_)
      · refine j_aload_n (pc := 23) 0 dX10_bring_23 rfl rfl ?_
        refine j_iload_n (pc := 24) 2 dX10_bring_24 rfl rfl ?_
        refine j_V (pc := 25) (q0 := 0) (Kc := K_X10_findFar) (As := [.int x2]) (rest := []) (wc := [jO a_o 7 [.int v_o_cards, .ref a_o_colour, .int w_o_dealMany, .ref a_o_deal, .ref a_o_st, .int w_o_acts, .ref a_o_was, .int w_o_keeps, .ref a_o_kept, .int w_o_seens, .ref a_o_seen, .ref a_o_text, .int w_o_texted, .int w_o_at, .ref a_o_told, .int w_o_isBegun, .int w_o_readCards, .ref a_o_readColour, .int w_o_readDeals, .ref a_o_readDeal, .ref a_o_now, .ref a_o_then, .ref a_o_ring, .ref a_o_goes, .ref a_o_far, .ref a_o_met, .int w_o_metMany], jI E a_o_far 16 f_o_far, jI E a_o_goes 32 f_o_goes, jI E a_o_now 16 f_o_now, jI E a_o_ring 32 f_o_ring, jI E a_o_then 16 f_o_then]) (w' := fun b3 => [jO a_o 7 [.int v_o_cards, .ref a_o_colour, .int w_o_dealMany, .ref a_o_deal, .ref a_o_st, .int w_o_acts, .ref a_o_was, .int w_o_keeps, .ref a_o_kept, .int w_o_seens, .ref a_o_seen, .ref a_o_text, .int w_o_texted, .int w_o_at, .ref a_o_told, .int w_o_isBegun, .int w_o_readCards, .ref a_o_readColour, .int w_o_readDeals, .ref a_o_readDeal, .ref a_o_now, .ref a_o_then, .ref a_o_ring, .ref a_o_goes, .ref a_o_far, .ref a_o_met, .int w_o_metMany], jI E a_o_far 16 b3.1, jI E a_o_goes 32 b3.2.1, jI E a_o_now 16 b3.2.2.1, jI E a_o_ring 32 b3.2.2.2.1, jI E a_o_st 16 f_o_st, jI E a_o_then 16 b3.2.2.2.2]) (st1 := fun b3 => []) [0, 1, 2, 3, 4, 6] rfl rfl rfl h c_X10_findFar q_X10_findFar m4_96 rfl rfl (Nat.le_of_ble_eq_true rfl) ⟨(Nat.le_of_ble_eq_true rfl), (Nat.le_of_ble_eq_true rfl)⟩ ⟨rfl, rfl⟩ ⟨(Nat.le_of_ble_eq_true rfl), (Nat.le_of_ble_eq_true rfl)⟩ dX10_bring_25 rfl (by decide) (fun _ => rfl) (fun _ => rfl) (fun _ => rfl) (fun b3 h => ?_)
        refine j_aload_n (pc := 28) 0 dX10_bring_28 rfl rfl ?_
        refine j_V (pc := 29) (q0 := 0) (Kc := K_X10_asItIs) (As := []) (rest := []) (wc := [jO a_o 7 [.int v_o_cards, .ref a_o_colour, .int w_o_dealMany, .ref a_o_deal, .ref a_o_st, .int w_o_acts, .ref a_o_was, .int w_o_keeps, .ref a_o_kept, .int w_o_seens, .ref a_o_seen, .ref a_o_text, .int w_o_texted, .int w_o_at, .ref a_o_told, .int w_o_isBegun, .int w_o_readCards, .ref a_o_readColour, .int w_o_readDeals, .ref a_o_readDeal, .ref a_o_now, .ref a_o_then, .ref a_o_ring, .ref a_o_goes, .ref a_o_far, .ref a_o_met, .int w_o_metMany], jI E a_o_now 16 b3.2.2.1, jI E a_o_st 16 f_o_st]) (w' := fun b4 => [jO a_o 7 [.int v_o_cards, .ref a_o_colour, .int w_o_dealMany, .ref a_o_deal, .ref a_o_st, .int w_o_acts, .ref a_o_was, .int w_o_keeps, .ref a_o_kept, .int w_o_seens, .ref a_o_seen, .ref a_o_text, .int w_o_texted, .int w_o_at, .ref a_o_told, .int w_o_isBegun, .int w_o_readCards, .ref a_o_readColour, .int w_o_readDeals, .ref a_o_readDeal, .ref a_o_now, .ref a_o_then, .ref a_o_ring, .ref a_o_goes, .ref a_o_far, .ref a_o_met, .int w_o_metMany], jI E a_o_far 16 b3.1, jI E a_o_goes 32 b3.2.1, jI E a_o_now 16 b4, jI E a_o_ring 32 b3.2.2.2.1, jI E a_o_st 16 f_o_st, jI E a_o_then 16 b3.2.2.2.2]) (st1 := fun b4 => []) [0, 3, 5] rfl rfl rfl h c_X10_asItIs q_X10_asItIs m4_9 rfl rfl (Nat.le_of_ble_eq_true rfl) ⟨(Nat.le_of_ble_eq_true rfl), (Nat.le_of_ble_eq_true rfl)⟩ ⟨rfl, rfl⟩ ⟨(Nat.le_of_ble_eq_true rfl), (Nat.le_of_ble_eq_true rfl)⟩ dX10_bring_29 rfl (by decide) (fun _ => rfl) (fun _ => rfl) (fun _ => rfl) (fun b4 h => ?_)
        refine j_aload_n (pc := 32) 0 dX10_bring_32 rfl rfl ?_
        refine j_iload_n (pc := 33) 1 dX10_bring_33 rfl rfl ?_
        refine j_V (pc := 34) (q0 := 0) (Kc := K_X10_placeOf) (As := [.int x1]) (rest := []) (wc := [jO a_o 7 [.int v_o_cards, .ref a_o_colour, .int w_o_dealMany, .ref a_o_deal, .ref a_o_st, .int w_o_acts, .ref a_o_was, .int w_o_keeps, .ref a_o_kept, .int w_o_seens, .ref a_o_seen, .ref a_o_text, .int w_o_texted, .int w_o_at, .ref a_o_told, .int w_o_isBegun, .int w_o_readCards, .ref a_o_readColour, .int w_o_readDeals, .ref a_o_readDeal, .ref a_o_now, .ref a_o_then, .ref a_o_ring, .ref a_o_goes, .ref a_o_far, .ref a_o_met, .int w_o_metMany], jI E a_o_now 16 b4]) (w' := fun b5 => [jO a_o 7 [.int v_o_cards, .ref a_o_colour, .int w_o_dealMany, .ref a_o_deal, .ref a_o_st, .int w_o_acts, .ref a_o_was, .int w_o_keeps, .ref a_o_kept, .int w_o_seens, .ref a_o_seen, .ref a_o_text, .int w_o_texted, .int w_o_at, .ref a_o_told, .int w_o_isBegun, .int w_o_readCards, .ref a_o_readColour, .int w_o_readDeals, .ref a_o_readDeal, .ref a_o_now, .ref a_o_then, .ref a_o_ring, .ref a_o_goes, .ref a_o_far, .ref a_o_met, .int w_o_metMany], jI E a_o_far 16 b3.1, jI E a_o_goes 32 b3.2.1, jI E a_o_now 16 b4, jI E a_o_ring 32 b3.2.2.2.1, jI E a_o_st 16 f_o_st, jI E a_o_then 16 b3.2.2.2.2]) (st1 := fun b5 => [.int b5]) [0, 3] rfl rfl rfl h c_X10_placeOf q_X10_placeOf m4_13 rfl rfl (Nat.le_of_ble_eq_true rfl) ⟨(Nat.le_of_ble_eq_true rfl), (Nat.le_of_ble_eq_true rfl)⟩ ⟨rfl, rfl⟩ ⟨(Nat.le_of_ble_eq_true rfl), (Nat.le_of_ble_eq_true rfl)⟩ dX10_bring_34 rfl (by decide) (fun _ => rfl) (fun _ => rfl) (fun _ => rfl) (fun b5 h => ?_)
        refine j_istore (pc := 37) (lv' := [(4, .int b5), (0, .ref a_o), (1, .int x1), (2, .int x2), (3, .int x3)]) dX10_bring_37 (Nat.le_of_ble_eq_true rfl) rfl ?_
        refine j_aload_n (pc := 39) 1 dX10_bring_39 rfl rfl ?_
        refine j_get (pc := 40) (v := .ref a_o_far) 0 24 rfl rfl (Nat.le_of_ble_eq_true rfl) iwX10 m3_128 rfl dX10_bring_40 ?_
        refine j_iload (pc := 43) 0 dX10_bring_43 rfl ?_
        refine j_iald (pc := 45) 1 rfl dX10_bring_45 h (fun h => ?_)
        refine j_istore (pc := 46) (lv' := [(5, .int (b3.1 b5.toNatClampNeg)), (4, .int b5), (0, .ref a_o), (1, .int x1), (2, .int x2), (3, .int x3)]) dX10_bring_46 (Nat.le_of_ble_eq_true rfl) rfl ?_
        refine j_iload (pc := 48) 0 dX10_bring_48 rfl ?_
        refine j_if_lt (pc := 50) (tgt := 57) dX10_bring_50 (by decide) h (fun h => ?_) (fun h => ?_)
        · refine j_iload (pc := 57) 0 dX10_bring_57 rfl ?_
          cases h
          exact j_iret (pc := 59) rfl dX10_bring_59 (Nat.le_of_ble_eq_true rfl) (Nat.le_of_ble_eq_true rfl) (jd_i rfl rfl)
        · refine j_iload_n (pc := 53) 5 dX10_bring_53 rfl rfl ?_
          refine j_if_ge (pc := 54) (tgt := 60) dX10_bring_54 (by decide) h (fun h => ?_) (fun h => ?_)
          · refine j_iconst (pc := 60) dX10_bring_60 ic_0 ?_
            refine j_istore (pc := 61) (lv' := [(6, .int (0 : Int32)), (5, .int (b3.1 b5.toNatClampNeg)), (4, .int b5), (0, .ref a_o), (1, .int x1), (2, .int x2), (3, .int x3)]) dX10_bring_61 (Nat.le_of_ble_eq_true rfl) rfl ?_
            exact j_sub (lv' := [(0, .ref a_o), (3, .int x3), (4, .int b5), (5, .int (b3.1 b5.toNatClampNeg)), (6, .int (0 : Int32))]) [3, 6, 2, 1, 0] rfl (w_X10_bring_63 _ _ _ _ _ _ _ _ _ u h)
          · refine j_iload (pc := 57) 0 dX10_bring_57 rfl ?_
            cases h
            exact j_iret (pc := 59) rfl dX10_bring_59 (Nat.le_of_ble_eq_true rfl) (Nat.le_of_ble_eq_true rfl) (jd_i rfl rfl)
      · refine j_iconst (pc := 21) dX10_bring_21 ic_m1 ?_
        cases h
        exact j_iret (pc := 22) rfl dX10_bring_22 (Nat.le_of_ble_eq_true rfl) (Nat.le_of_ble_eq_true rfl) (jd_i rfl rfl)
set_option maxRecDepth 20000 in
theorem w_X10_beside_76 {l : Launch} {E : jE} {F : Nat} {x1 : Int32} {x2 : Int32} {v_o_cards : Int32} {f_o_st : Nat → Int32} {a_o a_o_colour a_o_deal a_o_st a_o_was a_o_kept a_o_seen a_o_text a_o_told a_o_readColour a_o_readDeal a_o_now a_o_then a_o_ring a_o_goes a_o_far a_o_met : Nat} {w_o_dealMany : Int32} {w_o_acts : Int32} {w_o_keeps : Int32} {w_o_seens : Int32} {w_o_texted : Int32} {w_o_at : Int32} {w_o_isBegun : Int32} {w_o_readCards : Int32} {w_o_readDeals : Int32} {w_o_metMany : Int32} {k_47 : Int32 → Int32 → Int32 → (Nat → Int32) → (Nat → Int32) → (Nat → Int32) → (Nat → Int32) → Option (Int32 × (Nat → Int32) × (Nat → Int32) × (Nat → Int32) × (Nat → Int32))} {k_57 : Int32 → Int32 → Int32 → Int32 → (Nat → Int32) → (Nat → Int32) → (Nat → Int32) → (Nat → Int32) → Option (Int32 × (Nat → Int32) × (Nat → Int32) × (Nat → Int32) × (Nat → Int32))} (hk_47 : ∀ (x3 : Int32) (x4 : Int32) (x5 : Int32) (f_o_goes : Nat → Int32) (f_o_now : Nat → Int32) (f_o_ring : Nat → Int32) (f_o_then : Nat → Int32) (u : Int32 × (Nat → Int32) × (Nat → Int32) × (Nat → Int32) × (Nat → Int32)), k_47 x3 x4 x5 f_o_goes f_o_now f_o_ring f_o_then = some u → jT l E K_X10_beside 0 0 47 [(0, .ref a_o), (3, .int x3), (4, .int x4), (5, .int x5)] [] [jO a_o 7 [.int v_o_cards, .ref a_o_colour, .int w_o_dealMany, .ref a_o_deal, .ref a_o_st, .int w_o_acts, .ref a_o_was, .int w_o_keeps, .ref a_o_kept, .int w_o_seens, .ref a_o_seen, .ref a_o_text, .int w_o_texted, .int w_o_at, .ref a_o_told, .int w_o_isBegun, .int w_o_readCards, .ref a_o_readColour, .int w_o_readDeals, .ref a_o_readDeal, .ref a_o_now, .ref a_o_then, .ref a_o_ring, .ref a_o_goes, .ref a_o_far, .ref a_o_met, .int w_o_metMany], jI E a_o_goes 32 f_o_goes, jI E a_o_now 16 f_o_now, jI E a_o_ring 32 f_o_ring, jI E a_o_st 16 f_o_st, jI E a_o_then 16 f_o_then] (jd (some (.int u.1)) [jO a_o 7 [.int v_o_cards, .ref a_o_colour, .int w_o_dealMany, .ref a_o_deal, .ref a_o_st, .int w_o_acts, .ref a_o_was, .int w_o_keeps, .ref a_o_kept, .int w_o_seens, .ref a_o_seen, .ref a_o_text, .int w_o_texted, .int w_o_at, .ref a_o_told, .int w_o_isBegun, .int w_o_readCards, .ref a_o_readColour, .int w_o_readDeals, .ref a_o_readDeal, .ref a_o_now, .ref a_o_then, .ref a_o_ring, .ref a_o_goes, .ref a_o_far, .ref a_o_met, .int w_o_metMany], jI E a_o_goes 32 u.2.1, jI E a_o_now 16 u.2.2.1, jI E a_o_ring 32 u.2.2.2.1, jI E a_o_st 16 f_o_st, jI E a_o_then 16 u.2.2.2.2])) (hk_57 : ∀ (x3 : Int32) (x4 : Int32) (x5 : Int32) (x6 : Int32) (f_o_goes : Nat → Int32) (f_o_now : Nat → Int32) (f_o_ring : Nat → Int32) (f_o_then : Nat → Int32) (u : Int32 × (Nat → Int32) × (Nat → Int32) × (Nat → Int32) × (Nat → Int32)), k_57 x3 x4 x5 x6 f_o_goes f_o_now f_o_ring f_o_then = some u → jT l E K_X10_beside 0 0 57 [(0, .ref a_o), (3, .int x3), (4, .int x4), (5, .int x5), (6, .int x6)] [] [jO a_o 7 [.int v_o_cards, .ref a_o_colour, .int w_o_dealMany, .ref a_o_deal, .ref a_o_st, .int w_o_acts, .ref a_o_was, .int w_o_keeps, .ref a_o_kept, .int w_o_seens, .ref a_o_seen, .ref a_o_text, .int w_o_texted, .int w_o_at, .ref a_o_told, .int w_o_isBegun, .int w_o_readCards, .ref a_o_readColour, .int w_o_readDeals, .ref a_o_readDeal, .ref a_o_now, .ref a_o_then, .ref a_o_ring, .ref a_o_goes, .ref a_o_far, .ref a_o_met, .int w_o_metMany], jI E a_o_goes 32 f_o_goes, jI E a_o_now 16 f_o_now, jI E a_o_ring 32 f_o_ring, jI E a_o_st 16 f_o_st, jI E a_o_then 16 f_o_then] (jd (some (.int u.1)) [jO a_o 7 [.int v_o_cards, .ref a_o_colour, .int w_o_dealMany, .ref a_o_deal, .ref a_o_st, .int w_o_acts, .ref a_o_was, .int w_o_keeps, .ref a_o_kept, .int w_o_seens, .ref a_o_seen, .ref a_o_text, .int w_o_texted, .int w_o_at, .ref a_o_told, .int w_o_isBegun, .int w_o_readCards, .ref a_o_readColour, .int w_o_readDeals, .ref a_o_readDeal, .ref a_o_now, .ref a_o_then, .ref a_o_ring, .ref a_o_goes, .ref a_o_far, .ref a_o_met, .int w_o_metMany], jI E a_o_goes 32 u.2.1, jI E a_o_now 16 u.2.2.1, jI E a_o_ring 32 u.2.2.2.1, jI E a_o_st 16 f_o_st, jI E a_o_then 16 u.2.2.2.2])) : ∀ (n : Nat) (x3 : Int32) (x4 : Int32) (x5 : Int32) (x6 : Int32) (x7 : Int32) (x8 : Int32) (x9 : Int32) (f_o_goes : Nat → Int32) (f_o_now : Nat → Int32) (f_o_ring : Nat → Int32) (f_o_then : Nat → Int32) (u : Int32 × (Nat → Int32) × (Nat → Int32) × (Nat → Int32) × (Nat → Int32)), g_X10_beside_76 F x1 x2 v_o_cards f_o_st k_47 k_57 n x3 x4 x5 x6 x7 x8 x9 f_o_goes f_o_now f_o_ring f_o_then = some u → jT l E K_X10_beside 0 0 76 [(0, .ref a_o), (3, .int x3), (4, .int x4), (5, .int x5), (6, .int x6), (7, .int x7), (8, .int x8), (9, .int x9)] [] [jO a_o 7 [.int v_o_cards, .ref a_o_colour, .int w_o_dealMany, .ref a_o_deal, .ref a_o_st, .int w_o_acts, .ref a_o_was, .int w_o_keeps, .ref a_o_kept, .int w_o_seens, .ref a_o_seen, .ref a_o_text, .int w_o_texted, .int w_o_at, .ref a_o_told, .int w_o_isBegun, .int w_o_readCards, .ref a_o_readColour, .int w_o_readDeals, .ref a_o_readDeal, .ref a_o_now, .ref a_o_then, .ref a_o_ring, .ref a_o_goes, .ref a_o_far, .ref a_o_met, .int w_o_metMany], jI E a_o_goes 32 f_o_goes, jI E a_o_now 16 f_o_now, jI E a_o_ring 32 f_o_ring, jI E a_o_st 16 f_o_st, jI E a_o_then 16 f_o_then] (jd (some (.int u.1)) [jO a_o 7 [.int v_o_cards, .ref a_o_colour, .int w_o_dealMany, .ref a_o_deal, .ref a_o_st, .int w_o_acts, .ref a_o_was, .int w_o_keeps, .ref a_o_kept, .int w_o_seens, .ref a_o_seen, .ref a_o_text, .int w_o_texted, .int w_o_at, .ref a_o_told, .int w_o_isBegun, .int w_o_readCards, .ref a_o_readColour, .int w_o_readDeals, .ref a_o_readDeal, .ref a_o_now, .ref a_o_then, .ref a_o_ring, .ref a_o_goes, .ref a_o_far, .ref a_o_met, .int w_o_metMany], jI E a_o_goes 32 u.2.1, jI E a_o_now 16 u.2.2.1, jI E a_o_ring 32 u.2.2.2.1, jI E a_o_st 16 f_o_st, jI E a_o_then 16 u.2.2.2.2]) := by
  intro n
  induction n with
  | zero =>
    intro x3 x4 x5 x6 x7 x8 x9 f_o_goes f_o_now f_o_ring f_o_then u h
    rw [g_X10_beside_76] at h
    cases h
  | succ n ih =>
    intro x3 x4 x5 x6 x7 x8 x9 f_o_goes f_o_now f_o_ring f_o_then u h
    rw [g_X10_beside_76] at h
    refine j_iload (pc := 76) 7 dX10_beside_76 rfl ?_
    refine j_iload (pc := 78) 3 dX10_beside_78 rfl ?_
    refine j_icmp_ge (pc := 80) (tgt := 128) dX10_beside_80 (by decide) h (fun h => ?_) (fun h => ?_)
    · refine j_iload (pc := 128) 5 dX10_beside_128 rfl ?_
      refine j_iload (pc := 130) 6 dX10_beside_130 rfl ?_
      refine j_isub (pc := 132) dX10_beside_132 ?_
      refine j_iconst (pc := 133) dX10_beside_133 ic_1 ?_
      refine j_icmp_eq (pc := 134) (tgt := 146) dX10_beside_134 (by decide) h (fun h => ?_) (fun h => ?_)
      · refine j_iload (pc := 146) 3 dX10_beside_146 rfl ?_
        cases h
        exact j_iret (pc := 148) rfl dX10_beside_148 (Nat.le_of_ble_eq_true rfl) (Nat.le_of_ble_eq_true rfl) (jd_i rfl rfl)
      · refine j_iload (pc := 137) 6 dX10_beside_137 rfl ?_
        refine j_iload (pc := 139) 5 dX10_beside_139 rfl ?_
        refine j_isub (pc := 141) dX10_beside_141 ?_
        refine j_iconst (pc := 142) dX10_beside_142 ic_1 ?_
        refine j_icmp_ne (pc := 143) (tgt := 149) dX10_beside_143 (by decide) h (fun h => ?_) (fun h => ?_)
        · refine j_iinc (pc := 149) (j := 4) (lv' := [(6, .int (x6 + (1 : Int32))), (0, .ref a_o), (3, .int x3), (4, .int x4), (5, .int x5), (7, .int x7), (8, .int x8), (9, .int x9)]) dX10_beside_149 rfl (congrArg (fun z => x6 + z) ic_1) (Nat.le_of_ble_eq_true rfl) rfl ?_
          refine j_goto (pc := 152) (tgt := 57) dX10_beside_152 (by decide) ?_
          exact j_sub (lv' := [(0, .ref a_o), (3, .int x3), (4, .int x4), (5, .int x5), (6, .int (x6 + (1 : Int32)))]) [1, 2, 3, 4, 0] rfl (hk_57 _ _ _ _ _ _ _ _ u h)
        · refine j_iload (pc := 146) 3 dX10_beside_146 rfl ?_
          cases h
          exact j_iret (pc := 148) rfl dX10_beside_148 (Nat.le_of_ble_eq_true rfl) (Nat.le_of_ble_eq_true rfl) (jd_i rfl rfl)
    · refine j_iload (pc := 83) 4 dX10_beside_83 rfl ?_
      refine j_iload (pc := 85) 7 dX10_beside_85 rfl ?_
      refine j_ishr (pc := 87) dX10_beside_87 ?_
      refine j_iconst (pc := 88) dX10_beside_88 ic_1 ?_
      refine j_iand (pc := 89) dX10_beside_89 ?_
      refine j_istore (pc := 90) (lv' := [(10, .int ((jshr x6 x9) &&& (1 : Int32))), (0, .ref a_o), (3, .int x3), (4, .int x4), (5, .int x5), (6, .int x6), (7, .int x7), (8, .int x8), (9, .int x9)]) dX10_beside_90 (Nat.le_of_ble_eq_true rfl) rfl ?_
      refine j_aload_n (pc := 92) 1 dX10_beside_92 rfl rfl ?_
      refine j_get (pc := 93) (v := .ref a_o_goes) 0 23 rfl rfl (Nat.le_of_ble_eq_true rfl) iwX10 m3_127 rfl dX10_beside_93 ?_
      refine j_bipush (pc := 96) dX10_beside_96 bc_16 ?_
      refine j_iload (pc := 98) 0 dX10_beside_98 rfl ?_
      refine j_imul (pc := 100) dX10_beside_100 ?_
      refine j_iload (pc := 101) 6 dX10_beside_101 rfl ?_
      refine j_iadd (pc := 103) dX10_beside_103 ?_
      refine j_iald (pc := 104) 1 rfl dX10_beside_104 h (fun h => ?_)
      refine j_istore (pc := 105) (lv' := [(7, .int (f_o_goes (((16 : Int32) * ((jshr x6 x9) &&& (1 : Int32))) + x7).toNatClampNeg)), (10, .int ((jshr x6 x9) &&& (1 : Int32))), (0, .ref a_o), (3, .int x3), (4, .int x4), (5, .int x5), (6, .int x6), (8, .int x8), (9, .int x9)]) dX10_beside_105 (Nat.le_of_ble_eq_true rfl) rfl ?_
      refine j_aload_n (pc := 107) 2 dX10_beside_107 rfl rfl ?_
      refine j_get (pc := 108) (v := .ref a_o_goes) 0 23 rfl rfl (Nat.le_of_ble_eq_true rfl) iwX10 m3_127 rfl dX10_beside_108 ?_
      refine j_bipush (pc := 111) dX10_beside_111 bc_16 ?_
      refine j_iload (pc := 113) 1 dX10_beside_113 rfl ?_
      refine j_imul (pc := 115) dX10_beside_115 ?_
      refine j_iload (pc := 116) 7 dX10_beside_116 rfl ?_
      refine j_iadd (pc := 118) dX10_beside_118 ?_
      refine j_iald (pc := 119) 1 rfl dX10_beside_119 h (fun h => ?_)
      refine j_istore (pc := 120) (lv' := [(8, .int (f_o_goes (((16 : Int32) * ((jshr x6 x9) &&& (1 : Int32))) + x8).toNatClampNeg)), (7, .int (f_o_goes (((16 : Int32) * ((jshr x6 x9) &&& (1 : Int32))) + x7).toNatClampNeg)), (10, .int ((jshr x6 x9) &&& (1 : Int32))), (0, .ref a_o), (3, .int x3), (4, .int x4), (5, .int x5), (6, .int x6), (9, .int x9)]) dX10_beside_120 (Nat.le_of_ble_eq_true rfl) rfl ?_
      refine j_iinc (pc := 122) (j := 8) (lv' := [(9, .int (x9 + (1 : Int32))), (8, .int (f_o_goes (((16 : Int32) * ((jshr x6 x9) &&& (1 : Int32))) + x8).toNatClampNeg)), (7, .int (f_o_goes (((16 : Int32) * ((jshr x6 x9) &&& (1 : Int32))) + x7).toNatClampNeg)), (10, .int ((jshr x6 x9) &&& (1 : Int32))), (0, .ref a_o), (3, .int x3), (4, .int x4), (5, .int x5), (6, .int x6)]) dX10_beside_122 rfl (congrArg (fun z => x9 + z) ic_1) (Nat.le_of_ble_eq_true rfl) rfl ?_
      refine j_goto (pc := 125) (tgt := 76) dX10_beside_125 (by decide) ?_
      exact j_sub (lv' := [(0, .ref a_o), (3, .int x3), (4, .int x4), (5, .int x5), (6, .int x6), (7, .int (f_o_goes (((16 : Int32) * ((jshr x6 x9) &&& (1 : Int32))) + x7).toNatClampNeg)), (8, .int (f_o_goes (((16 : Int32) * ((jshr x6 x9) &&& (1 : Int32))) + x8).toNatClampNeg)), (9, .int (x9 + (1 : Int32)))]) [4, 5, 6, 7, 8, 2, 1, 0] rfl (ih _ _ _ _ _ _ _ _ _ _ _ u h)
set_option maxRecDepth 20000 in
theorem w_X10_beside_57 {l : Launch} {E : jE} {F : Nat} {x1 : Int32} {x2 : Int32} {v_o_cards : Int32} {f_o_st : Nat → Int32} {a_o a_o_colour a_o_deal a_o_st a_o_was a_o_kept a_o_seen a_o_text a_o_told a_o_readColour a_o_readDeal a_o_now a_o_then a_o_ring a_o_goes a_o_far a_o_met : Nat} {w_o_dealMany : Int32} {w_o_acts : Int32} {w_o_keeps : Int32} {w_o_seens : Int32} {w_o_texted : Int32} {w_o_at : Int32} {w_o_isBegun : Int32} {w_o_readCards : Int32} {w_o_readDeals : Int32} {w_o_metMany : Int32} {k_47 : Int32 → Int32 → Int32 → (Nat → Int32) → (Nat → Int32) → (Nat → Int32) → (Nat → Int32) → Option (Int32 × (Nat → Int32) × (Nat → Int32) × (Nat → Int32) × (Nat → Int32))} (hk_47 : ∀ (x3 : Int32) (x4 : Int32) (x5 : Int32) (f_o_goes : Nat → Int32) (f_o_now : Nat → Int32) (f_o_ring : Nat → Int32) (f_o_then : Nat → Int32) (u : Int32 × (Nat → Int32) × (Nat → Int32) × (Nat → Int32) × (Nat → Int32)), k_47 x3 x4 x5 f_o_goes f_o_now f_o_ring f_o_then = some u → jT l E K_X10_beside 0 0 47 [(0, .ref a_o), (3, .int x3), (4, .int x4), (5, .int x5)] [] [jO a_o 7 [.int v_o_cards, .ref a_o_colour, .int w_o_dealMany, .ref a_o_deal, .ref a_o_st, .int w_o_acts, .ref a_o_was, .int w_o_keeps, .ref a_o_kept, .int w_o_seens, .ref a_o_seen, .ref a_o_text, .int w_o_texted, .int w_o_at, .ref a_o_told, .int w_o_isBegun, .int w_o_readCards, .ref a_o_readColour, .int w_o_readDeals, .ref a_o_readDeal, .ref a_o_now, .ref a_o_then, .ref a_o_ring, .ref a_o_goes, .ref a_o_far, .ref a_o_met, .int w_o_metMany], jI E a_o_goes 32 f_o_goes, jI E a_o_now 16 f_o_now, jI E a_o_ring 32 f_o_ring, jI E a_o_st 16 f_o_st, jI E a_o_then 16 f_o_then] (jd (some (.int u.1)) [jO a_o 7 [.int v_o_cards, .ref a_o_colour, .int w_o_dealMany, .ref a_o_deal, .ref a_o_st, .int w_o_acts, .ref a_o_was, .int w_o_keeps, .ref a_o_kept, .int w_o_seens, .ref a_o_seen, .ref a_o_text, .int w_o_texted, .int w_o_at, .ref a_o_told, .int w_o_isBegun, .int w_o_readCards, .ref a_o_readColour, .int w_o_readDeals, .ref a_o_readDeal, .ref a_o_now, .ref a_o_then, .ref a_o_ring, .ref a_o_goes, .ref a_o_far, .ref a_o_met, .int w_o_metMany], jI E a_o_goes 32 u.2.1, jI E a_o_now 16 u.2.2.1, jI E a_o_ring 32 u.2.2.2.1, jI E a_o_st 16 f_o_st, jI E a_o_then 16 u.2.2.2.2])) : ∀ (n : Nat) (x3 : Int32) (x4 : Int32) (x5 : Int32) (x6 : Int32) (f_o_goes : Nat → Int32) (f_o_now : Nat → Int32) (f_o_ring : Nat → Int32) (f_o_then : Nat → Int32) (u : Int32 × (Nat → Int32) × (Nat → Int32) × (Nat → Int32) × (Nat → Int32)), g_X10_beside_57 F x1 x2 v_o_cards f_o_st k_47 n x3 x4 x5 x6 f_o_goes f_o_now f_o_ring f_o_then = some u → jT l E K_X10_beside 0 0 57 [(0, .ref a_o), (3, .int x3), (4, .int x4), (5, .int x5), (6, .int x6)] [] [jO a_o 7 [.int v_o_cards, .ref a_o_colour, .int w_o_dealMany, .ref a_o_deal, .ref a_o_st, .int w_o_acts, .ref a_o_was, .int w_o_keeps, .ref a_o_kept, .int w_o_seens, .ref a_o_seen, .ref a_o_text, .int w_o_texted, .int w_o_at, .ref a_o_told, .int w_o_isBegun, .int w_o_readCards, .ref a_o_readColour, .int w_o_readDeals, .ref a_o_readDeal, .ref a_o_now, .ref a_o_then, .ref a_o_ring, .ref a_o_goes, .ref a_o_far, .ref a_o_met, .int w_o_metMany], jI E a_o_goes 32 f_o_goes, jI E a_o_now 16 f_o_now, jI E a_o_ring 32 f_o_ring, jI E a_o_st 16 f_o_st, jI E a_o_then 16 f_o_then] (jd (some (.int u.1)) [jO a_o 7 [.int v_o_cards, .ref a_o_colour, .int w_o_dealMany, .ref a_o_deal, .ref a_o_st, .int w_o_acts, .ref a_o_was, .int w_o_keeps, .ref a_o_kept, .int w_o_seens, .ref a_o_seen, .ref a_o_text, .int w_o_texted, .int w_o_at, .ref a_o_told, .int w_o_isBegun, .int w_o_readCards, .ref a_o_readColour, .int w_o_readDeals, .ref a_o_readDeal, .ref a_o_now, .ref a_o_then, .ref a_o_ring, .ref a_o_goes, .ref a_o_far, .ref a_o_met, .int w_o_metMany], jI E a_o_goes 32 u.2.1, jI E a_o_now 16 u.2.2.1, jI E a_o_ring 32 u.2.2.2.1, jI E a_o_st 16 f_o_st, jI E a_o_then 16 u.2.2.2.2]) := by
  intro n
  induction n with
  | zero =>
    intro x3 x4 x5 x6 f_o_goes f_o_now f_o_ring f_o_then u h
    rw [g_X10_beside_57] at h
    cases h
  | succ n ih =>
    intro x3 x4 x5 x6 f_o_goes f_o_now f_o_ring f_o_then u h
    rw [g_X10_beside_57] at h
    refine j_iload (pc := 57) 4 dX10_beside_57 rfl ?_
    refine j_iconst (pc := 59) dX10_beside_59 ic_1 ?_
    refine j_iload (pc := 60) 3 dX10_beside_60 rfl ?_
    refine j_ishl (pc := 62) dX10_beside_62 ?_
    refine j_icmp_ge (pc := 63) (tgt := 155) dX10_beside_63 (by decide) h (fun h => ?_) (fun h => ?_)
    · refine j_iinc (pc := 155) (j := 3) (lv' := [(5, .int (x5 + (1 : Int32))), (0, .ref a_o), (3, .int x3), (4, .int x4), (6, .int x6)]) dX10_beside_155 rfl (congrArg (fun z => x5 + z) ic_1) (Nat.le_of_ble_eq_true rfl) rfl ?_
      refine j_goto (pc := 158) (tgt := 47) dX10_beside_158 (by decide) ?_
      exact j_sub (lv' := [(0, .ref a_o), (3, .int x3), (4, .int x4), (5, .int (x5 + (1 : Int32)))]) [1, 2, 3, 0] rfl (hk_47 _ _ _ _ _ _ _ u h)
    · refine j_iload_n (pc := 66) 1 dX10_beside_66 rfl rfl ?_
      refine j_istore (pc := 67) (lv' := [(7, .int x3), (0, .ref a_o), (3, .int x3), (4, .int x4), (5, .int x5), (6, .int x6)]) dX10_beside_67 (Nat.le_of_ble_eq_true rfl) rfl ?_
      refine j_iload (pc := 69) 3 dX10_beside_69 rfl ?_
      refine j_istore (pc := 71) (lv' := [(8, .int x4), (7, .int x3), (0, .ref a_o), (3, .int x3), (4, .int x4), (5, .int x5), (6, .int x6)]) dX10_beside_71 (Nat.le_of_ble_eq_true rfl) rfl ?_
      refine j_iconst (pc := 73) dX10_beside_73 ic_0 ?_
      refine j_istore (pc := 74) (lv' := [(9, .int (0 : Int32)), (8, .int x4), (7, .int x3), (0, .ref a_o), (3, .int x3), (4, .int x4), (5, .int x5), (6, .int x6)]) dX10_beside_74 (Nat.le_of_ble_eq_true rfl) rfl ?_
      exact j_sub (lv' := [(0, .ref a_o), (3, .int x3), (4, .int x4), (5, .int x5), (6, .int x6), (7, .int x3), (8, .int x4), (9, .int (0 : Int32))]) [3, 4, 5, 6, 7, 2, 1, 0] rfl (w_X10_beside_76 hk_47 ih _ _ _ _ _ _ _ _ _ _ _ _ u h)
set_option maxRecDepth 20000 in
theorem w_X10_beside_47 {l : Launch} {E : jE} {F : Nat} {x1 : Int32} {x2 : Int32} {v_o_cards : Int32} {f_o_st : Nat → Int32} {a_o a_o_colour a_o_deal a_o_st a_o_was a_o_kept a_o_seen a_o_text a_o_told a_o_readColour a_o_readDeal a_o_now a_o_then a_o_ring a_o_goes a_o_far a_o_met : Nat} {w_o_dealMany : Int32} {w_o_acts : Int32} {w_o_keeps : Int32} {w_o_seens : Int32} {w_o_texted : Int32} {w_o_at : Int32} {w_o_isBegun : Int32} {w_o_readCards : Int32} {w_o_readDeals : Int32} {w_o_metMany : Int32} : ∀ (n : Nat) (x3 : Int32) (x4 : Int32) (x5 : Int32) (f_o_goes : Nat → Int32) (f_o_now : Nat → Int32) (f_o_ring : Nat → Int32) (f_o_then : Nat → Int32) (u : Int32 × (Nat → Int32) × (Nat → Int32) × (Nat → Int32) × (Nat → Int32)), g_X10_beside_47 F x1 x2 v_o_cards f_o_st n x3 x4 x5 f_o_goes f_o_now f_o_ring f_o_then = some u → jT l E K_X10_beside 0 0 47 [(0, .ref a_o), (3, .int x3), (4, .int x4), (5, .int x5)] [] [jO a_o 7 [.int v_o_cards, .ref a_o_colour, .int w_o_dealMany, .ref a_o_deal, .ref a_o_st, .int w_o_acts, .ref a_o_was, .int w_o_keeps, .ref a_o_kept, .int w_o_seens, .ref a_o_seen, .ref a_o_text, .int w_o_texted, .int w_o_at, .ref a_o_told, .int w_o_isBegun, .int w_o_readCards, .ref a_o_readColour, .int w_o_readDeals, .ref a_o_readDeal, .ref a_o_now, .ref a_o_then, .ref a_o_ring, .ref a_o_goes, .ref a_o_far, .ref a_o_met, .int w_o_metMany], jI E a_o_goes 32 f_o_goes, jI E a_o_now 16 f_o_now, jI E a_o_ring 32 f_o_ring, jI E a_o_st 16 f_o_st, jI E a_o_then 16 f_o_then] (jd (some (.int u.1)) [jO a_o 7 [.int v_o_cards, .ref a_o_colour, .int w_o_dealMany, .ref a_o_deal, .ref a_o_st, .int w_o_acts, .ref a_o_was, .int w_o_keeps, .ref a_o_kept, .int w_o_seens, .ref a_o_seen, .ref a_o_text, .int w_o_texted, .int w_o_at, .ref a_o_told, .int w_o_isBegun, .int w_o_readCards, .ref a_o_readColour, .int w_o_readDeals, .ref a_o_readDeal, .ref a_o_now, .ref a_o_then, .ref a_o_ring, .ref a_o_goes, .ref a_o_far, .ref a_o_met, .int w_o_metMany], jI E a_o_goes 32 u.2.1, jI E a_o_now 16 u.2.2.1, jI E a_o_ring 32 u.2.2.2.1, jI E a_o_st 16 f_o_st, jI E a_o_then 16 u.2.2.2.2]) := by
  intro n
  induction n with
  | zero =>
    intro x3 x4 x5 f_o_goes f_o_now f_o_ring f_o_then u h
    rw [g_X10_beside_47] at h
    cases h
  | succ n ih =>
    intro x3 x4 x5 f_o_goes f_o_now f_o_ring f_o_then u h
    rw [g_X10_beside_47] at h
    refine j_iload (pc := 47) 3 dX10_beside_47 rfl ?_
    refine j_bipush (pc := 49) dX10_beside_49 bc_8 ?_
    refine j_icmp_gt (pc := 51) (tgt := 161) dX10_beside_51 (by decide) h (fun h => ?_) (fun h => ?_)
    · refine j_bipush (pc := 161) dX10_beside_161 bc_m4 ?_
      cases h
      exact j_iret (pc := 163) rfl dX10_beside_163 (Nat.le_of_ble_eq_true rfl) (Nat.le_of_ble_eq_true rfl) (jd_i rfl rfl)
    · refine j_iconst (pc := 54) dX10_beside_54 ic_0 ?_
      refine j_istore (pc := 55) (lv' := [(6, .int (0 : Int32)), (0, .ref a_o), (3, .int x3), (4, .int x4), (5, .int x5)]) dX10_beside_55 (Nat.le_of_ble_eq_true rfl) rfl ?_
      exact j_sub (lv' := [(0, .ref a_o), (3, .int x3), (4, .int x4), (5, .int x5), (6, .int (0 : Int32))]) [1, 2, 3, 4, 0] rfl (w_X10_beside_57 ih _ _ _ _ _ _ _ _ _ u h)
set_option maxRecDepth 20000 in
theorem c_X10_beside {l : Launch} {E : jE} {F : Nat} {x1 : Int32} {x2 : Int32} {v_o_cards : Int32} {f_o_st : Nat → Int32} {a_o a_o_colour a_o_deal a_o_st a_o_was a_o_kept a_o_seen a_o_text a_o_told a_o_readColour a_o_readDeal a_o_now a_o_then a_o_ring a_o_goes a_o_far a_o_met : Nat} {w_o_dealMany : Int32} {w_o_acts : Int32} {w_o_keeps : Int32} {w_o_seens : Int32} {w_o_texted : Int32} {w_o_at : Int32} {w_o_isBegun : Int32} {w_o_readCards : Int32} {w_o_readDeals : Int32} {w_o_metMany : Int32} {f_o_goes : Nat → Int32} {f_o_now : Nat → Int32} {f_o_ring : Nat → Int32} {f_o_then : Nat → Int32} : ∀ u : Int32 × (Nat → Int32) × (Nat → Int32) × (Nat → Int32) × (Nat → Int32), f_X10_beside F x1 x2 v_o_cards f_o_st f_o_goes f_o_now f_o_ring f_o_then = some u → jM l E K_X10_beside [.ref a_o, .int x1, .int x2] [jO a_o 7 [.int v_o_cards, .ref a_o_colour, .int w_o_dealMany, .ref a_o_deal, .ref a_o_st, .int w_o_acts, .ref a_o_was, .int w_o_keeps, .ref a_o_kept, .int w_o_seens, .ref a_o_seen, .ref a_o_text, .int w_o_texted, .int w_o_at, .ref a_o_told, .int w_o_isBegun, .int w_o_readCards, .ref a_o_readColour, .int w_o_readDeals, .ref a_o_readDeal, .ref a_o_now, .ref a_o_then, .ref a_o_ring, .ref a_o_goes, .ref a_o_far, .ref a_o_met, .int w_o_metMany], jI E a_o_goes 32 f_o_goes, jI E a_o_now 16 f_o_now, jI E a_o_ring 32 f_o_ring, jI E a_o_st 16 f_o_st, jI E a_o_then 16 f_o_then] (jd (some (.int u.1)) [jO a_o 7 [.int v_o_cards, .ref a_o_colour, .int w_o_dealMany, .ref a_o_deal, .ref a_o_st, .int w_o_acts, .ref a_o_was, .int w_o_keeps, .ref a_o_kept, .int w_o_seens, .ref a_o_seen, .ref a_o_text, .int w_o_texted, .int w_o_at, .ref a_o_told, .int w_o_isBegun, .int w_o_readCards, .ref a_o_readColour, .int w_o_readDeals, .ref a_o_readDeal, .ref a_o_now, .ref a_o_then, .ref a_o_ring, .ref a_o_goes, .ref a_o_far, .ref a_o_met, .int w_o_metMany], jI E a_o_goes 32 u.2.1, jI E a_o_now 16 u.2.2.1, jI E a_o_ring 32 u.2.2.2.1, jI E a_o_st 16 f_o_st, jI E a_o_then 16 u.2.2.2.2]) := by
  intro u h
  unfold f_X10_beside at h
  refine j_met [(0, .ref a_o), (1, .int x1), (2, .int x2)] (by decide +kernel) (Nat.le_of_ble_eq_true rfl) rfl ?_
  refine j_aload_n (pc := 0) 0 dX10_beside_0 rfl rfl ?_
  refine j_iload_n (pc := 1) 1 dX10_beside_1 rfl rfl ?_
  refine j_V (pc := 2) (q0 := 0) (Kc := K_X10_isCard) (As := [.int x1]) (rest := []) (wc := [jO a_o 7 [.int v_o_cards, .ref a_o_colour, .int w_o_dealMany, .ref a_o_deal, .ref a_o_st, .int w_o_acts, .ref a_o_was, .int w_o_keeps, .ref a_o_kept, .int w_o_seens, .ref a_o_seen, .ref a_o_text, .int w_o_texted, .int w_o_at, .ref a_o_told, .int w_o_isBegun, .int w_o_readCards, .ref a_o_readColour, .int w_o_readDeals, .ref a_o_readDeal, .ref a_o_now, .ref a_o_then, .ref a_o_ring, .ref a_o_goes, .ref a_o_far, .ref a_o_met, .int w_o_metMany]]) (w' := fun b1 => [jO a_o 7 [.int v_o_cards, .ref a_o_colour, .int w_o_dealMany, .ref a_o_deal, .ref a_o_st, .int w_o_acts, .ref a_o_was, .int w_o_keeps, .ref a_o_kept, .int w_o_seens, .ref a_o_seen, .ref a_o_text, .int w_o_texted, .int w_o_at, .ref a_o_told, .int w_o_isBegun, .int w_o_readCards, .ref a_o_readColour, .int w_o_readDeals, .ref a_o_readDeal, .ref a_o_now, .ref a_o_then, .ref a_o_ring, .ref a_o_goes, .ref a_o_far, .ref a_o_met, .int w_o_metMany], jI E a_o_goes 32 f_o_goes, jI E a_o_now 16 f_o_now, jI E a_o_ring 32 f_o_ring, jI E a_o_st 16 f_o_st, jI E a_o_then 16 f_o_then]) (st1 := fun b1 => [.int b1]) [0] rfl rfl rfl h c_X10_isCard q_X10_isCard m4_1 rfl rfl (Nat.le_of_ble_eq_true rfl) ⟨(Nat.le_of_ble_eq_true rfl), (Nat.le_of_ble_eq_true rfl)⟩ ⟨rfl, rfl⟩ ⟨(Nat.le_of_ble_eq_true rfl), (Nat.le_of_ble_eq_true rfl)⟩ dX10_beside_2 rfl (by decide) (fun _ => rfl) (fun _ => rfl) (fun _ => rfl) (fun b1 h => ?_)
  refine j_if_eq (pc := 5) (tgt := 21) dX10_beside_5 (by decide) h (fun h => ?_) (fun h => ?_)
  · refine j_iconst (pc := 21) dX10_beside_21 ic_m1 ?_
    cases h
    exact j_iret (pc := 22) rfl dX10_beside_22 (Nat.le_of_ble_eq_true rfl) (Nat.le_of_ble_eq_true rfl) (jd_i rfl rfl)
  · refine j_aload_n (pc := 8) 0 dX10_beside_8 rfl rfl ?_
    refine j_iload_n (pc := 9) 2 dX10_beside_9 rfl rfl ?_
    refine j_V (pc := 10) (q0 := 0) (Kc := K_X10_isCard) (As := [.int x2]) (rest := []) (wc := [jO a_o 7 [.int v_o_cards, .ref a_o_colour, .int w_o_dealMany, .ref a_o_deal, .ref a_o_st, .int w_o_acts, .ref a_o_was, .int w_o_keeps, .ref a_o_kept, .int w_o_seens, .ref a_o_seen, .ref a_o_text, .int w_o_texted, .int w_o_at, .ref a_o_told, .int w_o_isBegun, .int w_o_readCards, .ref a_o_readColour, .int w_o_readDeals, .ref a_o_readDeal, .ref a_o_now, .ref a_o_then, .ref a_o_ring, .ref a_o_goes, .ref a_o_far, .ref a_o_met, .int w_o_metMany]]) (w' := fun b2 => [jO a_o 7 [.int v_o_cards, .ref a_o_colour, .int w_o_dealMany, .ref a_o_deal, .ref a_o_st, .int w_o_acts, .ref a_o_was, .int w_o_keeps, .ref a_o_kept, .int w_o_seens, .ref a_o_seen, .ref a_o_text, .int w_o_texted, .int w_o_at, .ref a_o_told, .int w_o_isBegun, .int w_o_readCards, .ref a_o_readColour, .int w_o_readDeals, .ref a_o_readDeal, .ref a_o_now, .ref a_o_then, .ref a_o_ring, .ref a_o_goes, .ref a_o_far, .ref a_o_met, .int w_o_metMany], jI E a_o_goes 32 f_o_goes, jI E a_o_now 16 f_o_now, jI E a_o_ring 32 f_o_ring, jI E a_o_st 16 f_o_st, jI E a_o_then 16 f_o_then]) (st1 := fun b2 => [.int b2]) [0] rfl rfl rfl h c_X10_isCard q_X10_isCard m4_1 rfl rfl (Nat.le_of_ble_eq_true rfl) ⟨(Nat.le_of_ble_eq_true rfl), (Nat.le_of_ble_eq_true rfl)⟩ ⟨rfl, rfl⟩ ⟨(Nat.le_of_ble_eq_true rfl), (Nat.le_of_ble_eq_true rfl)⟩ dX10_beside_10 rfl (by decide) (fun _ => rfl) (fun _ => rfl) (fun _ => rfl) (fun b2 h => ?_)
    refine j_if_eq (pc := 13) (tgt := 21) dX10_beside_13 (by decide) h (fun h => ?_) (fun h => ?_)
    · refine j_iconst (pc := 21) dX10_beside_21 ic_m1 ?_
      cases h
      exact j_iret (pc := 22) rfl dX10_beside_22 (Nat.le_of_ble_eq_true rfl) (Nat.le_of_ble_eq_true rfl) (jd_i rfl rfl)
    · refine j_iload_n (pc := 16) 1 dX10_beside_16 rfl rfl ?_
      refine j_iload_n (pc := 17) 2 dX10_beside_17 rfl rfl ?_
      refine j_icmp_ne (pc := 18) (tgt := 23) dX10_beside_18 (by decide) h (fun h => ?_) (fun h => ?_)
      · refine j_aload_n (pc := 23) 0 dX10_beside_23 rfl rfl ?_
        refine j_V (pc := 24) (q0 := 0) (Kc := K_X10_findGoes) (As := []) (rest := []) (wc := [jO a_o 7 [.int v_o_cards, .ref a_o_colour, .int w_o_dealMany, .ref a_o_deal, .ref a_o_st, .int w_o_acts, .ref a_o_was, .int w_o_keeps, .ref a_o_kept, .int w_o_seens, .ref a_o_seen, .ref a_o_text, .int w_o_texted, .int w_o_at, .ref a_o_told, .int w_o_isBegun, .int w_o_readCards, .ref a_o_readColour, .int w_o_readDeals, .ref a_o_readDeal, .ref a_o_now, .ref a_o_then, .ref a_o_ring, .ref a_o_goes, .ref a_o_far, .ref a_o_met, .int w_o_metMany], jI E a_o_goes 32 f_o_goes, jI E a_o_now 16 f_o_now, jI E a_o_ring 32 f_o_ring, jI E a_o_then 16 f_o_then]) (w' := fun b3 => [jO a_o 7 [.int v_o_cards, .ref a_o_colour, .int w_o_dealMany, .ref a_o_deal, .ref a_o_st, .int w_o_acts, .ref a_o_was, .int w_o_keeps, .ref a_o_kept, .int w_o_seens, .ref a_o_seen, .ref a_o_text, .int w_o_texted, .int w_o_at, .ref a_o_told, .int w_o_isBegun, .int w_o_readCards, .ref a_o_readColour, .int w_o_readDeals, .ref a_o_readDeal, .ref a_o_now, .ref a_o_then, .ref a_o_ring, .ref a_o_goes, .ref a_o_far, .ref a_o_met, .int w_o_metMany], jI E a_o_goes 32 b3.1, jI E a_o_now 16 b3.2.1, jI E a_o_ring 32 b3.2.2.1, jI E a_o_st 16 f_o_st, jI E a_o_then 16 b3.2.2.2]) (st1 := fun b3 => []) [0, 1, 2, 3, 5] rfl rfl rfl h c_X10_findGoes q_X10_findGoes m4_100 rfl rfl (Nat.le_of_ble_eq_true rfl) ⟨(Nat.le_of_ble_eq_true rfl), (Nat.le_of_ble_eq_true rfl)⟩ ⟨rfl, rfl⟩ ⟨(Nat.le_of_ble_eq_true rfl), (Nat.le_of_ble_eq_true rfl)⟩ dX10_beside_24 rfl (by decide) (fun _ => rfl) (fun _ => rfl) (fun _ => rfl) (fun b3 h => ?_)
        refine j_aload_n (pc := 27) 0 dX10_beside_27 rfl rfl ?_
        refine j_V (pc := 28) (q0 := 0) (Kc := K_X10_asItIs) (As := []) (rest := []) (wc := [jO a_o 7 [.int v_o_cards, .ref a_o_colour, .int w_o_dealMany, .ref a_o_deal, .ref a_o_st, .int w_o_acts, .ref a_o_was, .int w_o_keeps, .ref a_o_kept, .int w_o_seens, .ref a_o_seen, .ref a_o_text, .int w_o_texted, .int w_o_at, .ref a_o_told, .int w_o_isBegun, .int w_o_readCards, .ref a_o_readColour, .int w_o_readDeals, .ref a_o_readDeal, .ref a_o_now, .ref a_o_then, .ref a_o_ring, .ref a_o_goes, .ref a_o_far, .ref a_o_met, .int w_o_metMany], jI E a_o_now 16 b3.2.1, jI E a_o_st 16 f_o_st]) (w' := fun b4 => [jO a_o 7 [.int v_o_cards, .ref a_o_colour, .int w_o_dealMany, .ref a_o_deal, .ref a_o_st, .int w_o_acts, .ref a_o_was, .int w_o_keeps, .ref a_o_kept, .int w_o_seens, .ref a_o_seen, .ref a_o_text, .int w_o_texted, .int w_o_at, .ref a_o_told, .int w_o_isBegun, .int w_o_readCards, .ref a_o_readColour, .int w_o_readDeals, .ref a_o_readDeal, .ref a_o_now, .ref a_o_then, .ref a_o_ring, .ref a_o_goes, .ref a_o_far, .ref a_o_met, .int w_o_metMany], jI E a_o_goes 32 b3.1, jI E a_o_now 16 b4, jI E a_o_ring 32 b3.2.2.1, jI E a_o_st 16 f_o_st, jI E a_o_then 16 b3.2.2.2]) (st1 := fun b4 => []) [0, 2, 4] rfl rfl rfl h c_X10_asItIs q_X10_asItIs m4_9 rfl rfl (Nat.le_of_ble_eq_true rfl) ⟨(Nat.le_of_ble_eq_true rfl), (Nat.le_of_ble_eq_true rfl)⟩ ⟨rfl, rfl⟩ ⟨(Nat.le_of_ble_eq_true rfl), (Nat.le_of_ble_eq_true rfl)⟩ dX10_beside_28 rfl (by decide) (fun _ => rfl) (fun _ => rfl) (fun _ => rfl) (fun b4 h => ?_)
        refine j_aload_n (pc := 31) 0 dX10_beside_31 rfl rfl ?_
        refine j_iload_n (pc := 32) 1 dX10_beside_32 rfl rfl ?_
        refine j_V (pc := 33) (q0 := 0) (Kc := K_X10_placeOf) (As := [.int x1]) (rest := []) (wc := [jO a_o 7 [.int v_o_cards, .ref a_o_colour, .int w_o_dealMany, .ref a_o_deal, .ref a_o_st, .int w_o_acts, .ref a_o_was, .int w_o_keeps, .ref a_o_kept, .int w_o_seens, .ref a_o_seen, .ref a_o_text, .int w_o_texted, .int w_o_at, .ref a_o_told, .int w_o_isBegun, .int w_o_readCards, .ref a_o_readColour, .int w_o_readDeals, .ref a_o_readDeal, .ref a_o_now, .ref a_o_then, .ref a_o_ring, .ref a_o_goes, .ref a_o_far, .ref a_o_met, .int w_o_metMany], jI E a_o_now 16 b4]) (w' := fun b5 => [jO a_o 7 [.int v_o_cards, .ref a_o_colour, .int w_o_dealMany, .ref a_o_deal, .ref a_o_st, .int w_o_acts, .ref a_o_was, .int w_o_keeps, .ref a_o_kept, .int w_o_seens, .ref a_o_seen, .ref a_o_text, .int w_o_texted, .int w_o_at, .ref a_o_told, .int w_o_isBegun, .int w_o_readCards, .ref a_o_readColour, .int w_o_readDeals, .ref a_o_readDeal, .ref a_o_now, .ref a_o_then, .ref a_o_ring, .ref a_o_goes, .ref a_o_far, .ref a_o_met, .int w_o_metMany], jI E a_o_goes 32 b3.1, jI E a_o_now 16 b4, jI E a_o_ring 32 b3.2.2.1, jI E a_o_st 16 f_o_st, jI E a_o_then 16 b3.2.2.2]) (st1 := fun b5 => [.int b5]) [0, 2] rfl rfl rfl h c_X10_placeOf q_X10_placeOf m4_13 rfl rfl (Nat.le_of_ble_eq_true rfl) ⟨(Nat.le_of_ble_eq_true rfl), (Nat.le_of_ble_eq_true rfl)⟩ ⟨rfl, rfl⟩ ⟨(Nat.le_of_ble_eq_true rfl), (Nat.le_of_ble_eq_true rfl)⟩ dX10_beside_33 rfl (by decide) (fun _ => rfl) (fun _ => rfl) (fun _ => rfl) (fun b5 h => ?_)
        refine j_istore_n (pc := 36) (lv' := [(3, .int b5), (0, .ref a_o), (1, .int x1), (2, .int x2)]) dX10_beside_36 rfl (Nat.le_of_ble_eq_true rfl) rfl ?_
        refine j_aload_n (pc := 37) 1 dX10_beside_37 rfl rfl ?_
        refine j_iload_n (pc := 38) 3 dX10_beside_38 rfl rfl ?_
        refine j_V (pc := 39) (q0 := 0) (Kc := K_X10_placeOf) (As := [.int x2]) (rest := []) (wc := [jO a_o 7 [.int v_o_cards, .ref a_o_colour, .int w_o_dealMany, .ref a_o_deal, .ref a_o_st, .int w_o_acts, .ref a_o_was, .int w_o_keeps, .ref a_o_kept, .int w_o_seens, .ref a_o_seen, .ref a_o_text, .int w_o_texted, .int w_o_at, .ref a_o_told, .int w_o_isBegun, .int w_o_readCards, .ref a_o_readColour, .int w_o_readDeals, .ref a_o_readDeal, .ref a_o_now, .ref a_o_then, .ref a_o_ring, .ref a_o_goes, .ref a_o_far, .ref a_o_met, .int w_o_metMany], jI E a_o_now 16 b4]) (w' := fun b6 => [jO a_o 7 [.int v_o_cards, .ref a_o_colour, .int w_o_dealMany, .ref a_o_deal, .ref a_o_st, .int w_o_acts, .ref a_o_was, .int w_o_keeps, .ref a_o_kept, .int w_o_seens, .ref a_o_seen, .ref a_o_text, .int w_o_texted, .int w_o_at, .ref a_o_told, .int w_o_isBegun, .int w_o_readCards, .ref a_o_readColour, .int w_o_readDeals, .ref a_o_readDeal, .ref a_o_now, .ref a_o_then, .ref a_o_ring, .ref a_o_goes, .ref a_o_far, .ref a_o_met, .int w_o_metMany], jI E a_o_goes 32 b3.1, jI E a_o_now 16 b4, jI E a_o_ring 32 b3.2.2.1, jI E a_o_st 16 f_o_st, jI E a_o_then 16 b3.2.2.2]) (st1 := fun b6 => [.int b6]) [0, 2] rfl rfl rfl h c_X10_placeOf q_X10_placeOf m4_13 rfl rfl (Nat.le_of_ble_eq_true rfl) ⟨(Nat.le_of_ble_eq_true rfl), (Nat.le_of_ble_eq_true rfl)⟩ ⟨rfl, rfl⟩ ⟨(Nat.le_of_ble_eq_true rfl), (Nat.le_of_ble_eq_true rfl)⟩ dX10_beside_39 rfl (by decide) (fun _ => rfl) (fun _ => rfl) (fun _ => rfl) (fun b6 h => ?_)
        refine j_istore (pc := 42) (lv' := [(4, .int b6), (3, .int b5), (0, .ref a_o), (1, .int x1), (2, .int x2)]) dX10_beside_42 (Nat.le_of_ble_eq_true rfl) rfl ?_
        refine j_iconst (pc := 44) dX10_beside_44 ic_0 ?_
        refine j_istore (pc := 45) (lv' := [(5, .int (0 : Int32)), (4, .int b6), (3, .int b5), (0, .ref a_o), (1, .int x1), (2, .int x2)]) dX10_beside_45 (Nat.le_of_ble_eq_true rfl) rfl ?_
        exact j_sub (lv' := [(0, .ref a_o), (3, .int b5), (4, .int b6), (5, .int (0 : Int32))]) [3, 2, 1, 0] rfl (w_X10_beside_47 _ _ _ _ _ _ _ _ u h)
      · refine j_iconst (pc := 21) dX10_beside_21 ic_m1 ?_
        cases h
        exact j_iret (pc := 22) rfl dX10_beside_22 (Nat.le_of_ble_eq_true rfl) (Nat.le_of_ble_eq_true rfl) (jd_i rfl rfl)
set_option maxRecDepth 20000 in
theorem w_X10_isMet_17 {l : Launch} {E : jE} {F : Nat} {v_o_cards : Int32} {v_o_metMany : Int32} {f_o_met : Nat → Int32} {f_o_now : Nat → Int32} {a_o a_o_colour a_o_deal a_o_st a_o_was a_o_kept a_o_seen a_o_text a_o_told a_o_readColour a_o_readDeal a_o_now a_o_then a_o_ring a_o_goes a_o_far a_o_met : Nat} {w_o_dealMany : Int32} {w_o_acts : Int32} {w_o_keeps : Int32} {w_o_seens : Int32} {w_o_texted : Int32} {w_o_at : Int32} {w_o_isBegun : Int32} {w_o_readCards : Int32} {w_o_readDeals : Int32} {k_4 : Int32 → Int32 → Option (Int32)} (hk_4 : ∀ (x1 : Int32) (x2 : Int32) (u : Int32), k_4 x1 x2 = some u → jT l E K_X10_isMet 0 0 4 [(0, .ref a_o), (1, .int x1), (2, .int x2)] [] [jO a_o 7 [.int v_o_cards, .ref a_o_colour, .int w_o_dealMany, .ref a_o_deal, .ref a_o_st, .int w_o_acts, .ref a_o_was, .int w_o_keeps, .ref a_o_kept, .int w_o_seens, .ref a_o_seen, .ref a_o_text, .int w_o_texted, .int w_o_at, .ref a_o_told, .int w_o_isBegun, .int w_o_readCards, .ref a_o_readColour, .int w_o_readDeals, .ref a_o_readDeal, .ref a_o_now, .ref a_o_then, .ref a_o_ring, .ref a_o_goes, .ref a_o_far, .ref a_o_met, .int v_o_metMany], jI E a_o_met 2048 f_o_met, jI E a_o_now 16 f_o_now] (jd (some (.int u)) [jO a_o 7 [.int v_o_cards, .ref a_o_colour, .int w_o_dealMany, .ref a_o_deal, .ref a_o_st, .int w_o_acts, .ref a_o_was, .int w_o_keeps, .ref a_o_kept, .int w_o_seens, .ref a_o_seen, .ref a_o_text, .int w_o_texted, .int w_o_at, .ref a_o_told, .int w_o_isBegun, .int w_o_readCards, .ref a_o_readColour, .int w_o_readDeals, .ref a_o_readDeal, .ref a_o_now, .ref a_o_then, .ref a_o_ring, .ref a_o_goes, .ref a_o_far, .ref a_o_met, .int v_o_metMany], jI E a_o_met 2048 f_o_met, jI E a_o_now 16 f_o_now])) : ∀ (n : Nat) (x1 : Int32) (x2 : Int32) (x3 : Int32) (x4 : Int32) (u : Int32), g_X10_isMet_17 F v_o_cards v_o_metMany f_o_met f_o_now k_4 n x1 x2 x3 x4 = some u → jT l E K_X10_isMet 0 0 17 [(0, .ref a_o), (1, .int x1), (2, .int x2), (3, .int x3), (4, .int x4)] [] [jO a_o 7 [.int v_o_cards, .ref a_o_colour, .int w_o_dealMany, .ref a_o_deal, .ref a_o_st, .int w_o_acts, .ref a_o_was, .int w_o_keeps, .ref a_o_kept, .int w_o_seens, .ref a_o_seen, .ref a_o_text, .int w_o_texted, .int w_o_at, .ref a_o_told, .int w_o_isBegun, .int w_o_readCards, .ref a_o_readColour, .int w_o_readDeals, .ref a_o_readDeal, .ref a_o_now, .ref a_o_then, .ref a_o_ring, .ref a_o_goes, .ref a_o_far, .ref a_o_met, .int v_o_metMany], jI E a_o_met 2048 f_o_met, jI E a_o_now 16 f_o_now] (jd (some (.int u)) [jO a_o 7 [.int v_o_cards, .ref a_o_colour, .int w_o_dealMany, .ref a_o_deal, .ref a_o_st, .int w_o_acts, .ref a_o_was, .int w_o_keeps, .ref a_o_kept, .int w_o_seens, .ref a_o_seen, .ref a_o_text, .int w_o_texted, .int w_o_at, .ref a_o_told, .int w_o_isBegun, .int w_o_readCards, .ref a_o_readColour, .int w_o_readDeals, .ref a_o_readDeal, .ref a_o_now, .ref a_o_then, .ref a_o_ring, .ref a_o_goes, .ref a_o_far, .ref a_o_met, .int v_o_metMany], jI E a_o_met 2048 f_o_met, jI E a_o_now 16 f_o_now]) := by
  intro n
  induction n with
  | zero =>
    intro x1 x2 x3 x4 u h
    rw [g_X10_isMet_17] at h
    cases h
  | succ n ih =>
    intro x1 x2 x3 x4 u h
    rw [g_X10_isMet_17] at h
    refine j_iload (pc := 17) 4 dX10_isMet_17 rfl ?_
    refine j_aload_n (pc := 19) 0 dX10_isMet_19 rfl rfl ?_
    refine j_get (pc := 20) (v := .int v_o_cards) 0 0 rfl rfl (Nat.le_of_ble_eq_true rfl) iwX10 m3_104 rfl dX10_isMet_20 ?_
    refine j_icmp_ge (pc := 23) (tgt := 64) dX10_isMet_23 (by decide) h (fun h => ?_) (fun h => ?_)
    · refine j_iload_n (pc := 64) 1 dX10_isMet_64 rfl rfl ?_
      refine j_if_ne (pc := 65) (tgt := 72) dX10_isMet_65 (by decide) h (fun h => ?_) (fun h => ?_)
      · refine j_iconst (pc := 72) dX10_isMet_72 ic_1 ?_
        refine j_goto (pc := 73) (tgt := 77) dX10_isMet_73 (by decide) ?_
        refine j_istore_n (pc := 77) (lv' := [(1, .int (1 : Int32)), (0, .ref a_o), (2, .int x2), (3, .int x3), (4, .int x4)]) dX10_isMet_77 rfl (Nat.le_of_ble_eq_true rfl) rfl ?_
        refine j_iinc (pc := 78) (j := 2) (lv' := [(2, .int (x2 + (1 : Int32))), (1, .int (1 : Int32)), (0, .ref a_o), (3, .int x3), (4, .int x4)]) dX10_isMet_78 rfl (congrArg (fun z => x2 + z) ic_1) (Nat.le_of_ble_eq_true rfl) rfl ?_
        refine j_goto (pc := 81) (tgt := 4) dX10_isMet_81 (by decide) ?_
        exact j_sub (lv' := [(0, .ref a_o), (1, .int (1 : Int32)), (2, .int (x2 + (1 : Int32)))]) [2, 1, 0] rfl (hk_4 _ _ u h)
      · refine j_iload_n (pc := 68) 3 dX10_isMet_68 rfl rfl ?_
        refine j_if_eq (pc := 69) (tgt := 76) dX10_isMet_69 (by decide) h (fun h => ?_) (fun h => ?_)
        · refine j_iconst (pc := 76) dX10_isMet_76 ic_0 ?_
          refine j_istore_n (pc := 77) (lv' := [(1, .int (0 : Int32)), (0, .ref a_o), (2, .int x2), (3, .int x3), (4, .int x4)]) dX10_isMet_77 rfl (Nat.le_of_ble_eq_true rfl) rfl ?_
          refine j_iinc (pc := 78) (j := 2) (lv' := [(2, .int (x2 + (1 : Int32))), (1, .int (0 : Int32)), (0, .ref a_o), (3, .int x3), (4, .int x4)]) dX10_isMet_78 rfl (congrArg (fun z => x2 + z) ic_1) (Nat.le_of_ble_eq_true rfl) rfl ?_
          refine j_goto (pc := 81) (tgt := 4) dX10_isMet_81 (by decide) ?_
          exact j_sub (lv' := [(0, .ref a_o), (1, .int (0 : Int32)), (2, .int (x2 + (1 : Int32)))]) [2, 1, 0] rfl (hk_4 _ _ u h)
        · refine j_iconst (pc := 72) dX10_isMet_72 ic_1 ?_
          refine j_goto (pc := 73) (tgt := 77) dX10_isMet_73 (by decide) ?_
          refine j_istore_n (pc := 77) (lv' := [(1, .int (1 : Int32)), (0, .ref a_o), (2, .int x2), (3, .int x3), (4, .int x4)]) dX10_isMet_77 rfl (Nat.le_of_ble_eq_true rfl) rfl ?_
          refine j_iinc (pc := 78) (j := 2) (lv' := [(2, .int (x2 + (1 : Int32))), (1, .int (1 : Int32)), (0, .ref a_o), (3, .int x3), (4, .int x4)]) dX10_isMet_78 rfl (congrArg (fun z => x2 + z) ic_1) (Nat.le_of_ble_eq_true rfl) rfl ?_
          refine j_goto (pc := 81) (tgt := 4) dX10_isMet_81 (by decide) ?_
          exact j_sub (lv' := [(0, .ref a_o), (1, .int (1 : Int32)), (2, .int (x2 + (1 : Int32)))]) [2, 1, 0] rfl (hk_4 _ _ u h)
    · refine j_iload_n (pc := 26) 3 dX10_isMet_26 rfl rfl ?_
      refine j_if_eq (pc := 27) (tgt := 56) dX10_isMet_27 (by decide) h (fun h => ?_) (fun h => ?_)
      · refine j_iconst (pc := 56) dX10_isMet_56 ic_0 ?_
        refine j_istore_n (pc := 57) (lv' := [(3, .int (0 : Int32)), (0, .ref a_o), (1, .int x1), (2, .int x2), (4, .int x4)]) dX10_isMet_57 rfl (Nat.le_of_ble_eq_true rfl) rfl ?_
        refine j_iinc (pc := 58) (j := 4) (lv' := [(4, .int (x4 + (1 : Int32))), (3, .int (0 : Int32)), (0, .ref a_o), (1, .int x1), (2, .int x2)]) dX10_isMet_58 rfl (congrArg (fun z => x4 + z) ic_1) (Nat.le_of_ble_eq_true rfl) rfl ?_
        refine j_goto (pc := 61) (tgt := 17) dX10_isMet_61 (by decide) ?_
        exact j_sub (lv' := [(0, .ref a_o), (1, .int x1), (2, .int x2), (3, .int (0 : Int32)), (4, .int (x4 + (1 : Int32)))]) [2, 3, 4, 1, 0] rfl (ih _ _ _ _ u h)
      · refine j_aload_n (pc := 30) 0 dX10_isMet_30 rfl rfl ?_
        refine j_get (pc := 31) (v := .ref a_o_met) 0 25 rfl rfl (Nat.le_of_ble_eq_true rfl) iwX10 m3_129 rfl dX10_isMet_31 ?_
        refine j_bipush (pc := 34) dX10_isMet_34 bc_16 ?_
        refine j_iload_n (pc := 36) 2 dX10_isMet_36 rfl rfl ?_
        refine j_imul (pc := 37) dX10_isMet_37 ?_
        refine j_iload (pc := 38) 4 dX10_isMet_38 rfl ?_
        refine j_iadd (pc := 40) dX10_isMet_40 ?_
        refine j_iald (pc := 41) 1 rfl dX10_isMet_41 h (fun h => ?_)
        refine j_aload_n (pc := 42) 0 dX10_isMet_42 rfl rfl ?_
        refine j_get (pc := 43) (v := .ref a_o_now) 0 20 rfl rfl (Nat.le_of_ble_eq_true rfl) iwX10 m3_124 rfl dX10_isMet_43 ?_
        refine j_iload (pc := 46) 4 dX10_isMet_46 rfl ?_
        refine j_iald (pc := 48) 2 rfl dX10_isMet_48 h (fun h => ?_)
        refine j_icmp_ne (pc := 49) (tgt := 56) dX10_isMet_49 (by decide) h (fun h => ?_) (fun h => ?_)
        · refine j_iconst (pc := 56) dX10_isMet_56 ic_0 ?_
          refine j_istore_n (pc := 57) (lv' := [(3, .int (0 : Int32)), (0, .ref a_o), (1, .int x1), (2, .int x2), (4, .int x4)]) dX10_isMet_57 rfl (Nat.le_of_ble_eq_true rfl) rfl ?_
          refine j_iinc (pc := 58) (j := 4) (lv' := [(4, .int (x4 + (1 : Int32))), (3, .int (0 : Int32)), (0, .ref a_o), (1, .int x1), (2, .int x2)]) dX10_isMet_58 rfl (congrArg (fun z => x4 + z) ic_1) (Nat.le_of_ble_eq_true rfl) rfl ?_
          refine j_goto (pc := 61) (tgt := 17) dX10_isMet_61 (by decide) ?_
          exact j_sub (lv' := [(0, .ref a_o), (1, .int x1), (2, .int x2), (3, .int (0 : Int32)), (4, .int (x4 + (1 : Int32)))]) [2, 3, 4, 1, 0] rfl (ih _ _ _ _ u h)
        · refine j_iconst (pc := 52) dX10_isMet_52 ic_1 ?_
          refine j_goto (pc := 53) (tgt := 57) dX10_isMet_53 (by decide) ?_
          refine j_istore_n (pc := 57) (lv' := [(3, .int (1 : Int32)), (0, .ref a_o), (1, .int x1), (2, .int x2), (4, .int x4)]) dX10_isMet_57 rfl (Nat.le_of_ble_eq_true rfl) rfl ?_
          refine j_iinc (pc := 58) (j := 4) (lv' := [(4, .int (x4 + (1 : Int32))), (3, .int (1 : Int32)), (0, .ref a_o), (1, .int x1), (2, .int x2)]) dX10_isMet_58 rfl (congrArg (fun z => x4 + z) ic_1) (Nat.le_of_ble_eq_true rfl) rfl ?_
          refine j_goto (pc := 61) (tgt := 17) dX10_isMet_61 (by decide) ?_
          exact j_sub (lv' := [(0, .ref a_o), (1, .int x1), (2, .int x2), (3, .int (1 : Int32)), (4, .int (x4 + (1 : Int32)))]) [2, 3, 4, 1, 0] rfl (ih _ _ _ _ u h)
set_option maxRecDepth 20000 in
theorem w_X10_isMet_4 {l : Launch} {E : jE} {F : Nat} {v_o_cards : Int32} {v_o_metMany : Int32} {f_o_met : Nat → Int32} {f_o_now : Nat → Int32} {a_o a_o_colour a_o_deal a_o_st a_o_was a_o_kept a_o_seen a_o_text a_o_told a_o_readColour a_o_readDeal a_o_now a_o_then a_o_ring a_o_goes a_o_far a_o_met : Nat} {w_o_dealMany : Int32} {w_o_acts : Int32} {w_o_keeps : Int32} {w_o_seens : Int32} {w_o_texted : Int32} {w_o_at : Int32} {w_o_isBegun : Int32} {w_o_readCards : Int32} {w_o_readDeals : Int32} : ∀ (n : Nat) (x1 : Int32) (x2 : Int32) (u : Int32), g_X10_isMet_4 F v_o_cards v_o_metMany f_o_met f_o_now n x1 x2 = some u → jT l E K_X10_isMet 0 0 4 [(0, .ref a_o), (1, .int x1), (2, .int x2)] [] [jO a_o 7 [.int v_o_cards, .ref a_o_colour, .int w_o_dealMany, .ref a_o_deal, .ref a_o_st, .int w_o_acts, .ref a_o_was, .int w_o_keeps, .ref a_o_kept, .int w_o_seens, .ref a_o_seen, .ref a_o_text, .int w_o_texted, .int w_o_at, .ref a_o_told, .int w_o_isBegun, .int w_o_readCards, .ref a_o_readColour, .int w_o_readDeals, .ref a_o_readDeal, .ref a_o_now, .ref a_o_then, .ref a_o_ring, .ref a_o_goes, .ref a_o_far, .ref a_o_met, .int v_o_metMany], jI E a_o_met 2048 f_o_met, jI E a_o_now 16 f_o_now] (jd (some (.int u)) [jO a_o 7 [.int v_o_cards, .ref a_o_colour, .int w_o_dealMany, .ref a_o_deal, .ref a_o_st, .int w_o_acts, .ref a_o_was, .int w_o_keeps, .ref a_o_kept, .int w_o_seens, .ref a_o_seen, .ref a_o_text, .int w_o_texted, .int w_o_at, .ref a_o_told, .int w_o_isBegun, .int w_o_readCards, .ref a_o_readColour, .int w_o_readDeals, .ref a_o_readDeal, .ref a_o_now, .ref a_o_then, .ref a_o_ring, .ref a_o_goes, .ref a_o_far, .ref a_o_met, .int v_o_metMany], jI E a_o_met 2048 f_o_met, jI E a_o_now 16 f_o_now]) := by
  intro n
  induction n with
  | zero =>
    intro x1 x2 u h
    rw [g_X10_isMet_4] at h
    cases h
  | succ n ih =>
    intro x1 x2 u h
    rw [g_X10_isMet_4] at h
    refine j_iload_n (pc := 4) 2 dX10_isMet_4 rfl rfl ?_
    refine j_aload_n (pc := 5) 0 dX10_isMet_5 rfl rfl ?_
    refine j_get (pc := 6) (v := .int v_o_metMany) 0 26 rfl rfl (Nat.le_of_ble_eq_true rfl) iwX10 m3_130 rfl dX10_isMet_6 ?_
    refine j_icmp_ge (pc := 9) (tgt := 84) dX10_isMet_9 (by decide) h (fun h => ?_) (fun h => ?_)
    · refine j_iload_n (pc := 84) 1 dX10_isMet_84 rfl rfl ?_
      obtain ⟨hz, h⟩ := jgz_s h
      cases h
      exact j_zret (pc := 85) rfl hz dX10_isMet_85 (Nat.le_of_ble_eq_true rfl) (Nat.le_of_ble_eq_true rfl) (jd_i rfl rfl)
    · refine j_iconst (pc := 12) dX10_isMet_12 ic_1 ?_
      refine j_istore_n (pc := 13) (lv' := [(3, .int (1 : Int32)), (0, .ref a_o), (1, .int x1), (2, .int x2)]) dX10_isMet_13 rfl (Nat.le_of_ble_eq_true rfl) rfl ?_
      refine j_iconst (pc := 14) dX10_isMet_14 ic_0 ?_
      refine j_istore (pc := 15) (lv' := [(4, .int (0 : Int32)), (3, .int (1 : Int32)), (0, .ref a_o), (1, .int x1), (2, .int x2)]) dX10_isMet_15 (Nat.le_of_ble_eq_true rfl) rfl ?_
      exact j_sub (lv' := [(0, .ref a_o), (1, .int x1), (2, .int x2), (3, .int (1 : Int32)), (4, .int (0 : Int32))]) [2, 3, 4, 1, 0] rfl (w_X10_isMet_17 ih _ _ _ _ _ u h)
set_option maxRecDepth 20000 in
theorem c_X10_isMet {l : Launch} {E : jE} {F : Nat} {v_o_cards : Int32} {v_o_metMany : Int32} {f_o_met : Nat → Int32} {f_o_now : Nat → Int32} {a_o a_o_colour a_o_deal a_o_st a_o_was a_o_kept a_o_seen a_o_text a_o_told a_o_readColour a_o_readDeal a_o_now a_o_then a_o_ring a_o_goes a_o_far a_o_met : Nat} {w_o_dealMany : Int32} {w_o_acts : Int32} {w_o_keeps : Int32} {w_o_seens : Int32} {w_o_texted : Int32} {w_o_at : Int32} {w_o_isBegun : Int32} {w_o_readCards : Int32} {w_o_readDeals : Int32} : ∀ u : Int32, f_X10_isMet F v_o_cards v_o_metMany f_o_met f_o_now = some u → jM l E K_X10_isMet [.ref a_o] [jO a_o 7 [.int v_o_cards, .ref a_o_colour, .int w_o_dealMany, .ref a_o_deal, .ref a_o_st, .int w_o_acts, .ref a_o_was, .int w_o_keeps, .ref a_o_kept, .int w_o_seens, .ref a_o_seen, .ref a_o_text, .int w_o_texted, .int w_o_at, .ref a_o_told, .int w_o_isBegun, .int w_o_readCards, .ref a_o_readColour, .int w_o_readDeals, .ref a_o_readDeal, .ref a_o_now, .ref a_o_then, .ref a_o_ring, .ref a_o_goes, .ref a_o_far, .ref a_o_met, .int v_o_metMany], jI E a_o_met 2048 f_o_met, jI E a_o_now 16 f_o_now] (jd (some (.int u)) [jO a_o 7 [.int v_o_cards, .ref a_o_colour, .int w_o_dealMany, .ref a_o_deal, .ref a_o_st, .int w_o_acts, .ref a_o_was, .int w_o_keeps, .ref a_o_kept, .int w_o_seens, .ref a_o_seen, .ref a_o_text, .int w_o_texted, .int w_o_at, .ref a_o_told, .int w_o_isBegun, .int w_o_readCards, .ref a_o_readColour, .int w_o_readDeals, .ref a_o_readDeal, .ref a_o_now, .ref a_o_then, .ref a_o_ring, .ref a_o_goes, .ref a_o_far, .ref a_o_met, .int v_o_metMany], jI E a_o_met 2048 f_o_met, jI E a_o_now 16 f_o_now]) := by
  intro u h
  unfold f_X10_isMet at h
  refine j_met [(0, .ref a_o)] (by decide +kernel) (Nat.le_of_ble_eq_true rfl) rfl ?_
  refine j_iconst (pc := 0) dX10_isMet_0 ic_0 ?_
  refine j_istore_n (pc := 1) (lv' := [(1, .int (0 : Int32)), (0, .ref a_o)]) dX10_isMet_1 rfl (Nat.le_of_ble_eq_true rfl) rfl ?_
  refine j_iconst (pc := 2) dX10_isMet_2 ic_0 ?_
  refine j_istore_n (pc := 3) (lv' := [(2, .int (0 : Int32)), (1, .int (0 : Int32)), (0, .ref a_o)]) dX10_isMet_3 rfl (Nat.le_of_ble_eq_true rfl) rfl ?_
  exact j_sub (lv' := [(0, .ref a_o), (1, .int (0 : Int32)), (2, .int (0 : Int32))]) [2, 1, 0] rfl (w_X10_isMet_4 _ _ _ u h)
set_option maxRecDepth 20000 in
theorem w_X10_orders_43 {l : Launch} {E : jE} {F : Nat} {x1 : Int32} {v_o_cards : Int32} {a_o a_o_colour a_o_deal a_o_st a_o_was a_o_kept a_o_seen a_o_text a_o_told a_o_readColour a_o_readDeal a_o_now a_o_then a_o_ring a_o_goes a_o_far a_o_met : Nat} {w_o_dealMany : Int32} {w_o_acts : Int32} {w_o_keeps : Int32} {w_o_seens : Int32} {w_o_texted : Int32} {w_o_at : Int32} {w_o_isBegun : Int32} {w_o_readCards : Int32} {w_o_readDeals : Int32} {k_19 : Int32 → Int32 → (Nat → Int32) → (Nat → Int32) → (Nat → Int32) → (Nat → Int32) → Option (Int32 × Int32 × (Nat → Int32) × (Nat → Int32) × (Nat → Int32) × (Nat → Int32))} {k_26 : Int32 → Int32 → Int32 → (Nat → Int32) → (Nat → Int32) → (Nat → Int32) → (Nat → Int32) → Option (Int32 × Int32 × (Nat → Int32) × (Nat → Int32) × (Nat → Int32) × (Nat → Int32))} (hk_19 : ∀ (x2 : Int32) (v_o_metMany : Int32) (f_o_met : Nat → Int32) (f_o_now : Nat → Int32) (f_o_ring : Nat → Int32) (f_o_then : Nat → Int32) (u : Int32 × Int32 × (Nat → Int32) × (Nat → Int32) × (Nat → Int32) × (Nat → Int32)), k_19 x2 v_o_metMany f_o_met f_o_now f_o_ring f_o_then = some u → jT l E K_X10_orders 0 0 19 [(0, .ref a_o), (1, .int x1), (2, .int x2)] [] [jO a_o 7 [.int v_o_cards, .ref a_o_colour, .int w_o_dealMany, .ref a_o_deal, .ref a_o_st, .int w_o_acts, .ref a_o_was, .int w_o_keeps, .ref a_o_kept, .int w_o_seens, .ref a_o_seen, .ref a_o_text, .int w_o_texted, .int w_o_at, .ref a_o_told, .int w_o_isBegun, .int w_o_readCards, .ref a_o_readColour, .int w_o_readDeals, .ref a_o_readDeal, .ref a_o_now, .ref a_o_then, .ref a_o_ring, .ref a_o_goes, .ref a_o_far, .ref a_o_met, .int v_o_metMany], jI E a_o_met 2048 f_o_met, jI E a_o_now 16 f_o_now, jI E a_o_ring 32 f_o_ring, jI E a_o_then 16 f_o_then] (jd (some (.int u.1)) [jO a_o 7 [.int v_o_cards, .ref a_o_colour, .int w_o_dealMany, .ref a_o_deal, .ref a_o_st, .int w_o_acts, .ref a_o_was, .int w_o_keeps, .ref a_o_kept, .int w_o_seens, .ref a_o_seen, .ref a_o_text, .int w_o_texted, .int w_o_at, .ref a_o_told, .int w_o_isBegun, .int w_o_readCards, .ref a_o_readColour, .int w_o_readDeals, .ref a_o_readDeal, .ref a_o_now, .ref a_o_then, .ref a_o_ring, .ref a_o_goes, .ref a_o_far, .ref a_o_met, .int u.2.1], jI E a_o_met 2048 u.2.2.1, jI E a_o_now 16 u.2.2.2.1, jI E a_o_ring 32 u.2.2.2.2.1, jI E a_o_then 16 u.2.2.2.2.2])) (hk_26 : ∀ (x2 : Int32) (x3 : Int32) (v_o_metMany : Int32) (f_o_met : Nat → Int32) (f_o_now : Nat → Int32) (f_o_ring : Nat → Int32) (f_o_then : Nat → Int32) (u : Int32 × Int32 × (Nat → Int32) × (Nat → Int32) × (Nat → Int32) × (Nat → Int32)), k_26 x2 x3 v_o_metMany f_o_met f_o_now f_o_ring f_o_then = some u → jT l E K_X10_orders 0 0 26 [(0, .ref a_o), (1, .int x1), (2, .int x2), (3, .int x3)] [] [jO a_o 7 [.int v_o_cards, .ref a_o_colour, .int w_o_dealMany, .ref a_o_deal, .ref a_o_st, .int w_o_acts, .ref a_o_was, .int w_o_keeps, .ref a_o_kept, .int w_o_seens, .ref a_o_seen, .ref a_o_text, .int w_o_texted, .int w_o_at, .ref a_o_told, .int w_o_isBegun, .int w_o_readCards, .ref a_o_readColour, .int w_o_readDeals, .ref a_o_readDeal, .ref a_o_now, .ref a_o_then, .ref a_o_ring, .ref a_o_goes, .ref a_o_far, .ref a_o_met, .int v_o_metMany], jI E a_o_met 2048 f_o_met, jI E a_o_now 16 f_o_now, jI E a_o_ring 32 f_o_ring, jI E a_o_then 16 f_o_then] (jd (some (.int u.1)) [jO a_o 7 [.int v_o_cards, .ref a_o_colour, .int w_o_dealMany, .ref a_o_deal, .ref a_o_st, .int w_o_acts, .ref a_o_was, .int w_o_keeps, .ref a_o_kept, .int w_o_seens, .ref a_o_seen, .ref a_o_text, .int w_o_texted, .int w_o_at, .ref a_o_told, .int w_o_isBegun, .int w_o_readCards, .ref a_o_readColour, .int w_o_readDeals, .ref a_o_readDeal, .ref a_o_now, .ref a_o_then, .ref a_o_ring, .ref a_o_goes, .ref a_o_far, .ref a_o_met, .int u.2.1], jI E a_o_met 2048 u.2.2.1, jI E a_o_now 16 u.2.2.2.1, jI E a_o_ring 32 u.2.2.2.2.1, jI E a_o_then 16 u.2.2.2.2.2])) : ∀ (n : Nat) (x2 : Int32) (x3 : Int32) (x4 : Int32) (v_o_metMany : Int32) (f_o_met : Nat → Int32) (f_o_now : Nat → Int32) (f_o_ring : Nat → Int32) (f_o_then : Nat → Int32) (u : Int32 × Int32 × (Nat → Int32) × (Nat → Int32) × (Nat → Int32) × (Nat → Int32)), g_X10_orders_43 F x1 v_o_cards k_19 k_26 n x2 x3 x4 v_o_metMany f_o_met f_o_now f_o_ring f_o_then = some u → jT l E K_X10_orders 0 0 43 [(0, .ref a_o), (1, .int x1), (2, .int x2), (3, .int x3), (4, .int x4)] [] [jO a_o 7 [.int v_o_cards, .ref a_o_colour, .int w_o_dealMany, .ref a_o_deal, .ref a_o_st, .int w_o_acts, .ref a_o_was, .int w_o_keeps, .ref a_o_kept, .int w_o_seens, .ref a_o_seen, .ref a_o_text, .int w_o_texted, .int w_o_at, .ref a_o_told, .int w_o_isBegun, .int w_o_readCards, .ref a_o_readColour, .int w_o_readDeals, .ref a_o_readDeal, .ref a_o_now, .ref a_o_then, .ref a_o_ring, .ref a_o_goes, .ref a_o_far, .ref a_o_met, .int v_o_metMany], jI E a_o_met 2048 f_o_met, jI E a_o_now 16 f_o_now, jI E a_o_ring 32 f_o_ring, jI E a_o_then 16 f_o_then] (jd (some (.int u.1)) [jO a_o 7 [.int v_o_cards, .ref a_o_colour, .int w_o_dealMany, .ref a_o_deal, .ref a_o_st, .int w_o_acts, .ref a_o_was, .int w_o_keeps, .ref a_o_kept, .int w_o_seens, .ref a_o_seen, .ref a_o_text, .int w_o_texted, .int w_o_at, .ref a_o_told, .int w_o_isBegun, .int w_o_readCards, .ref a_o_readColour, .int w_o_readDeals, .ref a_o_readDeal, .ref a_o_now, .ref a_o_then, .ref a_o_ring, .ref a_o_goes, .ref a_o_far, .ref a_o_met, .int u.2.1], jI E a_o_met 2048 u.2.2.1, jI E a_o_now 16 u.2.2.2.1, jI E a_o_ring 32 u.2.2.2.2.1, jI E a_o_then 16 u.2.2.2.2.2]) := by
  intro n
  induction n with
  | zero =>
    intro x2 x3 x4 v_o_metMany f_o_met f_o_now f_o_ring f_o_then u h
    rw [g_X10_orders_43] at h
    cases h
  | succ n ih =>
    intro x2 x3 x4 v_o_metMany f_o_met f_o_now f_o_ring f_o_then u h
    rw [g_X10_orders_43] at h
    refine j_iload (pc := 43) 4 dX10_orders_43 rfl ?_
    refine j_iload_n (pc := 45) 2 dX10_orders_45 rfl rfl ?_
    refine j_icmp_ge (pc := 46) (tgt := 65) dX10_orders_46 (by decide) h (fun h => ?_) (fun h => ?_)
    · refine j_aload_n (pc := 65) 0 dX10_orders_65 rfl rfl ?_
      refine j_V (pc := 66) (q0 := 0) (Kc := K_X10_isMet) (As := []) (rest := []) (wc := [jO a_o 7 [.int v_o_cards, .ref a_o_colour, .int w_o_dealMany, .ref a_o_deal, .ref a_o_st, .int w_o_acts, .ref a_o_was, .int w_o_keeps, .ref a_o_kept, .int w_o_seens, .ref a_o_seen, .ref a_o_text, .int w_o_texted, .int w_o_at, .ref a_o_told, .int w_o_isBegun, .int w_o_readCards, .ref a_o_readColour, .int w_o_readDeals, .ref a_o_readDeal, .ref a_o_now, .ref a_o_then, .ref a_o_ring, .ref a_o_goes, .ref a_o_far, .ref a_o_met, .int v_o_metMany], jI E a_o_met 2048 f_o_met, jI E a_o_now 16 f_o_now]) (w' := fun b1 => [jO a_o 7 [.int v_o_cards, .ref a_o_colour, .int w_o_dealMany, .ref a_o_deal, .ref a_o_st, .int w_o_acts, .ref a_o_was, .int w_o_keeps, .ref a_o_kept, .int w_o_seens, .ref a_o_seen, .ref a_o_text, .int w_o_texted, .int w_o_at, .ref a_o_told, .int w_o_isBegun, .int w_o_readCards, .ref a_o_readColour, .int w_o_readDeals, .ref a_o_readDeal, .ref a_o_now, .ref a_o_then, .ref a_o_ring, .ref a_o_goes, .ref a_o_far, .ref a_o_met, .int v_o_metMany], jI E a_o_met 2048 f_o_met, jI E a_o_now 16 f_o_now, jI E a_o_ring 32 f_o_ring, jI E a_o_then 16 f_o_then]) (st1 := fun b1 => [.int b1]) [0, 1, 2] rfl rfl rfl h c_X10_isMet q_X10_isMet m4_112 rfl rfl (Nat.le_of_ble_eq_true rfl) ⟨(Nat.le_of_ble_eq_true rfl), (Nat.le_of_ble_eq_true rfl)⟩ ⟨rfl, rfl⟩ ⟨(Nat.le_of_ble_eq_true rfl), (Nat.le_of_ble_eq_true rfl)⟩ dX10_orders_66 rfl (by decide) (fun _ => rfl) (fun _ => rfl) (fun _ => rfl) (fun b1 h => ?_)
      refine j_if_ne (pc := 69) (tgt := 103) dX10_orders_69 (by decide) h (fun h => ?_) (fun h => ?_)
      · refine j_iinc (pc := 103) (j := 3) (lv' := [(3, .int (x3 + (1 : Int32))), (0, .ref a_o), (1, .int x1), (2, .int x2), (4, .int x4)]) dX10_orders_103 rfl (congrArg (fun z => x3 + z) ic_1) (Nat.le_of_ble_eq_true rfl) rfl ?_
        refine j_goto (pc := 106) (tgt := 26) dX10_orders_106 (by decide) ?_
        exact j_sub (lv' := [(0, .ref a_o), (1, .int x1), (2, .int x2), (3, .int (x3 + (1 : Int32)))]) [1, 2, 3, 0] rfl (hk_26 _ _ _ _ _ _ _ u h)
      · refine j_aload_n (pc := 72) 0 dX10_orders_72 rfl rfl ?_
        refine j_get (pc := 73) (v := .ref a_o_met) 0 25 rfl rfl (Nat.le_of_ble_eq_true rfl) iwX10 m3_129 rfl dX10_orders_73 ?_
        refine j_bipush (pc := 76) dX10_orders_76 bc_16 ?_
        refine j_aload_n (pc := 78) 0 dX10_orders_78 rfl rfl ?_
        refine j_get (pc := 79) (v := .int v_o_metMany) 0 26 rfl rfl (Nat.le_of_ble_eq_true rfl) iwX10 m3_130 rfl dX10_orders_79 ?_
        refine j_imul (pc := 82) dX10_orders_82 ?_
        refine j_aload_n (pc := 83) 0 dX10_orders_83 rfl rfl ?_
        refine j_get (pc := 84) (v := .ref a_o_now) 0 20 rfl rfl (Nat.le_of_ble_eq_true rfl) iwX10 m3_124 rfl dX10_orders_84 ?_
        refine j_iconst (pc := 87) dX10_orders_87 ic_0 ?_
        refine j_bipush (pc := 88) dX10_orders_88 bc_16 ?_
        refine j_S (pc := 90) (Kc := K_X10_copies) (As := [.ref a_o_met, .int ((16 : Int32) * v_o_metMany), .ref a_o_now, .int (0 : Int32), .int (16 : Int32)]) (rest := []) (wc := [jI E a_o_met 2048 f_o_met, jI E a_o_now 16 f_o_now]) (w' := fun b2 => [jO a_o 7 [.int v_o_cards, .ref a_o_colour, .int w_o_dealMany, .ref a_o_deal, .ref a_o_st, .int w_o_acts, .ref a_o_was, .int w_o_keeps, .ref a_o_kept, .int w_o_seens, .ref a_o_seen, .ref a_o_text, .int w_o_texted, .int w_o_at, .ref a_o_told, .int w_o_isBegun, .int w_o_readCards, .ref a_o_readColour, .int w_o_readDeals, .ref a_o_readDeal, .ref a_o_now, .ref a_o_then, .ref a_o_ring, .ref a_o_goes, .ref a_o_far, .ref a_o_met, .int v_o_metMany], jI E a_o_met 2048 b2, jI E a_o_now 16 f_o_now, jI E a_o_ring 32 f_o_ring, jI E a_o_then 16 f_o_then]) (st1 := fun b2 => []) [1, 2] h c_X10_copies q_X10_copies m3_98 rfl rfl (Nat.le_of_ble_eq_true rfl) ⟨(Nat.le_of_ble_eq_true rfl), (Nat.le_of_ble_eq_true rfl)⟩ ⟨rfl, rfl⟩ ⟨(Nat.le_of_ble_eq_true rfl), (Nat.le_of_ble_eq_true rfl)⟩ dX10_orders_90 rfl (by decide) (fun _ => rfl) (fun _ => rfl) (fun _ => rfl) (fun b2 h => ?_)
        refine j_aload_n (pc := 93) 0 dX10_orders_93 rfl rfl ?_
        refine j_dup (pc := 94) dX10_orders_94 rfl ?_
        refine j_get (pc := 95) (v := .int v_o_metMany) 0 26 rfl rfl (Nat.le_of_ble_eq_true rfl) iwX10 m3_130 rfl dX10_orders_95 ?_
        refine j_iconst (pc := 98) dX10_orders_98 ic_1 ?_
        refine j_iadd (pc := 99) dX10_orders_99 ?_
        refine j_put (pc := 100) (w' := [jO a_o 7 [.int v_o_cards, .ref a_o_colour, .int w_o_dealMany, .ref a_o_deal, .ref a_o_st, .int w_o_acts, .ref a_o_was, .int w_o_keeps, .ref a_o_kept, .int w_o_seens, .ref a_o_seen, .ref a_o_text, .int w_o_texted, .int w_o_at, .ref a_o_told, .int w_o_isBegun, .int w_o_readCards, .ref a_o_readColour, .int w_o_readDeals, .ref a_o_readDeal, .ref a_o_now, .ref a_o_then, .ref a_o_ring, .ref a_o_goes, .ref a_o_far, .ref a_o_met, .int (v_o_metMany + (1 : Int32))], jI E a_o_met 2048 b2, jI E a_o_now 16 f_o_now, jI E a_o_ring 32 f_o_ring, jI E a_o_then 16 f_o_then]) tyX10 0 26 tyX10_ok nmX10 rfl rfl (Nat.le_of_ble_eq_true rfl) iwX10 m3_130 rfl rfl rfl rfl (Nat.le_of_ble_eq_true rfl) dX10_orders_100 rfl ?_
        refine j_iinc (pc := 103) (j := 3) (lv' := [(3, .int (x3 + (1 : Int32))), (0, .ref a_o), (1, .int x1), (2, .int x2), (4, .int x4)]) dX10_orders_103 rfl (congrArg (fun z => x3 + z) ic_1) (Nat.le_of_ble_eq_true rfl) rfl ?_
        refine j_goto (pc := 106) (tgt := 26) dX10_orders_106 (by decide) ?_
        exact j_sub (lv' := [(0, .ref a_o), (1, .int x1), (2, .int x2), (3, .int (x3 + (1 : Int32)))]) [1, 2, 3, 0] rfl (hk_26 _ _ _ _ _ _ _ u h)
    · refine j_aload_n (pc := 49) 0 dX10_orders_49 rfl rfl ?_
      refine j_iload_n (pc := 50) 3 dX10_orders_50 rfl rfl ?_
      refine j_iload (pc := 51) 4 dX10_orders_51 rfl ?_
      refine j_ishr (pc := 53) dX10_orders_53 ?_
      refine j_iconst (pc := 54) dX10_orders_54 ic_1 ?_
      refine j_iand (pc := 55) dX10_orders_55 ?_
      refine j_V (pc := 56) (q0 := 0) (Kc := K_X10_acts) (As := [.int ((jshr x3 x4) &&& (1 : Int32))]) (rest := []) (wc := [jO a_o 7 [.int v_o_cards, .ref a_o_colour, .int w_o_dealMany, .ref a_o_deal, .ref a_o_st, .int w_o_acts, .ref a_o_was, .int w_o_keeps, .ref a_o_kept, .int w_o_seens, .ref a_o_seen, .ref a_o_text, .int w_o_texted, .int w_o_at, .ref a_o_told, .int w_o_isBegun, .int w_o_readCards, .ref a_o_readColour, .int w_o_readDeals, .ref a_o_readDeal, .ref a_o_now, .ref a_o_then, .ref a_o_ring, .ref a_o_goes, .ref a_o_far, .ref a_o_met, .int v_o_metMany], jI E a_o_now 16 f_o_now, jI E a_o_ring 32 f_o_ring, jI E a_o_then 16 f_o_then]) (w' := fun b3 => [jO a_o 7 [.int v_o_cards, .ref a_o_colour, .int w_o_dealMany, .ref a_o_deal, .ref a_o_st, .int w_o_acts, .ref a_o_was, .int w_o_keeps, .ref a_o_kept, .int w_o_seens, .ref a_o_seen, .ref a_o_text, .int w_o_texted, .int w_o_at, .ref a_o_told, .int w_o_isBegun, .int w_o_readCards, .ref a_o_readColour, .int w_o_readDeals, .ref a_o_readDeal, .ref a_o_now, .ref a_o_then, .ref a_o_ring, .ref a_o_goes, .ref a_o_far, .ref a_o_met, .int v_o_metMany], jI E a_o_met 2048 f_o_met, jI E a_o_now 16 b3.1, jI E a_o_ring 32 b3.2.1, jI E a_o_then 16 b3.2.2]) (st1 := fun b3 => []) [0, 2, 3, 4] rfl rfl rfl h c_X10_acts q_X10_acts m4_36 rfl rfl (Nat.le_of_ble_eq_true rfl) ⟨(Nat.le_of_ble_eq_true rfl), (Nat.le_of_ble_eq_true rfl)⟩ ⟨rfl, rfl⟩ ⟨(Nat.le_of_ble_eq_true rfl), (Nat.le_of_ble_eq_true rfl)⟩ dX10_orders_56 rfl (by decide) (fun _ => rfl) (fun _ => rfl) (fun _ => rfl) (fun b3 h => ?_)
      refine j_iinc (pc := 59) (j := 4) (lv' := [(4, .int (x4 + (1 : Int32))), (0, .ref a_o), (1, .int x1), (2, .int x2), (3, .int x3)]) dX10_orders_59 rfl (congrArg (fun z => x4 + z) ic_1) (Nat.le_of_ble_eq_true rfl) rfl ?_
      refine j_goto (pc := 62) (tgt := 43) dX10_orders_62 (by decide) ?_
      exact j_sub (lv' := [(0, .ref a_o), (1, .int x1), (2, .int x2), (3, .int x3), (4, .int (x4 + (1 : Int32)))]) [1, 2, 3, 4, 0] rfl (ih _ _ _ _ _ _ _ _ u h)
set_option maxRecDepth 20000 in
theorem w_X10_orders_26 {l : Launch} {E : jE} {F : Nat} {x1 : Int32} {v_o_cards : Int32} {a_o a_o_colour a_o_deal a_o_st a_o_was a_o_kept a_o_seen a_o_text a_o_told a_o_readColour a_o_readDeal a_o_now a_o_then a_o_ring a_o_goes a_o_far a_o_met : Nat} {w_o_dealMany : Int32} {w_o_acts : Int32} {w_o_keeps : Int32} {w_o_seens : Int32} {w_o_texted : Int32} {w_o_at : Int32} {w_o_isBegun : Int32} {w_o_readCards : Int32} {w_o_readDeals : Int32} {k_19 : Int32 → Int32 → (Nat → Int32) → (Nat → Int32) → (Nat → Int32) → (Nat → Int32) → Option (Int32 × Int32 × (Nat → Int32) × (Nat → Int32) × (Nat → Int32) × (Nat → Int32))} (hk_19 : ∀ (x2 : Int32) (v_o_metMany : Int32) (f_o_met : Nat → Int32) (f_o_now : Nat → Int32) (f_o_ring : Nat → Int32) (f_o_then : Nat → Int32) (u : Int32 × Int32 × (Nat → Int32) × (Nat → Int32) × (Nat → Int32) × (Nat → Int32)), k_19 x2 v_o_metMany f_o_met f_o_now f_o_ring f_o_then = some u → jT l E K_X10_orders 0 0 19 [(0, .ref a_o), (1, .int x1), (2, .int x2)] [] [jO a_o 7 [.int v_o_cards, .ref a_o_colour, .int w_o_dealMany, .ref a_o_deal, .ref a_o_st, .int w_o_acts, .ref a_o_was, .int w_o_keeps, .ref a_o_kept, .int w_o_seens, .ref a_o_seen, .ref a_o_text, .int w_o_texted, .int w_o_at, .ref a_o_told, .int w_o_isBegun, .int w_o_readCards, .ref a_o_readColour, .int w_o_readDeals, .ref a_o_readDeal, .ref a_o_now, .ref a_o_then, .ref a_o_ring, .ref a_o_goes, .ref a_o_far, .ref a_o_met, .int v_o_metMany], jI E a_o_met 2048 f_o_met, jI E a_o_now 16 f_o_now, jI E a_o_ring 32 f_o_ring, jI E a_o_then 16 f_o_then] (jd (some (.int u.1)) [jO a_o 7 [.int v_o_cards, .ref a_o_colour, .int w_o_dealMany, .ref a_o_deal, .ref a_o_st, .int w_o_acts, .ref a_o_was, .int w_o_keeps, .ref a_o_kept, .int w_o_seens, .ref a_o_seen, .ref a_o_text, .int w_o_texted, .int w_o_at, .ref a_o_told, .int w_o_isBegun, .int w_o_readCards, .ref a_o_readColour, .int w_o_readDeals, .ref a_o_readDeal, .ref a_o_now, .ref a_o_then, .ref a_o_ring, .ref a_o_goes, .ref a_o_far, .ref a_o_met, .int u.2.1], jI E a_o_met 2048 u.2.2.1, jI E a_o_now 16 u.2.2.2.1, jI E a_o_ring 32 u.2.2.2.2.1, jI E a_o_then 16 u.2.2.2.2.2])) : ∀ (n : Nat) (x2 : Int32) (x3 : Int32) (v_o_metMany : Int32) (f_o_met : Nat → Int32) (f_o_now : Nat → Int32) (f_o_ring : Nat → Int32) (f_o_then : Nat → Int32) (u : Int32 × Int32 × (Nat → Int32) × (Nat → Int32) × (Nat → Int32) × (Nat → Int32)), g_X10_orders_26 F x1 v_o_cards k_19 n x2 x3 v_o_metMany f_o_met f_o_now f_o_ring f_o_then = some u → jT l E K_X10_orders 0 0 26 [(0, .ref a_o), (1, .int x1), (2, .int x2), (3, .int x3)] [] [jO a_o 7 [.int v_o_cards, .ref a_o_colour, .int w_o_dealMany, .ref a_o_deal, .ref a_o_st, .int w_o_acts, .ref a_o_was, .int w_o_keeps, .ref a_o_kept, .int w_o_seens, .ref a_o_seen, .ref a_o_text, .int w_o_texted, .int w_o_at, .ref a_o_told, .int w_o_isBegun, .int w_o_readCards, .ref a_o_readColour, .int w_o_readDeals, .ref a_o_readDeal, .ref a_o_now, .ref a_o_then, .ref a_o_ring, .ref a_o_goes, .ref a_o_far, .ref a_o_met, .int v_o_metMany], jI E a_o_met 2048 f_o_met, jI E a_o_now 16 f_o_now, jI E a_o_ring 32 f_o_ring, jI E a_o_then 16 f_o_then] (jd (some (.int u.1)) [jO a_o 7 [.int v_o_cards, .ref a_o_colour, .int w_o_dealMany, .ref a_o_deal, .ref a_o_st, .int w_o_acts, .ref a_o_was, .int w_o_keeps, .ref a_o_kept, .int w_o_seens, .ref a_o_seen, .ref a_o_text, .int w_o_texted, .int w_o_at, .ref a_o_told, .int w_o_isBegun, .int w_o_readCards, .ref a_o_readColour, .int w_o_readDeals, .ref a_o_readDeal, .ref a_o_now, .ref a_o_then, .ref a_o_ring, .ref a_o_goes, .ref a_o_far, .ref a_o_met, .int u.2.1], jI E a_o_met 2048 u.2.2.1, jI E a_o_now 16 u.2.2.2.1, jI E a_o_ring 32 u.2.2.2.2.1, jI E a_o_then 16 u.2.2.2.2.2]) := by
  intro n
  induction n with
  | zero =>
    intro x2 x3 v_o_metMany f_o_met f_o_now f_o_ring f_o_then u h
    rw [g_X10_orders_26] at h
    cases h
  | succ n ih =>
    intro x2 x3 v_o_metMany f_o_met f_o_now f_o_ring f_o_then u h
    rw [g_X10_orders_26] at h
    refine j_iload_n (pc := 26) 3 dX10_orders_26 rfl rfl ?_
    refine j_iconst (pc := 27) dX10_orders_27 ic_1 ?_
    refine j_iload_n (pc := 28) 2 dX10_orders_28 rfl rfl ?_
    refine j_ishl (pc := 29) dX10_orders_29 ?_
    refine j_icmp_ge (pc := 30) (tgt := 109) dX10_orders_30 (by decide) h (fun h => ?_) (fun h => ?_)
    · refine j_iinc (pc := 109) (j := 2) (lv' := [(2, .int (x2 + (1 : Int32))), (0, .ref a_o), (1, .int x1), (3, .int x3)]) dX10_orders_109 rfl (congrArg (fun z => x2 + z) ic_1) (Nat.le_of_ble_eq_true rfl) rfl ?_
      refine j_goto (pc := 112) (tgt := 19) dX10_orders_112 (by decide) ?_
      exact j_sub (lv' := [(0, .ref a_o), (1, .int x1), (2, .int (x2 + (1 : Int32)))]) [1, 2, 0] rfl (hk_19 _ _ _ _ _ _ u h)
    · refine j_aload_n (pc := 33) 0 dX10_orders_33 rfl rfl ?_
      refine j_get (pc := 34) (v := .ref a_o_now) 0 20 rfl rfl (Nat.le_of_ble_eq_true rfl) iwX10 m3_124 rfl dX10_orders_34 ?_
      refine j_S (pc := 37) (Kc := K_X10_lies) (As := [.ref a_o_now]) (rest := []) (wc := [jI E a_o_now 16 f_o_now]) (w' := fun b1 => [jO a_o 7 [.int v_o_cards, .ref a_o_colour, .int w_o_dealMany, .ref a_o_deal, .ref a_o_st, .int w_o_acts, .ref a_o_was, .int w_o_keeps, .ref a_o_kept, .int w_o_seens, .ref a_o_seen, .ref a_o_text, .int w_o_texted, .int w_o_at, .ref a_o_told, .int w_o_isBegun, .int w_o_readCards, .ref a_o_readColour, .int w_o_readDeals, .ref a_o_readDeal, .ref a_o_now, .ref a_o_then, .ref a_o_ring, .ref a_o_goes, .ref a_o_far, .ref a_o_met, .int v_o_metMany], jI E a_o_met 2048 f_o_met, jI E a_o_now 16 b1, jI E a_o_ring 32 f_o_ring, jI E a_o_then 16 f_o_then]) (st1 := fun b1 => []) [2] h c_X10_lies q_X10_lies m3_101 rfl rfl (Nat.le_of_ble_eq_true rfl) ⟨(Nat.le_of_ble_eq_true rfl), (Nat.le_of_ble_eq_true rfl)⟩ ⟨rfl, rfl⟩ ⟨(Nat.le_of_ble_eq_true rfl), (Nat.le_of_ble_eq_true rfl)⟩ dX10_orders_37 rfl (by decide) (fun _ => rfl) (fun _ => rfl) (fun _ => rfl) (fun b1 h => ?_)
      refine j_iconst (pc := 40) dX10_orders_40 ic_0 ?_
      refine j_istore (pc := 41) (lv' := [(4, .int (0 : Int32)), (0, .ref a_o), (1, .int x1), (2, .int x2), (3, .int x3)]) dX10_orders_41 (Nat.le_of_ble_eq_true rfl) rfl ?_
      exact j_sub (lv' := [(0, .ref a_o), (1, .int x1), (2, .int x2), (3, .int x3), (4, .int (0 : Int32))]) [1, 2, 3, 4, 0] rfl (w_X10_orders_43 hk_19 ih _ _ _ _ _ _ _ _ _ u h)
set_option maxRecDepth 20000 in
theorem w_X10_orders_19 {l : Launch} {E : jE} {F : Nat} {x1 : Int32} {v_o_cards : Int32} {a_o a_o_colour a_o_deal a_o_st a_o_was a_o_kept a_o_seen a_o_text a_o_told a_o_readColour a_o_readDeal a_o_now a_o_then a_o_ring a_o_goes a_o_far a_o_met : Nat} {w_o_dealMany : Int32} {w_o_acts : Int32} {w_o_keeps : Int32} {w_o_seens : Int32} {w_o_texted : Int32} {w_o_at : Int32} {w_o_isBegun : Int32} {w_o_readCards : Int32} {w_o_readDeals : Int32} : ∀ (n : Nat) (x2 : Int32) (v_o_metMany : Int32) (f_o_met : Nat → Int32) (f_o_now : Nat → Int32) (f_o_ring : Nat → Int32) (f_o_then : Nat → Int32) (u : Int32 × Int32 × (Nat → Int32) × (Nat → Int32) × (Nat → Int32) × (Nat → Int32)), g_X10_orders_19 F x1 v_o_cards n x2 v_o_metMany f_o_met f_o_now f_o_ring f_o_then = some u → jT l E K_X10_orders 0 0 19 [(0, .ref a_o), (1, .int x1), (2, .int x2)] [] [jO a_o 7 [.int v_o_cards, .ref a_o_colour, .int w_o_dealMany, .ref a_o_deal, .ref a_o_st, .int w_o_acts, .ref a_o_was, .int w_o_keeps, .ref a_o_kept, .int w_o_seens, .ref a_o_seen, .ref a_o_text, .int w_o_texted, .int w_o_at, .ref a_o_told, .int w_o_isBegun, .int w_o_readCards, .ref a_o_readColour, .int w_o_readDeals, .ref a_o_readDeal, .ref a_o_now, .ref a_o_then, .ref a_o_ring, .ref a_o_goes, .ref a_o_far, .ref a_o_met, .int v_o_metMany], jI E a_o_met 2048 f_o_met, jI E a_o_now 16 f_o_now, jI E a_o_ring 32 f_o_ring, jI E a_o_then 16 f_o_then] (jd (some (.int u.1)) [jO a_o 7 [.int v_o_cards, .ref a_o_colour, .int w_o_dealMany, .ref a_o_deal, .ref a_o_st, .int w_o_acts, .ref a_o_was, .int w_o_keeps, .ref a_o_kept, .int w_o_seens, .ref a_o_seen, .ref a_o_text, .int w_o_texted, .int w_o_at, .ref a_o_told, .int w_o_isBegun, .int w_o_readCards, .ref a_o_readColour, .int w_o_readDeals, .ref a_o_readDeal, .ref a_o_now, .ref a_o_then, .ref a_o_ring, .ref a_o_goes, .ref a_o_far, .ref a_o_met, .int u.2.1], jI E a_o_met 2048 u.2.2.1, jI E a_o_now 16 u.2.2.2.1, jI E a_o_ring 32 u.2.2.2.2.1, jI E a_o_then 16 u.2.2.2.2.2]) := by
  intro n
  induction n with
  | zero =>
    intro x2 v_o_metMany f_o_met f_o_now f_o_ring f_o_then u h
    rw [g_X10_orders_19] at h
    cases h
  | succ n ih =>
    intro x2 v_o_metMany f_o_met f_o_now f_o_ring f_o_then u h
    rw [g_X10_orders_19] at h
    refine j_iload_n (pc := 19) 2 dX10_orders_19 rfl rfl ?_
    refine j_iload_n (pc := 20) 1 dX10_orders_20 rfl rfl ?_
    refine j_icmp_gt (pc := 21) (tgt := 115) dX10_orders_21 (by decide) h (fun h => ?_) (fun h => ?_)
    · refine j_aload_n (pc := 115) 0 dX10_orders_115 rfl rfl ?_
      refine j_get (pc := 116) (v := .int v_o_metMany) 0 26 rfl rfl (Nat.le_of_ble_eq_true rfl) iwX10 m3_130 rfl dX10_orders_116 ?_
      cases h
      exact j_iret (pc := 119) rfl dX10_orders_119 (Nat.le_of_ble_eq_true rfl) (Nat.le_of_ble_eq_true rfl) (jd_i rfl rfl)
    · refine j_iconst (pc := 24) dX10_orders_24 ic_0 ?_
      refine j_istore_n (pc := 25) (lv' := [(3, .int (0 : Int32)), (0, .ref a_o), (1, .int x1), (2, .int x2)]) dX10_orders_25 rfl (Nat.le_of_ble_eq_true rfl) rfl ?_
      exact j_sub (lv' := [(0, .ref a_o), (1, .int x1), (2, .int x2), (3, .int (0 : Int32))]) [1, 2, 3, 0] rfl (w_X10_orders_26 ih _ _ _ _ _ _ _ _ u h)
set_option maxRecDepth 20000 in
theorem c_X10_orders {l : Launch} {E : jE} {F : Nat} {x1 : Int32} {v_o_cards : Int32} {a_o a_o_colour a_o_deal a_o_st a_o_was a_o_kept a_o_seen a_o_text a_o_told a_o_readColour a_o_readDeal a_o_now a_o_then a_o_ring a_o_goes a_o_far a_o_met : Nat} {w_o_dealMany : Int32} {w_o_acts : Int32} {w_o_keeps : Int32} {w_o_seens : Int32} {w_o_texted : Int32} {w_o_at : Int32} {w_o_isBegun : Int32} {w_o_readCards : Int32} {w_o_readDeals : Int32} {v_o_metMany : Int32} {f_o_met : Nat → Int32} {f_o_now : Nat → Int32} {f_o_ring : Nat → Int32} {f_o_then : Nat → Int32} : ∀ u : Int32 × Int32 × (Nat → Int32) × (Nat → Int32) × (Nat → Int32) × (Nat → Int32), f_X10_orders F x1 v_o_cards v_o_metMany f_o_met f_o_now f_o_ring f_o_then = some u → jM l E K_X10_orders [.ref a_o, .int x1] [jO a_o 7 [.int v_o_cards, .ref a_o_colour, .int w_o_dealMany, .ref a_o_deal, .ref a_o_st, .int w_o_acts, .ref a_o_was, .int w_o_keeps, .ref a_o_kept, .int w_o_seens, .ref a_o_seen, .ref a_o_text, .int w_o_texted, .int w_o_at, .ref a_o_told, .int w_o_isBegun, .int w_o_readCards, .ref a_o_readColour, .int w_o_readDeals, .ref a_o_readDeal, .ref a_o_now, .ref a_o_then, .ref a_o_ring, .ref a_o_goes, .ref a_o_far, .ref a_o_met, .int v_o_metMany], jI E a_o_met 2048 f_o_met, jI E a_o_now 16 f_o_now, jI E a_o_ring 32 f_o_ring, jI E a_o_then 16 f_o_then] (jd (some (.int u.1)) [jO a_o 7 [.int v_o_cards, .ref a_o_colour, .int w_o_dealMany, .ref a_o_deal, .ref a_o_st, .int w_o_acts, .ref a_o_was, .int w_o_keeps, .ref a_o_kept, .int w_o_seens, .ref a_o_seen, .ref a_o_text, .int w_o_texted, .int w_o_at, .ref a_o_told, .int w_o_isBegun, .int w_o_readCards, .ref a_o_readColour, .int w_o_readDeals, .ref a_o_readDeal, .ref a_o_now, .ref a_o_then, .ref a_o_ring, .ref a_o_goes, .ref a_o_far, .ref a_o_met, .int u.2.1], jI E a_o_met 2048 u.2.2.1, jI E a_o_now 16 u.2.2.2.1, jI E a_o_ring 32 u.2.2.2.2.1, jI E a_o_then 16 u.2.2.2.2.2]) := by
  intro u h
  unfold f_X10_orders at h
  refine j_met [(0, .ref a_o), (1, .int x1)] (by decide +kernel) (Nat.le_of_ble_eq_true rfl) rfl ?_
  refine j_iload_n (pc := 0) 1 dX10_orders_0 rfl rfl ?_
  refine j_iconst (pc := 1) dX10_orders_1 ic_0 ?_
  refine j_bipush (pc := 2) dX10_orders_2 bc_6 ?_
  refine j_S0 (pc := 4) (Kc := K_X10_in) (As := [.int x1, .int (0 : Int32), .int (6 : Int32)]) (rest := []) h c_X10_in q_X10_in m3_190 rfl rfl (Nat.le_of_ble_eq_true rfl) ⟨(Nat.le_of_ble_eq_true rfl), (Nat.le_of_ble_eq_true rfl)⟩ ⟨rfl, rfl⟩ ⟨(Nat.le_of_ble_eq_true rfl), (Nat.le_of_ble_eq_true rfl)⟩ dX10_orders_4 (fun b1 h => ?_)
  refine j_if_ne (pc := 7) (tgt := 12) dX10_orders_7 (by decide) h (fun h => ?_) (fun h => ?_)
  · refine j_aload_n (pc := 12) 0 dX10_orders_12 rfl rfl ?_
    refine j_iconst (pc := 13) dX10_orders_13 ic_0 ?_
    refine j_put (pc := 14) (w' := [jO a_o 7 [.int v_o_cards, .ref a_o_colour, .int w_o_dealMany, .ref a_o_deal, .ref a_o_st, .int w_o_acts, .ref a_o_was, .int w_o_keeps, .ref a_o_kept, .int w_o_seens, .ref a_o_seen, .ref a_o_text, .int w_o_texted, .int w_o_at, .ref a_o_told, .int w_o_isBegun, .int w_o_readCards, .ref a_o_readColour, .int w_o_readDeals, .ref a_o_readDeal, .ref a_o_now, .ref a_o_then, .ref a_o_ring, .ref a_o_goes, .ref a_o_far, .ref a_o_met, .int (0 : Int32)], jI E a_o_met 2048 f_o_met, jI E a_o_now 16 f_o_now, jI E a_o_ring 32 f_o_ring, jI E a_o_then 16 f_o_then]) tyX10 0 26 tyX10_ok nmX10 rfl rfl (Nat.le_of_ble_eq_true rfl) iwX10 m3_130 rfl rfl rfl rfl (Nat.le_of_ble_eq_true rfl) dX10_orders_14 rfl ?_
    refine j_iconst (pc := 17) dX10_orders_17 ic_0 ?_
    refine j_istore_n (pc := 18) (lv' := [(2, .int (0 : Int32)), (0, .ref a_o), (1, .int x1)]) dX10_orders_18 rfl (Nat.le_of_ble_eq_true rfl) rfl ?_
    exact j_sub (lv' := [(0, .ref a_o), (1, .int x1), (2, .int (0 : Int32))]) [1, 2, 0] rfl (w_X10_orders_19 _ _ _ _ _ _ _ u h)
  · refine j_iconst (pc := 10) dX10_orders_10 ic_m1 ?_
    cases h
    exact j_iret (pc := 11) rfl dX10_orders_11 (Nat.le_of_ble_eq_true rfl) (Nat.le_of_ble_eq_true rfl) (jd_i rfl rfl)
set_option maxRecDepth 20000 in
theorem w_X10_risingNow_4 {l : Launch} {E : jE} {F : Nat} {v_o_cards : Int32} {f_o_now : Nat → Int32} {a_o a_o_colour a_o_deal a_o_st a_o_was a_o_kept a_o_seen a_o_text a_o_told a_o_readColour a_o_readDeal a_o_now a_o_then a_o_ring a_o_goes a_o_far a_o_met : Nat} {w_o_dealMany : Int32} {w_o_acts : Int32} {w_o_keeps : Int32} {w_o_seens : Int32} {w_o_texted : Int32} {w_o_at : Int32} {w_o_isBegun : Int32} {w_o_readCards : Int32} {w_o_readDeals : Int32} {w_o_metMany : Int32} : ∀ (n : Nat) (x1 : Int32) (x2 : Int32) (u : Int32), g_X10_risingNow_4 F v_o_cards f_o_now n x1 x2 = some u → jT l E K_X10_risingNow 0 0 4 [(0, .ref a_o), (1, .int x1), (2, .int x2)] [] [jO a_o 7 [.int v_o_cards, .ref a_o_colour, .int w_o_dealMany, .ref a_o_deal, .ref a_o_st, .int w_o_acts, .ref a_o_was, .int w_o_keeps, .ref a_o_kept, .int w_o_seens, .ref a_o_seen, .ref a_o_text, .int w_o_texted, .int w_o_at, .ref a_o_told, .int w_o_isBegun, .int w_o_readCards, .ref a_o_readColour, .int w_o_readDeals, .ref a_o_readDeal, .ref a_o_now, .ref a_o_then, .ref a_o_ring, .ref a_o_goes, .ref a_o_far, .ref a_o_met, .int w_o_metMany], jI E a_o_now 16 f_o_now] (jd (some (.int u)) [jO a_o 7 [.int v_o_cards, .ref a_o_colour, .int w_o_dealMany, .ref a_o_deal, .ref a_o_st, .int w_o_acts, .ref a_o_was, .int w_o_keeps, .ref a_o_kept, .int w_o_seens, .ref a_o_seen, .ref a_o_text, .int w_o_texted, .int w_o_at, .ref a_o_told, .int w_o_isBegun, .int w_o_readCards, .ref a_o_readColour, .int w_o_readDeals, .ref a_o_readDeal, .ref a_o_now, .ref a_o_then, .ref a_o_ring, .ref a_o_goes, .ref a_o_far, .ref a_o_met, .int w_o_metMany], jI E a_o_now 16 f_o_now]) := by
  intro n
  induction n with
  | zero =>
    intro x1 x2 u h
    rw [g_X10_risingNow_4] at h
    cases h
  | succ n ih =>
    intro x1 x2 u h
    rw [g_X10_risingNow_4] at h
    refine j_iload_n (pc := 4) 2 dX10_risingNow_4 rfl rfl ?_
    refine j_iconst (pc := 5) dX10_risingNow_5 ic_1 ?_
    refine j_iadd (pc := 6) dX10_risingNow_6 ?_
    refine j_aload_n (pc := 7) 0 dX10_risingNow_7 rfl rfl ?_
    refine j_get (pc := 8) (v := .int v_o_cards) 0 0 rfl rfl (Nat.le_of_ble_eq_true rfl) iwX10 m3_104 rfl dX10_risingNow_8 ?_
    refine j_icmp_ge (pc := 11) (tgt := 43) dX10_risingNow_11 (by decide) h (fun h => ?_) (fun h => ?_)
    · refine j_iload_n (pc := 43) 1 dX10_risingNow_43 rfl rfl ?_
      cases h
      exact j_iret (pc := 44) rfl dX10_risingNow_44 (Nat.le_of_ble_eq_true rfl) (Nat.le_of_ble_eq_true rfl) (jd_i rfl rfl)
    · refine j_iload_n (pc := 14) 1 dX10_risingNow_14 rfl rfl ?_
      refine j_aload_n (pc := 15) 0 dX10_risingNow_15 rfl rfl ?_
      refine j_iload_n (pc := 16) 2 dX10_risingNow_16 rfl rfl ?_
      refine j_iconst (pc := 17) dX10_risingNow_17 ic_1 ?_
      refine j_iadd (pc := 18) dX10_risingNow_18 ?_
      refine j_V (pc := 19) (q0 := 0) (Kc := K_X10_placeOf) (As := [.int (x2 + (1 : Int32))]) (rest := [.int x1]) (wc := [jO a_o 7 [.int v_o_cards, .ref a_o_colour, .int w_o_dealMany, .ref a_o_deal, .ref a_o_st, .int w_o_acts, .ref a_o_was, .int w_o_keeps, .ref a_o_kept, .int w_o_seens, .ref a_o_seen, .ref a_o_text, .int w_o_texted, .int w_o_at, .ref a_o_told, .int w_o_isBegun, .int w_o_readCards, .ref a_o_readColour, .int w_o_readDeals, .ref a_o_readDeal, .ref a_o_now, .ref a_o_then, .ref a_o_ring, .ref a_o_goes, .ref a_o_far, .ref a_o_met, .int w_o_metMany], jI E a_o_now 16 f_o_now]) (w' := fun b1 => [jO a_o 7 [.int v_o_cards, .ref a_o_colour, .int w_o_dealMany, .ref a_o_deal, .ref a_o_st, .int w_o_acts, .ref a_o_was, .int w_o_keeps, .ref a_o_kept, .int w_o_seens, .ref a_o_seen, .ref a_o_text, .int w_o_texted, .int w_o_at, .ref a_o_told, .int w_o_isBegun, .int w_o_readCards, .ref a_o_readColour, .int w_o_readDeals, .ref a_o_readDeal, .ref a_o_now, .ref a_o_then, .ref a_o_ring, .ref a_o_goes, .ref a_o_far, .ref a_o_met, .int w_o_metMany], jI E a_o_now 16 f_o_now]) (st1 := fun b1 => [.int b1, .int x1]) [0, 1] rfl rfl rfl h c_X10_placeOf q_X10_placeOf m4_13 rfl rfl (Nat.le_of_ble_eq_true rfl) ⟨(Nat.le_of_ble_eq_true rfl), (Nat.le_of_ble_eq_true rfl)⟩ ⟨rfl, rfl⟩ ⟨(Nat.le_of_ble_eq_true rfl), (Nat.le_of_ble_eq_true rfl)⟩ dX10_risingNow_19 rfl (by decide) (fun _ => rfl) (fun _ => rfl) (fun _ => rfl) (fun b1 h => ?_)
      refine j_aload_n (pc := 22) 0 dX10_risingNow_22 rfl rfl ?_
      refine j_iload_n (pc := 23) 2 dX10_risingNow_23 rfl rfl ?_
      refine j_V (pc := 24) (q0 := 0) (Kc := K_X10_placeOf) (As := [.int x2]) (rest := [.int b1, .int x1]) (wc := [jO a_o 7 [.int v_o_cards, .ref a_o_colour, .int w_o_dealMany, .ref a_o_deal, .ref a_o_st, .int w_o_acts, .ref a_o_was, .int w_o_keeps, .ref a_o_kept, .int w_o_seens, .ref a_o_seen, .ref a_o_text, .int w_o_texted, .int w_o_at, .ref a_o_told, .int w_o_isBegun, .int w_o_readCards, .ref a_o_readColour, .int w_o_readDeals, .ref a_o_readDeal, .ref a_o_now, .ref a_o_then, .ref a_o_ring, .ref a_o_goes, .ref a_o_far, .ref a_o_met, .int w_o_metMany], jI E a_o_now 16 f_o_now]) (w' := fun b2 => [jO a_o 7 [.int v_o_cards, .ref a_o_colour, .int w_o_dealMany, .ref a_o_deal, .ref a_o_st, .int w_o_acts, .ref a_o_was, .int w_o_keeps, .ref a_o_kept, .int w_o_seens, .ref a_o_seen, .ref a_o_text, .int w_o_texted, .int w_o_at, .ref a_o_told, .int w_o_isBegun, .int w_o_readCards, .ref a_o_readColour, .int w_o_readDeals, .ref a_o_readDeal, .ref a_o_now, .ref a_o_then, .ref a_o_ring, .ref a_o_goes, .ref a_o_far, .ref a_o_met, .int w_o_metMany], jI E a_o_now 16 f_o_now]) (st1 := fun b2 => [.int b2, .int b1, .int x1]) [0, 1] rfl rfl rfl h c_X10_placeOf q_X10_placeOf m4_13 rfl rfl (Nat.le_of_ble_eq_true rfl) ⟨(Nat.le_of_ble_eq_true rfl), (Nat.le_of_ble_eq_true rfl)⟩ ⟨rfl, rfl⟩ ⟨(Nat.le_of_ble_eq_true rfl), (Nat.le_of_ble_eq_true rfl)⟩ dX10_risingNow_24 rfl (by decide) (fun _ => rfl) (fun _ => rfl) (fun _ => rfl) (fun b2 h => ?_)
      refine j_icmp_ge (pc := 27) (tgt := 34) dX10_risingNow_27 (by decide) h (fun h => ?_) (fun h => ?_)
      · refine j_iconst (pc := 34) dX10_risingNow_34 ic_0 ?_
        refine j_iadd (pc := 35) dX10_risingNow_35 ?_
        refine j_istore_n (pc := 36) (lv' := [(1, .int (x1 + (0 : Int32))), (0, .ref a_o), (2, .int x2)]) dX10_risingNow_36 rfl (Nat.le_of_ble_eq_true rfl) rfl ?_
        refine j_iinc (pc := 37) (j := 2) (lv' := [(2, .int (x2 + (1 : Int32))), (1, .int (x1 + (0 : Int32))), (0, .ref a_o)]) dX10_risingNow_37 rfl (congrArg (fun z => x2 + z) ic_1) (Nat.le_of_ble_eq_true rfl) rfl ?_
        refine j_goto (pc := 40) (tgt := 4) dX10_risingNow_40 (by decide) ?_
        exact j_sub (lv' := [(0, .ref a_o), (1, .int (x1 + (0 : Int32))), (2, .int (x2 + (1 : Int32)))]) [2, 1, 0] rfl (ih _ _ u h)
      · refine j_iconst (pc := 30) dX10_risingNow_30 ic_1 ?_
        refine j_goto (pc := 31) (tgt := 35) dX10_risingNow_31 (by decide) ?_
        refine j_iadd (pc := 35) dX10_risingNow_35 ?_
        refine j_istore_n (pc := 36) (lv' := [(1, .int (x1 + (1 : Int32))), (0, .ref a_o), (2, .int x2)]) dX10_risingNow_36 rfl (Nat.le_of_ble_eq_true rfl) rfl ?_
        refine j_iinc (pc := 37) (j := 2) (lv' := [(2, .int (x2 + (1 : Int32))), (1, .int (x1 + (1 : Int32))), (0, .ref a_o)]) dX10_risingNow_37 rfl (congrArg (fun z => x2 + z) ic_1) (Nat.le_of_ble_eq_true rfl) rfl ?_
        refine j_goto (pc := 40) (tgt := 4) dX10_risingNow_40 (by decide) ?_
        exact j_sub (lv' := [(0, .ref a_o), (1, .int (x1 + (1 : Int32))), (2, .int (x2 + (1 : Int32)))]) [2, 1, 0] rfl (ih _ _ u h)
set_option maxRecDepth 20000 in
theorem c_X10_risingNow {l : Launch} {E : jE} {F : Nat} {v_o_cards : Int32} {f_o_now : Nat → Int32} {a_o a_o_colour a_o_deal a_o_st a_o_was a_o_kept a_o_seen a_o_text a_o_told a_o_readColour a_o_readDeal a_o_now a_o_then a_o_ring a_o_goes a_o_far a_o_met : Nat} {w_o_dealMany : Int32} {w_o_acts : Int32} {w_o_keeps : Int32} {w_o_seens : Int32} {w_o_texted : Int32} {w_o_at : Int32} {w_o_isBegun : Int32} {w_o_readCards : Int32} {w_o_readDeals : Int32} {w_o_metMany : Int32} : ∀ u : Int32, f_X10_risingNow F v_o_cards f_o_now = some u → jM l E K_X10_risingNow [.ref a_o] [jO a_o 7 [.int v_o_cards, .ref a_o_colour, .int w_o_dealMany, .ref a_o_deal, .ref a_o_st, .int w_o_acts, .ref a_o_was, .int w_o_keeps, .ref a_o_kept, .int w_o_seens, .ref a_o_seen, .ref a_o_text, .int w_o_texted, .int w_o_at, .ref a_o_told, .int w_o_isBegun, .int w_o_readCards, .ref a_o_readColour, .int w_o_readDeals, .ref a_o_readDeal, .ref a_o_now, .ref a_o_then, .ref a_o_ring, .ref a_o_goes, .ref a_o_far, .ref a_o_met, .int w_o_metMany], jI E a_o_now 16 f_o_now] (jd (some (.int u)) [jO a_o 7 [.int v_o_cards, .ref a_o_colour, .int w_o_dealMany, .ref a_o_deal, .ref a_o_st, .int w_o_acts, .ref a_o_was, .int w_o_keeps, .ref a_o_kept, .int w_o_seens, .ref a_o_seen, .ref a_o_text, .int w_o_texted, .int w_o_at, .ref a_o_told, .int w_o_isBegun, .int w_o_readCards, .ref a_o_readColour, .int w_o_readDeals, .ref a_o_readDeal, .ref a_o_now, .ref a_o_then, .ref a_o_ring, .ref a_o_goes, .ref a_o_far, .ref a_o_met, .int w_o_metMany], jI E a_o_now 16 f_o_now]) := by
  intro u h
  unfold f_X10_risingNow at h
  refine j_met [(0, .ref a_o)] (by decide +kernel) (Nat.le_of_ble_eq_true rfl) rfl ?_
  refine j_iconst (pc := 0) dX10_risingNow_0 ic_1 ?_
  refine j_istore_n (pc := 1) (lv' := [(1, .int (1 : Int32)), (0, .ref a_o)]) dX10_risingNow_1 rfl (Nat.le_of_ble_eq_true rfl) rfl ?_
  refine j_iconst (pc := 2) dX10_risingNow_2 ic_0 ?_
  refine j_istore_n (pc := 3) (lv' := [(2, .int (0 : Int32)), (1, .int (1 : Int32)), (0, .ref a_o)]) dX10_risingNow_3 rfl (Nat.le_of_ble_eq_true rfl) rfl ?_
  exact j_sub (lv' := [(0, .ref a_o), (1, .int (1 : Int32)), (2, .int (0 : Int32))]) [2, 1, 0] rfl (w_X10_risingNow_4 _ _ _ u h)
set_option maxRecDepth 20000 in
theorem c_X10_rising {l : Launch} {E : jE} {F : Nat} {v_o_cards : Int32} {f_o_st : Nat → Int32} {a_o a_o_colour a_o_deal a_o_st a_o_was a_o_kept a_o_seen a_o_text a_o_told a_o_readColour a_o_readDeal a_o_now a_o_then a_o_ring a_o_goes a_o_far a_o_met : Nat} {w_o_dealMany : Int32} {w_o_acts : Int32} {w_o_keeps : Int32} {w_o_seens : Int32} {w_o_texted : Int32} {w_o_at : Int32} {w_o_isBegun : Int32} {w_o_readCards : Int32} {w_o_readDeals : Int32} {w_o_metMany : Int32} {f_o_now : Nat → Int32} : ∀ u : Int32 × (Nat → Int32), f_X10_rising F v_o_cards f_o_st f_o_now = some u → jM l E K_X10_rising [.ref a_o] [jO a_o 7 [.int v_o_cards, .ref a_o_colour, .int w_o_dealMany, .ref a_o_deal, .ref a_o_st, .int w_o_acts, .ref a_o_was, .int w_o_keeps, .ref a_o_kept, .int w_o_seens, .ref a_o_seen, .ref a_o_text, .int w_o_texted, .int w_o_at, .ref a_o_told, .int w_o_isBegun, .int w_o_readCards, .ref a_o_readColour, .int w_o_readDeals, .ref a_o_readDeal, .ref a_o_now, .ref a_o_then, .ref a_o_ring, .ref a_o_goes, .ref a_o_far, .ref a_o_met, .int w_o_metMany], jI E a_o_now 16 f_o_now, jI E a_o_st 16 f_o_st] (jd (some (.int u.1)) [jO a_o 7 [.int v_o_cards, .ref a_o_colour, .int w_o_dealMany, .ref a_o_deal, .ref a_o_st, .int w_o_acts, .ref a_o_was, .int w_o_keeps, .ref a_o_kept, .int w_o_seens, .ref a_o_seen, .ref a_o_text, .int w_o_texted, .int w_o_at, .ref a_o_told, .int w_o_isBegun, .int w_o_readCards, .ref a_o_readColour, .int w_o_readDeals, .ref a_o_readDeal, .ref a_o_now, .ref a_o_then, .ref a_o_ring, .ref a_o_goes, .ref a_o_far, .ref a_o_met, .int w_o_metMany], jI E a_o_now 16 u.2, jI E a_o_st 16 f_o_st]) := by
  intro u h
  unfold f_X10_rising at h
  refine j_met [(0, .ref a_o)] (by decide +kernel) (Nat.le_of_ble_eq_true rfl) rfl ?_
  refine j_aload_n (pc := 0) 0 dX10_rising_0 rfl rfl ?_
  refine j_V (pc := 1) (q0 := 0) (Kc := K_X10_asItIs) (As := []) (rest := []) (wc := [jO a_o 7 [.int v_o_cards, .ref a_o_colour, .int w_o_dealMany, .ref a_o_deal, .ref a_o_st, .int w_o_acts, .ref a_o_was, .int w_o_keeps, .ref a_o_kept, .int w_o_seens, .ref a_o_seen, .ref a_o_text, .int w_o_texted, .int w_o_at, .ref a_o_told, .int w_o_isBegun, .int w_o_readCards, .ref a_o_readColour, .int w_o_readDeals, .ref a_o_readDeal, .ref a_o_now, .ref a_o_then, .ref a_o_ring, .ref a_o_goes, .ref a_o_far, .ref a_o_met, .int w_o_metMany], jI E a_o_now 16 f_o_now, jI E a_o_st 16 f_o_st]) (w' := fun b1 => [jO a_o 7 [.int v_o_cards, .ref a_o_colour, .int w_o_dealMany, .ref a_o_deal, .ref a_o_st, .int w_o_acts, .ref a_o_was, .int w_o_keeps, .ref a_o_kept, .int w_o_seens, .ref a_o_seen, .ref a_o_text, .int w_o_texted, .int w_o_at, .ref a_o_told, .int w_o_isBegun, .int w_o_readCards, .ref a_o_readColour, .int w_o_readDeals, .ref a_o_readDeal, .ref a_o_now, .ref a_o_then, .ref a_o_ring, .ref a_o_goes, .ref a_o_far, .ref a_o_met, .int w_o_metMany], jI E a_o_now 16 b1, jI E a_o_st 16 f_o_st]) (st1 := fun b1 => []) [0, 1, 2] rfl rfl rfl h c_X10_asItIs q_X10_asItIs m4_9 rfl rfl (Nat.le_of_ble_eq_true rfl) ⟨(Nat.le_of_ble_eq_true rfl), (Nat.le_of_ble_eq_true rfl)⟩ ⟨rfl, rfl⟩ ⟨(Nat.le_of_ble_eq_true rfl), (Nat.le_of_ble_eq_true rfl)⟩ dX10_rising_1 rfl (by decide) (fun _ => rfl) (fun _ => rfl) (fun _ => rfl) (fun b1 h => ?_)
  refine j_aload_n (pc := 4) 0 dX10_rising_4 rfl rfl ?_
  refine j_V (pc := 5) (q0 := 0) (Kc := K_X10_risingNow) (As := []) (rest := []) (wc := [jO a_o 7 [.int v_o_cards, .ref a_o_colour, .int w_o_dealMany, .ref a_o_deal, .ref a_o_st, .int w_o_acts, .ref a_o_was, .int w_o_keeps, .ref a_o_kept, .int w_o_seens, .ref a_o_seen, .ref a_o_text, .int w_o_texted, .int w_o_at, .ref a_o_told, .int w_o_isBegun, .int w_o_readCards, .ref a_o_readColour, .int w_o_readDeals, .ref a_o_readDeal, .ref a_o_now, .ref a_o_then, .ref a_o_ring, .ref a_o_goes, .ref a_o_far, .ref a_o_met, .int w_o_metMany], jI E a_o_now 16 b1]) (w' := fun b2 => [jO a_o 7 [.int v_o_cards, .ref a_o_colour, .int w_o_dealMany, .ref a_o_deal, .ref a_o_st, .int w_o_acts, .ref a_o_was, .int w_o_keeps, .ref a_o_kept, .int w_o_seens, .ref a_o_seen, .ref a_o_text, .int w_o_texted, .int w_o_at, .ref a_o_told, .int w_o_isBegun, .int w_o_readCards, .ref a_o_readColour, .int w_o_readDeals, .ref a_o_readDeal, .ref a_o_now, .ref a_o_then, .ref a_o_ring, .ref a_o_goes, .ref a_o_far, .ref a_o_met, .int w_o_metMany], jI E a_o_now 16 b1, jI E a_o_st 16 f_o_st]) (st1 := fun b2 => [.int b2]) [0, 1] rfl rfl rfl h c_X10_risingNow q_X10_risingNow m4_120 rfl rfl (Nat.le_of_ble_eq_true rfl) ⟨(Nat.le_of_ble_eq_true rfl), (Nat.le_of_ble_eq_true rfl)⟩ ⟨rfl, rfl⟩ ⟨(Nat.le_of_ble_eq_true rfl), (Nat.le_of_ble_eq_true rfl)⟩ dX10_rising_5 rfl (by decide) (fun _ => rfl) (fun _ => rfl) (fun _ => rfl) (fun b2 h => ?_)
  cases h
  exact j_iret (pc := 8) rfl dX10_rising_8 (Nat.le_of_ble_eq_true rfl) (Nat.le_of_ble_eq_true rfl) (jd_i rfl rfl)
set_option maxRecDepth 20000 in
theorem w_X10_unlike_4 {l : Launch} {E : jE} {F : Nat} {n_p1 : Nat} {v_o_cards : Int32} {f_p1 : Nat → Int32} {f_o_colour : Nat → Int32} {a_o a_o_colour a_o_deal a_o_st a_o_was a_o_kept a_o_seen a_o_text a_o_told a_o_readColour a_o_readDeal a_o_now a_o_then a_o_ring a_o_goes a_o_far a_o_met a_p1 : Nat} {w_o_dealMany : Int32} {w_o_acts : Int32} {w_o_keeps : Int32} {w_o_seens : Int32} {w_o_texted : Int32} {w_o_at : Int32} {w_o_isBegun : Int32} {w_o_readCards : Int32} {w_o_readDeals : Int32} {w_o_metMany : Int32} : ∀ (n : Nat) (x2 : Int32) (x3 : Int32) (u : Int32), g_X10_unlike_4 F n_p1 v_o_cards f_p1 f_o_colour n x2 x3 = some u → jT l E K_X10_unlike 0 0 4 [(0, .ref a_o), (1, .ref a_p1), (2, .int x2), (3, .int x3)] [] [jO a_o 7 [.int v_o_cards, .ref a_o_colour, .int w_o_dealMany, .ref a_o_deal, .ref a_o_st, .int w_o_acts, .ref a_o_was, .int w_o_keeps, .ref a_o_kept, .int w_o_seens, .ref a_o_seen, .ref a_o_text, .int w_o_texted, .int w_o_at, .ref a_o_told, .int w_o_isBegun, .int w_o_readCards, .ref a_o_readColour, .int w_o_readDeals, .ref a_o_readDeal, .ref a_o_now, .ref a_o_then, .ref a_o_ring, .ref a_o_goes, .ref a_o_far, .ref a_o_met, .int w_o_metMany], jI E a_p1 n_p1 f_p1, jI E a_o_colour 16 f_o_colour] (jd (some (.int u)) [jO a_o 7 [.int v_o_cards, .ref a_o_colour, .int w_o_dealMany, .ref a_o_deal, .ref a_o_st, .int w_o_acts, .ref a_o_was, .int w_o_keeps, .ref a_o_kept, .int w_o_seens, .ref a_o_seen, .ref a_o_text, .int w_o_texted, .int w_o_at, .ref a_o_told, .int w_o_isBegun, .int w_o_readCards, .ref a_o_readColour, .int w_o_readDeals, .ref a_o_readDeal, .ref a_o_now, .ref a_o_then, .ref a_o_ring, .ref a_o_goes, .ref a_o_far, .ref a_o_met, .int w_o_metMany], jI E a_p1 n_p1 f_p1, jI E a_o_colour 16 f_o_colour]) := by
  intro n
  induction n with
  | zero =>
    intro x2 x3 u h
    rw [g_X10_unlike_4] at h
    cases h
  | succ n ih =>
    intro x2 x3 u h
    rw [g_X10_unlike_4] at h
    refine j_iload_n (pc := 4) 3 dX10_unlike_4 rfl rfl ?_
    refine j_iconst (pc := 5) dX10_unlike_5 ic_1 ?_
    refine j_iadd (pc := 6) dX10_unlike_6 ?_
    refine j_aload_n (pc := 7) 0 dX10_unlike_7 rfl rfl ?_
    refine j_get (pc := 8) (v := .int v_o_cards) 0 0 rfl rfl (Nat.le_of_ble_eq_true rfl) iwX10 m3_104 rfl dX10_unlike_8 ?_
    refine j_icmp_ge (pc := 11) (tgt := 49) dX10_unlike_11 (by decide) h (fun h => ?_) (fun h => ?_)
    · refine j_iload_n (pc := 49) 2 dX10_unlike_49 rfl rfl ?_
      cases h
      exact j_iret (pc := 50) rfl dX10_unlike_50 (Nat.le_of_ble_eq_true rfl) (Nat.le_of_ble_eq_true rfl) (jd_i rfl rfl)
    · refine j_iload_n (pc := 14) 2 dX10_unlike_14 rfl rfl ?_
      refine j_aload_n (pc := 15) 0 dX10_unlike_15 rfl rfl ?_
      refine j_get (pc := 16) (v := .ref a_o_colour) 0 1 rfl rfl (Nat.le_of_ble_eq_true rfl) iwX10 m3_105 rfl dX10_unlike_16 ?_
      refine j_aload_n (pc := 19) 1 dX10_unlike_19 rfl rfl ?_
      refine j_iload_n (pc := 20) 3 dX10_unlike_20 rfl rfl ?_
      refine j_iald (pc := 21) 1 rfl dX10_unlike_21 h (fun h => ?_)
      refine j_iald (pc := 22) 2 rfl dX10_unlike_22 h (fun h => ?_)
      refine j_aload_n (pc := 23) 0 dX10_unlike_23 rfl rfl ?_
      refine j_get (pc := 24) (v := .ref a_o_colour) 0 1 rfl rfl (Nat.le_of_ble_eq_true rfl) iwX10 m3_105 rfl dX10_unlike_24 ?_
      refine j_aload_n (pc := 27) 1 dX10_unlike_27 rfl rfl ?_
      refine j_iload_n (pc := 28) 3 dX10_unlike_28 rfl rfl ?_
      refine j_iconst (pc := 29) dX10_unlike_29 ic_1 ?_
      refine j_iadd (pc := 30) dX10_unlike_30 ?_
      refine j_iald (pc := 31) 1 rfl dX10_unlike_31 h (fun h => ?_)
      refine j_iald (pc := 32) 2 rfl dX10_unlike_32 h (fun h => ?_)
      refine j_icmp_eq (pc := 33) (tgt := 40) dX10_unlike_33 (by decide) h (fun h => ?_) (fun h => ?_)
      · refine j_iconst (pc := 40) dX10_unlike_40 ic_0 ?_
        refine j_iadd (pc := 41) dX10_unlike_41 ?_
        refine j_istore_n (pc := 42) (lv' := [(2, .int (x2 + (0 : Int32))), (0, .ref a_o), (1, .ref a_p1), (3, .int x3)]) dX10_unlike_42 rfl (Nat.le_of_ble_eq_true rfl) rfl ?_
        refine j_iinc (pc := 43) (j := 3) (lv' := [(3, .int (x3 + (2 : Int32))), (2, .int (x2 + (0 : Int32))), (0, .ref a_o), (1, .ref a_p1)]) dX10_unlike_43 rfl (congrArg (fun z => x3 + z) ic_2) (Nat.le_of_ble_eq_true rfl) rfl ?_
        refine j_goto (pc := 46) (tgt := 4) dX10_unlike_46 (by decide) ?_
        exact j_sub (lv' := [(0, .ref a_o), (1, .ref a_p1), (2, .int (x2 + (0 : Int32))), (3, .int (x3 + (2 : Int32)))]) [2, 3, 1, 0] rfl (ih _ _ u h)
      · refine j_iconst (pc := 36) dX10_unlike_36 ic_1 ?_
        refine j_goto (pc := 37) (tgt := 41) dX10_unlike_37 (by decide) ?_
        refine j_iadd (pc := 41) dX10_unlike_41 ?_
        refine j_istore_n (pc := 42) (lv' := [(2, .int (x2 + (1 : Int32))), (0, .ref a_o), (1, .ref a_p1), (3, .int x3)]) dX10_unlike_42 rfl (Nat.le_of_ble_eq_true rfl) rfl ?_
        refine j_iinc (pc := 43) (j := 3) (lv' := [(3, .int (x3 + (2 : Int32))), (2, .int (x2 + (1 : Int32))), (0, .ref a_o), (1, .ref a_p1)]) dX10_unlike_43 rfl (congrArg (fun z => x3 + z) ic_2) (Nat.le_of_ble_eq_true rfl) rfl ?_
        refine j_goto (pc := 46) (tgt := 4) dX10_unlike_46 (by decide) ?_
        exact j_sub (lv' := [(0, .ref a_o), (1, .ref a_p1), (2, .int (x2 + (1 : Int32))), (3, .int (x3 + (2 : Int32)))]) [2, 3, 1, 0] rfl (ih _ _ u h)
set_option maxRecDepth 20000 in
theorem c_X10_unlike {l : Launch} {E : jE} {F : Nat} {n_p1 : Nat} {v_o_cards : Int32} {f_p1 : Nat → Int32} {f_o_colour : Nat → Int32} {a_o a_o_colour a_o_deal a_o_st a_o_was a_o_kept a_o_seen a_o_text a_o_told a_o_readColour a_o_readDeal a_o_now a_o_then a_o_ring a_o_goes a_o_far a_o_met a_p1 : Nat} {w_o_dealMany : Int32} {w_o_acts : Int32} {w_o_keeps : Int32} {w_o_seens : Int32} {w_o_texted : Int32} {w_o_at : Int32} {w_o_isBegun : Int32} {w_o_readCards : Int32} {w_o_readDeals : Int32} {w_o_metMany : Int32} : ∀ u : Int32, f_X10_unlike F n_p1 v_o_cards f_p1 f_o_colour = some u → jM l E K_X10_unlike [.ref a_o, .ref a_p1] [jO a_o 7 [.int v_o_cards, .ref a_o_colour, .int w_o_dealMany, .ref a_o_deal, .ref a_o_st, .int w_o_acts, .ref a_o_was, .int w_o_keeps, .ref a_o_kept, .int w_o_seens, .ref a_o_seen, .ref a_o_text, .int w_o_texted, .int w_o_at, .ref a_o_told, .int w_o_isBegun, .int w_o_readCards, .ref a_o_readColour, .int w_o_readDeals, .ref a_o_readDeal, .ref a_o_now, .ref a_o_then, .ref a_o_ring, .ref a_o_goes, .ref a_o_far, .ref a_o_met, .int w_o_metMany], jI E a_p1 n_p1 f_p1, jI E a_o_colour 16 f_o_colour] (jd (some (.int u)) [jO a_o 7 [.int v_o_cards, .ref a_o_colour, .int w_o_dealMany, .ref a_o_deal, .ref a_o_st, .int w_o_acts, .ref a_o_was, .int w_o_keeps, .ref a_o_kept, .int w_o_seens, .ref a_o_seen, .ref a_o_text, .int w_o_texted, .int w_o_at, .ref a_o_told, .int w_o_isBegun, .int w_o_readCards, .ref a_o_readColour, .int w_o_readDeals, .ref a_o_readDeal, .ref a_o_now, .ref a_o_then, .ref a_o_ring, .ref a_o_goes, .ref a_o_far, .ref a_o_met, .int w_o_metMany], jI E a_p1 n_p1 f_p1, jI E a_o_colour 16 f_o_colour]) := by
  intro u h
  unfold f_X10_unlike at h
  refine j_met [(0, .ref a_o), (1, .ref a_p1)] (by decide +kernel) (Nat.le_of_ble_eq_true rfl) rfl ?_
  refine j_iconst (pc := 0) dX10_unlike_0 ic_0 ?_
  refine j_istore_n (pc := 1) (lv' := [(2, .int (0 : Int32)), (0, .ref a_o), (1, .ref a_p1)]) dX10_unlike_1 rfl (Nat.le_of_ble_eq_true rfl) rfl ?_
  refine j_iconst (pc := 2) dX10_unlike_2 ic_0 ?_
  refine j_istore_n (pc := 3) (lv' := [(3, .int (0 : Int32)), (2, .int (0 : Int32)), (0, .ref a_o), (1, .ref a_p1)]) dX10_unlike_3 rfl (Nat.le_of_ble_eq_true rfl) rfl ?_
  exact j_sub (lv' := [(0, .ref a_o), (1, .ref a_p1), (2, .int (0 : Int32)), (3, .int (0 : Int32))]) [2, 3, 1, 0] rfl (w_X10_unlike_4 _ _ _ u h)
set_option maxRecDepth 20000 in
theorem c_X10_pairs {l : Launch} {E : jE} {F : Nat} {v_o_cards : Int32} {f_o_colour : Nat → Int32} {f_o_st : Nat → Int32} {a_o a_o_colour a_o_deal a_o_st a_o_was a_o_kept a_o_seen a_o_text a_o_told a_o_readColour a_o_readDeal a_o_now a_o_then a_o_ring a_o_goes a_o_far a_o_met : Nat} {w_o_dealMany : Int32} {w_o_acts : Int32} {w_o_keeps : Int32} {w_o_seens : Int32} {w_o_texted : Int32} {w_o_at : Int32} {w_o_isBegun : Int32} {w_o_readCards : Int32} {w_o_readDeals : Int32} {w_o_metMany : Int32} : ∀ u : Int32, f_X10_pairs F v_o_cards f_o_colour f_o_st = some u → jM l E K_X10_pairs [.ref a_o] [jO a_o 7 [.int v_o_cards, .ref a_o_colour, .int w_o_dealMany, .ref a_o_deal, .ref a_o_st, .int w_o_acts, .ref a_o_was, .int w_o_keeps, .ref a_o_kept, .int w_o_seens, .ref a_o_seen, .ref a_o_text, .int w_o_texted, .int w_o_at, .ref a_o_told, .int w_o_isBegun, .int w_o_readCards, .ref a_o_readColour, .int w_o_readDeals, .ref a_o_readDeal, .ref a_o_now, .ref a_o_then, .ref a_o_ring, .ref a_o_goes, .ref a_o_far, .ref a_o_met, .int w_o_metMany], jI E a_o_colour 16 f_o_colour, jI E a_o_st 16 f_o_st] (jd (some (.int u)) [jO a_o 7 [.int v_o_cards, .ref a_o_colour, .int w_o_dealMany, .ref a_o_deal, .ref a_o_st, .int w_o_acts, .ref a_o_was, .int w_o_keeps, .ref a_o_kept, .int w_o_seens, .ref a_o_seen, .ref a_o_text, .int w_o_texted, .int w_o_at, .ref a_o_told, .int w_o_isBegun, .int w_o_readCards, .ref a_o_readColour, .int w_o_readDeals, .ref a_o_readDeal, .ref a_o_now, .ref a_o_then, .ref a_o_ring, .ref a_o_goes, .ref a_o_far, .ref a_o_met, .int w_o_metMany], jI E a_o_colour 16 f_o_colour, jI E a_o_st 16 f_o_st]) := by
  intro u h
  unfold f_X10_pairs at h
  refine j_met [(0, .ref a_o)] (by decide +kernel) (Nat.le_of_ble_eq_true rfl) rfl ?_
  refine j_aload_n (pc := 0) 0 dX10_pairs_0 rfl rfl ?_
  refine j_aload_n (pc := 1) 0 dX10_pairs_1 rfl rfl ?_
  refine j_get (pc := 2) (v := .ref a_o_st) 0 4 rfl rfl (Nat.le_of_ble_eq_true rfl) iwX10 m3_108 rfl dX10_pairs_2 ?_
  refine j_V (pc := 5) (q0 := 0) (Kc := K_X10_unlike) (As := [.ref a_o_st]) (rest := []) (wc := [jO a_o 7 [.int v_o_cards, .ref a_o_colour, .int w_o_dealMany, .ref a_o_deal, .ref a_o_st, .int w_o_acts, .ref a_o_was, .int w_o_keeps, .ref a_o_kept, .int w_o_seens, .ref a_o_seen, .ref a_o_text, .int w_o_texted, .int w_o_at, .ref a_o_told, .int w_o_isBegun, .int w_o_readCards, .ref a_o_readColour, .int w_o_readDeals, .ref a_o_readDeal, .ref a_o_now, .ref a_o_then, .ref a_o_ring, .ref a_o_goes, .ref a_o_far, .ref a_o_met, .int w_o_metMany], jI E a_o_st 16 f_o_st, jI E a_o_colour 16 f_o_colour]) (w' := fun b1 => [jO a_o 7 [.int v_o_cards, .ref a_o_colour, .int w_o_dealMany, .ref a_o_deal, .ref a_o_st, .int w_o_acts, .ref a_o_was, .int w_o_keeps, .ref a_o_kept, .int w_o_seens, .ref a_o_seen, .ref a_o_text, .int w_o_texted, .int w_o_at, .ref a_o_told, .int w_o_isBegun, .int w_o_readCards, .ref a_o_readColour, .int w_o_readDeals, .ref a_o_readDeal, .ref a_o_now, .ref a_o_then, .ref a_o_ring, .ref a_o_goes, .ref a_o_far, .ref a_o_met, .int w_o_metMany], jI E a_o_colour 16 f_o_colour, jI E a_o_st 16 f_o_st]) (st1 := fun b1 => [.int b1]) [0, 2, 1] rfl rfl rfl h c_X10_unlike q_X10_unlike m4_128 rfl rfl (Nat.le_of_ble_eq_true rfl) ⟨(Nat.le_of_ble_eq_true rfl), (Nat.le_of_ble_eq_true rfl)⟩ ⟨rfl, rfl⟩ ⟨(Nat.le_of_ble_eq_true rfl), (Nat.le_of_ble_eq_true rfl)⟩ dX10_pairs_5 rfl (by decide) (fun _ => rfl) (fun _ => rfl) (fun _ => rfl) (fun b1 h => ?_)
  cases h
  exact j_iret (pc := 8) rfl dX10_pairs_8 (Nat.le_of_ble_eq_true rfl) (Nat.le_of_ble_eq_true rfl) (jd_i rfl rfl)
set_option maxRecDepth 20000 in
theorem w_X10_lowest_5 {l : Launch} {E : jE} {F : Nat} {x0 : Int32} {x1 : Int32} {x2 : Int32} : ∀ (n : Nat) (x3 : Int32) (x4 : Int32) (u : Int32), g_X10_lowest_5 F x0 x1 x2 n x3 x4 = some u → jT l E K_X10_lowest 0 0 5 [(0, .int x0), (1, .int x1), (2, .int x2), (3, .int x3), (4, .int x4)] [] [] (jd (some (.int u)) []) := by
  intro n
  induction n with
  | zero =>
    intro x3 x4 u h
    rw [g_X10_lowest_5] at h
    cases h
  | succ n ih =>
    intro x3 x4 u h
    rw [g_X10_lowest_5] at h
    refine j_iload (pc := 5) 4 dX10_lowest_5 rfl ?_
    refine j_if_le (pc := 7) (tgt := 26) dX10_lowest_7 (by decide) h (fun h => ?_) (fun h => ?_)
    · refine j_iload_n (pc := 26) 2 dX10_lowest_26 rfl rfl ?_
      refine j_if_ne (pc := 27) (tgt := 34) dX10_lowest_27 (by decide) h (fun h => ?_) (fun h => ?_)
      · refine j_iload_n (pc := 34) 1 dX10_lowest_34 rfl rfl ?_
        refine j_iload_n (pc := 35) 3 dX10_lowest_35 rfl rfl ?_
        refine j_idiv (pc := 36) dX10_lowest_36 h (fun h => ?_)
        cases h
        exact j_iret (pc := 37) rfl dX10_lowest_37 (Nat.le_of_ble_eq_true rfl) (Nat.le_of_ble_eq_true rfl) (jd_i rfl rfl)
      · refine j_iload_n (pc := 30) 0 dX10_lowest_30 rfl rfl ?_
        refine j_goto (pc := 31) (tgt := 35) dX10_lowest_31 (by decide) ?_
        refine j_iload_n (pc := 35) 3 dX10_lowest_35 rfl rfl ?_
        refine j_idiv (pc := 36) dX10_lowest_36 h (fun h => ?_)
        cases h
        exact j_iret (pc := 37) rfl dX10_lowest_37 (Nat.le_of_ble_eq_true rfl) (Nat.le_of_ble_eq_true rfl) (jd_i rfl rfl)
    · refine j_iload_n (pc := 10) 3 dX10_lowest_10 rfl rfl ?_
      refine j_iload (pc := 11) 4 dX10_lowest_11 rfl ?_
      refine j_irem (pc := 13) dX10_lowest_13 h (fun h => ?_)
      refine j_istore (pc := 14) (lv' := [(5, .int (jrem x3 x4)), (0, .int x0), (1, .int x1), (2, .int x2), (3, .int x3), (4, .int x4)]) dX10_lowest_14 (Nat.le_of_ble_eq_true rfl) rfl ?_
      refine j_iload (pc := 16) 5 dX10_lowest_16 rfl ?_
      refine j_istore_n (pc := 18) (lv' := [(3, .int x4), (5, .int (jrem x3 x4)), (0, .int x0), (1, .int x1), (2, .int x2), (4, .int x4)]) dX10_lowest_18 rfl (Nat.le_of_ble_eq_true rfl) rfl ?_
      refine j_iload (pc := 19) 1 dX10_lowest_19 rfl ?_
      refine j_istore (pc := 21) (lv' := [(4, .int (jrem x3 x4)), (3, .int x4), (5, .int (jrem x3 x4)), (0, .int x0), (1, .int x1), (2, .int x2)]) dX10_lowest_21 (Nat.le_of_ble_eq_true rfl) rfl ?_
      refine j_goto (pc := 23) (tgt := 5) dX10_lowest_23 (by decide) ?_
      exact j_sub (lv' := [(0, .int x0), (1, .int x1), (2, .int x2), (3, .int x4), (4, .int (jrem x3 x4))]) [3, 4, 5, 1, 0] rfl (ih _ _ u h)
set_option maxRecDepth 20000 in
theorem c_X10_lowest {l : Launch} {E : jE} {F : Nat} {x0 : Int32} {x1 : Int32} {x2 : Int32} : ∀ u : Int32, f_X10_lowest F x0 x1 x2 = some u → jM l E K_X10_lowest [.int x0, .int x1, .int x2] [] (jd (some (.int u)) []) := by
  intro u h
  unfold f_X10_lowest at h
  refine j_met [(0, .int x0), (1, .int x1), (2, .int x2)] (by decide +kernel) (Nat.le_of_ble_eq_true rfl) rfl ?_
  refine j_iload_n (pc := 0) 0 dX10_lowest_0 rfl rfl ?_
  refine j_istore_n (pc := 1) (lv' := [(3, .int x0), (0, .int x0), (1, .int x1), (2, .int x2)]) dX10_lowest_1 rfl (Nat.le_of_ble_eq_true rfl) rfl ?_
  refine j_iload_n (pc := 2) 2 dX10_lowest_2 rfl rfl ?_
  refine j_istore (pc := 3) (lv' := [(4, .int x1), (3, .int x0), (0, .int x0), (1, .int x1), (2, .int x2)]) dX10_lowest_3 (Nat.le_of_ble_eq_true rfl) rfl ?_
  exact j_sub (lv' := [(0, .int x0), (1, .int x1), (2, .int x2), (3, .int x0), (4, .int x1)]) [2, 3, 4, 1, 0] rfl (w_X10_lowest_5 _ _ _ u h)
set_option maxRecDepth 20000 in
theorem w_X10_bits_4 {l : Launch} {E : jE} {F : Nat} {x0 : Int32} : ∀ (n : Nat) (x1 : Int32) (x2 : Int32) (u : Int32), g_X10_bits_4 F x0 n x1 x2 = some u → jT l E K_X10_bits 0 0 4 [(0, .int x0), (1, .int x1), (2, .int x2)] [] [] (jd (some (.int u)) []) := by
  intro n
  induction n with
  | zero =>
    intro x1 x2 u h
    rw [g_X10_bits_4] at h
    cases h
  | succ n ih =>
    intro x1 x2 u h
    rw [g_X10_bits_4] at h
    refine j_iload_n (pc := 4) 2 dX10_bits_4 rfl rfl ?_
    refine j_bipush (pc := 5) dX10_bits_5 bc_16 ?_
    refine j_icmp_ge (pc := 7) (tgt := 24) dX10_bits_7 (by decide) h (fun h => ?_) (fun h => ?_)
    · refine j_iload_n (pc := 24) 1 dX10_bits_24 rfl rfl ?_
      cases h
      exact j_iret (pc := 25) rfl dX10_bits_25 (Nat.le_of_ble_eq_true rfl) (Nat.le_of_ble_eq_true rfl) (jd_i rfl rfl)
    · refine j_iload_n (pc := 10) 1 dX10_bits_10 rfl rfl ?_
      refine j_iload_n (pc := 11) 0 dX10_bits_11 rfl rfl ?_
      refine j_iload_n (pc := 12) 2 dX10_bits_12 rfl rfl ?_
      refine j_ishr (pc := 13) dX10_bits_13 ?_
      refine j_iconst (pc := 14) dX10_bits_14 ic_1 ?_
      refine j_iand (pc := 15) dX10_bits_15 ?_
      refine j_iadd (pc := 16) dX10_bits_16 ?_
      refine j_istore_n (pc := 17) (lv' := [(1, .int (x1 + ((jshr x0 x2) &&& (1 : Int32)))), (0, .int x0), (2, .int x2)]) dX10_bits_17 rfl (Nat.le_of_ble_eq_true rfl) rfl ?_
      refine j_iinc (pc := 18) (j := 2) (lv' := [(2, .int (x2 + (1 : Int32))), (1, .int (x1 + ((jshr x0 x2) &&& (1 : Int32)))), (0, .int x0)]) dX10_bits_18 rfl (congrArg (fun z => x2 + z) ic_1) (Nat.le_of_ble_eq_true rfl) rfl ?_
      refine j_goto (pc := 21) (tgt := 4) dX10_bits_21 (by decide) ?_
      exact j_sub (lv' := [(0, .int x0), (1, .int (x1 + ((jshr x0 x2) &&& (1 : Int32)))), (2, .int (x2 + (1 : Int32)))]) [2, 1, 0] rfl (ih _ _ u h)
set_option maxRecDepth 20000 in
theorem c_X10_bits {l : Launch} {E : jE} {F : Nat} {x0 : Int32} : ∀ u : Int32, f_X10_bits F x0 = some u → jM l E K_X10_bits [.int x0] [] (jd (some (.int u)) []) := by
  intro u h
  unfold f_X10_bits at h
  refine j_met [(0, .int x0)] (by decide +kernel) (Nat.le_of_ble_eq_true rfl) rfl ?_
  refine j_iconst (pc := 0) dX10_bits_0 ic_0 ?_
  refine j_istore_n (pc := 1) (lv' := [(1, .int (0 : Int32)), (0, .int x0)]) dX10_bits_1 rfl (Nat.le_of_ble_eq_true rfl) rfl ?_
  refine j_iconst (pc := 2) dX10_bits_2 ic_0 ?_
  refine j_istore_n (pc := 3) (lv' := [(2, .int (0 : Int32)), (1, .int (0 : Int32)), (0, .int x0)]) dX10_bits_3 rfl (Nat.le_of_ble_eq_true rfl) rfl ?_
  exact j_sub (lv' := [(0, .int x0), (1, .int (0 : Int32)), (2, .int (0 : Int32))]) [2, 1, 0] rfl (w_X10_bits_4 _ _ _ u h)
set_option maxRecDepth 20000 in
theorem w_X10_sure_125 {l : Launch} {E : jE} {F : Nat} {x1 : Int32} {x2 : Int32} {v_o_cards : Int32} {f_o_colour : Nat → Int32} {f_o_st : Nat → Int32} {a_o a_o_colour a_o_deal a_o_st a_o_was a_o_kept a_o_seen a_o_text a_o_told a_o_readColour a_o_readDeal a_o_now a_o_then a_o_ring a_o_goes a_o_far a_o_met : Nat} {w_o_dealMany : Int32} {w_o_acts : Int32} {w_o_keeps : Int32} {w_o_seens : Int32} {w_o_texted : Int32} {w_o_at : Int32} {w_o_isBegun : Int32} {w_o_readCards : Int32} {w_o_readDeals : Int32} {w_o_metMany : Int32} {k_31 : Int32 → Int32 → Int32 → (Nat → Int32) → Option (Int32 × (Nat → Int32))} {k_62 : Int32 → Int32 → Int32 → Int32 → Int32 → Int32 → (Nat → Int32) → Option (Int32 × (Nat → Int32))} (hk_31 : ∀ (x3 : Int32) (x4 : Int32) (x5 : Int32) (f_o_then : Nat → Int32) (u : Int32 × (Nat → Int32)), k_31 x3 x4 x5 f_o_then = some u → jT l E K_X10_sure 0 0 31 [(0, .ref a_o), (1, .int x1), (2, .int x2), (3, .int x3), (4, .int x4), (5, .int x5)] [] [jO a_o 7 [.int v_o_cards, .ref a_o_colour, .int w_o_dealMany, .ref a_o_deal, .ref a_o_st, .int w_o_acts, .ref a_o_was, .int w_o_keeps, .ref a_o_kept, .int w_o_seens, .ref a_o_seen, .ref a_o_text, .int w_o_texted, .int w_o_at, .ref a_o_told, .int w_o_isBegun, .int w_o_readCards, .ref a_o_readColour, .int w_o_readDeals, .ref a_o_readDeal, .ref a_o_now, .ref a_o_then, .ref a_o_ring, .ref a_o_goes, .ref a_o_far, .ref a_o_met, .int w_o_metMany], jI E a_o_colour 16 f_o_colour, jI E a_o_st 16 f_o_st, jI E a_o_then 16 f_o_then] (jd (some (.int u.1)) [jO a_o 7 [.int v_o_cards, .ref a_o_colour, .int w_o_dealMany, .ref a_o_deal, .ref a_o_st, .int w_o_acts, .ref a_o_was, .int w_o_keeps, .ref a_o_kept, .int w_o_seens, .ref a_o_seen, .ref a_o_text, .int w_o_texted, .int w_o_at, .ref a_o_told, .int w_o_isBegun, .int w_o_readCards, .ref a_o_readColour, .int w_o_readDeals, .ref a_o_readDeal, .ref a_o_now, .ref a_o_then, .ref a_o_ring, .ref a_o_goes, .ref a_o_far, .ref a_o_met, .int w_o_metMany], jI E a_o_colour 16 f_o_colour, jI E a_o_st 16 f_o_st, jI E a_o_then 16 u.2])) (hk_62 : ∀ (x3 : Int32) (x4 : Int32) (x5 : Int32) (x6 : Int32) (x7 : Int32) (x8 : Int32) (f_o_then : Nat → Int32) (u : Int32 × (Nat → Int32)), k_62 x3 x4 x5 x6 x7 x8 f_o_then = some u → jT l E K_X10_sure 0 0 62 [(0, .ref a_o), (1, .int x1), (2, .int x2), (3, .int x3), (4, .int x4), (5, .int x5), (6, .int x6), (7, .int x7), (8, .int x8)] [] [jO a_o 7 [.int v_o_cards, .ref a_o_colour, .int w_o_dealMany, .ref a_o_deal, .ref a_o_st, .int w_o_acts, .ref a_o_was, .int w_o_keeps, .ref a_o_kept, .int w_o_seens, .ref a_o_seen, .ref a_o_text, .int w_o_texted, .int w_o_at, .ref a_o_told, .int w_o_isBegun, .int w_o_readCards, .ref a_o_readColour, .int w_o_readDeals, .ref a_o_readDeal, .ref a_o_now, .ref a_o_then, .ref a_o_ring, .ref a_o_goes, .ref a_o_far, .ref a_o_met, .int w_o_metMany], jI E a_o_colour 16 f_o_colour, jI E a_o_st 16 f_o_st, jI E a_o_then 16 f_o_then] (jd (some (.int u.1)) [jO a_o 7 [.int v_o_cards, .ref a_o_colour, .int w_o_dealMany, .ref a_o_deal, .ref a_o_st, .int w_o_acts, .ref a_o_was, .int w_o_keeps, .ref a_o_kept, .int w_o_seens, .ref a_o_seen, .ref a_o_text, .int w_o_texted, .int w_o_at, .ref a_o_told, .int w_o_isBegun, .int w_o_readCards, .ref a_o_readColour, .int w_o_readDeals, .ref a_o_readDeal, .ref a_o_now, .ref a_o_then, .ref a_o_ring, .ref a_o_goes, .ref a_o_far, .ref a_o_met, .int w_o_metMany], jI E a_o_colour 16 f_o_colour, jI E a_o_st 16 f_o_st, jI E a_o_then 16 u.2])) : ∀ (x3 : Int32) (x4 : Int32) (x5 : Int32) (x7 : Int32) (x8 : Int32) (x9 : Int32) (s0 : Int32) (s1 : Int32) (f_o_then : Nat → Int32) (u : Int32 × (Nat → Int32)), g_X10_sure_125 F x1 x2 v_o_cards f_o_colour f_o_st k_31 k_62 x3 x4 x5 x7 x8 x9 s0 s1 f_o_then = some u → jT l E K_X10_sure 0 0 125 [(0, .ref a_o), (1, .int x1), (2, .int x2), (3, .int x3), (4, .int x4), (5, .int x5), (7, .int x7), (8, .int x8), (9, .int x9)] [.int s1, .int s0] [jO a_o 7 [.int v_o_cards, .ref a_o_colour, .int w_o_dealMany, .ref a_o_deal, .ref a_o_st, .int w_o_acts, .ref a_o_was, .int w_o_keeps, .ref a_o_kept, .int w_o_seens, .ref a_o_seen, .ref a_o_text, .int w_o_texted, .int w_o_at, .ref a_o_told, .int w_o_isBegun, .int w_o_readCards, .ref a_o_readColour, .int w_o_readDeals, .ref a_o_readDeal, .ref a_o_now, .ref a_o_then, .ref a_o_ring, .ref a_o_goes, .ref a_o_far, .ref a_o_met, .int w_o_metMany], jI E a_o_colour 16 f_o_colour, jI E a_o_st 16 f_o_st, jI E a_o_then 16 f_o_then] (jd (some (.int u.1)) [jO a_o 7 [.int v_o_cards, .ref a_o_colour, .int w_o_dealMany, .ref a_o_deal, .ref a_o_st, .int w_o_acts, .ref a_o_was, .int w_o_keeps, .ref a_o_kept, .int w_o_seens, .ref a_o_seen, .ref a_o_text, .int w_o_texted, .int w_o_at, .ref a_o_told, .int w_o_isBegun, .int w_o_readCards, .ref a_o_readColour, .int w_o_readDeals, .ref a_o_readDeal, .ref a_o_now, .ref a_o_then, .ref a_o_ring, .ref a_o_goes, .ref a_o_far, .ref a_o_met, .int w_o_metMany], jI E a_o_colour 16 f_o_colour, jI E a_o_st 16 f_o_st, jI E a_o_then 16 u.2]) := by
  intro x3 x4 x5 x7 x8 x9 s0 s1 f_o_then u h
  unfold g_X10_sure_125 at h
  refine j_isub (pc := 125) dX10_sure_125 ?_
  refine j_istore (pc := 126) (lv' := [(6, .int (s0 - s1)), (0, .ref a_o), (1, .int x1), (2, .int x2), (3, .int x3), (4, .int x4), (5, .int x5), (7, .int x7), (8, .int x8), (9, .int x9)]) dX10_sure_126 (Nat.le_of_ble_eq_true rfl) rfl ?_
  refine j_iload (pc := 128) 7 dX10_sure_128 rfl ?_
  refine j_iload (pc := 130) 9 dX10_sure_130 rfl ?_
  refine j_if_eq (pc := 132) (tgt := 139) dX10_sure_132 (by decide) h (fun h => ?_) (fun h => ?_)
  · refine j_iconst (pc := 139) dX10_sure_139 ic_1 ?_
    refine j_iadd (pc := 140) dX10_sure_140 ?_
    refine j_istore (pc := 141) (lv' := [(7, .int (x7 + (1 : Int32))), (6, .int (s0 - s1)), (0, .ref a_o), (1, .int x1), (2, .int x2), (3, .int x3), (4, .int x4), (5, .int x5), (8, .int x8), (9, .int x9)]) dX10_sure_141 (Nat.le_of_ble_eq_true rfl) rfl ?_
    refine j_iinc (pc := 143) (j := 8) (lv' := [(8, .int (x8 + (1 : Int32))), (7, .int (x7 + (1 : Int32))), (6, .int (s0 - s1)), (0, .ref a_o), (1, .int x1), (2, .int x2), (3, .int x3), (4, .int x4), (5, .int x5), (9, .int x9)]) dX10_sure_143 rfl (congrArg (fun z => x8 + z) ic_1) (Nat.le_of_ble_eq_true rfl) rfl ?_
    refine j_goto (pc := 146) (tgt := 62) dX10_sure_146 (by decide) ?_
    exact j_sub (lv' := [(0, .ref a_o), (1, .int x1), (2, .int x2), (3, .int x3), (4, .int x4), (5, .int x5), (6, .int (s0 - s1)), (7, .int (x7 + (1 : Int32))), (8, .int (x8 + (1 : Int32)))]) [3, 4, 5, 6, 7, 8, 2, 1, 0] rfl (hk_62 _ _ _ _ _ _ _ u h)
  · refine j_iconst (pc := 135) dX10_sure_135 ic_0 ?_
    refine j_goto (pc := 136) (tgt := 140) dX10_sure_136 (by decide) ?_
    refine j_iadd (pc := 140) dX10_sure_140 ?_
    refine j_istore (pc := 141) (lv' := [(7, .int (x7 + (0 : Int32))), (6, .int (s0 - s1)), (0, .ref a_o), (1, .int x1), (2, .int x2), (3, .int x3), (4, .int x4), (5, .int x5), (8, .int x8), (9, .int x9)]) dX10_sure_141 (Nat.le_of_ble_eq_true rfl) rfl ?_
    refine j_iinc (pc := 143) (j := 8) (lv' := [(8, .int (x8 + (1 : Int32))), (7, .int (x7 + (0 : Int32))), (6, .int (s0 - s1)), (0, .ref a_o), (1, .int x1), (2, .int x2), (3, .int x3), (4, .int x4), (5, .int x5), (9, .int x9)]) dX10_sure_143 rfl (congrArg (fun z => x8 + z) ic_1) (Nat.le_of_ble_eq_true rfl) rfl ?_
    refine j_goto (pc := 146) (tgt := 62) dX10_sure_146 (by decide) ?_
    exact j_sub (lv' := [(0, .ref a_o), (1, .int x1), (2, .int x2), (3, .int x3), (4, .int x4), (5, .int x5), (6, .int (s0 - s1)), (7, .int (x7 + (0 : Int32))), (8, .int (x8 + (1 : Int32)))]) [3, 4, 5, 6, 7, 8, 2, 1, 0] rfl (hk_62 _ _ _ _ _ _ _ u h)
set_option maxRecDepth 20000 in
theorem w_X10_sure_87 {l : Launch} {E : jE} {F : Nat} {x1 : Int32} {x2 : Int32} {v_o_cards : Int32} {f_o_colour : Nat → Int32} {f_o_st : Nat → Int32} {a_o a_o_colour a_o_deal a_o_st a_o_was a_o_kept a_o_seen a_o_text a_o_told a_o_readColour a_o_readDeal a_o_now a_o_then a_o_ring a_o_goes a_o_far a_o_met : Nat} {w_o_dealMany : Int32} {w_o_acts : Int32} {w_o_keeps : Int32} {w_o_seens : Int32} {w_o_texted : Int32} {w_o_at : Int32} {w_o_isBegun : Int32} {w_o_readCards : Int32} {w_o_readDeals : Int32} {w_o_metMany : Int32} {k_31 : Int32 → Int32 → Int32 → (Nat → Int32) → Option (Int32 × (Nat → Int32))} {k_62 : Int32 → Int32 → Int32 → Int32 → Int32 → Int32 → (Nat → Int32) → Option (Int32 × (Nat → Int32))} (hk_31 : ∀ (x3 : Int32) (x4 : Int32) (x5 : Int32) (f_o_then : Nat → Int32) (u : Int32 × (Nat → Int32)), k_31 x3 x4 x5 f_o_then = some u → jT l E K_X10_sure 0 0 31 [(0, .ref a_o), (1, .int x1), (2, .int x2), (3, .int x3), (4, .int x4), (5, .int x5)] [] [jO a_o 7 [.int v_o_cards, .ref a_o_colour, .int w_o_dealMany, .ref a_o_deal, .ref a_o_st, .int w_o_acts, .ref a_o_was, .int w_o_keeps, .ref a_o_kept, .int w_o_seens, .ref a_o_seen, .ref a_o_text, .int w_o_texted, .int w_o_at, .ref a_o_told, .int w_o_isBegun, .int w_o_readCards, .ref a_o_readColour, .int w_o_readDeals, .ref a_o_readDeal, .ref a_o_now, .ref a_o_then, .ref a_o_ring, .ref a_o_goes, .ref a_o_far, .ref a_o_met, .int w_o_metMany], jI E a_o_colour 16 f_o_colour, jI E a_o_st 16 f_o_st, jI E a_o_then 16 f_o_then] (jd (some (.int u.1)) [jO a_o 7 [.int v_o_cards, .ref a_o_colour, .int w_o_dealMany, .ref a_o_deal, .ref a_o_st, .int w_o_acts, .ref a_o_was, .int w_o_keeps, .ref a_o_kept, .int w_o_seens, .ref a_o_seen, .ref a_o_text, .int w_o_texted, .int w_o_at, .ref a_o_told, .int w_o_isBegun, .int w_o_readCards, .ref a_o_readColour, .int w_o_readDeals, .ref a_o_readDeal, .ref a_o_now, .ref a_o_then, .ref a_o_ring, .ref a_o_goes, .ref a_o_far, .ref a_o_met, .int w_o_metMany], jI E a_o_colour 16 f_o_colour, jI E a_o_st 16 f_o_st, jI E a_o_then 16 u.2])) (hk_62 : ∀ (x3 : Int32) (x4 : Int32) (x5 : Int32) (x6 : Int32) (x7 : Int32) (x8 : Int32) (f_o_then : Nat → Int32) (u : Int32 × (Nat → Int32)), k_62 x3 x4 x5 x6 x7 x8 f_o_then = some u → jT l E K_X10_sure 0 0 62 [(0, .ref a_o), (1, .int x1), (2, .int x2), (3, .int x3), (4, .int x4), (5, .int x5), (6, .int x6), (7, .int x7), (8, .int x8)] [] [jO a_o 7 [.int v_o_cards, .ref a_o_colour, .int w_o_dealMany, .ref a_o_deal, .ref a_o_st, .int w_o_acts, .ref a_o_was, .int w_o_keeps, .ref a_o_kept, .int w_o_seens, .ref a_o_seen, .ref a_o_text, .int w_o_texted, .int w_o_at, .ref a_o_told, .int w_o_isBegun, .int w_o_readCards, .ref a_o_readColour, .int w_o_readDeals, .ref a_o_readDeal, .ref a_o_now, .ref a_o_then, .ref a_o_ring, .ref a_o_goes, .ref a_o_far, .ref a_o_met, .int w_o_metMany], jI E a_o_colour 16 f_o_colour, jI E a_o_st 16 f_o_st, jI E a_o_then 16 f_o_then] (jd (some (.int u.1)) [jO a_o 7 [.int v_o_cards, .ref a_o_colour, .int w_o_dealMany, .ref a_o_deal, .ref a_o_st, .int w_o_acts, .ref a_o_was, .int w_o_keeps, .ref a_o_kept, .int w_o_seens, .ref a_o_seen, .ref a_o_text, .int w_o_texted, .int w_o_at, .ref a_o_told, .int w_o_isBegun, .int w_o_readCards, .ref a_o_readColour, .int w_o_readDeals, .ref a_o_readDeal, .ref a_o_now, .ref a_o_then, .ref a_o_ring, .ref a_o_goes, .ref a_o_far, .ref a_o_met, .int w_o_metMany], jI E a_o_colour 16 f_o_colour, jI E a_o_st 16 f_o_st, jI E a_o_then 16 u.2])) : ∀ (x3 : Int32) (x4 : Int32) (x5 : Int32) (x6 : Int32) (x7 : Int32) (x8 : Int32) (s0 : Int32) (f_o_then : Nat → Int32) (u : Int32 × (Nat → Int32)), g_X10_sure_87 F x1 x2 v_o_cards f_o_colour f_o_st k_31 k_62 x3 x4 x5 x6 x7 x8 s0 f_o_then = some u → jT l E K_X10_sure 0 0 87 [(0, .ref a_o), (1, .int x1), (2, .int x2), (3, .int x3), (4, .int x4), (5, .int x5), (6, .int x6), (7, .int x7), (8, .int x8)] [.int s0] [jO a_o 7 [.int v_o_cards, .ref a_o_colour, .int w_o_dealMany, .ref a_o_deal, .ref a_o_st, .int w_o_acts, .ref a_o_was, .int w_o_keeps, .ref a_o_kept, .int w_o_seens, .ref a_o_seen, .ref a_o_text, .int w_o_texted, .int w_o_at, .ref a_o_told, .int w_o_isBegun, .int w_o_readCards, .ref a_o_readColour, .int w_o_readDeals, .ref a_o_readDeal, .ref a_o_now, .ref a_o_then, .ref a_o_ring, .ref a_o_goes, .ref a_o_far, .ref a_o_met, .int w_o_metMany], jI E a_o_colour 16 f_o_colour, jI E a_o_st 16 f_o_st, jI E a_o_then 16 f_o_then] (jd (some (.int u.1)) [jO a_o 7 [.int v_o_cards, .ref a_o_colour, .int w_o_dealMany, .ref a_o_deal, .ref a_o_st, .int w_o_acts, .ref a_o_was, .int w_o_keeps, .ref a_o_kept, .int w_o_seens, .ref a_o_seen, .ref a_o_text, .int w_o_texted, .int w_o_at, .ref a_o_told, .int w_o_isBegun, .int w_o_readCards, .ref a_o_readColour, .int w_o_readDeals, .ref a_o_readDeal, .ref a_o_now, .ref a_o_then, .ref a_o_ring, .ref a_o_goes, .ref a_o_far, .ref a_o_met, .int w_o_metMany], jI E a_o_colour 16 f_o_colour, jI E a_o_st 16 f_o_st, jI E a_o_then 16 u.2]) := by
  intro x3 x4 x5 x6 x7 x8 s0 f_o_then u h
  unfold g_X10_sure_87 at h
  refine j_istore (pc := 87) (lv' := [(9, .int s0), (0, .ref a_o), (1, .int x1), (2, .int x2), (3, .int x3), (4, .int x4), (5, .int x5), (6, .int x6), (7, .int x7), (8, .int x8)]) dX10_sure_87 (Nat.le_of_ble_eq_true rfl) rfl ?_
  refine j_aload_n (pc := 89) 1 dX10_sure_89 rfl rfl ?_
  refine j_get (pc := 90) (v := .ref a_o_then) 0 21 rfl rfl (Nat.le_of_ble_eq_true rfl) iwX10 m3_125 rfl dX10_sure_90 ?_
  refine j_iload (pc := 93) 9 dX10_sure_93 rfl ?_
  refine j_aload_n (pc := 95) 1 dX10_sure_95 rfl rfl ?_
  refine j_get (pc := 96) (v := .ref a_o_st) 0 4 rfl rfl (Nat.le_of_ble_eq_true rfl) iwX10 m3_108 rfl dX10_sure_96 ?_
  refine j_iload (pc := 99) 0 dX10_sure_99 rfl ?_
  refine j_if_eq (pc := 101) (tgt := 109) dX10_sure_101 (by decide) h (fun h => ?_) (fun h => ?_)
  · refine j_iload (pc := 109) 8 dX10_sure_109 rfl ?_
    refine j_iald (pc := 111) 2 rfl dX10_sure_111 h (fun h => ?_)
    refine j_iast (pc := 112) (w' := [jO a_o 7 [.int v_o_cards, .ref a_o_colour, .int w_o_dealMany, .ref a_o_deal, .ref a_o_st, .int w_o_acts, .ref a_o_was, .int w_o_keeps, .ref a_o_kept, .int w_o_seens, .ref a_o_seen, .ref a_o_text, .int w_o_texted, .int w_o_at, .ref a_o_told, .int w_o_isBegun, .int w_o_readCards, .ref a_o_readColour, .int w_o_readDeals, .ref a_o_readDeal, .ref a_o_now, .ref a_o_then, .ref a_o_ring, .ref a_o_goes, .ref a_o_far, .ref a_o_met, .int w_o_metMany], jI E a_o_colour 16 f_o_colour, jI E a_o_st 16 f_o_st, jI E a_o_then 16 (upd f_o_then x8.toNatClampNeg (f_o_st x7.toNatClampNeg))]) 3 rfl dX10_sure_112 h rfl (fun h => ?_)
    refine j_iload (pc := 113) 7 dX10_sure_113 rfl ?_
    refine j_iload (pc := 115) 0 dX10_sure_115 rfl ?_
    refine j_if_eq (pc := 117) (tgt := 124) dX10_sure_117 (by decide) h (fun h => ?_) (fun h => ?_)
    · refine j_iconst (pc := 124) dX10_sure_124 ic_0 ?_
      exact j_sub (lv' := [(0, .ref a_o), (1, .int x1), (2, .int x2), (3, .int x3), (4, .int x4), (5, .int x5), (7, .int x7), (8, .int x8), (9, .int s0)]) [1, 2, 3, 4, 5, 6, 8, 9, 0] rfl (w_X10_sure_125 hk_31 hk_62 _ _ _ _ _ _ _ _ _ u h)
    · refine j_iconst (pc := 120) dX10_sure_120 ic_1 ?_
      refine j_goto (pc := 121) (tgt := 125) dX10_sure_121 (by decide) ?_
      exact j_sub (lv' := [(0, .ref a_o), (1, .int x1), (2, .int x2), (3, .int x3), (4, .int x4), (5, .int x5), (7, .int x7), (8, .int x8), (9, .int s0)]) [1, 2, 3, 4, 5, 6, 8, 9, 0] rfl (w_X10_sure_125 hk_31 hk_62 _ _ _ _ _ _ _ _ _ u h)
  · refine j_iload (pc := 104) 7 dX10_sure_104 rfl ?_
    refine j_goto (pc := 106) (tgt := 111) dX10_sure_106 (by decide) ?_
    refine j_iald (pc := 111) 2 rfl dX10_sure_111 h (fun h => ?_)
    refine j_iast (pc := 112) (w' := [jO a_o 7 [.int v_o_cards, .ref a_o_colour, .int w_o_dealMany, .ref a_o_deal, .ref a_o_st, .int w_o_acts, .ref a_o_was, .int w_o_keeps, .ref a_o_kept, .int w_o_seens, .ref a_o_seen, .ref a_o_text, .int w_o_texted, .int w_o_at, .ref a_o_told, .int w_o_isBegun, .int w_o_readCards, .ref a_o_readColour, .int w_o_readDeals, .ref a_o_readDeal, .ref a_o_now, .ref a_o_then, .ref a_o_ring, .ref a_o_goes, .ref a_o_far, .ref a_o_met, .int w_o_metMany], jI E a_o_colour 16 f_o_colour, jI E a_o_st 16 f_o_st, jI E a_o_then 16 (upd f_o_then x8.toNatClampNeg (f_o_st x6.toNatClampNeg))]) 3 rfl dX10_sure_112 h rfl (fun h => ?_)
    refine j_iload (pc := 113) 7 dX10_sure_113 rfl ?_
    refine j_iload (pc := 115) 0 dX10_sure_115 rfl ?_
    refine j_if_eq (pc := 117) (tgt := 124) dX10_sure_117 (by decide) h (fun h => ?_) (fun h => ?_)
    · refine j_iconst (pc := 124) dX10_sure_124 ic_0 ?_
      exact j_sub (lv' := [(0, .ref a_o), (1, .int x1), (2, .int x2), (3, .int x3), (4, .int x4), (5, .int x5), (7, .int x7), (8, .int x8), (9, .int s0)]) [1, 2, 3, 4, 5, 6, 8, 9, 0] rfl (w_X10_sure_125 hk_31 hk_62 _ _ _ _ _ _ _ _ _ u h)
    · refine j_iconst (pc := 120) dX10_sure_120 ic_1 ?_
      refine j_goto (pc := 121) (tgt := 125) dX10_sure_121 (by decide) ?_
      exact j_sub (lv' := [(0, .ref a_o), (1, .int x1), (2, .int x2), (3, .int x3), (4, .int x4), (5, .int x5), (7, .int x7), (8, .int x8), (9, .int s0)]) [1, 2, 3, 4, 5, 6, 8, 9, 0] rfl (w_X10_sure_125 hk_31 hk_62 _ _ _ _ _ _ _ _ _ u h)
set_option maxRecDepth 20000 in
theorem w_X10_sure_62 {l : Launch} {E : jE} {F : Nat} {x1 : Int32} {x2 : Int32} {v_o_cards : Int32} {f_o_colour : Nat → Int32} {f_o_st : Nat → Int32} {a_o a_o_colour a_o_deal a_o_st a_o_was a_o_kept a_o_seen a_o_text a_o_told a_o_readColour a_o_readDeal a_o_now a_o_then a_o_ring a_o_goes a_o_far a_o_met : Nat} {w_o_dealMany : Int32} {w_o_acts : Int32} {w_o_keeps : Int32} {w_o_seens : Int32} {w_o_texted : Int32} {w_o_at : Int32} {w_o_isBegun : Int32} {w_o_readCards : Int32} {w_o_readDeals : Int32} {w_o_metMany : Int32} {k_31 : Int32 → Int32 → Int32 → (Nat → Int32) → Option (Int32 × (Nat → Int32))} (hk_31 : ∀ (x3 : Int32) (x4 : Int32) (x5 : Int32) (f_o_then : Nat → Int32) (u : Int32 × (Nat → Int32)), k_31 x3 x4 x5 f_o_then = some u → jT l E K_X10_sure 0 0 31 [(0, .ref a_o), (1, .int x1), (2, .int x2), (3, .int x3), (4, .int x4), (5, .int x5)] [] [jO a_o 7 [.int v_o_cards, .ref a_o_colour, .int w_o_dealMany, .ref a_o_deal, .ref a_o_st, .int w_o_acts, .ref a_o_was, .int w_o_keeps, .ref a_o_kept, .int w_o_seens, .ref a_o_seen, .ref a_o_text, .int w_o_texted, .int w_o_at, .ref a_o_told, .int w_o_isBegun, .int w_o_readCards, .ref a_o_readColour, .int w_o_readDeals, .ref a_o_readDeal, .ref a_o_now, .ref a_o_then, .ref a_o_ring, .ref a_o_goes, .ref a_o_far, .ref a_o_met, .int w_o_metMany], jI E a_o_colour 16 f_o_colour, jI E a_o_st 16 f_o_st, jI E a_o_then 16 f_o_then] (jd (some (.int u.1)) [jO a_o 7 [.int v_o_cards, .ref a_o_colour, .int w_o_dealMany, .ref a_o_deal, .ref a_o_st, .int w_o_acts, .ref a_o_was, .int w_o_keeps, .ref a_o_kept, .int w_o_seens, .ref a_o_seen, .ref a_o_text, .int w_o_texted, .int w_o_at, .ref a_o_told, .int w_o_isBegun, .int w_o_readCards, .ref a_o_readColour, .int w_o_readDeals, .ref a_o_readDeal, .ref a_o_now, .ref a_o_then, .ref a_o_ring, .ref a_o_goes, .ref a_o_far, .ref a_o_met, .int w_o_metMany], jI E a_o_colour 16 f_o_colour, jI E a_o_st 16 f_o_st, jI E a_o_then 16 u.2])) : ∀ (n : Nat) (x3 : Int32) (x4 : Int32) (x5 : Int32) (x6 : Int32) (x7 : Int32) (x8 : Int32) (f_o_then : Nat → Int32) (u : Int32 × (Nat → Int32)), g_X10_sure_62 F x1 x2 v_o_cards f_o_colour f_o_st k_31 n x3 x4 x5 x6 x7 x8 f_o_then = some u → jT l E K_X10_sure 0 0 62 [(0, .ref a_o), (1, .int x1), (2, .int x2), (3, .int x3), (4, .int x4), (5, .int x5), (6, .int x6), (7, .int x7), (8, .int x8)] [] [jO a_o 7 [.int v_o_cards, .ref a_o_colour, .int w_o_dealMany, .ref a_o_deal, .ref a_o_st, .int w_o_acts, .ref a_o_was, .int w_o_keeps, .ref a_o_kept, .int w_o_seens, .ref a_o_seen, .ref a_o_text, .int w_o_texted, .int w_o_at, .ref a_o_told, .int w_o_isBegun, .int w_o_readCards, .ref a_o_readColour, .int w_o_readDeals, .ref a_o_readDeal, .ref a_o_now, .ref a_o_then, .ref a_o_ring, .ref a_o_goes, .ref a_o_far, .ref a_o_met, .int w_o_metMany], jI E a_o_colour 16 f_o_colour, jI E a_o_st 16 f_o_st, jI E a_o_then 16 f_o_then] (jd (some (.int u.1)) [jO a_o 7 [.int v_o_cards, .ref a_o_colour, .int w_o_dealMany, .ref a_o_deal, .ref a_o_st, .int w_o_acts, .ref a_o_was, .int w_o_keeps, .ref a_o_kept, .int w_o_seens, .ref a_o_seen, .ref a_o_text, .int w_o_texted, .int w_o_at, .ref a_o_told, .int w_o_isBegun, .int w_o_readCards, .ref a_o_readColour, .int w_o_readDeals, .ref a_o_readDeal, .ref a_o_now, .ref a_o_then, .ref a_o_ring, .ref a_o_goes, .ref a_o_far, .ref a_o_met, .int w_o_metMany], jI E a_o_colour 16 f_o_colour, jI E a_o_st 16 f_o_st, jI E a_o_then 16 u.2]) := by
  intro n
  induction n with
  | zero =>
    intro x3 x4 x5 x6 x7 x8 f_o_then u h
    rw [g_X10_sure_62] at h
    cases h
  | succ n ih =>
    intro x3 x4 x5 x6 x7 x8 f_o_then u h
    rw [g_X10_sure_62] at h
    refine j_iload (pc := 62) 8 dX10_sure_62 rfl ?_
    refine j_aload_n (pc := 64) 0 dX10_sure_64 rfl rfl ?_
    refine j_get (pc := 65) (v := .int v_o_cards) 0 0 rfl rfl (Nat.le_of_ble_eq_true rfl) iwX10 m3_104 rfl dX10_sure_65 ?_
    refine j_icmp_ge (pc := 68) (tgt := 149) dX10_sure_68 (by decide) h (fun h => ?_) (fun h => ?_)
    · refine j_iinc (pc := 149) (j := 4) (lv' := [(4, .int (x4 + (1 : Int32))), (0, .ref a_o), (1, .int x1), (2, .int x2), (3, .int x3), (5, .int x5), (6, .int x6), (7, .int x7), (8, .int x8)]) dX10_sure_149 rfl (congrArg (fun z => x4 + z) ic_1) (Nat.le_of_ble_eq_true rfl) rfl ?_
      refine j_iload_n (pc := 152) 4 dX10_sure_152 rfl rfl ?_
      refine j_aload_n (pc := 153) 1 dX10_sure_153 rfl rfl ?_
      refine j_aload_n (pc := 154) 1 dX10_sure_154 rfl rfl ?_
      refine j_get (pc := 155) (v := .ref a_o_then) 0 21 rfl rfl (Nat.le_of_ble_eq_true rfl) iwX10 m3_125 rfl dX10_sure_155 ?_
      refine j_V (pc := 158) (q0 := 0) (Kc := K_X10_unlike) (As := [.ref a_o_then]) (rest := [.int x3]) (wc := [jO a_o 7 [.int v_o_cards, .ref a_o_colour, .int w_o_dealMany, .ref a_o_deal, .ref a_o_st, .int w_o_acts, .ref a_o_was, .int w_o_keeps, .ref a_o_kept, .int w_o_seens, .ref a_o_seen, .ref a_o_text, .int w_o_texted, .int w_o_at, .ref a_o_told, .int w_o_isBegun, .int w_o_readCards, .ref a_o_readColour, .int w_o_readDeals, .ref a_o_readDeal, .ref a_o_now, .ref a_o_then, .ref a_o_ring, .ref a_o_goes, .ref a_o_far, .ref a_o_met, .int w_o_metMany], jI E a_o_then 16 f_o_then, jI E a_o_colour 16 f_o_colour]) (w' := fun b1 => [jO a_o 7 [.int v_o_cards, .ref a_o_colour, .int w_o_dealMany, .ref a_o_deal, .ref a_o_st, .int w_o_acts, .ref a_o_was, .int w_o_keeps, .ref a_o_kept, .int w_o_seens, .ref a_o_seen, .ref a_o_text, .int w_o_texted, .int w_o_at, .ref a_o_told, .int w_o_isBegun, .int w_o_readCards, .ref a_o_readColour, .int w_o_readDeals, .ref a_o_readDeal, .ref a_o_now, .ref a_o_then, .ref a_o_ring, .ref a_o_goes, .ref a_o_far, .ref a_o_met, .int w_o_metMany], jI E a_o_colour 16 f_o_colour, jI E a_o_st 16 f_o_st, jI E a_o_then 16 f_o_then]) (st1 := fun b1 => [.int b1, .int x3]) [0, 3, 1] rfl rfl rfl h c_X10_unlike q_X10_unlike m4_128 rfl rfl (Nat.le_of_ble_eq_true rfl) ⟨(Nat.le_of_ble_eq_true rfl), (Nat.le_of_ble_eq_true rfl)⟩ ⟨rfl, rfl⟩ ⟨(Nat.le_of_ble_eq_true rfl), (Nat.le_of_ble_eq_true rfl)⟩ dX10_sure_158 rfl (by decide) (fun _ => rfl) (fun _ => rfl) (fun _ => rfl) (fun b1 h => ?_)
      refine j_aload_n (pc := 161) 1 dX10_sure_161 rfl rfl ?_
      refine j_get (pc := 162) (v := .int v_o_cards) 0 0 rfl rfl (Nat.le_of_ble_eq_true rfl) iwX10 m3_104 rfl dX10_sure_162 ?_
      refine j_iconst (pc := 165) dX10_sure_165 ic_2 ?_
      refine j_idiv (pc := 166) dX10_sure_166 h (fun h => ?_)
      refine j_icmp_ne (pc := 167) (tgt := 174) dX10_sure_167 (by decide) h (fun h => ?_) (fun h => ?_)
      · refine j_iconst (pc := 174) dX10_sure_174 ic_0 ?_
        refine j_iadd (pc := 175) dX10_sure_175 ?_
        refine j_istore_n (pc := 176) (lv' := [(3, .int (x3 + (0 : Int32))), (4, .int (x4 + (1 : Int32))), (0, .ref a_o), (1, .int x1), (2, .int x2), (5, .int x5), (6, .int x6), (7, .int x7), (8, .int x8)]) dX10_sure_176 rfl (Nat.le_of_ble_eq_true rfl) rfl ?_
        refine j_iinc (pc := 177) (j := 5) (lv' := [(5, .int (x5 + (1 : Int32))), (3, .int (x3 + (0 : Int32))), (4, .int (x4 + (1 : Int32))), (0, .ref a_o), (1, .int x1), (2, .int x2), (6, .int x6), (7, .int x7), (8, .int x8)]) dX10_sure_177 rfl (congrArg (fun z => x5 + z) ic_1) (Nat.le_of_ble_eq_true rfl) rfl ?_
        refine j_goto (pc := 180) (tgt := 31) dX10_sure_180 (by decide) ?_
        exact j_sub (lv' := [(0, .ref a_o), (1, .int x1), (2, .int x2), (3, .int (x3 + (0 : Int32))), (4, .int (x4 + (1 : Int32))), (5, .int (x5 + (1 : Int32)))]) [3, 4, 5, 1, 2, 0] rfl (hk_31 _ _ _ _ u h)
      · refine j_iconst (pc := 170) dX10_sure_170 ic_1 ?_
        refine j_goto (pc := 171) (tgt := 175) dX10_sure_171 (by decide) ?_
        refine j_iadd (pc := 175) dX10_sure_175 ?_
        refine j_istore_n (pc := 176) (lv' := [(3, .int (x3 + (1 : Int32))), (4, .int (x4 + (1 : Int32))), (0, .ref a_o), (1, .int x1), (2, .int x2), (5, .int x5), (6, .int x6), (7, .int x7), (8, .int x8)]) dX10_sure_176 rfl (Nat.le_of_ble_eq_true rfl) rfl ?_
        refine j_iinc (pc := 177) (j := 5) (lv' := [(5, .int (x5 + (1 : Int32))), (3, .int (x3 + (1 : Int32))), (4, .int (x4 + (1 : Int32))), (0, .ref a_o), (1, .int x1), (2, .int x2), (6, .int x6), (7, .int x7), (8, .int x8)]) dX10_sure_177 rfl (congrArg (fun z => x5 + z) ic_1) (Nat.le_of_ble_eq_true rfl) rfl ?_
        refine j_goto (pc := 180) (tgt := 31) dX10_sure_180 (by decide) ?_
        exact j_sub (lv' := [(0, .ref a_o), (1, .int x1), (2, .int x2), (3, .int (x3 + (1 : Int32))), (4, .int (x4 + (1 : Int32))), (5, .int (x5 + (1 : Int32)))]) [3, 4, 5, 1, 2, 0] rfl (hk_31 _ _ _ _ u h)
    · refine j_iload (pc := 71) 5 dX10_sure_71 rfl ?_
      refine j_iload (pc := 73) 8 dX10_sure_73 rfl ?_
      refine j_ishr (pc := 75) dX10_sure_75 ?_
      refine j_iconst (pc := 76) dX10_sure_76 ic_1 ?_
      refine j_iand (pc := 77) dX10_sure_77 ?_
      refine j_iconst (pc := 78) dX10_sure_78 ic_1 ?_
      refine j_icmp_ne (pc := 79) (tgt := 86) dX10_sure_79 (by decide) h (fun h => ?_) (fun h => ?_)
      · refine j_iconst (pc := 86) dX10_sure_86 ic_0 ?_
        exact w_X10_sure_87 hk_31 ih _ _ _ _ _ _ _ _ u h
      · refine j_iconst (pc := 82) dX10_sure_82 ic_1 ?_
        refine j_goto (pc := 83) (tgt := 87) dX10_sure_83 (by decide) ?_
        exact w_X10_sure_87 hk_31 ih _ _ _ _ _ _ _ _ u h
set_option maxRecDepth 20000 in
theorem w_X10_sure_31 {l : Launch} {E : jE} {F : Nat} {x1 : Int32} {x2 : Int32} {v_o_cards : Int32} {f_o_colour : Nat → Int32} {f_o_st : Nat → Int32} {a_o a_o_colour a_o_deal a_o_st a_o_was a_o_kept a_o_seen a_o_text a_o_told a_o_readColour a_o_readDeal a_o_now a_o_then a_o_ring a_o_goes a_o_far a_o_met : Nat} {w_o_dealMany : Int32} {w_o_acts : Int32} {w_o_keeps : Int32} {w_o_seens : Int32} {w_o_texted : Int32} {w_o_at : Int32} {w_o_isBegun : Int32} {w_o_readCards : Int32} {w_o_readDeals : Int32} {w_o_metMany : Int32} : ∀ (n : Nat) (x3 : Int32) (x4 : Int32) (x5 : Int32) (f_o_then : Nat → Int32) (u : Int32 × (Nat → Int32)), g_X10_sure_31 F x1 x2 v_o_cards f_o_colour f_o_st n x3 x4 x5 f_o_then = some u → jT l E K_X10_sure 0 0 31 [(0, .ref a_o), (1, .int x1), (2, .int x2), (3, .int x3), (4, .int x4), (5, .int x5)] [] [jO a_o 7 [.int v_o_cards, .ref a_o_colour, .int w_o_dealMany, .ref a_o_deal, .ref a_o_st, .int w_o_acts, .ref a_o_was, .int w_o_keeps, .ref a_o_kept, .int w_o_seens, .ref a_o_seen, .ref a_o_text, .int w_o_texted, .int w_o_at, .ref a_o_told, .int w_o_isBegun, .int w_o_readCards, .ref a_o_readColour, .int w_o_readDeals, .ref a_o_readDeal, .ref a_o_now, .ref a_o_then, .ref a_o_ring, .ref a_o_goes, .ref a_o_far, .ref a_o_met, .int w_o_metMany], jI E a_o_colour 16 f_o_colour, jI E a_o_st 16 f_o_st, jI E a_o_then 16 f_o_then] (jd (some (.int u.1)) [jO a_o 7 [.int v_o_cards, .ref a_o_colour, .int w_o_dealMany, .ref a_o_deal, .ref a_o_st, .int w_o_acts, .ref a_o_was, .int w_o_keeps, .ref a_o_kept, .int w_o_seens, .ref a_o_seen, .ref a_o_text, .int w_o_texted, .int w_o_at, .ref a_o_told, .int w_o_isBegun, .int w_o_readCards, .ref a_o_readColour, .int w_o_readDeals, .ref a_o_readDeal, .ref a_o_now, .ref a_o_then, .ref a_o_ring, .ref a_o_goes, .ref a_o_far, .ref a_o_met, .int w_o_metMany], jI E a_o_colour 16 f_o_colour, jI E a_o_st 16 f_o_st, jI E a_o_then 16 u.2]) := by
  intro n
  induction n with
  | zero =>
    intro x3 x4 x5 f_o_then u h
    rw [g_X10_sure_31] at h
    cases h
  | succ n ih =>
    intro x3 x4 x5 f_o_then u h
    rw [g_X10_sure_31] at h
    refine j_iload (pc := 31) 5 dX10_sure_31 rfl ?_
    refine j_iconst (pc := 33) dX10_sure_33 ic_1 ?_
    refine j_aload_n (pc := 34) 0 dX10_sure_34 rfl rfl ?_
    refine j_get (pc := 35) (v := .int v_o_cards) 0 0 rfl rfl (Nat.le_of_ble_eq_true rfl) iwX10 m3_104 rfl dX10_sure_35 ?_
    refine j_ishl (pc := 38) dX10_sure_38 ?_
    refine j_icmp_ge (pc := 39) (tgt := 183) dX10_sure_39 (by decide) h (fun h => ?_) (fun h => ?_)
    · refine j_iload_n (pc := 183) 3 dX10_sure_183 rfl rfl ?_
      refine j_iload (pc := 184) 4 dX10_sure_184 rfl ?_
      refine j_iload_n (pc := 186) 2 dX10_sure_186 rfl rfl ?_
      refine j_S0 (pc := 187) (Kc := K_X10_lowest) (As := [.int x3, .int x4, .int x2]) (rest := []) h c_X10_lowest q_X10_lowest m4_139 rfl rfl (Nat.le_of_ble_eq_true rfl) ⟨(Nat.le_of_ble_eq_true rfl), (Nat.le_of_ble_eq_true rfl)⟩ ⟨rfl, rfl⟩ ⟨(Nat.le_of_ble_eq_true rfl), (Nat.le_of_ble_eq_true rfl)⟩ dX10_sure_187 (fun b1 h => ?_)
      cases h
      exact j_iret (pc := 190) rfl dX10_sure_190 (Nat.le_of_ble_eq_true rfl) (Nat.le_of_ble_eq_true rfl) (jd_i rfl rfl)
    · refine j_iload (pc := 42) 5 dX10_sure_42 rfl ?_
      refine j_S0 (pc := 44) (Kc := K_X10_bits) (As := [.int x5]) (rest := []) h c_X10_bits q_X10_bits m4_136 rfl rfl (Nat.le_of_ble_eq_true rfl) ⟨(Nat.le_of_ble_eq_true rfl), (Nat.le_of_ble_eq_true rfl)⟩ ⟨rfl, rfl⟩ ⟨(Nat.le_of_ble_eq_true rfl), (Nat.le_of_ble_eq_true rfl)⟩ dX10_sure_44 (fun b2 h => ?_)
      refine j_iload_n (pc := 47) 1 dX10_sure_47 rfl rfl ?_
      refine j_icmp_ne (pc := 48) (tgt := 177) dX10_sure_48 (by decide) h (fun h => ?_) (fun h => ?_)
      · refine j_iinc (pc := 177) (j := 5) (lv' := [(5, .int (x5 + (1 : Int32))), (0, .ref a_o), (1, .int x1), (2, .int x2), (3, .int x3), (4, .int x4)]) dX10_sure_177 rfl (congrArg (fun z => x5 + z) ic_1) (Nat.le_of_ble_eq_true rfl) rfl ?_
        refine j_goto (pc := 180) (tgt := 31) dX10_sure_180 (by decide) ?_
        exact j_sub (lv' := [(0, .ref a_o), (1, .int x1), (2, .int x2), (3, .int x3), (4, .int x4), (5, .int (x5 + (1 : Int32)))]) [1, 2, 3, 4, 5, 0] rfl (ih _ _ _ _ u h)
      · refine j_iload_n (pc := 51) 1 dX10_sure_51 rfl rfl ?_
        refine j_iconst (pc := 52) dX10_sure_52 ic_1 ?_
        refine j_isub (pc := 53) dX10_sure_53 ?_
        refine j_istore (pc := 54) (lv' := [(6, .int (x1 - (1 : Int32))), (0, .ref a_o), (1, .int x1), (2, .int x2), (3, .int x3), (4, .int x4), (5, .int x5)]) dX10_sure_54 (Nat.le_of_ble_eq_true rfl) rfl ?_
        refine j_iload_n (pc := 56) 2 dX10_sure_56 rfl rfl ?_
        refine j_istore (pc := 57) (lv' := [(7, .int x1), (6, .int (x1 - (1 : Int32))), (0, .ref a_o), (1, .int x1), (2, .int x2), (3, .int x3), (4, .int x4), (5, .int x5)]) dX10_sure_57 (Nat.le_of_ble_eq_true rfl) rfl ?_
        refine j_iconst (pc := 59) dX10_sure_59 ic_0 ?_
        refine j_istore (pc := 60) (lv' := [(8, .int (0 : Int32)), (7, .int x1), (6, .int (x1 - (1 : Int32))), (0, .ref a_o), (1, .int x1), (2, .int x2), (3, .int x3), (4, .int x4), (5, .int x5)]) dX10_sure_60 (Nat.le_of_ble_eq_true rfl) rfl ?_
        exact j_sub (lv' := [(0, .ref a_o), (1, .int x1), (2, .int x2), (3, .int x3), (4, .int x4), (5, .int x5), (6, .int (x1 - (1 : Int32))), (7, .int x1), (8, .int (0 : Int32))]) [3, 4, 5, 6, 7, 8, 2, 1, 0] rfl (w_X10_sure_62 ih _ _ _ _ _ _ _ _ u h)
set_option maxRecDepth 20000 in
theorem c_X10_sure {l : Launch} {E : jE} {F : Nat} {x1 : Int32} {x2 : Int32} {v_o_cards : Int32} {f_o_colour : Nat → Int32} {f_o_st : Nat → Int32} {a_o a_o_colour a_o_deal a_o_st a_o_was a_o_kept a_o_seen a_o_text a_o_told a_o_readColour a_o_readDeal a_o_now a_o_then a_o_ring a_o_goes a_o_far a_o_met : Nat} {w_o_dealMany : Int32} {w_o_acts : Int32} {w_o_keeps : Int32} {w_o_seens : Int32} {w_o_texted : Int32} {w_o_at : Int32} {w_o_isBegun : Int32} {w_o_readCards : Int32} {w_o_readDeals : Int32} {w_o_metMany : Int32} {f_o_then : Nat → Int32} : ∀ u : Int32 × (Nat → Int32), f_X10_sure F x1 x2 v_o_cards f_o_colour f_o_st f_o_then = some u → jM l E K_X10_sure [.ref a_o, .int x1, .int x2] [jO a_o 7 [.int v_o_cards, .ref a_o_colour, .int w_o_dealMany, .ref a_o_deal, .ref a_o_st, .int w_o_acts, .ref a_o_was, .int w_o_keeps, .ref a_o_kept, .int w_o_seens, .ref a_o_seen, .ref a_o_text, .int w_o_texted, .int w_o_at, .ref a_o_told, .int w_o_isBegun, .int w_o_readCards, .ref a_o_readColour, .int w_o_readDeals, .ref a_o_readDeal, .ref a_o_now, .ref a_o_then, .ref a_o_ring, .ref a_o_goes, .ref a_o_far, .ref a_o_met, .int w_o_metMany], jI E a_o_colour 16 f_o_colour, jI E a_o_st 16 f_o_st, jI E a_o_then 16 f_o_then] (jd (some (.int u.1)) [jO a_o 7 [.int v_o_cards, .ref a_o_colour, .int w_o_dealMany, .ref a_o_deal, .ref a_o_st, .int w_o_acts, .ref a_o_was, .int w_o_keeps, .ref a_o_kept, .int w_o_seens, .ref a_o_seen, .ref a_o_text, .int w_o_texted, .int w_o_at, .ref a_o_told, .int w_o_isBegun, .int w_o_readCards, .ref a_o_readColour, .int w_o_readDeals, .ref a_o_readDeal, .ref a_o_now, .ref a_o_then, .ref a_o_ring, .ref a_o_goes, .ref a_o_far, .ref a_o_met, .int w_o_metMany], jI E a_o_colour 16 f_o_colour, jI E a_o_st 16 f_o_st, jI E a_o_then 16 u.2]) := by
  intro u h
  unfold f_X10_sure at h
  refine j_met [(0, .ref a_o), (1, .int x1), (2, .int x2)] (by decide +kernel) (Nat.le_of_ble_eq_true rfl) rfl ?_
  refine j_iload_n (pc := 0) 1 dX10_sure_0 rfl rfl ?_
  refine j_iconst (pc := 1) dX10_sure_1 ic_0 ?_
  refine j_aload_n (pc := 2) 0 dX10_sure_2 rfl rfl ?_
  refine j_get (pc := 3) (v := .int v_o_cards) 0 0 rfl rfl (Nat.le_of_ble_eq_true rfl) iwX10 m3_104 rfl dX10_sure_3 ?_
  refine j_S0 (pc := 6) (Kc := K_X10_in) (As := [.int x1, .int (0 : Int32), .int v_o_cards]) (rest := []) h c_X10_in q_X10_in m3_190 rfl rfl (Nat.le_of_ble_eq_true rfl) ⟨(Nat.le_of_ble_eq_true rfl), (Nat.le_of_ble_eq_true rfl)⟩ ⟨rfl, rfl⟩ ⟨(Nat.le_of_ble_eq_true rfl), (Nat.le_of_ble_eq_true rfl)⟩ dX10_sure_6 (fun b1 h => ?_)
  refine j_if_eq (pc := 9) (tgt := 21) dX10_sure_9 (by decide) h (fun h => ?_) (fun h => ?_)
  · refine j_iconst (pc := 21) dX10_sure_21 ic_m1 ?_
    cases h
    exact j_iret (pc := 22) rfl dX10_sure_22 (Nat.le_of_ble_eq_true rfl) (Nat.le_of_ble_eq_true rfl) (jd_i rfl rfl)
  · refine j_iload_n (pc := 12) 2 dX10_sure_12 rfl rfl ?_
    refine j_iconst (pc := 13) dX10_sure_13 ic_0 ?_
    refine j_iconst (pc := 14) dX10_sure_14 ic_1 ?_
    refine j_S0 (pc := 15) (Kc := K_X10_in) (As := [.int x2, .int (0 : Int32), .int (1 : Int32)]) (rest := []) h c_X10_in q_X10_in m3_190 rfl rfl (Nat.le_of_ble_eq_true rfl) ⟨(Nat.le_of_ble_eq_true rfl), (Nat.le_of_ble_eq_true rfl)⟩ ⟨rfl, rfl⟩ ⟨(Nat.le_of_ble_eq_true rfl), (Nat.le_of_ble_eq_true rfl)⟩ dX10_sure_15 (fun b2 h => ?_)
    refine j_if_ne (pc := 18) (tgt := 23) dX10_sure_18 (by decide) h (fun h => ?_) (fun h => ?_)
    · refine j_iconst (pc := 23) dX10_sure_23 ic_0 ?_
      refine j_istore_n (pc := 24) (lv' := [(3, .int (0 : Int32)), (0, .ref a_o), (1, .int x1), (2, .int x2)]) dX10_sure_24 rfl (Nat.le_of_ble_eq_true rfl) rfl ?_
      refine j_iconst (pc := 25) dX10_sure_25 ic_0 ?_
      refine j_istore (pc := 26) (lv' := [(4, .int (0 : Int32)), (3, .int (0 : Int32)), (0, .ref a_o), (1, .int x1), (2, .int x2)]) dX10_sure_26 (Nat.le_of_ble_eq_true rfl) rfl ?_
      refine j_iconst (pc := 28) dX10_sure_28 ic_0 ?_
      refine j_istore (pc := 29) (lv' := [(5, .int (0 : Int32)), (4, .int (0 : Int32)), (3, .int (0 : Int32)), (0, .ref a_o), (1, .int x1), (2, .int x2)]) dX10_sure_29 (Nat.le_of_ble_eq_true rfl) rfl ?_
      exact j_sub (lv' := [(0, .ref a_o), (1, .int x1), (2, .int x2), (3, .int (0 : Int32)), (4, .int (0 : Int32)), (5, .int (0 : Int32))]) [3, 4, 5, 2, 1, 0] rfl (w_X10_sure_31 _ _ _ _ _ u h)
    · refine j_iconst (pc := 21) dX10_sure_21 ic_m1 ?_
      cases h
      exact j_iret (pc := 22) rfl dX10_sure_22 (Nat.le_of_ble_eq_true rfl) (Nat.le_of_ble_eq_true rfl) (jd_i rfl rfl)
set_option maxRecDepth 20000 in
theorem c_X10_seen {l : Launch} {E : jE} {F : Nat} {x1 : Int32} {x2 : Int32} {v_o_cards : Int32} {a_o a_o_colour a_o_deal a_o_st a_o_was a_o_kept a_o_seen a_o_text a_o_told a_o_readColour a_o_readDeal a_o_now a_o_then a_o_ring a_o_goes a_o_far a_o_met : Nat} {w_o_dealMany : Int32} {w_o_acts : Int32} {w_o_keeps : Int32} {w_o_texted : Int32} {w_o_at : Int32} {w_o_isBegun : Int32} {w_o_readCards : Int32} {w_o_readDeals : Int32} {w_o_metMany : Int32} {v_o_seens : Int32} {f_o_seen : Nat → Int32} : ∀ u : Int32 × Int32 × (Nat → Int32), f_X10_seen F x1 x2 v_o_cards v_o_seens f_o_seen = some u → jM l E K_X10_seen [.ref a_o, .int x1, .int x2] [jO a_o 7 [.int v_o_cards, .ref a_o_colour, .int w_o_dealMany, .ref a_o_deal, .ref a_o_st, .int w_o_acts, .ref a_o_was, .int w_o_keeps, .ref a_o_kept, .int v_o_seens, .ref a_o_seen, .ref a_o_text, .int w_o_texted, .int w_o_at, .ref a_o_told, .int w_o_isBegun, .int w_o_readCards, .ref a_o_readColour, .int w_o_readDeals, .ref a_o_readDeal, .ref a_o_now, .ref a_o_then, .ref a_o_ring, .ref a_o_goes, .ref a_o_far, .ref a_o_met, .int w_o_metMany], jI E a_o_seen 16 f_o_seen] (jd (some (.int u.1)) [jO a_o 7 [.int v_o_cards, .ref a_o_colour, .int w_o_dealMany, .ref a_o_deal, .ref a_o_st, .int w_o_acts, .ref a_o_was, .int w_o_keeps, .ref a_o_kept, .int u.2.1, .ref a_o_seen, .ref a_o_text, .int w_o_texted, .int w_o_at, .ref a_o_told, .int w_o_isBegun, .int w_o_readCards, .ref a_o_readColour, .int w_o_readDeals, .ref a_o_readDeal, .ref a_o_now, .ref a_o_then, .ref a_o_ring, .ref a_o_goes, .ref a_o_far, .ref a_o_met, .int w_o_metMany], jI E a_o_seen 16 u.2.2]) := by
  intro u h
  unfold f_X10_seen at h
  refine j_met [(0, .ref a_o), (1, .int x1), (2, .int x2)] (by decide +kernel) (Nat.le_of_ble_eq_true rfl) rfl ?_
  refine j_aload_n (pc := 0) 0 dX10_seen_0 rfl rfl ?_
  refine j_iload_n (pc := 1) 1 dX10_seen_1 rfl rfl ?_
  refine j_V (pc := 2) (q0 := 0) (Kc := K_X10_isCard) (As := [.int x1]) (rest := []) (wc := [jO a_o 7 [.int v_o_cards, .ref a_o_colour, .int w_o_dealMany, .ref a_o_deal, .ref a_o_st, .int w_o_acts, .ref a_o_was, .int w_o_keeps, .ref a_o_kept, .int v_o_seens, .ref a_o_seen, .ref a_o_text, .int w_o_texted, .int w_o_at, .ref a_o_told, .int w_o_isBegun, .int w_o_readCards, .ref a_o_readColour, .int w_o_readDeals, .ref a_o_readDeal, .ref a_o_now, .ref a_o_then, .ref a_o_ring, .ref a_o_goes, .ref a_o_far, .ref a_o_met, .int w_o_metMany]]) (w' := fun b1 => [jO a_o 7 [.int v_o_cards, .ref a_o_colour, .int w_o_dealMany, .ref a_o_deal, .ref a_o_st, .int w_o_acts, .ref a_o_was, .int w_o_keeps, .ref a_o_kept, .int v_o_seens, .ref a_o_seen, .ref a_o_text, .int w_o_texted, .int w_o_at, .ref a_o_told, .int w_o_isBegun, .int w_o_readCards, .ref a_o_readColour, .int w_o_readDeals, .ref a_o_readDeal, .ref a_o_now, .ref a_o_then, .ref a_o_ring, .ref a_o_goes, .ref a_o_far, .ref a_o_met, .int w_o_metMany], jI E a_o_seen 16 f_o_seen]) (st1 := fun b1 => [.int b1]) [0] rfl rfl rfl h c_X10_isCard q_X10_isCard m4_1 rfl rfl (Nat.le_of_ble_eq_true rfl) ⟨(Nat.le_of_ble_eq_true rfl), (Nat.le_of_ble_eq_true rfl)⟩ ⟨rfl, rfl⟩ ⟨(Nat.le_of_ble_eq_true rfl), (Nat.le_of_ble_eq_true rfl)⟩ dX10_seen_2 rfl (by decide) (fun _ => rfl) (fun _ => rfl) (fun _ => rfl) (fun b1 h => ?_)
  refine j_if_eq (pc := 5) (tgt := 16) dX10_seen_5 (by decide) h (fun h => ?_) (fun h => ?_)
  · refine j_iconst (pc := 16) dX10_seen_16 ic_m1 ?_
    cases h
    exact j_iret (pc := 17) rfl dX10_seen_17 (Nat.le_of_ble_eq_true rfl) (Nat.le_of_ble_eq_true rfl) (jd_i rfl rfl)
  · refine j_aload_n (pc := 8) 0 dX10_seen_8 rfl rfl ?_
    refine j_iload_n (pc := 9) 2 dX10_seen_9 rfl rfl ?_
    refine j_V (pc := 10) (q0 := 0) (Kc := K_X10_isCard) (As := [.int x2]) (rest := []) (wc := [jO a_o 7 [.int v_o_cards, .ref a_o_colour, .int w_o_dealMany, .ref a_o_deal, .ref a_o_st, .int w_o_acts, .ref a_o_was, .int w_o_keeps, .ref a_o_kept, .int v_o_seens, .ref a_o_seen, .ref a_o_text, .int w_o_texted, .int w_o_at, .ref a_o_told, .int w_o_isBegun, .int w_o_readCards, .ref a_o_readColour, .int w_o_readDeals, .ref a_o_readDeal, .ref a_o_now, .ref a_o_then, .ref a_o_ring, .ref a_o_goes, .ref a_o_far, .ref a_o_met, .int w_o_metMany]]) (w' := fun b2 => [jO a_o 7 [.int v_o_cards, .ref a_o_colour, .int w_o_dealMany, .ref a_o_deal, .ref a_o_st, .int w_o_acts, .ref a_o_was, .int w_o_keeps, .ref a_o_kept, .int v_o_seens, .ref a_o_seen, .ref a_o_text, .int w_o_texted, .int w_o_at, .ref a_o_told, .int w_o_isBegun, .int w_o_readCards, .ref a_o_readColour, .int w_o_readDeals, .ref a_o_readDeal, .ref a_o_now, .ref a_o_then, .ref a_o_ring, .ref a_o_goes, .ref a_o_far, .ref a_o_met, .int w_o_metMany], jI E a_o_seen 16 f_o_seen]) (st1 := fun b2 => [.int b2]) [0] rfl rfl rfl h c_X10_isCard q_X10_isCard m4_1 rfl rfl (Nat.le_of_ble_eq_true rfl) ⟨(Nat.le_of_ble_eq_true rfl), (Nat.le_of_ble_eq_true rfl)⟩ ⟨rfl, rfl⟩ ⟨(Nat.le_of_ble_eq_true rfl), (Nat.le_of_ble_eq_true rfl)⟩ dX10_seen_10 rfl (by decide) (fun _ => rfl) (fun _ => rfl) (fun _ => rfl) (fun b2 h => ?_)
    refine j_if_ne (pc := 13) (tgt := 18) dX10_seen_13 (by decide) h (fun h => ?_) (fun h => ?_)
    · refine j_aload_n (pc := 18) 0 dX10_seen_18 rfl rfl ?_
      refine j_get (pc := 19) (v := .int v_o_seens) 0 9 rfl rfl (Nat.le_of_ble_eq_true rfl) iwX10 m3_113 rfl dX10_seen_19 ?_
      refine j_bipush (pc := 22) dX10_seen_22 bc_8 ?_
      refine j_icmp_ne (pc := 24) (tgt := 30) dX10_seen_24 (by decide) h (fun h => ?_) (fun h => ?_)
      · refine j_aload_n (pc := 30) 0 dX10_seen_30 rfl rfl ?_
        refine j_get (pc := 31) (v := .ref a_o_seen) 0 10 rfl rfl (Nat.le_of_ble_eq_true rfl) iwX10 m3_114 rfl dX10_seen_31 ?_
        refine j_iconst (pc := 34) dX10_seen_34 ic_2 ?_
        refine j_aload_n (pc := 35) 0 dX10_seen_35 rfl rfl ?_
        refine j_get (pc := 36) (v := .int v_o_seens) 0 9 rfl rfl (Nat.le_of_ble_eq_true rfl) iwX10 m3_113 rfl dX10_seen_36 ?_
        refine j_imul (pc := 39) dX10_seen_39 ?_
        refine j_iload_n (pc := 40) 1 dX10_seen_40 rfl rfl ?_
        refine j_iast (pc := 41) (w' := [jO a_o 7 [.int v_o_cards, .ref a_o_colour, .int w_o_dealMany, .ref a_o_deal, .ref a_o_st, .int w_o_acts, .ref a_o_was, .int w_o_keeps, .ref a_o_kept, .int v_o_seens, .ref a_o_seen, .ref a_o_text, .int w_o_texted, .int w_o_at, .ref a_o_told, .int w_o_isBegun, .int w_o_readCards, .ref a_o_readColour, .int w_o_readDeals, .ref a_o_readDeal, .ref a_o_now, .ref a_o_then, .ref a_o_ring, .ref a_o_goes, .ref a_o_far, .ref a_o_met, .int w_o_metMany], jI E a_o_seen 16 (upd f_o_seen ((2 : Int32) * v_o_seens).toNatClampNeg x1)]) 1 rfl dX10_seen_41 h rfl (fun h => ?_)
        refine j_aload_n (pc := 42) 0 dX10_seen_42 rfl rfl ?_
        refine j_get (pc := 43) (v := .ref a_o_seen) 0 10 rfl rfl (Nat.le_of_ble_eq_true rfl) iwX10 m3_114 rfl dX10_seen_43 ?_
        refine j_iconst (pc := 46) dX10_seen_46 ic_2 ?_
        refine j_aload_n (pc := 47) 0 dX10_seen_47 rfl rfl ?_
        refine j_get (pc := 48) (v := .int v_o_seens) 0 9 rfl rfl (Nat.le_of_ble_eq_true rfl) iwX10 m3_113 rfl dX10_seen_48 ?_
        refine j_imul (pc := 51) dX10_seen_51 ?_
        refine j_iconst (pc := 52) dX10_seen_52 ic_1 ?_
        refine j_iadd (pc := 53) dX10_seen_53 ?_
        refine j_iload_n (pc := 54) 2 dX10_seen_54 rfl rfl ?_
        refine j_iast (pc := 55) (w' := [jO a_o 7 [.int v_o_cards, .ref a_o_colour, .int w_o_dealMany, .ref a_o_deal, .ref a_o_st, .int w_o_acts, .ref a_o_was, .int w_o_keeps, .ref a_o_kept, .int v_o_seens, .ref a_o_seen, .ref a_o_text, .int w_o_texted, .int w_o_at, .ref a_o_told, .int w_o_isBegun, .int w_o_readCards, .ref a_o_readColour, .int w_o_readDeals, .ref a_o_readDeal, .ref a_o_now, .ref a_o_then, .ref a_o_ring, .ref a_o_goes, .ref a_o_far, .ref a_o_met, .int w_o_metMany], jI E a_o_seen 16 (upd (upd f_o_seen ((2 : Int32) * v_o_seens).toNatClampNeg x1) (((2 : Int32) * v_o_seens) + (1 : Int32)).toNatClampNeg x2)]) 1 rfl dX10_seen_55 h rfl (fun h => ?_)
        refine j_aload_n (pc := 56) 0 dX10_seen_56 rfl rfl ?_
        refine j_dup (pc := 57) dX10_seen_57 rfl ?_
        refine j_get (pc := 58) (v := .int v_o_seens) 0 9 rfl rfl (Nat.le_of_ble_eq_true rfl) iwX10 m3_113 rfl dX10_seen_58 ?_
        refine j_iconst (pc := 61) dX10_seen_61 ic_1 ?_
        refine j_iadd (pc := 62) dX10_seen_62 ?_
        refine j_put (pc := 63) (w' := [jO a_o 7 [.int v_o_cards, .ref a_o_colour, .int w_o_dealMany, .ref a_o_deal, .ref a_o_st, .int w_o_acts, .ref a_o_was, .int w_o_keeps, .ref a_o_kept, .int (v_o_seens + (1 : Int32)), .ref a_o_seen, .ref a_o_text, .int w_o_texted, .int w_o_at, .ref a_o_told, .int w_o_isBegun, .int w_o_readCards, .ref a_o_readColour, .int w_o_readDeals, .ref a_o_readDeal, .ref a_o_now, .ref a_o_then, .ref a_o_ring, .ref a_o_goes, .ref a_o_far, .ref a_o_met, .int w_o_metMany], jI E a_o_seen 16 (upd (upd f_o_seen ((2 : Int32) * v_o_seens).toNatClampNeg x1) (((2 : Int32) * v_o_seens) + (1 : Int32)).toNatClampNeg x2)]) tyX10 0 9 tyX10_ok nmX10 rfl rfl (Nat.le_of_ble_eq_true rfl) iwX10 m3_113 rfl rfl rfl rfl (Nat.le_of_ble_eq_true rfl) dX10_seen_63 rfl ?_
        refine j_aload_n (pc := 66) 0 dX10_seen_66 rfl rfl ?_
        refine j_get (pc := 67) (v := .int (v_o_seens + (1 : Int32))) 0 9 rfl rfl (Nat.le_of_ble_eq_true rfl) iwX10 m3_113 rfl dX10_seen_67 ?_
        cases h
        exact j_iret (pc := 70) rfl dX10_seen_70 (Nat.le_of_ble_eq_true rfl) (Nat.le_of_ble_eq_true rfl) (jd_i rfl rfl)
      · refine j_bipush (pc := 27) dX10_seen_27 bc_m3 ?_
        cases h
        exact j_iret (pc := 29) rfl dX10_seen_29 (Nat.le_of_ble_eq_true rfl) (Nat.le_of_ble_eq_true rfl) (jd_i rfl rfl)
    · refine j_iconst (pc := 16) dX10_seen_16 ic_m1 ?_
      cases h
      exact j_iret (pc := 17) rfl dX10_seen_17 (Nat.le_of_ble_eq_true rfl) (Nat.le_of_ble_eq_true rfl) (jd_i rfl rfl)
set_option maxRecDepth 20000 in
theorem c_X10_forget {l : Launch} {E : jE} {F : Nat} {a_o a_o_colour a_o_deal a_o_st a_o_was a_o_kept a_o_seen a_o_text a_o_told a_o_readColour a_o_readDeal a_o_now a_o_then a_o_ring a_o_goes a_o_far a_o_met : Nat} {w_o_cards : Int32} {w_o_dealMany : Int32} {w_o_acts : Int32} {w_o_keeps : Int32} {w_o_texted : Int32} {w_o_at : Int32} {w_o_isBegun : Int32} {w_o_readCards : Int32} {w_o_readDeals : Int32} {w_o_metMany : Int32} {v_o_seens : Int32} : ∀ u : Int32 × Int32, f_X10_forget F v_o_seens = some u → jM l E K_X10_forget [.ref a_o] [jO a_o 7 [.int w_o_cards, .ref a_o_colour, .int w_o_dealMany, .ref a_o_deal, .ref a_o_st, .int w_o_acts, .ref a_o_was, .int w_o_keeps, .ref a_o_kept, .int v_o_seens, .ref a_o_seen, .ref a_o_text, .int w_o_texted, .int w_o_at, .ref a_o_told, .int w_o_isBegun, .int w_o_readCards, .ref a_o_readColour, .int w_o_readDeals, .ref a_o_readDeal, .ref a_o_now, .ref a_o_then, .ref a_o_ring, .ref a_o_goes, .ref a_o_far, .ref a_o_met, .int w_o_metMany]] (jd (some (.int u.1)) [jO a_o 7 [.int w_o_cards, .ref a_o_colour, .int w_o_dealMany, .ref a_o_deal, .ref a_o_st, .int w_o_acts, .ref a_o_was, .int w_o_keeps, .ref a_o_kept, .int u.2, .ref a_o_seen, .ref a_o_text, .int w_o_texted, .int w_o_at, .ref a_o_told, .int w_o_isBegun, .int w_o_readCards, .ref a_o_readColour, .int w_o_readDeals, .ref a_o_readDeal, .ref a_o_now, .ref a_o_then, .ref a_o_ring, .ref a_o_goes, .ref a_o_far, .ref a_o_met, .int w_o_metMany]]) := by
  intro u h
  unfold f_X10_forget at h
  refine j_met [(0, .ref a_o)] (by decide +kernel) (Nat.le_of_ble_eq_true rfl) rfl ?_
  refine j_aload_n (pc := 0) 0 dX10_forget_0 rfl rfl ?_
  refine j_get (pc := 1) (v := .int v_o_seens) 0 9 rfl rfl (Nat.le_of_ble_eq_true rfl) iwX10 m3_113 rfl dX10_forget_1 ?_
  refine j_istore_n (pc := 4) (lv' := [(1, .int v_o_seens), (0, .ref a_o)]) dX10_forget_4 rfl (Nat.le_of_ble_eq_true rfl) rfl ?_
  refine j_aload_n (pc := 5) 1 dX10_forget_5 rfl rfl ?_
  refine j_iconst (pc := 6) dX10_forget_6 ic_0 ?_
  refine j_put (pc := 7) (w' := [jO a_o 7 [.int w_o_cards, .ref a_o_colour, .int w_o_dealMany, .ref a_o_deal, .ref a_o_st, .int w_o_acts, .ref a_o_was, .int w_o_keeps, .ref a_o_kept, .int (0 : Int32), .ref a_o_seen, .ref a_o_text, .int w_o_texted, .int w_o_at, .ref a_o_told, .int w_o_isBegun, .int w_o_readCards, .ref a_o_readColour, .int w_o_readDeals, .ref a_o_readDeal, .ref a_o_now, .ref a_o_then, .ref a_o_ring, .ref a_o_goes, .ref a_o_far, .ref a_o_met, .int w_o_metMany]]) tyX10 0 9 tyX10_ok nmX10 rfl rfl (Nat.le_of_ble_eq_true rfl) iwX10 m3_113 rfl rfl rfl rfl (Nat.le_of_ble_eq_true rfl) dX10_forget_7 rfl ?_
  refine j_iload_n (pc := 10) 0 dX10_forget_10 rfl rfl ?_
  cases h
  exact j_iret (pc := 11) rfl dX10_forget_11 (Nat.le_of_ble_eq_true rfl) (Nat.le_of_ble_eq_true rfl) (jd_i rfl rfl)
set_option maxRecDepth 20000 in
theorem w_X10_isBy_16 {l : Launch} {E : jE} {F : Nat} {x1 : Int32} {v_o_cards : Int32} {v_o_seens : Int32} {f_o_seen : Nat → Int32} {a_o a_o_colour a_o_deal a_o_st a_o_was a_o_kept a_o_seen a_o_text a_o_told a_o_readColour a_o_readDeal a_o_now a_o_then a_o_ring a_o_goes a_o_far a_o_met : Nat} {w_o_dealMany : Int32} {w_o_acts : Int32} {w_o_keeps : Int32} {w_o_texted : Int32} {w_o_at : Int32} {w_o_isBegun : Int32} {w_o_readCards : Int32} {w_o_readDeals : Int32} {w_o_metMany : Int32} : ∀ (n : Nat) (x2 : Int32) (x3 : Int32) (f_o_now : Nat → Int32) (f_o_ring : Nat → Int32) (f_o_then : Nat → Int32) (u : Int32 × (Nat → Int32) × (Nat → Int32) × (Nat → Int32)), g_X10_isBy_16 F x1 v_o_cards v_o_seens f_o_seen n x2 x3 f_o_now f_o_ring f_o_then = some u → jT l E K_X10_isBy 0 0 16 [(0, .ref a_o), (2, .int x2), (3, .int x3)] [] [jO a_o 7 [.int v_o_cards, .ref a_o_colour, .int w_o_dealMany, .ref a_o_deal, .ref a_o_st, .int w_o_acts, .ref a_o_was, .int w_o_keeps, .ref a_o_kept, .int v_o_seens, .ref a_o_seen, .ref a_o_text, .int w_o_texted, .int w_o_at, .ref a_o_told, .int w_o_isBegun, .int w_o_readCards, .ref a_o_readColour, .int w_o_readDeals, .ref a_o_readDeal, .ref a_o_now, .ref a_o_then, .ref a_o_ring, .ref a_o_goes, .ref a_o_far, .ref a_o_met, .int w_o_metMany], jI E a_o_now 16 f_o_now, jI E a_o_ring 32 f_o_ring, jI E a_o_seen 16 f_o_seen, jI E a_o_then 16 f_o_then] (jd (some (.int u.1)) [jO a_o 7 [.int v_o_cards, .ref a_o_colour, .int w_o_dealMany, .ref a_o_deal, .ref a_o_st, .int w_o_acts, .ref a_o_was, .int w_o_keeps, .ref a_o_kept, .int v_o_seens, .ref a_o_seen, .ref a_o_text, .int w_o_texted, .int w_o_at, .ref a_o_told, .int w_o_isBegun, .int w_o_readCards, .ref a_o_readColour, .int w_o_readDeals, .ref a_o_readDeal, .ref a_o_now, .ref a_o_then, .ref a_o_ring, .ref a_o_goes, .ref a_o_far, .ref a_o_met, .int w_o_metMany], jI E a_o_now 16 u.2.1, jI E a_o_ring 32 u.2.2.1, jI E a_o_seen 16 f_o_seen, jI E a_o_then 16 u.2.2.2]) := by
  intro n
  induction n with
  | zero =>
    intro x2 x3 f_o_now f_o_ring f_o_then u h
    rw [g_X10_isBy_16] at h
    cases h
  | succ n ih =>
    intro x2 x3 f_o_now f_o_ring f_o_then u h
    rw [g_X10_isBy_16] at h
    refine j_iload_n (pc := 16) 2 dX10_isBy_16 rfl rfl ?_
    refine j_aload_n (pc := 17) 0 dX10_isBy_17 rfl rfl ?_
    refine j_get (pc := 18) (v := .int v_o_seens) 0 9 rfl rfl (Nat.le_of_ble_eq_true rfl) iwX10 m3_113 rfl dX10_isBy_18 ?_
    refine j_icmp_ge (pc := 21) (tgt := 66) dX10_isBy_21 (by decide) h (fun h => ?_) (fun h => ?_)
    · refine j_iload_n (pc := 66) 1 dX10_isBy_66 rfl rfl ?_
      obtain ⟨hz, h⟩ := jgz_s h
      cases h
      exact j_zret (pc := 67) rfl hz dX10_isBy_67 (Nat.le_of_ble_eq_true rfl) (Nat.le_of_ble_eq_true rfl) (jd_i rfl rfl)
    · refine j_iload_n (pc := 24) 1 dX10_isBy_24 rfl rfl ?_
      refine j_if_eq (pc := 25) (tgt := 58) dX10_isBy_25 (by decide) h (fun h => ?_) (fun h => ?_)
      · refine j_iconst (pc := 58) dX10_isBy_58 ic_0 ?_
        refine j_istore_n (pc := 59) (lv' := [(2, .int (0 : Int32)), (0, .ref a_o), (3, .int x3)]) dX10_isBy_59 rfl (Nat.le_of_ble_eq_true rfl) rfl ?_
        refine j_iinc (pc := 60) (j := 2) (lv' := [(3, .int (x3 + (1 : Int32))), (2, .int (0 : Int32)), (0, .ref a_o)]) dX10_isBy_60 rfl (congrArg (fun z => x3 + z) ic_1) (Nat.le_of_ble_eq_true rfl) rfl ?_
        refine j_goto (pc := 63) (tgt := 16) dX10_isBy_63 (by decide) ?_
        exact j_sub (lv' := [(0, .ref a_o), (2, .int (0 : Int32)), (3, .int (x3 + (1 : Int32)))]) [2, 1, 0] rfl (ih _ _ _ _ _ u h)
      · refine j_aload_n (pc := 28) 0 dX10_isBy_28 rfl rfl ?_
        refine j_get (pc := 29) (v := .ref a_o_now) 0 20 rfl rfl (Nat.le_of_ble_eq_true rfl) iwX10 m3_124 rfl dX10_isBy_29 ?_
        refine j_aload_n (pc := 32) 0 dX10_isBy_32 rfl rfl ?_
        refine j_get (pc := 33) (v := .ref a_o_seen) 0 10 rfl rfl (Nat.le_of_ble_eq_true rfl) iwX10 m3_114 rfl dX10_isBy_33 ?_
        refine j_iconst (pc := 36) dX10_isBy_36 ic_2 ?_
        refine j_iload_n (pc := 37) 2 dX10_isBy_37 rfl rfl ?_
        refine j_imul (pc := 38) dX10_isBy_38 ?_
        refine j_iconst (pc := 39) dX10_isBy_39 ic_1 ?_
        refine j_iadd (pc := 40) dX10_isBy_40 ?_
        refine j_iald (pc := 41) 3 rfl dX10_isBy_41 h (fun h => ?_)
        refine j_iald (pc := 42) 1 rfl dX10_isBy_42 h (fun h => ?_)
        refine j_aload_n (pc := 43) 0 dX10_isBy_43 rfl rfl ?_
        refine j_get (pc := 44) (v := .ref a_o_seen) 0 10 rfl rfl (Nat.le_of_ble_eq_true rfl) iwX10 m3_114 rfl dX10_isBy_44 ?_
        refine j_iconst (pc := 47) dX10_isBy_47 ic_2 ?_
        refine j_iload_n (pc := 48) 2 dX10_isBy_48 rfl rfl ?_
        refine j_imul (pc := 49) dX10_isBy_49 ?_
        refine j_iald (pc := 50) 3 rfl dX10_isBy_50 h (fun h => ?_)
        refine j_icmp_ne (pc := 51) (tgt := 58) dX10_isBy_51 (by decide) h (fun h => ?_) (fun h => ?_)
        · refine j_iconst (pc := 58) dX10_isBy_58 ic_0 ?_
          refine j_istore_n (pc := 59) (lv' := [(2, .int (0 : Int32)), (0, .ref a_o), (3, .int x3)]) dX10_isBy_59 rfl (Nat.le_of_ble_eq_true rfl) rfl ?_
          refine j_iinc (pc := 60) (j := 2) (lv' := [(3, .int (x3 + (1 : Int32))), (2, .int (0 : Int32)), (0, .ref a_o)]) dX10_isBy_60 rfl (congrArg (fun z => x3 + z) ic_1) (Nat.le_of_ble_eq_true rfl) rfl ?_
          refine j_goto (pc := 63) (tgt := 16) dX10_isBy_63 (by decide) ?_
          exact j_sub (lv' := [(0, .ref a_o), (2, .int (0 : Int32)), (3, .int (x3 + (1 : Int32)))]) [2, 1, 0] rfl (ih _ _ _ _ _ u h)
        · refine j_iconst (pc := 54) dX10_isBy_54 ic_1 ?_
          refine j_goto (pc := 55) (tgt := 59) dX10_isBy_55 (by decide) ?_
          refine j_istore_n (pc := 59) (lv' := [(2, .int (1 : Int32)), (0, .ref a_o), (3, .int x3)]) dX10_isBy_59 rfl (Nat.le_of_ble_eq_true rfl) rfl ?_
          refine j_iinc (pc := 60) (j := 2) (lv' := [(3, .int (x3 + (1 : Int32))), (2, .int (1 : Int32)), (0, .ref a_o)]) dX10_isBy_60 rfl (congrArg (fun z => x3 + z) ic_1) (Nat.le_of_ble_eq_true rfl) rfl ?_
          refine j_goto (pc := 63) (tgt := 16) dX10_isBy_63 (by decide) ?_
          exact j_sub (lv' := [(0, .ref a_o), (2, .int (1 : Int32)), (3, .int (x3 + (1 : Int32)))]) [2, 1, 0] rfl (ih _ _ _ _ _ u h)
set_option maxRecDepth 20000 in
theorem c_X10_isBy {l : Launch} {E : jE} {F : Nat} {x1 : Int32} {v_o_cards : Int32} {v_o_seens : Int32} {f_o_seen : Nat → Int32} {a_o a_o_colour a_o_deal a_o_st a_o_was a_o_kept a_o_seen a_o_text a_o_told a_o_readColour a_o_readDeal a_o_now a_o_then a_o_ring a_o_goes a_o_far a_o_met : Nat} {w_o_dealMany : Int32} {w_o_acts : Int32} {w_o_keeps : Int32} {w_o_texted : Int32} {w_o_at : Int32} {w_o_isBegun : Int32} {w_o_readCards : Int32} {w_o_readDeals : Int32} {w_o_metMany : Int32} {f_o_now : Nat → Int32} {f_o_ring : Nat → Int32} {f_o_then : Nat → Int32} : ∀ u : Int32 × (Nat → Int32) × (Nat → Int32) × (Nat → Int32), f_X10_isBy F x1 v_o_cards v_o_seens f_o_seen f_o_now f_o_ring f_o_then = some u → jM l E K_X10_isBy [.ref a_o, .int x1] [jO a_o 7 [.int v_o_cards, .ref a_o_colour, .int w_o_dealMany, .ref a_o_deal, .ref a_o_st, .int w_o_acts, .ref a_o_was, .int w_o_keeps, .ref a_o_kept, .int v_o_seens, .ref a_o_seen, .ref a_o_text, .int w_o_texted, .int w_o_at, .ref a_o_told, .int w_o_isBegun, .int w_o_readCards, .ref a_o_readColour, .int w_o_readDeals, .ref a_o_readDeal, .ref a_o_now, .ref a_o_then, .ref a_o_ring, .ref a_o_goes, .ref a_o_far, .ref a_o_met, .int w_o_metMany], jI E a_o_now 16 f_o_now, jI E a_o_ring 32 f_o_ring, jI E a_o_seen 16 f_o_seen, jI E a_o_then 16 f_o_then] (jd (some (.int u.1)) [jO a_o 7 [.int v_o_cards, .ref a_o_colour, .int w_o_dealMany, .ref a_o_deal, .ref a_o_st, .int w_o_acts, .ref a_o_was, .int w_o_keeps, .ref a_o_kept, .int v_o_seens, .ref a_o_seen, .ref a_o_text, .int w_o_texted, .int w_o_at, .ref a_o_told, .int w_o_isBegun, .int w_o_readCards, .ref a_o_readColour, .int w_o_readDeals, .ref a_o_readDeal, .ref a_o_now, .ref a_o_then, .ref a_o_ring, .ref a_o_goes, .ref a_o_far, .ref a_o_met, .int w_o_metMany], jI E a_o_now 16 u.2.1, jI E a_o_ring 32 u.2.2.1, jI E a_o_seen 16 f_o_seen, jI E a_o_then 16 u.2.2.2]) := by
  intro u h
  unfold f_X10_isBy at h
  refine j_met [(0, .ref a_o), (1, .int x1)] (by decide +kernel) (Nat.le_of_ble_eq_true rfl) rfl ?_
  refine j_aload_n (pc := 0) 0 dX10_isBy_0 rfl rfl ?_
  refine j_get (pc := 1) (v := .ref a_o_now) 0 20 rfl rfl (Nat.le_of_ble_eq_true rfl) iwX10 m3_124 rfl dX10_isBy_1 ?_
  refine j_S (pc := 4) (Kc := K_X10_lies) (As := [.ref a_o_now]) (rest := []) (wc := [jI E a_o_now 16 f_o_now]) (w' := fun b1 => [jO a_o 7 [.int v_o_cards, .ref a_o_colour, .int w_o_dealMany, .ref a_o_deal, .ref a_o_st, .int w_o_acts, .ref a_o_was, .int w_o_keeps, .ref a_o_kept, .int v_o_seens, .ref a_o_seen, .ref a_o_text, .int w_o_texted, .int w_o_at, .ref a_o_told, .int w_o_isBegun, .int w_o_readCards, .ref a_o_readColour, .int w_o_readDeals, .ref a_o_readDeal, .ref a_o_now, .ref a_o_then, .ref a_o_ring, .ref a_o_goes, .ref a_o_far, .ref a_o_met, .int w_o_metMany], jI E a_o_now 16 b1, jI E a_o_ring 32 f_o_ring, jI E a_o_seen 16 f_o_seen, jI E a_o_then 16 f_o_then]) (st1 := fun b1 => []) [1] h c_X10_lies q_X10_lies m3_101 rfl rfl (Nat.le_of_ble_eq_true rfl) ⟨(Nat.le_of_ble_eq_true rfl), (Nat.le_of_ble_eq_true rfl)⟩ ⟨rfl, rfl⟩ ⟨(Nat.le_of_ble_eq_true rfl), (Nat.le_of_ble_eq_true rfl)⟩ dX10_isBy_4 rfl (by decide) (fun _ => rfl) (fun _ => rfl) (fun _ => rfl) (fun b1 h => ?_)
  refine j_aload_n (pc := 7) 0 dX10_isBy_7 rfl rfl ?_
  refine j_iload_n (pc := 8) 1 dX10_isBy_8 rfl rfl ?_
  refine j_V (pc := 9) (q0 := 0) (Kc := K_X10_acts) (As := [.int x1]) (rest := []) (wc := [jO a_o 7 [.int v_o_cards, .ref a_o_colour, .int w_o_dealMany, .ref a_o_deal, .ref a_o_st, .int w_o_acts, .ref a_o_was, .int w_o_keeps, .ref a_o_kept, .int v_o_seens, .ref a_o_seen, .ref a_o_text, .int w_o_texted, .int w_o_at, .ref a_o_told, .int w_o_isBegun, .int w_o_readCards, .ref a_o_readColour, .int w_o_readDeals, .ref a_o_readDeal, .ref a_o_now, .ref a_o_then, .ref a_o_ring, .ref a_o_goes, .ref a_o_far, .ref a_o_met, .int w_o_metMany], jI E a_o_now 16 b1, jI E a_o_ring 32 f_o_ring, jI E a_o_then 16 f_o_then]) (w' := fun b2 => [jO a_o 7 [.int v_o_cards, .ref a_o_colour, .int w_o_dealMany, .ref a_o_deal, .ref a_o_st, .int w_o_acts, .ref a_o_was, .int w_o_keeps, .ref a_o_kept, .int v_o_seens, .ref a_o_seen, .ref a_o_text, .int w_o_texted, .int w_o_at, .ref a_o_told, .int w_o_isBegun, .int w_o_readCards, .ref a_o_readColour, .int w_o_readDeals, .ref a_o_readDeal, .ref a_o_now, .ref a_o_then, .ref a_o_ring, .ref a_o_goes, .ref a_o_far, .ref a_o_met, .int w_o_metMany], jI E a_o_now 16 b2.1, jI E a_o_ring 32 b2.2.1, jI E a_o_seen 16 f_o_seen, jI E a_o_then 16 b2.2.2]) (st1 := fun b2 => []) [0, 1, 2, 4] rfl rfl rfl h c_X10_acts q_X10_acts m4_36 rfl rfl (Nat.le_of_ble_eq_true rfl) ⟨(Nat.le_of_ble_eq_true rfl), (Nat.le_of_ble_eq_true rfl)⟩ ⟨rfl, rfl⟩ ⟨(Nat.le_of_ble_eq_true rfl), (Nat.le_of_ble_eq_true rfl)⟩ dX10_isBy_9 rfl (by decide) (fun _ => rfl) (fun _ => rfl) (fun _ => rfl) (fun b2 h => ?_)
  refine j_iconst (pc := 12) dX10_isBy_12 ic_1 ?_
  refine j_istore_n (pc := 13) (lv' := [(2, .int (1 : Int32)), (0, .ref a_o), (1, .int x1)]) dX10_isBy_13 rfl (Nat.le_of_ble_eq_true rfl) rfl ?_
  refine j_iconst (pc := 14) dX10_isBy_14 ic_0 ?_
  refine j_istore_n (pc := 15) (lv' := [(3, .int (0 : Int32)), (2, .int (1 : Int32)), (0, .ref a_o), (1, .int x1)]) dX10_isBy_15 rfl (Nat.le_of_ble_eq_true rfl) rfl ?_
  exact j_sub (lv' := [(0, .ref a_o), (2, .int (1 : Int32)), (3, .int (0 : Int32))]) [2, 1, 0] rfl (w_X10_isBy_16 _ _ _ _ _ _ u h)
set_option maxRecDepth 20000 in
theorem w_X10_done_46 {l : Launch} {E : jE} {F : Nat} {x1 : Int32} {v_o_cards : Int32} {v_o_seens : Int32} {f_o_seen : Nat → Int32} {a_o a_o_colour a_o_deal a_o_st a_o_was a_o_kept a_o_seen a_o_text a_o_told a_o_readColour a_o_readDeal a_o_now a_o_then a_o_ring a_o_goes a_o_far a_o_met : Nat} {w_o_dealMany : Int32} {w_o_acts : Int32} {w_o_keeps : Int32} {w_o_texted : Int32} {w_o_at : Int32} {w_o_isBegun : Int32} {w_o_readCards : Int32} {w_o_readDeals : Int32} {w_o_metMany : Int32} {k_15 : Int32 → Int32 → (Nat → Int32) → (Nat → Int32) → (Nat → Int32) → Option (Int32 × (Nat → Int32) × (Nat → Int32) × (Nat → Int32))} (hk_15 : ∀ (x2 : Int32) (x3 : Int32) (f_o_now : Nat → Int32) (f_o_ring : Nat → Int32) (f_o_then : Nat → Int32) (u : Int32 × (Nat → Int32) × (Nat → Int32) × (Nat → Int32)), k_15 x2 x3 f_o_now f_o_ring f_o_then = some u → jT l E K_X10_done 0 0 15 [(0, .ref a_o), (1, .int x1), (2, .int x2), (3, .int x3)] [] [jO a_o 7 [.int v_o_cards, .ref a_o_colour, .int w_o_dealMany, .ref a_o_deal, .ref a_o_st, .int w_o_acts, .ref a_o_was, .int w_o_keeps, .ref a_o_kept, .int v_o_seens, .ref a_o_seen, .ref a_o_text, .int w_o_texted, .int w_o_at, .ref a_o_told, .int w_o_isBegun, .int w_o_readCards, .ref a_o_readColour, .int w_o_readDeals, .ref a_o_readDeal, .ref a_o_now, .ref a_o_then, .ref a_o_ring, .ref a_o_goes, .ref a_o_far, .ref a_o_met, .int w_o_metMany], jI E a_o_now 16 f_o_now, jI E a_o_ring 32 f_o_ring, jI E a_o_seen 16 f_o_seen, jI E a_o_then 16 f_o_then] (jd (some (.int u.1)) [jO a_o 7 [.int v_o_cards, .ref a_o_colour, .int w_o_dealMany, .ref a_o_deal, .ref a_o_st, .int w_o_acts, .ref a_o_was, .int w_o_keeps, .ref a_o_kept, .int v_o_seens, .ref a_o_seen, .ref a_o_text, .int w_o_texted, .int w_o_at, .ref a_o_told, .int w_o_isBegun, .int w_o_readCards, .ref a_o_readColour, .int w_o_readDeals, .ref a_o_readDeal, .ref a_o_now, .ref a_o_then, .ref a_o_ring, .ref a_o_goes, .ref a_o_far, .ref a_o_met, .int w_o_metMany], jI E a_o_now 16 u.2.1, jI E a_o_ring 32 u.2.2.1, jI E a_o_seen 16 f_o_seen, jI E a_o_then 16 u.2.2.2])) : ∀ (x3 : Int32) (s0 : Int32) (s2 : Int32) (f_o_now : Nat → Int32) (f_o_ring : Nat → Int32) (f_o_then : Nat → Int32) (u : Int32 × (Nat → Int32) × (Nat → Int32) × (Nat → Int32)), g_X10_done_46 F x1 v_o_cards v_o_seens f_o_seen k_15 x3 s0 s2 f_o_now f_o_ring f_o_then = some u → jT l E K_X10_done 0 0 46 [(0, .ref a_o), (1, .int x1), (3, .int x3)] [.int s2, .ref a_o, .int s0] [jO a_o 7 [.int v_o_cards, .ref a_o_colour, .int w_o_dealMany, .ref a_o_deal, .ref a_o_st, .int w_o_acts, .ref a_o_was, .int w_o_keeps, .ref a_o_kept, .int v_o_seens, .ref a_o_seen, .ref a_o_text, .int w_o_texted, .int w_o_at, .ref a_o_told, .int w_o_isBegun, .int w_o_readCards, .ref a_o_readColour, .int w_o_readDeals, .ref a_o_readDeal, .ref a_o_now, .ref a_o_then, .ref a_o_ring, .ref a_o_goes, .ref a_o_far, .ref a_o_met, .int w_o_metMany], jI E a_o_now 16 f_o_now, jI E a_o_ring 32 f_o_ring, jI E a_o_seen 16 f_o_seen, jI E a_o_then 16 f_o_then] (jd (some (.int u.1)) [jO a_o 7 [.int v_o_cards, .ref a_o_colour, .int w_o_dealMany, .ref a_o_deal, .ref a_o_st, .int w_o_acts, .ref a_o_was, .int w_o_keeps, .ref a_o_kept, .int v_o_seens, .ref a_o_seen, .ref a_o_text, .int w_o_texted, .int w_o_at, .ref a_o_told, .int w_o_isBegun, .int w_o_readCards, .ref a_o_readColour, .int w_o_readDeals, .ref a_o_readDeal, .ref a_o_now, .ref a_o_then, .ref a_o_ring, .ref a_o_goes, .ref a_o_far, .ref a_o_met, .int w_o_metMany], jI E a_o_now 16 u.2.1, jI E a_o_ring 32 u.2.2.1, jI E a_o_seen 16 f_o_seen, jI E a_o_then 16 u.2.2.2]) := by
  intro x3 s0 s2 f_o_now f_o_ring f_o_then u h
  unfold g_X10_done_46 at h
  refine j_V (pc := 46) (q0 := 0) (Kc := K_X10_isBy) (As := [.int s2]) (rest := [.int s0]) (wc := [jO a_o 7 [.int v_o_cards, .ref a_o_colour, .int w_o_dealMany, .ref a_o_deal, .ref a_o_st, .int w_o_acts, .ref a_o_was, .int w_o_keeps, .ref a_o_kept, .int v_o_seens, .ref a_o_seen, .ref a_o_text, .int w_o_texted, .int w_o_at, .ref a_o_told, .int w_o_isBegun, .int w_o_readCards, .ref a_o_readColour, .int w_o_readDeals, .ref a_o_readDeal, .ref a_o_now, .ref a_o_then, .ref a_o_ring, .ref a_o_goes, .ref a_o_far, .ref a_o_met, .int w_o_metMany], jI E a_o_now 16 f_o_now, jI E a_o_ring 32 f_o_ring, jI E a_o_seen 16 f_o_seen, jI E a_o_then 16 f_o_then]) (w' := fun b1 => [jO a_o 7 [.int v_o_cards, .ref a_o_colour, .int w_o_dealMany, .ref a_o_deal, .ref a_o_st, .int w_o_acts, .ref a_o_was, .int w_o_keeps, .ref a_o_kept, .int v_o_seens, .ref a_o_seen, .ref a_o_text, .int w_o_texted, .int w_o_at, .ref a_o_told, .int w_o_isBegun, .int w_o_readCards, .ref a_o_readColour, .int w_o_readDeals, .ref a_o_readDeal, .ref a_o_now, .ref a_o_then, .ref a_o_ring, .ref a_o_goes, .ref a_o_far, .ref a_o_met, .int w_o_metMany], jI E a_o_now 16 b1.2.1, jI E a_o_ring 32 b1.2.2.1, jI E a_o_seen 16 f_o_seen, jI E a_o_then 16 b1.2.2.2]) (st1 := fun b1 => [.int b1.1, .int s0]) [0, 1, 2, 3, 4] rfl rfl rfl h c_X10_isBy q_X10_isBy m4_154 rfl rfl (Nat.le_of_ble_eq_true rfl) ⟨(Nat.le_of_ble_eq_true rfl), (Nat.le_of_ble_eq_true rfl)⟩ ⟨rfl, rfl⟩ ⟨(Nat.le_of_ble_eq_true rfl), (Nat.le_of_ble_eq_true rfl)⟩ dX10_done_46 rfl (by decide) (fun _ => rfl) (fun _ => rfl) (fun _ => rfl) (fun b1 h => ?_)
  refine j_if_eq (pc := 49) (tgt := 58) dX10_done_49 (by decide) h (fun h => ?_) (fun h => ?_)
  · refine j_iconst (pc := 58) dX10_done_58 ic_0 ?_
    refine j_ior (pc := 59) dX10_done_59 ?_
    refine j_istore_n (pc := 60) (lv' := [(2, .int (s0 ||| (0 : Int32))), (0, .ref a_o), (1, .int x1), (3, .int x3)]) dX10_done_60 rfl (Nat.le_of_ble_eq_true rfl) rfl ?_
    refine j_iinc (pc := 61) (j := 3) (lv' := [(3, .int (x3 + (1 : Int32))), (2, .int (s0 ||| (0 : Int32))), (0, .ref a_o), (1, .int x1)]) dX10_done_61 rfl (congrArg (fun z => x3 + z) ic_1) (Nat.le_of_ble_eq_true rfl) rfl ?_
    refine j_goto (pc := 64) (tgt := 15) dX10_done_64 (by decide) ?_
    exact j_sub (lv' := [(0, .ref a_o), (1, .int x1), (2, .int (s0 ||| (0 : Int32))), (3, .int (x3 + (1 : Int32)))]) [2, 3, 1, 0] rfl (hk_15 _ _ _ _ _ u h)
  · refine j_iconst (pc := 52) dX10_done_52 ic_1 ?_
    refine j_iload_n (pc := 53) 2 dX10_done_53 rfl rfl ?_
    refine j_ishl (pc := 54) dX10_done_54 ?_
    refine j_goto (pc := 55) (tgt := 59) dX10_done_55 (by decide) ?_
    refine j_ior (pc := 59) dX10_done_59 ?_
    refine j_istore_n (pc := 60) (lv' := [(2, .int (s0 ||| (jshl (1 : Int32) x3))), (0, .ref a_o), (1, .int x1), (3, .int x3)]) dX10_done_60 rfl (Nat.le_of_ble_eq_true rfl) rfl ?_
    refine j_iinc (pc := 61) (j := 3) (lv' := [(3, .int (x3 + (1 : Int32))), (2, .int (s0 ||| (jshl (1 : Int32) x3))), (0, .ref a_o), (1, .int x1)]) dX10_done_61 rfl (congrArg (fun z => x3 + z) ic_1) (Nat.le_of_ble_eq_true rfl) rfl ?_
    refine j_goto (pc := 64) (tgt := 15) dX10_done_64 (by decide) ?_
    exact j_sub (lv' := [(0, .ref a_o), (1, .int x1), (2, .int (s0 ||| (jshl (1 : Int32) x3))), (3, .int (x3 + (1 : Int32)))]) [2, 3, 1, 0] rfl (hk_15 _ _ _ _ _ u h)
set_option maxRecDepth 20000 in
theorem w_X10_done_15 {l : Launch} {E : jE} {F : Nat} {x1 : Int32} {v_o_cards : Int32} {v_o_seens : Int32} {f_o_seen : Nat → Int32} {a_o a_o_colour a_o_deal a_o_st a_o_was a_o_kept a_o_seen a_o_text a_o_told a_o_readColour a_o_readDeal a_o_now a_o_then a_o_ring a_o_goes a_o_far a_o_met : Nat} {w_o_dealMany : Int32} {w_o_acts : Int32} {w_o_keeps : Int32} {w_o_texted : Int32} {w_o_at : Int32} {w_o_isBegun : Int32} {w_o_readCards : Int32} {w_o_readDeals : Int32} {w_o_metMany : Int32} : ∀ (n : Nat) (x2 : Int32) (x3 : Int32) (f_o_now : Nat → Int32) (f_o_ring : Nat → Int32) (f_o_then : Nat → Int32) (u : Int32 × (Nat → Int32) × (Nat → Int32) × (Nat → Int32)), g_X10_done_15 F x1 v_o_cards v_o_seens f_o_seen n x2 x3 f_o_now f_o_ring f_o_then = some u → jT l E K_X10_done 0 0 15 [(0, .ref a_o), (1, .int x1), (2, .int x2), (3, .int x3)] [] [jO a_o 7 [.int v_o_cards, .ref a_o_colour, .int w_o_dealMany, .ref a_o_deal, .ref a_o_st, .int w_o_acts, .ref a_o_was, .int w_o_keeps, .ref a_o_kept, .int v_o_seens, .ref a_o_seen, .ref a_o_text, .int w_o_texted, .int w_o_at, .ref a_o_told, .int w_o_isBegun, .int w_o_readCards, .ref a_o_readColour, .int w_o_readDeals, .ref a_o_readDeal, .ref a_o_now, .ref a_o_then, .ref a_o_ring, .ref a_o_goes, .ref a_o_far, .ref a_o_met, .int w_o_metMany], jI E a_o_now 16 f_o_now, jI E a_o_ring 32 f_o_ring, jI E a_o_seen 16 f_o_seen, jI E a_o_then 16 f_o_then] (jd (some (.int u.1)) [jO a_o 7 [.int v_o_cards, .ref a_o_colour, .int w_o_dealMany, .ref a_o_deal, .ref a_o_st, .int w_o_acts, .ref a_o_was, .int w_o_keeps, .ref a_o_kept, .int v_o_seens, .ref a_o_seen, .ref a_o_text, .int w_o_texted, .int w_o_at, .ref a_o_told, .int w_o_isBegun, .int w_o_readCards, .ref a_o_readColour, .int w_o_readDeals, .ref a_o_readDeal, .ref a_o_now, .ref a_o_then, .ref a_o_ring, .ref a_o_goes, .ref a_o_far, .ref a_o_met, .int w_o_metMany], jI E a_o_now 16 u.2.1, jI E a_o_ring 32 u.2.2.1, jI E a_o_seen 16 f_o_seen, jI E a_o_then 16 u.2.2.2]) := by
  intro n
  induction n with
  | zero =>
    intro x2 x3 f_o_now f_o_ring f_o_then u h
    rw [g_X10_done_15] at h
    cases h
  | succ n ih =>
    intro x2 x3 f_o_now f_o_ring f_o_then u h
    rw [g_X10_done_15] at h
    refine j_iload_n (pc := 15) 3 dX10_done_15 rfl rfl ?_
    refine j_iload_n (pc := 16) 1 dX10_done_16 rfl rfl ?_
    refine j_if_ne (pc := 17) (tgt := 25) dX10_done_17 (by decide) h (fun h => ?_) (fun h => ?_)
    · refine j_aload_n (pc := 25) 0 dX10_done_25 rfl rfl ?_
      refine j_get (pc := 26) (v := .int v_o_cards) 0 0 rfl rfl (Nat.le_of_ble_eq_true rfl) iwX10 m3_104 rfl dX10_done_26 ?_
      refine j_icmp_ge (pc := 29) (tgt := 67) dX10_done_29 (by decide) h (fun h => ?_) (fun h => ?_)
      · refine j_iload_n (pc := 67) 2 dX10_done_67 rfl rfl ?_
        cases h
        exact j_iret (pc := 68) rfl dX10_done_68 (Nat.le_of_ble_eq_true rfl) (Nat.le_of_ble_eq_true rfl) (jd_i rfl rfl)
      · refine j_iload_n (pc := 32) 2 dX10_done_32 rfl rfl ?_
        refine j_aload_n (pc := 33) 0 dX10_done_33 rfl rfl ?_
        refine j_iload_n (pc := 34) 1 dX10_done_34 rfl rfl ?_
        refine j_if_ne (pc := 35) (tgt := 42) dX10_done_35 (by decide) h (fun h => ?_) (fun h => ?_)
        · refine j_bipush (pc := 42) dX10_done_42 bc_6 ?_
          refine j_iload_n (pc := 44) 3 dX10_done_44 rfl rfl ?_
          refine j_iadd (pc := 45) dX10_done_45 ?_
          exact j_sub (lv' := [(0, .ref a_o), (1, .int x1), (3, .int x3)]) [0, 1, 3] rfl (w_X10_done_46 ih _ _ _ _ _ _ u h)
        · refine j_iload_n (pc := 38) 3 dX10_done_38 rfl rfl ?_
          refine j_goto (pc := 39) (tgt := 46) dX10_done_39 (by decide) ?_
          exact j_sub (lv' := [(0, .ref a_o), (1, .int x1), (3, .int x3)]) [0, 1, 3] rfl (w_X10_done_46 ih _ _ _ _ _ _ u h)
    · refine j_bipush (pc := 20) dX10_done_20 bc_6 ?_
      refine j_goto (pc := 22) (tgt := 29) dX10_done_22 (by decide) ?_
      refine j_icmp_ge (pc := 29) (tgt := 67) dX10_done_29 (by decide) h (fun h => ?_) (fun h => ?_)
      · refine j_iload_n (pc := 67) 2 dX10_done_67 rfl rfl ?_
        cases h
        exact j_iret (pc := 68) rfl dX10_done_68 (Nat.le_of_ble_eq_true rfl) (Nat.le_of_ble_eq_true rfl) (jd_i rfl rfl)
      · refine j_iload_n (pc := 32) 2 dX10_done_32 rfl rfl ?_
        refine j_aload_n (pc := 33) 0 dX10_done_33 rfl rfl ?_
        refine j_iload_n (pc := 34) 1 dX10_done_34 rfl rfl ?_
        refine j_if_ne (pc := 35) (tgt := 42) dX10_done_35 (by decide) h (fun h => ?_) (fun h => ?_)
        · refine j_bipush (pc := 42) dX10_done_42 bc_6 ?_
          refine j_iload_n (pc := 44) 3 dX10_done_44 rfl rfl ?_
          refine j_iadd (pc := 45) dX10_done_45 ?_
          exact j_sub (lv' := [(0, .ref a_o), (1, .int x1), (3, .int x3)]) [0, 1, 3] rfl (w_X10_done_46 ih _ _ _ _ _ _ u h)
        · refine j_iload_n (pc := 38) 3 dX10_done_38 rfl rfl ?_
          refine j_goto (pc := 39) (tgt := 46) dX10_done_39 (by decide) ?_
          exact j_sub (lv' := [(0, .ref a_o), (1, .int x1), (3, .int x3)]) [0, 1, 3] rfl (w_X10_done_46 ih _ _ _ _ _ _ u h)
set_option maxRecDepth 20000 in
theorem c_X10_done {l : Launch} {E : jE} {F : Nat} {x1 : Int32} {v_o_cards : Int32} {v_o_seens : Int32} {f_o_seen : Nat → Int32} {a_o a_o_colour a_o_deal a_o_st a_o_was a_o_kept a_o_seen a_o_text a_o_told a_o_readColour a_o_readDeal a_o_now a_o_then a_o_ring a_o_goes a_o_far a_o_met : Nat} {w_o_dealMany : Int32} {w_o_acts : Int32} {w_o_keeps : Int32} {w_o_texted : Int32} {w_o_at : Int32} {w_o_isBegun : Int32} {w_o_readCards : Int32} {w_o_readDeals : Int32} {w_o_metMany : Int32} {f_o_now : Nat → Int32} {f_o_ring : Nat → Int32} {f_o_then : Nat → Int32} : ∀ u : Int32 × (Nat → Int32) × (Nat → Int32) × (Nat → Int32), f_X10_done F x1 v_o_cards v_o_seens f_o_seen f_o_now f_o_ring f_o_then = some u → jM l E K_X10_done [.ref a_o, .int x1] [jO a_o 7 [.int v_o_cards, .ref a_o_colour, .int w_o_dealMany, .ref a_o_deal, .ref a_o_st, .int w_o_acts, .ref a_o_was, .int w_o_keeps, .ref a_o_kept, .int v_o_seens, .ref a_o_seen, .ref a_o_text, .int w_o_texted, .int w_o_at, .ref a_o_told, .int w_o_isBegun, .int w_o_readCards, .ref a_o_readColour, .int w_o_readDeals, .ref a_o_readDeal, .ref a_o_now, .ref a_o_then, .ref a_o_ring, .ref a_o_goes, .ref a_o_far, .ref a_o_met, .int w_o_metMany], jI E a_o_now 16 f_o_now, jI E a_o_ring 32 f_o_ring, jI E a_o_seen 16 f_o_seen, jI E a_o_then 16 f_o_then] (jd (some (.int u.1)) [jO a_o 7 [.int v_o_cards, .ref a_o_colour, .int w_o_dealMany, .ref a_o_deal, .ref a_o_st, .int w_o_acts, .ref a_o_was, .int w_o_keeps, .ref a_o_kept, .int v_o_seens, .ref a_o_seen, .ref a_o_text, .int w_o_texted, .int w_o_at, .ref a_o_told, .int w_o_isBegun, .int w_o_readCards, .ref a_o_readColour, .int w_o_readDeals, .ref a_o_readDeal, .ref a_o_now, .ref a_o_then, .ref a_o_ring, .ref a_o_goes, .ref a_o_far, .ref a_o_met, .int w_o_metMany], jI E a_o_now 16 u.2.1, jI E a_o_ring 32 u.2.2.1, jI E a_o_seen 16 f_o_seen, jI E a_o_then 16 u.2.2.2]) := by
  intro u h
  unfold f_X10_done at h
  refine j_met [(0, .ref a_o), (1, .int x1)] (by decide +kernel) (Nat.le_of_ble_eq_true rfl) rfl ?_
  refine j_iload_n (pc := 0) 1 dX10_done_0 rfl rfl ?_
  refine j_iconst (pc := 1) dX10_done_1 ic_0 ?_
  refine j_iconst (pc := 2) dX10_done_2 ic_1 ?_
  refine j_S0 (pc := 3) (Kc := K_X10_in) (As := [.int x1, .int (0 : Int32), .int (1 : Int32)]) (rest := []) h c_X10_in q_X10_in m3_190 rfl rfl (Nat.le_of_ble_eq_true rfl) ⟨(Nat.le_of_ble_eq_true rfl), (Nat.le_of_ble_eq_true rfl)⟩ ⟨rfl, rfl⟩ ⟨(Nat.le_of_ble_eq_true rfl), (Nat.le_of_ble_eq_true rfl)⟩ dX10_done_3 (fun b1 h => ?_)
  refine j_if_ne (pc := 6) (tgt := 11) dX10_done_6 (by decide) h (fun h => ?_) (fun h => ?_)
  · refine j_iconst (pc := 11) dX10_done_11 ic_0 ?_
    refine j_istore_n (pc := 12) (lv' := [(2, .int (0 : Int32)), (0, .ref a_o), (1, .int x1)]) dX10_done_12 rfl (Nat.le_of_ble_eq_true rfl) rfl ?_
    refine j_iconst (pc := 13) dX10_done_13 ic_0 ?_
    refine j_istore_n (pc := 14) (lv' := [(3, .int (0 : Int32)), (2, .int (0 : Int32)), (0, .ref a_o), (1, .int x1)]) dX10_done_14 rfl (Nat.le_of_ble_eq_true rfl) rfl ?_
    exact j_sub (lv' := [(0, .ref a_o), (1, .int x1), (2, .int (0 : Int32)), (3, .int (0 : Int32))]) [2, 3, 1, 0] rfl (w_X10_done_15 _ _ _ _ _ _ u h)
  · refine j_iconst (pc := 9) dX10_done_9 ic_m1 ?_
    cases h
    exact j_iret (pc := 10) rfl dX10_done_10 (Nat.le_of_ble_eq_true rfl) (Nat.le_of_ble_eq_true rfl) (jd_i rfl rfl)
set_option maxRecDepth 20000 in
theorem w_X10_likely_112 {l : Launch} {E : jE} {F : Nat} {x1 : Int32} {x2 : Int32} {x3 : Int32} {x4 : Int32} {x5 : Int32} {v_o_cards : Int32} {f_o_st : Nat → Int32} {a_o a_o_colour a_o_deal a_o_st a_o_was a_o_kept a_o_seen a_o_text a_o_told a_o_readColour a_o_readDeal a_o_now a_o_then a_o_ring a_o_goes a_o_far a_o_met : Nat} {w_o_dealMany : Int32} {w_o_acts : Int32} {w_o_keeps : Int32} {w_o_seens : Int32} {w_o_texted : Int32} {w_o_at : Int32} {w_o_isBegun : Int32} {w_o_readCards : Int32} {w_o_readDeals : Int32} {w_o_metMany : Int32} {k_94 : Int32 → Int32 → Int32 → Int32 → (Nat → Int32) → (Nat → Int32) → (Nat → Int32) → (Nat → Int32) → Option (Int32 × (Nat → Int32) × (Nat → Int32) × (Nat → Int32) × (Nat → Int32))} (hk_94 : ∀ (x6 : Int32) (x7 : Int32) (x8 : Int32) (x9 : Int32) (f_o_goes : Nat → Int32) (f_o_now : Nat → Int32) (f_o_ring : Nat → Int32) (f_o_then : Nat → Int32) (u : Int32 × (Nat → Int32) × (Nat → Int32) × (Nat → Int32) × (Nat → Int32)), k_94 x6 x7 x8 x9 f_o_goes f_o_now f_o_ring f_o_then = some u → jT l E K_X10_likely 0 0 94 [(0, .ref a_o), (2, .int x2), (3, .int x3), (4, .int x4), (5, .int x5), (6, .int x6), (7, .int x7), (8, .int x8), (9, .int x9)] [] [jO a_o 7 [.int v_o_cards, .ref a_o_colour, .int w_o_dealMany, .ref a_o_deal, .ref a_o_st, .int w_o_acts, .ref a_o_was, .int w_o_keeps, .ref a_o_kept, .int w_o_seens, .ref a_o_seen, .ref a_o_text, .int w_o_texted, .int w_o_at, .ref a_o_told, .int w_o_isBegun, .int w_o_readCards, .ref a_o_readColour, .int w_o_readDeals, .ref a_o_readDeal, .ref a_o_now, .ref a_o_then, .ref a_o_ring, .ref a_o_goes, .ref a_o_far, .ref a_o_met, .int w_o_metMany], jI E a_o_goes 32 f_o_goes, jI E a_o_now 16 f_o_now, jI E a_o_ring 32 f_o_ring, jI E a_o_st 16 f_o_st, jI E a_o_then 16 f_o_then] (jd (some (.int u.1)) [jO a_o 7 [.int v_o_cards, .ref a_o_colour, .int w_o_dealMany, .ref a_o_deal, .ref a_o_st, .int w_o_acts, .ref a_o_was, .int w_o_keeps, .ref a_o_kept, .int w_o_seens, .ref a_o_seen, .ref a_o_text, .int w_o_texted, .int w_o_at, .ref a_o_told, .int w_o_isBegun, .int w_o_readCards, .ref a_o_readColour, .int w_o_readDeals, .ref a_o_readDeal, .ref a_o_now, .ref a_o_then, .ref a_o_ring, .ref a_o_goes, .ref a_o_far, .ref a_o_met, .int w_o_metMany], jI E a_o_goes 32 u.2.1, jI E a_o_now 16 u.2.2.1, jI E a_o_ring 32 u.2.2.2.1, jI E a_o_st 16 f_o_st, jI E a_o_then 16 u.2.2.2.2])) : ∀ (n : Nat) (x6 : Int32) (x7 : Int32) (x8 : Int32) (x9 : Int32) (x10 : Int32) (x11 : Int32) (x12 : Int32) (f_o_goes : Nat → Int32) (f_o_now : Nat → Int32) (f_o_ring : Nat → Int32) (f_o_then : Nat → Int32) (u : Int32 × (Nat → Int32) × (Nat → Int32) × (Nat → Int32) × (Nat → Int32)), g_X10_likely_112 F x1 x2 x3 x4 x5 v_o_cards f_o_st k_94 n x6 x7 x8 x9 x10 x11 x12 f_o_goes f_o_now f_o_ring f_o_then = some u → jT l E K_X10_likely 0 0 112 [(0, .ref a_o), (2, .int x2), (3, .int x3), (4, .int x4), (5, .int x5), (6, .int x6), (7, .int x7), (8, .int x8), (9, .int x9), (10, .int x10), (11, .int x11), (12, .int x12)] [] [jO a_o 7 [.int v_o_cards, .ref a_o_colour, .int w_o_dealMany, .ref a_o_deal, .ref a_o_st, .int w_o_acts, .ref a_o_was, .int w_o_keeps, .ref a_o_kept, .int w_o_seens, .ref a_o_seen, .ref a_o_text, .int w_o_texted, .int w_o_at, .ref a_o_told, .int w_o_isBegun, .int w_o_readCards, .ref a_o_readColour, .int w_o_readDeals, .ref a_o_readDeal, .ref a_o_now, .ref a_o_then, .ref a_o_ring, .ref a_o_goes, .ref a_o_far, .ref a_o_met, .int w_o_metMany], jI E a_o_goes 32 f_o_goes, jI E a_o_now 16 f_o_now, jI E a_o_ring 32 f_o_ring, jI E a_o_st 16 f_o_st, jI E a_o_then 16 f_o_then] (jd (some (.int u.1)) [jO a_o 7 [.int v_o_cards, .ref a_o_colour, .int w_o_dealMany, .ref a_o_deal, .ref a_o_st, .int w_o_acts, .ref a_o_was, .int w_o_keeps, .ref a_o_kept, .int w_o_seens, .ref a_o_seen, .ref a_o_text, .int w_o_texted, .int w_o_at, .ref a_o_told, .int w_o_isBegun, .int w_o_readCards, .ref a_o_readColour, .int w_o_readDeals, .ref a_o_readDeal, .ref a_o_now, .ref a_o_then, .ref a_o_ring, .ref a_o_goes, .ref a_o_far, .ref a_o_met, .int w_o_metMany], jI E a_o_goes 32 u.2.1, jI E a_o_now 16 u.2.2.1, jI E a_o_ring 32 u.2.2.2.1, jI E a_o_st 16 f_o_st, jI E a_o_then 16 u.2.2.2.2]) := by
  intro n
  induction n with
  | zero =>
    intro x6 x7 x8 x9 x10 x11 x12 f_o_goes f_o_now f_o_ring f_o_then u h
    rw [g_X10_likely_112] at h
    cases h
  | succ n ih =>
    intro x6 x7 x8 x9 x10 x11 x12 f_o_goes f_o_now f_o_ring f_o_then u h
    rw [g_X10_likely_112] at h
    refine j_iload (pc := 112) 11 dX10_likely_112 rfl ?_
    refine j_iload_n (pc := 114) 2 dX10_likely_114 rfl rfl ?_
    refine j_icmp_ge (pc := 115) (tgt := 168) dX10_likely_115 (by decide) h (fun h => ?_) (fun h => ?_)
    · refine j_iload (pc := 168) 6 dX10_likely_168 rfl ?_
      refine j_iload (pc := 170) 9 dX10_likely_170 rfl ?_
      refine j_iload_n (pc := 172) 1 dX10_likely_172 rfl rfl ?_
      refine j_icmp_ne (pc := 173) (tgt := 181) dX10_likely_173 (by decide) h (fun h => ?_) (fun h => ?_)
      · refine j_iconst (pc := 181) dX10_likely_181 ic_0 ?_
        refine j_iadd (pc := 182) dX10_likely_182 ?_
        refine j_istore (pc := 183) (lv' := [(7, .int (x7 + (0 : Int32))), (0, .ref a_o), (2, .int x2), (3, .int x3), (4, .int x4), (5, .int x5), (6, .int x6), (8, .int x8), (9, .int x9), (10, .int x10), (11, .int x11), (12, .int x12)]) dX10_likely_183 (Nat.le_of_ble_eq_true rfl) rfl ?_
        refine j_iinc (pc := 185) (j := 8) (lv' := [(9, .int (x9 + (1 : Int32))), (7, .int (x7 + (0 : Int32))), (0, .ref a_o), (2, .int x2), (3, .int x3), (4, .int x4), (5, .int x5), (6, .int x6), (8, .int x8), (10, .int x10), (11, .int x11), (12, .int x12)]) dX10_likely_185 rfl (congrArg (fun z => x9 + z) ic_1) (Nat.le_of_ble_eq_true rfl) rfl ?_
        refine j_goto (pc := 188) (tgt := 94) dX10_likely_188 (by decide) ?_
        exact j_sub (lv' := [(0, .ref a_o), (2, .int x2), (3, .int x3), (4, .int x4), (5, .int x5), (6, .int x6), (7, .int (x7 + (0 : Int32))), (8, .int x8), (9, .int (x9 + (1 : Int32)))]) [2, 3, 4, 5, 6, 7, 1, 8, 0] rfl (hk_94 _ _ _ _ _ _ _ _ u h)
      · refine j_iload (pc := 176) 10 dX10_likely_176 rfl ?_
        refine j_goto (pc := 178) (tgt := 182) dX10_likely_178 (by decide) ?_
        refine j_iadd (pc := 182) dX10_likely_182 ?_
        refine j_istore (pc := 183) (lv' := [(7, .int (x7 + x11)), (0, .ref a_o), (2, .int x2), (3, .int x3), (4, .int x4), (5, .int x5), (6, .int x6), (8, .int x8), (9, .int x9), (10, .int x10), (11, .int x11), (12, .int x12)]) dX10_likely_183 (Nat.le_of_ble_eq_true rfl) rfl ?_
        refine j_iinc (pc := 185) (j := 8) (lv' := [(9, .int (x9 + (1 : Int32))), (7, .int (x7 + x11)), (0, .ref a_o), (2, .int x2), (3, .int x3), (4, .int x4), (5, .int x5), (6, .int x6), (8, .int x8), (10, .int x10), (11, .int x11), (12, .int x12)]) dX10_likely_185 rfl (congrArg (fun z => x9 + z) ic_1) (Nat.le_of_ble_eq_true rfl) rfl ?_
        refine j_goto (pc := 188) (tgt := 94) dX10_likely_188 (by decide) ?_
        exact j_sub (lv' := [(0, .ref a_o), (2, .int x2), (3, .int x3), (4, .int x4), (5, .int x5), (6, .int x6), (7, .int (x7 + x11)), (8, .int x8), (9, .int (x9 + (1 : Int32)))]) [2, 3, 4, 5, 6, 7, 1, 8, 0] rfl (hk_94 _ _ _ _ _ _ _ _ u h)
    · refine j_iload (pc := 118) 8 dX10_likely_118 rfl ?_
      refine j_iload (pc := 120) 11 dX10_likely_120 rfl ?_
      refine j_ishr (pc := 122) dX10_likely_122 ?_
      refine j_iconst (pc := 123) dX10_likely_123 ic_1 ?_
      refine j_iand (pc := 124) dX10_likely_124 ?_
      refine j_istore (pc := 125) (lv' := [(13, .int ((jshr x9 x12) &&& (1 : Int32))), (0, .ref a_o), (2, .int x2), (3, .int x3), (4, .int x4), (5, .int x5), (6, .int x6), (7, .int x7), (8, .int x8), (9, .int x9), (10, .int x10), (11, .int x11), (12, .int x12)]) dX10_likely_125 (Nat.le_of_ble_eq_true rfl) rfl ?_
      refine j_iload (pc := 127) 11 dX10_likely_127 rfl ?_
      refine j_iload (pc := 129) 0 dX10_likely_129 rfl ?_
      refine j_if_ne (pc := 131) (tgt := 139) dX10_likely_131 (by decide) h (fun h => ?_) (fun h => ?_)
      · refine j_bipush (pc := 139) dX10_likely_139 bc_10 ?_
        refine j_iload (pc := 141) 4 dX10_likely_141 rfl ?_
        refine j_isub (pc := 143) dX10_likely_143 ?_
        refine j_imul (pc := 144) dX10_likely_144 ?_
        refine j_istore (pc := 145) (lv' := [(11, .int (x11 * ((10 : Int32) - x4))), (13, .int ((jshr x9 x12) &&& (1 : Int32))), (0, .ref a_o), (2, .int x2), (3, .int x3), (4, .int x4), (5, .int x5), (6, .int x6), (7, .int x7), (8, .int x8), (9, .int x9), (10, .int x10), (12, .int x12)]) dX10_likely_145 (Nat.le_of_ble_eq_true rfl) rfl ?_
        refine j_aload_n (pc := 147) 2 dX10_likely_147 rfl rfl ?_
        refine j_get (pc := 148) (v := .ref a_o_goes) 0 23 rfl rfl (Nat.le_of_ble_eq_true rfl) iwX10 m3_127 rfl dX10_likely_148 ?_
        refine j_bipush (pc := 151) dX10_likely_151 bc_16 ?_
        refine j_iload (pc := 153) 1 dX10_likely_153 rfl ?_
        refine j_imul (pc := 155) dX10_likely_155 ?_
        refine j_iload (pc := 156) 11 dX10_likely_156 rfl ?_
        refine j_iadd (pc := 158) dX10_likely_158 ?_
        refine j_iald (pc := 159) 1 rfl dX10_likely_159 h (fun h => ?_)
        refine j_istore (pc := 160) (lv' := [(10, .int (f_o_goes (((16 : Int32) * ((jshr x9 x12) &&& (1 : Int32))) + x10).toNatClampNeg)), (11, .int (x11 * ((10 : Int32) - x4))), (13, .int ((jshr x9 x12) &&& (1 : Int32))), (0, .ref a_o), (2, .int x2), (3, .int x3), (4, .int x4), (5, .int x5), (6, .int x6), (7, .int x7), (8, .int x8), (9, .int x9), (12, .int x12)]) dX10_likely_160 (Nat.le_of_ble_eq_true rfl) rfl ?_
        refine j_iinc (pc := 162) (j := 12) (lv' := [(12, .int (x12 + (1 : Int32))), (10, .int (f_o_goes (((16 : Int32) * ((jshr x9 x12) &&& (1 : Int32))) + x10).toNatClampNeg)), (11, .int (x11 * ((10 : Int32) - x4))), (13, .int ((jshr x9 x12) &&& (1 : Int32))), (0, .ref a_o), (2, .int x2), (3, .int x3), (4, .int x4), (5, .int x5), (6, .int x6), (7, .int x7), (8, .int x8), (9, .int x9)]) dX10_likely_162 rfl (congrArg (fun z => x12 + z) ic_1) (Nat.le_of_ble_eq_true rfl) rfl ?_
        refine j_goto (pc := 165) (tgt := 112) dX10_likely_165 (by decide) ?_
        exact j_sub (lv' := [(0, .ref a_o), (2, .int x2), (3, .int x3), (4, .int x4), (5, .int x5), (6, .int x6), (7, .int x7), (8, .int x8), (9, .int x9), (10, .int (f_o_goes (((16 : Int32) * ((jshr x9 x12) &&& (1 : Int32))) + x10).toNatClampNeg)), (11, .int (x11 * ((10 : Int32) - x4))), (12, .int (x12 + (1 : Int32)))]) [4, 5, 6, 7, 8, 9, 10, 11, 12, 1, 2, 0] rfl (ih _ _ _ _ _ _ _ _ _ _ _ u h)
      · refine j_iload (pc := 134) 4 dX10_likely_134 rfl ?_
        refine j_goto (pc := 136) (tgt := 144) dX10_likely_136 (by decide) ?_
        refine j_imul (pc := 144) dX10_likely_144 ?_
        refine j_istore (pc := 145) (lv' := [(11, .int (x11 * x4)), (13, .int ((jshr x9 x12) &&& (1 : Int32))), (0, .ref a_o), (2, .int x2), (3, .int x3), (4, .int x4), (5, .int x5), (6, .int x6), (7, .int x7), (8, .int x8), (9, .int x9), (10, .int x10), (12, .int x12)]) dX10_likely_145 (Nat.le_of_ble_eq_true rfl) rfl ?_
        refine j_aload_n (pc := 147) 2 dX10_likely_147 rfl rfl ?_
        refine j_get (pc := 148) (v := .ref a_o_goes) 0 23 rfl rfl (Nat.le_of_ble_eq_true rfl) iwX10 m3_127 rfl dX10_likely_148 ?_
        refine j_bipush (pc := 151) dX10_likely_151 bc_16 ?_
        refine j_iload (pc := 153) 1 dX10_likely_153 rfl ?_
        refine j_imul (pc := 155) dX10_likely_155 ?_
        refine j_iload (pc := 156) 11 dX10_likely_156 rfl ?_
        refine j_iadd (pc := 158) dX10_likely_158 ?_
        refine j_iald (pc := 159) 1 rfl dX10_likely_159 h (fun h => ?_)
        refine j_istore (pc := 160) (lv' := [(10, .int (f_o_goes (((16 : Int32) * ((jshr x9 x12) &&& (1 : Int32))) + x10).toNatClampNeg)), (11, .int (x11 * x4)), (13, .int ((jshr x9 x12) &&& (1 : Int32))), (0, .ref a_o), (2, .int x2), (3, .int x3), (4, .int x4), (5, .int x5), (6, .int x6), (7, .int x7), (8, .int x8), (9, .int x9), (12, .int x12)]) dX10_likely_160 (Nat.le_of_ble_eq_true rfl) rfl ?_
        refine j_iinc (pc := 162) (j := 12) (lv' := [(12, .int (x12 + (1 : Int32))), (10, .int (f_o_goes (((16 : Int32) * ((jshr x9 x12) &&& (1 : Int32))) + x10).toNatClampNeg)), (11, .int (x11 * x4)), (13, .int ((jshr x9 x12) &&& (1 : Int32))), (0, .ref a_o), (2, .int x2), (3, .int x3), (4, .int x4), (5, .int x5), (6, .int x6), (7, .int x7), (8, .int x8), (9, .int x9)]) dX10_likely_162 rfl (congrArg (fun z => x12 + z) ic_1) (Nat.le_of_ble_eq_true rfl) rfl ?_
        refine j_goto (pc := 165) (tgt := 112) dX10_likely_165 (by decide) ?_
        exact j_sub (lv' := [(0, .ref a_o), (2, .int x2), (3, .int x3), (4, .int x4), (5, .int x5), (6, .int x6), (7, .int x7), (8, .int x8), (9, .int x9), (10, .int (f_o_goes (((16 : Int32) * ((jshr x9 x12) &&& (1 : Int32))) + x10).toNatClampNeg)), (11, .int (x11 * x4)), (12, .int (x12 + (1 : Int32)))]) [4, 5, 6, 7, 8, 9, 10, 11, 12, 1, 2, 0] rfl (ih _ _ _ _ _ _ _ _ _ _ _ u h)
set_option maxRecDepth 20000 in
theorem w_X10_likely_94 {l : Launch} {E : jE} {F : Nat} {x1 : Int32} {x2 : Int32} {x3 : Int32} {x4 : Int32} {x5 : Int32} {v_o_cards : Int32} {f_o_st : Nat → Int32} {a_o a_o_colour a_o_deal a_o_st a_o_was a_o_kept a_o_seen a_o_text a_o_told a_o_readColour a_o_readDeal a_o_now a_o_then a_o_ring a_o_goes a_o_far a_o_met : Nat} {w_o_dealMany : Int32} {w_o_acts : Int32} {w_o_keeps : Int32} {w_o_seens : Int32} {w_o_texted : Int32} {w_o_at : Int32} {w_o_isBegun : Int32} {w_o_readCards : Int32} {w_o_readDeals : Int32} {w_o_metMany : Int32} : ∀ (n : Nat) (x6 : Int32) (x7 : Int32) (x8 : Int32) (x9 : Int32) (f_o_goes : Nat → Int32) (f_o_now : Nat → Int32) (f_o_ring : Nat → Int32) (f_o_then : Nat → Int32) (u : Int32 × (Nat → Int32) × (Nat → Int32) × (Nat → Int32) × (Nat → Int32)), g_X10_likely_94 F x1 x2 x3 x4 x5 v_o_cards f_o_st n x6 x7 x8 x9 f_o_goes f_o_now f_o_ring f_o_then = some u → jT l E K_X10_likely 0 0 94 [(0, .ref a_o), (2, .int x2), (3, .int x3), (4, .int x4), (5, .int x5), (6, .int x6), (7, .int x7), (8, .int x8), (9, .int x9)] [] [jO a_o 7 [.int v_o_cards, .ref a_o_colour, .int w_o_dealMany, .ref a_o_deal, .ref a_o_st, .int w_o_acts, .ref a_o_was, .int w_o_keeps, .ref a_o_kept, .int w_o_seens, .ref a_o_seen, .ref a_o_text, .int w_o_texted, .int w_o_at, .ref a_o_told, .int w_o_isBegun, .int w_o_readCards, .ref a_o_readColour, .int w_o_readDeals, .ref a_o_readDeal, .ref a_o_now, .ref a_o_then, .ref a_o_ring, .ref a_o_goes, .ref a_o_far, .ref a_o_met, .int w_o_metMany], jI E a_o_goes 32 f_o_goes, jI E a_o_now 16 f_o_now, jI E a_o_ring 32 f_o_ring, jI E a_o_st 16 f_o_st, jI E a_o_then 16 f_o_then] (jd (some (.int u.1)) [jO a_o 7 [.int v_o_cards, .ref a_o_colour, .int w_o_dealMany, .ref a_o_deal, .ref a_o_st, .int w_o_acts, .ref a_o_was, .int w_o_keeps, .ref a_o_kept, .int w_o_seens, .ref a_o_seen, .ref a_o_text, .int w_o_texted, .int w_o_at, .ref a_o_told, .int w_o_isBegun, .int w_o_readCards, .ref a_o_readColour, .int w_o_readDeals, .ref a_o_readDeal, .ref a_o_now, .ref a_o_then, .ref a_o_ring, .ref a_o_goes, .ref a_o_far, .ref a_o_met, .int w_o_metMany], jI E a_o_goes 32 u.2.1, jI E a_o_now 16 u.2.2.1, jI E a_o_ring 32 u.2.2.2.1, jI E a_o_st 16 f_o_st, jI E a_o_then 16 u.2.2.2.2]) := by
  intro n
  induction n with
  | zero =>
    intro x6 x7 x8 x9 f_o_goes f_o_now f_o_ring f_o_then u h
    rw [g_X10_likely_94] at h
    cases h
  | succ n ih =>
    intro x6 x7 x8 x9 f_o_goes f_o_now f_o_ring f_o_then u h
    rw [g_X10_likely_94] at h
    refine j_iload (pc := 94) 8 dX10_likely_94 rfl ?_
    refine j_iconst (pc := 96) dX10_likely_96 ic_1 ?_
    refine j_iload_n (pc := 97) 2 dX10_likely_97 rfl rfl ?_
    refine j_ishl (pc := 98) dX10_likely_98 ?_
    refine j_icmp_ge (pc := 99) (tgt := 191) dX10_likely_99 (by decide) h (fun h => ?_) (fun h => ?_)
    · refine j_iload (pc := 191) 6 dX10_likely_191 rfl ?_
      refine j_iload (pc := 193) 7 dX10_likely_193 rfl ?_
      refine j_iload (pc := 195) 4 dX10_likely_195 rfl ?_
      refine j_S0 (pc := 197) (Kc := K_X10_lowest) (As := [.int x7, .int x8, .int x5]) (rest := []) h c_X10_lowest q_X10_lowest m4_139 rfl rfl (Nat.le_of_ble_eq_true rfl) ⟨(Nat.le_of_ble_eq_true rfl), (Nat.le_of_ble_eq_true rfl)⟩ ⟨rfl, rfl⟩ ⟨(Nat.le_of_ble_eq_true rfl), (Nat.le_of_ble_eq_true rfl)⟩ dX10_likely_197 (fun b1 h => ?_)
      cases h
      exact j_iret (pc := 200) rfl dX10_likely_200 (Nat.le_of_ble_eq_true rfl) (Nat.le_of_ble_eq_true rfl) (jd_i rfl rfl)
    · refine j_iload (pc := 102) 5 dX10_likely_102 rfl ?_
      refine j_istore (pc := 104) (lv' := [(10, .int x6), (0, .ref a_o), (2, .int x2), (3, .int x3), (4, .int x4), (5, .int x5), (6, .int x6), (7, .int x7), (8, .int x8), (9, .int x9)]) dX10_likely_104 (Nat.le_of_ble_eq_true rfl) rfl ?_
      refine j_iconst (pc := 106) dX10_likely_106 ic_1 ?_
      refine j_istore (pc := 107) (lv' := [(11, .int (1 : Int32)), (10, .int x6), (0, .ref a_o), (2, .int x2), (3, .int x3), (4, .int x4), (5, .int x5), (6, .int x6), (7, .int x7), (8, .int x8), (9, .int x9)]) dX10_likely_107 (Nat.le_of_ble_eq_true rfl) rfl ?_
      refine j_iconst (pc := 109) dX10_likely_109 ic_0 ?_
      refine j_istore (pc := 110) (lv' := [(12, .int (0 : Int32)), (11, .int (1 : Int32)), (10, .int x6), (0, .ref a_o), (2, .int x2), (3, .int x3), (4, .int x4), (5, .int x5), (6, .int x6), (7, .int x7), (8, .int x8), (9, .int x9)]) dX10_likely_110 (Nat.le_of_ble_eq_true rfl) rfl ?_
      exact j_sub (lv' := [(0, .ref a_o), (2, .int x2), (3, .int x3), (4, .int x4), (5, .int x5), (6, .int x6), (7, .int x7), (8, .int x8), (9, .int x9), (10, .int x6), (11, .int (1 : Int32)), (12, .int (0 : Int32))]) [3, 4, 5, 6, 7, 8, 9, 10, 11, 2, 1, 0] rfl (w_X10_likely_112 ih _ _ _ _ _ _ _ _ _ _ _ _ u h)
set_option maxRecDepth 20000 in
theorem w_X10_likely_72 {l : Launch} {E : jE} {F : Nat} {x1 : Int32} {x2 : Int32} {x3 : Int32} {x4 : Int32} {x5 : Int32} {v_o_cards : Int32} {f_o_st : Nat → Int32} {a_o a_o_colour a_o_deal a_o_st a_o_was a_o_kept a_o_seen a_o_text a_o_told a_o_readColour a_o_readDeal a_o_now a_o_then a_o_ring a_o_goes a_o_far a_o_met : Nat} {w_o_dealMany : Int32} {w_o_acts : Int32} {w_o_keeps : Int32} {w_o_seens : Int32} {w_o_texted : Int32} {w_o_at : Int32} {w_o_isBegun : Int32} {w_o_readCards : Int32} {w_o_readDeals : Int32} {w_o_metMany : Int32} : ∀ (n : Nat) (x6 : Int32) (x7 : Int32) (x8 : Int32) (x9 : Int32) (f_o_goes : Nat → Int32) (f_o_now : Nat → Int32) (f_o_ring : Nat → Int32) (f_o_then : Nat → Int32) (u : Int32 × (Nat → Int32) × (Nat → Int32) × (Nat → Int32) × (Nat → Int32)), g_X10_likely_72 F x1 x2 x3 x4 x5 v_o_cards f_o_st n x6 x7 x8 x9 f_o_goes f_o_now f_o_ring f_o_then = some u → jT l E K_X10_likely 0 0 72 [(0, .ref a_o), (2, .int x2), (3, .int x3), (4, .int x4), (5, .int x5), (6, .int x6), (7, .int x7), (8, .int x8), (9, .int x9)] [] [jO a_o 7 [.int v_o_cards, .ref a_o_colour, .int w_o_dealMany, .ref a_o_deal, .ref a_o_st, .int w_o_acts, .ref a_o_was, .int w_o_keeps, .ref a_o_kept, .int w_o_seens, .ref a_o_seen, .ref a_o_text, .int w_o_texted, .int w_o_at, .ref a_o_told, .int w_o_isBegun, .int w_o_readCards, .ref a_o_readColour, .int w_o_readDeals, .ref a_o_readDeal, .ref a_o_now, .ref a_o_then, .ref a_o_ring, .ref a_o_goes, .ref a_o_far, .ref a_o_met, .int w_o_metMany], jI E a_o_goes 32 f_o_goes, jI E a_o_now 16 f_o_now, jI E a_o_ring 32 f_o_ring, jI E a_o_st 16 f_o_st, jI E a_o_then 16 f_o_then] (jd (some (.int u.1)) [jO a_o 7 [.int v_o_cards, .ref a_o_colour, .int w_o_dealMany, .ref a_o_deal, .ref a_o_st, .int w_o_acts, .ref a_o_was, .int w_o_keeps, .ref a_o_kept, .int w_o_seens, .ref a_o_seen, .ref a_o_text, .int w_o_texted, .int w_o_at, .ref a_o_told, .int w_o_isBegun, .int w_o_readCards, .ref a_o_readColour, .int w_o_readDeals, .ref a_o_readDeal, .ref a_o_now, .ref a_o_then, .ref a_o_ring, .ref a_o_goes, .ref a_o_far, .ref a_o_met, .int w_o_metMany], jI E a_o_goes 32 u.2.1, jI E a_o_now 16 u.2.2.1, jI E a_o_ring 32 u.2.2.2.1, jI E a_o_st 16 f_o_st, jI E a_o_then 16 u.2.2.2.2]) := by
  intro n
  induction n with
  | zero =>
    intro x6 x7 x8 x9 f_o_goes f_o_now f_o_ring f_o_then u h
    rw [g_X10_likely_72] at h
    cases h
  | succ n ih =>
    intro x6 x7 x8 x9 f_o_goes f_o_now f_o_ring f_o_then u h
    rw [g_X10_likely_72] at h
    refine j_iload (pc := 72) 8 dX10_likely_72 rfl ?_
    refine j_iload_n (pc := 74) 2 dX10_likely_74 rfl rfl ?_
    refine j_icmp_ge (pc := 75) (tgt := 91) dX10_likely_75 (by decide) h (fun h => ?_) (fun h => ?_)
    · refine j_iconst (pc := 91) dX10_likely_91 ic_0 ?_
      refine j_istore (pc := 92) (lv' := [(9, .int (0 : Int32)), (0, .ref a_o), (2, .int x2), (3, .int x3), (4, .int x4), (5, .int x5), (6, .int x6), (7, .int x7), (8, .int x8)]) dX10_likely_92 (Nat.le_of_ble_eq_true rfl) rfl ?_
      exact j_sub (lv' := [(0, .ref a_o), (2, .int x2), (3, .int x3), (4, .int x4), (5, .int x5), (6, .int x6), (7, .int x7), (8, .int x8), (9, .int (0 : Int32))]) [1, 2, 3, 4, 5, 6, 7, 8, 0] rfl (w_X10_likely_94 _ _ _ _ _ _ _ _ _ u h)
    · refine j_iload (pc := 78) 7 dX10_likely_78 rfl ?_
      refine j_bipush (pc := 80) dX10_likely_80 bc_10 ?_
      refine j_imul (pc := 82) dX10_likely_82 ?_
      refine j_istore (pc := 83) (lv' := [(8, .int (x8 * (10 : Int32))), (0, .ref a_o), (2, .int x2), (3, .int x3), (4, .int x4), (5, .int x5), (6, .int x6), (7, .int x7), (9, .int x9)]) dX10_likely_83 (Nat.le_of_ble_eq_true rfl) rfl ?_
      refine j_iinc (pc := 85) (j := 8) (lv' := [(9, .int (x9 + (1 : Int32))), (8, .int (x8 * (10 : Int32))), (0, .ref a_o), (2, .int x2), (3, .int x3), (4, .int x4), (5, .int x5), (6, .int x6), (7, .int x7)]) dX10_likely_85 rfl (congrArg (fun z => x9 + z) ic_1) (Nat.le_of_ble_eq_true rfl) rfl ?_
      refine j_goto (pc := 88) (tgt := 72) dX10_likely_88 (by decide) ?_
      exact j_sub (lv' := [(0, .ref a_o), (2, .int x2), (3, .int x3), (4, .int x4), (5, .int x5), (6, .int x6), (7, .int x7), (8, .int (x8 * (10 : Int32))), (9, .int (x9 + (1 : Int32)))]) [2, 3, 4, 5, 6, 7, 8, 1, 0] rfl (ih _ _ _ _ _ _ _ _ u h)
set_option maxRecDepth 20000 in
theorem c_X10_likely {l : Launch} {E : jE} {F : Nat} {x1 : Int32} {x2 : Int32} {x3 : Int32} {x4 : Int32} {x5 : Int32} {v_o_cards : Int32} {f_o_st : Nat → Int32} {a_o a_o_colour a_o_deal a_o_st a_o_was a_o_kept a_o_seen a_o_text a_o_told a_o_readColour a_o_readDeal a_o_now a_o_then a_o_ring a_o_goes a_o_far a_o_met : Nat} {w_o_dealMany : Int32} {w_o_acts : Int32} {w_o_keeps : Int32} {w_o_seens : Int32} {w_o_texted : Int32} {w_o_at : Int32} {w_o_isBegun : Int32} {w_o_readCards : Int32} {w_o_readDeals : Int32} {w_o_metMany : Int32} {f_o_goes : Nat → Int32} {f_o_now : Nat → Int32} {f_o_ring : Nat → Int32} {f_o_then : Nat → Int32} : ∀ u : Int32 × (Nat → Int32) × (Nat → Int32) × (Nat → Int32) × (Nat → Int32), f_X10_likely F x1 x2 x3 x4 x5 v_o_cards f_o_st f_o_goes f_o_now f_o_ring f_o_then = some u → jM l E K_X10_likely [.ref a_o, .int x1, .int x2, .int x3, .int x4, .int x5] [jO a_o 7 [.int v_o_cards, .ref a_o_colour, .int w_o_dealMany, .ref a_o_deal, .ref a_o_st, .int w_o_acts, .ref a_o_was, .int w_o_keeps, .ref a_o_kept, .int w_o_seens, .ref a_o_seen, .ref a_o_text, .int w_o_texted, .int w_o_at, .ref a_o_told, .int w_o_isBegun, .int w_o_readCards, .ref a_o_readColour, .int w_o_readDeals, .ref a_o_readDeal, .ref a_o_now, .ref a_o_then, .ref a_o_ring, .ref a_o_goes, .ref a_o_far, .ref a_o_met, .int w_o_metMany], jI E a_o_goes 32 f_o_goes, jI E a_o_now 16 f_o_now, jI E a_o_ring 32 f_o_ring, jI E a_o_st 16 f_o_st, jI E a_o_then 16 f_o_then] (jd (some (.int u.1)) [jO a_o 7 [.int v_o_cards, .ref a_o_colour, .int w_o_dealMany, .ref a_o_deal, .ref a_o_st, .int w_o_acts, .ref a_o_was, .int w_o_keeps, .ref a_o_kept, .int w_o_seens, .ref a_o_seen, .ref a_o_text, .int w_o_texted, .int w_o_at, .ref a_o_told, .int w_o_isBegun, .int w_o_readCards, .ref a_o_readColour, .int w_o_readDeals, .ref a_o_readDeal, .ref a_o_now, .ref a_o_then, .ref a_o_ring, .ref a_o_goes, .ref a_o_far, .ref a_o_met, .int w_o_metMany], jI E a_o_goes 32 u.2.1, jI E a_o_now 16 u.2.2.1, jI E a_o_ring 32 u.2.2.2.1, jI E a_o_st 16 f_o_st, jI E a_o_then 16 u.2.2.2.2]) := by
  intro u h
  unfold f_X10_likely at h
  refine j_met [(0, .ref a_o), (1, .int x1), (2, .int x2), (3, .int x3), (4, .int x4), (5, .int x5)] (by decide +kernel) (Nat.le_of_ble_eq_true rfl) rfl ?_
  refine j_aload_n (pc := 0) 0 dX10_likely_0 rfl rfl ?_
  refine j_iload_n (pc := 1) 1 dX10_likely_1 rfl rfl ?_
  refine j_V (pc := 2) (q0 := 0) (Kc := K_X10_isCard) (As := [.int x1]) (rest := []) (wc := [jO a_o 7 [.int v_o_cards, .ref a_o_colour, .int w_o_dealMany, .ref a_o_deal, .ref a_o_st, .int w_o_acts, .ref a_o_was, .int w_o_keeps, .ref a_o_kept, .int w_o_seens, .ref a_o_seen, .ref a_o_text, .int w_o_texted, .int w_o_at, .ref a_o_told, .int w_o_isBegun, .int w_o_readCards, .ref a_o_readColour, .int w_o_readDeals, .ref a_o_readDeal, .ref a_o_now, .ref a_o_then, .ref a_o_ring, .ref a_o_goes, .ref a_o_far, .ref a_o_met, .int w_o_metMany]]) (w' := fun b1 => [jO a_o 7 [.int v_o_cards, .ref a_o_colour, .int w_o_dealMany, .ref a_o_deal, .ref a_o_st, .int w_o_acts, .ref a_o_was, .int w_o_keeps, .ref a_o_kept, .int w_o_seens, .ref a_o_seen, .ref a_o_text, .int w_o_texted, .int w_o_at, .ref a_o_told, .int w_o_isBegun, .int w_o_readCards, .ref a_o_readColour, .int w_o_readDeals, .ref a_o_readDeal, .ref a_o_now, .ref a_o_then, .ref a_o_ring, .ref a_o_goes, .ref a_o_far, .ref a_o_met, .int w_o_metMany], jI E a_o_goes 32 f_o_goes, jI E a_o_now 16 f_o_now, jI E a_o_ring 32 f_o_ring, jI E a_o_st 16 f_o_st, jI E a_o_then 16 f_o_then]) (st1 := fun b1 => [.int b1]) [0] rfl rfl rfl h c_X10_isCard q_X10_isCard m4_1 rfl rfl (Nat.le_of_ble_eq_true rfl) ⟨(Nat.le_of_ble_eq_true rfl), (Nat.le_of_ble_eq_true rfl)⟩ ⟨rfl, rfl⟩ ⟨(Nat.le_of_ble_eq_true rfl), (Nat.le_of_ble_eq_true rfl)⟩ dX10_likely_2 rfl (by decide) (fun _ => rfl) (fun _ => rfl) (fun _ => rfl) (fun b1 h => ?_)
  refine j_if_eq (pc := 5) (tgt := 46) dX10_likely_5 (by decide) h (fun h => ?_) (fun h => ?_)
  · refine j_iconst (pc := 46) dX10_likely_46 ic_m1 ?_
    cases h
    exact j_iret (pc := 47) rfl dX10_likely_47 (Nat.le_of_ble_eq_true rfl) (Nat.le_of_ble_eq_true rfl) (jd_i rfl rfl)
  · refine j_aload_n (pc := 8) 0 dX10_likely_8 rfl rfl ?_
    refine j_iload_n (pc := 9) 2 dX10_likely_9 rfl rfl ?_
    refine j_V (pc := 10) (q0 := 0) (Kc := K_X10_isCard) (As := [.int x2]) (rest := []) (wc := [jO a_o 7 [.int v_o_cards, .ref a_o_colour, .int w_o_dealMany, .ref a_o_deal, .ref a_o_st, .int w_o_acts, .ref a_o_was, .int w_o_keeps, .ref a_o_kept, .int w_o_seens, .ref a_o_seen, .ref a_o_text, .int w_o_texted, .int w_o_at, .ref a_o_told, .int w_o_isBegun, .int w_o_readCards, .ref a_o_readColour, .int w_o_readDeals, .ref a_o_readDeal, .ref a_o_now, .ref a_o_then, .ref a_o_ring, .ref a_o_goes, .ref a_o_far, .ref a_o_met, .int w_o_metMany]]) (w' := fun b2 => [jO a_o 7 [.int v_o_cards, .ref a_o_colour, .int w_o_dealMany, .ref a_o_deal, .ref a_o_st, .int w_o_acts, .ref a_o_was, .int w_o_keeps, .ref a_o_kept, .int w_o_seens, .ref a_o_seen, .ref a_o_text, .int w_o_texted, .int w_o_at, .ref a_o_told, .int w_o_isBegun, .int w_o_readCards, .ref a_o_readColour, .int w_o_readDeals, .ref a_o_readDeal, .ref a_o_now, .ref a_o_then, .ref a_o_ring, .ref a_o_goes, .ref a_o_far, .ref a_o_met, .int w_o_metMany], jI E a_o_goes 32 f_o_goes, jI E a_o_now 16 f_o_now, jI E a_o_ring 32 f_o_ring, jI E a_o_st 16 f_o_st, jI E a_o_then 16 f_o_then]) (st1 := fun b2 => [.int b2]) [0] rfl rfl rfl h c_X10_isCard q_X10_isCard m4_1 rfl rfl (Nat.le_of_ble_eq_true rfl) ⟨(Nat.le_of_ble_eq_true rfl), (Nat.le_of_ble_eq_true rfl)⟩ ⟨rfl, rfl⟩ ⟨(Nat.le_of_ble_eq_true rfl), (Nat.le_of_ble_eq_true rfl)⟩ dX10_likely_10 rfl (by decide) (fun _ => rfl) (fun _ => rfl) (fun _ => rfl) (fun b2 h => ?_)
    refine j_if_eq (pc := 13) (tgt := 46) dX10_likely_13 (by decide) h (fun h => ?_) (fun h => ?_)
    · refine j_iconst (pc := 46) dX10_likely_46 ic_m1 ?_
      cases h
      exact j_iret (pc := 47) rfl dX10_likely_47 (Nat.le_of_ble_eq_true rfl) (Nat.le_of_ble_eq_true rfl) (jd_i rfl rfl)
    · refine j_iload_n (pc := 16) 3 dX10_likely_16 rfl rfl ?_
      refine j_iconst (pc := 17) dX10_likely_17 ic_0 ?_
      refine j_iconst (pc := 18) dX10_likely_18 ic_5 ?_
      refine j_S0 (pc := 19) (Kc := K_X10_in) (As := [.int x3, .int (0 : Int32), .int (5 : Int32)]) (rest := []) h c_X10_in q_X10_in m3_190 rfl rfl (Nat.le_of_ble_eq_true rfl) ⟨(Nat.le_of_ble_eq_true rfl), (Nat.le_of_ble_eq_true rfl)⟩ ⟨rfl, rfl⟩ ⟨(Nat.le_of_ble_eq_true rfl), (Nat.le_of_ble_eq_true rfl)⟩ dX10_likely_19 (fun b3 h => ?_)
      refine j_if_eq (pc := 22) (tgt := 46) dX10_likely_22 (by decide) h (fun h => ?_) (fun h => ?_)
      · refine j_iconst (pc := 46) dX10_likely_46 ic_m1 ?_
        cases h
        exact j_iret (pc := 47) rfl dX10_likely_47 (Nat.le_of_ble_eq_true rfl) (Nat.le_of_ble_eq_true rfl) (jd_i rfl rfl)
      · refine j_iload (pc := 25) 4 dX10_likely_25 rfl ?_
        refine j_iconst (pc := 27) dX10_likely_27 ic_0 ?_
        refine j_bipush (pc := 28) dX10_likely_28 bc_10 ?_
        refine j_S0 (pc := 30) (Kc := K_X10_in) (As := [.int x4, .int (0 : Int32), .int (10 : Int32)]) (rest := []) h c_X10_in q_X10_in m3_190 rfl rfl (Nat.le_of_ble_eq_true rfl) ⟨(Nat.le_of_ble_eq_true rfl), (Nat.le_of_ble_eq_true rfl)⟩ ⟨rfl, rfl⟩ ⟨(Nat.le_of_ble_eq_true rfl), (Nat.le_of_ble_eq_true rfl)⟩ dX10_likely_30 (fun b4 h => ?_)
        refine j_if_eq (pc := 33) (tgt := 46) dX10_likely_33 (by decide) h (fun h => ?_) (fun h => ?_)
        · refine j_iconst (pc := 46) dX10_likely_46 ic_m1 ?_
          cases h
          exact j_iret (pc := 47) rfl dX10_likely_47 (Nat.le_of_ble_eq_true rfl) (Nat.le_of_ble_eq_true rfl) (jd_i rfl rfl)
        · refine j_iload (pc := 36) 5 dX10_likely_36 rfl ?_
          refine j_iconst (pc := 38) dX10_likely_38 ic_0 ?_
          refine j_iconst (pc := 39) dX10_likely_39 ic_1 ?_
          refine j_S0 (pc := 40) (Kc := K_X10_in) (As := [.int x5, .int (0 : Int32), .int (1 : Int32)]) (rest := []) h c_X10_in q_X10_in m3_190 rfl rfl (Nat.le_of_ble_eq_true rfl) ⟨(Nat.le_of_ble_eq_true rfl), (Nat.le_of_ble_eq_true rfl)⟩ ⟨rfl, rfl⟩ ⟨(Nat.le_of_ble_eq_true rfl), (Nat.le_of_ble_eq_true rfl)⟩ dX10_likely_40 (fun b5 h => ?_)
          refine j_if_ne (pc := 43) (tgt := 48) dX10_likely_43 (by decide) h (fun h => ?_) (fun h => ?_)
          · refine j_aload_n (pc := 48) 0 dX10_likely_48 rfl rfl ?_
            refine j_V (pc := 49) (q0 := 0) (Kc := K_X10_findGoes) (As := []) (rest := []) (wc := [jO a_o 7 [.int v_o_cards, .ref a_o_colour, .int w_o_dealMany, .ref a_o_deal, .ref a_o_st, .int w_o_acts, .ref a_o_was, .int w_o_keeps, .ref a_o_kept, .int w_o_seens, .ref a_o_seen, .ref a_o_text, .int w_o_texted, .int w_o_at, .ref a_o_told, .int w_o_isBegun, .int w_o_readCards, .ref a_o_readColour, .int w_o_readDeals, .ref a_o_readDeal, .ref a_o_now, .ref a_o_then, .ref a_o_ring, .ref a_o_goes, .ref a_o_far, .ref a_o_met, .int w_o_metMany], jI E a_o_goes 32 f_o_goes, jI E a_o_now 16 f_o_now, jI E a_o_ring 32 f_o_ring, jI E a_o_then 16 f_o_then]) (w' := fun b6 => [jO a_o 7 [.int v_o_cards, .ref a_o_colour, .int w_o_dealMany, .ref a_o_deal, .ref a_o_st, .int w_o_acts, .ref a_o_was, .int w_o_keeps, .ref a_o_kept, .int w_o_seens, .ref a_o_seen, .ref a_o_text, .int w_o_texted, .int w_o_at, .ref a_o_told, .int w_o_isBegun, .int w_o_readCards, .ref a_o_readColour, .int w_o_readDeals, .ref a_o_readDeal, .ref a_o_now, .ref a_o_then, .ref a_o_ring, .ref a_o_goes, .ref a_o_far, .ref a_o_met, .int w_o_metMany], jI E a_o_goes 32 b6.1, jI E a_o_now 16 b6.2.1, jI E a_o_ring 32 b6.2.2.1, jI E a_o_st 16 f_o_st, jI E a_o_then 16 b6.2.2.2]) (st1 := fun b6 => []) [0, 1, 2, 3, 5] rfl rfl rfl h c_X10_findGoes q_X10_findGoes m4_100 rfl rfl (Nat.le_of_ble_eq_true rfl) ⟨(Nat.le_of_ble_eq_true rfl), (Nat.le_of_ble_eq_true rfl)⟩ ⟨rfl, rfl⟩ ⟨(Nat.le_of_ble_eq_true rfl), (Nat.le_of_ble_eq_true rfl)⟩ dX10_likely_49 rfl (by decide) (fun _ => rfl) (fun _ => rfl) (fun _ => rfl) (fun b6 h => ?_)
            refine j_aload_n (pc := 52) 0 dX10_likely_52 rfl rfl ?_
            refine j_V (pc := 53) (q0 := 0) (Kc := K_X10_asItIs) (As := []) (rest := []) (wc := [jO a_o 7 [.int v_o_cards, .ref a_o_colour, .int w_o_dealMany, .ref a_o_deal, .ref a_o_st, .int w_o_acts, .ref a_o_was, .int w_o_keeps, .ref a_o_kept, .int w_o_seens, .ref a_o_seen, .ref a_o_text, .int w_o_texted, .int w_o_at, .ref a_o_told, .int w_o_isBegun, .int w_o_readCards, .ref a_o_readColour, .int w_o_readDeals, .ref a_o_readDeal, .ref a_o_now, .ref a_o_then, .ref a_o_ring, .ref a_o_goes, .ref a_o_far, .ref a_o_met, .int w_o_metMany], jI E a_o_now 16 b6.2.1, jI E a_o_st 16 f_o_st]) (w' := fun b7 => [jO a_o 7 [.int v_o_cards, .ref a_o_colour, .int w_o_dealMany, .ref a_o_deal, .ref a_o_st, .int w_o_acts, .ref a_o_was, .int w_o_keeps, .ref a_o_kept, .int w_o_seens, .ref a_o_seen, .ref a_o_text, .int w_o_texted, .int w_o_at, .ref a_o_told, .int w_o_isBegun, .int w_o_readCards, .ref a_o_readColour, .int w_o_readDeals, .ref a_o_readDeal, .ref a_o_now, .ref a_o_then, .ref a_o_ring, .ref a_o_goes, .ref a_o_far, .ref a_o_met, .int w_o_metMany], jI E a_o_goes 32 b6.1, jI E a_o_now 16 b7, jI E a_o_ring 32 b6.2.2.1, jI E a_o_st 16 f_o_st, jI E a_o_then 16 b6.2.2.2]) (st1 := fun b7 => []) [0, 2, 4] rfl rfl rfl h c_X10_asItIs q_X10_asItIs m4_9 rfl rfl (Nat.le_of_ble_eq_true rfl) ⟨(Nat.le_of_ble_eq_true rfl), (Nat.le_of_ble_eq_true rfl)⟩ ⟨rfl, rfl⟩ ⟨(Nat.le_of_ble_eq_true rfl), (Nat.le_of_ble_eq_true rfl)⟩ dX10_likely_53 rfl (by decide) (fun _ => rfl) (fun _ => rfl) (fun _ => rfl) (fun b7 h => ?_)
            refine j_aload_n (pc := 56) 0 dX10_likely_56 rfl rfl ?_
            refine j_iload_n (pc := 57) 1 dX10_likely_57 rfl rfl ?_
            refine j_V (pc := 58) (q0 := 0) (Kc := K_X10_placeOf) (As := [.int x1]) (rest := []) (wc := [jO a_o 7 [.int v_o_cards, .ref a_o_colour, .int w_o_dealMany, .ref a_o_deal, .ref a_o_st, .int w_o_acts, .ref a_o_was, .int w_o_keeps, .ref a_o_kept, .int w_o_seens, .ref a_o_seen, .ref a_o_text, .int w_o_texted, .int w_o_at, .ref a_o_told, .int w_o_isBegun, .int w_o_readCards, .ref a_o_readColour, .int w_o_readDeals, .ref a_o_readDeal, .ref a_o_now, .ref a_o_then, .ref a_o_ring, .ref a_o_goes, .ref a_o_far, .ref a_o_met, .int w_o_metMany], jI E a_o_now 16 b7]) (w' := fun b8 => [jO a_o 7 [.int v_o_cards, .ref a_o_colour, .int w_o_dealMany, .ref a_o_deal, .ref a_o_st, .int w_o_acts, .ref a_o_was, .int w_o_keeps, .ref a_o_kept, .int w_o_seens, .ref a_o_seen, .ref a_o_text, .int w_o_texted, .int w_o_at, .ref a_o_told, .int w_o_isBegun, .int w_o_readCards, .ref a_o_readColour, .int w_o_readDeals, .ref a_o_readDeal, .ref a_o_now, .ref a_o_then, .ref a_o_ring, .ref a_o_goes, .ref a_o_far, .ref a_o_met, .int w_o_metMany], jI E a_o_goes 32 b6.1, jI E a_o_now 16 b7, jI E a_o_ring 32 b6.2.2.1, jI E a_o_st 16 f_o_st, jI E a_o_then 16 b6.2.2.2]) (st1 := fun b8 => [.int b8]) [0, 2] rfl rfl rfl h c_X10_placeOf q_X10_placeOf m4_13 rfl rfl (Nat.le_of_ble_eq_true rfl) ⟨(Nat.le_of_ble_eq_true rfl), (Nat.le_of_ble_eq_true rfl)⟩ ⟨rfl, rfl⟩ ⟨(Nat.le_of_ble_eq_true rfl), (Nat.le_of_ble_eq_true rfl)⟩ dX10_likely_58 rfl (by decide) (fun _ => rfl) (fun _ => rfl) (fun _ => rfl) (fun b8 h => ?_)
            refine j_istore (pc := 61) (lv' := [(6, .int b8), (0, .ref a_o), (1, .int x1), (2, .int x2), (3, .int x3), (4, .int x4), (5, .int x5)]) dX10_likely_61 (Nat.le_of_ble_eq_true rfl) rfl ?_
            refine j_iconst (pc := 63) dX10_likely_63 ic_0 ?_
            refine j_istore (pc := 64) (lv' := [(7, .int (0 : Int32)), (6, .int b8), (0, .ref a_o), (1, .int x1), (2, .int x2), (3, .int x3), (4, .int x4), (5, .int x5)]) dX10_likely_64 (Nat.le_of_ble_eq_true rfl) rfl ?_
            refine j_iconst (pc := 66) dX10_likely_66 ic_1 ?_
            refine j_istore (pc := 67) (lv' := [(8, .int (1 : Int32)), (7, .int (0 : Int32)), (6, .int b8), (0, .ref a_o), (1, .int x1), (2, .int x2), (3, .int x3), (4, .int x4), (5, .int x5)]) dX10_likely_67 (Nat.le_of_ble_eq_true rfl) rfl ?_
            refine j_iconst (pc := 69) dX10_likely_69 ic_0 ?_
            refine j_istore (pc := 70) (lv' := [(9, .int (0 : Int32)), (8, .int (1 : Int32)), (7, .int (0 : Int32)), (6, .int b8), (0, .ref a_o), (1, .int x1), (2, .int x2), (3, .int x3), (4, .int x4), (5, .int x5)]) dX10_likely_70 (Nat.le_of_ble_eq_true rfl) rfl ?_
            exact j_sub (lv' := [(0, .ref a_o), (2, .int x2), (3, .int x3), (4, .int x4), (5, .int x5), (6, .int b8), (7, .int (0 : Int32)), (8, .int (1 : Int32)), (9, .int (0 : Int32))]) [4, 6, 7, 8, 9, 3, 2, 1, 0] rfl (w_X10_likely_72 _ _ _ _ _ _ _ _ _ u h)
          · refine j_iconst (pc := 46) dX10_likely_46 ic_m1 ?_
            cases h
            exact j_iret (pc := 47) rfl dX10_likely_47 (Nat.le_of_ble_eq_true rfl) (Nat.le_of_ble_eq_true rfl) (jd_i rfl rfl)
set_option maxRecDepth 20000 in
theorem w_X10_dealing_136 {l : Launch} {E : jE} {F : Nat} {x1 : Int32} {x2 : Int32} {x3 : Int32} {v_o_cards : Int32} {f_o_st : Nat → Int32} {a_o a_o_colour a_o_deal a_o_st a_o_was a_o_kept a_o_seen a_o_text a_o_told a_o_readColour a_o_readDeal a_o_now a_o_then a_o_ring a_o_goes a_o_far a_o_met : Nat} {w_o_dealMany : Int32} {w_o_acts : Int32} {w_o_keeps : Int32} {w_o_seens : Int32} {w_o_texted : Int32} {w_o_at : Int32} {w_o_isBegun : Int32} {w_o_readCards : Int32} {w_o_readDeals : Int32} {w_o_metMany : Int32} : ∀ (n : Nat) (x4 : Int32) (x5 : Int32) (f_o_now : Nat → Int32) (f_o_ring : Nat → Int32) (f_o_then : Nat → Int32) (u : Int32 × (Nat → Int32) × (Nat → Int32) × (Nat → Int32)), g_X10_dealing_136 F x1 x2 x3 v_o_cards f_o_st n x4 x5 f_o_now f_o_ring f_o_then = some u → jT l E K_X10_dealing 0 0 136 [(0, .ref a_o), (3, .int x3), (4, .int x4), (5, .int x5)] [] [jO a_o 7 [.int v_o_cards, .ref a_o_colour, .int w_o_dealMany, .ref a_o_deal, .ref a_o_st, .int w_o_acts, .ref a_o_was, .int w_o_keeps, .ref a_o_kept, .int w_o_seens, .ref a_o_seen, .ref a_o_text, .int w_o_texted, .int w_o_at, .ref a_o_told, .int w_o_isBegun, .int w_o_readCards, .ref a_o_readColour, .int w_o_readDeals, .ref a_o_readDeal, .ref a_o_now, .ref a_o_then, .ref a_o_ring, .ref a_o_goes, .ref a_o_far, .ref a_o_met, .int w_o_metMany], jI E a_o_now 16 f_o_now, jI E a_o_ring 32 f_o_ring, jI E a_o_st 16 f_o_st, jI E a_o_then 16 f_o_then] (jd (some (.int u.1)) [jO a_o 7 [.int v_o_cards, .ref a_o_colour, .int w_o_dealMany, .ref a_o_deal, .ref a_o_st, .int w_o_acts, .ref a_o_was, .int w_o_keeps, .ref a_o_kept, .int w_o_seens, .ref a_o_seen, .ref a_o_text, .int w_o_texted, .int w_o_at, .ref a_o_told, .int w_o_isBegun, .int w_o_readCards, .ref a_o_readColour, .int w_o_readDeals, .ref a_o_readDeal, .ref a_o_now, .ref a_o_then, .ref a_o_ring, .ref a_o_goes, .ref a_o_far, .ref a_o_met, .int w_o_metMany], jI E a_o_now 16 u.2.1, jI E a_o_ring 32 u.2.2.1, jI E a_o_st 16 f_o_st, jI E a_o_then 16 u.2.2.2]) := by
  intro n
  induction n with
  | zero =>
    intro x4 x5 f_o_now f_o_ring f_o_then u h
    rw [g_X10_dealing_136] at h
    cases h
  | succ n ih =>
    intro x4 x5 f_o_now f_o_ring f_o_then u h
    rw [g_X10_dealing_136] at h
    refine j_iload (pc := 136) 3 dX10_dealing_136 rfl ?_
    refine j_aload_n (pc := 138) 0 dX10_dealing_138 rfl rfl ?_
    refine j_get (pc := 139) (v := .int v_o_cards) 0 0 rfl rfl (Nat.le_of_ble_eq_true rfl) iwX10 m3_104 rfl dX10_dealing_139 ?_
    refine j_icmp_ge (pc := 142) (tgt := 178) dX10_dealing_142 (by decide) h (fun h => ?_) (fun h => ?_)
    · refine j_iload_n (pc := 178) 1 dX10_dealing_178 rfl rfl ?_
      refine j_if_ne (pc := 179) (tgt := 191) dX10_dealing_179 (by decide) h (fun h => ?_) (fun h => ?_)
      · refine j_iload_n (pc := 191) 1 dX10_dealing_191 rfl rfl ?_
        refine j_iconst (pc := 192) dX10_dealing_192 ic_1 ?_
        refine j_icmp_ne (pc := 193) (tgt := 201) dX10_dealing_193 (by decide) h (fun h => ?_) (fun h => ?_)
        · refine j_aload_n (pc := 201) 0 dX10_dealing_201 rfl rfl ?_
          refine j_V (pc := 202) (q0 := 0) (Kc := K_X10_risingNow) (As := []) (rest := []) (wc := [jO a_o 7 [.int v_o_cards, .ref a_o_colour, .int w_o_dealMany, .ref a_o_deal, .ref a_o_st, .int w_o_acts, .ref a_o_was, .int w_o_keeps, .ref a_o_kept, .int w_o_seens, .ref a_o_seen, .ref a_o_text, .int w_o_texted, .int w_o_at, .ref a_o_told, .int w_o_isBegun, .int w_o_readCards, .ref a_o_readColour, .int w_o_readDeals, .ref a_o_readDeal, .ref a_o_now, .ref a_o_then, .ref a_o_ring, .ref a_o_goes, .ref a_o_far, .ref a_o_met, .int w_o_metMany], jI E a_o_now 16 f_o_now]) (w' := fun b1 => [jO a_o 7 [.int v_o_cards, .ref a_o_colour, .int w_o_dealMany, .ref a_o_deal, .ref a_o_st, .int w_o_acts, .ref a_o_was, .int w_o_keeps, .ref a_o_kept, .int w_o_seens, .ref a_o_seen, .ref a_o_text, .int w_o_texted, .int w_o_at, .ref a_o_told, .int w_o_isBegun, .int w_o_readCards, .ref a_o_readColour, .int w_o_readDeals, .ref a_o_readDeal, .ref a_o_now, .ref a_o_then, .ref a_o_ring, .ref a_o_goes, .ref a_o_far, .ref a_o_met, .int w_o_metMany], jI E a_o_now 16 f_o_now, jI E a_o_ring 32 f_o_ring, jI E a_o_st 16 f_o_st, jI E a_o_then 16 f_o_then]) (st1 := fun b1 => [.int b1]) [0, 1] rfl rfl rfl h c_X10_risingNow q_X10_risingNow m4_120 rfl rfl (Nat.le_of_ble_eq_true rfl) ⟨(Nat.le_of_ble_eq_true rfl), (Nat.le_of_ble_eq_true rfl)⟩ ⟨rfl, rfl⟩ ⟨(Nat.le_of_ble_eq_true rfl), (Nat.le_of_ble_eq_true rfl)⟩ dX10_dealing_202 rfl (by decide) (fun _ => rfl) (fun _ => rfl) (fun _ => rfl) (fun b1 h => ?_)
          cases h
          exact j_iret (pc := 205) rfl dX10_dealing_205 (Nat.le_of_ble_eq_true rfl) (Nat.le_of_ble_eq_true rfl) (jd_i rfl rfl)
        · refine j_iload (pc := 196) 2 dX10_dealing_196 rfl ?_
          refine j_goto (pc := 198) (tgt := 205) dX10_dealing_198 (by decide) ?_
          cases h
          exact j_iret (pc := 205) rfl dX10_dealing_205 (Nat.le_of_ble_eq_true rfl) (Nat.le_of_ble_eq_true rfl) (jd_i rfl rfl)
      · refine j_aload_n (pc := 182) 0 dX10_dealing_182 rfl rfl ?_
        refine j_get (pc := 183) (v := .ref a_o_now) 0 20 rfl rfl (Nat.le_of_ble_eq_true rfl) iwX10 m3_124 rfl dX10_dealing_183 ?_
        refine j_iconst (pc := 186) dX10_dealing_186 ic_0 ?_
        refine j_iald (pc := 187) 1 rfl dX10_dealing_187 h (fun h => ?_)
        refine j_goto (pc := 188) (tgt := 205) dX10_dealing_188 (by decide) ?_
        cases h
        exact j_iret (pc := 205) rfl dX10_dealing_205 (Nat.le_of_ble_eq_true rfl) (Nat.le_of_ble_eq_true rfl) (jd_i rfl rfl)
    · refine j_iload (pc := 145) 2 dX10_dealing_145 rfl ?_
      refine j_aload_n (pc := 147) 0 dX10_dealing_147 rfl rfl ?_
      refine j_get (pc := 148) (v := .ref a_o_now) 0 20 rfl rfl (Nat.le_of_ble_eq_true rfl) iwX10 m3_124 rfl dX10_dealing_148 ?_
      refine j_iload (pc := 151) 3 dX10_dealing_151 rfl ?_
      refine j_iald (pc := 153) 1 rfl dX10_dealing_153 h (fun h => ?_)
      refine j_aload_n (pc := 154) 0 dX10_dealing_154 rfl rfl ?_
      refine j_get (pc := 155) (v := .ref a_o_st) 0 4 rfl rfl (Nat.le_of_ble_eq_true rfl) iwX10 m3_108 rfl dX10_dealing_155 ?_
      refine j_iload (pc := 158) 3 dX10_dealing_158 rfl ?_
      refine j_iald (pc := 160) 3 rfl dX10_dealing_160 h (fun h => ?_)
      refine j_icmp_ne (pc := 161) (tgt := 168) dX10_dealing_161 (by decide) h (fun h => ?_) (fun h => ?_)
      · refine j_iconst (pc := 168) dX10_dealing_168 ic_0 ?_
        refine j_iadd (pc := 169) dX10_dealing_169 ?_
        refine j_istore (pc := 170) (lv' := [(4, .int (x4 + (0 : Int32))), (0, .ref a_o), (3, .int x3), (5, .int x5)]) dX10_dealing_170 (Nat.le_of_ble_eq_true rfl) rfl ?_
        refine j_iinc (pc := 172) (j := 3) (lv' := [(5, .int (x5 + (1 : Int32))), (4, .int (x4 + (0 : Int32))), (0, .ref a_o), (3, .int x3)]) dX10_dealing_172 rfl (congrArg (fun z => x5 + z) ic_1) (Nat.le_of_ble_eq_true rfl) rfl ?_
        refine j_goto (pc := 175) (tgt := 136) dX10_dealing_175 (by decide) ?_
        exact j_sub (lv' := [(0, .ref a_o), (3, .int x3), (4, .int (x4 + (0 : Int32))), (5, .int (x5 + (1 : Int32)))]) [2, 3, 1, 0] rfl (ih _ _ _ _ _ u h)
      · refine j_iconst (pc := 164) dX10_dealing_164 ic_1 ?_
        refine j_goto (pc := 165) (tgt := 169) dX10_dealing_165 (by decide) ?_
        refine j_iadd (pc := 169) dX10_dealing_169 ?_
        refine j_istore (pc := 170) (lv' := [(4, .int (x4 + (1 : Int32))), (0, .ref a_o), (3, .int x3), (5, .int x5)]) dX10_dealing_170 (Nat.le_of_ble_eq_true rfl) rfl ?_
        refine j_iinc (pc := 172) (j := 3) (lv' := [(5, .int (x5 + (1 : Int32))), (4, .int (x4 + (1 : Int32))), (0, .ref a_o), (3, .int x3)]) dX10_dealing_172 rfl (congrArg (fun z => x5 + z) ic_1) (Nat.le_of_ble_eq_true rfl) rfl ?_
        refine j_goto (pc := 175) (tgt := 136) dX10_dealing_175 (by decide) ?_
        exact j_sub (lv' := [(0, .ref a_o), (3, .int x3), (4, .int (x4 + (1 : Int32))), (5, .int (x5 + (1 : Int32)))]) [2, 3, 1, 0] rfl (ih _ _ _ _ _ u h)
set_option maxRecDepth 20000 in
theorem w_X10_dealing_39 {l : Launch} {E : jE} {F : Nat} {x1 : Int32} {x2 : Int32} {x3 : Int32} {v_o_cards : Int32} {f_o_st : Nat → Int32} {a_o a_o_colour a_o_deal a_o_st a_o_was a_o_kept a_o_seen a_o_text a_o_told a_o_readColour a_o_readDeal a_o_now a_o_then a_o_ring a_o_goes a_o_far a_o_met : Nat} {w_o_dealMany : Int32} {w_o_acts : Int32} {w_o_keeps : Int32} {w_o_seens : Int32} {w_o_texted : Int32} {w_o_at : Int32} {w_o_isBegun : Int32} {w_o_readCards : Int32} {w_o_readDeals : Int32} {w_o_metMany : Int32} : ∀ (n : Nat) (x4 : Int32) (f_o_now : Nat → Int32) (f_o_ring : Nat → Int32) (f_o_then : Nat → Int32) (u : Int32 × (Nat → Int32) × (Nat → Int32) × (Nat → Int32)), g_X10_dealing_39 F x1 x2 x3 v_o_cards f_o_st n x4 f_o_now f_o_ring f_o_then = some u → jT l E K_X10_dealing 0 0 39 [(0, .ref a_o), (1, .int x1), (2, .int x2), (3, .int x3), (4, .int x4)] [] [jO a_o 7 [.int v_o_cards, .ref a_o_colour, .int w_o_dealMany, .ref a_o_deal, .ref a_o_st, .int w_o_acts, .ref a_o_was, .int w_o_keeps, .ref a_o_kept, .int w_o_seens, .ref a_o_seen, .ref a_o_text, .int w_o_texted, .int w_o_at, .ref a_o_told, .int w_o_isBegun, .int w_o_readCards, .ref a_o_readColour, .int w_o_readDeals, .ref a_o_readDeal, .ref a_o_now, .ref a_o_then, .ref a_o_ring, .ref a_o_goes, .ref a_o_far, .ref a_o_met, .int w_o_metMany], jI E a_o_now 16 f_o_now, jI E a_o_ring 32 f_o_ring, jI E a_o_st 16 f_o_st, jI E a_o_then 16 f_o_then] (jd (some (.int u.1)) [jO a_o 7 [.int v_o_cards, .ref a_o_colour, .int w_o_dealMany, .ref a_o_deal, .ref a_o_st, .int w_o_acts, .ref a_o_was, .int w_o_keeps, .ref a_o_kept, .int w_o_seens, .ref a_o_seen, .ref a_o_text, .int w_o_texted, .int w_o_at, .ref a_o_told, .int w_o_isBegun, .int w_o_readCards, .ref a_o_readColour, .int w_o_readDeals, .ref a_o_readDeal, .ref a_o_now, .ref a_o_then, .ref a_o_ring, .ref a_o_goes, .ref a_o_far, .ref a_o_met, .int w_o_metMany], jI E a_o_now 16 u.2.1, jI E a_o_ring 32 u.2.2.1, jI E a_o_st 16 f_o_st, jI E a_o_then 16 u.2.2.2]) := by
  intro n
  induction n with
  | zero =>
    intro x4 f_o_now f_o_ring f_o_then u h
    rw [g_X10_dealing_39] at h
    cases h
  | succ n ih =>
    intro x4 f_o_now f_o_ring f_o_then u h
    rw [g_X10_dealing_39] at h
    refine j_iload (pc := 39) 4 dX10_dealing_39 rfl ?_
    refine j_iload_n (pc := 41) 2 dX10_dealing_41 rfl rfl ?_
    refine j_icmp_ge (pc := 42) (tgt := 130) dX10_dealing_42 (by decide) h (fun h => ?_) (fun h => ?_)
    · refine j_iconst (pc := 130) dX10_dealing_130 ic_0 ?_
      refine j_istore (pc := 131) (lv' := [(4, .int (0 : Int32)), (0, .ref a_o), (1, .int x1), (2, .int x2), (3, .int x3)]) dX10_dealing_131 (Nat.le_of_ble_eq_true rfl) rfl ?_
      refine j_iconst (pc := 133) dX10_dealing_133 ic_0 ?_
      refine j_istore (pc := 134) (lv' := [(5, .int (0 : Int32)), (4, .int (0 : Int32)), (0, .ref a_o), (1, .int x1), (2, .int x2), (3, .int x3)]) dX10_dealing_134 (Nat.le_of_ble_eq_true rfl) rfl ?_
      exact j_sub (lv' := [(0, .ref a_o), (3, .int x3), (4, .int (0 : Int32)), (5, .int (0 : Int32))]) [2, 5, 1, 0] rfl (w_X10_dealing_136 _ _ _ _ _ _ u h)
    · refine j_ldc2 (pc := 45) m4_166 dX10_dealing_45 ?_
      refine j_iload_n (pc := 48) 1 dX10_dealing_48 rfl rfl ?_
      refine j_i2l (pc := 49) dX10_dealing_49 ?_
      refine j_lmul (pc := 50) dX10_dealing_50 ?_
      refine j_ldc2 (pc := 51) m4_167 dX10_dealing_51 ?_
      refine j_iload (pc := 54) 4 dX10_dealing_54 rfl ?_
      refine j_i2l (pc := 56) dX10_dealing_56 ?_
      refine j_lmul (pc := 57) dX10_dealing_57 ?_
      refine j_ladd (pc := 58) dX10_dealing_58 ?_
      refine j_lconst (pc := 59) dX10_dealing_59 lc_1 ?_
      refine j_ladd (pc := 60) dX10_dealing_60 ?_
      refine j_lstore (pc := 61) (lv' := [(5, .long ((((7919 : Int64) * x1.toInt64) + ((6151 : Int64) * x4.toInt64)) + (1 : Int64))), (0, .ref a_o), (1, .int x1), (2, .int x2), (3, .int x3), (4, .int x4)]) dX10_dealing_61 (Nat.le_of_ble_eq_true rfl) rfl ?_
      refine j_lload (pc := 63) 0 dX10_dealing_63 rfl ?_
      refine j_lload (pc := 65) 0 dX10_dealing_65 rfl ?_
      refine j_lmul (pc := 67) dX10_dealing_67 ?_
      refine j_ldc2 (pc := 68) m4_168 dX10_dealing_68 ?_
      refine j_lrem (pc := 71) dX10_dealing_71 h (fun h => ?_)
      refine j_ldc2 (pc := 72) m4_169 dX10_dealing_72 ?_
      refine j_ldiv (pc := 75) dX10_dealing_75 h (fun h => ?_)
      refine j_l2i (pc := 76) dX10_dealing_76 ?_
      refine j_istore (pc := 77) (lv' := [(7, .int ((((jreml (((((7919 : Int64) * x1.toInt64) + ((6151 : Int64) * x4.toInt64)) + (1 : Int64)) * ((((7919 : Int64) * x1.toInt64) + ((6151 : Int64) * x4.toInt64)) + (1 : Int64))) (65521 : Int64)) / (2 : Int64))).toInt32)), (5, .long ((((7919 : Int64) * x1.toInt64) + ((6151 : Int64) * x4.toInt64)) + (1 : Int64))), (0, .ref a_o), (1, .int x1), (2, .int x2), (3, .int x3), (4, .int x4)]) dX10_dealing_77 (Nat.le_of_ble_eq_true rfl) rfl ?_
      refine j_iload (pc := 79) 0 dX10_dealing_79 rfl ?_
      refine j_bipush (pc := 81) dX10_dealing_81 bc_7 ?_
      refine j_irem (pc := 83) dX10_dealing_83 h (fun h => ?_)
      refine j_istore (pc := 84) (lv' := [(8, .int (jrem ((((jreml (((((7919 : Int64) * x1.toInt64) + ((6151 : Int64) * x4.toInt64)) + (1 : Int64)) * ((((7919 : Int64) * x1.toInt64) + ((6151 : Int64) * x4.toInt64)) + (1 : Int64))) (65521 : Int64)) / (2 : Int64))).toInt32) (7 : Int32))), (7, .int ((((jreml (((((7919 : Int64) * x1.toInt64) + ((6151 : Int64) * x4.toInt64)) + (1 : Int64)) * ((((7919 : Int64) * x1.toInt64) + ((6151 : Int64) * x4.toInt64)) + (1 : Int64))) (65521 : Int64)) / (2 : Int64))).toInt32)), (5, .long ((((7919 : Int64) * x1.toInt64) + ((6151 : Int64) * x4.toInt64)) + (1 : Int64))), (0, .ref a_o), (1, .int x1), (2, .int x2), (3, .int x3), (4, .int x4)]) dX10_dealing_84 (Nat.le_of_ble_eq_true rfl) rfl ?_
      refine j_aload_n (pc := 86) 3 dX10_dealing_86 rfl rfl ?_
      refine j_iload (pc := 87) 0 dX10_dealing_87 rfl ?_
      refine j_iconst (pc := 89) dX10_dealing_89 ic_5 ?_
      refine j_icmp_ge (pc := 90) (tgt := 98) dX10_dealing_90 (by decide) h (fun h => ?_) (fun h => ?_)
      · refine j_iload (pc := 98) 0 dX10_dealing_98 rfl ?_
        refine j_iconst (pc := 100) dX10_dealing_100 ic_5 ?_
        refine j_icmp_ne (pc := 101) (tgt := 120) dX10_dealing_101 (by decide) h (fun h => ?_) (fun h => ?_)
        · refine j_iconst (pc := 120) dX10_dealing_120 ic_5 ?_
          refine j_V (pc := 121) (q0 := 0) (Kc := K_X10_acts) (As := [.int (5 : Int32)]) (rest := []) (wc := [jO a_o 7 [.int v_o_cards, .ref a_o_colour, .int w_o_dealMany, .ref a_o_deal, .ref a_o_st, .int w_o_acts, .ref a_o_was, .int w_o_keeps, .ref a_o_kept, .int w_o_seens, .ref a_o_seen, .ref a_o_text, .int w_o_texted, .int w_o_at, .ref a_o_told, .int w_o_isBegun, .int w_o_readCards, .ref a_o_readColour, .int w_o_readDeals, .ref a_o_readDeal, .ref a_o_now, .ref a_o_then, .ref a_o_ring, .ref a_o_goes, .ref a_o_far, .ref a_o_met, .int w_o_metMany], jI E a_o_now 16 f_o_now, jI E a_o_ring 32 f_o_ring, jI E a_o_then 16 f_o_then]) (w' := fun b1 => [jO a_o 7 [.int v_o_cards, .ref a_o_colour, .int w_o_dealMany, .ref a_o_deal, .ref a_o_st, .int w_o_acts, .ref a_o_was, .int w_o_keeps, .ref a_o_kept, .int w_o_seens, .ref a_o_seen, .ref a_o_text, .int w_o_texted, .int w_o_at, .ref a_o_told, .int w_o_isBegun, .int w_o_readCards, .ref a_o_readColour, .int w_o_readDeals, .ref a_o_readDeal, .ref a_o_now, .ref a_o_then, .ref a_o_ring, .ref a_o_goes, .ref a_o_far, .ref a_o_met, .int w_o_metMany], jI E a_o_now 16 b1.1, jI E a_o_ring 32 b1.2.1, jI E a_o_st 16 f_o_st, jI E a_o_then 16 b1.2.2]) (st1 := fun b1 => []) [0, 1, 2, 4] rfl rfl rfl h c_X10_acts q_X10_acts m4_36 rfl rfl (Nat.le_of_ble_eq_true rfl) ⟨(Nat.le_of_ble_eq_true rfl), (Nat.le_of_ble_eq_true rfl)⟩ ⟨rfl, rfl⟩ ⟨(Nat.le_of_ble_eq_true rfl), (Nat.le_of_ble_eq_true rfl)⟩ dX10_dealing_121 rfl (by decide) (fun _ => rfl) (fun _ => rfl) (fun _ => rfl) (fun b1 h => ?_)
          refine j_iinc (pc := 124) (j := 7) (lv' := [(4, .int (x4 + (1 : Int32))), (8, .int (jrem ((((jreml (((((7919 : Int64) * x1.toInt64) + ((6151 : Int64) * x4.toInt64)) + (1 : Int64)) * ((((7919 : Int64) * x1.toInt64) + ((6151 : Int64) * x4.toInt64)) + (1 : Int64))) (65521 : Int64)) / (2 : Int64))).toInt32) (7 : Int32))), (7, .int ((((jreml (((((7919 : Int64) * x1.toInt64) + ((6151 : Int64) * x4.toInt64)) + (1 : Int64)) * ((((7919 : Int64) * x1.toInt64) + ((6151 : Int64) * x4.toInt64)) + (1 : Int64))) (65521 : Int64)) / (2 : Int64))).toInt32)), (5, .long ((((7919 : Int64) * x1.toInt64) + ((6151 : Int64) * x4.toInt64)) + (1 : Int64))), (0, .ref a_o), (1, .int x1), (2, .int x2), (3, .int x3)]) dX10_dealing_124 rfl (congrArg (fun z => x4 + z) ic_1) (Nat.le_of_ble_eq_true rfl) rfl ?_
          refine j_goto (pc := 127) (tgt := 39) dX10_dealing_127 (by decide) ?_
          exact j_sub (lv' := [(0, .ref a_o), (1, .int x1), (2, .int x2), (3, .int x3), (4, .int (x4 + (1 : Int32)))]) [4, 5, 6, 7, 0] rfl (ih _ _ _ _ u h)
        · refine j_bipush (pc := 104) dX10_dealing_104 bc_6 ?_
          refine j_iload (pc := 106) 1 dX10_dealing_106 rfl ?_
          refine j_bipush (pc := 108) dX10_dealing_108 bc_8 ?_
          refine j_idiv (pc := 110) dX10_dealing_110 h (fun h => ?_)
          refine j_aload_n (pc := 111) 3 dX10_dealing_111 rfl rfl ?_
          refine j_get (pc := 112) (v := .int v_o_cards) 0 0 rfl rfl (Nat.le_of_ble_eq_true rfl) iwX10 m3_104 rfl dX10_dealing_112 ?_
          refine j_irem (pc := 115) dX10_dealing_115 h (fun h => ?_)
          refine j_iadd (pc := 116) dX10_dealing_116 ?_
          refine j_goto (pc := 117) (tgt := 121) dX10_dealing_117 (by decide) ?_
          refine j_V (pc := 121) (q0 := 0) (Kc := K_X10_acts) (As := [.int ((6 : Int32) + (jrem ((((jreml (((((7919 : Int64) * x1.toInt64) + ((6151 : Int64) * x4.toInt64)) + (1 : Int64)) * ((((7919 : Int64) * x1.toInt64) + ((6151 : Int64) * x4.toInt64)) + (1 : Int64))) (65521 : Int64)) / (2 : Int64))).toInt32 / (8 : Int32)) v_o_cards))]) (rest := []) (wc := [jO a_o 7 [.int v_o_cards, .ref a_o_colour, .int w_o_dealMany, .ref a_o_deal, .ref a_o_st, .int w_o_acts, .ref a_o_was, .int w_o_keeps, .ref a_o_kept, .int w_o_seens, .ref a_o_seen, .ref a_o_text, .int w_o_texted, .int w_o_at, .ref a_o_told, .int w_o_isBegun, .int w_o_readCards, .ref a_o_readColour, .int w_o_readDeals, .ref a_o_readDeal, .ref a_o_now, .ref a_o_then, .ref a_o_ring, .ref a_o_goes, .ref a_o_far, .ref a_o_met, .int w_o_metMany], jI E a_o_now 16 f_o_now, jI E a_o_ring 32 f_o_ring, jI E a_o_then 16 f_o_then]) (w' := fun b2 => [jO a_o 7 [.int v_o_cards, .ref a_o_colour, .int w_o_dealMany, .ref a_o_deal, .ref a_o_st, .int w_o_acts, .ref a_o_was, .int w_o_keeps, .ref a_o_kept, .int w_o_seens, .ref a_o_seen, .ref a_o_text, .int w_o_texted, .int w_o_at, .ref a_o_told, .int w_o_isBegun, .int w_o_readCards, .ref a_o_readColour, .int w_o_readDeals, .ref a_o_readDeal, .ref a_o_now, .ref a_o_then, .ref a_o_ring, .ref a_o_goes, .ref a_o_far, .ref a_o_met, .int w_o_metMany], jI E a_o_now 16 b2.1, jI E a_o_ring 32 b2.2.1, jI E a_o_st 16 f_o_st, jI E a_o_then 16 b2.2.2]) (st1 := fun b2 => []) [0, 1, 2, 4] rfl rfl rfl h c_X10_acts q_X10_acts m4_36 rfl rfl (Nat.le_of_ble_eq_true rfl) ⟨(Nat.le_of_ble_eq_true rfl), (Nat.le_of_ble_eq_true rfl)⟩ ⟨rfl, rfl⟩ ⟨(Nat.le_of_ble_eq_true rfl), (Nat.le_of_ble_eq_true rfl)⟩ dX10_dealing_121 rfl (by decide) (fun _ => rfl) (fun _ => rfl) (fun _ => rfl) (fun b2 h => ?_)
          refine j_iinc (pc := 124) (j := 7) (lv' := [(4, .int (x4 + (1 : Int32))), (8, .int (jrem ((((jreml (((((7919 : Int64) * x1.toInt64) + ((6151 : Int64) * x4.toInt64)) + (1 : Int64)) * ((((7919 : Int64) * x1.toInt64) + ((6151 : Int64) * x4.toInt64)) + (1 : Int64))) (65521 : Int64)) / (2 : Int64))).toInt32) (7 : Int32))), (7, .int ((((jreml (((((7919 : Int64) * x1.toInt64) + ((6151 : Int64) * x4.toInt64)) + (1 : Int64)) * ((((7919 : Int64) * x1.toInt64) + ((6151 : Int64) * x4.toInt64)) + (1 : Int64))) (65521 : Int64)) / (2 : Int64))).toInt32)), (5, .long ((((7919 : Int64) * x1.toInt64) + ((6151 : Int64) * x4.toInt64)) + (1 : Int64))), (0, .ref a_o), (1, .int x1), (2, .int x2), (3, .int x3)]) dX10_dealing_124 rfl (congrArg (fun z => x4 + z) ic_1) (Nat.le_of_ble_eq_true rfl) rfl ?_
          refine j_goto (pc := 127) (tgt := 39) dX10_dealing_127 (by decide) ?_
          exact j_sub (lv' := [(0, .ref a_o), (1, .int x1), (2, .int x2), (3, .int x3), (4, .int (x4 + (1 : Int32)))]) [4, 5, 6, 7, 0] rfl (ih _ _ _ _ u h)
      · refine j_iload (pc := 93) 0 dX10_dealing_93 rfl ?_
        refine j_goto (pc := 95) (tgt := 121) dX10_dealing_95 (by decide) ?_
        refine j_V (pc := 121) (q0 := 0) (Kc := K_X10_acts) (As := [.int (jrem ((((jreml (((((7919 : Int64) * x1.toInt64) + ((6151 : Int64) * x4.toInt64)) + (1 : Int64)) * ((((7919 : Int64) * x1.toInt64) + ((6151 : Int64) * x4.toInt64)) + (1 : Int64))) (65521 : Int64)) / (2 : Int64))).toInt32) (7 : Int32))]) (rest := []) (wc := [jO a_o 7 [.int v_o_cards, .ref a_o_colour, .int w_o_dealMany, .ref a_o_deal, .ref a_o_st, .int w_o_acts, .ref a_o_was, .int w_o_keeps, .ref a_o_kept, .int w_o_seens, .ref a_o_seen, .ref a_o_text, .int w_o_texted, .int w_o_at, .ref a_o_told, .int w_o_isBegun, .int w_o_readCards, .ref a_o_readColour, .int w_o_readDeals, .ref a_o_readDeal, .ref a_o_now, .ref a_o_then, .ref a_o_ring, .ref a_o_goes, .ref a_o_far, .ref a_o_met, .int w_o_metMany], jI E a_o_now 16 f_o_now, jI E a_o_ring 32 f_o_ring, jI E a_o_then 16 f_o_then]) (w' := fun b3 => [jO a_o 7 [.int v_o_cards, .ref a_o_colour, .int w_o_dealMany, .ref a_o_deal, .ref a_o_st, .int w_o_acts, .ref a_o_was, .int w_o_keeps, .ref a_o_kept, .int w_o_seens, .ref a_o_seen, .ref a_o_text, .int w_o_texted, .int w_o_at, .ref a_o_told, .int w_o_isBegun, .int w_o_readCards, .ref a_o_readColour, .int w_o_readDeals, .ref a_o_readDeal, .ref a_o_now, .ref a_o_then, .ref a_o_ring, .ref a_o_goes, .ref a_o_far, .ref a_o_met, .int w_o_metMany], jI E a_o_now 16 b3.1, jI E a_o_ring 32 b3.2.1, jI E a_o_st 16 f_o_st, jI E a_o_then 16 b3.2.2]) (st1 := fun b3 => []) [0, 1, 2, 4] rfl rfl rfl h c_X10_acts q_X10_acts m4_36 rfl rfl (Nat.le_of_ble_eq_true rfl) ⟨(Nat.le_of_ble_eq_true rfl), (Nat.le_of_ble_eq_true rfl)⟩ ⟨rfl, rfl⟩ ⟨(Nat.le_of_ble_eq_true rfl), (Nat.le_of_ble_eq_true rfl)⟩ dX10_dealing_121 rfl (by decide) (fun _ => rfl) (fun _ => rfl) (fun _ => rfl) (fun b3 h => ?_)
        refine j_iinc (pc := 124) (j := 7) (lv' := [(4, .int (x4 + (1 : Int32))), (8, .int (jrem ((((jreml (((((7919 : Int64) * x1.toInt64) + ((6151 : Int64) * x4.toInt64)) + (1 : Int64)) * ((((7919 : Int64) * x1.toInt64) + ((6151 : Int64) * x4.toInt64)) + (1 : Int64))) (65521 : Int64)) / (2 : Int64))).toInt32) (7 : Int32))), (7, .int ((((jreml (((((7919 : Int64) * x1.toInt64) + ((6151 : Int64) * x4.toInt64)) + (1 : Int64)) * ((((7919 : Int64) * x1.toInt64) + ((6151 : Int64) * x4.toInt64)) + (1 : Int64))) (65521 : Int64)) / (2 : Int64))).toInt32)), (5, .long ((((7919 : Int64) * x1.toInt64) + ((6151 : Int64) * x4.toInt64)) + (1 : Int64))), (0, .ref a_o), (1, .int x1), (2, .int x2), (3, .int x3)]) dX10_dealing_124 rfl (congrArg (fun z => x4 + z) ic_1) (Nat.le_of_ble_eq_true rfl) rfl ?_
        refine j_goto (pc := 127) (tgt := 39) dX10_dealing_127 (by decide) ?_
        exact j_sub (lv' := [(0, .ref a_o), (1, .int x1), (2, .int x2), (3, .int x3), (4, .int (x4 + (1 : Int32)))]) [4, 5, 6, 7, 0] rfl (ih _ _ _ _ u h)
set_option maxRecDepth 20000 in
theorem c_X10_dealing {l : Launch} {E : jE} {F : Nat} {x1 : Int32} {x2 : Int32} {x3 : Int32} {v_o_cards : Int32} {f_o_st : Nat → Int32} {a_o a_o_colour a_o_deal a_o_st a_o_was a_o_kept a_o_seen a_o_text a_o_told a_o_readColour a_o_readDeal a_o_now a_o_then a_o_ring a_o_goes a_o_far a_o_met : Nat} {w_o_dealMany : Int32} {w_o_acts : Int32} {w_o_keeps : Int32} {w_o_seens : Int32} {w_o_texted : Int32} {w_o_at : Int32} {w_o_isBegun : Int32} {w_o_readCards : Int32} {w_o_readDeals : Int32} {w_o_metMany : Int32} {f_o_now : Nat → Int32} {f_o_ring : Nat → Int32} {f_o_then : Nat → Int32} : ∀ u : Int32 × (Nat → Int32) × (Nat → Int32) × (Nat → Int32), f_X10_dealing F x1 x2 x3 v_o_cards f_o_st f_o_now f_o_ring f_o_then = some u → jM l E K_X10_dealing [.ref a_o, .int x1, .int x2, .int x3] [jO a_o 7 [.int v_o_cards, .ref a_o_colour, .int w_o_dealMany, .ref a_o_deal, .ref a_o_st, .int w_o_acts, .ref a_o_was, .int w_o_keeps, .ref a_o_kept, .int w_o_seens, .ref a_o_seen, .ref a_o_text, .int w_o_texted, .int w_o_at, .ref a_o_told, .int w_o_isBegun, .int w_o_readCards, .ref a_o_readColour, .int w_o_readDeals, .ref a_o_readDeal, .ref a_o_now, .ref a_o_then, .ref a_o_ring, .ref a_o_goes, .ref a_o_far, .ref a_o_met, .int w_o_metMany], jI E a_o_now 16 f_o_now, jI E a_o_ring 32 f_o_ring, jI E a_o_st 16 f_o_st, jI E a_o_then 16 f_o_then] (jd (some (.int u.1)) [jO a_o 7 [.int v_o_cards, .ref a_o_colour, .int w_o_dealMany, .ref a_o_deal, .ref a_o_st, .int w_o_acts, .ref a_o_was, .int w_o_keeps, .ref a_o_kept, .int w_o_seens, .ref a_o_seen, .ref a_o_text, .int w_o_texted, .int w_o_at, .ref a_o_told, .int w_o_isBegun, .int w_o_readCards, .ref a_o_readColour, .int w_o_readDeals, .ref a_o_readDeal, .ref a_o_now, .ref a_o_then, .ref a_o_ring, .ref a_o_goes, .ref a_o_far, .ref a_o_met, .int w_o_metMany], jI E a_o_now 16 u.2.1, jI E a_o_ring 32 u.2.2.1, jI E a_o_st 16 f_o_st, jI E a_o_then 16 u.2.2.2]) := by
  intro u h
  unfold f_X10_dealing at h
  refine j_met [(0, .ref a_o), (1, .int x1), (2, .int x2), (3, .int x3)] (by decide +kernel) (Nat.le_of_ble_eq_true rfl) rfl ?_
  refine j_iload_n (pc := 0) 1 dX10_dealing_0 rfl rfl ?_
  refine j_iconst (pc := 1) dX10_dealing_1 ic_0 ?_
  refine j_sipush (pc := 2) dX10_dealing_2 sc_9999 ?_
  refine j_S0 (pc := 5) (Kc := K_X10_in) (As := [.int x1, .int (0 : Int32), .int (9999 : Int32)]) (rest := []) h c_X10_in q_X10_in m3_190 rfl rfl (Nat.le_of_ble_eq_true rfl) ⟨(Nat.le_of_ble_eq_true rfl), (Nat.le_of_ble_eq_true rfl)⟩ ⟨rfl, rfl⟩ ⟨(Nat.le_of_ble_eq_true rfl), (Nat.le_of_ble_eq_true rfl)⟩ dX10_dealing_5 (fun b1 h => ?_)
  refine j_if_eq (pc := 8) (tgt := 30) dX10_dealing_8 (by decide) h (fun h => ?_) (fun h => ?_)
  · refine j_iconst (pc := 30) dX10_dealing_30 ic_m1 ?_
    cases h
    exact j_iret (pc := 31) rfl dX10_dealing_31 (Nat.le_of_ble_eq_true rfl) (Nat.le_of_ble_eq_true rfl) (jd_i rfl rfl)
  · refine j_iload_n (pc := 11) 2 dX10_dealing_11 rfl rfl ?_
    refine j_iconst (pc := 12) dX10_dealing_12 ic_1 ?_
    refine j_bipush (pc := 13) dX10_dealing_13 bc_60 ?_
    refine j_S0 (pc := 15) (Kc := K_X10_in) (As := [.int x2, .int (1 : Int32), .int (60 : Int32)]) (rest := []) h c_X10_in q_X10_in m3_190 rfl rfl (Nat.le_of_ble_eq_true rfl) ⟨(Nat.le_of_ble_eq_true rfl), (Nat.le_of_ble_eq_true rfl)⟩ ⟨rfl, rfl⟩ ⟨(Nat.le_of_ble_eq_true rfl), (Nat.le_of_ble_eq_true rfl)⟩ dX10_dealing_15 (fun b2 h => ?_)
    refine j_if_eq (pc := 18) (tgt := 30) dX10_dealing_18 (by decide) h (fun h => ?_) (fun h => ?_)
    · refine j_iconst (pc := 30) dX10_dealing_30 ic_m1 ?_
      cases h
      exact j_iret (pc := 31) rfl dX10_dealing_31 (Nat.le_of_ble_eq_true rfl) (Nat.le_of_ble_eq_true rfl) (jd_i rfl rfl)
    · refine j_iload_n (pc := 21) 3 dX10_dealing_21 rfl rfl ?_
      refine j_iconst (pc := 22) dX10_dealing_22 ic_0 ?_
      refine j_iconst (pc := 23) dX10_dealing_23 ic_2 ?_
      refine j_S0 (pc := 24) (Kc := K_X10_in) (As := [.int x3, .int (0 : Int32), .int (2 : Int32)]) (rest := []) h c_X10_in q_X10_in m3_190 rfl rfl (Nat.le_of_ble_eq_true rfl) ⟨(Nat.le_of_ble_eq_true rfl), (Nat.le_of_ble_eq_true rfl)⟩ ⟨rfl, rfl⟩ ⟨(Nat.le_of_ble_eq_true rfl), (Nat.le_of_ble_eq_true rfl)⟩ dX10_dealing_24 (fun b3 h => ?_)
      refine j_if_ne (pc := 27) (tgt := 32) dX10_dealing_27 (by decide) h (fun h => ?_) (fun h => ?_)
      · refine j_aload_n (pc := 32) 0 dX10_dealing_32 rfl rfl ?_
        refine j_V (pc := 33) (q0 := 0) (Kc := K_X10_asItIs) (As := []) (rest := []) (wc := [jO a_o 7 [.int v_o_cards, .ref a_o_colour, .int w_o_dealMany, .ref a_o_deal, .ref a_o_st, .int w_o_acts, .ref a_o_was, .int w_o_keeps, .ref a_o_kept, .int w_o_seens, .ref a_o_seen, .ref a_o_text, .int w_o_texted, .int w_o_at, .ref a_o_told, .int w_o_isBegun, .int w_o_readCards, .ref a_o_readColour, .int w_o_readDeals, .ref a_o_readDeal, .ref a_o_now, .ref a_o_then, .ref a_o_ring, .ref a_o_goes, .ref a_o_far, .ref a_o_met, .int w_o_metMany], jI E a_o_now 16 f_o_now, jI E a_o_st 16 f_o_st]) (w' := fun b4 => [jO a_o 7 [.int v_o_cards, .ref a_o_colour, .int w_o_dealMany, .ref a_o_deal, .ref a_o_st, .int w_o_acts, .ref a_o_was, .int w_o_keeps, .ref a_o_kept, .int w_o_seens, .ref a_o_seen, .ref a_o_text, .int w_o_texted, .int w_o_at, .ref a_o_told, .int w_o_isBegun, .int w_o_readCards, .ref a_o_readColour, .int w_o_readDeals, .ref a_o_readDeal, .ref a_o_now, .ref a_o_then, .ref a_o_ring, .ref a_o_goes, .ref a_o_far, .ref a_o_met, .int w_o_metMany], jI E a_o_now 16 b4, jI E a_o_ring 32 f_o_ring, jI E a_o_st 16 f_o_st, jI E a_o_then 16 f_o_then]) (st1 := fun b4 => []) [0, 1, 3] rfl rfl rfl h c_X10_asItIs q_X10_asItIs m4_9 rfl rfl (Nat.le_of_ble_eq_true rfl) ⟨(Nat.le_of_ble_eq_true rfl), (Nat.le_of_ble_eq_true rfl)⟩ ⟨rfl, rfl⟩ ⟨(Nat.le_of_ble_eq_true rfl), (Nat.le_of_ble_eq_true rfl)⟩ dX10_dealing_33 rfl (by decide) (fun _ => rfl) (fun _ => rfl) (fun _ => rfl) (fun b4 h => ?_)
        refine j_iconst (pc := 36) dX10_dealing_36 ic_0 ?_
        refine j_istore (pc := 37) (lv' := [(4, .int (0 : Int32)), (0, .ref a_o), (1, .int x1), (2, .int x2), (3, .int x3)]) dX10_dealing_37 (Nat.le_of_ble_eq_true rfl) rfl ?_
        exact j_sub (lv' := [(0, .ref a_o), (1, .int x1), (2, .int x2), (3, .int x3), (4, .int (0 : Int32))]) [1, 2, 3, 4, 0] rfl (w_X10_dealing_39 _ _ _ _ _ u h)
      · refine j_iconst (pc := 30) dX10_dealing_30 ic_m1 ?_
        cases h
        exact j_iret (pc := 31) rfl dX10_dealing_31 (Nat.le_of_ble_eq_true rfl) (Nat.le_of_ble_eq_true rfl) (jd_i rfl rfl)
set_option maxRecDepth 20000 in
theorem c_X10_keep {l : Launch} {E : jE} {F : Nat} {f_o_st : Nat → Int32} {a_o a_o_colour a_o_deal a_o_st a_o_was a_o_kept a_o_seen a_o_text a_o_told a_o_readColour a_o_readDeal a_o_now a_o_then a_o_ring a_o_goes a_o_far a_o_met : Nat} {w_o_cards : Int32} {w_o_dealMany : Int32} {w_o_acts : Int32} {w_o_seens : Int32} {w_o_texted : Int32} {w_o_at : Int32} {w_o_isBegun : Int32} {w_o_readCards : Int32} {w_o_readDeals : Int32} {w_o_metMany : Int32} {v_o_keeps : Int32} {f_o_kept : Nat → Int32} : ∀ u : Int32 × Int32 × (Nat → Int32), f_X10_keep F f_o_st v_o_keeps f_o_kept = some u → jM l E K_X10_keep [.ref a_o] [jO a_o 7 [.int w_o_cards, .ref a_o_colour, .int w_o_dealMany, .ref a_o_deal, .ref a_o_st, .int w_o_acts, .ref a_o_was, .int v_o_keeps, .ref a_o_kept, .int w_o_seens, .ref a_o_seen, .ref a_o_text, .int w_o_texted, .int w_o_at, .ref a_o_told, .int w_o_isBegun, .int w_o_readCards, .ref a_o_readColour, .int w_o_readDeals, .ref a_o_readDeal, .ref a_o_now, .ref a_o_then, .ref a_o_ring, .ref a_o_goes, .ref a_o_far, .ref a_o_met, .int w_o_metMany], jI E a_o_kept 32 f_o_kept, jI E a_o_st 16 f_o_st] (jd (some (.int u.1)) [jO a_o 7 [.int w_o_cards, .ref a_o_colour, .int w_o_dealMany, .ref a_o_deal, .ref a_o_st, .int w_o_acts, .ref a_o_was, .int u.2.1, .ref a_o_kept, .int w_o_seens, .ref a_o_seen, .ref a_o_text, .int w_o_texted, .int w_o_at, .ref a_o_told, .int w_o_isBegun, .int w_o_readCards, .ref a_o_readColour, .int w_o_readDeals, .ref a_o_readDeal, .ref a_o_now, .ref a_o_then, .ref a_o_ring, .ref a_o_goes, .ref a_o_far, .ref a_o_met, .int w_o_metMany], jI E a_o_kept 32 u.2.2, jI E a_o_st 16 f_o_st]) := by
  intro u h
  unfold f_X10_keep at h
  refine j_met [(0, .ref a_o)] (by decide +kernel) (Nat.le_of_ble_eq_true rfl) rfl ?_
  refine j_aload_n (pc := 0) 0 dX10_keep_0 rfl rfl ?_
  refine j_get (pc := 1) (v := .int v_o_keeps) 0 7 rfl rfl (Nat.le_of_ble_eq_true rfl) iwX10 m3_111 rfl dX10_keep_1 ?_
  refine j_iconst (pc := 4) dX10_keep_4 ic_2 ?_
  refine j_icmp_ne (pc := 5) (tgt := 11) dX10_keep_5 (by decide) h (fun h => ?_) (fun h => ?_)
  · refine j_aload_n (pc := 11) 0 dX10_keep_11 rfl rfl ?_
    refine j_get (pc := 12) (v := .ref a_o_kept) 0 8 rfl rfl (Nat.le_of_ble_eq_true rfl) iwX10 m3_112 rfl dX10_keep_12 ?_
    refine j_bipush (pc := 15) dX10_keep_15 bc_16 ?_
    refine j_aload_n (pc := 17) 0 dX10_keep_17 rfl rfl ?_
    refine j_get (pc := 18) (v := .int v_o_keeps) 0 7 rfl rfl (Nat.le_of_ble_eq_true rfl) iwX10 m3_111 rfl dX10_keep_18 ?_
    refine j_imul (pc := 21) dX10_keep_21 ?_
    refine j_aload_n (pc := 22) 0 dX10_keep_22 rfl rfl ?_
    refine j_get (pc := 23) (v := .ref a_o_st) 0 4 rfl rfl (Nat.le_of_ble_eq_true rfl) iwX10 m3_108 rfl dX10_keep_23 ?_
    refine j_iconst (pc := 26) dX10_keep_26 ic_0 ?_
    refine j_bipush (pc := 27) dX10_keep_27 bc_16 ?_
    refine j_S (pc := 29) (Kc := K_X10_copies) (As := [.ref a_o_kept, .int ((16 : Int32) * v_o_keeps), .ref a_o_st, .int (0 : Int32), .int (16 : Int32)]) (rest := []) (wc := [jI E a_o_kept 32 f_o_kept, jI E a_o_st 16 f_o_st]) (w' := fun b1 => [jO a_o 7 [.int w_o_cards, .ref a_o_colour, .int w_o_dealMany, .ref a_o_deal, .ref a_o_st, .int w_o_acts, .ref a_o_was, .int v_o_keeps, .ref a_o_kept, .int w_o_seens, .ref a_o_seen, .ref a_o_text, .int w_o_texted, .int w_o_at, .ref a_o_told, .int w_o_isBegun, .int w_o_readCards, .ref a_o_readColour, .int w_o_readDeals, .ref a_o_readDeal, .ref a_o_now, .ref a_o_then, .ref a_o_ring, .ref a_o_goes, .ref a_o_far, .ref a_o_met, .int w_o_metMany], jI E a_o_kept 32 b1, jI E a_o_st 16 f_o_st]) (st1 := fun b1 => []) [1, 2] h c_X10_copies q_X10_copies m3_98 rfl rfl (Nat.le_of_ble_eq_true rfl) ⟨(Nat.le_of_ble_eq_true rfl), (Nat.le_of_ble_eq_true rfl)⟩ ⟨rfl, rfl⟩ ⟨(Nat.le_of_ble_eq_true rfl), (Nat.le_of_ble_eq_true rfl)⟩ dX10_keep_29 rfl (by decide) (fun _ => rfl) (fun _ => rfl) (fun _ => rfl) (fun b1 h => ?_)
    refine j_aload_n (pc := 32) 0 dX10_keep_32 rfl rfl ?_
    refine j_dup (pc := 33) dX10_keep_33 rfl ?_
    refine j_get (pc := 34) (v := .int v_o_keeps) 0 7 rfl rfl (Nat.le_of_ble_eq_true rfl) iwX10 m3_111 rfl dX10_keep_34 ?_
    refine j_iconst (pc := 37) dX10_keep_37 ic_1 ?_
    refine j_iadd (pc := 38) dX10_keep_38 ?_
    refine j_put (pc := 39) (w' := [jO a_o 7 [.int w_o_cards, .ref a_o_colour, .int w_o_dealMany, .ref a_o_deal, .ref a_o_st, .int w_o_acts, .ref a_o_was, .int (v_o_keeps + (1 : Int32)), .ref a_o_kept, .int w_o_seens, .ref a_o_seen, .ref a_o_text, .int w_o_texted, .int w_o_at, .ref a_o_told, .int w_o_isBegun, .int w_o_readCards, .ref a_o_readColour, .int w_o_readDeals, .ref a_o_readDeal, .ref a_o_now, .ref a_o_then, .ref a_o_ring, .ref a_o_goes, .ref a_o_far, .ref a_o_met, .int w_o_metMany], jI E a_o_kept 32 b1, jI E a_o_st 16 f_o_st]) tyX10 0 7 tyX10_ok nmX10 rfl rfl (Nat.le_of_ble_eq_true rfl) iwX10 m3_111 rfl rfl rfl rfl (Nat.le_of_ble_eq_true rfl) dX10_keep_39 rfl ?_
    refine j_aload_n (pc := 42) 0 dX10_keep_42 rfl rfl ?_
    refine j_get (pc := 43) (v := .int (v_o_keeps + (1 : Int32))) 0 7 rfl rfl (Nat.le_of_ble_eq_true rfl) iwX10 m3_111 rfl dX10_keep_43 ?_
    cases h
    exact j_iret (pc := 46) rfl dX10_keep_46 (Nat.le_of_ble_eq_true rfl) (Nat.le_of_ble_eq_true rfl) (jd_i rfl rfl)
  · refine j_bipush (pc := 8) dX10_keep_8 bc_m3 ?_
    cases h
    exact j_iret (pc := 10) rfl dX10_keep_10 (Nat.le_of_ble_eq_true rfl) (Nat.le_of_ble_eq_true rfl) (jd_i rfl rfl)
set_option maxRecDepth 20000 in
theorem c_X10_back {l : Launch} {E : jE} {F : Nat} {f_o_kept : Nat → Int32} {a_o a_o_colour a_o_deal a_o_st a_o_was a_o_kept a_o_seen a_o_text a_o_told a_o_readColour a_o_readDeal a_o_now a_o_then a_o_ring a_o_goes a_o_far a_o_met : Nat} {w_o_cards : Int32} {w_o_dealMany : Int32} {w_o_seens : Int32} {w_o_texted : Int32} {w_o_at : Int32} {w_o_isBegun : Int32} {w_o_readCards : Int32} {w_o_readDeals : Int32} {w_o_metMany : Int32} {v_o_acts : Int32} {v_o_keeps : Int32} {f_o_st : Nat → Int32} : ∀ u : Int32 × Int32 × Int32 × (Nat → Int32), f_X10_back F f_o_kept v_o_acts v_o_keeps f_o_st = some u → jM l E K_X10_back [.ref a_o] [jO a_o 7 [.int w_o_cards, .ref a_o_colour, .int w_o_dealMany, .ref a_o_deal, .ref a_o_st, .int v_o_acts, .ref a_o_was, .int v_o_keeps, .ref a_o_kept, .int w_o_seens, .ref a_o_seen, .ref a_o_text, .int w_o_texted, .int w_o_at, .ref a_o_told, .int w_o_isBegun, .int w_o_readCards, .ref a_o_readColour, .int w_o_readDeals, .ref a_o_readDeal, .ref a_o_now, .ref a_o_then, .ref a_o_ring, .ref a_o_goes, .ref a_o_far, .ref a_o_met, .int w_o_metMany], jI E a_o_kept 32 f_o_kept, jI E a_o_st 16 f_o_st] (jd (some (.int u.1)) [jO a_o 7 [.int w_o_cards, .ref a_o_colour, .int w_o_dealMany, .ref a_o_deal, .ref a_o_st, .int u.2.1, .ref a_o_was, .int u.2.2.1, .ref a_o_kept, .int w_o_seens, .ref a_o_seen, .ref a_o_text, .int w_o_texted, .int w_o_at, .ref a_o_told, .int w_o_isBegun, .int w_o_readCards, .ref a_o_readColour, .int w_o_readDeals, .ref a_o_readDeal, .ref a_o_now, .ref a_o_then, .ref a_o_ring, .ref a_o_goes, .ref a_o_far, .ref a_o_met, .int w_o_metMany], jI E a_o_kept 32 f_o_kept, jI E a_o_st 16 u.2.2.2]) := by
  intro u h
  unfold f_X10_back at h
  refine j_met [(0, .ref a_o)] (by decide +kernel) (Nat.le_of_ble_eq_true rfl) rfl ?_
  refine j_aload_n (pc := 0) 0 dX10_back_0 rfl rfl ?_
  refine j_get (pc := 1) (v := .int v_o_keeps) 0 7 rfl rfl (Nat.le_of_ble_eq_true rfl) iwX10 m3_111 rfl dX10_back_1 ?_
  refine j_if_ne (pc := 4) (tgt := 10) dX10_back_4 (by decide) h (fun h => ?_) (fun h => ?_)
  · refine j_aload_n (pc := 10) 0 dX10_back_10 rfl rfl ?_
    refine j_dup (pc := 11) dX10_back_11 rfl ?_
    refine j_get (pc := 12) (v := .int v_o_keeps) 0 7 rfl rfl (Nat.le_of_ble_eq_true rfl) iwX10 m3_111 rfl dX10_back_12 ?_
    refine j_iconst (pc := 15) dX10_back_15 ic_1 ?_
    refine j_isub (pc := 16) dX10_back_16 ?_
    refine j_put (pc := 17) (w' := [jO a_o 7 [.int w_o_cards, .ref a_o_colour, .int w_o_dealMany, .ref a_o_deal, .ref a_o_st, .int v_o_acts, .ref a_o_was, .int (v_o_keeps - (1 : Int32)), .ref a_o_kept, .int w_o_seens, .ref a_o_seen, .ref a_o_text, .int w_o_texted, .int w_o_at, .ref a_o_told, .int w_o_isBegun, .int w_o_readCards, .ref a_o_readColour, .int w_o_readDeals, .ref a_o_readDeal, .ref a_o_now, .ref a_o_then, .ref a_o_ring, .ref a_o_goes, .ref a_o_far, .ref a_o_met, .int w_o_metMany], jI E a_o_kept 32 f_o_kept, jI E a_o_st 16 f_o_st]) tyX10 0 7 tyX10_ok nmX10 rfl rfl (Nat.le_of_ble_eq_true rfl) iwX10 m3_111 rfl rfl rfl rfl (Nat.le_of_ble_eq_true rfl) dX10_back_17 rfl ?_
    refine j_aload_n (pc := 20) 0 dX10_back_20 rfl rfl ?_
    refine j_get (pc := 21) (v := .ref a_o_st) 0 4 rfl rfl (Nat.le_of_ble_eq_true rfl) iwX10 m3_108 rfl dX10_back_21 ?_
    refine j_iconst (pc := 24) dX10_back_24 ic_0 ?_
    refine j_aload_n (pc := 25) 0 dX10_back_25 rfl rfl ?_
    refine j_get (pc := 26) (v := .ref a_o_kept) 0 8 rfl rfl (Nat.le_of_ble_eq_true rfl) iwX10 m3_112 rfl dX10_back_26 ?_
    refine j_bipush (pc := 29) dX10_back_29 bc_16 ?_
    refine j_aload_n (pc := 31) 0 dX10_back_31 rfl rfl ?_
    refine j_get (pc := 32) (v := .int (v_o_keeps - (1 : Int32))) 0 7 rfl rfl (Nat.le_of_ble_eq_true rfl) iwX10 m3_111 rfl dX10_back_32 ?_
    refine j_imul (pc := 35) dX10_back_35 ?_
    refine j_bipush (pc := 36) dX10_back_36 bc_16 ?_
    refine j_S (pc := 38) (Kc := K_X10_copies) (As := [.ref a_o_st, .int (0 : Int32), .ref a_o_kept, .int ((16 : Int32) * (v_o_keeps - (1 : Int32))), .int (16 : Int32)]) (rest := []) (wc := [jI E a_o_st 16 f_o_st, jI E a_o_kept 32 f_o_kept]) (w' := fun b1 => [jO a_o 7 [.int w_o_cards, .ref a_o_colour, .int w_o_dealMany, .ref a_o_deal, .ref a_o_st, .int v_o_acts, .ref a_o_was, .int (v_o_keeps - (1 : Int32)), .ref a_o_kept, .int w_o_seens, .ref a_o_seen, .ref a_o_text, .int w_o_texted, .int w_o_at, .ref a_o_told, .int w_o_isBegun, .int w_o_readCards, .ref a_o_readColour, .int w_o_readDeals, .ref a_o_readDeal, .ref a_o_now, .ref a_o_then, .ref a_o_ring, .ref a_o_goes, .ref a_o_far, .ref a_o_met, .int w_o_metMany], jI E a_o_kept 32 f_o_kept, jI E a_o_st 16 b1]) (st1 := fun b1 => []) [2, 1] h c_X10_copies q_X10_copies m3_98 rfl rfl (Nat.le_of_ble_eq_true rfl) ⟨(Nat.le_of_ble_eq_true rfl), (Nat.le_of_ble_eq_true rfl)⟩ ⟨rfl, rfl⟩ ⟨(Nat.le_of_ble_eq_true rfl), (Nat.le_of_ble_eq_true rfl)⟩ dX10_back_38 rfl (by decide) (fun _ => rfl) (fun _ => rfl) (fun _ => rfl) (fun b1 h => ?_)
    refine j_aload_n (pc := 41) 0 dX10_back_41 rfl rfl ?_
    refine j_iconst (pc := 42) dX10_back_42 ic_0 ?_
    refine j_put (pc := 43) (w' := [jO a_o 7 [.int w_o_cards, .ref a_o_colour, .int w_o_dealMany, .ref a_o_deal, .ref a_o_st, .int (0 : Int32), .ref a_o_was, .int (v_o_keeps - (1 : Int32)), .ref a_o_kept, .int w_o_seens, .ref a_o_seen, .ref a_o_text, .int w_o_texted, .int w_o_at, .ref a_o_told, .int w_o_isBegun, .int w_o_readCards, .ref a_o_readColour, .int w_o_readDeals, .ref a_o_readDeal, .ref a_o_now, .ref a_o_then, .ref a_o_ring, .ref a_o_goes, .ref a_o_far, .ref a_o_met, .int w_o_metMany], jI E a_o_kept 32 f_o_kept, jI E a_o_st 16 b1]) tyX10 0 5 tyX10_ok nmX10 rfl rfl (Nat.le_of_ble_eq_true rfl) iwX10 m3_109 rfl rfl rfl rfl (Nat.le_of_ble_eq_true rfl) dX10_back_43 rfl ?_
    refine j_aload_n (pc := 46) 0 dX10_back_46 rfl rfl ?_
    refine j_get (pc := 47) (v := .int (v_o_keeps - (1 : Int32))) 0 7 rfl rfl (Nat.le_of_ble_eq_true rfl) iwX10 m3_111 rfl dX10_back_47 ?_
    cases h
    exact j_iret (pc := 50) rfl dX10_back_50 (Nat.le_of_ble_eq_true rfl) (Nat.le_of_ble_eq_true rfl) (jd_i rfl rfl)
  · refine j_bipush (pc := 7) dX10_back_7 bc_m2 ?_
    cases h
    exact j_iret (pc := 9) rfl dX10_back_9 (Nat.le_of_ble_eq_true rfl) (Nat.le_of_ble_eq_true rfl) (jd_i rfl rfl)
set_option maxRecDepth 20000 in
theorem c_X10_count {l : Launch} {E : jE} {F : Nat} {x1 : Int32} {v_o_cards : Int32} {v_o_dealMany : Int32} {v_o_acts : Int32} {v_o_keeps : Int32} {v_o_seens : Int32} {v_o_texted : Int32} {a_o a_o_colour a_o_deal a_o_st a_o_was a_o_kept a_o_seen a_o_text a_o_told a_o_readColour a_o_readDeal a_o_now a_o_then a_o_ring a_o_goes a_o_far a_o_met : Nat} {w_o_at : Int32} {w_o_isBegun : Int32} {w_o_readCards : Int32} {w_o_readDeals : Int32} {w_o_metMany : Int32} : ∀ u : Int32, f_X10_count F x1 v_o_cards v_o_dealMany v_o_acts v_o_keeps v_o_seens v_o_texted = some u → jM l E K_X10_count [.ref a_o, .int x1] [jO a_o 7 [.int v_o_cards, .ref a_o_colour, .int v_o_dealMany, .ref a_o_deal, .ref a_o_st, .int v_o_acts, .ref a_o_was, .int v_o_keeps, .ref a_o_kept, .int v_o_seens, .ref a_o_seen, .ref a_o_text, .int v_o_texted, .int w_o_at, .ref a_o_told, .int w_o_isBegun, .int w_o_readCards, .ref a_o_readColour, .int w_o_readDeals, .ref a_o_readDeal, .ref a_o_now, .ref a_o_then, .ref a_o_ring, .ref a_o_goes, .ref a_o_far, .ref a_o_met, .int w_o_metMany]] (jd (some (.int u)) [jO a_o 7 [.int v_o_cards, .ref a_o_colour, .int v_o_dealMany, .ref a_o_deal, .ref a_o_st, .int v_o_acts, .ref a_o_was, .int v_o_keeps, .ref a_o_kept, .int v_o_seens, .ref a_o_seen, .ref a_o_text, .int v_o_texted, .int w_o_at, .ref a_o_told, .int w_o_isBegun, .int w_o_readCards, .ref a_o_readColour, .int w_o_readDeals, .ref a_o_readDeal, .ref a_o_now, .ref a_o_then, .ref a_o_ring, .ref a_o_goes, .ref a_o_far, .ref a_o_met, .int w_o_metMany]]) := by
  intro u h
  unfold f_X10_count at h
  refine j_met [(0, .ref a_o), (1, .int x1)] (by decide +kernel) (Nat.le_of_ble_eq_true rfl) rfl ?_
  refine j_iload_n (pc := 0) 1 dX10_count_0 rfl rfl ?_
  refine jbr h (fun z0 h => ?_) (fun z0 h => ?_)
  · refine j_tableIn (pc := 1) (tgt := 40) (0 : Int32) z0 dX10_count_1 (by decide) (by decide) rfl (by decide) ?_
    refine j_aload_n (pc := 40) 0 dX10_count_40 rfl rfl ?_
    refine j_get (pc := 41) (v := .int v_o_cards) 0 0 rfl rfl (Nat.le_of_ble_eq_true rfl) iwX10 m3_104 rfl dX10_count_41 ?_
    cases h
    exact j_iret (pc := 44) rfl dX10_count_44 (Nat.le_of_ble_eq_true rfl) (Nat.le_of_ble_eq_true rfl) (jd_i rfl rfl)
  refine jbr h (fun z1 h => ?_) (fun z1 h => ?_)
  · refine j_tableIn (pc := 1) (tgt := 45) (1 : Int32) z1 dX10_count_1 (by decide) (by decide) rfl (by decide) ?_
    refine j_aload_n (pc := 45) 0 dX10_count_45 rfl rfl ?_
    refine j_get (pc := 46) (v := .int v_o_dealMany) 0 2 rfl rfl (Nat.le_of_ble_eq_true rfl) iwX10 m3_106 rfl dX10_count_46 ?_
    cases h
    exact j_iret (pc := 49) rfl dX10_count_49 (Nat.le_of_ble_eq_true rfl) (Nat.le_of_ble_eq_true rfl) (jd_i rfl rfl)
  refine jbr h (fun z2 h => ?_) (fun z2 h => ?_)
  · refine j_tableIn (pc := 1) (tgt := 50) (2 : Int32) z2 dX10_count_1 (by decide) (by decide) rfl (by decide) ?_
    refine j_aload_n (pc := 50) 0 dX10_count_50 rfl rfl ?_
    refine j_get (pc := 51) (v := .int v_o_seens) 0 9 rfl rfl (Nat.le_of_ble_eq_true rfl) iwX10 m3_113 rfl dX10_count_51 ?_
    cases h
    exact j_iret (pc := 54) rfl dX10_count_54 (Nat.le_of_ble_eq_true rfl) (Nat.le_of_ble_eq_true rfl) (jd_i rfl rfl)
  refine jbr h (fun z3 h => ?_) (fun z3 h => ?_)
  · refine j_tableIn (pc := 1) (tgt := 55) (3 : Int32) z3 dX10_count_1 (by decide) (by decide) rfl (by decide) ?_
    refine j_aload_n (pc := 55) 0 dX10_count_55 rfl rfl ?_
    refine j_get (pc := 56) (v := .int v_o_acts) 0 5 rfl rfl (Nat.le_of_ble_eq_true rfl) iwX10 m3_109 rfl dX10_count_56 ?_
    cases h
    exact j_iret (pc := 59) rfl dX10_count_59 (Nat.le_of_ble_eq_true rfl) (Nat.le_of_ble_eq_true rfl) (jd_i rfl rfl)
  refine jbr h (fun z4 h => ?_) (fun z4 h => ?_)
  · refine j_tableIn (pc := 1) (tgt := 60) (4 : Int32) z4 dX10_count_1 (by decide) (by decide) rfl (by decide) ?_
    refine j_aload_n (pc := 60) 0 dX10_count_60 rfl rfl ?_
    refine j_get (pc := 61) (v := .int v_o_keeps) 0 7 rfl rfl (Nat.le_of_ble_eq_true rfl) iwX10 m3_111 rfl dX10_count_61 ?_
    cases h
    exact j_iret (pc := 64) rfl dX10_count_64 (Nat.le_of_ble_eq_true rfl) (Nat.le_of_ble_eq_true rfl) (jd_i rfl rfl)
  refine jbr h (fun z5 h => ?_) (fun z5 h => ?_)
  · refine j_tableIn (pc := 1) (tgt := 65) (5 : Int32) z5 dX10_count_1 (by decide) (by decide) rfl (by decide) ?_
    refine j_aload_n (pc := 65) 0 dX10_count_65 rfl rfl ?_
    refine j_get (pc := 66) (v := .int v_o_texted) 0 12 rfl rfl (Nat.le_of_ble_eq_true rfl) iwX10 m3_116 rfl dX10_count_66 ?_
    cases h
    exact j_iret (pc := 69) rfl dX10_count_69 (Nat.le_of_ble_eq_true rfl) (Nat.le_of_ble_eq_true rfl) (jd_i rfl rfl)
  refine j_tableOut (pc := 1) (tgt := 70) dX10_count_1 (by have e0 := j_ne z0 (z := 0) (by decide); have e1 := j_ne z1 (z := 1) (by decide); have e2 := j_ne z2 (z := 2) (by decide); have e3 := j_ne z3 (z := 3) (by decide); have e4 := j_ne z4 (z := 4) (by decide); have e5 := j_ne z5 (z := 5) (by decide); omega) (by decide) ?_
  refine j_iconst (pc := 70) dX10_count_70 ic_m1 ?_
  cases h
  exact j_iret (pc := 71) rfl dX10_count_71 (Nat.le_of_ble_eq_true rfl) (Nat.le_of_ble_eq_true rfl) (jd_i rfl rfl)
