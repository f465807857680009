/-! the walks -/
set_option maxRecDepth 20000 in
theorem c_X4_with {l : Launch} {E : jE} {F : Nat} {x0 : Int64} {x2 : Int32} {x3 : Int32} : ∀ u : Int64, f_X4_with F x0 x2 x3 = some u → jM l E K_X4_with [.long x0, .int x2, .int x3] [] (jd (some (.long u)) []) := by
  intro u h
  unfold f_X4_with at h
  refine j_met [(0, .long x0), (2, .int x2), (3, .int x3)] (by decide +kernel) (Nat.le_of_ble_eq_true rfl) rfl ?_
  refine j_lload_n (pc := 0) 0 dX4_with_0 rfl rfl ?_
  refine j_iload_n (pc := 1) 2 dX4_with_1 rfl rfl ?_
  refine j_i2l (pc := 2) dX4_with_2 ?_
  refine j_iconst (pc := 3) dX4_with_3 ic_4 ?_
  refine j_iload_n (pc := 4) 1 dX4_with_4 rfl rfl ?_
  refine j_imul (pc := 5) dX4_with_5 ?_
  refine j_lshl (pc := 6) dX4_with_6 ?_
  refine j_lor (pc := 7) dX4_with_7 ?_
  cases h
  exact j_lret (pc := 8) rfl dX4_with_8 (Nat.le_of_ble_eq_true rfl) (Nat.le_of_ble_eq_true rfl) (jd_i rfl rfl)
set_option maxRecDepth 20000 in
theorem w_X4_inOrder_4 {l : Launch} {E : jE} {F : Nat} {x0 : Int32} : ∀ (n : Nat) (x1 : Int64) (x3 : Int32) (u : Int64), g_X4_inOrder_4 F x0 n x1 x3 = some u → jT l E K_X4_inOrder 0 0 4 [(0, .int x0), (1, .long x1), (3, .int x3)] [] [] (jd (some (.long u)) []) := by
  intro n
  induction n with
  | zero =>
    intro x1 x3 u h
    rw [g_X4_inOrder_4] at h
    cases h
  | succ n ih =>
    intro x1 x3 u h
    rw [g_X4_inOrder_4] at h
    refine j_iload_n (pc := 4) 2 dX4_inOrder_4 rfl rfl ?_
    refine j_iload_n (pc := 5) 0 dX4_inOrder_5 rfl rfl ?_
    refine j_icmp_ge (pc := 6) (tgt := 22) dX4_inOrder_6 (by decide) h (fun h => ?_) (fun h => ?_)
    · refine j_lload_n (pc := 22) 1 dX4_inOrder_22 rfl rfl ?_
      cases h
      exact j_lret (pc := 23) rfl dX4_inOrder_23 (Nat.le_of_ble_eq_true rfl) (Nat.le_of_ble_eq_true rfl) (jd_i rfl rfl)
    · refine j_lload_n (pc := 9) 1 dX4_inOrder_9 rfl rfl ?_
      refine j_iload_n (pc := 10) 2 dX4_inOrder_10 rfl rfl ?_
      refine j_iload_n (pc := 11) 2 dX4_inOrder_11 rfl rfl ?_
      refine j_S0 (pc := 12) (Kc := K_X4_with) (As := [.long x1, .int x3, .int x3]) (rest := []) h c_X4_with q_X4_with m1_140 rfl rfl (Nat.le_of_ble_eq_true rfl) ⟨(Nat.le_of_ble_eq_true rfl), (Nat.le_of_ble_eq_true rfl)⟩ ⟨rfl, rfl⟩ ⟨(Nat.le_of_ble_eq_true rfl), (Nat.le_of_ble_eq_true rfl)⟩ dX4_inOrder_12 (fun b1 h => ?_)
      refine j_lstore_n (pc := 15) (lv' := [(1, .long b1), (0, .int x0), (3, .int x3)]) dX4_inOrder_15 rfl (Nat.le_of_ble_eq_true rfl) rfl ?_
      refine j_iinc (pc := 16) (j := 2) (lv' := [(3, .int (x3 + (1 : Int32))), (1, .long b1), (0, .int x0)]) dX4_inOrder_16 rfl (congrArg (fun z => x3 + z) ic_1) (Nat.le_of_ble_eq_true rfl) rfl ?_
      refine j_goto (pc := 19) (tgt := 4) dX4_inOrder_19 (by decide) ?_
      exact j_sub (lv' := [(0, .int x0), (1, .long b1), (3, .int (x3 + (1 : Int32)))]) [2, 1, 0] rfl (ih _ _ u h)
set_option maxRecDepth 20000 in
theorem c_X4_inOrder {l : Launch} {E : jE} {F : Nat} {x0 : Int32} : ∀ u : Int64, f_X4_inOrder F x0 = some u → jM l E K_X4_inOrder [.int x0] [] (jd (some (.long u)) []) := by
  intro u h
  unfold f_X4_inOrder at h
  refine j_met [(0, .int x0)] (by decide +kernel) (Nat.le_of_ble_eq_true rfl) rfl ?_
  refine j_lconst (pc := 0) dX4_inOrder_0 lc_0 ?_
  refine j_lstore_n (pc := 1) (lv' := [(1, .long (0 : Int64)), (0, .int x0)]) dX4_inOrder_1 rfl (Nat.le_of_ble_eq_true rfl) rfl ?_
  refine j_iconst (pc := 2) dX4_inOrder_2 ic_0 ?_
  refine j_istore_n (pc := 3) (lv' := [(3, .int (0 : Int32)), (1, .long (0 : Int64)), (0, .int x0)]) dX4_inOrder_3 rfl (Nat.le_of_ble_eq_true rfl) rfl ?_
  exact j_sub (lv' := [(0, .int x0), (1, .long (0 : Int64)), (3, .int (0 : Int32))]) [2, 1, 0] rfl (w_X4_inOrder_4 _ _ _ u h)
set_option maxRecDepth 20000 in
theorem c_X5_begin {l : Launch} {E : jE} {F : Nat} {x1 : Int32} {a_o : Nat} {w_o_cardsAreFixed : Int32} {v_o_cards : Int32} {v_o_colours : Int32} {v_o_acts : Int32} {v_o_deal : Int64} : ∀ u : Int32 × Int32 × Int32 × Int64, f_X5_begin F x1 v_o_cards v_o_colours v_o_acts v_o_deal = some u → jM l E K_X5_begin [.ref a_o, .int x1] [jO a_o 2 [.int v_o_cards, .int v_o_colours, .int v_o_acts, .long v_o_deal, .int w_o_cardsAreFixed]] (jd none [jO a_o 2 [.int u.1, .int u.2.1, .int u.2.2.1, .long u.2.2.2, .int w_o_cardsAreFixed]]) := by
  intro u h
  unfold f_X5_begin at h
  refine j_met [(0, .ref a_o), (1, .int x1)] (by decide +kernel) (Nat.le_of_ble_eq_true rfl) rfl ?_
  refine j_aload_n (pc := 0) 0 dX5_begin_0 rfl rfl ?_
  refine j_iload_n (pc := 1) 1 dX5_begin_1 rfl rfl ?_
  refine j_put (pc := 2) (w' := [jO a_o 2 [.int x1, .int v_o_colours, .int v_o_acts, .long v_o_deal, .int w_o_cardsAreFixed]]) tyX5 0 0 tyX5_ok nmX5 rfl rfl (Nat.le_of_ble_eq_true rfl) iwX5 m1_48 rfl rfl rfl rfl (Nat.le_of_ble_eq_true rfl) dX5_begin_2 rfl ?_
  refine j_aload_n (pc := 5) 0 dX5_begin_5 rfl rfl ?_
  refine j_ldc (pc := 6) m1_136 dX5_begin_6 ?_
  refine j_put (pc := 8) (w' := [jO a_o 2 [.int x1, .int (1145324612 : Int32), .int v_o_acts, .long v_o_deal, .int w_o_cardsAreFixed]]) tyX5 0 1 tyX5_ok nmX5 rfl rfl (Nat.le_of_ble_eq_true rfl) iwX5 m1_49 rfl rfl rfl rfl (Nat.le_of_ble_eq_true rfl) dX5_begin_8 rfl ?_
  refine j_aload_n (pc := 11) 0 dX5_begin_11 rfl rfl ?_
  refine j_iconst (pc := 12) dX5_begin_12 ic_0 ?_
  refine j_put (pc := 13) (w' := [jO a_o 2 [.int x1, .int (1145324612 : Int32), .int (0 : Int32), .long v_o_deal, .int w_o_cardsAreFixed]]) tyX5 0 2 tyX5_ok nmX5 rfl rfl (Nat.le_of_ble_eq_true rfl) iwX5 m1_50 rfl rfl rfl rfl (Nat.le_of_ble_eq_true rfl) dX5_begin_13 rfl ?_
  refine j_aload_n (pc := 16) 0 dX5_begin_16 rfl rfl ?_
  refine j_iload_n (pc := 17) 1 dX5_begin_17 rfl rfl ?_
  refine j_S0 (pc := 18) (Kc := K_X4_inOrder) (As := [.int x1]) (rest := [.ref a_o]) h c_X4_inOrder q_X4_inOrder m1_137 rfl rfl (Nat.le_of_ble_eq_true rfl) ⟨(Nat.le_of_ble_eq_true rfl), (Nat.le_of_ble_eq_true rfl)⟩ ⟨rfl, rfl⟩ ⟨(Nat.le_of_ble_eq_true rfl), (Nat.le_of_ble_eq_true rfl)⟩ dX5_begin_18 (fun b1 h => ?_)
  refine j_put (pc := 21) (w' := [jO a_o 2 [.int x1, .int (1145324612 : Int32), .int (0 : Int32), .long b1, .int w_o_cardsAreFixed]]) tyX5 0 3 tyX5_ok nmX5 rfl rfl (Nat.le_of_ble_eq_true rfl) iwX5 m1_52 rfl rfl rfl rfl (Nat.le_of_ble_eq_true rfl) dX5_begin_21 rfl ?_
  cases h
  exact j_vret (pc := 24) rfl dX5_begin_24 (Nat.le_of_ble_eq_true rfl) (Nat.le_of_ble_eq_true rfl) (jd_i rfl rfl)
set_option maxRecDepth 20000 in
theorem c_X9_within {l : Launch} {E : jE} {F : Nat} {x0 : Int32} {x1 : Int32} {x2 : Int32} : ∀ u : Int32, f_X9_within F x0 x1 x2 = some u → jM l E K_X9_within [.int x0, .int x1, .int x2] [] (jd (some (.int u)) []) := by
  intro u h
  unfold f_X9_within at h
  refine j_met [(0, .int x0), (1, .int x1), (2, .int x2)] (by decide +kernel) (Nat.le_of_ble_eq_true rfl) rfl ?_
  refine j_iload_n (pc := 0) 0 dX9_within_0 rfl rfl ?_
  refine j_iload_n (pc := 1) 1 dX9_within_1 rfl rfl ?_
  refine j_icmp_lt (pc := 2) (tgt := 14) dX9_within_2 (by decide) h (fun h => ?_) (fun h => ?_)
  · refine j_iconst (pc := 14) dX9_within_14 ic_0 ?_
    cases h
    exact j_zret (pc := 15) rfl (Or.inl rfl) dX9_within_15 (Nat.le_of_ble_eq_true rfl) (Nat.le_of_ble_eq_true rfl) (jd_i rfl rfl)
  · refine j_iload_n (pc := 5) 0 dX9_within_5 rfl rfl ?_
    refine j_iload_n (pc := 6) 2 dX9_within_6 rfl rfl ?_
    refine j_icmp_gt (pc := 7) (tgt := 14) dX9_within_7 (by decide) h (fun h => ?_) (fun h => ?_)
    · refine j_iconst (pc := 14) dX9_within_14 ic_0 ?_
      cases h
      exact j_zret (pc := 15) rfl (Or.inl rfl) dX9_within_15 (Nat.le_of_ble_eq_true rfl) (Nat.le_of_ble_eq_true rfl) (jd_i rfl rfl)
    · refine j_iconst (pc := 10) dX9_within_10 ic_1 ?_
      refine j_goto (pc := 11) (tgt := 15) dX9_within_11 (by decide) ?_
      cases h
      exact j_zret (pc := 15) rfl (Or.inr rfl) dX9_within_15 (Nat.le_of_ble_eq_true rfl) (Nat.le_of_ble_eq_true rfl) (jd_i rfl rfl)
set_option maxRecDepth 20000 in
theorem c_X5_tellColour {l : Launch} {E : jE} {F : Nat} {x1 : Int32} {x2 : Int32} {v_o_cards : Int32} {a_o : Nat} {w_o_acts : Int32} {w_o_deal : Int64} {v_o_colours : Int32} {v_o_cardsAreFixed : Int32} : ∀ u : Int32 × Int32 × Int32, f_X5_tellColour F x1 x2 v_o_cards v_o_colours v_o_cardsAreFixed = some u → jM l E K_X5_tellColour [.ref a_o, .int x1, .int x2] [jO a_o 2 [.int v_o_cards, .int v_o_colours, .int w_o_acts, .long w_o_deal, .int v_o_cardsAreFixed]] (jd (some (.int u.1)) [jO a_o 2 [.int v_o_cards, .int u.2.1, .int w_o_acts, .long w_o_deal, .int u.2.2]]) := by
  intro u h
  unfold f_X5_tellColour at h
  refine j_met [(0, .ref a_o), (1, .int x1), (2, .int x2)] (by decide +kernel) (Nat.le_of_ble_eq_true rfl) rfl ?_
  refine j_iload_n (pc := 0) 1 dX5_tellColour_0 rfl rfl ?_
  refine j_iconst (pc := 1) dX5_tellColour_1 ic_0 ?_
  refine j_aload_n (pc := 2) 0 dX5_tellColour_2 rfl rfl ?_
  refine j_get (pc := 3) (v := .int v_o_cards) 0 0 rfl rfl (Nat.le_of_ble_eq_true rfl) iwX5 m1_48 rfl dX5_tellColour_3 ?_
  refine j_iconst (pc := 6) dX5_tellColour_6 ic_1 ?_
  refine j_isub (pc := 7) dX5_tellColour_7 ?_
  refine j_SN (pc := 8) (Kc := K_X9_within) (As := [.int x1, .int (0 : Int32), .int (v_o_cards - (1 : Int32))]) (rest := []) RX9 h c_X9_within q_X9_within (List.mem_of_getElem? (i := 12) rfl) rfl rfl (Nat.le_of_ble_eq_true rfl) ⟨(Nat.le_of_ble_eq_true rfl), (Nat.le_of_ble_eq_true rfl)⟩ ⟨rfl, rfl⟩ ⟨(Nat.le_of_ble_eq_true rfl), (Nat.le_of_ble_eq_true rfl)⟩ dX5_tellColour_8 (fun b1 h => ?_)
  refine j_if_eq (pc := 11) (tgt := 23) dX5_tellColour_11 (by decide) h (fun h => ?_) (fun h => ?_)
  · refine j_iconst (pc := 23) dX5_tellColour_23 ic_0 ?_
    cases h
    exact j_zret (pc := 24) rfl (Or.inl rfl) dX5_tellColour_24 (Nat.le_of_ble_eq_true rfl) (Nat.le_of_ble_eq_true rfl) (jd_i rfl rfl)
  · refine j_iload_n (pc := 14) 2 dX5_tellColour_14 rfl rfl ?_
    refine j_iconst (pc := 15) dX5_tellColour_15 ic_0 ?_
    refine j_iconst (pc := 16) dX5_tellColour_16 ic_3 ?_
    refine j_SN (pc := 17) (Kc := K_X9_within) (As := [.int x2, .int (0 : Int32), .int (3 : Int32)]) (rest := []) RX9 h c_X9_within q_X9_within (List.mem_of_getElem? (i := 12) rfl) rfl rfl (Nat.le_of_ble_eq_true rfl) ⟨(Nat.le_of_ble_eq_true rfl), (Nat.le_of_ble_eq_true rfl)⟩ ⟨rfl, rfl⟩ ⟨(Nat.le_of_ble_eq_true rfl), (Nat.le_of_ble_eq_true rfl)⟩ dX5_tellColour_17 (fun b2 h => ?_)
    refine j_if_ne (pc := 20) (tgt := 25) dX5_tellColour_20 (by decide) h (fun h => ?_) (fun h => ?_)
    · refine j_aload_n (pc := 25) 0 dX5_tellColour_25 rfl rfl ?_
      refine j_iconst (pc := 26) dX5_tellColour_26 ic_1 ?_
      refine j_put (pc := 27) (w' := [jO a_o 2 [.int v_o_cards, .int v_o_colours, .int w_o_acts, .long w_o_deal, .int (1 : Int32)]]) tyX5 0 4 tyX5_ok nmX5 rfl rfl (Nat.le_of_ble_eq_true rfl) iwX5 m1_54 rfl rfl (j_bz (Or.inr rfl)).1 (j_bz (Or.inr rfl)).2 (Nat.le_of_ble_eq_true rfl) dX5_tellColour_27 rfl ?_
      refine j_aload_n (pc := 30) 0 dX5_tellColour_30 rfl rfl ?_
      refine j_aload_n (pc := 31) 0 dX5_tellColour_31 rfl rfl ?_
      refine j_get (pc := 32) (v := .int v_o_colours) 0 1 rfl rfl (Nat.le_of_ble_eq_true rfl) iwX5 m1_49 rfl dX5_tellColour_32 ?_
      refine j_iconst (pc := 35) dX5_tellColour_35 ic_3 ?_
      refine j_iconst (pc := 36) dX5_tellColour_36 ic_2 ?_
      refine j_iload_n (pc := 37) 1 dX5_tellColour_37 rfl rfl ?_
      refine j_imul (pc := 38) dX5_tellColour_38 ?_
      refine j_ishl (pc := 39) dX5_tellColour_39 ?_
      refine j_iconst (pc := 40) dX5_tellColour_40 ic_m1 ?_
      refine j_ixor (pc := 41) dX5_tellColour_41 ?_
      refine j_iand (pc := 42) dX5_tellColour_42 ?_
      refine j_iload_n (pc := 43) 2 dX5_tellColour_43 rfl rfl ?_
      refine j_iconst (pc := 44) dX5_tellColour_44 ic_2 ?_
      refine j_iload_n (pc := 45) 1 dX5_tellColour_45 rfl rfl ?_
      refine j_imul (pc := 46) dX5_tellColour_46 ?_
      refine j_ishl (pc := 47) dX5_tellColour_47 ?_
      refine j_ior (pc := 48) dX5_tellColour_48 ?_
      refine j_put (pc := 49) (w' := [jO a_o 2 [.int v_o_cards, .int ((v_o_colours &&& ((jshl (3 : Int32) ((2 : Int32) * x1)) ^^^ (-1 : Int32))) ||| (jshl x2 ((2 : Int32) * x1))), .int w_o_acts, .long w_o_deal, .int (1 : Int32)]]) tyX5 0 1 tyX5_ok nmX5 rfl rfl (Nat.le_of_ble_eq_true rfl) iwX5 m1_49 rfl rfl rfl rfl (Nat.le_of_ble_eq_true rfl) dX5_tellColour_49 rfl ?_
      refine j_iconst (pc := 52) dX5_tellColour_52 ic_1 ?_
      cases h
      exact j_zret (pc := 53) rfl (Or.inr rfl) dX5_tellColour_53 (Nat.le_of_ble_eq_true rfl) (Nat.le_of_ble_eq_true rfl) (jd_i rfl rfl)
    · refine j_iconst (pc := 23) dX5_tellColour_23 ic_0 ?_
      cases h
      exact j_zret (pc := 24) rfl (Or.inl rfl) dX5_tellColour_24 (Nat.le_of_ble_eq_true rfl) (Nat.le_of_ble_eq_true rfl) (jd_i rfl rfl)
set_option maxRecDepth 20000 in
theorem c_X9_isKind {l : Launch} {E : jE} {F : Nat} {x0 : Int32} : ∀ u : Int32, f_X9_isKind F x0 = some u → jM l E K_X9_isKind [.int x0] [] (jd (some (.int u)) []) := by
  intro u h
  unfold f_X9_isKind at h
  refine j_met [(0, .int x0)] (by decide +kernel) (Nat.le_of_ble_eq_true rfl) rfl ?_
  refine j_iload_n (pc := 0) 0 dX9_isKind_0 rfl rfl ?_
  refine j_iconst (pc := 1) dX9_isKind_1 ic_0 ?_
  refine j_iconst (pc := 2) dX9_isKind_2 ic_4 ?_
  refine j_S0 (pc := 3) (Kc := K_X9_within) (As := [.int x0, .int (0 : Int32), .int (4 : Int32)]) (rest := []) h c_X9_within q_X9_within m1_157 rfl rfl (Nat.le_of_ble_eq_true rfl) ⟨(Nat.le_of_ble_eq_true rfl), (Nat.le_of_ble_eq_true rfl)⟩ ⟨rfl, rfl⟩ ⟨(Nat.le_of_ble_eq_true rfl), (Nat.le_of_ble_eq_true rfl)⟩ dX9_isKind_3 (fun b1 h => ?_)
  obtain ⟨hz, h⟩ := jgz_s h
  cases h
  exact j_zret (pc := 6) rfl hz dX9_isKind_6 (Nat.le_of_ble_eq_true rfl) (Nat.le_of_ble_eq_true rfl) (jd_i rfl rfl)
set_option maxRecDepth 20000 in
theorem c_X4_cardAt {l : Launch} {E : jE} {F : Nat} {x0 : Int64} {x2 : Int32} : ∀ u : Int32, f_X4_cardAt F x0 x2 = some u → jM l E K_X4_cardAt [.long x0, .int x2] [] (jd (some (.int u)) []) := by
  intro u h
  unfold f_X4_cardAt at h
  refine j_met [(0, .long x0), (2, .int x2)] (by decide +kernel) (Nat.le_of_ble_eq_true rfl) rfl ?_
  refine j_lload_n (pc := 0) 0 dX4_cardAt_0 rfl rfl ?_
  refine j_iconst (pc := 1) dX4_cardAt_1 ic_4 ?_
  refine j_iload_n (pc := 2) 1 dX4_cardAt_2 rfl rfl ?_
  refine j_imul (pc := 3) dX4_cardAt_3 ?_
  refine j_lushr (pc := 4) dX4_cardAt_4 ?_
  refine j_l2i (pc := 5) dX4_cardAt_5 ?_
  refine j_bipush (pc := 6) dX4_cardAt_6 bc_15 ?_
  refine j_iand (pc := 8) dX4_cardAt_8 ?_
  cases h
  exact j_iret (pc := 9) rfl dX4_cardAt_9 (Nat.le_of_ble_eq_true rfl) (Nat.le_of_ble_eq_true rfl) (jd_i rfl rfl)
set_option maxRecDepth 20000 in
theorem w_X3_downAndUnder_10 {l : Launch} {E : jE} {F : Nat} {x0 : Int32} : ∀ (n : Nat) (x1 : Int64) (x3 : Int64) (x5 : Int32) (u : Int64), g_X3_downAndUnder_10 F x0 n x1 x3 x5 = some u → jT l E K_X3_downAndUnder 0 0 10 [(0, .int x0), (1, .long x1), (3, .long x3), (5, .int x5)] [] [] (jd (some (.long u)) []) := by
  intro n
  induction n with
  | zero =>
    intro x1 x3 x5 u h
    rw [g_X3_downAndUnder_10] at h
    cases h
  | succ n ih =>
    intro x1 x3 x5 u h
    rw [g_X3_downAndUnder_10] at h
    refine j_iload (pc := 10) 3 dX3_downAndUnder_10 rfl ?_
    refine j_iload_n (pc := 12) 0 dX3_downAndUnder_12 rfl rfl ?_
    refine j_icmp_ge (pc := 13) (tgt := 68) dX3_downAndUnder_13 (by decide) h (fun h => ?_) (fun h => ?_)
    · refine j_lload_n (pc := 68) 2 dX3_downAndUnder_68 rfl rfl ?_
      cases h
      exact j_lret (pc := 69) rfl dX3_downAndUnder_69 (Nat.le_of_ble_eq_true rfl) (Nat.le_of_ble_eq_true rfl) (jd_i rfl rfl)
    · refine j_lload_n (pc := 16) 2 dX3_downAndUnder_16 rfl rfl ?_
      refine j_iload (pc := 17) 3 dX3_downAndUnder_17 rfl ?_
      refine j_lload_n (pc := 19) 1 dX3_downAndUnder_19 rfl rfl ?_
      refine j_iconst (pc := 20) dX3_downAndUnder_20 ic_0 ?_
      refine j_S0 (pc := 21) (Kc := K_X4_cardAt) (As := [.long x1, .int (0 : Int32)]) (rest := [.int x5, .long x3]) h c_X4_cardAt q_X4_cardAt m1_165 rfl rfl (Nat.le_of_ble_eq_true rfl) ⟨(Nat.le_of_ble_eq_true rfl), (Nat.le_of_ble_eq_true rfl)⟩ ⟨rfl, rfl⟩ ⟨(Nat.le_of_ble_eq_true rfl), (Nat.le_of_ble_eq_true rfl)⟩ dX3_downAndUnder_21 (fun b1 h => ?_)
      refine j_S0 (pc := 24) (Kc := K_X4_with) (As := [.long x3, .int x5, .int b1]) (rest := []) h c_X4_with q_X4_with m1_168 rfl rfl (Nat.le_of_ble_eq_true rfl) ⟨(Nat.le_of_ble_eq_true rfl), (Nat.le_of_ble_eq_true rfl)⟩ ⟨rfl, rfl⟩ ⟨(Nat.le_of_ble_eq_true rfl), (Nat.le_of_ble_eq_true rfl)⟩ dX3_downAndUnder_24 (fun b2 h => ?_)
      refine j_lstore_n (pc := 27) (lv' := [(3, .long b2), (0, .int x0), (1, .long x1), (5, .int x5)]) dX3_downAndUnder_27 rfl (Nat.le_of_ble_eq_true rfl) rfl ?_
      refine j_iload_n (pc := 28) 1 dX3_downAndUnder_28 rfl rfl ?_
      refine j_iconst (pc := 29) dX3_downAndUnder_29 ic_1 ?_
      refine j_isub (pc := 30) dX3_downAndUnder_30 ?_
      refine j_iload (pc := 31) 3 dX3_downAndUnder_31 rfl ?_
      refine j_isub (pc := 33) dX3_downAndUnder_33 ?_
      refine j_istore (pc := 34) (lv' := [(6, .int ((x0 - (1 : Int32)) - x5)), (3, .long b2), (0, .int x0), (1, .long x1), (5, .int x5)]) dX3_downAndUnder_34 (Nat.le_of_ble_eq_true rfl) rfl ?_
      refine j_lload_n (pc := 36) 3 dX3_downAndUnder_36 rfl rfl ?_
      refine j_iconst (pc := 37) dX3_downAndUnder_37 ic_4 ?_
      refine j_lushr (pc := 38) dX3_downAndUnder_38 ?_
      refine j_lstore_n (pc := 39) (lv' := [(1, .long (jlushr x1 (4 : Int32))), (6, .int ((x0 - (1 : Int32)) - x5)), (3, .long b2), (0, .int x0), (5, .int x5)]) dX3_downAndUnder_39 rfl (Nat.le_of_ble_eq_true rfl) rfl ?_
      refine j_iload (pc := 40) 1 dX3_downAndUnder_40 rfl ?_
      refine j_iconst (pc := 42) dX3_downAndUnder_42 ic_1 ?_
      refine j_icmp_le (pc := 43) (tgt := 62) dX3_downAndUnder_43 (by decide) h (fun h => ?_) (fun h => ?_)
      · refine j_iinc (pc := 62) (j := 4) (lv' := [(5, .int (x5 + (1 : Int32))), (1, .long (jlushr x1 (4 : Int32))), (6, .int ((x0 - (1 : Int32)) - x5)), (3, .long b2), (0, .int x0)]) dX3_downAndUnder_62 rfl (congrArg (fun z => x5 + z) ic_1) (Nat.le_of_ble_eq_true rfl) rfl ?_
        refine j_goto (pc := 65) (tgt := 10) dX3_downAndUnder_65 (by decide) ?_
        exact j_sub (lv' := [(0, .int x0), (1, .long (jlushr x1 (4 : Int32))), (3, .long b2), (5, .int (x5 + (1 : Int32)))]) [4, 1, 3, 0] rfl (ih _ _ _ u h)
      · refine j_lload_n (pc := 46) 0 dX3_downAndUnder_46 rfl rfl ?_
        refine j_iconst (pc := 47) dX3_downAndUnder_47 ic_4 ?_
        refine j_lushr (pc := 48) dX3_downAndUnder_48 ?_
        refine j_iload (pc := 49) 1 dX3_downAndUnder_49 rfl ?_
        refine j_iconst (pc := 51) dX3_downAndUnder_51 ic_1 ?_
        refine j_isub (pc := 52) dX3_downAndUnder_52 ?_
        refine j_lload_n (pc := 53) 0 dX3_downAndUnder_53 rfl rfl ?_
        refine j_iconst (pc := 54) dX3_downAndUnder_54 ic_0 ?_
        refine j_S0 (pc := 55) (Kc := K_X4_cardAt) (As := [.long (jlushr x1 (4 : Int32)), .int (0 : Int32)]) (rest := [.int (((x0 - (1 : Int32)) - x5) - (1 : Int32)), .long (jlushr (jlushr x1 (4 : Int32)) (4 : Int32))]) h c_X4_cardAt q_X4_cardAt m1_165 rfl rfl (Nat.le_of_ble_eq_true rfl) ⟨(Nat.le_of_ble_eq_true rfl), (Nat.le_of_ble_eq_true rfl)⟩ ⟨rfl, rfl⟩ ⟨(Nat.le_of_ble_eq_true rfl), (Nat.le_of_ble_eq_true rfl)⟩ dX3_downAndUnder_55 (fun b3 h => ?_)
        refine j_S0 (pc := 58) (Kc := K_X4_with) (As := [.long (jlushr (jlushr x1 (4 : Int32)) (4 : Int32)), .int (((x0 - (1 : Int32)) - x5) - (1 : Int32)), .int b3]) (rest := []) h c_X4_with q_X4_with m1_168 rfl rfl (Nat.le_of_ble_eq_true rfl) ⟨(Nat.le_of_ble_eq_true rfl), (Nat.le_of_ble_eq_true rfl)⟩ ⟨rfl, rfl⟩ ⟨(Nat.le_of_ble_eq_true rfl), (Nat.le_of_ble_eq_true rfl)⟩ dX3_downAndUnder_58 (fun b4 h => ?_)
        refine j_lstore_n (pc := 61) (lv' := [(1, .long b4), (6, .int ((x0 - (1 : Int32)) - x5)), (3, .long b2), (0, .int x0), (5, .int x5)]) dX3_downAndUnder_61 rfl (Nat.le_of_ble_eq_true rfl) rfl ?_
        refine j_iinc (pc := 62) (j := 4) (lv' := [(5, .int (x5 + (1 : Int32))), (1, .long b4), (6, .int ((x0 - (1 : Int32)) - x5)), (3, .long b2), (0, .int x0)]) dX3_downAndUnder_62 rfl (congrArg (fun z => x5 + z) ic_1) (Nat.le_of_ble_eq_true rfl) rfl ?_
        refine j_goto (pc := 65) (tgt := 10) dX3_downAndUnder_65 (by decide) ?_
        exact j_sub (lv' := [(0, .int x0), (1, .long b4), (3, .long b2), (5, .int (x5 + (1 : Int32)))]) [4, 1, 3, 0] rfl (ih _ _ _ u h)
set_option maxRecDepth 20000 in
theorem c_X3_downAndUnder {l : Launch} {E : jE} {F : Nat} {x0 : Int32} : ∀ u : Int64, f_X3_downAndUnder F x0 = some u → jM l E K_X3_downAndUnder [.int x0] [] (jd (some (.long u)) []) := by
  intro u h
  unfold f_X3_downAndUnder at h
  refine j_met [(0, .int x0)] (by decide +kernel) (Nat.le_of_ble_eq_true rfl) rfl ?_
  refine j_iload_n (pc := 0) 0 dX3_downAndUnder_0 rfl rfl ?_
  refine j_S0 (pc := 1) (Kc := K_X4_inOrder) (As := [.int x0]) (rest := []) h c_X4_inOrder q_X4_inOrder m1_164 rfl rfl (Nat.le_of_ble_eq_true rfl) ⟨(Nat.le_of_ble_eq_true rfl), (Nat.le_of_ble_eq_true rfl)⟩ ⟨rfl, rfl⟩ ⟨(Nat.le_of_ble_eq_true rfl), (Nat.le_of_ble_eq_true rfl)⟩ dX3_downAndUnder_1 (fun b1 h => ?_)
  refine j_lstore_n (pc := 4) (lv' := [(1, .long b1), (0, .int x0)]) dX3_downAndUnder_4 rfl (Nat.le_of_ble_eq_true rfl) rfl ?_
  refine j_lconst (pc := 5) dX3_downAndUnder_5 lc_0 ?_
  refine j_lstore_n (pc := 6) (lv' := [(3, .long (0 : Int64)), (1, .long b1), (0, .int x0)]) dX3_downAndUnder_6 rfl (Nat.le_of_ble_eq_true rfl) rfl ?_
  refine j_iconst (pc := 7) dX3_downAndUnder_7 ic_0 ?_
  refine j_istore (pc := 8) (lv' := [(5, .int (0 : Int32)), (3, .long (0 : Int64)), (1, .long b1), (0, .int x0)]) dX3_downAndUnder_8 (Nat.le_of_ble_eq_true rfl) rfl ?_
  exact j_sub (lv' := [(0, .int x0), (1, .long b1), (3, .long (0 : Int64)), (5, .int (0 : Int32))]) [3, 2, 1, 0] rfl (w_X3_downAndUnder_10 _ _ _ _ u h)
set_option maxRecDepth 20000 in
theorem w_X3_source_15 {l : Launch} {E : jE} {F : Nat} {x0 : Int32} {x1 : Int32} {x2 : Int32} : ∀ (x3 : Int32) (s0 : Int32) (u : Int32), g_X3_source_15 F x0 x1 x2 x3 s0 = some u → jT l E K_X3_source 0 0 15 [(0, .int x0), (1, .int x1), (3, .int x3)] [.int s0] [] (jd (some (.int u)) []) := by
  intro x3 s0 u h
  unfold g_X3_source_15 at h
  refine j_istore (pc := 15) (lv' := [(4, .int s0), (0, .int x0), (1, .int x1), (3, .int x3)]) dX3_source_15 (Nat.le_of_ble_eq_true rfl) rfl ?_
  refine j_iload_n (pc := 17) 1 dX3_source_17 rfl rfl ?_
  refine jbr h (fun z0 h => ?_) (fun z0 h => ?_)
  · refine j_tableIn (pc := 18) (tgt := 44) (0 : Int32) z0 dX3_source_18 (by decide) (by decide) rfl (by decide) ?_
    refine j_iload (pc := 44) 0 dX3_source_44 rfl ?_
    refine j_if_eq (pc := 46) (tgt := 53) dX3_source_46 (by decide) h (fun h => ?_) (fun h => ?_)
    · refine j_iload_n (pc := 53) 2 dX3_source_53 rfl rfl ?_
      refine j_iconst (pc := 54) dX3_source_54 ic_1 ?_
      refine j_iadd (pc := 55) dX3_source_55 ?_
      refine j_iconst (pc := 56) dX3_source_56 ic_2 ?_
      refine j_idiv (pc := 57) dX3_source_57 h (fun h => ?_)
      refine j_iload_n (pc := 58) 3 dX3_source_58 rfl rfl ?_
      refine j_iadd (pc := 59) dX3_source_59 ?_
      cases h
      exact j_iret (pc := 60) rfl dX3_source_60 (Nat.le_of_ble_eq_true rfl) (Nat.le_of_ble_eq_true rfl) (jd_i rfl rfl)
    · refine j_iload_n (pc := 49) 3 dX3_source_49 rfl rfl ?_
      refine j_goto (pc := 50) (tgt := 60) dX3_source_50 (by decide) ?_
      cases h
      exact j_iret (pc := 60) rfl dX3_source_60 (Nat.le_of_ble_eq_true rfl) (Nat.le_of_ble_eq_true rfl) (jd_i rfl rfl)
  refine jbr h (fun z1 h => ?_) (fun z1 h => ?_)
  · refine j_tableIn (pc := 18) (tgt := 61) (1 : Int32) z1 dX3_source_18 (by decide) (by decide) rfl (by decide) ?_
    refine j_iload (pc := 61) 0 dX3_source_61 rfl ?_
    refine j_if_eq (pc := 63) (tgt := 74) dX3_source_63 (by decide) h (fun h => ?_) (fun h => ?_)
    · refine j_iload_n (pc := 74) 3 dX3_source_74 rfl rfl ?_
      cases h
      exact j_iret (pc := 75) rfl dX3_source_75 (Nat.le_of_ble_eq_true rfl) (Nat.le_of_ble_eq_true rfl) (jd_i rfl rfl)
    · refine j_iload_n (pc := 66) 2 dX3_source_66 rfl rfl ?_
      refine j_iconst (pc := 67) dX3_source_67 ic_2 ?_
      refine j_idiv (pc := 68) dX3_source_68 h (fun h => ?_)
      refine j_iload_n (pc := 69) 3 dX3_source_69 rfl rfl ?_
      refine j_iadd (pc := 70) dX3_source_70 ?_
      refine j_goto (pc := 71) (tgt := 75) dX3_source_71 (by decide) ?_
      cases h
      exact j_iret (pc := 75) rfl dX3_source_75 (Nat.le_of_ble_eq_true rfl) (Nat.le_of_ble_eq_true rfl) (jd_i rfl rfl)
  refine jbr h (fun z2 h => ?_) (fun z2 h => ?_)
  · refine j_tableIn (pc := 18) (tgt := 76) (2 : Int32) z2 dX3_source_18 (by decide) (by decide) rfl (by decide) ?_
    refine j_iload (pc := 76) 0 dX3_source_76 rfl ?_
    refine j_if_eq (pc := 78) (tgt := 85) dX3_source_78 (by decide) h (fun h => ?_) (fun h => ?_)
    · refine j_iload_n (pc := 85) 2 dX3_source_85 rfl rfl ?_
      refine j_iconst (pc := 86) dX3_source_86 ic_1 ?_
      refine j_isub (pc := 87) dX3_source_87 ?_
      refine j_iload_n (pc := 88) 3 dX3_source_88 rfl rfl ?_
      refine j_isub (pc := 89) dX3_source_89 ?_
      cases h
      exact j_iret (pc := 90) rfl dX3_source_90 (Nat.le_of_ble_eq_true rfl) (Nat.le_of_ble_eq_true rfl) (jd_i rfl rfl)
    · refine j_iload_n (pc := 81) 3 dX3_source_81 rfl rfl ?_
      refine j_goto (pc := 82) (tgt := 90) dX3_source_82 (by decide) ?_
      cases h
      exact j_iret (pc := 90) rfl dX3_source_90 (Nat.le_of_ble_eq_true rfl) (Nat.le_of_ble_eq_true rfl) (jd_i rfl rfl)
  refine j_tableOut (pc := 18) (tgt := 91) dX3_source_18 (by have e0 := j_ne z0 (z := 0) (by decide); have e1 := j_ne z1 (z := 1) (by decide); have e2 := j_ne z2 (z := 2) (by decide); omega) (by decide) ?_
  refine j_iload (pc := 91) 0 dX3_source_91 rfl ?_
  refine j_if_eq (pc := 93) (tgt := 104) dX3_source_93 (by decide) h (fun h => ?_) (fun h => ?_)
  · refine j_iload_n (pc := 104) 3 dX3_source_104 rfl rfl ?_
    cases h
    exact j_iret (pc := 105) rfl dX3_source_105 (Nat.le_of_ble_eq_true rfl) (Nat.le_of_ble_eq_true rfl) (jd_i rfl rfl)
  · refine j_iload_n (pc := 96) 2 dX3_source_96 rfl rfl ?_
    refine j_iconst (pc := 97) dX3_source_97 ic_1 ?_
    refine j_isub (pc := 98) dX3_source_98 ?_
    refine j_iload_n (pc := 99) 3 dX3_source_99 rfl rfl ?_
    refine j_isub (pc := 100) dX3_source_100 ?_
    refine j_goto (pc := 101) (tgt := 105) dX3_source_101 (by decide) ?_
    cases h
    exact j_iret (pc := 105) rfl dX3_source_105 (Nat.le_of_ble_eq_true rfl) (Nat.le_of_ble_eq_true rfl) (jd_i rfl rfl)
set_option maxRecDepth 20000 in
theorem c_X3_source {l : Launch} {E : jE} {F : Nat} {x0 : Int32} {x1 : Int32} {x2 : Int32} : ∀ u : Int32, f_X3_source F x0 x1 x2 = some u → jM l E K_X3_source [.int x0, .int x1, .int x2] [] (jd (some (.int u)) []) := by
  intro u h
  unfold f_X3_source at h
  refine j_met [(0, .int x0), (1, .int x1), (2, .int x2)] (by decide +kernel) (Nat.le_of_ble_eq_true rfl) rfl ?_
  refine j_iload_n (pc := 0) 2 dX3_source_0 rfl rfl ?_
  refine j_iconst (pc := 1) dX3_source_1 ic_2 ?_
  refine j_idiv (pc := 2) dX3_source_2 h (fun h => ?_)
  refine j_istore_n (pc := 3) (lv' := [(3, .int (x2 / (2 : Int32))), (0, .int x0), (1, .int x1), (2, .int x2)]) dX3_source_3 rfl (Nat.le_of_ble_eq_true rfl) rfl ?_
  refine j_iload_n (pc := 4) 3 dX3_source_4 rfl rfl ?_
  refine j_iconst (pc := 5) dX3_source_5 ic_2 ?_
  refine j_irem (pc := 6) dX3_source_6 h (fun h => ?_)
  refine j_if_ne (pc := 7) (tgt := 14) dX3_source_7 (by decide) h (fun h => ?_) (fun h => ?_)
  · refine j_iconst (pc := 14) dX3_source_14 ic_0 ?_
    exact j_sub (lv' := [(0, .int x0), (1, .int x1), (3, .int (x2 / (2 : Int32)))]) [1, 2, 0] rfl (w_X3_source_15 _ _ u h)
  · refine j_iconst (pc := 10) dX3_source_10 ic_1 ?_
    refine j_goto (pc := 11) (tgt := 15) dX3_source_11 (by decide) ?_
    exact j_sub (lv' := [(0, .int x0), (1, .int x1), (3, .int (x2 / (2 : Int32)))]) [1, 2, 0] rfl (w_X3_source_15 _ _ u h)
set_option maxRecDepth 20000 in
theorem w_X3_lacing_15 {l : Launch} {E : jE} {F : Nat} {x0 : Int32} {x1 : Int32} : ∀ (n : Nat) (x2 : Int64) (x4 : Int32) (u : Int64), g_X3_lacing_15 F x0 x1 n x2 x4 = some u → jT l E K_X3_lacing 0 0 15 [(0, .int x0), (1, .int x1), (2, .long x2), (4, .int x4)] [] [] (jd (some (.long u)) []) := by
  intro n
  induction n with
  | zero =>
    intro x2 x4 u h
    rw [g_X3_lacing_15] at h
    cases h
  | succ n ih =>
    intro x2 x4 u h
    rw [g_X3_lacing_15] at h
    refine j_iload (pc := 15) 3 dX3_lacing_15 rfl ?_
    refine j_iload_n (pc := 17) 1 dX3_lacing_17 rfl rfl ?_
    refine j_icmp_ge (pc := 18) (tgt := 41) dX3_lacing_18 (by decide) h (fun h => ?_) (fun h => ?_)
    · refine j_lload_n (pc := 41) 2 dX3_lacing_41 rfl rfl ?_
      cases h
      exact j_lret (pc := 42) rfl dX3_lacing_42 (Nat.le_of_ble_eq_true rfl) (Nat.le_of_ble_eq_true rfl) (jd_i rfl rfl)
    · refine j_lload_n (pc := 21) 2 dX3_lacing_21 rfl rfl ?_
      refine j_iload (pc := 22) 3 dX3_lacing_22 rfl ?_
      refine j_iload_n (pc := 24) 0 dX3_lacing_24 rfl rfl ?_
      refine j_iload_n (pc := 25) 1 dX3_lacing_25 rfl rfl ?_
      refine j_iload (pc := 26) 3 dX3_lacing_26 rfl ?_
      refine j_S0 (pc := 28) (Kc := K_X3_source) (As := [.int x0, .int x1, .int x4]) (rest := [.int x4, .long x2]) h c_X3_source q_X3_source m1_169 rfl rfl (Nat.le_of_ble_eq_true rfl) ⟨(Nat.le_of_ble_eq_true rfl), (Nat.le_of_ble_eq_true rfl)⟩ ⟨rfl, rfl⟩ ⟨(Nat.le_of_ble_eq_true rfl), (Nat.le_of_ble_eq_true rfl)⟩ dX3_lacing_28 (fun b1 h => ?_)
      refine j_S0 (pc := 31) (Kc := K_X4_with) (As := [.long x2, .int x4, .int b1]) (rest := []) h c_X4_with q_X4_with m1_168 rfl rfl (Nat.le_of_ble_eq_true rfl) ⟨(Nat.le_of_ble_eq_true rfl), (Nat.le_of_ble_eq_true rfl)⟩ ⟨rfl, rfl⟩ ⟨(Nat.le_of_ble_eq_true rfl), (Nat.le_of_ble_eq_true rfl)⟩ dX3_lacing_31 (fun b2 h => ?_)
      refine j_lstore_n (pc := 34) (lv' := [(2, .long b2), (0, .int x0), (1, .int x1), (4, .int x4)]) dX3_lacing_34 rfl (Nat.le_of_ble_eq_true rfl) rfl ?_
      refine j_iinc (pc := 35) (j := 3) (lv' := [(4, .int (x4 + (1 : Int32))), (2, .long b2), (0, .int x0), (1, .int x1)]) dX3_lacing_35 rfl (congrArg (fun z => x4 + z) ic_1) (Nat.le_of_ble_eq_true rfl) rfl ?_
      refine j_goto (pc := 38) (tgt := 15) dX3_lacing_38 (by decide) ?_
      exact j_sub (lv' := [(0, .int x0), (1, .int x1), (2, .long b2), (4, .int (x4 + (1 : Int32)))]) [2, 3, 1, 0] rfl (ih _ _ u h)
set_option maxRecDepth 20000 in
theorem c_X3_lacing {l : Launch} {E : jE} {F : Nat} {x0 : Int32} {x1 : Int32} : ∀ u : Int64, f_X3_lacing F x0 x1 = some u → jM l E K_X3_lacing [.int x0, .int x1] [] (jd (some (.long u)) []) := by
  intro u h
  unfold f_X3_lacing at h
  refine j_met [(0, .int x0), (1, .int x1)] (by decide +kernel) (Nat.le_of_ble_eq_true rfl) rfl ?_
  refine j_iload_n (pc := 0) 0 dX3_lacing_0 rfl rfl ?_
  refine j_iconst (pc := 1) dX3_lacing_1 ic_3 ?_
  refine j_icmp_ne (pc := 2) (tgt := 10) dX3_lacing_2 (by decide) h (fun h => ?_) (fun h => ?_)
  · refine j_lconst (pc := 10) dX3_lacing_10 lc_0 ?_
    refine j_lstore_n (pc := 11) (lv' := [(2, .long (0 : Int64)), (0, .int x0), (1, .int x1)]) dX3_lacing_11 rfl (Nat.le_of_ble_eq_true rfl) rfl ?_
    refine j_iconst (pc := 12) dX3_lacing_12 ic_0 ?_
    refine j_istore (pc := 13) (lv' := [(4, .int (0 : Int32)), (2, .long (0 : Int64)), (0, .int x0), (1, .int x1)]) dX3_lacing_13 (Nat.le_of_ble_eq_true rfl) rfl ?_
    exact j_sub (lv' := [(0, .int x0), (1, .int x1), (2, .long (0 : Int64)), (4, .int (0 : Int32))]) [2, 3, 1, 0] rfl (w_X3_lacing_15 _ _ _ u h)
  · refine j_iload_n (pc := 5) 1 dX3_lacing_5 rfl rfl ?_
    refine j_S0 (pc := 6) (Kc := K_X3_downAndUnder) (As := [.int x1]) (rest := []) h c_X3_downAndUnder q_X3_downAndUnder m1_161 rfl rfl (Nat.le_of_ble_eq_true rfl) ⟨(Nat.le_of_ble_eq_true rfl), (Nat.le_of_ble_eq_true rfl)⟩ ⟨rfl, rfl⟩ ⟨(Nat.le_of_ble_eq_true rfl), (Nat.le_of_ble_eq_true rfl)⟩ dX3_lacing_6 (fun b1 h => ?_)
    cases h
    exact j_lret (pc := 9) rfl dX3_lacing_9 (Nat.le_of_ble_eq_true rfl) (Nat.le_of_ble_eq_true rfl) (jd_i rfl rfl)
set_option maxRecDepth 20000 in
theorem w_X4_moved_6 {l : Launch} {E : jE} {F : Nat} {x0 : Int64} {x2 : Int64} {x4 : Int32} : ∀ (n : Nat) (x5 : Int64) (x7 : Int32) (u : Int64), g_X4_moved_6 F x0 x2 x4 n x5 x7 = some u → jT l E K_X4_moved 0 0 6 [(0, .long x0), (2, .long x2), (4, .int x4), (5, .long x5), (7, .int x7)] [] [] (jd (some (.long u)) []) := by
  intro n
  induction n with
  | zero =>
    intro x5 x7 u h
    rw [g_X4_moved_6] at h
    cases h
  | succ n ih =>
    intro x5 x7 u h
    rw [g_X4_moved_6] at h
    refine j_iload (pc := 6) 4 dX4_moved_6 rfl ?_
    refine j_iload (pc := 8) 2 dX4_moved_8 rfl ?_
    refine j_icmp_ge (pc := 10) (tgt := 38) dX4_moved_10 (by decide) h (fun h => ?_) (fun h => ?_)
    · refine j_lload (pc := 38) 3 dX4_moved_38 rfl ?_
      cases h
      exact j_lret (pc := 40) rfl dX4_moved_40 (Nat.le_of_ble_eq_true rfl) (Nat.le_of_ble_eq_true rfl) (jd_i rfl rfl)
    · refine j_lload (pc := 13) 3 dX4_moved_13 rfl ?_
      refine j_iload (pc := 15) 4 dX4_moved_15 rfl ?_
      refine j_lload_n (pc := 17) 0 dX4_moved_17 rfl rfl ?_
      refine j_lload_n (pc := 18) 1 dX4_moved_18 rfl rfl ?_
      refine j_iload (pc := 19) 4 dX4_moved_19 rfl ?_
      refine j_S0 (pc := 21) (Kc := K_X4_cardAt) (As := [.long x2, .int x7]) (rest := [.long x0, .int x7, .long x5]) h c_X4_cardAt q_X4_cardAt m1_179 rfl rfl (Nat.le_of_ble_eq_true rfl) ⟨(Nat.le_of_ble_eq_true rfl), (Nat.le_of_ble_eq_true rfl)⟩ ⟨rfl, rfl⟩ ⟨(Nat.le_of_ble_eq_true rfl), (Nat.le_of_ble_eq_true rfl)⟩ dX4_moved_21 (fun b1 h => ?_)
      refine j_S0 (pc := 24) (Kc := K_X4_cardAt) (As := [.long x0, .int b1]) (rest := [.int x7, .long x5]) h c_X4_cardAt q_X4_cardAt m1_179 rfl rfl (Nat.le_of_ble_eq_true rfl) ⟨(Nat.le_of_ble_eq_true rfl), (Nat.le_of_ble_eq_true rfl)⟩ ⟨rfl, rfl⟩ ⟨(Nat.le_of_ble_eq_true rfl), (Nat.le_of_ble_eq_true rfl)⟩ dX4_moved_24 (fun b2 h => ?_)
      refine j_S0 (pc := 27) (Kc := K_X4_with) (As := [.long x5, .int x7, .int b2]) (rest := []) h c_X4_with q_X4_with m1_140 rfl rfl (Nat.le_of_ble_eq_true rfl) ⟨(Nat.le_of_ble_eq_true rfl), (Nat.le_of_ble_eq_true rfl)⟩ ⟨rfl, rfl⟩ ⟨(Nat.le_of_ble_eq_true rfl), (Nat.le_of_ble_eq_true rfl)⟩ dX4_moved_27 (fun b3 h => ?_)
      refine j_lstore (pc := 30) (lv' := [(5, .long b3), (0, .long x0), (2, .long x2), (4, .int x4), (7, .int x7)]) dX4_moved_30 (Nat.le_of_ble_eq_true rfl) rfl ?_
      refine j_iinc (pc := 32) (j := 4) (lv' := [(7, .int (x7 + (1 : Int32))), (5, .long b3), (0, .long x0), (2, .long x2), (4, .int x4)]) dX4_moved_32 rfl (congrArg (fun z => x7 + z) ic_1) (Nat.le_of_ble_eq_true rfl) rfl ?_
      refine j_goto (pc := 35) (tgt := 6) dX4_moved_35 (by decide) ?_
      exact j_sub (lv' := [(0, .long x0), (2, .long x2), (4, .int x4), (5, .long b3), (7, .int (x7 + (1 : Int32)))]) [2, 3, 4, 1, 0] rfl (ih _ _ u h)
set_option maxRecDepth 20000 in
theorem c_X4_moved {l : Launch} {E : jE} {F : Nat} {x0 : Int64} {x2 : Int64} {x4 : Int32} : ∀ u : Int64, f_X4_moved F x0 x2 x4 = some u → jM l E K_X4_moved [.long x0, .long x2, .int x4] [] (jd (some (.long u)) []) := by
  intro u h
  unfold f_X4_moved at h
  refine j_met [(0, .long x0), (2, .long x2), (4, .int x4)] (by decide +kernel) (Nat.le_of_ble_eq_true rfl) rfl ?_
  refine j_lconst (pc := 0) dX4_moved_0 lc_0 ?_
  refine j_lstore (pc := 1) (lv' := [(5, .long (0 : Int64)), (0, .long x0), (2, .long x2), (4, .int x4)]) dX4_moved_1 (Nat.le_of_ble_eq_true rfl) rfl ?_
  refine j_iconst (pc := 3) dX4_moved_3 ic_0 ?_
  refine j_istore (pc := 4) (lv' := [(7, .int (0 : Int32)), (5, .long (0 : Int64)), (0, .long x0), (2, .long x2), (4, .int x4)]) dX4_moved_4 (Nat.le_of_ble_eq_true rfl) rfl ?_
  exact j_sub (lv' := [(0, .long x0), (2, .long x2), (4, .int x4), (5, .long (0 : Int64)), (7, .int (0 : Int32))]) [2, 3, 4, 1, 0] rfl (w_X4_moved_6 _ _ _ u h)
set_option maxRecDepth 20000 in
theorem c_X5_addAct {l : Launch} {E : jE} {F : Nat} {x1 : Int64} {v_o_cards : Int32} {a_o : Nat} {w_o_colours : Int32} {v_o_acts : Int32} {v_o_deal : Int64} {v_o_cardsAreFixed : Int32} : ∀ u : Int32 × Int32 × Int64 × Int32, f_X5_addAct F x1 v_o_cards v_o_acts v_o_deal v_o_cardsAreFixed = some u → jM l E K_X5_addAct [.ref a_o, .long x1] [jO a_o 2 [.int v_o_cards, .int w_o_colours, .int v_o_acts, .long v_o_deal, .int v_o_cardsAreFixed]] (jd (some (.int u.1)) [jO a_o 2 [.int v_o_cards, .int w_o_colours, .int u.2.1, .long u.2.2.1, .int u.2.2.2]]) := by
  intro u h
  unfold f_X5_addAct at h
  refine j_met [(0, .ref a_o), (1, .long x1)] (by decide +kernel) (Nat.le_of_ble_eq_true rfl) rfl ?_
  refine j_aload_n (pc := 0) 0 dX5_addAct_0 rfl rfl ?_
  refine j_get (pc := 1) (v := .int v_o_acts) 0 2 rfl rfl (Nat.le_of_ble_eq_true rfl) iwX5 m1_50 rfl dX5_addAct_1 ?_
  refine j_bipush (pc := 4) dX5_addAct_4 bc_16 ?_
  refine j_icmp_lt (pc := 6) (tgt := 11) dX5_addAct_6 (by decide) h (fun h => ?_) (fun h => ?_)
  · refine j_aload_n (pc := 11) 0 dX5_addAct_11 rfl rfl ?_
    refine j_iconst (pc := 12) dX5_addAct_12 ic_1 ?_
    refine j_put (pc := 13) (w' := [jO a_o 2 [.int v_o_cards, .int w_o_colours, .int v_o_acts, .long v_o_deal, .int (1 : Int32)]]) tyX5 0 4 tyX5_ok nmX5 rfl rfl (Nat.le_of_ble_eq_true rfl) iwX5 m1_54 rfl rfl (j_bz (Or.inr rfl)).1 (j_bz (Or.inr rfl)).2 (Nat.le_of_ble_eq_true rfl) dX5_addAct_13 rfl ?_
    refine j_aload_n (pc := 16) 0 dX5_addAct_16 rfl rfl ?_
    refine j_aload_n (pc := 17) 0 dX5_addAct_17 rfl rfl ?_
    refine j_get (pc := 18) (v := .long v_o_deal) 0 3 rfl rfl (Nat.le_of_ble_eq_true rfl) iwX5 m1_52 rfl dX5_addAct_18 ?_
    refine j_lload_n (pc := 21) 1 dX5_addAct_21 rfl rfl ?_
    refine j_aload_n (pc := 22) 0 dX5_addAct_22 rfl rfl ?_
    refine j_get (pc := 23) (v := .int v_o_cards) 0 0 rfl rfl (Nat.le_of_ble_eq_true rfl) iwX5 m1_48 rfl dX5_addAct_23 ?_
    refine j_S0 (pc := 26) (Kc := K_X4_moved) (As := [.long v_o_deal, .long x1, .int v_o_cards]) (rest := [.ref a_o]) h c_X4_moved q_X4_moved m1_176 rfl rfl (Nat.le_of_ble_eq_true rfl) ⟨(Nat.le_of_ble_eq_true rfl), (Nat.le_of_ble_eq_true rfl)⟩ ⟨rfl, rfl⟩ ⟨(Nat.le_of_ble_eq_true rfl), (Nat.le_of_ble_eq_true rfl)⟩ dX5_addAct_26 (fun b1 h => ?_)
    refine j_put (pc := 29) (w' := [jO a_o 2 [.int v_o_cards, .int w_o_colours, .int v_o_acts, .long b1, .int (1 : Int32)]]) tyX5 0 3 tyX5_ok nmX5 rfl rfl (Nat.le_of_ble_eq_true rfl) iwX5 m1_52 rfl rfl rfl rfl (Nat.le_of_ble_eq_true rfl) dX5_addAct_29 rfl ?_
    refine j_aload_n (pc := 32) 0 dX5_addAct_32 rfl rfl ?_
    refine j_dup (pc := 33) dX5_addAct_33 rfl ?_
    refine j_get (pc := 34) (v := .int v_o_acts) 0 2 rfl rfl (Nat.le_of_ble_eq_true rfl) iwX5 m1_50 rfl dX5_addAct_34 ?_
    refine j_iconst (pc := 37) dX5_addAct_37 ic_1 ?_
    refine j_iadd (pc := 38) dX5_addAct_38 ?_
    refine j_put (pc := 39) (w' := [jO a_o 2 [.int v_o_cards, .int w_o_colours, .int (v_o_acts + (1 : Int32)), .long b1, .int (1 : Int32)]]) tyX5 0 2 tyX5_ok nmX5 rfl rfl (Nat.le_of_ble_eq_true rfl) iwX5 m1_50 rfl rfl rfl rfl (Nat.le_of_ble_eq_true rfl) dX5_addAct_39 rfl ?_
    refine j_iconst (pc := 42) dX5_addAct_42 ic_1 ?_
    cases h
    exact j_zret (pc := 43) rfl (Or.inr rfl) dX5_addAct_43 (Nat.le_of_ble_eq_true rfl) (Nat.le_of_ble_eq_true rfl) (jd_i rfl rfl)
  · refine j_iconst (pc := 9) dX5_addAct_9 ic_0 ?_
    cases h
    exact j_zret (pc := 10) rfl (Or.inl rfl) dX5_addAct_10 (Nat.le_of_ble_eq_true rfl) (Nat.le_of_ble_eq_true rfl) (jd_i rfl rfl)
set_option maxRecDepth 20000 in
theorem c_X5_tellLacing {l : Launch} {E : jE} {F : Nat} {x1 : Int32} {v_o_cards : Int32} {a_o : Nat} {w_o_colours : Int32} {v_o_acts : Int32} {v_o_deal : Int64} {v_o_cardsAreFixed : Int32} : ∀ u : Int32 × Int32 × Int64 × Int32, f_X5_tellLacing F x1 v_o_cards v_o_acts v_o_deal v_o_cardsAreFixed = some u → jM l E K_X5_tellLacing [.ref a_o, .int x1] [jO a_o 2 [.int v_o_cards, .int w_o_colours, .int v_o_acts, .long v_o_deal, .int v_o_cardsAreFixed]] (jd (some (.int u.1)) [jO a_o 2 [.int v_o_cards, .int w_o_colours, .int u.2.1, .long u.2.2.1, .int u.2.2.2]]) := by
  intro u h
  unfold f_X5_tellLacing at h
  refine j_met [(0, .ref a_o), (1, .int x1)] (by decide +kernel) (Nat.le_of_ble_eq_true rfl) rfl ?_
  refine j_iload_n (pc := 0) 1 dX5_tellLacing_0 rfl rfl ?_
  refine j_SN (pc := 1) (Kc := K_X9_isKind) (As := [.int x1]) (rest := []) RX9 h c_X9_isKind q_X9_isKind (List.mem_of_getElem? (i := 13) rfl) rfl rfl (Nat.le_of_ble_eq_true rfl) ⟨(Nat.le_of_ble_eq_true rfl), (Nat.le_of_ble_eq_true rfl)⟩ ⟨rfl, rfl⟩ ⟨(Nat.le_of_ble_eq_true rfl), (Nat.le_of_ble_eq_true rfl)⟩ dX5_tellLacing_1 (fun b1 h => ?_)
  refine j_if_eq (pc := 4) (tgt := 26) dX5_tellLacing_4 (by decide) h (fun h => ?_) (fun h => ?_)
  · refine j_iconst (pc := 26) dX5_tellLacing_26 ic_0 ?_
    cases h
    exact j_zret (pc := 27) rfl (Or.inl rfl) dX5_tellLacing_27 (Nat.le_of_ble_eq_true rfl) (Nat.le_of_ble_eq_true rfl) (jd_i rfl rfl)
  · refine j_aload_n (pc := 7) 0 dX5_tellLacing_7 rfl rfl ?_
    refine j_iload_n (pc := 8) 1 dX5_tellLacing_8 rfl rfl ?_
    refine j_aload_n (pc := 9) 0 dX5_tellLacing_9 rfl rfl ?_
    refine j_get (pc := 10) (v := .int v_o_cards) 0 0 rfl rfl (Nat.le_of_ble_eq_true rfl) iwX5 m1_48 rfl dX5_tellLacing_10 ?_
    refine j_S0 (pc := 13) (Kc := K_X3_lacing) (As := [.int x1, .int v_o_cards]) (rest := [.ref a_o]) h c_X3_lacing q_X3_lacing m1_158 rfl rfl (Nat.le_of_ble_eq_true rfl) ⟨(Nat.le_of_ble_eq_true rfl), (Nat.le_of_ble_eq_true rfl)⟩ ⟨rfl, rfl⟩ ⟨(Nat.le_of_ble_eq_true rfl), (Nat.le_of_ble_eq_true rfl)⟩ dX5_tellLacing_13 (fun b2 h => ?_)
    refine j_V (pc := 16) (q0 := 0) (Kc := K_X5_addAct) (As := [.long b2]) (rest := []) (wc := [jO a_o 2 [.int v_o_cards, .int w_o_colours, .int v_o_acts, .long v_o_deal, .int v_o_cardsAreFixed]]) (w' := fun b3 => [jO a_o 2 [.int v_o_cards, .int w_o_colours, .int b3.2.1, .long b3.2.2.1, .int b3.2.2.2]]) (st1 := fun b3 => [.int b3.1]) [0] rfl rfl rfl h c_X5_addAct q_X5_addAct m1_172 rfl rfl (Nat.le_of_ble_eq_true rfl) ⟨(Nat.le_of_ble_eq_true rfl), (Nat.le_of_ble_eq_true rfl)⟩ ⟨rfl, rfl⟩ ⟨(Nat.le_of_ble_eq_true rfl), (Nat.le_of_ble_eq_true rfl)⟩ dX5_tellLacing_16 rfl (by decide) (fun _ => rfl) (fun _ => rfl) (fun _ => rfl) (fun b3 h => ?_)
    refine j_if_eq (pc := 19) (tgt := 26) dX5_tellLacing_19 (by decide) h (fun h => ?_) (fun h => ?_)
    · refine j_iconst (pc := 26) dX5_tellLacing_26 ic_0 ?_
      cases h
      exact j_zret (pc := 27) rfl (Or.inl rfl) dX5_tellLacing_27 (Nat.le_of_ble_eq_true rfl) (Nat.le_of_ble_eq_true rfl) (jd_i rfl rfl)
    · refine j_iconst (pc := 22) dX5_tellLacing_22 ic_1 ?_
      refine j_goto (pc := 23) (tgt := 27) dX5_tellLacing_23 (by decide) ?_
      cases h
      exact j_zret (pc := 27) rfl (Or.inr rfl) dX5_tellLacing_27 (Nat.le_of_ble_eq_true rfl) (Nat.le_of_ble_eq_true rfl) (jd_i rfl rfl)
set_option maxRecDepth 20000 in
theorem w_X3_cutAt_5 {l : Launch} {E : jE} {F : Nat} {x0 : Int32} {x1 : Int32} : ∀ (n : Nat) (x2 : Int64) (x4 : Int32) (u : Int64), g_X3_cutAt_5 F x0 x1 n x2 x4 = some u → jT l E K_X3_cutAt 0 0 5 [(0, .int x0), (1, .int x1), (2, .long x2), (4, .int x4)] [] [] (jd (some (.long u)) []) := by
  intro n
  induction n with
  | zero =>
    intro x2 x4 u h
    rw [g_X3_cutAt_5] at h
    cases h
  | succ n ih =>
    intro x2 x4 u h
    rw [g_X3_cutAt_5] at h
    refine j_iload (pc := 5) 3 dX3_cutAt_5 rfl ?_
    refine j_iload_n (pc := 7) 1 dX3_cutAt_7 rfl rfl ?_
    refine j_icmp_ge (pc := 8) (tgt := 45) dX3_cutAt_8 (by decide) h (fun h => ?_) (fun h => ?_)
    · refine j_lload_n (pc := 45) 2 dX3_cutAt_45 rfl rfl ?_
      cases h
      exact j_lret (pc := 46) rfl dX3_cutAt_46 (Nat.le_of_ble_eq_true rfl) (Nat.le_of_ble_eq_true rfl) (jd_i rfl rfl)
    · refine j_iload (pc := 11) 3 dX3_cutAt_11 rfl ?_
      refine j_iload_n (pc := 13) 0 dX3_cutAt_13 rfl rfl ?_
      refine j_iadd (pc := 14) dX3_cutAt_14 ?_
      refine j_istore (pc := 15) (lv' := [(5, .int (x4 + x0)), (0, .int x0), (1, .int x1), (2, .long x2), (4, .int x4)]) dX3_cutAt_15 (Nat.le_of_ble_eq_true rfl) rfl ?_
      refine j_lload_n (pc := 17) 3 dX3_cutAt_17 rfl rfl ?_
      refine j_iload (pc := 18) 4 dX3_cutAt_18 rfl ?_
      refine j_iload (pc := 20) 0 dX3_cutAt_20 rfl ?_
      refine j_iload_n (pc := 22) 2 dX3_cutAt_22 rfl rfl ?_
      refine j_icmp_ge (pc := 23) (tgt := 31) dX3_cutAt_23 (by decide) h (fun h => ?_) (fun h => ?_)
      · refine j_iload (pc := 31) 0 dX3_cutAt_31 rfl ?_
        refine j_iload_n (pc := 33) 2 dX3_cutAt_33 rfl rfl ?_
        refine j_isub (pc := 34) dX3_cutAt_34 ?_
        refine j_S0 (pc := 35) (Kc := K_X4_with) (As := [.long x2, .int x4, .int ((x4 + x0) - x1)]) (rest := []) h c_X4_with q_X4_with m1_168 rfl rfl (Nat.le_of_ble_eq_true rfl) ⟨(Nat.le_of_ble_eq_true rfl), (Nat.le_of_ble_eq_true rfl)⟩ ⟨rfl, rfl⟩ ⟨(Nat.le_of_ble_eq_true rfl), (Nat.le_of_ble_eq_true rfl)⟩ dX3_cutAt_35 (fun b1 h => ?_)
        refine j_lstore_n (pc := 38) (lv' := [(2, .long b1), (5, .int (x4 + x0)), (0, .int x0), (1, .int x1), (4, .int x4)]) dX3_cutAt_38 rfl (Nat.le_of_ble_eq_true rfl) rfl ?_
        refine j_iinc (pc := 39) (j := 4) (lv' := [(4, .int (x4 + (1 : Int32))), (2, .long b1), (5, .int (x4 + x0)), (0, .int x0), (1, .int x1)]) dX3_cutAt_39 rfl (congrArg (fun z => x4 + z) ic_1) (Nat.le_of_ble_eq_true rfl) rfl ?_
        refine j_goto (pc := 42) (tgt := 5) dX3_cutAt_42 (by decide) ?_
        exact j_sub (lv' := [(0, .int x0), (1, .int x1), (2, .long b1), (4, .int (x4 + (1 : Int32)))]) [3, 4, 1, 0] rfl (ih _ _ u h)
      · refine j_iload (pc := 26) 0 dX3_cutAt_26 rfl ?_
        refine j_goto (pc := 28) (tgt := 35) dX3_cutAt_28 (by decide) ?_
        refine j_S0 (pc := 35) (Kc := K_X4_with) (As := [.long x2, .int x4, .int (x4 + x0)]) (rest := []) h c_X4_with q_X4_with m1_168 rfl rfl (Nat.le_of_ble_eq_true rfl) ⟨(Nat.le_of_ble_eq_true rfl), (Nat.le_of_ble_eq_true rfl)⟩ ⟨rfl, rfl⟩ ⟨(Nat.le_of_ble_eq_true rfl), (Nat.le_of_ble_eq_true rfl)⟩ dX3_cutAt_35 (fun b2 h => ?_)
        refine j_lstore_n (pc := 38) (lv' := [(2, .long b2), (5, .int (x4 + x0)), (0, .int x0), (1, .int x1), (4, .int x4)]) dX3_cutAt_38 rfl (Nat.le_of_ble_eq_true rfl) rfl ?_
        refine j_iinc (pc := 39) (j := 4) (lv' := [(4, .int (x4 + (1 : Int32))), (2, .long b2), (5, .int (x4 + x0)), (0, .int x0), (1, .int x1)]) dX3_cutAt_39 rfl (congrArg (fun z => x4 + z) ic_1) (Nat.le_of_ble_eq_true rfl) rfl ?_
        refine j_goto (pc := 42) (tgt := 5) dX3_cutAt_42 (by decide) ?_
        exact j_sub (lv' := [(0, .int x0), (1, .int x1), (2, .long b2), (4, .int (x4 + (1 : Int32)))]) [3, 4, 1, 0] rfl (ih _ _ u h)
set_option maxRecDepth 20000 in
theorem c_X3_cutAt {l : Launch} {E : jE} {F : Nat} {x0 : Int32} {x1 : Int32} : ∀ u : Int64, f_X3_cutAt F x0 x1 = some u → jM l E K_X3_cutAt [.int x0, .int x1] [] (jd (some (.long u)) []) := by
  intro u h
  unfold f_X3_cutAt at h
  refine j_met [(0, .int x0), (1, .int x1)] (by decide +kernel) (Nat.le_of_ble_eq_true rfl) rfl ?_
  refine j_lconst (pc := 0) dX3_cutAt_0 lc_0 ?_
  refine j_lstore_n (pc := 1) (lv' := [(2, .long (0 : Int64)), (0, .int x0), (1, .int x1)]) dX3_cutAt_1 rfl (Nat.le_of_ble_eq_true rfl) rfl ?_
  refine j_iconst (pc := 2) dX3_cutAt_2 ic_0 ?_
  refine j_istore (pc := 3) (lv' := [(4, .int (0 : Int32)), (2, .long (0 : Int64)), (0, .int x0), (1, .int x1)]) dX3_cutAt_3 (Nat.le_of_ble_eq_true rfl) rfl ?_
  exact j_sub (lv' := [(0, .int x0), (1, .int x1), (2, .long (0 : Int64)), (4, .int (0 : Int32))]) [2, 3, 1, 0] rfl (w_X3_cutAt_5 _ _ _ u h)
set_option maxRecDepth 20000 in
theorem c_X5_tellCut {l : Launch} {E : jE} {F : Nat} {x1 : Int32} {v_o_cards : Int32} {a_o : Nat} {w_o_colours : Int32} {v_o_acts : Int32} {v_o_deal : Int64} {v_o_cardsAreFixed : Int32} : ∀ u : Int32 × Int32 × Int64 × Int32, f_X5_tellCut F x1 v_o_cards v_o_acts v_o_deal v_o_cardsAreFixed = some u → jM l E K_X5_tellCut [.ref a_o, .int x1] [jO a_o 2 [.int v_o_cards, .int w_o_colours, .int v_o_acts, .long v_o_deal, .int v_o_cardsAreFixed]] (jd (some (.int u.1)) [jO a_o 2 [.int v_o_cards, .int w_o_colours, .int u.2.1, .long u.2.2.1, .int u.2.2.2]]) := by
  intro u h
  unfold f_X5_tellCut at h
  refine j_met [(0, .ref a_o), (1, .int x1)] (by decide +kernel) (Nat.le_of_ble_eq_true rfl) rfl ?_
  refine j_iload_n (pc := 0) 1 dX5_tellCut_0 rfl rfl ?_
  refine j_iconst (pc := 1) dX5_tellCut_1 ic_0 ?_
  refine j_aload_n (pc := 2) 0 dX5_tellCut_2 rfl rfl ?_
  refine j_get (pc := 3) (v := .int v_o_cards) 0 0 rfl rfl (Nat.le_of_ble_eq_true rfl) iwX5 m1_48 rfl dX5_tellCut_3 ?_
  refine j_iconst (pc := 6) dX5_tellCut_6 ic_1 ?_
  refine j_isub (pc := 7) dX5_tellCut_7 ?_
  refine j_SN (pc := 8) (Kc := K_X9_within) (As := [.int x1, .int (0 : Int32), .int (v_o_cards - (1 : Int32))]) (rest := []) RX9 h c_X9_within q_X9_within (List.mem_of_getElem? (i := 12) rfl) rfl rfl (Nat.le_of_ble_eq_true rfl) ⟨(Nat.le_of_ble_eq_true rfl), (Nat.le_of_ble_eq_true rfl)⟩ ⟨rfl, rfl⟩ ⟨(Nat.le_of_ble_eq_true rfl), (Nat.le_of_ble_eq_true rfl)⟩ dX5_tellCut_8 (fun b1 h => ?_)
  refine j_if_eq (pc := 11) (tgt := 33) dX5_tellCut_11 (by decide) h (fun h => ?_) (fun h => ?_)
  · refine j_iconst (pc := 33) dX5_tellCut_33 ic_0 ?_
    cases h
    exact j_zret (pc := 34) rfl (Or.inl rfl) dX5_tellCut_34 (Nat.le_of_ble_eq_true rfl) (Nat.le_of_ble_eq_true rfl) (jd_i rfl rfl)
  · refine j_aload_n (pc := 14) 0 dX5_tellCut_14 rfl rfl ?_
    refine j_iload_n (pc := 15) 1 dX5_tellCut_15 rfl rfl ?_
    refine j_aload_n (pc := 16) 0 dX5_tellCut_16 rfl rfl ?_
    refine j_get (pc := 17) (v := .int v_o_cards) 0 0 rfl rfl (Nat.le_of_ble_eq_true rfl) iwX5 m1_48 rfl dX5_tellCut_17 ?_
    refine j_S0 (pc := 20) (Kc := K_X3_cutAt) (As := [.int x1, .int v_o_cards]) (rest := [.ref a_o]) h c_X3_cutAt q_X3_cutAt m1_184 rfl rfl (Nat.le_of_ble_eq_true rfl) ⟨(Nat.le_of_ble_eq_true rfl), (Nat.le_of_ble_eq_true rfl)⟩ ⟨rfl, rfl⟩ ⟨(Nat.le_of_ble_eq_true rfl), (Nat.le_of_ble_eq_true rfl)⟩ dX5_tellCut_20 (fun b2 h => ?_)
    refine j_V (pc := 23) (q0 := 0) (Kc := K_X5_addAct) (As := [.long b2]) (rest := []) (wc := [jO a_o 2 [.int v_o_cards, .int w_o_colours, .int v_o_acts, .long v_o_deal, .int v_o_cardsAreFixed]]) (w' := fun b3 => [jO a_o 2 [.int v_o_cards, .int w_o_colours, .int b3.2.1, .long b3.2.2.1, .int b3.2.2.2]]) (st1 := fun b3 => [.int b3.1]) [0] rfl rfl rfl h c_X5_addAct q_X5_addAct m1_172 rfl rfl (Nat.le_of_ble_eq_true rfl) ⟨(Nat.le_of_ble_eq_true rfl), (Nat.le_of_ble_eq_true rfl)⟩ ⟨rfl, rfl⟩ ⟨(Nat.le_of_ble_eq_true rfl), (Nat.le_of_ble_eq_true rfl)⟩ dX5_tellCut_23 rfl (by decide) (fun _ => rfl) (fun _ => rfl) (fun _ => rfl) (fun b3 h => ?_)
    refine j_if_eq (pc := 26) (tgt := 33) dX5_tellCut_26 (by decide) h (fun h => ?_) (fun h => ?_)
    · refine j_iconst (pc := 33) dX5_tellCut_33 ic_0 ?_
      cases h
      exact j_zret (pc := 34) rfl (Or.inl rfl) dX5_tellCut_34 (Nat.le_of_ble_eq_true rfl) (Nat.le_of_ble_eq_true rfl) (jd_i rfl rfl)
    · refine j_iconst (pc := 29) dX5_tellCut_29 ic_1 ?_
      refine j_goto (pc := 30) (tgt := 34) dX5_tellCut_30 (by decide) ?_
      cases h
      exact j_zret (pc := 34) rfl (Or.inr rfl) dX5_tellCut_34 (Nat.le_of_ble_eq_true rfl) (Nat.le_of_ble_eq_true rfl) (jd_i rfl rfl)
set_option maxRecDepth 20000 in
theorem c_X5_tellFirst {l : Launch} {E : jE} {F : Nat} {a_o : Nat} {v_o_cards : Int32} {v_o_colours : Int32} {v_o_acts : Int32} {v_o_deal : Int64} {v_o_cardsAreFixed : Int32} : ∀ u : Int32 × Int32 × Int32 × Int64 × Int32, f_X5_tellFirst F v_o_cards v_o_colours v_o_acts v_o_deal v_o_cardsAreFixed = some u → jM l E K_X5_tellFirst [.ref a_o] [jO a_o 2 [.int v_o_cards, .int v_o_colours, .int v_o_acts, .long v_o_deal, .int v_o_cardsAreFixed]] (jd none [jO a_o 2 [.int u.1, .int u.2.1, .int u.2.2.1, .long u.2.2.2.1, .int u.2.2.2.2]]) := by
  intro u h
  unfold f_X5_tellFirst at h
  refine j_met [(0, .ref a_o)] (by decide +kernel) (Nat.le_of_ble_eq_true rfl) rfl ?_
  refine j_aload_n (pc := 0) 0 dX5_tellFirst_0 rfl rfl ?_
  refine j_bipush (pc := 1) dX5_tellFirst_1 bc_10 ?_
  refine j_V (pc := 3) (q0 := 0) (Kc := K_X5_begin) (As := [.int (10 : Int32)]) (rest := []) (wc := [jO a_o 2 [.int v_o_cards, .int v_o_colours, .int v_o_acts, .long v_o_deal, .int v_o_cardsAreFixed]]) (w' := fun b1 => [jO a_o 2 [.int b1.1, .int b1.2.1, .int b1.2.2.1, .long b1.2.2.2, .int v_o_cardsAreFixed]]) (st1 := fun b1 => []) [0] rfl rfl rfl h c_X5_begin q_X5_begin m1_132 rfl rfl (Nat.le_of_ble_eq_true rfl) ⟨(Nat.le_of_ble_eq_true rfl), (Nat.le_of_ble_eq_true rfl)⟩ ⟨rfl, rfl⟩ ⟨(Nat.le_of_ble_eq_true rfl), (Nat.le_of_ble_eq_true rfl)⟩ dX5_tellFirst_3 rfl (by decide) (fun _ => rfl) (fun _ => rfl) (fun _ => rfl) (fun b1 h => ?_)
  refine j_aload_n (pc := 6) 0 dX5_tellFirst_6 rfl rfl ?_
  refine j_iconst (pc := 7) dX5_tellFirst_7 ic_3 ?_
  refine j_iconst (pc := 8) dX5_tellFirst_8 ic_0 ?_
  refine j_V (pc := 9) (q0 := 0) (Kc := K_X5_tellColour) (As := [.int (3 : Int32), .int (0 : Int32)]) (rest := []) (wc := [jO a_o 2 [.int b1.1, .int b1.2.1, .int b1.2.2.1, .long b1.2.2.2, .int v_o_cardsAreFixed]]) (w' := fun b2 => [jO a_o 2 [.int b1.1, .int b2.2.1, .int b1.2.2.1, .long b1.2.2.2, .int b2.2.2]]) (st1 := fun b2 => [.int b2.1]) [0] rfl rfl rfl h c_X5_tellColour q_X5_tellColour m1_143 rfl rfl (Nat.le_of_ble_eq_true rfl) ⟨(Nat.le_of_ble_eq_true rfl), (Nat.le_of_ble_eq_true rfl)⟩ ⟨rfl, rfl⟩ ⟨(Nat.le_of_ble_eq_true rfl), (Nat.le_of_ble_eq_true rfl)⟩ dX5_tellFirst_9 rfl (by decide) (fun _ => rfl) (fun _ => rfl) (fun _ => rfl) (fun b2 h => ?_)
  refine j_pop (pc := 12) dX5_tellFirst_12 rfl ?_
  refine j_aload_n (pc := 13) 0 dX5_tellFirst_13 rfl rfl ?_
  refine j_iconst (pc := 14) dX5_tellFirst_14 ic_4 ?_
  refine j_iconst (pc := 15) dX5_tellFirst_15 ic_2 ?_
  refine j_V (pc := 16) (q0 := 0) (Kc := K_X5_tellColour) (As := [.int (4 : Int32), .int (2 : Int32)]) (rest := []) (wc := [jO a_o 2 [.int b1.1, .int b2.2.1, .int b1.2.2.1, .long b1.2.2.2, .int b2.2.2]]) (w' := fun b3 => [jO a_o 2 [.int b1.1, .int b3.2.1, .int b1.2.2.1, .long b1.2.2.2, .int b3.2.2]]) (st1 := fun b3 => [.int b3.1]) [0] rfl rfl rfl h c_X5_tellColour q_X5_tellColour m1_143 rfl rfl (Nat.le_of_ble_eq_true rfl) ⟨(Nat.le_of_ble_eq_true rfl), (Nat.le_of_ble_eq_true rfl)⟩ ⟨rfl, rfl⟩ ⟨(Nat.le_of_ble_eq_true rfl), (Nat.le_of_ble_eq_true rfl)⟩ dX5_tellFirst_16 rfl (by decide) (fun _ => rfl) (fun _ => rfl) (fun _ => rfl) (fun b3 h => ?_)
  refine j_pop (pc := 19) dX5_tellFirst_19 rfl ?_
  refine j_aload_n (pc := 20) 0 dX5_tellFirst_20 rfl rfl ?_
  refine j_iconst (pc := 21) dX5_tellFirst_21 ic_0 ?_
  refine j_V (pc := 22) (q0 := 0) (Kc := K_X5_tellLacing) (As := [.int (0 : Int32)]) (rest := []) (wc := [jO a_o 2 [.int b1.1, .int b3.2.1, .int b1.2.2.1, .long b1.2.2.2, .int b3.2.2]]) (w' := fun b4 => [jO a_o 2 [.int b1.1, .int b3.2.1, .int b4.2.1, .long b4.2.2.1, .int b4.2.2.2]]) (st1 := fun b4 => [.int b4.1]) [0] rfl rfl rfl h c_X5_tellLacing q_X5_tellLacing m1_150 rfl rfl (Nat.le_of_ble_eq_true rfl) ⟨(Nat.le_of_ble_eq_true rfl), (Nat.le_of_ble_eq_true rfl)⟩ ⟨rfl, rfl⟩ ⟨(Nat.le_of_ble_eq_true rfl), (Nat.le_of_ble_eq_true rfl)⟩ dX5_tellFirst_22 rfl (by decide) (fun _ => rfl) (fun _ => rfl) (fun _ => rfl) (fun b4 h => ?_)
  refine j_pop (pc := 25) dX5_tellFirst_25 rfl ?_
  refine j_aload_n (pc := 26) 0 dX5_tellFirst_26 rfl rfl ?_
  refine j_iconst (pc := 27) dX5_tellFirst_27 ic_3 ?_
  refine j_V (pc := 28) (q0 := 0) (Kc := K_X5_tellCut) (As := [.int (3 : Int32)]) (rest := []) (wc := [jO a_o 2 [.int b1.1, .int b3.2.1, .int b4.2.1, .long b4.2.2.1, .int b4.2.2.2]]) (w' := fun b5 => [jO a_o 2 [.int b1.1, .int b3.2.1, .int b5.2.1, .long b5.2.2.1, .int b5.2.2.2]]) (st1 := fun b5 => [.int b5.1]) [0] rfl rfl rfl h c_X5_tellCut q_X5_tellCut m1_180 rfl rfl (Nat.le_of_ble_eq_true rfl) ⟨(Nat.le_of_ble_eq_true rfl), (Nat.le_of_ble_eq_true rfl)⟩ ⟨rfl, rfl⟩ ⟨(Nat.le_of_ble_eq_true rfl), (Nat.le_of_ble_eq_true rfl)⟩ dX5_tellFirst_28 rfl (by decide) (fun _ => rfl) (fun _ => rfl) (fun _ => rfl) (fun b5 h => ?_)
  refine j_pop (pc := 31) dX5_tellFirst_31 rfl ?_
  refine j_aload_n (pc := 32) 0 dX5_tellFirst_32 rfl rfl ?_
  refine j_iconst (pc := 33) dX5_tellFirst_33 ic_1 ?_
  refine j_V (pc := 34) (q0 := 0) (Kc := K_X5_tellLacing) (As := [.int (1 : Int32)]) (rest := []) (wc := [jO a_o 2 [.int b1.1, .int b3.2.1, .int b5.2.1, .long b5.2.2.1, .int b5.2.2.2]]) (w' := fun b6 => [jO a_o 2 [.int b1.1, .int b3.2.1, .int b6.2.1, .long b6.2.2.1, .int b6.2.2.2]]) (st1 := fun b6 => [.int b6.1]) [0] rfl rfl rfl h c_X5_tellLacing q_X5_tellLacing m1_150 rfl rfl (Nat.le_of_ble_eq_true rfl) ⟨(Nat.le_of_ble_eq_true rfl), (Nat.le_of_ble_eq_true rfl)⟩ ⟨rfl, rfl⟩ ⟨(Nat.le_of_ble_eq_true rfl), (Nat.le_of_ble_eq_true rfl)⟩ dX5_tellFirst_34 rfl (by decide) (fun _ => rfl) (fun _ => rfl) (fun _ => rfl) (fun b6 h => ?_)
  refine j_pop (pc := 37) dX5_tellFirst_37 rfl ?_
  cases h
  exact j_vret (pc := 38) rfl dX5_tellFirst_38 (Nat.le_of_ble_eq_true rfl) (Nat.le_of_ble_eq_true rfl) (jd_i rfl rfl)
set_option maxRecDepth 20000 in
theorem c_X8_append {l : Launch} {E : jE} {F : Nat} {x1 : Int32} {a_o a_o_letters : Nat} {w_o_next : Int32} {v_o_length : Int32} {f_o_letters : Nat → Int32} : ∀ u : Int32 × Int32 × (Nat → Int32), f_X8_append F x1 v_o_length f_o_letters = some u → jM l E K_X8_append [.ref a_o, .int x1] [jO a_o 5 [.ref a_o_letters, .int v_o_length, .int w_o_next], jH E a_o_letters 200 f_o_letters] (jd (some (.int u.1)) [jO a_o 5 [.ref a_o_letters, .int u.2.1, .int w_o_next], jH E a_o_letters 200 u.2.2]) := by
  intro u h
  unfold f_X8_append at h
  refine j_met [(0, .ref a_o), (1, .int x1)] (by decide +kernel) (Nat.le_of_ble_eq_true rfl) rfl ?_
  refine j_aload_n (pc := 0) 0 dX8_append_0 rfl rfl ?_
  refine j_get (pc := 1) (v := .int v_o_length) 0 1 rfl rfl (Nat.le_of_ble_eq_true rfl) iwX8 m1_29 rfl dX8_append_1 ?_
  refine j_if_lt (pc := 4) (tgt := 17) dX8_append_4 (by decide) h (fun h => ?_) (fun h => ?_)
  · refine j_iconst (pc := 17) dX8_append_17 ic_0 ?_
    cases h
    exact j_zret (pc := 18) rfl (Or.inl rfl) dX8_append_18 (Nat.le_of_ble_eq_true rfl) (Nat.le_of_ble_eq_true rfl) (jd_i rfl rfl)
  · refine j_aload_n (pc := 7) 0 dX8_append_7 rfl rfl ?_
    refine j_get (pc := 8) (v := .int v_o_length) 0 1 rfl rfl (Nat.le_of_ble_eq_true rfl) iwX8 m1_29 rfl dX8_append_8 ?_
    refine j_sipush (pc := 11) dX8_append_11 sc_200 ?_
    refine j_icmp_lt (pc := 14) (tgt := 19) dX8_append_14 (by decide) h (fun h => ?_) (fun h => ?_)
    · refine j_aload_n (pc := 19) 0 dX8_append_19 rfl rfl ?_
      refine j_get (pc := 20) (v := .ref a_o_letters) 0 0 rfl rfl (Nat.le_of_ble_eq_true rfl) iwX8 m1_28 rfl dX8_append_20 ?_
      refine j_aload_n (pc := 23) 0 dX8_append_23 rfl rfl ?_
      refine j_get (pc := 24) (v := .int v_o_length) 0 1 rfl rfl (Nat.le_of_ble_eq_true rfl) iwX8 m1_29 rfl dX8_append_24 ?_
      refine j_iload_n (pc := 27) 1 dX8_append_27 rfl rfl ?_
      refine j_i2c (pc := 28) dX8_append_28 ?_
      refine j_cast (pc := 29) (w' := [jO a_o 5 [.ref a_o_letters, .int v_o_length, .int w_o_next], jH E a_o_letters 200 (upd f_o_letters v_o_length.toNatClampNeg (vp_nar .char (jchar x1)))]) 1 rfl dX8_append_29 h rfl (fun h => ?_)
      refine j_aload_n (pc := 30) 0 dX8_append_30 rfl rfl ?_
      refine j_dup (pc := 31) dX8_append_31 rfl ?_
      refine j_get (pc := 32) (v := .int v_o_length) 0 1 rfl rfl (Nat.le_of_ble_eq_true rfl) iwX8 m1_29 rfl dX8_append_32 ?_
      refine j_iconst (pc := 35) dX8_append_35 ic_1 ?_
      refine j_iadd (pc := 36) dX8_append_36 ?_
      refine j_put (pc := 37) (w' := [jO a_o 5 [.ref a_o_letters, .int (v_o_length + (1 : Int32)), .int w_o_next], jH E a_o_letters 200 (upd f_o_letters v_o_length.toNatClampNeg (vp_nar .char (jchar x1)))]) tyX8 0 1 tyX8_ok nmX8 rfl rfl (Nat.le_of_ble_eq_true rfl) iwX8 m1_29 rfl rfl rfl rfl (Nat.le_of_ble_eq_true rfl) dX8_append_37 rfl ?_
      refine j_iconst (pc := 40) dX8_append_40 ic_1 ?_
      cases h
      exact j_zret (pc := 41) rfl (Or.inr rfl) dX8_append_41 (Nat.le_of_ble_eq_true rfl) (Nat.le_of_ble_eq_true rfl) (jd_i rfl rfl)
    · refine j_iconst (pc := 17) dX8_append_17 ic_0 ?_
      cases h
      exact j_zret (pc := 18) rfl (Or.inl rfl) dX8_append_18 (Nat.le_of_ble_eq_true rfl) (Nat.le_of_ble_eq_true rfl) (jd_i rfl rfl)
set_option maxRecDepth 20000 in
theorem c_X5_tellNothing {l : Launch} {E : jE} {F : Nat} {a_o : Nat} {v_o_cards : Int32} {v_o_colours : Int32} {v_o_acts : Int32} {v_o_deal : Int64} {v_o_cardsAreFixed : Int32} : ∀ u : Int32 × Int32 × Int32 × Int64 × Int32, f_X5_tellNothing F v_o_cards v_o_colours v_o_acts v_o_deal v_o_cardsAreFixed = some u → jM l E K_X5_tellNothing [.ref a_o] [jO a_o 2 [.int v_o_cards, .int v_o_colours, .int v_o_acts, .long v_o_deal, .int v_o_cardsAreFixed]] (jd none [jO a_o 2 [.int u.1, .int u.2.1, .int u.2.2.1, .long u.2.2.2.1, .int u.2.2.2.2]]) := by
  intro u h
  unfold f_X5_tellNothing at h
  refine j_met [(0, .ref a_o)] (by decide +kernel) (Nat.le_of_ble_eq_true rfl) rfl ?_
  refine j_aload_n (pc := 0) 0 dX5_tellNothing_0 rfl rfl ?_
  refine j_iconst (pc := 1) dX5_tellNothing_1 ic_0 ?_
  refine j_put (pc := 2) (w' := [jO a_o 2 [.int v_o_cards, .int v_o_colours, .int v_o_acts, .long v_o_deal, .int (0 : Int32)]]) tyX5 0 4 tyX5_ok nmX5 rfl rfl (Nat.le_of_ble_eq_true rfl) iwX5 m1_54 rfl rfl (j_bz (Or.inl rfl)).1 (j_bz (Or.inl rfl)).2 (Nat.le_of_ble_eq_true rfl) dX5_tellNothing_2 rfl ?_
  refine j_aload_n (pc := 5) 0 dX5_tellNothing_5 rfl rfl ?_
  refine j_bipush (pc := 6) dX5_tellNothing_6 bc_8 ?_
  refine j_V (pc := 8) (q0 := 0) (Kc := K_X5_begin) (As := [.int (8 : Int32)]) (rest := []) (wc := [jO a_o 2 [.int v_o_cards, .int v_o_colours, .int v_o_acts, .long v_o_deal, .int (0 : Int32)]]) (w' := fun b1 => [jO a_o 2 [.int b1.1, .int b1.2.1, .int b1.2.2.1, .long b1.2.2.2, .int (0 : Int32)]]) (st1 := fun b1 => []) [0] rfl rfl rfl h c_X5_begin q_X5_begin m1_132 rfl rfl (Nat.le_of_ble_eq_true rfl) ⟨(Nat.le_of_ble_eq_true rfl), (Nat.le_of_ble_eq_true rfl)⟩ ⟨rfl, rfl⟩ ⟨(Nat.le_of_ble_eq_true rfl), (Nat.le_of_ble_eq_true rfl)⟩ dX5_tellNothing_8 rfl (by decide) (fun _ => rfl) (fun _ => rfl) (fun _ => rfl) (fun b1 h => ?_)
  cases h
  exact j_vret (pc := 11) rfl dX5_tellNothing_11 (Nat.le_of_ble_eq_true rfl) (Nat.le_of_ble_eq_true rfl) (jd_i rfl rfl)
set_option maxRecDepth 20000 in
theorem c_X8_nextLetter {l : Launch} {E : jE} {F : Nat} {v_o_length : Int32} {f_o_letters : Nat → Int32} {a_o a_o_letters : Nat} {v_o_next : Int32} : ∀ u : Int32 × Int32, f_X8_nextLetter F v_o_length f_o_letters v_o_next = some u → jM l E K_X8_nextLetter [.ref a_o] [jO a_o 5 [.ref a_o_letters, .int v_o_length, .int v_o_next], jH E a_o_letters 200 f_o_letters] (jd (some (.int u.1)) [jO a_o 5 [.ref a_o_letters, .int v_o_length, .int u.2], jH E a_o_letters 200 f_o_letters]) := by
  intro u h
  unfold f_X8_nextLetter at h
  refine j_met [(0, .ref a_o)] (by decide +kernel) (Nat.le_of_ble_eq_true rfl) rfl ?_
  refine j_aload_n (pc := 0) 0 dX8_nextLetter_0 rfl rfl ?_
  refine j_get (pc := 1) (v := .int v_o_next) 0 2 rfl rfl (Nat.le_of_ble_eq_true rfl) iwX8 m1_31 rfl dX8_nextLetter_1 ?_
  refine j_if_lt (pc := 4) (tgt := 28) dX8_nextLetter_4 (by decide) h (fun h => ?_) (fun h => ?_)
  · refine j_iconst (pc := 28) dX8_nextLetter_28 ic_0 ?_
    cases h
    exact j_iret (pc := 29) rfl dX8_nextLetter_29 (Nat.le_of_ble_eq_true rfl) (Nat.le_of_ble_eq_true rfl) (jd_i rfl rfl)
  · refine j_aload_n (pc := 7) 0 dX8_nextLetter_7 rfl rfl ?_
    refine j_get (pc := 8) (v := .int v_o_next) 0 2 rfl rfl (Nat.le_of_ble_eq_true rfl) iwX8 m1_31 rfl dX8_nextLetter_8 ?_
    refine j_aload_n (pc := 11) 0 dX8_nextLetter_11 rfl rfl ?_
    refine j_get (pc := 12) (v := .int v_o_length) 0 1 rfl rfl (Nat.le_of_ble_eq_true rfl) iwX8 m1_29 rfl dX8_nextLetter_12 ?_
    refine j_icmp_ge (pc := 15) (tgt := 28) dX8_nextLetter_15 (by decide) h (fun h => ?_) (fun h => ?_)
    · refine j_iconst (pc := 28) dX8_nextLetter_28 ic_0 ?_
      cases h
      exact j_iret (pc := 29) rfl dX8_nextLetter_29 (Nat.le_of_ble_eq_true rfl) (Nat.le_of_ble_eq_true rfl) (jd_i rfl rfl)
    · refine j_aload_n (pc := 18) 0 dX8_nextLetter_18 rfl rfl ?_
      refine j_get (pc := 19) (v := .int v_o_next) 0 2 rfl rfl (Nat.le_of_ble_eq_true rfl) iwX8 m1_31 rfl dX8_nextLetter_19 ?_
      refine j_sipush (pc := 22) dX8_nextLetter_22 sc_200 ?_
      refine j_icmp_lt (pc := 25) (tgt := 30) dX8_nextLetter_25 (by decide) h (fun h => ?_) (fun h => ?_)
      · refine j_aload_n (pc := 30) 0 dX8_nextLetter_30 rfl rfl ?_
        refine j_get (pc := 31) (v := .ref a_o_letters) 0 0 rfl rfl (Nat.le_of_ble_eq_true rfl) iwX8 m1_28 rfl dX8_nextLetter_31 ?_
        refine j_aload_n (pc := 34) 0 dX8_nextLetter_34 rfl rfl ?_
        refine j_get (pc := 35) (v := .int v_o_next) 0 2 rfl rfl (Nat.le_of_ble_eq_true rfl) iwX8 m1_31 rfl dX8_nextLetter_35 ?_
        refine j_cald (pc := 38) 1 rfl dX8_nextLetter_38 h (fun h => ?_)
        refine j_istore_n (pc := 39) (lv' := [(1, .int (f_o_letters v_o_next.toNatClampNeg)), (0, .ref a_o)]) dX8_nextLetter_39 rfl (Nat.le_of_ble_eq_true rfl) rfl ?_
        refine j_aload_n (pc := 40) 1 dX8_nextLetter_40 rfl rfl ?_
        refine j_dup (pc := 41) dX8_nextLetter_41 rfl ?_
        refine j_get (pc := 42) (v := .int v_o_next) 0 2 rfl rfl (Nat.le_of_ble_eq_true rfl) iwX8 m1_31 rfl dX8_nextLetter_42 ?_
        refine j_iconst (pc := 45) dX8_nextLetter_45 ic_1 ?_
        refine j_iadd (pc := 46) dX8_nextLetter_46 ?_
        refine j_put (pc := 47) (w' := [jO a_o 5 [.ref a_o_letters, .int v_o_length, .int (v_o_next + (1 : Int32))], jH E a_o_letters 200 f_o_letters]) tyX8 0 2 tyX8_ok nmX8 rfl rfl (Nat.le_of_ble_eq_true rfl) iwX8 m1_31 rfl rfl rfl rfl (Nat.le_of_ble_eq_true rfl) dX8_nextLetter_47 rfl ?_
        refine j_iload_n (pc := 50) 0 dX8_nextLetter_50 rfl rfl ?_
        cases h
        exact j_iret (pc := 51) rfl dX8_nextLetter_51 (Nat.le_of_ble_eq_true rfl) (Nat.le_of_ble_eq_true rfl) (jd_i rfl rfl)
      · refine j_iconst (pc := 28) dX8_nextLetter_28 ic_0 ?_
        cases h
        exact j_iret (pc := 29) rfl dX8_nextLetter_29 (Nat.le_of_ble_eq_true rfl) (Nat.le_of_ble_eq_true rfl) (jd_i rfl rfl)
set_option maxRecDepth 20000 in
theorem c_X8_figureOf {l : Launch} {E : jE} {F : Nat} {x0 : Int32} : ∀ u : Int32, f_X8_figureOf F x0 = some u → jM l E K_X8_figureOf [.int x0] [] (jd (some (.int u)) []) := by
  intro u h
  unfold f_X8_figureOf at h
  refine j_met [(0, .int x0)] (by decide +kernel) (Nat.le_of_ble_eq_true rfl) rfl ?_
  refine j_iload_n (pc := 0) 0 dX8_figureOf_0 rfl rfl ?_
  refine j_bipush (pc := 1) dX8_figureOf_1 bc_48 ?_
  refine j_icmp_lt (pc := 3) (tgt := 19) dX8_figureOf_3 (by decide) h (fun h => ?_) (fun h => ?_)
  · refine j_iconst (pc := 19) dX8_figureOf_19 ic_m1 ?_
    cases h
    exact j_iret (pc := 20) rfl dX8_figureOf_20 (Nat.le_of_ble_eq_true rfl) (Nat.le_of_ble_eq_true rfl) (jd_i rfl rfl)
  · refine j_iload_n (pc := 6) 0 dX8_figureOf_6 rfl rfl ?_
    refine j_bipush (pc := 7) dX8_figureOf_7 bc_57 ?_
    refine j_icmp_gt (pc := 9) (tgt := 19) dX8_figureOf_9 (by decide) h (fun h => ?_) (fun h => ?_)
    · refine j_iconst (pc := 19) dX8_figureOf_19 ic_m1 ?_
      cases h
      exact j_iret (pc := 20) rfl dX8_figureOf_20 (Nat.le_of_ble_eq_true rfl) (Nat.le_of_ble_eq_true rfl) (jd_i rfl rfl)
    · refine j_iload_n (pc := 12) 0 dX8_figureOf_12 rfl rfl ?_
      refine j_bipush (pc := 13) dX8_figureOf_13 bc_48 ?_
      refine j_isub (pc := 15) dX8_figureOf_15 ?_
      refine j_goto (pc := 16) (tgt := 20) dX8_figureOf_16 (by decide) ?_
      cases h
      exact j_iret (pc := 20) rfl dX8_figureOf_20 (Nat.le_of_ble_eq_true rfl) (Nat.le_of_ble_eq_true rfl) (jd_i rfl rfl)
set_option maxRecDepth 20000 in
theorem c_X8_readNumber {l : Launch} {E : jE} {F : Nat} {x1 : Int32} {v_o_length : Int32} {f_o_letters : Nat → Int32} {a_o a_o_letters : Nat} {v_o_next : Int32} : ∀ u : Int32 × Int32, f_X8_readNumber F x1 v_o_length f_o_letters v_o_next = some u → jM l E K_X8_readNumber [.ref a_o, .int x1] [jO a_o 5 [.ref a_o_letters, .int v_o_length, .int v_o_next], jH E a_o_letters 200 f_o_letters] (jd (some (.int u.1)) [jO a_o 5 [.ref a_o_letters, .int v_o_length, .int u.2], jH E a_o_letters 200 f_o_letters]) := by
  intro u h
  unfold f_X8_readNumber at h
  refine j_met [(0, .ref a_o), (1, .int x1)] (by decide +kernel) (Nat.le_of_ble_eq_true rfl) rfl ?_
  refine j_aload_n (pc := 0) 0 dX8_readNumber_0 rfl rfl ?_
  refine j_V (pc := 1) (q0 := 0) (Kc := K_X8_nextLetter) (As := []) (rest := []) (wc := [jO a_o 5 [.ref a_o_letters, .int v_o_length, .int v_o_next], jH E a_o_letters 200 f_o_letters]) (w' := fun b1 => [jO a_o 5 [.ref a_o_letters, .int v_o_length, .int b1.2], jH E a_o_letters 200 f_o_letters]) (st1 := fun b1 => [.int b1.1]) [0, 1] rfl rfl rfl h c_X8_nextLetter q_X8_nextLetter m2_4 rfl rfl (Nat.le_of_ble_eq_true rfl) ⟨(Nat.le_of_ble_eq_true rfl), (Nat.le_of_ble_eq_true rfl)⟩ ⟨rfl, rfl⟩ ⟨(Nat.le_of_ble_eq_true rfl), (Nat.le_of_ble_eq_true rfl)⟩ dX8_readNumber_1 rfl (by decide) (fun _ => rfl) (fun _ => rfl) (fun _ => rfl) (fun b1 h => ?_)
  refine j_S0 (pc := 4) (Kc := K_X8_figureOf) (As := [.int b1.1]) (rest := []) h c_X8_figureOf q_X8_figureOf m2_12 rfl rfl (Nat.le_of_ble_eq_true rfl) ⟨(Nat.le_of_ble_eq_true rfl), (Nat.le_of_ble_eq_true rfl)⟩ ⟨rfl, rfl⟩ ⟨(Nat.le_of_ble_eq_true rfl), (Nat.le_of_ble_eq_true rfl)⟩ dX8_readNumber_4 (fun b2 h => ?_)
  refine j_istore_n (pc := 7) (lv' := [(2, .int b2), (0, .ref a_o), (1, .int x1)]) dX8_readNumber_7 rfl (Nat.le_of_ble_eq_true rfl) rfl ?_
  refine j_iload_n (pc := 8) 0 dX8_readNumber_8 rfl rfl ?_
  refine j_if_ge (pc := 9) (tgt := 14) dX8_readNumber_9 (by decide) h (fun h => ?_) (fun h => ?_)
  · refine j_aload_n (pc := 14) 1 dX8_readNumber_14 rfl rfl ?_
    refine j_V (pc := 15) (q0 := 0) (Kc := K_X8_nextLetter) (As := []) (rest := []) (wc := [jO a_o 5 [.ref a_o_letters, .int v_o_length, .int b1.2], jH E a_o_letters 200 f_o_letters]) (w' := fun b3 => [jO a_o 5 [.ref a_o_letters, .int v_o_length, .int b3.2], jH E a_o_letters 200 f_o_letters]) (st1 := fun b3 => [.int b3.1]) [0, 1] rfl rfl rfl h c_X8_nextLetter q_X8_nextLetter m2_4 rfl rfl (Nat.le_of_ble_eq_true rfl) ⟨(Nat.le_of_ble_eq_true rfl), (Nat.le_of_ble_eq_true rfl)⟩ ⟨rfl, rfl⟩ ⟨(Nat.le_of_ble_eq_true rfl), (Nat.le_of_ble_eq_true rfl)⟩ dX8_readNumber_15 rfl (by decide) (fun _ => rfl) (fun _ => rfl) (fun _ => rfl) (fun b3 h => ?_)
    refine j_istore_n (pc := 18) (lv' := [(3, .int b3.1), (2, .int b2), (0, .ref a_o), (1, .int x1)]) dX8_readNumber_18 rfl (Nat.le_of_ble_eq_true rfl) rfl ?_
    refine j_iload_n (pc := 19) 0 dX8_readNumber_19 rfl rfl ?_
    refine j_S0 (pc := 20) (Kc := K_X8_figureOf) (As := [.int b3.1]) (rest := []) h c_X8_figureOf q_X8_figureOf m2_12 rfl rfl (Nat.le_of_ble_eq_true rfl) ⟨(Nat.le_of_ble_eq_true rfl), (Nat.le_of_ble_eq_true rfl)⟩ ⟨rfl, rfl⟩ ⟨(Nat.le_of_ble_eq_true rfl), (Nat.le_of_ble_eq_true rfl)⟩ dX8_readNumber_20 (fun b4 h => ?_)
    refine j_if_lt (pc := 23) (tgt := 41) dX8_readNumber_23 (by decide) h (fun h => ?_) (fun h => ?_)
    · refine j_iload_n (pc := 41) 0 dX8_readNumber_41 rfl rfl ?_
      refine j_iload_n (pc := 42) 3 dX8_readNumber_42 rfl rfl ?_
      refine j_icmp_ne (pc := 43) (tgt := 50) dX8_readNumber_43 (by decide) h (fun h => ?_) (fun h => ?_)
      · refine j_iconst (pc := 50) dX8_readNumber_50 ic_m1 ?_
        cases h
        exact j_iret (pc := 51) rfl dX8_readNumber_51 (Nat.le_of_ble_eq_true rfl) (Nat.le_of_ble_eq_true rfl) (jd_i rfl rfl)
      · refine j_iload_n (pc := 46) 1 dX8_readNumber_46 rfl rfl ?_
        refine j_goto (pc := 47) (tgt := 51) dX8_readNumber_47 (by decide) ?_
        cases h
        exact j_iret (pc := 51) rfl dX8_readNumber_51 (Nat.le_of_ble_eq_true rfl) (Nat.le_of_ble_eq_true rfl) (jd_i rfl rfl)
    · refine j_bipush (pc := 26) dX8_readNumber_26 bc_10 ?_
      refine j_iload_n (pc := 28) 1 dX8_readNumber_28 rfl rfl ?_
      refine j_imul (pc := 29) dX8_readNumber_29 ?_
      refine j_iload_n (pc := 30) 0 dX8_readNumber_30 rfl rfl ?_
      refine j_S0 (pc := 31) (Kc := K_X8_figureOf) (As := [.int b3.1]) (rest := [.int ((10 : Int32) * b2)]) h c_X8_figureOf q_X8_figureOf m2_12 rfl rfl (Nat.le_of_ble_eq_true rfl) ⟨(Nat.le_of_ble_eq_true rfl), (Nat.le_of_ble_eq_true rfl)⟩ ⟨rfl, rfl⟩ ⟨(Nat.le_of_ble_eq_true rfl), (Nat.le_of_ble_eq_true rfl)⟩ dX8_readNumber_31 (fun b5 h => ?_)
      refine j_iadd (pc := 34) dX8_readNumber_34 ?_
      refine j_istore_n (pc := 35) (lv' := [(2, .int (((10 : Int32) * b2) + b5)), (3, .int b3.1), (0, .ref a_o), (1, .int x1)]) dX8_readNumber_35 rfl (Nat.le_of_ble_eq_true rfl) rfl ?_
      refine j_aload_n (pc := 36) 2 dX8_readNumber_36 rfl rfl ?_
      refine j_V (pc := 37) (q0 := 0) (Kc := K_X8_nextLetter) (As := []) (rest := []) (wc := [jO a_o 5 [.ref a_o_letters, .int v_o_length, .int b3.2], jH E a_o_letters 200 f_o_letters]) (w' := fun b6 => [jO a_o 5 [.ref a_o_letters, .int v_o_length, .int b6.2], jH E a_o_letters 200 f_o_letters]) (st1 := fun b6 => [.int b6.1]) [0, 1] rfl rfl rfl h c_X8_nextLetter q_X8_nextLetter m2_4 rfl rfl (Nat.le_of_ble_eq_true rfl) ⟨(Nat.le_of_ble_eq_true rfl), (Nat.le_of_ble_eq_true rfl)⟩ ⟨rfl, rfl⟩ ⟨(Nat.le_of_ble_eq_true rfl), (Nat.le_of_ble_eq_true rfl)⟩ dX8_readNumber_37 rfl (by decide) (fun _ => rfl) (fun _ => rfl) (fun _ => rfl) (fun b6 h => ?_)
      refine j_istore_n (pc := 40) (lv' := [(3, .int b6.1), (2, .int (((10 : Int32) * b2) + b5)), (0, .ref a_o), (1, .int x1)]) dX8_readNumber_40 rfl (Nat.le_of_ble_eq_true rfl) rfl ?_
      refine j_iload_n (pc := 41) 0 dX8_readNumber_41 rfl rfl ?_
      refine j_iload_n (pc := 42) 3 dX8_readNumber_42 rfl rfl ?_
      refine j_icmp_ne (pc := 43) (tgt := 50) dX8_readNumber_43 (by decide) h (fun h => ?_) (fun h => ?_)
      · refine j_iconst (pc := 50) dX8_readNumber_50 ic_m1 ?_
        cases h
        exact j_iret (pc := 51) rfl dX8_readNumber_51 (Nat.le_of_ble_eq_true rfl) (Nat.le_of_ble_eq_true rfl) (jd_i rfl rfl)
      · refine j_iload_n (pc := 46) 1 dX8_readNumber_46 rfl rfl ?_
        refine j_goto (pc := 47) (tgt := 51) dX8_readNumber_47 (by decide) ?_
        cases h
        exact j_iret (pc := 51) rfl dX8_readNumber_51 (Nat.le_of_ble_eq_true rfl) (Nat.le_of_ble_eq_true rfl) (jd_i rfl rfl)
  · refine j_iconst (pc := 12) dX8_readNumber_12 ic_m1 ?_
    cases h
    exact j_iret (pc := 13) rfl dX8_readNumber_13 (Nat.le_of_ble_eq_true rfl) (Nat.le_of_ble_eq_true rfl) (jd_i rfl rfl)
set_option maxRecDepth 20000 in
theorem c_X5_tellCards {l : Launch} {E : jE} {F : Nat} {x1 : Int32} {v_o_cardsAreFixed : Int32} {a_o : Nat} {v_o_cards : Int32} {v_o_colours : Int32} {v_o_acts : Int32} {v_o_deal : Int64} : ∀ u : Int32 × Int32 × Int32 × Int32 × Int64, f_X5_tellCards F x1 v_o_cardsAreFixed v_o_cards v_o_colours v_o_acts v_o_deal = some u → jM l E K_X5_tellCards [.ref a_o, .int x1] [jO a_o 2 [.int v_o_cards, .int v_o_colours, .int v_o_acts, .long v_o_deal, .int v_o_cardsAreFixed]] (jd (some (.int u.1)) [jO a_o 2 [.int u.2.1, .int u.2.2.1, .int u.2.2.2.1, .long u.2.2.2.2, .int v_o_cardsAreFixed]]) := by
  intro u h
  unfold f_X5_tellCards at h
  refine j_met [(0, .ref a_o), (1, .int x1)] (by decide +kernel) (Nat.le_of_ble_eq_true rfl) rfl ?_
  refine j_aload_n (pc := 0) 0 dX5_tellCards_0 rfl rfl ?_
  refine j_get (pc := 1) (v := .int v_o_cardsAreFixed) 0 4 rfl rfl (Nat.le_of_ble_eq_true rfl) iwX5 m1_54 rfl dX5_tellCards_1 ?_
  refine j_if_ne (pc := 4) (tgt := 17) dX5_tellCards_4 (by decide) h (fun h => ?_) (fun h => ?_)
  · refine j_iconst (pc := 17) dX5_tellCards_17 ic_0 ?_
    cases h
    exact j_zret (pc := 18) rfl (Or.inl rfl) dX5_tellCards_18 (Nat.le_of_ble_eq_true rfl) (Nat.le_of_ble_eq_true rfl) (jd_i rfl rfl)
  · refine j_iload_n (pc := 7) 1 dX5_tellCards_7 rfl rfl ?_
    refine j_iconst (pc := 8) dX5_tellCards_8 ic_2 ?_
    refine j_bipush (pc := 9) dX5_tellCards_9 bc_16 ?_
    refine j_SN (pc := 11) (Kc := K_X9_within) (As := [.int x1, .int (2 : Int32), .int (16 : Int32)]) (rest := []) RX9 h c_X9_within q_X9_within (List.mem_of_getElem? (i := 12) rfl) rfl rfl (Nat.le_of_ble_eq_true rfl) ⟨(Nat.le_of_ble_eq_true rfl), (Nat.le_of_ble_eq_true rfl)⟩ ⟨rfl, rfl⟩ ⟨(Nat.le_of_ble_eq_true rfl), (Nat.le_of_ble_eq_true rfl)⟩ dX5_tellCards_11 (fun b1 h => ?_)
    refine j_if_ne (pc := 14) (tgt := 19) dX5_tellCards_14 (by decide) h (fun h => ?_) (fun h => ?_)
    · refine j_aload_n (pc := 19) 0 dX5_tellCards_19 rfl rfl ?_
      refine j_iload_n (pc := 20) 1 dX5_tellCards_20 rfl rfl ?_
      refine j_V (pc := 21) (q0 := 0) (Kc := K_X5_begin) (As := [.int x1]) (rest := []) (wc := [jO a_o 2 [.int v_o_cards, .int v_o_colours, .int v_o_acts, .long v_o_deal, .int v_o_cardsAreFixed]]) (w' := fun b2 => [jO a_o 2 [.int b2.1, .int b2.2.1, .int b2.2.2.1, .long b2.2.2.2, .int v_o_cardsAreFixed]]) (st1 := fun b2 => []) [0] rfl rfl rfl h c_X5_begin q_X5_begin m1_132 rfl rfl (Nat.le_of_ble_eq_true rfl) ⟨(Nat.le_of_ble_eq_true rfl), (Nat.le_of_ble_eq_true rfl)⟩ ⟨rfl, rfl⟩ ⟨(Nat.le_of_ble_eq_true rfl), (Nat.le_of_ble_eq_true rfl)⟩ dX5_tellCards_21 rfl (by decide) (fun _ => rfl) (fun _ => rfl) (fun _ => rfl) (fun b2 h => ?_)
      refine j_iconst (pc := 24) dX5_tellCards_24 ic_1 ?_
      cases h
      exact j_zret (pc := 25) rfl (Or.inr rfl) dX5_tellCards_25 (Nat.le_of_ble_eq_true rfl) (Nat.le_of_ble_eq_true rfl) (jd_i rfl rfl)
    · refine j_iconst (pc := 17) dX5_tellCards_17 ic_0 ?_
      cases h
      exact j_zret (pc := 18) rfl (Or.inl rfl) dX5_tellCards_18 (Nat.le_of_ble_eq_true rfl) (Nat.le_of_ble_eq_true rfl) (jd_i rfl rfl)
set_option maxRecDepth 20000 in
theorem c_X8_readItem {l : Launch} {E : jE} {F : Nat} {v_o_length : Int32} {f_o_letters : Nat → Int32} {a_o a_o_letters a_p1 : Nat} {v_o_next : Int32} {v_p1_cards : Int32} {v_p1_colours : Int32} {v_p1_acts : Int32} {v_p1_deal : Int64} {v_p1_cardsAreFixed : Int32} : ∀ u : Int32 × Int32 × Int32 × Int32 × Int32 × Int64 × Int32, f_X8_readItem F v_o_length f_o_letters v_o_next v_p1_cards v_p1_colours v_p1_acts v_p1_deal v_p1_cardsAreFixed = some u → jM l E K_X8_readItem [.ref a_o, .ref a_p1] [jO a_o 5 [.ref a_o_letters, .int v_o_length, .int v_o_next], jO a_p1 2 [.int v_p1_cards, .int v_p1_colours, .int v_p1_acts, .long v_p1_deal, .int v_p1_cardsAreFixed], jH E a_o_letters 200 f_o_letters] (jd (some (.int u.1)) [jO a_o 5 [.ref a_o_letters, .int v_o_length, .int u.2.1], jO a_p1 2 [.int u.2.2.1, .int u.2.2.2.1, .int u.2.2.2.2.1, .long u.2.2.2.2.2.1, .int u.2.2.2.2.2.2], jH E a_o_letters 200 f_o_letters]) := by
  intro u h
  unfold f_X8_readItem at h
  refine j_met [(0, .ref a_o), (1, .ref a_p1)] (by decide +kernel) (Nat.le_of_ble_eq_true rfl) rfl ?_
  refine j_aload_n (pc := 0) 0 dX8_readItem_0 rfl rfl ?_
  refine j_V (pc := 1) (q0 := 0) (Kc := K_X8_nextLetter) (As := []) (rest := []) (wc := [jO a_o 5 [.ref a_o_letters, .int v_o_length, .int v_o_next], jH E a_o_letters 200 f_o_letters]) (w' := fun b1 => [jO a_o 5 [.ref a_o_letters, .int v_o_length, .int b1.2], jO a_p1 2 [.int v_p1_cards, .int v_p1_colours, .int v_p1_acts, .long v_p1_deal, .int v_p1_cardsAreFixed], jH E a_o_letters 200 f_o_letters]) (st1 := fun b1 => [.int b1.1]) [0, 2] rfl rfl rfl h c_X8_nextLetter q_X8_nextLetter m2_4 rfl rfl (Nat.le_of_ble_eq_true rfl) ⟨(Nat.le_of_ble_eq_true rfl), (Nat.le_of_ble_eq_true rfl)⟩ ⟨rfl, rfl⟩ ⟨(Nat.le_of_ble_eq_true rfl), (Nat.le_of_ble_eq_true rfl)⟩ dX8_readItem_1 rfl (by decide) (fun _ => rfl) (fun _ => rfl) (fun _ => rfl) (fun b1 h => ?_)
  refine j_istore_n (pc := 4) (lv' := [(2, .int b1.1), (0, .ref a_o), (1, .ref a_p1)]) dX8_readItem_4 rfl (Nat.le_of_ble_eq_true rfl) rfl ?_
  refine j_iload_n (pc := 5) 0 dX8_readItem_5 rfl rfl ?_
  refine j_bipush (pc := 6) dX8_readItem_6 bc_99 ?_
  refine j_icmp_ne (pc := 8) (tgt := 34) dX8_readItem_8 (by decide) h (fun h => ?_) (fun h => ?_)
  · refine j_aload_n (pc := 34) 1 dX8_readItem_34 rfl rfl ?_
    refine j_bipush (pc := 35) dX8_readItem_35 bc_59 ?_
    refine j_V (pc := 37) (q0 := 0) (Kc := K_X8_readNumber) (As := [.int (59 : Int32)]) (rest := []) (wc := [jO a_o 5 [.ref a_o_letters, .int v_o_length, .int b1.2], jH E a_o_letters 200 f_o_letters]) (w' := fun b2 => [jO a_o 5 [.ref a_o_letters, .int v_o_length, .int b2.2], jO a_p1 2 [.int v_p1_cards, .int v_p1_colours, .int v_p1_acts, .long v_p1_deal, .int v_p1_cardsAreFixed], jH E a_o_letters 200 f_o_letters]) (st1 := fun b2 => [.int b2.1]) [0, 2] rfl rfl rfl h c_X8_readNumber q_X8_readNumber m2_8 rfl rfl (Nat.le_of_ble_eq_true rfl) ⟨(Nat.le_of_ble_eq_true rfl), (Nat.le_of_ble_eq_true rfl)⟩ ⟨rfl, rfl⟩ ⟨(Nat.le_of_ble_eq_true rfl), (Nat.le_of_ble_eq_true rfl)⟩ dX8_readItem_37 rfl (by decide) (fun _ => rfl) (fun _ => rfl) (fun _ => rfl) (fun b2 h => ?_)
    refine j_istore_n (pc := 40) (lv' := [(3, .int b2.1), (2, .int b1.1), (0, .ref a_o), (1, .ref a_p1)]) dX8_readItem_40 rfl (Nat.le_of_ble_eq_true rfl) rfl ?_
    refine j_iload_n (pc := 41) 1 dX8_readItem_41 rfl rfl ?_
    refine jbr h (fun z108 h => ?_) (fun z108 h => ?_)
    · refine j_lookup (pc := 42) (tgt := 82) (off := 40) dX8_readItem_42 (by decide) (by rw [z108]; decide +kernel) (by decide) ?_
      refine j_aload_n (pc := 82) 3 dX8_readItem_82 rfl rfl ?_
      refine j_iload_n (pc := 83) 0 dX8_readItem_83 rfl rfl ?_
      refine j_V (pc := 84) (q0 := 1) (Kc := K_X5_tellLacing) (As := [.int b2.1]) (rest := []) (wc := [jO a_p1 2 [.int v_p1_cards, .int v_p1_colours, .int v_p1_acts, .long v_p1_deal, .int v_p1_cardsAreFixed]]) (w' := fun b3 => [jO a_o 5 [.ref a_o_letters, .int v_o_length, .int b2.2], jO a_p1 2 [.int v_p1_cards, .int v_p1_colours, .int b3.2.1, .long b3.2.2.1, .int b3.2.2.2], jH E a_o_letters 200 f_o_letters]) (st1 := fun b3 => [.int b3.1]) [1] rfl rfl rfl h c_X5_tellLacing q_X5_tellLacing m2_20 rfl rfl (Nat.le_of_ble_eq_true rfl) ⟨(Nat.le_of_ble_eq_true rfl), (Nat.le_of_ble_eq_true rfl)⟩ ⟨rfl, rfl⟩ ⟨(Nat.le_of_ble_eq_true rfl), (Nat.le_of_ble_eq_true rfl)⟩ dX8_readItem_84 rfl (by decide) (fun _ => rfl) (fun _ => rfl) (fun _ => rfl) (fun b3 h => ?_)
      obtain ⟨hz, h⟩ := jgz_s h
      cases h
      exact j_zret (pc := 87) rfl hz dX8_readItem_87 (Nat.le_of_ble_eq_true rfl) (Nat.le_of_ble_eq_true rfl) (jd_i rfl rfl)
    refine jbr h (fun z110 h => ?_) (fun z110 h => ?_)
    · refine j_lookup (pc := 42) (tgt := 76) (off := 34) dX8_readItem_42 (by decide) (by rw [z110]; decide +kernel) (by decide) ?_
      refine j_aload_n (pc := 76) 3 dX8_readItem_76 rfl rfl ?_
      refine j_iload_n (pc := 77) 0 dX8_readItem_77 rfl rfl ?_
      refine j_V (pc := 78) (q0 := 1) (Kc := K_X5_tellCards) (As := [.int b2.1]) (rest := []) (wc := [jO a_p1 2 [.int v_p1_cards, .int v_p1_colours, .int v_p1_acts, .long v_p1_deal, .int v_p1_cardsAreFixed]]) (w' := fun b4 => [jO a_o 5 [.ref a_o_letters, .int v_o_length, .int b2.2], jO a_p1 2 [.int b4.2.1, .int b4.2.2.1, .int b4.2.2.2.1, .long b4.2.2.2.2, .int v_p1_cardsAreFixed], jH E a_o_letters 200 f_o_letters]) (st1 := fun b4 => [.int b4.1]) [1] rfl rfl rfl h c_X5_tellCards q_X5_tellCards m2_16 rfl rfl (Nat.le_of_ble_eq_true rfl) ⟨(Nat.le_of_ble_eq_true rfl), (Nat.le_of_ble_eq_true rfl)⟩ ⟨rfl, rfl⟩ ⟨(Nat.le_of_ble_eq_true rfl), (Nat.le_of_ble_eq_true rfl)⟩ dX8_readItem_78 rfl (by decide) (fun _ => rfl) (fun _ => rfl) (fun _ => rfl) (fun b4 h => ?_)
      obtain ⟨hz, h⟩ := jgz_s h
      cases h
      exact j_zret (pc := 81) rfl hz dX8_readItem_81 (Nat.le_of_ble_eq_true rfl) (Nat.le_of_ble_eq_true rfl) (jd_i rfl rfl)
    refine jbr h (fun z120 h => ?_) (fun z120 h => ?_)
    · refine j_lookup (pc := 42) (tgt := 88) (off := 46) dX8_readItem_42 (by decide) (by rw [z120]; decide +kernel) (by decide) ?_
      refine j_aload_n (pc := 88) 3 dX8_readItem_88 rfl rfl ?_
      refine j_iload_n (pc := 89) 0 dX8_readItem_89 rfl rfl ?_
      refine j_V (pc := 90) (q0 := 1) (Kc := K_X5_tellCut) (As := [.int b2.1]) (rest := []) (wc := [jO a_p1 2 [.int v_p1_cards, .int v_p1_colours, .int v_p1_acts, .long v_p1_deal, .int v_p1_cardsAreFixed]]) (w' := fun b5 => [jO a_o 5 [.ref a_o_letters, .int v_o_length, .int b2.2], jO a_p1 2 [.int v_p1_cards, .int v_p1_colours, .int b5.2.1, .long b5.2.2.1, .int b5.2.2.2], jH E a_o_letters 200 f_o_letters]) (st1 := fun b5 => [.int b5.1]) [1] rfl rfl rfl h c_X5_tellCut q_X5_tellCut m2_21 rfl rfl (Nat.le_of_ble_eq_true rfl) ⟨(Nat.le_of_ble_eq_true rfl), (Nat.le_of_ble_eq_true rfl)⟩ ⟨rfl, rfl⟩ ⟨(Nat.le_of_ble_eq_true rfl), (Nat.le_of_ble_eq_true rfl)⟩ dX8_readItem_90 rfl (by decide) (fun _ => rfl) (fun _ => rfl) (fun _ => rfl) (fun b5 h => ?_)
      obtain ⟨hz, h⟩ := jgz_s h
      cases h
      exact j_zret (pc := 93) rfl hz dX8_readItem_93 (Nat.le_of_ble_eq_true rfl) (Nat.le_of_ble_eq_true rfl) (jd_i rfl rfl)
    refine j_lookup (pc := 42) (tgt := 94) (off := 52) dX8_readItem_42 (by decide) (by show Op.lookupswitch.offset [(108, 40), (110, 34), (120, 46)] 52 _ = _; rw [lv_osw z108 (by decide), lv_osw z110 (by decide), lv_osw z120 (by decide)]; rfl) (by decide) ?_
    refine j_iconst (pc := 94) dX8_readItem_94 ic_0 ?_
    cases h
    exact j_zret (pc := 95) rfl (Or.inl rfl) dX8_readItem_95 (Nat.le_of_ble_eq_true rfl) (Nat.le_of_ble_eq_true rfl) (jd_i rfl rfl)
  · refine j_aload_n (pc := 11) 1 dX8_readItem_11 rfl rfl ?_
    refine j_bipush (pc := 12) dX8_readItem_12 bc_44 ?_
    refine j_V (pc := 14) (q0 := 0) (Kc := K_X8_readNumber) (As := [.int (44 : Int32)]) (rest := []) (wc := [jO a_o 5 [.ref a_o_letters, .int v_o_length, .int b1.2], jH E a_o_letters 200 f_o_letters]) (w' := fun b6 => [jO a_o 5 [.ref a_o_letters, .int v_o_length, .int b6.2], jO a_p1 2 [.int v_p1_cards, .int v_p1_colours, .int v_p1_acts, .long v_p1_deal, .int v_p1_cardsAreFixed], jH E a_o_letters 200 f_o_letters]) (st1 := fun b6 => [.int b6.1]) [0, 2] rfl rfl rfl h c_X8_readNumber q_X8_readNumber m2_8 rfl rfl (Nat.le_of_ble_eq_true rfl) ⟨(Nat.le_of_ble_eq_true rfl), (Nat.le_of_ble_eq_true rfl)⟩ ⟨rfl, rfl⟩ ⟨(Nat.le_of_ble_eq_true rfl), (Nat.le_of_ble_eq_true rfl)⟩ dX8_readItem_14 rfl (by decide) (fun _ => rfl) (fun _ => rfl) (fun _ => rfl) (fun b6 h => ?_)
    refine j_istore_n (pc := 17) (lv' := [(3, .int b6.1), (2, .int b1.1), (0, .ref a_o), (1, .ref a_p1)]) dX8_readItem_17 rfl (Nat.le_of_ble_eq_true rfl) rfl ?_
    refine j_aload_n (pc := 18) 2 dX8_readItem_18 rfl rfl ?_
    refine j_bipush (pc := 19) dX8_readItem_19 bc_59 ?_
    refine j_V (pc := 21) (q0 := 0) (Kc := K_X8_readNumber) (As := [.int (59 : Int32)]) (rest := []) (wc := [jO a_o 5 [.ref a_o_letters, .int v_o_length, .int b6.2], jH E a_o_letters 200 f_o_letters]) (w' := fun b7 => [jO a_o 5 [.ref a_o_letters, .int v_o_length, .int b7.2], jO a_p1 2 [.int v_p1_cards, .int v_p1_colours, .int v_p1_acts, .long v_p1_deal, .int v_p1_cardsAreFixed], jH E a_o_letters 200 f_o_letters]) (st1 := fun b7 => [.int b7.1]) [0, 2] rfl rfl rfl h c_X8_readNumber q_X8_readNumber m2_8 rfl rfl (Nat.le_of_ble_eq_true rfl) ⟨(Nat.le_of_ble_eq_true rfl), (Nat.le_of_ble_eq_true rfl)⟩ ⟨rfl, rfl⟩ ⟨(Nat.le_of_ble_eq_true rfl), (Nat.le_of_ble_eq_true rfl)⟩ dX8_readItem_21 rfl (by decide) (fun _ => rfl) (fun _ => rfl) (fun _ => rfl) (fun b7 h => ?_)
    refine j_istore (pc := 24) (lv' := [(4, .int b7.1), (3, .int b6.1), (2, .int b1.1), (0, .ref a_o), (1, .ref a_p1)]) dX8_readItem_24 (Nat.le_of_ble_eq_true rfl) rfl ?_
    refine j_aload_n (pc := 26) 4 dX8_readItem_26 rfl rfl ?_
    refine j_iload_n (pc := 27) 1 dX8_readItem_27 rfl rfl ?_
    refine j_iload (pc := 28) 0 dX8_readItem_28 rfl ?_
    refine j_V (pc := 30) (q0 := 1) (Kc := K_X5_tellColour) (As := [.int b6.1, .int b7.1]) (rest := []) (wc := [jO a_p1 2 [.int v_p1_cards, .int v_p1_colours, .int v_p1_acts, .long v_p1_deal, .int v_p1_cardsAreFixed]]) (w' := fun b8 => [jO a_o 5 [.ref a_o_letters, .int v_o_length, .int b7.2], jO a_p1 2 [.int v_p1_cards, .int b8.2.1, .int v_p1_acts, .long v_p1_deal, .int b8.2.2], jH E a_o_letters 200 f_o_letters]) (st1 := fun b8 => [.int b8.1]) [1] rfl rfl rfl h c_X5_tellColour q_X5_tellColour m2_15 rfl rfl (Nat.le_of_ble_eq_true rfl) ⟨(Nat.le_of_ble_eq_true rfl), (Nat.le_of_ble_eq_true rfl)⟩ ⟨rfl, rfl⟩ ⟨(Nat.le_of_ble_eq_true rfl), (Nat.le_of_ble_eq_true rfl)⟩ dX8_readItem_30 rfl (by decide) (fun _ => rfl) (fun _ => rfl) (fun _ => rfl) (fun b8 h => ?_)
    obtain ⟨hz, h⟩ := jgz_s h
    cases h
    exact j_zret (pc := 33) rfl hz dX8_readItem_33 (Nat.le_of_ble_eq_true rfl) (Nat.le_of_ble_eq_true rfl) (jd_i rfl rfl)
set_option maxRecDepth 20000 in
theorem w_X8_firstFault_11 {l : Launch} {E : jE} {F : Nat} {v_o_length : Int32} {f_o_letters : Nat → Int32} {a_o a_o_letters a_p1 : Nat} : ∀ (n : Nat) (x2 : Int32) (v_o_next : Int32) (v_p1_cards : Int32) (v_p1_colours : Int32) (v_p1_acts : Int32) (v_p1_deal : Int64) (v_p1_cardsAreFixed : Int32) (u : Int32 × Int32 × Int32 × Int32 × Int32 × Int64 × Int32), g_X8_firstFault_11 F v_o_length f_o_letters n x2 v_o_next v_p1_cards v_p1_colours v_p1_acts v_p1_deal v_p1_cardsAreFixed = some u → jT l E K_X8_firstFault 0 0 11 [(0, .ref a_o), (1, .ref a_p1), (2, .int x2)] [] [jO a_o 5 [.ref a_o_letters, .int v_o_length, .int v_o_next], jO a_p1 2 [.int v_p1_cards, .int v_p1_colours, .int v_p1_acts, .long v_p1_deal, .int v_p1_cardsAreFixed], jH E a_o_letters 200 f_o_letters] (jd (some (.int u.1)) [jO a_o 5 [.ref a_o_letters, .int v_o_length, .int u.2.1], jO a_p1 2 [.int u.2.2.1, .int u.2.2.2.1, .int u.2.2.2.2.1, .long u.2.2.2.2.2.1, .int u.2.2.2.2.2.2], jH E a_o_letters 200 f_o_letters]) := by
  intro n
  induction n with
  | zero =>
    intro x2 v_o_next v_p1_cards v_p1_colours v_p1_acts v_p1_deal v_p1_cardsAreFixed u h
    rw [g_X8_firstFault_11] at h
    cases h
  | succ n ih =>
    intro x2 v_o_next v_p1_cards v_p1_colours v_p1_acts v_p1_deal v_p1_cardsAreFixed u h
    rw [g_X8_firstFault_11] at h
    refine j_iload_n (pc := 11) 2 dX8_firstFault_11 rfl rfl ?_
    refine j_sipush (pc := 12) dX8_firstFault_12 sc_200 ?_
    refine j_icmp_ge (pc := 15) (tgt := 50) dX8_firstFault_15 (by decide) h (fun h => ?_) (fun h => ?_)
    · refine j_bipush (pc := 50) dX8_firstFault_50 bc_m4 ?_
      cases h
      exact j_iret (pc := 52) rfl dX8_firstFault_52 (Nat.le_of_ble_eq_true rfl) (Nat.le_of_ble_eq_true rfl) (jd_i rfl rfl)
    · refine j_aload_n (pc := 18) 0 dX8_firstFault_18 rfl rfl ?_
      refine j_get (pc := 19) (v := .int v_o_next) 0 2 rfl rfl (Nat.le_of_ble_eq_true rfl) iwX8 m1_31 rfl dX8_firstFault_19 ?_
      refine j_aload_n (pc := 22) 0 dX8_firstFault_22 rfl rfl ?_
      refine j_get (pc := 23) (v := .int v_o_length) 0 1 rfl rfl (Nat.le_of_ble_eq_true rfl) iwX8 m1_29 rfl dX8_firstFault_23 ?_
      refine j_icmp_ge (pc := 26) (tgt := 50) dX8_firstFault_26 (by decide) h (fun h => ?_) (fun h => ?_)
      · refine j_bipush (pc := 50) dX8_firstFault_50 bc_m4 ?_
        cases h
        exact j_iret (pc := 52) rfl dX8_firstFault_52 (Nat.le_of_ble_eq_true rfl) (Nat.le_of_ble_eq_true rfl) (jd_i rfl rfl)
      · refine j_aload_n (pc := 29) 0 dX8_firstFault_29 rfl rfl ?_
        refine j_get (pc := 30) (v := .int v_o_next) 0 2 rfl rfl (Nat.le_of_ble_eq_true rfl) iwX8 m1_31 rfl dX8_firstFault_30 ?_
        refine j_istore_n (pc := 33) (lv' := [(3, .int v_o_next), (0, .ref a_o), (1, .ref a_p1), (2, .int x2)]) dX8_firstFault_33 rfl (Nat.le_of_ble_eq_true rfl) rfl ?_
        refine j_aload_n (pc := 34) 1 dX8_firstFault_34 rfl rfl ?_
        refine j_aload_n (pc := 35) 2 dX8_firstFault_35 rfl rfl ?_
        refine j_V (pc := 36) (q0 := 0) (Kc := K_X8_readItem) (As := [.ref a_p1]) (rest := []) (wc := [jO a_o 5 [.ref a_o_letters, .int v_o_length, .int v_o_next], jO a_p1 2 [.int v_p1_cards, .int v_p1_colours, .int v_p1_acts, .long v_p1_deal, .int v_p1_cardsAreFixed], jH E a_o_letters 200 f_o_letters]) (w' := fun b1 => [jO a_o 5 [.ref a_o_letters, .int v_o_length, .int b1.2.1], jO a_p1 2 [.int b1.2.2.1, .int b1.2.2.2.1, .int b1.2.2.2.2.1, .long b1.2.2.2.2.2.1, .int b1.2.2.2.2.2.2], jH E a_o_letters 200 f_o_letters]) (st1 := fun b1 => [.int b1.1]) [0, 1, 2] rfl rfl rfl h c_X8_readItem q_X8_readItem m2_0 rfl rfl (Nat.le_of_ble_eq_true rfl) ⟨(Nat.le_of_ble_eq_true rfl), (Nat.le_of_ble_eq_true rfl)⟩ ⟨rfl, rfl⟩ ⟨(Nat.le_of_ble_eq_true rfl), (Nat.le_of_ble_eq_true rfl)⟩ dX8_firstFault_36 rfl (by decide) (fun _ => rfl) (fun _ => rfl) (fun _ => rfl) (fun b1 h => ?_)
        refine j_if_ne (pc := 39) (tgt := 44) dX8_firstFault_39 (by decide) h (fun h => ?_) (fun h => ?_)
        · refine j_iinc (pc := 44) (j := 3) (lv' := [(2, .int (x2 + (1 : Int32))), (3, .int v_o_next), (0, .ref a_o), (1, .ref a_p1)]) dX8_firstFault_44 rfl (congrArg (fun z => x2 + z) ic_1) (Nat.le_of_ble_eq_true rfl) rfl ?_
          refine j_goto (pc := 47) (tgt := 11) dX8_firstFault_47 (by decide) ?_
          exact j_sub (lv' := [(0, .ref a_o), (1, .ref a_p1), (2, .int (x2 + (1 : Int32)))]) [2, 3, 0] rfl (ih _ _ _ _ _ _ _ u h)
        · refine j_iload_n (pc := 42) 0 dX8_firstFault_42 rfl rfl ?_
          cases h
          exact j_iret (pc := 43) rfl dX8_firstFault_43 (Nat.le_of_ble_eq_true rfl) (Nat.le_of_ble_eq_true rfl) (jd_i rfl rfl)
set_option maxRecDepth 20000 in
theorem c_X8_firstFault {l : Launch} {E : jE} {F : Nat} {v_o_length : Int32} {f_o_letters : Nat → Int32} {a_o a_o_letters a_p1 : Nat} {v_o_next : Int32} {v_p1_cards : Int32} {v_p1_colours : Int32} {v_p1_acts : Int32} {v_p1_deal : Int64} {v_p1_cardsAreFixed : Int32} : ∀ u : Int32 × Int32 × Int32 × Int32 × Int32 × Int64 × Int32, f_X8_firstFault F v_o_length f_o_letters v_o_next v_p1_cards v_p1_colours v_p1_acts v_p1_deal v_p1_cardsAreFixed = some u → jM l E K_X8_firstFault [.ref a_o, .ref a_p1] [jO a_o 5 [.ref a_o_letters, .int v_o_length, .int v_o_next], jO a_p1 2 [.int v_p1_cards, .int v_p1_colours, .int v_p1_acts, .long v_p1_deal, .int v_p1_cardsAreFixed], jH E a_o_letters 200 f_o_letters] (jd (some (.int u.1)) [jO a_o 5 [.ref a_o_letters, .int v_o_length, .int u.2.1], jO a_p1 2 [.int u.2.2.1, .int u.2.2.2.1, .int u.2.2.2.2.1, .long u.2.2.2.2.2.1, .int u.2.2.2.2.2.2], jH E a_o_letters 200 f_o_letters]) := by
  intro u h
  unfold f_X8_firstFault at h
  refine j_met [(0, .ref a_o), (1, .ref a_p1)] (by decide +kernel) (Nat.le_of_ble_eq_true rfl) rfl ?_
  refine j_aload_n (pc := 0) 1 dX8_firstFault_0 rfl rfl ?_
  refine j_V (pc := 1) (q0 := 1) (Kc := K_X5_tellNothing) (As := []) (rest := []) (wc := [jO a_p1 2 [.int v_p1_cards, .int v_p1_colours, .int v_p1_acts, .long v_p1_deal, .int v_p1_cardsAreFixed]]) (w' := fun b1 => [jO a_o 5 [.ref a_o_letters, .int v_o_length, .int v_o_next], jO a_p1 2 [.int b1.1, .int b1.2.1, .int b1.2.2.1, .long b1.2.2.2.1, .int b1.2.2.2.2], jH E a_o_letters 200 f_o_letters]) (st1 := fun b1 => []) [1] rfl rfl rfl h c_X5_tellNothing q_X5_tellNothing m1_236 rfl rfl (Nat.le_of_ble_eq_true rfl) ⟨(Nat.le_of_ble_eq_true rfl), (Nat.le_of_ble_eq_true rfl)⟩ ⟨rfl, rfl⟩ ⟨(Nat.le_of_ble_eq_true rfl), (Nat.le_of_ble_eq_true rfl)⟩ dX8_firstFault_1 rfl (by decide) (fun _ => rfl) (fun _ => rfl) (fun _ => rfl) (fun b1 h => ?_)
  refine j_aload_n (pc := 4) 0 dX8_firstFault_4 rfl rfl ?_
  refine j_iconst (pc := 5) dX8_firstFault_5 ic_0 ?_
  refine j_put (pc := 6) (w' := [jO a_o 5 [.ref a_o_letters, .int v_o_length, .int (0 : Int32)], jO a_p1 2 [.int b1.1, .int b1.2.1, .int b1.2.2.1, .long b1.2.2.2.1, .int b1.2.2.2.2], jH E a_o_letters 200 f_o_letters]) tyX8 0 2 tyX8_ok nmX8 rfl rfl (Nat.le_of_ble_eq_true rfl) iwX8 m1_31 rfl rfl rfl rfl (Nat.le_of_ble_eq_true rfl) dX8_firstFault_6 rfl ?_
  refine j_iconst (pc := 9) dX8_firstFault_9 ic_0 ?_
  refine j_istore_n (pc := 10) (lv' := [(2, .int (0 : Int32)), (0, .ref a_o), (1, .ref a_p1)]) dX8_firstFault_10 rfl (Nat.le_of_ble_eq_true rfl) rfl ?_
  exact j_sub (lv' := [(0, .ref a_o), (1, .ref a_p1), (2, .int (0 : Int32))]) [1, 2, 0] rfl (w_X8_firstFault_11 _ _ _ _ _ _ _ _ u h)
set_option maxRecDepth 20000 in
theorem c_X5_become {l : Launch} {E : jE} {F : Nat} {v_p1_cards : Int32} {v_p1_colours : Int32} {v_p1_acts : Int32} {v_p1_deal : Int64} {v_p1_cardsAreFixed : Int32} {a_o a_p1 : Nat} {v_o_cards : Int32} {v_o_colours : Int32} {v_o_acts : Int32} {v_o_deal : Int64} {v_o_cardsAreFixed : Int32} : ∀ u : Int32 × Int32 × Int32 × Int64 × Int32, f_X5_become F v_p1_cards v_p1_colours v_p1_acts v_p1_deal v_p1_cardsAreFixed v_o_cards v_o_colours v_o_acts v_o_deal v_o_cardsAreFixed = some u → jM l E K_X5_become [.ref a_o, .ref a_p1] [jO a_o 2 [.int v_o_cards, .int v_o_colours, .int v_o_acts, .long v_o_deal, .int v_o_cardsAreFixed], jO a_p1 2 [.int v_p1_cards, .int v_p1_colours, .int v_p1_acts, .long v_p1_deal, .int v_p1_cardsAreFixed]] (jd none [jO a_o 2 [.int u.1, .int u.2.1, .int u.2.2.1, .long u.2.2.2.1, .int u.2.2.2.2], jO a_p1 2 [.int v_p1_cards, .int v_p1_colours, .int v_p1_acts, .long v_p1_deal, .int v_p1_cardsAreFixed]]) := by
  intro u h
  unfold f_X5_become at h
  refine j_met [(0, .ref a_o), (1, .ref a_p1)] (by decide +kernel) (Nat.le_of_ble_eq_true rfl) rfl ?_
  refine j_aload_n (pc := 0) 0 dX5_become_0 rfl rfl ?_
  refine j_aload_n (pc := 1) 1 dX5_become_1 rfl rfl ?_
  refine j_get (pc := 2) (v := .int v_p1_cards) 1 0 rfl rfl (Nat.le_of_ble_eq_true rfl) iwX5 m1_48 rfl dX5_become_2 ?_
  refine j_put (pc := 5) (w' := [jO a_o 2 [.int v_p1_cards, .int v_o_colours, .int v_o_acts, .long v_o_deal, .int v_o_cardsAreFixed], jO a_p1 2 [.int v_p1_cards, .int v_p1_colours, .int v_p1_acts, .long v_p1_deal, .int v_p1_cardsAreFixed]]) tyX5 0 0 tyX5_ok nmX5 rfl rfl (Nat.le_of_ble_eq_true rfl) iwX5 m1_48 rfl rfl rfl rfl (Nat.le_of_ble_eq_true rfl) dX5_become_5 rfl ?_
  refine j_aload_n (pc := 8) 0 dX5_become_8 rfl rfl ?_
  refine j_aload_n (pc := 9) 1 dX5_become_9 rfl rfl ?_
  refine j_get (pc := 10) (v := .int v_p1_colours) 1 1 rfl rfl (Nat.le_of_ble_eq_true rfl) iwX5 m1_49 rfl dX5_become_10 ?_
  refine j_put (pc := 13) (w' := [jO a_o 2 [.int v_p1_cards, .int v_p1_colours, .int v_o_acts, .long v_o_deal, .int v_o_cardsAreFixed], jO a_p1 2 [.int v_p1_cards, .int v_p1_colours, .int v_p1_acts, .long v_p1_deal, .int v_p1_cardsAreFixed]]) tyX5 0 1 tyX5_ok nmX5 rfl rfl (Nat.le_of_ble_eq_true rfl) iwX5 m1_49 rfl rfl rfl rfl (Nat.le_of_ble_eq_true rfl) dX5_become_13 rfl ?_
  refine j_aload_n (pc := 16) 0 dX5_become_16 rfl rfl ?_
  refine j_aload_n (pc := 17) 1 dX5_become_17 rfl rfl ?_
  refine j_get (pc := 18) (v := .int v_p1_acts) 1 2 rfl rfl (Nat.le_of_ble_eq_true rfl) iwX5 m1_50 rfl dX5_become_18 ?_
  refine j_put (pc := 21) (w' := [jO a_o 2 [.int v_p1_cards, .int v_p1_colours, .int v_p1_acts, .long v_o_deal, .int v_o_cardsAreFixed], jO a_p1 2 [.int v_p1_cards, .int v_p1_colours, .int v_p1_acts, .long v_p1_deal, .int v_p1_cardsAreFixed]]) tyX5 0 2 tyX5_ok nmX5 rfl rfl (Nat.le_of_ble_eq_true rfl) iwX5 m1_50 rfl rfl rfl rfl (Nat.le_of_ble_eq_true rfl) dX5_become_21 rfl ?_
  refine j_aload_n (pc := 24) 0 dX5_become_24 rfl rfl ?_
  refine j_aload_n (pc := 25) 1 dX5_become_25 rfl rfl ?_
  refine j_get (pc := 26) (v := .long v_p1_deal) 1 3 rfl rfl (Nat.le_of_ble_eq_true rfl) iwX5 m1_52 rfl dX5_become_26 ?_
  refine j_put (pc := 29) (w' := [jO a_o 2 [.int v_p1_cards, .int v_p1_colours, .int v_p1_acts, .long v_p1_deal, .int v_o_cardsAreFixed], jO a_p1 2 [.int v_p1_cards, .int v_p1_colours, .int v_p1_acts, .long v_p1_deal, .int v_p1_cardsAreFixed]]) tyX5 0 3 tyX5_ok nmX5 rfl rfl (Nat.le_of_ble_eq_true rfl) iwX5 m1_52 rfl rfl rfl rfl (Nat.le_of_ble_eq_true rfl) dX5_become_29 rfl ?_
  refine j_aload_n (pc := 32) 0 dX5_become_32 rfl rfl ?_
  refine j_aload_n (pc := 33) 1 dX5_become_33 rfl rfl ?_
  refine j_get (pc := 34) (v := .int v_p1_cardsAreFixed) 1 4 rfl rfl (Nat.le_of_ble_eq_true rfl) iwX5 m1_54 rfl dX5_become_34 ?_
  obtain ⟨hz, h⟩ := jgz_s h
  refine j_put (pc := 37) (w' := [jO a_o 2 [.int v_p1_cards, .int v_p1_colours, .int v_p1_acts, .long v_p1_deal, .int v_p1_cardsAreFixed], jO a_p1 2 [.int v_p1_cards, .int v_p1_colours, .int v_p1_acts, .long v_p1_deal, .int v_p1_cardsAreFixed]]) tyX5 0 4 tyX5_ok nmX5 rfl rfl (Nat.le_of_ble_eq_true rfl) iwX5 m1_54 rfl rfl (j_bz hz).1 (j_bz hz).2 (Nat.le_of_ble_eq_true rfl) dX5_become_37 rfl ?_
  cases h
  exact j_vret (pc := 40) rfl dX5_become_40 (Nat.le_of_ble_eq_true rfl) (Nat.le_of_ble_eq_true rfl) (jd_i rfl rfl)
set_option maxRecDepth 20000 in
theorem w_X4_placeOf_6 {l : Launch} {E : jE} {F : Nat} {x0 : Int64} {x2 : Int32} {x3 : Int32} : ∀ (n : Nat) (x4 : Int32) (x5 : Int32) (u : Int32), g_X4_placeOf_6 F x0 x2 x3 n x4 x5 = some u → jT l E K_X4_placeOf 0 0 6 [(0, .long x0), (2, .int x2), (3, .int x3), (4, .int x4), (5, .int x5)] [] [] (jd (some (.int u)) []) := by
  intro n
  induction n with
  | zero =>
    intro x4 x5 u h
    rw [g_X4_placeOf_6] at h
    cases h
  | succ n ih =>
    intro x4 x5 u h
    rw [g_X4_placeOf_6] at h
    refine j_iload (pc := 6) 4 dX4_placeOf_6 rfl ?_
    refine j_iload_n (pc := 8) 1 dX4_placeOf_8 rfl rfl ?_
    refine j_icmp_ge (pc := 9) (tgt := 32) dX4_placeOf_9 (by decide) h (fun h => ?_) (fun h => ?_)
    · refine j_iload (pc := 32) 3 dX4_placeOf_32 rfl ?_
      cases h
      exact j_iret (pc := 34) rfl dX4_placeOf_34 (Nat.le_of_ble_eq_true rfl) (Nat.le_of_ble_eq_true rfl) (jd_i rfl rfl)
    · refine j_lload_n (pc := 12) 0 dX4_placeOf_12 rfl rfl ?_
      refine j_iload (pc := 13) 4 dX4_placeOf_13 rfl ?_
      refine j_S0 (pc := 15) (Kc := K_X4_cardAt) (As := [.long x0, .int x5]) (rest := []) h c_X4_cardAt q_X4_cardAt m1_179 rfl rfl (Nat.le_of_ble_eq_true rfl) ⟨(Nat.le_of_ble_eq_true rfl), (Nat.le_of_ble_eq_true rfl)⟩ ⟨rfl, rfl⟩ ⟨(Nat.le_of_ble_eq_true rfl), (Nat.le_of_ble_eq_true rfl)⟩ dX4_placeOf_15 (fun b1 h => ?_)
      refine j_iload_n (pc := 18) 2 dX4_placeOf_18 rfl rfl ?_
      refine j_icmp_ne (pc := 19) (tgt := 26) dX4_placeOf_19 (by decide) h (fun h => ?_) (fun h => ?_)
      · refine j_iinc (pc := 26) (j := 4) (lv' := [(5, .int (x5 + (1 : Int32))), (0, .long x0), (2, .int x2), (3, .int x3), (4, .int x4)]) dX4_placeOf_26 rfl (congrArg (fun z => x5 + z) ic_1) (Nat.le_of_ble_eq_true rfl) rfl ?_
        refine j_goto (pc := 29) (tgt := 6) dX4_placeOf_29 (by decide) ?_
        exact j_sub (lv' := [(0, .long x0), (2, .int x2), (3, .int x3), (4, .int x4), (5, .int (x5 + (1 : Int32)))]) [1, 2, 3, 4, 0] rfl (ih _ _ u h)
      · refine j_iload (pc := 22) 4 dX4_placeOf_22 rfl ?_
        refine j_istore (pc := 24) (lv' := [(4, .int x5), (0, .long x0), (2, .int x2), (3, .int x3), (5, .int x5)]) dX4_placeOf_24 (Nat.le_of_ble_eq_true rfl) rfl ?_
        refine j_iinc (pc := 26) (j := 4) (lv' := [(5, .int (x5 + (1 : Int32))), (4, .int x5), (0, .long x0), (2, .int x2), (3, .int x3)]) dX4_placeOf_26 rfl (congrArg (fun z => x5 + z) ic_1) (Nat.le_of_ble_eq_true rfl) rfl ?_
        refine j_goto (pc := 29) (tgt := 6) dX4_placeOf_29 (by decide) ?_
        exact j_sub (lv' := [(0, .long x0), (2, .int x2), (3, .int x3), (4, .int x5), (5, .int (x5 + (1 : Int32)))]) [2, 3, 4, 1, 0] rfl (ih _ _ u h)
set_option maxRecDepth 20000 in
theorem c_X4_placeOf {l : Launch} {E : jE} {F : Nat} {x0 : Int64} {x2 : Int32} {x3 : Int32} : ∀ u : Int32, f_X4_placeOf F x0 x2 x3 = some u → jM l E K_X4_placeOf [.long x0, .int x2, .int x3] [] (jd (some (.int u)) []) := by
  intro u h
  unfold f_X4_placeOf at h
  refine j_met [(0, .long x0), (2, .int x2), (3, .int x3)] (by decide +kernel) (Nat.le_of_ble_eq_true rfl) rfl ?_
  refine j_iconst (pc := 0) dX4_placeOf_0 ic_0 ?_
  refine j_istore (pc := 1) (lv' := [(4, .int (0 : Int32)), (0, .long x0), (2, .int x2), (3, .int x3)]) dX4_placeOf_1 (Nat.le_of_ble_eq_true rfl) rfl ?_
  refine j_iconst (pc := 3) dX4_placeOf_3 ic_0 ?_
  refine j_istore (pc := 4) (lv' := [(5, .int (0 : Int32)), (4, .int (0 : Int32)), (0, .long x0), (2, .int x2), (3, .int x3)]) dX4_placeOf_4 (Nat.le_of_ble_eq_true rfl) rfl ?_
  exact j_sub (lv' := [(0, .long x0), (2, .int x2), (3, .int x3), (4, .int (0 : Int32)), (5, .int (0 : Int32))]) [2, 3, 4, 1, 0] rfl (w_X4_placeOf_6 _ _ _ u h)
set_option maxRecDepth 20000 in
theorem c_X5_colourOf {l : Launch} {E : jE} {F : Nat} {x1 : Int32} {v_o_colours : Int32} {a_o : Nat} {w_o_cards : Int32} {w_o_acts : Int32} {w_o_deal : Int64} {w_o_cardsAreFixed : Int32} : ∀ u : Int32, f_X5_colourOf F x1 v_o_colours = some u → jM l E K_X5_colourOf [.ref a_o, .int x1] [jO a_o 2 [.int w_o_cards, .int v_o_colours, .int w_o_acts, .long w_o_deal, .int w_o_cardsAreFixed]] (jd (some (.int u)) [jO a_o 2 [.int w_o_cards, .int v_o_colours, .int w_o_acts, .long w_o_deal, .int w_o_cardsAreFixed]]) := by
  intro u h
  unfold f_X5_colourOf at h
  refine j_met [(0, .ref a_o), (1, .int x1)] (by decide +kernel) (Nat.le_of_ble_eq_true rfl) rfl ?_
  refine j_aload_n (pc := 0) 0 dX5_colourOf_0 rfl rfl ?_
  refine j_get (pc := 1) (v := .int v_o_colours) 0 1 rfl rfl (Nat.le_of_ble_eq_true rfl) iwX5 m1_49 rfl dX5_colourOf_1 ?_
  refine j_iconst (pc := 4) dX5_colourOf_4 ic_2 ?_
  refine j_iload_n (pc := 5) 1 dX5_colourOf_5 rfl rfl ?_
  refine j_imul (pc := 6) dX5_colourOf_6 ?_
  refine j_iushr (pc := 7) dX5_colourOf_7 ?_
  refine j_iconst (pc := 8) dX5_colourOf_8 ic_3 ?_
  refine j_iand (pc := 9) dX5_colourOf_9 ?_
  cases h
  exact j_iret (pc := 10) rfl dX5_colourOf_10 (Nat.le_of_ble_eq_true rfl) (Nat.le_of_ble_eq_true rfl) (jd_i rfl rfl)
set_option maxRecDepth 20000 in
theorem c_X6_isFull {l : Launch} {E : jE} {F : Nat} {n_o_stored : Nat} {v_o_held : Int32} {a_o a_o_stored : Nat} {w_o_stored : Nat → Int64} : ∀ u : Int32, f_X6_isFull F n_o_stored v_o_held = some u → jM l E K_X6_isFull [.ref a_o] [jO a_o 3 [.ref a_o_stored, .int v_o_held], jJ E a_o_stored n_o_stored w_o_stored] (jd (some (.int u)) [jO a_o 3 [.ref a_o_stored, .int v_o_held], jJ E a_o_stored n_o_stored w_o_stored]) := by
  intro u h
  unfold f_X6_isFull at h
  refine j_met [(0, .ref a_o)] (by decide +kernel) (Nat.le_of_ble_eq_true rfl) rfl ?_
  refine j_aload_n (pc := 0) 0 dX6_isFull_0 rfl rfl ?_
  refine j_get (pc := 1) (v := .int v_o_held) 0 1 rfl rfl (Nat.le_of_ble_eq_true rfl) iwX6 m1_76 rfl dX6_isFull_1 ?_
  refine j_aload_n (pc := 4) 0 dX6_isFull_4 rfl rfl ?_
  refine j_get (pc := 5) (v := .ref a_o_stored) 0 0 rfl rfl (Nat.le_of_ble_eq_true rfl) iwX6 m1_75 rfl dX6_isFull_5 ?_
  refine j_alenJ (pc := 8) (v := (Int32.ofNat n_o_stored)) 1 rfl dX6_isFull_8 rfl ?_
  refine j_icmp_lt (pc := 9) (tgt := 16) dX6_isFull_9 (by decide) h (fun h => ?_) (fun h => ?_)
  · refine j_iconst (pc := 16) dX6_isFull_16 ic_0 ?_
    cases h
    exact j_zret (pc := 17) rfl (Or.inl rfl) dX6_isFull_17 (Nat.le_of_ble_eq_true rfl) (Nat.le_of_ble_eq_true rfl) (jd_i rfl rfl)
  · refine j_iconst (pc := 12) dX6_isFull_12 ic_1 ?_
    refine j_goto (pc := 13) (tgt := 17) dX6_isFull_13 (by decide) ?_
    cases h
    exact j_zret (pc := 17) rfl (Or.inr rfl) dX6_isFull_17 (Nat.le_of_ble_eq_true rfl) (Nat.le_of_ble_eq_true rfl) (jd_i rfl rfl)
set_option maxRecDepth 20000 in
theorem w_X6_put_38 {l : Launch} {E : jE} {F : Nat} {n_o_stored : Nat} {x1 : Int64} {a_o a_o_stored : Nat} : ∀ (v_o_held : Int32) (f_o_stored : Nat → Int64) (u : Int32 × (Nat → Int64)), g_X6_put_38 F n_o_stored x1 v_o_held f_o_stored = some u → jT l E K_X6_put 0 0 38 [(0, .ref a_o), (1, .long x1)] [] [jO a_o 3 [.ref a_o_stored, .int v_o_held], jJ E a_o_stored n_o_stored f_o_stored] (jd none [jO a_o 3 [.ref a_o_stored, .int u.1], jJ E a_o_stored n_o_stored u.2]) := by
  intro v_o_held f_o_stored u h
  unfold g_X6_put_38 at h
  refine j_aload_n (pc := 38) 0 dX6_put_38 rfl rfl ?_
  refine j_get (pc := 39) (v := .int v_o_held) 0 1 rfl rfl (Nat.le_of_ble_eq_true rfl) iwX6 m1_76 rfl dX6_put_39 ?_
  refine j_if_lt (pc := 42) (tgt := 77) dX6_put_42 (by decide) h (fun h => ?_) (fun h => ?_)
  · cases h
    exact j_vret (pc := 77) rfl dX6_put_77 (Nat.le_of_ble_eq_true rfl) (Nat.le_of_ble_eq_true rfl) (jd_i rfl rfl)
  · refine j_aload_n (pc := 45) 0 dX6_put_45 rfl rfl ?_
    refine j_get (pc := 46) (v := .int v_o_held) 0 1 rfl rfl (Nat.le_of_ble_eq_true rfl) iwX6 m1_76 rfl dX6_put_46 ?_
    refine j_aload_n (pc := 49) 0 dX6_put_49 rfl rfl ?_
    refine j_get (pc := 50) (v := .ref a_o_stored) 0 0 rfl rfl (Nat.le_of_ble_eq_true rfl) iwX6 m1_75 rfl dX6_put_50 ?_
    refine j_alenJ (pc := 53) (v := (Int32.ofNat n_o_stored)) 1 rfl dX6_put_53 rfl ?_
    refine j_icmp_ge (pc := 54) (tgt := 77) dX6_put_54 (by decide) h (fun h => ?_) (fun h => ?_)
    · cases h
      exact j_vret (pc := 77) rfl dX6_put_77 (Nat.le_of_ble_eq_true rfl) (Nat.le_of_ble_eq_true rfl) (jd_i rfl rfl)
    · refine j_aload_n (pc := 57) 0 dX6_put_57 rfl rfl ?_
      refine j_get (pc := 58) (v := .ref a_o_stored) 0 0 rfl rfl (Nat.le_of_ble_eq_true rfl) iwX6 m1_75 rfl dX6_put_58 ?_
      refine j_aload_n (pc := 61) 0 dX6_put_61 rfl rfl ?_
      refine j_get (pc := 62) (v := .int v_o_held) 0 1 rfl rfl (Nat.le_of_ble_eq_true rfl) iwX6 m1_76 rfl dX6_put_62 ?_
      refine j_lload_n (pc := 65) 1 dX6_put_65 rfl rfl ?_
      refine j_last (pc := 66) (w' := [jO a_o 3 [.ref a_o_stored, .int v_o_held], jJ E a_o_stored n_o_stored (vp_updL f_o_stored v_o_held.toNatClampNeg x1)]) 1 rfl dX6_put_66 h rfl (fun h => ?_)
      refine j_aload_n (pc := 67) 0 dX6_put_67 rfl rfl ?_
      refine j_dup (pc := 68) dX6_put_68 rfl ?_
      refine j_get (pc := 69) (v := .int v_o_held) 0 1 rfl rfl (Nat.le_of_ble_eq_true rfl) iwX6 m1_76 rfl dX6_put_69 ?_
      refine j_iconst (pc := 72) dX6_put_72 ic_1 ?_
      refine j_iadd (pc := 73) dX6_put_73 ?_
      refine j_put (pc := 74) (w' := [jO a_o 3 [.ref a_o_stored, .int (v_o_held + (1 : Int32))], jJ E a_o_stored n_o_stored (vp_updL f_o_stored v_o_held.toNatClampNeg x1)]) tyX6 0 1 tyX6_ok nmX6 rfl rfl (Nat.le_of_ble_eq_true rfl) iwX6 m1_76 rfl rfl rfl rfl (Nat.le_of_ble_eq_true rfl) dX6_put_74 rfl ?_
      cases h
      exact j_vret (pc := 77) rfl dX6_put_77 (Nat.le_of_ble_eq_true rfl) (Nat.le_of_ble_eq_true rfl) (jd_i rfl rfl)
set_option maxRecDepth 20000 in
theorem c_X6_put {l : Launch} {E : jE} {F : Nat} {n_o_stored : Nat} {x1 : Int64} {a_o a_o_stored : Nat} {v_o_held : Int32} {f_o_stored : Nat → Int64} : ∀ u : Int32 × (Nat → Int64), f_X6_put F n_o_stored x1 v_o_held f_o_stored = some u → jM l E K_X6_put [.ref a_o, .long x1] [jO a_o 3 [.ref a_o_stored, .int v_o_held], jJ E a_o_stored n_o_stored f_o_stored] (jd none [jO a_o 3 [.ref a_o_stored, .int u.1], jJ E a_o_stored n_o_stored u.2]) := by
  intro u h
  unfold f_X6_put at h
  refine j_met [(0, .ref a_o), (1, .long x1)] (by decide +kernel) (Nat.le_of_ble_eq_true rfl) rfl ?_
  refine j_aload_n (pc := 0) 0 dX6_put_0 rfl rfl ?_
  refine j_V (pc := 1) (q0 := 0) (Kc := K_X6_isFull) (As := []) (rest := []) (wc := [jO a_o 3 [.ref a_o_stored, .int v_o_held], jJ E a_o_stored n_o_stored f_o_stored]) (w' := fun b1 => [jO a_o 3 [.ref a_o_stored, .int v_o_held], jJ E a_o_stored n_o_stored f_o_stored]) (st1 := fun b1 => [.int b1]) [0, 1] rfl rfl rfl h c_X6_isFull q_X6_isFull m2_72 rfl rfl (Nat.le_of_ble_eq_true rfl) ⟨(Nat.le_of_ble_eq_true rfl), (Nat.le_of_ble_eq_true rfl)⟩ ⟨rfl, rfl⟩ ⟨(Nat.le_of_ble_eq_true rfl), (Nat.le_of_ble_eq_true rfl)⟩ dX6_put_1 rfl (by decide) (fun _ => rfl) (fun _ => rfl) (fun _ => rfl) (fun b1 h => ?_)
  refine j_if_eq (pc := 4) (tgt := 38) dX6_put_4 (by decide) h (fun h => ?_) (fun h => ?_)
  · exact w_X6_put_38 _ _ u h
  · refine j_aload_n (pc := 7) 0 dX6_put_7 rfl rfl ?_
    refine j_get (pc := 8) (v := .ref a_o_stored) 0 0 rfl rfl (Nat.le_of_ble_eq_true rfl) iwX6 m1_75 rfl dX6_put_8 ?_
    refine j_iconst (pc := 11) dX6_put_11 ic_1 ?_
    refine j_aload_n (pc := 12) 0 dX6_put_12 rfl rfl ?_
    refine j_get (pc := 13) (v := .ref a_o_stored) 0 0 rfl rfl (Nat.le_of_ble_eq_true rfl) iwX6 m1_75 rfl dX6_put_13 ?_
    refine j_iconst (pc := 16) dX6_put_16 ic_0 ?_
    refine j_aload_n (pc := 17) 0 dX6_put_17 rfl rfl ?_
    refine j_get (pc := 18) (v := .ref a_o_stored) 0 0 rfl rfl (Nat.le_of_ble_eq_true rfl) iwX6 m1_75 rfl dX6_put_18 ?_
    refine j_alenJ (pc := 21) (v := (Int32.ofNat n_o_stored)) 1 rfl dX6_put_21 rfl ?_
    refine j_iconst (pc := 22) dX6_put_22 ic_1 ?_
    refine j_isub (pc := 23) dX6_put_23 ?_
    refine j_copyl (pc := 24) (w' := [jO a_o 3 [.ref a_o_stored, .int v_o_held], jJ E a_o_stored n_o_stored (va_cpy f_o_stored f_o_stored (1 : Int32).toNatClampNeg (0 : Int32).toNatClampNeg ((Int32.ofNat n_o_stored) - (1 : Int32)).toNatClampNeg)]) 1 m2_76 hw_copy_n hw_copy_s hw_sys (Nat.le_of_ble_eq_true rfl) (Nat.le_of_ble_eq_true rfl) dX6_put_24 rfl h rfl (fun h => ?_)
    refine j_aload_n (pc := 27) 0 dX6_put_27 rfl rfl ?_
    refine j_aload_n (pc := 28) 0 dX6_put_28 rfl rfl ?_
    refine j_get (pc := 29) (v := .ref a_o_stored) 0 0 rfl rfl (Nat.le_of_ble_eq_true rfl) iwX6 m1_75 rfl dX6_put_29 ?_
    refine j_alenJ (pc := 32) (v := (Int32.ofNat n_o_stored)) 1 rfl dX6_put_32 rfl ?_
    refine j_iconst (pc := 33) dX6_put_33 ic_1 ?_
    refine j_isub (pc := 34) dX6_put_34 ?_
    refine j_put (pc := 35) (w' := [jO a_o 3 [.ref a_o_stored, .int ((Int32.ofNat n_o_stored) - (1 : Int32))], jJ E a_o_stored n_o_stored (va_cpy f_o_stored f_o_stored (1 : Int32).toNatClampNeg (0 : Int32).toNatClampNeg ((Int32.ofNat n_o_stored) - (1 : Int32)).toNatClampNeg)]) tyX6 0 1 tyX6_ok nmX6 rfl rfl (Nat.le_of_ble_eq_true rfl) iwX6 m1_76 rfl rfl rfl rfl (Nat.le_of_ble_eq_true rfl) dX6_put_35 rfl ?_
    exact w_X6_put_38 _ _ u h
set_option maxRecDepth 20000 in
theorem w_X3_turnedOver_4 {l : Launch} {E : jE} {F : Nat} {x0 : Int32} : ∀ (n : Nat) (x1 : Int64) (x3 : Int32) (u : Int64), g_X3_turnedOver_4 F x0 n x1 x3 = some u → jT l E K_X3_turnedOver 0 0 4 [(0, .int x0), (1, .long x1), (3, .int x3)] [] [] (jd (some (.long u)) []) := by
  intro n
  induction n with
  | zero =>
    intro x1 x3 u h
    rw [g_X3_turnedOver_4] at h
    cases h
  | succ n ih =>
    intro x1 x3 u h
    rw [g_X3_turnedOver_4] at h
    refine j_iload_n (pc := 4) 2 dX3_turnedOver_4 rfl rfl ?_
    refine j_iload_n (pc := 5) 0 dX3_turnedOver_5 rfl rfl ?_
    refine j_icmp_ge (pc := 6) (tgt := 26) dX3_turnedOver_6 (by decide) h (fun h => ?_) (fun h => ?_)
    · refine j_lload_n (pc := 26) 1 dX3_turnedOver_26 rfl rfl ?_
      cases h
      exact j_lret (pc := 27) rfl dX3_turnedOver_27 (Nat.le_of_ble_eq_true rfl) (Nat.le_of_ble_eq_true rfl) (jd_i rfl rfl)
    · refine j_lload_n (pc := 9) 1 dX3_turnedOver_9 rfl rfl ?_
      refine j_iload_n (pc := 10) 2 dX3_turnedOver_10 rfl rfl ?_
      refine j_iload_n (pc := 11) 0 dX3_turnedOver_11 rfl rfl ?_
      refine j_iconst (pc := 12) dX3_turnedOver_12 ic_1 ?_
      refine j_isub (pc := 13) dX3_turnedOver_13 ?_
      refine j_iload_n (pc := 14) 2 dX3_turnedOver_14 rfl rfl ?_
      refine j_isub (pc := 15) dX3_turnedOver_15 ?_
      refine j_S0 (pc := 16) (Kc := K_X4_with) (As := [.long x1, .int x3, .int ((x0 - (1 : Int32)) - x3)]) (rest := []) h c_X4_with q_X4_with m1_168 rfl rfl (Nat.le_of_ble_eq_true rfl) ⟨(Nat.le_of_ble_eq_true rfl), (Nat.le_of_ble_eq_true rfl)⟩ ⟨rfl, rfl⟩ ⟨(Nat.le_of_ble_eq_true rfl), (Nat.le_of_ble_eq_true rfl)⟩ dX3_turnedOver_16 (fun b1 h => ?_)
      refine j_lstore_n (pc := 19) (lv' := [(1, .long b1), (0, .int x0), (3, .int x3)]) dX3_turnedOver_19 rfl (Nat.le_of_ble_eq_true rfl) rfl ?_
      refine j_iinc (pc := 20) (j := 2) (lv' := [(3, .int (x3 + (1 : Int32))), (1, .long b1), (0, .int x0)]) dX3_turnedOver_20 rfl (congrArg (fun z => x3 + z) ic_1) (Nat.le_of_ble_eq_true rfl) rfl ?_
      refine j_goto (pc := 23) (tgt := 4) dX3_turnedOver_23 (by decide) ?_
      exact j_sub (lv' := [(0, .int x0), (1, .long b1), (3, .int (x3 + (1 : Int32)))]) [2, 1, 0] rfl (ih _ _ u h)
set_option maxRecDepth 20000 in
theorem c_X3_turnedOver {l : Launch} {E : jE} {F : Nat} {x0 : Int32} : ∀ u : Int64, f_X3_turnedOver F x0 = some u → jM l E K_X3_turnedOver [.int x0] [] (jd (some (.long u)) []) := by
  intro u h
  unfold f_X3_turnedOver at h
  refine j_met [(0, .int x0)] (by decide +kernel) (Nat.le_of_ble_eq_true rfl) rfl ?_
  refine j_lconst (pc := 0) dX3_turnedOver_0 lc_0 ?_
  refine j_lstore_n (pc := 1) (lv' := [(1, .long (0 : Int64)), (0, .int x0)]) dX3_turnedOver_1 rfl (Nat.le_of_ble_eq_true rfl) rfl ?_
  refine j_iconst (pc := 2) dX3_turnedOver_2 ic_0 ?_
  refine j_istore_n (pc := 3) (lv' := [(3, .int (0 : Int32)), (1, .long (0 : Int64)), (0, .int x0)]) dX3_turnedOver_3 rfl (Nat.le_of_ble_eq_true rfl) rfl ?_
  exact j_sub (lv' := [(0, .int x0), (1, .long (0 : Int64)), (3, .int (0 : Int32))]) [2, 1, 0] rfl (w_X3_turnedOver_4 _ _ _ u h)
set_option maxRecDepth 20000 in
theorem c_X6_takeLast {l : Launch} {E : jE} {F : Nat} {n_o_stored : Nat} {f_o_stored : Nat → Int64} {a_o a_o_stored : Nat} {v_o_held : Int32} : ∀ u : Int64 × Int32, f_X6_takeLast F n_o_stored f_o_stored v_o_held = some u → jM l E K_X6_takeLast [.ref a_o] [jO a_o 3 [.ref a_o_stored, .int v_o_held], jJ E a_o_stored n_o_stored f_o_stored] (jd (some (.long u.1)) [jO a_o 3 [.ref a_o_stored, .int u.2], jJ E a_o_stored n_o_stored f_o_stored]) := by
  intro u h
  unfold f_X6_takeLast at h
  refine j_met [(0, .ref a_o)] (by decide +kernel) (Nat.le_of_ble_eq_true rfl) rfl ?_
  refine j_aload_n (pc := 0) 0 dX6_takeLast_0 rfl rfl ?_
  refine j_get (pc := 1) (v := .int v_o_held) 0 1 rfl rfl (Nat.le_of_ble_eq_true rfl) iwX6 m1_76 rfl dX6_takeLast_1 ?_
  refine j_if_le (pc := 4) (tgt := 19) dX6_takeLast_4 (by decide) h (fun h => ?_) (fun h => ?_)
  · refine j_lconst (pc := 19) dX6_takeLast_19 lc_0 ?_
    cases h
    exact j_lret (pc := 20) rfl dX6_takeLast_20 (Nat.le_of_ble_eq_true rfl) (Nat.le_of_ble_eq_true rfl) (jd_i rfl rfl)
  · refine j_aload_n (pc := 7) 0 dX6_takeLast_7 rfl rfl ?_
    refine j_get (pc := 8) (v := .int v_o_held) 0 1 rfl rfl (Nat.le_of_ble_eq_true rfl) iwX6 m1_76 rfl dX6_takeLast_8 ?_
    refine j_aload_n (pc := 11) 0 dX6_takeLast_11 rfl rfl ?_
    refine j_get (pc := 12) (v := .ref a_o_stored) 0 0 rfl rfl (Nat.le_of_ble_eq_true rfl) iwX6 m1_75 rfl dX6_takeLast_12 ?_
    refine j_alenJ (pc := 15) (v := (Int32.ofNat n_o_stored)) 1 rfl dX6_takeLast_15 rfl ?_
    refine j_icmp_le (pc := 16) (tgt := 21) dX6_takeLast_16 (by decide) h (fun h => ?_) (fun h => ?_)
    · refine j_aload_n (pc := 21) 0 dX6_takeLast_21 rfl rfl ?_
      refine j_dup (pc := 22) dX6_takeLast_22 rfl ?_
      refine j_get (pc := 23) (v := .int v_o_held) 0 1 rfl rfl (Nat.le_of_ble_eq_true rfl) iwX6 m1_76 rfl dX6_takeLast_23 ?_
      refine j_iconst (pc := 26) dX6_takeLast_26 ic_1 ?_
      refine j_isub (pc := 27) dX6_takeLast_27 ?_
      refine j_put (pc := 28) (w' := [jO a_o 3 [.ref a_o_stored, .int (v_o_held - (1 : Int32))], jJ E a_o_stored n_o_stored f_o_stored]) tyX6 0 1 tyX6_ok nmX6 rfl rfl (Nat.le_of_ble_eq_true rfl) iwX6 m1_76 rfl rfl rfl rfl (Nat.le_of_ble_eq_true rfl) dX6_takeLast_28 rfl ?_
      refine j_aload_n (pc := 31) 0 dX6_takeLast_31 rfl rfl ?_
      refine j_get (pc := 32) (v := .ref a_o_stored) 0 0 rfl rfl (Nat.le_of_ble_eq_true rfl) iwX6 m1_75 rfl dX6_takeLast_32 ?_
      refine j_aload_n (pc := 35) 0 dX6_takeLast_35 rfl rfl ?_
      refine j_get (pc := 36) (v := .int (v_o_held - (1 : Int32))) 0 1 rfl rfl (Nat.le_of_ble_eq_true rfl) iwX6 m1_76 rfl dX6_takeLast_36 ?_
      refine j_lald (pc := 39) 1 rfl dX6_takeLast_39 h (fun h => ?_)
      cases h
      exact j_lret (pc := 40) rfl dX6_takeLast_40 (Nat.le_of_ble_eq_true rfl) (Nat.le_of_ble_eq_true rfl) (jd_i rfl rfl)
    · refine j_lconst (pc := 19) dX6_takeLast_19 lc_0 ?_
      cases h
      exact j_lret (pc := 20) rfl dX6_takeLast_20 (Nat.le_of_ble_eq_true rfl) (Nat.le_of_ble_eq_true rfl) (jd_i rfl rfl)
set_option maxRecDepth 20000 in
theorem w_X4_roundLength_6 {l : Launch} {E : jE} {F : Nat} {x0 : Int64} {x2 : Int32} {x3 : Int32} : ∀ (n : Nat) (x4 : Int32) (x5 : Int32) (u : Int32), g_X4_roundLength_6 F x0 x2 x3 n x4 x5 = some u → jT l E K_X4_roundLength 0 0 6 [(0, .long x0), (2, .int x2), (3, .int x3), (4, .int x4), (5, .int x5)] [] [] (jd (some (.int u)) []) := by
  intro n
  induction n with
  | zero =>
    intro x4 x5 u h
    rw [g_X4_roundLength_6] at h
    cases h
  | succ n ih =>
    intro x4 x5 u h
    rw [g_X4_roundLength_6] at h
    refine j_iload (pc := 6) 4 dX4_roundLength_6 rfl ?_
    refine j_iload_n (pc := 8) 1 dX4_roundLength_8 rfl rfl ?_
    refine j_icmp_ge (pc := 9) (tgt := 35) dX4_roundLength_9 (by decide) h (fun h => ?_) (fun h => ?_)
    · refine j_iload_n (pc := 35) 1 dX4_roundLength_35 rfl rfl ?_
      cases h
      exact j_iret (pc := 36) rfl dX4_roundLength_36 (Nat.le_of_ble_eq_true rfl) (Nat.le_of_ble_eq_true rfl) (jd_i rfl rfl)
    · refine j_lload_n (pc := 12) 0 dX4_roundLength_12 rfl rfl ?_
      refine j_iload (pc := 13) 3 dX4_roundLength_13 rfl ?_
      refine j_S0 (pc := 15) (Kc := K_X4_cardAt) (As := [.long x0, .int x4]) (rest := []) h c_X4_cardAt q_X4_cardAt m1_179 rfl rfl (Nat.le_of_ble_eq_true rfl) ⟨(Nat.le_of_ble_eq_true rfl), (Nat.le_of_ble_eq_true rfl)⟩ ⟨rfl, rfl⟩ ⟨(Nat.le_of_ble_eq_true rfl), (Nat.le_of_ble_eq_true rfl)⟩ dX4_roundLength_15 (fun b1 h => ?_)
      refine j_istore (pc := 18) (lv' := [(4, .int b1), (0, .long x0), (2, .int x2), (3, .int x3), (5, .int x5)]) dX4_roundLength_18 (Nat.le_of_ble_eq_true rfl) rfl ?_
      refine j_iload (pc := 20) 0 dX4_roundLength_20 rfl ?_
      refine j_iload_n (pc := 22) 3 dX4_roundLength_22 rfl rfl ?_
      refine j_icmp_ne (pc := 23) (tgt := 29) dX4_roundLength_23 (by decide) h (fun h => ?_) (fun h => ?_)
      · refine j_iinc (pc := 29) (j := 4) (lv' := [(5, .int (x5 + (1 : Int32))), (4, .int b1), (0, .long x0), (2, .int x2), (3, .int x3)]) dX4_roundLength_29 rfl (congrArg (fun z => x5 + z) ic_1) (Nat.le_of_ble_eq_true rfl) rfl ?_
        refine j_goto (pc := 32) (tgt := 6) dX4_roundLength_32 (by decide) ?_
        exact j_sub (lv' := [(0, .long x0), (2, .int x2), (3, .int x3), (4, .int b1), (5, .int (x5 + (1 : Int32)))]) [2, 3, 4, 1, 0] rfl (ih _ _ u h)
      · refine j_iload (pc := 26) 4 dX4_roundLength_26 rfl ?_
        cases h
        exact j_iret (pc := 28) rfl dX4_roundLength_28 (Nat.le_of_ble_eq_true rfl) (Nat.le_of_ble_eq_true rfl) (jd_i rfl rfl)
set_option maxRecDepth 20000 in
theorem c_X4_roundLength {l : Launch} {E : jE} {F : Nat} {x0 : Int64} {x2 : Int32} {x3 : Int32} : ∀ u : Int32, f_X4_roundLength F x0 x2 x3 = some u → jM l E K_X4_roundLength [.long x0, .int x2, .int x3] [] (jd (some (.int u)) []) := by
  intro u h
  unfold f_X4_roundLength at h
  refine j_met [(0, .long x0), (2, .int x2), (3, .int x3)] (by decide +kernel) (Nat.le_of_ble_eq_true rfl) rfl ?_
  refine j_iload_n (pc := 0) 2 dX4_roundLength_0 rfl rfl ?_
  refine j_istore (pc := 1) (lv' := [(4, .int x3), (0, .long x0), (2, .int x2), (3, .int x3)]) dX4_roundLength_1 (Nat.le_of_ble_eq_true rfl) rfl ?_
  refine j_iconst (pc := 3) dX4_roundLength_3 ic_1 ?_
  refine j_istore (pc := 4) (lv' := [(5, .int (1 : Int32)), (4, .int x3), (0, .long x0), (2, .int x2), (3, .int x3)]) dX4_roundLength_4 (Nat.le_of_ble_eq_true rfl) rfl ?_
  exact j_sub (lv' := [(0, .long x0), (2, .int x2), (3, .int x3), (4, .int x3), (5, .int (1 : Int32))]) [2, 3, 4, 1, 0] rfl (w_X4_roundLength_6 _ _ _ u h)
set_option maxRecDepth 20000 in
theorem w_X1_commonDivisor_7 {l : Launch} {E : jE} {F : Nat} {x0 : Int32} {x1 : Int32} : ∀ (n : Nat) (x2 : Int32) (x3 : Int32) (x4 : Int32) (u : Int32), g_X1_commonDivisor_7 F x0 x1 n x2 x3 x4 = some u → jT l E K_X1_commonDivisor 0 0 7 [(2, .int x2), (3, .int x3), (4, .int x4)] [] [] (jd (some (.int u)) []) := by
  intro n
  induction n with
  | zero =>
    intro x2 x3 x4 u h
    rw [g_X1_commonDivisor_7] at h
    cases h
  | succ n ih =>
    intro x2 x3 x4 u h
    rw [g_X1_commonDivisor_7] at h
    refine j_iload (pc := 7) 2 dX1_commonDivisor_7 rfl ?_
    refine j_bipush (pc := 9) dX1_commonDivisor_9 bc_64 ?_
    refine j_icmp_ge (pc := 11) (tgt := 34) dX1_commonDivisor_11 (by decide) h (fun h => ?_) (fun h => ?_)
    · refine j_iload_n (pc := 34) 0 dX1_commonDivisor_34 rfl rfl ?_
      cases h
      exact j_iret (pc := 35) rfl dX1_commonDivisor_35 (Nat.le_of_ble_eq_true rfl) (Nat.le_of_ble_eq_true rfl) (jd_i rfl rfl)
    · refine j_iload_n (pc := 14) 1 dX1_commonDivisor_14 rfl rfl ?_
      refine j_if_eq (pc := 15) (tgt := 34) dX1_commonDivisor_15 (by decide) h (fun h => ?_) (fun h => ?_)
      · refine j_iload_n (pc := 34) 0 dX1_commonDivisor_34 rfl rfl ?_
        cases h
        exact j_iret (pc := 35) rfl dX1_commonDivisor_35 (Nat.le_of_ble_eq_true rfl) (Nat.le_of_ble_eq_true rfl) (jd_i rfl rfl)
      · refine j_iload_n (pc := 18) 0 dX1_commonDivisor_18 rfl rfl ?_
        refine j_iload_n (pc := 19) 1 dX1_commonDivisor_19 rfl rfl ?_
        refine j_irem (pc := 20) dX1_commonDivisor_20 h (fun h => ?_)
        refine j_istore (pc := 21) (lv' := [(5, .int (jrem x2 x3)), (2, .int x2), (3, .int x3), (4, .int x4)]) dX1_commonDivisor_21 (Nat.le_of_ble_eq_true rfl) rfl ?_
        refine j_iload_n (pc := 23) 2 dX1_commonDivisor_23 rfl rfl ?_
        refine j_istore_n (pc := 24) (lv' := [(2, .int x3), (5, .int (jrem x2 x3)), (3, .int x3), (4, .int x4)]) dX1_commonDivisor_24 rfl (Nat.le_of_ble_eq_true rfl) rfl ?_
        refine j_iload (pc := 25) 1 dX1_commonDivisor_25 rfl ?_
        refine j_istore_n (pc := 27) (lv' := [(3, .int (jrem x2 x3)), (2, .int x3), (5, .int (jrem x2 x3)), (4, .int x4)]) dX1_commonDivisor_27 rfl (Nat.le_of_ble_eq_true rfl) rfl ?_
        refine j_iinc (pc := 28) (j := 3) (lv' := [(4, .int (x4 + (1 : Int32))), (3, .int (jrem x2 x3)), (2, .int x3), (5, .int (jrem x2 x3))]) dX1_commonDivisor_28 rfl (congrArg (fun z => x4 + z) ic_1) (Nat.le_of_ble_eq_true rfl) rfl ?_
        refine j_goto (pc := 31) (tgt := 7) dX1_commonDivisor_31 (by decide) ?_
        exact j_sub (lv' := [(2, .int x3), (3, .int (jrem x2 x3)), (4, .int (x4 + (1 : Int32)))]) [2, 1, 0] rfl (ih _ _ _ u h)
set_option maxRecDepth 20000 in
theorem c_X1_commonDivisor {l : Launch} {E : jE} {F : Nat} {x0 : Int32} {x1 : Int32} : ∀ u : Int32, f_X1_commonDivisor F x0 x1 = some u → jM l E K_X1_commonDivisor [.int x0, .int x1] [] (jd (some (.int u)) []) := by
  intro u h
  unfold f_X1_commonDivisor at h
  refine j_met [(0, .int x0), (1, .int x1)] (by decide +kernel) (Nat.le_of_ble_eq_true rfl) rfl ?_
  refine j_iload_n (pc := 0) 0 dX1_commonDivisor_0 rfl rfl ?_
  refine j_istore_n (pc := 1) (lv' := [(2, .int x0), (0, .int x0), (1, .int x1)]) dX1_commonDivisor_1 rfl (Nat.le_of_ble_eq_true rfl) rfl ?_
  refine j_iload_n (pc := 2) 2 dX1_commonDivisor_2 rfl rfl ?_
  refine j_istore_n (pc := 3) (lv' := [(3, .int x1), (2, .int x0), (0, .int x0), (1, .int x1)]) dX1_commonDivisor_3 rfl (Nat.le_of_ble_eq_true rfl) rfl ?_
  refine j_iconst (pc := 4) dX1_commonDivisor_4 ic_0 ?_
  refine j_istore (pc := 5) (lv' := [(4, .int (0 : Int32)), (3, .int x1), (2, .int x0), (0, .int x0), (1, .int x1)]) dX1_commonDivisor_5 (Nat.le_of_ble_eq_true rfl) rfl ?_
  exact j_sub (lv' := [(2, .int x0), (3, .int x1), (4, .int (0 : Int32))]) [2, 1, 0] rfl (w_X1_commonDivisor_7 _ _ _ _ u h)
set_option maxRecDepth 20000 in
theorem w_X4_timesTillSame_5 {l : Launch} {E : jE} {F : Nat} {x0 : Int64} {x2 : Int32} : ∀ (n : Nat) (x3 : Int32) (x4 : Int32) (u : Int32), g_X4_timesTillSame_5 F x0 x2 n x3 x4 = some u → jT l E K_X4_timesTillSame 0 0 5 [(0, .long x0), (2, .int x2), (3, .int x3), (4, .int x4)] [] [] (jd (some (.int u)) []) := by
  intro n
  induction n with
  | zero =>
    intro x3 x4 u h
    rw [g_X4_timesTillSame_5] at h
    cases h
  | succ n ih =>
    intro x3 x4 u h
    rw [g_X4_timesTillSame_5] at h
    refine j_iload (pc := 5) 3 dX4_timesTillSame_5 rfl ?_
    refine j_iload_n (pc := 7) 1 dX4_timesTillSame_7 rfl rfl ?_
    refine j_icmp_ge (pc := 8) (tgt := 51) dX4_timesTillSame_8 (by decide) h (fun h => ?_) (fun h => ?_)
    · refine j_iload_n (pc := 51) 2 dX4_timesTillSame_51 rfl rfl ?_
      cases h
      exact j_iret (pc := 52) rfl dX4_timesTillSame_52 (Nat.le_of_ble_eq_true rfl) (Nat.le_of_ble_eq_true rfl) (jd_i rfl rfl)
    · refine j_lload_n (pc := 11) 0 dX4_timesTillSame_11 rfl rfl ?_
      refine j_iload_n (pc := 12) 1 dX4_timesTillSame_12 rfl rfl ?_
      refine j_iload (pc := 13) 3 dX4_timesTillSame_13 rfl ?_
      refine j_S0 (pc := 15) (Kc := K_X4_roundLength) (As := [.long x0, .int x2, .int x4]) (rest := []) h c_X4_roundLength q_X4_roundLength m2_111 rfl rfl (Nat.le_of_ble_eq_true rfl) ⟨(Nat.le_of_ble_eq_true rfl), (Nat.le_of_ble_eq_true rfl)⟩ ⟨rfl, rfl⟩ ⟨(Nat.le_of_ble_eq_true rfl), (Nat.le_of_ble_eq_true rfl)⟩ dX4_timesTillSame_15 (fun b1 h => ?_)
      refine j_istore (pc := 18) (lv' := [(5, .int b1), (0, .long x0), (2, .int x2), (3, .int x3), (4, .int x4)]) dX4_timesTillSame_18 (Nat.le_of_ble_eq_true rfl) rfl ?_
      refine j_iload_n (pc := 20) 3 dX4_timesTillSame_20 rfl rfl ?_
      refine j_iload (pc := 21) 0 dX4_timesTillSame_21 rfl ?_
      refine j_S0 (pc := 23) (Kc := K_X1_commonDivisor) (As := [.int x3, .int b1]) (rest := []) h c_X1_commonDivisor q_X1_commonDivisor m2_114 rfl rfl (Nat.le_of_ble_eq_true rfl) ⟨(Nat.le_of_ble_eq_true rfl), (Nat.le_of_ble_eq_true rfl)⟩ ⟨rfl, rfl⟩ ⟨(Nat.le_of_ble_eq_true rfl), (Nat.le_of_ble_eq_true rfl)⟩ dX4_timesTillSame_23 (fun b2 h => ?_)
      refine j_istore (pc := 26) (lv' := [(6, .int b2), (5, .int b1), (0, .long x0), (2, .int x2), (3, .int x3), (4, .int x4)]) dX4_timesTillSame_26 (Nat.le_of_ble_eq_true rfl) rfl ?_
      refine j_iload (pc := 28) 0 dX4_timesTillSame_28 rfl ?_
      refine j_if_le (pc := 30) (tgt := 43) dX4_timesTillSame_30 (by decide) h (fun h => ?_) (fun h => ?_)
      · refine j_iload_n (pc := 43) 4 dX4_timesTillSame_43 rfl rfl ?_
        refine j_istore_n (pc := 44) (lv' := [(3, .int x3), (6, .int b2), (5, .int b1), (0, .long x0), (2, .int x2), (4, .int x4)]) dX4_timesTillSame_44 rfl (Nat.le_of_ble_eq_true rfl) rfl ?_
        refine j_iinc (pc := 45) (j := 5) (lv' := [(4, .int (x4 + (1 : Int32))), (3, .int x3), (6, .int b2), (5, .int b1), (0, .long x0), (2, .int x2)]) dX4_timesTillSame_45 rfl (congrArg (fun z => x4 + z) ic_1) (Nat.le_of_ble_eq_true rfl) rfl ?_
        refine j_goto (pc := 48) (tgt := 5) dX4_timesTillSame_48 (by decide) ?_
        exact j_sub (lv' := [(0, .long x0), (2, .int x2), (3, .int x3), (4, .int (x4 + (1 : Int32)))]) [4, 5, 1, 0] rfl (ih _ _ u h)
      · refine j_iload_n (pc := 33) 4 dX4_timesTillSame_33 rfl rfl ?_
        refine j_iload (pc := 34) 0 dX4_timesTillSame_34 rfl ?_
        refine j_idiv (pc := 36) dX4_timesTillSame_36 h (fun h => ?_)
        refine j_iload (pc := 37) 1 dX4_timesTillSame_37 rfl ?_
        refine j_imul (pc := 39) dX4_timesTillSame_39 ?_
        refine j_goto (pc := 40) (tgt := 44) dX4_timesTillSame_40 (by decide) ?_
        refine j_istore_n (pc := 44) (lv' := [(3, .int ((x3 / b2) * b1)), (6, .int b2), (5, .int b1), (0, .long x0), (2, .int x2), (4, .int x4)]) dX4_timesTillSame_44 rfl (Nat.le_of_ble_eq_true rfl) rfl ?_
        refine j_iinc (pc := 45) (j := 5) (lv' := [(4, .int (x4 + (1 : Int32))), (3, .int ((x3 / b2) * b1)), (6, .int b2), (5, .int b1), (0, .long x0), (2, .int x2)]) dX4_timesTillSame_45 rfl (congrArg (fun z => x4 + z) ic_1) (Nat.le_of_ble_eq_true rfl) rfl ?_
        refine j_goto (pc := 48) (tgt := 5) dX4_timesTillSame_48 (by decide) ?_
        exact j_sub (lv' := [(0, .long x0), (2, .int x2), (3, .int ((x3 / b2) * b1)), (4, .int (x4 + (1 : Int32)))]) [4, 5, 1, 0] rfl (ih _ _ u h)
set_option maxRecDepth 20000 in
theorem c_X4_timesTillSame {l : Launch} {E : jE} {F : Nat} {x0 : Int64} {x2 : Int32} : ∀ u : Int32, f_X4_timesTillSame F x0 x2 = some u → jM l E K_X4_timesTillSame [.long x0, .int x2] [] (jd (some (.int u)) []) := by
  intro u h
  unfold f_X4_timesTillSame at h
  refine j_met [(0, .long x0), (2, .int x2)] (by decide +kernel) (Nat.le_of_ble_eq_true rfl) rfl ?_
  refine j_iconst (pc := 0) dX4_timesTillSame_0 ic_1 ?_
  refine j_istore_n (pc := 1) (lv' := [(3, .int (1 : Int32)), (0, .long x0), (2, .int x2)]) dX4_timesTillSame_1 rfl (Nat.le_of_ble_eq_true rfl) rfl ?_
  refine j_iconst (pc := 2) dX4_timesTillSame_2 ic_0 ?_
  refine j_istore (pc := 3) (lv' := [(4, .int (0 : Int32)), (3, .int (1 : Int32)), (0, .long x0), (2, .int x2)]) dX4_timesTillSame_3 (Nat.le_of_ble_eq_true rfl) rfl ?_
  exact j_sub (lv' := [(0, .long x0), (2, .int x2), (3, .int (1 : Int32)), (4, .int (0 : Int32))]) [2, 3, 1, 0] rfl (w_X4_timesTillSame_5 _ _ _ u h)
set_option maxRecDepth 20000 in
theorem w_X4_roundOf_9 {l : Launch} {E : jE} {F : Nat} {x0 : Int64} {x2 : Int32} {x3 : Int32} : ∀ (n : Nat) (x4 : Int32) (x5 : Int32) (x6 : Int32) (u : Int32), g_X4_roundOf_9 F x0 x2 x3 n x4 x5 x6 = some u → jT l E K_X4_roundOf 0 0 9 [(0, .long x0), (2, .int x2), (4, .int x4), (5, .int x5), (6, .int x6)] [] [] (jd (some (.int u)) []) := by
  intro n
  induction n with
  | zero =>
    intro x4 x5 x6 u h
    rw [g_X4_roundOf_9] at h
    cases h
  | succ n ih =>
    intro x4 x5 x6 u h
    rw [g_X4_roundOf_9] at h
    refine j_iload (pc := 9) 4 dX4_roundOf_9 rfl ?_
    refine j_iload_n (pc := 11) 1 dX4_roundOf_11 rfl rfl ?_
    refine j_icmp_ge (pc := 12) (tgt := 38) dX4_roundOf_12 (by decide) h (fun h => ?_) (fun h => ?_)
    · refine j_iload (pc := 38) 2 dX4_roundOf_38 rfl ?_
      cases h
      exact j_iret (pc := 40) rfl dX4_roundOf_40 (Nat.le_of_ble_eq_true rfl) (Nat.le_of_ble_eq_true rfl) (jd_i rfl rfl)
    · refine j_iload (pc := 15) 2 dX4_roundOf_15 rfl ?_
      refine j_iconst (pc := 17) dX4_roundOf_17 ic_1 ?_
      refine j_iload (pc := 18) 3 dX4_roundOf_18 rfl ?_
      refine j_ishl (pc := 20) dX4_roundOf_20 ?_
      refine j_ior (pc := 21) dX4_roundOf_21 ?_
      refine j_istore (pc := 22) (lv' := [(4, .int (x4 ||| (jshl (1 : Int32) x5))), (0, .long x0), (2, .int x2), (5, .int x5), (6, .int x6)]) dX4_roundOf_22 (Nat.le_of_ble_eq_true rfl) rfl ?_
      refine j_lload_n (pc := 24) 1 dX4_roundOf_24 rfl rfl ?_
      refine j_iload (pc := 25) 3 dX4_roundOf_25 rfl ?_
      refine j_S0 (pc := 27) (Kc := K_X4_cardAt) (As := [.long x0, .int x5]) (rest := []) h c_X4_cardAt q_X4_cardAt m1_179 rfl rfl (Nat.le_of_ble_eq_true rfl) ⟨(Nat.le_of_ble_eq_true rfl), (Nat.le_of_ble_eq_true rfl)⟩ ⟨rfl, rfl⟩ ⟨(Nat.le_of_ble_eq_true rfl), (Nat.le_of_ble_eq_true rfl)⟩ dX4_roundOf_27 (fun b1 h => ?_)
      refine j_istore (pc := 30) (lv' := [(5, .int b1), (4, .int (x4 ||| (jshl (1 : Int32) x5))), (0, .long x0), (2, .int x2), (6, .int x6)]) dX4_roundOf_30 (Nat.le_of_ble_eq_true rfl) rfl ?_
      refine j_iinc (pc := 32) (j := 4) (lv' := [(6, .int (x6 + (1 : Int32))), (5, .int b1), (4, .int (x4 ||| (jshl (1 : Int32) x5))), (0, .long x0), (2, .int x2)]) dX4_roundOf_32 rfl (congrArg (fun z => x6 + z) ic_1) (Nat.le_of_ble_eq_true rfl) rfl ?_
      refine j_goto (pc := 35) (tgt := 9) dX4_roundOf_35 (by decide) ?_
      exact j_sub (lv' := [(0, .long x0), (2, .int x2), (4, .int (x4 ||| (jshl (1 : Int32) x5))), (5, .int b1), (6, .int (x6 + (1 : Int32)))]) [3, 4, 2, 1, 0] rfl (ih _ _ _ u h)
set_option maxRecDepth 20000 in
theorem c_X4_roundOf {l : Launch} {E : jE} {F : Nat} {x0 : Int64} {x2 : Int32} {x3 : Int32} : ∀ u : Int32, f_X4_roundOf F x0 x2 x3 = some u → jM l E K_X4_roundOf [.long x0, .int x2, .int x3] [] (jd (some (.int u)) []) := by
  intro u h
  unfold f_X4_roundOf at h
  refine j_met [(0, .long x0), (2, .int x2), (3, .int x3)] (by decide +kernel) (Nat.le_of_ble_eq_true rfl) rfl ?_
  refine j_iconst (pc := 0) dX4_roundOf_0 ic_0 ?_
  refine j_istore (pc := 1) (lv' := [(4, .int (0 : Int32)), (0, .long x0), (2, .int x2), (3, .int x3)]) dX4_roundOf_1 (Nat.le_of_ble_eq_true rfl) rfl ?_
  refine j_iload_n (pc := 3) 3 dX4_roundOf_3 rfl rfl ?_
  refine j_istore (pc := 4) (lv' := [(5, .int x3), (4, .int (0 : Int32)), (0, .long x0), (2, .int x2), (3, .int x3)]) dX4_roundOf_4 (Nat.le_of_ble_eq_true rfl) rfl ?_
  refine j_iconst (pc := 6) dX4_roundOf_6 ic_0 ?_
  refine j_istore (pc := 7) (lv' := [(6, .int (0 : Int32)), (5, .int x3), (4, .int (0 : Int32)), (0, .long x0), (2, .int x2), (3, .int x3)]) dX4_roundOf_7 (Nat.le_of_ble_eq_true rfl) rfl ?_
  exact j_sub (lv' := [(0, .long x0), (2, .int x2), (4, .int (0 : Int32)), (5, .int x3), (6, .int (0 : Int32))]) [3, 4, 2, 1, 0] rfl (w_X4_roundOf_9 _ _ _ _ u h)
set_option maxRecDepth 20000 in
theorem w_X4_roundCount_8 {l : Launch} {E : jE} {F : Nat} {x0 : Int64} {x2 : Int32} : ∀ (n : Nat) (x3 : Int32) (x4 : Int32) (x5 : Int32) (u : Int32), g_X4_roundCount_8 F x0 x2 n x3 x4 x5 = some u → jT l E K_X4_roundCount 0 0 8 [(0, .long x0), (2, .int x2), (3, .int x3), (4, .int x4), (5, .int x5)] [] [] (jd (some (.int u)) []) := by
  intro n
  induction n with
  | zero =>
    intro x3 x4 x5 u h
    rw [g_X4_roundCount_8] at h
    cases h
  | succ n ih =>
    intro x3 x4 x5 u h
    rw [g_X4_roundCount_8] at h
    refine j_iload (pc := 8) 4 dX4_roundCount_8 rfl ?_
    refine j_iload_n (pc := 10) 1 dX4_roundCount_10 rfl rfl ?_
    refine j_icmp_ge (pc := 11) (tgt := 42) dX4_roundCount_11 (by decide) h (fun h => ?_) (fun h => ?_)
    · refine j_iload (pc := 42) 3 dX4_roundCount_42 rfl ?_
      cases h
      exact j_iret (pc := 44) rfl dX4_roundCount_44 (Nat.le_of_ble_eq_true rfl) (Nat.le_of_ble_eq_true rfl) (jd_i rfl rfl)
    · refine j_iload_n (pc := 14) 2 dX4_roundCount_14 rfl rfl ?_
      refine j_iload (pc := 15) 4 dX4_roundCount_15 rfl ?_
      refine j_ishr (pc := 17) dX4_roundCount_17 ?_
      refine j_iconst (pc := 18) dX4_roundCount_18 ic_1 ?_
      refine j_iand (pc := 19) dX4_roundCount_19 ?_
      refine j_if_ne (pc := 20) (tgt := 36) dX4_roundCount_20 (by decide) h (fun h => ?_) (fun h => ?_)
      · refine j_iinc (pc := 36) (j := 4) (lv' := [(5, .int (x5 + (1 : Int32))), (0, .long x0), (2, .int x2), (3, .int x3), (4, .int x4)]) dX4_roundCount_36 rfl (congrArg (fun z => x5 + z) ic_1) (Nat.le_of_ble_eq_true rfl) rfl ?_
        refine j_goto (pc := 39) (tgt := 8) dX4_roundCount_39 (by decide) ?_
        exact j_sub (lv' := [(0, .long x0), (2, .int x2), (3, .int x3), (4, .int x4), (5, .int (x5 + (1 : Int32)))]) [1, 2, 3, 4, 0] rfl (ih _ _ _ u h)
      · refine j_iinc (pc := 23) (j := 3) (lv' := [(4, .int (x4 + (1 : Int32))), (0, .long x0), (2, .int x2), (3, .int x3), (5, .int x5)]) dX4_roundCount_23 rfl (congrArg (fun z => x4 + z) ic_1) (Nat.le_of_ble_eq_true rfl) rfl ?_
        refine j_iload_n (pc := 26) 3 dX4_roundCount_26 rfl rfl ?_
        refine j_lload_n (pc := 27) 1 dX4_roundCount_27 rfl rfl ?_
        refine j_iload_n (pc := 28) 2 dX4_roundCount_28 rfl rfl ?_
        refine j_iload (pc := 29) 4 dX4_roundCount_29 rfl ?_
        refine j_S0 (pc := 31) (Kc := K_X4_roundOf) (As := [.long x0, .int x2, .int x5]) (rest := [.int x3]) h c_X4_roundOf q_X4_roundOf m2_129 rfl rfl (Nat.le_of_ble_eq_true rfl) ⟨(Nat.le_of_ble_eq_true rfl), (Nat.le_of_ble_eq_true rfl)⟩ ⟨rfl, rfl⟩ ⟨(Nat.le_of_ble_eq_true rfl), (Nat.le_of_ble_eq_true rfl)⟩ dX4_roundCount_31 (fun b1 h => ?_)
        refine j_ior (pc := 34) dX4_roundCount_34 ?_
        refine j_istore_n (pc := 35) (lv' := [(3, .int (x3 ||| b1)), (4, .int (x4 + (1 : Int32))), (0, .long x0), (2, .int x2), (5, .int x5)]) dX4_roundCount_35 rfl (Nat.le_of_ble_eq_true rfl) rfl ?_
        refine j_iinc (pc := 36) (j := 4) (lv' := [(5, .int (x5 + (1 : Int32))), (3, .int (x3 ||| b1)), (4, .int (x4 + (1 : Int32))), (0, .long x0), (2, .int x2)]) dX4_roundCount_36 rfl (congrArg (fun z => x5 + z) ic_1) (Nat.le_of_ble_eq_true rfl) rfl ?_
        refine j_goto (pc := 39) (tgt := 8) dX4_roundCount_39 (by decide) ?_
        exact j_sub (lv' := [(0, .long x0), (2, .int x2), (3, .int (x3 ||| b1)), (4, .int (x4 + (1 : Int32))), (5, .int (x5 + (1 : Int32)))]) [3, 4, 1, 2, 0] rfl (ih _ _ _ u h)
set_option maxRecDepth 20000 in
theorem c_X4_roundCount {l : Launch} {E : jE} {F : Nat} {x0 : Int64} {x2 : Int32} : ∀ u : Int32, f_X4_roundCount F x0 x2 = some u → jM l E K_X4_roundCount [.long x0, .int x2] [] (jd (some (.int u)) []) := by
  intro u h
  unfold f_X4_roundCount at h
  refine j_met [(0, .long x0), (2, .int x2)] (by decide +kernel) (Nat.le_of_ble_eq_true rfl) rfl ?_
  refine j_iconst (pc := 0) dX4_roundCount_0 ic_0 ?_
  refine j_istore_n (pc := 1) (lv' := [(3, .int (0 : Int32)), (0, .long x0), (2, .int x2)]) dX4_roundCount_1 rfl (Nat.le_of_ble_eq_true rfl) rfl ?_
  refine j_iconst (pc := 2) dX4_roundCount_2 ic_0 ?_
  refine j_istore (pc := 3) (lv' := [(4, .int (0 : Int32)), (3, .int (0 : Int32)), (0, .long x0), (2, .int x2)]) dX4_roundCount_3 (Nat.le_of_ble_eq_true rfl) rfl ?_
  refine j_iconst (pc := 5) dX4_roundCount_5 ic_0 ?_
  refine j_istore (pc := 6) (lv' := [(5, .int (0 : Int32)), (4, .int (0 : Int32)), (3, .int (0 : Int32)), (0, .long x0), (2, .int x2)]) dX4_roundCount_6 (Nat.le_of_ble_eq_true rfl) rfl ?_
  exact j_sub (lv' := [(0, .long x0), (2, .int x2), (3, .int (0 : Int32)), (4, .int (0 : Int32)), (5, .int (0 : Int32))]) [3, 4, 2, 1, 0] rfl (w_X4_roundCount_8 _ _ _ _ u h)
set_option maxRecDepth 20000 in
theorem w_X3_goal_25 {l : Launch} {E : jE} {F : Nat} {x0 : Int32} {x1 : Int32} {x2 : Int32} : ∀ (x3 : Int32) (s0 : Int32) (u : Int32), g_X3_goal_25 F x0 x1 x2 x3 s0 = some u → jT l E K_X3_goal 0 0 25 [(2, .int x2), (3, .int x3)] [.int s0] [] (jd (some (.int u)) []) := by
  intro x3 s0 u h
  unfold g_X3_goal_25 at h
  refine j_istore (pc := 25) (lv' := [(4, .int s0), (2, .int x2), (3, .int x3)]) dX3_goal_25 (Nat.le_of_ble_eq_true rfl) rfl ?_
  refine j_iload_n (pc := 27) 1 dX3_goal_27 rfl rfl ?_
  refine j_iload_n (pc := 28) 2 dX3_goal_28 rfl rfl ?_
  refine j_icmp_ge (pc := 29) (tgt := 41) dX3_goal_29 (by decide) h (fun h => ?_) (fun h => ?_)
  · refine j_iconst (pc := 41) dX3_goal_41 ic_2 ?_
    refine j_iload_n (pc := 42) 1 dX3_goal_42 rfl rfl ?_
    refine j_iload_n (pc := 43) 2 dX3_goal_43 rfl rfl ?_
    refine j_isub (pc := 44) dX3_goal_44 ?_
    refine j_imul (pc := 45) dX3_goal_45 ?_
    refine j_iconst (pc := 46) dX3_goal_46 ic_1 ?_
    refine j_iadd (pc := 47) dX3_goal_47 ?_
    refine j_iload (pc := 48) 0 dX3_goal_48 rfl ?_
    refine j_isub (pc := 50) dX3_goal_50 ?_
    cases h
    exact j_iret (pc := 51) rfl dX3_goal_51 (Nat.le_of_ble_eq_true rfl) (Nat.le_of_ble_eq_true rfl) (jd_i rfl rfl)
  · refine j_iconst (pc := 32) dX3_goal_32 ic_2 ?_
    refine j_iload_n (pc := 33) 1 dX3_goal_33 rfl rfl ?_
    refine j_imul (pc := 34) dX3_goal_34 ?_
    refine j_iload (pc := 35) 0 dX3_goal_35 rfl ?_
    refine j_iadd (pc := 37) dX3_goal_37 ?_
    refine j_goto (pc := 38) (tgt := 51) dX3_goal_38 (by decide) ?_
    cases h
    exact j_iret (pc := 51) rfl dX3_goal_51 (Nat.le_of_ble_eq_true rfl) (Nat.le_of_ble_eq_true rfl) (jd_i rfl rfl)
set_option maxRecDepth 20000 in
theorem c_X3_goal {l : Launch} {E : jE} {F : Nat} {x0 : Int32} {x1 : Int32} {x2 : Int32} : ∀ u : Int32, f_X3_goal F x0 x1 x2 = some u → jM l E K_X3_goal [.int x0, .int x1, .int x2] [] (jd (some (.int u)) []) := by
  intro u h
  unfold f_X3_goal at h
  refine j_met [(0, .int x0), (1, .int x1), (2, .int x2)] (by decide +kernel) (Nat.le_of_ble_eq_true rfl) rfl ?_
  refine j_iload_n (pc := 0) 0 dX3_goal_0 rfl rfl ?_
  refine j_if_ne (pc := 1) (tgt := 12) dX3_goal_1 (by decide) h (fun h => ?_) (fun h => ?_)
  · refine j_iload_n (pc := 12) 1 dX3_goal_12 rfl rfl ?_
    refine j_iconst (pc := 13) dX3_goal_13 ic_2 ?_
    refine j_idiv (pc := 14) dX3_goal_14 h (fun h => ?_)
    refine j_istore_n (pc := 15) (lv' := [(3, .int (x1 / (2 : Int32))), (0, .int x0), (1, .int x1), (2, .int x2)]) dX3_goal_15 rfl (Nat.le_of_ble_eq_true rfl) rfl ?_
    refine j_iload_n (pc := 16) 1 dX3_goal_16 rfl rfl ?_
    refine j_if_ne (pc := 17) (tgt := 24) dX3_goal_17 (by decide) h (fun h => ?_) (fun h => ?_)
    · refine j_iconst (pc := 24) dX3_goal_24 ic_1 ?_
      exact j_sub (lv' := [(2, .int x2), (3, .int (x1 / (2 : Int32)))]) [3, 0] rfl (w_X3_goal_25 _ _ u h)
    · refine j_iconst (pc := 20) dX3_goal_20 ic_0 ?_
      refine j_goto (pc := 21) (tgt := 25) dX3_goal_21 (by decide) ?_
      exact j_sub (lv' := [(2, .int x2), (3, .int (x1 / (2 : Int32)))]) [3, 0] rfl (w_X3_goal_25 _ _ u h)
  · refine j_iload_n (pc := 4) 1 dX3_goal_4 rfl rfl ?_
    refine j_iconst (pc := 5) dX3_goal_5 ic_1 ?_
    refine j_iadd (pc := 6) dX3_goal_6 ?_
    refine j_iconst (pc := 7) dX3_goal_7 ic_2 ?_
    refine j_idiv (pc := 8) dX3_goal_8 h (fun h => ?_)
    refine j_goto (pc := 9) (tgt := 15) dX3_goal_9 (by decide) ?_
    refine j_istore_n (pc := 15) (lv' := [(3, .int ((x1 + (1 : Int32)) / (2 : Int32))), (0, .int x0), (1, .int x1), (2, .int x2)]) dX3_goal_15 rfl (Nat.le_of_ble_eq_true rfl) rfl ?_
    refine j_iload_n (pc := 16) 1 dX3_goal_16 rfl rfl ?_
    refine j_if_ne (pc := 17) (tgt := 24) dX3_goal_17 (by decide) h (fun h => ?_) (fun h => ?_)
    · refine j_iconst (pc := 24) dX3_goal_24 ic_1 ?_
      exact j_sub (lv' := [(2, .int x2), (3, .int ((x1 + (1 : Int32)) / (2 : Int32)))]) [3, 0] rfl (w_X3_goal_25 _ _ u h)
    · refine j_iconst (pc := 20) dX3_goal_20 ic_0 ?_
      refine j_goto (pc := 21) (tgt := 25) dX3_goal_21 (by decide) ?_
      exact j_sub (lv' := [(2, .int x2), (3, .int ((x1 + (1 : Int32)) / (2 : Int32)))]) [3, 0] rfl (w_X3_goal_25 _ _ u h)
set_option maxRecDepth 20000 in
theorem c_X0_fewestFrom {l : Launch} {E : jE} {F : Nat} {x1 : Int32} {f_o_stepsFrom : Nat → Int32} {a_o a_o_stepsFrom a_o_pairTree a_o_found : Nat} : ∀ u : Int32, f_X0_fewestFrom F x1 f_o_stepsFrom = some u → jM l E K_X0_fewestFrom [.ref a_o, .int x1] [jO a_o 0 [.ref a_o_stepsFrom, .ref a_o_pairTree, .ref a_o_found], jI E a_o_stepsFrom 16 f_o_stepsFrom] (jd (some (.int u)) [jO a_o 0 [.ref a_o_stepsFrom, .ref a_o_pairTree, .ref a_o_found], jI E a_o_stepsFrom 16 f_o_stepsFrom]) := by
  intro u h
  unfold f_X0_fewestFrom at h
  refine j_met [(0, .ref a_o), (1, .int x1)] (by decide +kernel) (Nat.le_of_ble_eq_true rfl) rfl ?_
  refine j_iload_n (pc := 0) 1 dX0_fewestFrom_0 rfl rfl ?_
  refine j_if_lt (pc := 1) (tgt := 22) dX0_fewestFrom_1 (by decide) h (fun h => ?_) (fun h => ?_)
  · refine j_bipush (pc := 22) dX0_fewestFrom_22 bc_m4 ?_
    cases h
    exact j_iret (pc := 24) rfl dX0_fewestFrom_24 (Nat.le_of_ble_eq_true rfl) (Nat.le_of_ble_eq_true rfl) (jd_i rfl rfl)
  · refine j_iload_n (pc := 4) 1 dX0_fewestFrom_4 rfl rfl ?_
    refine j_aload_n (pc := 5) 0 dX0_fewestFrom_5 rfl rfl ?_
    refine j_get (pc := 6) (v := .ref a_o_stepsFrom) 0 0 rfl rfl (Nat.le_of_ble_eq_true rfl) iwX0 m1_108 rfl dX0_fewestFrom_6 ?_
    refine j_alenI (pc := 9) (v := (16 : Int32)) 1 rfl dX0_fewestFrom_9 rfl ?_
    refine j_icmp_ge (pc := 10) (tgt := 22) dX0_fewestFrom_10 (by decide) h (fun h => ?_) (fun h => ?_)
    · refine j_bipush (pc := 22) dX0_fewestFrom_22 bc_m4 ?_
      cases h
      exact j_iret (pc := 24) rfl dX0_fewestFrom_24 (Nat.le_of_ble_eq_true rfl) (Nat.le_of_ble_eq_true rfl) (jd_i rfl rfl)
    · refine j_aload_n (pc := 13) 0 dX0_fewestFrom_13 rfl rfl ?_
      refine j_get (pc := 14) (v := .ref a_o_stepsFrom) 0 0 rfl rfl (Nat.le_of_ble_eq_true rfl) iwX0 m1_108 rfl dX0_fewestFrom_14 ?_
      refine j_iload_n (pc := 17) 1 dX0_fewestFrom_17 rfl rfl ?_
      refine j_iald (pc := 18) 1 rfl dX0_fewestFrom_18 h (fun h => ?_)
      refine j_goto (pc := 19) (tgt := 24) dX0_fewestFrom_19 (by decide) ?_
      cases h
      exact j_iret (pc := 24) rfl dX0_fewestFrom_24 (Nat.le_of_ble_eq_true rfl) (Nat.le_of_ble_eq_true rfl) (jd_i rfl rfl)
set_option maxRecDepth 20000 in
theorem c_X0_isNextTo {l : Launch} {E : jE} {F : Nat} {x1 : Int32} {x2 : Int32} {x3 : Int32} {f_o_stepsFrom : Nat → Int32} {a_o a_o_stepsFrom a_o_pairTree a_o_found : Nat} : ∀ u : Int32, f_X0_isNextTo F x1 x2 x3 f_o_stepsFrom = some u → jM l E K_X0_isNextTo [.ref a_o, .int x1, .int x2, .int x3] [jO a_o 0 [.ref a_o_stepsFrom, .ref a_o_pairTree, .ref a_o_found], jI E a_o_stepsFrom 16 f_o_stepsFrom] (jd (some (.int u)) [jO a_o 0 [.ref a_o_stepsFrom, .ref a_o_pairTree, .ref a_o_found], jI E a_o_stepsFrom 16 f_o_stepsFrom]) := by
  intro u h
  unfold f_X0_isNextTo at h
  refine j_met [(0, .ref a_o), (1, .int x1), (2, .int x2), (3, .int x3)] (by decide +kernel) (Nat.le_of_ble_eq_true rfl) rfl ?_
  refine j_aload_n (pc := 0) 0 dX0_isNextTo_0 rfl rfl ?_
  refine j_iconst (pc := 1) dX0_isNextTo_1 ic_0 ?_
  refine j_iload_n (pc := 2) 3 dX0_isNextTo_2 rfl rfl ?_
  refine j_iload_n (pc := 3) 1 dX0_isNextTo_3 rfl rfl ?_
  refine j_S0 (pc := 4) (Kc := K_X3_goal) (As := [.int (0 : Int32), .int x3, .int x1]) (rest := [.ref a_o]) h c_X3_goal q_X3_goal m2_144 rfl rfl (Nat.le_of_ble_eq_true rfl) ⟨(Nat.le_of_ble_eq_true rfl), (Nat.le_of_ble_eq_true rfl)⟩ ⟨rfl, rfl⟩ ⟨(Nat.le_of_ble_eq_true rfl), (Nat.le_of_ble_eq_true rfl)⟩ dX0_isNextTo_4 (fun b1 h => ?_)
  refine j_V (pc := 7) (q0 := 0) (Kc := K_X0_fewestFrom) (As := [.int b1]) (rest := []) (wc := [jO a_o 0 [.ref a_o_stepsFrom, .ref a_o_pairTree, .ref a_o_found], jI E a_o_stepsFrom 16 f_o_stepsFrom]) (w' := fun b2 => [jO a_o 0 [.ref a_o_stepsFrom, .ref a_o_pairTree, .ref a_o_found], jI E a_o_stepsFrom 16 f_o_stepsFrom]) (st1 := fun b2 => [.int b2]) [0, 1] rfl rfl rfl h c_X0_fewestFrom q_X0_fewestFrom m2_147 rfl rfl (Nat.le_of_ble_eq_true rfl) ⟨(Nat.le_of_ble_eq_true rfl), (Nat.le_of_ble_eq_true rfl)⟩ ⟨rfl, rfl⟩ ⟨(Nat.le_of_ble_eq_true rfl), (Nat.le_of_ble_eq_true rfl)⟩ dX0_isNextTo_7 rfl (by decide) (fun _ => rfl) (fun _ => rfl) (fun _ => rfl) (fun b2 h => ?_)
  refine j_iload_n (pc := 10) 2 dX0_isNextTo_10 rfl rfl ?_
  refine j_icmp_eq (pc := 11) (tgt := 28) dX0_isNextTo_11 (by decide) h (fun h => ?_) (fun h => ?_)
  · refine j_iconst (pc := 28) dX0_isNextTo_28 ic_1 ?_
    refine j_goto (pc := 29) (tgt := 33) dX0_isNextTo_29 (by decide) ?_
    cases h
    exact j_zret (pc := 33) rfl (Or.inr rfl) dX0_isNextTo_33 (Nat.le_of_ble_eq_true rfl) (Nat.le_of_ble_eq_true rfl) (jd_i rfl rfl)
  · refine j_aload_n (pc := 14) 0 dX0_isNextTo_14 rfl rfl ?_
    refine j_iconst (pc := 15) dX0_isNextTo_15 ic_1 ?_
    refine j_iload_n (pc := 16) 3 dX0_isNextTo_16 rfl rfl ?_
    refine j_iload_n (pc := 17) 1 dX0_isNextTo_17 rfl rfl ?_
    refine j_S0 (pc := 18) (Kc := K_X3_goal) (As := [.int (1 : Int32), .int x3, .int x1]) (rest := [.ref a_o]) h c_X3_goal q_X3_goal m2_144 rfl rfl (Nat.le_of_ble_eq_true rfl) ⟨(Nat.le_of_ble_eq_true rfl), (Nat.le_of_ble_eq_true rfl)⟩ ⟨rfl, rfl⟩ ⟨(Nat.le_of_ble_eq_true rfl), (Nat.le_of_ble_eq_true rfl)⟩ dX0_isNextTo_18 (fun b3 h => ?_)
    refine j_V (pc := 21) (q0 := 0) (Kc := K_X0_fewestFrom) (As := [.int b3]) (rest := []) (wc := [jO a_o 0 [.ref a_o_stepsFrom, .ref a_o_pairTree, .ref a_o_found], jI E a_o_stepsFrom 16 f_o_stepsFrom]) (w' := fun b4 => [jO a_o 0 [.ref a_o_stepsFrom, .ref a_o_pairTree, .ref a_o_found], jI E a_o_stepsFrom 16 f_o_stepsFrom]) (st1 := fun b4 => [.int b4]) [0, 1] rfl rfl rfl h c_X0_fewestFrom q_X0_fewestFrom m2_147 rfl rfl (Nat.le_of_ble_eq_true rfl) ⟨(Nat.le_of_ble_eq_true rfl), (Nat.le_of_ble_eq_true rfl)⟩ ⟨rfl, rfl⟩ ⟨(Nat.le_of_ble_eq_true rfl), (Nat.le_of_ble_eq_true rfl)⟩ dX0_isNextTo_21 rfl (by decide) (fun _ => rfl) (fun _ => rfl) (fun _ => rfl) (fun b4 h => ?_)
    refine j_iload_n (pc := 24) 2 dX0_isNextTo_24 rfl rfl ?_
    refine j_icmp_ne (pc := 25) (tgt := 32) dX0_isNextTo_25 (by decide) h (fun h => ?_) (fun h => ?_)
    · refine j_iconst (pc := 32) dX0_isNextTo_32 ic_0 ?_
      cases h
      exact j_zret (pc := 33) rfl (Or.inl rfl) dX0_isNextTo_33 (Nat.le_of_ble_eq_true rfl) (Nat.le_of_ble_eq_true rfl) (jd_i rfl rfl)
    · refine j_iconst (pc := 28) dX0_isNextTo_28 ic_1 ?_
      refine j_goto (pc := 29) (tgt := 33) dX0_isNextTo_29 (by decide) ?_
      cases h
      exact j_zret (pc := 33) rfl (Or.inr rfl) dX0_isNextTo_33 (Nat.le_of_ble_eq_true rfl) (Nat.le_of_ble_eq_true rfl) (jd_i rfl rfl)
set_option maxRecDepth 20000 in
theorem w_X0_findWaysTo_44 {l : Launch} {E : jE} {F : Nat} {x1 : Int32} {x2 : Int32} {a_o a_o_stepsFrom a_o_pairTree a_o_found : Nat} {k_36 : Int32 → (Nat → Int32) → Option ((Nat → Int32))} (hk_36 : ∀ (x3 : Int32) (f_o_stepsFrom : Nat → Int32) (u : (Nat → Int32)), k_36 x3 f_o_stepsFrom = some u → jT l E K_X0_findWaysTo 0 0 36 [(0, .ref a_o), (2, .int x2), (3, .int x3)] [] [jO a_o 0 [.ref a_o_stepsFrom, .ref a_o_pairTree, .ref a_o_found], jI E a_o_stepsFrom 16 f_o_stepsFrom] (jd none [jO a_o 0 [.ref a_o_stepsFrom, .ref a_o_pairTree, .ref a_o_found], jI E a_o_stepsFrom 16 u])) : ∀ (n : Nat) (x3 : Int32) (x4 : Int32) (f_o_stepsFrom : Nat → Int32) (u : (Nat → Int32)), g_X0_findWaysTo_44 F x1 x2 k_36 n x3 x4 f_o_stepsFrom = some u → jT l E K_X0_findWaysTo 0 0 44 [(0, .ref a_o), (2, .int x2), (3, .int x3), (4, .int x4)] [] [jO a_o 0 [.ref a_o_stepsFrom, .ref a_o_pairTree, .ref a_o_found], jI E a_o_stepsFrom 16 f_o_stepsFrom] (jd none [jO a_o 0 [.ref a_o_stepsFrom, .ref a_o_pairTree, .ref a_o_found], jI E a_o_stepsFrom 16 u]) := by
  intro n
  induction n with
  | zero =>
    intro x3 x4 f_o_stepsFrom u h
    rw [g_X0_findWaysTo_44] at h
    cases h
  | succ n ih =>
    intro x3 x4 f_o_stepsFrom u h
    rw [g_X0_findWaysTo_44] at h
    refine j_iload (pc := 44) 3 dX0_findWaysTo_44 rfl ?_
    refine j_iload_n (pc := 46) 1 dX0_findWaysTo_46 rfl rfl ?_
    refine j_icmp_ge (pc := 47) (tgt := 99) dX0_findWaysTo_47 (by decide) h (fun h => ?_) (fun h => ?_)
    · refine j_iinc (pc := 99) (j := 2) (lv' := [(3, .int (x3 + (1 : Int32))), (0, .ref a_o), (2, .int x2), (4, .int x4)]) dX0_findWaysTo_99 rfl (congrArg (fun z => x3 + z) ic_1) (Nat.le_of_ble_eq_true rfl) rfl ?_
      refine j_goto (pc := 102) (tgt := 36) dX0_findWaysTo_102 (by decide) ?_
      exact j_sub (lv' := [(0, .ref a_o), (2, .int x2), (3, .int (x3 + (1 : Int32)))]) [1, 2, 0] rfl (hk_36 _ _ u h)
    · refine j_iload (pc := 50) 3 dX0_findWaysTo_50 rfl ?_
      refine j_aload_n (pc := 52) 0 dX0_findWaysTo_52 rfl rfl ?_
      refine j_get (pc := 53) (v := .ref a_o_stepsFrom) 0 0 rfl rfl (Nat.le_of_ble_eq_true rfl) iwX0 m1_108 rfl dX0_findWaysTo_53 ?_
      refine j_alenI (pc := 56) (v := (16 : Int32)) 1 rfl dX0_findWaysTo_56 rfl ?_
      refine j_icmp_ge (pc := 57) (tgt := 99) dX0_findWaysTo_57 (by decide) h (fun h => ?_) (fun h => ?_)
      · refine j_iinc (pc := 99) (j := 2) (lv' := [(3, .int (x3 + (1 : Int32))), (0, .ref a_o), (2, .int x2), (4, .int x4)]) dX0_findWaysTo_99 rfl (congrArg (fun z => x3 + z) ic_1) (Nat.le_of_ble_eq_true rfl) rfl ?_
        refine j_goto (pc := 102) (tgt := 36) dX0_findWaysTo_102 (by decide) ?_
        exact j_sub (lv' := [(0, .ref a_o), (2, .int x2), (3, .int (x3 + (1 : Int32)))]) [1, 2, 0] rfl (hk_36 _ _ u h)
      · refine j_aload_n (pc := 60) 0 dX0_findWaysTo_60 rfl rfl ?_
        refine j_get (pc := 61) (v := .ref a_o_stepsFrom) 0 0 rfl rfl (Nat.le_of_ble_eq_true rfl) iwX0 m1_108 rfl dX0_findWaysTo_61 ?_
        refine j_iload (pc := 64) 3 dX0_findWaysTo_64 rfl ?_
        refine j_iald (pc := 66) 1 rfl dX0_findWaysTo_66 h (fun h => ?_)
        refine j_bipush (pc := 67) dX0_findWaysTo_67 bc_m4 ?_
        refine j_icmp_ne (pc := 69) (tgt := 93) dX0_findWaysTo_69 (by decide) h (fun h => ?_) (fun h => ?_)
        · refine j_iinc (pc := 93) (j := 3) (lv' := [(4, .int (x4 + (1 : Int32))), (0, .ref a_o), (2, .int x2), (3, .int x3)]) dX0_findWaysTo_93 rfl (congrArg (fun z => x4 + z) ic_1) (Nat.le_of_ble_eq_true rfl) rfl ?_
          refine j_goto (pc := 96) (tgt := 44) dX0_findWaysTo_96 (by decide) ?_
          exact j_sub (lv' := [(0, .ref a_o), (2, .int x2), (3, .int x3), (4, .int (x4 + (1 : Int32)))]) [1, 2, 3, 0] rfl (ih _ _ _ u h)
        · refine j_aload_n (pc := 72) 0 dX0_findWaysTo_72 rfl rfl ?_
          refine j_iload (pc := 73) 3 dX0_findWaysTo_73 rfl ?_
          refine j_iload_n (pc := 75) 2 dX0_findWaysTo_75 rfl rfl ?_
          refine j_iconst (pc := 76) dX0_findWaysTo_76 ic_1 ?_
          refine j_isub (pc := 77) dX0_findWaysTo_77 ?_
          refine j_iload_n (pc := 78) 1 dX0_findWaysTo_78 rfl rfl ?_
          refine j_V (pc := 79) (q0 := 0) (Kc := K_X0_isNextTo) (As := [.int x4, .int (x3 - (1 : Int32)), .int x2]) (rest := []) (wc := [jO a_o 0 [.ref a_o_stepsFrom, .ref a_o_pairTree, .ref a_o_found], jI E a_o_stepsFrom 16 f_o_stepsFrom]) (w' := fun b1 => [jO a_o 0 [.ref a_o_stepsFrom, .ref a_o_pairTree, .ref a_o_found], jI E a_o_stepsFrom 16 f_o_stepsFrom]) (st1 := fun b1 => [.int b1]) [0, 1] rfl rfl rfl h c_X0_isNextTo q_X0_isNextTo m2_140 rfl rfl (Nat.le_of_ble_eq_true rfl) ⟨(Nat.le_of_ble_eq_true rfl), (Nat.le_of_ble_eq_true rfl)⟩ ⟨rfl, rfl⟩ ⟨(Nat.le_of_ble_eq_true rfl), (Nat.le_of_ble_eq_true rfl)⟩ dX0_findWaysTo_79 rfl (by decide) (fun _ => rfl) (fun _ => rfl) (fun _ => rfl) (fun b1 h => ?_)
          refine j_if_eq (pc := 82) (tgt := 93) dX0_findWaysTo_82 (by decide) h (fun h => ?_) (fun h => ?_)
          · refine j_iinc (pc := 93) (j := 3) (lv' := [(4, .int (x4 + (1 : Int32))), (0, .ref a_o), (2, .int x2), (3, .int x3)]) dX0_findWaysTo_93 rfl (congrArg (fun z => x4 + z) ic_1) (Nat.le_of_ble_eq_true rfl) rfl ?_
            refine j_goto (pc := 96) (tgt := 44) dX0_findWaysTo_96 (by decide) ?_
            exact j_sub (lv' := [(0, .ref a_o), (2, .int x2), (3, .int x3), (4, .int (x4 + (1 : Int32)))]) [1, 2, 3, 0] rfl (ih _ _ _ u h)
          · refine j_aload_n (pc := 85) 0 dX0_findWaysTo_85 rfl rfl ?_
            refine j_get (pc := 86) (v := .ref a_o_stepsFrom) 0 0 rfl rfl (Nat.le_of_ble_eq_true rfl) iwX0 m1_108 rfl dX0_findWaysTo_86 ?_
            refine j_iload (pc := 89) 3 dX0_findWaysTo_89 rfl ?_
            refine j_iload_n (pc := 91) 2 dX0_findWaysTo_91 rfl rfl ?_
            refine j_iast (pc := 92) (w' := [jO a_o 0 [.ref a_o_stepsFrom, .ref a_o_pairTree, .ref a_o_found], jI E a_o_stepsFrom 16 (upd f_o_stepsFrom x4.toNatClampNeg x3)]) 1 rfl dX0_findWaysTo_92 h rfl (fun h => ?_)
            refine j_iinc (pc := 93) (j := 3) (lv' := [(4, .int (x4 + (1 : Int32))), (0, .ref a_o), (2, .int x2), (3, .int x3)]) dX0_findWaysTo_93 rfl (congrArg (fun z => x4 + z) ic_1) (Nat.le_of_ble_eq_true rfl) rfl ?_
            refine j_goto (pc := 96) (tgt := 44) dX0_findWaysTo_96 (by decide) ?_
            exact j_sub (lv' := [(0, .ref a_o), (2, .int x2), (3, .int x3), (4, .int (x4 + (1 : Int32)))]) [1, 2, 3, 0] rfl (ih _ _ _ u h)
set_option maxRecDepth 20000 in
theorem w_X0_findWaysTo_36 {l : Launch} {E : jE} {F : Nat} {x1 : Int32} {x2 : Int32} {a_o a_o_stepsFrom a_o_pairTree a_o_found : Nat} : ∀ (n : Nat) (x3 : Int32) (f_o_stepsFrom : Nat → Int32) (u : (Nat → Int32)), g_X0_findWaysTo_36 F x1 x2 n x3 f_o_stepsFrom = some u → jT l E K_X0_findWaysTo 0 0 36 [(0, .ref a_o), (2, .int x2), (3, .int x3)] [] [jO a_o 0 [.ref a_o_stepsFrom, .ref a_o_pairTree, .ref a_o_found], jI E a_o_stepsFrom 16 f_o_stepsFrom] (jd none [jO a_o 0 [.ref a_o_stepsFrom, .ref a_o_pairTree, .ref a_o_found], jI E a_o_stepsFrom 16 u]) := by
  intro n
  induction n with
  | zero =>
    intro x3 f_o_stepsFrom u h
    rw [g_X0_findWaysTo_36] at h
    cases h
  | succ n ih =>
    intro x3 f_o_stepsFrom u h
    rw [g_X0_findWaysTo_36] at h
    refine j_iload_n (pc := 36) 2 dX0_findWaysTo_36 rfl rfl ?_
    refine j_iload_n (pc := 37) 1 dX0_findWaysTo_37 rfl rfl ?_
    refine j_icmp_ge (pc := 38) (tgt := 105) dX0_findWaysTo_38 (by decide) h (fun h => ?_) (fun h => ?_)
    · cases h
      exact j_vret (pc := 105) rfl dX0_findWaysTo_105 (Nat.le_of_ble_eq_true rfl) (Nat.le_of_ble_eq_true rfl) (jd_i rfl rfl)
    · refine j_iconst (pc := 41) dX0_findWaysTo_41 ic_0 ?_
      refine j_istore (pc := 42) (lv' := [(4, .int (0 : Int32)), (0, .ref a_o), (2, .int x2), (3, .int x3)]) dX0_findWaysTo_42 (Nat.le_of_ble_eq_true rfl) rfl ?_
      exact j_sub (lv' := [(0, .ref a_o), (2, .int x2), (3, .int x3), (4, .int (0 : Int32))]) [1, 2, 3, 0] rfl (w_X0_findWaysTo_44 ih _ _ _ _ u h)
set_option maxRecDepth 20000 in
theorem w_X0_findWaysTo_2 {l : Launch} {E : jE} {F : Nat} {x1 : Int32} {x2 : Int32} {a_o a_o_stepsFrom a_o_pairTree a_o_found : Nat} : ∀ (n : Nat) (x3 : Int32) (f_o_stepsFrom : Nat → Int32) (u : (Nat → Int32)), g_X0_findWaysTo_2 F x1 x2 n x3 f_o_stepsFrom = some u → jT l E K_X0_findWaysTo 0 0 2 [(0, .ref a_o), (1, .int x1), (2, .int x2), (3, .int x3)] [] [jO a_o 0 [.ref a_o_stepsFrom, .ref a_o_pairTree, .ref a_o_found], jI E a_o_stepsFrom 16 f_o_stepsFrom] (jd none [jO a_o 0 [.ref a_o_stepsFrom, .ref a_o_pairTree, .ref a_o_found], jI E a_o_stepsFrom 16 u]) := by
  intro n
  induction n with
  | zero =>
    intro x3 f_o_stepsFrom u h
    rw [g_X0_findWaysTo_2] at h
    cases h
  | succ n ih =>
    intro x3 f_o_stepsFrom u h
    rw [g_X0_findWaysTo_2] at h
    refine j_iload_n (pc := 2) 3 dX0_findWaysTo_2 rfl rfl ?_
    refine j_aload_n (pc := 3) 0 dX0_findWaysTo_3 rfl rfl ?_
    refine j_get (pc := 4) (v := .ref a_o_stepsFrom) 0 0 rfl rfl (Nat.le_of_ble_eq_true rfl) iwX0 m1_108 rfl dX0_findWaysTo_4 ?_
    refine j_alenI (pc := 7) (v := (16 : Int32)) 1 rfl dX0_findWaysTo_7 rfl ?_
    refine j_icmp_ge (pc := 8) (tgt := 34) dX0_findWaysTo_8 (by decide) h (fun h => ?_) (fun h => ?_)
    · refine j_iconst (pc := 34) dX0_findWaysTo_34 ic_1 ?_
      refine j_istore_n (pc := 35) (lv' := [(3, .int (1 : Int32)), (0, .ref a_o), (1, .int x1), (2, .int x2)]) dX0_findWaysTo_35 rfl (Nat.le_of_ble_eq_true rfl) rfl ?_
      exact j_sub (lv' := [(0, .ref a_o), (2, .int x2), (3, .int (1 : Int32))]) [1, 3, 0] rfl (w_X0_findWaysTo_36 _ _ _ u h)
    · refine j_aload_n (pc := 11) 0 dX0_findWaysTo_11 rfl rfl ?_
      refine j_get (pc := 12) (v := .ref a_o_stepsFrom) 0 0 rfl rfl (Nat.le_of_ble_eq_true rfl) iwX0 m1_108 rfl dX0_findWaysTo_12 ?_
      refine j_iload_n (pc := 15) 3 dX0_findWaysTo_15 rfl rfl ?_
      refine j_iload_n (pc := 16) 3 dX0_findWaysTo_16 rfl rfl ?_
      refine j_iload_n (pc := 17) 1 dX0_findWaysTo_17 rfl rfl ?_
      refine j_icmp_ne (pc := 18) (tgt := 25) dX0_findWaysTo_18 (by decide) h (fun h => ?_) (fun h => ?_)
      · refine j_bipush (pc := 25) dX0_findWaysTo_25 bc_m4 ?_
        refine j_iast (pc := 27) (w' := [jO a_o 0 [.ref a_o_stepsFrom, .ref a_o_pairTree, .ref a_o_found], jI E a_o_stepsFrom 16 (upd f_o_stepsFrom x3.toNatClampNeg (-4 : Int32))]) 1 rfl dX0_findWaysTo_27 h rfl (fun h => ?_)
        refine j_iinc (pc := 28) (j := 3) (lv' := [(3, .int (x3 + (1 : Int32))), (0, .ref a_o), (1, .int x1), (2, .int x2)]) dX0_findWaysTo_28 rfl (congrArg (fun z => x3 + z) ic_1) (Nat.le_of_ble_eq_true rfl) rfl ?_
        refine j_goto (pc := 31) (tgt := 2) dX0_findWaysTo_31 (by decide) ?_
        exact j_sub (lv' := [(0, .ref a_o), (1, .int x1), (2, .int x2), (3, .int (x3 + (1 : Int32)))]) [1, 2, 3, 0] rfl (ih _ _ u h)
      · refine j_iconst (pc := 21) dX0_findWaysTo_21 ic_0 ?_
        refine j_goto (pc := 22) (tgt := 27) dX0_findWaysTo_22 (by decide) ?_
        refine j_iast (pc := 27) (w' := [jO a_o 0 [.ref a_o_stepsFrom, .ref a_o_pairTree, .ref a_o_found], jI E a_o_stepsFrom 16 (upd f_o_stepsFrom x3.toNatClampNeg (0 : Int32))]) 1 rfl dX0_findWaysTo_27 h rfl (fun h => ?_)
        refine j_iinc (pc := 28) (j := 3) (lv' := [(3, .int (x3 + (1 : Int32))), (0, .ref a_o), (1, .int x1), (2, .int x2)]) dX0_findWaysTo_28 rfl (congrArg (fun z => x3 + z) ic_1) (Nat.le_of_ble_eq_true rfl) rfl ?_
        refine j_goto (pc := 31) (tgt := 2) dX0_findWaysTo_31 (by decide) ?_
        exact j_sub (lv' := [(0, .ref a_o), (1, .int x1), (2, .int x2), (3, .int (x3 + (1 : Int32)))]) [1, 2, 3, 0] rfl (ih _ _ u h)
set_option maxRecDepth 20000 in
theorem c_X0_findWaysTo {l : Launch} {E : jE} {F : Nat} {x1 : Int32} {x2 : Int32} {a_o a_o_stepsFrom a_o_pairTree a_o_found : Nat} {f_o_stepsFrom : Nat → Int32} : ∀ u : (Nat → Int32), f_X0_findWaysTo F x1 x2 f_o_stepsFrom = some u → jM l E K_X0_findWaysTo [.ref a_o, .int x1, .int x2] [jO a_o 0 [.ref a_o_stepsFrom, .ref a_o_pairTree, .ref a_o_found], jI E a_o_stepsFrom 16 f_o_stepsFrom] (jd none [jO a_o 0 [.ref a_o_stepsFrom, .ref a_o_pairTree, .ref a_o_found], jI E a_o_stepsFrom 16 u]) := by
  intro u h
  unfold f_X0_findWaysTo at h
  refine j_met [(0, .ref a_o), (1, .int x1), (2, .int x2)] (by decide +kernel) (Nat.le_of_ble_eq_true rfl) rfl ?_
  refine j_iconst (pc := 0) dX0_findWaysTo_0 ic_0 ?_
  refine j_istore_n (pc := 1) (lv' := [(3, .int (0 : Int32)), (0, .ref a_o), (1, .int x1), (2, .int x2)]) dX0_findWaysTo_1 rfl (Nat.le_of_ble_eq_true rfl) rfl ?_
  exact j_sub (lv' := [(0, .ref a_o), (1, .int x1), (2, .int x2), (3, .int (0 : Int32))]) [1, 2, 3, 0] rfl (w_X0_findWaysTo_2 _ _ _ u h)
set_option maxRecDepth 20000 in
theorem c_X0_firstKind {l : Launch} {E : jE} {F : Nat} {x1 : Int32} {x2 : Int32} {f_o_stepsFrom : Nat → Int32} {a_o a_o_stepsFrom a_o_pairTree a_o_found : Nat} : ∀ u : Int32, f_X0_firstKind F x1 x2 f_o_stepsFrom = some u → jM l E K_X0_firstKind [.ref a_o, .int x1, .int x2] [jO a_o 0 [.ref a_o_stepsFrom, .ref a_o_pairTree, .ref a_o_found], jI E a_o_stepsFrom 16 f_o_stepsFrom] (jd (some (.int u)) [jO a_o 0 [.ref a_o_stepsFrom, .ref a_o_pairTree, .ref a_o_found], jI E a_o_stepsFrom 16 f_o_stepsFrom]) := by
  intro u h
  unfold f_X0_firstKind at h
  refine j_met [(0, .ref a_o), (1, .int x1), (2, .int x2)] (by decide +kernel) (Nat.le_of_ble_eq_true rfl) rfl ?_
  refine j_aload_n (pc := 0) 0 dX0_firstKind_0 rfl rfl ?_
  refine j_iconst (pc := 1) dX0_firstKind_1 ic_0 ?_
  refine j_iload_n (pc := 2) 2 dX0_firstKind_2 rfl rfl ?_
  refine j_iload_n (pc := 3) 1 dX0_firstKind_3 rfl rfl ?_
  refine j_S0 (pc := 4) (Kc := K_X3_goal) (As := [.int (0 : Int32), .int x2, .int x1]) (rest := [.ref a_o]) h c_X3_goal q_X3_goal m2_144 rfl rfl (Nat.le_of_ble_eq_true rfl) ⟨(Nat.le_of_ble_eq_true rfl), (Nat.le_of_ble_eq_true rfl)⟩ ⟨rfl, rfl⟩ ⟨(Nat.le_of_ble_eq_true rfl), (Nat.le_of_ble_eq_true rfl)⟩ dX0_firstKind_4 (fun b1 h => ?_)
  refine j_V (pc := 7) (q0 := 0) (Kc := K_X0_fewestFrom) (As := [.int b1]) (rest := []) (wc := [jO a_o 0 [.ref a_o_stepsFrom, .ref a_o_pairTree, .ref a_o_found], jI E a_o_stepsFrom 16 f_o_stepsFrom]) (w' := fun b2 => [jO a_o 0 [.ref a_o_stepsFrom, .ref a_o_pairTree, .ref a_o_found], jI E a_o_stepsFrom 16 f_o_stepsFrom]) (st1 := fun b2 => [.int b2]) [0, 1] rfl rfl rfl h c_X0_fewestFrom q_X0_fewestFrom m2_147 rfl rfl (Nat.le_of_ble_eq_true rfl) ⟨(Nat.le_of_ble_eq_true rfl), (Nat.le_of_ble_eq_true rfl)⟩ ⟨rfl, rfl⟩ ⟨(Nat.le_of_ble_eq_true rfl), (Nat.le_of_ble_eq_true rfl)⟩ dX0_firstKind_7 rfl (by decide) (fun _ => rfl) (fun _ => rfl) (fun _ => rfl) (fun b2 h => ?_)
  refine j_istore_n (pc := 10) (lv' := [(3, .int b2), (0, .ref a_o), (1, .int x1), (2, .int x2)]) dX0_firstKind_10 rfl (Nat.le_of_ble_eq_true rfl) rfl ?_
  refine j_iload_n (pc := 11) 0 dX0_firstKind_11 rfl rfl ?_
  refine j_aload_n (pc := 12) 1 dX0_firstKind_12 rfl rfl ?_
  refine j_iload_n (pc := 13) 2 dX0_firstKind_13 rfl rfl ?_
  refine j_V (pc := 14) (q0 := 0) (Kc := K_X0_fewestFrom) (As := [.int x1]) (rest := [.int b2]) (wc := [jO a_o 0 [.ref a_o_stepsFrom, .ref a_o_pairTree, .ref a_o_found], jI E a_o_stepsFrom 16 f_o_stepsFrom]) (w' := fun b3 => [jO a_o 0 [.ref a_o_stepsFrom, .ref a_o_pairTree, .ref a_o_found], jI E a_o_stepsFrom 16 f_o_stepsFrom]) (st1 := fun b3 => [.int b3, .int b2]) [0, 1] rfl rfl rfl h c_X0_fewestFrom q_X0_fewestFrom m2_147 rfl rfl (Nat.le_of_ble_eq_true rfl) ⟨(Nat.le_of_ble_eq_true rfl), (Nat.le_of_ble_eq_true rfl)⟩ ⟨rfl, rfl⟩ ⟨(Nat.le_of_ble_eq_true rfl), (Nat.le_of_ble_eq_true rfl)⟩ dX0_firstKind_14 rfl (by decide) (fun _ => rfl) (fun _ => rfl) (fun _ => rfl) (fun b3 h => ?_)
  refine j_iconst (pc := 17) dX0_firstKind_17 ic_1 ?_
  refine j_isub (pc := 18) dX0_firstKind_18 ?_
  refine j_icmp_ne (pc := 19) (tgt := 26) dX0_firstKind_19 (by decide) h (fun h => ?_) (fun h => ?_)
  · refine j_iconst (pc := 26) dX0_firstKind_26 ic_1 ?_
    cases h
    exact j_iret (pc := 27) rfl dX0_firstKind_27 (Nat.le_of_ble_eq_true rfl) (Nat.le_of_ble_eq_true rfl) (jd_i rfl rfl)
  · refine j_iconst (pc := 22) dX0_firstKind_22 ic_0 ?_
    refine j_goto (pc := 23) (tgt := 27) dX0_firstKind_23 (by decide) ?_
    cases h
    exact j_iret (pc := 27) rfl dX0_firstKind_27 (Nat.le_of_ble_eq_true rfl) (Nat.le_of_ble_eq_true rfl) (jd_i rfl rfl)
set_option maxRecDepth 20000 in
theorem w_X0_kindOnWay_22 {l : Launch} {E : jE} {F : Nat} {x1 : Int32} {x2 : Int32} {x3 : Int32} {f_o_stepsFrom : Nat → Int32} {a_o a_o_stepsFrom a_o_pairTree a_o_found : Nat} : ∀ (n : Nat) (x4 : Int32) (x5 : Int32) (x6 : Int32) (u : Int32), g_X0_kindOnWay_22 F x1 x2 x3 f_o_stepsFrom n x4 x5 x6 = some u → jT l E K_X0_kindOnWay 0 0 22 [(0, .ref a_o), (2, .int x2), (3, .int x3), (4, .int x4), (5, .int x5), (6, .int x6)] [] [jO a_o 0 [.ref a_o_stepsFrom, .ref a_o_pairTree, .ref a_o_found], jI E a_o_stepsFrom 16 f_o_stepsFrom] (jd (some (.int u)) [jO a_o 0 [.ref a_o_stepsFrom, .ref a_o_pairTree, .ref a_o_found], jI E a_o_stepsFrom 16 f_o_stepsFrom]) := by
  intro n
  induction n with
  | zero =>
    intro x4 x5 x6 u h
    rw [g_X0_kindOnWay_22] at h
    cases h
  | succ n ih =>
    intro x4 x5 x6 u h
    rw [g_X0_kindOnWay_22] at h
    refine j_iload (pc := 22) 5 dX0_kindOnWay_22 rfl ?_
    refine j_iload_n (pc := 24) 1 dX0_kindOnWay_24 rfl rfl ?_
    refine j_icmp_ge (pc := 25) (tgt := 56) dX0_kindOnWay_25 (by decide) h (fun h => ?_) (fun h => ?_)
    · refine j_aload_n (pc := 56) 0 dX0_kindOnWay_56 rfl rfl ?_
      refine j_iload (pc := 57) 3 dX0_kindOnWay_57 rfl ?_
      refine j_iload_n (pc := 59) 2 dX0_kindOnWay_59 rfl rfl ?_
      refine j_V (pc := 60) (q0 := 0) (Kc := K_X0_firstKind) (As := [.int x4, .int x3]) (rest := []) (wc := [jO a_o 0 [.ref a_o_stepsFrom, .ref a_o_pairTree, .ref a_o_found], jI E a_o_stepsFrom 16 f_o_stepsFrom]) (w' := fun b1 => [jO a_o 0 [.ref a_o_stepsFrom, .ref a_o_pairTree, .ref a_o_found], jI E a_o_stepsFrom 16 f_o_stepsFrom]) (st1 := fun b1 => [.int b1]) [0, 1] rfl rfl rfl h c_X0_firstKind q_X0_firstKind m2_156 rfl rfl (Nat.le_of_ble_eq_true rfl) ⟨(Nat.le_of_ble_eq_true rfl), (Nat.le_of_ble_eq_true rfl)⟩ ⟨rfl, rfl⟩ ⟨(Nat.le_of_ble_eq_true rfl), (Nat.le_of_ble_eq_true rfl)⟩ dX0_kindOnWay_60 rfl (by decide) (fun _ => rfl) (fun _ => rfl) (fun _ => rfl) (fun b1 h => ?_)
      cases h
      exact j_iret (pc := 63) rfl dX0_kindOnWay_63 (Nat.le_of_ble_eq_true rfl) (Nat.le_of_ble_eq_true rfl) (jd_i rfl rfl)
    · refine j_iload (pc := 28) 5 dX0_kindOnWay_28 rfl ?_
      refine j_iload (pc := 30) 4 dX0_kindOnWay_30 rfl ?_
      refine j_icmp_ge (pc := 32) (tgt := 56) dX0_kindOnWay_32 (by decide) h (fun h => ?_) (fun h => ?_)
      · refine j_aload_n (pc := 56) 0 dX0_kindOnWay_56 rfl rfl ?_
        refine j_iload (pc := 57) 3 dX0_kindOnWay_57 rfl ?_
        refine j_iload_n (pc := 59) 2 dX0_kindOnWay_59 rfl rfl ?_
        refine j_V (pc := 60) (q0 := 0) (Kc := K_X0_firstKind) (As := [.int x4, .int x3]) (rest := []) (wc := [jO a_o 0 [.ref a_o_stepsFrom, .ref a_o_pairTree, .ref a_o_found], jI E a_o_stepsFrom 16 f_o_stepsFrom]) (w' := fun b2 => [jO a_o 0 [.ref a_o_stepsFrom, .ref a_o_pairTree, .ref a_o_found], jI E a_o_stepsFrom 16 f_o_stepsFrom]) (st1 := fun b2 => [.int b2]) [0, 1] rfl rfl rfl h c_X0_firstKind q_X0_firstKind m2_156 rfl rfl (Nat.le_of_ble_eq_true rfl) ⟨(Nat.le_of_ble_eq_true rfl), (Nat.le_of_ble_eq_true rfl)⟩ ⟨rfl, rfl⟩ ⟨(Nat.le_of_ble_eq_true rfl), (Nat.le_of_ble_eq_true rfl)⟩ dX0_kindOnWay_60 rfl (by decide) (fun _ => rfl) (fun _ => rfl) (fun _ => rfl) (fun b2 h => ?_)
        cases h
        exact j_iret (pc := 63) rfl dX0_kindOnWay_63 (Nat.le_of_ble_eq_true rfl) (Nat.le_of_ble_eq_true rfl) (jd_i rfl rfl)
      · refine j_aload_n (pc := 35) 0 dX0_kindOnWay_35 rfl rfl ?_
        refine j_iload (pc := 36) 3 dX0_kindOnWay_36 rfl ?_
        refine j_iload_n (pc := 38) 2 dX0_kindOnWay_38 rfl rfl ?_
        refine j_V (pc := 39) (q0 := 0) (Kc := K_X0_firstKind) (As := [.int x4, .int x3]) (rest := []) (wc := [jO a_o 0 [.ref a_o_stepsFrom, .ref a_o_pairTree, .ref a_o_found], jI E a_o_stepsFrom 16 f_o_stepsFrom]) (w' := fun b3 => [jO a_o 0 [.ref a_o_stepsFrom, .ref a_o_pairTree, .ref a_o_found], jI E a_o_stepsFrom 16 f_o_stepsFrom]) (st1 := fun b3 => [.int b3]) [0, 1] rfl rfl rfl h c_X0_firstKind q_X0_firstKind m2_156 rfl rfl (Nat.le_of_ble_eq_true rfl) ⟨(Nat.le_of_ble_eq_true rfl), (Nat.le_of_ble_eq_true rfl)⟩ ⟨rfl, rfl⟩ ⟨(Nat.le_of_ble_eq_true rfl), (Nat.le_of_ble_eq_true rfl)⟩ dX0_kindOnWay_39 rfl (by decide) (fun _ => rfl) (fun _ => rfl) (fun _ => rfl) (fun b3 h => ?_)
        refine j_iload_n (pc := 42) 2 dX0_kindOnWay_42 rfl rfl ?_
        refine j_iload (pc := 43) 3 dX0_kindOnWay_43 rfl ?_
        refine j_S0 (pc := 45) (Kc := K_X3_goal) (As := [.int b3, .int x3, .int x4]) (rest := []) h c_X3_goal q_X3_goal m2_144 rfl rfl (Nat.le_of_ble_eq_true rfl) ⟨(Nat.le_of_ble_eq_true rfl), (Nat.le_of_ble_eq_true rfl)⟩ ⟨rfl, rfl⟩ ⟨(Nat.le_of_ble_eq_true rfl), (Nat.le_of_ble_eq_true rfl)⟩ dX0_kindOnWay_45 (fun b4 h => ?_)
        refine j_istore (pc := 48) (lv' := [(4, .int b4), (0, .ref a_o), (2, .int x2), (3, .int x3), (5, .int x5), (6, .int x6)]) dX0_kindOnWay_48 (Nat.le_of_ble_eq_true rfl) rfl ?_
        refine j_iinc (pc := 50) (j := 5) (lv' := [(6, .int (x6 + (1 : Int32))), (4, .int b4), (0, .ref a_o), (2, .int x2), (3, .int x3), (5, .int x5)]) dX0_kindOnWay_50 rfl (congrArg (fun z => x6 + z) ic_1) (Nat.le_of_ble_eq_true rfl) rfl ?_
        refine j_goto (pc := 53) (tgt := 22) dX0_kindOnWay_53 (by decide) ?_
        exact j_sub (lv' := [(0, .ref a_o), (2, .int x2), (3, .int x3), (4, .int b4), (5, .int x5), (6, .int (x6 + (1 : Int32)))]) [2, 3, 4, 1, 5, 0] rfl (ih _ _ _ u h)
set_option maxRecDepth 20000 in
theorem c_X0_kindOnWay {l : Launch} {E : jE} {F : Nat} {x1 : Int32} {x2 : Int32} {x3 : Int32} {f_o_stepsFrom : Nat → Int32} {a_o a_o_stepsFrom a_o_pairTree a_o_found : Nat} : ∀ u : Int32, f_X0_kindOnWay F x1 x2 x3 f_o_stepsFrom = some u → jM l E K_X0_kindOnWay [.ref a_o, .int x1, .int x2, .int x3] [jO a_o 0 [.ref a_o_stepsFrom, .ref a_o_pairTree, .ref a_o_found], jI E a_o_stepsFrom 16 f_o_stepsFrom] (jd (some (.int u)) [jO a_o 0 [.ref a_o_stepsFrom, .ref a_o_pairTree, .ref a_o_found], jI E a_o_stepsFrom 16 f_o_stepsFrom]) := by
  intro u h
  unfold f_X0_kindOnWay at h
  refine j_met [(0, .ref a_o), (1, .int x1), (2, .int x2), (3, .int x3)] (by decide +kernel) (Nat.le_of_ble_eq_true rfl) rfl ?_
  refine j_iload_n (pc := 0) 1 dX0_kindOnWay_0 rfl rfl ?_
  refine j_istore (pc := 1) (lv' := [(4, .int x1), (0, .ref a_o), (1, .int x1), (2, .int x2), (3, .int x3)]) dX0_kindOnWay_1 (Nat.le_of_ble_eq_true rfl) rfl ?_
  refine j_aload_n (pc := 3) 1 dX0_kindOnWay_3 rfl rfl ?_
  refine j_iload_n (pc := 4) 2 dX0_kindOnWay_4 rfl rfl ?_
  refine j_V (pc := 5) (q0 := 0) (Kc := K_X0_fewestFrom) (As := [.int x1]) (rest := []) (wc := [jO a_o 0 [.ref a_o_stepsFrom, .ref a_o_pairTree, .ref a_o_found], jI E a_o_stepsFrom 16 f_o_stepsFrom]) (w' := fun b1 => [jO a_o 0 [.ref a_o_stepsFrom, .ref a_o_pairTree, .ref a_o_found], jI E a_o_stepsFrom 16 f_o_stepsFrom]) (st1 := fun b1 => [.int b1]) [0, 1] rfl rfl rfl h c_X0_fewestFrom q_X0_fewestFrom m2_147 rfl rfl (Nat.le_of_ble_eq_true rfl) ⟨(Nat.le_of_ble_eq_true rfl), (Nat.le_of_ble_eq_true rfl)⟩ ⟨rfl, rfl⟩ ⟨(Nat.le_of_ble_eq_true rfl), (Nat.le_of_ble_eq_true rfl)⟩ dX0_kindOnWay_5 rfl (by decide) (fun _ => rfl) (fun _ => rfl) (fun _ => rfl) (fun b1 h => ?_)
  refine j_istore (pc := 8) (lv' := [(5, .int b1), (4, .int x1), (0, .ref a_o), (1, .int x1), (2, .int x2), (3, .int x3)]) dX0_kindOnWay_8 (Nat.le_of_ble_eq_true rfl) rfl ?_
  refine j_iload_n (pc := 10) 4 dX0_kindOnWay_10 rfl rfl ?_
  refine j_iload (pc := 11) 0 dX0_kindOnWay_11 rfl ?_
  refine j_icmp_lt (pc := 13) (tgt := 19) dX0_kindOnWay_13 (by decide) h (fun h => ?_) (fun h => ?_)
  · refine j_iconst (pc := 19) dX0_kindOnWay_19 ic_0 ?_
    refine j_istore (pc := 20) (lv' := [(6, .int (0 : Int32)), (5, .int b1), (4, .int x1), (0, .ref a_o), (1, .int x1), (2, .int x2), (3, .int x3)]) dX0_kindOnWay_20 (Nat.le_of_ble_eq_true rfl) rfl ?_
    exact j_sub (lv' := [(0, .ref a_o), (2, .int x2), (3, .int x3), (4, .int x1), (5, .int b1), (6, .int (0 : Int32))]) [3, 5, 6, 2, 1, 0] rfl (w_X0_kindOnWay_22 _ _ _ _ u h)
  · refine j_bipush (pc := 16) dX0_kindOnWay_16 bc_m4 ?_
    cases h
    exact j_iret (pc := 18) rfl dX0_kindOnWay_18 (Nat.le_of_ble_eq_true rfl) (Nat.le_of_ble_eq_true rfl) (jd_i rfl rfl)
set_option maxRecDepth 20000 in
theorem c_X0_pairBehind {l : Launch} {E : jE} {F : Nat} {x0 : Int32} {x1 : Int32} {x2 : Int32} : ∀ u : Int32, f_X0_pairBehind F x0 x1 x2 = some u → jM l E K_X0_pairBehind [.int x0, .int x1, .int x2] [] (jd (some (.int u)) []) := by
  intro u h
  unfold f_X0_pairBehind at h
  refine j_met [(0, .int x0), (1, .int x1), (2, .int x2)] (by decide +kernel) (Nat.le_of_ble_eq_true rfl) rfl ?_
  refine j_bipush (pc := 0) dX0_pairBehind_0 bc_16 ?_
  refine j_iload_n (pc := 2) 1 dX0_pairBehind_2 rfl rfl ?_
  refine j_iload_n (pc := 3) 2 dX0_pairBehind_3 rfl rfl ?_
  refine j_iload_n (pc := 4) 0 dX0_pairBehind_4 rfl rfl ?_
  refine j_bipush (pc := 5) dX0_pairBehind_5 bc_16 ?_
  refine j_idiv (pc := 7) dX0_pairBehind_7 h (fun h => ?_)
  refine j_S0 (pc := 8) (Kc := K_X3_goal) (As := [.int x1, .int x2, .int (x0 / (16 : Int32))]) (rest := [.int (16 : Int32)]) h c_X3_goal q_X3_goal m2_144 rfl rfl (Nat.le_of_ble_eq_true rfl) ⟨(Nat.le_of_ble_eq_true rfl), (Nat.le_of_ble_eq_true rfl)⟩ ⟨rfl, rfl⟩ ⟨(Nat.le_of_ble_eq_true rfl), (Nat.le_of_ble_eq_true rfl)⟩ dX0_pairBehind_8 (fun b1 h => ?_)
  refine j_imul (pc := 11) dX0_pairBehind_11 ?_
  refine j_iload_n (pc := 12) 1 dX0_pairBehind_12 rfl rfl ?_
  refine j_iload_n (pc := 13) 2 dX0_pairBehind_13 rfl rfl ?_
  refine j_iload_n (pc := 14) 0 dX0_pairBehind_14 rfl rfl ?_
  refine j_bipush (pc := 15) dX0_pairBehind_15 bc_16 ?_
  refine j_irem (pc := 17) dX0_pairBehind_17 h (fun h => ?_)
  refine j_S0 (pc := 18) (Kc := K_X3_goal) (As := [.int x1, .int x2, .int (jrem x0 (16 : Int32))]) (rest := [.int ((16 : Int32) * b1)]) h c_X3_goal q_X3_goal m2_144 rfl rfl (Nat.le_of_ble_eq_true rfl) ⟨(Nat.le_of_ble_eq_true rfl), (Nat.le_of_ble_eq_true rfl)⟩ ⟨rfl, rfl⟩ ⟨(Nat.le_of_ble_eq_true rfl), (Nat.le_of_ble_eq_true rfl)⟩ dX0_pairBehind_18 (fun b2 h => ?_)
  refine j_iadd (pc := 21) dX0_pairBehind_21 ?_
  cases h
  exact j_iret (pc := 22) rfl dX0_pairBehind_22 (Nat.le_of_ble_eq_true rfl) (Nat.le_of_ble_eq_true rfl) (jd_i rfl rfl)
set_option maxRecDepth 20000 in
theorem w_X0_depthOf_4 {l : Launch} {E : jE} {F : Nat} {x0 : Int32} : ∀ (n : Nat) (x1 : Int32) (x2 : Int32) (u : Int32), g_X0_depthOf_4 F x0 n x1 x2 = some u → jT l E K_X0_depthOf 0 0 4 [(0, .int x0), (1, .int x1), (2, .int x2)] [] [] (jd (some (.int u)) []) := by
  intro n
  induction n with
  | zero =>
    intro x1 x2 u h
    rw [g_X0_depthOf_4] at h
    cases h
  | succ n ih =>
    intro x1 x2 u h
    rw [g_X0_depthOf_4] at h
    refine j_iload_n (pc := 4) 2 dX0_depthOf_4 rfl rfl ?_
    refine j_bipush (pc := 5) dX0_depthOf_5 bc_8 ?_
    refine j_icmp_ge (pc := 7) (tgt := 29) dX0_depthOf_7 (by decide) h (fun h => ?_) (fun h => ?_)
    · refine j_iload_n (pc := 29) 1 dX0_depthOf_29 rfl rfl ?_
      cases h
      exact j_iret (pc := 30) rfl dX0_depthOf_30 (Nat.le_of_ble_eq_true rfl) (Nat.le_of_ble_eq_true rfl) (jd_i rfl rfl)
    · refine j_iload_n (pc := 10) 0 dX0_depthOf_10 rfl rfl ?_
      refine j_iconst (pc := 11) dX0_depthOf_11 ic_2 ?_
      refine j_iload_n (pc := 12) 2 dX0_depthOf_12 rfl rfl ?_
      refine j_ishl (pc := 13) dX0_depthOf_13 ?_
      refine j_iconst (pc := 14) dX0_depthOf_14 ic_1 ?_
      refine j_isub (pc := 15) dX0_depthOf_15 ?_
      refine j_icmp_lt (pc := 16) (tgt := 23) dX0_depthOf_16 (by decide) h (fun h => ?_) (fun h => ?_)
      · refine j_iinc (pc := 23) (j := 2) (lv' := [(2, .int (x2 + (1 : Int32))), (0, .int x0), (1, .int x1)]) dX0_depthOf_23 rfl (congrArg (fun z => x2 + z) ic_1) (Nat.le_of_ble_eq_true rfl) rfl ?_
        refine j_goto (pc := 26) (tgt := 4) dX0_depthOf_26 (by decide) ?_
        exact j_sub (lv' := [(0, .int x0), (1, .int x1), (2, .int (x2 + (1 : Int32)))]) [1, 2, 0] rfl (ih _ _ u h)
      · refine j_iload_n (pc := 19) 2 dX0_depthOf_19 rfl rfl ?_
        refine j_iconst (pc := 20) dX0_depthOf_20 ic_1 ?_
        refine j_iadd (pc := 21) dX0_depthOf_21 ?_
        refine j_istore_n (pc := 22) (lv' := [(1, .int (x2 + (1 : Int32))), (0, .int x0), (2, .int x2)]) dX0_depthOf_22 rfl (Nat.le_of_ble_eq_true rfl) rfl ?_
        refine j_iinc (pc := 23) (j := 2) (lv' := [(2, .int (x2 + (1 : Int32))), (1, .int (x2 + (1 : Int32))), (0, .int x0)]) dX0_depthOf_23 rfl (congrArg (fun z => x2 + z) ic_1) (Nat.le_of_ble_eq_true rfl) rfl ?_
        refine j_goto (pc := 26) (tgt := 4) dX0_depthOf_26 (by decide) ?_
        exact j_sub (lv' := [(0, .int x0), (1, .int (x2 + (1 : Int32))), (2, .int (x2 + (1 : Int32)))]) [2, 1, 0] rfl (ih _ _ u h)
set_option maxRecDepth 20000 in
theorem c_X0_depthOf {l : Launch} {E : jE} {F : Nat} {x0 : Int32} : ∀ u : Int32, f_X0_depthOf F x0 = some u → jM l E K_X0_depthOf [.int x0] [] (jd (some (.int u)) []) := by
  intro u h
  unfold f_X0_depthOf at h
  refine j_met [(0, .int x0)] (by decide +kernel) (Nat.le_of_ble_eq_true rfl) rfl ?_
  refine j_iconst (pc := 0) dX0_depthOf_0 ic_0 ?_
  refine j_istore_n (pc := 1) (lv' := [(1, .int (0 : Int32)), (0, .int x0)]) dX0_depthOf_1 rfl (Nat.le_of_ble_eq_true rfl) rfl ?_
  refine j_iconst (pc := 2) dX0_depthOf_2 ic_0 ?_
  refine j_istore_n (pc := 3) (lv' := [(2, .int (0 : Int32)), (1, .int (0 : Int32)), (0, .int x0)]) dX0_depthOf_3 rfl (Nat.le_of_ble_eq_true rfl) rfl ?_
  exact j_sub (lv' := [(0, .int x0), (1, .int (0 : Int32)), (2, .int (0 : Int32))]) [2, 1, 0] rfl (w_X0_depthOf_4 _ _ _ u h)
set_option maxRecDepth 20000 in
theorem w_X0_fewestTillNeighbours_48 {l : Launch} {E : jE} {F : Nat} {x1 : Int32} {x2 : Int32} {x3 : Int32} {a_o a_o_stepsFrom a_o_pairTree a_o_found : Nat} {k_3 : Int32 → (Nat → Int32) → Option (Int32 × (Nat → Int32))} (hk_3 : ∀ (x4 : Int32) (f_o_pairTree : Nat → Int32) (u : Int32 × (Nat → Int32)), k_3 x4 f_o_pairTree = some u → jT l E K_X0_fewestTillNeighbours 0 0 3 [(0, .ref a_o), (1, .int x1), (2, .int x2), (3, .int x3), (4, .int x4)] [] [jO a_o 0 [.ref a_o_stepsFrom, .ref a_o_pairTree, .ref a_o_found], jI E a_o_pairTree 511 f_o_pairTree] (jd (some (.int u.1)) [jO a_o 0 [.ref a_o_stepsFrom, .ref a_o_pairTree, .ref a_o_found], jI E a_o_pairTree 511 u.2])) : ∀ (x4 : Int32) (s0 : Int32) (f_o_pairTree : Nat → Int32) (u : Int32 × (Nat → Int32)), g_X0_fewestTillNeighbours_48 F x1 x2 x3 k_3 x4 s0 f_o_pairTree = some u → jT l E K_X0_fewestTillNeighbours 0 0 48 [(0, .ref a_o), (1, .int x1), (2, .int x2), (3, .int x3), (4, .int x4)] [.int s0] [jO a_o 0 [.ref a_o_stepsFrom, .ref a_o_pairTree, .ref a_o_found], jI E a_o_pairTree 511 f_o_pairTree] (jd (some (.int u.1)) [jO a_o 0 [.ref a_o_stepsFrom, .ref a_o_pairTree, .ref a_o_found], jI E a_o_pairTree 511 u.2]) := by
  intro x4 s0 f_o_pairTree u h
  unfold g_X0_fewestTillNeighbours_48 at h
  refine j_istore (pc := 48) (lv' := [(5, .int s0), (0, .ref a_o), (1, .int x1), (2, .int x2), (3, .int x3), (4, .int x4)]) dX0_fewestTillNeighbours_48 (Nat.le_of_ble_eq_true rfl) rfl ?_
  refine j_aload_n (pc := 50) 1 dX0_fewestTillNeighbours_50 rfl rfl ?_
  refine j_get (pc := 51) (v := .ref a_o_pairTree) 0 1 rfl rfl (Nat.le_of_ble_eq_true rfl) iwX0 m1_109 rfl dX0_fewestTillNeighbours_51 ?_
  refine j_iload (pc := 54) 5 dX0_fewestTillNeighbours_54 rfl ?_
  refine j_iload (pc := 56) 0 dX0_fewestTillNeighbours_56 rfl ?_
  refine j_iast (pc := 58) (w' := [jO a_o 0 [.ref a_o_stepsFrom, .ref a_o_pairTree, .ref a_o_found], jI E a_o_pairTree 511 (upd f_o_pairTree x4.toNatClampNeg s0)]) 1 rfl dX0_fewestTillNeighbours_58 h rfl (fun h => ?_)
  refine j_iload (pc := 59) 0 dX0_fewestTillNeighbours_59 rfl ?_
  refine j_bipush (pc := 61) dX0_fewestTillNeighbours_61 bc_16 ?_
  refine j_idiv (pc := 63) dX0_fewestTillNeighbours_63 h (fun h => ?_)
  refine j_iload (pc := 64) 0 dX0_fewestTillNeighbours_64 rfl ?_
  refine j_bipush (pc := 66) dX0_fewestTillNeighbours_66 bc_16 ?_
  refine j_irem (pc := 68) dX0_fewestTillNeighbours_68 h (fun h => ?_)
  refine j_isub (pc := 69) dX0_fewestTillNeighbours_69 ?_
  refine j_abs (pc := 70) m2_171 hw_abs_s hw_math hw_abs_c (Nat.le_of_ble_eq_true rfl) (Nat.le_of_ble_eq_true rfl) ⟨(Nat.le_of_ble_eq_true rfl), (Nat.le_of_ble_eq_true rfl)⟩ dX0_fewestTillNeighbours_70 ?_
  refine j_iconst (pc := 73) dX0_fewestTillNeighbours_73 ic_1 ?_
  refine j_icmp_ne (pc := 74) (tgt := 83) dX0_fewestTillNeighbours_74 (by decide) h (fun h => ?_) (fun h => ?_)
  · refine j_iinc (pc := 83) (j := 5) (lv' := [(4, .int (x4 + (1 : Int32))), (5, .int s0), (0, .ref a_o), (1, .int x1), (2, .int x2), (3, .int x3)]) dX0_fewestTillNeighbours_83 rfl (congrArg (fun z => x4 + z) ic_1) (Nat.le_of_ble_eq_true rfl) rfl ?_
    refine j_goto (pc := 86) (tgt := 3) dX0_fewestTillNeighbours_86 (by decide) ?_
    exact j_sub (lv' := [(0, .ref a_o), (1, .int x1), (2, .int x2), (3, .int x3), (4, .int (x4 + (1 : Int32)))]) [2, 3, 4, 5, 0] rfl (hk_3 _ _ u h)
  · refine j_iload (pc := 77) 5 dX0_fewestTillNeighbours_77 rfl ?_
    refine j_S0 (pc := 79) (Kc := K_X0_depthOf) (As := [.int x4]) (rest := []) h c_X0_depthOf q_X0_depthOf m2_174 rfl rfl (Nat.le_of_ble_eq_true rfl) ⟨(Nat.le_of_ble_eq_true rfl), (Nat.le_of_ble_eq_true rfl)⟩ ⟨rfl, rfl⟩ ⟨(Nat.le_of_ble_eq_true rfl), (Nat.le_of_ble_eq_true rfl)⟩ dX0_fewestTillNeighbours_79 (fun b1 h => ?_)
    cases h
    exact j_iret (pc := 82) rfl dX0_fewestTillNeighbours_82 (Nat.le_of_ble_eq_true rfl) (Nat.le_of_ble_eq_true rfl) (jd_i rfl rfl)
set_option maxRecDepth 20000 in
theorem w_X0_fewestTillNeighbours_3 {l : Launch} {E : jE} {F : Nat} {x1 : Int32} {x2 : Int32} {x3 : Int32} {a_o a_o_stepsFrom a_o_pairTree a_o_found : Nat} : ∀ (n : Nat) (x4 : Int32) (f_o_pairTree : Nat → Int32) (u : Int32 × (Nat → Int32)), g_X0_fewestTillNeighbours_3 F x1 x2 x3 n x4 f_o_pairTree = some u → jT l E K_X0_fewestTillNeighbours 0 0 3 [(0, .ref a_o), (1, .int x1), (2, .int x2), (3, .int x3), (4, .int x4)] [] [jO a_o 0 [.ref a_o_stepsFrom, .ref a_o_pairTree, .ref a_o_found], jI E a_o_pairTree 511 f_o_pairTree] (jd (some (.int u.1)) [jO a_o 0 [.ref a_o_stepsFrom, .ref a_o_pairTree, .ref a_o_found], jI E a_o_pairTree 511 u.2]) := by
  intro n
  induction n with
  | zero =>
    intro x4 f_o_pairTree u h
    rw [g_X0_fewestTillNeighbours_3] at h
    cases h
  | succ n ih =>
    intro x4 f_o_pairTree u h
    rw [g_X0_fewestTillNeighbours_3] at h
    refine j_iload (pc := 3) 4 dX0_fewestTillNeighbours_3 rfl ?_
    refine j_aload_n (pc := 5) 0 dX0_fewestTillNeighbours_5 rfl rfl ?_
    refine j_get (pc := 6) (v := .ref a_o_pairTree) 0 1 rfl rfl (Nat.le_of_ble_eq_true rfl) iwX0 m1_109 rfl dX0_fewestTillNeighbours_6 ?_
    refine j_alenI (pc := 9) (v := (511 : Int32)) 1 rfl dX0_fewestTillNeighbours_9 rfl ?_
    refine j_icmp_ge (pc := 10) (tgt := 89) dX0_fewestTillNeighbours_10 (by decide) h (fun h => ?_) (fun h => ?_)
    · refine j_bipush (pc := 89) dX0_fewestTillNeighbours_89 bc_m4 ?_
      cases h
      exact j_iret (pc := 91) rfl dX0_fewestTillNeighbours_91 (Nat.le_of_ble_eq_true rfl) (Nat.le_of_ble_eq_true rfl) (jd_i rfl rfl)
    · refine j_iload (pc := 13) 4 dX0_fewestTillNeighbours_13 rfl ?_
      refine j_if_ne (pc := 15) (tgt := 27) dX0_fewestTillNeighbours_15 (by decide) h (fun h => ?_) (fun h => ?_)
      · refine j_aload_n (pc := 27) 0 dX0_fewestTillNeighbours_27 rfl rfl ?_
        refine j_get (pc := 28) (v := .ref a_o_pairTree) 0 1 rfl rfl (Nat.le_of_ble_eq_true rfl) iwX0 m1_109 rfl dX0_fewestTillNeighbours_28 ?_
        refine j_iload (pc := 31) 4 dX0_fewestTillNeighbours_31 rfl ?_
        refine j_iconst (pc := 33) dX0_fewestTillNeighbours_33 ic_1 ?_
        refine j_isub (pc := 34) dX0_fewestTillNeighbours_34 ?_
        refine j_iconst (pc := 35) dX0_fewestTillNeighbours_35 ic_2 ?_
        refine j_idiv (pc := 36) dX0_fewestTillNeighbours_36 h (fun h => ?_)
        refine j_iald (pc := 37) 1 rfl dX0_fewestTillNeighbours_37 h (fun h => ?_)
        refine j_iload (pc := 38) 4 dX0_fewestTillNeighbours_38 rfl ?_
        refine j_iconst (pc := 40) dX0_fewestTillNeighbours_40 ic_1 ?_
        refine j_isub (pc := 41) dX0_fewestTillNeighbours_41 ?_
        refine j_iconst (pc := 42) dX0_fewestTillNeighbours_42 ic_2 ?_
        refine j_irem (pc := 43) dX0_fewestTillNeighbours_43 h (fun h => ?_)
        refine j_iload_n (pc := 44) 3 dX0_fewestTillNeighbours_44 rfl rfl ?_
        refine j_S0 (pc := 45) (Kc := K_X0_pairBehind) (As := [.int (f_o_pairTree ((x4 - (1 : Int32)) / (2 : Int32)).toNatClampNeg), .int (jrem (x4 - (1 : Int32)) (2 : Int32)), .int x3]) (rest := []) h c_X0_pairBehind q_X0_pairBehind m2_168 rfl rfl (Nat.le_of_ble_eq_true rfl) ⟨(Nat.le_of_ble_eq_true rfl), (Nat.le_of_ble_eq_true rfl)⟩ ⟨rfl, rfl⟩ ⟨(Nat.le_of_ble_eq_true rfl), (Nat.le_of_ble_eq_true rfl)⟩ dX0_fewestTillNeighbours_45 (fun b1 h => ?_)
        exact w_X0_fewestTillNeighbours_48 ih _ _ _ u h
      · refine j_bipush (pc := 18) dX0_fewestTillNeighbours_18 bc_16 ?_
        refine j_iload_n (pc := 20) 1 dX0_fewestTillNeighbours_20 rfl rfl ?_
        refine j_imul (pc := 21) dX0_fewestTillNeighbours_21 ?_
        refine j_iload_n (pc := 22) 2 dX0_fewestTillNeighbours_22 rfl rfl ?_
        refine j_iadd (pc := 23) dX0_fewestTillNeighbours_23 ?_
        refine j_goto (pc := 24) (tgt := 48) dX0_fewestTillNeighbours_24 (by decide) ?_
        exact w_X0_fewestTillNeighbours_48 ih _ _ _ u h
set_option maxRecDepth 20000 in
theorem c_X0_fewestTillNeighbours {l : Launch} {E : jE} {F : Nat} {x1 : Int32} {x2 : Int32} {x3 : Int32} {a_o a_o_stepsFrom a_o_pairTree a_o_found : Nat} {f_o_pairTree : Nat → Int32} : ∀ u : Int32 × (Nat → Int32), f_X0_fewestTillNeighbours F x1 x2 x3 f_o_pairTree = some u → jM l E K_X0_fewestTillNeighbours [.ref a_o, .int x1, .int x2, .int x3] [jO a_o 0 [.ref a_o_stepsFrom, .ref a_o_pairTree, .ref a_o_found], jI E a_o_pairTree 511 f_o_pairTree] (jd (some (.int u.1)) [jO a_o 0 [.ref a_o_stepsFrom, .ref a_o_pairTree, .ref a_o_found], jI E a_o_pairTree 511 u.2]) := by
  intro u h
  unfold f_X0_fewestTillNeighbours at h
  refine j_met [(0, .ref a_o), (1, .int x1), (2, .int x2), (3, .int x3)] (by decide +kernel) (Nat.le_of_ble_eq_true rfl) rfl ?_
  refine j_iconst (pc := 0) dX0_fewestTillNeighbours_0 ic_0 ?_
  refine j_istore (pc := 1) (lv' := [(4, .int (0 : Int32)), (0, .ref a_o), (1, .int x1), (2, .int x2), (3, .int x3)]) dX0_fewestTillNeighbours_1 (Nat.le_of_ble_eq_true rfl) rfl ?_
  exact j_sub (lv' := [(0, .ref a_o), (1, .int x1), (2, .int x2), (3, .int x3), (4, .int (0 : Int32))]) [1, 2, 3, 4, 0] rfl (w_X0_fewestTillNeighbours_3 _ _ _ u h)
set_option maxRecDepth 20000 in
theorem w_X0_heldWith_39 {l : Launch} {E : jE} {F : Nat} {x1 : Int64} {x3 : Int32} {a_o a_o_stepsFrom a_o_pairTree a_o_found : Nat} : ∀ (f_o_found : Nat → Int64) (u : Int32 × (Nat → Int64)), g_X0_heldWith_39 F x1 x3 f_o_found = some u → jT l E K_X0_heldWith 0 0 39 [(0, .ref a_o), (1, .long x1), (3, .int x3)] [] [jO a_o 0 [.ref a_o_stepsFrom, .ref a_o_pairTree, .ref a_o_found], jJ E a_o_found 127 f_o_found] (jd (some (.int u.1)) [jO a_o 0 [.ref a_o_stepsFrom, .ref a_o_pairTree, .ref a_o_found], jJ E a_o_found 127 u.2]) := by
  intro f_o_found u h
  unfold g_X0_heldWith_39 at h
  refine j_iload_n (pc := 39) 2 dX0_heldWith_39 rfl rfl ?_
  refine j_if_lt (pc := 40) (tgt := 52) dX0_heldWith_40 (by decide) h (fun h => ?_) (fun h => ?_)
  · refine j_iload_n (pc := 52) 2 dX0_heldWith_52 rfl rfl ?_
    cases h
    exact j_iret (pc := 53) rfl dX0_heldWith_53 (Nat.le_of_ble_eq_true rfl) (Nat.le_of_ble_eq_true rfl) (jd_i rfl rfl)
  · refine j_iload_n (pc := 43) 2 dX0_heldWith_43 rfl rfl ?_
    refine j_aload_n (pc := 44) 0 dX0_heldWith_44 rfl rfl ?_
    refine j_get (pc := 45) (v := .ref a_o_found) 0 2 rfl rfl (Nat.le_of_ble_eq_true rfl) iwX0 m1_110 rfl dX0_heldWith_45 ?_
    refine j_alenJ (pc := 48) (v := (127 : Int32)) 1 rfl dX0_heldWith_48 rfl ?_
    refine j_icmp_lt (pc := 49) (tgt := 54) dX0_heldWith_49 (by decide) h (fun h => ?_) (fun h => ?_)
    · refine j_aload_n (pc := 54) 0 dX0_heldWith_54 rfl rfl ?_
      refine j_get (pc := 55) (v := .ref a_o_found) 0 2 rfl rfl (Nat.le_of_ble_eq_true rfl) iwX0 m1_110 rfl dX0_heldWith_55 ?_
      refine j_iload_n (pc := 58) 2 dX0_heldWith_58 rfl rfl ?_
      refine j_lload_n (pc := 59) 1 dX0_heldWith_59 rfl rfl ?_
      refine j_last (pc := 60) (w' := [jO a_o 0 [.ref a_o_stepsFrom, .ref a_o_pairTree, .ref a_o_found], jJ E a_o_found 127 (vp_updL f_o_found x3.toNatClampNeg x1)]) 1 rfl dX0_heldWith_60 h rfl (fun h => ?_)
      refine j_iload_n (pc := 61) 2 dX0_heldWith_61 rfl rfl ?_
      refine j_iconst (pc := 62) dX0_heldWith_62 ic_1 ?_
      refine j_iadd (pc := 63) dX0_heldWith_63 ?_
      cases h
      exact j_iret (pc := 64) rfl dX0_heldWith_64 (Nat.le_of_ble_eq_true rfl) (Nat.le_of_ble_eq_true rfl) (jd_i rfl rfl)
    · refine j_iload_n (pc := 52) 2 dX0_heldWith_52 rfl rfl ?_
      cases h
      exact j_iret (pc := 53) rfl dX0_heldWith_53 (Nat.le_of_ble_eq_true rfl) (Nat.le_of_ble_eq_true rfl) (jd_i rfl rfl)
set_option maxRecDepth 20000 in
theorem w_X0_heldWith_3 {l : Launch} {E : jE} {F : Nat} {x1 : Int64} {x3 : Int32} {a_o a_o_stepsFrom a_o_pairTree a_o_found : Nat} : ∀ (n : Nat) (x4 : Int32) (f_o_found : Nat → Int64) (u : Int32 × (Nat → Int64)), g_X0_heldWith_3 F x1 x3 n x4 f_o_found = some u → jT l E K_X0_heldWith 0 0 3 [(0, .ref a_o), (1, .long x1), (3, .int x3), (4, .int x4)] [] [jO a_o 0 [.ref a_o_stepsFrom, .ref a_o_pairTree, .ref a_o_found], jJ E a_o_found 127 f_o_found] (jd (some (.int u.1)) [jO a_o 0 [.ref a_o_stepsFrom, .ref a_o_pairTree, .ref a_o_found], jJ E a_o_found 127 u.2]) := by
  intro n
  induction n with
  | zero =>
    intro x4 f_o_found u h
    rw [g_X0_heldWith_3] at h
    cases h
  | succ n ih =>
    intro x4 f_o_found u h
    rw [g_X0_heldWith_3] at h
    refine j_iload (pc := 3) 3 dX0_heldWith_3 rfl ?_
    refine j_iload_n (pc := 5) 2 dX0_heldWith_5 rfl rfl ?_
    refine j_icmp_ge (pc := 6) (tgt := 39) dX0_heldWith_6 (by decide) h (fun h => ?_) (fun h => ?_)
    · exact j_sub (lv' := [(0, .ref a_o), (1, .long x1), (3, .int x3)]) [0, 1, 2] rfl (w_X0_heldWith_39 _ u h)
    · refine j_iload (pc := 9) 3 dX0_heldWith_9 rfl ?_
      refine j_aload_n (pc := 11) 0 dX0_heldWith_11 rfl rfl ?_
      refine j_get (pc := 12) (v := .ref a_o_found) 0 2 rfl rfl (Nat.le_of_ble_eq_true rfl) iwX0 m1_110 rfl dX0_heldWith_12 ?_
      refine j_alenJ (pc := 15) (v := (127 : Int32)) 1 rfl dX0_heldWith_15 rfl ?_
      refine j_icmp_ge (pc := 16) (tgt := 39) dX0_heldWith_16 (by decide) h (fun h => ?_) (fun h => ?_)
      · exact j_sub (lv' := [(0, .ref a_o), (1, .long x1), (3, .int x3)]) [0, 1, 2] rfl (w_X0_heldWith_39 _ u h)
      · refine j_aload_n (pc := 19) 0 dX0_heldWith_19 rfl rfl ?_
        refine j_get (pc := 20) (v := .ref a_o_found) 0 2 rfl rfl (Nat.le_of_ble_eq_true rfl) iwX0 m1_110 rfl dX0_heldWith_20 ?_
        refine j_iload (pc := 23) 3 dX0_heldWith_23 rfl ?_
        refine j_lald (pc := 25) 1 rfl dX0_heldWith_25 h (fun h => ?_)
        refine j_lload_n (pc := 26) 1 dX0_heldWith_26 rfl rfl ?_
        refine j_lcmp (pc := 27) dX0_heldWith_27 ?_
        refine j_if_ne (pc := 28) (tgt := 33) dX0_heldWith_28 (by decide) h (fun h => ?_) (fun h => ?_)
        · refine j_iinc (pc := 33) (j := 3) (lv' := [(4, .int (x4 + (1 : Int32))), (0, .ref a_o), (1, .long x1), (3, .int x3)]) dX0_heldWith_33 rfl (congrArg (fun z => x4 + z) ic_1) (Nat.le_of_ble_eq_true rfl) rfl ?_
          refine j_goto (pc := 36) (tgt := 3) dX0_heldWith_36 (by decide) ?_
          exact j_sub (lv' := [(0, .ref a_o), (1, .long x1), (3, .int x3), (4, .int (x4 + (1 : Int32)))]) [1, 2, 3, 0] rfl (ih _ _ u h)
        · refine j_iload_n (pc := 31) 2 dX0_heldWith_31 rfl rfl ?_
          cases h
          exact j_iret (pc := 32) rfl dX0_heldWith_32 (Nat.le_of_ble_eq_true rfl) (Nat.le_of_ble_eq_true rfl) (jd_i rfl rfl)
set_option maxRecDepth 20000 in
theorem c_X0_heldWith {l : Launch} {E : jE} {F : Nat} {x1 : Int64} {x3 : Int32} {a_o a_o_stepsFrom a_o_pairTree a_o_found : Nat} {f_o_found : Nat → Int64} : ∀ u : Int32 × (Nat → Int64), f_X0_heldWith F x1 x3 f_o_found = some u → jM l E K_X0_heldWith [.ref a_o, .long x1, .int x3] [jO a_o 0 [.ref a_o_stepsFrom, .ref a_o_pairTree, .ref a_o_found], jJ E a_o_found 127 f_o_found] (jd (some (.int u.1)) [jO a_o 0 [.ref a_o_stepsFrom, .ref a_o_pairTree, .ref a_o_found], jJ E a_o_found 127 u.2]) := by
  intro u h
  unfold f_X0_heldWith at h
  refine j_met [(0, .ref a_o), (1, .long x1), (3, .int x3)] (by decide +kernel) (Nat.le_of_ble_eq_true rfl) rfl ?_
  refine j_iconst (pc := 0) dX0_heldWith_0 ic_0 ?_
  refine j_istore (pc := 1) (lv' := [(4, .int (0 : Int32)), (0, .ref a_o), (1, .long x1), (3, .int x3)]) dX0_heldWith_1 (Nat.le_of_ble_eq_true rfl) rfl ?_
  exact j_sub (lv' := [(0, .ref a_o), (1, .long x1), (3, .int x3), (4, .int (0 : Int32))]) [1, 2, 3, 0] rfl (w_X0_heldWith_3 _ _ _ u h)
set_option maxRecDepth 20000 in
theorem w_X0_countOrders_46 {l : Launch} {E : jE} {F : Nat} {x1 : Int32} {x2 : Int32} {a_o a_o_stepsFrom a_o_pairTree a_o_found : Nat} {k_32 : Int64 → Int64 → Int32 → Int32 → Int32 → (Nat → Int64) → Option (Int32 × (Nat → Int64))} (hk_32 : ∀ (x3 : Int64) (x5 : Int64) (x7 : Int32) (x8 : Int32) (x9 : Int32) (f_o_found : Nat → Int64) (u : Int32 × (Nat → Int64)), k_32 x3 x5 x7 x8 x9 f_o_found = some u → jT l E K_X0_countOrders 0 0 32 [(0, .ref a_o), (1, .int x1), (2, .int x2), (3, .long x3), (5, .long x5), (7, .int x7), (8, .int x8), (9, .int x9)] [] [jO a_o 0 [.ref a_o_stepsFrom, .ref a_o_pairTree, .ref a_o_found], jJ E a_o_found 127 f_o_found] (jd (some (.int u.1)) [jO a_o 0 [.ref a_o_stepsFrom, .ref a_o_pairTree, .ref a_o_found], jJ E a_o_found 127 u.2])) : ∀ (n : Nat) (x3 : Int64) (x5 : Int64) (x7 : Int32) (x9 : Int32) (x10 : Int32) (x11 : Int32) (f_o_found : Nat → Int64) (u : Int32 × (Nat → Int64)), g_X0_countOrders_46 F x1 x2 k_32 n x3 x5 x7 x9 x10 x11 f_o_found = some u → jT l E K_X0_countOrders 0 0 46 [(0, .ref a_o), (1, .int x1), (2, .int x2), (3, .long x3), (5, .long x5), (7, .int x7), (9, .int x9), (10, .int x10), (11, .int x11)] [] [jO a_o 0 [.ref a_o_stepsFrom, .ref a_o_pairTree, .ref a_o_found], jJ E a_o_found 127 f_o_found] (jd (some (.int u.1)) [jO a_o 0 [.ref a_o_stepsFrom, .ref a_o_pairTree, .ref a_o_found], jJ E a_o_found 127 u.2]) := by
  intro n
  induction n with
  | zero =>
    intro x3 x5 x7 x9 x10 x11 f_o_found u h
    rw [g_X0_countOrders_46] at h
    cases h
  | succ n ih =>
    intro x3 x5 x7 x9 x10 x11 f_o_found u h
    rw [g_X0_countOrders_46] at h
    refine j_iload (pc := 46) 8 dX0_countOrders_46 rfl ?_
    refine j_iload (pc := 48) 7 dX0_countOrders_48 rfl ?_
    refine j_icmp_ge (pc := 50) (tgt := 110) dX0_countOrders_50 (by decide) h (fun h => ?_) (fun h => ?_)
    · refine j_iload (pc := 110) 7 dX0_countOrders_110 rfl ?_
      refine j_istore (pc := 112) (lv' := [(8, .int x10), (0, .ref a_o), (1, .int x1), (2, .int x2), (3, .long x3), (5, .long x5), (7, .int x7), (9, .int x9), (10, .int x10), (11, .int x11)]) dX0_countOrders_112 (Nat.le_of_ble_eq_true rfl) rfl ?_
      refine j_iinc (pc := 114) (j := 7) (lv' := [(9, .int (x9 + (1 : Int32))), (8, .int x10), (0, .ref a_o), (1, .int x1), (2, .int x2), (3, .long x3), (5, .long x5), (7, .int x7), (10, .int x10), (11, .int x11)]) dX0_countOrders_114 rfl (congrArg (fun z => x9 + z) ic_1) (Nat.le_of_ble_eq_true rfl) rfl ?_
      refine j_goto (pc := 117) (tgt := 32) dX0_countOrders_117 (by decide) ?_
      exact j_sub (lv' := [(0, .ref a_o), (1, .int x1), (2, .int x2), (3, .long x3), (5, .long x5), (7, .int x7), (8, .int x10), (9, .int (x9 + (1 : Int32)))]) [2, 3, 4, 5, 6, 7, 1, 0] rfl (hk_32 _ _ _ _ _ _ u h)
    · refine j_iload (pc := 53) 8 dX0_countOrders_53 rfl ?_
      refine j_aload_n (pc := 55) 0 dX0_countOrders_55 rfl rfl ?_
      refine j_get (pc := 56) (v := .ref a_o_found) 0 2 rfl rfl (Nat.le_of_ble_eq_true rfl) iwX0 m1_110 rfl dX0_countOrders_56 ?_
      refine j_alenJ (pc := 59) (v := (127 : Int32)) 1 rfl dX0_countOrders_59 rfl ?_
      refine j_icmp_ge (pc := 60) (tgt := 110) dX0_countOrders_60 (by decide) h (fun h => ?_) (fun h => ?_)
      · refine j_iload (pc := 110) 7 dX0_countOrders_110 rfl ?_
        refine j_istore (pc := 112) (lv' := [(8, .int x10), (0, .ref a_o), (1, .int x1), (2, .int x2), (3, .long x3), (5, .long x5), (7, .int x7), (9, .int x9), (10, .int x10), (11, .int x11)]) dX0_countOrders_112 (Nat.le_of_ble_eq_true rfl) rfl ?_
        refine j_iinc (pc := 114) (j := 7) (lv' := [(9, .int (x9 + (1 : Int32))), (8, .int x10), (0, .ref a_o), (1, .int x1), (2, .int x2), (3, .long x3), (5, .long x5), (7, .int x7), (10, .int x10), (11, .int x11)]) dX0_countOrders_114 rfl (congrArg (fun z => x9 + z) ic_1) (Nat.le_of_ble_eq_true rfl) rfl ?_
        refine j_goto (pc := 117) (tgt := 32) dX0_countOrders_117 (by decide) ?_
        exact j_sub (lv' := [(0, .ref a_o), (1, .int x1), (2, .int x2), (3, .long x3), (5, .long x5), (7, .int x7), (8, .int x10), (9, .int (x9 + (1 : Int32)))]) [2, 3, 4, 5, 6, 7, 1, 0] rfl (hk_32 _ _ _ _ _ _ u h)
      · refine j_aload_n (pc := 63) 0 dX0_countOrders_63 rfl rfl ?_
        refine j_aload_n (pc := 64) 0 dX0_countOrders_64 rfl rfl ?_
        refine j_get (pc := 65) (v := .ref a_o_found) 0 2 rfl rfl (Nat.le_of_ble_eq_true rfl) iwX0 m1_110 rfl dX0_countOrders_65 ?_
        refine j_iload (pc := 68) 8 dX0_countOrders_68 rfl ?_
        refine j_lald (pc := 70) 1 rfl dX0_countOrders_70 h (fun h => ?_)
        refine j_lload_n (pc := 71) 3 dX0_countOrders_71 rfl rfl ?_
        refine j_iload_n (pc := 72) 2 dX0_countOrders_72 rfl rfl ?_
        refine j_S0 (pc := 73) (Kc := K_X4_moved) (As := [.long (f_o_found x11.toNatClampNeg), .long x3, .int x2]) (rest := [.ref a_o]) h c_X4_moved q_X4_moved m2_187 rfl rfl (Nat.le_of_ble_eq_true rfl) ⟨(Nat.le_of_ble_eq_true rfl), (Nat.le_of_ble_eq_true rfl)⟩ ⟨rfl, rfl⟩ ⟨(Nat.le_of_ble_eq_true rfl), (Nat.le_of_ble_eq_true rfl)⟩ dX0_countOrders_73 (fun b1 h => ?_)
        refine j_iload (pc := 76) 5 dX0_countOrders_76 rfl ?_
        refine j_V (pc := 78) (q0 := 0) (Kc := K_X0_heldWith) (As := [.long b1, .int x7]) (rest := []) (wc := [jO a_o 0 [.ref a_o_stepsFrom, .ref a_o_pairTree, .ref a_o_found], jJ E a_o_found 127 f_o_found]) (w' := fun b2 => [jO a_o 0 [.ref a_o_stepsFrom, .ref a_o_pairTree, .ref a_o_found], jJ E a_o_found 127 b2.2]) (st1 := fun b2 => [.int b2.1]) [0, 1] rfl rfl rfl h c_X0_heldWith q_X0_heldWith m2_188 rfl rfl (Nat.le_of_ble_eq_true rfl) ⟨(Nat.le_of_ble_eq_true rfl), (Nat.le_of_ble_eq_true rfl)⟩ ⟨rfl, rfl⟩ ⟨(Nat.le_of_ble_eq_true rfl), (Nat.le_of_ble_eq_true rfl)⟩ dX0_countOrders_78 rfl (by decide) (fun _ => rfl) (fun _ => rfl) (fun _ => rfl) (fun b2 h => ?_)
        refine j_istore (pc := 81) (lv' := [(7, .int b2.1), (0, .ref a_o), (1, .int x1), (2, .int x2), (3, .long x3), (5, .long x5), (9, .int x9), (10, .int x10), (11, .int x11)]) dX0_countOrders_81 (Nat.le_of_ble_eq_true rfl) rfl ?_
        refine j_aload_n (pc := 83) 1 dX0_countOrders_83 rfl rfl ?_
        refine j_aload_n (pc := 84) 1 dX0_countOrders_84 rfl rfl ?_
        refine j_get (pc := 85) (v := .ref a_o_found) 0 2 rfl rfl (Nat.le_of_ble_eq_true rfl) iwX0 m1_110 rfl dX0_countOrders_85 ?_
        refine j_iload (pc := 88) 8 dX0_countOrders_88 rfl ?_
        refine j_lald (pc := 90) 1 rfl dX0_countOrders_90 h (fun h => ?_)
        refine j_lload (pc := 91) 5 dX0_countOrders_91 rfl ?_
        refine j_iload_n (pc := 93) 3 dX0_countOrders_93 rfl rfl ?_
        refine j_S0 (pc := 94) (Kc := K_X4_moved) (As := [.long (b2.2 x11.toNatClampNeg), .long x5, .int x2]) (rest := [.ref a_o]) h c_X4_moved q_X4_moved m2_187 rfl rfl (Nat.le_of_ble_eq_true rfl) ⟨(Nat.le_of_ble_eq_true rfl), (Nat.le_of_ble_eq_true rfl)⟩ ⟨rfl, rfl⟩ ⟨(Nat.le_of_ble_eq_true rfl), (Nat.le_of_ble_eq_true rfl)⟩ dX0_countOrders_94 (fun b3 h => ?_)
        refine j_iload (pc := 97) 0 dX0_countOrders_97 rfl ?_
        refine j_V (pc := 99) (q0 := 0) (Kc := K_X0_heldWith) (As := [.long b3, .int b2.1]) (rest := []) (wc := [jO a_o 0 [.ref a_o_stepsFrom, .ref a_o_pairTree, .ref a_o_found], jJ E a_o_found 127 b2.2]) (w' := fun b4 => [jO a_o 0 [.ref a_o_stepsFrom, .ref a_o_pairTree, .ref a_o_found], jJ E a_o_found 127 b4.2]) (st1 := fun b4 => [.int b4.1]) [0, 1] rfl rfl rfl h c_X0_heldWith q_X0_heldWith m2_188 rfl rfl (Nat.le_of_ble_eq_true rfl) ⟨(Nat.le_of_ble_eq_true rfl), (Nat.le_of_ble_eq_true rfl)⟩ ⟨rfl, rfl⟩ ⟨(Nat.le_of_ble_eq_true rfl), (Nat.le_of_ble_eq_true rfl)⟩ dX0_countOrders_99 rfl (by decide) (fun _ => rfl) (fun _ => rfl) (fun _ => rfl) (fun b4 h => ?_)
        refine j_istore (pc := 102) (lv' := [(7, .int b4.1), (0, .ref a_o), (1, .int x1), (2, .int x2), (3, .long x3), (5, .long x5), (9, .int x9), (10, .int x10), (11, .int x11)]) dX0_countOrders_102 (Nat.le_of_ble_eq_true rfl) rfl ?_
        refine j_iinc (pc := 104) (j := 8) (lv' := [(11, .int (x11 + (1 : Int32))), (7, .int b4.1), (0, .ref a_o), (1, .int x1), (2, .int x2), (3, .long x3), (5, .long x5), (9, .int x9), (10, .int x10)]) dX0_countOrders_104 rfl (congrArg (fun z => x11 + z) ic_1) (Nat.le_of_ble_eq_true rfl) rfl ?_
        refine j_goto (pc := 107) (tgt := 46) dX0_countOrders_107 (by decide) ?_
        exact j_sub (lv' := [(0, .ref a_o), (1, .int x1), (2, .int x2), (3, .long x3), (5, .long x5), (7, .int b4.1), (9, .int x9), (10, .int x10), (11, .int (x11 + (1 : Int32)))]) [2, 3, 4, 5, 6, 1, 7, 8, 0] rfl (ih _ _ _ _ _ _ _ u h)
set_option maxRecDepth 20000 in
theorem w_X0_countOrders_32 {l : Launch} {E : jE} {F : Nat} {x1 : Int32} {x2 : Int32} {a_o a_o_stepsFrom a_o_pairTree a_o_found : Nat} : ∀ (n : Nat) (x3 : Int64) (x5 : Int64) (x7 : Int32) (x8 : Int32) (x9 : Int32) (f_o_found : Nat → Int64) (u : Int32 × (Nat → Int64)), g_X0_countOrders_32 F x1 x2 n x3 x5 x7 x8 x9 f_o_found = some u → jT l E K_X0_countOrders 0 0 32 [(0, .ref a_o), (1, .int x1), (2, .int x2), (3, .long x3), (5, .long x5), (7, .int x7), (8, .int x8), (9, .int x9)] [] [jO a_o 0 [.ref a_o_stepsFrom, .ref a_o_pairTree, .ref a_o_found], jJ E a_o_found 127 f_o_found] (jd (some (.int u.1)) [jO a_o 0 [.ref a_o_stepsFrom, .ref a_o_pairTree, .ref a_o_found], jJ E a_o_found 127 u.2]) := by
  intro n
  induction n with
  | zero =>
    intro x3 x5 x7 x8 x9 f_o_found u h
    rw [g_X0_countOrders_32] at h
    cases h
  | succ n ih =>
    intro x3 x5 x7 x8 x9 f_o_found u h
    rw [g_X0_countOrders_32] at h
    refine j_iload (pc := 32) 7 dX0_countOrders_32 rfl ?_
    refine j_iload_n (pc := 34) 1 dX0_countOrders_34 rfl rfl ?_
    refine j_icmp_ge (pc := 35) (tgt := 120) dX0_countOrders_35 (by decide) h (fun h => ?_) (fun h => ?_)
    · refine j_iload (pc := 120) 5 dX0_countOrders_120 rfl ?_
      cases h
      exact j_iret (pc := 122) rfl dX0_countOrders_122 (Nat.le_of_ble_eq_true rfl) (Nat.le_of_ble_eq_true rfl) (jd_i rfl rfl)
    · refine j_iload (pc := 38) 5 dX0_countOrders_38 rfl ?_
      refine j_istore (pc := 40) (lv' := [(10, .int x7), (0, .ref a_o), (1, .int x1), (2, .int x2), (3, .long x3), (5, .long x5), (7, .int x7), (8, .int x8), (9, .int x9)]) dX0_countOrders_40 (Nat.le_of_ble_eq_true rfl) rfl ?_
      refine j_iload (pc := 42) 7 dX0_countOrders_42 rfl ?_
      refine j_istore (pc := 44) (lv' := [(11, .int x8), (10, .int x7), (0, .ref a_o), (1, .int x1), (2, .int x2), (3, .long x3), (5, .long x5), (7, .int x7), (8, .int x8), (9, .int x9)]) dX0_countOrders_44 (Nat.le_of_ble_eq_true rfl) rfl ?_
      exact j_sub (lv' := [(0, .ref a_o), (1, .int x1), (2, .int x2), (3, .long x3), (5, .long x5), (7, .int x7), (9, .int x9), (10, .int x7), (11, .int x8)]) [2, 3, 4, 5, 6, 7, 9, 1, 0] rfl (w_X0_countOrders_46 ih _ _ _ _ _ _ _ _ u h)
set_option maxRecDepth 20000 in
theorem c_X0_countOrders {l : Launch} {E : jE} {F : Nat} {x1 : Int32} {x2 : Int32} {a_o a_o_stepsFrom a_o_pairTree a_o_found : Nat} {f_o_found : Nat → Int64} : ∀ u : Int32 × (Nat → Int64), f_X0_countOrders F x1 x2 f_o_found = some u → jM l E K_X0_countOrders [.ref a_o, .int x1, .int x2] [jO a_o 0 [.ref a_o_stepsFrom, .ref a_o_pairTree, .ref a_o_found], jJ E a_o_found 127 f_o_found] (jd (some (.int u.1)) [jO a_o 0 [.ref a_o_stepsFrom, .ref a_o_pairTree, .ref a_o_found], jJ E a_o_found 127 u.2]) := by
  intro u h
  unfold f_X0_countOrders at h
  refine j_met [(0, .ref a_o), (1, .int x1), (2, .int x2)] (by decide +kernel) (Nat.le_of_ble_eq_true rfl) rfl ?_
  refine j_iconst (pc := 0) dX0_countOrders_0 ic_0 ?_
  refine j_iload_n (pc := 1) 2 dX0_countOrders_1 rfl rfl ?_
  refine j_S0 (pc := 2) (Kc := K_X3_lacing) (As := [.int (0 : Int32), .int x2]) (rest := []) h c_X3_lacing q_X3_lacing m2_185 rfl rfl (Nat.le_of_ble_eq_true rfl) ⟨(Nat.le_of_ble_eq_true rfl), (Nat.le_of_ble_eq_true rfl)⟩ ⟨rfl, rfl⟩ ⟨(Nat.le_of_ble_eq_true rfl), (Nat.le_of_ble_eq_true rfl)⟩ dX0_countOrders_2 (fun b1 h => ?_)
  refine j_lstore_n (pc := 5) (lv' := [(3, .long b1), (0, .ref a_o), (1, .int x1), (2, .int x2)]) dX0_countOrders_5 rfl (Nat.le_of_ble_eq_true rfl) rfl ?_
  refine j_iconst (pc := 6) dX0_countOrders_6 ic_1 ?_
  refine j_iload_n (pc := 7) 3 dX0_countOrders_7 rfl rfl ?_
  refine j_S0 (pc := 8) (Kc := K_X3_lacing) (As := [.int (1 : Int32), .int x2]) (rest := []) h c_X3_lacing q_X3_lacing m2_185 rfl rfl (Nat.le_of_ble_eq_true rfl) ⟨(Nat.le_of_ble_eq_true rfl), (Nat.le_of_ble_eq_true rfl)⟩ ⟨rfl, rfl⟩ ⟨(Nat.le_of_ble_eq_true rfl), (Nat.le_of_ble_eq_true rfl)⟩ dX0_countOrders_8 (fun b2 h => ?_)
  refine j_lstore (pc := 11) (lv' := [(5, .long b2), (3, .long b1), (0, .ref a_o), (1, .int x1), (2, .int x2)]) dX0_countOrders_11 (Nat.le_of_ble_eq_true rfl) rfl ?_
  refine j_aload_n (pc := 13) 2 dX0_countOrders_13 rfl rfl ?_
  refine j_get (pc := 14) (v := .ref a_o_found) 0 2 rfl rfl (Nat.le_of_ble_eq_true rfl) iwX0 m1_110 rfl dX0_countOrders_14 ?_
  refine j_iconst (pc := 17) dX0_countOrders_17 ic_0 ?_
  refine j_iload_n (pc := 18) 4 dX0_countOrders_18 rfl rfl ?_
  refine j_S0 (pc := 19) (Kc := K_X4_inOrder) (As := [.int x2]) (rest := [.int (0 : Int32), .ref a_o_found]) h c_X4_inOrder q_X4_inOrder m2_186 rfl rfl (Nat.le_of_ble_eq_true rfl) ⟨(Nat.le_of_ble_eq_true rfl), (Nat.le_of_ble_eq_true rfl)⟩ ⟨rfl, rfl⟩ ⟨(Nat.le_of_ble_eq_true rfl), (Nat.le_of_ble_eq_true rfl)⟩ dX0_countOrders_19 (fun b3 h => ?_)
  refine j_last (pc := 22) (w' := [jO a_o 0 [.ref a_o_stepsFrom, .ref a_o_pairTree, .ref a_o_found], jJ E a_o_found 127 (vp_updL f_o_found (0 : Int32).toNatClampNeg b3)]) 1 rfl dX0_countOrders_22 h rfl (fun h => ?_)
  refine j_iconst (pc := 23) dX0_countOrders_23 ic_1 ?_
  refine j_istore (pc := 24) (lv' := [(7, .int (1 : Int32)), (5, .long b2), (3, .long b1), (0, .ref a_o), (1, .int x1), (2, .int x2)]) dX0_countOrders_24 (Nat.le_of_ble_eq_true rfl) rfl ?_
  refine j_iconst (pc := 26) dX0_countOrders_26 ic_0 ?_
  refine j_istore (pc := 27) (lv' := [(8, .int (0 : Int32)), (7, .int (1 : Int32)), (5, .long b2), (3, .long b1), (0, .ref a_o), (1, .int x1), (2, .int x2)]) dX0_countOrders_27 (Nat.le_of_ble_eq_true rfl) rfl ?_
  refine j_iconst (pc := 29) dX0_countOrders_29 ic_0 ?_
  refine j_istore (pc := 30) (lv' := [(9, .int (0 : Int32)), (8, .int (0 : Int32)), (7, .int (1 : Int32)), (5, .long b2), (3, .long b1), (0, .ref a_o), (1, .int x1), (2, .int x2)]) dX0_countOrders_30 (Nat.le_of_ble_eq_true rfl) rfl ?_
  exact j_sub (lv' := [(0, .ref a_o), (1, .int x1), (2, .int x2), (3, .long b1), (5, .long b2), (7, .int (1 : Int32)), (8, .int (0 : Int32)), (9, .int (0 : Int32))]) [5, 6, 7, 4, 3, 2, 1, 0] rfl (w_X0_countOrders_32 _ _ _ _ _ _ _ u h)
set_option maxRecDepth 20000 in
theorem w_X4_risingRows_36 {l : Launch} {E : jE} {F : Nat} {x0 : Int64} {x2 : Int32} : ∀ (n : Nat) (x3 : Int64) (x5 : Int32) (x6 : Int32) (u : Int32), g_X4_risingRows_36 F x0 x2 n x3 x5 x6 = some u → jT l E K_X4_risingRows 0 0 36 [(2, .int x2), (3, .long x3), (5, .int x5), (6, .int x6)] [] [] (jd (some (.int u)) []) := by
  intro n
  induction n with
  | zero =>
    intro x3 x5 x6 u h
    rw [g_X4_risingRows_36] at h
    cases h
  | succ n ih =>
    intro x3 x5 x6 u h
    rw [g_X4_risingRows_36] at h
    refine j_iload (pc := 36) 3 dX4_risingRows_36 rfl ?_
    refine j_iconst (pc := 38) dX4_risingRows_38 ic_1 ?_
    refine j_iadd (pc := 39) dX4_risingRows_39 ?_
    refine j_iload_n (pc := 40) 0 dX4_risingRows_40 rfl rfl ?_
    refine j_icmp_ge (pc := 41) (tgt := 70) dX4_risingRows_41 (by decide) h (fun h => ?_) (fun h => ?_)
    · refine j_iload (pc := 70) 2 dX4_risingRows_70 rfl ?_
      cases h
      exact j_iret (pc := 72) rfl dX4_risingRows_72 (Nat.le_of_ble_eq_true rfl) (Nat.le_of_ble_eq_true rfl) (jd_i rfl rfl)
    · refine j_lload_n (pc := 44) 1 dX4_risingRows_44 rfl rfl ?_
      refine j_iload (pc := 45) 3 dX4_risingRows_45 rfl ?_
      refine j_iconst (pc := 47) dX4_risingRows_47 ic_1 ?_
      refine j_iadd (pc := 48) dX4_risingRows_48 ?_
      refine j_S0 (pc := 49) (Kc := K_X4_cardAt) (As := [.long x3, .int (x6 + (1 : Int32))]) (rest := []) h c_X4_cardAt q_X4_cardAt m1_179 rfl rfl (Nat.le_of_ble_eq_true rfl) ⟨(Nat.le_of_ble_eq_true rfl), (Nat.le_of_ble_eq_true rfl)⟩ ⟨rfl, rfl⟩ ⟨(Nat.le_of_ble_eq_true rfl), (Nat.le_of_ble_eq_true rfl)⟩ dX4_risingRows_49 (fun b1 h => ?_)
      refine j_lload_n (pc := 52) 1 dX4_risingRows_52 rfl rfl ?_
      refine j_iload (pc := 53) 3 dX4_risingRows_53 rfl ?_
      refine j_S0 (pc := 55) (Kc := K_X4_cardAt) (As := [.long x3, .int x6]) (rest := [.int b1]) h c_X4_cardAt q_X4_cardAt m1_179 rfl rfl (Nat.le_of_ble_eq_true rfl) ⟨(Nat.le_of_ble_eq_true rfl), (Nat.le_of_ble_eq_true rfl)⟩ ⟨rfl, rfl⟩ ⟨(Nat.le_of_ble_eq_true rfl), (Nat.le_of_ble_eq_true rfl)⟩ dX4_risingRows_55 (fun b2 h => ?_)
      refine j_icmp_ge (pc := 58) (tgt := 64) dX4_risingRows_58 (by decide) h (fun h => ?_) (fun h => ?_)
      · refine j_iinc (pc := 64) (j := 3) (lv' := [(6, .int (x6 + (1 : Int32))), (2, .int x2), (3, .long x3), (5, .int x5)]) dX4_risingRows_64 rfl (congrArg (fun z => x6 + z) ic_1) (Nat.le_of_ble_eq_true rfl) rfl ?_
        refine j_goto (pc := 67) (tgt := 36) dX4_risingRows_67 (by decide) ?_
        exact j_sub (lv' := [(2, .int x2), (3, .long x3), (5, .int x5), (6, .int (x6 + (1 : Int32)))]) [1, 2, 3, 0] rfl (ih _ _ _ u h)
      · refine j_iinc (pc := 61) (j := 2) (lv' := [(5, .int (x5 + (1 : Int32))), (2, .int x2), (3, .long x3), (6, .int x6)]) dX4_risingRows_61 rfl (congrArg (fun z => x5 + z) ic_1) (Nat.le_of_ble_eq_true rfl) rfl ?_
        refine j_iinc (pc := 64) (j := 3) (lv' := [(6, .int (x6 + (1 : Int32))), (5, .int (x5 + (1 : Int32))), (2, .int x2), (3, .long x3)]) dX4_risingRows_64 rfl (congrArg (fun z => x6 + z) ic_1) (Nat.le_of_ble_eq_true rfl) rfl ?_
        refine j_goto (pc := 67) (tgt := 36) dX4_risingRows_67 (by decide) ?_
        exact j_sub (lv' := [(2, .int x2), (3, .long x3), (5, .int (x5 + (1 : Int32))), (6, .int (x6 + (1 : Int32)))]) [2, 3, 1, 0] rfl (ih _ _ _ u h)
set_option maxRecDepth 20000 in
theorem w_X4_risingRows_5 {l : Launch} {E : jE} {F : Nat} {x0 : Int64} {x2 : Int32} : ∀ (n : Nat) (x3 : Int64) (x5 : Int32) (u : Int32), g_X4_risingRows_5 F x0 x2 n x3 x5 = some u → jT l E K_X4_risingRows 0 0 5 [(0, .long x0), (2, .int x2), (3, .long x3), (5, .int x5)] [] [] (jd (some (.int u)) []) := by
  intro n
  induction n with
  | zero =>
    intro x3 x5 u h
    rw [g_X4_risingRows_5] at h
    cases h
  | succ n ih =>
    intro x3 x5 u h
    rw [g_X4_risingRows_5] at h
    refine j_iload (pc := 5) 3 dX4_risingRows_5 rfl ?_
    refine j_iload_n (pc := 7) 1 dX4_risingRows_7 rfl rfl ?_
    refine j_icmp_ge (pc := 8) (tgt := 30) dX4_risingRows_8 (by decide) h (fun h => ?_) (fun h => ?_)
    · refine j_iconst (pc := 30) dX4_risingRows_30 ic_1 ?_
      refine j_istore (pc := 31) (lv' := [(5, .int (1 : Int32)), (0, .long x0), (2, .int x2), (3, .long x3)]) dX4_risingRows_31 (Nat.le_of_ble_eq_true rfl) rfl ?_
      refine j_iconst (pc := 33) dX4_risingRows_33 ic_0 ?_
      refine j_istore (pc := 34) (lv' := [(6, .int (0 : Int32)), (5, .int (1 : Int32)), (0, .long x0), (2, .int x2), (3, .long x3)]) dX4_risingRows_34 (Nat.le_of_ble_eq_true rfl) rfl ?_
      exact j_sub (lv' := [(2, .int x2), (3, .long x3), (5, .int (1 : Int32)), (6, .int (0 : Int32))]) [3, 4, 1, 0] rfl (w_X4_risingRows_36 _ _ _ _ u h)
    · refine j_lload_n (pc := 11) 2 dX4_risingRows_11 rfl rfl ?_
      refine j_lload_n (pc := 12) 0 dX4_risingRows_12 rfl rfl ?_
      refine j_iload (pc := 13) 3 dX4_risingRows_13 rfl ?_
      refine j_S0 (pc := 15) (Kc := K_X4_cardAt) (As := [.long x0, .int x5]) (rest := [.long x3]) h c_X4_cardAt q_X4_cardAt m1_179 rfl rfl (Nat.le_of_ble_eq_true rfl) ⟨(Nat.le_of_ble_eq_true rfl), (Nat.le_of_ble_eq_true rfl)⟩ ⟨rfl, rfl⟩ ⟨(Nat.le_of_ble_eq_true rfl), (Nat.le_of_ble_eq_true rfl)⟩ dX4_risingRows_15 (fun b1 h => ?_)
      refine j_iload (pc := 18) 3 dX4_risingRows_18 rfl ?_
      refine j_S0 (pc := 20) (Kc := K_X4_with) (As := [.long x3, .int b1, .int x5]) (rest := []) h c_X4_with q_X4_with m1_140 rfl rfl (Nat.le_of_ble_eq_true rfl) ⟨(Nat.le_of_ble_eq_true rfl), (Nat.le_of_ble_eq_true rfl)⟩ ⟨rfl, rfl⟩ ⟨(Nat.le_of_ble_eq_true rfl), (Nat.le_of_ble_eq_true rfl)⟩ dX4_risingRows_20 (fun b2 h => ?_)
      refine j_lstore_n (pc := 23) (lv' := [(3, .long b2), (0, .long x0), (2, .int x2), (5, .int x5)]) dX4_risingRows_23 rfl (Nat.le_of_ble_eq_true rfl) rfl ?_
      refine j_iinc (pc := 24) (j := 3) (lv' := [(5, .int (x5 + (1 : Int32))), (3, .long b2), (0, .long x0), (2, .int x2)]) dX4_risingRows_24 rfl (congrArg (fun z => x5 + z) ic_1) (Nat.le_of_ble_eq_true rfl) rfl ?_
      refine j_goto (pc := 27) (tgt := 5) dX4_risingRows_27 (by decide) ?_
      exact j_sub (lv' := [(0, .long x0), (2, .int x2), (3, .long b2), (5, .int (x5 + (1 : Int32)))]) [2, 3, 1, 0] rfl (ih _ _ u h)
set_option maxRecDepth 20000 in
theorem c_X4_risingRows {l : Launch} {E : jE} {F : Nat} {x0 : Int64} {x2 : Int32} : ∀ u : Int32, f_X4_risingRows F x0 x2 = some u → jM l E K_X4_risingRows [.long x0, .int x2] [] (jd (some (.int u)) []) := by
  intro u h
  unfold f_X4_risingRows at h
  refine j_met [(0, .long x0), (2, .int x2)] (by decide +kernel) (Nat.le_of_ble_eq_true rfl) rfl ?_
  refine j_lconst (pc := 0) dX4_risingRows_0 lc_0 ?_
  refine j_lstore_n (pc := 1) (lv' := [(3, .long (0 : Int64)), (0, .long x0), (2, .int x2)]) dX4_risingRows_1 rfl (Nat.le_of_ble_eq_true rfl) rfl ?_
  refine j_iconst (pc := 2) dX4_risingRows_2 ic_0 ?_
  refine j_istore (pc := 3) (lv' := [(5, .int (0 : Int32)), (3, .long (0 : Int64)), (0, .long x0), (2, .int x2)]) dX4_risingRows_3 (Nat.le_of_ble_eq_true rfl) rfl ?_
  exact j_sub (lv' := [(0, .long x0), (2, .int x2), (3, .long (0 : Int64)), (5, .int (0 : Int32))]) [2, 3, 1, 0] rfl (w_X4_risingRows_5 _ _ _ u h)
set_option maxRecDepth 20000 in
theorem c_X5_areUnlike {l : Launch} {E : jE} {F : Nat} {x1 : Int32} {x2 : Int32} {v_o_colours : Int32} {a_o : Nat} {w_o_cards : Int32} {w_o_acts : Int32} {w_o_deal : Int64} {w_o_cardsAreFixed : Int32} : ∀ u : Int32, f_X5_areUnlike F x1 x2 v_o_colours = some u → jM l E K_X5_areUnlike [.ref a_o, .int x1, .int x2] [jO a_o 2 [.int w_o_cards, .int v_o_colours, .int w_o_acts, .long w_o_deal, .int w_o_cardsAreFixed]] (jd (some (.int u)) [jO a_o 2 [.int w_o_cards, .int v_o_colours, .int w_o_acts, .long w_o_deal, .int w_o_cardsAreFixed]]) := by
  intro u h
  unfold f_X5_areUnlike at h
  refine j_met [(0, .ref a_o), (1, .int x1), (2, .int x2)] (by decide +kernel) (Nat.le_of_ble_eq_true rfl) rfl ?_
  refine j_aload_n (pc := 0) 0 dX5_areUnlike_0 rfl rfl ?_
  refine j_iload_n (pc := 1) 1 dX5_areUnlike_1 rfl rfl ?_
  refine j_V (pc := 2) (q0 := 0) (Kc := K_X5_colourOf) (As := [.int x1]) (rest := []) (wc := [jO a_o 2 [.int w_o_cards, .int v_o_colours, .int w_o_acts, .long w_o_deal, .int w_o_cardsAreFixed]]) (w' := fun b1 => [jO a_o 2 [.int w_o_cards, .int v_o_colours, .int w_o_acts, .long w_o_deal, .int w_o_cardsAreFixed]]) (st1 := fun b1 => [.int b1]) [0] rfl rfl rfl h c_X5_colourOf q_X5_colourOf m2_207 rfl rfl (Nat.le_of_ble_eq_true rfl) ⟨(Nat.le_of_ble_eq_true rfl), (Nat.le_of_ble_eq_true rfl)⟩ ⟨rfl, rfl⟩ ⟨(Nat.le_of_ble_eq_true rfl), (Nat.le_of_ble_eq_true rfl)⟩ dX5_areUnlike_2 rfl (by decide) (fun _ => rfl) (fun _ => rfl) (fun _ => rfl) (fun b1 h => ?_)
  refine j_aload_n (pc := 5) 0 dX5_areUnlike_5 rfl rfl ?_
  refine j_iload_n (pc := 6) 2 dX5_areUnlike_6 rfl rfl ?_
  refine j_V (pc := 7) (q0 := 0) (Kc := K_X5_colourOf) (As := [.int x2]) (rest := [.int b1]) (wc := [jO a_o 2 [.int w_o_cards, .int v_o_colours, .int w_o_acts, .long w_o_deal, .int w_o_cardsAreFixed]]) (w' := fun b2 => [jO a_o 2 [.int w_o_cards, .int v_o_colours, .int w_o_acts, .long w_o_deal, .int w_o_cardsAreFixed]]) (st1 := fun b2 => [.int b2, .int b1]) [0] rfl rfl rfl h c_X5_colourOf q_X5_colourOf m2_207 rfl rfl (Nat.le_of_ble_eq_true rfl) ⟨(Nat.le_of_ble_eq_true rfl), (Nat.le_of_ble_eq_true rfl)⟩ ⟨rfl, rfl⟩ ⟨(Nat.le_of_ble_eq_true rfl), (Nat.le_of_ble_eq_true rfl)⟩ dX5_areUnlike_7 rfl (by decide) (fun _ => rfl) (fun _ => rfl) (fun _ => rfl) (fun b2 h => ?_)
  refine j_icmp_eq (pc := 10) (tgt := 17) dX5_areUnlike_10 (by decide) h (fun h => ?_) (fun h => ?_)
  · refine j_iconst (pc := 17) dX5_areUnlike_17 ic_0 ?_
    cases h
    exact j_zret (pc := 18) rfl (Or.inl rfl) dX5_areUnlike_18 (Nat.le_of_ble_eq_true rfl) (Nat.le_of_ble_eq_true rfl) (jd_i rfl rfl)
  · refine j_iconst (pc := 13) dX5_areUnlike_13 ic_1 ?_
    refine j_goto (pc := 14) (tgt := 18) dX5_areUnlike_14 (by decide) ?_
    cases h
    exact j_zret (pc := 18) rfl (Or.inr rfl) dX5_areUnlike_18 (Nat.le_of_ble_eq_true rfl) (Nat.le_of_ble_eq_true rfl) (jd_i rfl rfl)
set_option maxRecDepth 20000 in
theorem w_X2_dealtOff_6 {l : Launch} {E : jE} {F : Nat} {x0 : Int64} {x2 : Int32} {x3 : Int32} : ∀ (n : Nat) (x4 : Int64) (x6 : Int32) (u : Int64), g_X2_dealtOff_6 F x0 x2 x3 n x4 x6 = some u → jT l E K_X2_dealtOff 0 0 6 [(0, .long x0), (2, .int x2), (3, .int x3), (4, .long x4), (6, .int x6)] [] [] (jd (some (.long u)) []) := by
  intro n
  induction n with
  | zero =>
    intro x4 x6 u h
    rw [g_X2_dealtOff_6] at h
    cases h
  | succ n ih =>
    intro x4 x6 u h
    rw [g_X2_dealtOff_6] at h
    refine j_iload (pc := 6) 4 dX2_dealtOff_6 rfl ?_
    refine j_iload_n (pc := 8) 2 dX2_dealtOff_8 rfl rfl ?_
    refine j_icmp_ge (pc := 9) (tgt := 52) dX2_dealtOff_9 (by decide) h (fun h => ?_) (fun h => ?_)
    · refine j_lload (pc := 52) 3 dX2_dealtOff_52 rfl ?_
      cases h
      exact j_lret (pc := 54) rfl dX2_dealtOff_54 (Nat.le_of_ble_eq_true rfl) (Nat.le_of_ble_eq_true rfl) (jd_i rfl rfl)
    · refine j_iload (pc := 12) 4 dX2_dealtOff_12 rfl ?_
      refine j_iload_n (pc := 14) 1 dX2_dealtOff_14 rfl rfl ?_
      refine j_icmp_ge (pc := 15) (tgt := 27) dX2_dealtOff_15 (by decide) h (fun h => ?_) (fun h => ?_)
      · refine j_iload (pc := 27) 4 dX2_dealtOff_27 rfl ?_
        refine j_istore (pc := 29) (lv' := [(7, .int x6), (0, .long x0), (2, .int x2), (3, .int x3), (4, .long x4), (6, .int x6)]) dX2_dealtOff_29 (Nat.le_of_ble_eq_true rfl) rfl ?_
        refine j_lload (pc := 31) 4 dX2_dealtOff_31 rfl ?_
        refine j_iload (pc := 33) 5 dX2_dealtOff_33 rfl ?_
        refine j_lload_n (pc := 35) 1 dX2_dealtOff_35 rfl rfl ?_
        refine j_iload (pc := 36) 0 dX2_dealtOff_36 rfl ?_
        refine j_S0 (pc := 38) (Kc := K_X4_cardAt) (As := [.long x0, .int x6]) (rest := [.int x6, .long x4]) h c_X4_cardAt q_X4_cardAt m2_219 rfl rfl (Nat.le_of_ble_eq_true rfl) ⟨(Nat.le_of_ble_eq_true rfl), (Nat.le_of_ble_eq_true rfl)⟩ ⟨rfl, rfl⟩ ⟨(Nat.le_of_ble_eq_true rfl), (Nat.le_of_ble_eq_true rfl)⟩ dX2_dealtOff_38 (fun b1 h => ?_)
        refine j_S0 (pc := 41) (Kc := K_X4_with) (As := [.long x4, .int x6, .int b1]) (rest := []) h c_X4_with q_X4_with m2_220 rfl rfl (Nat.le_of_ble_eq_true rfl) ⟨(Nat.le_of_ble_eq_true rfl), (Nat.le_of_ble_eq_true rfl)⟩ ⟨rfl, rfl⟩ ⟨(Nat.le_of_ble_eq_true rfl), (Nat.le_of_ble_eq_true rfl)⟩ dX2_dealtOff_41 (fun b2 h => ?_)
        refine j_lstore (pc := 44) (lv' := [(4, .long b2), (7, .int x6), (0, .long x0), (2, .int x2), (3, .int x3), (6, .int x6)]) dX2_dealtOff_44 (Nat.le_of_ble_eq_true rfl) rfl ?_
        refine j_iinc (pc := 46) (j := 5) (lv' := [(6, .int (x6 + (1 : Int32))), (4, .long b2), (7, .int x6), (0, .long x0), (2, .int x2), (3, .int x3)]) dX2_dealtOff_46 rfl (congrArg (fun z => x6 + z) ic_1) (Nat.le_of_ble_eq_true rfl) rfl ?_
        refine j_goto (pc := 49) (tgt := 6) dX2_dealtOff_49 (by decide) ?_
        exact j_sub (lv' := [(0, .long x0), (2, .int x2), (3, .int x3), (4, .long b2), (6, .int (x6 + (1 : Int32)))]) [3, 4, 5, 1, 0] rfl (ih _ _ u h)
      · refine j_iload_n (pc := 18) 1 dX2_dealtOff_18 rfl rfl ?_
        refine j_iconst (pc := 19) dX2_dealtOff_19 ic_1 ?_
        refine j_isub (pc := 20) dX2_dealtOff_20 ?_
        refine j_iload (pc := 21) 4 dX2_dealtOff_21 rfl ?_
        refine j_isub (pc := 23) dX2_dealtOff_23 ?_
        refine j_goto (pc := 24) (tgt := 29) dX2_dealtOff_24 (by decide) ?_
        refine j_istore (pc := 29) (lv' := [(7, .int ((x2 - (1 : Int32)) - x6)), (0, .long x0), (2, .int x2), (3, .int x3), (4, .long x4), (6, .int x6)]) dX2_dealtOff_29 (Nat.le_of_ble_eq_true rfl) rfl ?_
        refine j_lload (pc := 31) 4 dX2_dealtOff_31 rfl ?_
        refine j_iload (pc := 33) 5 dX2_dealtOff_33 rfl ?_
        refine j_lload_n (pc := 35) 1 dX2_dealtOff_35 rfl rfl ?_
        refine j_iload (pc := 36) 0 dX2_dealtOff_36 rfl ?_
        refine j_S0 (pc := 38) (Kc := K_X4_cardAt) (As := [.long x0, .int ((x2 - (1 : Int32)) - x6)]) (rest := [.int x6, .long x4]) h c_X4_cardAt q_X4_cardAt m2_219 rfl rfl (Nat.le_of_ble_eq_true rfl) ⟨(Nat.le_of_ble_eq_true rfl), (Nat.le_of_ble_eq_true rfl)⟩ ⟨rfl, rfl⟩ ⟨(Nat.le_of_ble_eq_true rfl), (Nat.le_of_ble_eq_true rfl)⟩ dX2_dealtOff_38 (fun b3 h => ?_)
        refine j_S0 (pc := 41) (Kc := K_X4_with) (As := [.long x4, .int x6, .int b3]) (rest := []) h c_X4_with q_X4_with m2_220 rfl rfl (Nat.le_of_ble_eq_true rfl) ⟨(Nat.le_of_ble_eq_true rfl), (Nat.le_of_ble_eq_true rfl)⟩ ⟨rfl, rfl⟩ ⟨(Nat.le_of_ble_eq_true rfl), (Nat.le_of_ble_eq_true rfl)⟩ dX2_dealtOff_41 (fun b4 h => ?_)
        refine j_lstore (pc := 44) (lv' := [(4, .long b4), (7, .int ((x2 - (1 : Int32)) - x6)), (0, .long x0), (2, .int x2), (3, .int x3), (6, .int x6)]) dX2_dealtOff_44 (Nat.le_of_ble_eq_true rfl) rfl ?_
        refine j_iinc (pc := 46) (j := 5) (lv' := [(6, .int (x6 + (1 : Int32))), (4, .long b4), (7, .int ((x2 - (1 : Int32)) - x6)), (0, .long x0), (2, .int x2), (3, .int x3)]) dX2_dealtOff_46 rfl (congrArg (fun z => x6 + z) ic_1) (Nat.le_of_ble_eq_true rfl) rfl ?_
        refine j_goto (pc := 49) (tgt := 6) dX2_dealtOff_49 (by decide) ?_
        exact j_sub (lv' := [(0, .long x0), (2, .int x2), (3, .int x3), (4, .long b4), (6, .int (x6 + (1 : Int32)))]) [3, 4, 5, 1, 0] rfl (ih _ _ u h)
set_option maxRecDepth 20000 in
theorem c_X2_dealtOff {l : Launch} {E : jE} {F : Nat} {x0 : Int64} {x2 : Int32} {x3 : Int32} : ∀ u : Int64, f_X2_dealtOff F x0 x2 x3 = some u → jM l E K_X2_dealtOff [.long x0, .int x2, .int x3] [] (jd (some (.long u)) []) := by
  intro u h
  unfold f_X2_dealtOff at h
  refine j_met [(0, .long x0), (2, .int x2), (3, .int x3)] (by decide +kernel) (Nat.le_of_ble_eq_true rfl) rfl ?_
  refine j_lconst (pc := 0) dX2_dealtOff_0 lc_0 ?_
  refine j_lstore (pc := 1) (lv' := [(4, .long (0 : Int64)), (0, .long x0), (2, .int x2), (3, .int x3)]) dX2_dealtOff_1 (Nat.le_of_ble_eq_true rfl) rfl ?_
  refine j_iconst (pc := 3) dX2_dealtOff_3 ic_0 ?_
  refine j_istore (pc := 4) (lv' := [(6, .int (0 : Int32)), (4, .long (0 : Int64)), (0, .long x0), (2, .int x2), (3, .int x3)]) dX2_dealtOff_4 (Nat.le_of_ble_eq_true rfl) rfl ?_
  exact j_sub (lv' := [(0, .long x0), (2, .int x2), (3, .int x3), (4, .long (0 : Int64)), (6, .int (0 : Int32))]) [2, 3, 4, 1, 0] rfl (w_X2_dealtOff_6 _ _ _ u h)
set_option maxRecDepth 20000 in
theorem c_X2_areUnlikeAt {l : Launch} {E : jE} {F : Nat} {x1 : Int64} {x3 : Int32} {x4 : Int32} {v_p0_colours : Int32} {a_p0 : Nat} {w_p0_cards : Int32} {w_p0_acts : Int32} {w_p0_deal : Int64} {w_p0_cardsAreFixed : Int32} : ∀ u : Int32, f_X2_areUnlikeAt F x1 x3 x4 v_p0_colours = some u → jM l E K_X2_areUnlikeAt [.ref a_p0, .long x1, .int x3, .int x4] [jO a_p0 2 [.int w_p0_cards, .int v_p0_colours, .int w_p0_acts, .long w_p0_deal, .int w_p0_cardsAreFixed]] (jd (some (.int u)) [jO a_p0 2 [.int w_p0_cards, .int v_p0_colours, .int w_p0_acts, .long w_p0_deal, .int w_p0_cardsAreFixed]]) := by
  intro u h
  unfold f_X2_areUnlikeAt at h
  refine j_met [(0, .ref a_p0), (1, .long x1), (3, .int x3), (4, .int x4)] (by decide +kernel) (Nat.le_of_ble_eq_true rfl) rfl ?_
  refine j_aload_n (pc := 0) 0 dX2_areUnlikeAt_0 rfl rfl ?_
  refine j_lload_n (pc := 1) 1 dX2_areUnlikeAt_1 rfl rfl ?_
  refine j_iload_n (pc := 2) 2 dX2_areUnlikeAt_2 rfl rfl ?_
  refine j_S0 (pc := 3) (Kc := K_X4_cardAt) (As := [.long x1, .int x3]) (rest := [.ref a_p0]) h c_X4_cardAt q_X4_cardAt m2_219 rfl rfl (Nat.le_of_ble_eq_true rfl) ⟨(Nat.le_of_ble_eq_true rfl), (Nat.le_of_ble_eq_true rfl)⟩ ⟨rfl, rfl⟩ ⟨(Nat.le_of_ble_eq_true rfl), (Nat.le_of_ble_eq_true rfl)⟩ dX2_areUnlikeAt_3 (fun b1 h => ?_)
  refine j_lload_n (pc := 6) 1 dX2_areUnlikeAt_6 rfl rfl ?_
  refine j_iload (pc := 7) 3 dX2_areUnlikeAt_7 rfl ?_
  refine j_S0 (pc := 9) (Kc := K_X4_cardAt) (As := [.long x1, .int x4]) (rest := [.int b1, .ref a_p0]) h c_X4_cardAt q_X4_cardAt m2_219 rfl rfl (Nat.le_of_ble_eq_true rfl) ⟨(Nat.le_of_ble_eq_true rfl), (Nat.le_of_ble_eq_true rfl)⟩ ⟨rfl, rfl⟩ ⟨(Nat.le_of_ble_eq_true rfl), (Nat.le_of_ble_eq_true rfl)⟩ dX2_areUnlikeAt_9 (fun b2 h => ?_)
  refine j_V (pc := 12) (q0 := 0) (Kc := K_X5_areUnlike) (As := [.int b1, .int b2]) (rest := []) (wc := [jO a_p0 2 [.int w_p0_cards, .int v_p0_colours, .int w_p0_acts, .long w_p0_deal, .int w_p0_cardsAreFixed]]) (w' := fun b3 => [jO a_p0 2 [.int w_p0_cards, .int v_p0_colours, .int w_p0_acts, .long w_p0_deal, .int w_p0_cardsAreFixed]]) (st1 := fun b3 => [.int b3]) [0] rfl rfl rfl h c_X5_areUnlike q_X5_areUnlike m2_228 rfl rfl (Nat.le_of_ble_eq_true rfl) ⟨(Nat.le_of_ble_eq_true rfl), (Nat.le_of_ble_eq_true rfl)⟩ ⟨rfl, rfl⟩ ⟨(Nat.le_of_ble_eq_true rfl), (Nat.le_of_ble_eq_true rfl)⟩ dX2_areUnlikeAt_12 rfl (by decide) (fun _ => rfl) (fun _ => rfl) (fun _ => rfl) (fun b3 h => ?_)
  obtain ⟨hz, h⟩ := jgz_s h
  cases h
  exact j_zret (pc := 15) rfl hz dX2_areUnlikeAt_15 (Nat.le_of_ble_eq_true rfl) (Nat.le_of_ble_eq_true rfl) (jd_i rfl rfl)
set_option maxRecDepth 20000 in
theorem c_X2_waysOf {l : Launch} {E : jE} {F : Nat} {x1 : Int32} {x2 : Int32} {f_o_ways : Nat → Int32} {a_o a_o_ways : Nat} : ∀ u : Int32, f_X2_waysOf F x1 x2 f_o_ways = some u → jM l E K_X2_waysOf [.ref a_o, .int x1, .int x2] [jO a_o 1 [.ref a_o_ways], jI E a_o_ways 289 f_o_ways] (jd (some (.int u)) [jO a_o 1 [.ref a_o_ways], jI E a_o_ways 289 f_o_ways]) := by
  intro u h
  unfold f_X2_waysOf at h
  refine j_met [(0, .ref a_o), (1, .int x1), (2, .int x2)] (by decide +kernel) (Nat.le_of_ble_eq_true rfl) rfl ?_
  refine j_iload_n (pc := 0) 1 dX2_waysOf_0 rfl rfl ?_
  refine j_iconst (pc := 1) dX2_waysOf_1 ic_0 ?_
  refine j_bipush (pc := 2) dX2_waysOf_2 bc_16 ?_
  refine j_SN (pc := 4) (Kc := K_X9_within) (As := [.int x1, .int (0 : Int32), .int (16 : Int32)]) (rest := []) RX9 h c_X9_within q_X9_within (List.mem_of_getElem? (i := 14) rfl) rfl rfl (Nat.le_of_ble_eq_true rfl) ⟨(Nat.le_of_ble_eq_true rfl), (Nat.le_of_ble_eq_true rfl)⟩ ⟨rfl, rfl⟩ ⟨(Nat.le_of_ble_eq_true rfl), (Nat.le_of_ble_eq_true rfl)⟩ dX2_waysOf_4 (fun b1 h => ?_)
  refine j_if_eq (pc := 7) (tgt := 34) dX2_waysOf_7 (by decide) h (fun h => ?_) (fun h => ?_)
  · refine j_iconst (pc := 34) dX2_waysOf_34 ic_0 ?_
    cases h
    exact j_iret (pc := 35) rfl dX2_waysOf_35 (Nat.le_of_ble_eq_true rfl) (Nat.le_of_ble_eq_true rfl) (jd_i rfl rfl)
  · refine j_iload_n (pc := 10) 2 dX2_waysOf_10 rfl rfl ?_
    refine j_iconst (pc := 11) dX2_waysOf_11 ic_0 ?_
    refine j_bipush (pc := 12) dX2_waysOf_12 bc_16 ?_
    refine j_SN (pc := 14) (Kc := K_X9_within) (As := [.int x2, .int (0 : Int32), .int (16 : Int32)]) (rest := []) RX9 h c_X9_within q_X9_within (List.mem_of_getElem? (i := 14) rfl) rfl rfl (Nat.le_of_ble_eq_true rfl) ⟨(Nat.le_of_ble_eq_true rfl), (Nat.le_of_ble_eq_true rfl)⟩ ⟨rfl, rfl⟩ ⟨(Nat.le_of_ble_eq_true rfl), (Nat.le_of_ble_eq_true rfl)⟩ dX2_waysOf_14 (fun b2 h => ?_)
    refine j_if_eq (pc := 17) (tgt := 34) dX2_waysOf_17 (by decide) h (fun h => ?_) (fun h => ?_)
    · refine j_iconst (pc := 34) dX2_waysOf_34 ic_0 ?_
      cases h
      exact j_iret (pc := 35) rfl dX2_waysOf_35 (Nat.le_of_ble_eq_true rfl) (Nat.le_of_ble_eq_true rfl) (jd_i rfl rfl)
    · refine j_aload_n (pc := 20) 0 dX2_waysOf_20 rfl rfl ?_
      refine j_get (pc := 21) (v := .ref a_o_ways) 0 0 rfl rfl (Nat.le_of_ble_eq_true rfl) iwX2 m1_124 rfl dX2_waysOf_21 ?_
      refine j_bipush (pc := 24) dX2_waysOf_24 bc_17 ?_
      refine j_iload_n (pc := 26) 1 dX2_waysOf_26 rfl rfl ?_
      refine j_imul (pc := 27) dX2_waysOf_27 ?_
      refine j_iload_n (pc := 28) 2 dX2_waysOf_28 rfl rfl ?_
      refine j_iadd (pc := 29) dX2_waysOf_29 ?_
      refine j_iald (pc := 30) 1 rfl dX2_waysOf_30 h (fun h => ?_)
      refine j_goto (pc := 31) (tgt := 35) dX2_waysOf_31 (by decide) ?_
      cases h
      exact j_iret (pc := 35) rfl dX2_waysOf_35 (Nat.le_of_ble_eq_true rfl) (Nat.le_of_ble_eq_true rfl) (jd_i rfl rfl)
set_option maxRecDepth 20000 in
theorem w_X2_waysByLastPair_95 {l : Launch} {E : jE} {F : Nat} {x2 : Int64} {x4 : Int32} {x5 : Int32} {x6 : Int32} {v_p1_colours : Int32} {f_o_ways : Nat → Int32} {a_o a_o_ways a_p1 : Nat} {w_p1_cards : Int32} {w_p1_acts : Int32} {w_p1_deal : Int64} {w_p1_cardsAreFixed : Int32} : ∀ (x7 : Int32) (u : Int32), g_X2_waysByLastPair_95 F x2 x4 x5 x6 v_p1_colours f_o_ways x7 = some u → jT l E K_X2_waysByLastPair 0 0 95 [(0, .ref a_o), (1, .ref a_p1), (2, .long x2), (4, .int x4), (5, .int x5), (6, .int x6), (7, .int x7)] [] [jO a_o 1 [.ref a_o_ways], jO a_p1 2 [.int w_p1_cards, .int v_p1_colours, .int w_p1_acts, .long w_p1_deal, .int w_p1_cardsAreFixed], jI E a_o_ways 289 f_o_ways] (jd (some (.int u)) [jO a_o 1 [.ref a_o_ways], jO a_p1 2 [.int w_p1_cards, .int v_p1_colours, .int w_p1_acts, .long w_p1_deal, .int w_p1_cardsAreFixed], jI E a_o_ways 289 f_o_ways]) := by
  intro x7 u h
  unfold g_X2_waysByLastPair_95 at h
  refine j_iload (pc := 95) 4 dX2_waysByLastPair_95 rfl ?_
  refine j_iconst (pc := 97) dX2_waysByLastPair_97 ic_1 ?_
  refine j_icmp_lt (pc := 98) (tgt := 145) dX2_waysByLastPair_98 (by decide) h (fun h => ?_) (fun h => ?_)
  · refine j_iload (pc := 145) 6 dX2_waysByLastPair_145 rfl ?_
    cases h
    exact j_iret (pc := 147) rfl dX2_waysByLastPair_147 (Nat.le_of_ble_eq_true rfl) (Nat.le_of_ble_eq_true rfl) (jd_i rfl rfl)
  · refine j_iload (pc := 101) 5 dX2_waysByLastPair_101 rfl ?_
    refine j_iconst (pc := 103) dX2_waysByLastPair_103 ic_1 ?_
    refine j_icmp_lt (pc := 104) (tgt := 145) dX2_waysByLastPair_104 (by decide) h (fun h => ?_) (fun h => ?_)
    · refine j_iload (pc := 145) 6 dX2_waysByLastPair_145 rfl ?_
      cases h
      exact j_iret (pc := 147) rfl dX2_waysByLastPair_147 (Nat.le_of_ble_eq_true rfl) (Nat.le_of_ble_eq_true rfl) (jd_i rfl rfl)
    · refine j_aload_n (pc := 107) 1 dX2_waysByLastPair_107 rfl rfl ?_
      refine j_lload_n (pc := 108) 2 dX2_waysByLastPair_108 rfl rfl ?_
      refine j_iload (pc := 109) 4 dX2_waysByLastPair_109 rfl ?_
      refine j_iconst (pc := 111) dX2_waysByLastPair_111 ic_1 ?_
      refine j_isub (pc := 112) dX2_waysByLastPair_112 ?_
      refine j_iload (pc := 113) 3 dX2_waysByLastPair_113 rfl ?_
      refine j_iload (pc := 115) 5 dX2_waysByLastPair_115 rfl ?_
      refine j_iadd (pc := 117) dX2_waysByLastPair_117 ?_
      refine j_iconst (pc := 118) dX2_waysByLastPair_118 ic_1 ?_
      refine j_isub (pc := 119) dX2_waysByLastPair_119 ?_
      refine j_S (pc := 120) (Kc := K_X2_areUnlikeAt) (As := [.ref a_p1, .long x2, .int (x5 - (1 : Int32)), .int ((x4 + x6) - (1 : Int32))]) (rest := []) (wc := [jO a_p1 2 [.int w_p1_cards, .int v_p1_colours, .int w_p1_acts, .long w_p1_deal, .int w_p1_cardsAreFixed]]) (w' := fun b1 => [jO a_o 1 [.ref a_o_ways], jO a_p1 2 [.int w_p1_cards, .int v_p1_colours, .int w_p1_acts, .long w_p1_deal, .int w_p1_cardsAreFixed], jI E a_o_ways 289 f_o_ways]) (st1 := fun b1 => [.int b1]) [1] h c_X2_areUnlikeAt q_X2_areUnlikeAt m2_225 rfl rfl (Nat.le_of_ble_eq_true rfl) ⟨(Nat.le_of_ble_eq_true rfl), (Nat.le_of_ble_eq_true rfl)⟩ ⟨rfl, rfl⟩ ⟨(Nat.le_of_ble_eq_true rfl), (Nat.le_of_ble_eq_true rfl)⟩ dX2_waysByLastPair_120 rfl (by decide) (fun _ => rfl) (fun _ => rfl) (fun _ => rfl) (fun b1 h => ?_)
      refine j_if_eq (pc := 123) (tgt := 145) dX2_waysByLastPair_123 (by decide) h (fun h => ?_) (fun h => ?_)
      · refine j_iload (pc := 145) 6 dX2_waysByLastPair_145 rfl ?_
        cases h
        exact j_iret (pc := 147) rfl dX2_waysByLastPair_147 (Nat.le_of_ble_eq_true rfl) (Nat.le_of_ble_eq_true rfl) (jd_i rfl rfl)
      · refine j_iload (pc := 126) 6 dX2_waysByLastPair_126 rfl ?_
        refine j_iconst (pc := 128) dX2_waysByLastPair_128 ic_2 ?_
        refine j_aload_n (pc := 129) 0 dX2_waysByLastPair_129 rfl rfl ?_
        refine j_iload (pc := 130) 4 dX2_waysByLastPair_130 rfl ?_
        refine j_iconst (pc := 132) dX2_waysByLastPair_132 ic_1 ?_
        refine j_isub (pc := 133) dX2_waysByLastPair_133 ?_
        refine j_iload (pc := 134) 5 dX2_waysByLastPair_134 rfl ?_
        refine j_iconst (pc := 136) dX2_waysByLastPair_136 ic_1 ?_
        refine j_isub (pc := 137) dX2_waysByLastPair_137 ?_
        refine j_V (pc := 138) (q0 := 0) (Kc := K_X2_waysOf) (As := [.int (x5 - (1 : Int32)), .int (x6 - (1 : Int32))]) (rest := [.int (2 : Int32), .int x7]) (wc := [jO a_o 1 [.ref a_o_ways], jI E a_o_ways 289 f_o_ways]) (w' := fun b2 => [jO a_o 1 [.ref a_o_ways], jO a_p1 2 [.int w_p1_cards, .int v_p1_colours, .int w_p1_acts, .long w_p1_deal, .int w_p1_cardsAreFixed], jI E a_o_ways 289 f_o_ways]) (st1 := fun b2 => [.int b2, .int (2 : Int32), .int x7]) [0, 2] rfl rfl rfl h c_X2_waysOf q_X2_waysOf m2_229 rfl rfl (Nat.le_of_ble_eq_true rfl) ⟨(Nat.le_of_ble_eq_true rfl), (Nat.le_of_ble_eq_true rfl)⟩ ⟨rfl, rfl⟩ ⟨(Nat.le_of_ble_eq_true rfl), (Nat.le_of_ble_eq_true rfl)⟩ dX2_waysByLastPair_138 rfl (by decide) (fun _ => rfl) (fun _ => rfl) (fun _ => rfl) (fun b2 h => ?_)
        refine j_imul (pc := 141) dX2_waysByLastPair_141 ?_
        refine j_iadd (pc := 142) dX2_waysByLastPair_142 ?_
        refine j_istore (pc := 143) (lv' := [(7, .int (x7 + ((2 : Int32) * b2))), (0, .ref a_o), (1, .ref a_p1), (2, .long x2), (4, .int x4), (5, .int x5), (6, .int x6)]) dX2_waysByLastPair_143 (Nat.le_of_ble_eq_true rfl) rfl ?_
        refine j_iload (pc := 145) 0 dX2_waysByLastPair_145 rfl ?_
        cases h
        exact j_iret (pc := 147) rfl dX2_waysByLastPair_147 (Nat.le_of_ble_eq_true rfl) (Nat.le_of_ble_eq_true rfl) (jd_i rfl rfl)
set_option maxRecDepth 20000 in
theorem w_X2_waysByLastPair_52 {l : Launch} {E : jE} {F : Nat} {x2 : Int64} {x4 : Int32} {x5 : Int32} {x6 : Int32} {v_p1_colours : Int32} {f_o_ways : Nat → Int32} {a_o a_o_ways a_p1 : Nat} {w_p1_cards : Int32} {w_p1_acts : Int32} {w_p1_deal : Int64} {w_p1_cardsAreFixed : Int32} : ∀ (x7 : Int32) (u : Int32), g_X2_waysByLastPair_52 F x2 x4 x5 x6 v_p1_colours f_o_ways x7 = some u → jT l E K_X2_waysByLastPair 0 0 52 [(0, .ref a_o), (1, .ref a_p1), (2, .long x2), (4, .int x4), (5, .int x5), (6, .int x6), (7, .int x7)] [] [jO a_o 1 [.ref a_o_ways], jO a_p1 2 [.int w_p1_cards, .int v_p1_colours, .int w_p1_acts, .long w_p1_deal, .int w_p1_cardsAreFixed], jI E a_o_ways 289 f_o_ways] (jd (some (.int u)) [jO a_o 1 [.ref a_o_ways], jO a_p1 2 [.int w_p1_cards, .int v_p1_colours, .int w_p1_acts, .long w_p1_deal, .int w_p1_cardsAreFixed], jI E a_o_ways 289 f_o_ways]) := by
  intro x7 u h
  unfold g_X2_waysByLastPair_52 at h
  refine j_iload (pc := 52) 5 dX2_waysByLastPair_52 rfl ?_
  refine j_iconst (pc := 54) dX2_waysByLastPair_54 ic_2 ?_
  refine j_icmp_lt (pc := 55) (tgt := 95) dX2_waysByLastPair_55 (by decide) h (fun h => ?_) (fun h => ?_)
  · exact w_X2_waysByLastPair_95 _ u h
  · refine j_aload_n (pc := 58) 1 dX2_waysByLastPair_58 rfl rfl ?_
    refine j_lload_n (pc := 59) 2 dX2_waysByLastPair_59 rfl rfl ?_
    refine j_iload (pc := 60) 3 dX2_waysByLastPair_60 rfl ?_
    refine j_iload (pc := 62) 5 dX2_waysByLastPair_62 rfl ?_
    refine j_iadd (pc := 64) dX2_waysByLastPair_64 ?_
    refine j_iconst (pc := 65) dX2_waysByLastPair_65 ic_2 ?_
    refine j_isub (pc := 66) dX2_waysByLastPair_66 ?_
    refine j_iload (pc := 67) 3 dX2_waysByLastPair_67 rfl ?_
    refine j_iload (pc := 69) 5 dX2_waysByLastPair_69 rfl ?_
    refine j_iadd (pc := 71) dX2_waysByLastPair_71 ?_
    refine j_iconst (pc := 72) dX2_waysByLastPair_72 ic_1 ?_
    refine j_isub (pc := 73) dX2_waysByLastPair_73 ?_
    refine j_S (pc := 74) (Kc := K_X2_areUnlikeAt) (As := [.ref a_p1, .long x2, .int ((x4 + x6) - (2 : Int32)), .int ((x4 + x6) - (1 : Int32))]) (rest := []) (wc := [jO a_p1 2 [.int w_p1_cards, .int v_p1_colours, .int w_p1_acts, .long w_p1_deal, .int w_p1_cardsAreFixed]]) (w' := fun b1 => [jO a_o 1 [.ref a_o_ways], jO a_p1 2 [.int w_p1_cards, .int v_p1_colours, .int w_p1_acts, .long w_p1_deal, .int w_p1_cardsAreFixed], jI E a_o_ways 289 f_o_ways]) (st1 := fun b1 => [.int b1]) [1] h c_X2_areUnlikeAt q_X2_areUnlikeAt m2_225 rfl rfl (Nat.le_of_ble_eq_true rfl) ⟨(Nat.le_of_ble_eq_true rfl), (Nat.le_of_ble_eq_true rfl)⟩ ⟨rfl, rfl⟩ ⟨(Nat.le_of_ble_eq_true rfl), (Nat.le_of_ble_eq_true rfl)⟩ dX2_waysByLastPair_74 rfl (by decide) (fun _ => rfl) (fun _ => rfl) (fun _ => rfl) (fun b1 h => ?_)
    refine j_if_eq (pc := 77) (tgt := 95) dX2_waysByLastPair_77 (by decide) h (fun h => ?_) (fun h => ?_)
    · exact w_X2_waysByLastPair_95 _ u h
    · refine j_iload (pc := 80) 6 dX2_waysByLastPair_80 rfl ?_
      refine j_aload_n (pc := 82) 0 dX2_waysByLastPair_82 rfl rfl ?_
      refine j_iload (pc := 83) 4 dX2_waysByLastPair_83 rfl ?_
      refine j_iload (pc := 85) 5 dX2_waysByLastPair_85 rfl ?_
      refine j_iconst (pc := 87) dX2_waysByLastPair_87 ic_2 ?_
      refine j_isub (pc := 88) dX2_waysByLastPair_88 ?_
      refine j_V (pc := 89) (q0 := 0) (Kc := K_X2_waysOf) (As := [.int x5, .int (x6 - (2 : Int32))]) (rest := [.int x7]) (wc := [jO a_o 1 [.ref a_o_ways], jI E a_o_ways 289 f_o_ways]) (w' := fun b2 => [jO a_o 1 [.ref a_o_ways], jO a_p1 2 [.int w_p1_cards, .int v_p1_colours, .int w_p1_acts, .long w_p1_deal, .int w_p1_cardsAreFixed], jI E a_o_ways 289 f_o_ways]) (st1 := fun b2 => [.int b2, .int x7]) [0, 2] rfl rfl rfl h c_X2_waysOf q_X2_waysOf m2_229 rfl rfl (Nat.le_of_ble_eq_true rfl) ⟨(Nat.le_of_ble_eq_true rfl), (Nat.le_of_ble_eq_true rfl)⟩ ⟨rfl, rfl⟩ ⟨(Nat.le_of_ble_eq_true rfl), (Nat.le_of_ble_eq_true rfl)⟩ dX2_waysByLastPair_89 rfl (by decide) (fun _ => rfl) (fun _ => rfl) (fun _ => rfl) (fun b2 h => ?_)
      refine j_iadd (pc := 92) dX2_waysByLastPair_92 ?_
      refine j_istore (pc := 93) (lv' := [(7, .int (x7 + b2)), (0, .ref a_o), (1, .ref a_p1), (2, .long x2), (4, .int x4), (5, .int x5), (6, .int x6)]) dX2_waysByLastPair_93 (Nat.le_of_ble_eq_true rfl) rfl ?_
      exact j_sub (lv' := [(0, .ref a_o), (1, .ref a_p1), (2, .long x2), (4, .int x4), (5, .int x5), (6, .int x6), (7, .int (x7 + b2))]) [1, 2, 3, 4, 5, 6, 0] rfl (w_X2_waysByLastPair_95 _ u h)
set_option maxRecDepth 20000 in
theorem w_X2_waysByLastPair_12 {l : Launch} {E : jE} {F : Nat} {x2 : Int64} {x4 : Int32} {x5 : Int32} {x6 : Int32} {v_p1_colours : Int32} {f_o_ways : Nat → Int32} {a_o a_o_ways a_p1 : Nat} {w_p1_cards : Int32} {w_p1_acts : Int32} {w_p1_deal : Int64} {w_p1_cardsAreFixed : Int32} : ∀  (u : Int32), g_X2_waysByLastPair_12 F x2 x4 x5 x6 v_p1_colours f_o_ways = some u → jT l E K_X2_waysByLastPair 0 0 12 [(0, .ref a_o), (1, .ref a_p1), (2, .long x2), (4, .int x4), (5, .int x5), (6, .int x6)] [] [jO a_o 1 [.ref a_o_ways], jO a_p1 2 [.int w_p1_cards, .int v_p1_colours, .int w_p1_acts, .long w_p1_deal, .int w_p1_cardsAreFixed], jI E a_o_ways 289 f_o_ways] (jd (some (.int u)) [jO a_o 1 [.ref a_o_ways], jO a_p1 2 [.int w_p1_cards, .int v_p1_colours, .int w_p1_acts, .long w_p1_deal, .int w_p1_cardsAreFixed], jI E a_o_ways 289 f_o_ways]) := by
  intro  u h
  unfold g_X2_waysByLastPair_12 at h
  refine j_iconst (pc := 12) dX2_waysByLastPair_12 ic_0 ?_
  refine j_istore (pc := 13) (lv' := [(7, .int (0 : Int32)), (0, .ref a_o), (1, .ref a_p1), (2, .long x2), (4, .int x4), (5, .int x5), (6, .int x6)]) dX2_waysByLastPair_13 (Nat.le_of_ble_eq_true rfl) rfl ?_
  refine j_iload (pc := 15) 5 dX2_waysByLastPair_15 rfl ?_
  refine j_iconst (pc := 17) dX2_waysByLastPair_17 ic_2 ?_
  refine j_icmp_lt (pc := 18) (tgt := 52) dX2_waysByLastPair_18 (by decide) h (fun h => ?_) (fun h => ?_)
  · exact j_sub (lv' := [(0, .ref a_o), (1, .ref a_p1), (2, .long x2), (4, .int x4), (5, .int x5), (6, .int x6), (7, .int (0 : Int32))]) [1, 2, 3, 4, 5, 6, 0] rfl (w_X2_waysByLastPair_52 _ u h)
  · refine j_aload_n (pc := 21) 2 dX2_waysByLastPair_21 rfl rfl ?_
    refine j_lload_n (pc := 22) 3 dX2_waysByLastPair_22 rfl rfl ?_
    refine j_iload (pc := 23) 5 dX2_waysByLastPair_23 rfl ?_
    refine j_iconst (pc := 25) dX2_waysByLastPair_25 ic_2 ?_
    refine j_isub (pc := 26) dX2_waysByLastPair_26 ?_
    refine j_iload (pc := 27) 5 dX2_waysByLastPair_27 rfl ?_
    refine j_iconst (pc := 29) dX2_waysByLastPair_29 ic_1 ?_
    refine j_isub (pc := 30) dX2_waysByLastPair_30 ?_
    refine j_S (pc := 31) (Kc := K_X2_areUnlikeAt) (As := [.ref a_p1, .long x2, .int (x5 - (2 : Int32)), .int (x5 - (1 : Int32))]) (rest := []) (wc := [jO a_p1 2 [.int w_p1_cards, .int v_p1_colours, .int w_p1_acts, .long w_p1_deal, .int w_p1_cardsAreFixed]]) (w' := fun b1 => [jO a_o 1 [.ref a_o_ways], jO a_p1 2 [.int w_p1_cards, .int v_p1_colours, .int w_p1_acts, .long w_p1_deal, .int w_p1_cardsAreFixed], jI E a_o_ways 289 f_o_ways]) (st1 := fun b1 => [.int b1]) [1] h c_X2_areUnlikeAt q_X2_areUnlikeAt m2_225 rfl rfl (Nat.le_of_ble_eq_true rfl) ⟨(Nat.le_of_ble_eq_true rfl), (Nat.le_of_ble_eq_true rfl)⟩ ⟨rfl, rfl⟩ ⟨(Nat.le_of_ble_eq_true rfl), (Nat.le_of_ble_eq_true rfl)⟩ dX2_waysByLastPair_31 rfl (by decide) (fun _ => rfl) (fun _ => rfl) (fun _ => rfl) (fun b1 h => ?_)
    refine j_if_eq (pc := 34) (tgt := 52) dX2_waysByLastPair_34 (by decide) h (fun h => ?_) (fun h => ?_)
    · exact j_sub (lv' := [(0, .ref a_o), (1, .ref a_p1), (2, .long x2), (4, .int x4), (5, .int x5), (6, .int x6), (7, .int (0 : Int32))]) [1, 2, 3, 4, 5, 6, 0] rfl (w_X2_waysByLastPair_52 _ u h)
    · refine j_iload (pc := 37) 0 dX2_waysByLastPair_37 rfl ?_
      refine j_aload_n (pc := 39) 1 dX2_waysByLastPair_39 rfl rfl ?_
      refine j_iload (pc := 40) 5 dX2_waysByLastPair_40 rfl ?_
      refine j_iconst (pc := 42) dX2_waysByLastPair_42 ic_2 ?_
      refine j_isub (pc := 43) dX2_waysByLastPair_43 ?_
      refine j_iload (pc := 44) 6 dX2_waysByLastPair_44 rfl ?_
      refine j_V (pc := 46) (q0 := 0) (Kc := K_X2_waysOf) (As := [.int (x5 - (2 : Int32)), .int x6]) (rest := [.int (0 : Int32)]) (wc := [jO a_o 1 [.ref a_o_ways], jI E a_o_ways 289 f_o_ways]) (w' := fun b2 => [jO a_o 1 [.ref a_o_ways], jO a_p1 2 [.int w_p1_cards, .int v_p1_colours, .int w_p1_acts, .long w_p1_deal, .int w_p1_cardsAreFixed], jI E a_o_ways 289 f_o_ways]) (st1 := fun b2 => [.int b2, .int (0 : Int32)]) [0, 2] rfl rfl rfl h c_X2_waysOf q_X2_waysOf m2_229 rfl rfl (Nat.le_of_ble_eq_true rfl) ⟨(Nat.le_of_ble_eq_true rfl), (Nat.le_of_ble_eq_true rfl)⟩ ⟨rfl, rfl⟩ ⟨(Nat.le_of_ble_eq_true rfl), (Nat.le_of_ble_eq_true rfl)⟩ dX2_waysByLastPair_46 rfl (by decide) (fun _ => rfl) (fun _ => rfl) (fun _ => rfl) (fun b2 h => ?_)
      refine j_iadd (pc := 49) dX2_waysByLastPair_49 ?_
      refine j_istore (pc := 50) (lv' := [(7, .int ((0 : Int32) + b2)), (0, .ref a_o), (1, .ref a_p1), (2, .long x2), (4, .int x4), (5, .int x5), (6, .int x6)]) dX2_waysByLastPair_50 (Nat.le_of_ble_eq_true rfl) rfl ?_
      exact j_sub (lv' := [(0, .ref a_o), (1, .ref a_p1), (2, .long x2), (4, .int x4), (5, .int x5), (6, .int x6), (7, .int ((0 : Int32) + b2))]) [1, 2, 3, 4, 5, 6, 0] rfl (w_X2_waysByLastPair_52 _ u h)
set_option maxRecDepth 20000 in
theorem c_X2_waysByLastPair {l : Launch} {E : jE} {F : Nat} {x2 : Int64} {x4 : Int32} {x5 : Int32} {x6 : Int32} {v_p1_colours : Int32} {f_o_ways : Nat → Int32} {a_o a_o_ways a_p1 : Nat} {w_p1_cards : Int32} {w_p1_acts : Int32} {w_p1_deal : Int64} {w_p1_cardsAreFixed : Int32} : ∀ u : Int32, f_X2_waysByLastPair F x2 x4 x5 x6 v_p1_colours f_o_ways = some u → jM l E K_X2_waysByLastPair [.ref a_o, .ref a_p1, .long x2, .int x4, .int x5, .int x6] [jO a_o 1 [.ref a_o_ways], jO a_p1 2 [.int w_p1_cards, .int v_p1_colours, .int w_p1_acts, .long w_p1_deal, .int w_p1_cardsAreFixed], jI E a_o_ways 289 f_o_ways] (jd (some (.int u)) [jO a_o 1 [.ref a_o_ways], jO a_p1 2 [.int w_p1_cards, .int v_p1_colours, .int w_p1_acts, .long w_p1_deal, .int w_p1_cardsAreFixed], jI E a_o_ways 289 f_o_ways]) := by
  intro u h
  unfold f_X2_waysByLastPair at h
  refine j_met [(0, .ref a_o), (1, .ref a_p1), (2, .long x2), (4, .int x4), (5, .int x5), (6, .int x6)] (by decide +kernel) (Nat.le_of_ble_eq_true rfl) rfl ?_
  refine j_iload (pc := 0) 4 dX2_waysByLastPair_0 rfl ?_
  refine j_if_ne (pc := 2) (tgt := 12) dX2_waysByLastPair_2 (by decide) h (fun h => ?_) (fun h => ?_)
  · exact w_X2_waysByLastPair_12 u h
  · refine j_iload (pc := 5) 5 dX2_waysByLastPair_5 rfl ?_
    refine j_if_ne (pc := 7) (tgt := 12) dX2_waysByLastPair_7 (by decide) h (fun h => ?_) (fun h => ?_)
    · exact w_X2_waysByLastPair_12 u h
    · refine j_iconst (pc := 10) dX2_waysByLastPair_10 ic_1 ?_
      cases h
      exact j_iret (pc := 11) rfl dX2_waysByLastPair_11 (Nat.le_of_ble_eq_true rfl) (Nat.le_of_ble_eq_true rfl) (jd_i rfl rfl)
set_option maxRecDepth 20000 in
theorem c_X2_setWays {l : Launch} {E : jE} {F : Nat} {x1 : Int32} {x2 : Int32} {x3 : Int32} {a_o a_o_ways : Nat} {f_o_ways : Nat → Int32} : ∀ u : (Nat → Int32), f_X2_setWays F x1 x2 x3 f_o_ways = some u → jM l E K_X2_setWays [.ref a_o, .int x1, .int x2, .int x3] [jO a_o 1 [.ref a_o_ways], jI E a_o_ways 289 f_o_ways] (jd none [jO a_o 1 [.ref a_o_ways], jI E a_o_ways 289 u]) := by
  intro u h
  unfold f_X2_setWays at h
  refine j_met [(0, .ref a_o), (1, .int x1), (2, .int x2), (3, .int x3)] (by decide +kernel) (Nat.le_of_ble_eq_true rfl) rfl ?_
  refine j_iload_n (pc := 0) 1 dX2_setWays_0 rfl rfl ?_
  refine j_iconst (pc := 1) dX2_setWays_1 ic_0 ?_
  refine j_bipush (pc := 2) dX2_setWays_2 bc_16 ?_
  refine j_SN (pc := 4) (Kc := K_X9_within) (As := [.int x1, .int (0 : Int32), .int (16 : Int32)]) (rest := []) RX9 h c_X9_within q_X9_within (List.mem_of_getElem? (i := 14) rfl) rfl rfl (Nat.le_of_ble_eq_true rfl) ⟨(Nat.le_of_ble_eq_true rfl), (Nat.le_of_ble_eq_true rfl)⟩ ⟨rfl, rfl⟩ ⟨(Nat.le_of_ble_eq_true rfl), (Nat.le_of_ble_eq_true rfl)⟩ dX2_setWays_4 (fun b1 h => ?_)
  refine j_if_eq (pc := 7) (tgt := 32) dX2_setWays_7 (by decide) h (fun h => ?_) (fun h => ?_)
  · cases h
    exact j_vret (pc := 32) rfl dX2_setWays_32 (Nat.le_of_ble_eq_true rfl) (Nat.le_of_ble_eq_true rfl) (jd_i rfl rfl)
  · refine j_iload_n (pc := 10) 2 dX2_setWays_10 rfl rfl ?_
    refine j_iconst (pc := 11) dX2_setWays_11 ic_0 ?_
    refine j_bipush (pc := 12) dX2_setWays_12 bc_16 ?_
    refine j_SN (pc := 14) (Kc := K_X9_within) (As := [.int x2, .int (0 : Int32), .int (16 : Int32)]) (rest := []) RX9 h c_X9_within q_X9_within (List.mem_of_getElem? (i := 14) rfl) rfl rfl (Nat.le_of_ble_eq_true rfl) ⟨(Nat.le_of_ble_eq_true rfl), (Nat.le_of_ble_eq_true rfl)⟩ ⟨rfl, rfl⟩ ⟨(Nat.le_of_ble_eq_true rfl), (Nat.le_of_ble_eq_true rfl)⟩ dX2_setWays_14 (fun b2 h => ?_)
    refine j_if_eq (pc := 17) (tgt := 32) dX2_setWays_17 (by decide) h (fun h => ?_) (fun h => ?_)
    · cases h
      exact j_vret (pc := 32) rfl dX2_setWays_32 (Nat.le_of_ble_eq_true rfl) (Nat.le_of_ble_eq_true rfl) (jd_i rfl rfl)
    · refine j_aload_n (pc := 20) 0 dX2_setWays_20 rfl rfl ?_
      refine j_get (pc := 21) (v := .ref a_o_ways) 0 0 rfl rfl (Nat.le_of_ble_eq_true rfl) iwX2 m1_124 rfl dX2_setWays_21 ?_
      refine j_bipush (pc := 24) dX2_setWays_24 bc_17 ?_
      refine j_iload_n (pc := 26) 1 dX2_setWays_26 rfl rfl ?_
      refine j_imul (pc := 27) dX2_setWays_27 ?_
      refine j_iload_n (pc := 28) 2 dX2_setWays_28 rfl rfl ?_
      refine j_iadd (pc := 29) dX2_setWays_29 ?_
      refine j_iload_n (pc := 30) 3 dX2_setWays_30 rfl rfl ?_
      refine j_iast (pc := 31) (w' := [jO a_o 1 [.ref a_o_ways], jI E a_o_ways 289 (upd f_o_ways (((17 : Int32) * x1) + x2).toNatClampNeg x3)]) 1 rfl dX2_setWays_31 h rfl (fun h => ?_)
      cases h
      exact j_vret (pc := 32) rfl dX2_setWays_32 (Nat.le_of_ble_eq_true rfl) (Nat.le_of_ble_eq_true rfl) (jd_i rfl rfl)
set_option maxRecDepth 20000 in
theorem w_X2_goodWays_37 {l : Launch} {E : jE} {F : Nat} {x2 : Int64} {x4 : Int32} {v_p1_cards : Int32} {v_p1_colours : Int32} {a_o a_o_ways a_p1 : Nat} {w_p1_acts : Int32} {w_p1_deal : Int64} {w_p1_cardsAreFixed : Int32} {k_24 : Int32 → Int64 → Int32 → (Nat → Int32) → Option (Int32 × (Nat → Int32))} (hk_24 : ∀ (x5 : Int32) (x6 : Int64) (x8 : Int32) (f_o_ways : Nat → Int32) (u : Int32 × (Nat → Int32)), k_24 x5 x6 x8 f_o_ways = some u → jT l E K_X2_goodWays 0 0 24 [(0, .ref a_o), (1, .ref a_p1), (4, .int x4), (5, .int x5), (6, .long x6), (8, .int x8)] [] [jO a_o 1 [.ref a_o_ways], jO a_p1 2 [.int v_p1_cards, .int v_p1_colours, .int w_p1_acts, .long w_p1_deal, .int w_p1_cardsAreFixed], jI E a_o_ways 289 f_o_ways] (jd (some (.int u.1)) [jO a_o 1 [.ref a_o_ways], jO a_p1 2 [.int v_p1_cards, .int v_p1_colours, .int w_p1_acts, .long w_p1_deal, .int w_p1_cardsAreFixed], jI E a_o_ways 289 u.2])) : ∀ (n : Nat) (x5 : Int32) (x6 : Int64) (x8 : Int32) (x9 : Int32) (f_o_ways : Nat → Int32) (u : Int32 × (Nat → Int32)), g_X2_goodWays_37 F x2 x4 v_p1_cards v_p1_colours k_24 n x5 x6 x8 x9 f_o_ways = some u → jT l E K_X2_goodWays 0 0 37 [(0, .ref a_o), (1, .ref a_p1), (4, .int x4), (5, .int x5), (6, .long x6), (8, .int x8), (9, .int x9)] [] [jO a_o 1 [.ref a_o_ways], jO a_p1 2 [.int v_p1_cards, .int v_p1_colours, .int w_p1_acts, .long w_p1_deal, .int w_p1_cardsAreFixed], jI E a_o_ways 289 f_o_ways] (jd (some (.int u.1)) [jO a_o 1 [.ref a_o_ways], jO a_p1 2 [.int v_p1_cards, .int v_p1_colours, .int w_p1_acts, .long w_p1_deal, .int w_p1_cardsAreFixed], jI E a_o_ways 289 u.2]) := by
  intro n
  induction n with
  | zero =>
    intro x5 x6 x8 x9 f_o_ways u h
    rw [g_X2_goodWays_37] at h
    cases h
  | succ n ih =>
    intro x5 x6 x8 x9 f_o_ways u h
    rw [g_X2_goodWays_37] at h
    refine j_iload (pc := 37) 6 dX2_goodWays_37 rfl ?_
    refine j_iload (pc := 39) 3 dX2_goodWays_39 rfl ?_
    refine j_icmp_gt (pc := 41) (tgt := 71) dX2_goodWays_41 (by decide) h (fun h => ?_) (fun h => ?_)
    · refine j_iinc (pc := 71) (j := 5) (lv' := [(8, .int (x8 + (1 : Int32))), (0, .ref a_o), (1, .ref a_p1), (4, .int x4), (5, .int x5), (6, .long x6), (9, .int x9)]) dX2_goodWays_71 rfl (congrArg (fun z => x8 + z) ic_1) (Nat.le_of_ble_eq_true rfl) rfl ?_
      refine j_goto (pc := 74) (tgt := 24) dX2_goodWays_74 (by decide) ?_
      exact j_sub (lv' := [(0, .ref a_o), (1, .ref a_p1), (4, .int x4), (5, .int x5), (6, .long x6), (8, .int (x8 + (1 : Int32)))]) [1, 2, 3, 4, 5, 0] rfl (hk_24 _ _ _ _ u h)
    · refine j_aload_n (pc := 44) 0 dX2_goodWays_44 rfl rfl ?_
      refine j_iload (pc := 45) 5 dX2_goodWays_45 rfl ?_
      refine j_iload (pc := 47) 6 dX2_goodWays_47 rfl ?_
      refine j_aload_n (pc := 49) 0 dX2_goodWays_49 rfl rfl ?_
      refine j_aload_n (pc := 50) 1 dX2_goodWays_50 rfl rfl ?_
      refine j_lload (pc := 51) 4 dX2_goodWays_51 rfl ?_
      refine j_iload (pc := 53) 2 dX2_goodWays_53 rfl ?_
      refine j_iload (pc := 55) 5 dX2_goodWays_55 rfl ?_
      refine j_iload (pc := 57) 6 dX2_goodWays_57 rfl ?_
      refine j_V (pc := 59) (q0 := 0) (Kc := K_X2_waysByLastPair) (As := [.ref a_p1, .long x6, .int x4, .int x8, .int x9]) (rest := [.int x9, .int x8, .ref a_o]) (wc := [jO a_o 1 [.ref a_o_ways], jO a_p1 2 [.int v_p1_cards, .int v_p1_colours, .int w_p1_acts, .long w_p1_deal, .int w_p1_cardsAreFixed], jI E a_o_ways 289 f_o_ways]) (w' := fun b1 => [jO a_o 1 [.ref a_o_ways], jO a_p1 2 [.int v_p1_cards, .int v_p1_colours, .int w_p1_acts, .long w_p1_deal, .int w_p1_cardsAreFixed], jI E a_o_ways 289 f_o_ways]) (st1 := fun b1 => [.int b1, .int x9, .int x8, .ref a_o]) [0, 1, 2] rfl rfl rfl h c_X2_waysByLastPair q_X2_waysByLastPair m2_221 rfl rfl (Nat.le_of_ble_eq_true rfl) ⟨(Nat.le_of_ble_eq_true rfl), (Nat.le_of_ble_eq_true rfl)⟩ ⟨rfl, rfl⟩ ⟨(Nat.le_of_ble_eq_true rfl), (Nat.le_of_ble_eq_true rfl)⟩ dX2_goodWays_59 rfl (by decide) (fun _ => rfl) (fun _ => rfl) (fun _ => rfl) (fun b1 h => ?_)
      refine j_V (pc := 62) (q0 := 0) (Kc := K_X2_setWays) (As := [.int x8, .int x9, .int b1]) (rest := []) (wc := [jO a_o 1 [.ref a_o_ways], jI E a_o_ways 289 f_o_ways]) (w' := fun b2 => [jO a_o 1 [.ref a_o_ways], jO a_p1 2 [.int v_p1_cards, .int v_p1_colours, .int w_p1_acts, .long w_p1_deal, .int w_p1_cardsAreFixed], jI E a_o_ways 289 b2]) (st1 := fun b2 => []) [0, 2] rfl rfl rfl h c_X2_setWays q_X2_setWays m2_234 rfl rfl (Nat.le_of_ble_eq_true rfl) ⟨(Nat.le_of_ble_eq_true rfl), (Nat.le_of_ble_eq_true rfl)⟩ ⟨rfl, rfl⟩ ⟨(Nat.le_of_ble_eq_true rfl), (Nat.le_of_ble_eq_true rfl)⟩ dX2_goodWays_62 rfl (by decide) (fun _ => rfl) (fun _ => rfl) (fun _ => rfl) (fun b2 h => ?_)
      refine j_iinc (pc := 65) (j := 6) (lv' := [(9, .int (x9 + (2 : Int32))), (0, .ref a_o), (1, .ref a_p1), (4, .int x4), (5, .int x5), (6, .long x6), (8, .int x8)]) dX2_goodWays_65 rfl (congrArg (fun z => x9 + z) ic_2) (Nat.le_of_ble_eq_true rfl) rfl ?_
      refine j_goto (pc := 68) (tgt := 37) dX2_goodWays_68 (by decide) ?_
      exact j_sub (lv' := [(0, .ref a_o), (1, .ref a_p1), (4, .int x4), (5, .int x5), (6, .long x6), (8, .int x8), (9, .int (x9 + (2 : Int32)))]) [1, 2, 3, 4, 5, 6, 0] rfl (ih _ _ _ _ _ u h)
set_option maxRecDepth 20000 in
theorem w_X2_goodWays_24 {l : Launch} {E : jE} {F : Nat} {x2 : Int64} {x4 : Int32} {v_p1_cards : Int32} {v_p1_colours : Int32} {a_o a_o_ways a_p1 : Nat} {w_p1_acts : Int32} {w_p1_deal : Int64} {w_p1_cardsAreFixed : Int32} : ∀ (n : Nat) (x5 : Int32) (x6 : Int64) (x8 : Int32) (f_o_ways : Nat → Int32) (u : Int32 × (Nat → Int32)), g_X2_goodWays_24 F x2 x4 v_p1_cards v_p1_colours n x5 x6 x8 f_o_ways = some u → jT l E K_X2_goodWays 0 0 24 [(0, .ref a_o), (1, .ref a_p1), (4, .int x4), (5, .int x5), (6, .long x6), (8, .int x8)] [] [jO a_o 1 [.ref a_o_ways], jO a_p1 2 [.int v_p1_cards, .int v_p1_colours, .int w_p1_acts, .long w_p1_deal, .int w_p1_cardsAreFixed], jI E a_o_ways 289 f_o_ways] (jd (some (.int u.1)) [jO a_o 1 [.ref a_o_ways], jO a_p1 2 [.int v_p1_cards, .int v_p1_colours, .int w_p1_acts, .long w_p1_deal, .int w_p1_cardsAreFixed], jI E a_o_ways 289 u.2]) := by
  intro n
  induction n with
  | zero =>
    intro x5 x6 x8 f_o_ways u h
    rw [g_X2_goodWays_24] at h
    cases h
  | succ n ih =>
    intro x5 x6 x8 f_o_ways u h
    rw [g_X2_goodWays_24] at h
    refine j_iload (pc := 24) 5 dX2_goodWays_24 rfl ?_
    refine j_iload (pc := 26) 2 dX2_goodWays_26 rfl ?_
    refine j_icmp_gt (pc := 28) (tgt := 77) dX2_goodWays_28 (by decide) h (fun h => ?_) (fun h => ?_)
    · refine j_aload_n (pc := 77) 1 dX2_goodWays_77 rfl rfl ?_
      refine j_getN (pc := 78) (v := .int v_p1_cards) 1 0 rfl rfl (Nat.le_of_ble_eq_true rfl) iwX5 (List.mem_of_getElem? (i := 6) rfl) rfl dX2_goodWays_78 ?_
      refine j_iconst (pc := 81) dX2_goodWays_81 ic_2 ?_
      refine j_irem (pc := 82) dX2_goodWays_82 h (fun h => ?_)
      refine j_if_ne (pc := 83) (tgt := 95) dX2_goodWays_83 (by decide) h (fun h => ?_) (fun h => ?_)
      · refine j_aload_n (pc := 95) 0 dX2_goodWays_95 rfl rfl ?_
        refine j_iload (pc := 96) 2 dX2_goodWays_96 rfl ?_
        refine j_iconst (pc := 98) dX2_goodWays_98 ic_1 ?_
        refine j_isub (pc := 99) dX2_goodWays_99 ?_
        refine j_iload (pc := 100) 3 dX2_goodWays_100 rfl ?_
        refine j_V (pc := 102) (q0 := 0) (Kc := K_X2_waysOf) (As := [.int (x4 - (1 : Int32)), .int x5]) (rest := []) (wc := [jO a_o 1 [.ref a_o_ways], jI E a_o_ways 289 f_o_ways]) (w' := fun b1 => [jO a_o 1 [.ref a_o_ways], jO a_p1 2 [.int v_p1_cards, .int v_p1_colours, .int w_p1_acts, .long w_p1_deal, .int w_p1_cardsAreFixed], jI E a_o_ways 289 f_o_ways]) (st1 := fun b1 => [.int b1]) [0, 2] rfl rfl rfl h c_X2_waysOf q_X2_waysOf m2_229 rfl rfl (Nat.le_of_ble_eq_true rfl) ⟨(Nat.le_of_ble_eq_true rfl), (Nat.le_of_ble_eq_true rfl)⟩ ⟨rfl, rfl⟩ ⟨(Nat.le_of_ble_eq_true rfl), (Nat.le_of_ble_eq_true rfl)⟩ dX2_goodWays_102 rfl (by decide) (fun _ => rfl) (fun _ => rfl) (fun _ => rfl) (fun b1 h => ?_)
        refine j_aload_n (pc := 105) 0 dX2_goodWays_105 rfl rfl ?_
        refine j_iload (pc := 106) 2 dX2_goodWays_106 rfl ?_
        refine j_iload (pc := 108) 3 dX2_goodWays_108 rfl ?_
        refine j_iconst (pc := 110) dX2_goodWays_110 ic_1 ?_
        refine j_isub (pc := 111) dX2_goodWays_111 ?_
        refine j_V (pc := 112) (q0 := 0) (Kc := K_X2_waysOf) (As := [.int x4, .int (x5 - (1 : Int32))]) (rest := [.int b1]) (wc := [jO a_o 1 [.ref a_o_ways], jI E a_o_ways 289 f_o_ways]) (w' := fun b2 => [jO a_o 1 [.ref a_o_ways], jO a_p1 2 [.int v_p1_cards, .int v_p1_colours, .int w_p1_acts, .long w_p1_deal, .int w_p1_cardsAreFixed], jI E a_o_ways 289 f_o_ways]) (st1 := fun b2 => [.int b2, .int b1]) [0, 2] rfl rfl rfl h c_X2_waysOf q_X2_waysOf m2_229 rfl rfl (Nat.le_of_ble_eq_true rfl) ⟨(Nat.le_of_ble_eq_true rfl), (Nat.le_of_ble_eq_true rfl)⟩ ⟨rfl, rfl⟩ ⟨(Nat.le_of_ble_eq_true rfl), (Nat.le_of_ble_eq_true rfl)⟩ dX2_goodWays_112 rfl (by decide) (fun _ => rfl) (fun _ => rfl) (fun _ => rfl) (fun b2 h => ?_)
        refine j_iadd (pc := 115) dX2_goodWays_115 ?_
        cases h
        exact j_iret (pc := 116) rfl dX2_goodWays_116 (Nat.le_of_ble_eq_true rfl) (Nat.le_of_ble_eq_true rfl) (jd_i rfl rfl)
      · refine j_aload_n (pc := 86) 0 dX2_goodWays_86 rfl rfl ?_
        refine j_iload (pc := 87) 2 dX2_goodWays_87 rfl ?_
        refine j_iload (pc := 89) 3 dX2_goodWays_89 rfl ?_
        refine j_V (pc := 91) (q0 := 0) (Kc := K_X2_waysOf) (As := [.int x4, .int x5]) (rest := []) (wc := [jO a_o 1 [.ref a_o_ways], jI E a_o_ways 289 f_o_ways]) (w' := fun b3 => [jO a_o 1 [.ref a_o_ways], jO a_p1 2 [.int v_p1_cards, .int v_p1_colours, .int w_p1_acts, .long w_p1_deal, .int w_p1_cardsAreFixed], jI E a_o_ways 289 f_o_ways]) (st1 := fun b3 => [.int b3]) [0, 2] rfl rfl rfl h c_X2_waysOf q_X2_waysOf m2_229 rfl rfl (Nat.le_of_ble_eq_true rfl) ⟨(Nat.le_of_ble_eq_true rfl), (Nat.le_of_ble_eq_true rfl)⟩ ⟨rfl, rfl⟩ ⟨(Nat.le_of_ble_eq_true rfl), (Nat.le_of_ble_eq_true rfl)⟩ dX2_goodWays_91 rfl (by decide) (fun _ => rfl) (fun _ => rfl) (fun _ => rfl) (fun b3 h => ?_)
        cases h
        exact j_iret (pc := 94) rfl dX2_goodWays_94 (Nat.le_of_ble_eq_true rfl) (Nat.le_of_ble_eq_true rfl) (jd_i rfl rfl)
    · refine j_iload (pc := 31) 5 dX2_goodWays_31 rfl ?_
      refine j_iconst (pc := 33) dX2_goodWays_33 ic_2 ?_
      refine j_irem (pc := 34) dX2_goodWays_34 h (fun h => ?_)
      refine j_istore (pc := 35) (lv' := [(9, .int (jrem x8 (2 : Int32))), (0, .ref a_o), (1, .ref a_p1), (4, .int x4), (5, .int x5), (6, .long x6), (8, .int x8)]) dX2_goodWays_35 (Nat.le_of_ble_eq_true rfl) rfl ?_
      exact j_sub (lv' := [(0, .ref a_o), (1, .ref a_p1), (4, .int x4), (5, .int x5), (6, .long x6), (8, .int x8), (9, .int (jrem x8 (2 : Int32)))]) [1, 2, 3, 4, 5, 6, 0] rfl (w_X2_goodWays_37 ih _ _ _ _ _ _ u h)
set_option maxRecDepth 20000 in
theorem c_X2_goodWays {l : Launch} {E : jE} {F : Nat} {x2 : Int64} {x4 : Int32} {v_p1_cards : Int32} {v_p1_colours : Int32} {a_o a_o_ways a_p1 : Nat} {w_p1_acts : Int32} {w_p1_deal : Int64} {w_p1_cardsAreFixed : Int32} {f_o_ways : Nat → Int32} : ∀ u : Int32 × (Nat → Int32), f_X2_goodWays F x2 x4 v_p1_cards v_p1_colours f_o_ways = some u → jM l E K_X2_goodWays [.ref a_o, .ref a_p1, .long x2, .int x4] [jO a_o 1 [.ref a_o_ways], jO a_p1 2 [.int v_p1_cards, .int v_p1_colours, .int w_p1_acts, .long w_p1_deal, .int w_p1_cardsAreFixed], jI E a_o_ways 289 f_o_ways] (jd (some (.int u.1)) [jO a_o 1 [.ref a_o_ways], jO a_p1 2 [.int v_p1_cards, .int v_p1_colours, .int w_p1_acts, .long w_p1_deal, .int w_p1_cardsAreFixed], jI E a_o_ways 289 u.2]) := by
  intro u h
  unfold f_X2_goodWays at h
  refine j_met [(0, .ref a_o), (1, .ref a_p1), (2, .long x2), (4, .int x4)] (by decide +kernel) (Nat.le_of_ble_eq_true rfl) rfl ?_
  refine j_aload_n (pc := 0) 1 dX2_goodWays_0 rfl rfl ?_
  refine j_getN (pc := 1) (v := .int v_p1_cards) 1 0 rfl rfl (Nat.le_of_ble_eq_true rfl) iwX5 (List.mem_of_getElem? (i := 6) rfl) rfl dX2_goodWays_1 ?_
  refine j_iload (pc := 4) 3 dX2_goodWays_4 rfl ?_
  refine j_isub (pc := 6) dX2_goodWays_6 ?_
  refine j_istore (pc := 7) (lv' := [(5, .int (v_p1_cards - x4)), (0, .ref a_o), (1, .ref a_p1), (2, .long x2), (4, .int x4)]) dX2_goodWays_7 (Nat.le_of_ble_eq_true rfl) rfl ?_
  refine j_lload_n (pc := 9) 3 dX2_goodWays_9 rfl rfl ?_
  refine j_iload (pc := 10) 4 dX2_goodWays_10 rfl ?_
  refine j_aload_n (pc := 12) 2 dX2_goodWays_12 rfl rfl ?_
  refine j_getN (pc := 13) (v := .int v_p1_cards) 1 0 rfl rfl (Nat.le_of_ble_eq_true rfl) iwX5 (List.mem_of_getElem? (i := 6) rfl) rfl dX2_goodWays_13 ?_
  refine j_S0 (pc := 16) (Kc := K_X2_dealtOff) (As := [.long x2, .int x4, .int v_p1_cards]) (rest := []) h c_X2_dealtOff q_X2_dealtOff m2_216 rfl rfl (Nat.le_of_ble_eq_true rfl) ⟨(Nat.le_of_ble_eq_true rfl), (Nat.le_of_ble_eq_true rfl)⟩ ⟨rfl, rfl⟩ ⟨(Nat.le_of_ble_eq_true rfl), (Nat.le_of_ble_eq_true rfl)⟩ dX2_goodWays_16 (fun b1 h => ?_)
  refine j_lstore (pc := 19) (lv' := [(6, .long b1), (5, .int (v_p1_cards - x4)), (0, .ref a_o), (1, .ref a_p1), (2, .long x2), (4, .int x4)]) dX2_goodWays_19 (Nat.le_of_ble_eq_true rfl) rfl ?_
  refine j_iconst (pc := 21) dX2_goodWays_21 ic_0 ?_
  refine j_istore (pc := 22) (lv' := [(8, .int (0 : Int32)), (6, .long b1), (5, .int (v_p1_cards - x4)), (0, .ref a_o), (1, .ref a_p1), (2, .long x2), (4, .int x4)]) dX2_goodWays_22 (Nat.le_of_ble_eq_true rfl) rfl ?_
  exact j_sub (lv' := [(0, .ref a_o), (1, .ref a_p1), (4, .int x4), (5, .int (v_p1_cards - x4)), (6, .long b1), (8, .int (0 : Int32))]) [3, 4, 6, 2, 1, 0] rfl (w_X2_goodWays_24 _ _ _ _ _ u h)
set_option maxRecDepth 20000 in
theorem w_X1_choices_4 {l : Launch} {E : jE} {F : Nat} {x0 : Int32} {x1 : Int32} : ∀ (n : Nat) (x2 : Int32) (x3 : Int32) (u : Int32), g_X1_choices_4 F x0 x1 n x2 x3 = some u → jT l E K_X1_choices 0 0 4 [(0, .int x0), (1, .int x1), (2, .int x2), (3, .int x3)] [] [] (jd (some (.int u)) []) := by
  intro n
  induction n with
  | zero =>
    intro x2 x3 u h
    rw [g_X1_choices_4] at h
    cases h
  | succ n ih =>
    intro x2 x3 u h
    rw [g_X1_choices_4] at h
    refine j_iload_n (pc := 4) 3 dX1_choices_4 rfl rfl ?_
    refine j_iload_n (pc := 5) 1 dX1_choices_5 rfl rfl ?_
    refine j_icmp_gt (pc := 6) (tgt := 25) dX1_choices_6 (by decide) h (fun h => ?_) (fun h => ?_)
    · refine j_iload_n (pc := 25) 2 dX1_choices_25 rfl rfl ?_
      cases h
      exact j_iret (pc := 26) rfl dX1_choices_26 (Nat.le_of_ble_eq_true rfl) (Nat.le_of_ble_eq_true rfl) (jd_i rfl rfl)
    · refine j_iload_n (pc := 9) 2 dX1_choices_9 rfl rfl ?_
      refine j_iload_n (pc := 10) 0 dX1_choices_10 rfl rfl ?_
      refine j_iload_n (pc := 11) 1 dX1_choices_11 rfl rfl ?_
      refine j_isub (pc := 12) dX1_choices_12 ?_
      refine j_iload_n (pc := 13) 3 dX1_choices_13 rfl rfl ?_
      refine j_iadd (pc := 14) dX1_choices_14 ?_
      refine j_imul (pc := 15) dX1_choices_15 ?_
      refine j_iload_n (pc := 16) 3 dX1_choices_16 rfl rfl ?_
      refine j_idiv (pc := 17) dX1_choices_17 h (fun h => ?_)
      refine j_istore_n (pc := 18) (lv' := [(2, .int ((x2 * ((x0 - x1) + x3)) / x3)), (0, .int x0), (1, .int x1), (3, .int x3)]) dX1_choices_18 rfl (Nat.le_of_ble_eq_true rfl) rfl ?_
      refine j_iinc (pc := 19) (j := 3) (lv' := [(3, .int (x3 + (1 : Int32))), (2, .int ((x2 * ((x0 - x1) + x3)) / x3)), (0, .int x0), (1, .int x1)]) dX1_choices_19 rfl (congrArg (fun z => x3 + z) ic_1) (Nat.le_of_ble_eq_true rfl) rfl ?_
      refine j_goto (pc := 22) (tgt := 4) dX1_choices_22 (by decide) ?_
      exact j_sub (lv' := [(0, .int x0), (1, .int x1), (2, .int ((x2 * ((x0 - x1) + x3)) / x3)), (3, .int (x3 + (1 : Int32)))]) [2, 3, 1, 0] rfl (ih _ _ u h)
set_option maxRecDepth 20000 in
theorem c_X1_choices {l : Launch} {E : jE} {F : Nat} {x0 : Int32} {x1 : Int32} : ∀ u : Int32, f_X1_choices F x0 x1 = some u → jM l E K_X1_choices [.int x0, .int x1] [] (jd (some (.int u)) []) := by
  intro u h
  unfold f_X1_choices at h
  refine j_met [(0, .int x0), (1, .int x1)] (by decide +kernel) (Nat.le_of_ble_eq_true rfl) rfl ?_
  refine j_iconst (pc := 0) dX1_choices_0 ic_1 ?_
  refine j_istore_n (pc := 1) (lv' := [(2, .int (1 : Int32)), (0, .int x0), (1, .int x1)]) dX1_choices_1 rfl (Nat.le_of_ble_eq_true rfl) rfl ?_
  refine j_iconst (pc := 2) dX1_choices_2 ic_1 ?_
  refine j_istore_n (pc := 3) (lv' := [(3, .int (1 : Int32)), (2, .int (1 : Int32)), (0, .int x0), (1, .int x1)]) dX1_choices_3 rfl (Nat.le_of_ble_eq_true rfl) rfl ?_
  exact j_sub (lv' := [(0, .int x0), (1, .int x1), (2, .int (1 : Int32)), (3, .int (1 : Int32))]) [2, 3, 1, 0] rfl (w_X1_choices_4 _ _ _ u h)
set_option maxRecDepth 20000 in
theorem c_X1_partOf {l : Launch} {E : jE} {F : Nat} {x0 : Int32} {x1 : Int32} {x2 : Int32} : ∀ u : Int32, f_X1_partOf F x0 x1 x2 = some u → jM l E K_X1_partOf [.int x0, .int x1, .int x2] [] (jd (some (.int u)) []) := by
  intro u h
  unfold f_X1_partOf at h
  refine j_met [(0, .int x0), (1, .int x1), (2, .int x2)] (by decide +kernel) (Nat.le_of_ble_eq_true rfl) rfl ?_
  refine j_iload_n (pc := 0) 0 dX1_partOf_0 rfl rfl ?_
  refine j_iload_n (pc := 1) 1 dX1_partOf_1 rfl rfl ?_
  refine j_S0 (pc := 2) (Kc := K_X1_commonDivisor) (As := [.int x0, .int x1]) (rest := []) h c_X1_commonDivisor q_X1_commonDivisor m3_4 rfl rfl (Nat.le_of_ble_eq_true rfl) ⟨(Nat.le_of_ble_eq_true rfl), (Nat.le_of_ble_eq_true rfl)⟩ ⟨rfl, rfl⟩ ⟨(Nat.le_of_ble_eq_true rfl), (Nat.le_of_ble_eq_true rfl)⟩ dX1_partOf_2 (fun b1 h => ?_)
  refine j_istore_n (pc := 5) (lv' := [(3, .int b1), (0, .int x0), (1, .int x1), (2, .int x2)]) dX1_partOf_5 rfl (Nat.le_of_ble_eq_true rfl) rfl ?_
  refine j_iload_n (pc := 6) 0 dX1_partOf_6 rfl rfl ?_
  refine j_if_gt (pc := 7) (tgt := 12) dX1_partOf_7 (by decide) h (fun h => ?_) (fun h => ?_)
  · refine j_iload_n (pc := 12) 3 dX1_partOf_12 rfl rfl ?_
    refine j_if_ne (pc := 13) (tgt := 22) dX1_partOf_13 (by decide) h (fun h => ?_) (fun h => ?_)
    · refine j_iload_n (pc := 22) 2 dX1_partOf_22 rfl rfl ?_
      refine j_iload_n (pc := 23) 0 dX1_partOf_23 rfl rfl ?_
      refine j_idiv (pc := 24) dX1_partOf_24 h (fun h => ?_)
      cases h
      exact j_iret (pc := 25) rfl dX1_partOf_25 (Nat.le_of_ble_eq_true rfl) (Nat.le_of_ble_eq_true rfl) (jd_i rfl rfl)
    · refine j_iload_n (pc := 16) 1 dX1_partOf_16 rfl rfl ?_
      refine j_iload_n (pc := 17) 0 dX1_partOf_17 rfl rfl ?_
      refine j_idiv (pc := 18) dX1_partOf_18 h (fun h => ?_)
      refine j_goto (pc := 19) (tgt := 25) dX1_partOf_19 (by decide) ?_
      cases h
      exact j_iret (pc := 25) rfl dX1_partOf_25 (Nat.le_of_ble_eq_true rfl) (Nat.le_of_ble_eq_true rfl) (jd_i rfl rfl)
  · refine j_iconst (pc := 10) dX1_partOf_10 ic_0 ?_
    cases h
    exact j_iret (pc := 11) rfl dX1_partOf_11 (Nat.le_of_ble_eq_true rfl) (Nat.le_of_ble_eq_true rfl) (jd_i rfl rfl)
set_option maxRecDepth 20000 in
theorem c_X7_add {l : Launch} {E : jE} {F : Nat} {x1 : Int32} {x2 : Int32} {a_o a_o_cards a_o_places : Nat} {v_o_held : Int32} {f_o_cards : Nat → Int32} {f_o_places : Nat → Int32} : ∀ u : Int32 × Int32 × (Nat → Int32) × (Nat → Int32), f_X7_add F x1 x2 v_o_held f_o_cards f_o_places = some u → jM l E K_X7_add [.ref a_o, .int x1, .int x2] [jO a_o 4 [.ref a_o_cards, .ref a_o_places, .int v_o_held], jI E a_o_cards 8 f_o_cards, jI E a_o_places 8 f_o_places] (jd (some (.int u.1)) [jO a_o 4 [.ref a_o_cards, .ref a_o_places, .int u.2.1], jI E a_o_cards 8 u.2.2.1, jI E a_o_places 8 u.2.2.2]) := by
  intro u h
  unfold f_X7_add at h
  refine j_met [(0, .ref a_o), (1, .int x1), (2, .int x2)] (by decide +kernel) (Nat.le_of_ble_eq_true rfl) rfl ?_
  refine j_aload_n (pc := 0) 0 dX7_add_0 rfl rfl ?_
  refine j_get (pc := 1) (v := .int v_o_held) 0 2 rfl rfl (Nat.le_of_ble_eq_true rfl) iwX7 m1_92 rfl dX7_add_1 ?_
  refine j_if_lt (pc := 4) (tgt := 16) dX7_add_4 (by decide) h (fun h => ?_) (fun h => ?_)
  · refine j_iconst (pc := 16) dX7_add_16 ic_0 ?_
    cases h
    exact j_zret (pc := 17) rfl (Or.inl rfl) dX7_add_17 (Nat.le_of_ble_eq_true rfl) (Nat.le_of_ble_eq_true rfl) (jd_i rfl rfl)
  · refine j_aload_n (pc := 7) 0 dX7_add_7 rfl rfl ?_
    refine j_get (pc := 8) (v := .int v_o_held) 0 2 rfl rfl (Nat.le_of_ble_eq_true rfl) iwX7 m1_92 rfl dX7_add_8 ?_
    refine j_bipush (pc := 11) dX7_add_11 bc_8 ?_
    refine j_icmp_lt (pc := 13) (tgt := 18) dX7_add_13 (by decide) h (fun h => ?_) (fun h => ?_)
    · refine j_aload_n (pc := 18) 0 dX7_add_18 rfl rfl ?_
      refine j_get (pc := 19) (v := .ref a_o_cards) 0 0 rfl rfl (Nat.le_of_ble_eq_true rfl) iwX7 m1_90 rfl dX7_add_19 ?_
      refine j_aload_n (pc := 22) 0 dX7_add_22 rfl rfl ?_
      refine j_get (pc := 23) (v := .int v_o_held) 0 2 rfl rfl (Nat.le_of_ble_eq_true rfl) iwX7 m1_92 rfl dX7_add_23 ?_
      refine j_iload_n (pc := 26) 1 dX7_add_26 rfl rfl ?_
      refine j_iast (pc := 27) (w' := [jO a_o 4 [.ref a_o_cards, .ref a_o_places, .int v_o_held], jI E a_o_cards 8 (upd f_o_cards v_o_held.toNatClampNeg x1), jI E a_o_places 8 f_o_places]) 1 rfl dX7_add_27 h rfl (fun h => ?_)
      refine j_aload_n (pc := 28) 0 dX7_add_28 rfl rfl ?_
      refine j_get (pc := 29) (v := .ref a_o_places) 0 1 rfl rfl (Nat.le_of_ble_eq_true rfl) iwX7 m1_91 rfl dX7_add_29 ?_
      refine j_aload_n (pc := 32) 0 dX7_add_32 rfl rfl ?_
      refine j_get (pc := 33) (v := .int v_o_held) 0 2 rfl rfl (Nat.le_of_ble_eq_true rfl) iwX7 m1_92 rfl dX7_add_33 ?_
      refine j_iload_n (pc := 36) 2 dX7_add_36 rfl rfl ?_
      refine j_iast (pc := 37) (w' := [jO a_o 4 [.ref a_o_cards, .ref a_o_places, .int v_o_held], jI E a_o_cards 8 (upd f_o_cards v_o_held.toNatClampNeg x1), jI E a_o_places 8 (upd f_o_places v_o_held.toNatClampNeg x2)]) 2 rfl dX7_add_37 h rfl (fun h => ?_)
      refine j_aload_n (pc := 38) 0 dX7_add_38 rfl rfl ?_
      refine j_dup (pc := 39) dX7_add_39 rfl ?_
      refine j_get (pc := 40) (v := .int v_o_held) 0 2 rfl rfl (Nat.le_of_ble_eq_true rfl) iwX7 m1_92 rfl dX7_add_40 ?_
      refine j_iconst (pc := 43) dX7_add_43 ic_1 ?_
      refine j_iadd (pc := 44) dX7_add_44 ?_
      refine j_put (pc := 45) (w' := [jO a_o 4 [.ref a_o_cards, .ref a_o_places, .int (v_o_held + (1 : Int32))], jI E a_o_cards 8 (upd f_o_cards v_o_held.toNatClampNeg x1), jI E a_o_places 8 (upd f_o_places v_o_held.toNatClampNeg x2)]) tyX7 0 2 tyX7_ok nmX7 rfl rfl (Nat.le_of_ble_eq_true rfl) iwX7 m1_92 rfl rfl rfl rfl (Nat.le_of_ble_eq_true rfl) dX7_add_45 rfl ?_
      refine j_iconst (pc := 48) dX7_add_48 ic_1 ?_
      cases h
      exact j_zret (pc := 49) rfl (Or.inr rfl) dX7_add_49 (Nat.le_of_ble_eq_true rfl) (Nat.le_of_ble_eq_true rfl) (jd_i rfl rfl)
    · refine j_iconst (pc := 16) dX7_add_16 ic_0 ?_
      cases h
      exact j_zret (pc := 17) rfl (Or.inl rfl) dX7_add_17 (Nat.le_of_ble_eq_true rfl) (Nat.le_of_ble_eq_true rfl) (jd_i rfl rfl)
set_option maxRecDepth 20000 in
theorem w_X7_fit_2 {l : Launch} {E : jE} {F : Nat} {x1 : Int64} {v_o_held : Int32} {f_o_cards : Nat → Int32} {f_o_places : Nat → Int32} {a_o a_o_cards a_o_places : Nat} : ∀ (n : Nat) (x3 : Int32) (u : Int32), g_X7_fit_2 F x1 v_o_held f_o_cards f_o_places n x3 = some u → jT l E K_X7_fit 0 0 2 [(0, .ref a_o), (1, .long x1), (3, .int x3)] [] [jO a_o 4 [.ref a_o_cards, .ref a_o_places, .int v_o_held], jI E a_o_cards 8 f_o_cards, jI E a_o_places 8 f_o_places] (jd (some (.int u)) [jO a_o 4 [.ref a_o_cards, .ref a_o_places, .int v_o_held], jI E a_o_cards 8 f_o_cards, jI E a_o_places 8 f_o_places]) := by
  intro n
  induction n with
  | zero =>
    intro x3 u h
    rw [g_X7_fit_2] at h
    cases h
  | succ n ih =>
    intro x3 u h
    rw [g_X7_fit_2] at h
    refine j_iload_n (pc := 2) 2 dX7_fit_2 rfl rfl ?_
    refine j_aload_n (pc := 3) 0 dX7_fit_3 rfl rfl ?_
    refine j_get (pc := 4) (v := .int v_o_held) 0 2 rfl rfl (Nat.le_of_ble_eq_true rfl) iwX7 m1_92 rfl dX7_fit_4 ?_
    refine j_icmp_ge (pc := 7) (tgt := 43) dX7_fit_7 (by decide) h (fun h => ?_) (fun h => ?_)
    · refine j_iconst (pc := 43) dX7_fit_43 ic_1 ?_
      cases h
      exact j_zret (pc := 44) rfl (Or.inr rfl) dX7_fit_44 (Nat.le_of_ble_eq_true rfl) (Nat.le_of_ble_eq_true rfl) (jd_i rfl rfl)
    · refine j_iload_n (pc := 10) 2 dX7_fit_10 rfl rfl ?_
      refine j_bipush (pc := 11) dX7_fit_11 bc_8 ?_
      refine j_icmp_ge (pc := 13) (tgt := 43) dX7_fit_13 (by decide) h (fun h => ?_) (fun h => ?_)
      · refine j_iconst (pc := 43) dX7_fit_43 ic_1 ?_
        cases h
        exact j_zret (pc := 44) rfl (Or.inr rfl) dX7_fit_44 (Nat.le_of_ble_eq_true rfl) (Nat.le_of_ble_eq_true rfl) (jd_i rfl rfl)
      · refine j_lload_n (pc := 16) 1 dX7_fit_16 rfl rfl ?_
        refine j_aload_n (pc := 17) 0 dX7_fit_17 rfl rfl ?_
        refine j_get (pc := 18) (v := .ref a_o_places) 0 1 rfl rfl (Nat.le_of_ble_eq_true rfl) iwX7 m1_91 rfl dX7_fit_18 ?_
        refine j_iload_n (pc := 21) 2 dX7_fit_21 rfl rfl ?_
        refine j_iald (pc := 22) 2 rfl dX7_fit_22 h (fun h => ?_)
        refine j_S0 (pc := 23) (Kc := K_X4_cardAt) (As := [.long x1, .int (f_o_places x3.toNatClampNeg)]) (rest := []) h c_X4_cardAt q_X4_cardAt m3_29 rfl rfl (Nat.le_of_ble_eq_true rfl) ⟨(Nat.le_of_ble_eq_true rfl), (Nat.le_of_ble_eq_true rfl)⟩ ⟨rfl, rfl⟩ ⟨(Nat.le_of_ble_eq_true rfl), (Nat.le_of_ble_eq_true rfl)⟩ dX7_fit_23 (fun b1 h => ?_)
        refine j_aload_n (pc := 26) 0 dX7_fit_26 rfl rfl ?_
        refine j_get (pc := 27) (v := .ref a_o_cards) 0 0 rfl rfl (Nat.le_of_ble_eq_true rfl) iwX7 m1_90 rfl dX7_fit_27 ?_
        refine j_iload_n (pc := 30) 2 dX7_fit_30 rfl rfl ?_
        refine j_iald (pc := 31) 1 rfl dX7_fit_31 h (fun h => ?_)
        refine j_icmp_eq (pc := 32) (tgt := 37) dX7_fit_32 (by decide) h (fun h => ?_) (fun h => ?_)
        · refine j_iinc (pc := 37) (j := 2) (lv' := [(3, .int (x3 + (1 : Int32))), (0, .ref a_o), (1, .long x1)]) dX7_fit_37 rfl (congrArg (fun z => x3 + z) ic_1) (Nat.le_of_ble_eq_true rfl) rfl ?_
          refine j_goto (pc := 40) (tgt := 2) dX7_fit_40 (by decide) ?_
          exact j_sub (lv' := [(0, .ref a_o), (1, .long x1), (3, .int (x3 + (1 : Int32)))]) [1, 2, 0] rfl (ih _ u h)
        · refine j_iconst (pc := 35) dX7_fit_35 ic_0 ?_
          cases h
          exact j_zret (pc := 36) rfl (Or.inl rfl) dX7_fit_36 (Nat.le_of_ble_eq_true rfl) (Nat.le_of_ble_eq_true rfl) (jd_i rfl rfl)
set_option maxRecDepth 20000 in
theorem c_X7_fit {l : Launch} {E : jE} {F : Nat} {x1 : Int64} {v_o_held : Int32} {f_o_cards : Nat → Int32} {f_o_places : Nat → Int32} {a_o a_o_cards a_o_places : Nat} : ∀ u : Int32, f_X7_fit F x1 v_o_held f_o_cards f_o_places = some u → jM l E K_X7_fit [.ref a_o, .long x1] [jO a_o 4 [.ref a_o_cards, .ref a_o_places, .int v_o_held], jI E a_o_cards 8 f_o_cards, jI E a_o_places 8 f_o_places] (jd (some (.int u)) [jO a_o 4 [.ref a_o_cards, .ref a_o_places, .int v_o_held], jI E a_o_cards 8 f_o_cards, jI E a_o_places 8 f_o_places]) := by
  intro u h
  unfold f_X7_fit at h
  refine j_met [(0, .ref a_o), (1, .long x1)] (by decide +kernel) (Nat.le_of_ble_eq_true rfl) rfl ?_
  refine j_iconst (pc := 0) dX7_fit_0 ic_0 ?_
  refine j_istore_n (pc := 1) (lv' := [(3, .int (0 : Int32)), (0, .ref a_o), (1, .long x1)]) dX7_fit_1 rfl (Nat.le_of_ble_eq_true rfl) rfl ?_
  exact j_sub (lv' := [(0, .ref a_o), (1, .long x1), (3, .int (0 : Int32))]) [1, 2, 0] rfl (w_X7_fit_2 _ _ u h)
set_option maxRecDepth 20000 in
theorem w_X4_sameCards_6 {l : Launch} {E : jE} {F : Nat} {x0 : Int64} {x2 : Int64} {x4 : Int32} : ∀ (n : Nat) (x5 : Int32) (x6 : Int32) (u : Int32), g_X4_sameCards_6 F x0 x2 x4 n x5 x6 = some u → jT l E K_X4_sameCards 0 0 6 [(0, .long x0), (2, .long x2), (4, .int x4), (5, .int x5), (6, .int x6)] [] [] (jd (some (.int u)) []) := by
  intro n
  induction n with
  | zero =>
    intro x5 x6 u h
    rw [g_X4_sameCards_6] at h
    cases h
  | succ n ih =>
    intro x5 x6 u h
    rw [g_X4_sameCards_6] at h
    refine j_iload (pc := 6) 4 dX4_sameCards_6 rfl ?_
    refine j_iload (pc := 8) 2 dX4_sameCards_8 rfl ?_
    refine j_icmp_ge (pc := 10) (tgt := 37) dX4_sameCards_10 (by decide) h (fun h => ?_) (fun h => ?_)
    · refine j_iload (pc := 37) 3 dX4_sameCards_37 rfl ?_
      cases h
      exact j_iret (pc := 39) rfl dX4_sameCards_39 (Nat.le_of_ble_eq_true rfl) (Nat.le_of_ble_eq_true rfl) (jd_i rfl rfl)
    · refine j_lload_n (pc := 13) 0 dX4_sameCards_13 rfl rfl ?_
      refine j_iload (pc := 14) 4 dX4_sameCards_14 rfl ?_
      refine j_S0 (pc := 16) (Kc := K_X4_cardAt) (As := [.long x0, .int x6]) (rest := []) h c_X4_cardAt q_X4_cardAt m1_179 rfl rfl (Nat.le_of_ble_eq_true rfl) ⟨(Nat.le_of_ble_eq_true rfl), (Nat.le_of_ble_eq_true rfl)⟩ ⟨rfl, rfl⟩ ⟨(Nat.le_of_ble_eq_true rfl), (Nat.le_of_ble_eq_true rfl)⟩ dX4_sameCards_16 (fun b1 h => ?_)
      refine j_lload_n (pc := 19) 1 dX4_sameCards_19 rfl rfl ?_
      refine j_iload (pc := 20) 4 dX4_sameCards_20 rfl ?_
      refine j_S0 (pc := 22) (Kc := K_X4_cardAt) (As := [.long x2, .int x6]) (rest := [.int b1]) h c_X4_cardAt q_X4_cardAt m1_179 rfl rfl (Nat.le_of_ble_eq_true rfl) ⟨(Nat.le_of_ble_eq_true rfl), (Nat.le_of_ble_eq_true rfl)⟩ ⟨rfl, rfl⟩ ⟨(Nat.le_of_ble_eq_true rfl), (Nat.le_of_ble_eq_true rfl)⟩ dX4_sameCards_22 (fun b2 h => ?_)
      refine j_icmp_ne (pc := 25) (tgt := 31) dX4_sameCards_25 (by decide) h (fun h => ?_) (fun h => ?_)
      · refine j_iinc (pc := 31) (j := 4) (lv' := [(6, .int (x6 + (1 : Int32))), (0, .long x0), (2, .long x2), (4, .int x4), (5, .int x5)]) dX4_sameCards_31 rfl (congrArg (fun z => x6 + z) ic_1) (Nat.le_of_ble_eq_true rfl) rfl ?_
        refine j_goto (pc := 34) (tgt := 6) dX4_sameCards_34 (by decide) ?_
        exact j_sub (lv' := [(0, .long x0), (2, .long x2), (4, .int x4), (5, .int x5), (6, .int (x6 + (1 : Int32)))]) [1, 2, 3, 4, 0] rfl (ih _ _ u h)
      · refine j_iinc (pc := 28) (j := 3) (lv' := [(5, .int (x5 + (1 : Int32))), (0, .long x0), (2, .long x2), (4, .int x4), (6, .int x6)]) dX4_sameCards_28 rfl (congrArg (fun z => x5 + z) ic_1) (Nat.le_of_ble_eq_true rfl) rfl ?_
        refine j_iinc (pc := 31) (j := 4) (lv' := [(6, .int (x6 + (1 : Int32))), (5, .int (x5 + (1 : Int32))), (0, .long x0), (2, .long x2), (4, .int x4)]) dX4_sameCards_31 rfl (congrArg (fun z => x6 + z) ic_1) (Nat.le_of_ble_eq_true rfl) rfl ?_
        refine j_goto (pc := 34) (tgt := 6) dX4_sameCards_34 (by decide) ?_
        exact j_sub (lv' := [(0, .long x0), (2, .long x2), (4, .int x4), (5, .int (x5 + (1 : Int32))), (6, .int (x6 + (1 : Int32)))]) [2, 3, 4, 1, 0] rfl (ih _ _ u h)
set_option maxRecDepth 20000 in
theorem c_X4_sameCards {l : Launch} {E : jE} {F : Nat} {x0 : Int64} {x2 : Int64} {x4 : Int32} : ∀ u : Int32, f_X4_sameCards F x0 x2 x4 = some u → jM l E K_X4_sameCards [.long x0, .long x2, .int x4] [] (jd (some (.int u)) []) := by
  intro u h
  unfold f_X4_sameCards at h
  refine j_met [(0, .long x0), (2, .long x2), (4, .int x4)] (by decide +kernel) (Nat.le_of_ble_eq_true rfl) rfl ?_
  refine j_iconst (pc := 0) dX4_sameCards_0 ic_0 ?_
  refine j_istore (pc := 1) (lv' := [(5, .int (0 : Int32)), (0, .long x0), (2, .long x2), (4, .int x4)]) dX4_sameCards_1 (Nat.le_of_ble_eq_true rfl) rfl ?_
  refine j_iconst (pc := 3) dX4_sameCards_3 ic_0 ?_
  refine j_istore (pc := 4) (lv' := [(6, .int (0 : Int32)), (5, .int (0 : Int32)), (0, .long x0), (2, .long x2), (4, .int x4)]) dX4_sameCards_4 (Nat.le_of_ble_eq_true rfl) rfl ?_
  exact j_sub (lv' := [(0, .long x0), (2, .long x2), (4, .int x4), (5, .int (0 : Int32)), (6, .int (0 : Int32))]) [2, 3, 4, 1, 0] rfl (w_X4_sameCards_6 _ _ _ u h)
