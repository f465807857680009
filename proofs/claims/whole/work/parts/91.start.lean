/-! from the entry -/
theorem l_arr {args : Array Value} {s : State} {ty : FieldType} (h : (Cond.arrayClass ty).before args s = true) : ∃ cA : ClassId, ArrOfT s cA ty ∧ s.vm.findClass ("[" ++ ty.toString) = some cA := by
  obtain ⟨cA, kA, comp, hfind, hk, hkind⟩ := Cond.arrayClass_spec h
  exact ⟨cA, fun n z => ⟨fun k h => (by cases h), kA, hk, comp, hkind⟩, hfind⟩
set_option maxRecDepth 20000 in
theorem l_nm14 : Cond.methodLinkNest RX2 52 yX9_within RX9 ∈ lw_tbl := List.mem_append_right _ (List.mem_append_right _ (List.mem_append_left _ (List.mem_of_getElem? (i := 233) rfl)))
set_option maxRecDepth 20000 in
theorem l_nm13 : Cond.methodLinkNest RX5 52 yX9_isKind RX9 ∈ lw_tbl := List.mem_append_right _ (List.mem_append_left _ (List.mem_of_getElem? (i := 154) rfl))
set_option maxRecDepth 20000 in
theorem l_nm12 : Cond.methodLinkNest RX5 46 yX9_within RX9 ∈ lw_tbl := List.mem_append_right _ (List.mem_append_left _ (List.mem_of_getElem? (i := 147) rfl))
set_option maxRecDepth 20000 in
theorem l_nm11 : Cond.methodLinkNest RX9 54 yX2_init RX9 ∈ lw_tbl := List.mem_append_right _ (List.mem_append_left _ (List.mem_of_getElem? (i := 120) rfl))
set_option maxRecDepth 20000 in
theorem l_nm10 : Cond.methodLinkNest RX9 47 yX0_init RX9 ∈ lw_tbl := List.mem_append_right _ (List.mem_append_left _ (List.mem_of_getElem? (i := 104) rfl))
set_option maxRecDepth 20000 in
theorem l_nm9 : Cond.methodLinkNest RX9 40 yX7_init RX9 ∈ lw_tbl := List.mem_append_right _ (List.mem_append_left _ (List.mem_of_getElem? (i := 86) rfl))
set_option maxRecDepth 20000 in
theorem l_nm8 : Cond.methodLinkNest RX9 18 yX5_init RX9 ∈ lw_tbl := List.mem_append_right _ (List.mem_append_left _ (List.mem_of_getElem? (i := 42) rfl))
set_option maxRecDepth 20000 in
theorem l_nm7 : Cond.methodLinkNest RX9 9 yX8_init RX9 ∈ lw_tbl := List.mem_append_right _ (List.mem_append_left _ (List.mem_of_getElem? (i := 24) rfl))
set_option maxRecDepth 20000 in
theorem l_nm6 : Cond.fieldLinkNest RX2 15 RX5 "cards" "I" RX9 ∈ lw_tbl := List.mem_append_right _ (List.mem_append_left _ (List.mem_of_getElem? (i := 47) rfl))
set_option maxRecDepth 20000 in
theorem l_nm5 : Cond.fieldLinkNest RX9 230 RX5 "acts" "I" RX9 ∈ lw_tbl := List.mem_append_right _ (List.mem_append_left _ (List.mem_of_getElem? (i := 51) rfl))
set_option maxRecDepth 20000 in
theorem l_nm4 : Cond.fieldLinkNest RX9 136 RX5 "deal" "J" RX9 ∈ lw_tbl := List.mem_append_right _ (List.mem_append_left _ (List.mem_of_getElem? (i := 53) rfl))
set_option maxRecDepth 20000 in
theorem l_nm3 : Cond.fieldLinkNest RX9 98 RX6 "held" "I" RX9 ∈ lw_tbl := List.mem_append_right _ (List.mem_append_left _ (List.mem_of_getElem? (i := 77) rfl))
set_option maxRecDepth 20000 in
theorem l_nm2 : Cond.fieldLinkNest RX9 95 RX7 "held" "I" RX9 ∈ lw_tbl := List.mem_append_right _ (List.mem_append_left _ (List.mem_of_getElem? (i := 93) rfl))
set_option maxRecDepth 20000 in
theorem l_nm1 : Cond.fieldLinkNest RX9 84 RX8 "length" "I" RX9 ∈ lw_tbl := List.mem_append_right _ (List.mem_append_left _ (List.mem_of_getElem? (i := 30) rfl))
set_option maxRecDepth 20000 in
theorem l_nm0 : Cond.fieldLinkNest RX9 62 RX5 "cards" "I" RX9 ∈ lw_tbl := List.mem_append_right _ (List.mem_append_left _ (List.mem_of_getElem? (i := 46) rfl))
theorem l_jN : ∀ w ∈ jNl, w ∈ lw_tbl := List.forall_mem_cons.mpr ⟨l_nm0, List.forall_mem_cons.mpr ⟨l_nm1, List.forall_mem_cons.mpr ⟨l_nm2, List.forall_mem_cons.mpr ⟨l_nm3, List.forall_mem_cons.mpr ⟨l_nm4, List.forall_mem_cons.mpr ⟨l_nm5, List.forall_mem_cons.mpr ⟨l_nm6, List.forall_mem_cons.mpr ⟨l_nm7, List.forall_mem_cons.mpr ⟨l_nm8, List.forall_mem_cons.mpr ⟨l_nm9, List.forall_mem_cons.mpr ⟨l_nm10, List.forall_mem_cons.mpr ⟨l_nm11, List.forall_mem_cons.mpr ⟨l_nm12, List.forall_mem_cons.mpr ⟨l_nm13, List.forall_mem_cons.mpr ⟨l_nm14, fun _ h => absurd h List.not_mem_nil⟩⟩⟩⟩⟩⟩⟩⟩⟩⟩⟩⟩⟩⟩⟩
theorem l_jNs {args : Array Value} {s : State} (h : ∀ w ∈ lw_tbl, w.before args s = true) : jN s := by
  intro w hw
  have h1 := h w (l_jN w hw)
  simp only [jNl, List.mem_cons, List.not_mem_nil, or_false] at hw
  rcases hw with rfl | rfl | rfl | rfl | rfl | rfl | rfl | rfl | rfl | rfl | rfl | rfl | rfl | rfl | rfl <;> exact va_Nw.of rfl h1
set_option maxRecDepth 20000 in
set_option maxHeartbeats 4000000 in
theorem whole_start {p : Program} {e : Env} {s : State} {m : MethodId} {below : List Frame} {meth : Method} {c : Code} (l : Launch) (hflags : l.flags = flags0) {b L : Nat} {xs : Nat → Int32} (hL : L ≤ 3072) (C0 : lw_At p s m meth c b L xs) : W p l e room_1 s m #[Value.ref b] below meth c s.heap [] 0 0 (lw_Z below #[Value.ref b] s) (entryFrame m ([Value.ref b] : List Value).toArray 4) := by
  obtain ⟨hx, hb, hr, hml, hown, hts, hX, hbl, hlocks, hgv⟩ := C0
  obtain ⟨c0, iS0, hKn0⟩ := u_known (C := RX0) (T := TX0) (N := 3) (n := 3) (jB_hts hts) iwX0 (jB_hts hts _ m1_103)
  obtain ⟨c1, iS1, hKn1⟩ := u_known (C := RX2) (T := TX2) (N := 1) (n := 1) (jB_hts hts) iwX2 (jB_hts hts _ m1_119)
  obtain ⟨c2, iS2, hKn2⟩ := u_known (C := RX5) (T := TX5) (N := 5) (n := 5) (jB_hts hts) iwX5 (jB_hts hts _ m1_41)
  obtain ⟨c3, iS3, hKn3⟩ := u_known (C := RX6) (T := TX6) (N := 2) (n := 2) (jB_hts hts) iwX6 (jB_hts hts _ m1_67)
  obtain ⟨c4, iS4, hKn4⟩ := u_known (C := RX7) (T := TX7) (N := 3) (n := 3) (jB_hts hts) iwX7 (jB_hts hts _ m1_85)
  obtain ⟨c5, iS5, hKn5⟩ := u_known (C := RX8) (T := TX8) (N := 3) (n := 3) (jB_hts hts) iwX8 (jB_hts hts _ m1_23)
  obtain ⟨c6, iS6, hKn6⟩ := u_known (C := RX9) (T := TX9) (N := 9) (n := 9) (jB_hts hts) iwX9 (jB_hts hts _ m1_15)
  obtain ⟨c7, iS7, hKn7⟩ := u_known (C := RX10) (T := TX10) (N := 27) (n := 27) (jB_hts hts) iwX10 (jB_hts hts _ m3_81)
  obtain ⟨dC, dI, hKc⟩ : ∃ (dC : Nat → ClassId) (dI : Nat → Nat → Nat), ∀ (k : Nat) (q : vw_C), vwCl[k]? = some q → u_Kn s q.1 q.2.1 q.2.2 (dC k) (dI k) := by
    refine ⟨fun k => if k = 0 then c0 else if k = 1 then c1 else if k = 2 then c2 else if k = 3 then c3 else if k = 4 then c4 else if k = 5 then c5 else if k = 6 then c6 else c7, fun k => if k = 0 then iS0 else if k = 1 then iS1 else if k = 2 then iS2 else if k = 3 then iS3 else if k = 4 then iS4 else if k = 5 then iS5 else if k = 6 then iS6 else iS7, ?_⟩
    intro k q hq
    match k, hq with
    | 0, hq => cases hq; exact hKn0
    | 1, hq => cases hq; exact hKn1
    | 2, hq => cases hq; exact hKn2
    | 3, hq => cases hq; exact hKn3
    | 4, hq => cases hq; exact hKn4
    | 5, hq => cases hq; exact hKn5
    | 6, hq => cases hq; exact hKn6
    | 7, hq => cases hq; exact hKn7
    | k + 8, hq => simp [vwCl] at hq
  obtain ⟨cI, cI1, cI2⟩ := l_arr (jB_hts hts _ m1_101)
  obtain ⟨cJ, cJ1, cJ2⟩ := l_arr (jB_hts hts _ m1_83)
  obtain ⟨cH, cH1, cH2⟩ := l_arr (jB_hts hts _ m1_39)
  have X : lX p s m meth c b L xs ((dC, dI), cI, cJ, cH) := ⟨⟨hx, hb, hml, hown, jB_hts hts, hr, hlocks, rfl, ⟨hKc, fun k q h => by
      match k, h with
      | 0, h => cases h; exact ⟨cI1, cI2⟩
      | 1, h => cases h; exact ⟨cJ1, cJ2⟩
      | 2, h => cases h; exact ⟨cH1, cH2⟩
      | k + 3, h => simp [jt] at h⟩, l_jNs hts, fun q h => h⟩, hX, hbl⟩
  obtain ⟨u, v, hu, hv, hR⟩ := st_init
  have hP : va_P ((dC, dI) : va_G) vwCl [] s.heap := fun k q h => by simp at h
  have hD : va_D (fun q : Nat => s.heap.size ≤ q) [] := ⟨fun i j p q h => by simp at h, fun k q h => by simp at h⟩
  have hl := lv_entry ([.ref b]) (n := 4) (Nat.le_of_ble_eq_true rfl)
  rw [lg_entry_eq]
  refine (?_ : lT p l e s m below meth c b ((dC, dI), cI, cJ, cH) 0 0 0 [(0, .ref b)] [] []) s.heap [] _ hP hD va_S.rf hl
  refine lt_new X (pc := 0) (fs := [.null, .null, .null, .null, .null, .null, .null, .null, .long (0 : Int64)]) (w' := fun a_x => [jO a_x 6 [.null, .null, .null, .null, .null, .null, .null, .null, .long (0 : Int64)]]) tyX9 tyX9_ok rfl iwX9 m1_14 m1_15 m1_1 (fun j hj => by rcases (show j = 0 ∨ j = 1 ∨ j = 2 ∨ j = 3 ∨ j = 4 ∨ j = 5 ∨ j = 6 ∨ j = 7 ∨ j = 8 by omega) with rfl | rfl | rfl | rfl | rfl | rfl | rfl | rfl | rfl <;> rfl) (by decide) (by decide) dL_law_0 (fun _ => rfl) (fun a_x => ?_)
  refine lt_dup X (pc := 3) dL_law_3 rfl ?_
  refine lt_I X (pc := 4) (Kc := K_X9_init) (As := []) (rest := [.ref a_x]) (wc := [jO a_x 6 [.null, .null, .null, .null, .null, .null, .null, .null, .long (0 : Int64)]]) [0] [] (c_X9_init u hu) q_X9_init m1_16 rfl rfl (Nat.le_of_ble_eq_true rfl) ⟨(Nat.le_of_ble_eq_true rfl), (Nat.le_of_ble_eq_true rfl)⟩ ⟨by decide, by decide⟩ dL_law_4 rfl (by decide) rfl (by decide) (by decide) (fun r w1 hp => hp.1) (fun w1 hp => ?_)
  obtain ⟨-, a_x_text, a_x_text_letters, a_x_draft, a_x_laid, a_x_past, a_x_past_stored, a_x_kept, a_x_kept_stored, a_x_sightings, a_x_sightings_cards, a_x_sightings_places, a_x_finder, a_x_finder_stepsFrom, a_x_finder_pairTree, a_x_finder_found, a_x_mix, a_x_mix_ways, rfl⟩ := hp
  refine lt_world (w' := [jO a_x 6 [.ref a_x_text, .ref a_x_draft, .ref a_x_laid, .ref a_x_past, .ref a_x_kept, .ref a_x_sightings, .ref a_x_finder, .ref a_x_mix, .long u.2], jO a_x_text 5 [.ref a_x_text_letters, .int (0 : Int32), .int (0 : Int32)], jH ((dC, dI), cI, cJ, cH) a_x_text_letters 200 (fun _ => 0), jO a_x_draft 2 [.int (0 : Int32), .int (0 : Int32), .int (0 : Int32), .long (0 : Int64), .int (0 : Int32)], jO a_x_laid 2 [.int u.1.1, .int u.1.2.1, .int u.1.2.2.1, .long u.1.2.2.2.1, .int u.1.2.2.2.2], jO a_x_past 3 [.ref a_x_past_stored, .int (0 : Int32)], jJ ((dC, dI), cI, cJ, cH) a_x_past_stored 8 (fun _ => 0), jO a_x_kept 3 [.ref a_x_kept_stored, .int (0 : Int32)], jJ ((dC, dI), cI, cJ, cH) a_x_kept_stored 2 (fun _ => 0), jO a_x_sightings 4 [.ref a_x_sightings_cards, .ref a_x_sightings_places, .int (0 : Int32)], jI ((dC, dI), cI, cJ, cH) a_x_sightings_cards 8 (fun _ => 0), jI ((dC, dI), cI, cJ, cH) a_x_sightings_places 8 (fun _ => 0), jO a_x_finder 0 [.ref a_x_finder_stepsFrom, .ref a_x_finder_pairTree, .ref a_x_finder_found], jI ((dC, dI), cI, cJ, cH) a_x_finder_stepsFrom 16 (fun _ => 0), jI ((dC, dI), cI, cJ, cH) a_x_finder_pairTree 511 (fun _ => 0), jJ ((dC, dI), cI, cJ, cH) a_x_finder_found 127 (fun _ => 0), jO a_x_mix 1 [.ref a_x_mix_ways], jI ((dC, dI), cI, cJ, cH) a_x_mix_ways 289 (fun _ => 0)]) rfl ?_
  refine lt_astore_n X (pc := 7) (lv' := [(1, .ref a_x), (0, .ref b)]) dL_law_7 rfl (by decide) rfl ?_
  refine lt_new X (pc := 8) (fs := [.int (0 : Int32), .null, .int (0 : Int32), .null, .null, .int (0 : Int32), .null, .int (0 : Int32), .null, .int (0 : Int32), .null, .null, .int (0 : Int32), .int (0 : Int32), .null, .int (0 : Int32), .int (0 : Int32), .null, .int (0 : Int32), .null, .null, .null, .null, .null, .null, .null, .int (0 : Int32)]) (w' := fun a_m => [jO a_x 6 [.ref a_x_text, .ref a_x_draft, .ref a_x_laid, .ref a_x_past, .ref a_x_kept, .ref a_x_sightings, .ref a_x_finder, .ref a_x_mix, .long u.2], jO a_x_text 5 [.ref a_x_text_letters, .int (0 : Int32), .int (0 : Int32)], jH ((dC, dI), cI, cJ, cH) a_x_text_letters 200 (fun _ => 0), jO a_x_draft 2 [.int (0 : Int32), .int (0 : Int32), .int (0 : Int32), .long (0 : Int64), .int (0 : Int32)], jO a_x_laid 2 [.int u.1.1, .int u.1.2.1, .int u.1.2.2.1, .long u.1.2.2.2.1, .int u.1.2.2.2.2], jO a_x_past 3 [.ref a_x_past_stored, .int (0 : Int32)], jJ ((dC, dI), cI, cJ, cH) a_x_past_stored 8 (fun _ => 0), jO a_x_kept 3 [.ref a_x_kept_stored, .int (0 : Int32)], jJ ((dC, dI), cI, cJ, cH) a_x_kept_stored 2 (fun _ => 0), jO a_x_sightings 4 [.ref a_x_sightings_cards, .ref a_x_sightings_places, .int (0 : Int32)], jI ((dC, dI), cI, cJ, cH) a_x_sightings_cards 8 (fun _ => 0), jI ((dC, dI), cI, cJ, cH) a_x_sightings_places 8 (fun _ => 0), jO a_x_finder 0 [.ref a_x_finder_stepsFrom, .ref a_x_finder_pairTree, .ref a_x_finder_found], jI ((dC, dI), cI, cJ, cH) a_x_finder_stepsFrom 16 (fun _ => 0), jI ((dC, dI), cI, cJ, cH) a_x_finder_pairTree 511 (fun _ => 0), jJ ((dC, dI), cI, cJ, cH) a_x_finder_found 127 (fun _ => 0), jO a_x_mix 1 [.ref a_x_mix_ways], jI ((dC, dI), cI, cJ, cH) a_x_mix_ways 289 (fun _ => 0), jO a_m 7 [.int (0 : Int32), .null, .int (0 : Int32), .null, .null, .int (0 : Int32), .null, .int (0 : Int32), .null, .int (0 : Int32), .null, .null, .int (0 : Int32), .int (0 : Int32), .null, .int (0 : Int32), .int (0 : Int32), .null, .int (0 : Int32), .null, .null, .null, .null, .null, .null, .null, .int (0 : Int32)]]) tyX10 tyX10_ok rfl iwX10 m3_80 m3_81 m1_11 (fun j hj => by rcases (show j = 0 ∨ j = 1 ∨ j = 2 ∨ j = 3 ∨ j = 4 ∨ j = 5 ∨ j = 6 ∨ j = 7 ∨ j = 8 ∨ j = 9 ∨ j = 10 ∨ j = 11 ∨ j = 12 ∨ j = 13 ∨ j = 14 ∨ j = 15 ∨ j = 16 ∨ j = 17 ∨ j = 18 ∨ j = 19 ∨ j = 20 ∨ j = 21 ∨ j = 22 ∨ j = 23 ∨ j = 24 ∨ j = 25 ∨ j = 26 by omega) with rfl | rfl | rfl | rfl | rfl | rfl | rfl | rfl | rfl | rfl | rfl | rfl | rfl | rfl | rfl | rfl | rfl | rfl | rfl | rfl | rfl | rfl | rfl | rfl | rfl | rfl | rfl <;> rfl) (by decide) (by decide) dL_law_8 (fun _ => rfl) (fun a_m => ?_)
  refine lt_dup X (pc := 11) dL_law_11 rfl ?_
  refine lt_I X (pc := 12) (Kc := K_X10_init) (As := []) (rest := [.ref a_m]) (wc := [jO a_m 7 [.int (0 : Int32), .null, .int (0 : Int32), .null, .null, .int (0 : Int32), .null, .int (0 : Int32), .null, .int (0 : Int32), .null, .null, .int (0 : Int32), .int (0 : Int32), .null, .int (0 : Int32), .int (0 : Int32), .null, .int (0 : Int32), .null, .null, .null, .null, .null, .null, .null, .int (0 : Int32)]]) [18] [0, 1, 2, 3, 4, 5, 6, 7, 8, 9, 10, 11, 12, 13, 14, 15, 16, 17] (c_X10_init v hv) q_X10_init m3_82 rfl rfl (Nat.le_of_ble_eq_true rfl) ⟨(Nat.le_of_ble_eq_true rfl), (Nat.le_of_ble_eq_true rfl)⟩ ⟨by decide, by decide⟩ dL_law_12 rfl (by decide) rfl (by decide) (by decide) (fun r w1 hp => hp.1) (fun w1 hp => ?_)
  obtain ⟨-, a_m_colour, a_m_deal, a_m_st, a_m_was, a_m_kept, a_m_seen, a_m_text, a_m_told, a_m_readColour, a_m_readDeal, a_m_now, a_m_then, a_m_ring, a_m_goes, a_m_far, a_m_met, rfl⟩ := hp
  refine lt_world (w' := [jO a_x 6 [.ref a_x_text, .ref a_x_draft, .ref a_x_laid, .ref a_x_past, .ref a_x_kept, .ref a_x_sightings, .ref a_x_finder, .ref a_x_mix, .long u.2], jO a_x_text 5 [.ref a_x_text_letters, .int (0 : Int32), .int (0 : Int32)], jH ((dC, dI), cI, cJ, cH) a_x_text_letters 200 (fun _ => 0), jO a_x_draft 2 [.int (0 : Int32), .int (0 : Int32), .int (0 : Int32), .long (0 : Int64), .int (0 : Int32)], jO a_x_laid 2 [.int u.1.1, .int u.1.2.1, .int u.1.2.2.1, .long u.1.2.2.2.1, .int u.1.2.2.2.2], jO a_x_past 3 [.ref a_x_past_stored, .int (0 : Int32)], jJ ((dC, dI), cI, cJ, cH) a_x_past_stored 8 (fun _ => 0), jO a_x_kept 3 [.ref a_x_kept_stored, .int (0 : Int32)], jJ ((dC, dI), cI, cJ, cH) a_x_kept_stored 2 (fun _ => 0), jO a_x_sightings 4 [.ref a_x_sightings_cards, .ref a_x_sightings_places, .int (0 : Int32)], jI ((dC, dI), cI, cJ, cH) a_x_sightings_cards 8 (fun _ => 0), jI ((dC, dI), cI, cJ, cH) a_x_sightings_places 8 (fun _ => 0), jO a_x_finder 0 [.ref a_x_finder_stepsFrom, .ref a_x_finder_pairTree, .ref a_x_finder_found], jI ((dC, dI), cI, cJ, cH) a_x_finder_stepsFrom 16 (fun _ => 0), jI ((dC, dI), cI, cJ, cH) a_x_finder_pairTree 511 (fun _ => 0), jJ ((dC, dI), cI, cJ, cH) a_x_finder_found 127 (fun _ => 0), jO a_x_mix 1 [.ref a_x_mix_ways], jI ((dC, dI), cI, cJ, cH) a_x_mix_ways 289 (fun _ => 0), jO a_m 7 [.int v.2.2.1, .ref a_m_colour, .int v.2.2.2.1, .ref a_m_deal, .ref a_m_st, .int v.2.2.2.2.1, .ref a_m_was, .int v.2.2.2.2.2.1, .ref a_m_kept, .int v.2.2.2.2.2.2.1, .ref a_m_seen, .ref a_m_text, .int (0 : Int32), .int (0 : Int32), .ref a_m_told, .int v.1.1, .int (10 : Int32), .ref a_m_readColour, .int (3 : Int32), .ref a_m_readDeal, .ref a_m_now, .ref a_m_then, .ref a_m_ring, .ref a_m_goes, .ref a_m_far, .ref a_m_met, .int (0 : Int32)], jI ((dC, dI), cI, cJ, cH) a_m_colour 16 v.2.2.2.2.2.2.2.1, jI ((dC, dI), cI, cJ, cH) a_m_deal 16 v.2.2.2.2.2.2.2.2.1, jI ((dC, dI), cI, cJ, cH) a_m_st 16 v.2.2.2.2.2.2.2.2.2, jI ((dC, dI), cI, cJ, cH) a_m_was 128 (fun _ => 0), jI ((dC, dI), cI, cJ, cH) a_m_kept 32 (fun _ => 0), jI ((dC, dI), cI, cJ, cH) a_m_seen 16 (fun _ => 0), jI ((dC, dI), cI, cJ, cH) a_m_text 200 (fun _ => 0), jI ((dC, dI), cI, cJ, cH) a_m_told 2 (fun _ => 0), jI ((dC, dI), cI, cJ, cH) a_m_readColour 16 (upd (upd v.2.1 (3 : Int32).toNatClampNeg (0 : Int32)) (4 : Int32).toNatClampNeg (2 : Int32)), jI ((dC, dI), cI, cJ, cH) a_m_readDeal 16 (upd (upd (upd (fun _ => 0) (0 : Int32).toNatClampNeg (0 : Int32)) (1 : Int32).toNatClampNeg (9 : Int32)) (2 : Int32).toNatClampNeg (1 : Int32)), jI ((dC, dI), cI, cJ, cH) a_m_now 16 (fun _ => 0), jI ((dC, dI), cI, cJ, cH) a_m_then 16 (fun _ => 0), jI ((dC, dI), cI, cJ, cH) a_m_ring 32 (fun _ => 0), jI ((dC, dI), cI, cJ, cH) a_m_goes 32 (fun _ => 0), jI ((dC, dI), cI, cJ, cH) a_m_far 16 (fun _ => 0), jI ((dC, dI), cI, cJ, cH) a_m_met 2048 (fun _ => 0)]) rfl ?_
  refine lt_astore_n X (pc := 15) (lv' := [(2, .ref a_m), (1, .ref a_x), (0, .ref b)]) dL_law_15 rfl (by decide) rfl ?_
  refine lt_iconst X (pc := 16) dL_law_16 ic_0 ?_
  refine lt_istore_n X (pc := 17) (lv' := [(3, .int (nI 0)), (2, .ref a_m), (1, .ref a_x), (0, .ref b)]) dL_law_17 rfl (by decide) rfl ?_
  exact lw_loop X hL (L + 1) 0 _ _ _ _ _ _ _ _ _ _ _ _ _ _ _ _ _ _ _ _ _ _ _ _ _ _ _ _ _ _ _ _ _ _ _ _ _ _ _ _ _ _ _ _ _ _ _ _ _ _ _ _ (Nat.zero_le _) (by omega) hR
