/-! constants, callees, small rows of the walks -/
theorem jd_i {r r2 : Option Value} {w w2 : va_W} (h1 : r2 = r) (h2 : w2 = w) : jd r w r2 w2 := ⟨h1, h2⟩
theorem jbr {α : Type} {P : Prop} {c : Prop} {i : Decidable c} {a b o : Option α} (h : @ite _ c i a b = o) (kt : c → a = o → P) (kf : ¬ c → b = o → P) : P := if q : c then kt q ((if_pos q).symm.trans h) else kf q ((if_neg q).symm.trans h)
theorem j_ne {x v : Int32} {z : Int} (h : ¬ x = v) (hv : v.toInt = z) : x.toInt ≠ z := fun e => h (Int32.toInt_inj.mp (e.trans hv.symm))
theorem ic_m1 : Int32.ofInt (-1) = (-1 : Int32) := by decide
theorem ic_0 : Int32.ofInt 0 = (0 : Int32) := by decide
theorem ic_1 : Int32.ofInt 1 = (1 : Int32) := by decide
theorem ic_2 : Int32.ofInt 2 = (2 : Int32) := by decide
theorem ic_3 : Int32.ofInt 3 = (3 : Int32) := by decide
theorem ic_4 : Int32.ofInt 4 = (4 : Int32) := by decide
theorem ic_5 : Int32.ofInt 5 = (5 : Int32) := by decide
theorem bc_m4 : (Int8.ofInt (-4)).toInt32 = (-4 : Int32) := by decide
theorem bc_m3 : (Int8.ofInt (-3)).toInt32 = (-3 : Int32) := by decide
theorem bc_m2 : (Int8.ofInt (-2)).toInt32 = (-2 : Int32) := by decide
theorem bc_6 : (Int8.ofInt 6).toInt32 = (6 : Int32) := by decide
theorem bc_7 : (Int8.ofInt 7).toInt32 = (7 : Int32) := by decide
theorem bc_8 : (Int8.ofInt 8).toInt32 = (8 : Int32) := by decide
theorem bc_10 : (Int8.ofInt 10).toInt32 = (10 : Int32) := by decide
theorem bc_15 : (Int8.ofInt 15).toInt32 = (15 : Int32) := by decide
theorem bc_16 : (Int8.ofInt 16).toInt32 = (16 : Int32) := by decide
theorem bc_17 : (Int8.ofInt 17).toInt32 = (17 : Int32) := by decide
theorem bc_32 : (Int8.ofInt 32).toInt32 = (32 : Int32) := by decide
theorem bc_44 : (Int8.ofInt 44).toInt32 = (44 : Int32) := by decide
theorem bc_48 : (Int8.ofInt 48).toInt32 = (48 : Int32) := by decide
theorem bc_57 : (Int8.ofInt 57).toInt32 = (57 : Int32) := by decide
theorem bc_59 : (Int8.ofInt 59).toInt32 = (59 : Int32) := by decide
theorem bc_60 : (Int8.ofInt 60).toInt32 = (60 : Int32) := by decide
theorem bc_64 : (Int8.ofInt 64).toInt32 = (64 : Int32) := by decide
theorem bc_99 : (Int8.ofInt 99).toInt32 = (99 : Int32) := by decide
theorem bc_110 : (Int8.ofInt 110).toInt32 = (110 : Int32) := by decide
theorem bc_112 : (Int8.ofInt 112).toInt32 = (112 : Int32) := by decide
theorem bc_126 : (Int8.ofInt 126).toInt32 = (126 : Int32) := by decide
theorem sc_200 : (Int16.ofInt 200).toInt32 = (200 : Int32) := by decide
theorem sc_9999 : (Int16.ofInt 9999).toInt32 = (9999 : Int32) := by decide
theorem lc_0 : Int64.ofNat ((0 : Fin 2) : Nat) = (0 : Int64) := by decide
theorem lc_1 : Int64.ofNat ((1 : Fin 2) : Nat) = (1 : Int64) := by decide
set_option maxRecDepth 20000 in
theorem hw_abs_s : Cond.static Lib.Math.abs.name ∈ jB := jB_2 172 rfl rfl
set_option maxRecDepth 20000 in
theorem hw_max_s : Cond.static Lib.Math.max.name ∈ jB := jB_1 73 rfl rfl
set_option maxRecDepth 20000 in
theorem hw_math : Cond.initialized "java/lang/Math" ∈ jB := jB_1 5 rfl rfl
set_option maxRecDepth 20000 in
theorem hw_sys : Cond.initialized "java/lang/System" ∈ jB := jB_1 12 rfl rfl
set_option maxRecDepth 20000 in
theorem hw_abs_c : Cond.code Lib.Math.abs.name Lib.Math.abs.code 1 (some .int) ∈ jB := jB_2 173 rfl rfl
set_option maxRecDepth 20000 in
theorem hw_max_c : Cond.code Lib.Math.max.name Lib.Math.max.code 2 (some .int) ∈ jB := jB_1 74 rfl rfl
set_option maxRecDepth 20000 in
theorem hw_copy_s : Cond.static arraycopyName ∈ jB := jB_2 77 rfl rfl
set_option maxRecDepth 20000 in
theorem hw_copy_n : Cond.native arraycopyName ∈ jB := jB_2 78 rfl rfl
set_option maxRecDepth 20000 in
theorem iwX0 : ∀ w ∈ u_ws RX0 TX0 3, w ∈ jB := fun w h => (List.forall_mem_cons.mpr ⟨m1_111, List.forall_mem_cons.mpr ⟨m1_113, List.forall_mem_cons.mpr ⟨m1_115, fun _ h => absurd h List.not_mem_nil⟩⟩⟩ : ∀ w ∈ [Cond.laysFinal RX0 RX0 "stepsFrom" "[I", Cond.laysFinal RX0 RX0 "pairTree" "[I", Cond.laysFinal RX0 RX0 "found" "[J"], w ∈ jB) w h
set_option maxRecDepth 20000 in
theorem iwX2 : ∀ w ∈ u_ws RX2 TX2 1, w ∈ jB := fun w h => (List.forall_mem_cons.mpr ⟨m1_125, fun _ h => absurd h List.not_mem_nil⟩ : ∀ w ∈ [Cond.laysFinal RX2 RX2 "ways" "[I"], w ∈ jB) w h
set_option maxRecDepth 20000 in
theorem iwX5 : ∀ w ∈ u_ws RX5 TX5 5, w ∈ jB := fun w h => (List.forall_mem_cons.mpr ⟨m1_55, List.forall_mem_cons.mpr ⟨m1_57, List.forall_mem_cons.mpr ⟨m1_59, List.forall_mem_cons.mpr ⟨m1_61, List.forall_mem_cons.mpr ⟨m1_63, fun _ h => absurd h List.not_mem_nil⟩⟩⟩⟩⟩ : ∀ w ∈ [Cond.lays RX5 RX5 "cards" "I", Cond.lays RX5 RX5 "colours" "I", Cond.lays RX5 RX5 "acts" "I", Cond.lays RX5 RX5 "deal" "J", Cond.lays RX5 RX5 "cardsAreFixed" "Z"], w ∈ jB) w h
set_option maxRecDepth 20000 in
theorem iwX6 : ∀ w ∈ u_ws RX6 TX6 2, w ∈ jB := fun w h => (List.forall_mem_cons.mpr ⟨m1_78, List.forall_mem_cons.mpr ⟨m1_80, fun _ h => absurd h List.not_mem_nil⟩⟩ : ∀ w ∈ [Cond.laysFinal RX6 RX6 "stored" "[J", Cond.lays RX6 RX6 "held" "I"], w ∈ jB) w h
set_option maxRecDepth 20000 in
theorem iwX7 : ∀ w ∈ u_ws RX7 TX7 3, w ∈ jB := fun w h => (List.forall_mem_cons.mpr ⟨m1_94, List.forall_mem_cons.mpr ⟨m1_96, List.forall_mem_cons.mpr ⟨m1_98, fun _ h => absurd h List.not_mem_nil⟩⟩⟩ : ∀ w ∈ [Cond.laysFinal RX7 RX7 "cards" "[I", Cond.laysFinal RX7 RX7 "places" "[I", Cond.lays RX7 RX7 "held" "I"], w ∈ jB) w h
set_option maxRecDepth 20000 in
theorem iwX8 : ∀ w ∈ u_ws RX8 TX8 3, w ∈ jB := fun w h => (List.forall_mem_cons.mpr ⟨m1_32, List.forall_mem_cons.mpr ⟨m1_34, List.forall_mem_cons.mpr ⟨m1_36, fun _ h => absurd h List.not_mem_nil⟩⟩⟩ : ∀ w ∈ [Cond.laysFinal RX8 RX8 "letters" "[C", Cond.lays RX8 RX8 "length" "I", Cond.lays RX8 RX8 "next" "I"], w ∈ jB) w h
set_option maxRecDepth 20000 in
theorem iwX9 : ∀ w ∈ u_ws RX9 TX9 9, w ∈ jB := fun w h => (List.forall_mem_cons.mpr ⟨m1_197, List.forall_mem_cons.mpr ⟨m1_199, List.forall_mem_cons.mpr ⟨m1_201, List.forall_mem_cons.mpr ⟨m1_203, List.forall_mem_cons.mpr ⟨m1_205, List.forall_mem_cons.mpr ⟨m1_207, List.forall_mem_cons.mpr ⟨m1_209, List.forall_mem_cons.mpr ⟨m1_211, List.forall_mem_cons.mpr ⟨m1_213, fun _ h => absurd h List.not_mem_nil⟩⟩⟩⟩⟩⟩⟩⟩⟩ : ∀ w ∈ [Cond.laysFinal RX9 RX9 "text" "LLacedPack$Text;", Cond.laysFinal RX9 RX9 "draft" "LLacedPack$Plan;", Cond.laysFinal RX9 RX9 "laid" "LLacedPack$Plan;", Cond.laysFinal RX9 RX9 "past" "LLacedPack$Shelf;", Cond.laysFinal RX9 RX9 "kept" "LLacedPack$Shelf;", Cond.laysFinal RX9 RX9 "sightings" "LLacedPack$Sightings;", Cond.laysFinal RX9 RX9 "finder" "LLacedPack$Finder;", Cond.laysFinal RX9 RX9 "mix" "LLacedPack$Mix;", Cond.lays RX9 RX9 "order" "J"], w ∈ jB) w h
set_option maxRecDepth 20000 in
theorem iwX10 : ∀ w ∈ u_ws RX10 TX10 27, w ∈ jB := fun w h => (List.forall_mem_cons.mpr ⟨m3_131, List.forall_mem_cons.mpr ⟨m3_133, List.forall_mem_cons.mpr ⟨m3_135, List.forall_mem_cons.mpr ⟨m3_137, List.forall_mem_cons.mpr ⟨m3_139, List.forall_mem_cons.mpr ⟨m3_141, List.forall_mem_cons.mpr ⟨m3_143, List.forall_mem_cons.mpr ⟨m3_145, List.forall_mem_cons.mpr ⟨m3_147, List.forall_mem_cons.mpr ⟨m3_149, List.forall_mem_cons.mpr ⟨m3_151, List.forall_mem_cons.mpr ⟨m3_153, List.forall_mem_cons.mpr ⟨m3_155, List.forall_mem_cons.mpr ⟨m3_157, List.forall_mem_cons.mpr ⟨m3_159, List.forall_mem_cons.mpr ⟨m3_161, List.forall_mem_cons.mpr ⟨m3_163, List.forall_mem_cons.mpr ⟨m3_165, List.forall_mem_cons.mpr ⟨m3_167, List.forall_mem_cons.mpr ⟨m3_169, List.forall_mem_cons.mpr ⟨m3_171, List.forall_mem_cons.mpr ⟨m3_173, List.forall_mem_cons.mpr ⟨m3_175, List.forall_mem_cons.mpr ⟨m3_177, List.forall_mem_cons.mpr ⟨m3_179, List.forall_mem_cons.mpr ⟨m3_181, List.forall_mem_cons.mpr ⟨m3_183, fun _ h => absurd h List.not_mem_nil⟩⟩⟩⟩⟩⟩⟩⟩⟩⟩⟩⟩⟩⟩⟩⟩⟩⟩⟩⟩⟩⟩⟩⟩⟩⟩⟩ : ∀ w ∈ [Cond.lays RX10 RX10 "cards" "I", Cond.laysFinal RX10 RX10 "colour" "[I", Cond.lays RX10 RX10 "dealMany" "I", Cond.laysFinal RX10 RX10 "deal" "[I", Cond.laysFinal RX10 RX10 "st" "[I", Cond.lays RX10 RX10 "acts" "I", Cond.laysFinal RX10 RX10 "was" "[I", Cond.lays RX10 RX10 "keeps" "I", Cond.laysFinal RX10 RX10 "kept" "[I", Cond.lays RX10 RX10 "seens" "I", Cond.laysFinal RX10 RX10 "seen" "[I", Cond.laysFinal RX10 RX10 "text" "[I", Cond.lays RX10 RX10 "texted" "I", Cond.lays RX10 RX10 "at" "I", Cond.laysFinal RX10 RX10 "told" "[I", Cond.lays RX10 RX10 "isBegun" "Z", Cond.lays RX10 RX10 "readCards" "I", Cond.laysFinal RX10 RX10 "readColour" "[I", Cond.lays RX10 RX10 "readDeals" "I", Cond.laysFinal RX10 RX10 "readDeal" "[I", Cond.laysFinal RX10 RX10 "now" "[I", Cond.laysFinal RX10 RX10 "then" "[I", Cond.laysFinal RX10 RX10 "ring" "[I", Cond.laysFinal RX10 RX10 "goes" "[I", Cond.laysFinal RX10 RX10 "far" "[I", Cond.laysFinal RX10 RX10 "met" "[I", Cond.lays RX10 RX10 "metMany" "I"], w ∈ jB) w h
abbrev K_X4_with : jK := (cX4_with, 4, some .long, yX4_with, { frames := 0, cells := 0, slots := 0, locals := 0 })
abbrev K_X4_inOrder : jK := (cX4_inOrder, 4, some .long, yX4_inOrder, { frames := 1, cells := 0, slots := 0, locals := 23 })
abbrev K_X5_begin : jK := (cX5_begin, 2, none, yX5_begin, { frames := 2, cells := 0, slots := 0, locals := 46 })
abbrev K_X9_within : jK := (cX9_within, 3, some .boolean, yX9_within, { frames := 0, cells := 0, slots := 0, locals := 0 })
abbrev K_X5_tellColour : jK := (cX5_tellColour, 3, some .boolean, yX5_tellColour, { frames := 1, cells := 0, slots := 0, locals := 22 })
abbrev K_X9_isKind : jK := (cX9_isKind, 1, some .boolean, yX9_isKind, { frames := 1, cells := 0, slots := 0, locals := 22 })
abbrev K_X4_cardAt : jK := (cX4_cardAt, 3, some .int, yX4_cardAt, { frames := 0, cells := 0, slots := 0, locals := 0 })
abbrev K_X3_downAndUnder : jK := (cX3_downAndUnder, 7, some .long, yX3_downAndUnder, { frames := 2, cells := 0, slots := 0, locals := 46 })
abbrev K_X3_source : jK := (cX3_source, 5, some .int, yX3_source, { frames := 0, cells := 0, slots := 0, locals := 0 })
abbrev K_X3_lacing : jK := (cX3_lacing, 5, some .long, yX3_lacing, { frames := 3, cells := 0, slots := 0, locals := 72 })
abbrev K_X4_moved : jK := (cX4_moved, 8, some .long, yX4_moved, { frames := 1, cells := 0, slots := 0, locals := 23 })
abbrev K_X5_addAct : jK := (cX5_addAct, 3, some .boolean, yX5_addAct, { frames := 2, cells := 0, slots := 0, locals := 50 })
abbrev K_X5_tellLacing : jK := (cX5_tellLacing, 2, some .boolean, yX5_tellLacing, { frames := 4, cells := 0, slots := 0, locals := 96 })
abbrev K_X3_cutAt : jK := (cX3_cutAt, 6, some .long, yX3_cutAt, { frames := 1, cells := 0, slots := 0, locals := 23 })
abbrev K_X5_tellCut : jK := (cX5_tellCut, 2, some .boolean, yX5_tellCut, { frames := 3, cells := 0, slots := 0, locals := 72 })
abbrev K_X5_tellFirst : jK := (cX5_tellFirst, 1, none, yX5_tellFirst, { frames := 5, cells := 0, slots := 0, locals := 117 })
abbrev K_X8_append : jK := (cX8_append, 2, some .boolean, yX8_append, { frames := 0, cells := 0, slots := 0, locals := 0 })
abbrev K_X9_write : jK := (cX9_write, 2, some .int, yX9_write, { frames := 1, cells := 0, slots := 0, locals := 22 })
abbrev K_X9_wipe : jK := (cX9_wipe, 2, some .int, yX9_wipe, { frames := 0, cells := 0, slots := 0, locals := 0 })
abbrev K_X5_tellNothing : jK := (cX5_tellNothing, 1, none, yX5_tellNothing, { frames := 3, cells := 0, slots := 0, locals := 67 })
abbrev K_X8_nextLetter : jK := (cX8_nextLetter, 2, some .int, yX8_nextLetter, { frames := 0, cells := 0, slots := 0, locals := 0 })
abbrev K_X8_figureOf : jK := (cX8_figureOf, 1, some .int, yX8_figureOf, { frames := 0, cells := 0, slots := 0, locals := 0 })
abbrev K_X8_readNumber : jK := (cX8_readNumber, 4, some .int, yX8_readNumber, { frames := 1, cells := 0, slots := 0, locals := 21 })
abbrev K_X5_tellCards : jK := (cX5_tellCards, 2, some .boolean, yX5_tellCards, { frames := 3, cells := 0, slots := 0, locals := 67 })
abbrev K_X8_readItem : jK := (cX8_readItem, 5, some .boolean, yX8_readItem, { frames := 5, cells := 0, slots := 0, locals := 117 })
abbrev K_X8_firstFault : jK := (cX8_firstFault, 4, some .int, yX8_firstFault, { frames := 6, cells := 0, slots := 0, locals := 141 })
abbrev K_X9_fault : jK := (cX9_fault, 1, some .int, yX9_fault, { frames := 7, cells := 0, slots := 0, locals := 164 })
abbrev K_X5_become : jK := (cX5_become, 2, none, yX5_become, { frames := 0, cells := 0, slots := 0, locals := 0 })
abbrev K_X9_lay : jK := (cX9_lay, 1, some .int, yX9_lay, { frames := 7, cells := 0, slots := 0, locals := 164 })
abbrev K_X9_isPlace : jK := (cX9_isPlace, 2, some .boolean, yX9_isPlace, { frames := 1, cells := 0, slots := 0, locals := 22 })
abbrev K_X9_at : jK := (cX9_at, 2, some .int, yX9_at, { frames := 2, cells := 0, slots := 0, locals := 43 })
abbrev K_X9_isCard : jK := (cX9_isCard, 2, some .boolean, yX9_isCard, { frames := 1, cells := 0, slots := 0, locals := 22 })
abbrev K_X4_placeOf : jK := (cX4_placeOf, 6, some .int, yX4_placeOf, { frames := 1, cells := 0, slots := 0, locals := 22 })
abbrev K_X9_where : jK := (cX9_where, 2, some .int, yX9_where, { frames := 2, cells := 0, slots := 0, locals := 47 })
abbrev K_X5_colourOf : jK := (cX5_colourOf, 2, some .int, yX5_colourOf, { frames := 0, cells := 0, slots := 0, locals := 0 })
abbrev K_X9_colour : jK := (cX9_colour, 2, some .int, yX9_colour, { frames := 2, cells := 0, slots := 0, locals := 43 })
abbrev K_X6_isFull : jK := (cX6_isFull, 1, some .boolean, yX6_isFull, { frames := 0, cells := 0, slots := 0, locals := 0 })
abbrev K_X6_put : jK := (cX6_put, 3, none, yX6_put, { frames := 1, cells := 0, slots := 0, locals := 40 })
abbrev K_X9_act : jK := (cX9_act, 3, some .int, yX9_act, { frames := 2, cells := 0, slots := 0, locals := 62 })
abbrev K_X9_lace : jK := (cX9_lace, 2, some .int, yX9_lace, { frames := 4, cells := 0, slots := 0, locals := 96 })
abbrev K_X9_cut : jK := (cX9_cut, 2, some .int, yX9_cut, { frames := 3, cells := 0, slots := 0, locals := 84 })
abbrev K_X3_turnedOver : jK := (cX3_turnedOver, 4, some .long, yX3_turnedOver, { frames := 1, cells := 0, slots := 0, locals := 23 })
abbrev K_X9_turn : jK := (cX9_turn, 1, some .int, yX9_turn, { frames := 3, cells := 0, slots := 0, locals := 84 })
abbrev K_X9_deal : jK := (cX9_deal, 1, some .int, yX9_deal, { frames := 3, cells := 0, slots := 0, locals := 84 })
abbrev K_X6_takeLast : jK := (cX6_takeLast, 1, some .long, yX6_takeLast, { frames := 0, cells := 0, slots := 0, locals := 0 })
abbrev K_X9_undo : jK := (cX9_undo, 1, some .int, yX9_undo, { frames := 1, cells := 0, slots := 0, locals := 20 })
abbrev K_X4_roundLength : jK := (cX4_roundLength, 6, some .int, yX4_roundLength, { frames := 1, cells := 0, slots := 0, locals := 22 })
abbrev K_X1_commonDivisor : jK := (cX1_commonDivisor, 6, some .int, yX1_commonDivisor, { frames := 0, cells := 0, slots := 0, locals := 0 })
abbrev K_X4_timesTillSame : jK := (cX4_timesTillSame, 7, some .int, yX4_timesTillSame, { frames := 2, cells := 0, slots := 0, locals := 47 })
abbrev K_X9_again : jK := (cX9_again, 2, some .int, yX9_again, { frames := 4, cells := 0, slots := 0, locals := 96 })
abbrev K_X9_round : jK := (cX9_round, 3, some .int, yX9_round, { frames := 4, cells := 0, slots := 0, locals := 96 })
abbrev K_X4_roundOf : jK := (cX4_roundOf, 7, some .int, yX4_roundOf, { frames := 1, cells := 0, slots := 0, locals := 22 })
abbrev K_X4_roundCount : jK := (cX4_roundCount, 6, some .int, yX4_roundCount, { frames := 2, cells := 0, slots := 0, locals := 48 })
abbrev K_X9_rounds : jK := (cX9_rounds, 2, some .int, yX9_rounds, { frames := 4, cells := 0, slots := 0, locals := 96 })
abbrev K_X3_goal : jK := (cX3_goal, 5, some .int, yX3_goal, { frames := 0, cells := 0, slots := 0, locals := 0 })
abbrev K_X0_fewestFrom : jK := (cX0_fewestFrom, 2, some .int, yX0_fewestFrom, { frames := 0, cells := 0, slots := 0, locals := 0 })
abbrev K_X0_isNextTo : jK := (cX0_isNextTo, 4, some .boolean, yX0_isNextTo, { frames := 1, cells := 0, slots := 0, locals := 24 })
abbrev K_X0_findWaysTo : jK := (cX0_findWaysTo, 5, none, yX0_findWaysTo, { frames := 2, cells := 0, slots := 0, locals := 47 })
abbrev K_X0_firstKind : jK := (cX0_firstKind, 4, some .int, yX0_firstKind, { frames := 1, cells := 0, slots := 0, locals := 24 })
abbrev K_X0_kindOnWay : jK := (cX0_kindOnWay, 7, some .int, yX0_kindOnWay, { frames := 2, cells := 0, slots := 0, locals := 47 })
abbrev K_X9_bring : jK := (cX9_bring, 5, some .int, yX9_bring, { frames := 3, cells := 0, slots := 0, locals := 73 })
abbrev K_X0_pairBehind : jK := (cX0_pairBehind, 3, some .int, yX0_pairBehind, { frames := 1, cells := 0, slots := 0, locals := 24 })
abbrev K_X0_depthOf : jK := (cX0_depthOf, 3, some .int, yX0_depthOf, { frames := 0, cells := 0, slots := 0, locals := 0 })
abbrev K_X0_fewestTillNeighbours : jK := (cX0_fewestTillNeighbours, 6, some .int, yX0_fewestTillNeighbours, { frames := 2, cells := 0, slots := 0, locals := 46 })
abbrev K_X9_beside : jK := (cX9_beside, 5, some .int, yX9_beside, { frames := 3, cells := 0, slots := 0, locals := 71 })
abbrev K_X0_heldWith : jK := (cX0_heldWith, 5, some .int, yX0_heldWith, { frames := 0, cells := 0, slots := 0, locals := 0 })
abbrev K_X0_countOrders : jK := (cX0_countOrders, 12, some .int, yX0_countOrders, { frames := 4, cells := 0, slots := 0, locals := 96 })
abbrev K_X9_orders : jK := (cX9_orders, 2, some .int, yX9_orders, { frames := 5, cells := 0, slots := 0, locals := 127 })
abbrev K_X4_risingRows : jK := (cX4_risingRows, 7, some .int, yX4_risingRows, { frames := 1, cells := 0, slots := 0, locals := 23 })
abbrev K_X9_rising : jK := (cX9_rising, 1, some .int, yX9_rising, { frames := 2, cells := 0, slots := 0, locals := 49 })
abbrev K_X5_areUnlike : jK := (cX5_areUnlike, 3, some .boolean, yX5_areUnlike, { frames := 1, cells := 0, slots := 0, locals := 21 })
abbrev K_X9_pairs : jK := (cX9_pairs, 3, some .int, yX9_pairs, { frames := 2, cells := 0, slots := 0, locals := 43 })
abbrev K_X2_dealtOff : jK := (cX2_dealtOff, 8, some .long, yX2_dealtOff, { frames := 1, cells := 0, slots := 0, locals := 23 })
abbrev K_X2_areUnlikeAt : jK := (cX2_areUnlikeAt, 5, some .boolean, yX2_areUnlikeAt, { frames := 2, cells := 0, slots := 0, locals := 43 })
abbrev K_X2_waysOf : jK := (cX2_waysOf, 3, some .int, yX2_waysOf, { frames := 1, cells := 0, slots := 0, locals := 22 })
abbrev K_X2_waysByLastPair : jK := (cX2_waysByLastPair, 8, some .int, yX2_waysByLastPair, { frames := 3, cells := 0, slots := 0, locals := 67 })
abbrev K_X2_setWays : jK := (cX2_setWays, 4, none, yX2_setWays, { frames := 1, cells := 0, slots := 0, locals := 22 })
abbrev K_X2_goodWays : jK := (cX2_goodWays, 10, some .int, yX2_goodWays, { frames := 4, cells := 0, slots := 0, locals := 94 })
abbrev K_X1_choices : jK := (cX1_choices, 4, some .int, yX1_choices, { frames := 0, cells := 0, slots := 0, locals := 0 })
abbrev K_X1_partOf : jK := (cX1_partOf, 4, some .int, yX1_partOf, { frames := 1, cells := 0, slots := 0, locals := 25 })
abbrev K_X9_sure : jK := (cX9_sure, 4, some .int, yX9_sure, { frames := 5, cells := 0, slots := 0, locals := 123 })
abbrev K_X7_add : jK := (cX7_add, 3, some .boolean, yX7_add, { frames := 0, cells := 0, slots := 0, locals := 0 })
abbrev K_X9_seen : jK := (cX9_seen, 3, some .int, yX9_seen, { frames := 2, cells := 0, slots := 0, locals := 43 })
abbrev K_X9_forget : jK := (cX9_forget, 2, some .int, yX9_forget, { frames := 0, cells := 0, slots := 0, locals := 0 })
abbrev K_X7_fit : jK := (cX7_fit, 4, some .boolean, yX7_fit, { frames := 1, cells := 0, slots := 0, locals := 22 })
abbrev K_X9_fittingKinds : jK := (cX9_fittingKinds, 3, some .int, yX9_fittingKinds, { frames := 4, cells := 0, slots := 0, locals := 96 })
abbrev K_X9_fittingCuts : jK := (cX9_fittingCuts, 3, some .int, yX9_fittingCuts, { frames := 2, cells := 0, slots := 0, locals := 48 })
abbrev K_X9_done : jK := (cX9_done, 2, some .int, yX9_done, { frames := 5, cells := 0, slots := 0, locals := 118 })
abbrev K_X9_endOfWay : jK := (cX9_endOfWay, 6, some .int, yX9_endOfWay, { frames := 1, cells := 0, slots := 0, locals := 24 })
abbrev K_X9_weightOfWay : jK := (cX9_weightOfWay, 5, some .int, yX9_weightOfWay, { frames := 0, cells := 0, slots := 0, locals := 0 })
abbrev K_X9_powerOfTen : jK := (cX9_powerOfTen, 3, some .int, yX9_powerOfTen, { frames := 0, cells := 0, slots := 0, locals := 0 })
abbrev K_X9_likely : jK := (cX9_likely, 10, some .int, yX9_likely, { frames := 2, cells := 0, slots := 0, locals := 49 })
abbrev K_X9_drawOf : jK := (cX9_drawOf, 4, some .int, yX9_drawOf, { frames := 0, cells := 0, slots := 0, locals := 0 })
abbrev K_X9_drawnMove : jK := (cX9_drawnMove, 3, some .long, yX9_drawnMove, { frames := 4, cells := 0, slots := 0, locals := 96 })
abbrev K_X4_sameCards : jK := (cX4_sameCards, 7, some .int, yX4_sameCards, { frames := 1, cells := 0, slots := 0, locals := 22 })
abbrev K_X9_dealing : jK := (cX9_dealing, 7, some .int, yX9_dealing, { frames := 5, cells := 0, slots := 0, locals := 118 })
abbrev K_X9_keep : jK := (cX9_keep, 1, some .int, yX9_keep, { frames := 2, cells := 0, slots := 0, locals := 62 })
abbrev K_X9_back : jK := (cX9_back, 1, some .int, yX9_back, { frames := 1, cells := 0, slots := 0, locals := 20 })
abbrev K_X9_count : jK := (cX9_count, 2, some .int, yX9_count, { frames := 0, cells := 0, slots := 0, locals := 0 })
abbrev K_X10_colours : jK := (cX10_colours, 2, none, yX10_colours, { frames := 0, cells := 0, slots := 0, locals := 0 })
abbrev K_X10_clearTold : jK := (cX10_clearTold, 1, none, yX10_clearTold, { frames := 1, cells := 0, slots := 0, locals := 21 })
abbrev K_X10_copies : jK := (cX10_copies, 6, none, yX10_copies, { frames := 0, cells := 0, slots := 0, locals := 0 })
abbrev K_X10_lies : jK := (cX10_lies, 2, none, yX10_lies, { frames := 0, cells := 0, slots := 0, locals := 0 })
abbrev K_X10_settles : jK := (cX10_settles, 1, none, yX10_settles, { frames := 1, cells := 0, slots := 0, locals := 25 })
abbrev K_X10_in : jK := (cX10_in, 3, some .boolean, yX10_in, { frames := 0, cells := 0, slots := 0, locals := 0 })
abbrev K_X10_isCard : jK := (cX10_isCard, 2, some .boolean, yX10_isCard, { frames := 1, cells := 0, slots := 0, locals := 22 })
abbrev K_X10_isKind : jK := (cX10_isKind, 1, some .boolean, yX10_isKind, { frames := 1, cells := 0, slots := 0, locals := 22 })
abbrev K_X10_write : jK := (cX10_write, 2, some .int, yX10_write, { frames := 1, cells := 0, slots := 0, locals := 22 })
abbrev K_X10_wipe : jK := (cX10_wipe, 2, some .int, yX10_wipe, { frames := 0, cells := 0, slots := 0, locals := 0 })
abbrev K_X10_letterAt : jK := (cX10_letterAt, 2, some .int, yX10_letterAt, { frames := 0, cells := 0, slots := 0, locals := 0 })
abbrev K_X10_isFigure : jK := (cX10_isFigure, 1, some .boolean, yX10_isFigure, { frames := 1, cells := 0, slots := 0, locals := 22 })
abbrev K_X10_readNumbers : jK := (cX10_readNumbers, 3, some .boolean, yX10_readNumbers, { frames := 2, cells := 0, slots := 0, locals := 42 })
abbrev K_X10_isTold : jK := (cX10_isTold, 4, some .boolean, yX10_isTold, { frames := 1, cells := 0, slots := 0, locals := 22 })
abbrev K_X10_readCardsOf : jK := (cX10_readCardsOf, 2, some .boolean, yX10_readCardsOf, { frames := 3, cells := 0, slots := 0, locals := 64 })
abbrev K_X10_readColourOf : jK := (cX10_readColourOf, 1, some .boolean, yX10_readColourOf, { frames := 3, cells := 0, slots := 0, locals := 64 })
abbrev K_X10_readDealOf : jK := (cX10_readDealOf, 3, some .boolean, yX10_readDealOf, { frames := 3, cells := 0, slots := 0, locals := 64 })
abbrev K_X10_readItem : jK := (cX10_readItem, 2, some .boolean, yX10_readItem, { frames := 4, cells := 0, slots := 0, locals := 86 })
abbrev K_X10_fault : jK := (cX10_fault, 2, some .int, yX10_fault, { frames := 5, cells := 0, slots := 0, locals := 107 })
abbrev K_X10_lay : jK := (cX10_lay, 1, some .int, yX10_lay, { frames := 6, cells := 0, slots := 0, locals := 128 })
abbrev K_X10_asItIs : jK := (cX10_asItIs, 1, none, yX10_asItIs, { frames := 1, cells := 0, slots := 0, locals := 25 })
abbrev K_X10_falls : jK := (cX10_falls, 6, none, yX10_falls, { frames := 0, cells := 0, slots := 0, locals := 0 })
abbrev K_X10_milks : jK := (cX10_milks, 2, none, yX10_milks, { frames := 0, cells := 0, slots := 0, locals := 0 })
abbrev K_X10_under : jK := (cX10_under, 4, none, yX10_under, { frames := 1, cells := 0, slots := 0, locals := 25 })
abbrev K_X10_cuts : jK := (cX10_cuts, 3, none, yX10_cuts, { frames := 0, cells := 0, slots := 0, locals := 0 })
abbrev K_X10_acts : jK := (cX10_acts, 5, none, yX10_acts, { frames := 2, cells := 0, slots := 0, locals := 48 })
abbrev K_X10_deals : jK := (cX10_deals, 2, none, yX10_deals, { frames := 3, cells := 0, slots := 0, locals := 72 })
abbrev K_X10_placeOf : jK := (cX10_placeOf, 3, some .int, yX10_placeOf, { frames := 0, cells := 0, slots := 0, locals := 0 })
abbrev K_X10_at : jK := (cX10_at, 2, some .int, yX10_at, { frames := 2, cells := 0, slots := 0, locals := 43 })
abbrev K_X10_where : jK := (cX10_where, 2, some .int, yX10_where, { frames := 2, cells := 0, slots := 0, locals := 45 })
abbrev K_X10_colour : jK := (cX10_colour, 2, some .int, yX10_colour, { frames := 2, cells := 0, slots := 0, locals := 43 })
abbrev K_X10_remembers : jK := (cX10_remembers, 2, none, yX10_remembers, { frames := 1, cells := 0, slots := 0, locals := 25 })
abbrev K_X10_does : jK := (cX10_does, 2, some .int, yX10_does, { frames := 3, cells := 0, slots := 0, locals := 72 })
abbrev K_X10_lace : jK := (cX10_lace, 2, some .int, yX10_lace, { frames := 4, cells := 0, slots := 0, locals := 93 })
abbrev K_X10_cut : jK := (cX10_cut, 2, some .int, yX10_cut, { frames := 4, cells := 0, slots := 0, locals := 93 })
abbrev K_X10_turn : jK := (cX10_turn, 1, some .int, yX10_turn, { frames := 4, cells := 0, slots := 0, locals := 93 })
abbrev K_X10_deal : jK := (cX10_deal, 1, some .int, yX10_deal, { frames := 4, cells := 0, slots := 0, locals := 93 })
abbrev K_X10_undo : jK := (cX10_undo, 1, some .int, yX10_undo, { frames := 1, cells := 0, slots := 0, locals := 25 })
abbrev K_X10_isInOrder : jK := (cX10_isInOrder, 3, some .boolean, yX10_isInOrder, { frames := 0, cells := 0, slots := 0, locals := 0 })
abbrev K_X10_again : jK := (cX10_again, 4, some .int, yX10_again, { frames := 4, cells := 0, slots := 0, locals := 93 })
abbrev K_X10_round : jK := (cX10_round, 5, some .int, yX10_round, { frames := 3, cells := 0, slots := 0, locals := 72 })
abbrev K_X10_rounds : jK := (cX10_rounds, 6, some .int, yX10_rounds, { frames := 3, cells := 0, slots := 0, locals := 72 })
abbrev K_X10_findGoes : jK := (cX10_findGoes, 3, none, yX10_findGoes, { frames := 3, cells := 0, slots := 0, locals := 72 })
abbrev K_X10_findFar : jK := (cX10_findFar, 5, none, yX10_findFar, { frames := 4, cells := 0, slots := 0, locals := 94 })
abbrev K_X10_bring : jK := (cX10_bring, 8, some .int, yX10_bring, { frames := 5, cells := 0, slots := 0, locals := 118 })
abbrev K_X10_beside : jK := (cX10_beside, 11, some .int, yX10_beside, { frames := 4, cells := 0, slots := 0, locals := 94 })
abbrev K_X10_isMet : jK := (cX10_isMet, 5, some .boolean, yX10_isMet, { frames := 0, cells := 0, slots := 0, locals := 0 })
abbrev K_X10_orders : jK := (cX10_orders, 5, some .int, yX10_orders, { frames := 3, cells := 0, slots := 0, locals := 72 })
abbrev K_X10_risingNow : jK := (cX10_risingNow, 3, some .int, yX10_risingNow, { frames := 1, cells := 0, slots := 0, locals := 22 })
abbrev K_X10_rising : jK := (cX10_rising, 1, some .int, yX10_rising, { frames := 2, cells := 0, slots := 0, locals := 45 })
abbrev K_X10_unlike : jK := (cX10_unlike, 4, some .int, yX10_unlike, { frames := 0, cells := 0, slots := 0, locals := 0 })
abbrev K_X10_pairs : jK := (cX10_pairs, 1, some .int, yX10_pairs, { frames := 1, cells := 0, slots := 0, locals := 23 })
abbrev K_X10_lowest : jK := (cX10_lowest, 6, some .int, yX10_lowest, { frames := 0, cells := 0, slots := 0, locals := 0 })
abbrev K_X10_bits : jK := (cX10_bits, 3, some .int, yX10_bits, { frames := 0, cells := 0, slots := 0, locals := 0 })
abbrev K_X10_sure : jK := (cX10_sure, 10, some .int, yX10_sure, { frames := 1, cells := 0, slots := 0, locals := 25 })
abbrev K_X10_seen : jK := (cX10_seen, 3, some .int, yX10_seen, { frames := 2, cells := 0, slots := 0, locals := 43 })
abbrev K_X10_forget : jK := (cX10_forget, 2, some .int, yX10_forget, { frames := 0, cells := 0, slots := 0, locals := 0 })
abbrev K_X10_isBy : jK := (cX10_isBy, 4, some .boolean, yX10_isBy, { frames := 3, cells := 0, slots := 0, locals := 72 })
abbrev K_X10_done : jK := (cX10_done, 4, some .int, yX10_done, { frames := 4, cells := 0, slots := 0, locals := 95 })
abbrev K_X10_likely : jK := (cX10_likely, 14, some .int, yX10_likely, { frames := 4, cells := 0, slots := 0, locals := 94 })
abbrev K_X10_dealing : jK := (cX10_dealing, 9, some .int, yX10_dealing, { frames := 3, cells := 0, slots := 0, locals := 72 })
abbrev K_X10_keep : jK := (cX10_keep, 1, some .int, yX10_keep, { frames := 1, cells := 0, slots := 0, locals := 25 })
abbrev K_X10_back : jK := (cX10_back, 1, some .int, yX10_back, { frames := 1, cells := 0, slots := 0, locals := 25 })
abbrev K_X10_count : jK := (cX10_count, 2, some .int, yX10_count, { frames := 0, cells := 0, slots := 0, locals := 0 })
set_option maxRecDepth 20000 in
theorem q_X4_with : jCS K_X4_with 3 := ⟨m1_142, m1_141, m1_9, by decide, by decide, by decide +kernel⟩
set_option maxRecDepth 20000 in
theorem q_X4_inOrder : jCS K_X4_inOrder 1 := ⟨m1_139, m1_138, m1_9, by decide, by decide, by decide +kernel⟩
set_option maxRecDepth 20000 in
theorem q_X5_begin : jCV K_X5_begin 1 := ⟨m1_135, m1_134, m0_0, m1_3, by decide, by decide, by decide +kernel⟩
set_option maxRecDepth 20000 in
theorem q_X9_within : jCS K_X9_within 3 := ⟨m1_149, m1_148, m1_1, by decide, by decide, by decide +kernel⟩
set_option maxRecDepth 20000 in
theorem q_X5_tellColour : jCV K_X5_tellColour 2 := ⟨m1_146, m1_144, m1_145, m1_3, by decide, by decide, by decide +kernel⟩
set_option maxRecDepth 20000 in
theorem q_X9_isKind : jCS K_X9_isKind 1 := ⟨m1_156, m1_155, m1_1, by decide, by decide, by decide +kernel⟩
set_option maxRecDepth 20000 in
theorem q_X4_cardAt : jCS K_X4_cardAt 2 := ⟨m1_167, m1_166, m1_9, by decide, by decide, by decide +kernel⟩
set_option maxRecDepth 20000 in
theorem q_X3_downAndUnder : jCS K_X3_downAndUnder 1 := ⟨m1_163, m1_162, m1_10, by decide, by decide, by decide +kernel⟩
set_option maxRecDepth 20000 in
theorem q_X3_source : jCS K_X3_source 3 := ⟨m1_171, m1_170, m1_10, by decide, by decide, by decide +kernel⟩
set_option maxRecDepth 20000 in
theorem q_X3_lacing : jCS K_X3_lacing 2 := ⟨m1_160, m1_159, m1_10, by decide, by decide, by decide +kernel⟩
set_option maxRecDepth 20000 in
theorem q_X4_moved : jCS K_X4_moved 3 := ⟨m1_178, m1_177, m1_9, by decide, by decide, by decide +kernel⟩
set_option maxRecDepth 20000 in
theorem q_X5_addAct : jCV K_X5_addAct 1 := ⟨m1_175, m1_174, m0_1, m1_3, by decide, by decide, by decide +kernel⟩
set_option maxRecDepth 20000 in
theorem q_X5_tellLacing : jCV K_X5_tellLacing 1 := ⟨m1_153, m1_151, m1_152, m1_3, by decide, by decide, by decide +kernel⟩
set_option maxRecDepth 20000 in
theorem q_X3_cutAt : jCS K_X3_cutAt 2 := ⟨m1_186, m1_185, m1_10, by decide, by decide, by decide +kernel⟩
set_option maxRecDepth 20000 in
theorem q_X5_tellCut : jCV K_X5_tellCut 1 := ⟨m1_183, m1_181, m1_182, m1_3, by decide, by decide, by decide +kernel⟩
set_option maxRecDepth 20000 in
theorem q_X5_tellFirst : jCV K_X5_tellFirst 0 := ⟨m1_131, m1_129, m1_130, m1_3, by decide, by decide, by decide +kernel⟩
set_option maxRecDepth 20000 in
theorem q_X8_append : jCV K_X8_append 1 := ⟨m1_223, m1_221, m1_222, m1_2, by decide, by decide, by decide +kernel⟩
set_option maxRecDepth 20000 in
theorem q_X9_write : jCV K_X9_write 1 := ⟨m1_219, m1_217, m1_218, m1_1, by decide, by decide, by decide +kernel⟩
set_option maxRecDepth 20000 in
theorem q_X9_wipe : jCV K_X9_wipe 0 := ⟨m1_227, m1_225, m1_226, m1_1, by decide, by decide, by decide +kernel⟩
set_option maxRecDepth 20000 in
theorem q_X5_tellNothing : jCV K_X5_tellNothing 0 := ⟨m1_239, m1_237, m1_238, m1_3, by decide, by decide, by decide +kernel⟩
set_option maxRecDepth 20000 in
theorem q_X8_nextLetter : jCV K_X8_nextLetter 0 := ⟨m2_7, m2_6, m0_3, m1_2, by decide, by decide, by decide +kernel⟩
set_option maxRecDepth 20000 in
theorem q_X8_figureOf : jCS K_X8_figureOf 1 := ⟨m2_14, m2_13, m1_2, by decide, by decide, by decide +kernel⟩
set_option maxRecDepth 20000 in
theorem q_X8_readNumber : jCV K_X8_readNumber 1 := ⟨m2_11, m2_10, m0_4, m1_2, by decide, by decide, by decide +kernel⟩
set_option maxRecDepth 20000 in
theorem q_X5_tellCards : jCV K_X5_tellCards 1 := ⟨m2_19, m2_17, m2_18, m1_3, by decide, by decide, by decide +kernel⟩
set_option maxRecDepth 20000 in
theorem q_X8_readItem : jCV K_X8_readItem 1 := ⟨m2_3, m2_2, m0_2, m1_2, by decide, by decide, by decide +kernel⟩
set_option maxRecDepth 20000 in
theorem q_X8_firstFault : jCV K_X8_firstFault 1 := ⟨m1_235, m1_233, m1_234, m1_2, by decide, by decide, by decide +kernel⟩
set_option maxRecDepth 20000 in
theorem q_X9_fault : jCV K_X9_fault 0 := ⟨m1_231, m1_229, m1_230, m1_1, by decide, by decide, by decide +kernel⟩
set_option maxRecDepth 20000 in
theorem q_X5_become : jCV K_X5_become 1 := ⟨m2_29, m2_27, m2_28, m1_3, by decide, by decide, by decide +kernel⟩
set_option maxRecDepth 20000 in
theorem q_X9_lay : jCV K_X9_lay 0 := ⟨m2_25, m2_23, m2_24, m1_1, by decide, by decide, by decide +kernel⟩
set_option maxRecDepth 20000 in
theorem q_X9_isPlace : jCV K_X9_isPlace 1 := ⟨m2_37, m2_36, m0_5, m1_1, by decide, by decide, by decide +kernel⟩
set_option maxRecDepth 20000 in
theorem q_X9_at : jCV K_X9_at 1 := ⟨m2_33, m2_31, m2_32, m1_1, by decide, by decide, by decide +kernel⟩
set_option maxRecDepth 20000 in
theorem q_X9_isCard : jCV K_X9_isCard 1 := ⟨m2_46, m2_45, m0_6, m1_1, by decide, by decide, by decide +kernel⟩
set_option maxRecDepth 20000 in
theorem q_X4_placeOf : jCS K_X4_placeOf 3 := ⟨m2_49, m2_48, m1_9, by decide, by decide, by decide +kernel⟩
set_option maxRecDepth 20000 in
theorem q_X9_where : jCV K_X9_where 1 := ⟨m2_42, m2_40, m2_41, m1_1, by decide, by decide, by decide +kernel⟩
set_option maxRecDepth 20000 in
theorem q_X5_colourOf : jCV K_X5_colourOf 1 := ⟨m2_57, m2_55, m2_56, m1_3, by decide, by decide, by decide +kernel⟩
set_option maxRecDepth 20000 in
theorem q_X9_colour : jCV K_X9_colour 1 := ⟨m2_53, m2_51, m2_52, m1_1, by decide, by decide, by decide +kernel⟩
set_option maxRecDepth 20000 in
theorem q_X6_isFull : jCV K_X6_isFull 0 := ⟨m2_75, m2_73, m2_74, m1_4, by decide, by decide, by decide +kernel⟩
set_option maxRecDepth 20000 in
theorem q_X6_put : jCV K_X6_put 1 := ⟨m2_71, m2_69, m2_70, m1_4, by decide, by decide, by decide +kernel⟩
set_option maxRecDepth 20000 in
theorem q_X9_act : jCV K_X9_act 1 := ⟨m2_67, m2_66, m0_7, m1_1, by decide, by decide, by decide +kernel⟩
set_option maxRecDepth 20000 in
theorem q_X9_lace : jCV K_X9_lace 1 := ⟨m2_61, m2_59, m2_60, m1_1, by decide, by decide, by decide +kernel⟩
set_option maxRecDepth 20000 in
theorem q_X9_cut : jCV K_X9_cut 1 := ⟨m2_83, m2_81, m2_82, m1_1, by decide, by decide, by decide +kernel⟩
set_option maxRecDepth 20000 in
theorem q_X3_turnedOver : jCS K_X3_turnedOver 1 := ⟨m2_91, m2_90, m1_10, by decide, by decide, by decide +kernel⟩
set_option maxRecDepth 20000 in
theorem q_X9_turn : jCV K_X9_turn 0 := ⟨m2_88, m2_86, m2_87, m1_1, by decide, by decide, by decide +kernel⟩
set_option maxRecDepth 20000 in
theorem q_X9_deal : jCV K_X9_deal 0 := ⟨m2_95, m2_93, m2_94, m1_1, by decide, by decide, by decide +kernel⟩
set_option maxRecDepth 20000 in
theorem q_X6_takeLast : jCV K_X6_takeLast 0 := ⟨m2_103, m2_101, m2_102, m1_4, by decide, by decide, by decide +kernel⟩
set_option maxRecDepth 20000 in
theorem q_X9_undo : jCV K_X9_undo 0 := ⟨m2_99, m2_97, m2_98, m1_1, by decide, by decide, by decide +kernel⟩
set_option maxRecDepth 20000 in
theorem q_X4_roundLength : jCS K_X4_roundLength 3 := ⟨m2_113, m2_112, m1_9, by decide, by decide, by decide +kernel⟩
set_option maxRecDepth 20000 in
theorem q_X1_commonDivisor : jCS K_X1_commonDivisor 2 := ⟨m2_116, m2_115, m1_13, by decide, by decide, by decide +kernel⟩
set_option maxRecDepth 20000 in
theorem q_X4_timesTillSame : jCS K_X4_timesTillSame 2 := ⟨m2_110, m2_109, m1_9, by decide, by decide, by decide +kernel⟩
set_option maxRecDepth 20000 in
theorem q_X9_again : jCV K_X9_again 1 := ⟨m2_107, m2_105, m2_106, m1_1, by decide, by decide, by decide +kernel⟩
set_option maxRecDepth 20000 in
theorem q_X9_round : jCV K_X9_round 2 := ⟨m2_120, m2_118, m2_119, m1_1, by decide, by decide, by decide +kernel⟩
set_option maxRecDepth 20000 in
theorem q_X4_roundOf : jCS K_X4_roundOf 3 := ⟨m2_131, m2_130, m1_9, by decide, by decide, by decide +kernel⟩
set_option maxRecDepth 20000 in
theorem q_X4_roundCount : jCS K_X4_roundCount 2 := ⟨m2_128, m2_127, m1_9, by decide, by decide, by decide +kernel⟩
set_option maxRecDepth 20000 in
theorem q_X9_rounds : jCV K_X9_rounds 1 := ⟨m2_125, m2_123, m2_124, m1_1, by decide, by decide, by decide +kernel⟩
set_option maxRecDepth 20000 in
theorem q_X3_goal : jCS K_X3_goal 3 := ⟨m2_146, m2_145, m1_10, by decide, by decide, by decide +kernel⟩
set_option maxRecDepth 20000 in
theorem q_X0_fewestFrom : jCV K_X0_fewestFrom 1 := ⟨m2_150, m2_148, m2_149, m1_7, by decide, by decide, by decide +kernel⟩
set_option maxRecDepth 20000 in
theorem q_X0_isNextTo : jCV K_X0_isNextTo 3 := ⟨m2_143, m2_142, m0_8, m1_7, by decide, by decide, by decide +kernel⟩
set_option maxRecDepth 20000 in
theorem q_X0_findWaysTo : jCV K_X0_findWaysTo 2 := ⟨m2_139, m2_137, m2_138, m1_7, by decide, by decide, by decide +kernel⟩
set_option maxRecDepth 20000 in
theorem q_X0_firstKind : jCV K_X0_firstKind 2 := ⟨m2_159, m2_158, m0_9, m1_7, by decide, by decide, by decide +kernel⟩
set_option maxRecDepth 20000 in
theorem q_X0_kindOnWay : jCV K_X0_kindOnWay 3 := ⟨m2_155, m2_153, m2_154, m1_7, by decide, by decide, by decide +kernel⟩
set_option maxRecDepth 20000 in
theorem q_X9_bring : jCV K_X9_bring 3 := ⟨m2_135, m2_133, m2_134, m1_1, by decide, by decide, by decide +kernel⟩
set_option maxRecDepth 20000 in
theorem q_X0_pairBehind : jCS K_X0_pairBehind 3 := ⟨m2_170, m2_169, m1_7, by decide, by decide, by decide +kernel⟩
set_option maxRecDepth 20000 in
theorem q_X0_depthOf : jCS K_X0_depthOf 1 := ⟨m2_176, m2_175, m1_7, by decide, by decide, by decide +kernel⟩
set_option maxRecDepth 20000 in
theorem q_X0_fewestTillNeighbours : jCV K_X0_fewestTillNeighbours 3 := ⟨m2_167, m2_165, m2_166, m1_7, by decide, by decide, by decide +kernel⟩
set_option maxRecDepth 20000 in
theorem q_X9_beside : jCV K_X9_beside 2 := ⟨m2_163, m2_161, m2_162, m1_1, by decide, by decide, by decide +kernel⟩
set_option maxRecDepth 20000 in
theorem q_X0_heldWith : jCV K_X0_heldWith 2 := ⟨m2_191, m2_190, m0_10, m1_7, by decide, by decide, by decide +kernel⟩
set_option maxRecDepth 20000 in
theorem q_X0_countOrders : jCV K_X0_countOrders 2 := ⟨m2_184, m2_182, m2_183, m1_7, by decide, by decide, by decide +kernel⟩
set_option maxRecDepth 20000 in
theorem q_X9_orders : jCV K_X9_orders 1 := ⟨m2_180, m2_178, m2_179, m1_1, by decide, by decide, by decide +kernel⟩
set_option maxRecDepth 20000 in
theorem q_X4_risingRows : jCS K_X4_risingRows 2 := ⟨m2_198, m2_197, m1_9, by decide, by decide, by decide +kernel⟩
set_option maxRecDepth 20000 in
theorem q_X9_rising : jCV K_X9_rising 0 := ⟨m2_195, m2_193, m2_194, m1_1, by decide, by decide, by decide +kernel⟩
set_option maxRecDepth 20000 in
theorem q_X5_areUnlike : jCV K_X5_areUnlike 2 := ⟨m2_206, m2_204, m2_205, m1_3, by decide, by decide, by decide +kernel⟩
set_option maxRecDepth 20000 in
theorem q_X9_pairs : jCV K_X9_pairs 0 := ⟨m2_202, m2_200, m2_201, m1_1, by decide, by decide, by decide +kernel⟩
set_option maxRecDepth 20000 in
theorem q_X2_dealtOff : jCS K_X2_dealtOff 3 := ⟨m2_218, m2_217, m1_8, by decide, by decide, by decide +kernel⟩
set_option maxRecDepth 20000 in
theorem q_X2_areUnlikeAt : jCS K_X2_areUnlikeAt 4 := ⟨m2_227, m2_226, m1_8, by decide, by decide, by decide +kernel⟩
set_option maxRecDepth 20000 in
theorem q_X2_waysOf : jCV K_X2_waysOf 2 := ⟨m2_232, m2_231, m0_12, m1_8, by decide, by decide, by decide +kernel⟩
set_option maxRecDepth 20000 in
theorem q_X2_waysByLastPair : jCV K_X2_waysByLastPair 5 := ⟨m2_224, m2_223, m0_11, m1_8, by decide, by decide, by decide +kernel⟩
set_option maxRecDepth 20000 in
theorem q_X2_setWays : jCV K_X2_setWays 3 := ⟨m2_237, m2_236, m0_13, m1_8, by decide, by decide, by decide +kernel⟩
set_option maxRecDepth 20000 in
theorem q_X2_goodWays : jCV K_X2_goodWays 3 := ⟨m2_215, m2_213, m2_214, m1_8, by decide, by decide, by decide +kernel⟩
set_option maxRecDepth 20000 in
theorem q_X1_choices : jCS K_X1_choices 2 := ⟨m3_0, m2_239, m1_13, by decide, by decide, by decide +kernel⟩
set_option maxRecDepth 20000 in
theorem q_X1_partOf : jCS K_X1_partOf 3 := ⟨m3_3, m3_2, m1_13, by decide, by decide, by decide +kernel⟩
set_option maxRecDepth 20000 in
theorem q_X9_sure : jCV K_X9_sure 2 := ⟨m2_211, m2_209, m2_210, m1_1, by decide, by decide, by decide +kernel⟩
set_option maxRecDepth 20000 in
theorem q_X7_add : jCV K_X7_add 2 := ⟨m3_12, m3_10, m3_11, m1_6, by decide, by decide, by decide +kernel⟩
set_option maxRecDepth 20000 in
theorem q_X9_seen : jCV K_X9_seen 2 := ⟨m3_8, m3_6, m3_7, m1_1, by decide, by decide, by decide +kernel⟩
set_option maxRecDepth 20000 in
theorem q_X9_forget : jCV K_X9_forget 0 := ⟨m3_16, m3_14, m3_15, m1_1, by decide, by decide, by decide +kernel⟩
set_option maxRecDepth 20000 in
theorem q_X7_fit : jCV K_X7_fit 1 := ⟨m3_28, m3_26, m3_27, m1_6, by decide, by decide, by decide +kernel⟩
set_option maxRecDepth 20000 in
theorem q_X9_fittingKinds : jCV K_X9_fittingKinds 0 := ⟨m3_24, m3_23, m0_14, m1_1, by decide, by decide, by decide +kernel⟩
set_option maxRecDepth 20000 in
theorem q_X9_fittingCuts : jCV K_X9_fittingCuts 0 := ⟨m3_33, m3_32, m0_15, m1_1, by decide, by decide, by decide +kernel⟩
set_option maxRecDepth 20000 in
theorem q_X9_done : jCV K_X9_done 1 := ⟨m3_20, m3_18, m3_19, m1_1, by decide, by decide, by decide +kernel⟩
set_option maxRecDepth 20000 in
theorem q_X9_endOfWay : jCV K_X9_endOfWay 3 := ⟨m3_41, m3_40, m0_16, m1_1, by decide, by decide, by decide +kernel⟩
set_option maxRecDepth 20000 in
theorem q_X9_weightOfWay : jCS K_X9_weightOfWay 3 := ⟨m3_45, m3_44, m1_1, by decide, by decide, by decide +kernel⟩
set_option maxRecDepth 20000 in
theorem q_X9_powerOfTen : jCS K_X9_powerOfTen 1 := ⟨m3_48, m3_47, m1_1, by decide, by decide, by decide +kernel⟩
set_option maxRecDepth 20000 in
theorem q_X9_likely : jCV K_X9_likely 5 := ⟨m3_37, m3_35, m3_36, m1_1, by decide, by decide, by decide +kernel⟩
set_option maxRecDepth 20000 in
theorem q_X9_drawOf : jCS K_X9_drawOf 2 := ⟨m3_55, m3_54, m1_1, by decide, by decide, by decide +kernel⟩
set_option maxRecDepth 20000 in
theorem q_X9_drawnMove : jCV K_X9_drawnMove 1 := ⟨m3_63, m3_62, m0_17, m1_1, by decide, by decide, by decide +kernel⟩
set_option maxRecDepth 20000 in
theorem q_X4_sameCards : jCS K_X4_sameCards 3 := ⟨m3_66, m3_65, m1_9, by decide, by decide, by decide +kernel⟩
set_option maxRecDepth 20000 in
theorem q_X9_dealing : jCV K_X9_dealing 3 := ⟨m3_52, m3_50, m3_51, m1_1, by decide, by decide, by decide +kernel⟩
set_option maxRecDepth 20000 in
theorem q_X9_keep : jCV K_X9_keep 0 := ⟨m3_70, m3_68, m3_69, m1_1, by decide, by decide, by decide +kernel⟩
set_option maxRecDepth 20000 in
theorem q_X9_back : jCV K_X9_back 0 := ⟨m3_75, m3_73, m3_74, m1_1, by decide, by decide, by decide +kernel⟩
set_option maxRecDepth 20000 in
theorem q_X9_count : jCV K_X9_count 1 := ⟨m3_79, m3_77, m3_78, m1_1, by decide, by decide, by decide +kernel⟩
set_option maxRecDepth 20000 in
theorem q_X10_colours : jCV K_X10_colours 0 := ⟨m3_93, m3_92, m0_19, m1_11, by decide, by decide, by decide +kernel⟩
set_option maxRecDepth 20000 in
theorem q_X10_clearTold : jCV K_X10_clearTold 0 := ⟨m3_89, m3_88, m0_18, m1_11, by decide, by decide, by decide +kernel⟩
set_option maxRecDepth 20000 in
theorem q_X10_copies : jCS K_X10_copies 5 := ⟨m3_100, m3_99, m1_11, by decide, by decide, by decide +kernel⟩
set_option maxRecDepth 20000 in
theorem q_X10_lies : jCS K_X10_lies 1 := ⟨m3_103, m3_102, m1_11, by decide, by decide, by decide +kernel⟩
set_option maxRecDepth 20000 in
theorem q_X10_settles : jCV K_X10_settles 0 := ⟨m3_97, m3_96, m0_20, m1_11, by decide, by decide, by decide +kernel⟩
set_option maxRecDepth 20000 in
theorem q_X10_in : jCS K_X10_in 3 := ⟨m3_192, m3_191, m1_11, by decide, by decide, by decide +kernel⟩
set_option maxRecDepth 20000 in
theorem q_X10_isCard : jCV K_X10_isCard 1 := ⟨m4_4, m4_3, m0_28, m1_11, by decide, by decide, by decide +kernel⟩
set_option maxRecDepth 20000 in
theorem q_X10_isKind : jCS K_X10_isKind 1 := ⟨m4_27, m4_26, m1_11, by decide, by decide, by decide +kernel⟩
set_option maxRecDepth 20000 in
theorem q_X10_write : jCV K_X10_write 1 := ⟨m3_189, m3_187, m3_188, m1_11, by decide, by decide, by decide +kernel⟩
set_option maxRecDepth 20000 in
theorem q_X10_wipe : jCV K_X10_wipe 0 := ⟨m3_196, m3_194, m3_195, m1_11, by decide, by decide, by decide +kernel⟩
set_option maxRecDepth 20000 in
theorem q_X10_letterAt : jCV K_X10_letterAt 1 := ⟨m3_208, m3_207, m0_22, m1_11, by decide, by decide, by decide +kernel⟩
set_option maxRecDepth 20000 in
theorem q_X10_isFigure : jCS K_X10_isFigure 1 := ⟨m3_219, m3_218, m1_11, by decide, by decide, by decide +kernel⟩
set_option maxRecDepth 20000 in
theorem q_X10_readNumbers : jCV K_X10_readNumbers 1 := ⟨m3_216, m3_215, m0_24, m1_11, by decide, by decide, by decide +kernel⟩
set_option maxRecDepth 20000 in
theorem q_X10_isTold : jCV K_X10_isTold 3 := ⟨m3_223, m3_222, m0_25, m1_11, by decide, by decide, by decide +kernel⟩
set_option maxRecDepth 20000 in
theorem q_X10_readCardsOf : jCV K_X10_readCardsOf 0 := ⟨m3_212, m3_211, m0_23, m1_11, by decide, by decide, by decide +kernel⟩
set_option maxRecDepth 20000 in
theorem q_X10_readColourOf : jCV K_X10_readColourOf 0 := ⟨m3_227, m3_226, m0_26, m1_11, by decide, by decide, by decide +kernel⟩
set_option maxRecDepth 20000 in
theorem q_X10_readDealOf : jCV K_X10_readDealOf 2 := ⟨m3_231, m3_230, m0_27, m1_11, by decide, by decide, by decide +kernel⟩
set_option maxRecDepth 20000 in
theorem q_X10_readItem : jCV K_X10_readItem 0 := ⟨m3_204, m3_203, m0_21, m1_11, by decide, by decide, by decide +kernel⟩
set_option maxRecDepth 20000 in
theorem q_X10_fault : jCV K_X10_fault 0 := ⟨m3_200, m3_198, m3_199, m1_11, by decide, by decide, by decide +kernel⟩
set_option maxRecDepth 20000 in
theorem q_X10_lay : jCV K_X10_lay 0 := ⟨m3_235, m3_233, m3_234, m1_11, by decide, by decide, by decide +kernel⟩
set_option maxRecDepth 20000 in
theorem q_X10_asItIs : jCV K_X10_asItIs 0 := ⟨m4_12, m4_11, m0_29, m1_11, by decide, by decide, by decide +kernel⟩
set_option maxRecDepth 20000 in
theorem q_X10_falls : jCV K_X10_falls 3 := ⟨m4_43, m4_42, m0_34, m1_11, by decide, by decide, by decide +kernel⟩
set_option maxRecDepth 20000 in
theorem q_X10_milks : jCV K_X10_milks 0 := ⟨m4_47, m4_46, m0_35, m1_11, by decide, by decide, by decide +kernel⟩
set_option maxRecDepth 20000 in
theorem q_X10_under : jCV K_X10_under 0 := ⟨m4_51, m4_50, m0_36, m1_11, by decide, by decide, by decide +kernel⟩
set_option maxRecDepth 20000 in
theorem q_X10_cuts : jCV K_X10_cuts 1 := ⟨m4_55, m4_54, m0_37, m1_11, by decide, by decide, by decide +kernel⟩
set_option maxRecDepth 20000 in
theorem q_X10_acts : jCV K_X10_acts 1 := ⟨m4_39, m4_38, m0_33, m1_11, by decide, by decide, by decide +kernel⟩
set_option maxRecDepth 20000 in
theorem q_X10_deals : jCV K_X10_deals 0 := ⟨m4_71, m4_70, m0_38, m1_11, by decide, by decide, by decide +kernel⟩
set_option maxRecDepth 20000 in
theorem q_X10_placeOf : jCV K_X10_placeOf 1 := ⟨m4_16, m4_15, m0_30, m1_11, by decide, by decide, by decide +kernel⟩
set_option maxRecDepth 20000 in
theorem q_X10_at : jCV K_X10_at 1 := ⟨m4_0, m3_238, m3_239, m1_11, by decide, by decide, by decide +kernel⟩
set_option maxRecDepth 20000 in
theorem q_X10_where : jCV K_X10_where 1 := ⟨m4_8, m4_6, m4_7, m1_11, by decide, by decide, by decide +kernel⟩
set_option maxRecDepth 20000 in
theorem q_X10_colour : jCV K_X10_colour 1 := ⟨m4_20, m4_18, m4_19, m1_11, by decide, by decide, by decide +kernel⟩
set_option maxRecDepth 20000 in
theorem q_X10_remembers : jCV K_X10_remembers 0 := ⟨m4_35, m4_34, m0_32, m1_11, by decide, by decide, by decide +kernel⟩
set_option maxRecDepth 20000 in
theorem q_X10_does : jCV K_X10_does 1 := ⟨m4_31, m4_30, m0_31, m1_11, by decide, by decide, by decide +kernel⟩
set_option maxRecDepth 20000 in
theorem q_X10_lace : jCV K_X10_lace 1 := ⟨m4_24, m4_22, m4_23, m1_11, by decide, by decide, by decide +kernel⟩
set_option maxRecDepth 20000 in
theorem q_X10_cut : jCV K_X10_cut 1 := ⟨m4_59, m4_57, m4_58, m1_11, by decide, by decide, by decide +kernel⟩
set_option maxRecDepth 20000 in
theorem q_X10_turn : jCV K_X10_turn 0 := ⟨m4_63, m4_61, m4_62, m1_11, by decide, by decide, by decide +kernel⟩
set_option maxRecDepth 20000 in
theorem q_X10_deal : jCV K_X10_deal 0 := ⟨m4_67, m4_65, m4_66, m1_11, by decide, by decide, by decide +kernel⟩
set_option maxRecDepth 20000 in
theorem q_X10_undo : jCV K_X10_undo 0 := ⟨m4_75, m4_73, m4_74, m1_11, by decide, by decide, by decide +kernel⟩
set_option maxRecDepth 20000 in
theorem q_X10_isInOrder : jCV K_X10_isInOrder 0 := ⟨m4_83, m4_82, m0_39, m1_11, by decide, by decide, by decide +kernel⟩
set_option maxRecDepth 20000 in
theorem q_X10_again : jCV K_X10_again 1 := ⟨m4_79, m4_77, m4_78, m1_11, by decide, by decide, by decide +kernel⟩
set_option maxRecDepth 20000 in
theorem q_X10_round : jCV K_X10_round 2 := ⟨m4_87, m4_85, m4_86, m1_11, by decide, by decide, by decide +kernel⟩
set_option maxRecDepth 20000 in
theorem q_X10_rounds : jCV K_X10_rounds 1 := ⟨m4_91, m4_89, m4_90, m1_11, by decide, by decide, by decide +kernel⟩
set_option maxRecDepth 20000 in
theorem q_X10_findGoes : jCV K_X10_findGoes 0 := ⟨m4_103, m4_102, m0_41, m1_11, by decide, by decide, by decide +kernel⟩
set_option maxRecDepth 20000 in
theorem q_X10_findFar : jCV K_X10_findFar 1 := ⟨m4_99, m4_98, m0_40, m1_11, by decide, by decide, by decide +kernel⟩
set_option maxRecDepth 20000 in
theorem q_X10_bring : jCV K_X10_bring 3 := ⟨m4_95, m4_93, m4_94, m1_11, by decide, by decide, by decide +kernel⟩
set_option maxRecDepth 20000 in
theorem q_X10_beside : jCV K_X10_beside 2 := ⟨m4_107, m4_105, m4_106, m1_11, by decide, by decide, by decide +kernel⟩
set_option maxRecDepth 20000 in
theorem q_X10_isMet : jCV K_X10_isMet 0 := ⟨m4_115, m4_114, m0_42, m1_11, by decide, by decide, by decide +kernel⟩
set_option maxRecDepth 20000 in
theorem q_X10_orders : jCV K_X10_orders 1 := ⟨m4_111, m4_109, m4_110, m1_11, by decide, by decide, by decide +kernel⟩
set_option maxRecDepth 20000 in
theorem q_X10_risingNow : jCV K_X10_risingNow 0 := ⟨m4_123, m4_122, m0_43, m1_11, by decide, by decide, by decide +kernel⟩
set_option maxRecDepth 20000 in
theorem q_X10_rising : jCV K_X10_rising 0 := ⟨m4_119, m4_117, m4_118, m1_11, by decide, by decide, by decide +kernel⟩
set_option maxRecDepth 20000 in
theorem q_X10_unlike : jCV K_X10_unlike 1 := ⟨m4_131, m4_130, m0_44, m1_11, by decide, by decide, by decide +kernel⟩
set_option maxRecDepth 20000 in
theorem q_X10_pairs : jCV K_X10_pairs 0 := ⟨m4_127, m4_125, m4_126, m1_11, by decide, by decide, by decide +kernel⟩
set_option maxRecDepth 20000 in
theorem q_X10_lowest : jCS K_X10_lowest 3 := ⟨m4_141, m4_140, m1_11, by decide, by decide, by decide +kernel⟩
set_option maxRecDepth 20000 in
theorem q_X10_bits : jCS K_X10_bits 1 := ⟨m4_138, m4_137, m1_11, by decide, by decide, by decide +kernel⟩
set_option maxRecDepth 20000 in
theorem q_X10_sure : jCV K_X10_sure 2 := ⟨m4_135, m4_133, m4_134, m1_11, by decide, by decide, by decide +kernel⟩
set_option maxRecDepth 20000 in
theorem q_X10_seen : jCV K_X10_seen 2 := ⟨m4_145, m4_143, m4_144, m1_11, by decide, by decide, by decide +kernel⟩
set_option maxRecDepth 20000 in
theorem q_X10_forget : jCV K_X10_forget 0 := ⟨m4_149, m4_147, m4_148, m1_11, by decide, by decide, by decide +kernel⟩
set_option maxRecDepth 20000 in
theorem q_X10_isBy : jCV K_X10_isBy 1 := ⟨m4_157, m4_156, m0_45, m1_11, by decide, by decide, by decide +kernel⟩
set_option maxRecDepth 20000 in
theorem q_X10_done : jCV K_X10_done 1 := ⟨m4_153, m4_151, m4_152, m1_11, by decide, by decide, by decide +kernel⟩
set_option maxRecDepth 20000 in
theorem q_X10_likely : jCV K_X10_likely 5 := ⟨m4_161, m4_159, m4_160, m1_11, by decide, by decide, by decide +kernel⟩
set_option maxRecDepth 20000 in
theorem q_X10_dealing : jCV K_X10_dealing 3 := ⟨m4_165, m4_163, m4_164, m1_11, by decide, by decide, by decide +kernel⟩
set_option maxRecDepth 20000 in
theorem q_X10_keep : jCV K_X10_keep 0 := ⟨m4_173, m4_171, m4_172, m1_11, by decide, by decide, by decide +kernel⟩
set_option maxRecDepth 20000 in
theorem q_X10_back : jCV K_X10_back 0 := ⟨m4_177, m4_175, m4_176, m1_11, by decide, by decide, by decide +kernel⟩
set_option maxRecDepth 20000 in
theorem q_X10_count : jCV K_X10_count 1 := ⟨m4_181, m4_179, m4_180, m1_11, by decide, by decide, by decide +kernel⟩
