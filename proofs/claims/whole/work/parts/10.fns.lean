/-! the methods as pure functions: none where the machine would throw or the fuel F ends -/
def f_X4_with (F : Nat) (x0 : Int64) (x2 : Int32) (x3 : Int32) : Option (Int64) :=
  some ((x0 ||| (jlshl x3.toInt64 ((4 : Int32) * x2))))
def g_X4_inOrder_4 (F : Nat) (x0 : Int32) : Nat → Int64 → Int32 → Option (Int64)
  | 0, _, _ => none
  | n + 1, x1, x3 =>
    if x0 ≤ x3 then
      some (x1)
    else
      (f_X4_with F x1 x3 x3).bind fun b1 =>
      g_X4_inOrder_4 F x0 n b1 (x3 + (1 : Int32))
def f_X4_inOrder (F : Nat) (x0 : Int32) : Option (Int64) :=
  g_X4_inOrder_4 F x0 F (0 : Int64) (0 : Int32)
def f_X5_begin (F : Nat) (x1 : Int32) (v_o_cards : Int32) (v_o_colours : Int32) (v_o_acts : Int32) (v_o_deal : Int64) : Option (Int32 × Int32 × Int32 × Int64) :=
  (f_X4_inOrder F x1).bind fun b1 =>
  some (x1, (1145324612 : Int32), (0 : Int32), b1)
def f_X9_within (F : Nat) (x0 : Int32) (x1 : Int32) (x2 : Int32) : Option (Int32) :=
  if x0 < x1 then
    some ((0 : Int32))
  else
    if x2 < x0 then
      some ((0 : Int32))
    else
      some ((1 : Int32))
def f_X5_tellColour (F : Nat) (x1 : Int32) (x2 : Int32) (v_o_cards : Int32) (v_o_colours : Int32) (v_o_cardsAreFixed : Int32) : Option (Int32 × Int32 × Int32) :=
  (f_X9_within F x1 (0 : Int32) (v_o_cards - (1 : Int32))).bind fun b1 =>
  if b1 = (0 : Int32) then
    some ((0 : Int32), v_o_colours, v_o_cardsAreFixed)
  else
    (f_X9_within F x2 (0 : Int32) (3 : Int32)).bind fun b2 =>
    if b2 = (0 : Int32) then
      some ((0 : Int32), v_o_colours, v_o_cardsAreFixed)
    else
      some ((1 : Int32), ((v_o_colours &&& ((jshl (3 : Int32) ((2 : Int32) * x1)) ^^^ (-1 : Int32))) ||| (jshl x2 ((2 : Int32) * x1))), (1 : Int32))
def f_X9_isKind (F : Nat) (x0 : Int32) : Option (Int32) :=
  (f_X9_within F x0 (0 : Int32) (4 : Int32)).bind fun b1 =>
  jgz b1 (some (b1))
def f_X4_cardAt (F : Nat) (x0 : Int64) (x2 : Int32) : Option (Int32) :=
  some ((((jlushr x0 ((4 : Int32) * x2))).toInt32 &&& (15 : Int32)))
def g_X3_downAndUnder_10 (F : Nat) (x0 : Int32) : Nat → Int64 → Int64 → Int32 → Option (Int64)
  | 0, _, _, _ => none
  | n + 1, x1, x3, x5 =>
    if x0 ≤ x5 then
      some (x3)
    else
      (f_X4_cardAt F x1 (0 : Int32)).bind fun b1 =>
      (f_X4_with F x3 x5 b1).bind fun b2 =>
      if ((x0 - (1 : Int32)) - x5) ≤ (1 : Int32) then
        g_X3_downAndUnder_10 F x0 n (jlushr x1 (4 : Int32)) b2 (x5 + (1 : Int32))
      else
        (f_X4_cardAt F (jlushr x1 (4 : Int32)) (0 : Int32)).bind fun b3 =>
        (f_X4_with F (jlushr (jlushr x1 (4 : Int32)) (4 : Int32)) (((x0 - (1 : Int32)) - x5) - (1 : Int32)) b3).bind fun b4 =>
        g_X3_downAndUnder_10 F x0 n b4 b2 (x5 + (1 : Int32))
def f_X3_downAndUnder (F : Nat) (x0 : Int32) : Option (Int64) :=
  (f_X4_inOrder F x0).bind fun b1 =>
  g_X3_downAndUnder_10 F x0 F b1 (0 : Int64) (0 : Int32)
def g_X3_source_15 (F : Nat) (x0 : Int32) (x1 : Int32) (x2 : Int32) (x3 : Int32) (s0 : Int32) : Option (Int32) :=
  if x0 = (0 : Int32) then
    if s0 = (0 : Int32) then
      jgd (2 : Int32) (
      some ((((x1 + (1 : Int32)) / (2 : Int32)) + x3)))
    else
      some (x3)
  else if x0 = (1 : Int32) then
    if s0 = (0 : Int32) then
      some (x3)
    else
      jgd (2 : Int32) (
      some (((x1 / (2 : Int32)) + x3)))
  else if x0 = (2 : Int32) then
    if s0 = (0 : Int32) then
      some (((x1 - (1 : Int32)) - x3))
    else
      some (x3)
  else
    if s0 = (0 : Int32) then
      some (x3)
    else
      some (((x1 - (1 : Int32)) - x3))
def f_X3_source (F : Nat) (x0 : Int32) (x1 : Int32) (x2 : Int32) : Option (Int32) :=
  jgd (2 : Int32) (
  jgd (2 : Int32) (
  if (jrem x2 (2 : Int32)) = (0 : Int32) then
    g_X3_source_15 F x0 x1 x2 (x2 / (2 : Int32)) (1 : Int32)
  else
    g_X3_source_15 F x0 x1 x2 (x2 / (2 : Int32)) (0 : Int32)))
def g_X3_lacing_15 (F : Nat) (x0 : Int32) (x1 : Int32) : Nat → Int64 → Int32 → Option (Int64)
  | 0, _, _ => none
  | n + 1, x2, x4 =>
    if x1 ≤ x4 then
      some (x2)
    else
      (f_X3_source F x0 x1 x4).bind fun b1 =>
      (f_X4_with F x2 x4 b1).bind fun b2 =>
      g_X3_lacing_15 F x0 x1 n b2 (x4 + (1 : Int32))
def f_X3_lacing (F : Nat) (x0 : Int32) (x1 : Int32) : Option (Int64) :=
  if x0 = (3 : Int32) then
    (f_X3_downAndUnder F x1).bind fun b1 =>
    some (b1)
  else
    g_X3_lacing_15 F x0 x1 F (0 : Int64) (0 : Int32)
def g_X4_moved_6 (F : Nat) (x0 : Int64) (x2 : Int64) (x4 : Int32) : Nat → Int64 → Int32 → Option (Int64)
  | 0, _, _ => none
  | n + 1, x5, x7 =>
    if x4 ≤ x7 then
      some (x5)
    else
      (f_X4_cardAt F x2 x7).bind fun b1 =>
      (f_X4_cardAt F x0 b1).bind fun b2 =>
      (f_X4_with F x5 x7 b2).bind fun b3 =>
      g_X4_moved_6 F x0 x2 x4 n b3 (x7 + (1 : Int32))
def f_X4_moved (F : Nat) (x0 : Int64) (x2 : Int64) (x4 : Int32) : Option (Int64) :=
  g_X4_moved_6 F x0 x2 x4 F (0 : Int64) (0 : Int32)
def f_X5_addAct (F : Nat) (x1 : Int64) (v_o_cards : Int32) (v_o_acts : Int32) (v_o_deal : Int64) (v_o_cardsAreFixed : Int32) : Option (Int32 × Int32 × Int64 × Int32) :=
  if v_o_acts < (16 : Int32) then
    (f_X4_moved F v_o_deal x1 v_o_cards).bind fun b1 =>
    some ((1 : Int32), (v_o_acts + (1 : Int32)), b1, (1 : Int32))
  else
    some ((0 : Int32), v_o_acts, v_o_deal, v_o_cardsAreFixed)
def f_X5_tellLacing (F : Nat) (x1 : Int32) (v_o_cards : Int32) (v_o_acts : Int32) (v_o_deal : Int64) (v_o_cardsAreFixed : Int32) : Option (Int32 × Int32 × Int64 × Int32) :=
  (f_X9_isKind F x1).bind fun b1 =>
  if b1 = (0 : Int32) then
    some ((0 : Int32), v_o_acts, v_o_deal, v_o_cardsAreFixed)
  else
    (f_X3_lacing F x1 v_o_cards).bind fun b2 =>
    (f_X5_addAct F b2 v_o_cards v_o_acts v_o_deal v_o_cardsAreFixed).bind fun b3 =>
    if b3.1 = (0 : Int32) then
      some ((0 : Int32), b3.2.1, b3.2.2.1, b3.2.2.2)
    else
      some ((1 : Int32), b3.2.1, b3.2.2.1, b3.2.2.2)
def g_X3_cutAt_5 (F : Nat) (x0 : Int32) (x1 : Int32) : Nat → Int64 → Int32 → Option (Int64)
  | 0, _, _ => none
  | n + 1, x2, x4 =>
    if x1 ≤ x4 then
      some (x2)
    else
      if x1 ≤ (x4 + x0) then
        (f_X4_with F x2 x4 ((x4 + x0) - x1)).bind fun b1 =>
        g_X3_cutAt_5 F x0 x1 n b1 (x4 + (1 : Int32))
      else
        (f_X4_with F x2 x4 (x4 + x0)).bind fun b2 =>
        g_X3_cutAt_5 F x0 x1 n b2 (x4 + (1 : Int32))
def f_X3_cutAt (F : Nat) (x0 : Int32) (x1 : Int32) : Option (Int64) :=
  g_X3_cutAt_5 F x0 x1 F (0 : Int64) (0 : Int32)
def f_X5_tellCut (F : Nat) (x1 : Int32) (v_o_cards : Int32) (v_o_acts : Int32) (v_o_deal : Int64) (v_o_cardsAreFixed : Int32) : Option (Int32 × Int32 × Int64 × Int32) :=
  (f_X9_within F x1 (0 : Int32) (v_o_cards - (1 : Int32))).bind fun b1 =>
  if b1 = (0 : Int32) then
    some ((0 : Int32), v_o_acts, v_o_deal, v_o_cardsAreFixed)
  else
    (f_X3_cutAt F x1 v_o_cards).bind fun b2 =>
    (f_X5_addAct F b2 v_o_cards v_o_acts v_o_deal v_o_cardsAreFixed).bind fun b3 =>
    if b3.1 = (0 : Int32) then
      some ((0 : Int32), b3.2.1, b3.2.2.1, b3.2.2.2)
    else
      some ((1 : Int32), b3.2.1, b3.2.2.1, b3.2.2.2)
def f_X5_tellFirst (F : Nat) (v_o_cards : Int32) (v_o_colours : Int32) (v_o_acts : Int32) (v_o_deal : Int64) (v_o_cardsAreFixed : Int32) : Option (Int32 × Int32 × Int32 × Int64 × Int32) :=
  (f_X5_begin F (10 : Int32) v_o_cards v_o_colours v_o_acts v_o_deal).bind fun b1 =>
  (f_X5_tellColour F (3 : Int32) (0 : Int32) b1.1 b1.2.1 v_o_cardsAreFixed).bind fun b2 =>
  (f_X5_tellColour F (4 : Int32) (2 : Int32) b1.1 b2.2.1 b2.2.2).bind fun b3 =>
  (f_X5_tellLacing F (0 : Int32) b1.1 b1.2.2.1 b1.2.2.2 b3.2.2).bind fun b4 =>
  (f_X5_tellCut F (3 : Int32) b1.1 b4.2.1 b4.2.2.1 b4.2.2.2).bind fun b5 =>
  (f_X5_tellLacing F (1 : Int32) b1.1 b5.2.1 b5.2.2.1 b5.2.2.2).bind fun b6 =>
  some (b1.1, b3.2.1, b6.2.1, b6.2.2.1, b6.2.2.2)
def f_X8_append (F : Nat) (x1 : Int32) (v_o_length : Int32) (f_o_letters : Nat → Int32) : Option (Int32 × Int32 × (Nat → Int32)) :=
  if v_o_length < (0 : Int32) then
    some ((0 : Int32), v_o_length, f_o_letters)
  else
    if v_o_length < (200 : Int32) then
      jgi v_o_length 200 (
      some ((1 : Int32), (v_o_length + (1 : Int32)), (upd f_o_letters v_o_length.toNatClampNeg (vp_nar .char (jchar x1)))))
    else
      some ((0 : Int32), v_o_length, f_o_letters)
def f_X9_write (F : Nat) (x1 : Int32) (v_o_text_length : Int32) (f_o_text_letters : Nat → Int32) : Option (Int32 × Int32 × (Nat → Int32)) :=
  (f_X9_within F x1 (32 : Int32) (126 : Int32)).bind fun b1 =>
  if b1 = (0 : Int32) then
    some ((-1 : Int32), v_o_text_length, f_o_text_letters)
  else
    (f_X8_append F x1 v_o_text_length f_o_text_letters).bind fun b2 =>
    if b2.1 = (0 : Int32) then
      some ((-3 : Int32), b2.2.1, b2.2.2)
    else
      some (b2.2.1, b2.2.1, b2.2.2)
def f_X9_wipe (F : Nat) (v_o_text_length : Int32) : Option (Int32 × Int32) :=
  some (v_o_text_length, (0 : Int32))
def f_X5_tellNothing (F : Nat) (v_o_cards : Int32) (v_o_colours : Int32) (v_o_acts : Int32) (v_o_deal : Int64) (v_o_cardsAreFixed : Int32) : Option (Int32 × Int32 × Int32 × Int64 × Int32) :=
  (f_X5_begin F (8 : Int32) v_o_cards v_o_colours v_o_acts v_o_deal).bind fun b1 =>
  some (b1.1, b1.2.1, b1.2.2.1, b1.2.2.2, (0 : Int32))
def f_X8_nextLetter (F : Nat) (v_o_length : Int32) (f_o_letters : Nat → Int32) (v_o_next : Int32) : Option (Int32 × Int32) :=
  if v_o_next < (0 : Int32) then
    some ((0 : Int32), v_o_next)
  else
    if v_o_length ≤ v_o_next then
      some ((0 : Int32), v_o_next)
    else
      if v_o_next < (200 : Int32) then
        jgi v_o_next 200 (
        some ((f_o_letters v_o_next.toNatClampNeg), (v_o_next + (1 : Int32))))
      else
        some ((0 : Int32), v_o_next)
def f_X8_figureOf (F : Nat) (x0 : Int32) : Option (Int32) :=
  if x0 < (48 : Int32) then
    some ((-1 : Int32))
  else
    if (57 : Int32) < x0 then
      some ((-1 : Int32))
    else
      some ((x0 - (48 : Int32)))
def f_X8_readNumber (F : Nat) (x1 : Int32) (v_o_length : Int32) (f_o_letters : Nat → Int32) (v_o_next : Int32) : Option (Int32 × Int32) :=
  (f_X8_nextLetter F v_o_length f_o_letters v_o_next).bind fun b1 =>
  (f_X8_figureOf F b1.1).bind fun b2 =>
  if (0 : Int32) ≤ b2 then
    (f_X8_nextLetter F v_o_length f_o_letters b1.2).bind fun b3 =>
    (f_X8_figureOf F b3.1).bind fun b4 =>
    if b4 < (0 : Int32) then
      if b3.1 = x1 then
        some (b2, b3.2)
      else
        some ((-1 : Int32), b3.2)
    else
      (f_X8_figureOf F b3.1).bind fun b5 =>
      (f_X8_nextLetter F v_o_length f_o_letters b3.2).bind fun b6 =>
      if b6.1 = x1 then
        some ((((10 : Int32) * b2) + b5), b6.2)
      else
        some ((-1 : Int32), b6.2)
  else
    some ((-1 : Int32), b1.2)
def f_X5_tellCards (F : Nat) (x1 : Int32) (v_o_cardsAreFixed : Int32) (v_o_cards : Int32) (v_o_colours : Int32) (v_o_acts : Int32) (v_o_deal : Int64) : Option (Int32 × Int32 × Int32 × Int32 × Int64) :=
  if v_o_cardsAreFixed = (0 : Int32) then
    (f_X9_within F x1 (2 : Int32) (16 : Int32)).bind fun b1 =>
    if b1 = (0 : Int32) then
      some ((0 : Int32), v_o_cards, v_o_colours, v_o_acts, v_o_deal)
    else
      (f_X5_begin F x1 v_o_cards v_o_colours v_o_acts v_o_deal).bind fun b2 =>
      some ((1 : Int32), b2.1, b2.2.1, b2.2.2.1, b2.2.2.2)
  else
    some ((0 : Int32), v_o_cards, v_o_colours, v_o_acts, v_o_deal)
def f_X8_readItem (F : Nat) (v_o_length : Int32) (f_o_letters : Nat → Int32) (v_o_next : Int32) (v_p1_cards : Int32) (v_p1_colours : Int32) (v_p1_acts : Int32) (v_p1_deal : Int64) (v_p1_cardsAreFixed : Int32) : Option (Int32 × Int32 × Int32 × Int32 × Int32 × Int64 × Int32) :=
  (f_X8_nextLetter F v_o_length f_o_letters v_o_next).bind fun b1 =>
  if b1.1 = (99 : Int32) then
    (f_X8_readNumber F (44 : Int32) v_o_length f_o_letters b1.2).bind fun b6 =>
    (f_X8_readNumber F (59 : Int32) v_o_length f_o_letters b6.2).bind fun b7 =>
    (f_X5_tellColour F b6.1 b7.1 v_p1_cards v_p1_colours v_p1_cardsAreFixed).bind fun b8 =>
    jgz b8.1 (some (b8.1, b7.2, v_p1_cards, b8.2.1, v_p1_acts, v_p1_deal, b8.2.2))
  else
    (f_X8_readNumber F (59 : Int32) v_o_length f_o_letters b1.2).bind fun b2 =>
    if b1.1 = (108 : Int32) then
      (f_X5_tellLacing F b2.1 v_p1_cards v_p1_acts v_p1_deal v_p1_cardsAreFixed).bind fun b3 =>
      jgz b3.1 (some (b3.1, b2.2, v_p1_cards, v_p1_colours, b3.2.1, b3.2.2.1, b3.2.2.2))
    else if b1.1 = (110 : Int32) then
      (f_X5_tellCards F b2.1 v_p1_cardsAreFixed v_p1_cards v_p1_colours v_p1_acts v_p1_deal).bind fun b4 =>
      jgz b4.1 (some (b4.1, b2.2, b4.2.1, b4.2.2.1, b4.2.2.2.1, b4.2.2.2.2, v_p1_cardsAreFixed))
    else if b1.1 = (120 : Int32) then
      (f_X5_tellCut F b2.1 v_p1_cards v_p1_acts v_p1_deal v_p1_cardsAreFixed).bind fun b5 =>
      jgz b5.1 (some (b5.1, b2.2, v_p1_cards, v_p1_colours, b5.2.1, b5.2.2.1, b5.2.2.2))
    else
      some ((0 : Int32), b2.2, v_p1_cards, v_p1_colours, v_p1_acts, v_p1_deal, v_p1_cardsAreFixed)
def g_X8_firstFault_11 (F : Nat) (v_o_length : Int32) (f_o_letters : Nat → Int32) : Nat → Int32 → Int32 → Int32 → Int32 → Int32 → Int64 → Int32 → Option (Int32 × Int32 × Int32 × Int32 × Int32 × Int64 × Int32)
  | 0, _, _, _, _, _, _, _ => none
  | n + 1, x2, v_o_next, v_p1_cards, v_p1_colours, v_p1_acts, v_p1_deal, v_p1_cardsAreFixed =>
    if (200 : Int32) ≤ x2 then
      some ((-4 : Int32), v_o_next, v_p1_cards, v_p1_colours, v_p1_acts, v_p1_deal, v_p1_cardsAreFixed)
    else
      if v_o_length ≤ v_o_next then
        some ((-4 : Int32), v_o_next, v_p1_cards, v_p1_colours, v_p1_acts, v_p1_deal, v_p1_cardsAreFixed)
      else
        (f_X8_readItem F v_o_length f_o_letters v_o_next v_p1_cards v_p1_colours v_p1_acts v_p1_deal v_p1_cardsAreFixed).bind fun b1 =>
        if b1.1 = (0 : Int32) then
          some (v_o_next, b1.2.1, b1.2.2.1, b1.2.2.2.1, b1.2.2.2.2.1, b1.2.2.2.2.2.1, b1.2.2.2.2.2.2)
        else
          g_X8_firstFault_11 F v_o_length f_o_letters n (x2 + (1 : Int32)) b1.2.1 b1.2.2.1 b1.2.2.2.1 b1.2.2.2.2.1 b1.2.2.2.2.2.1 b1.2.2.2.2.2.2
def f_X8_firstFault (F : Nat) (v_o_length : Int32) (f_o_letters : Nat → Int32) (v_o_next : Int32) (v_p1_cards : Int32) (v_p1_colours : Int32) (v_p1_acts : Int32) (v_p1_deal : Int64) (v_p1_cardsAreFixed : Int32) : Option (Int32 × Int32 × Int32 × Int32 × Int32 × Int64 × Int32) :=
  (f_X5_tellNothing F v_p1_cards v_p1_colours v_p1_acts v_p1_deal v_p1_cardsAreFixed).bind fun b1 =>
  g_X8_firstFault_11 F v_o_length f_o_letters F (0 : Int32) (0 : Int32) b1.1 b1.2.1 b1.2.2.1 b1.2.2.2.1 b1.2.2.2.2
def f_X9_fault (F : Nat) (v_o_text_length : Int32) (f_o_text_letters : Nat → Int32) (v_o_draft_cards : Int32) (v_o_draft_colours : Int32) (v_o_draft_acts : Int32) (v_o_draft_deal : Int64) (v_o_draft_cardsAreFixed : Int32) (v_o_text_next : Int32) : Option (Int32 × Int32 × Int32 × Int32 × Int64 × Int32 × Int32) :=
  (f_X8_firstFault F v_o_text_length f_o_text_letters v_o_text_next v_o_draft_cards v_o_draft_colours v_o_draft_acts v_o_draft_deal v_o_draft_cardsAreFixed).bind fun b1 =>
  some (b1.1, b1.2.2.1, b1.2.2.2.1, b1.2.2.2.2.1, b1.2.2.2.2.2.1, b1.2.2.2.2.2.2, b1.2.1)
def f_X5_become (F : Nat) (v_p1_cards : Int32) (v_p1_colours : Int32) (v_p1_acts : Int32) (v_p1_deal : Int64) (v_p1_cardsAreFixed : Int32) (v_o_cards : Int32) (v_o_colours : Int32) (v_o_acts : Int32) (v_o_deal : Int64) (v_o_cardsAreFixed : Int32) : Option (Int32 × Int32 × Int32 × Int64 × Int32) :=
  jgz v_p1_cardsAreFixed (
  some (v_p1_cards, v_p1_colours, v_p1_acts, v_p1_deal, v_p1_cardsAreFixed))
def f_X9_lay (F : Nat) (v_o_text_length : Int32) (f_o_text_letters : Nat → Int32) (v_o_order : Int64) (v_o_draft_cards : Int32) (v_o_draft_colours : Int32) (v_o_draft_acts : Int32) (v_o_draft_deal : Int64) (v_o_draft_cardsAreFixed : Int32) (v_o_kept_held : Int32) (v_o_laid_cards : Int32) (v_o_laid_colours : Int32) (v_o_laid_acts : Int32) (v_o_laid_deal : Int64) (v_o_laid_cardsAreFixed : Int32) (v_o_past_held : Int32) (v_o_sightings_held : Int32) (v_o_text_next : Int32) : Option (Int32 × Int64 × Int32 × Int32 × Int32 × Int64 × Int32 × Int32 × Int32 × Int32 × Int32 × Int64 × Int32 × Int32 × Int32 × Int32) :=
  if v_o_text_length = (0 : Int32) then
    some ((-2 : Int32), v_o_order, v_o_draft_cards, v_o_draft_colours, v_o_draft_acts, v_o_draft_deal, v_o_draft_cardsAreFixed, v_o_kept_held, v_o_laid_cards, v_o_laid_colours, v_o_laid_acts, v_o_laid_deal, v_o_laid_cardsAreFixed, v_o_past_held, v_o_sightings_held, v_o_text_next)
  else
    (f_X8_firstFault F v_o_text_length f_o_text_letters v_o_text_next v_o_draft_cards v_o_draft_colours v_o_draft_acts v_o_draft_deal v_o_draft_cardsAreFixed).bind fun b1 =>
    if b1.1 = (-4 : Int32) then
      (f_X5_become F b1.2.2.1 b1.2.2.2.1 b1.2.2.2.2.1 b1.2.2.2.2.2.1 b1.2.2.2.2.2.2 v_o_laid_cards v_o_laid_colours v_o_laid_acts v_o_laid_deal v_o_laid_cardsAreFixed).bind fun b2 =>
      (f_X4_inOrder F b2.1).bind fun b3 =>
      some (b2.1, b3, b1.2.2.1, b1.2.2.2.1, b1.2.2.2.2.1, b1.2.2.2.2.2.1, b1.2.2.2.2.2.2, (0 : Int32), b2.1, b2.2.1, b2.2.2.1, b2.2.2.2.1, b2.2.2.2.2, (0 : Int32), (0 : Int32), b1.2.1)
    else
      some ((-2 : Int32), v_o_order, b1.2.2.1, b1.2.2.2.1, b1.2.2.2.2.1, b1.2.2.2.2.2.1, b1.2.2.2.2.2.2, v_o_kept_held, v_o_laid_cards, v_o_laid_colours, v_o_laid_acts, v_o_laid_deal, v_o_laid_cardsAreFixed, v_o_past_held, v_o_sightings_held, b1.2.1)
def f_X9_isPlace (F : Nat) (x1 : Int32) (v_o_laid_cards : Int32) : Option (Int32) :=
  (f_X9_within F x1 (0 : Int32) (v_o_laid_cards - (1 : Int32))).bind fun b1 =>
  jgz b1 (some (b1))
def f_X9_at (F : Nat) (x1 : Int32) (v_o_order : Int64) (v_o_laid_cards : Int32) : Option (Int32) :=
  (f_X9_isPlace F x1 v_o_laid_cards).bind fun b1 =>
  if b1 = (0 : Int32) then
    some ((-1 : Int32))
  else
    (f_X4_cardAt F v_o_order x1).bind fun b2 =>
    some (b2)
def f_X9_isCard (F : Nat) (x1 : Int32) (v_o_laid_cards : Int32) : Option (Int32) :=
  (f_X9_within F x1 (0 : Int32) (v_o_laid_cards - (1 : Int32))).bind fun b1 =>
  jgz b1 (some (b1))
def g_X4_placeOf_6 (F : Nat) (x0 : Int64) (x2 : Int32) (x3 : Int32) : Nat → Int32 → Int32 → Option (Int32)
  | 0, _, _ => none
  | n + 1, x4, x5 =>
    if x2 ≤ x5 then
      some (x4)
    else
      (f_X4_cardAt F x0 x5).bind fun b1 =>
      if b1 = x3 then
        g_X4_placeOf_6 F x0 x2 x3 n x5 (x5 + (1 : Int32))
      else
        g_X4_placeOf_6 F x0 x2 x3 n x4 (x5 + (1 : Int32))
def f_X4_placeOf (F : Nat) (x0 : Int64) (x2 : Int32) (x3 : Int32) : Option (Int32) :=
  g_X4_placeOf_6 F x0 x2 x3 F (0 : Int32) (0 : Int32)
def f_X9_where (F : Nat) (x1 : Int32) (v_o_order : Int64) (v_o_laid_cards : Int32) : Option (Int32) :=
  (f_X9_isCard F x1 v_o_laid_cards).bind fun b1 =>
  if b1 = (0 : Int32) then
    some ((-1 : Int32))
  else
    (f_X4_placeOf F v_o_order v_o_laid_cards x1).bind fun b2 =>
    some (b2)
def f_X5_colourOf (F : Nat) (x1 : Int32) (v_o_colours : Int32) : Option (Int32) :=
  some (((jushr v_o_colours ((2 : Int32) * x1)) &&& (3 : Int32)))
def f_X9_colour (F : Nat) (x1 : Int32) (v_o_laid_cards : Int32) (v_o_laid_colours : Int32) : Option (Int32) :=
  (f_X9_isCard F x1 v_o_laid_cards).bind fun b1 =>
  if b1 = (0 : Int32) then
    some ((-1 : Int32))
  else
    (f_X5_colourOf F x1 v_o_laid_colours).bind fun b2 =>
    some (b2)
def f_X6_isFull (F : Nat) (n_o_stored : Nat) (v_o_held : Int32) : Option (Int32) :=
  if v_o_held < (Int32.ofNat n_o_stored) then
    some ((0 : Int32))
  else
    some ((1 : Int32))
def g_X6_put_38 (F : Nat) (n_o_stored : Nat) (x1 : Int64) (v_o_held : Int32) (f_o_stored : Nat → Int64) : Option (Int32 × (Nat → Int64)) :=
  if v_o_held < (0 : Int32) then
    some (v_o_held, f_o_stored)
  else
    if (Int32.ofNat n_o_stored) ≤ v_o_held then
      some (v_o_held, f_o_stored)
    else
      jgi v_o_held n_o_stored (
      some ((v_o_held + (1 : Int32)), (vp_updL f_o_stored v_o_held.toNatClampNeg x1)))
def f_X6_put (F : Nat) (n_o_stored : Nat) (x1 : Int64) (v_o_held : Int32) (f_o_stored : Nat → Int64) : Option (Int32 × (Nat → Int64)) :=
  (f_X6_isFull F n_o_stored v_o_held).bind fun b1 =>
  if b1 = (0 : Int32) then
    g_X6_put_38 F n_o_stored x1 v_o_held f_o_stored
  else
    jgc (1 : Int32) (0 : Int32) ((Int32.ofNat n_o_stored) - (1 : Int32)) n_o_stored n_o_stored (
    g_X6_put_38 F n_o_stored x1 ((Int32.ofNat n_o_stored) - (1 : Int32)) (va_cpy f_o_stored f_o_stored (1 : Int32).toNatClampNeg (0 : Int32).toNatClampNeg ((Int32.ofNat n_o_stored) - (1 : Int32)).toNatClampNeg))
def f_X9_act (F : Nat) (x1 : Int64) (v_o_laid_cards : Int32) (v_o_order : Int64) (v_o_past_held : Int32) (f_o_past_stored : Nat → Int64) : Option (Int32 × Int64 × Int32 × (Nat → Int64)) :=
  (f_X6_put F 8 v_o_order v_o_past_held f_o_past_stored).bind fun b1 =>
  (f_X4_moved F v_o_order x1 v_o_laid_cards).bind fun b2 =>
  (f_X4_cardAt F b2 (0 : Int32)).bind fun b3 =>
  some (b3, b2, b1.1, b1.2)
def f_X9_lace (F : Nat) (x1 : Int32) (v_o_laid_cards : Int32) (v_o_order : Int64) (v_o_past_held : Int32) (f_o_past_stored : Nat → Int64) : Option (Int32 × Int64 × Int32 × (Nat → Int64)) :=
  (f_X9_isKind F x1).bind fun b1 =>
  if b1 = (0 : Int32) then
    some ((-1 : Int32), v_o_order, v_o_past_held, f_o_past_stored)
  else
    (f_X3_lacing F x1 v_o_laid_cards).bind fun b2 =>
    (f_X9_act F b2 v_o_laid_cards v_o_order v_o_past_held f_o_past_stored).bind fun b3 =>
    some (b3.1, b3.2.1, b3.2.2.1, b3.2.2.2)
def f_X9_cut (F : Nat) (x1 : Int32) (v_o_laid_cards : Int32) (v_o_order : Int64) (v_o_past_held : Int32) (f_o_past_stored : Nat → Int64) : Option (Int32 × Int64 × Int32 × (Nat → Int64)) :=
  (f_X9_within F x1 (0 : Int32) (v_o_laid_cards - (1 : Int32))).bind fun b1 =>
  if b1 = (0 : Int32) then
    some ((-1 : Int32), v_o_order, v_o_past_held, f_o_past_stored)
  else
    (f_X3_cutAt F x1 v_o_laid_cards).bind fun b2 =>
    (f_X9_act F b2 v_o_laid_cards v_o_order v_o_past_held f_o_past_stored).bind fun b3 =>
    some (b3.1, b3.2.1, b3.2.2.1, b3.2.2.2)
def g_X3_turnedOver_4 (F : Nat) (x0 : Int32) : Nat → Int64 → Int32 → Option (Int64)
  | 0, _, _ => none
  | n + 1, x1, x3 =>
    if x0 ≤ x3 then
      some (x1)
    else
      (f_X4_with F x1 x3 ((x0 - (1 : Int32)) - x3)).bind fun b1 =>
      g_X3_turnedOver_4 F x0 n b1 (x3 + (1 : Int32))
def f_X3_turnedOver (F : Nat) (x0 : Int32) : Option (Int64) :=
  g_X3_turnedOver_4 F x0 F (0 : Int64) (0 : Int32)
def f_X9_turn (F : Nat) (v_o_laid_cards : Int32) (v_o_order : Int64) (v_o_past_held : Int32) (f_o_past_stored : Nat → Int64) : Option (Int32 × Int64 × Int32 × (Nat → Int64)) :=
  (f_X3_turnedOver F v_o_laid_cards).bind fun b1 =>
  (f_X9_act F b1 v_o_laid_cards v_o_order v_o_past_held f_o_past_stored).bind fun b2 =>
  some (b2.1, b2.2.1, b2.2.2.1, b2.2.2.2)
def f_X9_deal (F : Nat) (v_o_laid_cards : Int32) (v_o_laid_deal : Int64) (v_o_order : Int64) (v_o_past_held : Int32) (f_o_past_stored : Nat → Int64) : Option (Int32 × Int64 × Int32 × (Nat → Int64)) :=
  (f_X9_act F v_o_laid_deal v_o_laid_cards v_o_order v_o_past_held f_o_past_stored).bind fun b1 =>
  some (b1.1, b1.2.1, b1.2.2.1, b1.2.2.2)
def f_X6_takeLast (F : Nat) (n_o_stored : Nat) (f_o_stored : Nat → Int64) (v_o_held : Int32) : Option (Int64 × Int32) :=
  if v_o_held ≤ (0 : Int32) then
    some ((0 : Int64), v_o_held)
  else
    if v_o_held ≤ (Int32.ofNat n_o_stored) then
      jgi (v_o_held - (1 : Int32)) n_o_stored (
      some ((f_o_stored (v_o_held - (1 : Int32)).toNatClampNeg), (v_o_held - (1 : Int32))))
    else
      some ((0 : Int64), v_o_held)
def f_X9_undo (F : Nat) (f_o_past_stored : Nat → Int64) (v_o_order : Int64) (v_o_past_held : Int32) : Option (Int32 × Int64 × Int32) :=
  if v_o_past_held = (0 : Int32) then
    some ((-2 : Int32), v_o_order, v_o_past_held)
  else
    (f_X6_takeLast F 8 f_o_past_stored v_o_past_held).bind fun b1 =>
    some (b1.2, b1.1, b1.2)
def g_X4_roundLength_6 (F : Nat) (x0 : Int64) (x2 : Int32) (x3 : Int32) : Nat → Int32 → Int32 → Option (Int32)
  | 0, _, _ => none
  | n + 1, x4, x5 =>
    if x2 ≤ x5 then
      some (x2)
    else
      (f_X4_cardAt F x0 x4).bind fun b1 =>
      if b1 = x3 then
        some (x5)
      else
        g_X4_roundLength_6 F x0 x2 x3 n b1 (x5 + (1 : Int32))
def f_X4_roundLength (F : Nat) (x0 : Int64) (x2 : Int32) (x3 : Int32) : Option (Int32) :=
  g_X4_roundLength_6 F x0 x2 x3 F x3 (1 : Int32)
def g_X1_commonDivisor_7 (F : Nat) (x0 : Int32) (x1 : Int32) : Nat → Int32 → Int32 → Int32 → Option (Int32)
  | 0, _, _, _ => none
  | n + 1, x2, x3, x4 =>
    if (64 : Int32) ≤ x4 then
      some (x2)
    else
      if x3 = (0 : Int32) then
        some (x2)
      else
        jgd x3 (
        g_X1_commonDivisor_7 F x0 x1 n x3 (jrem x2 x3) (x4 + (1 : Int32)))
def f_X1_commonDivisor (F : Nat) (x0 : Int32) (x1 : Int32) : Option (Int32) :=
  g_X1_commonDivisor_7 F x0 x1 F x0 x1 (0 : Int32)
def g_X4_timesTillSame_5 (F : Nat) (x0 : Int64) (x2 : Int32) : Nat → Int32 → Int32 → Option (Int32)
  | 0, _, _ => none
  | n + 1, x3, x4 =>
    if x2 ≤ x4 then
      some (x3)
    else
      (f_X4_roundLength F x0 x2 x4).bind fun b1 =>
      (f_X1_commonDivisor F x3 b1).bind fun b2 =>
      if b2 ≤ (0 : Int32) then
        g_X4_timesTillSame_5 F x0 x2 n x3 (x4 + (1 : Int32))
      else
        jgd b2 (
        g_X4_timesTillSame_5 F x0 x2 n ((x3 / b2) * b1) (x4 + (1 : Int32)))
def f_X4_timesTillSame (F : Nat) (x0 : Int64) (x2 : Int32) : Option (Int32) :=
  g_X4_timesTillSame_5 F x0 x2 F (1 : Int32) (0 : Int32)
def f_X9_again (F : Nat) (x1 : Int32) (v_o_laid_cards : Int32) (v_o_laid_deal : Int64) : Option (Int32) :=
  if x1 = (5 : Int32) then
    (f_X4_timesTillSame F v_o_laid_deal v_o_laid_cards).bind fun b4 =>
    some (b4)
  else
    (f_X9_isKind F x1).bind fun b1 =>
    if b1 = (0 : Int32) then
      some ((-1 : Int32))
    else
      (f_X3_lacing F x1 v_o_laid_cards).bind fun b2 =>
      (f_X4_timesTillSame F b2 v_o_laid_cards).bind fun b3 =>
      some (b3)
def f_X9_round (F : Nat) (x1 : Int32) (x2 : Int32) (v_o_laid_cards : Int32) : Option (Int32) :=
  (f_X9_isPlace F x1 v_o_laid_cards).bind fun b1 =>
  if b1 = (0 : Int32) then
    some ((-1 : Int32))
  else
    (f_X9_isKind F x2).bind fun b2 =>
    if b2 = (0 : Int32) then
      some ((-1 : Int32))
    else
      (f_X3_lacing F x2 v_o_laid_cards).bind fun b3 =>
      (f_X4_roundLength F b3 v_o_laid_cards x1).bind fun b4 =>
      some (b4)
def g_X4_roundOf_9 (F : Nat) (x0 : Int64) (x2 : Int32) (x3 : Int32) : Nat → Int32 → Int32 → Int32 → Option (Int32)
  | 0, _, _, _ => none
  | n + 1, x4, x5, x6 =>
    if x2 ≤ x6 then
      some (x4)
    else
      (f_X4_cardAt F x0 x5).bind fun b1 =>
      g_X4_roundOf_9 F x0 x2 x3 n (x4 ||| (jshl (1 : Int32) x5)) b1 (x6 + (1 : Int32))
def f_X4_roundOf (F : Nat) (x0 : Int64) (x2 : Int32) (x3 : Int32) : Option (Int32) :=
  g_X4_roundOf_9 F x0 x2 x3 F (0 : Int32) x3 (0 : Int32)
def g_X4_roundCount_8 (F : Nat) (x0 : Int64) (x2 : Int32) : Nat → Int32 → Int32 → Int32 → Option (Int32)
  | 0, _, _, _ => none
  | n + 1, x3, x4, x5 =>
    if x2 ≤ x5 then
      some (x4)
    else
      if ((jshr x3 x5) &&& (1 : Int32)) = (0 : Int32) then
        (f_X4_roundOf F x0 x2 x5).bind fun b1 =>
        g_X4_roundCount_8 F x0 x2 n (x3 ||| b1) (x4 + (1 : Int32)) (x5 + (1 : Int32))
      else
        g_X4_roundCount_8 F x0 x2 n x3 x4 (x5 + (1 : Int32))
def f_X4_roundCount (F : Nat) (x0 : Int64) (x2 : Int32) : Option (Int32) :=
  g_X4_roundCount_8 F x0 x2 F (0 : Int32) (0 : Int32) (0 : Int32)
def f_X9_rounds (F : Nat) (x1 : Int32) (v_o_laid_cards : Int32) : Option (Int32) :=
  (f_X9_isKind F x1).bind fun b1 =>
  if b1 = (0 : Int32) then
    some ((-1 : Int32))
  else
    (f_X3_lacing F x1 v_o_laid_cards).bind fun b2 =>
    (f_X4_roundCount F b2 v_o_laid_cards).bind fun b3 =>
    some (b3)
def g_X3_goal_25 (F : Nat) (x0 : Int32) (x1 : Int32) (x2 : Int32) (x3 : Int32) (s0 : Int32) : Option (Int32) :=
  if x3 ≤ x2 then
    some (((((2 : Int32) * (x2 - x3)) + (1 : Int32)) - s0))
  else
    some ((((2 : Int32) * x2) + s0))
def f_X3_goal (F : Nat) (x0 : Int32) (x1 : Int32) (x2 : Int32) : Option (Int32) :=
  if x0 = (0 : Int32) then
    jgd (2 : Int32) (
    if x0 = (0 : Int32) then
      g_X3_goal_25 F x0 x1 x2 ((x1 + (1 : Int32)) / (2 : Int32)) (0 : Int32)
    else
      g_X3_goal_25 F x0 x1 x2 ((x1 + (1 : Int32)) / (2 : Int32)) (1 : Int32))
  else
    jgd (2 : Int32) (
    if x0 = (0 : Int32) then
      g_X3_goal_25 F x0 x1 x2 (x1 / (2 : Int32)) (0 : Int32)
    else
      g_X3_goal_25 F x0 x1 x2 (x1 / (2 : Int32)) (1 : Int32))
def f_X0_fewestFrom (F : Nat) (x1 : Int32) (f_o_stepsFrom : Nat → Int32) : Option (Int32) :=
  if x1 < (0 : Int32) then
    some ((-4 : Int32))
  else
    if (16 : Int32) ≤ x1 then
      some ((-4 : Int32))
    else
      jgi x1 16 (
      some ((f_o_stepsFrom x1.toNatClampNeg)))
def f_X0_isNextTo (F : Nat) (x1 : Int32) (x2 : Int32) (x3 : Int32) (f_o_stepsFrom : Nat → Int32) : Option (Int32) :=
  (f_X3_goal F (0 : Int32) x3 x1).bind fun b1 =>
  (f_X0_fewestFrom F b1 f_o_stepsFrom).bind fun b2 =>
  if b2 = x2 then
    some ((1 : Int32))
  else
    (f_X3_goal F (1 : Int32) x3 x1).bind fun b3 =>
    (f_X0_fewestFrom F b3 f_o_stepsFrom).bind fun b4 =>
    if b4 = x2 then
      some ((1 : Int32))
    else
      some ((0 : Int32))
def g_X0_findWaysTo_44 (F : Nat) (x1 : Int32) (x2 : Int32) (k_36 : Int32 → (Nat → Int32) → Option ((Nat → Int32))) : Nat → Int32 → Int32 → (Nat → Int32) → Option ((Nat → Int32))
  | 0, _, _, _ => none
  | n + 1, x3, x4, f_o_stepsFrom =>
    if x2 ≤ x4 then
      k_36 (x3 + (1 : Int32)) f_o_stepsFrom
    else
      if (16 : Int32) ≤ x4 then
        k_36 (x3 + (1 : Int32)) f_o_stepsFrom
      else
        jgi x4 16 (
        if (f_o_stepsFrom x4.toNatClampNeg) = (-4 : Int32) then
          (f_X0_isNextTo F x4 (x3 - (1 : Int32)) x2 f_o_stepsFrom).bind fun b1 =>
          if b1 = (0 : Int32) then
            g_X0_findWaysTo_44 F x1 x2 k_36 n x3 (x4 + (1 : Int32)) f_o_stepsFrom
          else
            jgi x4 16 (
            g_X0_findWaysTo_44 F x1 x2 k_36 n x3 (x4 + (1 : Int32)) (upd f_o_stepsFrom x4.toNatClampNeg x3))
        else
          g_X0_findWaysTo_44 F x1 x2 k_36 n x3 (x4 + (1 : Int32)) f_o_stepsFrom)
def g_X0_findWaysTo_36 (F : Nat) (x1 : Int32) (x2 : Int32) : Nat → Int32 → (Nat → Int32) → Option ((Nat → Int32))
  | 0, _, _ => none
  | n + 1, x3, f_o_stepsFrom =>
    if x2 ≤ x3 then
      some (f_o_stepsFrom)
    else
      g_X0_findWaysTo_44 F x1 x2 (fun qx3 qf_o_stepsFrom => g_X0_findWaysTo_36 F x1 x2 n qx3 qf_o_stepsFrom) F x3 (0 : Int32) f_o_stepsFrom
def g_X0_findWaysTo_2 (F : Nat) (x1 : Int32) (x2 : Int32) : Nat → Int32 → (Nat → Int32) → Option ((Nat → Int32))
  | 0, _, _ => none
  | n + 1, x3, f_o_stepsFrom =>
    if (16 : Int32) ≤ x3 then
      g_X0_findWaysTo_36 F x1 x2 F (1 : Int32) f_o_stepsFrom
    else
      if x3 = x1 then
        jgi x3 16 (
        g_X0_findWaysTo_2 F x1 x2 n (x3 + (1 : Int32)) (upd f_o_stepsFrom x3.toNatClampNeg (0 : Int32)))
      else
        jgi x3 16 (
        g_X0_findWaysTo_2 F x1 x2 n (x3 + (1 : Int32)) (upd f_o_stepsFrom x3.toNatClampNeg (-4 : Int32)))
def f_X0_findWaysTo (F : Nat) (x1 : Int32) (x2 : Int32) (f_o_stepsFrom : Nat → Int32) : Option ((Nat → Int32)) :=
  g_X0_findWaysTo_2 F x1 x2 F (0 : Int32) f_o_stepsFrom
def f_X0_firstKind (F : Nat) (x1 : Int32) (x2 : Int32) (f_o_stepsFrom : Nat → Int32) : Option (Int32) :=
  (f_X3_goal F (0 : Int32) x2 x1).bind fun b1 =>
  (f_X0_fewestFrom F b1 f_o_stepsFrom).bind fun b2 =>
  (f_X0_fewestFrom F x1 f_o_stepsFrom).bind fun b3 =>
  if b2 = (b3 - (1 : Int32)) then
    some ((0 : Int32))
  else
    some ((1 : Int32))
def g_X0_kindOnWay_22 (F : Nat) (x1 : Int32) (x2 : Int32) (x3 : Int32) (f_o_stepsFrom : Nat → Int32) : Nat → Int32 → Int32 → Int32 → Option (Int32)
  | 0, _, _, _ => none
  | n + 1, x4, x5, x6 =>
    if x2 ≤ x6 then
      (f_X0_firstKind F x4 x3 f_o_stepsFrom).bind fun b1 =>
      some (b1)
    else
      if x5 ≤ x6 then
        (f_X0_firstKind F x4 x3 f_o_stepsFrom).bind fun b2 =>
        some (b2)
      else
        (f_X0_firstKind F x4 x3 f_o_stepsFrom).bind fun b3 =>
        (f_X3_goal F b3 x3 x4).bind fun b4 =>
        g_X0_kindOnWay_22 F x1 x2 x3 f_o_stepsFrom n b4 x5 (x6 + (1 : Int32))
def f_X0_kindOnWay (F : Nat) (x1 : Int32) (x2 : Int32) (x3 : Int32) (f_o_stepsFrom : Nat → Int32) : Option (Int32) :=
  (f_X0_fewestFrom F x1 f_o_stepsFrom).bind fun b1 =>
  if x2 < b1 then
    g_X0_kindOnWay_22 F x1 x2 x3 f_o_stepsFrom F x1 b1 (0 : Int32)
  else
    some ((-4 : Int32))
def f_X9_bring (F : Nat) (x1 : Int32) (x2 : Int32) (x3 : Int32) (v_o_order : Int64) (v_o_laid_cards : Int32) (f_o_finder_stepsFrom : Nat → Int32) : Option (Int32 × (Nat → Int32)) :=
  (f_X9_isCard F x1 v_o_laid_cards).bind fun b1 =>
  if b1 = (0 : Int32) then
    some ((-1 : Int32), f_o_finder_stepsFrom)
  else
    (f_X9_isPlace F x2 v_o_laid_cards).bind fun b2 =>
    if b2 = (0 : Int32) then
      some ((-1 : Int32), f_o_finder_stepsFrom)
    else
      if (-1 : Int32) ≤ x3 then
        (f_X4_placeOf F v_o_order v_o_laid_cards x1).bind fun b3 =>
        (f_X0_findWaysTo F x2 v_o_laid_cards f_o_finder_stepsFrom).bind fun b4 =>
        if x3 = (-1 : Int32) then
          (f_X0_fewestFrom F b3 b4).bind fun b6 =>
          some (b6, b4)
        else
          (f_X0_kindOnWay F b3 x3 v_o_laid_cards b4).bind fun b5 =>
          some (b5, b4)
      else
        some ((-1 : Int32), f_o_finder_stepsFrom)
def f_X0_pairBehind (F : Nat) (x0 : Int32) (x1 : Int32) (x2 : Int32) : Option (Int32) :=
  jgd (16 : Int32) (
  (f_X3_goal F x1 x2 (x0 / (16 : Int32))).bind fun b1 =>
  jgd (16 : Int32) (
  (f_X3_goal F x1 x2 (jrem x0 (16 : Int32))).bind fun b2 =>
  some ((((16 : Int32) * b1) + b2))))
def g_X0_depthOf_4 (F : Nat) (x0 : Int32) : Nat → Int32 → Int32 → Option (Int32)
  | 0, _, _ => none
  | n + 1, x1, x2 =>
    if (8 : Int32) ≤ x2 then
      some (x1)
    else
      if x0 < ((jshl (2 : Int32) x2) - (1 : Int32)) then
        g_X0_depthOf_4 F x0 n x1 (x2 + (1 : Int32))
      else
        g_X0_depthOf_4 F x0 n (x2 + (1 : Int32)) (x2 + (1 : Int32))
def f_X0_depthOf (F : Nat) (x0 : Int32) : Option (Int32) :=
  g_X0_depthOf_4 F x0 F (0 : Int32) (0 : Int32)
def g_X0_fewestTillNeighbours_48 (F : Nat) (x1 : Int32) (x2 : Int32) (x3 : Int32) (k_3 : Int32 → (Nat → Int32) → Option (Int32 × (Nat → Int32))) (x4 : Int32) (s0 : Int32) (f_o_pairTree : Nat → Int32) : Option (Int32 × (Nat → Int32)) :=
  jgi x4 511 (
  jgd (16 : Int32) (
  jgd (16 : Int32) (
  if (jabs ((s0 / (16 : Int32)) - (jrem s0 (16 : Int32)))) = (1 : Int32) then
    (f_X0_depthOf F x4).bind fun b1 =>
    some (b1, (upd f_o_pairTree x4.toNatClampNeg s0))
  else
    k_3 (x4 + (1 : Int32)) (upd f_o_pairTree x4.toNatClampNeg s0))))
def g_X0_fewestTillNeighbours_3 (F : Nat) (x1 : Int32) (x2 : Int32) (x3 : Int32) : Nat → Int32 → (Nat → Int32) → Option (Int32 × (Nat → Int32))
  | 0, _, _ => none
  | n + 1, x4, f_o_pairTree =>
    if (511 : Int32) ≤ x4 then
      some ((-4 : Int32), f_o_pairTree)
    else
      if x4 = (0 : Int32) then
        g_X0_fewestTillNeighbours_48 F x1 x2 x3 (fun qx4 qf_o_pairTree => g_X0_fewestTillNeighbours_3 F x1 x2 x3 n qx4 qf_o_pairTree) x4 (((16 : Int32) * x1) + x2) f_o_pairTree
      else
        jgd (2 : Int32) (
        jgi ((x4 - (1 : Int32)) / (2 : Int32)) 511 (
        jgd (2 : Int32) (
        (f_X0_pairBehind F (f_o_pairTree ((x4 - (1 : Int32)) / (2 : Int32)).toNatClampNeg) (jrem (x4 - (1 : Int32)) (2 : Int32)) x3).bind fun b1 =>
        g_X0_fewestTillNeighbours_48 F x1 x2 x3 (fun qx4 qf_o_pairTree => g_X0_fewestTillNeighbours_3 F x1 x2 x3 n qx4 qf_o_pairTree) x4 b1 f_o_pairTree)))
def f_X0_fewestTillNeighbours (F : Nat) (x1 : Int32) (x2 : Int32) (x3 : Int32) (f_o_pairTree : Nat → Int32) : Option (Int32 × (Nat → Int32)) :=
  g_X0_fewestTillNeighbours_3 F x1 x2 x3 F (0 : Int32) f_o_pairTree
def f_X9_beside (F : Nat) (x1 : Int32) (x2 : Int32) (v_o_order : Int64) (v_o_laid_cards : Int32) (f_o_finder_pairTree : Nat → Int32) : Option (Int32 × (Nat → Int32)) :=
  (f_X9_isCard F x1 v_o_laid_cards).bind fun b1 =>
  if b1 = (0 : Int32) then
    some ((-1 : Int32), f_o_finder_pairTree)
  else
    (f_X9_isCard F x2 v_o_laid_cards).bind fun b2 =>
    if b2 = (0 : Int32) then
      some ((-1 : Int32), f_o_finder_pairTree)
    else
      if x1 = x2 then
        some ((-1 : Int32), f_o_finder_pairTree)
      else
        (f_X4_placeOf F v_o_order v_o_laid_cards x1).bind fun b3 =>
        (f_X4_placeOf F v_o_order v_o_laid_cards x2).bind fun b4 =>
        (f_X0_fewestTillNeighbours F b3 b4 v_o_laid_cards f_o_finder_pairTree).bind fun b5 =>
        some (b5.1, b5.2)
def g_X0_heldWith_39 (F : Nat) (x1 : Int64) (x3 : Int32) (f_o_found : Nat → Int64) : Option (Int32 × (Nat → Int64)) :=
  if x3 < (0 : Int32) then
    some (x3, f_o_found)
  else
    if x3 < (127 : Int32) then
      jgi x3 127 (
      some ((x3 + (1 : Int32)), (vp_updL f_o_found x3.toNatClampNeg x1)))
    else
      some (x3, f_o_found)
def g_X0_heldWith_3 (F : Nat) (x1 : Int64) (x3 : Int32) : Nat → Int32 → (Nat → Int64) → Option (Int32 × (Nat → Int64))
  | 0, _, _ => none
  | n + 1, x4, f_o_found =>
    if x3 ≤ x4 then
      g_X0_heldWith_39 F x1 x3 f_o_found
    else
      if (127 : Int32) ≤ x4 then
        g_X0_heldWith_39 F x1 x3 f_o_found
      else
        jgi x4 127 (
        if (lg_cmp (f_o_found x4.toNatClampNeg) x1) = (0 : Int32) then
          some (x3, f_o_found)
        else
          g_X0_heldWith_3 F x1 x3 n (x4 + (1 : Int32)) f_o_found)
def f_X0_heldWith (F : Nat) (x1 : Int64) (x3 : Int32) (f_o_found : Nat → Int64) : Option (Int32 × (Nat → Int64)) :=
  g_X0_heldWith_3 F x1 x3 F (0 : Int32) f_o_found
def g_X0_countOrders_46 (F : Nat) (x1 : Int32) (x2 : Int32) (k_32 : Int64 → Int64 → Int32 → Int32 → Int32 → (Nat → Int64) → Option (Int32 × (Nat → Int64))) : Nat → Int64 → Int64 → Int32 → Int32 → Int32 → Int32 → (Nat → Int64) → Option (Int32 × (Nat → Int64))
  | 0, _, _, _, _, _, _, _ => none
  | n + 1, x3, x5, x7, x9, x10, x11, f_o_found =>
    if x10 ≤ x11 then
      k_32 x3 x5 x7 x10 (x9 + (1 : Int32)) f_o_found
    else
      if (127 : Int32) ≤ x11 then
        k_32 x3 x5 x7 x10 (x9 + (1 : Int32)) f_o_found
      else
        jgi x11 127 (
        (f_X4_moved F (f_o_found x11.toNatClampNeg) x3 x2).bind fun b1 =>
        (f_X0_heldWith F b1 x7 f_o_found).bind fun b2 =>
        jgi x11 127 (
        (f_X4_moved F (b2.2 x11.toNatClampNeg) x5 x2).bind fun b3 =>
        (f_X0_heldWith F b3 b2.1 b2.2).bind fun b4 =>
        g_X0_countOrders_46 F x1 x2 k_32 n x3 x5 b4.1 x9 x10 (x11 + (1 : Int32)) b4.2))
def g_X0_countOrders_32 (F : Nat) (x1 : Int32) (x2 : Int32) : Nat → Int64 → Int64 → Int32 → Int32 → Int32 → (Nat → Int64) → Option (Int32 × (Nat → Int64))
  | 0, _, _, _, _, _, _ => none
  | n + 1, x3, x5, x7, x8, x9, f_o_found =>
    if x1 ≤ x9 then
      some (x7, f_o_found)
    else
      g_X0_countOrders_46 F x1 x2 (fun qx3 qx5 qx7 qx8 qx9 qf_o_found => g_X0_countOrders_32 F x1 x2 n qx3 qx5 qx7 qx8 qx9 qf_o_found) F x3 x5 x7 x9 x7 x8 f_o_found
def f_X0_countOrders (F : Nat) (x1 : Int32) (x2 : Int32) (f_o_found : Nat → Int64) : Option (Int32 × (Nat → Int64)) :=
  (f_X3_lacing F (0 : Int32) x2).bind fun b1 =>
  (f_X3_lacing F (1 : Int32) x2).bind fun b2 =>
  (f_X4_inOrder F x2).bind fun b3 =>
  jgi (0 : Int32) 127 (
  g_X0_countOrders_32 F x1 x2 F b1 b2 (1 : Int32) (0 : Int32) (0 : Int32) (vp_updL f_o_found (0 : Int32).toNatClampNeg b3))
def f_X9_orders (F : Nat) (x1 : Int32) (v_o_laid_cards : Int32) (f_o_finder_found : Nat → Int64) : Option (Int32 × (Nat → Int64)) :=
  (f_X9_within F x1 (0 : Int32) (6 : Int32)).bind fun b1 =>
  if b1 = (0 : Int32) then
    some ((-1 : Int32), f_o_finder_found)
  else
    (f_X0_countOrders F x1 v_o_laid_cards f_o_finder_found).bind fun b2 =>
    some (b2.1, b2.2)
def g_X4_risingRows_36 (F : Nat) (x0 : Int64) (x2 : Int32) : Nat → Int64 → Int32 → Int32 → Option (Int32)
  | 0, _, _, _ => none
  | n + 1, x3, x5, x6 =>
    if x2 ≤ (x6 + (1 : Int32)) then
      some (x5)
    else
      (f_X4_cardAt F x3 (x6 + (1 : Int32))).bind fun b1 =>
      (f_X4_cardAt F x3 x6).bind fun b2 =>
      if b2 ≤ b1 then
        g_X4_risingRows_36 F x0 x2 n x3 x5 (x6 + (1 : Int32))
      else
        g_X4_risingRows_36 F x0 x2 n x3 (x5 + (1 : Int32)) (x6 + (1 : Int32))
def g_X4_risingRows_5 (F : Nat) (x0 : Int64) (x2 : Int32) : Nat → Int64 → Int32 → Option (Int32)
  | 0, _, _ => none
  | n + 1, x3, x5 =>
    if x2 ≤ x5 then
      g_X4_risingRows_36 F x0 x2 F x3 (1 : Int32) (0 : Int32)
    else
      (f_X4_cardAt F x0 x5).bind fun b1 =>
      (f_X4_with F x3 b1 x5).bind fun b2 =>
      g_X4_risingRows_5 F x0 x2 n b2 (x5 + (1 : Int32))
def f_X4_risingRows (F : Nat) (x0 : Int64) (x2 : Int32) : Option (Int32) :=
  g_X4_risingRows_5 F x0 x2 F (0 : Int64) (0 : Int32)
def f_X9_rising (F : Nat) (v_o_order : Int64) (v_o_laid_cards : Int32) : Option (Int32) :=
  (f_X4_risingRows F v_o_order v_o_laid_cards).bind fun b1 =>
  some (b1)
def f_X5_areUnlike (F : Nat) (x1 : Int32) (x2 : Int32) (v_o_colours : Int32) : Option (Int32) :=
  (f_X5_colourOf F x1 v_o_colours).bind fun b1 =>
  (f_X5_colourOf F x2 v_o_colours).bind fun b2 =>
  if b1 = b2 then
    some ((0 : Int32))
  else
    some ((1 : Int32))
def g_X9_pairs_4 (F : Nat) (v_o_order : Int64) (v_o_laid_cards : Int32) (v_o_laid_colours : Int32) : Nat → Int32 → Int32 → Option (Int32)
  | 0, _, _ => none
  | n + 1, x1, x2 =>
    if v_o_laid_cards ≤ (x2 + (1 : Int32)) then
      some (x1)
    else
      (f_X4_cardAt F v_o_order x2).bind fun b1 =>
      (f_X4_cardAt F v_o_order (x2 + (1 : Int32))).bind fun b2 =>
      (f_X5_areUnlike F b1 b2 v_o_laid_colours).bind fun b3 =>
      if b3 = (0 : Int32) then
        g_X9_pairs_4 F v_o_order v_o_laid_cards v_o_laid_colours n x1 (x2 + (2 : Int32))
      else
        g_X9_pairs_4 F v_o_order v_o_laid_cards v_o_laid_colours n (x1 + (1 : Int32)) (x2 + (2 : Int32))
def f_X9_pairs (F : Nat) (v_o_order : Int64) (v_o_laid_cards : Int32) (v_o_laid_colours : Int32) : Option (Int32) :=
  g_X9_pairs_4 F v_o_order v_o_laid_cards v_o_laid_colours F (0 : Int32) (0 : Int32)
def g_X2_dealtOff_6 (F : Nat) (x0 : Int64) (x2 : Int32) (x3 : Int32) : Nat → Int64 → Int32 → Option (Int64)
  | 0, _, _ => none
  | n + 1, x4, x6 =>
    if x3 ≤ x6 then
      some (x4)
    else
      if x2 ≤ x6 then
        (f_X4_cardAt F x0 x6).bind fun b1 =>
        (f_X4_with F x4 x6 b1).bind fun b2 =>
        g_X2_dealtOff_6 F x0 x2 x3 n b2 (x6 + (1 : Int32))
      else
        (f_X4_cardAt F x0 ((x2 - (1 : Int32)) - x6)).bind fun b3 =>
        (f_X4_with F x4 x6 b3).bind fun b4 =>
        g_X2_dealtOff_6 F x0 x2 x3 n b4 (x6 + (1 : Int32))
def f_X2_dealtOff (F : Nat) (x0 : Int64) (x2 : Int32) (x3 : Int32) : Option (Int64) :=
  g_X2_dealtOff_6 F x0 x2 x3 F (0 : Int64) (0 : Int32)
def f_X2_areUnlikeAt (F : Nat) (x1 : Int64) (x3 : Int32) (x4 : Int32) (v_p0_colours : Int32) : Option (Int32) :=
  (f_X4_cardAt F x1 x3).bind fun b1 =>
  (f_X4_cardAt F x1 x4).bind fun b2 =>
  (f_X5_areUnlike F b1 b2 v_p0_colours).bind fun b3 =>
  jgz b3 (some (b3))
def f_X2_waysOf (F : Nat) (x1 : Int32) (x2 : Int32) (f_o_ways : Nat → Int32) : Option (Int32) :=
  (f_X9_within F x1 (0 : Int32) (16 : Int32)).bind fun b1 =>
  if b1 = (0 : Int32) then
    some ((0 : Int32))
  else
    (f_X9_within F x2 (0 : Int32) (16 : Int32)).bind fun b2 =>
    if b2 = (0 : Int32) then
      some ((0 : Int32))
    else
      jgi (((17 : Int32) * x1) + x2) 289 (
      some ((f_o_ways (((17 : Int32) * x1) + x2).toNatClampNeg)))
def g_X2_waysByLastPair_95 (F : Nat) (x2 : Int64) (x4 : Int32) (x5 : Int32) (x6 : Int32) (v_p1_colours : Int32) (f_o_ways : Nat → Int32) (x7 : Int32) : Option (Int32) :=
  if x5 < (1 : Int32) then
    some (x7)
  else
    if x6 < (1 : Int32) then
      some (x7)
    else
      (f_X2_areUnlikeAt F x2 (x5 - (1 : Int32)) ((x4 + x6) - (1 : Int32)) v_p1_colours).bind fun b1 =>
      if b1 = (0 : Int32) then
        some (x7)
      else
        (f_X2_waysOf F (x5 - (1 : Int32)) (x6 - (1 : Int32)) f_o_ways).bind fun b2 =>
        some ((x7 + ((2 : Int32) * b2)))
def g_X2_waysByLastPair_52 (F : Nat) (x2 : Int64) (x4 : Int32) (x5 : Int32) (x6 : Int32) (v_p1_colours : Int32) (f_o_ways : Nat → Int32) (x7 : Int32) : Option (Int32) :=
  if x6 < (2 : Int32) then
    g_X2_waysByLastPair_95 F x2 x4 x5 x6 v_p1_colours f_o_ways x7
  else
    (f_X2_areUnlikeAt F x2 ((x4 + x6) - (2 : Int32)) ((x4 + x6) - (1 : Int32)) v_p1_colours).bind fun b1 =>
    if b1 = (0 : Int32) then
      g_X2_waysByLastPair_95 F x2 x4 x5 x6 v_p1_colours f_o_ways x7
    else
      (f_X2_waysOf F x5 (x6 - (2 : Int32)) f_o_ways).bind fun b2 =>
      g_X2_waysByLastPair_95 F x2 x4 x5 x6 v_p1_colours f_o_ways (x7 + b2)
def g_X2_waysByLastPair_12 (F : Nat) (x2 : Int64) (x4 : Int32) (x5 : Int32) (x6 : Int32) (v_p1_colours : Int32) (f_o_ways : Nat → Int32) : Option (Int32) :=
  if x5 < (2 : Int32) then
    g_X2_waysByLastPair_52 F x2 x4 x5 x6 v_p1_colours f_o_ways (0 : Int32)
  else
    (f_X2_areUnlikeAt F x2 (x5 - (2 : Int32)) (x5 - (1 : Int32)) v_p1_colours).bind fun b1 =>
    if b1 = (0 : Int32) then
      g_X2_waysByLastPair_52 F x2 x4 x5 x6 v_p1_colours f_o_ways (0 : Int32)
    else
      (f_X2_waysOf F (x5 - (2 : Int32)) x6 f_o_ways).bind fun b2 =>
      g_X2_waysByLastPair_52 F x2 x4 x5 x6 v_p1_colours f_o_ways ((0 : Int32) + b2)
def f_X2_waysByLastPair (F : Nat) (x2 : Int64) (x4 : Int32) (x5 : Int32) (x6 : Int32) (v_p1_colours : Int32) (f_o_ways : Nat → Int32) : Option (Int32) :=
  if x5 = (0 : Int32) then
    if x6 = (0 : Int32) then
      some ((1 : Int32))
    else
      g_X2_waysByLastPair_12 F x2 x4 x5 x6 v_p1_colours f_o_ways
  else
    g_X2_waysByLastPair_12 F x2 x4 x5 x6 v_p1_colours f_o_ways
def f_X2_setWays (F : Nat) (x1 : Int32) (x2 : Int32) (x3 : Int32) (f_o_ways : Nat → Int32) : Option ((Nat → Int32)) :=
  (f_X9_within F x1 (0 : Int32) (16 : Int32)).bind fun b1 =>
  if b1 = (0 : Int32) then
    some (f_o_ways)
  else
    (f_X9_within F x2 (0 : Int32) (16 : Int32)).bind fun b2 =>
    if b2 = (0 : Int32) then
      some (f_o_ways)
    else
      jgi (((17 : Int32) * x1) + x2) 289 (
      some ((upd f_o_ways (((17 : Int32) * x1) + x2).toNatClampNeg x3)))
def g_X2_goodWays_37 (F : Nat) (x2 : Int64) (x4 : Int32) (v_p1_cards : Int32) (v_p1_colours : Int32) (k_24 : Int32 → Int64 → Int32 → (Nat → Int32) → Option (Int32 × (Nat → Int32))) : Nat → Int32 → Int64 → Int32 → Int32 → (Nat → Int32) → Option (Int32 × (Nat → Int32))
  | 0, _, _, _, _, _ => none
  | n + 1, x5, x6, x8, x9, f_o_ways =>
    if x5 < x9 then
      k_24 x5 x6 (x8 + (1 : Int32)) f_o_ways
    else
      (f_X2_waysByLastPair F x6 x4 x8 x9 v_p1_colours f_o_ways).bind fun b1 =>
      (f_X2_setWays F x8 x9 b1 f_o_ways).bind fun b2 =>
      g_X2_goodWays_37 F x2 x4 v_p1_cards v_p1_colours k_24 n x5 x6 x8 (x9 + (2 : Int32)) b2
def g_X2_goodWays_24 (F : Nat) (x2 : Int64) (x4 : Int32) (v_p1_cards : Int32) (v_p1_colours : Int32) : Nat → Int32 → Int64 → Int32 → (Nat → Int32) → Option (Int32 × (Nat → Int32))
  | 0, _, _, _, _ => none
  | n + 1, x5, x6, x8, f_o_ways =>
    if x4 < x8 then
      jgd (2 : Int32) (
      if (jrem v_p1_cards (2 : Int32)) = (0 : Int32) then
        (f_X2_waysOf F x4 x5 f_o_ways).bind fun b3 =>
        some (b3, f_o_ways)
      else
        (f_X2_waysOf F (x4 - (1 : Int32)) x5 f_o_ways).bind fun b1 =>
        (f_X2_waysOf F x4 (x5 - (1 : Int32)) f_o_ways).bind fun b2 =>
        some ((b1 + b2), f_o_ways))
    else
      jgd (2 : Int32) (
      g_X2_goodWays_37 F x2 x4 v_p1_cards v_p1_colours (fun qx5 qx6 qx8 qf_o_ways => g_X2_goodWays_24 F x2 x4 v_p1_cards v_p1_colours n qx5 qx6 qx8 qf_o_ways) F x5 x6 x8 (jrem x8 (2 : Int32)) f_o_ways)
def f_X2_goodWays (F : Nat) (x2 : Int64) (x4 : Int32) (v_p1_cards : Int32) (v_p1_colours : Int32) (f_o_ways : Nat → Int32) : Option (Int32 × (Nat → Int32)) :=
  (f_X2_dealtOff F x2 x4 v_p1_cards).bind fun b1 =>
  g_X2_goodWays_24 F x2 x4 v_p1_cards v_p1_colours F (v_p1_cards - x4) b1 (0 : Int32) f_o_ways
def g_X1_choices_4 (F : Nat) (x0 : Int32) (x1 : Int32) : Nat → Int32 → Int32 → Option (Int32)
  | 0, _, _ => none
  | n + 1, x2, x3 =>
    if x1 < x3 then
      some (x2)
    else
      jgd x3 (
      g_X1_choices_4 F x0 x1 n ((x2 * ((x0 - x1) + x3)) / x3) (x3 + (1 : Int32)))
def f_X1_choices (F : Nat) (x0 : Int32) (x1 : Int32) : Option (Int32) :=
  g_X1_choices_4 F x0 x1 F (1 : Int32) (1 : Int32)
def f_X1_partOf (F : Nat) (x0 : Int32) (x1 : Int32) (x2 : Int32) : Option (Int32) :=
  (f_X1_commonDivisor F x0 x1).bind fun b1 =>
  if (0 : Int32) < b1 then
    if x2 = (0 : Int32) then
      jgd b1 (
      some ((x0 / b1)))
    else
      jgd b1 (
      some ((x1 / b1)))
  else
    some ((0 : Int32))
def f_X9_sure (F : Nat) (x1 : Int32) (x2 : Int32) (v_o_order : Int64) (v_o_laid_cards : Int32) (v_o_laid_colours : Int32) (f_o_mix_ways : Nat → Int32) : Option (Int32 × (Nat → Int32)) :=
  (f_X9_within F x1 (0 : Int32) v_o_laid_cards).bind fun b1 =>
  if b1 = (0 : Int32) then
    some ((-1 : Int32), f_o_mix_ways)
  else
    (f_X9_within F x2 (0 : Int32) (1 : Int32)).bind fun b2 =>
    if b2 = (0 : Int32) then
      some ((-1 : Int32), f_o_mix_ways)
    else
      (f_X2_goodWays F v_o_order x1 v_o_laid_cards v_o_laid_colours f_o_mix_ways).bind fun b3 =>
      (f_X1_choices F v_o_laid_cards x1).bind fun b4 =>
      (f_X1_partOf F b3.1 b4 x2).bind fun b5 =>
      some (b5, b3.2)
def f_X7_add (F : Nat) (x1 : Int32) (x2 : Int32) (v_o_held : Int32) (f_o_cards : Nat → Int32) (f_o_places : Nat → Int32) : Option (Int32 × Int32 × (Nat → Int32) × (Nat → Int32)) :=
  if v_o_held < (0 : Int32) then
    some ((0 : Int32), v_o_held, f_o_cards, f_o_places)
  else
    if v_o_held < (8 : Int32) then
      jgi v_o_held 8 (
      jgi v_o_held 8 (
      some ((1 : Int32), (v_o_held + (1 : Int32)), (upd f_o_cards v_o_held.toNatClampNeg x1), (upd f_o_places v_o_held.toNatClampNeg x2))))
    else
      some ((0 : Int32), v_o_held, f_o_cards, f_o_places)
def f_X9_seen (F : Nat) (x1 : Int32) (x2 : Int32) (v_o_laid_cards : Int32) (v_o_sightings_held : Int32) (f_o_sightings_cards : Nat → Int32) (f_o_sightings_places : Nat → Int32) : Option (Int32 × Int32 × (Nat → Int32) × (Nat → Int32)) :=
  (f_X9_isCard F x1 v_o_laid_cards).bind fun b1 =>
  if b1 = (0 : Int32) then
    some ((-1 : Int32), v_o_sightings_held, f_o_sightings_cards, f_o_sightings_places)
  else
    (f_X9_isPlace F x2 v_o_laid_cards).bind fun b2 =>
    if b2 = (0 : Int32) then
      some ((-1 : Int32), v_o_sightings_held, f_o_sightings_cards, f_o_sightings_places)
    else
      (f_X7_add F x1 x2 v_o_sightings_held f_o_sightings_cards f_o_sightings_places).bind fun b3 =>
      if b3.1 = (0 : Int32) then
        some ((-3 : Int32), b3.2.1, b3.2.2.1, b3.2.2.2)
      else
        some (b3.2.1, b3.2.1, b3.2.2.1, b3.2.2.2)
def f_X9_forget (F : Nat) (v_o_sightings_held : Int32) : Option (Int32 × Int32) :=
  some (v_o_sightings_held, (0 : Int32))
def g_X7_fit_2 (F : Nat) (x1 : Int64) (v_o_held : Int32) (f_o_cards : Nat → Int32) (f_o_places : Nat → Int32) : Nat → Int32 → Option (Int32)
  | 0, _ => none
  | n + 1, x3 =>
    if v_o_held ≤ x3 then
      some ((1 : Int32))
    else
      if (8 : Int32) ≤ x3 then
        some ((1 : Int32))
      else
        jgi x3 8 (
        (f_X4_cardAt F x1 (f_o_places x3.toNatClampNeg)).bind fun b1 =>
        jgi x3 8 (
        if b1 = (f_o_cards x3.toNatClampNeg) then
          g_X7_fit_2 F x1 v_o_held f_o_cards f_o_places n (x3 + (1 : Int32))
        else
          some ((0 : Int32))))
def f_X7_fit (F : Nat) (x1 : Int64) (v_o_held : Int32) (f_o_cards : Nat → Int32) (f_o_places : Nat → Int32) : Option (Int32) :=
  g_X7_fit_2 F x1 v_o_held f_o_cards f_o_places F (0 : Int32)
def g_X9_fittingKinds_4 (F : Nat) (v_o_laid_cards : Int32) (v_o_sightings_held : Int32) (f_o_sightings_cards : Nat → Int32) (f_o_sightings_places : Nat → Int32) : Nat → Int32 → Int32 → Option (Int32)
  | 0, _, _ => none
  | n + 1, x1, x2 =>
    if (5 : Int32) ≤ x2 then
      (f_X3_turnedOver F v_o_laid_cards).bind fun b1 =>
      (f_X7_fit F b1 v_o_sightings_held f_o_sightings_cards f_o_sightings_places).bind fun b2 =>
      if b2 = (0 : Int32) then
        some (x1)
      else
        some ((x1 ||| (32 : Int32)))
    else
      (f_X3_lacing F x2 v_o_laid_cards).bind fun b3 =>
      (f_X7_fit F b3 v_o_sightings_held f_o_sightings_cards f_o_sightings_places).bind fun b4 =>
      if b4 = (0 : Int32) then
        g_X9_fittingKinds_4 F v_o_laid_cards v_o_sightings_held f_o_sightings_cards f_o_sightings_places n x1 (x2 + (1 : Int32))
      else
        g_X9_fittingKinds_4 F v_o_laid_cards v_o_sightings_held f_o_sightings_cards f_o_sightings_places n (x1 ||| (jshl (1 : Int32) x2)) (x2 + (1 : Int32))
def f_X9_fittingKinds (F : Nat) (v_o_laid_cards : Int32) (v_o_sightings_held : Int32) (f_o_sightings_cards : Nat → Int32) (f_o_sightings_places : Nat → Int32) : Option (Int32) :=
  g_X9_fittingKinds_4 F v_o_laid_cards v_o_sightings_held f_o_sightings_cards f_o_sightings_places F (0 : Int32) (0 : Int32)
def g_X9_fittingCuts_4 (F : Nat) (v_o_laid_cards : Int32) (v_o_sightings_held : Int32) (f_o_sightings_cards : Nat → Int32) (f_o_sightings_places : Nat → Int32) : Nat → Int32 → Int32 → Option (Int32)
  | 0, _, _ => none
  | n + 1, x1, x2 =>
    if v_o_laid_cards ≤ x2 then
      some (x1)
    else
      (f_X3_cutAt F x2 v_o_laid_cards).bind fun b1 =>
      (f_X7_fit F b1 v_o_sightings_held f_o_sightings_cards f_o_sightings_places).bind fun b2 =>
      if b2 = (0 : Int32) then
        g_X9_fittingCuts_4 F v_o_laid_cards v_o_sightings_held f_o_sightings_cards f_o_sightings_places n x1 (x2 + (1 : Int32))
      else
        g_X9_fittingCuts_4 F v_o_laid_cards v_o_sightings_held f_o_sightings_cards f_o_sightings_places n (x1 ||| (jshl (1 : Int32) x2)) (x2 + (1 : Int32))
def f_X9_fittingCuts (F : Nat) (v_o_laid_cards : Int32) (v_o_sightings_held : Int32) (f_o_sightings_cards : Nat → Int32) (f_o_sightings_places : Nat → Int32) : Option (Int32) :=
  g_X9_fittingCuts_4 F v_o_laid_cards v_o_sightings_held f_o_sightings_cards f_o_sightings_places F (0 : Int32) (0 : Int32)
def f_X9_done (F : Nat) (x1 : Int32) (v_o_laid_cards : Int32) (v_o_sightings_held : Int32) (f_o_sightings_cards : Nat → Int32) (f_o_sightings_places : Nat → Int32) : Option (Int32) :=
  if x1 = (0 : Int32) then
    (f_X9_fittingKinds F v_o_laid_cards v_o_sightings_held f_o_sightings_cards f_o_sightings_places).bind fun b2 =>
    some (b2)
  else
    if x1 = (1 : Int32) then
      (f_X9_fittingCuts F v_o_laid_cards v_o_sightings_held f_o_sightings_cards f_o_sightings_places).bind fun b1 =>
      some (b1)
    else
      some ((-1 : Int32))
def g_X9_endOfWay_6 (F : Nat) (x1 : Int32) (x2 : Int32) (x3 : Int32) (v_o_laid_cards : Int32) : Nat → Int32 → Int32 → Option (Int32)
  | 0, _, _ => none
  | n + 1, x4, x5 =>
    if x3 ≤ x5 then
      some (x4)
    else
      (f_X3_goal F ((jshr x2 x5) &&& (1 : Int32)) v_o_laid_cards x4).bind fun b1 =>
      g_X9_endOfWay_6 F x1 x2 x3 v_o_laid_cards n b1 (x5 + (1 : Int32))
def f_X9_endOfWay (F : Nat) (x1 : Int32) (x2 : Int32) (x3 : Int32) (v_o_laid_cards : Int32) : Option (Int32) :=
  g_X9_endOfWay_6 F x1 x2 x3 v_o_laid_cards F x1 (0 : Int32)
def g_X9_weightOfWay_5 (F : Nat) (x0 : Int32) (x1 : Int32) (x2 : Int32) : Nat → Int32 → Int32 → Option (Int32)
  | 0, _, _ => none
  | n + 1, x3, x4 =>
    if x1 ≤ x4 then
      some (x3)
    else
      if ((jshr x0 x4) &&& (1 : Int32)) = (0 : Int32) then
        g_X9_weightOfWay_5 F x0 x1 x2 n (x3 * x2) (x4 + (1 : Int32))
      else
        g_X9_weightOfWay_5 F x0 x1 x2 n (x3 * ((10 : Int32) - x2)) (x4 + (1 : Int32))
def f_X9_weightOfWay (F : Nat) (x0 : Int32) (x1 : Int32) (x2 : Int32) : Option (Int32) :=
  g_X9_weightOfWay_5 F x0 x1 x2 F (1 : Int32) (0 : Int32)
def g_X9_powerOfTen_4 (F : Nat) (x0 : Int32) : Nat → Int32 → Int32 → Option (Int32)
  | 0, _, _ => none
  | n + 1, x1, x2 =>
    if x0 ≤ x2 then
      some (x1)
    else
      g_X9_powerOfTen_4 F x0 n (x1 * (10 : Int32)) (x2 + (1 : Int32))
def f_X9_powerOfTen (F : Nat) (x0 : Int32) : Option (Int32) :=
  g_X9_powerOfTen_4 F x0 F (1 : Int32) (0 : Int32)
def g_X9_likely_83 (F : Nat) (x1 : Int32) (x2 : Int32) (x3 : Int32) (x4 : Int32) (x5 : Int32) (v_o_order : Int64) (v_o_laid_cards : Int32) : Nat → Int32 → Int32 → Int32 → Option (Int32)
  | 0, _, _, _ => none
  | n + 1, x7, x8, x9 =>
    if (jshl (1 : Int32) x3) ≤ x9 then
      (f_X9_powerOfTen F x3).bind fun b1 =>
      (f_X1_partOf F x8 b1 x5).bind fun b2 =>
      some (b2)
    else
      (f_X9_endOfWay F x7 x9 x3 v_o_laid_cards).bind fun b3 =>
      if b3 = x2 then
        (f_X9_weightOfWay F x9 x3 x4).bind fun b4 =>
        g_X9_likely_83 F x1 x2 x3 x4 x5 v_o_order v_o_laid_cards n x7 (x8 + b4) (x9 + (1 : Int32))
      else
        g_X9_likely_83 F x1 x2 x3 x4 x5 v_o_order v_o_laid_cards n x7 x8 (x9 + (1 : Int32))
def g_X9_likely_35 (F : Nat) (x1 : Int32) (x2 : Int32) (x3 : Int32) (x4 : Int32) (x5 : Int32) (v_o_order : Int64) (v_o_laid_cards : Int32) (s0 : Int32) : Option (Int32) :=
  (f_X9_isCard F x1 v_o_laid_cards).bind fun b1 =>
  if b1 = (0 : Int32) then
    some ((-1 : Int32))
  else
    (f_X9_isPlace F x2 v_o_laid_cards).bind fun b2 =>
    if b2 = (0 : Int32) then
      some ((-1 : Int32))
    else
      if s0 = (0 : Int32) then
        some ((-1 : Int32))
      else
        (f_X4_placeOf F v_o_order v_o_laid_cards x1).bind fun b3 =>
        g_X9_likely_83 F x1 x2 x3 x4 x5 v_o_order v_o_laid_cards F b3 (0 : Int32) (0 : Int32)
def f_X9_likely (F : Nat) (x1 : Int32) (x2 : Int32) (x3 : Int32) (x4 : Int32) (x5 : Int32) (v_o_order : Int64) (v_o_laid_cards : Int32) : Option (Int32) :=
  (f_X9_within F x3 (0 : Int32) (5 : Int32)).bind fun b1 =>
  if b1 = (0 : Int32) then
    g_X9_likely_35 F x1 x2 x3 x4 x5 v_o_order v_o_laid_cards (0 : Int32)
  else
    (f_X9_within F x4 (0 : Int32) (10 : Int32)).bind fun b2 =>
    if b2 = (0 : Int32) then
      g_X9_likely_35 F x1 x2 x3 x4 x5 v_o_order v_o_laid_cards (0 : Int32)
    else
      (f_X9_within F x5 (0 : Int32) (1 : Int32)).bind fun b3 =>
      if b3 = (0 : Int32) then
        g_X9_likely_35 F x1 x2 x3 x4 x5 v_o_order v_o_laid_cards (0 : Int32)
      else
        g_X9_likely_35 F x1 x2 x3 x4 x5 v_o_order v_o_laid_cards (1 : Int32)
def f_X9_drawOf (F : Nat) (x0 : Int32) (x1 : Int32) : Option (Int32) :=
  jge (65521 : Int64) (
  jge (2 : Int64) (
  some ((((jreml (((((7919 : Int64) * x0.toInt64) + ((6151 : Int64) * x1.toInt64)) + (1 : Int64)) * ((((7919 : Int64) * x0.toInt64) + ((6151 : Int64) * x1.toInt64)) + (1 : Int64))) (65521 : Int64)) / (2 : Int64))).toInt32)))
def f_X9_drawnMove (F : Nat) (x1 : Int32) (v_o_laid_cards : Int32) : Option (Int64) :=
  jgd (7 : Int32) (
  if (5 : Int32) ≤ (jrem x1 (7 : Int32)) then
    if (jrem x1 (7 : Int32)) = (5 : Int32) then
      if v_o_laid_cards ≤ (0 : Int32) then
        (f_X3_turnedOver F v_o_laid_cards).bind fun b2 =>
        some (b2)
      else
        jgd (8 : Int32) (
        jgd v_o_laid_cards (
        (f_X3_cutAt F (jrem (x1 / (8 : Int32)) v_o_laid_cards) v_o_laid_cards).bind fun b3 =>
        some (b3)))
    else
      (f_X3_turnedOver F v_o_laid_cards).bind fun b1 =>
      some (b1)
  else
    (f_X3_lacing F (jrem x1 (7 : Int32)) v_o_laid_cards).bind fun b4 =>
    some (b4))
def g_X4_sameCards_6 (F : Nat) (x0 : Int64) (x2 : Int64) (x4 : Int32) : Nat → Int32 → Int32 → Option (Int32)
  | 0, _, _ => none
  | n + 1, x5, x6 =>
    if x4 ≤ x6 then
      some (x5)
    else
      (f_X4_cardAt F x0 x6).bind fun b1 =>
      (f_X4_cardAt F x2 x6).bind fun b2 =>
      if b1 = b2 then
        g_X4_sameCards_6 F x0 x2 x4 n (x5 + (1 : Int32)) (x6 + (1 : Int32))
      else
        g_X4_sameCards_6 F x0 x2 x4 n x5 (x6 + (1 : Int32))
def f_X4_sameCards (F : Nat) (x0 : Int64) (x2 : Int64) (x4 : Int32) : Option (Int32) :=
  g_X4_sameCards_6 F x0 x2 x4 F (0 : Int32) (0 : Int32)
def g_X9_dealing_41 (F : Nat) (x1 : Int32) (x2 : Int32) (x3 : Int32) (v_o_order : Int64) (v_o_laid_cards : Int32) : Nat → Int64 → Int32 → Option (Int32)
  | 0, _, _ => none
  | n + 1, x4, x6 =>
    if x2 ≤ x6 then
      if x3 = (0 : Int32) then
        (f_X4_cardAt F x4 (0 : Int32)).bind fun b3 =>
        some (b3)
      else
        if x3 = (1 : Int32) then
          (f_X4_sameCards F v_o_order x4 v_o_laid_cards).bind fun b2 =>
          some (b2)
        else
          (f_X4_risingRows F x4 v_o_laid_cards).bind fun b1 =>
          some (b1)
    else
      (f_X9_drawOf F x1 x6).bind fun b4 =>
      (f_X9_drawnMove F b4 v_o_laid_cards).bind fun b5 =>
      (f_X4_moved F x4 b5 v_o_laid_cards).bind fun b6 =>
      g_X9_dealing_41 F x1 x2 x3 v_o_order v_o_laid_cards n b6 (x6 + (1 : Int32))
def f_X9_dealing (F : Nat) (x1 : Int32) (x2 : Int32) (x3 : Int32) (v_o_order : Int64) (v_o_laid_cards : Int32) : Option (Int32) :=
  (f_X9_within F x1 (0 : Int32) (9999 : Int32)).bind fun b1 =>
  if b1 = (0 : Int32) then
    some ((-1 : Int32))
  else
    (f_X9_within F x2 (1 : Int32) (60 : Int32)).bind fun b2 =>
    if b2 = (0 : Int32) then
      some ((-1 : Int32))
    else
      (f_X9_within F x3 (0 : Int32) (2 : Int32)).bind fun b3 =>
      if b3 = (0 : Int32) then
        some ((-1 : Int32))
      else
        g_X9_dealing_41 F x1 x2 x3 v_o_order v_o_laid_cards F v_o_order (0 : Int32)
def f_X9_keep (F : Nat) (v_o_order : Int64) (v_o_kept_held : Int32) (f_o_kept_stored : Nat → Int64) : Option (Int32 × Int32 × (Nat → Int64)) :=
  (f_X6_isFull F 2 v_o_kept_held).bind fun b1 =>
  if b1 = (0 : Int32) then
    (f_X6_put F 2 v_o_order v_o_kept_held f_o_kept_stored).bind fun b2 =>
    some (b2.1, b2.1, b2.2)
  else
    some ((-3 : Int32), v_o_kept_held, f_o_kept_stored)
def f_X9_back (F : Nat) (f_o_kept_stored : Nat → Int64) (v_o_order : Int64) (v_o_kept_held : Int32) (v_o_past_held : Int32) : Option (Int32 × Int64 × Int32 × Int32) :=
  if v_o_kept_held = (0 : Int32) then
    some ((-2 : Int32), v_o_order, v_o_kept_held, v_o_past_held)
  else
    (f_X6_takeLast F 2 f_o_kept_stored v_o_kept_held).bind fun b1 =>
    some (b1.2, b1.1, b1.2, (0 : Int32))
def f_X9_count (F : Nat) (x1 : Int32) (v_o_kept_held : Int32) (v_o_laid_cards : Int32) (v_o_laid_acts : Int32) (v_o_past_held : Int32) (v_o_sightings_held : Int32) (v_o_text_length : Int32) : Option (Int32) :=
  if x1 = (0 : Int32) then
    some (v_o_laid_cards)
  else if x1 = (1 : Int32) then
    some (v_o_laid_acts)
  else if x1 = (2 : Int32) then
    some (v_o_sightings_held)
  else if x1 = (3 : Int32) then
    some (v_o_past_held)
  else if x1 = (4 : Int32) then
    some (v_o_kept_held)
  else if x1 = (5 : Int32) then
    some (v_o_text_length)
  else
    some ((-1 : Int32))
def g_X10_colours_2 (F : Nat) : Nat → Int32 → (Nat → Int32) → Option ((Nat → Int32))
  | 0, _, _ => none
  | n + 1, x1, f_o_readColour =>
    if (16 : Int32) ≤ x1 then
      some (f_o_readColour)
    else
      jgd (2 : Int32) (
      jgi x1 16 (
      g_X10_colours_2 F n (x1 + (1 : Int32)) (upd f_o_readColour x1.toNatClampNeg (jrem x1 (2 : Int32)))))
def f_X10_colours (F : Nat) (f_o_readColour : Nat → Int32) : Option ((Nat → Int32)) :=
  g_X10_colours_2 F F (0 : Int32) f_o_readColour
def f_X10_clearTold (F : Nat) (v_o_isBegun : Int32) (v_o_readCards : Int32) (v_o_readDeals : Int32) (f_o_readColour : Nat → Int32) : Option (Int32 × Int32 × Int32 × (Nat → Int32)) :=
  (f_X10_colours F f_o_readColour).bind fun b1 =>
  some ((0 : Int32), (8 : Int32), (0 : Int32), b1)
def g_X10_copies_3 (F : Nat) (n_p0 : Nat) (n_p2 : Nat) (x1 : Int32) (x3 : Int32) (x4 : Int32) (f_p2 : Nat → Int32) : Nat → Int32 → (Nat → Int32) → Option ((Nat → Int32))
  | 0, _, _ => none
  | n + 1, x5, f_p0 =>
    if x4 ≤ x5 then
      some (f_p0)
    else
      jgi (x3 + x5) n_p2 (
      jgi (x1 + x5) n_p0 (
      g_X10_copies_3 F n_p0 n_p2 x1 x3 x4 f_p2 n (x5 + (1 : Int32)) (upd f_p0 (x1 + x5).toNatClampNeg (f_p2 (x3 + x5).toNatClampNeg))))
def f_X10_copies (F : Nat) (n_p0 : Nat) (n_p2 : Nat) (x1 : Int32) (x3 : Int32) (x4 : Int32) (f_p2 : Nat → Int32) (f_p0 : Nat → Int32) : Option ((Nat → Int32)) :=
  g_X10_copies_3 F n_p0 n_p2 x1 x3 x4 f_p2 F (0 : Int32) f_p0
def g_X10_lies_2 (F : Nat) (n_p0 : Nat) : Nat → Int32 → (Nat → Int32) → Option ((Nat → Int32))
  | 0, _, _ => none
  | n + 1, x1, f_p0 =>
    if (16 : Int32) ≤ x1 then
      some (f_p0)
    else
      jgi x1 n_p0 (
      g_X10_lies_2 F n_p0 n (x1 + (1 : Int32)) (upd f_p0 x1.toNatClampNeg x1))
def f_X10_lies (F : Nat) (n_p0 : Nat) (f_p0 : Nat → Int32) : Option ((Nat → Int32)) :=
  g_X10_lies_2 F n_p0 F (0 : Int32) f_p0
def f_X10_settles (F : Nat) (v_o_readCards : Int32) (v_o_readDeals : Int32) (f_o_readColour : Nat → Int32) (f_o_readDeal : Nat → Int32) (v_o_cards : Int32) (v_o_dealMany : Int32) (v_o_acts : Int32) (v_o_keeps : Int32) (v_o_seens : Int32) (f_o_colour : Nat → Int32) (f_o_deal : Nat → Int32) (f_o_st : Nat → Int32) : Option (Int32 × Int32 × Int32 × Int32 × Int32 × (Nat → Int32) × (Nat → Int32) × (Nat → Int32)) :=
  (f_X10_copies F 16 16 (0 : Int32) (0 : Int32) (16 : Int32) f_o_readColour f_o_colour).bind fun b1 =>
  (f_X10_copies F 16 16 (0 : Int32) (0 : Int32) (16 : Int32) f_o_readDeal f_o_deal).bind fun b2 =>
  (f_X10_lies F 16 f_o_st).bind fun b3 =>
  some (v_o_readCards, v_o_readDeals, (0 : Int32), (0 : Int32), (0 : Int32), b1, b2, b3)
def f_X10_in (F : Nat) (x0 : Int32) (x1 : Int32) (x2 : Int32) : Option (Int32) :=
  if x0 < x1 then
    some ((0 : Int32))
  else
    if x2 < x0 then
      some ((0 : Int32))
    else
      some ((1 : Int32))
def f_X10_isCard (F : Nat) (x1 : Int32) (v_o_cards : Int32) : Option (Int32) :=
  (f_X10_in F x1 (0 : Int32) (v_o_cards - (1 : Int32))).bind fun b1 =>
  jgz b1 (some (b1))
def f_X10_isKind (F : Nat) (x0 : Int32) : Option (Int32) :=
  (f_X10_in F x0 (0 : Int32) (4 : Int32)).bind fun b1 =>
  jgz b1 (some (b1))
def f_X10_write (F : Nat) (x1 : Int32) (v_o_texted : Int32) (f_o_text : Nat → Int32) : Option (Int32 × Int32 × (Nat → Int32)) :=
  (f_X10_in F x1 (32 : Int32) (126 : Int32)).bind fun b1 =>
  if b1 = (0 : Int32) then
    some ((-1 : Int32), v_o_texted, f_o_text)
  else
    if v_o_texted = (200 : Int32) then
      some ((-3 : Int32), v_o_texted, f_o_text)
    else
      jgi v_o_texted 200 (
      some ((v_o_texted + (1 : Int32)), (v_o_texted + (1 : Int32)), (upd f_o_text v_o_texted.toNatClampNeg x1)))
def f_X10_wipe (F : Nat) (v_o_texted : Int32) : Option (Int32 × Int32) :=
  some (v_o_texted, (0 : Int32))
def f_X10_letterAt (F : Nat) (x1 : Int32) (v_o_texted : Int32) (f_o_text : Nat → Int32) : Option (Int32) :=
  if v_o_texted ≤ x1 then
    some ((-1 : Int32))
  else
    jgi x1 200 (
    some ((f_o_text x1.toNatClampNeg)))
def f_X10_isFigure (F : Nat) (x0 : Int32) : Option (Int32) :=
  (f_X10_in F x0 (48 : Int32) (57 : Int32)).bind fun b1 =>
  jgz b1 (some (b1))
def g_X10_readNumbers_101 (F : Nat) (x1 : Int32) (v_o_texted : Int32) (f_o_text : Nat → Int32) (k_2 : Int32 → Int32 → (Nat → Int32) → Option (Int32 × Int32 × (Nat → Int32))) (x2 : Int32) (v_o_at : Int32) (f_o_told : Nat → Int32) : Option (Int32 × Int32 × (Nat → Int32)) :=
  (f_X10_letterAt F v_o_at v_o_texted f_o_text).bind fun b1 =>
  if (x1 - (1 : Int32)) ≤ x2 then
    if b1 = (59 : Int32) then
      k_2 (x2 + (1 : Int32)) (v_o_at + (1 : Int32)) f_o_told
    else
      some ((0 : Int32), v_o_at, f_o_told)
  else
    if b1 = (44 : Int32) then
      k_2 (x2 + (1 : Int32)) (v_o_at + (1 : Int32)) f_o_told
    else
      some ((0 : Int32), v_o_at, f_o_told)
def g_X10_readNumbers_2 (F : Nat) (x1 : Int32) (v_o_texted : Int32) (f_o_text : Nat → Int32) : Nat → Int32 → Int32 → (Nat → Int32) → Option (Int32 × Int32 × (Nat → Int32))
  | 0, _, _, _ => none
  | n + 1, x2, v_o_at, f_o_told =>
    if x1 ≤ x2 then
      some ((1 : Int32), v_o_at, f_o_told)
    else
      (f_X10_letterAt F v_o_at v_o_texted f_o_text).bind fun b1 =>
      (f_X10_isFigure F b1).bind fun b2 =>
      if b2 = (0 : Int32) then
        some ((0 : Int32), v_o_at, f_o_told)
      else
        (f_X10_letterAt F v_o_at v_o_texted f_o_text).bind fun b3 =>
        jgi x2 2 (
        (f_X10_letterAt F (v_o_at + (1 : Int32)) v_o_texted f_o_text).bind fun b4 =>
        (f_X10_isFigure F b4).bind fun b5 =>
        if b5 = (0 : Int32) then
          g_X10_readNumbers_101 F x1 v_o_texted f_o_text (fun qx2 qv_o_at qf_o_told => g_X10_readNumbers_2 F x1 v_o_texted f_o_text n qx2 qv_o_at qf_o_told) x2 (v_o_at + (1 : Int32)) (upd f_o_told x2.toNatClampNeg (b3 - (48 : Int32)))
        else
          jgi x2 2 (
          (f_X10_letterAt F (v_o_at + (1 : Int32)) v_o_texted f_o_text).bind fun b6 =>
          jgi x2 2 (
          g_X10_readNumbers_101 F x1 v_o_texted f_o_text (fun qx2 qv_o_at qf_o_told => g_X10_readNumbers_2 F x1 v_o_texted f_o_text n qx2 qv_o_at qf_o_told) x2 ((v_o_at + (1 : Int32)) + (1 : Int32)) (upd (upd f_o_told x2.toNatClampNeg (b3 - (48 : Int32))) x2.toNatClampNeg ((((10 : Int32) * ((upd f_o_told x2.toNatClampNeg (b3 - (48 : Int32))) x2.toNatClampNeg)) + b6) - (48 : Int32))))))
def f_X10_readNumbers (F : Nat) (x1 : Int32) (v_o_texted : Int32) (f_o_text : Nat → Int32) (v_o_at : Int32) (f_o_told : Nat → Int32) : Option (Int32 × Int32 × (Nat → Int32)) :=
  g_X10_readNumbers_2 F x1 v_o_texted f_o_text F (0 : Int32) v_o_at f_o_told
def f_X10_isTold (F : Nat) (x1 : Int32) (x2 : Int32) (x3 : Int32) (f_o_told : Nat → Int32) : Option (Int32) :=
  jgi x1 2 (
  (f_X10_in F (f_o_told x1.toNatClampNeg) x2 x3).bind fun b1 =>
  jgz b1 (some (b1)))
def g_X10_readCardsOf_31 (F : Nat) (v_o_texted : Int32) (v_o_isBegun : Int32) (f_o_text : Nat → Int32) (s0 : Int32) (v_o_at : Int32) (v_o_readCards : Int32) (f_o_told : Nat → Int32) : Option (Int32 × Int32 × Int32 × (Nat → Int32)) :=
  if s0 = (0 : Int32) then
    jgz s0 (some (s0, v_o_at, v_o_readCards, f_o_told))
  else
    jgi (0 : Int32) 2 (
    jgz s0 (some (s0, v_o_at, (f_o_told (0 : Int32).toNatClampNeg), f_o_told)))
def f_X10_readCardsOf (F : Nat) (v_o_texted : Int32) (v_o_isBegun : Int32) (f_o_text : Nat → Int32) (v_o_at : Int32) (v_o_readCards : Int32) (f_o_told : Nat → Int32) : Option (Int32 × Int32 × Int32 × (Nat → Int32)) :=
  if v_o_isBegun = (0 : Int32) then
    (f_X10_readNumbers F (1 : Int32) v_o_texted f_o_text v_o_at f_o_told).bind fun b1 =>
    if b1.1 = (0 : Int32) then
      g_X10_readCardsOf_31 F v_o_texted v_o_isBegun f_o_text (0 : Int32) b1.2.1 v_o_readCards b1.2.2
    else
      (f_X10_isTold F (0 : Int32) (2 : Int32) (16 : Int32) b1.2.2).bind fun b2 =>
      if b2 = (0 : Int32) then
        g_X10_readCardsOf_31 F v_o_texted v_o_isBegun f_o_text (0 : Int32) b1.2.1 v_o_readCards b1.2.2
      else
        g_X10_readCardsOf_31 F v_o_texted v_o_isBegun f_o_text (1 : Int32) b1.2.1 v_o_readCards b1.2.2
  else
    g_X10_readCardsOf_31 F v_o_texted v_o_isBegun f_o_text (0 : Int32) v_o_at v_o_readCards f_o_told
def f_X10_readColourOf (F : Nat) (v_o_texted : Int32) (v_o_readCards : Int32) (f_o_text : Nat → Int32) (v_o_at : Int32) (f_o_readColour : Nat → Int32) (f_o_told : Nat → Int32) : Option (Int32 × Int32 × (Nat → Int32) × (Nat → Int32)) :=
  (f_X10_readNumbers F (2 : Int32) v_o_texted f_o_text v_o_at f_o_told).bind fun b1 =>
  if b1.1 = (0 : Int32) then
    some ((0 : Int32), b1.2.1, f_o_readColour, b1.2.2)
  else
    (f_X10_isTold F (0 : Int32) (0 : Int32) (v_o_readCards - (1 : Int32)) b1.2.2).bind fun b2 =>
    if b2 = (0 : Int32) then
      some ((0 : Int32), b1.2.1, f_o_readColour, b1.2.2)
    else
      (f_X10_isTold F (1 : Int32) (0 : Int32) (3 : Int32) b1.2.2).bind fun b3 =>
      if b3 = (0 : Int32) then
        some ((0 : Int32), b1.2.1, f_o_readColour, b1.2.2)
      else
        jgi (0 : Int32) 2 (
        jgi (1 : Int32) 2 (
        jgi (b1.2.2 (0 : Int32).toNatClampNeg) 16 (
        some ((1 : Int32), b1.2.1, (upd f_o_readColour (b1.2.2 (0 : Int32).toNatClampNeg).toNatClampNeg (b1.2.2 (1 : Int32).toNatClampNeg)), b1.2.2))))
def f_X10_readDealOf (F : Nat) (x1 : Int32) (x2 : Int32) (v_o_texted : Int32) (f_o_text : Nat → Int32) (v_o_at : Int32) (v_o_readDeals : Int32) (f_o_readDeal : Nat → Int32) (f_o_told : Nat → Int32) : Option (Int32 × Int32 × Int32 × (Nat → Int32) × (Nat → Int32)) :=
  if v_o_readDeals = (16 : Int32) then
    some ((0 : Int32), v_o_at, v_o_readDeals, f_o_readDeal, f_o_told)
  else
    (f_X10_readNumbers F (1 : Int32) v_o_texted f_o_text v_o_at f_o_told).bind fun b1 =>
    if b1.1 = (0 : Int32) then
      some ((0 : Int32), b1.2.1, v_o_readDeals, f_o_readDeal, b1.2.2)
    else
      (f_X10_isTold F (0 : Int32) (0 : Int32) x2 b1.2.2).bind fun b2 =>
      if b2 = (0 : Int32) then
        some ((0 : Int32), b1.2.1, v_o_readDeals, f_o_readDeal, b1.2.2)
      else
        jgi (0 : Int32) 2 (
        jgi v_o_readDeals 16 (
        some ((1 : Int32), b1.2.1, (v_o_readDeals + (1 : Int32)), (upd f_o_readDeal v_o_readDeals.toNatClampNeg (x1 + (b1.2.2 (0 : Int32).toNatClampNeg))), b1.2.2)))
def f_X10_readItem (F : Nat) (v_o_texted : Int32) (f_o_text : Nat → Int32) (v_o_at : Int32) (v_o_isBegun : Int32) (v_o_readCards : Int32) (v_o_readDeals : Int32) (f_o_readColour : Nat → Int32) (f_o_readDeal : Nat → Int32) (f_o_told : Nat → Int32) : Option (Int32 × Int32 × Int32 × Int32 × Int32 × (Nat → Int32) × (Nat → Int32) × (Nat → Int32)) :=
  (f_X10_letterAt F v_o_at v_o_texted f_o_text).bind fun b1 =>
  if b1 = (110 : Int32) then
    (f_X10_readCardsOf F v_o_texted v_o_isBegun f_o_text (v_o_at + (1 : Int32)) v_o_readCards f_o_told).bind fun b5 =>
    jgz b5.1 (some (b5.1, b5.2.1, v_o_isBegun, b5.2.2.1, v_o_readDeals, f_o_readColour, f_o_readDeal, b5.2.2.2))
  else
    if b1 = (99 : Int32) then
      (f_X10_readColourOf F v_o_texted v_o_readCards f_o_text (v_o_at + (1 : Int32)) f_o_readColour f_o_told).bind fun b2 =>
      jgz b2.1 (some (b2.1, b2.2.1, (1 : Int32), v_o_readCards, v_o_readDeals, b2.2.2.1, f_o_readDeal, b2.2.2.2))
    else if b1 = (108 : Int32) then
      (f_X10_readDealOf F (0 : Int32) (4 : Int32) v_o_texted f_o_text (v_o_at + (1 : Int32)) v_o_readDeals f_o_readDeal f_o_told).bind fun b3 =>
      jgz b3.1 (some (b3.1, b3.2.1, (1 : Int32), v_o_readCards, b3.2.2.1, f_o_readColour, b3.2.2.2.1, b3.2.2.2.2))
    else if b1 = (120 : Int32) then
      (f_X10_readDealOf F (6 : Int32) (v_o_readCards - (1 : Int32)) v_o_texted f_o_text (v_o_at + (1 : Int32)) v_o_readDeals f_o_readDeal f_o_told).bind fun b4 =>
      jgz b4.1 (some (b4.1, b4.2.1, (1 : Int32), v_o_readCards, b4.2.2.1, f_o_readColour, b4.2.2.2.1, b4.2.2.2.2))
    else
      some ((0 : Int32), (v_o_at + (1 : Int32)), (1 : Int32), v_o_readCards, v_o_readDeals, f_o_readColour, f_o_readDeal, f_o_told)
def g_X10_fault_9 (F : Nat) (v_o_texted : Int32) (f_o_text : Nat → Int32) : Nat → Int32 → Int32 → Int32 → Int32 → (Nat → Int32) → (Nat → Int32) → (Nat → Int32) → Option (Int32 × Int32 × Int32 × Int32 × Int32 × (Nat → Int32) × (Nat → Int32) × (Nat → Int32))
  | 0, _, _, _, _, _, _, _ => none
  | n + 1, v_o_at, v_o_isBegun, v_o_readCards, v_o_readDeals, f_o_readColour, f_o_readDeal, f_o_told =>
    if v_o_texted ≤ v_o_at then
      some ((-4 : Int32), v_o_at, v_o_isBegun, v_o_readCards, v_o_readDeals, f_o_readColour, f_o_readDeal, f_o_told)
    else
      (f_X10_readItem F v_o_texted f_o_text v_o_at v_o_isBegun v_o_readCards v_o_readDeals f_o_readColour f_o_readDeal f_o_told).bind fun b1 =>
      if b1.1 = (0 : Int32) then
        some (v_o_at, b1.2.1, b1.2.2.1, b1.2.2.2.1, b1.2.2.2.2.1, b1.2.2.2.2.2.1, b1.2.2.2.2.2.2.1, b1.2.2.2.2.2.2.2)
      else
        g_X10_fault_9 F v_o_texted f_o_text n b1.2.1 b1.2.2.1 b1.2.2.2.1 b1.2.2.2.2.1 b1.2.2.2.2.2.1 b1.2.2.2.2.2.2.1 b1.2.2.2.2.2.2.2
def f_X10_fault (F : Nat) (v_o_texted : Int32) (f_o_text : Nat → Int32) (v_o_at : Int32) (v_o_isBegun : Int32) (v_o_readCards : Int32) (v_o_readDeals : Int32) (f_o_readColour : Nat → Int32) (f_o_readDeal : Nat → Int32) (f_o_told : Nat → Int32) : Option (Int32 × Int32 × Int32 × Int32 × Int32 × (Nat → Int32) × (Nat → Int32) × (Nat → Int32)) :=
  (f_X10_clearTold F v_o_isBegun v_o_readCards v_o_readDeals f_o_readColour).bind fun b1 =>
  g_X10_fault_9 F v_o_texted f_o_text F (0 : Int32) b1.1 b1.2.1 b1.2.2.1 b1.2.2.2 f_o_readDeal f_o_told
def f_X10_lay (F : Nat) (v_o_texted : Int32) (f_o_text : Nat → Int32) (v_o_cards : Int32) (v_o_dealMany : Int32) (v_o_acts : Int32) (v_o_keeps : Int32) (v_o_seens : Int32) (v_o_at : Int32) (v_o_isBegun : Int32) (v_o_readCards : Int32) (v_o_readDeals : Int32) (f_o_colour : Nat → Int32) (f_o_deal : Nat → Int32) (f_o_readColour : Nat → Int32) (f_o_readDeal : Nat → Int32) (f_o_st : Nat → Int32) (f_o_told : Nat → Int32) : Option (Int32 × Int32 × Int32 × Int32 × Int32 × Int32 × Int32 × Int32 × Int32 × Int32 × (Nat → Int32) × (Nat → Int32) × (Nat → Int32) × (Nat → Int32) × (Nat → Int32) × (Nat → Int32)) :=
  if v_o_texted = (0 : Int32) then
    some ((-2 : Int32), v_o_cards, v_o_dealMany, v_o_acts, v_o_keeps, v_o_seens, v_o_at, v_o_isBegun, v_o_readCards, v_o_readDeals, f_o_colour, f_o_deal, f_o_readColour, f_o_readDeal, f_o_st, f_o_told)
  else
    (f_X10_fault F v_o_texted f_o_text v_o_at v_o_isBegun v_o_readCards v_o_readDeals f_o_readColour f_o_readDeal f_o_told).bind fun b1 =>
    if b1.1 = (-4 : Int32) then
      (f_X10_settles F b1.2.2.2.1 b1.2.2.2.2.1 b1.2.2.2.2.2.1 b1.2.2.2.2.2.2.1 v_o_cards v_o_dealMany v_o_acts v_o_keeps v_o_seens f_o_colour f_o_deal f_o_st).bind fun b2 =>
      some (b2.1, b2.1, b2.2.1, b2.2.2.1, b2.2.2.2.1, b2.2.2.2.2.1, b1.2.1, b1.2.2.1, b1.2.2.2.1, b1.2.2.2.2.1, b2.2.2.2.2.2.1, b2.2.2.2.2.2.2.1, b1.2.2.2.2.2.1, b1.2.2.2.2.2.2.1, b2.2.2.2.2.2.2.2, b1.2.2.2.2.2.2.2)
    else
      some ((-2 : Int32), v_o_cards, v_o_dealMany, v_o_acts, v_o_keeps, v_o_seens, b1.2.1, b1.2.2.1, b1.2.2.2.1, b1.2.2.2.2.1, f_o_colour, f_o_deal, b1.2.2.2.2.2.1, b1.2.2.2.2.2.2.1, f_o_st, b1.2.2.2.2.2.2.2)
def f_X10_asItIs (F : Nat) (f_o_st : Nat → Int32) (f_o_now : Nat → Int32) : Option ((Nat → Int32)) :=
  (f_X10_copies F 16 16 (0 : Int32) (0 : Int32) (16 : Int32) f_o_st f_o_now).bind fun b1 =>
  some (b1)
def g_X10_falls_3 (F : Nat) (x1 : Int32) (x2 : Int32) (x3 : Int32) (v_o_cards : Int32) (f_o_now : Nat → Int32) : Nat → Int32 → (Nat → Int32) → Option ((Nat → Int32))
  | 0, _, _ => none
  | n + 1, x4, f_o_then =>
    if v_o_cards ≤ x4 then
      some (f_o_then)
    else
      jgd (2 : Int32) (
      if (jrem x4 (2 : Int32)) = (0 : Int32) then
        jgd (2 : Int32) (
        jgi (x1 + ((x4 / (2 : Int32)) * x2)) 16 (
        jgi x4 16 (
        g_X10_falls_3 F x1 x2 x3 v_o_cards f_o_now n (x4 + (1 : Int32)) (upd f_o_then x4.toNatClampNeg (f_o_now (x1 + ((x4 / (2 : Int32)) * x2)).toNatClampNeg)))))
      else
        jgd (2 : Int32) (
        jgi (x3 + (x4 / (2 : Int32))) 16 (
        jgi x4 16 (
        g_X10_falls_3 F x1 x2 x3 v_o_cards f_o_now n (x4 + (1 : Int32)) (upd f_o_then x4.toNatClampNeg (f_o_now (x3 + (x4 / (2 : Int32))).toNatClampNeg))))))
def f_X10_falls (F : Nat) (x1 : Int32) (x2 : Int32) (x3 : Int32) (v_o_cards : Int32) (f_o_now : Nat → Int32) (f_o_then : Nat → Int32) : Option ((Nat → Int32)) :=
  g_X10_falls_3 F x1 x2 x3 v_o_cards f_o_now F (0 : Int32) f_o_then
def g_X10_milks_2 (F : Nat) (v_o_cards : Int32) (f_o_now : Nat → Int32) : Nat → Int32 → (Nat → Int32) → Option ((Nat → Int32))
  | 0, _, _ => none
  | n + 1, x1, f_o_then =>
    if v_o_cards ≤ x1 then
      some (f_o_then)
    else
      jgd (2 : Int32) (
      if (jrem x1 (2 : Int32)) = (0 : Int32) then
        jgd (2 : Int32) (
        jgi (x1 / (2 : Int32)) 16 (
        jgi x1 16 (
        g_X10_milks_2 F v_o_cards f_o_now n (x1 + (1 : Int32)) (upd f_o_then x1.toNatClampNeg (f_o_now (x1 / (2 : Int32)).toNatClampNeg)))))
      else
        jgd (2 : Int32) (
        jgi ((v_o_cards - (1 : Int32)) - (x1 / (2 : Int32))) 16 (
        jgi x1 16 (
        g_X10_milks_2 F v_o_cards f_o_now n (x1 + (1 : Int32)) (upd f_o_then x1.toNatClampNeg (f_o_now ((v_o_cards - (1 : Int32)) - (x1 / (2 : Int32))).toNatClampNeg))))))
def f_X10_milks (F : Nat) (v_o_cards : Int32) (f_o_now : Nat → Int32) (f_o_then : Nat → Int32) : Option ((Nat → Int32)) :=
  g_X10_milks_2 F v_o_cards f_o_now F (0 : Int32) f_o_then
def g_X10_under_26 (F : Nat) (v_o_cards : Int32) (f_o_now : Nat → Int32) : Nat → Int32 → Int32 → Int32 → (Nat → Int32) → (Nat → Int32) → Option ((Nat → Int32) × (Nat → Int32))
  | 0, _, _, _, _, _ => none
  | n + 1, x1, x2, x3, f_o_ring, f_o_then =>
    if v_o_cards ≤ x3 then
      some (f_o_ring, f_o_then)
    else
      jgi x1 32 (
      jgi x3 16 (
      if x2 ≤ (x1 + (1 : Int32)) then
        g_X10_under_26 F v_o_cards f_o_now n (x1 + (1 : Int32)) x2 (x3 + (1 : Int32)) f_o_ring (upd f_o_then x3.toNatClampNeg (f_o_ring x1.toNatClampNeg))
      else
        jgd (32 : Int32) (
        jgd (32 : Int32) (
        jgi (jrem (x1 + (1 : Int32)) (32 : Int32)) 32 (
        jgi (jrem x2 (32 : Int32)) 32 (
        g_X10_under_26 F v_o_cards f_o_now n ((x1 + (1 : Int32)) + (1 : Int32)) (x2 + (1 : Int32)) (x3 + (1 : Int32)) (upd f_o_ring (jrem x2 (32 : Int32)).toNatClampNeg (f_o_ring (jrem (x1 + (1 : Int32)) (32 : Int32)).toNatClampNeg)) (upd f_o_then x3.toNatClampNeg (f_o_ring x1.toNatClampNeg))))))))
def f_X10_under (F : Nat) (v_o_cards : Int32) (f_o_now : Nat → Int32) (f_o_ring : Nat → Int32) (f_o_then : Nat → Int32) : Option ((Nat → Int32) × (Nat → Int32)) :=
  (f_X10_copies F 32 16 (0 : Int32) (0 : Int32) v_o_cards f_o_now f_o_ring).bind fun b1 =>
  g_X10_under_26 F v_o_cards f_o_now F (0 : Int32) v_o_cards (0 : Int32) b1 f_o_then
def g_X10_cuts_2 (F : Nat) (x1 : Int32) (v_o_cards : Int32) (f_o_now : Nat → Int32) : Nat → Int32 → (Nat → Int32) → Option ((Nat → Int32))
  | 0, _, _ => none
  | n + 1, x2, f_o_then =>
    if v_o_cards ≤ x2 then
      some (f_o_then)
    else
      jgd v_o_cards (
      jgi (jrem (x2 + x1) v_o_cards) 16 (
      jgi x2 16 (
      g_X10_cuts_2 F x1 v_o_cards f_o_now n (x2 + (1 : Int32)) (upd f_o_then x2.toNatClampNeg (f_o_now (jrem (x2 + x1) v_o_cards).toNatClampNeg)))))
def f_X10_cuts (F : Nat) (x1 : Int32) (v_o_cards : Int32) (f_o_now : Nat → Int32) (f_o_then : Nat → Int32) : Option ((Nat → Int32)) :=
  g_X10_cuts_2 F x1 v_o_cards f_o_now F (0 : Int32) f_o_then
def g_X10_acts_155 (F : Nat) (x1 : Int32) (v_o_cards : Int32) (f_o_now : Nat → Int32) (f_o_ring : Nat → Int32) (f_o_then : Nat → Int32) : Option ((Nat → Int32) × (Nat → Int32) × (Nat → Int32)) :=
  (f_X10_copies F 16 16 (0 : Int32) (0 : Int32) v_o_cards f_o_then f_o_now).bind fun b1 =>
  some (b1, f_o_ring, f_o_then)
def g_X10_acts_108 (F : Nat) (x1 : Int32) (v_o_cards : Int32) : Nat → Int32 → (Nat → Int32) → (Nat → Int32) → (Nat → Int32) → Option ((Nat → Int32) × (Nat → Int32) × (Nat → Int32))
  | 0, _, _, _, _ => none
  | n + 1, x4, f_o_now, f_o_ring, f_o_then =>
    if v_o_cards ≤ x4 then
      g_X10_acts_155 F x1 v_o_cards f_o_now f_o_ring f_o_then
    else
      jgi ((v_o_cards - (1 : Int32)) - x4) 16 (
      jgi x4 16 (
      g_X10_acts_108 F x1 v_o_cards n (x4 + (1 : Int32)) f_o_now f_o_ring (upd f_o_then x4.toNatClampNeg (f_o_now ((v_o_cards - (1 : Int32)) - x4).toNatClampNeg))))
def f_X10_acts (F : Nat) (x1 : Int32) (v_o_cards : Int32) (f_o_now : Nat → Int32) (f_o_ring : Nat → Int32) (f_o_then : Nat → Int32) : Option ((Nat → Int32) × (Nat → Int32) × (Nat → Int32)) :=
  jgd (2 : Int32) (
  if x1 = (0 : Int32) then
    (f_X10_falls F (0 : Int32) (1 : Int32) ((v_o_cards + (1 : Int32)) / (2 : Int32)) v_o_cards f_o_now f_o_then).bind fun b1 =>
    g_X10_acts_155 F x1 v_o_cards f_o_now f_o_ring b1
  else if x1 = (1 : Int32) then
    (f_X10_falls F (v_o_cards - ((v_o_cards + (1 : Int32)) / (2 : Int32))) (1 : Int32) (0 : Int32) v_o_cards f_o_now f_o_then).bind fun b2 =>
    g_X10_acts_155 F x1 v_o_cards f_o_now f_o_ring b2
  else if x1 = (2 : Int32) then
    (f_X10_milks F v_o_cards f_o_now f_o_then).bind fun b3 =>
    g_X10_acts_155 F x1 v_o_cards f_o_now f_o_ring b3
  else if x1 = (3 : Int32) then
    (f_X10_under F v_o_cards f_o_now f_o_ring f_o_then).bind fun b4 =>
    g_X10_acts_155 F x1 v_o_cards f_o_now b4.1 b4.2
  else if x1 = (4 : Int32) then
    (f_X10_falls F (v_o_cards - (1 : Int32)) (-1 : Int32) (0 : Int32) v_o_cards f_o_now f_o_then).bind fun b5 =>
    g_X10_acts_155 F x1 v_o_cards f_o_now f_o_ring b5
  else if x1 = (5 : Int32) then
    g_X10_acts_108 F x1 v_o_cards F (0 : Int32) f_o_now f_o_ring f_o_then
  else
    (f_X10_cuts F (x1 - (6 : Int32)) v_o_cards f_o_now f_o_then).bind fun b6 =>
    g_X10_acts_155 F x1 v_o_cards f_o_now f_o_ring b6)
def g_X10_deals_2 (F : Nat) (v_o_cards : Int32) (v_o_dealMany : Int32) (f_o_deal : Nat → Int32) : Nat → Int32 → (Nat → Int32) → (Nat → Int32) → (Nat → Int32) → Option ((Nat → Int32) × (Nat → Int32) × (Nat → Int32))
  | 0, _, _, _, _ => none
  | n + 1, x1, f_o_now, f_o_ring, f_o_then =>
    if v_o_dealMany ≤ x1 then
      some (f_o_now, f_o_ring, f_o_then)
    else
      jgi x1 16 (
      (f_X10_acts F (f_o_deal x1.toNatClampNeg) v_o_cards f_o_now f_o_ring f_o_then).bind fun b1 =>
      g_X10_deals_2 F v_o_cards v_o_dealMany f_o_deal n (x1 + (1 : Int32)) b1.1 b1.2.1 b1.2.2)
def f_X10_deals (F : Nat) (v_o_cards : Int32) (v_o_dealMany : Int32) (f_o_deal : Nat → Int32) (f_o_now : Nat → Int32) (f_o_ring : Nat → Int32) (f_o_then : Nat → Int32) : Option ((Nat → Int32) × (Nat → Int32) × (Nat → Int32)) :=
  g_X10_deals_2 F v_o_cards v_o_dealMany f_o_deal F (0 : Int32) f_o_now f_o_ring f_o_then
def g_X10_placeOf_2 (F : Nat) (x1 : Int32) (f_o_now : Nat → Int32) : Nat → Int32 → Option (Int32)
  | 0, _ => none
  | n + 1, x2 =>
    jgi x2 16 (
    if (f_o_now x2.toNatClampNeg) = x1 then
      some (x2)
    else
      g_X10_placeOf_2 F x1 f_o_now n (x2 + (1 : Int32)))
def f_X10_placeOf (F : Nat) (x1 : Int32) (f_o_now : Nat → Int32) : Option (Int32) :=
  g_X10_placeOf_2 F x1 f_o_now F (0 : Int32)
def f_X10_at (F : Nat) (x1 : Int32) (v_o_cards : Int32) (f_o_st : Nat → Int32) : Option (Int32) :=
  (f_X10_isCard F x1 v_o_cards).bind fun b1 =>
  if b1 = (0 : Int32) then
    some ((-1 : Int32))
  else
    jgi x1 16 (
    some ((f_o_st x1.toNatClampNeg)))
def f_X10_where (F : Nat) (x1 : Int32) (v_o_cards : Int32) (f_o_st : Nat → Int32) (f_o_now : Nat → Int32) : Option (Int32 × (Nat → Int32)) :=
  (f_X10_isCard F x1 v_o_cards).bind fun b1 =>
  if b1 = (0 : Int32) then
    some ((-1 : Int32), f_o_now)
  else
    (f_X10_asItIs F f_o_st f_o_now).bind fun b2 =>
    (f_X10_placeOf F x1 b2).bind fun b3 =>
    some (b3, b2)
def f_X10_colour (F : Nat) (x1 : Int32) (v_o_cards : Int32) (f_o_colour : Nat → Int32) : Option (Int32) :=
  (f_X10_isCard F x1 v_o_cards).bind fun b1 =>
  if b1 = (0 : Int32) then
    some ((-1 : Int32))
  else
    jgi x1 16 (
    some ((f_o_colour x1.toNatClampNeg)))
def g_X10_remembers_48 (F : Nat) (f_o_st : Nat → Int32) (v_o_acts : Int32) (f_o_was : Nat → Int32) : Option (Int32 × (Nat → Int32)) :=
  (f_X10_copies F 128 16 ((16 : Int32) * v_o_acts) (0 : Int32) (16 : Int32) f_o_st f_o_was).bind fun b1 =>
  some ((v_o_acts + (1 : Int32)), b1)
def g_X10_remembers_11 (F : Nat) (f_o_st : Nat → Int32) : Nat → Int32 → Int32 → (Nat → Int32) → Option (Int32 × (Nat → Int32))
  | 0, _, _, _ => none
  | n + 1, x1, v_o_acts, f_o_was =>
    if (112 : Int32) ≤ x1 then
      g_X10_remembers_48 F f_o_st (v_o_acts - (1 : Int32)) f_o_was
    else
      jgi (x1 + (16 : Int32)) 128 (
      jgi x1 128 (
      g_X10_remembers_11 F f_o_st n (x1 + (1 : Int32)) v_o_acts (upd f_o_was x1.toNatClampNeg (f_o_was (x1 + (16 : Int32)).toNatClampNeg))))
def f_X10_remembers (F : Nat) (f_o_st : Nat → Int32) (v_o_acts : Int32) (f_o_was : Nat → Int32) : Option (Int32 × (Nat → Int32)) :=
  if v_o_acts = (8 : Int32) then
    g_X10_remembers_11 F f_o_st F (0 : Int32) v_o_acts f_o_was
  else
    g_X10_remembers_48 F f_o_st v_o_acts f_o_was
def f_X10_does (F : Nat) (x1 : Int32) (v_o_cards : Int32) (v_o_acts : Int32) (f_o_now : Nat → Int32) (f_o_ring : Nat → Int32) (f_o_st : Nat → Int32) (f_o_then : Nat → Int32) (f_o_was : Nat → Int32) : Option (Int32 × Int32 × (Nat → Int32) × (Nat → Int32) × (Nat → Int32) × (Nat → Int32) × (Nat → Int32)) :=
  (f_X10_remembers F f_o_st v_o_acts f_o_was).bind fun b1 =>
  (f_X10_asItIs F f_o_st f_o_now).bind fun b2 =>
  (f_X10_acts F x1 v_o_cards b2 f_o_ring f_o_then).bind fun b3 =>
  (f_X10_copies F 16 16 (0 : Int32) (0 : Int32) (16 : Int32) b3.1 f_o_st).bind fun b4 =>
  jgi (0 : Int32) 16 (
  some ((b4 (0 : Int32).toNatClampNeg), b1.1, b3.1, b3.2.1, b4, b3.2.2, b1.2))
def f_X10_lace (F : Nat) (x1 : Int32) (v_o_cards : Int32) (v_o_acts : Int32) (f_o_now : Nat → Int32) (f_o_ring : Nat → Int32) (f_o_st : Nat → Int32) (f_o_then : Nat → Int32) (f_o_was : Nat → Int32) : Option (Int32 × Int32 × (Nat → Int32) × (Nat → Int32) × (Nat → Int32) × (Nat → Int32) × (Nat → Int32)) :=
  (f_X10_isKind F x1).bind fun b1 =>
  if b1 = (0 : Int32) then
    some ((-1 : Int32), v_o_acts, f_o_now, f_o_ring, f_o_st, f_o_then, f_o_was)
  else
    (f_X10_does F x1 v_o_cards v_o_acts f_o_now f_o_ring f_o_st f_o_then f_o_was).bind fun b2 =>
    some (b2.1, b2.2.1, b2.2.2.1, b2.2.2.2.1, b2.2.2.2.2.1, b2.2.2.2.2.2.1, b2.2.2.2.2.2.2)
def f_X10_cut (F : Nat) (x1 : Int32) (v_o_cards : Int32) (v_o_acts : Int32) (f_o_now : Nat → Int32) (f_o_ring : Nat → Int32) (f_o_st : Nat → Int32) (f_o_then : Nat → Int32) (f_o_was : Nat → Int32) : Option (Int32 × Int32 × (Nat → Int32) × (Nat → Int32) × (Nat → Int32) × (Nat → Int32) × (Nat → Int32)) :=
  (f_X10_isCard F x1 v_o_cards).bind fun b1 =>
  if b1 = (0 : Int32) then
    some ((-1 : Int32), v_o_acts, f_o_now, f_o_ring, f_o_st, f_o_then, f_o_was)
  else
    (f_X10_does F ((6 : Int32) + x1) v_o_cards v_o_acts f_o_now f_o_ring f_o_st f_o_then f_o_was).bind fun b2 =>
    some (b2.1, b2.2.1, b2.2.2.1, b2.2.2.2.1, b2.2.2.2.2.1, b2.2.2.2.2.2.1, b2.2.2.2.2.2.2)
def f_X10_turn (F : Nat) (v_o_cards : Int32) (v_o_acts : Int32) (f_o_now : Nat → Int32) (f_o_ring : Nat → Int32) (f_o_st : Nat → Int32) (f_o_then : Nat → Int32) (f_o_was : Nat → Int32) : Option (Int32 × Int32 × (Nat → Int32) × (Nat → Int32) × (Nat → Int32) × (Nat → Int32) × (Nat → Int32)) :=
  (f_X10_does F (5 : Int32) v_o_cards v_o_acts f_o_now f_o_ring f_o_st f_o_then f_o_was).bind fun b1 =>
  some (b1.1, b1.2.1, b1.2.2.1, b1.2.2.2.1, b1.2.2.2.2.1, b1.2.2.2.2.2.1, b1.2.2.2.2.2.2)
def f_X10_deal (F : Nat) (v_o_cards : Int32) (v_o_dealMany : Int32) (f_o_deal : Nat → Int32) (v_o_acts : Int32) (f_o_now : Nat → Int32) (f_o_ring : Nat → Int32) (f_o_st : Nat → Int32) (f_o_then : Nat → Int32) (f_o_was : Nat → Int32) : Option (Int32 × Int32 × (Nat → Int32) × (Nat → Int32) × (Nat → Int32) × (Nat → Int32) × (Nat → Int32)) :=
  (f_X10_remembers F f_o_st v_o_acts f_o_was).bind fun b1 =>
  (f_X10_asItIs F f_o_st f_o_now).bind fun b2 =>
  (f_X10_deals F v_o_cards v_o_dealMany f_o_deal b2 f_o_ring f_o_then).bind fun b3 =>
  (f_X10_copies F 16 16 (0 : Int32) (0 : Int32) (16 : Int32) b3.1 f_o_st).bind fun b4 =>
  jgi (0 : Int32) 16 (
  some ((b4 (0 : Int32).toNatClampNeg), b1.1, b3.1, b3.2.1, b4, b3.2.2, b1.2))
def f_X10_undo (F : Nat) (f_o_was : Nat → Int32) (v_o_acts : Int32) (f_o_st : Nat → Int32) : Option (Int32 × Int32 × (Nat → Int32)) :=
  if v_o_acts = (0 : Int32) then
    some ((-2 : Int32), v_o_acts, f_o_st)
  else
    (f_X10_copies F 16 128 (0 : Int32) ((16 : Int32) * (v_o_acts - (1 : Int32))) (16 : Int32) f_o_was f_o_st).bind fun b1 =>
    some ((v_o_acts - (1 : Int32)), (v_o_acts - (1 : Int32)), b1)
def g_X10_isInOrder_4 (F : Nat) (v_o_cards : Int32) (f_o_now : Nat → Int32) : Nat → Int32 → Int32 → Option (Int32)
  | 0, _, _ => none
  | n + 1, x1, x2 =>
    if v_o_cards ≤ x2 then
      jgz x1 (some (x1))
    else
      if x1 = (0 : Int32) then
        g_X10_isInOrder_4 F v_o_cards f_o_now n (0 : Int32) (x2 + (1 : Int32))
      else
        jgi x2 16 (
        if (f_o_now x2.toNatClampNeg) = x2 then
          g_X10_isInOrder_4 F v_o_cards f_o_now n (1 : Int32) (x2 + (1 : Int32))
        else
          g_X10_isInOrder_4 F v_o_cards f_o_now n (0 : Int32) (x2 + (1 : Int32)))
def f_X10_isInOrder (F : Nat) (v_o_cards : Int32) (f_o_now : Nat → Int32) : Option (Int32) :=
  g_X10_isInOrder_4 F v_o_cards f_o_now F (1 : Int32) (0 : Int32)
def g_X10_again_22 (F : Nat) (x1 : Int32) (v_o_cards : Int32) (v_o_dealMany : Int32) (f_o_deal : Nat → Int32) : Nat → Int32 → Int32 → (Nat → Int32) → (Nat → Int32) → (Nat → Int32) → Option (Int32 × (Nat → Int32) × (Nat → Int32) × (Nat → Int32))
  | 0, _, _, _, _, _ => none
  | n + 1, x2, x3, f_o_now, f_o_ring, f_o_then =>
    if x3 = (0 : Int32) then
      some (x2, f_o_now, f_o_ring, f_o_then)
    else
      if x1 = (5 : Int32) then
        (f_X10_deals F v_o_cards v_o_dealMany f_o_deal f_o_now f_o_ring f_o_then).bind fun b3 =>
        (f_X10_isInOrder F v_o_cards b3.1).bind fun b4 =>
        if b4 = (0 : Int32) then
          g_X10_again_22 F x1 v_o_cards v_o_dealMany f_o_deal n (x2 + (1 : Int32)) (1 : Int32) b3.1 b3.2.1 b3.2.2
        else
          g_X10_again_22 F x1 v_o_cards v_o_dealMany f_o_deal n (x2 + (1 : Int32)) (0 : Int32) b3.1 b3.2.1 b3.2.2
      else
        (f_X10_acts F x1 v_o_cards f_o_now f_o_ring f_o_then).bind fun b1 =>
        (f_X10_isInOrder F v_o_cards b1.1).bind fun b2 =>
        if b2 = (0 : Int32) then
          g_X10_again_22 F x1 v_o_cards v_o_dealMany f_o_deal n (x2 + (1 : Int32)) (1 : Int32) b1.1 b1.2.1 b1.2.2
        else
          g_X10_again_22 F x1 v_o_cards v_o_dealMany f_o_deal n (x2 + (1 : Int32)) (0 : Int32) b1.1 b1.2.1 b1.2.2
def f_X10_again (F : Nat) (x1 : Int32) (v_o_cards : Int32) (v_o_dealMany : Int32) (f_o_deal : Nat → Int32) (f_o_now : Nat → Int32) (f_o_ring : Nat → Int32) (f_o_then : Nat → Int32) : Option (Int32 × (Nat → Int32) × (Nat → Int32) × (Nat → Int32)) :=
  (f_X10_in F x1 (0 : Int32) (5 : Int32)).bind fun b1 =>
  if b1 = (0 : Int32) then
    some ((-1 : Int32), f_o_now, f_o_ring, f_o_then)
  else
    (f_X10_lies F 16 f_o_now).bind fun b2 =>
    g_X10_again_22 F x1 v_o_cards v_o_dealMany f_o_deal F (0 : Int32) (1 : Int32) b2 f_o_ring f_o_then
def g_X10_round_29 (F : Nat) (x1 : Int32) (x2 : Int32) (v_o_cards : Int32) : Nat → Int32 → Int32 → (Nat → Int32) → (Nat → Int32) → (Nat → Int32) → Option (Int32 × (Nat → Int32) × (Nat → Int32) × (Nat → Int32))
  | 0, _, _, _, _, _ => none
  | n + 1, x3, x4, f_o_now, f_o_ring, f_o_then =>
    if x4 = (0 : Int32) then
      some (x3, f_o_now, f_o_ring, f_o_then)
    else
      (f_X10_acts F x2 v_o_cards f_o_now f_o_ring f_o_then).bind fun b1 =>
      jgi x1 16 (
      if (b1.1 x1.toNatClampNeg) = x1 then
        g_X10_round_29 F x1 x2 v_o_cards n (x3 + (1 : Int32)) (0 : Int32) b1.1 b1.2.1 b1.2.2
      else
        g_X10_round_29 F x1 x2 v_o_cards n (x3 + (1 : Int32)) (1 : Int32) b1.1 b1.2.1 b1.2.2)
def f_X10_round (F : Nat) (x1 : Int32) (x2 : Int32) (v_o_cards : Int32) (f_o_now : Nat → Int32) (f_o_ring : Nat → Int32) (f_o_then : Nat → Int32) : Option (Int32 × (Nat → Int32) × (Nat → Int32) × (Nat → Int32)) :=
  (f_X10_isCard F x1 v_o_cards).bind fun b1 =>
  if b1 = (0 : Int32) then
    some ((-1 : Int32), f_o_now, f_o_ring, f_o_then)
  else
    (f_X10_isKind F x2).bind fun b2 =>
    if b2 = (0 : Int32) then
      some ((-1 : Int32), f_o_now, f_o_ring, f_o_then)
    else
      (f_X10_lies F 16 f_o_now).bind fun b3 =>
      g_X10_round_29 F x1 x2 v_o_cards F (0 : Int32) (1 : Int32) b3 f_o_ring f_o_then
def g_X10_rounds_58 (F : Nat) (x1 : Int32) (v_o_cards : Int32) (k_28 : Int32 → Int32 → Int32 → (Nat → Int32) → (Nat → Int32) → (Nat → Int32) → Option (Int32 × (Nat → Int32) × (Nat → Int32) × (Nat → Int32))) : Nat → Int32 → Int32 → Int32 → Int32 → (Nat → Int32) → (Nat → Int32) → (Nat → Int32) → Option (Int32 × (Nat → Int32) × (Nat → Int32) × (Nat → Int32))
  | 0, _, _, _, _, _, _, _ => none
  | n + 1, x2, x3, x4, x5, f_o_now, f_o_ring, f_o_then =>
    if ((jshr x2 x5) &&& (1 : Int32)) = (0 : Int32) then
      jgi x5 16 (
      g_X10_rounds_58 F x1 v_o_cards k_28 n (x2 ||| (jshl (1 : Int32) x5)) x3 x4 (f_o_now x5.toNatClampNeg) f_o_now f_o_ring f_o_then)
    else
      k_28 x2 x3 (x4 + (1 : Int32)) f_o_now f_o_ring f_o_then
def g_X10_rounds_28 (F : Nat) (x1 : Int32) (v_o_cards : Int32) : Nat → Int32 → Int32 → Int32 → (Nat → Int32) → (Nat → Int32) → (Nat → Int32) → Option (Int32 × (Nat → Int32) × (Nat → Int32) × (Nat → Int32))
  | 0, _, _, _, _, _, _ => none
  | n + 1, x2, x3, x4, f_o_now, f_o_ring, f_o_then =>
    if v_o_cards ≤ x4 then
      some (x3, f_o_now, f_o_ring, f_o_then)
    else
      if ((jshr x2 x4) &&& (1 : Int32)) = (0 : Int32) then
        g_X10_rounds_58 F x1 v_o_cards (fun qx2 qx3 qx4 qf_o_now qf_o_ring qf_o_then => g_X10_rounds_28 F x1 v_o_cards n qx2 qx3 qx4 qf_o_now qf_o_ring qf_o_then) F x2 (x3 + (1 : Int32)) x4 x4 f_o_now f_o_ring f_o_then
      else
        g_X10_rounds_58 F x1 v_o_cards (fun qx2 qx3 qx4 qf_o_now qf_o_ring qf_o_then => g_X10_rounds_28 F x1 v_o_cards n qx2 qx3 qx4 qf_o_now qf_o_ring qf_o_then) F x2 (x3 + (0 : Int32)) x4 x4 f_o_now f_o_ring f_o_then
def f_X10_rounds (F : Nat) (x1 : Int32) (v_o_cards : Int32) (f_o_now : Nat → Int32) (f_o_ring : Nat → Int32) (f_o_then : Nat → Int32) : Option (Int32 × (Nat → Int32) × (Nat → Int32) × (Nat → Int32)) :=
  (f_X10_isKind F x1).bind fun b1 =>
  if b1 = (0 : Int32) then
    some ((-1 : Int32), f_o_now, f_o_ring, f_o_then)
  else
    (f_X10_lies F 16 f_o_now).bind fun b2 =>
    (f_X10_acts F x1 v_o_cards b2 f_o_ring f_o_then).bind fun b3 =>
    g_X10_rounds_28 F x1 v_o_cards F (0 : Int32) (0 : Int32) (0 : Int32) b3.1 b3.2.1 b3.2.2
def g_X10_findGoes_21 (F : Nat) (v_o_cards : Int32) (k_2 : Int32 → (Nat → Int32) → (Nat → Int32) → (Nat → Int32) → (Nat → Int32) → Option ((Nat → Int32) × (Nat → Int32) × (Nat → Int32) × (Nat → Int32))) : Nat → Int32 → Int32 → (Nat → Int32) → (Nat → Int32) → (Nat → Int32) → (Nat → Int32) → Option ((Nat → Int32) × (Nat → Int32) × (Nat → Int32) × (Nat → Int32))
  | 0, _, _, _, _, _, _ => none
  | n + 1, x1, x2, f_o_goes, f_o_now, f_o_ring, f_o_then =>
    if v_o_cards ≤ x2 then
      k_2 (x1 + (1 : Int32)) f_o_goes f_o_now f_o_ring f_o_then
    else
      jgi x2 16 (
      jgi (((16 : Int32) * x1) + (f_o_now x2.toNatClampNeg)) 32 (
      g_X10_findGoes_21 F v_o_cards k_2 n x1 (x2 + (1 : Int32)) (upd f_o_goes (((16 : Int32) * x1) + (f_o_now x2.toNatClampNeg)).toNatClampNeg x2) f_o_now f_o_ring f_o_then))
def g_X10_findGoes_2 (F : Nat) (v_o_cards : Int32) : Nat → Int32 → (Nat → Int32) → (Nat → Int32) → (Nat → Int32) → (Nat → Int32) → Option ((Nat → Int32) × (Nat → Int32) × (Nat → Int32) × (Nat → Int32))
  | 0, _, _, _, _, _ => none
  | n + 1, x1, f_o_goes, f_o_now, f_o_ring, f_o_then =>
    if (1 : Int32) < x1 then
      some (f_o_goes, f_o_now, f_o_ring, f_o_then)
    else
      (f_X10_lies F 16 f_o_now).bind fun b1 =>
      (f_X10_acts F x1 v_o_cards b1 f_o_ring f_o_then).bind fun b2 =>
      g_X10_findGoes_21 F v_o_cards (fun qx1 qf_o_goes qf_o_now qf_o_ring qf_o_then => g_X10_findGoes_2 F v_o_cards n qx1 qf_o_goes qf_o_now qf_o_ring qf_o_then) F x1 (0 : Int32) f_o_goes b2.1 b2.2.1 b2.2.2
def f_X10_findGoes (F : Nat) (v_o_cards : Int32) (f_o_goes : Nat → Int32) (f_o_now : Nat → Int32) (f_o_ring : Nat → Int32) (f_o_then : Nat → Int32) : Option ((Nat → Int32) × (Nat → Int32) × (Nat → Int32) × (Nat → Int32)) :=
  g_X10_findGoes_2 F v_o_cards F (0 : Int32) f_o_goes f_o_now f_o_ring f_o_then
def g_X10_findFar_95 (F : Nat) (x1 : Int32) (v_o_cards : Int32) (k_37 : Int32 → (Nat → Int32) → (Nat → Int32) → (Nat → Int32) → (Nat → Int32) → (Nat → Int32) → Option ((Nat → Int32) × (Nat → Int32) × (Nat → Int32) × (Nat → Int32) × (Nat → Int32))) (k_45 : Int32 → Int32 → (Nat → Int32) → (Nat → Int32) → (Nat → Int32) → (Nat → Int32) → (Nat → Int32) → Option ((Nat → Int32) × (Nat → Int32) × (Nat → Int32) × (Nat → Int32) × (Nat → Int32))) (x2 : Int32) (x3 : Int32) (s0 : Int32) (f_o_far : Nat → Int32) (f_o_goes : Nat → Int32) (f_o_now : Nat → Int32) (f_o_ring : Nat → Int32) (f_o_then : Nat → Int32) : Option ((Nat → Int32) × (Nat → Int32) × (Nat → Int32) × (Nat → Int32) × (Nat → Int32)) :=
  jgi x3 16 (
  if (0 : Int32) ≤ (f_o_far x3.toNatClampNeg) then
    jgi x3 16 (
    jgi x3 16 (
    k_45 x2 (x3 + (1 : Int32)) (upd f_o_far x3.toNatClampNeg (f_o_far x3.toNatClampNeg)) f_o_goes f_o_now f_o_ring f_o_then))
  else
    if s0 = (0 : Int32) then
      jgi x3 16 (
      jgi x3 16 (
      k_45 x2 (x3 + (1 : Int32)) (upd f_o_far x3.toNatClampNeg (f_o_far x3.toNatClampNeg)) f_o_goes f_o_now f_o_ring f_o_then))
    else
      jgi x3 16 (
      k_45 x2 (x3 + (1 : Int32)) (upd f_o_far x3.toNatClampNeg x2) f_o_goes f_o_now f_o_ring f_o_then))
def g_X10_findFar_45 (F : Nat) (x1 : Int32) (v_o_cards : Int32) (k_37 : Int32 → (Nat → Int32) → (Nat → Int32) → (Nat → Int32) → (Nat → Int32) → (Nat → Int32) → Option ((Nat → Int32) × (Nat → Int32) × (Nat → Int32) × (Nat → Int32) × (Nat → Int32))) : Nat → Int32 → Int32 → (Nat → Int32) → (Nat → Int32) → (Nat → Int32) → (Nat → Int32) → (Nat → Int32) → Option ((Nat → Int32) × (Nat → Int32) × (Nat → Int32) × (Nat → Int32) × (Nat → Int32))
  | 0, _, _, _, _, _, _, _ => none
  | n + 1, x2, x3, f_o_far, f_o_goes, f_o_now, f_o_ring, f_o_then =>
    if v_o_cards ≤ x3 then
      k_37 (x2 + (1 : Int32)) f_o_far f_o_goes f_o_now f_o_ring f_o_then
    else
      jgi x3 32 (
      jgi (f_o_goes x3.toNatClampNeg) 16 (
      if (f_o_far (f_o_goes x3.toNatClampNeg).toNatClampNeg) = (x2 - (1 : Int32)) then
        g_X10_findFar_95 F x1 v_o_cards k_37 (fun qx2 qx3 qf_o_far qf_o_goes qf_o_now qf_o_ring qf_o_then => g_X10_findFar_45 F x1 v_o_cards k_37 n qx2 qx3 qf_o_far qf_o_goes qf_o_now qf_o_ring qf_o_then) x2 x3 (1 : Int32) f_o_far f_o_goes f_o_now f_o_ring f_o_then
      else
        jgi ((16 : Int32) + x3) 32 (
        jgi (f_o_goes ((16 : Int32) + x3).toNatClampNeg) 16 (
        if (f_o_far (f_o_goes ((16 : Int32) + x3).toNatClampNeg).toNatClampNeg) = (x2 - (1 : Int32)) then
          g_X10_findFar_95 F x1 v_o_cards k_37 (fun qx2 qx3 qf_o_far qf_o_goes qf_o_now qf_o_ring qf_o_then => g_X10_findFar_45 F x1 v_o_cards k_37 n qx2 qx3 qf_o_far qf_o_goes qf_o_now qf_o_ring qf_o_then) x2 x3 (1 : Int32) f_o_far f_o_goes f_o_now f_o_ring f_o_then
        else
          g_X10_findFar_95 F x1 v_o_cards k_37 (fun qx2 qx3 qf_o_far qf_o_goes qf_o_now qf_o_ring qf_o_then => g_X10_findFar_45 F x1 v_o_cards k_37 n qx2 qx3 qf_o_far qf_o_goes qf_o_now qf_o_ring qf_o_then) x2 x3 (0 : Int32) f_o_far f_o_goes f_o_now f_o_ring f_o_then))))
def g_X10_findFar_37 (F : Nat) (x1 : Int32) (v_o_cards : Int32) : Nat → Int32 → (Nat → Int32) → (Nat → Int32) → (Nat → Int32) → (Nat → Int32) → (Nat → Int32) → Option ((Nat → Int32) × (Nat → Int32) × (Nat → Int32) × (Nat → Int32) × (Nat → Int32))
  | 0, _, _, _, _, _, _ => none
  | n + 1, x2, f_o_far, f_o_goes, f_o_now, f_o_ring, f_o_then =>
    if (16 : Int32) ≤ x2 then
      some (f_o_far, f_o_goes, f_o_now, f_o_ring, f_o_then)
    else
      g_X10_findFar_45 F x1 v_o_cards (fun qx2 qf_o_far qf_o_goes qf_o_now qf_o_ring qf_o_then => g_X10_findFar_37 F x1 v_o_cards n qx2 qf_o_far qf_o_goes qf_o_now qf_o_ring qf_o_then) F x2 (0 : Int32) f_o_far f_o_goes f_o_now f_o_ring f_o_then
def g_X10_findFar_6 (F : Nat) (x1 : Int32) (v_o_cards : Int32) : Nat → Int32 → (Nat → Int32) → (Nat → Int32) → (Nat → Int32) → (Nat → Int32) → (Nat → Int32) → Option ((Nat → Int32) × (Nat → Int32) × (Nat → Int32) × (Nat → Int32) × (Nat → Int32))
  | 0, _, _, _, _, _, _ => none
  | n + 1, x2, f_o_far, f_o_goes, f_o_now, f_o_ring, f_o_then =>
    if (16 : Int32) ≤ x2 then
      g_X10_findFar_37 F x1 v_o_cards F (1 : Int32) f_o_far f_o_goes f_o_now f_o_ring f_o_then
    else
      if x2 = x1 then
        jgi x2 16 (
        g_X10_findFar_6 F x1 v_o_cards n (x2 + (1 : Int32)) (upd f_o_far x2.toNatClampNeg (0 : Int32)) f_o_goes f_o_now f_o_ring f_o_then)
      else
        jgi x2 16 (
        g_X10_findFar_6 F x1 v_o_cards n (x2 + (1 : Int32)) (upd f_o_far x2.toNatClampNeg (-4 : Int32)) f_o_goes f_o_now f_o_ring f_o_then)
def f_X10_findFar (F : Nat) (x1 : Int32) (v_o_cards : Int32) (f_o_far : Nat → Int32) (f_o_goes : Nat → Int32) (f_o_now : Nat → Int32) (f_o_ring : Nat → Int32) (f_o_then : Nat → Int32) : Option ((Nat → Int32) × (Nat → Int32) × (Nat → Int32) × (Nat → Int32) × (Nat → Int32)) :=
  (f_X10_findGoes F v_o_cards f_o_goes f_o_now f_o_ring f_o_then).bind fun b1 =>
  g_X10_findFar_6 F x1 v_o_cards F (0 : Int32) f_o_far b1.1 b1.2.1 b1.2.2.1 b1.2.2.2
def g_X10_bring_97 (F : Nat) (x1 : Int32) (x2 : Int32) (x3 : Int32) (v_o_cards : Int32) (f_o_st : Nat → Int32) (k_63 : Int32 → Int32 → Int32 → (Nat → Int32) → (Nat → Int32) → (Nat → Int32) → (Nat → Int32) → (Nat → Int32) → Option (Int32 × (Nat → Int32) × (Nat → Int32) × (Nat → Int32) × (Nat → Int32) × (Nat → Int32))) (x4 : Int32) (x5 : Int32) (x6 : Int32) (s0 : Int32) (f_o_far : Nat → Int32) (f_o_goes : Nat → Int32) (f_o_now : Nat → Int32) (f_o_ring : Nat → Int32) (f_o_then : Nat → Int32) : Option (Int32 × (Nat → Int32) × (Nat → Int32) × (Nat → Int32) × (Nat → Int32) × (Nat → Int32)) :=
  if x6 = x3 then
    some (s0, f_o_far, f_o_goes, f_o_now, f_o_ring, f_o_then)
  else
    jgi (((16 : Int32) * s0) + x4) 32 (
    k_63 (f_o_goes (((16 : Int32) * s0) + x4).toNatClampNeg) x5 (x6 + (1 : Int32)) f_o_far f_o_goes f_o_now f_o_ring f_o_then)
def g_X10_bring_63 (F : Nat) (x1 : Int32) (x2 : Int32) (x3 : Int32) (v_o_cards : Int32) (f_o_st : Nat → Int32) : Nat → Int32 → Int32 → Int32 → (Nat → Int32) → (Nat → Int32) → (Nat → Int32) → (Nat → Int32) → (Nat → Int32) → Option (Int32 × (Nat → Int32) × (Nat → Int32) × (Nat → Int32) × (Nat → Int32) × (Nat → Int32))
  | 0, _, _, _, _, _, _, _, _ => none
  | n + 1, x4, x5, x6, f_o_far, f_o_goes, f_o_now, f_o_ring, f_o_then =>
    if x5 ≤ x6 then
      some ((-4 : Int32), f_o_far, f_o_goes, f_o_now, f_o_ring, f_o_then)
    else
      jgi x4 32 (
      jgi (f_o_goes x4.toNatClampNeg) 16 (
      if (f_o_far (f_o_goes x4.toNatClampNeg).toNatClampNeg) = ((x5 - (1 : Int32)) - x6) then
        g_X10_bring_97 F x1 x2 x3 v_o_cards f_o_st (fun qx4 qx5 qx6 qf_o_far qf_o_goes qf_o_now qf_o_ring qf_o_then => g_X10_bring_63 F x1 x2 x3 v_o_cards f_o_st n qx4 qx5 qx6 qf_o_far qf_o_goes qf_o_now qf_o_ring qf_o_then) x4 x5 x6 (0 : Int32) f_o_far f_o_goes f_o_now f_o_ring f_o_then
      else
        g_X10_bring_97 F x1 x2 x3 v_o_cards f_o_st (fun qx4 qx5 qx6 qf_o_far qf_o_goes qf_o_now qf_o_ring qf_o_then => g_X10_bring_63 F x1 x2 x3 v_o_cards f_o_st n qx4 qx5 qx6 qf_o_far qf_o_goes qf_o_now qf_o_ring qf_o_then) x4 x5 x6 (1 : Int32) f_o_far f_o_goes f_o_now f_o_ring f_o_then))
def f_X10_bring (F : Nat) (x1 : Int32) (x2 : Int32) (x3 : Int32) (v_o_cards : Int32) (f_o_st : Nat → Int32) (f_o_far : Nat → Int32) (f_o_goes : Nat → Int32) (f_o_now : Nat → Int32) (f_o_ring : Nat → Int32) (f_o_then : Nat → Int32) : Option (Int32 × (Nat → Int32) × (Nat → Int32) × (Nat → Int32) × (Nat → Int32) × (Nat → Int32)) :=
  (f_X10_isCard F x1 v_o_cards).bind fun b1 =>
  if b1 = (0 : Int32) then
    some ((-1 : Int32), f_o_far, f_o_goes, f_o_now, f_o_ring, f_o_then)
  else
    (f_X10_isCard F x2 v_o_cards).bind fun b2 =>
    if b2 = (0 : Int32) then
      some ((-1 : Int32), f_o_far, f_o_goes, f_o_now, f_o_ring, f_o_then)
    else
      if (-1 : Int32) ≤ x3 then
        (f_X10_findFar F x2 v_o_cards f_o_far f_o_goes f_o_now f_o_ring f_o_then).bind fun b3 =>
        (f_X10_asItIs F f_o_st b3.2.2.1).bind fun b4 =>
        (f_X10_placeOf F x1 b4).bind fun b5 =>
        jgi b5 16 (
        if (b3.1 b5.toNatClampNeg) < (0 : Int32) then
          some ((b3.1 b5.toNatClampNeg), b3.1, b3.2.1, b4, b3.2.2.2.1, b3.2.2.2.2)
        else
          if (0 : Int32) ≤ x3 then
            g_X10_bring_63 F x1 x2 x3 v_o_cards f_o_st F b5 (b3.1 b5.toNatClampNeg) (0 : Int32) b3.1 b3.2.1 b4 b3.2.2.2.1 b3.2.2.2.2
          else
            some ((b3.1 b5.toNatClampNeg), b3.1, b3.2.1, b4, b3.2.2.2.1, b3.2.2.2.2))
      else
        some ((-1 : Int32), f_o_far, f_o_goes, f_o_now, f_o_ring, f_o_then)
def g_X10_beside_76 (F : Nat) (x1 : Int32) (x2 : Int32) (v_o_cards : Int32) (f_o_st : Nat → Int32) (k_47 : Int32 → Int32 → Int32 → (Nat → Int32) → (Nat → Int32) → (Nat → Int32) → (Nat → Int32) → Option (Int32 × (Nat → Int32) × (Nat → Int32) × (Nat → Int32) × (Nat → Int32))) (k_57 : Int32 → Int32 → Int32 → Int32 → (Nat → Int32) → (Nat → Int32) → (Nat → Int32) → (Nat → Int32) → Option (Int32 × (Nat → Int32) × (Nat → Int32) × (Nat → Int32) × (Nat → Int32))) : Nat → Int32 → Int32 → Int32 → Int32 → Int32 → Int32 → Int32 → (Nat → Int32) → (Nat → Int32) → (Nat → Int32) → (Nat → Int32) → Option (Int32 × (Nat → Int32) × (Nat → Int32) × (Nat → Int32) × (Nat → Int32))
  | 0, _, _, _, _, _, _, _, _, _, _, _ => none
  | n + 1, x3, x4, x5, x6, x7, x8, x9, f_o_goes, f_o_now, f_o_ring, f_o_then =>
    if x5 ≤ x9 then
      if (x7 - x8) = (1 : Int32) then
        some (x5, f_o_goes, f_o_now, f_o_ring, f_o_then)
      else
        if (x8 - x7) = (1 : Int32) then
          some (x5, f_o_goes, f_o_now, f_o_ring, f_o_then)
        else
          k_57 x3 x4 x5 (x6 + (1 : Int32)) f_o_goes f_o_now f_o_ring f_o_then
    else
      jgi (((16 : Int32) * ((jshr x6 x9) &&& (1 : Int32))) + x7) 32 (
      jgi (((16 : Int32) * ((jshr x6 x9) &&& (1 : Int32))) + x8) 32 (
      g_X10_beside_76 F x1 x2 v_o_cards f_o_st k_47 k_57 n x3 x4 x5 x6 (f_o_goes (((16 : Int32) * ((jshr x6 x9) &&& (1 : Int32))) + x7).toNatClampNeg) (f_o_goes (((16 : Int32) * ((jshr x6 x9) &&& (1 : Int32))) + x8).toNatClampNeg) (x9 + (1 : Int32)) f_o_goes f_o_now f_o_ring f_o_then))
def g_X10_beside_57 (F : Nat) (x1 : Int32) (x2 : Int32) (v_o_cards : Int32) (f_o_st : Nat → Int32) (k_47 : Int32 → Int32 → Int32 → (Nat → Int32) → (Nat → Int32) → (Nat → Int32) → (Nat → Int32) → Option (Int32 × (Nat → Int32) × (Nat → Int32) × (Nat → Int32) × (Nat → Int32))) : Nat → Int32 → Int32 → Int32 → Int32 → (Nat → Int32) → (Nat → Int32) → (Nat → Int32) → (Nat → Int32) → Option (Int32 × (Nat → Int32) × (Nat → Int32) × (Nat → Int32) × (Nat → Int32))
  | 0, _, _, _, _, _, _, _, _ => none
  | n + 1, x3, x4, x5, x6, f_o_goes, f_o_now, f_o_ring, f_o_then =>
    if (jshl (1 : Int32) x5) ≤ x6 then
      k_47 x3 x4 (x5 + (1 : Int32)) f_o_goes f_o_now f_o_ring f_o_then
    else
      g_X10_beside_76 F x1 x2 v_o_cards f_o_st k_47 (fun qx3 qx4 qx5 qx6 qf_o_goes qf_o_now qf_o_ring qf_o_then => g_X10_beside_57 F x1 x2 v_o_cards f_o_st k_47 n qx3 qx4 qx5 qx6 qf_o_goes qf_o_now qf_o_ring qf_o_then) F x3 x4 x5 x6 x3 x4 (0 : Int32) f_o_goes f_o_now f_o_ring f_o_then
def g_X10_beside_47 (F : Nat) (x1 : Int32) (x2 : Int32) (v_o_cards : Int32) (f_o_st : Nat → Int32) : Nat → Int32 → Int32 → Int32 → (Nat → Int32) → (Nat → Int32) → (Nat → Int32) → (Nat → Int32) → Option (Int32 × (Nat → Int32) × (Nat → Int32) × (Nat → Int32) × (Nat → Int32))
  | 0, _, _, _, _, _, _, _ => none
  | n + 1, x3, x4, x5, f_o_goes, f_o_now, f_o_ring, f_o_then =>
    if (8 : Int32) < x5 then
      some ((-4 : Int32), f_o_goes, f_o_now, f_o_ring, f_o_then)
    else
      g_X10_beside_57 F x1 x2 v_o_cards f_o_st (fun qx3 qx4 qx5 qf_o_goes qf_o_now qf_o_ring qf_o_then => g_X10_beside_47 F x1 x2 v_o_cards f_o_st n qx3 qx4 qx5 qf_o_goes qf_o_now qf_o_ring qf_o_then) F x3 x4 x5 (0 : Int32) f_o_goes f_o_now f_o_ring f_o_then
def f_X10_beside (F : Nat) (x1 : Int32) (x2 : Int32) (v_o_cards : Int32) (f_o_st : Nat → Int32) (f_o_goes : Nat → Int32) (f_o_now : Nat → Int32) (f_o_ring : Nat → Int32) (f_o_then : Nat → Int32) : Option (Int32 × (Nat → Int32) × (Nat → Int32) × (Nat → Int32) × (Nat → Int32)) :=
  (f_X10_isCard F x1 v_o_cards).bind fun b1 =>
  if b1 = (0 : Int32) then
    some ((-1 : Int32), f_o_goes, f_o_now, f_o_ring, f_o_then)
  else
    (f_X10_isCard F x2 v_o_cards).bind fun b2 =>
    if b2 = (0 : Int32) then
      some ((-1 : Int32), f_o_goes, f_o_now, f_o_ring, f_o_then)
    else
      if x1 = x2 then
        some ((-1 : Int32), f_o_goes, f_o_now, f_o_ring, f_o_then)
      else
        (f_X10_findGoes F v_o_cards f_o_goes f_o_now f_o_ring f_o_then).bind fun b3 =>
        (f_X10_asItIs F f_o_st b3.2.1).bind fun b4 =>
        (f_X10_placeOf F x1 b4).bind fun b5 =>
        (f_X10_placeOf F x2 b4).bind fun b6 =>
        g_X10_beside_47 F x1 x2 v_o_cards f_o_st F b5 b6 (0 : Int32) b3.1 b4 b3.2.2.1 b3.2.2.2
def g_X10_isMet_17 (F : Nat) (v_o_cards : Int32) (v_o_metMany : Int32) (f_o_met : Nat → Int32) (f_o_now : Nat → Int32) (k_4 : Int32 → Int32 → Option (Int32)) : Nat → Int32 → Int32 → Int32 → Int32 → Option (Int32)
  | 0, _, _, _, _ => none
  | n + 1, x1, x2, x3, x4 =>
    if v_o_cards ≤ x4 then
      if x1 = (0 : Int32) then
        if x3 = (0 : Int32) then
          k_4 (0 : Int32) (x2 + (1 : Int32))
        else
          k_4 (1 : Int32) (x2 + (1 : Int32))
      else
        k_4 (1 : Int32) (x2 + (1 : Int32))
    else
      if x3 = (0 : Int32) then
        g_X10_isMet_17 F v_o_cards v_o_metMany f_o_met f_o_now k_4 n x1 x2 (0 : Int32) (x4 + (1 : Int32))
      else
        jgi (((16 : Int32) * x2) + x4) 2048 (
        jgi x4 16 (
        if (f_o_met (((16 : Int32) * x2) + x4).toNatClampNeg) = (f_o_now x4.toNatClampNeg) then
          g_X10_isMet_17 F v_o_cards v_o_metMany f_o_met f_o_now k_4 n x1 x2 (1 : Int32) (x4 + (1 : Int32))
        else
          g_X10_isMet_17 F v_o_cards v_o_metMany f_o_met f_o_now k_4 n x1 x2 (0 : Int32) (x4 + (1 : Int32))))
def g_X10_isMet_4 (F : Nat) (v_o_cards : Int32) (v_o_metMany : Int32) (f_o_met : Nat → Int32) (f_o_now : Nat → Int32) : Nat → Int32 → Int32 → Option (Int32)
  | 0, _, _ => none
  | n + 1, x1, x2 =>
    if v_o_metMany ≤ x2 then
      jgz x1 (some (x1))
    else
      g_X10_isMet_17 F v_o_cards v_o_metMany f_o_met f_o_now (fun qx1 qx2 => g_X10_isMet_4 F v_o_cards v_o_metMany f_o_met f_o_now n qx1 qx2) F x1 x2 (1 : Int32) (0 : Int32)
def f_X10_isMet (F : Nat) (v_o_cards : Int32) (v_o_metMany : Int32) (f_o_met : Nat → Int32) (f_o_now : Nat → Int32) : Option (Int32) :=
  g_X10_isMet_4 F v_o_cards v_o_metMany f_o_met f_o_now F (0 : Int32) (0 : Int32)
def g_X10_orders_43 (F : Nat) (x1 : Int32) (v_o_cards : Int32) (k_19 : Int32 → Int32 → (Nat → Int32) → (Nat → Int32) → (Nat → Int32) → (Nat → Int32) → Option (Int32 × Int32 × (Nat → Int32) × (Nat → Int32) × (Nat → Int32) × (Nat → Int32))) (k_26 : Int32 → Int32 → Int32 → (Nat → Int32) → (Nat → Int32) → (Nat → Int32) → (Nat → Int32) → Option (Int32 × Int32 × (Nat → Int32) × (Nat → Int32) × (Nat → Int32) × (Nat → Int32))) : Nat → Int32 → Int32 → Int32 → Int32 → (Nat → Int32) → (Nat → Int32) → (Nat → Int32) → (Nat → Int32) → Option (Int32 × Int32 × (Nat → Int32) × (Nat → Int32) × (Nat → Int32) × (Nat → Int32))
  | 0, _, _, _, _, _, _, _, _ => none
  | n + 1, x2, x3, x4, v_o_metMany, f_o_met, f_o_now, f_o_ring, f_o_then =>
    if x2 ≤ x4 then
      (f_X10_isMet F v_o_cards v_o_metMany f_o_met f_o_now).bind fun b1 =>
      if b1 = (0 : Int32) then
        (f_X10_copies F 2048 16 ((16 : Int32) * v_o_metMany) (0 : Int32) (16 : Int32) f_o_now f_o_met).bind fun b2 =>
        k_26 x2 (x3 + (1 : Int32)) (v_o_metMany + (1 : Int32)) b2 f_o_now f_o_ring f_o_then
      else
        k_26 x2 (x3 + (1 : Int32)) v_o_metMany f_o_met f_o_now f_o_ring f_o_then
    else
      (f_X10_acts F ((jshr x3 x4) &&& (1 : Int32)) v_o_cards f_o_now f_o_ring f_o_then).bind fun b3 =>
      g_X10_orders_43 F x1 v_o_cards k_19 k_26 n x2 x3 (x4 + (1 : Int32)) v_o_metMany f_o_met b3.1 b3.2.1 b3.2.2
def g_X10_orders_26 (F : Nat) (x1 : Int32) (v_o_cards : Int32) (k_19 : Int32 → Int32 → (Nat → Int32) → (Nat → Int32) → (Nat → Int32) → (Nat → Int32) → Option (Int32 × Int32 × (Nat → Int32) × (Nat → Int32) × (Nat → Int32) × (Nat → Int32))) : Nat → Int32 → Int32 → Int32 → (Nat → Int32) → (Nat → Int32) → (Nat → Int32) → (Nat → Int32) → Option (Int32 × Int32 × (Nat → Int32) × (Nat → Int32) × (Nat → Int32) × (Nat → Int32))
  | 0, _, _, _, _, _, _, _ => none
  | n + 1, x2, x3, v_o_metMany, f_o_met, f_o_now, f_o_ring, f_o_then =>
    if (jshl (1 : Int32) x2) ≤ x3 then
      k_19 (x2 + (1 : Int32)) v_o_metMany f_o_met f_o_now f_o_ring f_o_then
    else
      (f_X10_lies F 16 f_o_now).bind fun b1 =>
      g_X10_orders_43 F x1 v_o_cards k_19 (fun qx2 qx3 qv_o_metMany qf_o_met qf_o_now qf_o_ring qf_o_then => g_X10_orders_26 F x1 v_o_cards k_19 n qx2 qx3 qv_o_metMany qf_o_met qf_o_now qf_o_ring qf_o_then) F x2 x3 (0 : Int32) v_o_metMany f_o_met b1 f_o_ring f_o_then
def g_X10_orders_19 (F : Nat) (x1 : Int32) (v_o_cards : Int32) : Nat → Int32 → Int32 → (Nat → Int32) → (Nat → Int32) → (Nat → Int32) → (Nat → Int32) → Option (Int32 × Int32 × (Nat → Int32) × (Nat → Int32) × (Nat → Int32) × (Nat → Int32))
  | 0, _, _, _, _, _, _ => none
  | n + 1, x2, v_o_metMany, f_o_met, f_o_now, f_o_ring, f_o_then =>
    if x1 < x2 then
      some (v_o_metMany, v_o_metMany, f_o_met, f_o_now, f_o_ring, f_o_then)
    else
      g_X10_orders_26 F x1 v_o_cards (fun qx2 qv_o_metMany qf_o_met qf_o_now qf_o_ring qf_o_then => g_X10_orders_19 F x1 v_o_cards n qx2 qv_o_metMany qf_o_met qf_o_now qf_o_ring qf_o_then) F x2 (0 : Int32) v_o_metMany f_o_met f_o_now f_o_ring f_o_then
def f_X10_orders (F : Nat) (x1 : Int32) (v_o_cards : Int32) (v_o_metMany : Int32) (f_o_met : Nat → Int32) (f_o_now : Nat → Int32) (f_o_ring : Nat → Int32) (f_o_then : Nat → Int32) : Option (Int32 × Int32 × (Nat → Int32) × (Nat → Int32) × (Nat → Int32) × (Nat → Int32)) :=
  (f_X10_in F x1 (0 : Int32) (6 : Int32)).bind fun b1 =>
  if b1 = (0 : Int32) then
    some ((-1 : Int32), v_o_metMany, f_o_met, f_o_now, f_o_ring, f_o_then)
  else
    g_X10_orders_19 F x1 v_o_cards F (0 : Int32) (0 : Int32) f_o_met f_o_now f_o_ring f_o_then
def g_X10_risingNow_4 (F : Nat) (v_o_cards : Int32) (f_o_now : Nat → Int32) : Nat → Int32 → Int32 → Option (Int32)
  | 0, _, _ => none
  | n + 1, x1, x2 =>
    if v_o_cards ≤ (x2 + (1 : Int32)) then
      some (x1)
    else
      (f_X10_placeOf F (x2 + (1 : Int32)) f_o_now).bind fun b1 =>
      (f_X10_placeOf F x2 f_o_now).bind fun b2 =>
      if b2 ≤ b1 then
        g_X10_risingNow_4 F v_o_cards f_o_now n (x1 + (0 : Int32)) (x2 + (1 : Int32))
      else
        g_X10_risingNow_4 F v_o_cards f_o_now n (x1 + (1 : Int32)) (x2 + (1 : Int32))
def f_X10_risingNow (F : Nat) (v_o_cards : Int32) (f_o_now : Nat → Int32) : Option (Int32) :=
  g_X10_risingNow_4 F v_o_cards f_o_now F (1 : Int32) (0 : Int32)
def f_X10_rising (F : Nat) (v_o_cards : Int32) (f_o_st : Nat → Int32) (f_o_now : Nat → Int32) : Option (Int32 × (Nat → Int32)) :=
  (f_X10_asItIs F f_o_st f_o_now).bind fun b1 =>
  (f_X10_risingNow F v_o_cards b1).bind fun b2 =>
  some (b2, b1)
def g_X10_unlike_4 (F : Nat) (n_p1 : Nat) (v_o_cards : Int32) (f_p1 : Nat → Int32) (f_o_colour : Nat → Int32) : Nat → Int32 → Int32 → Option (Int32)
  | 0, _, _ => none
  | n + 1, x2, x3 =>
    if v_o_cards ≤ (x3 + (1 : Int32)) then
      some (x2)
    else
      jgi x3 n_p1 (
      jgi (f_p1 x3.toNatClampNeg) 16 (
      jgi (x3 + (1 : Int32)) n_p1 (
      jgi (f_p1 (x3 + (1 : Int32)).toNatClampNeg) 16 (
      if (f_o_colour (f_p1 x3.toNatClampNeg).toNatClampNeg) = (f_o_colour (f_p1 (x3 + (1 : Int32)).toNatClampNeg).toNatClampNeg) then
        g_X10_unlike_4 F n_p1 v_o_cards f_p1 f_o_colour n (x2 + (0 : Int32)) (x3 + (2 : Int32))
      else
        g_X10_unlike_4 F n_p1 v_o_cards f_p1 f_o_colour n (x2 + (1 : Int32)) (x3 + (2 : Int32))))))
def f_X10_unlike (F : Nat) (n_p1 : Nat) (v_o_cards : Int32) (f_p1 : Nat → Int32) (f_o_colour : Nat → Int32) : Option (Int32) :=
  g_X10_unlike_4 F n_p1 v_o_cards f_p1 f_o_colour F (0 : Int32) (0 : Int32)
def f_X10_pairs (F : Nat) (v_o_cards : Int32) (f_o_colour : Nat → Int32) (f_o_st : Nat → Int32) : Option (Int32) :=
  (f_X10_unlike F 16 v_o_cards f_o_st f_o_colour).bind fun b1 =>
  some (b1)
def g_X10_lowest_5 (F : Nat) (x0 : Int32) (x1 : Int32) (x2 : Int32) : Nat → Int32 → Int32 → Option (Int32)
  | 0, _, _ => none
  | n + 1, x3, x4 =>
    if x4 ≤ (0 : Int32) then
      if x2 = (0 : Int32) then
        jgd x3 (
        some ((x0 / x3)))
      else
        jgd x3 (
        some ((x1 / x3)))
    else
      jgd x4 (
      g_X10_lowest_5 F x0 x1 x2 n x4 (jrem x3 x4))
def f_X10_lowest (F : Nat) (x0 : Int32) (x1 : Int32) (x2 : Int32) : Option (Int32) :=
  g_X10_lowest_5 F x0 x1 x2 F x0 x1
def g_X10_bits_4 (F : Nat) (x0 : Int32) : Nat → Int32 → Int32 → Option (Int32)
  | 0, _, _ => none
  | n + 1, x1, x2 =>
    if (16 : Int32) ≤ x2 then
      some (x1)
    else
      g_X10_bits_4 F x0 n (x1 + ((jshr x0 x2) &&& (1 : Int32))) (x2 + (1 : Int32))
def f_X10_bits (F : Nat) (x0 : Int32) : Option (Int32) :=
  g_X10_bits_4 F x0 F (0 : Int32) (0 : Int32)
def g_X10_sure_125 (F : Nat) (x1 : Int32) (x2 : Int32) (v_o_cards : Int32) (f_o_colour : Nat → Int32) (f_o_st : Nat → Int32) (k_31 : Int32 → Int32 → Int32 → (Nat → Int32) → Option (Int32 × (Nat → Int32))) (k_62 : Int32 → Int32 → Int32 → Int32 → Int32 → Int32 → (Nat → Int32) → Option (Int32 × (Nat → Int32))) (x3 : Int32) (x4 : Int32) (x5 : Int32) (x7 : Int32) (x8 : Int32) (x9 : Int32) (s0 : Int32) (s1 : Int32) (f_o_then : Nat → Int32) : Option (Int32 × (Nat → Int32)) :=
  if x9 = (0 : Int32) then
    k_62 x3 x4 x5 (s0 - s1) (x7 + (1 : Int32)) (x8 + (1 : Int32)) f_o_then
  else
    k_62 x3 x4 x5 (s0 - s1) (x7 + (0 : Int32)) (x8 + (1 : Int32)) f_o_then
def g_X10_sure_87 (F : Nat) (x1 : Int32) (x2 : Int32) (v_o_cards : Int32) (f_o_colour : Nat → Int32) (f_o_st : Nat → Int32) (k_31 : Int32 → Int32 → Int32 → (Nat → Int32) → Option (Int32 × (Nat → Int32))) (k_62 : Int32 → Int32 → Int32 → Int32 → Int32 → Int32 → (Nat → Int32) → Option (Int32 × (Nat → Int32))) (x3 : Int32) (x4 : Int32) (x5 : Int32) (x6 : Int32) (x7 : Int32) (x8 : Int32) (s0 : Int32) (f_o_then : Nat → Int32) : Option (Int32 × (Nat → Int32)) :=
  if s0 = (0 : Int32) then
    jgi x7 16 (
    jgi x8 16 (
    if s0 = (0 : Int32) then
      g_X10_sure_125 F x1 x2 v_o_cards f_o_colour f_o_st k_31 k_62 x3 x4 x5 x7 x8 s0 x6 (0 : Int32) (upd f_o_then x8.toNatClampNeg (f_o_st x7.toNatClampNeg))
    else
      g_X10_sure_125 F x1 x2 v_o_cards f_o_colour f_o_st k_31 k_62 x3 x4 x5 x7 x8 s0 x6 (1 : Int32) (upd f_o_then x8.toNatClampNeg (f_o_st x7.toNatClampNeg))))
  else
    jgi x6 16 (
    jgi x8 16 (
    if s0 = (0 : Int32) then
      g_X10_sure_125 F x1 x2 v_o_cards f_o_colour f_o_st k_31 k_62 x3 x4 x5 x7 x8 s0 x6 (0 : Int32) (upd f_o_then x8.toNatClampNeg (f_o_st x6.toNatClampNeg))
    else
      g_X10_sure_125 F x1 x2 v_o_cards f_o_colour f_o_st k_31 k_62 x3 x4 x5 x7 x8 s0 x6 (1 : Int32) (upd f_o_then x8.toNatClampNeg (f_o_st x6.toNatClampNeg))))
def g_X10_sure_62 (F : Nat) (x1 : Int32) (x2 : Int32) (v_o_cards : Int32) (f_o_colour : Nat → Int32) (f_o_st : Nat → Int32) (k_31 : Int32 → Int32 → Int32 → (Nat → Int32) → Option (Int32 × (Nat → Int32))) : Nat → Int32 → Int32 → Int32 → Int32 → Int32 → Int32 → (Nat → Int32) → Option (Int32 × (Nat → Int32))
  | 0, _, _, _, _, _, _, _ => none
  | n + 1, x3, x4, x5, x6, x7, x8, f_o_then =>
    if v_o_cards ≤ x8 then
      (f_X10_unlike F 16 v_o_cards f_o_then f_o_colour).bind fun b1 =>
      jgd (2 : Int32) (
      if b1 = (v_o_cards / (2 : Int32)) then
        k_31 (x3 + (1 : Int32)) (x4 + (1 : Int32)) (x5 + (1 : Int32)) f_o_then
      else
        k_31 (x3 + (0 : Int32)) (x4 + (1 : Int32)) (x5 + (1 : Int32)) f_o_then)
    else
      if ((jshr x5 x8) &&& (1 : Int32)) = (1 : Int32) then
        g_X10_sure_87 F x1 x2 v_o_cards f_o_colour f_o_st k_31 (fun qx3 qx4 qx5 qx6 qx7 qx8 qf_o_then => g_X10_sure_62 F x1 x2 v_o_cards f_o_colour f_o_st k_31 n qx3 qx4 qx5 qx6 qx7 qx8 qf_o_then) x3 x4 x5 x6 x7 x8 (1 : Int32) f_o_then
      else
        g_X10_sure_87 F x1 x2 v_o_cards f_o_colour f_o_st k_31 (fun qx3 qx4 qx5 qx6 qx7 qx8 qf_o_then => g_X10_sure_62 F x1 x2 v_o_cards f_o_colour f_o_st k_31 n qx3 qx4 qx5 qx6 qx7 qx8 qf_o_then) x3 x4 x5 x6 x7 x8 (0 : Int32) f_o_then
def g_X10_sure_31 (F : Nat) (x1 : Int32) (x2 : Int32) (v_o_cards : Int32) (f_o_colour : Nat → Int32) (f_o_st : Nat → Int32) : Nat → Int32 → Int32 → Int32 → (Nat → Int32) → Option (Int32 × (Nat → Int32))
  | 0, _, _, _, _ => none
  | n + 1, x3, x4, x5, f_o_then =>
    if (jshl (1 : Int32) v_o_cards) ≤ x5 then
      (f_X10_lowest F x3 x4 x2).bind fun b1 =>
      some (b1, f_o_then)
    else
      (f_X10_bits F x5).bind fun b2 =>
      if b2 = x1 then
        g_X10_sure_62 F x1 x2 v_o_cards f_o_colour f_o_st (fun qx3 qx4 qx5 qf_o_then => g_X10_sure_31 F x1 x2 v_o_cards f_o_colour f_o_st n qx3 qx4 qx5 qf_o_then) F x3 x4 x5 (x1 - (1 : Int32)) x1 (0 : Int32) f_o_then
      else
        g_X10_sure_31 F x1 x2 v_o_cards f_o_colour f_o_st n x3 x4 (x5 + (1 : Int32)) f_o_then
def f_X10_sure (F : Nat) (x1 : Int32) (x2 : Int32) (v_o_cards : Int32) (f_o_colour : Nat → Int32) (f_o_st : Nat → Int32) (f_o_then : Nat → Int32) : Option (Int32 × (Nat → Int32)) :=
  (f_X10_in F x1 (0 : Int32) v_o_cards).bind fun b1 =>
  if b1 = (0 : Int32) then
    some ((-1 : Int32), f_o_then)
  else
    (f_X10_in F x2 (0 : Int32) (1 : Int32)).bind fun b2 =>
    if b2 = (0 : Int32) then
      some ((-1 : Int32), f_o_then)
    else
      g_X10_sure_31 F x1 x2 v_o_cards f_o_colour f_o_st F (0 : Int32) (0 : Int32) (0 : Int32) f_o_then
def f_X10_seen (F : Nat) (x1 : Int32) (x2 : Int32) (v_o_cards : Int32) (v_o_seens : Int32) (f_o_seen : Nat → Int32) : Option (Int32 × Int32 × (Nat → Int32)) :=
  (f_X10_isCard F x1 v_o_cards).bind fun b1 =>
  if b1 = (0 : Int32) then
    some ((-1 : Int32), v_o_seens, f_o_seen)
  else
    (f_X10_isCard F x2 v_o_cards).bind fun b2 =>
    if b2 = (0 : Int32) then
      some ((-1 : Int32), v_o_seens, f_o_seen)
    else
      if v_o_seens = (8 : Int32) then
        some ((-3 : Int32), v_o_seens, f_o_seen)
      else
        jgi ((2 : Int32) * v_o_seens) 16 (
        jgi (((2 : Int32) * v_o_seens) + (1 : Int32)) 16 (
        some ((v_o_seens + (1 : Int32)), (v_o_seens + (1 : Int32)), (upd (upd f_o_seen ((2 : Int32) * v_o_seens).toNatClampNeg x1) (((2 : Int32) * v_o_seens) + (1 : Int32)).toNatClampNeg x2))))
def f_X10_forget (F : Nat) (v_o_seens : Int32) : Option (Int32 × Int32) :=
  some (v_o_seens, (0 : Int32))
def g_X10_isBy_16 (F : Nat) (x1 : Int32) (v_o_cards : Int32) (v_o_seens : Int32) (f_o_seen : Nat → Int32) : Nat → Int32 → Int32 → (Nat → Int32) → (Nat → Int32) → (Nat → Int32) → Option (Int32 × (Nat → Int32) × (Nat → Int32) × (Nat → Int32))
  | 0, _, _, _, _, _ => none
  | n + 1, x2, x3, f_o_now, f_o_ring, f_o_then =>
    if v_o_seens ≤ x3 then
      jgz x2 (some (x2, f_o_now, f_o_ring, f_o_then))
    else
      if x2 = (0 : Int32) then
        g_X10_isBy_16 F x1 v_o_cards v_o_seens f_o_seen n (0 : Int32) (x3 + (1 : Int32)) f_o_now f_o_ring f_o_then
      else
        jgi (((2 : Int32) * x3) + (1 : Int32)) 16 (
        jgi (f_o_seen (((2 : Int32) * x3) + (1 : Int32)).toNatClampNeg) 16 (
        jgi ((2 : Int32) * x3) 16 (
        if (f_o_now (f_o_seen (((2 : Int32) * x3) + (1 : Int32)).toNatClampNeg).toNatClampNeg) = (f_o_seen ((2 : Int32) * x3).toNatClampNeg) then
          g_X10_isBy_16 F x1 v_o_cards v_o_seens f_o_seen n (1 : Int32) (x3 + (1 : Int32)) f_o_now f_o_ring f_o_then
        else
          g_X10_isBy_16 F x1 v_o_cards v_o_seens f_o_seen n (0 : Int32) (x3 + (1 : Int32)) f_o_now f_o_ring f_o_then)))
def f_X10_isBy (F : Nat) (x1 : Int32) (v_o_cards : Int32) (v_o_seens : Int32) (f_o_seen : Nat → Int32) (f_o_now : Nat → Int32) (f_o_ring : Nat → Int32) (f_o_then : Nat → Int32) : Option (Int32 × (Nat → Int32) × (Nat → Int32) × (Nat → Int32)) :=
  (f_X10_lies F 16 f_o_now).bind fun b1 =>
  (f_X10_acts F x1 v_o_cards b1 f_o_ring f_o_then).bind fun b2 =>
  g_X10_isBy_16 F x1 v_o_cards v_o_seens f_o_seen F (1 : Int32) (0 : Int32) b2.1 b2.2.1 b2.2.2
def g_X10_done_46 (F : Nat) (x1 : Int32) (v_o_cards : Int32) (v_o_seens : Int32) (f_o_seen : Nat → Int32) (k_15 : Int32 → Int32 → (Nat → Int32) → (Nat → Int32) → (Nat → Int32) → Option (Int32 × (Nat → Int32) × (Nat → Int32) × (Nat → Int32))) (x3 : Int32) (s0 : Int32) (s2 : Int32) (f_o_now : Nat → Int32) (f_o_ring : Nat → Int32) (f_o_then : Nat → Int32) : Option (Int32 × (Nat → Int32) × (Nat → Int32) × (Nat → Int32)) :=
  (f_X10_isBy F s2 v_o_cards v_o_seens f_o_seen f_o_now f_o_ring f_o_then).bind fun b1 =>
  if b1.1 = (0 : Int32) then
    k_15 (s0 ||| (0 : Int32)) (x3 + (1 : Int32)) b1.2.1 b1.2.2.1 b1.2.2.2
  else
    k_15 (s0 ||| (jshl (1 : Int32) x3)) (x3 + (1 : Int32)) b1.2.1 b1.2.2.1 b1.2.2.2
def g_X10_done_15 (F : Nat) (x1 : Int32) (v_o_cards : Int32) (v_o_seens : Int32) (f_o_seen : Nat → Int32) : Nat → Int32 → Int32 → (Nat → Int32) → (Nat → Int32) → (Nat → Int32) → Option (Int32 × (Nat → Int32) × (Nat → Int32) × (Nat → Int32))
  | 0, _, _, _, _, _ => none
  | n + 1, x2, x3, f_o_now, f_o_ring, f_o_then =>
    if x1 = (0 : Int32) then
      if (6 : Int32) ≤ x3 then
        some (x2, f_o_now, f_o_ring, f_o_then)
      else
        if x1 = (0 : Int32) then
          g_X10_done_46 F x1 v_o_cards v_o_seens f_o_seen (fun qx2 qx3 qf_o_now qf_o_ring qf_o_then => g_X10_done_15 F x1 v_o_cards v_o_seens f_o_seen n qx2 qx3 qf_o_now qf_o_ring qf_o_then) x3 x2 x3 f_o_now f_o_ring f_o_then
        else
          g_X10_done_46 F x1 v_o_cards v_o_seens f_o_seen (fun qx2 qx3 qf_o_now qf_o_ring qf_o_then => g_X10_done_15 F x1 v_o_cards v_o_seens f_o_seen n qx2 qx3 qf_o_now qf_o_ring qf_o_then) x3 x2 ((6 : Int32) + x3) f_o_now f_o_ring f_o_then
    else
      if v_o_cards ≤ x3 then
        some (x2, f_o_now, f_o_ring, f_o_then)
      else
        if x1 = (0 : Int32) then
          g_X10_done_46 F x1 v_o_cards v_o_seens f_o_seen (fun qx2 qx3 qf_o_now qf_o_ring qf_o_then => g_X10_done_15 F x1 v_o_cards v_o_seens f_o_seen n qx2 qx3 qf_o_now qf_o_ring qf_o_then) x3 x2 x3 f_o_now f_o_ring f_o_then
        else
          g_X10_done_46 F x1 v_o_cards v_o_seens f_o_seen (fun qx2 qx3 qf_o_now qf_o_ring qf_o_then => g_X10_done_15 F x1 v_o_cards v_o_seens f_o_seen n qx2 qx3 qf_o_now qf_o_ring qf_o_then) x3 x2 ((6 : Int32) + x3) f_o_now f_o_ring f_o_then
def f_X10_done (F : Nat) (x1 : Int32) (v_o_cards : Int32) (v_o_seens : Int32) (f_o_seen : Nat → Int32) (f_o_now : Nat → Int32) (f_o_ring : Nat → Int32) (f_o_then : Nat → Int32) : Option (Int32 × (Nat → Int32) × (Nat → Int32) × (Nat → Int32)) :=
  (f_X10_in F x1 (0 : Int32) (1 : Int32)).bind fun b1 =>
  if b1 = (0 : Int32) then
    some ((-1 : Int32), f_o_now, f_o_ring, f_o_then)
  else
    g_X10_done_15 F x1 v_o_cards v_o_seens f_o_seen F (0 : Int32) (0 : Int32) f_o_now f_o_ring f_o_then
def g_X10_likely_112 (F : Nat) (x1 : Int32) (x2 : Int32) (x3 : Int32) (x4 : Int32) (x5 : Int32) (v_o_cards : Int32) (f_o_st : Nat → Int32) (k_94 : Int32 → Int32 → Int32 → Int32 → (Nat → Int32) → (Nat → Int32) → (Nat → Int32) → (Nat → Int32) → Option (Int32 × (Nat → Int32) × (Nat → Int32) × (Nat → Int32) × (Nat → Int32))) : Nat → Int32 → Int32 → Int32 → Int32 → Int32 → Int32 → Int32 → (Nat → Int32) → (Nat → Int32) → (Nat → Int32) → (Nat → Int32) → Option (Int32 × (Nat → Int32) × (Nat → Int32) × (Nat → Int32) × (Nat → Int32))
  | 0, _, _, _, _, _, _, _, _, _, _, _ => none
  | n + 1, x6, x7, x8, x9, x10, x11, x12, f_o_goes, f_o_now, f_o_ring, f_o_then =>
    if x3 ≤ x12 then
      if x10 = x2 then
        k_94 x6 (x7 + x11) x8 (x9 + (1 : Int32)) f_o_goes f_o_now f_o_ring f_o_then
      else
        k_94 x6 (x7 + (0 : Int32)) x8 (x9 + (1 : Int32)) f_o_goes f_o_now f_o_ring f_o_then
    else
      if ((jshr x9 x12) &&& (1 : Int32)) = (0 : Int32) then
        jgi (((16 : Int32) * ((jshr x9 x12) &&& (1 : Int32))) + x10) 32 (
        g_X10_likely_112 F x1 x2 x3 x4 x5 v_o_cards f_o_st k_94 n x6 x7 x8 x9 (f_o_goes (((16 : Int32) * ((jshr x9 x12) &&& (1 : Int32))) + x10).toNatClampNeg) (x11 * x4) (x12 + (1 : Int32)) f_o_goes f_o_now f_o_ring f_o_then)
      else
        jgi (((16 : Int32) * ((jshr x9 x12) &&& (1 : Int32))) + x10) 32 (
        g_X10_likely_112 F x1 x2 x3 x4 x5 v_o_cards f_o_st k_94 n x6 x7 x8 x9 (f_o_goes (((16 : Int32) * ((jshr x9 x12) &&& (1 : Int32))) + x10).toNatClampNeg) (x11 * ((10 : Int32) - x4)) (x12 + (1 : Int32)) f_o_goes f_o_now f_o_ring f_o_then)
def g_X10_likely_94 (F : Nat) (x1 : Int32) (x2 : Int32) (x3 : Int32) (x4 : Int32) (x5 : Int32) (v_o_cards : Int32) (f_o_st : Nat → Int32) : Nat → Int32 → Int32 → Int32 → Int32 → (Nat → Int32) → (Nat → Int32) → (Nat → Int32) → (Nat → Int32) → Option (Int32 × (Nat → Int32) × (Nat → Int32) × (Nat → Int32) × (Nat → Int32))
  | 0, _, _, _, _, _, _, _, _ => none
  | n + 1, x6, x7, x8, x9, f_o_goes, f_o_now, f_o_ring, f_o_then =>
    if (jshl (1 : Int32) x3) ≤ x9 then
      (f_X10_lowest F x7 x8 x5).bind fun b1 =>
      some (b1, f_o_goes, f_o_now, f_o_ring, f_o_then)
    else
      g_X10_likely_112 F x1 x2 x3 x4 x5 v_o_cards f_o_st (fun qx6 qx7 qx8 qx9 qf_o_goes qf_o_now qf_o_ring qf_o_then => g_X10_likely_94 F x1 x2 x3 x4 x5 v_o_cards f_o_st n qx6 qx7 qx8 qx9 qf_o_goes qf_o_now qf_o_ring qf_o_then) F x6 x7 x8 x9 x6 (1 : Int32) (0 : Int32) f_o_goes f_o_now f_o_ring f_o_then
def g_X10_likely_72 (F : Nat) (x1 : Int32) (x2 : Int32) (x3 : Int32) (x4 : Int32) (x5 : Int32) (v_o_cards : Int32) (f_o_st : Nat → Int32) : Nat → Int32 → Int32 → Int32 → Int32 → (Nat → Int32) → (Nat → Int32) → (Nat → Int32) → (Nat → Int32) → Option (Int32 × (Nat → Int32) × (Nat → Int32) × (Nat → Int32) × (Nat → Int32))
  | 0, _, _, _, _, _, _, _, _ => none
  | n + 1, x6, x7, x8, x9, f_o_goes, f_o_now, f_o_ring, f_o_then =>
    if x3 ≤ x9 then
      g_X10_likely_94 F x1 x2 x3 x4 x5 v_o_cards f_o_st F x6 x7 x8 (0 : Int32) f_o_goes f_o_now f_o_ring f_o_then
    else
      g_X10_likely_72 F x1 x2 x3 x4 x5 v_o_cards f_o_st n x6 x7 (x8 * (10 : Int32)) (x9 + (1 : Int32)) f_o_goes f_o_now f_o_ring f_o_then
def f_X10_likely (F : Nat) (x1 : Int32) (x2 : Int32) (x3 : Int32) (x4 : Int32) (x5 : Int32) (v_o_cards : Int32) (f_o_st : Nat → Int32) (f_o_goes : Nat → Int32) (f_o_now : Nat → Int32) (f_o_ring : Nat → Int32) (f_o_then : Nat → Int32) : Option (Int32 × (Nat → Int32) × (Nat → Int32) × (Nat → Int32) × (Nat → Int32)) :=
  (f_X10_isCard F x1 v_o_cards).bind fun b1 =>
  if b1 = (0 : Int32) then
    some ((-1 : Int32), f_o_goes, f_o_now, f_o_ring, f_o_then)
  else
    (f_X10_isCard F x2 v_o_cards).bind fun b2 =>
    if b2 = (0 : Int32) then
      some ((-1 : Int32), f_o_goes, f_o_now, f_o_ring, f_o_then)
    else
      (f_X10_in F x3 (0 : Int32) (5 : Int32)).bind fun b3 =>
      if b3 = (0 : Int32) then
        some ((-1 : Int32), f_o_goes, f_o_now, f_o_ring, f_o_then)
      else
        (f_X10_in F x4 (0 : Int32) (10 : Int32)).bind fun b4 =>
        if b4 = (0 : Int32) then
          some ((-1 : Int32), f_o_goes, f_o_now, f_o_ring, f_o_then)
        else
          (f_X10_in F x5 (0 : Int32) (1 : Int32)).bind fun b5 =>
          if b5 = (0 : Int32) then
            some ((-1 : Int32), f_o_goes, f_o_now, f_o_ring, f_o_then)
          else
            (f_X10_findGoes F v_o_cards f_o_goes f_o_now f_o_ring f_o_then).bind fun b6 =>
            (f_X10_asItIs F f_o_st b6.2.1).bind fun b7 =>
            (f_X10_placeOf F x1 b7).bind fun b8 =>
            g_X10_likely_72 F x1 x2 x3 x4 x5 v_o_cards f_o_st F b8 (0 : Int32) (1 : Int32) (0 : Int32) b6.1 b7 b6.2.2.1 b6.2.2.2
def g_X10_dealing_136 (F : Nat) (x1 : Int32) (x2 : Int32) (x3 : Int32) (v_o_cards : Int32) (f_o_st : Nat → Int32) : Nat → Int32 → Int32 → (Nat → Int32) → (Nat → Int32) → (Nat → Int32) → Option (Int32 × (Nat → Int32) × (Nat → Int32) × (Nat → Int32))
  | 0, _, _, _, _, _ => none
  | n + 1, x4, x5, f_o_now, f_o_ring, f_o_then =>
    if v_o_cards ≤ x5 then
      if x3 = (0 : Int32) then
        jgi (0 : Int32) 16 (
        some ((f_o_now (0 : Int32).toNatClampNeg), f_o_now, f_o_ring, f_o_then))
      else
        if x3 = (1 : Int32) then
          some (x4, f_o_now, f_o_ring, f_o_then)
        else
          (f_X10_risingNow F v_o_cards f_o_now).bind fun b1 =>
          some (b1, f_o_now, f_o_ring, f_o_then)
    else
      jgi x5 16 (
      jgi x5 16 (
      if (f_o_now x5.toNatClampNeg) = (f_o_st x5.toNatClampNeg) then
        g_X10_dealing_136 F x1 x2 x3 v_o_cards f_o_st n (x4 + (1 : Int32)) (x5 + (1 : Int32)) f_o_now f_o_ring f_o_then
      else
        g_X10_dealing_136 F x1 x2 x3 v_o_cards f_o_st n (x4 + (0 : Int32)) (x5 + (1 : Int32)) f_o_now f_o_ring f_o_then))
def g_X10_dealing_39 (F : Nat) (x1 : Int32) (x2 : Int32) (x3 : Int32) (v_o_cards : Int32) (f_o_st : Nat → Int32) : Nat → Int32 → (Nat → Int32) → (Nat → Int32) → (Nat → Int32) → Option (Int32 × (Nat → Int32) × (Nat → Int32) × (Nat → Int32))
  | 0, _, _, _, _ => none
  | n + 1, x4, f_o_now, f_o_ring, f_o_then =>
    if x2 ≤ x4 then
      g_X10_dealing_136 F x1 x2 x3 v_o_cards f_o_st F (0 : Int32) (0 : Int32) f_o_now f_o_ring f_o_then
    else
      jge (65521 : Int64) (
      jge (2 : Int64) (
      jgd (7 : Int32) (
      if (5 : Int32) ≤ (jrem ((((jreml (((((7919 : Int64) * x1.toInt64) + ((6151 : Int64) * x4.toInt64)) + (1 : Int64)) * ((((7919 : Int64) * x1.toInt64) + ((6151 : Int64) * x4.toInt64)) + (1 : Int64))) (65521 : Int64)) / (2 : Int64))).toInt32) (7 : Int32)) then
        if (jrem ((((jreml (((((7919 : Int64) * x1.toInt64) + ((6151 : Int64) * x4.toInt64)) + (1 : Int64)) * ((((7919 : Int64) * x1.toInt64) + ((6151 : Int64) * x4.toInt64)) + (1 : Int64))) (65521 : Int64)) / (2 : Int64))).toInt32) (7 : Int32)) = (5 : Int32) then
          jgd (8 : Int32) (
          jgd v_o_cards (
          (f_X10_acts F ((6 : Int32) + (jrem ((((jreml (((((7919 : Int64) * x1.toInt64) + ((6151 : Int64) * x4.toInt64)) + (1 : Int64)) * ((((7919 : Int64) * x1.toInt64) + ((6151 : Int64) * x4.toInt64)) + (1 : Int64))) (65521 : Int64)) / (2 : Int64))).toInt32 / (8 : Int32)) v_o_cards)) v_o_cards f_o_now f_o_ring f_o_then).bind fun b2 =>
          g_X10_dealing_39 F x1 x2 x3 v_o_cards f_o_st n (x4 + (1 : Int32)) b2.1 b2.2.1 b2.2.2))
        else
          (f_X10_acts F (5 : Int32) v_o_cards f_o_now f_o_ring f_o_then).bind fun b1 =>
          g_X10_dealing_39 F x1 x2 x3 v_o_cards f_o_st n (x4 + (1 : Int32)) b1.1 b1.2.1 b1.2.2
      else
        (f_X10_acts F (jrem ((((jreml (((((7919 : Int64) * x1.toInt64) + ((6151 : Int64) * x4.toInt64)) + (1 : Int64)) * ((((7919 : Int64) * x1.toInt64) + ((6151 : Int64) * x4.toInt64)) + (1 : Int64))) (65521 : Int64)) / (2 : Int64))).toInt32) (7 : Int32)) v_o_cards f_o_now f_o_ring f_o_then).bind fun b3 =>
        g_X10_dealing_39 F x1 x2 x3 v_o_cards f_o_st n (x4 + (1 : Int32)) b3.1 b3.2.1 b3.2.2)))
def f_X10_dealing (F : Nat) (x1 : Int32) (x2 : Int32) (x3 : Int32) (v_o_cards : Int32) (f_o_st : Nat → Int32) (f_o_now : Nat → Int32) (f_o_ring : Nat → Int32) (f_o_then : Nat → Int32) : Option (Int32 × (Nat → Int32) × (Nat → Int32) × (Nat → Int32)) :=
  (f_X10_in F x1 (0 : Int32) (9999 : Int32)).bind fun b1 =>
  if b1 = (0 : Int32) then
    some ((-1 : Int32), f_o_now, f_o_ring, f_o_then)
  else
    (f_X10_in F x2 (1 : Int32) (60 : Int32)).bind fun b2 =>
    if b2 = (0 : Int32) then
      some ((-1 : Int32), f_o_now, f_o_ring, f_o_then)
    else
      (f_X10_in F x3 (0 : Int32) (2 : Int32)).bind fun b3 =>
      if b3 = (0 : Int32) then
        some ((-1 : Int32), f_o_now, f_o_ring, f_o_then)
      else
        (f_X10_asItIs F f_o_st f_o_now).bind fun b4 =>
        g_X10_dealing_39 F x1 x2 x3 v_o_cards f_o_st F (0 : Int32) b4 f_o_ring f_o_then
def f_X10_keep (F : Nat) (f_o_st : Nat → Int32) (v_o_keeps : Int32) (f_o_kept : Nat → Int32) : Option (Int32 × Int32 × (Nat → Int32)) :=
  if v_o_keeps = (2 : Int32) then
    some ((-3 : Int32), v_o_keeps, f_o_kept)
  else
    (f_X10_copies F 32 16 ((16 : Int32) * v_o_keeps) (0 : Int32) (16 : Int32) f_o_st f_o_kept).bind fun b1 =>
    some ((v_o_keeps + (1 : Int32)), (v_o_keeps + (1 : Int32)), b1)
def f_X10_back (F : Nat) (f_o_kept : Nat → Int32) (v_o_acts : Int32) (v_o_keeps : Int32) (f_o_st : Nat → Int32) : Option (Int32 × Int32 × Int32 × (Nat → Int32)) :=
  if v_o_keeps = (0 : Int32) then
    some ((-2 : Int32), v_o_acts, v_o_keeps, f_o_st)
  else
    (f_X10_copies F 16 32 (0 : Int32) ((16 : Int32) * (v_o_keeps - (1 : Int32))) (16 : Int32) f_o_kept f_o_st).bind fun b1 =>
    some ((v_o_keeps - (1 : Int32)), (0 : Int32), (v_o_keeps - (1 : Int32)), b1)
def f_X10_count (F : Nat) (x1 : Int32) (v_o_cards : Int32) (v_o_dealMany : Int32) (v_o_acts : Int32) (v_o_keeps : Int32) (v_o_seens : Int32) (v_o_texted : Int32) : Option (Int32) :=
  if x1 = (0 : Int32) then
    some (v_o_cards)
  else if x1 = (1 : Int32) then
    some (v_o_dealMany)
  else if x1 = (2 : Int32) then
    some (v_o_seens)
  else if x1 = (3 : Int32) then
    some (v_o_acts)
  else if x1 = (4 : Int32) then
    some (v_o_keeps)
  else if x1 = (5 : Int32) then
    some (v_o_texted)
  else
    some ((-1 : Int32))
