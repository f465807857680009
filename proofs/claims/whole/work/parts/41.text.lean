/-! items of colours and cards, and the whole text -/
theorem tellC_bad {y1 y2 l fx : Int32} {n : Nat} (h2 : 2 ≤ n) (hn : n ≤ 16) (h : (y1 = -1 ∨ ∃ A, A ≤ 99 ∧ y1 = nI A) ∧ (y2 = -1 ∨ ∃ B, B ≤ 99 ∧ y2 = nI B)) : (∃ A B, A < n ∧ B ≤ 3 ∧ y1 = nI A ∧ y2 = nI B ∧ f_X5_tellColour Fu y1 y2 (nI n) l fx = some (1, (l &&& ((jshl (3 : Int32) ((2 : Int32) * nI A)) ^^^ (-1 : Int32))) ||| (jshl (nI B) ((2 : Int32) * nI A)), 1)) ∨ ((y1 = -1 ∨ y2 = -1 ∨ (∃ A, A ≤ 99 ∧ y1 = nI A ∧ n ≤ A) ∨ (∃ B, B ≤ 99 ∧ y2 = nI B ∧ 3 < B)) ∧ f_X5_tellColour Fu y1 y2 (nI n) l fx = some (0, l, fx)) := by
  have en : nI n - (1 : Int32) = nI (n - 1) := by rw [z_1, pk_sub (by omega)]
  unfold f_X5_tellColour
  rw [en]
  rcases h.1 with rfl | ⟨A, hA, rfl⟩
  · rw [show (0 : Int32) = nI 0 from rfl, win_neg (by omega), some_bind', if_pos (show (0 : Int32) = nI 0 from rfl)]
    exact Or.inr ⟨Or.inl rfl, rfl⟩
  · by_cases q : A < n
    · rw [show f_X9_within Fu (nI A) (0 : Int32) (nI (n - 1)) = some 1 from by rw [show (0 : Int32) = nI 0 from rfl, (win (show A < 2 ^ 31 by omega) (show 0 < 2 ^ 31 by omega) (show n - 1 < 2 ^ 31 by omega)).1, if_pos (by omega)], some_bind', if_neg not10]
      rcases h.2 with rfl | ⟨B, hB, rfl⟩
      · rw [show f_X9_within Fu (-1) (0 : Int32) (3 : Int32) = some 0 from win_neg (lo := 0) (by omega) _, some_bind', if_pos rfl]
        exact Or.inr ⟨Or.inr (Or.inl rfl), rfl⟩
      · by_cases w : B ≤ 3
        · rw [show f_X9_within Fu (nI B) (0 : Int32) (3 : Int32) = some 1 from by rw [show (0 : Int32) = nI 0 from rfl, show (3 : Int32) = nI 3 from rfl, (win (show B < 2 ^ 31 by omega) (show 0 < 2 ^ 31 by omega) (show 3 < 2 ^ 31 by omega)).1, if_pos (by omega)], some_bind', if_neg not10]
          exact Or.inl ⟨A, B, q, w, rfl, rfl, rfl⟩
        · rw [show f_X9_within Fu (nI B) (0 : Int32) (3 : Int32) = some 0 from by rw [show (0 : Int32) = nI 0 from rfl, show (3 : Int32) = nI 3 from rfl, (win (show B < 2 ^ 31 by omega) (show 0 < 2 ^ 31 by omega) (show 3 < 2 ^ 31 by omega)).1, if_neg (by omega)]; rfl, some_bind', if_pos rfl]
          exact Or.inr ⟨Or.inr (Or.inr (Or.inr ⟨B, hB, rfl, by omega⟩)), rfl⟩
    · rw [show f_X9_within Fu (nI A) (0 : Int32) (nI (n - 1)) = some 0 from by rw [show (0 : Int32) = nI 0 from rfl, (win (show A < 2 ^ 31 by omega) (show 0 < 2 ^ 31 by omega) (show n - 1 < 2 ^ 31 by omega)).1, if_neg (by omega)]; rfl, some_bind', if_pos rfl]
      exact Or.inr ⟨Or.inr (Or.inr (Or.inl ⟨A, hA, rfl, by omega⟩)), rfl⟩
theorem m_told {i lo hi N : Nat} {told : Nat → Int32} (hi2 : i < 2) (e : told i = nI N) (hN : N < 2 ^ 31) (hl : lo < 2 ^ 31) (hh : hi < 2 ^ 31) : f_X10_isTold Fu (nI i) (nI lo) (nI hi) told = some (if lo ≤ N ∧ N ≤ hi then 1 else 0) := by
  unfold f_X10_isTold
  rw [jgi_n hi2 (by omega), nI_clamp (by omega), e, (win hN hl hh).2, some_bind']
  by_cases q : lo ≤ N ∧ N ≤ hi
  · rw [if_pos q]
    exact jgz_1 _
  · rw [if_neg q]
    exact jgz_0 _
theorem item_bad {X : Option (Int32 × Int32 × Int32 × Int32 × Int32 × Int64 × Int32)} {M : Option (Int32 × Int32 × Int32 × Int32 × Int32 × (Nat → Int32) × (Nat → Int32) × (Nat → Int32))} {T p : Nat} {u} (hx : X = some u) (h0 : u.1 = 0) (hm : ∃ v, M = some v ∧ v.1 = 0) : itemOk X M T p := by
  obtain ⟨v, a, b⟩ := hm
  exact Or.inl ⟨u, v, hx, a, h0, b⟩
theorem s_col {T p n : Nat} {L : Nat → Nat} {lt text : Nat → Int32} {cards colours acts fx begun rc rd : Int32} {deal : Int64} {rcol rdeal : Nat → Int32} (hT : T ≤ 200) (hl : letters T L lt text) (hp : p < T) (hD : jDr n cards colours acts deal fx begun rc rd rcol rdeal) (told : Nat → Int32) (hc : L p = 99) : itemOk (f_X8_readItem Fu (nI T) lt (nI p) cards colours acts deal fx) (f_X10_readItem Fu (nI T) text (nI p) begun rc rd rcol rdeal told) T p := by
  obtain ⟨h2, hn, rfl, rfl, hcol, hd, hf⟩ := hD
  have en : nI n - (1 : Int32) = nI (n - 1) := by rw [z_1, pk_sub (by omega)]
  unfold f_X8_readItem f_X10_readItem
  rw [x_start hT hl hp, some_bind', m_letter hT hl (by omega), some_bind', if_pos hp, hc, nI_1]
  rw [if_pos (show nI 99 = (99 : Int32) from rfl), if_neg (show ¬ nI 99 = (110 : Int32) by decide), if_pos (show nI 99 = (99 : Int32) from rfl)]
  -- the class's two numbers
  have hx : ∃ y1 q1 y2 q2, f_X8_readNumber Fu (44 : Int32) (nI T) lt (nI (p + 1)) = some (y1, q1) ∧ f_X8_readNumber Fu (59 : Int32) (nI T) lt q1 = some (y2, q2) ∧ ((np T L 44 (p + 1) = none ∧ y1 = -1 ∧ (y2 = -1 ∨ ∃ B, B ≤ 99 ∧ y2 = nI B)) ∨ (∃ A p1, np T L 44 (p + 1) = some (A, p1) ∧ p + 1 < p1 ∧ A ≤ 99 ∧ y1 = nI A ∧ ((np T L 59 p1 = none ∧ y2 = -1) ∨ ∃ B p2, np T L 59 p1 = some (B, p2) ∧ p1 < p2 ∧ p2 ≤ T ∧ B ≤ 99 ∧ y2 = nI B ∧ q2 = nI p2))) := by
    rcases x_num (s := 44) hT hl (show p + 1 ≤ T by omega) (Or.inl rfl) with ⟨A, p1, a1, a2, a3, a4, a5⟩ | ⟨a1, q, a2, a3⟩
    · rcases x_num (s := 59) hT hl a4 (Or.inr rfl) with ⟨B, p2, b1, b2, b3, b4, b5⟩ | ⟨b1, q, b2, b3⟩
      · exact ⟨_, _, _, _, a5, b5, Or.inr ⟨A, p1, a1, a3, a2, rfl, Or.inr ⟨B, p2, b1, b3, b4, b2, rfl, rfl⟩⟩⟩
      · exact ⟨_, _, _, _, a5, b3, Or.inr ⟨A, p1, a1, a3, a2, rfl, Or.inl ⟨b1, rfl⟩⟩⟩
    · rcases x_num (s := 59) hT hl a2 (Or.inr rfl) with ⟨B, p2, b1, b2, b3, b4, b5⟩ | ⟨b1, q, b2, b3⟩
      · exact ⟨_, _, _, _, a3, b5, Or.inl ⟨a1, rfl, Or.inr ⟨B, b2, rfl⟩⟩⟩
      · exact ⟨_, _, _, _, a3, b3, Or.inl ⟨a1, rfl, Or.inl rfl⟩⟩
  obtain ⟨y1, q1, y2, q2, x1, x2, x3⟩ := hx
  rw [x1, some_bind', x2, some_bind']
  have hy : (y1 = -1 ∨ ∃ A, A ≤ 99 ∧ y1 = nI A) ∧ (y2 = -1 ∨ ∃ B, B ≤ 99 ∧ y2 = nI B) := by
    rcases x3 with ⟨_, a, b⟩ | ⟨A, p1, _, _, a, b, c⟩
    · exact ⟨Or.inl a, b⟩
    · refine ⟨Or.inr ⟨A, a, b⟩, ?_⟩
      rcases c with ⟨_, c⟩ | ⟨B, p2, _, _, _, c, d, _⟩
      · exact Or.inl c
      · exact Or.inr ⟨B, c, d⟩
  have nm1 : ∀ N, N ≤ 99 → ¬ (-1 : Int32) = nI N := fun N hN z => by
    rw [fa_eq, nI_toInt (by omega)] at z
    have : (-1 : Int32).toInt = -1 := by decide
    omega
  rcases tellC_bad (l := colours) (fx := fx) h2 hn hy with ⟨A, B, hA, hB, rfl, rfl, e⟩ | ⟨hbad, e⟩
  · rcases x3 with ⟨_, a, _⟩ | ⟨A', p1, c1, c2, c3, c4, c5⟩
    · exact absurd a.symm (nm1 A (by omega))
    · have : A = A' := (nI_eq (by omega) (by omega)).mp c4
      subst this
      rcases c5 with ⟨_, c5⟩ | ⟨B', p2, d1, d2, d3, d4, d5, rfl⟩
      · exact absurd c5.symm (nm1 B (by omega))
      · have : B = B' := (nI_eq (by omega) (by omega)).mp d5
        subst this
        rcases m_num2 hT hl (show p + 1 ≤ T by omega) told with ⟨A2, p12, B2, p22, told', f1, f2, f3, f4, f5⟩ | ⟨f1, _⟩
        · rw [c1] at f1
          cases f1
          rw [d1] at f2
          cases f2
          rw [show f_X5_tellColour Fu (nI A, q1).1 (nI B, nI p2).1 (nI n) colours fx = _ from e, some_bind', jgz_1]
          unfold f_X10_readColourOf
          rw [f5, some_bind', if_neg (show ¬ (1 : Int32) = 0 by decide), en]
          rw [show f_X10_isTold Fu (0 : Int32) (0 : Int32) (nI (n - 1)) told' = some 1 from by rw [show (0 : Int32) = nI 0 from rfl, m_told (by omega) f3 (by omega) (by omega) (by omega), if_pos (by omega)], some_bind', if_neg not10]
          rw [show f_X10_isTold Fu (1 : Int32) (0 : Int32) (3 : Int32) told' = some 1 from by rw [show (0 : Int32) = nI 0 from rfl, show (1 : Int32) = nI 1 from rfl, show (3 : Int32) = nI 3 from rfl, m_told (by omega) f4 (by omega) (by omega) (by omega), if_pos (by omega)]; rfl, some_bind', if_neg not10]
          rw [show ∀ a : Option (Int32 × Int32 × (Nat → Int32) × (Nat → Int32)), jgi (0 : Int32) 2 a = a from fun a => jgi_n (k := 0) (by omega) (by omega) a, show ∀ a : Option (Int32 × Int32 × (Nat → Int32) × (Nat → Int32)), jgi (1 : Int32) 2 a = a from fun a => jgi_n (k := 1) (by omega) (by omega) a]
          rw [show (0 : Int32).toNatClampNeg = 0 from rfl, show (1 : Int32).toNatClampNeg = 1 from rfl]
          show itemOk _ ((jgi (told' 0) 16 (some ((1 : Int32), nI p2, upd rcol (told' 0).toNatClampNeg (told' 1), told'))).bind _) T p
          rw [f3, f4, jgi_n (by omega) (by omega), nI_clamp (by omega), some_bind', jgz_1]
          refine Or.inr ⟨_, _, p2, n, rfl, rfl, rfl, rfl, rfl, rfl, by omega, by omega, h2, hn, rfl, rfl, fun c hc => ?_, hd, Or.inr ⟨rfl, rfl⟩⟩
          show ∃ v, v < 4 ∧ jushr ((colours &&& ((jshl (3 : Int32) ((2 : Int32) * nI A)) ^^^ (-1 : Int32))) ||| (jshl (nI B) ((2 : Int32) * nI A))) (2 * nI c) &&& 3 = nI v ∧ upd rcol A (nI B) c = nI v
          rw [col_set (by omega) (by omega) hc]
          by_cases w : c = A
          · subst w
            rw [if_pos rfl, pk_us]
            exact ⟨B, by omega, rfl, rfl⟩
          · rw [if_neg w, pk_un w]
            exact hcol c hc
        · rcases f1 with f1 | ⟨A2, p12, f1, f2⟩
          · rw [c1] at f1
            cases f1
          · rw [c1] at f1
            cases f1
            rw [d1] at f2
            cases f2
  · rw [show f_X5_tellColour Fu (y1, q1).1 (y2, q2).1 (nI n) colours fx = _ from e, some_bind', jgz_0]
    refine item_bad rfl rfl ?_
    unfold f_X10_readColourOf
    rcases m_num2 hT hl (show p + 1 ≤ T by omega) told with ⟨A2, p12, B2, p22, told', f1, f2, f3, f4, f5⟩ | ⟨f1, w, t, f2⟩
    · rcases x3 with ⟨c1, _⟩ | ⟨A', p1, c1, c2, c3, rfl, c5⟩
      · rw [c1] at f1
        cases f1
      · rw [c1] at f1
        cases f1
        rcases c5 with ⟨c5, _⟩ | ⟨B', p2, d1, d2, d3, d4, rfl, rfl⟩
        · rw [c5] at f2
          cases f2
        · rw [d1] at f2
          cases f2
          rw [f5, some_bind', if_neg (show ¬ (1 : Int32) = 0 by decide), en]
          have h0 := m_told (i := 0) (lo := 0) (hi := n - 1) (by omega) f3 (by omega) (by omega) (by omega)
          have h1 := m_told (i := 1) (lo := 0) (hi := 3) (by omega) f4 (by omega) (by omega) (by omega)
          rw [show f_X10_isTold Fu (0 : Int32) (0 : Int32) (nI (n - 1)) told' = _ from h0, some_bind']
          by_cases w1 : A2 < n
          · rw [if_pos (show 0 ≤ A2 ∧ A2 ≤ n - 1 by omega), if_neg not10, show f_X10_isTold Fu (1 : Int32) (0 : Int32) (3 : Int32) told' = _ from h1, some_bind']
            have w2 : 3 < B2 := by
              rcases hbad with z | z | ⟨A3, z1, z2, z3⟩ | ⟨B3, z1, z2, z3⟩
              · exact absurd z.symm (nm1 _ c3)
              · exact absurd z.symm (nm1 _ d4)
              · have := (nI_eq (by omega) (by omega)).mp z2
                omega
              · have := (nI_eq (by omega) (by omega)).mp z2
                omega
            rw [if_neg (show ¬ (0 ≤ B2 ∧ B2 ≤ 3) by omega), if_pos rfl, some_bind', jgz_0]
            exact ⟨_, rfl, rfl⟩
          · rw [if_neg (show ¬ (0 ≤ A2 ∧ A2 ≤ n - 1) by omega), if_pos rfl, some_bind', jgz_0]
            exact ⟨_, rfl, rfl⟩
    · rw [f2, some_bind', if_pos rfl, some_bind', jgz_0]
      exact ⟨_, rfl, rfl⟩
theorem s_cards {T p n : Nat} {L : Nat → Nat} {lt text : Nat → Int32} {cards colours acts fx begun rc rd : Int32} {deal : Int64} {rcol rdeal : Nat → Int32} (hT : T ≤ 200) (hl : letters T L lt text) (hp : p < T) (hD : jDr n cards colours acts deal fx begun rc rd rcol rdeal) (told : Nat → Int32) (hc : L p = 110) : itemOk (f_X8_readItem Fu (nI T) lt (nI p) cards colours acts deal fx) (f_X10_readItem Fu (nI T) text (nI p) begun rc rd rcol rdeal told) T p := by
  obtain ⟨h2, hn, rfl, rfl, hcol, hd, hf⟩ := hD
  unfold f_X8_readItem f_X10_readItem
  rw [x_start hT hl hp, some_bind', m_letter hT hl (by omega), some_bind', if_pos hp, hc, nI_1]
  rw [if_neg (show ¬ nI 110 = (99 : Int32) by decide), if_pos (show nI 110 = (110 : Int32) from rfl)]
  simp only [if_neg (show ¬ nI 110 = (108 : Int32) by decide), if_pos (show nI 110 = (110 : Int32) from rfl)]
  unfold f_X5_tellCards f_X10_readCardsOf
  have hx := x_num (s := 59) hT hl (show p + 1 ≤ T by omega) (Or.inr rfl)
  rcases hf with ⟨rfl, rfl, rfl, hq⟩ | ⟨rfl, rfl⟩
  · simp only [if_true]
    rcases m_num1 hT hl (show p + 1 ≤ T by omega) told with ⟨N, p', told', a, b, c⟩ | ⟨a, w, t, c⟩
    · rcases hx with ⟨N2, p2, a2, x1, x2, x3, e⟩ | ⟨a2, _⟩
      · rw [a] at a2
        cases a2
        rw [show f_X8_readNumber Fu (59 : Int32) (nI T) lt (nI (p + 1)) = some (nI N, nI p') from e, some_bind', c, some_bind', if_neg (show ¬ (1 : Int32) = 0 by decide)]
        have h0 := m_told (i := 0) (lo := 2) (hi := 16) (by omega) b (by omega) (by omega) (by omega)
        rw [show f_X10_isTold Fu (0 : Int32) (2 : Int32) (16 : Int32) told' = _ from h0, some_bind', show f_X9_within Fu (nI N) (2 : Int32) (16 : Int32) = _ from (win (lo := 2) (hi := 16) (show N < 2 ^ 31 by omega) (by omega) (by omega)).1, some_bind']
        by_cases w : 2 ≤ N ∧ N ≤ 16
        · rw [if_pos w, if_neg not10, if_neg not10]
          unfold f_X5_begin g_X10_readCardsOf_31
          rw [t_ord N (by omega), if_neg not10, show ∀ a : Option (Int32 × Int32 × Int32 × (Nat → Int32)), jgi (0 : Int32) 2 a = a from fun a => jgi_n (k := 0) (by omega) (by omega) a]
          rw [show (0 : Int32).toNatClampNeg = 0 from rfl]
          dsimp only
          rw [b, jgz_1]
          obtain ⟨q, d, hq16, rfl, rfl, hdd, _⟩ := hd
          have q0 : q = 0 := (nI_eq (by omega) (by omega)).mp hq
          subst q0
          exact Or.inr ⟨_, _, p', N, rfl, rfl, rfl, rfl, rfl, rfl, by omega, by omega, w.1, w.2, rfl, rfl, hcol, ⟨0, d, by omega, rfl, rfl, fun k hk => absurd hk (by omega), rfl⟩, Or.inl ⟨rfl, rfl, rfl, rfl⟩⟩
        · rw [if_neg w, if_pos rfl, if_pos rfl]
          exact Or.inl ⟨_, _, rfl, rfl, rfl, rfl⟩
      · rw [a] at a2
        cases a2
    · rcases hx with ⟨N2, p2, a2, _⟩ | ⟨_, q, _, e⟩
      · rw [a] at a2
        cases a2
      · rw [show f_X8_readNumber Fu (59 : Int32) (nI T) lt (nI (p + 1)) = some (-1, nI q) from e, some_bind', c, some_bind', if_pos rfl, show f_X9_within Fu (-1) (2 : Int32) (16 : Int32) = some 0 from win_neg (lo := 2) (by omega) _]
        exact Or.inl ⟨_, _, rfl, rfl, rfl, rfl⟩
  · simp only [if_neg not10]
    rcases hx with ⟨N2, p2, a2, _, _, _, e⟩ | ⟨_, q, _, e⟩
    · rw [show f_X8_readNumber Fu (59 : Int32) (nI T) lt (nI (p + 1)) = _ from e]
      exact Or.inl ⟨_, _, rfl, rfl, rfl, rfl⟩
    · rw [show f_X8_readNumber Fu (59 : Int32) (nI T) lt (nI (p + 1)) = _ from e]
      exact Or.inl ⟨_, _, rfl, rfl, rfl, rfl⟩
theorem s_other {T p n : Nat} {L : Nat → Nat} {lt text : Nat → Int32} {cards colours acts fx begun rc rd : Int32} {deal : Int64} {rcol rdeal : Nat → Int32} (hT : T ≤ 200) (hl : letters T L lt text) (hp : p < T) (hD : jDr n cards colours acts deal fx begun rc rd rcol rdeal) (told : Nat → Int32) (h1 : L p ≠ 99) (h2 : L p ≠ 108) (h3 : L p ≠ 110) (h4 : L p ≠ 120) : itemOk (f_X8_readItem Fu (nI T) lt (nI p) cards colours acts deal fx) (f_X10_readItem Fu (nI T) text (nI p) begun rc rd rcol rdeal told) T p := by
  have hb := hl p hp
  have n1 : ¬ nI (L p) = (99 : Int32) := lne (b := 99) (by omega) (by omega) h1
  have n2 : ¬ nI (L p) = (108 : Int32) := lne (b := 108) (by omega) (by omega) h2
  have n3 : ¬ nI (L p) = (110 : Int32) := lne (b := 110) (by omega) (by omega) h3
  have n4 : ¬ nI (L p) = (120 : Int32) := lne (b := 120) (by omega) (by omega) h4
  unfold f_X8_readItem f_X10_readItem
  rw [x_start hT hl hp, some_bind', m_letter hT hl (by omega), some_bind', if_pos hp, nI_1]
  rw [if_neg n1, if_neg n3, if_neg n1, if_neg n2, if_neg n4]
  simp only [if_neg n2, if_neg n3, if_neg n4]
  rcases x_num (s := 59) hT hl (show p + 1 ≤ T by omega) (Or.inr rfl) with ⟨N2, p2, a2, _, _, _, e⟩ | ⟨_, q, _, e⟩
  · rw [show f_X8_readNumber Fu (59 : Int32) (nI T) lt (nI (p + 1)) = _ from e]
    exact Or.inl ⟨_, _, rfl, rfl, rfl, rfl⟩
  · rw [show f_X8_readNumber Fu (59 : Int32) (nI T) lt (nI (p + 1)) = _ from e]
    exact Or.inl ⟨_, _, rfl, rfl, rfl, rfl⟩
theorem s_item {T p n : Nat} {L : Nat → Nat} {lt text : Nat → Int32} {cards colours acts fx begun rc rd : Int32} {deal : Int64} {rcol rdeal : Nat → Int32} (hT : T ≤ 200) (hl : letters T L lt text) (hp : p < T) (hD : jDr n cards colours acts deal fx begun rc rd rcol rdeal) (told : Nat → Int32) : itemOk (f_X8_readItem Fu (nI T) lt (nI p) cards colours acts deal fx) (f_X10_readItem Fu (nI T) text (nI p) begun rc rd rcol rdeal told) T p := by
  by_cases h1 : L p = 99
  · exact s_col hT hl hp hD told h1
  by_cases h2 : L p = 108
  · exact s_lace hT hl hp hD told h2
  by_cases h3 : L p = 110
  · exact s_cards hT hl hp hD told h3
  by_cases h4 : L p = 120
  · exact s_cut hT hl hp hD told h4
  exact s_other hT hl hp hD told h1 h2 h3 h4
def textOk (X : Option (Int32 × Int32 × Int32 × Int32 × Int32 × Int64 × Int32)) (M : Option (Int32 × Int32 × Int32 × Int32 × Int32 × (Nat → Int32) × (Nat → Int32) × (Nat → Int32))) : Prop := ∃ u v, X = some u ∧ M = some v ∧ u.1 = v.1 ∧ (u.1 = -4 → ∃ n', jDr n' u.2.2.1 u.2.2.2.1 u.2.2.2.2.1 u.2.2.2.2.2.1 u.2.2.2.2.2.2 v.2.2.1 v.2.2.2.1 v.2.2.2.2.1 v.2.2.2.2.2.1 v.2.2.2.2.2.2.1)
theorem s_loop {T : Nat} {L : Nat → Nat} {lt text : Nat → Int32} (hT : T ≤ 200) (hl : letters T L lt text) : ∀ (r f g k p n : Nat) (cards colours acts fx begun rc rd : Int32) (deal : Int64) (rcol rdeal told : Nat → Int32), T - p ≤ r → r < f → r < g → k ≤ p → p ≤ T → jDr n cards colours acts deal fx begun rc rd rcol rdeal → textOk (g_X8_firstFault_11 Fu (nI T) lt f (nI k) (nI p) cards colours acts deal fx) (g_X10_fault_9 Fu (nI T) text g (nI p) begun rc rd rcol rdeal told)
  | r, 0, _, _, _, _, _, _, _, _, _, _, _, _, _, _, _, _, hf, _, _, _, _ => absurd hf (Nat.not_lt_zero _)
  | r, _ + 1, 0, _, _, _, _, _, _, _, _, _, _, _, _, _, _, _, _, hg, _, _, _ => absurd hg (Nat.not_lt_zero _)
  | r, f + 1, g + 1, k, p, n, cards, colours, acts, fx, begun, rc, rd, deal, rcol, rdeal, told, hr, hf, hg, hk, hp, hD => by
    rw [g_X8_firstFault_11, g_X10_fault_9]
    by_cases q : p < T
    · rw [z_200, if_neg (nI_ge (by omega) (by omega)), if_neg (nI_ge q (by omega)), if_neg (nI_ge q (by omega))]
      rcases s_item hT hl q hD told with ⟨u, v, e1, e2, e3, e4⟩ | ⟨u, v, p', n', e1, e2, e3, e4, e5, e6, e7, e8, e9⟩
      · rw [e1, some_bind', e2, some_bind', e3, e4, if_pos rfl, if_pos rfl]
        refine ⟨_, _, rfl, rfl, rfl, fun z => ?_⟩
        have z' : nI p = (-4 : Int32) := z
        rw [fa_eq, nI_toInt (by omega)] at z'
        have : (-4 : Int32).toInt = -4 := by decide
        omega
      · rw [e1, some_bind', e2, some_bind', e3, e4, if_neg not10, if_neg not10, e5, e6, nI_1]
        match r, hr with
        | 0, hr => omega
        | r + 1, hr => exact s_loop hT hl r f g (k + 1) p' n' _ _ _ _ _ _ _ _ _ _ _ (by omega) (by omega) (by omega) (by omega) e8 e9
    · have e : p = T := by omega
      subst e
      rw [if_pos (nI_le (Nat.le_refl p) (by omega)), if_pos (nI_le (Nat.le_refl p) (by omega))]
      have : ∀ a : Option (Int32 × Int32 × Int32 × Int32 × Int32 × Int64 × Int32), (if (200 : Int32) ≤ nI k then a else a) = a := fun a => by split <;> rfl
      rw [this]
      exact ⟨_, _, rfl, rfl, rfl, fun _ => ⟨n, hD⟩⟩
theorem s_text {T : Nat} {L : Nat → Nat} {lt text : Nat → Int32} (hT : T ≤ 200) (hl : letters T L lt text) (nx dc dl da : Int32) (dd : Int64) (df at_ be rc rd : Int32) (rcol rdeal told : Nat → Int32) : textOk (f_X8_firstFault Fu (nI T) lt nx dc dl da dd df) (f_X10_fault Fu (nI T) text at_ be rc rd rcol rdeal told) := by
  unfold f_X8_firstFault f_X10_fault f_X5_tellNothing f_X10_clearTold f_X5_begin
  rw [show f_X4_inOrder Fu (8 : Int32) = _ from t_ord 8 (by omega), some_bind', some_bind', some_bind', m_colours, some_bind', some_bind']
  refine s_loop hT hl 200 Fu Fu 0 0 8 _ _ _ _ _ _ _ _ _ _ _ (by omega) (by show 200 < 1000000; omega) (by show 200 < 1000000; omega) (Nat.le_refl _) (Nat.zero_le _) ⟨by omega, by omega, rfl, rfl, fun c hc => ⟨c % 2, by omega, first_col c hc, fa_fill_in (f := fun k => nI (k % 2)) (g := rcol) hc⟩, ⟨0, fun _ => 0, by omega, rfl, rfl, fun k hk => absurd hk (by omega), rfl⟩, Or.inl ⟨rfl, rfl, rfl, rfl⟩⟩
theorem st_fault {v_x_order : Int64} {v_x_text_length : Int32} {v_x_text_next : Int32} {f_x_text_letters : Nat → Int32} {v_x_draft_cards : Int32} {v_x_draft_colours : Int32} {v_x_draft_acts : Int32} {v_x_draft_deal : Int64} {v_x_draft_cardsAreFixed : Int32} {v_x_laid_cards : Int32} {v_x_laid_colours : Int32} {v_x_laid_acts : Int32} {v_x_laid_deal : Int64} {v_x_past_held : Int32} {f_x_past_stored : Nat → Int64} {v_x_kept_held : Int32} {f_x_kept_stored : Nat → Int64} {v_x_sightings_held : Int32} {f_x_sightings_cards : Nat → Int32} {f_x_sightings_places : Nat → Int32} {v_m_cards : Int32} {v_m_dealMany : Int32} {v_m_acts : Int32} {v_m_keeps : Int32} {v_m_seens : Int32} {v_m_texted : Int32} {v_m_at : Int32} {v_m_isBegun : Int32} {v_m_readCards : Int32} {v_m_readDeals : Int32} {f_m_colour : Nat → Int32} {f_m_deal : Nat → Int32} {f_m_st : Nat → Int32} {f_m_was : Nat → Int32} {f_m_kept : Nat → Int32} {f_m_seen : Nat → Int32} {f_m_text : Nat → Int32} {f_m_told : Nat → Int32} {f_m_readColour : Nat → Int32} {f_m_readDeal : Nat → Int32} (h : jR v_x_order v_x_text_length f_x_text_letters v_x_laid_cards v_x_laid_colours v_x_laid_acts v_x_laid_deal v_x_past_held f_x_past_stored v_x_kept_held f_x_kept_stored v_x_sightings_held f_x_sightings_cards f_x_sightings_places v_m_cards f_m_colour v_m_dealMany f_m_deal f_m_st v_m_acts f_m_was v_m_keeps f_m_kept v_m_seens f_m_seen f_m_text v_m_texted) : ∃ u v, f_X9_fault Fu v_x_text_length f_x_text_letters v_x_draft_cards v_x_draft_colours v_x_draft_acts v_x_draft_deal v_x_draft_cardsAreFixed v_x_text_next = some u ∧ f_X10_fault Fu v_m_texted f_m_text v_m_at v_m_isBegun v_m_readCards v_m_readDeals f_m_readColour f_m_readDeal f_m_told = some v ∧ u.1 = v.1 ∧ jR v_x_order v_x_text_length f_x_text_letters v_x_laid_cards v_x_laid_colours v_x_laid_acts v_x_laid_deal v_x_past_held f_x_past_stored v_x_kept_held f_x_kept_stored v_x_sightings_held f_x_sightings_cards f_x_sightings_places v_m_cards f_m_colour v_m_dealMany f_m_deal f_m_st v_m_acts f_m_was v_m_keeps f_m_kept v_m_seens f_m_seen f_m_text v_m_texted := by
  have hh := h
  obtain ⟨n, h2, hn, rfl, rfl, ht, ho, hc, hd, hp, hk, hs⟩ := h
  obtain ⟨T, L, hT, rfl, rfl, hl⟩ := ht.l
  obtain ⟨u, v, e1, e2, e3, _⟩ := s_text hT hl v_x_text_next v_x_draft_cards v_x_draft_colours v_x_draft_acts v_x_draft_deal v_x_draft_cardsAreFixed v_m_at v_m_isBegun v_m_readCards v_m_readDeals f_m_readColour f_m_readDeal f_m_told
  unfold f_X9_fault
  rw [e1, some_bind', e2]
  exact ⟨_, _, rfl, rfl, e3, hh⟩
theorem st_lay {v_x_order : Int64} {v_x_text_length : Int32} {v_x_text_next : Int32} {f_x_text_letters : Nat → Int32} {v_x_draft_cards : Int32} {v_x_draft_colours : Int32} {v_x_draft_acts : Int32} {v_x_draft_deal : Int64} {v_x_draft_cardsAreFixed : Int32} {v_x_laid_cards : Int32} {v_x_laid_colours : Int32} {v_x_laid_acts : Int32} {v_x_laid_deal : Int64} {v_x_laid_cardsAreFixed : Int32} {v_x_past_held : Int32} {f_x_past_stored : Nat → Int64} {v_x_kept_held : Int32} {f_x_kept_stored : Nat → Int64} {v_x_sightings_held : Int32} {f_x_sightings_cards : Nat → Int32} {f_x_sightings_places : Nat → Int32} {v_m_cards : Int32} {v_m_dealMany : Int32} {v_m_acts : Int32} {v_m_keeps : Int32} {v_m_seens : Int32} {v_m_texted : Int32} {v_m_at : Int32} {v_m_isBegun : Int32} {v_m_readCards : Int32} {v_m_readDeals : Int32} {f_m_colour : Nat → Int32} {f_m_deal : Nat → Int32} {f_m_st : Nat → Int32} {f_m_was : Nat → Int32} {f_m_kept : Nat → Int32} {f_m_seen : Nat → Int32} {f_m_text : Nat → Int32} {f_m_told : Nat → Int32} {f_m_readColour : Nat → Int32} {f_m_readDeal : Nat → Int32} (h : jR v_x_order v_x_text_length f_x_text_letters v_x_laid_cards v_x_laid_colours v_x_laid_acts v_x_laid_deal v_x_past_held f_x_past_stored v_x_kept_held f_x_kept_stored v_x_sightings_held f_x_sightings_cards f_x_sightings_places v_m_cards f_m_colour v_m_dealMany f_m_deal f_m_st v_m_acts f_m_was v_m_keeps f_m_kept v_m_seens f_m_seen f_m_text v_m_texted) : ∃ u v, f_X9_lay Fu v_x_text_length f_x_text_letters v_x_order v_x_draft_cards v_x_draft_colours v_x_draft_acts v_x_draft_deal v_x_draft_cardsAreFixed v_x_kept_held v_x_laid_cards v_x_laid_colours v_x_laid_acts v_x_laid_deal v_x_laid_cardsAreFixed v_x_past_held v_x_sightings_held v_x_text_next = some u ∧ f_X10_lay Fu v_m_texted f_m_text v_m_cards v_m_dealMany v_m_acts v_m_keeps v_m_seens v_m_at v_m_isBegun v_m_readCards v_m_readDeals f_m_colour f_m_deal f_m_readColour f_m_readDeal f_m_st f_m_told = some v ∧ u.1 = v.1 ∧ jR u.2.1 v_x_text_length f_x_text_letters u.2.2.2.2.2.2.2.2.1 u.2.2.2.2.2.2.2.2.2.1 u.2.2.2.2.2.2.2.2.2.2.1 u.2.2.2.2.2.2.2.2.2.2.2.1 u.2.2.2.2.2.2.2.2.2.2.2.2.2.1 f_x_past_stored u.2.2.2.2.2.2.2.1 f_x_kept_stored u.2.2.2.2.2.2.2.2.2.2.2.2.2.2.1 f_x_sightings_cards f_x_sightings_places v.2.1 v.2.2.2.2.2.2.2.2.2.2.1 v.2.2.1 v.2.2.2.2.2.2.2.2.2.2.2.1 v.2.2.2.2.2.2.2.2.2.2.2.2.2.2.1 v.2.2.2.1 f_m_was v.2.2.2.2.1 f_m_kept v.2.2.2.2.2.1 f_m_seen f_m_text v_m_texted := by
  have hh := h
  obtain ⟨n, h2, hn, rfl, rfl, ht, ho, hc, hd, hp, hk, hs⟩ := h
  have ht2 := ht
  obtain ⟨T, L, hT, rfl, rfl, hl⟩ := ht.l
  obtain ⟨u, v, e1, e2, e3, e4⟩ := s_text hT hl v_x_text_next v_x_draft_cards v_x_draft_colours v_x_draft_acts v_x_draft_deal v_x_draft_cardsAreFixed v_m_at v_m_isBegun v_m_readCards v_m_readDeals f_m_readColour f_m_readDeal f_m_told
  unfold f_X9_lay f_X10_lay
  by_cases q : T = 0
  · subst q
    rw [if_pos (show nI 0 = (0 : Int32) from rfl), if_pos (show nI 0 = (0 : Int32) from rfl)]
    exact ⟨_, _, rfl, rfl, rfl, hh⟩
  · rw [if_neg (nI_ne0 (by omega) (by omega)), if_neg (nI_ne0 (by omega) (by omega)), e1, some_bind', e2, some_bind']
    by_cases w : u.1 = -4
    · rw [if_pos w, if_pos (e3.symm.trans w)]
      obtain ⟨n', h2', hn', c1, c2, hcol, ⟨q, d, hq, a1, a2, hdd, a3⟩, hf⟩ := e4 w
      unfold f_X5_become f_X10_settles
      rw [m_copies16, some_bind', m_copies16, some_bind', m_lies, some_bind', some_bind']
      have hz : ∀ a : Option (Int32 × Int32 × Int32 × Int64 × Int32), jgz u.2.2.2.2.2.2 a = a := fun a => by
        rcases hf with ⟨z, _⟩ | ⟨z, _⟩
        · rw [z]
          exact jgz_0 a
        · rw [z]
          exact jgz_1 a
      rw [hz, some_bind']
      rw [show f_X4_inOrder Fu (u.2.2.1, u.2.2.2.1, u.2.2.2.2.1, u.2.2.2.2.2.1, u.2.2.2.2.2.2).1 = some (lN (pk n' (fun k => k))) from by
        show f_X4_inOrder Fu u.2.2.1 = _
        rw [c1]
        exact t_ord n' (by omega), some_bind']
      refine ⟨_, _, rfl, rfl, c1.trans c2.symm, n', h2', hn', c1, c2, ht2, jRo_l (perm_id n') (fun k hk => ?_), fun c hc => ?_, ⟨q, d, hq, a1, a2, fun k hk => ?_, a3⟩, ⟨0, by omega, rfl, rfl, fun k hk => absurd hk (by omega)⟩, ⟨0, by omega, rfl, rfl, fun k hk => absurd hk (by omega)⟩, ⟨0, by omega, rfl, rfl, fun k hk => absurd hk (by omega)⟩⟩
      · show fa_fill nI _ 16 k = _
        rw [fa_fill_in hk]
        unfold ex
        split <;> rfl
      · obtain ⟨v', b1, b2, b3⟩ := hcol c hc
        refine ⟨v', b1, b2, ?_⟩
        show cp 0 0 16 v.2.2.2.2.2.1 f_m_colour c = _
        rw [cp16 hc, b3]
      · obtain ⟨b1, b2⟩ := hdd k hk
        refine ⟨b1, ?_⟩
        show cp 0 0 16 v.2.2.2.2.2.2.1 f_m_deal k = _
        rw [cp16 (by omega), b2]
    · rw [if_neg w, if_neg (fun z => w (e3.trans z))]
      exact ⟨_, _, rfl, rfl, rfl, hh⟩
