/-! items of the text -/
def jDr (n : Nat) (cards colours acts : Int32) (deal : Int64) (fx begun rc rd : Int32) (rcol rdeal : Nat → Int32) : Prop := 2 ≤ n ∧ n ≤ 16 ∧ cards = nI n ∧ rc = nI n ∧ jRc colours rcol ∧ jRd n acts deal rd rdeal ∧ ((fx = 0 ∧ begun = 0 ∧ colours = 1145324612 ∧ acts = 0) ∨ (fx = 1 ∧ begun = 1))
def itemOk (X : Option (Int32 × Int32 × Int32 × Int32 × Int32 × Int64 × Int32)) (M : Option (Int32 × Int32 × Int32 × Int32 × Int32 × (Nat → Int32) × (Nat → Int32) × (Nat → Int32))) (T p : Nat) : Prop := (∃ u v, X = some u ∧ M = some v ∧ u.1 = 0 ∧ v.1 = 0) ∨ (∃ u v p' n', X = some u ∧ M = some v ∧ u.1 = 1 ∧ v.1 = 1 ∧ u.2.1 = nI p' ∧ v.2.1 = nI p' ∧ p < p' ∧ p' ≤ T ∧ jDr n' u.2.2.1 u.2.2.2.1 u.2.2.2.2.1 u.2.2.2.2.2.1 u.2.2.2.2.2.2 v.2.2.1 v.2.2.2.1 v.2.2.2.2.1 v.2.2.2.2.2.1 v.2.2.2.2.2.2.1)
theorem dmv_cg {n : Nat} {d d' : Nat → Nat} : ∀ (q : Nat), (∀ k, k < q → d k = d' k) → ∀ k, dmv n d q k = dmv n d' q k
  | 0, _, _ => rfl
  | q + 1, h, k => by
    show dmv n d q (mv n (d q) k) = dmv n d' q (mv n (d' q) k)
    rw [h q (by omega)]
    exact dmv_cg q (fun k hk => h k (by omega)) _
theorem jRd_add {n q a : Nat} {d : Nat → Nat} {deal : Nat → Int32} (hq : q < 16) (ha : a < 6 + n) (hd : ∀ k, k < q → d k < 6 + n ∧ deal k = nI (d k)) : jRd n (nI (q + 1)) (lN (pk n (fun k => dmv n d q (mv n a k)))) (nI (q + 1)) (upd deal q (nI a)) := by
  refine ⟨q + 1, fun k => if k < q then d k else a, by omega, rfl, rfl, fun k hk => ?_, ?_⟩
  · dsimp only
    by_cases w : k < q
    · rw [if_pos w, pk_un (by omega)]
      exact hd k w
    · have : k = q := by omega
      subst this
      rw [if_neg w, pk_us]
      exact ⟨ha, rfl⟩
  · congr 1
    refine pk_congr fun k _ => ?_
    show _ = dmv n (fun k => if k < q then d k else a) q (mv n (if q < q then d q else a) k)
    rw [if_neg (by omega)]
    exact dmv_cg q (fun k hk => by rw [if_pos hk]) _
theorem x_addAct {n q a : Nat} {d : Nat → Nat} (h2 : 2 ≤ n) (hn : n ≤ 16) (ha : a < 6 + n) (hd : ∀ k, k < q → d k < 6 + n) (hq : q ≤ 16) (fx : Int32) : f_X5_addAct Fu (lN (pk n (mv n a))) (nI n) (nI q) (lN (pk n (dmv n d q))) fx = some (if q < 16 then (1, nI (q + 1), lN (pk n (fun k => dmv n d q (mv n a k))), 1) else (0, nI q, lN (pk n (dmv n d q)), fx)) := by
  unfold f_X5_addAct
  by_cases w : q < 16
  · rw [z_16, if_pos (nI_lt w (by omega)), x_moved hn (dmv_perm h2 hn q hd) (mv_perm h2 hn ha), some_bind', nI_1, if_pos w]
  · rw [z_16, if_neg (nI_nlt (by omega) (by omega)), if_neg w]
theorem m_dealOf {T p q base hi : Nat} {L : Nat → Nat} {lt text : Nat → Int32} (hT : T ≤ 200) (hl : letters T L lt text) (hp : p ≤ T) (hq : q ≤ 16) (hh : hi < 100) (rdeal told : Nat → Int32) : (q < 16 ∧ ∃ N p' told', np T L 59 p = some (N, p') ∧ N ≤ hi ∧ f_X10_readDealOf Fu (nI base) (nI hi) (nI T) text (nI p) (nI q) rdeal told = some (1, nI p', nI (q + 1), upd rdeal q (nI (base + N)), told')) ∨ ((q = 16 ∨ np T L 59 p = none ∨ ∃ N p', np T L 59 p = some (N, p') ∧ hi < N) ∧ ∃ w, f_X10_readDealOf Fu (nI base) (nI hi) (nI T) text (nI p) (nI q) rdeal told = some w ∧ w.1 = 0) := by
  unfold f_X10_readDealOf
  by_cases e : q = 16
  · subst e
    rw [if_pos (show nI 16 = (16 : Int32) from rfl)]
    exact Or.inr ⟨Or.inl rfl, _, rfl, rfl⟩
  · rw [if_neg (show ¬ nI q = (16 : Int32) from fun z => e ((nI_eq (b := 16) (by omega) (by omega)).mp z))]
    rcases m_num1 hT hl hp told with ⟨N, p', told', a, b, c⟩ | ⟨a, w, t, c⟩
    · have hN := np_le hT hl hp (Or.inr rfl) a
      rw [c, some_bind', if_neg (show ¬ (1 : Int32) = 0 by decide)]
      unfold f_X10_isTold
      rw [show (0 : Int32) = nI 0 from rfl, jgi_n (by omega) (by omega), nI_clamp (by omega)]
      show (_ ∧ ∃ N p' told'', _ ∧ _ ∧ ((f_X10_in Fu (told' 0) (nI 0) (nI hi)).bind fun b1 => jgz b1 (some b1)).bind _ = _) ∨ (_ ∧ ∃ w, ((f_X10_in Fu (told' 0) (nI 0) (nI hi)).bind fun b1 => jgz b1 (some b1)).bind _ = _ ∧ _)
      rw [b, (win (by omega) (by omega) (by omega)).2, some_bind']
      by_cases w : N ≤ hi
      · rw [if_pos (by omega), jgz_1, some_bind', if_neg (show ¬ (1 : Int32) = nI 0 by decide), jgi_n (by omega) (by omega), jgi_n (by omega) (by omega)]
        refine Or.inl ⟨by omega, N, p', told', a, w, ?_⟩
        show some ((1 : Int32), nI p', nI q + 1, upd rdeal (nI q).toNatClampNeg (nI base + told' 0), told') = _
        rw [b, nI_1, nI_add, nI_clamp (by omega)]
      · rw [if_neg (by omega), jgz_0, some_bind', if_pos (show (0 : Int32) = nI 0 from rfl)]
        exact Or.inr ⟨Or.inr (Or.inr ⟨N, p', a, by omega⟩), _, rfl, rfl⟩
    · rw [c, some_bind', if_pos rfl]
      exact Or.inr ⟨Or.inr (Or.inl a), _, rfl, rfl⟩
theorem kind_neg : f_X9_isKind Fu (-1) = some 0 := by
  unfold f_X9_isKind
  rw [show (0 : Int32) = nI 0 from rfl, win_neg (by omega), some_bind']
  rfl
theorem kind_n {N : Nat} (hN : N < 2 ^ 31) : f_X9_isKind Fu (nI N) = some (if N ≤ 4 then 1 else 0) := by
  unfold f_X9_isKind
  rw [show (0 : Int32) = nI 0 from rfl, show (4 : Int32) = nI 4 from rfl, (win hN (by omega) (by omega)).1, some_bind']
  by_cases w : N ≤ 4
  · rw [if_pos (by omega), if_pos w, jgz_1]
  · rw [if_neg (by omega), if_neg w, jgz_0]
    rfl
theorem x_start {T p : Nat} {L : Nat → Nat} {lt text : Nat → Int32} (hT : T ≤ 200) (hl : letters T L lt text) (hp : p < T) : f_X8_nextLetter Fu (nI T) lt (nI p) = some (nI (L p), nI (p + 1)) := by
  rw [x_next hT hl (by omega), if_pos hp]
  unfold ch
  rw [if_pos hp]
theorem lne {a b : Nat} (ha : a < 200) (hb : b < 200) (h : a ≠ b) : ¬ nI a = nI b := fun z => h ((nI_eq (by omega) (by omega)).mp z)
theorem s_lace {T p n : Nat} {L : Nat → Nat} {lt text : Nat → Int32} {cards colours acts fx begun rc rd : Int32} {deal : Int64} {rcol rdeal : Nat → Int32} (hT : T ≤ 200) (hl : letters T L lt text) (hp : p < T) (hD : jDr n cards colours acts deal fx begun rc rd rcol rdeal) (told : Nat → Int32) (hc : L p = 108) : itemOk (f_X8_readItem Fu (nI T) lt (nI p) cards colours acts deal fx) (f_X10_readItem Fu (nI T) text (nI p) begun rc rd rcol rdeal told) T p := by
  obtain ⟨h2, hn, rfl, rfl, hcol, ⟨q, d, hq, rfl, rfl, hd, rfl⟩, hf⟩ := hD
  unfold f_X8_readItem f_X10_readItem
  rw [x_start hT hl hp, some_bind', m_letter hT hl (by omega), some_bind', if_pos hp, hc, nI_1]
  rw [if_neg (show ¬ nI 108 = (99 : Int32) by decide), if_neg (show ¬ nI 108 = (110 : Int32) by decide), if_neg (show ¬ nI 108 = (99 : Int32) by decide), if_pos (show nI 108 = (108 : Int32) from rfl)]
  simp only [if_pos (show nI 108 = (108 : Int32) from rfl)]
  have hx := x_num (s := 59) hT hl (show p + 1 ≤ T by omega) (Or.inr rfl)
  rcases m_dealOf (base := 0) (hi := 4) hT hl (show p + 1 ≤ T by omega) hq (by omega) rdeal told with ⟨hq16, N, p', told', a, b, c⟩ | ⟨hno, w, c, w0⟩
  · have hN := np_le hT hl (show p + 1 ≤ T by omega) (Or.inr rfl) a
    rcases hx with ⟨N2, p2, a2, _, _, _, e⟩ | ⟨a2, _⟩
    · rw [a] at a2
      cases a2
      rw [show f_X8_readNumber Fu (59 : Int32) (nI T) lt (nI (p + 1)) = some (nI N, nI p') from e, some_bind']
      unfold f_X5_tellLacing
      rw [kind_n (by omega), some_bind', if_pos b, if_neg (show ¬ (1 : Int32) = 0 by decide), t_lac n (by omega) h2 N (by omega), some_bind', x_addAct h2 hn (by omega) (fun k hk => (hd k hk).1) hq, some_bind', if_pos hq16, if_neg (show ¬ (1 : Int32) = 0 by decide), some_bind', jgz_1]
      rw [show f_X10_readDealOf Fu (0 : Int32) (4 : Int32) (nI T) text (nI (p + 1)) (nI q) rdeal told = _ from c, some_bind', jgz_1]
      refine Or.inr ⟨_, _, p', n, rfl, rfl, rfl, rfl, rfl, rfl, by omega, by omega, h2, hn, rfl, rfl, hcol, ?_, Or.inr ⟨rfl, rfl⟩⟩
      have := jRd_add (a := 0 + N) hq16 (by omega) hd
      rw [Nat.zero_add] at this
      show jRd n (nI (q + 1)) (lN (pk n fun k => dmv n d q (mv n N k))) (nI (q + 1)) (upd rdeal q (nI (0 + N)))
      rw [Nat.zero_add]
      exact this
    · rw [a] at a2
      cases a2
  · rw [show f_X10_readDealOf Fu (0 : Int32) (4 : Int32) (nI T) text (nI (p + 1)) (nI q) rdeal told = _ from c, some_bind', w0, jgz_0]
    have : ∃ u, ((f_X8_readNumber Fu (59 : Int32) (nI T) lt (nI (p + 1))).bind fun b2 => (f_X5_tellLacing Fu b2.1 (nI n) (nI q) (lN (pk n (dmv n d q))) fx).bind fun b3 => jgz b3.1 (some (b3.1, b2.2, nI n, colours, b3.2.1, b3.2.2.1, b3.2.2.2))) = some u ∧ u.1 = 0 := by
      rcases hx with ⟨N2, p2, a2, n99, _, _, e⟩ | ⟨a2, p2, _, e⟩
      · rw [show f_X8_readNumber Fu (59 : Int32) (nI T) lt (nI (p + 1)) = some (nI N2, nI p2) from e, some_bind']
        unfold f_X5_tellLacing
        rw [kind_n (by omega), some_bind']
        by_cases k4 : N2 ≤ 4
        · rw [if_pos k4, if_neg (show ¬ (1 : Int32) = 0 by decide), t_lac n (by omega) h2 N2 (by omega), some_bind', x_addAct h2 hn (by omega) (fun k hk => (hd k hk).1) hq, some_bind']
          rcases hno with z | z | ⟨N, p', z, z2⟩
          · rw [if_neg (show ¬ q < 16 by omega), if_pos rfl, some_bind', jgz_0]
            exact ⟨_, rfl, rfl⟩
          · rw [a2] at z
            cases z
          · rw [a2] at z
            cases z
            omega
        · rw [if_neg k4, if_pos rfl, some_bind', jgz_0]
          exact ⟨_, rfl, rfl⟩
      · rw [show f_X8_readNumber Fu (59 : Int32) (nI T) lt (nI (p + 1)) = some (-1, nI p2) from e, some_bind']
        unfold f_X5_tellLacing
        rw [kind_neg, some_bind', if_pos rfl, some_bind', jgz_0]
        exact ⟨_, rfl, rfl⟩
    obtain ⟨u, u1, u2⟩ := this
    exact Or.inl ⟨u, _, u1, rfl, u2, rfl⟩
theorem s_cut {T p n : Nat} {L : Nat → Nat} {lt text : Nat → Int32} {cards colours acts fx begun rc rd : Int32} {deal : Int64} {rcol rdeal : Nat → Int32} (hT : T ≤ 200) (hl : letters T L lt text) (hp : p < T) (hD : jDr n cards colours acts deal fx begun rc rd rcol rdeal) (told : Nat → Int32) (hc : L p = 120) : itemOk (f_X8_readItem Fu (nI T) lt (nI p) cards colours acts deal fx) (f_X10_readItem Fu (nI T) text (nI p) begun rc rd rcol rdeal told) T p := by
  obtain ⟨h2, hn, rfl, rfl, hcol, ⟨q, d, hq, rfl, rfl, hd, rfl⟩, hf⟩ := hD
  unfold f_X8_readItem f_X10_readItem
  have en : nI n - (1 : Int32) = nI (n - 1) := by rw [z_1, pk_sub (by omega)]
  rw [x_start hT hl hp, some_bind', m_letter hT hl (by omega), some_bind', if_pos hp, hc, nI_1]
  rw [if_neg (show ¬ nI 120 = (99 : Int32) by decide), if_neg (show ¬ nI 120 = (110 : Int32) by decide), if_neg (show ¬ nI 120 = (99 : Int32) by decide), if_neg (show ¬ nI 120 = (108 : Int32) by decide), if_pos (show nI 120 = (120 : Int32) from rfl)]
  simp only [if_neg (show ¬ nI 120 = (108 : Int32) by decide), if_neg (show ¬ nI 120 = (110 : Int32) by decide), if_pos (show nI 120 = (120 : Int32) from rfl)]
  have hx := x_num (s := 59) hT hl (show p + 1 ≤ T by omega) (Or.inr rfl)
  rw [en]
  rcases m_dealOf (base := 6) (hi := n - 1) hT hl (show p + 1 ≤ T by omega) hq (by omega) rdeal told with ⟨hq16, N, p', told', a, b, c⟩ | ⟨hno, w, c, w0⟩
  · have hN := np_le hT hl (show p + 1 ≤ T by omega) (Or.inr rfl) a
    rcases hx with ⟨N2, p2, a2, _, _, _, e⟩ | ⟨a2, _⟩
    · rw [a] at a2
      cases a2
      rw [show f_X8_readNumber Fu (59 : Int32) (nI T) lt (nI (p + 1)) = some (nI N, nI p') from e, some_bind']
      unfold f_X5_tellCut
      rw [en, show (0 : Int32) = nI 0 from rfl, (win (show N < 2 ^ 31 by omega) (show 0 < 2 ^ 31 by omega) (show n - 1 < 2 ^ 31 by omega)).1, some_bind', if_pos (show 0 ≤ N ∧ N ≤ n - 1 by omega), if_neg (show ¬ (1 : Int32) = nI 0 by decide), t_cut n (by omega) h2 N (by omega), some_bind', x_addAct h2 hn (by omega) (fun k hk => (hd k hk).1) hq, some_bind', if_pos hq16, if_neg (show ¬ (1 : Int32) = nI 0 by decide), some_bind', jgz_1]
      rw [show f_X10_readDealOf Fu (6 : Int32) (nI (n - 1)) (nI T) text (nI (p + 1)) (nI q) rdeal told = _ from c, some_bind', jgz_1]
      exact Or.inr ⟨_, _, p', n, rfl, rfl, rfl, rfl, rfl, rfl, by omega, by omega, h2, hn, rfl, rfl, hcol, jRd_add (a := 6 + N) hq16 (by omega) hd, Or.inr ⟨rfl, rfl⟩⟩
    · rw [a] at a2
      cases a2
  · rw [show f_X10_readDealOf Fu (6 : Int32) (nI (n - 1)) (nI T) text (nI (p + 1)) (nI q) rdeal told = _ from c, some_bind', w0, jgz_0]
    have : ∃ u, ((f_X8_readNumber Fu (59 : Int32) (nI T) lt (nI (p + 1))).bind fun b2 => (f_X5_tellCut Fu b2.1 (nI n) (nI q) (lN (pk n (dmv n d q))) fx).bind fun b5 => jgz b5.1 (some (b5.1, b2.2, nI n, colours, b5.2.1, b5.2.2.1, b5.2.2.2))) = some u ∧ u.1 = 0 := by
      rcases hx with ⟨N2, p2, a2, n99, _, _, e⟩ | ⟨a2, p2, _, e⟩
      · rw [show f_X8_readNumber Fu (59 : Int32) (nI T) lt (nI (p + 1)) = some (nI N2, nI p2) from e, some_bind']
        unfold f_X5_tellCut
        rw [en, show (0 : Int32) = nI 0 from rfl, (win (show N2 < 2 ^ 31 by omega) (show 0 < 2 ^ 31 by omega) (show n - 1 < 2 ^ 31 by omega)).1, some_bind']
        by_cases k4 : N2 ≤ n - 1
        · rw [if_pos (show 0 ≤ N2 ∧ N2 ≤ n - 1 by omega), if_neg (show ¬ (1 : Int32) = nI 0 by decide), t_cut n (by omega) h2 N2 (by omega), some_bind', x_addAct h2 hn (by omega) (fun k hk => (hd k hk).1) hq, some_bind']
          rcases hno with z | z | ⟨N, p', z, z2⟩
          · rw [if_neg (show ¬ q < 16 by omega), if_pos (show (0 : Int32) = nI 0 from rfl), some_bind']
            exact ⟨_, jgz_0 _, rfl⟩
          · rw [a2] at z
            cases z
          · rw [a2] at z
            cases z
            omega
        · rw [if_neg (show ¬ (0 ≤ N2 ∧ N2 ≤ n - 1) by omega), if_pos (show (0 : Int32) = nI 0 from rfl), some_bind']
          exact ⟨_, jgz_0 _, rfl⟩
      · rw [show f_X8_readNumber Fu (59 : Int32) (nI T) lt (nI (p + 1)) = some (-1, nI p2) from e, some_bind']
        unfold f_X5_tellCut
        rw [show (0 : Int32) = nI 0 from rfl, win_neg (by omega), some_bind', if_pos (show (0 : Int32) = nI 0 from rfl), some_bind']
        exact ⟨_, jgz_0 _, rfl⟩
    obtain ⟨u, u1, u2⟩ := this
    exact Or.inl ⟨u, _, u1, rfl, u2, rfl⟩
