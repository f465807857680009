/-! reading the text -/
def letters (T : Nat) (L : Nat → Nat) (lt text : Nat → Int32) : Prop := ∀ k, k < T → 32 ≤ L k ∧ L k ≤ 126 ∧ lt k = nI (L k) ∧ text k = nI (L k)
theorem jRt.l {len : Int32} {lt : Nat → Int32} {texted : Int32} {text : Nat → Int32} (h : jRt len lt texted text) : ∃ T L, T ≤ 200 ∧ len = nI T ∧ texted = nI T ∧ letters T L lt text := by
  obtain ⟨T, hT, e1, e2, hl⟩ := h
  have : ∀ k, ∃ c, k < T → 32 ≤ c ∧ c ≤ 126 ∧ lt k = nI c ∧ text k = nI c := fun k => by
    by_cases q : k < T
    · obtain ⟨c, a⟩ := hl k q
      exact ⟨c, fun _ => a⟩
    · exact ⟨0, fun w => absurd w q⟩
  exact ⟨T, fun k => Classical.choose (this k), hT, e1, e2, fun k hk => Classical.choose_spec (this k) hk⟩
def ch (T : Nat) (L : Nat → Nat) (p : Nat) : Nat := if p < T then L p else 0
def isD (c : Nat) : Bool := decide (48 ≤ c ∧ c ≤ 57)
def np (T : Nat) (L : Nat → Nat) (s p : Nat) : Option (Nat × Nat) :=
  if isD (ch T L p) then
    if isD (ch T L (p + 1)) then (if ch T L (p + 2) = s then some (10 * (ch T L p - 48) + (ch T L (p + 1) - 48), p + 3) else none)
    else if ch T L (p + 1) = s then some (ch T L p - 48, p + 2) else none
  else none
theorem ch_le {T : Nat} {L : Nat → Nat} {lt text : Nat → Int32} (hl : letters T L lt text) (p : Nat) : ch T L p ≤ 126 := by
  unfold ch
  split
  · exact (hl p (by assumption)).2.1
  · omega
theorem ch_in {T : Nat} {L : Nat → Nat} {p : Nat} (h : ¬ ch T L p = 0) : p < T := by
  unfold ch at h
  by_cases q : p < T
  · exact q
  · rw [if_neg q] at h
    exact absurd rfl h
theorem x_next {T p : Nat} {L : Nat → Nat} {lt text : Nat → Int32} (hT : T ≤ 200) (hl : letters T L lt text) (hp : p ≤ T) : f_X8_nextLetter Fu (nI T) lt (nI p) = some (nI (ch T L p), nI (if p < T then p + 1 else p)) := by
  unfold f_X8_nextLetter ch
  rw [if_neg (nI_pos (by omega))]
  by_cases q : p < T
  · rw [if_neg (nI_ge q (by omega)), z_200, if_pos (nI_lt (by omega) (by omega)), jgi_n (by omega) (by omega), nI_clamp (by omega), (hl p q).2.2.1, nI_1, if_pos q, if_pos q]
  · rw [if_pos (nI_le (by omega) (by omega)), if_neg q, if_neg q]
    rfl
theorem x_fig {c : Nat} (hc : c ≤ 126) : f_X8_figureOf Fu (nI c) = some (if isD c then nI (c - 48) else -1) := by
  unfold f_X8_figureOf isD
  by_cases q : c < 48
  · rw [z_48, if_pos (nI_lt q (by omega)), decide_eq_false (by omega)]
    rfl
  · rw [z_48, if_neg (nI_nlt (by omega) (by omega))]
    by_cases w : 57 < c
    · rw [z_57, if_pos (nI_lt w (by omega)), decide_eq_false (by omega)]
      rfl
    · rw [z_57, if_neg (nI_nlt (by omega) (by omega)), decide_eq_true (by omega), if_pos rfl, pk_sub (by omega)]
theorem isD_in {c : Nat} (h : isD c = true) : 48 ≤ c ∧ c ≤ 57 := of_decide_eq_true h
theorem neg1 : ¬ (0 : Int32) ≤ -1 := by decide
theorem neg1l : (-1 : Int32) < 0 := by decide
theorem x_num {T p s : Nat} {L : Nat → Nat} {lt text : Nat → Int32} (hT : T ≤ 200) (hl : letters T L lt text) (hp : p ≤ T) (hs : s = 44 ∨ s = 59) : (∃ N p', np T L s p = some (N, p') ∧ N ≤ 99 ∧ p < p' ∧ p' ≤ T ∧ f_X8_readNumber Fu (nI s) (nI T) lt (nI p) = some (nI N, nI p')) ∨ (np T L s p = none ∧ ∃ q, q ≤ T ∧ f_X8_readNumber Fu (nI s) (nI T) lt (nI p) = some (-1, nI q)) := by
  have s0 : 0 < s ∧ s < 127 := by omega
  have c0 := ch_le hl p
  have c1 := ch_le hl (p + 1)
  have c2 := ch_le hl (p + 2)
  unfold f_X8_readNumber np
  rw [x_next hT hl hp, some_bind', x_fig c0, some_bind']
  cases d0 : isD (ch T L p) with
  | false =>
    rw [if_neg Bool.false_ne_true, if_neg Bool.false_ne_true, if_neg neg1]
    exact Or.inr ⟨rfl, _, (by split <;> omega), rfl⟩
  | true =>
    have i0 := isD_in d0
    have p0 : p < T := ch_in (L := L) (by omega)
    rw [if_pos rfl, if_pos rfl, if_pos (nI_pos' (by omega)), if_pos p0, x_next hT hl p0, some_bind', x_fig c1, some_bind']
    cases d1 : isD (ch T L (p + 1)) with
    | false =>
      rw [if_neg Bool.false_ne_true, if_neg Bool.false_ne_true, if_pos neg1l]
      by_cases q : ch T L (p + 1) = s
      · have p1 : p + 1 < T := ch_in (L := L) (by omega)
        rw [if_pos q, if_pos (by rw [q]), if_pos p1]
        exact Or.inl ⟨_, _, rfl, by omega, by omega, by omega, rfl⟩
      · rw [if_neg q, if_neg (fun z => q ((nI_eq (by omega) (by omega)).mp z))]
        exact Or.inr ⟨rfl, _, (by split <;> omega), rfl⟩
    | true =>
      have i1 := isD_in d1
      have p1 : p + 1 < T := ch_in (L := L) (by omega)
      rw [if_pos rfl, if_pos rfl, if_neg (nI_pos (by omega)), if_pos p1, some_bind', x_next hT hl p1, some_bind']
      by_cases q : ch T L (p + 2) = s
      · have p2 : p + 2 < T := ch_in (L := L) (by omega)
        rw [if_pos q, if_pos (by show nI (ch T L (p + 2)) = nI s; rw [q])]
        refine Or.inl ⟨_, _, rfl, by omega, by omega, by omega, ?_⟩
        show some ((10 : Int32) * nI (ch T L p - 48) + nI (ch T L (p + 1) - 48), nI (if p + 1 + 1 < T then p + 1 + 1 + 1 else p + 1 + 1)) = _
        rw [z_10, pk_mul, nI_add, if_pos p2]
      · rw [if_neg q, if_neg (show ¬ nI (ch T L (p + 2)) = nI s from fun z => q ((nI_eq (by omega) (by omega)).mp z))]
        exact Or.inr ⟨rfl, _, (by split <;> omega), rfl⟩
theorem m_letter {T p : Nat} {L : Nat → Nat} {lt text : Nat → Int32} (hT : T ≤ 200) (hl : letters T L lt text) (hp : p < 1000) : f_X10_letterAt Fu (nI p) (nI T) text = some (if p < T then nI (L p) else -1) := by
  unfold f_X10_letterAt
  by_cases q : p < T
  · rw [if_neg (nI_ge q (by omega)), jgi_n (by omega) (by omega), nI_clamp (by omega), (hl p q).2.2.2, if_pos q]
  · rw [if_pos (nI_le (by omega) (by omega)), if_neg q]
theorem win {N lo hi : Nat} (hN : N < 2 ^ 31) (hl : lo < 2 ^ 31) (hh : hi < 2 ^ 31) : f_X9_within Fu (nI N) (nI lo) (nI hi) = some (if lo ≤ N ∧ N ≤ hi then 1 else 0) ∧ f_X10_in Fu (nI N) (nI lo) (nI hi) = some (if lo ≤ N ∧ N ≤ hi then 1 else 0) := by
  unfold f_X9_within f_X10_in
  by_cases q : N < lo
  · rw [if_pos (nI_lt q hl), if_neg (by omega)]
    exact ⟨rfl, rfl⟩
  · rw [if_neg (nI_nlt (by omega) hN)]
    by_cases w : hi < N
    · rw [if_pos (nI_lt w hN), if_neg (by omega)]
      exact ⟨rfl, rfl⟩
    · rw [if_neg (nI_nlt (by omega) hh), if_pos (by omega)]
      exact ⟨rfl, rfl⟩
theorem win_neg {lo : Nat} (hl : lo < 2 ^ 31) (y : Int32) : f_X9_within Fu (-1) (nI lo) y = some 0 := by
  unfold f_X9_within
  rw [if_pos (by rw [fa_lt, nI_toInt hl]; show (-1 : Int) < lo; omega)]
theorem m_fig {T p : Nat} {L : Nat → Nat} {lt text : Nat → Int32} (hl : letters T L lt text) : f_X10_isFigure Fu (if p < T then nI (L p) else -1) = some (if isD (ch T L p) then 1 else 0) := by
  unfold f_X10_isFigure ch isD
  by_cases q : p < T
  · have c := hl p q
    rw [if_pos q, if_pos q, z_48, z_57, (win (by omega) (by omega) (by omega)).2, some_bind']
    by_cases w : 48 ≤ L p ∧ L p ≤ 57
    · rw [if_pos w, decide_eq_true w]
      rfl
    · rw [if_neg w, decide_eq_false w]
      rfl
  · rw [if_neg q, if_neg q]
    rfl
theorem m_num {T p s i c : Nat} {L : Nat → Nat} {lt text : Nat → Int32} (hT : T ≤ 200) (hl : letters T L lt text) (hp : p ≤ T) (hc : c ≤ 2) (hi : i < c) (hs : s = if i + 1 = c then 59 else 44) (told : Nat → Int32) (f : Nat) : (∃ N p' told', np T L s p = some (N, p') ∧ told' i = nI N ∧ (∀ j, j ≠ i → told' j = told j) ∧ g_X10_readNumbers_2 Fu (nI c) (nI T) text (f + 1) (nI i) (nI p) told = g_X10_readNumbers_2 Fu (nI c) (nI T) text f (nI (i + 1)) (nI p') told') ∨ (np T L s p = none ∧ ∃ w t, g_X10_readNumbers_2 Fu (nI c) (nI T) text (f + 1) (nI i) (nI p) told = some (0, w, t)) := by
  have c0 := ch_le hl p
  have c1 := ch_le hl (p + 1)
  have c2 := ch_le hl (p + 2)
  have tail : ∀ (q : Nat) (t : Nat → Int32), q < 900 → g_X10_readNumbers_101 Fu (nI c) (nI T) text (fun qx2 qv_o_at qf_o_told => g_X10_readNumbers_2 Fu (nI c) (nI T) text f qx2 qv_o_at qf_o_told) (nI i) (nI q) t = if ch T L q = s then g_X10_readNumbers_2 Fu (nI c) (nI T) text f (nI (i + 1)) (nI (q + 1)) t else some (0, nI q, t) := by
    intro q t hq
    have cq := ch_le hl q
    unfold g_X10_readNumbers_101
    rw [m_letter hT hl (by omega), some_bind', show nI c - (1 : Int32) = nI (c - 1) from by rw [z_1, pk_sub (by omega)], nI_1, nI_1]
    have e : ∀ v : Nat, 0 < v → v < 127 → ((if q < T then nI (L q) else -1) = nI v ↔ ch T L q = v) := by
      intro v v0 v1
      unfold ch
      by_cases w : q < T
      · have := hl q w
        rw [if_pos w, if_pos w, nI_eq (by omega) (by omega)]
      · rw [if_neg w, if_neg w]
        constructor
        · intro z
          rw [fa_eq, nI_toInt (by omega)] at z
          have : (-1 : Int32).toInt = -1 := by decide
          omega
        · intro z
          omega
    by_cases w : i + 1 = c
    · rw [if_pos w] at hs
      subst hs
      rw [if_pos (nI_le (by omega) (by omega)), z_59]
      by_cases v : ch T L q = 59
      · rw [if_pos ((e 59 (by omega) (by omega)).mpr v), if_pos v]
      · rw [if_neg (fun z => v ((e 59 (by omega) (by omega)).mp z)), if_neg v]
    · rw [if_neg w] at hs
      subst hs
      rw [if_neg (nI_ge (by omega) (by omega)), z_44]
      by_cases v : ch T L q = 44
      · rw [if_pos ((e 44 (by omega) (by omega)).mpr v), if_pos v]
      · rw [if_neg (fun z => v ((e 44 (by omega) (by omega)).mp z)), if_neg v]
  rw [g_X10_readNumbers_2, if_neg (nI_ge hi (by omega)), m_letter hT hl (by omega), some_bind', m_fig hl, some_bind']
  unfold np
  cases d0 : isD (ch T L p) with
  | false =>
    rw [if_neg Bool.false_ne_true, if_neg Bool.false_ne_true, if_pos rfl]
    exact Or.inr ⟨rfl, _, _, rfl⟩
  | true =>
    have i0 := isD_in d0
    have p0 : p < T := ch_in (L := L) (by omega)
    have e0 : ch T L p = L p := if_pos p0
    rw [if_pos rfl, if_pos rfl, if_neg not10, some_bind', if_pos p0, jgi_n (by omega) (by omega), nI_1, m_letter hT hl (by omega), some_bind', m_fig hl, some_bind', z_48, pk_sub (by omega), nI_clamp (by omega), nI_1]
    cases d1 : isD (ch T L (p + 1)) with
    | false =>
      rw [if_neg Bool.false_ne_true, if_neg Bool.false_ne_true, if_pos rfl, tail _ _ (by omega)]
      by_cases q : ch T L (p + 1) = s
      · rw [if_pos q, if_pos q]
        exact Or.inl ⟨_, _, _, rfl, by rw [pk_us, e0], fun j hj => pk_un hj, rfl⟩
      · rw [if_neg q, if_neg q]
        exact Or.inr ⟨rfl, _, _, rfl⟩
    | true =>
      have i1 := isD_in d1
      have p1 : p + 1 < T := ch_in (L := L) (by omega)
      have e1 : ch T L (p + 1) = L (p + 1) := if_pos p1
      rw [if_pos rfl, if_pos rfl, if_neg not10, jgi_n (by omega) (by omega), some_bind', jgi_n (by omega) (by omega), tail _ _ (by omega)]
      by_cases q : ch T L (p + 2) = s
      · rw [if_pos q, if_pos q]
        refine Or.inl ⟨_, _, _, rfl, ?_, fun j hj => by rw [pk_un hj, pk_un hj], rfl⟩
        rw [pk_us, pk_us, if_pos p1, z_10, pk_mul, nI_add, pk_sub (by omega), e0, e1]
        congr 1
        omega
      · rw [if_neg q, if_neg q]
        exact Or.inr ⟨rfl, _, _, rfl⟩
theorem m_num1 {T p : Nat} {L : Nat → Nat} {lt text : Nat → Int32} (hT : T ≤ 200) (hl : letters T L lt text) (hp : p ≤ T) (told : Nat → Int32) : (∃ N p' told', np T L 59 p = some (N, p') ∧ told' 0 = nI N ∧ f_X10_readNumbers Fu (1 : Int32) (nI T) text (nI p) told = some (1, nI p', told')) ∨ (np T L 59 p = none ∧ ∃ w t, f_X10_readNumbers Fu (1 : Int32) (nI T) text (nI p) told = some (0, w, t)) := by
  unfold f_X10_readNumbers
  show (∃ N p' told', np T L 59 p = some (N, p') ∧ told' 0 = nI N ∧ g_X10_readNumbers_2 Fu (nI 1) (nI T) text (999999 + 1) (nI 0) (nI p) told = some (1, nI p', told')) ∨ _
  rcases m_num (s := 59) (i := 0) (c := 1) hT hl hp (by omega) (by omega) rfl told 999999 with ⟨N, p', told', a, b, _, d⟩ | ⟨a, w, t, b⟩
  · refine Or.inl ⟨N, p', told', a, b, ?_⟩
    rw [d, show (999999 : Nat) = 999998 + 1 from rfl, g_X10_readNumbers_2, if_pos (nI_le (Nat.le_refl 1) (by omega))]
  · exact Or.inr ⟨a, w, t, b⟩
theorem np_le {T s p N p' : Nat} {L : Nat → Nat} {lt text : Nat → Int32} (hT : T ≤ 200) (hl : letters T L lt text) (hp : p ≤ T) (hs : s = 44 ∨ s = 59) (h : np T L s p = some (N, p')) : N ≤ 99 ∧ p < p' ∧ p' ≤ T := by
  rcases x_num hT hl hp hs with ⟨N2, p2, a, b, c, d, _⟩ | ⟨a, _⟩
  · rw [a] at h
    cases h
    exact ⟨b, c, d⟩
  · rw [a] at h
    cases h
theorem m_num2 {T p : Nat} {L : Nat → Nat} {lt text : Nat → Int32} (hT : T ≤ 200) (hl : letters T L lt text) (hp : p ≤ T) (told : Nat → Int32) : (∃ A p1 B p2 told', np T L 44 p = some (A, p1) ∧ np T L 59 p1 = some (B, p2) ∧ told' 0 = nI A ∧ told' 1 = nI B ∧ f_X10_readNumbers Fu (2 : Int32) (nI T) text (nI p) told = some (1, nI p2, told')) ∨ ((np T L 44 p = none ∨ ∃ A p1, np T L 44 p = some (A, p1) ∧ np T L 59 p1 = none) ∧ ∃ w t, f_X10_readNumbers Fu (2 : Int32) (nI T) text (nI p) told = some (0, w, t)) := by
  unfold f_X10_readNumbers
  show (∃ A p1 B p2 told', np T L 44 p = some (A, p1) ∧ np T L 59 p1 = some (B, p2) ∧ told' 0 = nI A ∧ told' 1 = nI B ∧ g_X10_readNumbers_2 Fu (nI 2) (nI T) text (999999 + 1) (nI 0) (nI p) told = some (1, nI p2, told')) ∨ _
  rcases m_num (s := 44) (i := 0) (c := 2) hT hl hp (by omega) (by omega) rfl told 999999 with ⟨A, p1, told1, a, b, _, d⟩ | ⟨a, w, t, b⟩
  · have hp1 := np_le hT hl hp (Or.inl rfl) a
    rcases m_num (s := 59) (i := 1) (c := 2) hT hl hp1.2.2 (by omega) (by omega) rfl told1 999998 with ⟨B, p2, told2, a2, b2, b3, d2⟩ | ⟨a2, w, t, b2⟩
    · refine Or.inl ⟨A, p1, B, p2, told2, a, a2, ?_, b2, ?_⟩
      · rw [b3 0 (by omega), b]
      · rw [d, show (999999 : Nat) = 999998 + 1 from rfl, d2, show (999998 : Nat) = 999997 + 1 from rfl, g_X10_readNumbers_2, if_pos (nI_le (Nat.le_refl 2) (by omega))]
    · refine Or.inr ⟨Or.inr ⟨A, p1, a, a2⟩, w, t, ?_⟩
      show g_X10_readNumbers_2 Fu (nI 2) (nI T) text (999999 + 1) (nI 0) (nI p) told = _
      rw [d, show (999999 : Nat) = 999998 + 1 from rfl, b2]
  · exact Or.inr ⟨Or.inl a, w, t, b⟩
