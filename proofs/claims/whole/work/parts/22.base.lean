/-! numbers of the pure texts -/
theorem z_0 : (0 : Int32) = nI 0 := rfl
theorem z_1 : (1 : Int32) = nI 1 := rfl
theorem z_2 : (2 : Int32) = nI 2 := rfl
theorem z_3 : (3 : Int32) = nI 3 := rfl
theorem z_4 : (4 : Int32) = nI 4 := rfl
theorem z_5 : (5 : Int32) = nI 5 := rfl
theorem z_6 : (6 : Int32) = nI 6 := rfl
theorem z_7 : (7 : Int32) = nI 7 := rfl
theorem z_8 : (8 : Int32) = nI 8 := rfl
theorem z_10 : (10 : Int32) = nI 10 := rfl
theorem z_15 : (15 : Int32) = nI 15 := rfl
theorem z_16 : (16 : Int32) = nI 16 := rfl
theorem z_17 : (17 : Int32) = nI 17 := rfl
theorem z_32 : (32 : Int32) = nI 32 := rfl
theorem z_44 : (44 : Int32) = nI 44 := rfl
theorem z_48 : (48 : Int32) = nI 48 := rfl
theorem z_57 : (57 : Int32) = nI 57 := rfl
theorem z_59 : (59 : Int32) = nI 59 := rfl
theorem z_60 : (60 : Int32) = nI 60 := rfl
theorem z_64 : (64 : Int32) = nI 64 := rfl
theorem z_99 : (99 : Int32) = nI 99 := rfl
theorem z_108 : (108 : Int32) = nI 108 := rfl
theorem z_110 : (110 : Int32) = nI 110 := rfl
theorem z_112 : (112 : Int32) = nI 112 := rfl
theorem z_120 : (120 : Int32) = nI 120 := rfl
theorem z_126 : (126 : Int32) = nI 126 := rfl
theorem z_127 : (127 : Int32) = nI 127 := rfl
theorem z_200 : (200 : Int32) = nI 200 := rfl
theorem z_511 : (511 : Int32) = nI 511 := rfl
theorem z_9999 : (9999 : Int32) = nI 9999 := rfl
theorem z_1145324612 : (1145324612 : Int32) = nI 1145324612 := rfl
theorem jgi_n {α : Type} {k N : Nat} (h : k < N) (hN : N < 2 ^ 31) (a : Option α) : jgi (nI k) N a = a := by unfold jgi; rw [if_neg (nI_in h hN)]
theorem jgd_n {α : Type} {y : Int32} (h : ¬ y = 0) (a : Option α) : jgd y a = a := if_neg h
theorem jge_n {α : Type} {y : Int64} (h : ¬ y = 0) (a : Option α) : jge y a = a := if_neg h
theorem jgd_2 {α : Type} (a : Option α) : jgd (2 : Int32) a = a := jgd_n (by decide) a
theorem jgd_7 {α : Type} (a : Option α) : jgd (7 : Int32) a = a := jgd_n (by decide) a
theorem jgd_8 {α : Type} (a : Option α) : jgd (8 : Int32) a = a := jgd_n (by decide) a
theorem jgd_16 {α : Type} (a : Option α) : jgd (16 : Int32) a = a := jgd_n (by decide) a
theorem jge_6 {α : Type} (a : Option α) : jge (65521 : Int64) a = a := jge_n (by decide) a
theorem jge_2 {α : Type} (a : Option α) : jge (2 : Int64) a = a := jge_n (by decide) a
theorem jgd_k {α : Type} {k : Nat} (h : 0 < k) (hk : k < 2 ^ 31) (a : Option α) : jgd (nI k) a = a := jgd_n (nI_ne0 h hk) a
theorem jgz_0 {α : Type} (a : Option α) : jgz (0 : Int32) a = a := if_pos (Or.inl rfl)
theorem jgz_1 {α : Type} (a : Option α) : jgz (1 : Int32) a = a := if_pos (Or.inr rfl)
theorem jrem_n {a d : Nat} (ha : a < 2 ^ 31) (h0 : 0 < d) (hd : d < 2 ^ 31) : jrem (nI a) (nI d) = nI (a % d) := pk_rem ha h0 hd
theorem some_bind' {α β : Type} (a : α) (f : α → Option β) : (some a).bind f = f a := rfl
/-- a loop up to e, its state a function of its number -/
theorem for_up {σ ρ : Type} (G : Nat → Nat → σ → Option ρ) (e : Nat) (I : Nat → σ) (r : Option ρ) (hs : ∀ f k, k < e → G (f + 1) k (I k) = G f (k + 1) (I (k + 1))) (hx : ∀ f, G (f + 1) e (I e) = r) : ∀ (f k : Nat), k ≤ e → e - k < f → G f k (I k) = r
  | 0, k, _, h => absurd h (Nat.not_lt_zero _)
  | f + 1, k, hk, h => by
    rcases Nat.lt_or_ge k e with q | q
    · rw [hs f k q]
      exact for_up G e I r hs hx f (k + 1) q (by omega)
    · have : k = e := by omega
      subst this
      exact hx f
/-- the same with a relation -/
theorem for_upR {σ ρ : Type} (G : Nat → Nat → σ → Option ρ) (e : Nat) (I : Nat → σ → Prop) (Q : Option ρ → Prop) (hs : ∀ f k s, k < e → I k s → (∃ s', I (k + 1) s' ∧ G (f + 1) k s = G f (k + 1) s') ∨ Q (G (f + 1) k s)) (hx : ∀ f s, I e s → Q (G (f + 1) e s)) : ∀ (f k : Nat) (s : σ), k ≤ e → e - k < f → I k s → Q (G f k s)
  | 0, k, _, _, h, _ => absurd h (Nat.not_lt_zero _)
  | f + 1, k, s, hk, h, hi => by
    rcases Nat.lt_or_ge k e with q | q
    · rcases hs f k s q hi with ⟨s', h1, h2⟩ | h3
      · rw [h2]
        exact for_upR G e I Q hs hx f (k + 1) s' q (by omega) h1
      · exact h3
    · have : k = e := by omega
      subst this
      exact hx f s hi
/-! fields of four bits -/
theorem p16 (k : Nat) : (16 : Nat) ^ k = 2 ^ (4 * k) := by rw [Nat.pow_mul]
theorem p16_lt {k : Nat} (h : k < 16) : (16 : Nat) ^ k < 2 ^ 64 := by rw [p16]; exact Nat.pow_lt_pow_right (by decide) (by omega)
theorem x_cardAt {N k : Nat} (hN : N < 2 ^ 64) (hk : k < 16) : f_X4_cardAt Fu (lN N) (nI k) = some (nI (N / 16 ^ k % 16)) := by
  unfold f_X4_cardAt jlushr
  rw [z_4, pk_mul, wb_shr hN (by omega), lN_i, show (15 : Int32) = nI (2 ^ 4 - 1) from rfl, fa_mask, p16]
theorem x_with {N k v : Nat} (hv : v < 16) (hk : k < 16) : f_X4_with Fu (lN N) (nI k) (nI v) = some (lN (N ||| v * 16 ^ k)) := by
  unfold f_X4_with jlshl
  rw [z_4, pk_mul, nI_l (by omega), wb_shl v (by omega), fb_orL, p16]
theorem fld_or (N v k i : Nat) (hv : v < 16) : (N ||| v * 16 ^ k) / 16 ^ i % 16 = if i = k then (N / 16 ^ i % 16) ||| v else N / 16 ^ i % 16 := by
  have e : (16 : Nat) = 2 ^ 4 := rfl
  apply Nat.eq_of_testBit_eq
  intro j
  rw [p16, p16]
  by_cases h : i = k
  · subst h
    rw [if_pos rfl, Nat.testBit_or, e, Nat.testBit_mod_two_pow, Nat.testBit_mod_two_pow, Nat.testBit_div_two_pow, Nat.testBit_div_two_pow, Nat.testBit_or, Nat.testBit_mul_two_pow]
    by_cases hj : j < 4
    · simp [hj]
    · have hv2 : v.testBit j = false := Nat.testBit_lt_two_pow (Nat.lt_of_lt_of_le hv (by rw [e]; exact Nat.pow_le_pow_right (by decide) (by omega)))
      simp [hj, hv2]
  · rw [if_neg h, e, Nat.testBit_mod_two_pow, Nat.testBit_mod_two_pow, Nat.testBit_div_two_pow, Nat.testBit_div_two_pow, Nat.testBit_or, Nat.testBit_mul_two_pow]
    by_cases hj : j < 4
    · have hf : (decide (4 * k ≤ 4 * i + j) && v.testBit (4 * i + j - 4 * k)) = false := by
        by_cases hk : 4 * k ≤ 4 * i + j
        · have hv2 : v.testBit (4 * i + j - 4 * k) = false := Nat.testBit_lt_two_pow (Nat.lt_of_lt_of_le hv (by rw [e]; exact Nat.pow_le_pow_right (by decide) (by omega)))
          rw [hv2, Bool.and_false]
        · rw [decide_eq_false hk, Bool.false_and]
      rw [Nat.add_comm j] at *
      simp [hf]
    · simp [hj]
theorem or_add {N k v : Nat} (hN : N < 16 ^ k) : N ||| v * 16 ^ k = N + v * 16 ^ k := by
  rw [p16] at *
  rw [Nat.or_comm, Nat.mul_comm v, ← Nat.two_pow_add_eq_or_of_lt hN, Nat.add_comm]
theorem pko_lt (n : Nat) (o : Nat → Nat) (h : ∀ k, k < n → o k < 16) : pk n o < 16 ^ n := by
  induction n with
  | zero => exact Nat.one_pos
  | succ n ih =>
    have h1 := ih (fun k hk => h k (by omega))
    have h2 := h n (by omega)
    have h3 : o n * 16 ^ n ≤ 15 * 16 ^ n := Nat.mul_le_mul_right _ (by omega)
    show pk n o + o n * 16 ^ n < 16 ^ n * 16
    omega
theorem pk_64 {n : Nat} {o : Nat → Nat} (hn : n ≤ 16) (h : ∀ k, k < n → o k < 16) : pk n o < 2 ^ 64 :=
  Nat.lt_of_lt_of_le (pko_lt n o h) (by rw [p16]; exact Nat.pow_le_pow_right (by decide) (by omega))
theorem pk_fld (n : Nat) (o : Nat → Nat) (h : ∀ k, k < n → o k < 16) (i : Nat) : pk n o / 16 ^ i % 16 = if i < n then o i else 0 := by
  induction n with
  | zero => show 0 / 16 ^ i % 16 = _; simp
  | succ n ih =>
    have h1 := pko_lt n o (fun k hk => h k (by omega))
    show (pk n o + o n * 16 ^ n) / 16 ^ i % 16 = _
    rw [← or_add h1, fld_or _ _ _ _ (h n (by omega)), ih (fun k hk => h k (by omega))]
    by_cases e : i = n
    · subst e
      simp
    · rw [if_neg e]
      by_cases q : i < n
      · rw [if_pos q, if_pos (by omega)]
      · rw [if_neg q, if_neg (by omega)]
theorem pk_congr {n : Nat} {o o' : Nat → Nat} (h : ∀ k, k < n → o k = o' k) : pk n o = pk n o' := by
  induction n with
  | zero => rfl
  | succ n ih =>
    show pk n o + o n * 16 ^ n = pk n o' + o' n * 16 ^ n
    rw [ih (fun k hk => h k (by omega)), h n (by omega)]
theorem pk_inj {n : Nat} {o o' : Nat → Nat} (h : ∀ k, k < n → o k < 16) (h' : ∀ k, k < n → o' k < 16) (e : pk n o = pk n o') : ∀ k, k < n → o k = o' k := by
  intro k hk
  have h1 := pk_fld n o h k
  rw [e, pk_fld n o' h' k, if_pos hk, if_pos hk] at h1
  exact h1.symm
theorem x_at {n k : Nat} {o : Nat → Nat} (hn : n ≤ 16) (h : ∀ k, k < n → o k < 16) (hk : k < n) : f_X4_cardAt Fu (lN (pk n o)) (nI k) = some (nI (o k)) := by
  rw [x_cardAt (pk_64 hn h) (by omega), pk_fld n o h k, if_pos hk]
theorem x_put {k v : Nat} {o : Nat → Nat} (hk : k < 16) (h : ∀ j, j < k → o j < 16) (hv : v < 16) (e : o k = v) : f_X4_with Fu (lN (pk k o)) (nI k) (nI v) = some (lN (pk (k + 1) o)) := by
  rw [x_with hv hk, or_add (pko_lt k o h), ← e]
  rfl
theorem perm.lt {n : Nat} {o : Nat → Nat} (hn : n ≤ 16) (h : perm n o) : ∀ k, k < n → o k < 16 := fun k hk => Nat.lt_of_lt_of_le (h.1 k hk) hn
