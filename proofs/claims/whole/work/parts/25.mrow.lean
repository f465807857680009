/-! the reference's rows -/
/-- c numbers of one row, from b on, into another, from a on -/
def cp (a b c : Nat) (src dst : Nat → Int32) : Nat → Int32 := fun k => if a ≤ k ∧ k < a + c then src (b + (k - a)) else dst k
theorem cp_succ (a b c : Nat) (src dst : Nat → Int32) : upd (cp a b c src dst) (a + c) (src (b + c)) = cp a b (c + 1) src dst := by
  funext k
  by_cases h : k = a + c
  · subst h
    rw [pk_us]
    unfold cp
    rw [if_pos (by omega), show b + (a + c - a) = b + c by omega]
  · rw [pk_un h]
    unfold cp
    by_cases q : a ≤ k ∧ k < a + c
    · rw [if_pos q, if_pos (by omega)]
    · rw [if_neg q, if_neg (by omega)]
theorem m_copies {n0 n2 a b c : Nat} (h0 : a + c ≤ n0) (h2 : b + c ≤ n2) (b0 : n0 < 70000) (b2 : n2 < 70000) (src dst : Nat → Int32) : f_X10_copies Fu n0 n2 (nI a) (nI b) (nI c) src dst = some (cp a b c src dst) := by
  have e0 : cp a b 0 src dst = dst := by
    funext k
    unfold cp
    rw [if_neg (by omega)]
  have := for_up (fun f k s => g_X10_copies_3 Fu n0 n2 (nI a) (nI b) (nI c) src f (nI k) s) c (fun k => cp a b k src dst) (some (cp a b c src dst)) (fun f k hk => by
    show g_X10_copies_3 Fu n0 n2 (nI a) (nI b) (nI c) src (f + 1) (nI k) (cp a b k src dst) = _
    rw [g_X10_copies_3, if_neg (nI_ge hk (by omega)), nI_add, nI_add, jgi_n (by omega) (by omega), jgi_n (by omega) (by omega), nI_clamp (by omega), nI_clamp (by omega), z_1, nI_add, cp_succ]) (fun f => by
    show g_X10_copies_3 Fu n0 n2 (nI a) (nI b) (nI c) src (f + 1) (nI c) (cp a b c src dst) = _
    rw [g_X10_copies_3, if_pos (nI_le (Nat.le_refl c) (by omega))]) Fu 0 (Nat.zero_le _) (fu_lt (by omega))
  rw [e0] at this
  exact this
theorem m_lies (f : Nat → Int32) : f_X10_lies Fu 16 f = some (fa_fill nI f 16) := by
  have := for_up (fun g k s => g_X10_lies_2 Fu 16 g (nI k) s) 16 (fun k => fa_fill nI f k) (some (fa_fill nI f 16)) (fun g k hk => by
    show g_X10_lies_2 Fu 16 (g + 1) (nI k) (fa_fill nI f k) = _
    rw [g_X10_lies_2, z_16, if_neg (nI_ge hk (by omega)), jgi_n hk (by omega), nI_clamp (by omega), z_1, nI_add, fa_fill_succ]) (fun g => by
    show g_X10_lies_2 Fu 16 (g + 1) (nI 16) (fa_fill nI f 16) = _
    rw [g_X10_lies_2, z_16, if_pos (nI_le (Nat.le_refl 16) (by omega))]) Fu 0 (Nat.zero_le _) (fu_lt (by omega))
  rw [fa_fill_0] at this
  exact this
theorem m_asItIs (st now : Nat → Int32) : f_X10_asItIs Fu st now = some (cp 0 0 16 st now) := by
  unfold f_X10_asItIs
  rw [z_0, z_16, m_copies (by omega) (by omega) (by omega) (by omega)]
  rfl
theorem cp16 {st now : Nat → Int32} {k : Nat} (h : k < 16) : cp 0 0 16 st now k = st k := by
  unfold cp
  rw [if_pos (by omega)]
  congr 1
  omega
theorem jgd_2n {α : Type} (a : Option α) : jgd (nI 2) a = a := jgd_n (by decide) a
theorem half_n {k : Nat} (h : k < 70000) : nI k / nI 2 = nI (k / 2) := pk_div (by omega) (by decide) (by decide)
theorem m_falls {n : Nat} (hn : n ≤ 16) {x1 x2 x3 : Int32} (src : Nat → Nat) (hs : ∀ k, k < n → src k < 16) (he : ∀ k, k < n → k % 2 = 0 → x1 + nI (k / 2) * x2 = nI (src k)) (ho : ∀ k, k < n → ¬ k % 2 = 0 → x3 + nI (k / 2) = nI (src k)) (now then_ : Nat → Int32) : f_X10_falls Fu x1 x2 x3 (nI n) now then_ = some (fa_fill (fun k => now (src k)) then_ n) := by
  have := for_up (fun f k s => g_X10_falls_3 Fu x1 x2 x3 (nI n) now f (nI k) s) n (fun k => fa_fill (fun k => now (src k)) then_ k) (some (fa_fill (fun k => now (src k)) then_ n)) (fun f k hk => by
    show g_X10_falls_3 Fu x1 x2 x3 (nI n) now (f + 1) (nI k) (fa_fill (fun k => now (src k)) then_ k) = _
    have b := hs k hk
    rw [g_X10_falls_3, if_neg (nI_ge hk (by omega)), jgd_2, jgd_2, z_2, z_0, jrem_n (by omega) (by decide) (by decide), half_n (by omega), z_1, nI_add]
    by_cases q : k % 2 = 0
    · rw [if_pos (by rw [q]), he k hk q, jgi_n b (by omega), jgi_n (by omega) (by omega), nI_clamp (by omega), nI_clamp (by omega), ← fa_fill_succ]
    · rw [if_neg (fun z => q ((nI_eq (by omega) (by omega)).mp z)), jgd_2n, ho k hk q, jgi_n b (by omega), jgi_n (by omega) (by omega), nI_clamp (by omega), nI_clamp (by omega), ← fa_fill_succ]) (fun f => by
    show g_X10_falls_3 Fu x1 x2 x3 (nI n) now (f + 1) (nI n) (fa_fill (fun k => now (src k)) then_ n) = _
    rw [g_X10_falls_3, if_pos (nI_le (Nat.le_refl n) (by omega))]) Fu 0 (Nat.zero_le _) (fu_lt (by omega))
  rw [fa_fill_0] at this
  exact this
theorem m_milks {n : Nat} (h2 : 2 ≤ n) (hn : n ≤ 16) (now then_ : Nat → Int32) : f_X10_milks Fu (nI n) now then_ = some (fa_fill (fun k => now (mv n 2 k)) then_ n) := by
  have := for_up (fun f k s => g_X10_milks_2 Fu (nI n) now f (nI k) s) n (fun k => fa_fill (fun k => now (mv n 2 k)) then_ k) (some (fa_fill (fun k => now (mv n 2 k)) then_ n)) (fun f k hk => by
    show g_X10_milks_2 Fu (nI n) now (f + 1) (nI k) (fa_fill (fun k => now (mv n 2 k)) then_ k) = _
    rw [g_X10_milks_2, if_neg (nI_ge hk (by omega)), jgd_2, jgd_2, z_2, z_0, jrem_n (by omega) (by decide) (by decide), half_n (by omega), z_1, nI_add, pk_sub (by omega), pk_sub (by omega)]
    by_cases q : k % 2 = 0
    · rw [if_pos (by rw [q]), jgi_n (by omega) (by omega), jgi_n (by omega) (by omega), nI_clamp (by omega), nI_clamp (by omega), ← fa_fill_succ]
      simp only [mv, q, if_true, if_false, Nat.reduceEqDiff]
    · rw [if_neg (fun z => q ((nI_eq (by omega) (by omega)).mp z)), jgd_2n, jgi_n (by omega) (by omega), jgi_n (by omega) (by omega), nI_clamp (by omega), nI_clamp (by omega), ← fa_fill_succ]
      simp only [mv, q, if_true, if_false, Nat.reduceEqDiff]) (fun f => by
    show g_X10_milks_2 Fu (nI n) now (f + 1) (nI n) (fa_fill (fun k => now (mv n 2 k)) then_ n) = _
    rw [g_X10_milks_2, if_pos (nI_le (Nat.le_refl n) (by omega))]) Fu 0 (Nat.zero_le _) (fu_lt (by omega))
  rw [fa_fill_0] at this
  exact this
theorem m_cuts {n c : Nat} (h2 : 2 ≤ n) (hn : n ≤ 16) (hc : c < n) (now then_ : Nat → Int32) : f_X10_cuts Fu (nI c) (nI n) now then_ = some (fa_fill (fun k => now ((k + c) % n)) then_ n) := by
  have := for_up (fun f k s => g_X10_cuts_2 Fu (nI c) (nI n) now f (nI k) s) n (fun k => fa_fill (fun k => now ((k + c) % n)) then_ k) (some (fa_fill (fun k => now ((k + c) % n)) then_ n)) (fun f k hk => by
    show g_X10_cuts_2 Fu (nI c) (nI n) now (f + 1) (nI k) (fa_fill (fun k => now ((k + c) % n)) then_ k) = _
    have b : (k + c) % n < n := Nat.mod_lt _ (by omega)
    rw [g_X10_cuts_2, if_neg (nI_ge hk (by omega)), jgd_k (by omega) (by omega), nI_add, jrem_n (by omega) (by omega) (by omega), jgi_n (by omega) (by omega), jgi_n (by omega) (by omega), nI_clamp (by omega), nI_clamp (by omega), z_1, nI_add, ← fa_fill_succ]) (fun f => by
    show g_X10_cuts_2 Fu (nI c) (nI n) now (f + 1) (nI n) (fa_fill (fun k => now ((k + c) % n)) then_ n) = _
    rw [g_X10_cuts_2, if_pos (nI_le (Nat.le_refl n) (by omega))]) Fu 0 (Nat.zero_le _) (fu_lt (by omega))
  rw [fa_fill_0] at this
  exact this
/-- the ring: what stands in its places, told by places of the row -/
theorem m_under {n : Nat} (h2 : 2 ≤ n) (hn : n ≤ 16) (now ring then_ : Nat → Int32) : ∃ r', f_X10_under Fu (nI n) now ring then_ = some (r', fa_fill (fun k => now (rr n 16 (2 * k))) then_ n) := by
  unfold f_X10_under
  rw [z_0, m_copies (by omega) (by omega) (by omega) (by omega), some_bind']
  refine for_upR (fun f k (s : (Nat → Int32) × (Nat → Int32)) => g_X10_under_26 Fu (nI n) now f (nI (2 * k - (if k < n then 0 else 1))) (nI (n + k - (if k < n then 0 else 1))) (nI k) s.1 s.2) n (fun k s => (∀ j, j < n + k - (if k < n then 0 else 1) → s.1 j = now (rr n 16 j)) ∧ s.2 = fa_fill (fun k => now (rr n 16 (2 * k))) then_ k) (fun r => ∃ r', r = some (r', fa_fill (fun k => now (rr n 16 (2 * k))) then_ n)) (fun f k s hk hi => Or.inl ?_) (fun f s hi => ?_) Fu 0 (cp 0 0 n now ring, then_) (Nat.zero_le _) (fu_lt (by omega)) ⟨fun j hj => ?_, ?_⟩ |> fun h => by simpa [show (0 : Nat) < n by omega] using h
  · obtain ⟨r, t⟩ := s
    obtain ⟨h1, h3⟩ := hi
    dsimp only at h1 h3
    subst h3
    rw [if_pos hk] at h1
    have e0 := h1 (2 * k) (by omega)
    by_cases q : k + 1 < n
    · refine ⟨(upd r (n + k) (r (2 * k + 1)), fa_fill (fun k => now (rr n 16 (2 * k))) then_ (k + 1)), ⟨fun j hj => ?_, rfl⟩, ?_⟩
      · rw [if_pos q] at hj
        dsimp only
        by_cases e : j = n + k
        · subst e
          rw [pk_us, h1 _ (by omega), rr_st n (by omega) h2 k (by omega)]
        · rw [pk_un e, h1 j (by omega)]
      · show g_X10_under_26 Fu (nI n) now (f + 1) (nI (2 * k - if k < n then 0 else 1)) (nI (n + k - if k < n then 0 else 1)) (nI k) r _ = _
        rw [if_pos hk, if_pos q]
        show g_X10_under_26 Fu (nI n) now (f + 1) (nI (2 * k)) (nI (n + k)) (nI k) r _ = g_X10_under_26 Fu (nI n) now f (nI (2 * (k + 1))) (nI (n + (k + 1))) (nI (k + 1)) _ _
        have e3 : jgd (32 : Int32) = fun (a : Option ((Nat → Int32) × (Nat → Int32))) => a := by funext a; exact jgd_n (by decide) a
        rw [g_X10_under_26, if_neg (nI_ge hk (by omega)), jgi_n (by omega) (by omega), jgi_n (by omega) (by omega), z_1, nI_add, nI_add, nI_add, nI_add, if_neg (nI_ge (by omega) (by omega)), e3, z_32, jrem_n (by omega) (by decide) (by decide), jrem_n (by omega) (by decide) (by decide), Nat.mod_eq_of_lt (by omega), Nat.mod_eq_of_lt (by omega), jgi_n (by omega) (by omega), jgi_n (by omega) (by omega), nI_clamp (by omega), nI_clamp (by omega), nI_clamp (by omega), nI_clamp (by omega), e0, ← fa_fill_succ]
        rfl
    · refine ⟨(r, fa_fill (fun k => now (rr n 16 (2 * k))) then_ (k + 1)), ⟨fun j hj => ?_, rfl⟩, ?_⟩
      · rw [if_neg q] at hj
        exact h1 j (by omega)
      · show g_X10_under_26 Fu (nI n) now (f + 1) (nI (2 * k - if k < n then 0 else 1)) (nI (n + k - if k < n then 0 else 1)) (nI k) r _ = _
        rw [if_pos hk, if_neg q]
        show g_X10_under_26 Fu (nI n) now (f + 1) (nI (2 * k)) (nI (n + k)) (nI k) r _ = g_X10_under_26 Fu (nI n) now f (nI (2 * (k + 1) - 1)) (nI (n + (k + 1) - 1)) (nI (k + 1)) _ _
        rw [g_X10_under_26, if_neg (nI_ge hk (by omega)), jgi_n (by omega) (by omega), jgi_n (by omega) (by omega), z_1, nI_add, nI_add, if_pos (nI_le (by omega) (by omega)), nI_clamp (by omega), nI_clamp (by omega), e0, ← fa_fill_succ]
        rfl
  · obtain ⟨r, t⟩ := s
    obtain ⟨h1, h3⟩ := hi
    dsimp only at h3
    subst h3
    exact ⟨r, by show g_X10_under_26 Fu (nI n) now (f + 1) _ _ (nI n) r _ = _; rw [g_X10_under_26, if_pos (nI_le (Nat.le_refl n) (by omega))]⟩
  · rw [if_pos (by omega)] at hj
    dsimp only
    rw [rr_0 n (by omega) j (by omega)]
    unfold cp
    rw [if_pos (by omega)]
    congr 1
    omega
  · exact (fa_fill_0 _ _).symm
theorem cp_fill {n : Nat} (g f now : Nat → Int32) : cp 0 0 n (fa_fill g f n) now = fa_fill g now n := by
  funext k
  unfold cp
  by_cases h : k < n
  · rw [if_pos (by omega), fa_fill_in h, show 0 + (k - 0) = k by omega, fa_fill_in h]
  · rw [if_neg (by omega), fa_fill_out (by omega)]
theorem m_end {n : Nat} (hn : n ≤ 16) (x : Int32) (now ring then_ g : Nat → Int32) : g_X10_acts_155 Fu x (nI n) now ring (fa_fill g then_ n) = some (fa_fill g now n, ring, fa_fill g then_ n) := by
  unfold g_X10_acts_155
  rw [z_0, m_copies (by omega) (by omega) (by omega) (by omega), some_bind', cp_fill]
theorem m_over {n : Nat} (h2 : 2 ≤ n) (hn : n ≤ 16) (x : Int32) (now ring then_ : Nat → Int32) : g_X10_acts_108 Fu x (nI n) Fu (0 : Int32) now ring then_ = some (fa_fill (fun k => now (mv n 5 k)) now n, ring, fa_fill (fun k => now (mv n 5 k)) then_ n) := by
  have := for_up (fun f k s => g_X10_acts_108 Fu x (nI n) f (nI k) now ring s) n (fun k => fa_fill (fun k => now (mv n 5 k)) then_ k) (some (fa_fill (fun k => now (mv n 5 k)) now n, ring, fa_fill (fun k => now (mv n 5 k)) then_ n)) (fun f k hk => by
    show g_X10_acts_108 Fu x (nI n) (f + 1) (nI k) now ring (fa_fill (fun k => now (mv n 5 k)) then_ k) = _
    rw [g_X10_acts_108, if_neg (nI_ge hk (by omega)), z_1, nI_add, pk_sub (by omega), pk_sub (by omega), jgi_n (by omega) (by omega), jgi_n (by omega) (by omega), nI_clamp (by omega), nI_clamp (by omega), ← fa_fill_succ]
    rfl) (fun f => by
    show g_X10_acts_108 Fu x (nI n) (f + 1) (nI n) now ring (fa_fill (fun k => now (mv n 5 k)) then_ n) = _
    rw [g_X10_acts_108, if_pos (nI_le (Nat.le_refl n) (by omega)), m_end hn]) Fu 0 (Nat.zero_le _) (fu_lt (by omega))
  rw [fa_fill_0] at this
  exact this
/-- an act, done to the row as it is tried -/
theorem m_acts {n a : Nat} (h2 : 2 ≤ n) (hn : n ≤ 16) (ha : a < 6 + n) (now ring then_ : Nat → Int32) : ∃ r' t', f_X10_acts Fu (nI a) (nI n) now ring then_ = some (fa_fill (fun k => now (mv n a k)) now n, r', t') := by
  have ne : ∀ b, b < 6 → a ≠ b → ¬ nI a = nI b := fun b hb h z => h ((nI_eq (by omega) (by omega)).mp z)
  have ne0 : a ≠ 0 → ¬ nI a = (0 : Int32) := ne 0 (by omega)
  have ne1 : a ≠ 1 → ¬ nI a = (1 : Int32) := ne 1 (by omega)
  have ne2 : a ≠ 2 → ¬ nI a = (2 : Int32) := ne 2 (by omega)
  have ne3 : a ≠ 3 → ¬ nI a = (3 : Int32) := ne 3 (by omega)
  have ne4 : a ≠ 4 → ¬ nI a = (4 : Int32) := ne 4 (by omega)
  have ne5 : a ≠ 5 → ¬ nI a = (5 : Int32) := ne 5 (by omega)
  have lt := mv_lt n (by omega) h2
  have hm : ∀ a, a < 6 + n → ∀ k, k < n → mv n a k < 16 := fun a ha k hk => by have := lt a ha k hk; omega
  have e0 : (nI n + 1) / 2 = nI ((n + 1) / 2) := by rw [z_1, nI_add, z_2, half_n (by omega)]
  unfold f_X10_acts
  rw [jgd_2]
  by_cases q0 : a = 0
  · subst q0
    rw [if_pos (show nI 0 = (0 : Int32) from rfl), e0, m_falls hn (mv n 0) (hm 0 (by omega)) (fun k hk q => by show nI 0 + nI (k / 2) * nI 1 = _; rw [pk_mul, nI_add, Nat.mul_one, Nat.zero_add]; simp [mv, q]) (fun k hk q => by rw [nI_add]; simp [mv, q]), some_bind', m_end hn]
    exact ⟨_, _, rfl⟩
  rw [if_neg (ne0 q0)]
  by_cases q1 : a = 1
  · subst q1
    rw [if_pos (show nI 1 = (1 : Int32) from rfl), e0, pk_sub (by omega), m_falls hn (mv n 1) (hm 1 (by omega)) (fun k hk q => by show nI (n - (n + 1) / 2) + nI (k / 2) * nI 1 = _; rw [pk_mul, nI_add, Nat.mul_one]; unfold mv; rw [if_neg (by omega), if_pos rfl, if_pos q]; congr 1; omega) (fun k hk q => by show nI 0 + nI (k / 2) = _; rw [nI_add, Nat.zero_add]; simp [mv, q]), some_bind', m_end hn]
    exact ⟨_, _, rfl⟩
  rw [if_neg (ne1 q1)]
  by_cases q2 : a = 2
  · subst q2
    rw [if_pos (show nI 2 = (2 : Int32) from rfl), m_milks h2 hn, some_bind', m_end hn]
    exact ⟨_, _, rfl⟩
  rw [if_neg (ne2 q2)]
  by_cases q3 : a = 3
  · subst q3
    obtain ⟨r', e⟩ := m_under h2 hn now ring then_
    rw [if_pos (show nI 3 = (3 : Int32) from rfl), e, some_bind', m_end hn]
    exact ⟨_, _, rfl⟩
  rw [if_neg (ne3 q3)]
  by_cases q4 : a = 4
  · subst q4
    have e1 : nI n - 1 = nI (n - 1) := by rw [z_1, pk_sub (by omega)]
    rw [if_pos (show nI 4 = (4 : Int32) from rfl), e1, m_falls hn (mv n 4) (hm 4 (by omega)) (fun k hk q => by rw [Int32.mul_neg, Int32.mul_one, ← Int32.sub_eq_add_neg, pk_sub (by omega)]; simp [mv, q]) (fun k hk q => by show nI 0 + nI (k / 2) = _; rw [nI_add, Nat.zero_add]; simp [mv, q]), some_bind', m_end hn]
    exact ⟨_, _, rfl⟩
  rw [if_neg (ne4 q4)]
  by_cases q5 : a = 5
  · subst q5
    rw [if_pos (show nI 5 = (5 : Int32) from rfl), m_over h2 hn]
    exact ⟨_, _, rfl⟩
  rw [if_neg (ne5 q5), z_6, pk_sub (by omega), m_cuts h2 hn (by omega), some_bind', m_end hn]
  have e : (fun k => now ((k + (a - 6)) % n)) = fun k => now (mv n a k) := by
    funext k
    simp [mv, q0, q1, q2, q3, q4, q5]
  rw [e]
  exact ⟨_, _, rfl⟩
