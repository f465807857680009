/-! colours in two bits -/
theorem sh2 : ∀ c, c < 16 → (((2 * nI c : Int32).toUInt32 &&& Int32.toUInt32 31).toBitVec % 32).toNat = 2 * c := by decide +kernel
theorem col_n {N c : Nat} (hN : N < 2 ^ 32) (hc : c < 16) : jushr (nI N) (2 * nI c) &&& 3 = nI (N / 2 ^ (2 * c) % 4) := by
  have h : jushr (nI N) (2 * nI c) = nI (N / 2 ^ (2 * c)) := by
    apply Int32.toBitVec_inj.mp
    apply BitVec.eq_of_toNat_eq
    rw [pk_tn (Nat.lt_of_le_of_lt (Nat.div_le_self _ _) hN)]
    unfold jushr
    rw [pk_ushr _ _ _ (sh2 c hc), pk_tn hN]
  rw [h, show (3 : Int32) = nI (2 ^ 2 - 1) from rfl, fa_mask]
theorem colM : ∀ a, a < 16 → ∀ c, c < 16 → ∀ j, j < 2 → (3 * 4 ^ a ^^^ 4294967295).testBit (2 * c + j) = decide (¬ c = a) := by decide +kernel
theorem colS : ∀ v, v < 4 → ∀ a, a < 16 → ∀ c, c < 16 → ∀ j, j < 2 → (v * 4 ^ a).testBit (2 * c + j) = (decide (c = a) && v.testBit j) := by decide +kernel
theorem colB : ∀ v, v < 4 → ∀ a, a < 16 → jshl (nI v) (2 * nI a) = nI (v * 4 ^ a) ∧ (jshl 3 (2 * nI a)) ^^^ (-1 : Int32) = nI (3 * 4 ^ a ^^^ 4294967295) ∧ v * 4 ^ a < 2 ^ 32 ∧ 3 * 4 ^ a ^^^ 4294967295 < 2 ^ 32 := by decide +kernel
theorem col_set {l : Int32} {v a c : Nat} (hv : v < 4) (ha : a < 16) (hc : c < 16) : jushr ((l &&& ((jshl (3 : Int32) ((2 : Int32) * nI a)) ^^^ (-1 : Int32))) ||| (jshl (nI v) ((2 : Int32) * nI a))) (2 * nI c) &&& 3 = if c = a then nI v else jushr l (2 * nI c) &&& 3 := by
  obtain ⟨N, hN, rfl⟩ := wb_of32 l
  obtain ⟨b1, b2, b3, b4⟩ := colB v hv a ha
  rw [b1, b2, fa_and, fa_or, col_n (Nat.or_lt_two_pow (Nat.and_lt_two_pow _ b4) b3) hc, col_n hN hc]
  have e : ((N &&& (3 * 4 ^ a ^^^ 4294967295)) ||| v * 4 ^ a) / 2 ^ (2 * c) % 4 = if c = a then v else N / 2 ^ (2 * c) % 4 := by
    apply Nat.eq_of_testBit_eq
    intro j
    rw [show (4 : Nat) = 2 ^ 2 from rfl, Nat.testBit_mod_two_pow, Nat.testBit_div_two_pow, Nat.testBit_or, Nat.testBit_and]
    by_cases hj : j < 2
    · rw [show (2 : Nat) ^ 2 = 4 from rfl, Nat.add_comm j, colM a ha c hc j hj, colS v hv a ha c hc j hj]
      by_cases q : c = a
      · simp [q, hj]
      · rw [if_neg q, show (4 : Nat) = 2 ^ 2 from rfl, Nat.testBit_mod_two_pow, Nat.testBit_div_two_pow, Nat.add_comm j]
        simp [q, hj]
    · by_cases q : c = a
      · have : v.testBit j = false := Nat.testBit_lt_two_pow (Nat.lt_of_lt_of_le hv (show 2 ^ 2 ≤ 2 ^ j from Nat.pow_le_pow_right (by decide) (by omega)))
        rw [if_pos q, this]
        simp [hj]
      · rw [if_neg q, Nat.testBit_mod_two_pow]
        simp [hj]
  rw [e]
  by_cases q : c = a
  · rw [if_pos q, if_pos q]
  · rw [if_neg q, if_neg q]
theorem first_col : ∀ c, c < 16 → jushr 1145324612 (2 * nI c) &&& 3 = nI (c % 2) := by decide +kernel
