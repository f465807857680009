/-! the class's questions to orders -/
theorem lN0 : (0 : Int64) = lN 0 := rfl
theorem fu_lt {a b : Nat} (h : a ≤ 70000) : a - b < Fu := by show a - b < 1000000; omega
/-- an order made place by place -/
theorem x_moved {n : Nat} {o m : Nat → Nat} (hn : n ≤ 16) (ho : perm n o) (hm : perm n m) : f_X4_moved Fu (lN (pk n o)) (lN (pk n m)) (nI n) = some (lN (pk n (fun k => o (m k)))) := by
  refine for_up (fun f k s => g_X4_moved_6 Fu (lN (pk n o)) (lN (pk n m)) (nI n) f s (nI k)) n (fun k => lN (pk k (fun k => o (m k)))) _ (fun f k hk => ?_) (fun f => ?_) Fu 0 (Nat.zero_le _) (fu_lt (by omega))
  · show g_X4_moved_6 Fu (lN (pk n o)) (lN (pk n m)) (nI n) (f + 1) (lN (pk k _)) (nI k) = _
    rw [g_X4_moved_6, if_neg (nI_ge hk (by omega)), x_at hn (hm.lt hn) hk, some_bind', x_at hn (ho.lt hn) (hm.1 k hk), some_bind',
      x_put (o := fun k => o (m k)) (by omega) (fun j hj => ho.lt hn _ (hm.1 j (by omega))) (ho.lt hn _ (hm.1 k hk)) rfl, some_bind', z_1, nI_add]
  · show g_X4_moved_6 Fu (lN (pk n o)) (lN (pk n m)) (nI n) (f + 1) (lN (pk n _)) (nI n) = _
    rw [g_X4_moved_6, if_pos (nI_le (Nat.le_refl n) (by omega))]
theorem x_placeOf {n p c : Nat} {o : Nat → Nat} (hn : n ≤ 16) (ho : perm n o) (hp : p < n) (e : o p = c) : f_X4_placeOf Fu (lN (pk n o)) (nI n) (nI c) = some (nI p) := by
  have hc : c < n := e ▸ ho.1 p hp
  refine for_up (fun f k s => g_X4_placeOf_6 Fu (lN (pk n o)) (nI n) (nI c) f s (nI k)) n (fun k => if p < k then nI p else nI 0) _ (fun f k hk => ?_) (fun f => ?_) Fu 0 (Nat.zero_le _) (fu_lt (by omega))
  · show g_X4_placeOf_6 Fu (lN (pk n o)) (nI n) (nI c) (f + 1) (if p < k then nI p else nI 0) (nI k) = g_X4_placeOf_6 Fu (lN (pk n o)) (nI n) (nI c) f (if p < k + 1 then nI p else nI 0) (nI (k + 1))
    rw [g_X4_placeOf_6, if_neg (nI_ge hk (by omega)), x_at hn (ho.lt hn) hk, some_bind', z_1, nI_add]
    by_cases q : k = p
    · subst q
      rw [if_pos (by rw [e]), if_pos (by omega)]
    · have h1 : ¬ nI (o k) = nI c := fun z => q (ho.2 k p hk hp (((nI_eq (by have := ho.1 k hk; omega) (by omega)).mp z).trans e.symm))
      rw [if_neg h1]
      by_cases q2 : p < k
      · rw [if_pos q2, if_pos (by omega)]
      · rw [if_neg q2, if_neg (by omega)]
  · show g_X4_placeOf_6 Fu (lN (pk n o)) (nI n) (nI c) (f + 1) (if p < n then nI p else nI 0) (nI n) = _
    rw [g_X4_placeOf_6, if_pos (nI_le (Nat.le_refl n) (by omega)), if_pos hp]
/-- how many of the first k numbers are so -/
theorem x_sameCards {n : Nat} {o o2 : Nat → Nat} (hn : n ≤ 16) (ho : perm n o) (h2 : perm n o2) : f_X4_sameCards Fu (lN (pk n o)) (lN (pk n o2)) (nI n) = some (nI (fb_ct (fun k => decide (o k = o2 k)) n)) := by
  refine for_up (fun f k s => g_X4_sameCards_6 Fu (lN (pk n o)) (lN (pk n o2)) (nI n) f s (nI k)) n (fun k => nI (fb_ct (fun k => decide (o k = o2 k)) k)) _ (fun f k hk => ?_) (fun f => ?_) Fu 0 (Nat.zero_le _) (fu_lt (by omega))
  · show g_X4_sameCards_6 Fu (lN (pk n o)) (lN (pk n o2)) (nI n) (f + 1) (nI (fb_ct (fun k => decide (o k = o2 k)) k)) (nI k) = g_X4_sameCards_6 Fu (lN (pk n o)) (lN (pk n o2)) (nI n) f (nI (fb_ct (fun k => decide (o k = o2 k)) (k + 1))) (nI (k + 1))
    rw [g_X4_sameCards_6, if_neg (nI_ge hk (by omega)), x_at hn (ho.lt hn) hk, some_bind', x_at hn (h2.lt hn) hk, some_bind', z_1, nI_add, nI_add, fb_ct_succ]
    have b1 := ho.1 k hk
    have b2 := h2.1 k hk
    by_cases q : o k = o2 k
    · rw [if_pos (by rw [q]), decide_eq_true q, if_pos rfl]
    · rw [if_neg (fun z => q ((nI_eq (by omega) (by omega)).mp z)), decide_eq_false q]
      simp
  · show g_X4_sameCards_6 Fu (lN (pk n o)) (lN (pk n o2)) (nI n) (f + 1) (nI (fb_ct (fun k => decide (o k = o2 k)) n)) (nI n) = _
    rw [g_X4_sameCards_6, if_pos (nI_le (Nat.le_refl n) (by omega))]
/-- rising rows of an order whose cards lie in the places P -/
def ris (P : Nat → Nat) : Nat → Nat
  | 0 => 1
  | c + 1 => ris P c + (if P (c + 1) < P c then 1 else 0)
theorem ris_le (P : Nat → Nat) : ∀ c, ris P c ≤ c + 1
  | 0 => Nat.le_refl _
  | c + 1 => by
    have := ris_le P c
    show ris P c + _ ≤ _
    split <;> omega
theorem x_risingRows {n : Nat} {o P : Nat → Nat} (h2 : 2 ≤ n) (hn : n ≤ 16) (ho : perm n o) (hP : ∀ c, c < n → P c < n ∧ o (P c) = c) : f_X4_risingRows Fu (lN (pk n o)) (nI n) = some (nI (ris P (n - 1))) := by
  have hlast : ∀ (f : Nat) (N : Nat), N < 2 ^ 64 → (∀ c, c < n → N / 16 ^ c % 16 = P c) → n < f → g_X4_risingRows_36 Fu (lN (pk n o)) (nI n) f (lN N) (1 : Int32) (0 : Int32) = some (nI (ris P (n - 1))) := by
    intro f N hN hc hf
    refine for_up (fun f k s => g_X4_risingRows_36 Fu (lN (pk n o)) (nI n) f (lN N) s (nI k)) (n - 1) (fun k => nI (ris P k)) _ (fun f k hk => ?_) (fun f => ?_) f 0 (Nat.zero_le _) (by omega)
    · show g_X4_risingRows_36 Fu (lN (pk n o)) (nI n) (f + 1) (lN N) (nI (ris P k)) (nI k) = g_X4_risingRows_36 Fu (lN (pk n o)) (nI n) f (lN N) (nI (ris P (k + 1))) (nI (k + 1))
      rw [g_X4_risingRows_36, z_1, nI_add, if_neg (nI_ge (by omega) (by omega)), x_cardAt hN (by omega), some_bind', x_cardAt hN (by omega), some_bind', hc _ (by omega), hc _ (by omega), nI_add]
      have b1 := (hP k (by omega)).1
      have b2 := (hP (k + 1) (by omega)).1
      show _ = g_X4_risingRows_36 Fu (lN (pk n o)) (nI n) f (lN N) (nI (ris P k + if P (k + 1) < P k then 1 else 0)) (nI (k + 1))
      by_cases q : P (k + 1) < P k
      · rw [if_neg (nI_ge q (by omega)), if_pos q]
      · rw [if_pos (nI_le (by omega) (by omega)), if_neg q]
        rfl
    · show g_X4_risingRows_36 Fu (lN (pk n o)) (nI n) (f + 1) (lN N) (nI (ris P (n - 1))) (nI (n - 1)) = _
      rw [g_X4_risingRows_36, z_1, nI_add, if_pos (nI_le (by omega) (by omega))]
  refine for_upR (fun f k s => g_X4_risingRows_5 Fu (lN (pk n o)) (nI n) f s (nI k)) n (fun k s => ∃ N, s = lN N ∧ N < 2 ^ 64 ∧ ∀ c, c < n → N / 16 ^ c % 16 = if P c < k then P c else 0) (fun r => r = some (nI (ris P (n - 1)))) (fun f k s hk hi => Or.inl ?_) (fun f s hi => ?_) Fu 0 (lN 0) (Nat.zero_le _) (fu_lt (by omega)) ⟨0, rfl, by decide, fun c hc => by simp⟩
  · obtain ⟨N, rfl, hN, hc⟩ := hi
    have b1 := ho.1 k hk
    refine ⟨lN (N ||| k * 16 ^ (o k)), ⟨_, rfl, ?_, fun c hcn => ?_⟩, ?_⟩
    · refine Nat.or_lt_two_pow hN ?_
      have e1 : k * 16 ^ (o k) < 16 * 16 ^ (o k) := Nat.mul_lt_mul_of_pos_right (by omega) (Nat.pow_pos (by decide))
      have e2 : 16 * 16 ^ (o k) = 16 ^ (o k + 1) := by rw [Nat.pow_succ, Nat.mul_comm]
      have e3 : 16 ^ (o k + 1) ≤ 2 ^ 64 := by rw [p16]; exact Nat.pow_le_pow_right (by decide) (by omega)
      omega
    · rw [fld_or _ _ _ _ (by omega), hc c hcn]
      have hp := hP c hcn
      by_cases q : c = o k
      · have e : P c = k := ho.2 _ _ hp.1 hk (hp.2.trans q)
        rw [if_pos q, if_neg (by omega), if_pos (by omega), Nat.zero_or, e]
      · have e : P c ≠ k := fun z => q (by rw [← z]; exact hp.2.symm)
        rw [if_neg q]
        by_cases q2 : P c < k
        · rw [if_pos q2, if_pos (by omega)]
        · rw [if_neg q2, if_neg (by omega)]
    · show g_X4_risingRows_5 Fu (lN (pk n o)) (nI n) (f + 1) (lN N) (nI k) = _
      rw [g_X4_risingRows_5, if_neg (nI_ge hk (by omega)), x_at hn (ho.lt hn) hk, some_bind', x_with (by omega) (by omega), some_bind', z_1, nI_add]
  · obtain ⟨N, rfl, hN, hc⟩ := hi
    show g_X4_risingRows_5 Fu (lN (pk n o)) (nI n) (f + 1) (lN N) (nI n) = _
    rw [g_X4_risingRows_5, if_pos (nI_le (Nat.le_refl n) (by omega))]
    exact hlast Fu N hN (fun c hcn => by rw [hc c hcn, if_pos (hP c hcn).1]) (by show n < 1000000; omega)
