/-! bits of ints -/
theorem jshl_n {k : Nat} (h : k < 31) : jshl 1 (nI k) = nI (2 ^ k) := by
  have : ∀ k, k < 31 → jshl 1 (nI k) = nI (2 ^ k) := by decide +kernel
  exact this k h
theorem sm32 : ∀ k, k < 32 → ((nI k &&& 31).toBitVec.smod 32).toNat = k := by decide +kernel
theorem jshr_n {w k : Nat} (hw : w < 2 ^ 31) (hk : k < 32) : jshr (nI w) (nI k) = nI (w / 2 ^ k) := pk_shrN hw _ k (sm32 k hk)
theorem bit_n {w k : Nat} (hw : w < 2 ^ 31) (hk : k < 32) : jshr (nI w) (nI k) &&& 1 = nI (w / 2 ^ k % 2) := by
  rw [jshr_n hw hk, show (1 : Int32) = nI (2 ^ 1 - 1) from rfl, fa_mask]
/-! where OUT and IN bring each place -/
def gone (n : Nat) (g : Nat → Int32) : Prop := ∀ a p, a < 2 → p < n → g (16 * a + p) = nI (go n a p)
theorem go_onto {n a : Nat} (h2 : 2 ≤ n) (hn : n ≤ 16) (ha : a < 2) {p : Nat} (hp : p < n) : go n a (mv n a p) = p := by
  have hm := mv_perm h2 hn (a := a) (by omega)
  have h1 := go_mv n (by omega) h2 a ha (mv n a p) (hm.1 p hp)
  exact hm.2 _ _ h1.1 hp h1.2
theorem m_findGoes {n : Nat} (h2 : 2 ≤ n) (hn : n ≤ 16) (goes now ring then_ : Nat → Int32) : ∃ b : (Nat → Int32) × (Nat → Int32) × (Nat → Int32) × (Nat → Int32), f_X10_findGoes Fu (nI n) goes now ring then_ = some b ∧ gone n b.1 := by
  refine for_upR (fun f k (s : (Nat → Int32) × (Nat → Int32) × (Nat → Int32) × (Nat → Int32)) => g_X10_findGoes_2 Fu (nI n) f (nI k) s.1 s.2.1 s.2.2.1 s.2.2.2) 2 (fun k s => ∀ a p, a < k → p < n → s.1 (16 * a + p) = nI (go n a p)) (fun r => ∃ b : (Nat → Int32) × (Nat → Int32) × (Nat → Int32) × (Nat → Int32), r = some b ∧ gone n b.1) (fun f k s hk hi => Or.inl ?_) (fun f s hi => ⟨s, ?_, hi⟩) Fu 0 (goes, now, ring, then_) (Nat.zero_le _) (fu_lt (by omega)) (fun a p ha => absurd ha (by omega))
  · obtain ⟨b1, e1, l1⟩ := l_lies n s.2.1
    obtain ⟨b2, e2, l2⟩ := l_acts (a := k) h2 hn (by omega) l1 s.2.2.1 s.2.2.2
    have hm := mv_perm h2 hn (a := k) (by omega)
    show ∃ s', _ ∧ g_X10_findGoes_2 Fu (nI n) (f + 1) (nI k) s.1 s.2.1 s.2.2.1 s.2.2.2 = _
    rw [g_X10_findGoes_2, z_1, if_neg (nI_nlt (by omega) (by omega)), e1, some_bind', e2, some_bind']
    refine for_upR (fun g j (t : Nat → Int32) => g_X10_findGoes_21 Fu (nI n) (fun qx1 qf_o_goes qf_o_now qf_o_ring qf_o_then => g_X10_findGoes_2 Fu (nI n) f qx1 qf_o_goes qf_o_now qf_o_ring qf_o_then) g (nI k) (nI j) t b2.1 b2.2.1 b2.2.2) n (fun j t => (∀ a p, a < k → p < n → t (16 * a + p) = nI (go n a p)) ∧ ∀ p, p < j → t (16 * k + mv n k p) = nI p) (fun r => ∃ s' : (Nat → Int32) × (Nat → Int32) × (Nat → Int32) × (Nat → Int32), (∀ a p, a < k + 1 → p < n → s'.1 (16 * a + p) = nI (go n a p)) ∧ r = g_X10_findGoes_2 Fu (nI n) f (nI (k + 1)) s'.1 s'.2.1 s'.2.2.1 s'.2.2.2) (fun g j t hj hi2 => Or.inl ?_) (fun g t hi2 => ?_) Fu 0 s.1 (Nat.zero_le _) (fu_lt (by omega)) ⟨hi, fun p hp => absurd hp (by omega)⟩
    · have b := hm.1 j hj
      refine ⟨upd t (16 * k + mv n k j) (nI j), ⟨fun a p ha hp => ?_, fun p hp => ?_⟩, ?_⟩
      · rw [pk_un (by omega)]
        exact hi2.1 a p ha hp
      · by_cases q : p = j
        · subst q
          rw [pk_us]
        · rw [pk_un (fun z => q (hm.2 p j (by omega) hj (by omega)))]
          exact hi2.2 p (by omega)
      · show g_X10_findGoes_21 Fu (nI n) _ (g + 1) (nI k) (nI j) t b2.1 b2.2.1 b2.2.2 = _
        rw [g_X10_findGoes_21, if_neg (nI_ge hj (by omega)), jgi_n (by omega) (by omega), nI_clamp (by omega), l2.at hn hj, z_16, pk_mul, nI_add, jgi_n (by omega) (by omega), nI_clamp (by omega), nI_1]
    · refine ⟨(t, b2.1, b2.2.1, b2.2.2), fun a p ha hp => ?_, ?_⟩
      · by_cases q : a = k
        · subst q
          have h1 := go_mv n (by omega) h2 a (by omega) p hp
          have h3 := hi2.2 (go n a p) h1.1
          rw [h1.2] at h3
          exact h3
        · exact hi2.1 a p (by omega) hp
      · show g_X10_findGoes_21 Fu (nI n) _ (g + 1) (nI k) (nI n) t b2.1 b2.2.1 b2.2.2 = _
        rw [g_X10_findGoes_21, if_pos (nI_le (Nat.le_refl n) (by omega)), nI_1]
  · show g_X10_findGoes_2 Fu (nI n) (f + 1) (nI 2) s.1 s.2.1 s.2.2.1 s.2.2.2 = _
    rw [g_X10_findGoes_2, if_pos (by decide)]
/-- the end of a way, and its weight -/
def endW (n w p : Nat) : Nat → Nat
  | 0 => p
  | k + 1 => go n (w / 2 ^ k % 2) (endW n w p k)
def wtW (w x : Nat) : Nat → Nat
  | 0 => 1
  | k + 1 => wtW w x k * (if w / 2 ^ k % 2 = 0 then x else 10 - x)
theorem endW_lt {n w p : Nat} (h2 : 2 ≤ n) (hn : n ≤ 16) (hp : p < n) : ∀ k, endW n w p k < n
  | 0 => hp
  | k + 1 => (go_mv n (by omega) h2 _ (Nat.mod_lt _ (by omega)) _ (endW_lt h2 hn hp k)).1
theorem wtW_le {w x : Nat} (hx : x ≤ 10) : ∀ k, wtW w x k ≤ 10 ^ k
  | 0 => Nat.le_refl _
  | k + 1 => by
    show wtW w x k * _ ≤ 10 ^ k * 10
    refine Nat.mul_le_mul (wtW_le hx k) ?_
    split <;> omega
def abW (n p m x : Nat) (q : Nat) : Nat → Nat
  | 0 => 0
  | w + 1 => abW n p m x q w + (if endW n w p m = q then wtW w x m else 0)
theorem abW_le {n p m x q : Nat} (hm : m ≤ 5) (hx : x ≤ 10) : ∀ w, abW n p m x q w ≤ w * 100000
  | 0 => Nat.zero_le _
  | w + 1 => by
    have h1 := abW_le (n := n) (p := p) (q := q) hm hx w
    have h3 : wtW w x m ≤ 100000 := Nat.le_trans (wtW_le (w := w) hx m) (Nat.le_trans (Nat.pow_le_pow_right (by omega) hm) (by decide))
    show abW n p m x q w + _ ≤ _
    rw [Nat.succ_mul]
    refine Nat.add_le_add h1 ?_
    split
    · exact h3
    · exact Nat.zero_le _
theorem x_endOfWay {n w p m : Nat} (h2 : 2 ≤ n) (hn : n ≤ 16) (hp : p < n) (hw : w < 2 ^ 31) (hm : m ≤ 8) : f_X9_endOfWay Fu (nI p) (nI w) (nI m) (nI n) = some (nI (endW n w p m)) := by
  refine for_up (fun f k s => g_X9_endOfWay_6 Fu (nI p) (nI w) (nI m) (nI n) f s (nI k)) m (fun k => nI (endW n w p k)) _ (fun f k hk => ?_) (fun f => ?_) Fu 0 (Nat.zero_le _) (fu_lt (by omega))
  · show g_X9_endOfWay_6 Fu (nI p) (nI w) (nI m) (nI n) (f + 1) (nI (endW n w p k)) (nI k) = g_X9_endOfWay_6 Fu (nI p) (nI w) (nI m) (nI n) f (nI (go n (w / 2 ^ k % 2) (endW n w p k))) (nI (k + 1))
    rw [g_X9_endOfWay_6, if_neg (nI_ge hk (by omega)), bit_n hw (by omega), t_goal n (by omega) h2 _ (Nat.mod_lt _ (by omega)) _ (endW_lt h2 hn hp k), some_bind', nI_1]
  · show g_X9_endOfWay_6 Fu (nI p) (nI w) (nI m) (nI n) (f + 1) (nI (endW n w p m)) (nI m) = _
    rw [g_X9_endOfWay_6, if_pos (nI_le (Nat.le_refl m) (by omega))]
theorem x_weight {w x m : Nat} (hw : w < 2 ^ 31) (hx : x ≤ 10) (hm : m ≤ 5) : f_X9_weightOfWay Fu (nI w) (nI m) (nI x) = some (nI (wtW w x m)) := by
  refine for_up (fun f k s => g_X9_weightOfWay_5 Fu (nI w) (nI m) (nI x) f s (nI k)) m (fun k => nI (wtW w x k)) _ (fun f k hk => ?_) (fun f => ?_) Fu 0 (Nat.zero_le _) (fu_lt (by omega))
  · show g_X9_weightOfWay_5 Fu (nI w) (nI m) (nI x) (f + 1) (nI (wtW w x k)) (nI k) = g_X9_weightOfWay_5 Fu (nI w) (nI m) (nI x) f (nI (wtW w x k * (if w / 2 ^ k % 2 = 0 then x else 10 - x))) (nI (k + 1))
    rw [g_X9_weightOfWay_5, if_neg (nI_ge hk (by omega)), bit_n hw (by omega), nI_1]
    have c : w / 2 ^ k % 2 < 2 := Nat.mod_lt _ (by omega)
    by_cases q : w / 2 ^ k % 2 = 0
    · rw [if_pos (by rw [q]; rfl), if_pos q, pk_mul]
    · rw [if_neg (nI_ne0 (by omega) (by omega)), if_neg q, z_10, pk_sub (by omega), pk_mul]
  · show g_X9_weightOfWay_5 Fu (nI w) (nI m) (nI x) (f + 1) (nI (wtW w x m)) (nI m) = _
    rw [g_X9_weightOfWay_5, if_pos (nI_le (Nat.le_refl m) (by omega))]
theorem x_power {m : Nat} (hm : m ≤ 5) : f_X9_powerOfTen Fu (nI m) = some (nI (10 ^ m)) := by
  refine for_up (fun f k s => g_X9_powerOfTen_4 Fu (nI m) f s (nI k)) m (fun k => nI (10 ^ k)) _ (fun f k hk => ?_) (fun f => ?_) Fu 0 (Nat.zero_le _) (fu_lt (by omega))
  · show g_X9_powerOfTen_4 Fu (nI m) (f + 1) (nI (10 ^ k)) (nI k) = g_X9_powerOfTen_4 Fu (nI m) f (nI (10 ^ k * 10)) (nI (k + 1))
    rw [g_X9_powerOfTen_4, if_neg (nI_ge hk (by omega)), nI_1, z_10, pk_mul]
  · show g_X9_powerOfTen_4 Fu (nI m) (f + 1) (nI (10 ^ m)) (nI m) = _
    rw [g_X9_powerOfTen_4, if_pos (nI_le (Nat.le_refl m) (by omega))]
theorem x_likely {n p q m x : Nat} (h2 : 2 ≤ n) (hn : n ≤ 16) (hp : p < n) (hq : q < n) (hm : m ≤ 5) (hx : x ≤ 10) (y1 y5 : Int32) (order : Int64) : g_X9_likely_83 Fu y1 (nI q) (nI m) (nI x) y5 order (nI n) Fu (nI p) (0 : Int32) (0 : Int32) = f_X1_partOf Fu (nI (abW n p m x q (2 ^ m))) (nI (10 ^ m)) y5 := by
  have hb : 2 ^ m ≤ 2 ^ 5 := Nat.pow_le_pow_right (by omega) hm
  refine for_up (fun f k s => g_X9_likely_83 Fu y1 (nI q) (nI m) (nI x) y5 order (nI n) f (nI p) s (nI k)) (2 ^ m) (fun k => nI (abW n p m x q k)) _ (fun f k hk => ?_) (fun f => ?_) Fu 0 (Nat.zero_le _) (fu_lt (by omega))
  · show g_X9_likely_83 Fu y1 (nI q) (nI m) (nI x) y5 order (nI n) (f + 1) (nI p) (nI (abW n p m x q k)) (nI k) = g_X9_likely_83 Fu y1 (nI q) (nI m) (nI x) y5 order (nI n) f (nI p) (nI (abW n p m x q k + (if endW n k p m = q then wtW k x m else 0))) (nI (k + 1))
    have b := endW_lt (w := k) h2 hn hp m
    rw [g_X9_likely_83, jshl_n (by omega), if_neg (nI_ge hk (by omega)), x_endOfWay h2 hn hp (by omega) (by omega), some_bind', nI_1]
    by_cases w : endW n k p m = q
    · rw [if_pos (by rw [w]), if_pos w, x_weight (by omega) hx hm, some_bind', nI_add]
    · rw [if_neg (fun z => w ((nI_eq (by omega) (by omega)).mp z)), if_neg w]
      rfl
  · show g_X9_likely_83 Fu y1 (nI q) (nI m) (nI x) y5 order (nI n) (f + 1) (nI p) (nI (abW n p m x q (2 ^ m))) (nI (2 ^ m)) = _
    rw [g_X9_likely_83, jshl_n (by omega), if_pos (nI_le (Nat.le_refl _) (by omega)), x_power hm, some_bind']
    cases f_X1_partOf Fu (nI (abW n p m x q (2 ^ m))) (nI (10 ^ m)) y5 <;> rfl
theorem m_likely {n p q m x : Nat} (h2 : 2 ≤ n) (hn : n ≤ 16) (hp : p < n) (hq : q < n) (hm : m ≤ 5) (hx : x ≤ 10) {goes : Nat → Int32} (hg : gone n goes) (y1 y5 : Int32) (st now ring then_ : Nat → Int32) : g_X10_likely_72 Fu y1 (nI q) (nI m) (nI x) y5 (nI n) st Fu (nI p) (0 : Int32) (1 : Int32) (0 : Int32) goes now ring then_ = (f_X10_lowest Fu (nI (abW n p m x q (2 ^ m))) (nI (10 ^ m)) y5).bind fun b1 => some (b1, goes, now, ring, then_) := by
  have hb : 2 ^ m ≤ 2 ^ 5 := Nat.pow_le_pow_right (by omega) hm
  refine for_up (fun f k s => g_X10_likely_72 Fu y1 (nI q) (nI m) (nI x) y5 (nI n) st f (nI p) (0 : Int32) s (nI k) goes now ring then_) m (fun k => nI (10 ^ k)) _ (fun f k hk => ?_) (fun f => ?_) Fu 0 (Nat.zero_le _) (fu_lt (by omega))
  · show g_X10_likely_72 Fu y1 (nI q) (nI m) (nI x) y5 (nI n) st (f + 1) (nI p) (0 : Int32) (nI (10 ^ k)) (nI k) goes now ring then_ = g_X10_likely_72 Fu y1 (nI q) (nI m) (nI x) y5 (nI n) st f (nI p) (0 : Int32) (nI (10 ^ k * 10)) (nI (k + 1)) goes now ring then_
    rw [g_X10_likely_72, if_neg (nI_ge hk (by omega)), nI_1, z_10, pk_mul]
  · show g_X10_likely_72 Fu y1 (nI q) (nI m) (nI x) y5 (nI n) st (f + 1) (nI p) (0 : Int32) (nI (10 ^ m)) (nI m) goes now ring then_ = _
    rw [g_X10_likely_72, if_pos (nI_le (Nat.le_refl m) (by omega))]
    refine for_up (fun f k s => g_X10_likely_94 Fu y1 (nI q) (nI m) (nI x) y5 (nI n) st f (nI p) s (nI (10 ^ m)) (nI k) goes now ring then_) (2 ^ m) (fun k => nI (abW n p m x q k)) _ (fun f k hk => ?_) (fun f => ?_) Fu 0 (Nat.zero_le _) (fu_lt (by omega))
    · show g_X10_likely_94 Fu y1 (nI q) (nI m) (nI x) y5 (nI n) st (f + 1) (nI p) (nI (abW n p m x q k)) (nI (10 ^ m)) (nI k) goes now ring then_ = g_X10_likely_94 Fu y1 (nI q) (nI m) (nI x) y5 (nI n) st f (nI p) (nI (abW n p m x q k + (if endW n k p m = q then wtW k x m else 0))) (nI (10 ^ m)) (nI (k + 1)) goes now ring then_
      rw [g_X10_likely_94, jshl_n (by omega), if_neg (nI_ge hk (by omega))]
      refine for_up (fun g j s => g_X10_likely_112 Fu y1 (nI q) (nI m) (nI x) y5 (nI n) st (fun qx6 qx7 qx8 qx9 qf_o_goes qf_o_now qf_o_ring qf_o_then => g_X10_likely_94 Fu y1 (nI q) (nI m) (nI x) y5 (nI n) st f qx6 qx7 qx8 qx9 qf_o_goes qf_o_now qf_o_ring qf_o_then) g (nI p) (nI (abW n p m x q k)) (nI (10 ^ m)) (nI k) (nI (endW n k p j)) s (nI j) goes now ring then_) m (fun j => nI (wtW k x j)) _ (fun g j hj => ?_) (fun g => ?_) Fu 0 (Nat.zero_le _) (fu_lt (by omega))
      · show g_X10_likely_112 Fu y1 (nI q) (nI m) (nI x) y5 (nI n) st _ (g + 1) (nI p) (nI (abW n p m x q k)) (nI (10 ^ m)) (nI k) (nI (endW n k p j)) (nI (wtW k x j)) (nI j) goes now ring then_ = g_X10_likely_112 Fu y1 (nI q) (nI m) (nI x) y5 (nI n) st _ g (nI p) (nI (abW n p m x q k)) (nI (10 ^ m)) (nI k) (nI (go n (k / 2 ^ j % 2) (endW n k p j))) (nI (wtW k x j * (if k / 2 ^ j % 2 = 0 then x else 10 - x))) (nI (j + 1)) goes now ring then_
        have b := endW_lt (w := k) h2 hn hp j
        have c : k / 2 ^ j % 2 < 2 := Nat.mod_lt _ (by omega)
        rw [g_X10_likely_112, if_neg (nI_ge hj (by omega)), bit_n (by omega) (by omega), z_16, pk_mul, nI_add, jgi_n (by omega) (by omega), jgi_n (by omega) (by omega), nI_clamp (by omega), hg _ _ c b, nI_1]
        by_cases w : k / 2 ^ j % 2 = 0
        · rw [if_pos (by rw [w]; rfl), if_pos w, pk_mul]
        · rw [if_neg (nI_ne0 (by omega) (by omega)), if_neg w, z_10, pk_sub (by omega), pk_mul]
      · show g_X10_likely_112 Fu y1 (nI q) (nI m) (nI x) y5 (nI n) st _ (g + 1) (nI p) (nI (abW n p m x q k)) (nI (10 ^ m)) (nI k) (nI (endW n k p m)) (nI (wtW k x m)) (nI m) goes now ring then_ = _
        have b := endW_lt (w := k) h2 hn hp m
        rw [g_X10_likely_112, if_pos (nI_le (Nat.le_refl m) (by omega)), nI_1]
        by_cases w : endW n k p m = q
        · rw [if_pos (by rw [w]), if_pos w, nI_add]
        · rw [if_neg (fun z => w ((nI_eq (by omega) (by omega)).mp z)), if_neg w, z_0, nI_add]
    · show g_X10_likely_94 Fu y1 (nI q) (nI m) (nI x) y5 (nI n) st (f + 1) (nI p) (nI (abW n p m x q (2 ^ m))) (nI (10 ^ m)) (nI (2 ^ m)) goes now ring then_ = _
      rw [g_X10_likely_94, jshl_n (by omega), if_pos (nI_le (Nat.le_refl _) (by omega))]
