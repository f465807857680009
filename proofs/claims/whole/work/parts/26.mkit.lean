/-! guards, and rows that lie as an order -/
theorem gin_n {lo hi : Nat} (hl : lo < 2 ^ 31) (hh : hi < 2 ^ 31) (y : Int32) : (∃ k, lo ≤ k ∧ k ≤ hi ∧ y = nI k ∧ f_X9_within Fu y (nI lo) (nI hi) = some 1 ∧ f_X10_in Fu y (nI lo) (nI hi) = some 1) ∨ ((∀ k, lo ≤ k → k ≤ hi → ¬ y = nI k) ∧ f_X9_within Fu y (nI lo) (nI hi) = some 0 ∧ f_X10_in Fu y (nI lo) (nI hi) = some 0) := by
  unfold f_X9_within f_X10_in
  have r := fb_rng y
  by_cases h1 : y < nI lo
  · rw [if_pos h1]
    refine Or.inr ⟨fun k a b c => ?_, rfl, rfl⟩
    subst c
    rw [fa_lt, nI_toInt hl, nI_toInt (by omega)] at h1
    omega
  · rw [if_neg h1]
    by_cases h2 : nI hi < y
    · rw [if_pos h2]
      refine Or.inr ⟨fun k a b c => ?_, rfl, rfl⟩
      subst c
      rw [fa_lt, nI_toInt hh, nI_toInt (by omega)] at h2
      omega
    · rw [if_neg h2]
      rw [fa_lt, nI_toInt hl] at h1
      rw [fa_lt, nI_toInt hh] at h2
      refine Or.inl ⟨y.toInt.toNat, by omega, by omega, ?_, rfl, rfl⟩
      rw [fa_eq, nI_toInt (by omega)]
      omega
theorem gcard {n : Nat} (h2 : 2 ≤ n) (hn : n ≤ 16) (y : Int32) : (∃ k, k < n ∧ y = nI k ∧ f_X9_isCard Fu y (nI n) = some 1 ∧ f_X9_isPlace Fu y (nI n) = some 1 ∧ f_X10_isCard Fu y (nI n) = some 1) ∨ ((∀ k, k < n → ¬ y = nI k) ∧ f_X9_isCard Fu y (nI n) = some 0 ∧ f_X9_isPlace Fu y (nI n) = some 0 ∧ f_X10_isCard Fu y (nI n) = some 0) := by
  unfold f_X9_isCard f_X9_isPlace f_X10_isCard
  have e : nI n - 1 = nI (n - 1) := by rw [z_1, pk_sub (by omega)]
  rw [e]
  rcases gin_n (lo := 0) (hi := n - 1) (by omega) (by omega) y with ⟨k, _, b, c, d, f⟩ | ⟨a, d, f⟩
  · refine Or.inl ⟨k, by omega, c, ?_⟩
    rw [show (0 : Int32) = nI 0 from rfl, d, f, some_bind']
    exact ⟨rfl, rfl, rfl⟩
  · refine Or.inr ⟨fun k hk => a k (by omega) (by omega), ?_⟩
    rw [show (0 : Int32) = nI 0 from rfl, d, f, some_bind']
    exact ⟨rfl, rfl, rfl⟩
theorem gkind (y : Int32) : (∃ k, k < 5 ∧ y = nI k ∧ f_X9_isKind Fu y = some 1 ∧ f_X10_isKind Fu y = some 1) ∨ ((∀ k, k < 5 → ¬ y = nI k) ∧ f_X9_isKind Fu y = some 0 ∧ f_X10_isKind Fu y = some 0) := by
  unfold f_X9_isKind f_X10_isKind
  rcases gin_n (lo := 0) (hi := 4) (by omega) (by omega) y with ⟨k, _, b, c, d, f⟩ | ⟨a, d, f⟩
  · refine Or.inl ⟨k, by omega, c, ?_⟩
    rw [show (0 : Int32) = nI 0 from rfl, show (4 : Int32) = nI 4 from rfl, d, f, some_bind']
    exact ⟨rfl, rfl⟩
  · refine Or.inr ⟨fun k hk => a k (by omega) (by omega), ?_⟩
    rw [show (0 : Int32) = nI 0 from rfl, show (4 : Int32) = nI 4 from rfl, d, f, some_bind']
    exact ⟨rfl, rfl⟩
theorem not10 : ¬ (1 : Int32) = 0 := by decide
/-- a row of sixteen lies as the order says -/
def lays (n : Nat) (o : Nat → Nat) (f : Nat → Int32) : Prop := ∀ k, k < 16 → f k = nI (ex n o k)
theorem lays.at {n : Nat} {o : Nat → Nat} {f : Nat → Int32} (h : lays n o f) (hn : n ≤ 16) {k : Nat} (hk : k < n) : f k = nI (o k) := by
  rw [h k (by omega)]
  unfold ex
  rw [if_pos hk]
theorem lays.out {n : Nat} {o : Nat → Nat} {f : Nat → Int32} (h : lays n o f) {k : Nat} (hk : n ≤ k) (h6 : k < 16) : f k = nI k := by
  rw [h k h6]
  unfold ex
  rw [if_neg (by omega)]
theorem lays.cg {n : Nat} {o o' : Nat → Nat} {f : Nat → Int32} (h : lays n o f) (e : ∀ k, k < n → o k = o' k) : lays n o' f := fun k hk => by
  rw [h k hk]
  unfold ex
  by_cases q : k < n
  · rw [if_pos q, if_pos q, e k q]
  · rw [if_neg q, if_neg q]
theorem l_asItIs {n : Nat} {o : Nat → Nat} {st : Nat → Int32} (h : lays n o st) (now : Nat → Int32) : ∃ b, f_X10_asItIs Fu st now = some b ∧ lays n o b := ⟨_, m_asItIs st now, fun k hk => by rw [cp16 hk, h k hk]⟩
theorem l_copies {n : Nat} {o : Nat → Nat} {st : Nat → Int32} (h : lays n o st) (now : Nat → Int32) : ∃ b, f_X10_copies Fu 16 16 (0 : Int32) (0 : Int32) (16 : Int32) st now = some b ∧ lays n o b := by
  refine ⟨_, m_copies (a := 0) (b := 0) (c := 16) (by omega) (by omega) (by omega) (by omega) st now, fun k hk => by rw [cp16 hk, h k hk]⟩
theorem l_lies (n : Nat) (f : Nat → Int32) : ∃ b, f_X10_lies Fu 16 f = some b ∧ lays n (fun k => k) b := ⟨_, m_lies f, fun k hk => by rw [fa_fill_in hk]; unfold ex; split <;> rfl⟩
theorem l_acts {n a : Nat} {o : Nat → Nat} {now : Nat → Int32} (h2 : 2 ≤ n) (hn : n ≤ 16) (ha : a < 6 + n) (h : lays n o now) (ring then_ : Nat → Int32) : ∃ b : (Nat → Int32) × (Nat → Int32) × (Nat → Int32), f_X10_acts Fu (nI a) (nI n) now ring then_ = some b ∧ lays n (fun k => o (mv n a k)) b.1 := by
  obtain ⟨r', t', e⟩ := m_acts h2 hn ha now ring then_
  refine ⟨_, e, fun k hk => ?_⟩
  show fa_fill (fun k => now (mv n a k)) now n k = _
  have lt := mv_lt n (by omega) h2 a ha
  by_cases q : k < n
  · rw [fa_fill_in q, h.at hn (lt k q)]
    unfold ex
    rw [if_pos q]
  · rw [fa_fill_out (by omega), h k hk]
    unfold ex
    rw [if_neg q, if_neg q]
theorem l_deals {n q : Nat} {d o : Nat → Nat} {deal now : Nat → Int32} (h2 : 2 ≤ n) (hn : n ≤ 16) (hq : q ≤ 16) (hd : ∀ k, k < q → d k < 6 + n ∧ deal k = nI (d k)) (h : lays n o now) (ring then_ : Nat → Int32) : ∃ b : (Nat → Int32) × (Nat → Int32) × (Nat → Int32), f_X10_deals Fu (nI n) (nI q) deal now ring then_ = some b ∧ lays n (fun k => o (dmv n d q k)) b.1 := by
  refine for_upR (fun f k (s : (Nat → Int32) × (Nat → Int32) × (Nat → Int32)) => g_X10_deals_2 Fu (nI n) (nI q) deal f (nI k) s.1 s.2.1 s.2.2) q (fun k s => lays n (fun j => o (dmv n d k j)) s.1) (fun r => ∃ b : (Nat → Int32) × (Nat → Int32) × (Nat → Int32), r = some b ∧ lays n (fun k => o (dmv n d q k)) b.1) (fun f k s hk hi => Or.inl ?_) (fun f s hi => ⟨s, ?_, hi⟩) Fu 0 (now, ring, then_) (Nat.zero_le _) (fu_lt (by omega)) h
  · obtain ⟨b, e, hb⟩ := l_acts h2 hn (hd k hk).1 hi s.2.1 s.2.2
    refine ⟨b, hb, ?_⟩
    show g_X10_deals_2 Fu (nI n) (nI q) deal (f + 1) (nI k) s.1 s.2.1 s.2.2 = g_X10_deals_2 Fu (nI n) (nI q) deal f (nI (k + 1)) b.1 b.2.1 b.2.2
    rw [g_X10_deals_2, if_neg (nI_ge hk (by omega)), jgi_n (by omega) (by omega), nI_clamp (by omega), (hd k hk).2, e, some_bind', z_1, nI_add]
  · show g_X10_deals_2 Fu (nI n) (nI q) deal (f + 1) (nI q) s.1 s.2.1 s.2.2 = _
    rw [g_X10_deals_2, if_pos (nI_le (Nat.le_refl q) (by omega))]
theorem l_placeOf {n p c : Nat} {o : Nat → Nat} {now : Nat → Int32} (hn : n ≤ 16) (ho : perm n o) (h : lays n o now) (hp : p < n) (e : o p = c) : f_X10_placeOf Fu (nI c) now = some (nI p) := by
  have hc : c < n := e ▸ ho.1 p hp
  have := for_up (fun f k (_ : Unit) => g_X10_placeOf_2 Fu (nI c) now f (nI k)) p (fun _ => ()) (some (nI p)) (fun f k hk => by
    show g_X10_placeOf_2 Fu (nI c) now (f + 1) (nI k) = g_X10_placeOf_2 Fu (nI c) now f (nI (k + 1))
    have q : ¬ o k = c := fun z => by have := ho.2 k p (by omega) hp (z.trans e.symm); omega
    have b := ho.1 k (by omega)
    rw [g_X10_placeOf_2, jgi_n (by omega) (by omega), nI_clamp (by omega), h.at hn (by omega), if_neg (fun z => q ((nI_eq (by omega) (by omega)).mp z)), z_1, nI_add]) (fun f => by
    show g_X10_placeOf_2 Fu (nI c) now (f + 1) (nI p) = _
    rw [g_X10_placeOf_2, jgi_n (by omega) (by omega), nI_clamp (by omega), h.at hn (by omega), if_pos (by rw [e])]) Fu 0 (Nat.zero_le _) (fu_lt (by omega))
  exact this
theorem l_isInOrder {n : Nat} {o : Nat → Nat} {now : Nat → Int32} (hn : n ≤ 16) (ho : perm n o) (h : lays n o now) : ∃ b : Bool, f_X10_isInOrder Fu (nI n) now = some (if b then 1 else 0) ∧ (b = true ↔ ∀ k, k < n → o k = k) := by
  refine for_upR (fun f k (s : Bool) => g_X10_isInOrder_4 Fu (nI n) now f (if s then 1 else 0) (nI k)) n (fun k s => s = true ↔ ∀ j, j < k → o j = j) (fun r => ∃ b : Bool, r = some (if b then 1 else 0) ∧ (b = true ↔ ∀ k, k < n → o k = k)) (fun f k s hk hi => Or.inl ?_) (fun f s hi => ⟨s, ?_, hi⟩) Fu 0 true (Nat.zero_le _) (fu_lt (by omega)) ⟨fun _ j hj => absurd hj (by omega), fun _ => rfl⟩
  · show ∃ s' : Bool, (s' = true ↔ ∀ j, j < k + 1 → o j = j) ∧ g_X10_isInOrder_4 Fu (nI n) now (f + 1) (if s then 1 else 0) (nI k) = g_X10_isInOrder_4 Fu (nI n) now f (if s' then 1 else 0) (nI (k + 1))
    have b := ho.1 k hk
    rw [g_X10_isInOrder_4, if_neg (nI_ge hk (by omega)), jgi_n (by omega) (by omega), nI_clamp (by omega), h.at hn hk, z_1, nI_add]
    cases s
    · refine ⟨false, ⟨fun z => absurd z (by decide), fun z => hi.mpr fun j hj => z j (by omega)⟩, ?_⟩
      rw [if_pos (by decide)]
      rfl
    · rw [if_neg (by decide)]
      by_cases q : o k = k
      · refine ⟨true, ⟨fun _ j hj => ?_, fun _ => rfl⟩, ?_⟩
        · by_cases w : j = k
          · rw [w, q]
          · exact hi.mp rfl j (by omega)
        · rw [if_pos (by rw [q])]
          rfl
      · refine ⟨false, ⟨fun z => absurd z (by decide), fun z => absurd (z k (by omega)) q⟩, ?_⟩
        rw [if_neg (fun z => q ((nI_eq (by omega) (by omega)).mp z))]
        rfl
  · show g_X10_isInOrder_4 Fu (nI n) now (f + 1) (if s then 1 else 0) (nI n) = _
    rw [g_X10_isInOrder_4, if_pos (nI_le (Nat.le_refl n) (by omega))]
    cases s
    · exact jgz_0 _
    · exact jgz_1 _
