/-! how far each place lies from the goal -/
def tb (n g : Nat) : Nat → Nat → Nat
  | 0, p => if p = g then 0 else 99
  | r + 1, p => if tb n g r p = 99 then (if tb n g r (go n 0 p) = r ∨ tb n g r (go n 1 p) = r then r + 1 else 99) else tb n g r p
theorem tb_s (n g r p : Nat) : tb n g (r + 1) p = if tb n g r p = 99 then (if tb n g r (go n 0 p) = r ∨ tb n g r (go n 1 p) = r then r + 1 else 99) else tb n g r p := rfl
theorem tb_0 (n g p : Nat) : tb n g 0 p = if p = g then 0 else 99 := rfl
def enc (v : Nat) : Int32 := if v = 99 then -4 else nI v
theorem tb_le (n g : Nat) : ∀ r p, tb n g r p = 99 ∨ tb n g r p ≤ r
  | 0, p => by
    unfold tb
    split <;> omega
  | r + 1, p => by
    have h := tb_le n g r p
    unfold tb
    split
    · split <;> omega
    · omega
theorem enc_eq {v k : Nat} (hv : v = 99 ∨ v ≤ 16) (hk : k ≤ 16) : enc v = nI k ↔ v = k := by
  unfold enc
  by_cases q : v = 99
  · rw [if_pos q]
    constructor
    · intro z
      rw [fa_eq, nI_toInt (by omega)] at z
      have : (-4 : Int32).toInt = -4 := by decide
      omega
    · intro z
      omega
  · rw [if_neg q, nI_eq (by omega) (by omega)]
theorem enc_no {v : Nat} (hv : v = 99 ∨ v ≤ 16) : enc v = -4 ↔ v = 99 := by
  unfold enc
  by_cases q : v = 99
  · rw [if_pos q]
    exact ⟨fun _ => q, fun _ => rfl⟩
  · rw [if_neg q]
    constructor
    · intro z
      rw [fa_eq, nI_toInt (by omega)] at z
      have : (-4 : Int32).toInt = -4 := by decide
      omega
    · intro z
      exact absurd z q
theorem enc_pos {v : Nat} (hv : v = 99 ∨ v ≤ 16) : (0 : Int32) ≤ enc v ↔ ¬ v = 99 := by
  unfold enc
  by_cases q : v = 99
  · rw [if_pos q]
    exact ⟨fun z => absurd z (by decide), fun z => absurd q z⟩
  · rw [if_neg q]
    exact ⟨fun _ => q, fun _ => nI_pos' (by omega)⟩
theorem go_lt {n a p : Nat} (h2 : 2 ≤ n) (hn : n ≤ 16) (ha : a < 2) (hp : p < n) : go n a p < n := (go_mv n (by omega) h2 a ha p hp).1
/-- a place so far away has a neighbour one nearer -/
theorem tb_near (n g : Nat) : ∀ r p d, tb n g r p = d + 1 → d + 1 < 99 → tb n g r (go n 0 p) = d ∨ tb n g r (go n 1 p) = d
  | 0, p, d, h, h9 => by
    unfold tb at h
    split at h <;> omega
  | r + 1, p, d, h, h9 => by
    have keep : ∀ q, tb n g r q = d → tb n g (r + 1) q = d := fun q e => by
      rw [tb_s, if_neg (show ¬ tb n g r q = 99 by omega), e]
    have h' := h
    unfold tb at h
    by_cases q : tb n g r p = 99
    · rw [if_pos q] at h
      by_cases w : tb n g r (go n 0 p) = r ∨ tb n g r (go n 1 p) = r
      · rw [if_pos w] at h
        have : r = d := by omega
        subst this
        rcases w with w | w
        · exact Or.inl (keep _ w)
        · exact Or.inr (keep _ w)
      · rw [if_neg w] at h
        omega
    · rw [if_neg q] at h
      rcases tb_near n g r p d h h9 with w | w
      · exact Or.inl (keep _ w)
      · exact Or.inr (keep _ w)
theorem tb_all {n g : Nat} (h2 : 2 ≤ n) (hn : n ≤ 16) (r : Nat) : ∀ d p, p < n → tb n g r p = d → d ≠ 99 → d < 99 → ∀ i, i ≤ d → ∃ q, q < n ∧ tb n g r q = i
  | 0, p, hp, h, _, _, i, hi => ⟨p, hp, by omega⟩
  | d + 1, p, hp, h, h9, h99, i, hi => by
    by_cases q : i = d + 1
    · exact ⟨p, hp, by omega⟩
    · rcases tb_near n g r p d h h99 with w | w
      · exact tb_all h2 hn r d _ (go_lt h2 hn (by omega) hp) w (by omega) (by omega) i (by omega)
      · exact tb_all h2 hn r d _ (go_lt h2 hn (by omega) hp) w (by omega) (by omega) i (by omega)
theorem tb_small {n g r p : Nat} (h2 : 2 ≤ n) (hn : n ≤ 16) (hr : r ≤ 16) (hp : p < n) : tb n g r p = 99 ∨ tb n g r p < n := by
  rcases tb_le n g r p with h | h
  · exact Or.inl h
  · by_cases q : tb n g r p < n
    · exact Or.inr q
    · exfalso
      have ha := tb_all h2 hn r (tb n g r p) p hp rfl (by omega) (by omega)
      have hf : ∀ i, ∃ q, i ≤ n → q < n ∧ tb n g r q = i := fun i => by
        by_cases w : i ≤ n
        · obtain ⟨q, a⟩ := ha i (by omega)
          exact ⟨q, fun _ => a⟩
        · exact ⟨0, fun z => absurd z w⟩
      obtain ⟨i, j, hij, hj, e⟩ := fb_twice (m := n) (n := n + 1) (f := fun i => Classical.choose (hf i)) (fun i hi => (Classical.choose_spec (hf i) (by omega)).1) (by omega)
      have e1 := (Classical.choose_spec (hf i) (by omega)).2
      have e3 := (Classical.choose_spec (hf j) (by omega)).2
      rw [e] at e1
      rw [e3] at e1
      omega
theorem tb_stay {n g r p : Nat} (h2 : 2 ≤ n) (hn : n ≤ 16) (hr : n ≤ r + 1) (hr2 : r < 16) (hp : p < n) : tb n g (r + 1) p = tb n g r p := by
  have h := tb_small (g := g) (r := r + 1) h2 hn (by omega) hp
  have h' : tb n g (r + 1) p = if tb n g r p = 99 then (if tb n g r (go n 0 p) = r ∨ tb n g r (go n 1 p) = r then r + 1 else 99) else tb n g r p := rfl
  rw [h'] at h ⊢
  by_cases q : tb n g r p = 99
  · rw [if_pos q] at h ⊢
    by_cases w : tb n g r (go n 0 p) = r ∨ tb n g r (go n 1 p) = r
    · rw [if_pos w] at h
      omega
    · rw [if_neg w, q]
  · rw [if_neg q]
theorem tb_15 {n g p : Nat} (h2 : 2 ≤ n) (hn : n ≤ 16) (hp : p < n) : ∀ k, n - 1 + k ≤ 15 → tb n g (n - 1 + k) p = tb n g (n - 1) p
  | 0, _ => rfl
  | k + 1, h => by
    rw [show n - 1 + (k + 1) = (n - 1 + k) + 1 by omega, tb_stay h2 hn (by omega) (by omega) hp]
    exact tb_15 h2 hn hp k (by omega)
/-- the row, a round half done -/
def half (n g r j : Nat) (f : Nat → Int32) : Prop := ∀ p, p < n → f p = enc (if p < j then tb n g (r + 1) p else tb n g r p)
theorem half_b {n g r j p : Nat} (hr : r + 1 ≤ 16) : (if p < j then tb n g (r + 1) p else tb n g r p) = 99 ∨ (if p < j then tb n g (r + 1) p else tb n g r p) ≤ 16 := by
  have h1 := tb_le n g r p
  have h3 := tb_le n g (r + 1) p
  split <;> omega
theorem half_r {n g r j p : Nat} (hr : r + 1 ≤ 16) : (if p < j then tb n g (r + 1) p else tb n g r p) = r ↔ tb n g r p = r := by
  by_cases q : p < j
  · rw [if_pos q]
    show (if tb n g r p = 99 then (if tb n g r (go n 0 p) = r ∨ tb n g r (go n 1 p) = r then r + 1 else 99) else tb n g r p) = r ↔ _
    by_cases w : tb n g r p = 99
    · rw [if_pos w]
      constructor
      · intro z
        split at z <;> omega
      · intro z
        omega
    · rw [if_neg w]
  · rw [if_neg q]
theorem half_next {n g r j : Nat} {f : Nat → Int32} (h : half n g r j f) (hj : j < n) : half n g r (j + 1) (upd f j (enc (tb n g (r + 1) j))) := by
  intro p hp
  by_cases q : p = j
  · subst q
    rw [pk_us, if_pos (by omega)]
  · rw [pk_un q, h p hp]
    by_cases w : p < j
    · rw [if_pos w, if_pos (by omega)]
    · rw [if_neg w, if_neg (by omega)]
theorem half_done {n g r : Nat} {f : Nat → Int32} (h : half n g r n f) : half n g (r + 1) 0 f := fun p hp => by
  rw [h p hp, if_pos hp, if_neg (by omega)]
theorem x_fewest {n g r j p : Nat} {f : Nat → Int32} (hn : n ≤ 16) (h : half n g r j f) (hp : p < n) : f_X0_fewestFrom Fu (nI p) f = some (enc (if p < j then tb n g (r + 1) p else tb n g r p)) := by
  unfold f_X0_fewestFrom
  rw [if_neg (nI_pos (by omega)), z_16, if_neg (nI_ge (by omega) (by omega)), jgi_n (by omega) (by omega), nI_clamp (by omega), h p hp]
theorem x_next2 {n g r j p : Nat} {f : Nat → Int32} (h2 : 2 ≤ n) (hn : n ≤ 16) (hr : r + 1 ≤ 16) (h : half n g r j f) (hp : p < n) : f_X0_isNextTo Fu (nI p) (nI r) (nI n) f = some (if tb n g r (go n 0 p) = r ∨ tb n g r (go n 1 p) = r then 1 else 0) := by
  have g0 := go_lt (a := 0) h2 hn (by omega) hp
  have g1 := go_lt (a := 1) h2 hn (by omega) hp
  unfold f_X0_isNextTo
  rw [show f_X3_goal Fu (0 : Int32) (nI n) (nI p) = _ from t_goal n (by omega) h2 0 (by omega) p hp, show f_X3_goal Fu (1 : Int32) (nI n) (nI p) = _ from t_goal n (by omega) h2 1 (by omega) p hp, some_bind', some_bind', x_fewest hn h g0, x_fewest hn h g1, some_bind', some_bind']
  by_cases w : tb n g r (go n 0 p) = r
  · rw [if_pos ((enc_eq (half_b hr) (by omega)).mpr ((half_r hr).mpr w)), if_pos (Or.inl w)]
  · rw [if_neg (fun z => w ((half_r hr).mp ((enc_eq (half_b hr) (by omega)).mp z)))]
    by_cases w1 : tb n g r (go n 1 p) = r
    · rw [if_pos ((enc_eq (half_b hr) (by omega)).mpr ((half_r hr).mpr w1)), if_pos (Or.inr w1)]
    · rw [if_neg (fun z => w1 ((half_r hr).mp ((enc_eq (half_b hr) (by omega)).mp z))), if_neg (fun z => z.elim w w1)]
theorem half_0 {n g : Nat} {f : Nat → Int32} (hn : n ≤ 16) (h : ∀ k, k < 16 → f k = if k = g then 0 else -4) : half n g 0 0 f := fun p hp => by
  rw [h p (by omega), if_neg (Nat.not_lt_zero p), tb_0]
  unfold enc
  by_cases q : p = g
  · rw [if_pos q, if_pos q]
    rfl
  · rw [if_neg q, if_neg q]
    rfl
theorem x_findWays {n g : Nat} (h2 : 2 ≤ n) (hn : n ≤ 16) (hg : g < n) (f0 : Nat → Int32) : ∃ b, f_X0_findWaysTo Fu (nI g) (nI n) f0 = some b ∧ half n g (n - 1) 0 b := by
  refine for_upR (fun f k s => g_X0_findWaysTo_2 Fu (nI g) (nI n) f (nI k) s) 16 (fun k s => ∀ j, j < k → s j = if j = g then 0 else -4) (fun r => ∃ b, r = some b ∧ half n g (n - 1) 0 b) (fun f k s hk hi => Or.inl ?_) (fun f s hi => ?_) Fu 0 f0 (Nat.zero_le _) (fu_lt (by omega)) (fun j hj => absurd hj (by omega))
  · refine ⟨upd s k (if k = g then 0 else -4), fun j hj => ?_, ?_⟩
    · by_cases q : j = k
      · rw [q, pk_us]
      · rw [pk_un q]
        exact hi j (by omega)
    · show g_X0_findWaysTo_2 Fu (nI g) (nI n) (f + 1) (nI k) s = _
      rw [g_X0_findWaysTo_2, z_16, if_neg (nI_ge hk (by omega)), jgi_n (by omega) (by omega), jgi_n (by omega) (by omega), nI_clamp (by omega), nI_1]
      by_cases q : k = g
      · rw [if_pos (by rw [q]), if_pos q]
      · rw [if_neg (fun z => q ((nI_eq (by omega) (by omega)).mp z)), if_neg q]
  · show ∃ b, g_X0_findWaysTo_2 Fu (nI g) (nI n) (f + 1) (nI 16) s = some b ∧ _
    rw [g_X0_findWaysTo_2, if_pos (by decide)]
    refine for_upR (fun f k s => g_X0_findWaysTo_36 Fu (nI g) (nI n) f (nI k) s) n (fun k s => 0 < k ∧ half n g (k - 1) 0 s) (fun r => ∃ b, r = some b ∧ half n g (n - 1) 0 b) (fun f k s hk hi => Or.inl ?_) (fun f s hi => ⟨s, ?_, hi.2⟩) Fu 1 s (by omega) (fu_lt (by omega)) ⟨by omega, half_0 hn hi⟩
    · show ∃ s', _ ∧ g_X0_findWaysTo_36 Fu (nI g) (nI n) (f + 1) (nI k) s = _
      rw [g_X0_findWaysTo_36, if_neg (nI_ge hk (by omega))]
      obtain ⟨k0, hh⟩ := hi
      refine for_upR (fun f2 j s => g_X0_findWaysTo_44 Fu (nI g) (nI n) (fun qx3 qf_o_stepsFrom => g_X0_findWaysTo_36 Fu (nI g) (nI n) f qx3 qf_o_stepsFrom) f2 (nI k) (nI j) s) n (fun j s => half n g (k - 1) j s) (fun r => ∃ s', (0 < k + 1 ∧ half n g (k + 1 - 1) 0 s') ∧ r = g_X0_findWaysTo_36 Fu (nI g) (nI n) f (nI (k + 1)) s') (fun f2 j s hj hi => Or.inl ?_) (fun f2 s hi => ⟨s, ⟨by omega, ?_⟩, ?_⟩) Fu 0 s (Nat.zero_le _) (fu_lt (by omega)) hh
      · refine ⟨upd s j (enc (tb n g (k - 1 + 1) j)), half_next hi hj, ?_⟩
        show g_X0_findWaysTo_44 Fu (nI g) (nI n) _ (f2 + 1) (nI k) (nI j) s = g_X0_findWaysTo_44 Fu (nI g) (nI n) _ f2 (nI k) (nI (j + 1)) (upd s j (enc (tb n g (k - 1 + 1) j)))
        have hj0 := hi j hj
        rw [if_neg (by omega)] at hj0
        have hb := tb_le n g (k - 1) j
        have ek : nI k - (1 : Int32) = nI (k - 1) := by rw [z_1, pk_sub (by omega)]
        rw [g_X0_findWaysTo_44, if_neg (nI_ge hj (by omega)), z_16, if_neg (nI_ge (by omega) (by omega)), jgi_n (by omega) (by omega), nI_clamp (by omega), nI_1, hj0, ek, x_next2 h2 hn (by omega) hi hj, some_bind', jgi_n (by omega) (by omega)]
        have et : tb n g (k - 1 + 1) j = if tb n g (k - 1) j = 99 then (if tb n g (k - 1) (go n 0 j) = k - 1 ∨ tb n g (k - 1) (go n 1 j) = k - 1 then k - 1 + 1 else 99) else tb n g (k - 1) j := rfl
        by_cases q : tb n g (k - 1) j = 99
        · rw [if_pos ((enc_no (by omega)).mpr q), et, if_pos q]
          by_cases w : tb n g (k - 1) (go n 0 j) = k - 1 ∨ tb n g (k - 1) (go n 1 j) = k - 1
          · rw [if_pos w, if_neg not10, if_pos w]
            unfold enc
            rw [if_neg (by omega), show k - 1 + 1 = k by omega]
          · rw [if_neg w, if_pos rfl, if_neg w, ← q, ← hj0, fa_upd_same rfl]
        · rw [if_neg (fun z => q ((enc_no (by omega)).mp z)), et, if_neg q, ← hj0, fa_upd_same rfl]
      · have := half_done hi
        rw [show k - 1 + 1 = k by omega] at this
        exact this
      · show g_X0_findWaysTo_44 Fu (nI g) (nI n) _ (f2 + 1) (nI k) (nI n) s = _
        rw [g_X0_findWaysTo_44, if_pos (nI_le (Nat.le_refl n) (by omega)), nI_1]
    · show g_X0_findWaysTo_36 Fu (nI g) (nI n) (f + 1) (nI n) s = _
      rw [g_X0_findWaysTo_36, if_pos (nI_le (Nat.le_refl n) (by omega))]
