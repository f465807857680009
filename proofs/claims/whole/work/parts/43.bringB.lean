theorem gone.a {n p : Nat} {g : Nat → Int32} (h : gone n g) (hp : p < n) : g p = nI (go n 0 p) := by
  have := h 0 p (by omega) hp
  simpa using this
theorem m_findFar {n g : Nat} (h2 : 2 ≤ n) (hn : n ≤ 16) (hg : g < n) (far goes now ring then_ : Nat → Int32) : ∃ b : (Nat → Int32) × (Nat → Int32) × (Nat → Int32) × (Nat → Int32) × (Nat → Int32), f_X10_findFar Fu (nI g) (nI n) far goes now ring then_ = some b ∧ half n g 15 0 b.1 ∧ gone n b.2.1 := by
  unfold f_X10_findFar
  obtain ⟨b6, g1, g2⟩ := m_findGoes h2 hn goes now ring then_
  rw [g1, some_bind']
  obtain ⟨goes', now', ring', then'⟩ := b6
  dsimp only at g2 ⊢
  refine for_upR (fun f k s => g_X10_findFar_6 Fu (nI g) (nI n) f (nI k) s goes' now' ring' then') 16 (fun k s => ∀ j, j < k → s j = if j = g then 0 else -4) (fun r => ∃ b : (Nat → Int32) × (Nat → Int32) × (Nat → Int32) × (Nat → Int32) × (Nat → Int32), r = some b ∧ half n g 15 0 b.1 ∧ gone n b.2.1) (fun f k s hk hi => Or.inl ?_) (fun f s hi => ?_) Fu 0 far (Nat.zero_le _) (fu_lt (by omega)) (fun j hj => absurd hj (by omega))
  · refine ⟨upd s k (if k = g then 0 else -4), fun j hj => ?_, ?_⟩
    · by_cases q : j = k
      · rw [q, pk_us]
      · rw [pk_un q]
        exact hi j (by omega)
    · show g_X10_findFar_6 Fu (nI g) (nI n) (f + 1) (nI k) s goes' now' ring' then' = _
      rw [g_X10_findFar_6, z_16, if_neg (nI_ge hk (by omega)), jgi_n (by omega) (by omega), jgi_n (by omega) (by omega), nI_clamp (by omega), nI_1]
      by_cases q : k = g
      · rw [if_pos (by rw [q]), if_pos q]
      · rw [if_neg (fun z => q ((nI_eq (by omega) (by omega)).mp z)), if_neg q]
  · show ∃ b : (Nat → Int32) × (Nat → Int32) × (Nat → Int32) × (Nat → Int32) × (Nat → Int32), g_X10_findFar_6 Fu (nI g) (nI n) (f + 1) (nI 16) s goes' now' ring' then' = some b ∧ _
    rw [g_X10_findFar_6, if_pos (by decide)]
    refine for_upR (fun f k s => g_X10_findFar_37 Fu (nI g) (nI n) f (nI k) s goes' now' ring' then') 16 (fun k s => 0 < k ∧ half n g (k - 1) 0 s) (fun r => ∃ b : (Nat → Int32) × (Nat → Int32) × (Nat → Int32) × (Nat → Int32) × (Nat → Int32), r = some b ∧ half n g 15 0 b.1 ∧ gone n b.2.1) (fun f k s hk hi => Or.inl ?_) (fun f s hi => ⟨(s, goes', now', ring', then'), ?_, hi.2, g2⟩) Fu 1 s (by omega) (fu_lt (by omega)) ⟨by omega, half_0 hn hi⟩
    · show ∃ s', _ ∧ g_X10_findFar_37 Fu (nI g) (nI n) (f + 1) (nI k) s goes' now' ring' then' = _
      rw [g_X10_findFar_37, z_16, if_neg (nI_ge hk (by omega))]
      obtain ⟨k0, hh⟩ := hi
      refine for_upR (fun f2 j s => g_X10_findFar_45 Fu (nI g) (nI n) (fun qx2 qf_o_far qf_o_goes qf_o_now qf_o_ring qf_o_then => g_X10_findFar_37 Fu (nI g) (nI n) f qx2 qf_o_far qf_o_goes qf_o_now qf_o_ring qf_o_then) f2 (nI k) (nI j) s goes' now' ring' then') n (fun j s => half n g (k - 1) j s) (fun r => ∃ s', (0 < k + 1 ∧ half n g (k + 1 - 1) 0 s') ∧ r = g_X10_findFar_37 Fu (nI g) (nI n) f (nI (k + 1)) s' goes' now' ring' then') (fun f2 j s hj hi => Or.inl ?_) (fun f2 s hi => ⟨s, ⟨by omega, ?_⟩, ?_⟩) Fu 0 s (Nat.zero_le _) (fu_lt (by omega)) hh
      · refine ⟨upd s j (enc (tb n g (k - 1 + 1) j)), half_next hi hj, ?_⟩
        show g_X10_findFar_45 Fu (nI g) (nI n) _ (f2 + 1) (nI k) (nI j) s goes' now' ring' then' = g_X10_findFar_45 Fu (nI g) (nI n) _ f2 (nI k) (nI (j + 1)) (upd s j (enc (tb n g (k - 1 + 1) j))) goes' now' ring' then'
        have hj0 := hi j hj
        rw [if_neg (by omega)] at hj0
        have hb := tb_le n g (k - 1) j
        have ek : nI k - (1 : Int32) = nI (k - 1) := by rw [z_1, pk_sub (by omega)]
        have l0 := go_lt (a := 0) h2 hn (by omega) hj
        have l1 := go_lt (a := 1) h2 hn (by omega) hj
        have tail : ∀ b : Bool, (b = true ↔ tb n g (k - 1) (go n 0 j) = k - 1 ∨ tb n g (k - 1) (go n 1 j) = k - 1) → g_X10_findFar_95 Fu (nI g) (nI n) (fun qx2 qf_o_far qf_o_goes qf_o_now qf_o_ring qf_o_then => g_X10_findFar_37 Fu (nI g) (nI n) f qx2 qf_o_far qf_o_goes qf_o_now qf_o_ring qf_o_then) (fun qx2 qx3 qf_o_far qf_o_goes qf_o_now qf_o_ring qf_o_then => g_X10_findFar_45 Fu (nI g) (nI n) (fun qx2 qf_o_far qf_o_goes qf_o_now qf_o_ring qf_o_then => g_X10_findFar_37 Fu (nI g) (nI n) f qx2 qf_o_far qf_o_goes qf_o_now qf_o_ring qf_o_then) f2 qx2 qx3 qf_o_far qf_o_goes qf_o_now qf_o_ring qf_o_then) (nI k) (nI j) (if b then 1 else 0) s goes' now' ring' then' = g_X10_findFar_45 Fu (nI g) (nI n) (fun qx2 qf_o_far qf_o_goes qf_o_now qf_o_ring qf_o_then => g_X10_findFar_37 Fu (nI g) (nI n) f qx2 qf_o_far qf_o_goes qf_o_now qf_o_ring qf_o_then) f2 (nI k) (nI (j + 1)) (upd s j (enc (tb n g (k - 1 + 1) j))) goes' now' ring' then' := by
          intro b hb2
          unfold g_X10_findFar_95
          rw [jgi_n (by omega) (by omega), jgi_n (by omega) (by omega), jgi_n (by omega) (by omega), jgi_n (by omega) (by omega), nI_clamp (by omega), hj0, nI_1, tb_s]
          by_cases q : tb n g (k - 1) j = 99
          · rw [if_neg (fun z => (enc_pos (by omega)).mp z q), if_pos q]
            cases b with
            | true =>
              rw [if_neg (show ¬ (if true = true then (1 : Int32) else 0) = 0 by decide), if_pos (hb2.mp rfl)]
              unfold enc
              rw [if_neg (show ¬ k - 1 + 1 = 99 by omega), show k - 1 + 1 = k by omega]
            | false =>
              rw [if_pos (show (if false = true then (1 : Int32) else 0) = 0 by decide), if_neg (fun z => Bool.false_ne_true (hb2.mpr z)), q]
          · rw [if_pos ((enc_pos (by omega)).mpr q), if_neg q]
        rw [g_X10_findFar_45, if_neg (nI_ge hj (by omega)), jgi_n (by omega) (by omega), nI_clamp (by omega), g2.a hj, jgi_n (by omega) (by omega), nI_clamp (by omega), hi _ l0, ek, z_16, nI_add, jgi_n (by omega) (by omega), nI_clamp (by omega), show goes' (16 + j) = nI (go n 1 j) from by have := g2 1 j (by omega) hj; simpa using this, jgi_n (by omega) (by omega), nI_clamp (by omega), hi _ l1]
        have d0 : enc (if go n 0 j < j then tb n g (k - 1 + 1) (go n 0 j) else tb n g (k - 1) (go n 0 j)) = nI (k - 1) ↔ tb n g (k - 1) (go n 0 j) = k - 1 := (enc_eq (half_b (by omega)) (by omega)).trans (half_r (by omega))
        have d1 : enc (if go n 1 j < j then tb n g (k - 1 + 1) (go n 1 j) else tb n g (k - 1) (go n 1 j)) = nI (k - 1) ↔ tb n g (k - 1) (go n 1 j) = k - 1 := (enc_eq (half_b (by omega)) (by omega)).trans (half_r (by omega))
        by_cases w0 : tb n g (k - 1) (go n 0 j) = k - 1
        · rw [if_pos (d0.mpr w0)]
          exact tail true ⟨fun _ => Or.inl w0, fun _ => rfl⟩
        · rw [if_neg (fun z => w0 (d0.mp z))]
          by_cases w1 : tb n g (k - 1) (go n 1 j) = k - 1
          · rw [if_pos (d1.mpr w1)]
            exact tail true ⟨fun _ => Or.inr w1, fun _ => rfl⟩
          · rw [if_neg (fun z => w1 (d1.mp z))]
            exact tail false ⟨fun z => absurd z Bool.false_ne_true, fun z => z.elim (fun a => absurd a w0) (fun a => absurd a w1)⟩
      · have := half_done hi
        rw [show k - 1 + 1 = k by omega] at this
        exact this
      · show g_X10_findFar_45 Fu (nI g) (nI n) _ (f2 + 1) (nI k) (nI n) s goes' now' ring' then' = _
        rw [g_X10_findFar_45, if_pos (nI_le (Nat.le_refl n) (by omega)), nI_1]
    · show g_X10_findFar_37 Fu (nI g) (nI n) (f + 1) (nI 16) s goes' now' ring' then' = _
      rw [g_X10_findFar_37, if_pos (by decide)]
def ds (n g p : Nat) : Nat := tb n g (n - 1) p
theorem ds_b {n : Nat} (hn : n ≤ 16) (g p : Nat) : ds n g p = 99 ∨ ds n g p ≤ 16 := by
  have := tb_le n g (n - 1) p
  unfold ds
  omega
theorem half_x {n g : Nat} {f : Nat → Int32} (h : half n g (n - 1) 0 f) {p : Nat} (hp : p < n) : f p = enc (ds n g p) := by
  rw [h p hp, if_neg (Nat.not_lt_zero p)]
  rfl
theorem half_m {n g : Nat} {f : Nat → Int32} (h2 : 2 ≤ n) (hn : n ≤ 16) (h : half n g 15 0 f) {p : Nat} (hp : p < n) : f p = enc (ds n g p) := by
  rw [h p hp, if_neg (Nat.not_lt_zero p)]
  have := tb_15 (g := g) h2 hn hp (16 - n) (by omega)
  rw [show n - 1 + (16 - n) = 15 by omega] at this
  rw [this]
  rfl
/-- the lacing to take, and the way -/
def kd (n g p : Nat) : Nat := if ds n g (go n 0 p) + 1 = ds n g p then 0 else 1
def wk (n g p : Nat) : Nat → Nat
  | 0 => p
  | j + 1 => go n (kd n g (wk n g p j)) (wk n g p j)
theorem kd_lt (n g p : Nat) : kd n g p < 2 := by
  unfold kd
  split <;> omega
theorem kd_ds {n g p d : Nat} (h : ds n g p = d + 1) (h9 : d + 1 < 99) : ds n g (go n (kd n g p) p) = d := by
  have hn := tb_near n g (n - 1) p d h h9
  unfold kd
  by_cases q : ds n g (go n 0 p) + 1 = ds n g p
  · rw [if_pos q]
    omega
  · rw [if_neg q]
    rcases hn with w | w
    · unfold ds at q h
      omega
    · exact w
theorem wk_ds {n g p d : Nat} (h2 : 2 ≤ n) (hn : n ≤ 16) (hp : p < n) (h : ds n g p = d) (h9 : d < 99) : ∀ j, j ≤ d → ds n g (wk n g p j) = d - j ∧ wk n g p j < n
  | 0, _ => ⟨h, hp⟩
  | j + 1, hj => by
    obtain ⟨a, b⟩ := wk_ds h2 hn hp h h9 j (by omega)
    exact ⟨kd_ds (d := d - (j + 1)) (by omega) (by omega), go_lt h2 hn (kd_lt _ _ _) b⟩
theorem x_few {n g p : Nat} {f : Nat → Int32} (hn : n ≤ 16) (h : half n g (n - 1) 0 f) (hp : p < n) : f_X0_fewestFrom Fu (nI p) f = some (enc (ds n g p)) := by
  rw [x_fewest hn h hp, if_neg (Nat.not_lt_zero p)]
  rfl
theorem x_kind {n g p d : Nat} {f : Nat → Int32} (h2 : 2 ≤ n) (hn : n ≤ 16) (h : half n g (n - 1) 0 f) (hp : p < n) (hd : ds n g p = d + 1) (hd9 : d < 16) : f_X0_firstKind Fu (nI p) (nI n) f = some (nI (kd n g p)) := by
  unfold f_X0_firstKind
  rw [show f_X3_goal Fu (0 : Int32) (nI n) (nI p) = _ from t_goal n (by omega) h2 0 (by omega) p hp, some_bind', x_few hn h (go_lt h2 hn (by omega) hp), some_bind', x_few hn h hp, some_bind', hd]
  have e : enc (d + 1) - 1 = nI d := by
    unfold enc
    rw [if_neg (by omega), z_1, pk_sub (by omega)]
    rfl
  rw [e]
  unfold kd
  by_cases q : ds n g (go n 0 p) = d
  · rw [if_pos ((enc_eq (ds_b hn _ _) (by omega)).mpr q), if_pos (by omega)]
    rfl
  · rw [if_neg (fun z => q ((enc_eq (ds_b hn _ _) (by omega)).mp z)), if_neg (by omega)]
    rfl
theorem x_kindOn {n g p k : Nat} {f : Nat → Int32} (h2 : 2 ≤ n) (hn : n ≤ 16) (h : half n g (n - 1) 0 f) (hp : p < n) (hk : k < 2 ^ 31) : f_X0_kindOnWay Fu (nI p) (nI k) (nI n) f = some (if ds n g p = 99 ∨ ds n g p ≤ k then -4 else nI (kd n g (wk n g p k))) := by
  unfold f_X0_kindOnWay
  rw [x_few hn h hp, some_bind']
  by_cases q : ds n g p = 99
  · rw [if_pos (Or.inl q), q, if_neg]
    rw [fa_lt, nI_toInt hk]
    have : (enc 99).toInt = -4 := by decide
    omega
  · have hb := ds_b hn g p
    have e : enc (ds n g p) = nI (ds n g p) := if_neg q
    rw [e]
    by_cases w : ds n g p ≤ k
    · rw [if_pos (Or.inr w), if_neg (nI_nlt w hk)]
    · rw [if_pos (nI_lt (show k < ds n g p by omega) (by omega)), if_neg (show ¬ (ds n g p = 99 ∨ ds n g p ≤ k) by omega)]
      refine for_up (fun f2 j s => g_X0_kindOnWay_22 Fu (nI p) (nI k) (nI n) f f2 s (nI (ds n g p)) (nI j)) k (fun j => nI (wk n g p j)) _ (fun f2 j hj => ?_) (fun f2 => ?_) Fu 0 (Nat.zero_le _) (fu_lt (by omega))
      · show g_X0_kindOnWay_22 Fu (nI p) (nI k) (nI n) f (f2 + 1) (nI (wk n g p j)) (nI (ds n g p)) (nI j) = g_X0_kindOnWay_22 Fu (nI p) (nI k) (nI n) f f2 (nI (go n (kd n g (wk n g p j)) (wk n g p j))) (nI (ds n g p)) (nI (j + 1))
        obtain ⟨a, b⟩ := wk_ds (g := g) h2 hn hp rfl (by omega) j (by omega)
        rw [g_X0_kindOnWay_22, if_neg (nI_ge hj (by omega)), if_neg (nI_ge (by omega) (by omega)), x_kind (d := ds n g p - j - 1) h2 hn h b (by omega) (by omega), some_bind', t_goal n (by omega) h2 _ (kd_lt _ _ _) _ b, some_bind', nI_1]
      · show g_X0_kindOnWay_22 Fu (nI p) (nI k) (nI n) f (f2 + 1) (nI (wk n g p k)) (nI (ds n g p)) (nI k) = _
        obtain ⟨a, b⟩ := wk_ds (g := g) h2 hn hp rfl (by omega) k (by omega)
        rw [g_X0_kindOnWay_22, if_pos (nI_le (Nat.le_refl k) hk), x_kind (d := ds n g p - k - 1) h2 hn h b (by omega) (by omega)]
        rfl
theorem m_kindOn {n g p k : Nat} {far goes : Nat → Int32} (h2 : 2 ≤ n) (hn : n ≤ 16) (h : half n g 15 0 far) (hg : gone n goes) (hp : p < n) (hk : k < 2 ^ 31) (hd : ds n g p ≤ 16) (y1 y2 : Int32) (st now ring then_ : Nat → Int32) : ∃ v, g_X10_bring_63 Fu y1 y2 (nI k) (nI n) st Fu (nI p) (nI (ds n g p)) (0 : Int32) far goes now ring then_ = some v ∧ v.1 = if ds n g p = 99 ∨ ds n g p ≤ k then -4 else nI (kd n g (wk n g p k)) := by
  have step : ∀ f2 j, j < ds n g p → g_X10_bring_63 Fu y1 y2 (nI k) (nI n) st (f2 + 1) (nI (wk n g p j)) (nI (ds n g p)) (nI j) far goes now ring then_ = if nI j = nI k then some (nI (kd n g (wk n g p j)), far, goes, now, ring, then_) else g_X10_bring_63 Fu y1 y2 (nI k) (nI n) st f2 (nI (wk n g p (j + 1))) (nI (ds n g p)) (nI (j + 1)) far goes now ring then_ := by
    intro f2 j hj
    obtain ⟨a, b⟩ := wk_ds (g := g) h2 hn hp rfl (by omega) j (by omega)
    have l0 := go_lt (a := 0) h2 hn (by omega) b
    have hk2 := kd_lt n g (wk n g p j)
    rw [g_X10_bring_63, if_neg (nI_ge hj (by omega)), jgi_n (by omega) (by omega), nI_clamp (by omega), hg.a b, jgi_n (by omega) (by omega), nI_clamp (by omega), half_m h2 hn h l0, show nI (ds n g p) - (1 : Int32) = nI (ds n g p - 1) from by rw [z_1, pk_sub (by omega)], pk_sub (by omega)]
    have tail : ∀ s, s < 2 → g_X10_bring_97 Fu y1 y2 (nI k) (nI n) st (fun qx4 qx5 qx6 qf_o_far qf_o_goes qf_o_now qf_o_ring qf_o_then => g_X10_bring_63 Fu y1 y2 (nI k) (nI n) st f2 qx4 qx5 qx6 qf_o_far qf_o_goes qf_o_now qf_o_ring qf_o_then) (nI (wk n g p j)) (nI (ds n g p)) (nI j) (nI s) far goes now ring then_ = if nI j = nI k then some (nI s, far, goes, now, ring, then_) else g_X10_bring_63 Fu y1 y2 (nI k) (nI n) st f2 (nI (go n s (wk n g p j))) (nI (ds n g p)) (nI (j + 1)) far goes now ring then_ := by
      intro s hs
      unfold g_X10_bring_97
      rw [z_16, pk_mul, nI_add, jgi_n (by omega) (by omega), nI_clamp (by omega), hg s _ hs b, nI_1]
    show _ = if nI j = nI k then some (nI (kd n g (wk n g p j)), far, goes, now, ring, then_) else g_X10_bring_63 Fu y1 y2 (nI k) (nI n) st f2 (nI (go n (kd n g (wk n g p j)) (wk n g p j))) (nI (ds n g p)) (nI (j + 1)) far goes now ring then_
    by_cases q : ds n g (go n 0 (wk n g p j)) = ds n g p - 1 - j
    · rw [if_pos ((enc_eq (ds_b hn _ _) (by omega)).mpr q), show kd n g (wk n g p j) = 0 from if_pos (by omega)]
      exact tail 0 (by omega)
    · rw [if_neg (fun z => q ((enc_eq (ds_b hn _ _) (by omega)).mp z)), show kd n g (wk n g p j) = 1 from if_neg (by omega)]
      exact tail 1 (by omega)
  by_cases w : ds n g p ≤ k
  · rw [if_pos (Or.inr w)]
    refine ⟨((-4 : Int32), far, goes, now, ring, then_), ?_, rfl⟩
    refine for_up (fun f2 j s => g_X10_bring_63 Fu y1 y2 (nI k) (nI n) st f2 s (nI (ds n g p)) (nI j) far goes now ring then_) (ds n g p) (fun j => nI (wk n g p j)) _ (fun f2 j hj => ?_) (fun f2 => ?_) Fu 0 (Nat.zero_le _) (fu_lt (by omega))
    · rw [step f2 j hj, if_neg (fun z => by have := (nI_eq (by omega) (by omega)).mp z; omega)]
    · show g_X10_bring_63 Fu y1 y2 (nI k) (nI n) st (f2 + 1) (nI (wk n g p (ds n g p))) (nI (ds n g p)) (nI (ds n g p)) far goes now ring then_ = _
      rw [g_X10_bring_63, if_pos (nI_le (Nat.le_refl _) (by omega))]
  · rw [if_neg (by omega)]
    refine ⟨(nI (kd n g (wk n g p k)), far, goes, now, ring, then_), ?_, rfl⟩
    refine for_up (fun f2 j s => g_X10_bring_63 Fu y1 y2 (nI k) (nI n) st f2 s (nI (ds n g p)) (nI j) far goes now ring then_) k (fun j => nI (wk n g p j)) _ (fun f2 j hj => ?_) (fun f2 => ?_) Fu 0 (Nat.zero_le _) (fu_lt (by omega))
    · rw [step f2 j (by omega), if_neg (fun z => by have := (nI_eq (by omega) (by omega)).mp z; omega)]
    · rw [step f2 k (by omega), if_pos rfl]
theorem st_bring {v_x_order : Int64} {v_x_text_length : Int32} {f_x_text_letters : Nat → Int32} {v_x_laid_cards : Int32} {v_x_laid_colours : Int32} {v_x_laid_acts : Int32} {v_x_laid_deal : Int64} {v_x_past_held : Int32} {f_x_past_stored : Nat → Int64} {v_x_kept_held : Int32} {f_x_kept_stored : Nat → Int64} {v_x_sightings_held : Int32} {f_x_sightings_cards : Nat → Int32} {f_x_sightings_places : Nat → Int32} {f_x_finder_stepsFrom : Nat → Int32} {v_m_cards : Int32} {v_m_dealMany : Int32} {v_m_acts : Int32} {v_m_keeps : Int32} {v_m_seens : Int32} {v_m_texted : Int32} {f_m_colour : Nat → Int32} {f_m_deal : Nat → Int32} {f_m_st : Nat → Int32} {f_m_was : Nat → Int32} {f_m_kept : Nat → Int32} {f_m_seen : Nat → Int32} {f_m_text : Nat → Int32} {f_m_now : Nat → Int32} {f_m_then : Nat → Int32} {f_m_ring : Nat → Int32} {f_m_goes : Nat → Int32} {f_m_far : Nat → Int32} (y1 : Int32) (y2 : Int32) (y3 : Int32) (h : jR v_x_order v_x_text_length f_x_text_letters v_x_laid_cards v_x_laid_colours v_x_laid_acts v_x_laid_deal v_x_past_held f_x_past_stored v_x_kept_held f_x_kept_stored v_x_sightings_held f_x_sightings_cards f_x_sightings_places v_m_cards f_m_colour v_m_dealMany f_m_deal f_m_st v_m_acts f_m_was v_m_keeps f_m_kept v_m_seens f_m_seen f_m_text v_m_texted) : ∃ u v, f_X9_bring Fu y1 y2 y3 v_x_order v_x_laid_cards f_x_finder_stepsFrom = some u ∧ f_X10_bring Fu y1 y2 y3 v_m_cards f_m_st f_m_far f_m_goes f_m_now f_m_ring f_m_then = some v ∧ u.1 = v.1 ∧ jR v_x_order v_x_text_length f_x_text_letters v_x_laid_cards v_x_laid_colours v_x_laid_acts v_x_laid_deal v_x_past_held f_x_past_stored v_x_kept_held f_x_kept_stored v_x_sightings_held f_x_sightings_cards f_x_sightings_places v_m_cards f_m_colour v_m_dealMany f_m_deal f_m_st v_m_acts f_m_was v_m_keeps f_m_kept v_m_seens f_m_seen f_m_text v_m_texted := by
  have hh := h
  obtain ⟨n, h2, hn, rfl, rfl, ht, ho, hc, hd, hp, hk, hs⟩ := h
  obtain ⟨o, hpm, rfl, hl⟩ := ho.l
  unfold f_X9_bring f_X10_bring
  rcases gcard h2 hn y1 with ⟨c, hc1, rfl, e1, _, e3⟩ | ⟨_, e1, _, e3⟩
  · rw [e1, e3, some_bind', some_bind', if_neg not10, if_neg not10]
    rcases gcard h2 hn y2 with ⟨g, hg, rfl, _, e5, e6⟩ | ⟨_, _, e5, e6⟩
    · rw [e5, e6, some_bind', some_bind', if_neg not10, if_neg not10]
      by_cases q : (-1 : Int32) ≤ y3
      · obtain ⟨p, p1, p2⟩ := perm_onto hpm hc1
        obtain ⟨b, x1, x2⟩ := x_findWays h2 hn hg f_x_finder_stepsFrom
        obtain ⟨b3, m1, m2, m3⟩ := m_findFar h2 hn hg f_m_far f_m_goes f_m_now f_m_ring f_m_then
        obtain ⟨b4, m4, m5⟩ := l_asItIs hl b3.2.2.1
        have hb := ds_b hn g p
        rw [if_pos q, if_pos q, x_placeOf hn hpm p1 p2, some_bind', x1, some_bind', m1, some_bind', m4, some_bind', l_placeOf hn hpm m5 p1 p2, some_bind', jgi_n (by omega) (by omega), nI_clamp (by omega), half_m h2 hn m2 p1]
        by_cases w : y3 = -1
        · rw [if_pos w, x_few hn x2 p1, some_bind']
          subst w
          by_cases v : enc (ds n g p) < 0
          · rw [if_pos v]
            exact ⟨_, _, rfl, rfl, rfl, hh⟩
          · rw [if_neg v, if_neg (by decide)]
            exact ⟨_, _, rfl, rfl, rfl, hh⟩
        · have h0 : ¬ y3 < 0 := by
            rw [fa_lt]
            rw [fa_le] at q
            have a1 : (-1 : Int32).toInt = -1 := by decide
            have a2 : (0 : Int32).toInt = 0 := by decide
            have a3 : ¬ y3.toInt = -1 := fun z => w (by rw [fa_eq, z, a1])
            omega
          obtain ⟨k, hk31, rfl⟩ := nI_of h0
          rw [if_neg w, x_kindOn h2 hn x2 p1 hk31, some_bind']
          by_cases v : ds n g p = 99
          · rw [v, if_pos (show enc 99 < 0 by decide), if_pos (Or.inl rfl)]
            exact ⟨_, _, rfl, rfl, rfl, hh⟩
          · have ev : enc (ds n g p) = nI (ds n g p) := if_neg v
            obtain ⟨v, v1, v2⟩ := m_kindOn h2 hn m2 m3 p1 hk31 (by omega) (nI c) (nI g) f_m_st b4 b3.2.2.2.1 b3.2.2.2.2
            rw [ev, if_neg (nI_pos (by omega)), if_pos (nI_pos' hk31), v1]
            exact ⟨_, _, rfl, rfl, v2.symm, hh⟩
      · rw [if_neg q, if_neg q]
        exact ⟨_, _, rfl, rfl, rfl, hh⟩
    · rw [e5, e6, some_bind', some_bind', if_pos rfl, if_pos rfl]
      exact ⟨_, _, rfl, rfl, rfl, hh⟩
  · rw [e1, e3, some_bind', some_bind', if_pos rfl, if_pos rfl]
    exact ⟨_, _, rfl, rfl, rfl, hh⟩
