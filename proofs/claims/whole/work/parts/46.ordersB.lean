def stm (n H : Nat) (F : Nat → Nat → Nat) (met : Nat → Int32) : Prop := (∀ i, i < H → perm n (F i) ∧ ∀ k, k < n → met (16 * i + k) = nI (F i k)) ∧ dist n H F
theorem m_isMet {n H : Nat} {F : Nat → Nat → Nat} {o : Nat → Nat} {met now : Nat → Int32} (hn : n ≤ 16) (hH : H < 128) (hs : stm n H F met) (ho : perm n o) (hl : lays n o now) : ∃ b : Bool, f_X10_isMet Fu (nI n) (nI H) met now = some (if b then 1 else 0) ∧ (b = true ↔ ∃ i, i < H ∧ same n (F i) o) := by
  refine for_upR (fun f i (s : Bool) => g_X10_isMet_4 Fu (nI n) (nI H) met now f (if s then 1 else 0) (nI i)) H (fun i s => s = true ↔ ∃ j, j < i ∧ same n (F j) o) (fun r => ∃ b : Bool, r = some (if b then 1 else 0) ∧ (b = true ↔ ∃ i, i < H ∧ same n (F i) o)) (fun f i s hi hs2 => Or.inl ?_) (fun f s hs2 => ⟨s, ?_, hs2⟩) Fu 0 false (Nat.zero_le _) (fu_lt (by omega)) ⟨fun z => absurd z Bool.false_ne_true, fun ⟨j, hj, _⟩ => absurd hj (by omega)⟩
  · show ∃ s' : Bool, (s' = true ↔ ∃ j, j < i + 1 ∧ same n (F j) o) ∧ g_X10_isMet_4 Fu (nI n) (nI H) met now (f + 1) (if s then 1 else 0) (nI i) = g_X10_isMet_4 Fu (nI n) (nI H) met now f (if s' then 1 else 0) (nI (i + 1))
    obtain ⟨hp, hm⟩ := hs.1 i hi
    rw [g_X10_isMet_4, if_neg (nI_ge hi (by omega))]
    refine for_upR (fun f2 k (t : Bool) => g_X10_isMet_17 Fu (nI n) (nI H) met now (fun qx1 qx2 => g_X10_isMet_4 Fu (nI n) (nI H) met now f qx1 qx2) f2 (if s then 1 else 0) (nI i) (if t then 1 else 0) (nI k)) n (fun k t => t = true ↔ ∀ j, j < k → F i j = o j) (fun r => ∃ s' : Bool, (s' = true ↔ ∃ j, j < i + 1 ∧ same n (F j) o) ∧ r = g_X10_isMet_4 Fu (nI n) (nI H) met now f (if s' then 1 else 0) (nI (i + 1))) (fun f2 k t hk ht => Or.inl ?_) (fun f2 t ht => ?_) Fu 0 true (Nat.zero_le _) (fu_lt (by omega)) ⟨fun _ j hj => absurd hj (by omega), fun _ => rfl⟩
    · show ∃ t' : Bool, (t' = true ↔ ∀ j, j < k + 1 → F i j = o j) ∧ g_X10_isMet_17 Fu (nI n) (nI H) met now _ (f2 + 1) (if s then 1 else 0) (nI i) (if t then 1 else 0) (nI k) = g_X10_isMet_17 Fu (nI n) (nI H) met now _ f2 (if s then 1 else 0) (nI i) (if t' then 1 else 0) (nI (k + 1))
      have b1 := hp.1 k hk
      have b2 := ho.1 k hk
      rw [g_X10_isMet_17, if_neg (nI_ge hk (by omega)), z_16, pk_mul, nI_add, jgi_n (by omega) (by omega), jgi_n (by omega) (by omega), nI_clamp (by omega), nI_clamp (by omega), hm k hk, hl.at hn hk, nI_1]
      cases t with
      | false =>
        refine ⟨false, ⟨fun z => absurd z Bool.false_ne_true, fun z => ht.mpr fun j hj => z j (by omega)⟩, ?_⟩
        rw [if_pos (show (if false = true then (1 : Int32) else 0) = 0 by decide)]
        rfl
      | true =>
        rw [if_neg (show ¬ (if true = true then (1 : Int32) else 0) = 0 by decide)]
        by_cases q : F i k = o k
        · refine ⟨true, ⟨fun _ j hj => ?_, fun _ => rfl⟩, ?_⟩
          · by_cases w : j = k
            · rw [w, q]
            · exact ht.mp rfl j (by omega)
          · rw [if_pos (by rw [q])]
            rfl
        · refine ⟨false, ⟨fun z => absurd z Bool.false_ne_true, fun z => absurd (z k (by omega)) q⟩, ?_⟩
          rw [if_neg (fun z => q ((nI_eq (by omega) (by omega)).mp z))]
          rfl
    · show ∃ s' : Bool, (s' = true ↔ ∃ j, j < i + 1 ∧ same n (F j) o) ∧ g_X10_isMet_17 Fu (nI n) (nI H) met now _ (f2 + 1) (if s then 1 else 0) (nI i) (if t then 1 else 0) (nI n) = _
      rw [g_X10_isMet_17, if_pos (nI_le (Nat.le_refl n) (by omega)), nI_1]
      cases s with
      | true =>
        refine ⟨true, ⟨fun _ => ?_, fun _ => rfl⟩, ?_⟩
        · obtain ⟨j, j1, j2⟩ := hs2.mp rfl
          exact ⟨j, by omega, j2⟩
        · rw [if_neg (show ¬ (if true = true then (1 : Int32) else 0) = 0 by decide)]
          rfl
      | false =>
        rw [if_pos (show (if false = true then (1 : Int32) else 0) = 0 by decide)]
        cases t with
        | true =>
          refine ⟨true, ⟨fun _ => ⟨i, by omega, ht.mp rfl⟩, fun _ => rfl⟩, ?_⟩
          rw [if_neg (show ¬ (if true = true then (1 : Int32) else 0) = 0 by decide)]
          rfl
        | false =>
          refine ⟨false, ⟨fun z => absurd z Bool.false_ne_true, fun ⟨j, j1, j2⟩ => ?_⟩, ?_⟩
          · by_cases w : j = i
            · rw [w] at j2
              exact ht.mpr j2
            · exact hs2.mpr ⟨j, by omega, j2⟩
          · rw [if_pos (show (if false = true then (1 : Int32) else 0) = 0 by decide)]
            rfl
  · show g_X10_isMet_4 Fu (nI n) (nI H) met now (f + 1) (if s then 1 else 0) (nI H) = _
    rw [g_X10_isMet_4, if_pos (nI_le (Nat.le_refl H) (by omega))]
    cases s
    · exact jgz_0 _
    · exact jgz_1 _
/-- the order behind a word of OUT and IN -/
def wo (n w : Nat) : Nat → Nat → Nat
  | 0 => fun k => k
  | j + 1 => fun k => wo n w j (mv n (w / 2 ^ j % 2) k)
theorem wo_perm {n w : Nat} (h2 : 2 ≤ n) (hn : n ≤ 16) : ∀ j, perm n (wo n w j)
  | 0 => perm_id n
  | j + 1 => by
    show perm n (fun k => wo n w j (mv n (w / 2 ^ j % 2) k))
    have := Nat.mod_lt (w / 2 ^ j) (show 0 < 2 by decide)
    exact perm_comp (wo_perm h2 hn j) (mv_perm h2 hn (by omega))
theorem wo_cg {n w w' : Nat} : ∀ k, (∀ j, j < k → w / 2 ^ j % 2 = w' / 2 ^ j % 2) → wo n w k = wo n w' k
  | 0, _ => rfl
  | k + 1, h => by
    show (fun x => wo n w k (mv n (w / 2 ^ k % 2) x)) = (fun x => wo n w' k (mv n (w' / 2 ^ k % 2) x))
    rw [h k (by omega), wo_cg k (fun j hj => h j (by omega))]
theorem Wr_w {n : Nat} : ∀ d o, Wr n d o ↔ ∃ w, w < 2 ^ d ∧ o = wo n w d
  | 0, o => by
    constructor
    · intro h
      exact ⟨0, by decide, h⟩
    · rintro ⟨w, _, h⟩
      exact h
  | d + 1, o => by
    have p0 : 0 < 2 ^ d := Nat.two_pow_pos d
    have e1 : 2 ^ (d + 1) = 2 ^ d * 2 := Nat.pow_succ ..
    constructor
    · rintro ⟨k, o', hk, hr, rfl⟩
      obtain ⟨w, h1, rfl⟩ := (Wr_w d o').mp hr
      have hb : (w + k * 2 ^ d) / 2 ^ d % 2 = k := by
        rw [Nat.add_mul_div_right _ _ p0, Nat.div_eq_of_lt h1]
        omega
      refine ⟨w + k * 2 ^ d, ?_, ?_⟩
      · rcases (show k = 0 ∨ k = 1 by omega) with rfl | rfl <;> omega
      · show _ = fun x => wo n (w + k * 2 ^ d) d (mv n ((w + k * 2 ^ d) / 2 ^ d % 2) x)
        rw [hb, wo_cg (w := w + k * 2 ^ d) (w' := w) d (fun j hj => bit_low hj)]
    · rintro ⟨w, h1, rfl⟩
      have hw : w = w % 2 ^ d + (w / 2 ^ d) * 2 ^ d := by rw [Nat.mul_comm, Nat.add_comm, Nat.div_add_mod]
      refine ⟨w / 2 ^ d % 2, _, Nat.mod_lt _ (by decide), (Wr_w d _).mpr ⟨w % 2 ^ d, Nat.mod_lt _ p0, rfl⟩, ?_⟩
      show (fun x => wo n w d (mv n (w / 2 ^ d % 2) x)) = _
      rw [wo_cg (w := w) (w' := w % 2 ^ d) d (fun j hj => by
        have := bit_low (w := w % 2 ^ d) (b := w / 2 ^ d) hj
        rw [← hw] at this
        exact this)]
theorem m_orders {n k : Nat} (h2 : 2 ≤ n) (hn : n ≤ 16) (hk : k ≤ 6) (met now ring then_ : Nat → Int32) : ∃ H F v, g_X10_orders_19 Fu (nI k) (nI n) Fu (0 : Int32) (0 : Int32) met now ring then_ = some v ∧ v.1 = nI H ∧ dist n H F ∧ (∀ i, i < H → ∃ d, d ≤ k ∧ Wr n d (F i)) ∧ has n k H F := by
  refine for_upR (fun f s (t : Int32 × (Nat → Int32) × (Nat → Int32) × (Nat → Int32) × (Nat → Int32)) => g_X10_orders_19 Fu (nI k) (nI n) f (nI s) t.1 t.2.1 t.2.2.1 t.2.2.2.1 t.2.2.2.2) (k + 1) (fun s t => ∃ H F, t.1 = nI H ∧ H < 2 ^ s ∧ stm n H F t.2.1 ∧ (∀ i, i < H → ∃ d, d < s ∧ Wr n d (F i)) ∧ ∀ d o, d < s → Wr n d o → ∃ j, j < H ∧ same n (F j) o) (fun r => ∃ H F v, r = some v ∧ v.1 = nI H ∧ dist n H F ∧ (∀ i, i < H → ∃ d, d ≤ k ∧ Wr n d (F i)) ∧ has n k H F) (fun f s t hs hi => Or.inl ?_) (fun f t hi => ?_) Fu 0 (0, met, now, ring, then_) (Nat.zero_le _) (fu_lt (by omega)) ⟨0, fun _ k => k, rfl, by decide, ⟨fun i hi => absurd hi (by omega), fun i j _ hj => absurd hj (by omega)⟩, fun i hi => absurd hi (by omega), fun d o hd => absurd hd (by omega)⟩
  · obtain ⟨mm, met, now, ring, then_⟩ := t
    obtain ⟨E, F0, e1, b1, hst, hfr, hha⟩ := hi
    dsimp only at e1 hst
    subst e1
    have pk6 : 2 ^ s ≤ 2 ^ 6 := Nat.pow_le_pow_right (by decide) (by omega)
    have ps : 2 ^ (s + 1) = 2 ^ s * 2 := Nat.pow_succ ..
    show ∃ s', _ ∧ g_X10_orders_19 Fu (nI k) (nI n) (f + 1) (nI s) (nI E) met now ring then_ = _
    rw [g_X10_orders_19, if_neg (nI_nlt (by omega) (by omega))]
    refine for_upR (fun f2 w (t : Int32 × (Nat → Int32) × (Nat → Int32) × (Nat → Int32) × (Nat → Int32)) => g_X10_orders_26 Fu (nI k) (nI n) (fun qx2 qv_o_metMany qf_o_met qf_o_now qf_o_ring qf_o_then => g_X10_orders_19 Fu (nI k) (nI n) f qx2 qv_o_metMany qf_o_met qf_o_now qf_o_ring qf_o_then) f2 (nI s) (nI w) t.1 t.2.1 t.2.2.1 t.2.2.2.1 t.2.2.2.2) (2 ^ s) (fun w t => ∃ H F, t.1 = nI H ∧ H < 2 ^ s + w ∧ stm n H F t.2.1 ∧ (∀ i, i < H → ∃ d, d < s + 1 ∧ Wr n d (F i)) ∧ (∀ d o, d < s → Wr n d o → ∃ j, j < H ∧ same n (F j) o) ∧ ∀ w', w' < w → ∃ j, j < H ∧ same n (F j) (wo n w' s)) (fun r => ∃ s' : Int32 × (Nat → Int32) × (Nat → Int32) × (Nat → Int32) × (Nat → Int32), (∃ H F, s'.1 = nI H ∧ H < 2 ^ (s + 1) ∧ stm n H F s'.2.1 ∧ (∀ i, i < H → ∃ d, d < s + 1 ∧ Wr n d (F i)) ∧ ∀ d o, d < s + 1 → Wr n d o → ∃ j, j < H ∧ same n (F j) o) ∧ r = g_X10_orders_19 Fu (nI k) (nI n) f (nI (s + 1)) s'.1 s'.2.1 s'.2.2.1 s'.2.2.2.1 s'.2.2.2.2) (fun f2 w t hw hi => Or.inl ?_) (fun f2 t hi => ?_) Fu 0 (nI E, met, now, ring, then_) (Nat.zero_le _) (fu_lt (by omega)) ⟨E, F0, rfl, by omega, hst, fun i hi => ?_, hha, fun w' hw' => absurd hw' (by omega)⟩
    · obtain ⟨mm, met, now, ring, then_⟩ := t
      obtain ⟨H, F, e1, c1, hst, hfr, hh1, hh2⟩ := hi
      dsimp only at e1 hst
      subst e1
      obtain ⟨b1, g1, g2⟩ := l_lies n now
      show ∃ s', _ ∧ g_X10_orders_26 Fu (nI k) (nI n) _ (f2 + 1) (nI s) (nI w) (nI H) met now ring then_ = _
      rw [g_X10_orders_26, jshl_n (by omega), if_neg (nI_ge hw (by omega)), g1, some_bind']
      refine for_upR (fun f3 j (t : (Nat → Int32) × (Nat → Int32) × (Nat → Int32)) => g_X10_orders_43 Fu (nI k) (nI n) (fun qx2 qv_o_metMany qf_o_met qf_o_now qf_o_ring qf_o_then => g_X10_orders_19 Fu (nI k) (nI n) f qx2 qv_o_metMany qf_o_met qf_o_now qf_o_ring qf_o_then) (fun qx2 qx3 qv_o_metMany qf_o_met qf_o_now qf_o_ring qf_o_then => g_X10_orders_26 Fu (nI k) (nI n) (fun qx2 qv_o_metMany qf_o_met qf_o_now qf_o_ring qf_o_then => g_X10_orders_19 Fu (nI k) (nI n) f qx2 qv_o_metMany qf_o_met qf_o_now qf_o_ring qf_o_then) f2 qx2 qx3 qv_o_metMany qf_o_met qf_o_now qf_o_ring qf_o_then) f3 (nI s) (nI w) (nI j) (nI H) met t.1 t.2.1 t.2.2) s (fun j t => lays n (wo n w j) t.1) (fun r => ∃ s' : Int32 × (Nat → Int32) × (Nat → Int32) × (Nat → Int32) × (Nat → Int32), (∃ H F, s'.1 = nI H ∧ H < 2 ^ s + (w + 1) ∧ stm n H F s'.2.1 ∧ (∀ i, i < H → ∃ d, d < s + 1 ∧ Wr n d (F i)) ∧ (∀ d o, d < s → Wr n d o → ∃ j, j < H ∧ same n (F j) o) ∧ ∀ w', w' < w + 1 → ∃ j, j < H ∧ same n (F j) (wo n w' s)) ∧ r = g_X10_orders_26 Fu (nI k) (nI n) (fun qx2 qv_o_metMany qf_o_met qf_o_now qf_o_ring qf_o_then => g_X10_orders_19 Fu (nI k) (nI n) f qx2 qv_o_metMany qf_o_met qf_o_now qf_o_ring qf_o_then) f2 (nI s) (nI (w + 1)) s'.1 s'.2.1 s'.2.2.1 s'.2.2.2.1 s'.2.2.2.2) (fun f3 j t hj hi => Or.inl ?_) (fun f3 t hi => ?_) Fu 0 (b1, ring, then_) (Nat.zero_le _) (fu_lt (by omega)) g2
      · have hb := Nat.mod_lt (w / 2 ^ j) (show 0 < 2 by decide)
        obtain ⟨b3, g3, g4⟩ := l_acts h2 hn (show w / 2 ^ j % 2 < 6 + n by omega) hi t.2.1 t.2.2
        refine ⟨b3, g4, ?_⟩
        show g_X10_orders_43 Fu (nI k) (nI n) _ _ (f3 + 1) (nI s) (nI w) (nI j) (nI H) met t.1 t.2.1 t.2.2 = g_X10_orders_43 Fu (nI k) (nI n) _ _ f3 (nI s) (nI w) (nI (j + 1)) (nI H) met b3.1 b3.2.1 b3.2.2
        rw [g_X10_orders_43, if_neg (nI_ge hj (by omega)), bit_n (by omega) (by omega), g3, some_bind', nI_1]
      · have hwp := wo_perm (w := w) h2 hn s
        obtain ⟨bl, q1, q2⟩ := m_isMet hn (by omega) hst hwp hi
        have hW : Wr n s (wo n w s) := (Wr_w s _).mpr ⟨w, hw, rfl⟩
        have er : g_X10_orders_43 Fu (nI k) (nI n) (fun qx2 qv_o_metMany qf_o_met qf_o_now qf_o_ring qf_o_then => g_X10_orders_19 Fu (nI k) (nI n) f qx2 qv_o_metMany qf_o_met qf_o_now qf_o_ring qf_o_then) (fun qx2 qx3 qv_o_metMany qf_o_met qf_o_now qf_o_ring qf_o_then => g_X10_orders_26 Fu (nI k) (nI n) (fun qx2 qv_o_metMany qf_o_met qf_o_now qf_o_ring qf_o_then => g_X10_orders_19 Fu (nI k) (nI n) f qx2 qv_o_metMany qf_o_met qf_o_now qf_o_ring qf_o_then) f2 qx2 qx3 qv_o_metMany qf_o_met qf_o_now qf_o_ring qf_o_then) (f3 + 1) (nI s) (nI w) (nI s) (nI H) met t.1 t.2.1 t.2.2 = g_X10_orders_26 Fu (nI k) (nI n) (fun qx2 qv_o_metMany qf_o_met qf_o_now qf_o_ring qf_o_then => g_X10_orders_19 Fu (nI k) (nI n) f qx2 qv_o_metMany qf_o_met qf_o_now qf_o_ring qf_o_then) f2 (nI s) (nI (w + 1)) (nI (if bl then H else H + 1)) (if bl then met else cp (16 * H) 0 16 t.1 met) t.1 t.2.1 t.2.2 := by
          rw [g_X10_orders_43, if_pos (nI_le (Nat.le_refl s) (by omega)), q1, some_bind', nI_1]
          cases bl with
          | true =>
            rw [if_neg (show ¬ (if true = true then (1 : Int32) else 0) = 0 by decide)]
            rfl
          | false =>
            rw [if_pos (show (if false = true then (1 : Int32) else 0) = 0 by decide), z_16, pk_mul, show (0 : Int32) = nI 0 from rfl, m_copies (by omega) (by omega) (by omega) (by omega), some_bind', nI_1]
            rfl
        refine ⟨(nI (if bl then H else H + 1), if bl then met else cp (16 * H) 0 16 t.1 met, t.1, t.2.1, t.2.2), ?_, er⟩
        cases bl with
        | true =>
          refine ⟨H, F, rfl, by omega, hst, hfr, hh1, fun w' hw' => ?_⟩
          by_cases v : w' = w
          · rw [v]
            exact q2.mp rfl
          · exact hh2 w' (by omega)
        | false =>
          refine ⟨H + 1, fun i => if i = H then wo n w s else F i, rfl, by omega, ⟨fun i hi2 => ?_, fun i j hij hj => ?_⟩, fun i hi2 => ?_, fun d o hd ho => ?_, fun w' hw' => ?_⟩
          · show perm n (if i = H then wo n w s else F i) ∧ ∀ k, k < n → cp (16 * H) 0 16 t.1 met (16 * i + k) = nI ((if i = H then wo n w s else F i) k)
            by_cases v : i = H
            · rw [if_pos v, v]
              refine ⟨hwp, fun k hk => ?_⟩
              rw [cp_in (by omega), Nat.zero_add]
              exact hi.at hn hk
            · rw [if_neg v]
              refine ⟨(hst.1 i (by omega)).1, fun k hk => ?_⟩
              rw [cp_out (by omega)]
              exact (hst.1 i (by omega)).2 k hk
          · dsimp only
            rw [if_neg (by omega)]
            by_cases v : j = H
            · rw [if_pos v]
              intro z
              exact Bool.false_ne_true (q2.mpr ⟨i, by omega, z⟩)
            · rw [if_neg v]
              exact hst.2 i j hij (by omega)
          · dsimp only
            by_cases v : i = H
            · rw [if_pos v]
              exact ⟨s, by omega, hW⟩
            · rw [if_neg v]
              exact hfr i (by omega)
          · obtain ⟨j, j1, j2⟩ := hh1 d o hd ho
            exact ⟨j, by omega, by dsimp only; rw [if_neg (by omega)]; exact j2⟩
          · by_cases v : w' = w
            · exact ⟨H, by omega, by dsimp only; rw [if_pos rfl, v]; exact fun k hk => rfl⟩
            · obtain ⟨j, j1, j2⟩ := hh2 w' (by omega)
              exact ⟨j, by omega, by dsimp only; rw [if_neg (by omega)]; exact j2⟩
    · obtain ⟨mm, met, now, ring, then_⟩ := t
      obtain ⟨H, F, e1, c1, hst, hfr, hh1, hh2⟩ := hi
      dsimp only at e1 hst
      subst e1
      refine ⟨(nI H, met, now, ring, then_), ⟨H, F, rfl, by omega, hst, hfr, fun d o hd ho => ?_⟩, ?_⟩
      · by_cases v : d < s
        · exact hh1 d o v ho
        · have : d = s := by omega
          subst this
          obtain ⟨w, w1, rfl⟩ := (Wr_w d o).mp ho
          exact hh2 w w1
      · show g_X10_orders_26 Fu (nI k) (nI n) _ (f2 + 1) (nI s) (nI (2 ^ s)) (nI H) met now ring then_ = _
        rw [g_X10_orders_26, jshl_n (by omega), if_pos (nI_le (Nat.le_refl _) (by omega)), nI_1]
    · obtain ⟨d, d1, d2⟩ := hfr i hi
      exact ⟨d, by omega, d2⟩
  · obtain ⟨mm, met, now, ring, then_⟩ := t
    obtain ⟨E, F, e1, b1, hst, hfr, hha⟩ := hi
    dsimp only at e1 hst
    subst e1
    refine ⟨E, F, (nI E, nI E, met, now, ring, then_), ?_, rfl, hst.2, fun i hi => ?_, fun d o hd ho => hha d o (by omega) ho⟩
    · show g_X10_orders_19 Fu (nI k) (nI n) (f + 1) (nI (k + 1)) (nI E) met now ring then_ = _
      rw [g_X10_orders_19, if_pos (nI_lt (by omega) (by omega))]
    · obtain ⟨d, d1, d2⟩ := hfr i hi
      exact ⟨d, by omega, d2⟩
theorem st_orders {v_x_order : Int64} {v_x_text_length : Int32} {f_x_text_letters : Nat → Int32} {v_x_laid_cards : Int32} {v_x_laid_colours : Int32} {v_x_laid_acts : Int32} {v_x_laid_deal : Int64} {v_x_past_held : Int32} {f_x_past_stored : Nat → Int64} {v_x_kept_held : Int32} {f_x_kept_stored : Nat → Int64} {v_x_sightings_held : Int32} {f_x_sightings_cards : Nat → Int32} {f_x_sightings_places : Nat → Int32} {f_x_finder_found : Nat → Int64} {v_m_cards : Int32} {v_m_dealMany : Int32} {v_m_acts : Int32} {v_m_keeps : Int32} {v_m_seens : Int32} {v_m_texted : Int32} {v_m_metMany : Int32} {f_m_colour : Nat → Int32} {f_m_deal : Nat → Int32} {f_m_st : Nat → Int32} {f_m_was : Nat → Int32} {f_m_kept : Nat → Int32} {f_m_seen : Nat → Int32} {f_m_text : Nat → Int32} {f_m_now : Nat → Int32} {f_m_then : Nat → Int32} {f_m_ring : Nat → Int32} {f_m_met : Nat → Int32} (y1 : Int32) (h : jR v_x_order v_x_text_length f_x_text_letters v_x_laid_cards v_x_laid_colours v_x_laid_acts v_x_laid_deal v_x_past_held f_x_past_stored v_x_kept_held f_x_kept_stored v_x_sightings_held f_x_sightings_cards f_x_sightings_places v_m_cards f_m_colour v_m_dealMany f_m_deal f_m_st v_m_acts f_m_was v_m_keeps f_m_kept v_m_seens f_m_seen f_m_text v_m_texted) : ∃ u v, f_X9_orders Fu y1 v_x_laid_cards f_x_finder_found = some u ∧ f_X10_orders Fu y1 v_m_cards v_m_metMany f_m_met f_m_now f_m_ring f_m_then = some v ∧ u.1 = v.1 ∧ jR v_x_order v_x_text_length f_x_text_letters v_x_laid_cards v_x_laid_colours v_x_laid_acts v_x_laid_deal v_x_past_held f_x_past_stored v_x_kept_held f_x_kept_stored v_x_sightings_held f_x_sightings_cards f_x_sightings_places v_m_cards f_m_colour v_m_dealMany f_m_deal f_m_st v_m_acts f_m_was v_m_keeps f_m_kept v_m_seens f_m_seen f_m_text v_m_texted := by
  have hh := h
  obtain ⟨n, h2, hn, rfl, rfl, ht, ho, hc, hd, hp, hk, hs⟩ := h
  unfold f_X9_orders f_X10_orders
  rcases gin_n (lo := 0) (hi := 6) (by omega) (by omega) y1 with ⟨k, _, hk6, rfl, e1, e2⟩ | ⟨_, e1, e2⟩
  · rw [show f_X9_within Fu (nI k) (0 : Int32) (6 : Int32) = some 1 from e1, show f_X10_in Fu (nI k) (0 : Int32) (6 : Int32) = some 1 from e2, some_bind', some_bind', if_neg not10, if_neg not10]
    obtain ⟨H, F, found, x1, x2, x3, x4⟩ := x_orders h2 hn hk6 f_x_finder_found
    obtain ⟨K, G, v, m1, m2, m3, m4, m5⟩ := m_orders h2 hn hk6 f_m_met f_m_now f_m_ring f_m_then
    have l1 : H ≤ K := cnt_le x2 (fun i hi => by
      obtain ⟨d, d1, d2⟩ := x3 i hi
      obtain ⟨j, j1, j2⟩ := m5 d _ d1 d2
      exact ⟨j, j1, j2.sy⟩)
    have l3 : K ≤ H := cnt_le m3 (fun i hi => by
      obtain ⟨d, d1, d2⟩ := m4 i hi
      obtain ⟨j, j1, j2⟩ := x4 d _ d1 d2
      exact ⟨j, j1, j2.sy⟩)
    rw [x1, m1]
    refine ⟨_, _, rfl, rfl, ?_, hh⟩
    show nI H = v.1
    rw [m2, show H = K by omega]
  · rw [show f_X9_within Fu y1 (0 : Int32) (6 : Int32) = some 0 from e1, show f_X10_in Fu y1 (0 : Int32) (6 : Int32) = some 0 from e2, some_bind', some_bind', if_pos rfl, if_pos rfl]
    exact ⟨_, _, rfl, rfl, rfl, hh⟩
