/-! the class's ways -/
def dl (o : Nat → Nat) (c p : Nat) : Nat := if p < c then o (c - 1 - p) else o p
def uC (col o : Nat → Nat) (c i : Nat) : Nat := col (o (c - 1 - i))
def vC (col o : Nat → Nat) (c j : Nat) : Nat := col (o (c + j))
theorem dl_lt {n c : Nat} {o : Nat → Nat} (hn : n ≤ 16) (hc : c ≤ n) (ho : perm n o) : ∀ p, p < n → dl o c p < 16 := fun p hp => by
  unfold dl
  split
  · exact ho.lt hn _ (by omega)
  · exact ho.lt hn _ hp
theorem x_dealtOff {n c : Nat} {o : Nat → Nat} (hn : n ≤ 16) (hc : c ≤ n) (ho : perm n o) : f_X2_dealtOff Fu (lN (pk n o)) (nI c) (nI n) = some (lN (pk n (dl o c))) := by
  refine for_up (fun f k s => g_X2_dealtOff_6 Fu (lN (pk n o)) (nI c) (nI n) f s (nI k)) n (fun k => lN (pk k (dl o c))) _ (fun f k hk => ?_) (fun f => ?_) Fu 0 (Nat.zero_le _) (fu_lt (by omega))
  · show g_X2_dealtOff_6 Fu (lN (pk n o)) (nI c) (nI n) (f + 1) (lN (pk k (dl o c))) (nI k) = g_X2_dealtOff_6 Fu (lN (pk n o)) (nI c) (nI n) f (lN (pk (k + 1) (dl o c))) (nI (k + 1))
    have hp : ∀ v, dl o c k = v → v < 16 → f_X4_with Fu (lN (pk k (dl o c))) (nI k) (nI v) = some (lN (pk (k + 1) (dl o c))) := fun v e hv => x_put (by omega) (fun j hj => dl_lt hn hc ho j (by omega)) hv e
    rw [g_X2_dealtOff_6, if_neg (nI_ge hk (by omega))]
    by_cases q : c ≤ k
    · rw [if_pos (nI_le q (by omega)), x_at hn (ho.lt hn) hk, some_bind', hp (o k) (if_neg (by omega)) (ho.lt hn _ hk), some_bind', nI_1]
    · rw [if_neg (nI_ge (by omega) (by omega)), z_1, pk_sub (by omega), pk_sub (by omega), x_at hn (ho.lt hn) (by omega), some_bind', hp (o (c - 1 - k)) (if_pos (by omega)) (ho.lt hn _ (by omega)), some_bind', nI_add]
  · show g_X2_dealtOff_6 Fu (lN (pk n o)) (nI c) (nI n) (f + 1) (lN (pk n (dl o c))) (nI n) = _
    rw [g_X2_dealtOff_6, if_pos (nI_le (Nat.le_refl n) (by omega))]
theorem x_unlikeAt {n p q : Nat} {d col : Nat → Nat} {lcol : Int32} {colour : Nat → Int32} (hn : n ≤ 16) (hv : coloured lcol colour col) (hd : ∀ k, k < n → d k < 16) (hp : p < n) (hq : q < n) : f_X2_areUnlikeAt Fu (lN (pk n d)) (nI p) (nI q) lcol = some (if col (d p) = col (d q) then 0 else 1) := by
  unfold f_X2_areUnlikeAt
  rw [x_at hn hd hp, some_bind', x_at hn hd hq, some_bind', x_unlike hv (hd p hp) (hd q hq), some_bind']
  by_cases w : col (d p) = col (d q)
  · rw [if_pos w]
    exact jgz_0 _
  · rw [if_neg w]
    exact jgz_1 _
theorem x_waysOf {i j : Nat} (hi : i ≤ 16) (hj : j ≤ 16) (f : Nat → Int32) : f_X2_waysOf Fu (nI i) (nI j) f = some (f (17 * i + j)) := by
  unfold f_X2_waysOf
  rw [show f_X9_within Fu (nI i) (0 : Int32) (16 : Int32) = some 1 from by rw [show (0 : Int32) = nI 0 from rfl, show (16 : Int32) = nI 16 from rfl, (win (show i < 2 ^ 31 by omega) (show 0 < 2 ^ 31 by omega) (show 16 < 2 ^ 31 by omega)).1, if_pos (by omega)], some_bind', if_neg not10]
  rw [show f_X9_within Fu (nI j) (0 : Int32) (16 : Int32) = some 1 from by rw [show (0 : Int32) = nI 0 from rfl, show (16 : Int32) = nI 16 from rfl, (win (show j < 2 ^ 31 by omega) (show 0 < 2 ^ 31 by omega) (show 16 < 2 ^ 31 by omega)).1, if_pos (by omega)], some_bind', if_neg not10, z_17, pk_mul, nI_add, jgi_n (by omega) (by omega), nI_clamp (by omega)]
theorem x_setWays {i j : Nat} (hi : i ≤ 16) (hj : j ≤ 16) (x : Int32) (f : Nat → Int32) : f_X2_setWays Fu (nI i) (nI j) x f = some (upd f (17 * i + j) x) := by
  unfold f_X2_setWays
  rw [show f_X9_within Fu (nI i) (0 : Int32) (16 : Int32) = some 1 from by rw [show (0 : Int32) = nI 0 from rfl, show (16 : Int32) = nI 16 from rfl, (win (show i < 2 ^ 31 by omega) (show 0 < 2 ^ 31 by omega) (show 16 < 2 ^ 31 by omega)).1, if_pos (by omega)], some_bind', if_neg not10]
  rw [show f_X9_within Fu (nI j) (0 : Int32) (16 : Int32) = some 1 from by rw [show (0 : Int32) = nI 0 from rfl, show (16 : Int32) = nI 16 from rfl, (win (show j < 2 ^ 31 by omega) (show 0 < 2 ^ 31 by omega) (show 16 < 2 ^ 31 by omega)).1, if_pos (by omega)], some_bind', if_neg not10, z_17, pk_mul, nI_add, jgi_n (by omega) (by omega), nI_clamp (by omega)]
theorem x_waysNeg1 (y : Int32) (f : Nat → Int32) : f_X2_waysOf Fu (nI 0 - 1) y f = some 0 := by
  unfold f_X2_waysOf
  rw [show f_X9_within Fu (nI 0 - 1) (0 : Int32) (16 : Int32) = some 0 from by decide, some_bind', if_pos rfl]
theorem x_waysNeg2 {i : Nat} (hi : i ≤ 16) (f : Nat → Int32) : f_X2_waysOf Fu (nI i) (nI 0 - 1) f = some 0 := by
  unfold f_X2_waysOf
  rw [show f_X9_within Fu (nI i) (0 : Int32) (16 : Int32) = some 1 from by rw [show (0 : Int32) = nI 0 from rfl, show (16 : Int32) = nI 16 from rfl, (win (show i < 2 ^ 31 by omega) (show 0 < 2 ^ 31 by omega) (show 16 < 2 ^ 31 by omega)).1, if_pos (by omega)], some_bind', if_neg not10, show f_X9_within Fu (nI 0 - 1) (0 : Int32) (16 : Int32) = some 0 from by decide, some_bind', if_pos rfl]
theorem x_last95 {n c i j x g : Nat} {o col : Nat → Nat} {lcol : Int32} {colour : Nat → Int32} {f : Nat → Int32} (hn : n ≤ 16) (hv : coloured lcol colour col) (ho : perm n o) (hc : c ≤ n) (hi : i ≤ c) (hj : j ≤ n - c) (hC : 1 ≤ i → 1 ≤ j → f (17 * (i - 1) + (j - 1)) = nI g) : g_X2_waysByLastPair_95 Fu (lN (pk n (dl o c))) (nI c) (nI i) (nI j) lcol f (nI x) = some (nI (x + 2 * (if 1 ≤ i ∧ 1 ≤ j ∧ ¬ uC col o c (i - 1) = vC col o c (j - 1) then g else 0))) := by
  unfold g_X2_waysByLastPair_95
  by_cases q : 1 ≤ i
  · rw [z_1, if_neg (nI_nlt q (by omega))]
    by_cases w : 1 ≤ j
    · have d0 : dl o c (i - 1) = o (c - 1 - (i - 1)) := if_pos (by omega)
      have d1 : dl o c (c + j - 1) = o (c + (j - 1)) := by
        unfold dl
        rw [if_neg (by omega)]
        congr 1
        omega
      rw [if_neg (nI_nlt w (by omega)), pk_sub (by omega), nI_add, pk_sub (by omega), x_unlikeAt hn hv (dl_lt hn hc ho) (show i - 1 < n by omega) (show c + j - 1 < n by omega), some_bind', d0, d1]
      by_cases e : uC col o c (i - 1) = vC col o c (j - 1)
      · rw [if_pos (show col (o (c - 1 - (i - 1))) = col (o (c + (j - 1))) from e), if_pos rfl, if_neg (fun z => z.2.2 e)]
        rfl
      · rw [if_neg (show ¬ col (o (c - 1 - (i - 1))) = col (o (c + (j - 1))) from e), if_neg (by decide), if_pos ⟨q, w, e⟩, pk_sub (by omega), x_waysOf (by omega) (by omega), some_bind', hC q w, z_2, pk_mul, nI_add]
    · rw [if_pos (nI_lt (by omega) (by omega)), if_neg (fun z => w z.2.1)]
      rfl
  · rw [z_1, if_pos (nI_lt (by omega) (by omega)), if_neg (fun z => q z.1)]
    rfl
theorem x_last52 {n c i j x g g2 : Nat} {o col : Nat → Nat} {lcol : Int32} {colour : Nat → Int32} {f : Nat → Int32} (hn : n ≤ 16) (hv : coloured lcol colour col) (ho : perm n o) (hc : c ≤ n) (hi : i ≤ c) (hj : j ≤ n - c) (hB : 2 ≤ j → f (17 * i + (j - 2)) = nI g2) (hC : 1 ≤ i → 1 ≤ j → f (17 * (i - 1) + (j - 1)) = nI g) : g_X2_waysByLastPair_52 Fu (lN (pk n (dl o c))) (nI c) (nI i) (nI j) lcol f (nI x) = some (nI (x + (if 2 ≤ j ∧ ¬ vC col o c (j - 2) = vC col o c (j - 1) then g2 else 0) + 2 * (if 1 ≤ i ∧ 1 ≤ j ∧ ¬ uC col o c (i - 1) = vC col o c (j - 1) then g else 0))) := by
  unfold g_X2_waysByLastPair_52
  by_cases w : 2 ≤ j
  · have d0 : dl o c (c + j - 2) = o (c + (j - 2)) := by
      unfold dl
      rw [if_neg (by omega)]
      congr 1
      omega
    have d1 : dl o c (c + j - 1) = o (c + (j - 1)) := by
      unfold dl
      rw [if_neg (by omega)]
      congr 1
      omega
    rw [z_2, if_neg (nI_nlt w (by omega)), z_1, nI_add, pk_sub (by omega), pk_sub (by omega), x_unlikeAt hn hv (dl_lt hn hc ho) (show c + j - 2 < n by omega) (show c + j - 1 < n by omega), some_bind', d0, d1]
    by_cases e : vC col o c (j - 2) = vC col o c (j - 1)
    · rw [if_pos (show col (o (c + (j - 2))) = col (o (c + (j - 1))) from e), if_pos rfl, if_neg (fun z => z.2 e)]
      exact x_last95 hn hv ho hc hi hj hC
    · rw [if_neg (show ¬ col (o (c + (j - 2))) = col (o (c + (j - 1))) from e), if_neg (show ¬ (1 : Int32) = 0 by decide), if_pos ⟨w, e⟩, pk_sub (by omega), x_waysOf (by omega) (by omega), some_bind', hB w, nI_add]
      exact x_last95 hn hv ho hc hi hj hC
  · rw [z_2, if_pos (nI_lt (by omega) (by omega)), if_neg (fun z => w z.1)]
    exact x_last95 hn hv ho hc hi hj hC
theorem x_last {n c i j h : Nat} {o col : Nat → Nat} {lcol : Int32} {colour : Nat → Int32} {f : Nat → Int32} (hn : n ≤ 16) (hv : coloured lcol colour col) (ho : perm n o) (hc : c ≤ n) (hi : i ≤ c) (hj : j ≤ n - c) (hij : i + j = 2 * h + 2) (hA : 2 ≤ i → f (17 * (i - 2) + j) = nI (Gw (uC col o c) (vC col o c) h (i - 2))) (hB : 2 ≤ j → f (17 * i + (j - 2)) = nI (Gw (uC col o c) (vC col o c) h i)) (hC : 1 ≤ i → 1 ≤ j → f (17 * (i - 1) + (j - 1)) = nI (Gw (uC col o c) (vC col o c) h (i - 1))) : f_X2_waysByLastPair Fu (lN (pk n (dl o c))) (nI c) (nI i) (nI j) lcol f = some (nI (Gw (uC col o c) (vC col o c) (h + 1) i)) := by
  have e12 : g_X2_waysByLastPair_12 Fu (lN (pk n (dl o c))) (nI c) (nI i) (nI j) lcol f = some (nI (Gw (uC col o c) (vC col o c) (h + 1) i)) := by
    rw [Gw_rec hij]
    unfold g_X2_waysByLastPair_12
    by_cases w : 2 ≤ i
    · have d0 : dl o c (i - 2) = o (c - 1 - (i - 2)) := if_pos (by omega)
      have d1 : dl o c (i - 1) = o (c - 1 - (i - 1)) := if_pos (by omega)
      rw [z_2, if_neg (nI_nlt w (by omega)), z_1, pk_sub (by omega), pk_sub (by omega), x_unlikeAt hn hv (dl_lt hn hc ho) (show i - 2 < n by omega) (show i - 1 < n by omega), some_bind', d0, d1]
      by_cases e : uC col o c (i - 2) = uC col o c (i - 1)
      · rw [if_pos (show col (o (c - 1 - (i - 2))) = col (o (c - 1 - (i - 1))) from e), if_pos rfl, if_neg (fun z => z.2 e)]
        exact x_last52 (x := 0) hn hv ho hc hi hj hB hC
      · rw [if_neg (show ¬ col (o (c - 1 - (i - 2))) = col (o (c - 1 - (i - 1))) from e), if_neg (show ¬ (1 : Int32) = 0 by decide), if_pos ⟨w, e⟩, x_waysOf (by omega) (by omega), some_bind', hA w, z_0, nI_add, Nat.zero_add]
        exact x_last52 hn hv ho hc hi hj hB hC
    · rw [z_2, if_pos (nI_lt (by omega) (by omega)), if_neg (fun z => w z.1)]
      exact x_last52 (x := 0) hn hv ho hc hi hj hB hC
  unfold f_X2_waysByLastPair
  by_cases q : i = 0
  · subst q
    rw [if_pos (show nI 0 = (0 : Int32) from rfl), if_neg (nI_ne0 (by omega) (by omega))]
    exact e12
  · rw [if_neg (nI_ne0 (by omega) (by omega))]
    exact e12
def waysIn (u v : Nat → Nat) (n c i J : Nat) (f : Nat → Int32) : Prop := ∀ i' j', i' ≤ c → j' ≤ n - c → (i' + j') % 2 = 0 → (i' < i ∨ i' = i ∧ j' < J) → f (17 * i' + j') = nI (Gw u v ((i' + j') / 2) i')
theorem x_good {n c : Nat} {o col : Nat → Nat} {lcol : Int32} {colour : Nat → Int32} (h2 : 2 ≤ n) (hn : n ≤ 16) (hv : coloured lcol colour col) (ho : perm n o) (hc : c ≤ n) (f0 : Nat → Int32) : ∃ f', f_X2_goodWays Fu (lN (pk n o)) (nI c) (nI n) lcol f0 = some (nI (goodW (uC col o c) (vC col o c) n c), f') := by
  unfold f_X2_goodWays
  rw [x_dealtOff hn hc ho, some_bind', pk_sub hc]
  refine for_upR (fun f i s => g_X2_goodWays_24 Fu (lN (pk n o)) (nI c) (nI n) lcol f (nI (n - c)) (lN (pk n (dl o c))) (nI i) s) (c + 1) (fun i s => waysIn (uC col o c) (vC col o c) n c i 0 s) (fun r => ∃ f', r = some (nI (goodW (uC col o c) (vC col o c) n c), f')) (fun f i s hi hs => Or.inl ?_) (fun f s hs => ?_) Fu 0 f0 (Nat.zero_le _) (fu_lt (by omega)) (fun i' j' _ _ _ z => by omega)
  · show ∃ s', _ ∧ g_X2_goodWays_24 Fu (lN (pk n o)) (nI c) (nI n) lcol (f + 1) (nI (n - c)) (lN (pk n (dl o c))) (nI i) s = _
    have hm2 : i % 2 < 2 := Nat.mod_lt _ (by decide)
    rw [g_X2_goodWays_24, if_neg (nI_nlt (by omega) (by omega)), jgd_2, z_2, jrem_n (by omega) (by decide) (by decide)]
    refine for_upR (fun f2 m s => g_X2_goodWays_37 Fu (lN (pk n o)) (nI c) (nI n) lcol (fun qx5 qx6 qx8 qf_o_ways => g_X2_goodWays_24 Fu (lN (pk n o)) (nI c) (nI n) lcol f qx5 qx6 qx8 qf_o_ways) f2 (nI (n - c)) (lN (pk n (dl o c))) (nI i) (nI (i % 2 + 2 * m)) s) ((n - c + 2 - i % 2) / 2) (fun m s => waysIn (uC col o c) (vC col o c) n c i (i % 2 + 2 * m) s) (fun r => ∃ s', waysIn (uC col o c) (vC col o c) n c (i + 1) 0 s' ∧ r = g_X2_goodWays_24 Fu (lN (pk n o)) (nI c) (nI n) lcol f (nI (n - c)) (lN (pk n (dl o c))) (nI (i + 1)) s') (fun f2 m s hm hs => Or.inl ?_) (fun f2 s hs => ⟨s, fun i' j' a b d z => ?_, ?_⟩) Fu 0 s (Nat.zero_le _) (fu_lt (by omega)) (fun i' j' a b d z => hs i' j' a b d (by omega))
    · generalize hj : i % 2 + 2 * m = j
      rw [hj] at hs
      have hjn : j ≤ n - c := by omega
      have hpar : (i + j) % 2 = 0 := by omega
      refine ⟨upd s (17 * i + j) (nI (Gw (uC col o c) (vC col o c) ((i + j) / 2) i)), fun i' j' a b d z => ?_, ?_⟩
      · by_cases w : i' = i ∧ j' = j
        · obtain ⟨rfl, rfl⟩ := w
          rw [pk_us]
        · rw [pk_un (by omega)]
          exact hs i' j' a b d (by omega)
      · show g_X2_goodWays_37 Fu (lN (pk n o)) (nI c) (nI n) lcol _ (f2 + 1) (nI (n - c)) (lN (pk n (dl o c))) (nI i) (nI j) s = g_X2_goodWays_37 Fu (lN (pk n o)) (nI c) (nI n) lcol _ f2 (nI (n - c)) (lN (pk n (dl o c))) (nI i) (nI (i % 2 + 2 * (m + 1))) _
        have el : f_X2_waysByLastPair Fu (lN (pk n (dl o c))) (nI c) (nI i) (nI j) lcol s = some (nI (Gw (uC col o c) (vC col o c) ((i + j) / 2) i)) := by
          by_cases z : i + j = 0
          · have i0 : i = 0 := by omega
            have j0 : j = 0 := by omega
            subst i0
            rw [j0]
            unfold f_X2_waysByLastPair
            rw [if_pos (show nI 0 = (0 : Int32) from rfl), if_pos (show nI 0 = (0 : Int32) from rfl), show (0 + 0) / 2 = 0 from rfl, Gw_0]
            rfl
          · obtain ⟨h, hh⟩ : ∃ h, i + j = 2 * h + 2 := ⟨(i + j - 2) / 2, by omega⟩
            rw [show (i + j) / 2 = h + 1 by omega]
            refine x_last hn hv ho hc (by omega) hjn hh (fun a => ?_) (fun a => ?_) (fun a b => ?_)
            · rw [hs (i - 2) j (by omega) hjn (by omega) (by omega), show (i - 2 + j) / 2 = h by omega]
            · rw [hs i (j - 2) (by omega) (by omega) (by omega) (by omega), show (i + (j - 2)) / 2 = h by omega]
            · rw [hs (i - 1) (j - 1) (by omega) (by omega) (by omega) (by omega), show (i - 1 + (j - 1)) / 2 = h by omega]
        rw [show i % 2 + 2 * (m + 1) = j + 2 by omega, g_X2_goodWays_37, if_neg (nI_nlt hjn (by omega)), el, some_bind', x_setWays (by omega) (by omega), some_bind', z_2, nI_add]
    · refine hs i' j' a b d ?_
      omega
    · show g_X2_goodWays_37 Fu (lN (pk n o)) (nI c) (nI n) lcol _ (f2 + 1) (nI (n - c)) (lN (pk n (dl o c))) (nI i) (nI (i % 2 + 2 * ((n - c + 2 - i % 2) / 2))) s = _
      rw [g_X2_goodWays_37, if_pos (nI_lt (by omega) (by omega)), nI_1]
  · show ∃ f', g_X2_goodWays_24 Fu (lN (pk n o)) (nI c) (nI n) lcol (f + 1) (nI (n - c)) (lN (pk n (dl o c))) (nI (c + 1)) s = some (_, f')
    refine ⟨s, ?_⟩
    have hm2 : n % 2 < 2 := Nat.mod_lt _ (by decide)
    rw [g_X2_goodWays_24, if_pos (nI_lt (by omega) (by omega)), jgd_2, z_2, jrem_n (by omega) (by decide) (by decide)]
    by_cases q : n % 2 = 0
    · rw [if_pos (by rw [q]; rfl), x_waysOf (by omega) (by omega), some_bind', hs c (n - c) (Nat.le_refl _) (Nat.le_refl _) (by omega) (by omega)]
      have : n = 2 * (n / 2) := by omega
      rw [show (c + (n - c)) / 2 = n / 2 by omega, ← good_even, ← this]
    · rw [if_neg (nI_ne0 (by omega) (by omega))]
      have hodd : n = 2 * (n / 2) + 1 := by omega
      have e1 : f_X2_waysOf Fu (nI c - (1 : Int32)) (nI (n - c)) s = some (nI (if 1 ≤ c then Gw (uC col o c) (vC col o c) (n / 2) (c - 1) else 0)) := by
        by_cases w : 1 ≤ c
        · rw [z_1, pk_sub w, x_waysOf (by omega) (by omega), if_pos w, hs (c - 1) (n - c) (by omega) (Nat.le_refl _) (by omega) (by omega), show (c - 1 + (n - c)) / 2 = n / 2 by omega]
        · have : c = 0 := by omega
          subst this
          rw [x_waysNeg1, if_neg w]
          rfl
      have e2 : f_X2_waysOf Fu (nI c) (nI (n - c) - (1 : Int32)) s = some (nI (Gw (uC col o c) (vC col o c) (n / 2) c)) := by
        by_cases w : 1 ≤ n - c
        · rw [z_1, pk_sub w, x_waysOf (by omega) (by omega), hs c (n - c - 1) (by omega) (by omega) (by omega) (by omega), show (c + (n - c - 1)) / 2 = n / 2 by omega]
        · rw [show n - c = 0 by omega, x_waysNeg2 (by omega), Gw_big (by omega)]
          rfl
      rw [e1, some_bind', e2, some_bind', nI_add]
      have eg := good_odd (uC col o c) (vC col o c) (n / 2) c
      rw [← hodd] at eg
      rw [eg, Nat.add_comm]
