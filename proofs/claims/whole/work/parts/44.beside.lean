/-! two cards side by side -/
abbrev adj (x y : Nat) : Prop := x = y + 1 ∨ y = x + 1
def Rch (n a b : Nat) : Nat → Nat → Nat → Prop
  | 0, x, y => x = a ∧ y = b
  | d + 1, x, y => ∃ k x' y', k < 2 ∧ Rch n a b d x' y' ∧ x = go n k x' ∧ y = go n k y'
def xt (n : Nat) : Nat → Nat → Nat → Nat
  | 0, _, p => p
  | f + 1, j, p => if j ≤ 1 then p else go n (j % 2) (xt n f (j / 2) p)
theorem xt_more (n : Nat) : ∀ f j p, j < 2 ^ (f + 1) → xt n (f + 1) j p = xt n f j p
  | 0, j, p, h => by
    show (if j ≤ 1 then p else _) = p
    rw [if_pos (show j ≤ 1 by have h3 : j < 2 := h; omega)]
  | f + 1, j, p, h => by
    show (if j ≤ 1 then p else go n (j % 2) (xt n (f + 1) (j / 2) p)) = (if j ≤ 1 then p else go n (j % 2) (xt n f (j / 2) p))
    rw [xt_more n f (j / 2) p (by rw [Nat.pow_succ] at h; omega)]
theorem xt_fuel (n : Nat) (j p : Nat) (hj : j < 512) : ∀ k, xt n (8 + k) j p = xt n 8 j p
  | 0 => rfl
  | k + 1 => by
    rw [show 8 + (k + 1) = (8 + k) + 1 by omega, xt_more n (8 + k) j p (Nat.lt_of_lt_of_le hj (show 2 ^ 9 ≤ 2 ^ (8 + k + 1) from Nat.pow_le_pow_right (by decide) (by omega)))]
    exact xt_fuel n j p hj k
theorem xt_rec (n j p : Nat) (h1 : 1 < j) (hj : j < 512) : xt n 8 j p = go n (j % 2) (xt n 8 (j / 2) p) := by
  rw [← xt_fuel n j p hj 1]
  show (if j ≤ 1 then p else go n (j % 2) (xt n 8 (j / 2) p)) = _
  rw [if_neg (by omega)]
theorem xt_lt {n p : Nat} (h2 : 2 ≤ n) (hn : n ≤ 16) (hp : p < n) : ∀ f j, xt n f j p < n
  | 0, _ => hp
  | f + 1, j => by
    show (if j ≤ 1 then p else go n (j % 2) (xt n f (j / 2) p)) < n
    split
    · exact hp
    · exact go_lt h2 hn (Nat.mod_lt _ (by decide)) (xt_lt h2 hn hp f _)
theorem rch_x {n a b : Nat} : ∀ d, d ≤ 8 → ∀ x y, Rch n a b d x y ↔ ∃ j, 2 ^ d ≤ j ∧ j < 2 ^ (d + 1) ∧ x = xt n 8 j a ∧ y = xt n 8 j b
  | 0, _, x, y => by
    constructor
    · rintro ⟨rfl, rfl⟩
      exact ⟨1, by decide, by decide, rfl, rfl⟩
    · rintro ⟨j, h1, h2, rfl, rfl⟩
      have : j = 1 := by
        have h3 : j < 2 := h2
        have h4 : 1 ≤ j := h1
        omega
      subst this
      exact ⟨rfl, rfl⟩
  | d + 1, hd, x, y => by
    have p8 : 2 ^ (d + 1 + 1) ≤ 2 ^ 9 := Nat.pow_le_pow_right (by decide) (by omega)
    have p0 : 0 < 2 ^ d := Nat.two_pow_pos d
    have e1 : 2 ^ (d + 1) = 2 ^ d * 2 := Nat.pow_succ ..
    have e2 : 2 ^ (d + 1 + 1) = 2 ^ d * 2 * 2 := by rw [Nat.pow_succ, e1]
    constructor
    · rintro ⟨k, x', y', hk, hr, rfl, rfl⟩
      obtain ⟨j, h1, h2, rfl, rfl⟩ := (rch_x d (by omega) x' y').mp hr
      refine ⟨2 * j + k, by omega, by omega, ?_, ?_⟩
      · rw [xt_rec n (2 * j + k) a (by omega) (by omega), show (2 * j + k) % 2 = k by omega, show (2 * j + k) / 2 = j by omega]
      · rw [xt_rec n (2 * j + k) b (by omega) (by omega), show (2 * j + k) % 2 = k by omega, show (2 * j + k) / 2 = j by omega]
    · rintro ⟨j, h1, h2, rfl, rfl⟩
      refine ⟨j % 2, _, _, by omega, (rch_x d (by omega) _ _).mpr ⟨j / 2, by omega, by omega, rfl, rfl⟩, ?_, ?_⟩
      · exact xt_rec n j a (by omega) (by omega)
      · exact xt_rec n j b (by omega) (by omega)
theorem endW_cg {n p w w' : Nat} : ∀ k, (∀ j, j < k → w / 2 ^ j % 2 = w' / 2 ^ j % 2) → endW n w p k = endW n w' p k
  | 0, _ => rfl
  | k + 1, h => by
    show go n (w / 2 ^ k % 2) (endW n w p k) = go n (w' / 2 ^ k % 2) (endW n w' p k)
    rw [h k (by omega), endW_cg k (fun j hj => h j (by omega))]
theorem bit_low {w b d j : Nat} (hj : j < d) : (w + b * 2 ^ d) / 2 ^ j % 2 = w / 2 ^ j % 2 := by
  have e : b * 2 ^ d = (b * 2 ^ (d - j - 1) * 2) * 2 ^ j := by
    rw [show d = (d - j - 1) + 1 + j by omega, Nat.pow_add, Nat.pow_succ]
    rw [show d - j - 1 + 1 + j - j - 1 = d - j - 1 by omega]
    simp only [Nat.mul_assoc]
  rw [e, Nat.add_mul_div_right _ _ (Nat.two_pow_pos j)]
  omega
theorem rch_m {n a b : Nat} : ∀ d x y, Rch n a b d x y ↔ ∃ w, w < 2 ^ d ∧ x = endW n w a d ∧ y = endW n w b d
  | 0, x, y => by
    constructor
    · rintro ⟨rfl, rfl⟩
      exact ⟨0, by decide, rfl, rfl⟩
    · rintro ⟨w, _, rfl, rfl⟩
      exact ⟨rfl, rfl⟩
  | d + 1, x, y => by
    have p0 : 0 < 2 ^ d := Nat.two_pow_pos d
    have e1 : 2 ^ (d + 1) = 2 ^ d * 2 := Nat.pow_succ ..
    constructor
    · rintro ⟨k, x', y', hk, hr, rfl, rfl⟩
      obtain ⟨w, h1, rfl, rfl⟩ := (rch_m d x' y').mp hr
      have hb : (w + k * 2 ^ d) / 2 ^ d % 2 = k := by
        rw [Nat.add_mul_div_right _ _ p0, Nat.div_eq_of_lt h1]
        omega
      refine ⟨w + k * 2 ^ d, ?_, ?_, ?_⟩
      · rcases (show k = 0 ∨ k = 1 by omega) with rfl | rfl <;> omega
      · show _ = go n ((w + k * 2 ^ d) / 2 ^ d % 2) (endW n (w + k * 2 ^ d) a d)
        rw [hb, endW_cg (w := w + k * 2 ^ d) (w' := w) d (fun j hj => bit_low hj)]
      · show _ = go n ((w + k * 2 ^ d) / 2 ^ d % 2) (endW n (w + k * 2 ^ d) b d)
        rw [hb, endW_cg (w := w + k * 2 ^ d) (w' := w) d (fun j hj => bit_low hj)]
    · rintro ⟨w, h1, rfl, rfl⟩
      have hw : w = w % 2 ^ d + (w / 2 ^ d) * 2 ^ d := by rw [Nat.mul_comm, Nat.add_comm, Nat.div_add_mod]
      refine ⟨w / 2 ^ d % 2, _, _, Nat.mod_lt _ (by decide), (rch_m d _ _).mpr ⟨w % 2 ^ d, Nat.mod_lt _ p0, rfl, rfl⟩, ?_, ?_⟩
      · show go n (w / 2 ^ d % 2) (endW n w a d) = _
        rw [endW_cg (w := w) (w' := w % 2 ^ d) d (fun j hj => by
          have := bit_low (w := w % 2 ^ d) (b := w / 2 ^ d) hj
          rw [← hw] at this
          exact this)]
      · show go n (w / 2 ^ d % 2) (endW n w b d) = _
        rw [endW_cg (w := w) (w' := w % 2 ^ d) d (fun j hj => by
          have := bit_low (w := w % 2 ^ d) (b := w / 2 ^ d) hj
          rw [← hw] at this
          exact this)]
def hit (n a b d : Nat) : Prop := ∃ x y, Rch n a b d x y ∧ adj x y
/-- the least number of lacings, at most eight -/
def besd (n a b : Nat) (r : Int32) : Prop := (∃ d, d ≤ 8 ∧ hit n a b d ∧ (∀ e, e < d → ¬ hit n a b e) ∧ r = nI d) ∨ ((∀ d, d ≤ 8 → ¬ hit n a b d) ∧ r = -4)
theorem besd_one {n a b : Nat} {r r' : Int32} (h : besd n a b r) (h' : besd n a b r') : r = r' := by
  rcases h with ⟨d, h1, h2, h3, rfl⟩ | ⟨h1, rfl⟩
  · rcases h' with ⟨d', h1', h2', h3', rfl⟩ | ⟨h1', rfl⟩
    · rcases Nat.lt_trichotomy d d' with q | q | q
      · exact absurd h2 (h3' d q)
      · rw [q]
      · exact absurd h2' (h3 d' q)
    · exact absurd h2 (h1' d h1)
  · rcases h' with ⟨d', h1', h2', h3', rfl⟩ | ⟨h1', rfl⟩
    · exact absurd h2' (h1 d' h1')
    · rfl
theorem absd : ∀ x, x < 16 → ∀ y, y < 16 → ((jabs (nI x - nI y) = 1) ↔ adj x y) := by decide +kernel
theorem dif1 : ∀ x, x < 16 → ∀ y, y < 16 → ((nI x - nI y = 1) ↔ x = y + 1) := by decide +kernel
set_option maxRecDepth 100000 in
theorem x_depth : ∀ d, d < 9 → ∀ w, w < 256 → w < 2 ^ d → f_X0_depthOf Fu (nI (2 ^ d - 1 + w)) = some (nI d) := by decide +kernel
set_option maxRecDepth 100000 in
theorem lvl : ∀ j, j < 512 → 0 < j → ∃ d, d < 9 ∧ 2 ^ d ≤ j ∧ j < 2 ^ (d + 1) := by decide +kernel
theorem pair_d {x y : Nat} (hx : x < 16) (hy : y < 16) : nI (16 * x + y) / (16 : Int32) = nI x ∧ jrem (nI (16 * x + y)) (16 : Int32) = nI y := by
  rw [z_16, pk_div (by omega) (by decide) (by decide), jrem_n (by omega) (by decide) (by decide)]
  exact ⟨by congr 1; omega, by congr 1; omega⟩
theorem x_behind {n x y k : Nat} (h2 : 2 ≤ n) (hn : n ≤ 16) (hx : x < n) (hy : y < n) (hk : k < 2) : f_X0_pairBehind Fu (nI (16 * x + y)) (nI k) (nI n) = some (nI (16 * go n k x + go n k y)) := by
  obtain ⟨e1, e2⟩ := pair_d (show x < 16 by omega) (show y < 16 by omega)
  unfold f_X0_pairBehind
  rw [jgd_16, e1, t_goal n (by omega) h2 k hk x hx, some_bind', jgd_16, e2, t_goal n (by omega) h2 k hk y hy, some_bind', z_16, pk_mul, nI_add]
theorem x_beside {n a b : Nat} (h2 : 2 ≤ n) (hn : n ≤ 16) (ha : a < n) (hb : b < n) (tree : Nat → Int32) : ∃ u, f_X0_fewestTillNeighbours Fu (nI a) (nI b) (nI n) tree = some u ∧ besd n a b u.1 := by
  refine for_upR (fun f k s => g_X0_fewestTillNeighbours_3 Fu (nI a) (nI b) (nI n) f (nI k) s) 511 (fun k s => (∀ i, i < k → s i = nI (16 * xt n 8 (i + 1) a + xt n 8 (i + 1) b)) ∧ ∀ i, i < k → ¬ adj (xt n 8 (i + 1) a) (xt n 8 (i + 1) b)) (fun r => ∃ u, r = some u ∧ besd n a b u.1) (fun f k s hk hi => ?_) (fun f s hi => ?_) Fu 0 tree (Nat.zero_le _) (fu_lt (by omega)) ⟨fun i hi => absurd hi (by omega), fun i hi => absurd hi (by omega)⟩
  · obtain ⟨hi, hno⟩ := hi
    have la := xt_lt h2 hn ha 8 (k + 1)
    have lb := xt_lt h2 hn hb 8 (k + 1)
    obtain ⟨e1, e2⟩ := pair_d (show xt n 8 (k + 1) a < 16 by omega) (show xt n 8 (k + 1) b < 16 by omega)
    have tail : g_X0_fewestTillNeighbours_3 Fu (nI a) (nI b) (nI n) (f + 1) (nI k) s = if adj (xt n 8 (k + 1) a) (xt n 8 (k + 1) b) then (f_X0_depthOf Fu (nI k)).bind fun b1 => some (b1, upd s k (nI (16 * xt n 8 (k + 1) a + xt n 8 (k + 1) b))) else g_X0_fewestTillNeighbours_3 Fu (nI a) (nI b) (nI n) f (nI (k + 1)) (upd s k (nI (16 * xt n 8 (k + 1) a + xt n 8 (k + 1) b))) := by
      have t48 : g_X0_fewestTillNeighbours_48 Fu (nI a) (nI b) (nI n) (fun qx4 qf_o_pairTree => g_X0_fewestTillNeighbours_3 Fu (nI a) (nI b) (nI n) f qx4 qf_o_pairTree) (nI k) (nI (16 * xt n 8 (k + 1) a + xt n 8 (k + 1) b)) s = if adj (xt n 8 (k + 1) a) (xt n 8 (k + 1) b) then (f_X0_depthOf Fu (nI k)).bind fun b1 => some (b1, upd s k (nI (16 * xt n 8 (k + 1) a + xt n 8 (k + 1) b))) else g_X0_fewestTillNeighbours_3 Fu (nI a) (nI b) (nI n) f (nI (k + 1)) (upd s k (nI (16 * xt n 8 (k + 1) a + xt n 8 (k + 1) b))) := by
        unfold g_X0_fewestTillNeighbours_48
        rw [jgi_n hk (by omega), jgd_16, jgd_16, e1, e2, nI_clamp (by omega), nI_1]
        by_cases q : adj (xt n 8 (k + 1) a) (xt n 8 (k + 1) b)
        · rw [if_pos ((absd _ (by omega) _ (by omega)).mpr q), if_pos q]
        · rw [if_neg (fun z => q ((absd _ (by omega) _ (by omega)).mp z)), if_neg q]
      rw [g_X0_fewestTillNeighbours_3, z_511, if_neg (nI_ge hk (by omega))]
      by_cases q0 : k = 0
      · subst q0
        rw [if_pos (show nI 0 = (0 : Int32) from rfl), z_16, pk_mul, nI_add]
        exact t48
      · have hh := hi ((k - 1) / 2) (by omega)
        have er : ∀ p, xt n 8 (k + 1) p = go n ((k - 1) % 2) (xt n 8 ((k - 1) / 2 + 1) p) := fun p => by
          rw [xt_rec n (k + 1) p (by omega) (by omega), show (k + 1) % 2 = (k - 1) % 2 by omega, show (k + 1) / 2 = (k - 1) / 2 + 1 by omega]
        rw [if_neg (nI_ne0 (by omega) (by omega)), jgd_2, jgd_2, show nI k - (1 : Int32) = nI (k - 1) from by rw [z_1, pk_sub (by omega)], z_2, half_n (by omega), jrem_n (by omega) (by decide) (by decide), jgi_n (by omega) (by omega), nI_clamp (by omega), hh, x_behind h2 hn (xt_lt h2 hn ha 8 _) (xt_lt h2 hn hb 8 _) (by omega), some_bind', ← er a, ← er b]
        exact t48
    by_cases q : adj (xt n 8 (k + 1) a) (xt n 8 (k + 1) b)
    · refine Or.inr ?_
      show ∃ u, g_X0_fewestTillNeighbours_3 Fu (nI a) (nI b) (nI n) (f + 1) (nI k) s = some u ∧ besd n a b u.1
      obtain ⟨d, d9, d1, d2⟩ := lvl (k + 1) (by omega) (by omega)
      have hp : 2 ^ (d + 1) = 2 ^ d * 2 := Nat.pow_succ ..
      have hp8 : 2 ^ d ≤ 2 ^ 8 := Nat.pow_le_pow_right (by decide) (by omega)
      have hd := x_depth d d9 (k + 1 - 2 ^ d) (by omega) (by omega)
      rw [show 2 ^ d - 1 + (k + 1 - 2 ^ d) = k by omega] at hd
      rw [tail, if_pos q, hd, some_bind']
      refine ⟨_, rfl, Or.inl ⟨d, by omega, ⟨_, _, (rch_x d (by omega) _ _).mpr ⟨k + 1, d1, d2, rfl, rfl⟩, q⟩, ?_, rfl⟩⟩
      rintro e he ⟨x, y, hr, had⟩
      obtain ⟨j, j1, j2, rfl, rfl⟩ := (rch_x e (by omega) _ _).mp hr
      have pe : 2 ^ (e + 1) ≤ 2 ^ d := Nat.pow_le_pow_right (by decide) (by omega)
      have p0 : 0 < 2 ^ e := Nat.two_pow_pos e
      have := hno (j - 1) (by omega)
      rw [show j - 1 + 1 = j by omega] at this
      exact this had
    · refine Or.inl ⟨upd s k (nI (16 * xt n 8 (k + 1) a + xt n 8 (k + 1) b)), ⟨fun i hi2 => ?_, fun i hi2 => ?_⟩, ?_⟩
      · by_cases w : i = k
        · rw [w, pk_us]
        · rw [pk_un w]
          exact hi i (by omega)
      · by_cases w : i = k
        · rw [w]
          exact q
        · exact hno i (by omega)
      · show g_X0_fewestTillNeighbours_3 Fu (nI a) (nI b) (nI n) (f + 1) (nI k) s = _
        rw [tail, if_neg q]
  · obtain ⟨hi, hno⟩ := hi
    show ∃ u, g_X0_fewestTillNeighbours_3 Fu (nI a) (nI b) (nI n) (f + 1) (nI 511) s = some u ∧ besd n a b u.1
    rw [g_X0_fewestTillNeighbours_3, if_pos (by decide)]
    refine ⟨_, rfl, Or.inr ⟨?_, rfl⟩⟩
    rintro d hd ⟨x, y, hr, had⟩
    obtain ⟨j, j1, j2, rfl, rfl⟩ := (rch_x d hd _ _).mp hr
    have pe : 2 ^ (d + 1) ≤ 2 ^ 9 := Nat.pow_le_pow_right (by decide) (by omega)
    have p0 : 0 < 2 ^ d := Nat.two_pow_pos d
    have := hno (j - 1) (by omega)
    rw [show j - 1 + 1 = j by omega] at this
    exact this had
theorem m_beside {n a b : Nat} (h2 : 2 ≤ n) (hn : n ≤ 16) (ha : a < n) (hb : b < n) {goes : Nat → Int32} (hg : gone n goes) (y1 y2 : Int32) (st now ring then_ : Nat → Int32) : ∃ v, g_X10_beside_47 Fu y1 y2 (nI n) st Fu (nI a) (nI b) (0 : Int32) goes now ring then_ = some v ∧ besd n a b v.1 := by
  refine for_upR (fun f d (_ : Unit) => g_X10_beside_47 Fu y1 y2 (nI n) st f (nI a) (nI b) (nI d) goes now ring then_) 9 (fun d _ => ∀ e, e < d → ¬ hit n a b e) (fun r => ∃ v, r = some v ∧ besd n a b v.1) (fun f d s hd hi => ?_) (fun f s hi => ?_) Fu 0 () (Nat.zero_le _) (fu_lt (by omega)) (fun e he => absurd he (by omega))
  · show (∃ s' : Unit, (∀ e, e < d + 1 → ¬ hit n a b e) ∧ g_X10_beside_47 Fu y1 y2 (nI n) st (f + 1) (nI a) (nI b) (nI d) goes now ring then_ = g_X10_beside_47 Fu y1 y2 (nI n) st f (nI a) (nI b) (nI (d + 1)) goes now ring then_) ∨ ∃ v, g_X10_beside_47 Fu y1 y2 (nI n) st (f + 1) (nI a) (nI b) (nI d) goes now ring then_ = some v ∧ besd n a b v.1
    have hp8 : 2 ^ d ≤ 2 ^ 8 := Nat.pow_le_pow_right (by decide) (by omega)
    rw [g_X10_beside_47, z_8, if_neg (nI_nlt (by omega) (by omega))]
    refine for_upR (fun f2 w (_ : Unit) => g_X10_beside_57 Fu y1 y2 (nI n) st (fun qx3 qx4 qx5 qf_o_goes qf_o_now qf_o_ring qf_o_then => g_X10_beside_47 Fu y1 y2 (nI n) st f qx3 qx4 qx5 qf_o_goes qf_o_now qf_o_ring qf_o_then) f2 (nI a) (nI b) (nI d) (nI w) goes now ring then_) (2 ^ d) (fun w _ => ∀ w', w' < w → ¬ adj (endW n w' a d) (endW n w' b d)) (fun r => (∃ s' : Unit, (∀ e, e < d + 1 → ¬ hit n a b e) ∧ r = g_X10_beside_47 Fu y1 y2 (nI n) st f (nI a) (nI b) (nI (d + 1)) goes now ring then_) ∨ ∃ v, r = some v ∧ besd n a b v.1) (fun f2 w s hw hi2 => ?_) (fun f2 s hi2 => Or.inl ⟨(), ?_, ?_⟩) Fu 0 () (Nat.zero_le _) (fu_lt (by omega)) (fun w' hw' => absurd hw' (by omega))
    · have la := endW_lt (w := w) h2 hn ha d
      have lb := endW_lt (w := w) h2 hn hb d
      have inner : g_X10_beside_57 Fu y1 y2 (nI n) st (fun qx3 qx4 qx5 qf_o_goes qf_o_now qf_o_ring qf_o_then => g_X10_beside_47 Fu y1 y2 (nI n) st f qx3 qx4 qx5 qf_o_goes qf_o_now qf_o_ring qf_o_then) (f2 + 1) (nI a) (nI b) (nI d) (nI w) goes now ring then_ = if adj (endW n w a d) (endW n w b d) then some (nI d, goes, now, ring, then_) else g_X10_beside_57 Fu y1 y2 (nI n) st (fun qx3 qx4 qx5 qf_o_goes qf_o_now qf_o_ring qf_o_then => g_X10_beside_47 Fu y1 y2 (nI n) st f qx3 qx4 qx5 qf_o_goes qf_o_now qf_o_ring qf_o_then) f2 (nI a) (nI b) (nI d) (nI (w + 1)) goes now ring then_ := by
        rw [g_X10_beside_57, jshl_n (by omega), if_neg (nI_ge hw (by omega))]
        refine for_up (fun f3 j (s : Int32 × Int32) => g_X10_beside_76 Fu y1 y2 (nI n) st (fun qx3 qx4 qx5 qf_o_goes qf_o_now qf_o_ring qf_o_then => g_X10_beside_47 Fu y1 y2 (nI n) st f qx3 qx4 qx5 qf_o_goes qf_o_now qf_o_ring qf_o_then) (fun qx3 qx4 qx5 qx6 qf_o_goes qf_o_now qf_o_ring qf_o_then => g_X10_beside_57 Fu y1 y2 (nI n) st (fun qx3 qx4 qx5 qf_o_goes qf_o_now qf_o_ring qf_o_then => g_X10_beside_47 Fu y1 y2 (nI n) st f qx3 qx4 qx5 qf_o_goes qf_o_now qf_o_ring qf_o_then) f2 qx3 qx4 qx5 qx6 qf_o_goes qf_o_now qf_o_ring qf_o_then) f3 (nI a) (nI b) (nI d) (nI w) s.1 s.2 (nI j) goes now ring then_) d (fun j => (nI (endW n w a j), nI (endW n w b j))) _ (fun f3 j hj => ?_) (fun f3 => ?_) Fu 0 (Nat.zero_le _) (fu_lt (by omega))
        · show g_X10_beside_76 Fu y1 y2 (nI n) st _ _ (f3 + 1) (nI a) (nI b) (nI d) (nI w) (nI (endW n w a j)) (nI (endW n w b j)) (nI j) goes now ring then_ = g_X10_beside_76 Fu y1 y2 (nI n) st _ _ f3 (nI a) (nI b) (nI d) (nI w) (nI (go n (w / 2 ^ j % 2) (endW n w a j))) (nI (go n (w / 2 ^ j % 2) (endW n w b j))) (nI (j + 1)) goes now ring then_
          have c := Nat.mod_lt (w / 2 ^ j) (show 0 < 2 by decide)
          have l1 := endW_lt (w := w) h2 hn ha j
          have l3 := endW_lt (w := w) h2 hn hb j
          rw [g_X10_beside_76, if_neg (nI_ge hj (by omega)), bit_n (by omega) (by omega), z_16, pk_mul, nI_add, nI_add, jgi_n (by omega) (by omega), jgi_n (by omega) (by omega), nI_clamp (by omega), nI_clamp (by omega), hg _ _ c l1, hg _ _ c l3, nI_1]
        · show g_X10_beside_76 Fu y1 y2 (nI n) st _ _ (f3 + 1) (nI a) (nI b) (nI d) (nI w) (nI (endW n w a d)) (nI (endW n w b d)) (nI d) goes now ring then_ = _
          rw [g_X10_beside_76, if_pos (nI_le (Nat.le_refl d) (by omega)), nI_1]
          have d1 := dif1 (endW n w a d) (by omega) (endW n w b d) (by omega)
          have d2 := dif1 (endW n w b d) (by omega) (endW n w a d) (by omega)
          by_cases q1 : endW n w a d = endW n w b d + 1
          · rw [if_pos (d1.mpr q1), if_pos (Or.inl q1)]
          · rw [if_neg (fun z => q1 (d1.mp z))]
            by_cases q2 : endW n w b d = endW n w a d + 1
            · rw [if_pos (d2.mpr q2), if_pos (Or.inr q2)]
            · rw [if_neg (fun z => q2 (d2.mp z)), if_neg (fun z => z.elim q1 q2)]
      by_cases q : adj (endW n w a d) (endW n w b d)
      · rw [if_pos q] at inner
        exact Or.inr (Or.inr ⟨_, inner, Or.inl ⟨d, by omega, ⟨_, _, (rch_m d _ _).mpr ⟨w, hw, rfl, rfl⟩, q⟩, hi, rfl⟩⟩)
      · rw [if_neg q] at inner
        refine Or.inl ⟨(), fun w' hw' => ?_, inner⟩
        by_cases e : w' = w
        · rw [e]
          exact q
        · exact hi2 w' (by omega)
    · intro e he
      by_cases q : e = d
      · subst q
        rintro ⟨x, y, hr, had⟩
        obtain ⟨w, hw, rfl, rfl⟩ := (rch_m e _ _).mp hr
        exact hi2 w hw had
      · exact hi e (by omega)
    · show g_X10_beside_57 Fu y1 y2 (nI n) st _ (f2 + 1) (nI a) (nI b) (nI d) (nI (2 ^ d)) goes now ring then_ = _
      rw [g_X10_beside_57, jshl_n (by omega), if_pos (nI_le (Nat.le_refl _) (by omega)), nI_1]
  · show ∃ v, g_X10_beside_47 Fu y1 y2 (nI n) st (f + 1) (nI a) (nI b) (nI 9) goes now ring then_ = some v ∧ besd n a b v.1
    rw [g_X10_beside_47, if_pos (by decide)]
    exact ⟨_, rfl, Or.inr ⟨fun d hd => hi d (by omega), rfl⟩⟩
theorem st_beside {v_x_order : Int64} {v_x_text_length : Int32} {f_x_text_letters : Nat → Int32} {v_x_laid_cards : Int32} {v_x_laid_colours : Int32} {v_x_laid_acts : Int32} {v_x_laid_deal : Int64} {v_x_past_held : Int32} {f_x_past_stored : Nat → Int64} {v_x_kept_held : Int32} {f_x_kept_stored : Nat → Int64} {v_x_sightings_held : Int32} {f_x_sightings_cards : Nat → Int32} {f_x_sightings_places : Nat → Int32} {f_x_finder_pairTree : Nat → Int32} {v_m_cards : Int32} {v_m_dealMany : Int32} {v_m_acts : Int32} {v_m_keeps : Int32} {v_m_seens : Int32} {v_m_texted : Int32} {f_m_colour : Nat → Int32} {f_m_deal : Nat → Int32} {f_m_st : Nat → Int32} {f_m_was : Nat → Int32} {f_m_kept : Nat → Int32} {f_m_seen : Nat → Int32} {f_m_text : Nat → Int32} {f_m_now : Nat → Int32} {f_m_then : Nat → Int32} {f_m_ring : Nat → Int32} {f_m_goes : Nat → Int32} (y1 : Int32) (y2 : Int32) (h : jR v_x_order v_x_text_length f_x_text_letters v_x_laid_cards v_x_laid_colours v_x_laid_acts v_x_laid_deal v_x_past_held f_x_past_stored v_x_kept_held f_x_kept_stored v_x_sightings_held f_x_sightings_cards f_x_sightings_places v_m_cards f_m_colour v_m_dealMany f_m_deal f_m_st v_m_acts f_m_was v_m_keeps f_m_kept v_m_seens f_m_seen f_m_text v_m_texted) : ∃ u v, f_X9_beside Fu y1 y2 v_x_order v_x_laid_cards f_x_finder_pairTree = some u ∧ f_X10_beside Fu y1 y2 v_m_cards f_m_st f_m_goes f_m_now f_m_ring f_m_then = some v ∧ u.1 = v.1 ∧ jR v_x_order v_x_text_length f_x_text_letters v_x_laid_cards v_x_laid_colours v_x_laid_acts v_x_laid_deal v_x_past_held f_x_past_stored v_x_kept_held f_x_kept_stored v_x_sightings_held f_x_sightings_cards f_x_sightings_places v_m_cards f_m_colour v_m_dealMany f_m_deal f_m_st v_m_acts f_m_was v_m_keeps f_m_kept v_m_seens f_m_seen f_m_text v_m_texted := by
  have hh := h
  obtain ⟨n, h2, hn, rfl, rfl, ht, ho, hc, hd, hp, hk, hs⟩ := h
  obtain ⟨o, hpm, rfl, hl⟩ := ho.l
  unfold f_X9_beside f_X10_beside
  rcases gcard h2 hn y1 with ⟨c, hc1, rfl, e1, _, e3⟩ | ⟨_, e1, _, e3⟩
  · rw [e1, e3, some_bind', some_bind', if_neg not10, if_neg not10]
    rcases gcard h2 hn y2 with ⟨g, hg, rfl, e5, _, e6⟩ | ⟨_, e5, _, e6⟩
    · rw [e5, e6, some_bind', some_bind', if_neg not10, if_neg not10]
      by_cases q : nI c = nI g
      · rw [if_pos q, if_pos q]
        exact ⟨_, _, rfl, rfl, rfl, hh⟩
      · obtain ⟨p, p1, p2⟩ := perm_onto hpm hc1
        obtain ⟨p', p1', p2'⟩ := perm_onto hpm hg
        obtain ⟨b3, m1, m2⟩ := m_findGoes h2 hn f_m_goes f_m_now f_m_ring f_m_then
        obtain ⟨b4, m4, m5⟩ := l_asItIs hl b3.2.1
        obtain ⟨u, u1, u2⟩ := x_beside h2 hn p1 p1' f_x_finder_pairTree
        obtain ⟨v, v1, v2⟩ := m_beside h2 hn p1 p1' m2 (nI c) (nI g) f_m_st b4 b3.2.2.1 b3.2.2.2
        rw [if_neg q, if_neg q, x_placeOf hn hpm p1 p2, some_bind', x_placeOf hn hpm p1' p2', some_bind', u1, m1, some_bind', some_bind', m4, some_bind', l_placeOf hn hpm m5 p1 p2, some_bind', l_placeOf hn hpm m5 p1' p2', some_bind', v1]
        exact ⟨_, _, rfl, rfl, besd_one u2 v2, hh⟩
    · rw [e5, e6, some_bind', some_bind', if_pos rfl, if_pos rfl]
      exact ⟨_, _, rfl, rfl, rfl, hh⟩
  · rw [e1, e3, some_bind', some_bind', if_pos rfl, if_pos rfl]
    exact ⟨_, _, rfl, rfl, rfl, hh⟩
