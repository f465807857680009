/-! ways in which two parts fall into each other, counted -/
def bt2 (w t : Nat) : Nat := w / 2 ^ t % 2
theorem bt2_lt (w t : Nat) : bt2 w t < 2 := Nat.mod_lt _ (by decide)
def pc (w : Nat) : Nat → Nat
  | 0 => 0
  | t + 1 => pc w t + bt2 w t
theorem pc_le (w : Nat) : ∀ t, pc w t ≤ t
  | 0 => Nat.le_refl _
  | t + 1 => by
    have h1 := pc_le w t
    have h2 := bt2_lt w t
    show pc w t + bt2 w t ≤ t + 1
    omega
theorem pc_mono (w t : Nat) : ∀ s, pc w t ≤ pc w (t + s) ∧ pc w (t + s) ≤ pc w t + s
  | 0 => ⟨Nat.le_refl _, Nat.le_refl _⟩
  | s + 1 => by
    have h1 := pc_mono w t s
    have h2 := bt2_lt w (t + s)
    show pc w t ≤ pc w (t + s) + bt2 w (t + s) ∧ pc w (t + s) + bt2 w (t + s) ≤ pc w t + (s + 1)
    omega
theorem pc_cg {w w' : Nat} : ∀ t, (∀ j, j < t → bt2 w j = bt2 w' j) → pc w t = pc w' t
  | 0, _ => rfl
  | t + 1, h => by
    show pc w t + bt2 w t = pc w' t + bt2 w' t
    rw [h t (by omega), pc_cg t (fun j hj => h j (by omega))]
theorem bt2_low {k b T j : Nat} (hj : j < T) : bt2 (b * 2 ^ T + k) j = bt2 k j := by
  unfold bt2
  rw [Nat.add_comm]
  exact bit_low hj
theorem bt2_top {k b T s : Nat} (hk : k < 2 ^ T) : bt2 (b * 2 ^ T + k) (T + s) = bt2 b s := by
  unfold bt2
  rw [Nat.pow_add, ← Nat.div_div_eq_div_mul, Nat.add_comm, Nat.add_mul_div_right _ _ (Nat.two_pow_pos T), Nat.div_eq_of_lt hk, Nat.zero_add]
theorem pc_low {k b T t : Nat} (ht : t ≤ T) : pc (b * 2 ^ T + k) t = pc k t := pc_cg t (fun j hj => bt2_low (by omega))
def cd (u v : Nat → Nat) (w x : Nat) : Nat := if bt2 w x = 1 then u (pc w x) else v (x - pc w x)
theorem cd_low {u v : Nat → Nat} {k b T x : Nat} (hx : x < T) : cd u v (b * 2 ^ T + k) x = cd u v k x := by
  unfold cd
  rw [bt2_low hx, pc_low (by omega)]
def Qw (u v : Nat → Nat) (h i w : Nat) : Bool := decide (pc w (2 * h) = i ∧ ∀ p, p < h → ¬ cd u v w (2 * p) = cd u v w (2 * p + 1))
def Gw (u v : Nat → Nat) (h i : Nat) : Nat := fb_ct (Qw u v h i) (2 ^ (2 * h))
theorem Qw_step {u v : Nat → Nat} {h i k b : Nat} (hk : k < 2 ^ (2 * h)) : Qw u v (h + 1) i (b * 2 ^ (2 * h) + k) = decide ((pc k (2 * h) + bt2 b 0 + bt2 b 1 = i ∧ ∀ p, p < h → ¬ cd u v k (2 * p) = cd u v k (2 * p + 1)) ∧ ¬ (if bt2 b 0 = 1 then u (pc k (2 * h)) else v (2 * h - pc k (2 * h))) = (if bt2 b 1 = 1 then u (pc k (2 * h) + bt2 b 0) else v (2 * h + 1 - (pc k (2 * h) + bt2 b 0)))) := by
  have e0 : bt2 (b * 2 ^ (2 * h) + k) (2 * h) = bt2 b 0 := bt2_top (s := 0) hk
  have e1 : bt2 (b * 2 ^ (2 * h) + k) (2 * h + 1) = bt2 b 1 := bt2_top (s := 1) hk
  have p0 : pc (b * 2 ^ (2 * h) + k) (2 * h) = pc k (2 * h) := pc_low (Nat.le_refl _)
  have p1 : pc (b * 2 ^ (2 * h) + k) (2 * h + 1) = pc k (2 * h) + bt2 b 0 := by
    show pc (b * 2 ^ (2 * h) + k) (2 * h) + bt2 (b * 2 ^ (2 * h) + k) (2 * h) = _
    rw [p0, e0]
  have p2 : pc (b * 2 ^ (2 * h) + k) (2 * (h + 1)) = pc k (2 * h) + bt2 b 0 + bt2 b 1 := by
    show pc (b * 2 ^ (2 * h) + k) (2 * h + 1) + bt2 (b * 2 ^ (2 * h) + k) (2 * h + 1) = _
    rw [p1, e1]
  have c0 : cd u v (b * 2 ^ (2 * h) + k) (2 * h) = if bt2 b 0 = 1 then u (pc k (2 * h)) else v (2 * h - pc k (2 * h)) := by
    unfold cd
    rw [e0, p0]
  have c1 : cd u v (b * 2 ^ (2 * h) + k) (2 * h + 1) = if bt2 b 1 = 1 then u (pc k (2 * h) + bt2 b 0) else v (2 * h + 1 - (pc k (2 * h) + bt2 b 0)) := by
    unfold cd
    rw [e1, p1]
  unfold Qw
  rw [Bool.eq_iff_iff]
  simp only [decide_eq_true_eq]
  rw [p2, ← c0, ← c1]
  constructor
  · rintro ⟨a, c⟩
    refine ⟨⟨a, fun p hp => ?_⟩, c h (by omega)⟩
    have := c p (by omega)
    rw [cd_low (by omega), cd_low (by omega)] at this
    exact this
  · rintro ⟨⟨a, c⟩, d⟩
    refine ⟨a, fun p hp => ?_⟩
    by_cases q : p = h
    · rw [q]
      exact d
    · rw [cd_low (by omega), cd_low (by omega)]
      exact c p (by omega)
theorem ct_if {p q : Nat → Bool} {N : Nat} {c : Prop} [Decidable c] (h : ∀ k, k < N → p k = (q k && decide c)) : fb_ct p N = if c then fb_ct q N else 0 := by
  by_cases w : c
  · rw [if_pos w]
    refine fb_ct_cong fun k hk => ?_
    rw [h k hk, decide_eq_true w, Bool.and_true]
  · rw [if_neg w]
    refine fb_ct_zero.mpr fun k hk => ?_
    rw [h k hk, decide_eq_false w, Bool.and_false]
theorem Gw_0 (u v : Nat → Nat) : Gw u v 0 0 = 1 := by
  unfold Gw
  show fb_ct (Qw u v 0 0) 1 = 1
  rw [fb_ct_succ]
  unfold Qw
  simp [pc, fb_ct]
theorem Gw_big {u v : Nat → Nat} {h i : Nat} (hi : 2 * h < i) : Gw u v h i = 0 := by
  refine fb_ct_zero.mpr fun k _ => decide_eq_false fun z => ?_
  have := pc_le k (2 * h)
  omega
theorem Gw_rec {u v : Nat → Nat} {h i j : Nat} (hij : i + j = 2 * h + 2) : Gw u v (h + 1) i = (if 2 ≤ i ∧ ¬ u (i - 2) = u (i - 1) then Gw u v h (i - 2) else 0) + (if 2 ≤ j ∧ ¬ v (j - 2) = v (j - 1) then Gw u v h i else 0) + 2 * (if 1 ≤ i ∧ 1 ≤ j ∧ ¬ u (i - 1) = v (j - 1) then Gw u v h (i - 1) else 0) := by
  have ep : 2 ^ (2 * (h + 1)) = ((0 * 2 ^ (2 * h) + 2 ^ (2 * h)) + 2 ^ (2 * h) + 2 ^ (2 * h)) + 2 ^ (2 * h) := by
    rw [show 2 * (h + 1) = 2 * h + 1 + 1 by omega, Nat.pow_succ, Nat.pow_succ]
    omega
  have m1 : 0 * 2 ^ (2 * h) + 2 ^ (2 * h) = 1 * 2 ^ (2 * h) := by omega
  have m2 : 1 * 2 ^ (2 * h) + 2 ^ (2 * h) = 2 * 2 ^ (2 * h) := by omega
  have m3 : 2 * 2 ^ (2 * h) + 2 ^ (2 * h) = 3 * 2 ^ (2 * h) := by omega
  have es : Gw u v (h + 1) i = fb_ct (fun k => Qw u v (h + 1) i (0 * 2 ^ (2 * h) + k)) (2 ^ (2 * h)) + fb_ct (fun k => Qw u v (h + 1) i (1 * 2 ^ (2 * h) + k)) (2 ^ (2 * h)) + fb_ct (fun k => Qw u v (h + 1) i (2 * 2 ^ (2 * h) + k)) (2 ^ (2 * h)) + fb_ct (fun k => Qw u v (h + 1) i (3 * 2 ^ (2 * h) + k)) (2 ^ (2 * h)) := by
    unfold Gw
    rw [ep, m1, m2, m3, fb_ct_split, ← m3, fb_ct_split, ← m2, fb_ct_split, ← m1, fb_ct_split]
    rw [show fb_ct (Qw u v (h + 1) i) (0 * 2 ^ (2 * h)) = 0 from by rw [Nat.zero_mul]; rfl, Nat.zero_add, m1, m2, m3]
  have z0 : bt2 0 0 = 0 ∧ bt2 0 1 = 0 ∧ bt2 1 0 = 1 ∧ bt2 1 1 = 0 ∧ bt2 2 0 = 0 ∧ bt2 2 1 = 1 ∧ bt2 3 0 = 1 ∧ bt2 3 1 = 1 := by decide
  obtain ⟨z1, z2, z3, z4, z5, z6, z7, z8⟩ := z0
  have n01 : ¬ (0 : Nat) = 1 := by decide
  have a0 : fb_ct (fun k => Qw u v (h + 1) i (0 * 2 ^ (2 * h) + k)) (2 ^ (2 * h)) = if 2 ≤ j ∧ ¬ v (j - 2) = v (j - 1) then Gw u v h i else 0 := by
    refine ct_if fun k hk => ?_
    have hp := pc_le k (2 * h)
    rw [Qw_step hk, z1, z2, if_neg n01, if_neg n01]
    unfold Qw
    rw [Bool.eq_iff_iff]
    simp only [decide_eq_true_eq, Bool.and_eq_true, Nat.add_zero]
    constructor
    · rintro ⟨⟨a, b⟩, c⟩
      refine ⟨⟨a, b⟩, by omega, ?_⟩
      rw [show j - 2 = 2 * h - pc k (2 * h) by omega, show j - 1 = 2 * h + 1 - pc k (2 * h) by omega]
      exact c
    · rintro ⟨⟨a, b⟩, c, d⟩
      rw [show j - 2 = 2 * h - pc k (2 * h) by omega, show j - 1 = 2 * h + 1 - pc k (2 * h) by omega] at d
      exact ⟨⟨a, b⟩, d⟩
  have a1 : fb_ct (fun k => Qw u v (h + 1) i (1 * 2 ^ (2 * h) + k)) (2 ^ (2 * h)) = if 1 ≤ i ∧ 1 ≤ j ∧ ¬ u (i - 1) = v (j - 1) then Gw u v h (i - 1) else 0 := by
    refine ct_if fun k hk => ?_
    have hp := pc_le k (2 * h)
    rw [Qw_step hk, z3, z4, if_pos rfl, if_neg n01]
    unfold Qw
    rw [Bool.eq_iff_iff]
    simp only [decide_eq_true_eq, Bool.and_eq_true, Nat.add_zero]
    constructor
    · rintro ⟨⟨a, b⟩, c⟩
      refine ⟨⟨by omega, b⟩, by omega, by omega, ?_⟩
      rw [show i - 1 = pc k (2 * h) by omega, show j - 1 = 2 * h + 1 - (pc k (2 * h) + 1) by omega]
      exact c
    · rintro ⟨⟨a, b⟩, c, c', d⟩
      rw [show i - 1 = pc k (2 * h) by omega, show j - 1 = 2 * h + 1 - (pc k (2 * h) + 1) by omega] at d
      exact ⟨⟨by omega, b⟩, d⟩
  have a2 : fb_ct (fun k => Qw u v (h + 1) i (2 * 2 ^ (2 * h) + k)) (2 ^ (2 * h)) = if 1 ≤ i ∧ 1 ≤ j ∧ ¬ u (i - 1) = v (j - 1) then Gw u v h (i - 1) else 0 := by
    refine ct_if fun k hk => ?_
    have hp := pc_le k (2 * h)
    rw [Qw_step hk, z5, z6, if_neg n01, if_pos rfl]
    unfold Qw
    rw [Bool.eq_iff_iff]
    simp only [decide_eq_true_eq, Bool.and_eq_true, Nat.add_zero]
    constructor
    · rintro ⟨⟨a, b⟩, c⟩
      refine ⟨⟨by omega, b⟩, by omega, by omega, ?_⟩
      rw [show i - 1 = pc k (2 * h) by omega, show j - 1 = 2 * h - pc k (2 * h) by omega]
      exact fun z => c z.symm
    · rintro ⟨⟨a, b⟩, c, c', d⟩
      rw [show i - 1 = pc k (2 * h) by omega, show j - 1 = 2 * h - pc k (2 * h) by omega] at d
      exact ⟨⟨by omega, b⟩, fun z => d z.symm⟩
  have a3 : fb_ct (fun k => Qw u v (h + 1) i (3 * 2 ^ (2 * h) + k)) (2 ^ (2 * h)) = if 2 ≤ i ∧ ¬ u (i - 2) = u (i - 1) then Gw u v h (i - 2) else 0 := by
    refine ct_if fun k hk => ?_
    have hp := pc_le k (2 * h)
    rw [Qw_step hk, z7, z8, if_pos rfl, if_pos rfl]
    unfold Qw
    rw [Bool.eq_iff_iff]
    simp only [decide_eq_true_eq, Bool.and_eq_true]
    constructor
    · rintro ⟨⟨a, b⟩, c⟩
      refine ⟨⟨by omega, b⟩, by omega, ?_⟩
      rw [show i - 2 = pc k (2 * h) by omega, show i - 1 = pc k (2 * h) + 1 by omega]
      exact c
    · rintro ⟨⟨a, b⟩, c, d⟩
      rw [show i - 2 = pc k (2 * h) by omega, show i - 1 = pc k (2 * h) + 1 by omega] at d
      exact ⟨⟨by omega, b⟩, d⟩
  rw [es, a0, a1, a2, a3]
  omega
/-- all masks of n places with c ones, and the good ones among them -/
def goodW (u v : Nat → Nat) (n c : Nat) : Nat := fb_ct (fun w => decide (pc w n = c ∧ ∀ p, p < n / 2 → ¬ cd u v w (2 * p) = cd u v w (2 * p + 1))) (2 ^ n)
def allW (n c : Nat) : Nat := fb_ct (fun w => decide (pc w n = c)) (2 ^ n)
theorem good_even (u v : Nat → Nat) (h c : Nat) : goodW u v (2 * h) c = Gw u v h c := by
  unfold goodW Gw Qw
  rw [show 2 * h / 2 = h by omega]
theorem good_odd (u v : Nat → Nat) (h c : Nat) : goodW u v (2 * h + 1) c = Gw u v h c + (if 1 ≤ c then Gw u v h (c - 1) else 0) := by
  unfold goodW
  rw [show (2 * h + 1) / 2 = h by omega, Nat.pow_succ, Nat.mul_two, fb_ct_split]
  congr 1
  · refine fb_ct_cong fun k hk => ?_
    unfold Qw
    rw [Bool.eq_iff_iff]
    simp only [decide_eq_true_eq]
    have e : bt2 k (2 * h) = 0 := by
      unfold bt2
      rw [Nat.div_eq_of_lt hk]
    show (pc k (2 * h) + bt2 k (2 * h) = c ∧ _) ↔ _
    rw [e, Nat.add_zero]
  · refine ct_if (q := Qw u v h (c - 1)) fun k hk => ?_
    unfold Qw
    rw [Bool.eq_iff_iff]
    simp only [decide_eq_true_eq, Bool.and_eq_true]
    have er : 2 ^ (2 * h) + k = 1 * 2 ^ (2 * h) + k := by omega
    rw [er]
    have e : bt2 (1 * 2 ^ (2 * h) + k) (2 * h) = 1 := bt2_top (s := 0) hk
    have p0 : pc (1 * 2 ^ (2 * h) + k) (2 * h) = pc k (2 * h) := pc_low (Nat.le_refl _)
    have p1 : pc (1 * 2 ^ (2 * h) + k) (2 * h + 1) = pc k (2 * h) + 1 := by
      show pc (1 * 2 ^ (2 * h) + k) (2 * h) + bt2 (1 * 2 ^ (2 * h) + k) (2 * h) = _
      rw [p0, e]
    rw [p1]
    constructor
    · rintro ⟨a, b⟩
      refine ⟨⟨by omega, fun p hp => ?_⟩, by omega⟩
      have := b p hp
      rw [cd_low (by omega), cd_low (by omega)] at this
      exact this
    · rintro ⟨⟨a, b⟩, c1⟩
      refine ⟨by omega, fun p hp => ?_⟩
      rw [cd_low (by omega), cd_low (by omega)]
      exact b p hp
def cb : Nat → Nat → Nat
  | 0, 0 => 1
  | 0, _ + 1 => 0
  | _ + 1, 0 => 1
  | n + 1, k + 1 => cb n k + cb n (k + 1)
theorem all_cb : ∀ n c, allW n c = cb n c
  | 0, c => by
    unfold allW
    show fb_ct (fun w => decide (pc w 0 = c)) 1 = _
    rw [fb_ct_succ]
    cases c <;> simp [pc, fb_ct, cb]
  | n + 1, c => by
    have hlow : fb_ct (fun w => decide (pc w (n + 1) = c)) (2 ^ n) = allW n c := by
      refine fb_ct_cong fun k hk => ?_
      have e : bt2 k n = 0 := by
        unfold bt2
        rw [Nat.div_eq_of_lt hk]
      show decide (pc k n + bt2 k n = c) = _
      rw [e, Nat.add_zero]
    have hhigh : fb_ct (fun k => decide (pc (2 ^ n + k) (n + 1) = c)) (2 ^ n) = if 1 ≤ c then allW n (c - 1) else 0 := by
      refine ct_if (q := fun w => decide (pc w n = c - 1)) fun k hk => ?_
      rw [Bool.eq_iff_iff]
      simp only [decide_eq_true_eq, Bool.and_eq_true]
      have er : 2 ^ n + k = 1 * 2 ^ n + k := by omega
      rw [er]
      have e : bt2 (1 * 2 ^ n + k) n = 1 := bt2_top (s := 0) hk
      have p0 : pc (1 * 2 ^ n + k) n = pc k n := pc_low (Nat.le_refl _)
      have p1 : pc (1 * 2 ^ n + k) (n + 1) = pc k n + 1 := by
        show pc (1 * 2 ^ n + k) n + bt2 (1 * 2 ^ n + k) n = _
        rw [p0, e]
      rw [p1]
      omega
    have : allW (n + 1) c = allW n c + if 1 ≤ c then allW n (c - 1) else 0 := by
      rw [← hhigh, ← hlow]
      unfold allW
      rw [Nat.pow_succ, Nat.mul_two, fb_ct_split]
    rw [this, all_cb n c]
    cases c with
    | zero =>
      rw [if_neg (by omega)]
      cases n <;> rfl
    | succ c =>
      rw [if_pos (by omega), Nat.add_sub_cancel, all_cb n c]
      show cb n (c + 1) + cb n c = cb n c + cb n (c + 1)
      omega
set_option maxRecDepth 100000 in
theorem x_choices : ∀ n, n < 17 → ∀ c, c < n + 1 → f_X1_choices Fu (nI n) (nI c) = some (nI (cb n c)) := by decide +kernel
theorem cb_pos : ∀ n, n < 17 → ∀ c, c < n + 1 → 0 < cb n c := by decide +kernel
