/-! two loops side by side -/
theorem for_two {σ τ ρ π : Type} (G : Nat → Nat → σ → Option ρ) (H : Nat → Nat → τ → Option π) (e : Nat) (I : Nat → σ → τ → Prop) (Q : Option ρ → Option π → Prop) (hs : ∀ f g k s t, k < e → I k s t → ∃ s' t', I (k + 1) s' t' ∧ G (f + 1) k s = G f (k + 1) s' ∧ H (g + 1) k t = H g (k + 1) t') (hx : ∀ f g s t, I e s t → Q (G (f + 1) e s) (H (g + 1) e t)) : ∀ (f g k : Nat) (s : σ) (t : τ), k ≤ e → e - k < f → e - k < g → I k s t → Q (G f k s) (H g k t)
  | 0, _, _, _, _, _, h, _, _ => absurd h (Nat.not_lt_zero _)
  | _ + 1, 0, _, _, _, _, _, h, _ => absurd h (Nat.not_lt_zero _)
  | f + 1, g + 1, k, s, t, hk, h, h2, hi => by
    rcases Nat.lt_or_ge k e with q | q
    · obtain ⟨s', t', h3, h4, h5⟩ := hs f g k s t q hi
      rw [h4, h5]
      exact for_two G H e I Q hs hx f g (k + 1) s' t' q (by omega) (by omega) h3
    · have : k = e := by omega
      subst this
      exact hx f g s t hi
/-! colours -/
def coloured (lcol : Int32) (colour : Nat → Int32) (v : Nat → Nat) : Prop := ∀ c, c < 16 → v c < 4 ∧ jushr lcol (2 * nI c) &&& 3 = nI (v c) ∧ colour c = nI (v c)
theorem jRc.v {lcol : Int32} {colour : Nat → Int32} (h : jRc lcol colour) : ∃ v, coloured lcol colour v := by
  have : ∀ c, ∃ v, c < 16 → v < 4 ∧ jushr lcol (2 * nI c) &&& 3 = nI v ∧ colour c = nI v := fun c => by
    by_cases q : c < 16
    · obtain ⟨v, a⟩ := h c q
      exact ⟨v, fun _ => a⟩
    · exact ⟨0, fun z => absurd z q⟩
  exact ⟨fun c => Classical.choose (this c), fun c hc => Classical.choose_spec (this c) hc⟩
theorem x_unlike {lcol : Int32} {colour : Nat → Int32} {v : Nat → Nat} (hv : coloured lcol colour v) {a b : Nat} (ha : a < 16) (hb : b < 16) : f_X5_areUnlike Fu (nI a) (nI b) lcol = some (if v a = v b then 0 else 1) := by
  unfold f_X5_areUnlike f_X5_colourOf
  have h1 := hv a ha
  have h2 := hv b hb
  rw [h1.2.1, h2.2.1, some_bind', some_bind']
  by_cases q : v a = v b
  · rw [if_pos (by rw [q]), if_pos q]
  · rw [if_neg (fun z => q ((nI_eq (by omega) (by omega)).mp z)), if_neg q]
def un (v o : Nat → Nat) (k : Nat) : Nat := fb_ct (fun j => decide (¬ v (o (2 * j)) = v (o (2 * j + 1)))) k
theorem un_succ (v o : Nat → Nat) (k : Nat) : un v o (k + 1) = un v o k + (if v (o (2 * k)) = v (o (2 * k + 1)) then 0 else 1) := by
  unfold un
  rw [fb_ct_succ]
  by_cases q : v (o (2 * k)) = v (o (2 * k + 1)) <;> simp [q]
theorem x_pairs {n : Nat} {o : Nat → Nat} {lcol : Int32} {colour : Nat → Int32} {v : Nat → Nat} (hv : coloured lcol colour v) (h2 : 2 ≤ n) (hn : n ≤ 16) (ho : perm n o) : f_X9_pairs Fu (lN (pk n o)) (nI n) lcol = some (nI (un v o (n / 2))) := by
  refine for_up (fun f k s => g_X9_pairs_4 Fu (lN (pk n o)) (nI n) lcol f s (nI (2 * k))) (n / 2) (fun k => nI (un v o k)) _ (fun f k hk => ?_) (fun f => ?_) Fu 0 (Nat.zero_le _) (fu_lt (by omega))
  · show g_X9_pairs_4 Fu (lN (pk n o)) (nI n) lcol (f + 1) (nI (un v o k)) (nI (2 * k)) = g_X9_pairs_4 Fu (lN (pk n o)) (nI n) lcol f (nI (un v o (k + 1))) (nI (2 * (k + 1)))
    have b1 := ho.1 (2 * k) (by omega)
    have b2 := ho.1 (2 * k + 1) (by omega)
    rw [g_X9_pairs_4, z_1, nI_add, if_neg (nI_ge (by omega) (by omega)), x_at hn (ho.lt hn) (by omega), some_bind', x_at hn (ho.lt hn) (by omega), some_bind', x_unlike hv (by omega) (by omega), some_bind', z_2, nI_add, nI_add, un_succ, show 2 * (k + 1) = 2 * k + 2 by omega]
    by_cases q : v (o (2 * k)) = v (o (2 * k + 1))
    · rw [if_pos q, if_pos q, if_pos rfl]
      rfl
    · rw [if_neg q, if_neg q, if_neg (by decide)]
  · show g_X9_pairs_4 Fu (lN (pk n o)) (nI n) lcol (f + 1) (nI (un v o (n / 2))) (nI (2 * (n / 2))) = _
    rw [g_X9_pairs_4, z_1, nI_add, if_pos (nI_le (by omega) (by omega))]
theorem m_unlike {n : Nat} {o : Nat → Nat} {row : Nat → Int32} {lcol : Int32} {colour : Nat → Int32} {v : Nat → Nat} (hv : coloured lcol colour v) (h2 : 2 ≤ n) (hn : n ≤ 16) (ho : ∀ k, k < n → o k < 16) (hl : ∀ k, k < n → row k = nI (o k)) : f_X10_unlike Fu 16 (nI n) row colour = some (nI (un v o (n / 2))) := by
  refine for_up (fun f k s => g_X10_unlike_4 Fu 16 (nI n) row colour f s (nI (2 * k))) (n / 2) (fun k => nI (un v o k)) _ (fun f k hk => ?_) (fun f => ?_) Fu 0 (Nat.zero_le _) (fu_lt (by omega))
  · show g_X10_unlike_4 Fu 16 (nI n) row colour (f + 1) (nI (un v o k)) (nI (2 * k)) = g_X10_unlike_4 Fu 16 (nI n) row colour f (nI (un v o (k + 1))) (nI (2 * (k + 1)))
    have b1 := ho (2 * k) (by omega)
    have b2 := ho (2 * k + 1) (by omega)
    rw [g_X10_unlike_4, z_1, nI_add, if_neg (nI_ge (by omega) (by omega)), jgi_n (by omega) (by omega), nI_clamp (by omega), nI_clamp (by omega), hl _ (by omega), hl _ (by omega), jgi_n b1 (by omega), jgi_n (by omega) (by omega), jgi_n b2 (by omega), nI_clamp (by omega), nI_clamp (by omega), (hv _ b1).2.2, (hv _ b2).2.2, z_2, nI_add, z_0, nI_add, nI_add, un_succ, show 2 * (k + 1) = 2 * k + 2 by omega]
    have c1 := (hv _ b1).1
    have c2 := (hv _ b2).1
    by_cases q : v (o (2 * k)) = v (o (2 * k + 1))
    · rw [if_pos (by rw [q]), if_pos q]
    · rw [if_neg (fun z => q ((nI_eq (by omega) (by omega)).mp z)), if_neg q]
  · show g_X10_unlike_4 Fu 16 (nI n) row colour (f + 1) (nI (un v o (n / 2))) (nI (2 * (n / 2))) = _
    rw [g_X10_unlike_4, z_1, nI_add, if_pos (nI_le (by omega) (by omega))]
/-! lowest terms -/
theorem x_gcd : ∀ (m a b k f : Nat), a < 2 ^ 31 → b < 2 ^ m → b < 2 ^ 31 → k + 2 * m ≤ 62 → 2 * m < f → ∀ x0 x1 : Int32, g_X1_commonDivisor_7 Fu x0 x1 f (nI a) (nI b) (nI k) = some (nI (Nat.gcd a b))
  | 0, a, b, k, f, ha, hb, _, hk, hf, x0, x1 => by
    have e : b = 0 := by simpa using hb
    subst e
    obtain ⟨f, rfl⟩ : ∃ g, f = g + 1 := ⟨f - 1, by omega⟩
    rw [g_X1_commonDivisor_7, z_64, if_neg (nI_ge (by omega) (by omega)), if_pos (show nI 0 = (0 : Int32) from rfl), Nat.gcd_zero_right]
  | m + 1, a, b, k, f, ha, hb, hb2, hk, hf, x0, x1 => by
    obtain ⟨f, rfl⟩ : ∃ g, f = g + 1 := ⟨f - 1, by omega⟩
    rw [g_X1_commonDivisor_7, z_64, if_neg (nI_ge (by omega) (by omega))]
    by_cases q : b = 0
    · subst q
      rw [if_pos (show nI 0 = (0 : Int32) from rfl), Nat.gcd_zero_right]
    · have hr : a % b < b := Nat.mod_lt _ (by omega)
      rw [if_neg (nI_ne0 (by omega) hb2), jgd_k (by omega) hb2, jrem_n ha (by omega) hb2, z_1, nI_add]
      have eg : Nat.gcd a b = Nat.gcd b (a % b) := by rw [Nat.gcd_comm a b, Nat.gcd_rec, Nat.gcd_comm]
      rw [eg]
      obtain ⟨f, rfl⟩ : ∃ g, f = g + 1 := ⟨f - 1, by omega⟩
      rw [g_X1_commonDivisor_7, z_64, if_neg (nI_ge (by omega) (by omega))]
      by_cases w : a % b = 0
      · rw [w, if_pos (show nI 0 = (0 : Int32) from rfl), Nat.gcd_zero_right]
      · have hr2 : b % (a % b) < a % b := Nat.mod_lt _ (by omega)
        have hr3 : b % (a % b) + (a % b) ≤ b := by
          have h1 := Nat.div_add_mod b (a % b)
          have h2 : 1 ≤ b / (a % b) := Nat.div_pos (by omega) (by omega)
          have h3 : (a % b) * 1 ≤ (a % b) * (b / (a % b)) := Nat.mul_le_mul_left _ h2
          omega
        rw [if_neg (nI_ne0 (by omega) (by omega)), jgd_k (by omega) (by omega), jrem_n hb2 (by omega) (by omega), z_1, nI_add]
        have eg2 : Nat.gcd b (a % b) = Nat.gcd (a % b) (b % (a % b)) := by rw [Nat.gcd_comm b (a % b), Nat.gcd_rec, Nat.gcd_comm]
        rw [eg2]
        exact x_gcd m (a % b) (b % (a % b)) (k + 1 + 1) f (by omega) (by rw [Nat.pow_succ] at hb; omega) (by omega) (by omega) (by omega) x0 x1
theorem x_common {a b : Nat} (ha : a < 2 ^ 31) (hb : b < 2 ^ 31) : f_X1_commonDivisor Fu (nI a) (nI b) = some (nI (Nat.gcd a b)) := x_gcd 31 a b 0 Fu ha hb hb (by omega) (by show 62 < 1000000; omega) _ _
theorem m_low (x0 x1 p : Int32) : ∀ (f a b : Nat), a < 2 ^ 31 → b < 2 ^ 31 → b < f → 0 < Nat.gcd a b → g_X10_lowest_5 Fu x0 x1 p f (nI a) (nI b) = some (if p = 0 then x0 / nI (Nat.gcd a b) else x1 / nI (Nat.gcd a b))
  | 0, _, _, _, _, h, _ => absurd h (Nat.not_lt_zero _)
  | f + 1, a, b, ha, hb, h, hg => by
    rw [g_X10_lowest_5, z_0]
    by_cases q : b = 0
    · subst q
      rw [Nat.gcd_zero_right] at hg ⊢
      rw [if_pos (nI_le (Nat.le_refl _) (by omega)), jgd_k hg ha, jgd_k hg ha]
      by_cases w : p = nI 0
      · rw [if_pos w, if_pos w]
      · rw [if_neg w, if_neg w]
    · have hr : a % b < b := Nat.mod_lt _ (by omega)
      have eg : Nat.gcd a b = Nat.gcd b (a % b) := by rw [Nat.gcd_comm a b, Nat.gcd_rec, Nat.gcd_comm]
      rw [eg] at hg ⊢
      rw [if_neg (nI_ge (by omega) (by omega)), jgd_k (by omega) hb, jrem_n ha (by omega) hb]
      exact m_low x0 x1 p f b (a % b) (by omega) (by omega) (by omega) hg
theorem gcd_le {a b : Nat} (hb : 0 < b) : 0 < Nat.gcd a b ∧ Nat.gcd a b ≤ b := ⟨Nat.gcd_pos_of_pos_right _ hb, Nat.gcd_le_right _ hb⟩
theorem s_low {a b : Nat} (p : Int32) (ha : a < 2 ^ 31) (h0 : 0 < b) (hb : b < 900000) : ∃ w, f_X1_partOf Fu (nI a) (nI b) p = some w ∧ f_X10_lowest Fu (nI a) (nI b) p = some w := by
  have hg := gcd_le (a := a) h0
  refine ⟨_, ?_, m_low (nI a) (nI b) p Fu a b ha (by omega) (by show b < 1000000; omega) hg.1⟩
  unfold f_X1_partOf
  rw [x_common ha (by omega), some_bind', z_0, if_pos (nI_lt hg.1 (by omega)), jgd_k hg.1 (by omega), jgd_k hg.1 (by omega)]
  by_cases w : p = nI 0
  · rw [if_pos w, if_pos w]
  · rw [if_neg w, if_neg w]
