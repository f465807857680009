/-! what depends on the number of cards alone: by computation -/
def go (n a p : Nat) : Nat := if a = 0 then (if p < (n + 1) / 2 then 2 * p else 2 * (p - (n + 1) / 2) + 1) else (if p < n / 2 then 2 * p + 1 else 2 * (p - n / 2))
set_option maxRecDepth 100000 in
theorem t_lac : ∀ n, n < 17 → 2 ≤ n → ∀ a, a < 5 → f_X3_lacing Fu (nI a) (nI n) = some (lN (pk n (mv n a))) := by decide +kernel
set_option maxRecDepth 100000 in
theorem t_cut : ∀ n, n < 17 → 2 ≤ n → ∀ c, c < n → f_X3_cutAt Fu (nI c) (nI n) = some (lN (pk n (mv n (6 + c)))) := by decide +kernel
set_option maxRecDepth 100000 in
theorem t_turn : ∀ n, n < 17 → 2 ≤ n → f_X3_turnedOver Fu (nI n) = some (lN (pk n (mv n 5))) := by decide +kernel
set_option maxRecDepth 100000 in
theorem t_ord : ∀ n, n < 17 → f_X4_inOrder Fu (nI n) = some (lN (pk n (fun k => k))) := by decide +kernel
set_option maxRecDepth 100000 in
theorem t_goal : ∀ n, n < 17 → 2 ≤ n → ∀ a, a < 2 → ∀ p, p < n → f_X3_goal Fu (nI a) (nI n) (nI p) = some (nI (go n a p)) := by decide +kernel
theorem go_mv : ∀ n, n < 17 → 2 ≤ n → ∀ a, a < 2 → ∀ p, p < n → go n a p < n ∧ mv n a (go n a p) = p := by decide +kernel
theorem mv_lt : ∀ n, n < 17 → 2 ≤ n → ∀ a, a < 6 + n → ∀ k, k < n → mv n a k < n := by decide +kernel
def mvOk (n a : Nat) : Bool := (List.range n).all (fun i => (List.range n).all (fun j => decide (mv n a i = mv n a j → i = j)))
theorem mv_ok : ∀ n, n < 17 → 2 ≤ n → ∀ a, a < 6 + n → mvOk n a = true := by decide +kernel
theorem mv_in (n : Nat) (hn : n < 17) (h2 : 2 ≤ n) (a : Nat) (ha : a < 6 + n) (i : Nat) (hi : i < n) (j : Nat) (hj : j < n) (e : mv n a i = mv n a j) : i = j := by
  have h := mv_ok n hn h2 a ha
  unfold mvOk at h
  have h1 := List.all_eq_true.mp h i (List.mem_range.mpr hi)
  have h3 := List.all_eq_true.mp h1 j (List.mem_range.mpr hj)
  exact of_decide_eq_true h3 e
theorem rr_lt : ∀ n, n < 17 → 2 ≤ n → ∀ j, j < 2 * n - 1 → rr n 16 j < n := by decide +kernel
theorem rr_st : ∀ n, n < 17 → 2 ≤ n → ∀ k, k < n - 1 → rr n 16 (n + k) = rr n 16 (2 * k + 1) := by decide +kernel
theorem rr_0 : ∀ n, n < 17 → ∀ j, j < n → rr n 16 j = j := by decide +kernel
theorem mv_perm {n a : Nat} (h2 : 2 ≤ n) (hn : n ≤ 16) (ha : a < 6 + n) : perm n (mv n a) := ⟨fun k hk => mv_lt n (by omega) h2 a ha k hk, fun i j hi hj e => mv_in n (by omega) h2 a ha i hi j hj e⟩
theorem perm_id (n : Nat) : perm n (fun k => k) := ⟨fun _ h => h, fun _ _ _ _ e => e⟩
theorem perm_comp {n : Nat} {o m : Nat → Nat} (ho : perm n o) (hm : perm n m) : perm n (fun k => o (m k)) :=
  ⟨fun k hk => ho.1 _ (hm.1 k hk), fun i j hi hj e => hm.2 i j hi hj (ho.2 _ _ (hm.1 i hi) (hm.1 j hj) e)⟩
theorem dmv_perm {n : Nat} (h2 : 2 ≤ n) (hn : n ≤ 16) {d : Nat → Nat} (q : Nat) (h : ∀ k, k < q → d k < 6 + n) : perm n (dmv n d q) := by
  induction q with
  | zero => exact perm_id n
  | succ q ih =>
    show perm n (fun k => dmv n d q (mv n (d q) k))
    exact perm_comp (ih (fun k hk => h k (by omega))) (mv_perm h2 hn (h q (by omega)))
/-- every card lies somewhere -/
theorem perm_onto {n : Nat} {o : Nat → Nat} (h : perm n o) {c : Nat} (hc : c < n) : ∃ p, p < n ∧ o p = c := fb_onto h.1 (fun i j hij hj e => absurd (h.2 i j (by omega) hj e) (by omega)) hc
