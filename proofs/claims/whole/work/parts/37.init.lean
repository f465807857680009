/-! a new object -/
theorem m_colours (f : Nat → Int32) : f_X10_colours Fu f = some (fa_fill (fun k => nI (k % 2)) f 16) := by
  have := for_up (fun g k s => g_X10_colours_2 Fu g (nI k) s) 16 (fun k => fa_fill (fun k => nI (k % 2)) f k) (some (fa_fill (fun k => nI (k % 2)) f 16)) (fun g k hk => by
    show g_X10_colours_2 Fu (g + 1) (nI k) (fa_fill (fun k => nI (k % 2)) f k) = _
    rw [g_X10_colours_2, z_16, if_neg (nI_ge hk (by omega)), jgd_2, jgi_n hk (by omega), nI_clamp (by omega), z_2, jrem_n (by omega) (by omega) (by omega), nI_1, ← fa_fill_succ]) (fun g => by
    show g_X10_colours_2 Fu (g + 1) (nI 16) _ = _
    rw [g_X10_colours_2, z_16, if_pos (nI_le (Nat.le_refl 16) (by omega))]) Fu 0 (Nat.zero_le _) (fu_lt (by omega))
  rw [fa_fill_0] at this
  exact this
theorem m_copies16 (a b : Nat → Int32) : f_X10_copies Fu 16 16 (0 : Int32) (0 : Int32) (16 : Int32) a b = some (cp 0 0 16 a b) := m_copies (a := 0) (b := 0) (c := 16) (by omega) (by omega) (by omega) (by omega) a b
def d0 : Nat → Nat := fun k => if k = 0 then 0 else if k = 1 then 9 else 1
set_option maxRecDepth 100000 in
theorem x_init : f_X9_init Fu = some ((10, 1145325060, 3, lN (pk 10 (dmv 10 d0 3)), 1), lN (pk 10 (fun k => k))) := by decide +kernel
theorem c0_col : ∀ c, c < 16 → jushr 1145325060 (2 * nI c) &&& 3 = nI (if c = 3 then 0 else if c = 4 then 2 else c % 2) := by decide +kernel
theorem st_init : ∃ u v, f_X9_init Fu = some u ∧ f_X10_init Fu = some v ∧ jR u.2 (0 : Int32) (fun _ => 0) u.1.1 u.1.2.1 u.1.2.2.1 u.1.2.2.2.1 (0 : Int32) (fun _ => 0) (0 : Int32) (fun _ => 0) (0 : Int32) (fun _ => 0) (fun _ => 0) v.2.2.1 v.2.2.2.2.2.2.2.1 v.2.2.2.1 v.2.2.2.2.2.2.2.2.1 v.2.2.2.2.2.2.2.2.2 v.2.2.2.2.1 (fun _ => 0) v.2.2.2.2.2.1 (fun _ => 0) v.2.2.2.2.2.2.1 (fun _ => 0) (fun _ => 0) (0 : Int32) := by
  refine ⟨_, _, x_init, by unfold f_X10_init f_X10_clearTold f_X10_settles; rw [m_colours, some_bind', some_bind', m_colours, some_bind', m_copies16, some_bind', m_copies16, some_bind', m_lies, some_bind', some_bind'], 10, by omega, by omega, rfl, rfl, ⟨0, by omega, rfl, rfl, fun k hk => absurd hk (by omega)⟩, ⟨fun k => k, perm_id 10, rfl, fun k hk => ?_⟩, fun c hc => ⟨if c = 3 then 0 else if c = 4 then 2 else c % 2, ?_, c0_col c hc, ?_⟩, ⟨3, d0, by omega, rfl, rfl, fun k hk => ?_, rfl⟩, ⟨0, by omega, rfl, rfl, fun k hk => absurd hk (by omega)⟩, ⟨0, by omega, rfl, rfl, fun k hk => absurd hk (by omega)⟩, ⟨0, by omega, rfl, rfl, fun k hk => absurd hk (by omega)⟩⟩
  · rw [Nat.zero_add]
    show fa_fill nI (fun _ => 0) 16 k = _
    rw [fa_fill_in hk]
    unfold ex
    split <;> rfl
  · split
    · omega
    · split <;> omega
  · show cp 0 0 16 (upd (upd (fa_fill (fun k => nI (k % 2)) (fa_fill (fun k => nI (k % 2)) (fun _ => 0) 16) 16) (3 : Int32).toNatClampNeg 0) (4 : Int32).toNatClampNeg 2) (fun _ => 0) c = _
    rw [cp16 hc, show (3 : Int32).toNatClampNeg = 3 from rfl, show (4 : Int32).toNatClampNeg = 4 from rfl]
    by_cases q4 : c = 4
    · subst q4
      rw [pk_us]
      rfl
    · rw [pk_un q4]
      by_cases q3 : c = 3
      · subst q3
        rw [pk_us]
        rfl
      · rw [pk_un q3, fa_fill_in hc, if_neg q3, if_neg q4]
  · rcases (show k = 0 ∨ k = 1 ∨ k = 2 by omega) with rfl | rfl | rfl
    · exact ⟨by decide, rfl⟩
    · exact ⟨by decide, rfl⟩
    · exact ⟨by decide, rfl⟩
