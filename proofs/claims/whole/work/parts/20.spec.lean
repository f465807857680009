/-! the mathematical state: orders, acts, and what ties the class's state to the reference's -/
/-- fuel of all loops -/
abbrev Fu : Nat := 1000000
/-- an order of n cards in fields of four bits -/
def pk : Nat → (Nat → Nat) → Nat
  | 0, _ => 0
  | n + 1, o => pk n o + o n * 16 ^ n
def perm (n : Nat) (o : Nat → Nat) : Prop := (∀ k, k < n → o k < n) ∧ ∀ i j, i < n → j < n → o i = o j → i = j
/-- places behind the last one hold their own numbers -/
def ex (n : Nat) (o : Nat → Nat) (k : Nat) : Nat := if k < n then o k else k
def rr (n : Nat) : Nat → Nat → Nat
  | 0, j => j
  | f + 1, j => if j < n then j else rr n f (2 * (j - n) + 1)
/-- from which place each place comes: kinds 0 to 4, 5 turned over, 6 and where it is cut -/
def mv (n a k : Nat) : Nat :=
  if a = 0 then (if k % 2 = 0 then k / 2 else (n + 1) / 2 + k / 2)
  else if a = 1 then (if k % 2 = 0 then n / 2 + k / 2 else k / 2)
  else if a = 2 then (if k % 2 = 0 then k / 2 else n - 1 - k / 2)
  else if a = 3 then rr n 16 (2 * k)
  else if a = 4 then (if k % 2 = 0 then n - 1 - k / 2 else k / 2)
  else if a = 5 then n - 1 - k
  else (k + (a - 6)) % n
/-- acts d 0, .. d (q - 1), one behind the other -/
def dmv (n : Nat) (d : Nat → Nat) : Nat → Nat → Nat
  | 0, k => k
  | q + 1, k => dmv n d q (mv n (d q) k)
def jRo (n : Nat) (order : Int64) (st : Nat → Int32) (z : Nat) : Prop := ∃ o, perm n o ∧ order = lN (pk n o) ∧ ∀ k, k < 16 → st (z + k) = nI (ex n o k)
def jRt (len : Int32) (lt : Nat → Int32) (texted : Int32) (text : Nat → Int32) : Prop := ∃ T, T ≤ 200 ∧ len = nI T ∧ texted = nI T ∧ ∀ k, k < T → ∃ c, 32 ≤ c ∧ c ≤ 126 ∧ lt k = nI c ∧ text k = nI c
def jRc (lcol : Int32) (colour : Nat → Int32) : Prop := ∀ c, c < 16 → ∃ v, v < 4 ∧ jushr lcol (2 * nI c) &&& 3 = nI v ∧ colour c = nI v
def jRd (n : Nat) (lact : Int32) (ldeal : Int64) (dealMany : Int32) (deal : Nat → Int32) : Prop := ∃ (q : Nat) (d : Nat → Nat), q ≤ 16 ∧ lact = nI q ∧ dealMany = nI q ∧ (∀ k, k < q → d k < 6 + n ∧ deal k = nI (d k)) ∧ ldeal = lN (pk n (dmv n d q))
def jRp (N n : Nat) (ph : Int32) (ps : Nat → Int64) (acts : Int32) (was : Nat → Int32) : Prop := ∃ h, h ≤ N ∧ ph = nI h ∧ acts = nI h ∧ ∀ j, j < h → jRo n (ps j) was (16 * j)
def jRs (n : Nat) (sh : Int32) (sc sp : Nat → Int32) (seens : Int32) (seen : Nat → Int32) : Prop := ∃ z, z ≤ 8 ∧ sh = nI z ∧ seens = nI z ∧ ∀ j, j < z → ∃ a b, a < n ∧ b < n ∧ sc j = nI a ∧ sp j = nI b ∧ seen (2 * j) = nI a ∧ seen (2 * j + 1) = nI b
def jR (order : Int64) (len : Int32) (lt : Nat → Int32) (lc lcol lact : Int32) (ldeal : Int64) (ph : Int32) (ps : Nat → Int64) (kh : Int32) (ks : Nat → Int64) (sh : Int32) (sc sp : Nat → Int32)
    (cards : Int32) (colour : Nat → Int32) (dealMany : Int32) (deal st : Nat → Int32) (acts : Int32) (was : Nat → Int32) (keeps : Int32) (kept : Nat → Int32) (seens : Int32) (seen text : Nat → Int32) (texted : Int32) : Prop :=
  ∃ n, 2 ≤ n ∧ n ≤ 16 ∧ lc = nI n ∧ cards = nI n ∧ jRt len lt texted text ∧ jRo n order st 0 ∧ jRc lcol colour ∧ jRd n lact ldeal dealMany deal ∧ jRp 8 n ph ps acts was ∧ jRp 2 n kh ks keeps kept ∧ jRs n sh sc sp seens seen
