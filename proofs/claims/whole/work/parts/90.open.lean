theorem mz_lawWP {L : Nat} {xs : Nat → Int32} (hL : L ≤ 3072) : mz_WP (mz_wc 8) 8 2 co_law (fun r _ _ => r = some (.int 1)) 0 [some (.ref 1), none, none, none] [] 0 (mz_h0 L xs) 600000 7302250 := by
  sorry
