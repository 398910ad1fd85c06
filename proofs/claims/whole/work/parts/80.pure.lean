theorem law_true (G : Gm) (hL : gsL G ≤ 4096) (n : Nat) : ∃ h', f_L_law G (n, fun _ => none, fun _ _ => 0, fun _ _ => 0, fun _ _ => none) = some (true, h') := sorry
