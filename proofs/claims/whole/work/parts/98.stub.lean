theorem law_ok (L : Nat) (xs : Nat → Int32) (hL : L ≤ 2048) : ∃ w', m_L_law L xs ((fun _ _ => 0, fun _ _ => 0, fun _ _ => none, []) : Wd) = some (1, w') ∧ cnt w' ≤ 600000 ∧ slt w' ≤ 7302250 := sorry
