theorem law_true (sz b L : Nat) (xs : Nat → Int32) (hL : L ≤ 3072) : ∃ F, f_L_law F sz b L xs (fun _ => none) = some () := sorry
