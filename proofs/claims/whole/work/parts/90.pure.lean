theorem law_true (xs : Nat → Int32) (L : Nat) (hL : L ≤ 2560) : ∃ N, m_law xs L N = some () := law_true0 xs L hL
