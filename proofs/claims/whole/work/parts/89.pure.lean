theorem pure_law (L : Nat) (xs : Nat → Int32) (hL : L ≤ 3072) : ∃ m', f_L_law_L18 0 (mk_83 (im_m L xs)) = some (1, m') := pure_lawH op_law L xs hL
