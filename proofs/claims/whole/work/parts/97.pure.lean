theorem pure_law (sc : Nat → Int) (L : Nat) (hsc : ∀ j, inR (sc j)) (hL : L ≤ 3072) : f_law sc L cm_39 := pure_of q_net sc L hsc hL
