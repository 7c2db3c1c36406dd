theorem pure_law (xs : Nat → Int32) (L : Nat) (hL : L ≤ 2048) : ∃ σ' : St, l_L_law_23 xs L 513 0 σ0 = some (1, σ') := law_e (fun σ h x y => op_sort h x y) xs L hL 513 0 σ0 inv0 (by omega) (by omega)
