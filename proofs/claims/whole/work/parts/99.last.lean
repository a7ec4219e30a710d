theorem zz_last_0 : (1 : Nat) = 1 := rfl
