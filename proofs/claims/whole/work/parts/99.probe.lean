theorem zz_probe : (1:Nat) = 1 := rfl
