theorem nI_k1 (i : Nat) : nI i + (1 : Int32) = nI (i + 1) := nI_add i 1
theorem nI_k2 (i : Nat) : nI i + (2 : Int32) = nI (i + 2) := nI_add i 2
theorem nI_k3 (i : Nat) : nI i + (3 : Int32) = nI (i + 3) := nI_add i 3
theorem nI_k4 (i : Nat) : nI i + (4 : Int32) = nI (i + 4) := nI_add i 4
