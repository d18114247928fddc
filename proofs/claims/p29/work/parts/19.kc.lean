theorem Kc_t (k c n : Nat) : k + Kc c (n + 1) = k + Kc c n + c := by rw [Kc_s, Nat.add_assoc]
