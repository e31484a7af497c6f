theorem bit_eq {x : Nat} (hx : x < 65536) (N : Mem) : mJ6_bitCount_0f7a4 (nI x) = mX6_size (nI x) N ∧ PX6_size (nI x) N := sorry
