theorem so_kall (i : Nat) (hi : i < 208) : so_mok i = true := sorry
