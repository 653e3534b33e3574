theorem sw_pure_ok : sw_pure := sorry
