theorem sw_pure_ok : sw_pure := all_ok
