theorem pure_main : pureOK 10000 := sorry
