theorem tr_1 : 1 = 1 := rfl
