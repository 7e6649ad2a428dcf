theorem end_ok : 1 + 1 = 2 := rfl
