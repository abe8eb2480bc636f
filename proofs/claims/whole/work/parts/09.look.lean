theorem my_look : 1 = 1 := rfl
