theorem rb_end : rb_cap 0 = 5 := rfl
