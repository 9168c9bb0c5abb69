/-! RUNNING THE ABSTRACT MACHINE -/
theorem am_G_out {d m : Nat} {K : am_K} {b : Nat} {ls st : List Value} {h : am_H} {n : Nat} {c : am_C} (q : am_G d m K b ls st h n c) : am_LF (am_CL d) am_dfs (am_me (am_rec m)) K (b, ls, st, h, n, c) := q
