def f_X2_become_v3 (n : Nat) (I : Nat → Nat → Int32) (J : Nat → Nat → Int64) (T : Nat) : Option ((Nat → Nat → Int32)) :=
  some ((am_row (am_row (am_row (am_row (am_row (am_u (am_u (am_u (am_u (am_u I 3 0 (I 9 0)) 3 1 (I 9 1)) 3 2 (I 9 2)) 3 3 (I 9 3)) 3 4 (I 9 4)) 4 ((fun a => if a < 10 then (am_u (am_u (am_u (am_u (am_u I 3 0 (I 9 0)) 3 1 (I 9 1)) 3 2 (I 9 2)) 3 3 (I 9 3)) 3 4 (I 9 4)) 10 a else (am_u (am_u (am_u (am_u (am_u I 3 0 (I 9 0)) 3 1 (I 9 1)) 3 2 (I 9 2)) 3 3 (I 9 3)) 3 4 (I 9 4)) 4 a))) 5 ((fun a => if a < 10 then (am_row (am_u (am_u (am_u (am_u (am_u I 3 0 (I 9 0)) 3 1 (I 9 1)) 3 2 (I 9 2)) 3 3 (I 9 3)) 3 4 (I 9 4)) 4 ((fun a => if a < 10 then (am_u (am_u (am_u (am_u (am_u I 3 0 (I 9 0)) 3 1 (I 9 1)) 3 2 (I 9 2)) 3 3 (I 9 3)) 3 4 (I 9 4)) 10 a else (am_u (am_u (am_u (am_u (am_u I 3 0 (I 9 0)) 3 1 (I 9 1)) 3 2 (I 9 2)) 3 3 (I 9 3)) 3 4 (I 9 4)) 4 a))) 11 a else (am_row (am_u (am_u (am_u (am_u (am_u I 3 0 (I 9 0)) 3 1 (I 9 1)) 3 2 (I 9 2)) 3 3 (I 9 3)) 3 4 (I 9 4)) 4 ((fun a => if a < 10 then (am_u (am_u (am_u (am_u (am_u I 3 0 (I 9 0)) 3 1 (I 9 1)) 3 2 (I 9 2)) 3 3 (I 9 3)) 3 4 (I 9 4)) 10 a else (am_u (am_u (am_u (am_u (am_u I 3 0 (I 9 0)) 3 1 (I 9 1)) 3 2 (I 9 2)) 3 3 (I 9 3)) 3 4 (I 9 4)) 4 a))) 5 a))) 6 ((fun a => if a < 6 then (am_row (am_row (am_u (am_u (am_u (am_u (am_u I 3 0 (I 9 0)) 3 1 (I 9 1)) 3 2 (I 9 2)) 3 3 (I 9 3)) 3 4 (I 9 4)) 4 ((fun a => if a < 10 then (am_u (am_u (am_u (am_u (am_u I 3 0 (I 9 0)) 3 1 (I 9 1)) 3 2 (I 9 2)) 3 3 (I 9 3)) 3 4 (I 9 4)) 10 a else (am_u (am_u (am_u (am_u (am_u I 3 0 (I 9 0)) 3 1 (I 9 1)) 3 2 (I 9 2)) 3 3 (I 9 3)) 3 4 (I 9 4)) 4 a))) 5 ((fun a => if a < 10 then (am_row (am_u (am_u (am_u (am_u (am_u I 3 0 (I 9 0)) 3 1 (I 9 1)) 3 2 (I 9 2)) 3 3 (I 9 3)) 3 4 (I 9 4)) 4 ((fun a => if a < 10 then (am_u (am_u (am_u (am_u (am_u I 3 0 (I 9 0)) 3 1 (I 9 1)) 3 2 (I 9 2)) 3 3 (I 9 3)) 3 4 (I 9 4)) 10 a else (am_u (am_u (am_u (am_u (am_u I 3 0 (I 9 0)) 3 1 (I 9 1)) 3 2 (I 9 2)) 3 3 (I 9 3)) 3 4 (I 9 4)) 4 a))) 11 a else (am_row (am_u (am_u (am_u (am_u (am_u I 3 0 (I 9 0)) 3 1 (I 9 1)) 3 2 (I 9 2)) 3 3 (I 9 3)) 3 4 (I 9 4)) 4 ((fun a => if a < 10 then (am_u (am_u (am_u (am_u (am_u I 3 0 (I 9 0)) 3 1 (I 9 1)) 3 2 (I 9 2)) 3 3 (I 9 3)) 3 4 (I 9 4)) 10 a else (am_u (am_u (am_u (am_u (am_u I 3 0 (I 9 0)) 3 1 (I 9 1)) 3 2 (I 9 2)) 3 3 (I 9 3)) 3 4 (I 9 4)) 4 a))) 5 a))) 12 a else (am_row (am_row (am_u (am_u (am_u (am_u (am_u I 3 0 (I 9 0)) 3 1 (I 9 1)) 3 2 (I 9 2)) 3 3 (I 9 3)) 3 4 (I 9 4)) 4 ((fun a => if a < 10 then (am_u (am_u (am_u (am_u (am_u I 3 0 (I 9 0)) 3 1 (I 9 1)) 3 2 (I 9 2)) 3 3 (I 9 3)) 3 4 (I 9 4)) 10 a else (am_u (am_u (am_u (am_u (am_u I 3 0 (I 9 0)) 3 1 (I 9 1)) 3 2 (I 9 2)) 3 3 (I 9 3)) 3 4 (I 9 4)) 4 a))) 5 ((fun a => if a < 10 then (am_row (am_u (am_u (am_u (am_u (am_u I 3 0 (I 9 0)) 3 1 (I 9 1)) 3 2 (I 9 2)) 3 3 (I 9 3)) 3 4 (I 9 4)) 4 ((fun a => if a < 10 then (am_u (am_u (am_u (am_u (am_u I 3 0 (I 9 0)) 3 1 (I 9 1)) 3 2 (I 9 2)) 3 3 (I 9 3)) 3 4 (I 9 4)) 10 a else (am_u (am_u (am_u (am_u (am_u I 3 0 (I 9 0)) 3 1 (I 9 1)) 3 2 (I 9 2)) 3 3 (I 9 3)) 3 4 (I 9 4)) 4 a))) 11 a else (am_row (am_u (am_u (am_u (am_u (am_u I 3 0 (I 9 0)) 3 1 (I 9 1)) 3 2 (I 9 2)) 3 3 (I 9 3)) 3 4 (I 9 4)) 4 ((fun a => if a < 10 then (am_u (am_u (am_u (am_u (am_u I 3 0 (I 9 0)) 3 1 (I 9 1)) 3 2 (I 9 2)) 3 3 (I 9 3)) 3 4 (I 9 4)) 10 a else (am_u (am_u (am_u (am_u (am_u I 3 0 (I 9 0)) 3 1 (I 9 1)) 3 2 (I 9 2)) 3 3 (I 9 3)) 3 4 (I 9 4)) 4 a))) 5 a))) 6 a))) 7 ((fun a => if a < 6 then (am_row (am_row (am_row (am_u (am_u (am_u (am_u (am_u I 3 0 (I 9 0)) 3 1 (I 9 1)) 3 2 (I 9 2)) 3 3 (I 9 3)) 3 4 (I 9 4)) 4 ((fun a => if a < 10 then (am_u (am_u (am_u (am_u (am_u I 3 0 (I 9 0)) 3 1 (I 9 1)) 3 2 (I 9 2)) 3 3 (I 9 3)) 3 4 (I 9 4)) 10 a else (am_u (am_u (am_u (am_u (am_u I 3 0 (I 9 0)) 3 1 (I 9 1)) 3 2 (I 9 2)) 3 3 (I 9 3)) 3 4 (I 9 4)) 4 a))) 5 ((fun a => if a < 10 then (am_row (am_u (am_u (am_u (am_u (am_u I 3 0 (I 9 0)) 3 1 (I 9 1)) 3 2 (I 9 2)) 3 3 (I 9 3)) 3 4 (I 9 4)) 4 ((fun a => if a < 10 then (am_u (am_u (am_u (am_u (am_u I 3 0 (I 9 0)) 3 1 (I 9 1)) 3 2 (I 9 2)) 3 3 (I 9 3)) 3 4 (I 9 4)) 10 a else (am_u (am_u (am_u (am_u (am_u I 3 0 (I 9 0)) 3 1 (I 9 1)) 3 2 (I 9 2)) 3 3 (I 9 3)) 3 4 (I 9 4)) 4 a))) 11 a else (am_row (am_u (am_u (am_u (am_u (am_u I 3 0 (I 9 0)) 3 1 (I 9 1)) 3 2 (I 9 2)) 3 3 (I 9 3)) 3 4 (I 9 4)) 4 ((fun a => if a < 10 then (am_u (am_u (am_u (am_u (am_u I 3 0 (I 9 0)) 3 1 (I 9 1)) 3 2 (I 9 2)) 3 3 (I 9 3)) 3 4 (I 9 4)) 10 a else (am_u (am_u (am_u (am_u (am_u I 3 0 (I 9 0)) 3 1 (I 9 1)) 3 2 (I 9 2)) 3 3 (I 9 3)) 3 4 (I 9 4)) 4 a))) 5 a))) 6 ((fun a => if a < 6 then (am_row (am_row (am_u (am_u (am_u (am_u (am_u I 3 0 (I 9 0)) 3 1 (I 9 1)) 3 2 (I 9 2)) 3 3 (I 9 3)) 3 4 (I 9 4)) 4 ((fun a => if a < 10 then (am_u (am_u (am_u (am_u (am_u I 3 0 (I 9 0)) 3 1 (I 9 1)) 3 2 (I 9 2)) 3 3 (I 9 3)) 3 4 (I 9 4)) 10 a else (am_u (am_u (am_u (am_u (am_u I 3 0 (I 9 0)) 3 1 (I 9 1)) 3 2 (I 9 2)) 3 3 (I 9 3)) 3 4 (I 9 4)) 4 a))) 5 ((fun a => if a < 10 then (am_row (am_u (am_u (am_u (am_u (am_u I 3 0 (I 9 0)) 3 1 (I 9 1)) 3 2 (I 9 2)) 3 3 (I 9 3)) 3 4 (I 9 4)) 4 ((fun a => if a < 10 then (am_u (am_u (am_u (am_u (am_u I 3 0 (I 9 0)) 3 1 (I 9 1)) 3 2 (I 9 2)) 3 3 (I 9 3)) 3 4 (I 9 4)) 10 a else (am_u (am_u (am_u (am_u (am_u I 3 0 (I 9 0)) 3 1 (I 9 1)) 3 2 (I 9 2)) 3 3 (I 9 3)) 3 4 (I 9 4)) 4 a))) 11 a else (am_row (am_u (am_u (am_u (am_u (am_u I 3 0 (I 9 0)) 3 1 (I 9 1)) 3 2 (I 9 2)) 3 3 (I 9 3)) 3 4 (I 9 4)) 4 ((fun a => if a < 10 then (am_u (am_u (am_u (am_u (am_u I 3 0 (I 9 0)) 3 1 (I 9 1)) 3 2 (I 9 2)) 3 3 (I 9 3)) 3 4 (I 9 4)) 10 a else (am_u (am_u (am_u (am_u (am_u I 3 0 (I 9 0)) 3 1 (I 9 1)) 3 2 (I 9 2)) 3 3 (I 9 3)) 3 4 (I 9 4)) 4 a))) 5 a))) 12 a else (am_row (am_row (am_u (am_u (am_u (am_u (am_u I 3 0 (I 9 0)) 3 1 (I 9 1)) 3 2 (I 9 2)) 3 3 (I 9 3)) 3 4 (I 9 4)) 4 ((fun a => if a < 10 then (am_u (am_u (am_u (am_u (am_u I 3 0 (I 9 0)) 3 1 (I 9 1)) 3 2 (I 9 2)) 3 3 (I 9 3)) 3 4 (I 9 4)) 10 a else (am_u (am_u (am_u (am_u (am_u I 3 0 (I 9 0)) 3 1 (I 9 1)) 3 2 (I 9 2)) 3 3 (I 9 3)) 3 4 (I 9 4)) 4 a))) 5 ((fun a => if a < 10 then (am_row (am_u (am_u (am_u (am_u (am_u I 3 0 (I 9 0)) 3 1 (I 9 1)) 3 2 (I 9 2)) 3 3 (I 9 3)) 3 4 (I 9 4)) 4 ((fun a => if a < 10 then (am_u (am_u (am_u (am_u (am_u I 3 0 (I 9 0)) 3 1 (I 9 1)) 3 2 (I 9 2)) 3 3 (I 9 3)) 3 4 (I 9 4)) 10 a else (am_u (am_u (am_u (am_u (am_u I 3 0 (I 9 0)) 3 1 (I 9 1)) 3 2 (I 9 2)) 3 3 (I 9 3)) 3 4 (I 9 4)) 4 a))) 11 a else (am_row (am_u (am_u (am_u (am_u (am_u I 3 0 (I 9 0)) 3 1 (I 9 1)) 3 2 (I 9 2)) 3 3 (I 9 3)) 3 4 (I 9 4)) 4 ((fun a => if a < 10 then (am_u (am_u (am_u (am_u (am_u I 3 0 (I 9 0)) 3 1 (I 9 1)) 3 2 (I 9 2)) 3 3 (I 9 3)) 3 4 (I 9 4)) 10 a else (am_u (am_u (am_u (am_u (am_u I 3 0 (I 9 0)) 3 1 (I 9 1)) 3 2 (I 9 2)) 3 3 (I 9 3)) 3 4 (I 9 4)) 4 a))) 5 a))) 6 a))) 13 a else (am_row (am_row (am_row (am_u (am_u (am_u (am_u (am_u I 3 0 (I 9 0)) 3 1 (I 9 1)) 3 2 (I 9 2)) 3 3 (I 9 3)) 3 4 (I 9 4)) 4 ((fun a => if a < 10 then (am_u (am_u (am_u (am_u (am_u I 3 0 (I 9 0)) 3 1 (I 9 1)) 3 2 (I 9 2)) 3 3 (I 9 3)) 3 4 (I 9 4)) 10 a else (am_u (am_u (am_u (am_u (am_u I 3 0 (I 9 0)) 3 1 (I 9 1)) 3 2 (I 9 2)) 3 3 (I 9 3)) 3 4 (I 9 4)) 4 a))) 5 ((fun a => if a < 10 then (am_row (am_u (am_u (am_u (am_u (am_u I 3 0 (I 9 0)) 3 1 (I 9 1)) 3 2 (I 9 2)) 3 3 (I 9 3)) 3 4 (I 9 4)) 4 ((fun a => if a < 10 then (am_u (am_u (am_u (am_u (am_u I 3 0 (I 9 0)) 3 1 (I 9 1)) 3 2 (I 9 2)) 3 3 (I 9 3)) 3 4 (I 9 4)) 10 a else (am_u (am_u (am_u (am_u (am_u I 3 0 (I 9 0)) 3 1 (I 9 1)) 3 2 (I 9 2)) 3 3 (I 9 3)) 3 4 (I 9 4)) 4 a))) 11 a else (am_row (am_u (am_u (am_u (am_u (am_u I 3 0 (I 9 0)) 3 1 (I 9 1)) 3 2 (I 9 2)) 3 3 (I 9 3)) 3 4 (I 9 4)) 4 ((fun a => if a < 10 then (am_u (am_u (am_u (am_u (am_u I 3 0 (I 9 0)) 3 1 (I 9 1)) 3 2 (I 9 2)) 3 3 (I 9 3)) 3 4 (I 9 4)) 10 a else (am_u (am_u (am_u (am_u (am_u I 3 0 (I 9 0)) 3 1 (I 9 1)) 3 2 (I 9 2)) 3 3 (I 9 3)) 3 4 (I 9 4)) 4 a))) 5 a))) 6 ((fun a => if a < 6 then (am_row (am_row (am_u (am_u (am_u (am_u (am_u I 3 0 (I 9 0)) 3 1 (I 9 1)) 3 2 (I 9 2)) 3 3 (I 9 3)) 3 4 (I 9 4)) 4 ((fun a => if a < 10 then (am_u (am_u (am_u (am_u (am_u I 3 0 (I 9 0)) 3 1 (I 9 1)) 3 2 (I 9 2)) 3 3 (I 9 3)) 3 4 (I 9 4)) 10 a else (am_u (am_u (am_u (am_u (am_u I 3 0 (I 9 0)) 3 1 (I 9 1)) 3 2 (I 9 2)) 3 3 (I 9 3)) 3 4 (I 9 4)) 4 a))) 5 ((fun a => if a < 10 then (am_row (am_u (am_u (am_u (am_u (am_u I 3 0 (I 9 0)) 3 1 (I 9 1)) 3 2 (I 9 2)) 3 3 (I 9 3)) 3 4 (I 9 4)) 4 ((fun a => if a < 10 then (am_u (am_u (am_u (am_u (am_u I 3 0 (I 9 0)) 3 1 (I 9 1)) 3 2 (I 9 2)) 3 3 (I 9 3)) 3 4 (I 9 4)) 10 a else (am_u (am_u (am_u (am_u (am_u I 3 0 (I 9 0)) 3 1 (I 9 1)) 3 2 (I 9 2)) 3 3 (I 9 3)) 3 4 (I 9 4)) 4 a))) 11 a else (am_row (am_u (am_u (am_u (am_u (am_u I 3 0 (I 9 0)) 3 1 (I 9 1)) 3 2 (I 9 2)) 3 3 (I 9 3)) 3 4 (I 9 4)) 4 ((fun a => if a < 10 then (am_u (am_u (am_u (am_u (am_u I 3 0 (I 9 0)) 3 1 (I 9 1)) 3 2 (I 9 2)) 3 3 (I 9 3)) 3 4 (I 9 4)) 10 a else (am_u (am_u (am_u (am_u (am_u I 3 0 (I 9 0)) 3 1 (I 9 1)) 3 2 (I 9 2)) 3 3 (I 9 3)) 3 4 (I 9 4)) 4 a))) 5 a))) 12 a else (am_row (am_row (am_u (am_u (am_u (am_u (am_u I 3 0 (I 9 0)) 3 1 (I 9 1)) 3 2 (I 9 2)) 3 3 (I 9 3)) 3 4 (I 9 4)) 4 ((fun a => if a < 10 then (am_u (am_u (am_u (am_u (am_u I 3 0 (I 9 0)) 3 1 (I 9 1)) 3 2 (I 9 2)) 3 3 (I 9 3)) 3 4 (I 9 4)) 10 a else (am_u (am_u (am_u (am_u (am_u I 3 0 (I 9 0)) 3 1 (I 9 1)) 3 2 (I 9 2)) 3 3 (I 9 3)) 3 4 (I 9 4)) 4 a))) 5 ((fun a => if a < 10 then (am_row (am_u (am_u (am_u (am_u (am_u I 3 0 (I 9 0)) 3 1 (I 9 1)) 3 2 (I 9 2)) 3 3 (I 9 3)) 3 4 (I 9 4)) 4 ((fun a => if a < 10 then (am_u (am_u (am_u (am_u (am_u I 3 0 (I 9 0)) 3 1 (I 9 1)) 3 2 (I 9 2)) 3 3 (I 9 3)) 3 4 (I 9 4)) 10 a else (am_u (am_u (am_u (am_u (am_u I 3 0 (I 9 0)) 3 1 (I 9 1)) 3 2 (I 9 2)) 3 3 (I 9 3)) 3 4 (I 9 4)) 4 a))) 11 a else (am_row (am_u (am_u (am_u (am_u (am_u I 3 0 (I 9 0)) 3 1 (I 9 1)) 3 2 (I 9 2)) 3 3 (I 9 3)) 3 4 (I 9 4)) 4 ((fun a => if a < 10 then (am_u (am_u (am_u (am_u (am_u I 3 0 (I 9 0)) 3 1 (I 9 1)) 3 2 (I 9 2)) 3 3 (I 9 3)) 3 4 (I 9 4)) 10 a else (am_u (am_u (am_u (am_u (am_u I 3 0 (I 9 0)) 3 1 (I 9 1)) 3 2 (I 9 2)) 3 3 (I 9 3)) 3 4 (I 9 4)) 4 a))) 5 a))) 6 a))) 7 a))) 8 ((fun a => if a < 6 then (am_row (am_row (am_row (am_row (am_u (am_u (am_u (am_u (am_u I 3 0 (I 9 0)) 3 1 (I 9 1)) 3 2 (I 9 2)) 3 3 (I 9 3)) 3 4 (I 9 4)) 4 ((fun a => if a < 10 then (am_u (am_u (am_u (am_u (am_u I 3 0 (I 9 0)) 3 1 (I 9 1)) 3 2 (I 9 2)) 3 3 (I 9 3)) 3 4 (I 9 4)) 10 a else (am_u (am_u (am_u (am_u (am_u I 3 0 (I 9 0)) 3 1 (I 9 1)) 3 2 (I 9 2)) 3 3 (I 9 3)) 3 4 (I 9 4)) 4 a))) 5 ((fun a => if a < 10 then (am_row (am_u (am_u (am_u (am_u (am_u I 3 0 (I 9 0)) 3 1 (I 9 1)) 3 2 (I 9 2)) 3 3 (I 9 3)) 3 4 (I 9 4)) 4 ((fun a => if a < 10 then (am_u (am_u (am_u (am_u (am_u I 3 0 (I 9 0)) 3 1 (I 9 1)) 3 2 (I 9 2)) 3 3 (I 9 3)) 3 4 (I 9 4)) 10 a else (am_u (am_u (am_u (am_u (am_u I 3 0 (I 9 0)) 3 1 (I 9 1)) 3 2 (I 9 2)) 3 3 (I 9 3)) 3 4 (I 9 4)) 4 a))) 11 a else (am_row (am_u (am_u (am_u (am_u (am_u I 3 0 (I 9 0)) 3 1 (I 9 1)) 3 2 (I 9 2)) 3 3 (I 9 3)) 3 4 (I 9 4)) 4 ((fun a => if a < 10 then (am_u (am_u (am_u (am_u (am_u I 3 0 (I 9 0)) 3 1 (I 9 1)) 3 2 (I 9 2)) 3 3 (I 9 3)) 3 4 (I 9 4)) 10 a else (am_u (am_u (am_u (am_u (am_u I 3 0 (I 9 0)) 3 1 (I 9 1)) 3 2 (I 9 2)) 3 3 (I 9 3)) 3 4 (I 9 4)) 4 a))) 5 a))) 6 ((fun a => if a < 6 then (am_row (am_row (am_u (am_u (am_u (am_u (am_u I 3 0 (I 9 0)) 3 1 (I 9 1)) 3 2 (I 9 2)) 3 3 (I 9 3)) 3 4 (I 9 4)) 4 ((fun a => if a < 10 then (am_u (am_u (am_u (am_u (am_u I 3 0 (I 9 0)) 3 1 (I 9 1)) 3 2 (I 9 2)) 3 3 (I 9 3)) 3 4 (I 9 4)) 10 a else (am_u (am_u (am_u (am_u (am_u I 3 0 (I 9 0)) 3 1 (I 9 1)) 3 2 (I 9 2)) 3 3 (I 9 3)) 3 4 (I 9 4)) 4 a))) 5 ((fun a => if a < 10 then (am_row (am_u (am_u (am_u (am_u (am_u I 3 0 (I 9 0)) 3 1 (I 9 1)) 3 2 (I 9 2)) 3 3 (I 9 3)) 3 4 (I 9 4)) 4 ((fun a => if a < 10 then (am_u (am_u (am_u (am_u (am_u I 3 0 (I 9 0)) 3 1 (I 9 1)) 3 2 (I 9 2)) 3 3 (I 9 3)) 3 4 (I 9 4)) 10 a else (am_u (am_u (am_u (am_u (am_u I 3 0 (I 9 0)) 3 1 (I 9 1)) 3 2 (I 9 2)) 3 3 (I 9 3)) 3 4 (I 9 4)) 4 a))) 11 a else (am_row (am_u (am_u (am_u (am_u (am_u I 3 0 (I 9 0)) 3 1 (I 9 1)) 3 2 (I 9 2)) 3 3 (I 9 3)) 3 4 (I 9 4)) 4 ((fun a => if a < 10 then (am_u (am_u (am_u (am_u (am_u I 3 0 (I 9 0)) 3 1 (I 9 1)) 3 2 (I 9 2)) 3 3 (I 9 3)) 3 4 (I 9 4)) 10 a else (am_u (am_u (am_u (am_u (am_u I 3 0 (I 9 0)) 3 1 (I 9 1)) 3 2 (I 9 2)) 3 3 (I 9 3)) 3 4 (I 9 4)) 4 a))) 5 a))) 12 a else (am_row (am_row (am_u (am_u (am_u (am_u (am_u I 3 0 (I 9 0)) 3 1 (I 9 1)) 3 2 (I 9 2)) 3 3 (I 9 3)) 3 4 (I 9 4)) 4 ((fun a => if a < 10 then (am_u (am_u (am_u (am_u (am_u I 3 0 (I 9 0)) 3 1 (I 9 1)) 3 2 (I 9 2)) 3 3 (I 9 3)) 3 4 (I 9 4)) 10 a else (am_u (am_u (am_u (am_u (am_u I 3 0 (I 9 0)) 3 1 (I 9 1)) 3 2 (I 9 2)) 3 3 (I 9 3)) 3 4 (I 9 4)) 4 a))) 5 ((fun a => if a < 10 then (am_row (am_u (am_u (am_u (am_u (am_u I 3 0 (I 9 0)) 3 1 (I 9 1)) 3 2 (I 9 2)) 3 3 (I 9 3)) 3 4 (I 9 4)) 4 ((fun a => if a < 10 then (am_u (am_u (am_u (am_u (am_u I 3 0 (I 9 0)) 3 1 (I 9 1)) 3 2 (I 9 2)) 3 3 (I 9 3)) 3 4 (I 9 4)) 10 a else (am_u (am_u (am_u (am_u (am_u I 3 0 (I 9 0)) 3 1 (I 9 1)) 3 2 (I 9 2)) 3 3 (I 9 3)) 3 4 (I 9 4)) 4 a))) 11 a else (am_row (am_u (am_u (am_u (am_u (am_u I 3 0 (I 9 0)) 3 1 (I 9 1)) 3 2 (I 9 2)) 3 3 (I 9 3)) 3 4 (I 9 4)) 4 ((fun a => if a < 10 then (am_u (am_u (am_u (am_u (am_u I 3 0 (I 9 0)) 3 1 (I 9 1)) 3 2 (I 9 2)) 3 3 (I 9 3)) 3 4 (I 9 4)) 10 a else (am_u (am_u (am_u (am_u (am_u I 3 0 (I 9 0)) 3 1 (I 9 1)) 3 2 (I 9 2)) 3 3 (I 9 3)) 3 4 (I 9 4)) 4 a))) 5 a))) 6 a))) 7 ((fun a => if a < 6 then (am_row (am_row (am_row (am_u (am_u (am_u (am_u (am_u I 3 0 (I 9 0)) 3 1 (I 9 1)) 3 2 (I 9 2)) 3 3 (I 9 3)) 3 4 (I 9 4)) 4 ((fun a => if a < 10 then (am_u (am_u (am_u (am_u (am_u I 3 0 (I 9 0)) 3 1 (I 9 1)) 3 2 (I 9 2)) 3 3 (I 9 3)) 3 4 (I 9 4)) 10 a else (am_u (am_u (am_u (am_u (am_u I 3 0 (I 9 0)) 3 1 (I 9 1)) 3 2 (I 9 2)) 3 3 (I 9 3)) 3 4 (I 9 4)) 4 a))) 5 ((fun a => if a < 10 then (am_row (am_u (am_u (am_u (am_u (am_u I 3 0 (I 9 0)) 3 1 (I 9 1)) 3 2 (I 9 2)) 3 3 (I 9 3)) 3 4 (I 9 4)) 4 ((fun a => if a < 10 then (am_u (am_u (am_u (am_u (am_u I 3 0 (I 9 0)) 3 1 (I 9 1)) 3 2 (I 9 2)) 3 3 (I 9 3)) 3 4 (I 9 4)) 10 a else (am_u (am_u (am_u (am_u (am_u I 3 0 (I 9 0)) 3 1 (I 9 1)) 3 2 (I 9 2)) 3 3 (I 9 3)) 3 4 (I 9 4)) 4 a))) 11 a else (am_row (am_u (am_u (am_u (am_u (am_u I 3 0 (I 9 0)) 3 1 (I 9 1)) 3 2 (I 9 2)) 3 3 (I 9 3)) 3 4 (I 9 4)) 4 ((fun a => if a < 10 then (am_u (am_u (am_u (am_u (am_u I 3 0 (I 9 0)) 3 1 (I 9 1)) 3 2 (I 9 2)) 3 3 (I 9 3)) 3 4 (I 9 4)) 10 a else (am_u (am_u (am_u (am_u (am_u I 3 0 (I 9 0)) 3 1 (I 9 1)) 3 2 (I 9 2)) 3 3 (I 9 3)) 3 4 (I 9 4)) 4 a))) 5 a))) 6 ((fun a => if a < 6 then (am_row (am_row (am_u (am_u (am_u (am_u (am_u I 3 0 (I 9 0)) 3 1 (I 9 1)) 3 2 (I 9 2)) 3 3 (I 9 3)) 3 4 (I 9 4)) 4 ((fun a => if a < 10 then (am_u (am_u (am_u (am_u (am_u I 3 0 (I 9 0)) 3 1 (I 9 1)) 3 2 (I 9 2)) 3 3 (I 9 3)) 3 4 (I 9 4)) 10 a else (am_u (am_u (am_u (am_u (am_u I 3 0 (I 9 0)) 3 1 (I 9 1)) 3 2 (I 9 2)) 3 3 (I 9 3)) 3 4 (I 9 4)) 4 a))) 5 ((fun a => if a < 10 then (am_row (am_u (am_u (am_u (am_u (am_u I 3 0 (I 9 0)) 3 1 (I 9 1)) 3 2 (I 9 2)) 3 3 (I 9 3)) 3 4 (I 9 4)) 4 ((fun a => if a < 10 then (am_u (am_u (am_u (am_u (am_u I 3 0 (I 9 0)) 3 1 (I 9 1)) 3 2 (I 9 2)) 3 3 (I 9 3)) 3 4 (I 9 4)) 10 a else (am_u (am_u (am_u (am_u (am_u I 3 0 (I 9 0)) 3 1 (I 9 1)) 3 2 (I 9 2)) 3 3 (I 9 3)) 3 4 (I 9 4)) 4 a))) 11 a else (am_row (am_u (am_u (am_u (am_u (am_u I 3 0 (I 9 0)) 3 1 (I 9 1)) 3 2 (I 9 2)) 3 3 (I 9 3)) 3 4 (I 9 4)) 4 ((fun a => if a < 10 then (am_u (am_u (am_u (am_u (am_u I 3 0 (I 9 0)) 3 1 (I 9 1)) 3 2 (I 9 2)) 3 3 (I 9 3)) 3 4 (I 9 4)) 10 a else (am_u (am_u (am_u (am_u (am_u I 3 0 (I 9 0)) 3 1 (I 9 1)) 3 2 (I 9 2)) 3 3 (I 9 3)) 3 4 (I 9 4)) 4 a))) 5 a))) 12 a else (am_row (am_row (am_u (am_u (am_u (am_u (am_u I 3 0 (I 9 0)) 3 1 (I 9 1)) 3 2 (I 9 2)) 3 3 (I 9 3)) 3 4 (I 9 4)) 4 ((fun a => if a < 10 then (am_u (am_u (am_u (am_u (am_u I 3 0 (I 9 0)) 3 1 (I 9 1)) 3 2 (I 9 2)) 3 3 (I 9 3)) 3 4 (I 9 4)) 10 a else (am_u (am_u (am_u (am_u (am_u I 3 0 (I 9 0)) 3 1 (I 9 1)) 3 2 (I 9 2)) 3 3 (I 9 3)) 3 4 (I 9 4)) 4 a))) 5 ((fun a => if a < 10 then (am_row (am_u (am_u (am_u (am_u (am_u I 3 0 (I 9 0)) 3 1 (I 9 1)) 3 2 (I 9 2)) 3 3 (I 9 3)) 3 4 (I 9 4)) 4 ((fun a => if a < 10 then (am_u (am_u (am_u (am_u (am_u I 3 0 (I 9 0)) 3 1 (I 9 1)) 3 2 (I 9 2)) 3 3 (I 9 3)) 3 4 (I 9 4)) 10 a else (am_u (am_u (am_u (am_u (am_u I 3 0 (I 9 0)) 3 1 (I 9 1)) 3 2 (I 9 2)) 3 3 (I 9 3)) 3 4 (I 9 4)) 4 a))) 11 a else (am_row (am_u (am_u (am_u (am_u (am_u I 3 0 (I 9 0)) 3 1 (I 9 1)) 3 2 (I 9 2)) 3 3 (I 9 3)) 3 4 (I 9 4)) 4 ((fun a => if a < 10 then (am_u (am_u (am_u (am_u (am_u I 3 0 (I 9 0)) 3 1 (I 9 1)) 3 2 (I 9 2)) 3 3 (I 9 3)) 3 4 (I 9 4)) 10 a else (am_u (am_u (am_u (am_u (am_u I 3 0 (I 9 0)) 3 1 (I 9 1)) 3 2 (I 9 2)) 3 3 (I 9 3)) 3 4 (I 9 4)) 4 a))) 5 a))) 6 a))) 13 a else (am_row (am_row (am_row (am_u (am_u (am_u (am_u (am_u I 3 0 (I 9 0)) 3 1 (I 9 1)) 3 2 (I 9 2)) 3 3 (I 9 3)) 3 4 (I 9 4)) 4 ((fun a => if a < 10 then (am_u (am_u (am_u (am_u (am_u I 3 0 (I 9 0)) 3 1 (I 9 1)) 3 2 (I 9 2)) 3 3 (I 9 3)) 3 4 (I 9 4)) 10 a else (am_u (am_u (am_u (am_u (am_u I 3 0 (I 9 0)) 3 1 (I 9 1)) 3 2 (I 9 2)) 3 3 (I 9 3)) 3 4 (I 9 4)) 4 a))) 5 ((fun a => if a < 10 then (am_row (am_u (am_u (am_u (am_u (am_u I 3 0 (I 9 0)) 3 1 (I 9 1)) 3 2 (I 9 2)) 3 3 (I 9 3)) 3 4 (I 9 4)) 4 ((fun a => if a < 10 then (am_u (am_u (am_u (am_u (am_u I 3 0 (I 9 0)) 3 1 (I 9 1)) 3 2 (I 9 2)) 3 3 (I 9 3)) 3 4 (I 9 4)) 10 a else (am_u (am_u (am_u (am_u (am_u I 3 0 (I 9 0)) 3 1 (I 9 1)) 3 2 (I 9 2)) 3 3 (I 9 3)) 3 4 (I 9 4)) 4 a))) 11 a else (am_row (am_u (am_u (am_u (am_u (am_u I 3 0 (I 9 0)) 3 1 (I 9 1)) 3 2 (I 9 2)) 3 3 (I 9 3)) 3 4 (I 9 4)) 4 ((fun a => if a < 10 then (am_u (am_u (am_u (am_u (am_u I 3 0 (I 9 0)) 3 1 (I 9 1)) 3 2 (I 9 2)) 3 3 (I 9 3)) 3 4 (I 9 4)) 10 a else (am_u (am_u (am_u (am_u (am_u I 3 0 (I 9 0)) 3 1 (I 9 1)) 3 2 (I 9 2)) 3 3 (I 9 3)) 3 4 (I 9 4)) 4 a))) 5 a))) 6 ((fun a => if a < 6 then (am_row (am_row (am_u (am_u (am_u (am_u (am_u I 3 0 (I 9 0)) 3 1 (I 9 1)) 3 2 (I 9 2)) 3 3 (I 9 3)) 3 4 (I 9 4)) 4 ((fun a => if a < 10 then (am_u (am_u (am_u (am_u (am_u I 3 0 (I 9 0)) 3 1 (I 9 1)) 3 2 (I 9 2)) 3 3 (I 9 3)) 3 4 (I 9 4)) 10 a else (am_u (am_u (am_u (am_u (am_u I 3 0 (I 9 0)) 3 1 (I 9 1)) 3 2 (I 9 2)) 3 3 (I 9 3)) 3 4 (I 9 4)) 4 a))) 5 ((fun a => if a < 10 then (am_row (am_u (am_u (am_u (am_u (am_u I 3 0 (I 9 0)) 3 1 (I 9 1)) 3 2 (I 9 2)) 3 3 (I 9 3)) 3 4 (I 9 4)) 4 ((fun a => if a < 10 then (am_u (am_u (am_u (am_u (am_u I 3 0 (I 9 0)) 3 1 (I 9 1)) 3 2 (I 9 2)) 3 3 (I 9 3)) 3 4 (I 9 4)) 10 a else (am_u (am_u (am_u (am_u (am_u I 3 0 (I 9 0)) 3 1 (I 9 1)) 3 2 (I 9 2)) 3 3 (I 9 3)) 3 4 (I 9 4)) 4 a))) 11 a else (am_row (am_u (am_u (am_u (am_u (am_u I 3 0 (I 9 0)) 3 1 (I 9 1)) 3 2 (I 9 2)) 3 3 (I 9 3)) 3 4 (I 9 4)) 4 ((fun a => if a < 10 then (am_u (am_u (am_u (am_u (am_u I 3 0 (I 9 0)) 3 1 (I 9 1)) 3 2 (I 9 2)) 3 3 (I 9 3)) 3 4 (I 9 4)) 10 a else (am_u (am_u (am_u (am_u (am_u I 3 0 (I 9 0)) 3 1 (I 9 1)) 3 2 (I 9 2)) 3 3 (I 9 3)) 3 4 (I 9 4)) 4 a))) 5 a))) 12 a else (am_row (am_row (am_u (am_u (am_u (am_u (am_u I 3 0 (I 9 0)) 3 1 (I 9 1)) 3 2 (I 9 2)) 3 3 (I 9 3)) 3 4 (I 9 4)) 4 ((fun a => if a < 10 then (am_u (am_u (am_u (am_u (am_u I 3 0 (I 9 0)) 3 1 (I 9 1)) 3 2 (I 9 2)) 3 3 (I 9 3)) 3 4 (I 9 4)) 10 a else (am_u (am_u (am_u (am_u (am_u I 3 0 (I 9 0)) 3 1 (I 9 1)) 3 2 (I 9 2)) 3 3 (I 9 3)) 3 4 (I 9 4)) 4 a))) 5 ((fun a => if a < 10 then (am_row (am_u (am_u (am_u (am_u (am_u I 3 0 (I 9 0)) 3 1 (I 9 1)) 3 2 (I 9 2)) 3 3 (I 9 3)) 3 4 (I 9 4)) 4 ((fun a => if a < 10 then (am_u (am_u (am_u (am_u (am_u I 3 0 (I 9 0)) 3 1 (I 9 1)) 3 2 (I 9 2)) 3 3 (I 9 3)) 3 4 (I 9 4)) 10 a else (am_u (am_u (am_u (am_u (am_u I 3 0 (I 9 0)) 3 1 (I 9 1)) 3 2 (I 9 2)) 3 3 (I 9 3)) 3 4 (I 9 4)) 4 a))) 11 a else (am_row (am_u (am_u (am_u (am_u (am_u I 3 0 (I 9 0)) 3 1 (I 9 1)) 3 2 (I 9 2)) 3 3 (I 9 3)) 3 4 (I 9 4)) 4 ((fun a => if a < 10 then (am_u (am_u (am_u (am_u (am_u I 3 0 (I 9 0)) 3 1 (I 9 1)) 3 2 (I 9 2)) 3 3 (I 9 3)) 3 4 (I 9 4)) 10 a else (am_u (am_u (am_u (am_u (am_u I 3 0 (I 9 0)) 3 1 (I 9 1)) 3 2 (I 9 2)) 3 3 (I 9 3)) 3 4 (I 9 4)) 4 a))) 5 a))) 6 a))) 7 a))) 14 a else (am_row (am_row (am_row (am_row (am_u (am_u (am_u (am_u (am_u I 3 0 (I 9 0)) 3 1 (I 9 1)) 3 2 (I 9 2)) 3 3 (I 9 3)) 3 4 (I 9 4)) 4 ((fun a => if a < 10 then (am_u (am_u (am_u (am_u (am_u I 3 0 (I 9 0)) 3 1 (I 9 1)) 3 2 (I 9 2)) 3 3 (I 9 3)) 3 4 (I 9 4)) 10 a else (am_u (am_u (am_u (am_u (am_u I 3 0 (I 9 0)) 3 1 (I 9 1)) 3 2 (I 9 2)) 3 3 (I 9 3)) 3 4 (I 9 4)) 4 a))) 5 ((fun a => if a < 10 then (am_row (am_u (am_u (am_u (am_u (am_u I 3 0 (I 9 0)) 3 1 (I 9 1)) 3 2 (I 9 2)) 3 3 (I 9 3)) 3 4 (I 9 4)) 4 ((fun a => if a < 10 then (am_u (am_u (am_u (am_u (am_u I 3 0 (I 9 0)) 3 1 (I 9 1)) 3 2 (I 9 2)) 3 3 (I 9 3)) 3 4 (I 9 4)) 10 a else (am_u (am_u (am_u (am_u (am_u I 3 0 (I 9 0)) 3 1 (I 9 1)) 3 2 (I 9 2)) 3 3 (I 9 3)) 3 4 (I 9 4)) 4 a))) 11 a else (am_row (am_u (am_u (am_u (am_u (am_u I 3 0 (I 9 0)) 3 1 (I 9 1)) 3 2 (I 9 2)) 3 3 (I 9 3)) 3 4 (I 9 4)) 4 ((fun a => if a < 10 then (am_u (am_u (am_u (am_u (am_u I 3 0 (I 9 0)) 3 1 (I 9 1)) 3 2 (I 9 2)) 3 3 (I 9 3)) 3 4 (I 9 4)) 10 a else (am_u (am_u (am_u (am_u (am_u I 3 0 (I 9 0)) 3 1 (I 9 1)) 3 2 (I 9 2)) 3 3 (I 9 3)) 3 4 (I 9 4)) 4 a))) 5 a))) 6 ((fun a => if a < 6 then (am_row (am_row (am_u (am_u (am_u (am_u (am_u I 3 0 (I 9 0)) 3 1 (I 9 1)) 3 2 (I 9 2)) 3 3 (I 9 3)) 3 4 (I 9 4)) 4 ((fun a => if a < 10 then (am_u (am_u (am_u (am_u (am_u I 3 0 (I 9 0)) 3 1 (I 9 1)) 3 2 (I 9 2)) 3 3 (I 9 3)) 3 4 (I 9 4)) 10 a else (am_u (am_u (am_u (am_u (am_u I 3 0 (I 9 0)) 3 1 (I 9 1)) 3 2 (I 9 2)) 3 3 (I 9 3)) 3 4 (I 9 4)) 4 a))) 5 ((fun a => if a < 10 then (am_row (am_u (am_u (am_u (am_u (am_u I 3 0 (I 9 0)) 3 1 (I 9 1)) 3 2 (I 9 2)) 3 3 (I 9 3)) 3 4 (I 9 4)) 4 ((fun a => if a < 10 then (am_u (am_u (am_u (am_u (am_u I 3 0 (I 9 0)) 3 1 (I 9 1)) 3 2 (I 9 2)) 3 3 (I 9 3)) 3 4 (I 9 4)) 10 a else (am_u (am_u (am_u (am_u (am_u I 3 0 (I 9 0)) 3 1 (I 9 1)) 3 2 (I 9 2)) 3 3 (I 9 3)) 3 4 (I 9 4)) 4 a))) 11 a else (am_row (am_u (am_u (am_u (am_u (am_u I 3 0 (I 9 0)) 3 1 (I 9 1)) 3 2 (I 9 2)) 3 3 (I 9 3)) 3 4 (I 9 4)) 4 ((fun a => if a < 10 then (am_u (am_u (am_u (am_u (am_u I 3 0 (I 9 0)) 3 1 (I 9 1)) 3 2 (I 9 2)) 3 3 (I 9 3)) 3 4 (I 9 4)) 10 a else (am_u (am_u (am_u (am_u (am_u I 3 0 (I 9 0)) 3 1 (I 9 1)) 3 2 (I 9 2)) 3 3 (I 9 3)) 3 4 (I 9 4)) 4 a))) 5 a))) 12 a else (am_row (am_row (am_u (am_u (am_u (am_u (am_u I 3 0 (I 9 0)) 3 1 (I 9 1)) 3 2 (I 9 2)) 3 3 (I 9 3)) 3 4 (I 9 4)) 4 ((fun a => if a < 10 then (am_u (am_u (am_u (am_u (am_u I 3 0 (I 9 0)) 3 1 (I 9 1)) 3 2 (I 9 2)) 3 3 (I 9 3)) 3 4 (I 9 4)) 10 a else (am_u (am_u (am_u (am_u (am_u I 3 0 (I 9 0)) 3 1 (I 9 1)) 3 2 (I 9 2)) 3 3 (I 9 3)) 3 4 (I 9 4)) 4 a))) 5 ((fun a => if a < 10 then (am_row (am_u (am_u (am_u (am_u (am_u I 3 0 (I 9 0)) 3 1 (I 9 1)) 3 2 (I 9 2)) 3 3 (I 9 3)) 3 4 (I 9 4)) 4 ((fun a => if a < 10 then (am_u (am_u (am_u (am_u (am_u I 3 0 (I 9 0)) 3 1 (I 9 1)) 3 2 (I 9 2)) 3 3 (I 9 3)) 3 4 (I 9 4)) 10 a else (am_u (am_u (am_u (am_u (am_u I 3 0 (I 9 0)) 3 1 (I 9 1)) 3 2 (I 9 2)) 3 3 (I 9 3)) 3 4 (I 9 4)) 4 a))) 11 a else (am_row (am_u (am_u (am_u (am_u (am_u I 3 0 (I 9 0)) 3 1 (I 9 1)) 3 2 (I 9 2)) 3 3 (I 9 3)) 3 4 (I 9 4)) 4 ((fun a => if a < 10 then (am_u (am_u (am_u (am_u (am_u I 3 0 (I 9 0)) 3 1 (I 9 1)) 3 2 (I 9 2)) 3 3 (I 9 3)) 3 4 (I 9 4)) 10 a else (am_u (am_u (am_u (am_u (am_u I 3 0 (I 9 0)) 3 1 (I 9 1)) 3 2 (I 9 2)) 3 3 (I 9 3)) 3 4 (I 9 4)) 4 a))) 5 a))) 6 a))) 7 ((fun a => if a < 6 then (am_row (am_row (am_row (am_u (am_u (am_u (am_u (am_u I 3 0 (I 9 0)) 3 1 (I 9 1)) 3 2 (I 9 2)) 3 3 (I 9 3)) 3 4 (I 9 4)) 4 ((fun a => if a < 10 then (am_u (am_u (am_u (am_u (am_u I 3 0 (I 9 0)) 3 1 (I 9 1)) 3 2 (I 9 2)) 3 3 (I 9 3)) 3 4 (I 9 4)) 10 a else (am_u (am_u (am_u (am_u (am_u I 3 0 (I 9 0)) 3 1 (I 9 1)) 3 2 (I 9 2)) 3 3 (I 9 3)) 3 4 (I 9 4)) 4 a))) 5 ((fun a => if a < 10 then (am_row (am_u (am_u (am_u (am_u (am_u I 3 0 (I 9 0)) 3 1 (I 9 1)) 3 2 (I 9 2)) 3 3 (I 9 3)) 3 4 (I 9 4)) 4 ((fun a => if a < 10 then (am_u (am_u (am_u (am_u (am_u I 3 0 (I 9 0)) 3 1 (I 9 1)) 3 2 (I 9 2)) 3 3 (I 9 3)) 3 4 (I 9 4)) 10 a else (am_u (am_u (am_u (am_u (am_u I 3 0 (I 9 0)) 3 1 (I 9 1)) 3 2 (I 9 2)) 3 3 (I 9 3)) 3 4 (I 9 4)) 4 a))) 11 a else (am_row (am_u (am_u (am_u (am_u (am_u I 3 0 (I 9 0)) 3 1 (I 9 1)) 3 2 (I 9 2)) 3 3 (I 9 3)) 3 4 (I 9 4)) 4 ((fun a => if a < 10 then (am_u (am_u (am_u (am_u (am_u I 3 0 (I 9 0)) 3 1 (I 9 1)) 3 2 (I 9 2)) 3 3 (I 9 3)) 3 4 (I 9 4)) 10 a else (am_u (am_u (am_u (am_u (am_u I 3 0 (I 9 0)) 3 1 (I 9 1)) 3 2 (I 9 2)) 3 3 (I 9 3)) 3 4 (I 9 4)) 4 a))) 5 a))) 6 ((fun a => if a < 6 then (am_row (am_row (am_u (am_u (am_u (am_u (am_u I 3 0 (I 9 0)) 3 1 (I 9 1)) 3 2 (I 9 2)) 3 3 (I 9 3)) 3 4 (I 9 4)) 4 ((fun a => if a < 10 then (am_u (am_u (am_u (am_u (am_u I 3 0 (I 9 0)) 3 1 (I 9 1)) 3 2 (I 9 2)) 3 3 (I 9 3)) 3 4 (I 9 4)) 10 a else (am_u (am_u (am_u (am_u (am_u I 3 0 (I 9 0)) 3 1 (I 9 1)) 3 2 (I 9 2)) 3 3 (I 9 3)) 3 4 (I 9 4)) 4 a))) 5 ((fun a => if a < 10 then (am_row (am_u (am_u (am_u (am_u (am_u I 3 0 (I 9 0)) 3 1 (I 9 1)) 3 2 (I 9 2)) 3 3 (I 9 3)) 3 4 (I 9 4)) 4 ((fun a => if a < 10 then (am_u (am_u (am_u (am_u (am_u I 3 0 (I 9 0)) 3 1 (I 9 1)) 3 2 (I 9 2)) 3 3 (I 9 3)) 3 4 (I 9 4)) 10 a else (am_u (am_u (am_u (am_u (am_u I 3 0 (I 9 0)) 3 1 (I 9 1)) 3 2 (I 9 2)) 3 3 (I 9 3)) 3 4 (I 9 4)) 4 a))) 11 a else (am_row (am_u (am_u (am_u (am_u (am_u I 3 0 (I 9 0)) 3 1 (I 9 1)) 3 2 (I 9 2)) 3 3 (I 9 3)) 3 4 (I 9 4)) 4 ((fun a => if a < 10 then (am_u (am_u (am_u (am_u (am_u I 3 0 (I 9 0)) 3 1 (I 9 1)) 3 2 (I 9 2)) 3 3 (I 9 3)) 3 4 (I 9 4)) 10 a else (am_u (am_u (am_u (am_u (am_u I 3 0 (I 9 0)) 3 1 (I 9 1)) 3 2 (I 9 2)) 3 3 (I 9 3)) 3 4 (I 9 4)) 4 a))) 5 a))) 12 a else (am_row (am_row (am_u (am_u (am_u (am_u (am_u I 3 0 (I 9 0)) 3 1 (I 9 1)) 3 2 (I 9 2)) 3 3 (I 9 3)) 3 4 (I 9 4)) 4 ((fun a => if a < 10 then (am_u (am_u (am_u (am_u (am_u I 3 0 (I 9 0)) 3 1 (I 9 1)) 3 2 (I 9 2)) 3 3 (I 9 3)) 3 4 (I 9 4)) 10 a else (am_u (am_u (am_u (am_u (am_u I 3 0 (I 9 0)) 3 1 (I 9 1)) 3 2 (I 9 2)) 3 3 (I 9 3)) 3 4 (I 9 4)) 4 a))) 5 ((fun a => if a < 10 then (am_row (am_u (am_u (am_u (am_u (am_u I 3 0 (I 9 0)) 3 1 (I 9 1)) 3 2 (I 9 2)) 3 3 (I 9 3)) 3 4 (I 9 4)) 4 ((fun a => if a < 10 then (am_u (am_u (am_u (am_u (am_u I 3 0 (I 9 0)) 3 1 (I 9 1)) 3 2 (I 9 2)) 3 3 (I 9 3)) 3 4 (I 9 4)) 10 a else (am_u (am_u (am_u (am_u (am_u I 3 0 (I 9 0)) 3 1 (I 9 1)) 3 2 (I 9 2)) 3 3 (I 9 3)) 3 4 (I 9 4)) 4 a))) 11 a else (am_row (am_u (am_u (am_u (am_u (am_u I 3 0 (I 9 0)) 3 1 (I 9 1)) 3 2 (I 9 2)) 3 3 (I 9 3)) 3 4 (I 9 4)) 4 ((fun a => if a < 10 then (am_u (am_u (am_u (am_u (am_u I 3 0 (I 9 0)) 3 1 (I 9 1)) 3 2 (I 9 2)) 3 3 (I 9 3)) 3 4 (I 9 4)) 10 a else (am_u (am_u (am_u (am_u (am_u I 3 0 (I 9 0)) 3 1 (I 9 1)) 3 2 (I 9 2)) 3 3 (I 9 3)) 3 4 (I 9 4)) 4 a))) 5 a))) 6 a))) 13 a else (am_row (am_row (am_row (am_u (am_u (am_u (am_u (am_u I 3 0 (I 9 0)) 3 1 (I 9 1)) 3 2 (I 9 2)) 3 3 (I 9 3)) 3 4 (I 9 4)) 4 ((fun a => if a < 10 then (am_u (am_u (am_u (am_u (am_u I 3 0 (I 9 0)) 3 1 (I 9 1)) 3 2 (I 9 2)) 3 3 (I 9 3)) 3 4 (I 9 4)) 10 a else (am_u (am_u (am_u (am_u (am_u I 3 0 (I 9 0)) 3 1 (I 9 1)) 3 2 (I 9 2)) 3 3 (I 9 3)) 3 4 (I 9 4)) 4 a))) 5 ((fun a => if a < 10 then (am_row (am_u (am_u (am_u (am_u (am_u I 3 0 (I 9 0)) 3 1 (I 9 1)) 3 2 (I 9 2)) 3 3 (I 9 3)) 3 4 (I 9 4)) 4 ((fun a => if a < 10 then (am_u (am_u (am_u (am_u (am_u I 3 0 (I 9 0)) 3 1 (I 9 1)) 3 2 (I 9 2)) 3 3 (I 9 3)) 3 4 (I 9 4)) 10 a else (am_u (am_u (am_u (am_u (am_u I 3 0 (I 9 0)) 3 1 (I 9 1)) 3 2 (I 9 2)) 3 3 (I 9 3)) 3 4 (I 9 4)) 4 a))) 11 a else (am_row (am_u (am_u (am_u (am_u (am_u I 3 0 (I 9 0)) 3 1 (I 9 1)) 3 2 (I 9 2)) 3 3 (I 9 3)) 3 4 (I 9 4)) 4 ((fun a => if a < 10 then (am_u (am_u (am_u (am_u (am_u I 3 0 (I 9 0)) 3 1 (I 9 1)) 3 2 (I 9 2)) 3 3 (I 9 3)) 3 4 (I 9 4)) 10 a else (am_u (am_u (am_u (am_u (am_u I 3 0 (I 9 0)) 3 1 (I 9 1)) 3 2 (I 9 2)) 3 3 (I 9 3)) 3 4 (I 9 4)) 4 a))) 5 a))) 6 ((fun a => if a < 6 then (am_row (am_row (am_u (am_u (am_u (am_u (am_u I 3 0 (I 9 0)) 3 1 (I 9 1)) 3 2 (I 9 2)) 3 3 (I 9 3)) 3 4 (I 9 4)) 4 ((fun a => if a < 10 then (am_u (am_u (am_u (am_u (am_u I 3 0 (I 9 0)) 3 1 (I 9 1)) 3 2 (I 9 2)) 3 3 (I 9 3)) 3 4 (I 9 4)) 10 a else (am_u (am_u (am_u (am_u (am_u I 3 0 (I 9 0)) 3 1 (I 9 1)) 3 2 (I 9 2)) 3 3 (I 9 3)) 3 4 (I 9 4)) 4 a))) 5 ((fun a => if a < 10 then (am_row (am_u (am_u (am_u (am_u (am_u I 3 0 (I 9 0)) 3 1 (I 9 1)) 3 2 (I 9 2)) 3 3 (I 9 3)) 3 4 (I 9 4)) 4 ((fun a => if a < 10 then (am_u (am_u (am_u (am_u (am_u I 3 0 (I 9 0)) 3 1 (I 9 1)) 3 2 (I 9 2)) 3 3 (I 9 3)) 3 4 (I 9 4)) 10 a else (am_u (am_u (am_u (am_u (am_u I 3 0 (I 9 0)) 3 1 (I 9 1)) 3 2 (I 9 2)) 3 3 (I 9 3)) 3 4 (I 9 4)) 4 a))) 11 a else (am_row (am_u (am_u (am_u (am_u (am_u I 3 0 (I 9 0)) 3 1 (I 9 1)) 3 2 (I 9 2)) 3 3 (I 9 3)) 3 4 (I 9 4)) 4 ((fun a => if a < 10 then (am_u (am_u (am_u (am_u (am_u I 3 0 (I 9 0)) 3 1 (I 9 1)) 3 2 (I 9 2)) 3 3 (I 9 3)) 3 4 (I 9 4)) 10 a else (am_u (am_u (am_u (am_u (am_u I 3 0 (I 9 0)) 3 1 (I 9 1)) 3 2 (I 9 2)) 3 3 (I 9 3)) 3 4 (I 9 4)) 4 a))) 5 a))) 12 a else (am_row (am_row (am_u (am_u (am_u (am_u (am_u I 3 0 (I 9 0)) 3 1 (I 9 1)) 3 2 (I 9 2)) 3 3 (I 9 3)) 3 4 (I 9 4)) 4 ((fun a => if a < 10 then (am_u (am_u (am_u (am_u (am_u I 3 0 (I 9 0)) 3 1 (I 9 1)) 3 2 (I 9 2)) 3 3 (I 9 3)) 3 4 (I 9 4)) 10 a else (am_u (am_u (am_u (am_u (am_u I 3 0 (I 9 0)) 3 1 (I 9 1)) 3 2 (I 9 2)) 3 3 (I 9 3)) 3 4 (I 9 4)) 4 a))) 5 ((fun a => if a < 10 then (am_row (am_u (am_u (am_u (am_u (am_u I 3 0 (I 9 0)) 3 1 (I 9 1)) 3 2 (I 9 2)) 3 3 (I 9 3)) 3 4 (I 9 4)) 4 ((fun a => if a < 10 then (am_u (am_u (am_u (am_u (am_u I 3 0 (I 9 0)) 3 1 (I 9 1)) 3 2 (I 9 2)) 3 3 (I 9 3)) 3 4 (I 9 4)) 10 a else (am_u (am_u (am_u (am_u (am_u I 3 0 (I 9 0)) 3 1 (I 9 1)) 3 2 (I 9 2)) 3 3 (I 9 3)) 3 4 (I 9 4)) 4 a))) 11 a else (am_row (am_u (am_u (am_u (am_u (am_u I 3 0 (I 9 0)) 3 1 (I 9 1)) 3 2 (I 9 2)) 3 3 (I 9 3)) 3 4 (I 9 4)) 4 ((fun a => if a < 10 then (am_u (am_u (am_u (am_u (am_u I 3 0 (I 9 0)) 3 1 (I 9 1)) 3 2 (I 9 2)) 3 3 (I 9 3)) 3 4 (I 9 4)) 10 a else (am_u (am_u (am_u (am_u (am_u I 3 0 (I 9 0)) 3 1 (I 9 1)) 3 2 (I 9 2)) 3 3 (I 9 3)) 3 4 (I 9 4)) 4 a))) 5 a))) 6 a))) 7 a))) 8 a))))
set_option maxRecDepth 100000 in
set_option maxHeartbeats 4000000 in
theorem t_X2_become_v3_0 {l : Launch} {ρ : am_R} {n d gc gs : Nat} {I : Nat → Nat → Int32} {J : Nat → Nat → Int64} {T : Nat} {q : (Nat → Nat → Int32)} (hd : 0 * n + 1 ≤ (d + 1))
    (h : f_X2_become_v3 n  I J T  = some q) : AW l ρ (d + 1) M_X2_become 0 [(0, .ref 3), (1, .ref 9)] [] (am_KD, gc, gs) (I, J, am_RT T) (am_KD, gc, gs) (fun v H' => v = [] ∧ H' = (q, J, am_RT T)) := by
  unfold f_X2_become_v3 at h
  refine op_aload_n (k := 0) dX2_become_0 rfl rfl ?_
  refine op_aload_n (k := 1) dX2_become_1 rfl rfl ?_
  refine st_getI (v := I 9 0) dX2_become_2 fl_X2_27 kd_9 (by decide) rfl rfl ?_
  refine st_putI dX2_become_5 fl_X2_27 kd_3 (by decide) rfl ?_
  refine op_aload_n (k := 0) dX2_become_8 rfl rfl ?_
  refine op_aload_n (k := 1) dX2_become_9 rfl rfl ?_
  refine st_getI (v := I 9 1) dX2_become_10 fl_X2_31 kd_9 (by decide) rfl rfl ?_
  refine st_putI dX2_become_13 fl_X2_31 kd_3 (by decide) rfl ?_
  refine op_aload_n (k := 0) dX2_become_16 rfl rfl ?_
  refine op_aload_n (k := 1) dX2_become_17 rfl rfl ?_
  refine st_getI (v := I 9 2) dX2_become_18 fl_X2_34 kd_9 (by decide) rfl rfl ?_
  refine st_putI dX2_become_21 fl_X2_34 kd_3 (by decide) rfl ?_
  refine op_aload_n (k := 0) dX2_become_24 rfl rfl ?_
  refine op_aload_n (k := 1) dX2_become_25 rfl rfl ?_
  refine st_getI (v := I 9 3) dX2_become_26 fl_X2_37 kd_9 (by decide) rfl rfl ?_
  refine st_putI dX2_become_29 fl_X2_37 kd_3 (by decide) rfl ?_
  refine op_aload_n (k := 0) dX2_become_32 rfl rfl ?_
  refine op_aload_n (k := 1) dX2_become_33 rfl rfl ?_
  refine st_getI (v := I 9 4) dX2_become_34 fl_X2_40 kd_9 (by decide) rfl rfl ?_
  refine st_putI dX2_become_37 fl_X2_40 kd_3 (by decide) rfl ?_
  refine op_aload_n (k := 1) dX2_become_40 rfl rfl ?_
  refine st_getR (z := 10) dX2_become_41 fl_X2_9 kd_9 (by decide) rfl rr_9_5 ?_
  refine op_iconst (v := 0) dX2_become_44 (by decide) ?_
  refine op_aload_n (k := 0) dX2_become_45 rfl rfl ?_
  refine st_getR (z := 4) dX2_become_46 fl_X2_9 kd_3 (by decide) rfl rr_3_5 ?_
  refine op_iconst (v := 0) dX2_become_49 (by decide) ?_
  refine op_aload_n (k := 0) dX2_become_50 rfl rfl ?_
  refine st_getR (z := 4) dX2_become_51 fl_X2_9 kd_3 (by decide) rfl rr_3_5 ?_
  refine op_alen50 dX2_become_54 kd_4 ?_
  refine st_copyi (k := 10) dX2_become_55 tw_686 tw_688 tw_687 tw_120 kd_10 kd_4 (by decide) (by decide) (by decide) ?_
  refine op_aload_n (k := 1) dX2_become_58 rfl rfl ?_
  refine st_getR (z := 11) dX2_become_59 fl_X2_15 kd_9 (by decide) rfl rr_9_6 ?_
  refine op_iconst (v := 0) dX2_become_62 (by decide) ?_
  refine op_aload_n (k := 0) dX2_become_63 rfl rfl ?_
  refine st_getR (z := 5) dX2_become_64 fl_X2_15 kd_3 (by decide) rfl rr_3_6 ?_
  refine op_iconst (v := 0) dX2_become_67 (by decide) ?_
  refine op_aload_n (k := 0) dX2_become_68 rfl rfl ?_
  refine st_getR (z := 5) dX2_become_69 fl_X2_15 kd_3 (by decide) rfl rr_3_6 ?_
  refine op_alen50 dX2_become_72 kd_5 ?_
  refine st_copyi (k := 10) dX2_become_73 tw_686 tw_688 tw_687 tw_120 kd_11 kd_5 (by decide) (by decide) (by decide) ?_
  refine op_aload_n (k := 1) dX2_become_76 rfl rfl ?_
  refine st_getR (z := 12) dX2_become_77 fl_X2_18 kd_9 (by decide) rfl rr_9_7 ?_
  refine op_iconst (v := 0) dX2_become_80 (by decide) ?_
  refine op_aload_n (k := 0) dX2_become_81 rfl rfl ?_
  refine st_getR (z := 6) dX2_become_82 fl_X2_18 kd_3 (by decide) rfl rr_3_7 ?_
  refine op_iconst (v := 0) dX2_become_85 (by decide) ?_
  refine op_aload_n (k := 0) dX2_become_86 rfl rfl ?_
  refine st_getR (z := 6) dX2_become_87 fl_X2_18 kd_3 (by decide) rfl rr_3_7 ?_
  refine op_alen50 dX2_become_90 kd_6 ?_
  refine st_copyi (k := 6) dX2_become_91 tw_686 tw_688 tw_687 tw_120 kd_12 kd_6 (by decide) (by decide) (by decide) ?_
  refine op_aload_n (k := 1) dX2_become_94 rfl rfl ?_
  refine st_getR (z := 13) dX2_become_95 fl_X2_21 kd_9 (by decide) rfl rr_9_8 ?_
  refine op_iconst (v := 0) dX2_become_98 (by decide) ?_
  refine op_aload_n (k := 0) dX2_become_99 rfl rfl ?_
  refine st_getR (z := 7) dX2_become_100 fl_X2_21 kd_3 (by decide) rfl rr_3_8 ?_
  refine op_iconst (v := 0) dX2_become_103 (by decide) ?_
  refine op_aload_n (k := 0) dX2_become_104 rfl rfl ?_
  refine st_getR (z := 7) dX2_become_105 fl_X2_21 kd_3 (by decide) rfl rr_3_8 ?_
  refine op_alen50 dX2_become_108 kd_7 ?_
  refine st_copyi (k := 6) dX2_become_109 tw_686 tw_688 tw_687 tw_120 kd_13 kd_7 (by decide) (by decide) (by decide) ?_
  refine op_aload_n (k := 1) dX2_become_112 rfl rfl ?_
  refine st_getR (z := 14) dX2_become_113 fl_X2_24 kd_9 (by decide) rfl rr_9_9 ?_
  refine op_iconst (v := 0) dX2_become_116 (by decide) ?_
  refine op_aload_n (k := 0) dX2_become_117 rfl rfl ?_
  refine st_getR (z := 8) dX2_become_118 fl_X2_24 kd_3 (by decide) rfl rr_3_9 ?_
  refine op_iconst (v := 0) dX2_become_121 (by decide) ?_
  refine op_aload_n (k := 0) dX2_become_122 rfl rfl ?_
  refine st_getR (z := 8) dX2_become_123 fl_X2_24 kd_3 (by decide) rfl rr_3_9 ?_
  refine op_alen50 dX2_become_126 kd_8 ?_
  refine st_copyi (k := 6) dX2_become_127 tw_686 tw_688 tw_687 tw_120 kd_14 kd_8 (by decide) (by decide) (by decide) ?_
  cases h
  exact (op_vret dX2_become_130 rfl ⟨rfl, rfl⟩)
theorem t_X2_become_v3 {l : Launch} {ρ : am_R} {n d gc gs : Nat} {I : Nat → Nat → Int32} {J : Nat → Nat → Int64} {T : Nat} {q : (Nat → Nat → Int32)} (hd : 0 * n + 1 ≤ d) (h : f_X2_become_v3 n I J T  = some q) : AW l ρ d M_X2_become 0 [(0, .ref 3), (1, .ref 9)] [] (am_KD, gc, gs) (I, J, am_RT T) (am_KD, gc, gs) (fun v H' => v = [] ∧ H' = (q, J, am_RT T)) := by
  obtain ⟨d, rfl⟩ : ∃ e, d = e + 1 := ⟨d - 1, by omega⟩
  exact t_X2_become_v3_0 hd h
def f_J7_fill_d0a16_6 (n : Nat) : Nat → (Nat → Nat → Int32) → (Nat → Nat → Int64) → Nat → Int64 → Int32 → Int32 → Option ((Nat → Nat → Int64))
  | 0, _, _, _, _, _, _ => none
  | m + 1, I, J, T, y1, x3, x4 =>
    if x4 ≤ x3 then
     some (J)
    else
     if ok_ix x3 6 then
      f_J7_fill_d0a16_6 n  m I ((am_u J 42 x3.toNatClampNeg y1)) T y1 (x3 + 1) x4
     else none
def f_J7_fill_d0a16 (n : Nat) (I : Nat → Nat → Int32) (J : Nat → Nat → Int64) (T : Nat) (y1 : Int64) : Option ((Nat → Nat → Int64)) :=
  f_J7_fill_d0a16_6 n  n I J T y1 0 6
set_option maxRecDepth 100000 in
set_option maxHeartbeats 4000000 in
theorem t_J7_fill_d0a16_6 {l : Launch} {ρ : am_R} {n d gc gs : Nat} {q : (Nat → Nat → Int64)} (hd : 0 * n + 0 ≤ d)
    : ∀ (m : Nat) (I : Nat → Nat → Int32) (J : Nat → Nat → Int64) (T : Nat) (y1 : Int64) (x3 : Int32) (x4 : Int32), f_J7_fill_d0a16_6 n  m I J T y1 x3 x4 = some q → AW l ρ d M_J7_fill_d0a16 6 [(0, .ref 42), (1, .long y1), (3, .int x3), (4, .int x4)] [] (am_KD, gc, gs) (I, J, am_RT T) (am_KD, gc, gs) (fun v H' => v = [] ∧ H' = (I, q, am_RT T)) := by
  intro m
  induction m with
  | zero =>
    intro I J T y1 x3 x4 h
    rw [f_J7_fill_d0a16_6] at h
    cases h
  | succ m ih =>
    intro I J T y1 x3 x4 h
    rw [f_J7_fill_d0a16_6] at h
    refine op_iload_n (k := 2) dJ7_fill_d0a16_6 rfl rfl ?_
    refine op_iload (k := 3) dJ7_fill_d0a16_7 rfl ?_
    refine op_icmp_ge (tgt := 22) dJ7_fill_d0a16_9 (by decide) (fun c1 => ?_) (fun c1 => ?_)
    · replace h := am_ip c1 h
      cases h
      exact (op_vret dJ7_fill_d0a16_22 rfl ⟨rfl, rfl⟩)
    · replace h := am_ie c1 h
      refine op_aload_n (k := 0) dJ7_fill_d0a16_12 rfl rfl ?_
      refine op_iload_n (k := 2) dJ7_fill_d0a16_13 rfl rfl ?_
      refine op_lload_n (k := 1) dJ7_fill_d0a16_14 rfl rfl ?_
      obtain ⟨g2, h⟩ := am_gd h
      refine st_last (k := x3.toNatClampNeg) dJ7_fill_d0a16_15 kd_42 g2 rfl ?_
      refine op_iinc (k := 2) (v := x3 + 1) (L' := [(3, .int (x3 + 1)), (0, .ref 42), (1, .long y1), (4, .int x4)]) dJ7_fill_d0a16_16 rfl rfl (by decide) rfl ?_
      refine op_goto (tgt := 6) dJ7_fill_d0a16_19 (by decide) ?_
      refine AW.perm [1, 2, 0, 3] rfl ?_
      exact ih _ _ _ _ _ _ h
set_option maxRecDepth 100000 in
set_option maxHeartbeats 4000000 in
theorem t_J7_fill_d0a16_0 {l : Launch} {ρ : am_R} {n d gc gs : Nat} {I : Nat → Nat → Int32} {J : Nat → Nat → Int64} {T : Nat} {y1 : Int64} {q : (Nat → Nat → Int64)} (hd : 0 * n + 0 ≤ d)
    (h : f_J7_fill_d0a16 n  I J T y1 = some q) : AW l ρ d M_J7_fill_d0a16 0 [(0, .ref 42), (1, .long y1)] [] (am_KD, gc, gs) (I, J, am_RT T) (am_KD, gc, gs) (fun v H' => v = [] ∧ H' = (I, q, am_RT T)) := by
  unfold f_J7_fill_d0a16 at h
  refine op_iconst (v := 0) dJ7_fill_d0a16_0 (by decide) ?_
  refine op_istore_n (L' := [(3, .int 0), (0, .ref 42), (1, .long y1)]) dJ7_fill_d0a16_1 rfl (by decide) rfl ?_
  refine op_aload_n (k := 1) dJ7_fill_d0a16_2 rfl rfl ?_
  refine op_alen51 dJ7_fill_d0a16_3 kd_42 ?_
  refine op_istore (L' := [(4, .int 6), (3, .int 0), (0, .ref 42), (1, .long y1)]) dJ7_fill_d0a16_4 (by decide) rfl ?_
  refine AW.perm [2, 3, 1, 0] rfl ?_
  exact t_J7_fill_d0a16_6 hd  n _ _ _ _ _ _ h
theorem t_J7_fill_d0a16 {l : Launch} {ρ : am_R} {n d gc gs : Nat} {I : Nat → Nat → Int32} {J : Nat → Nat → Int64} {T : Nat} {y1 : Int64} {q : (Nat → Nat → Int64)} (hd : 0 * n + 0 ≤ d) (h : f_J7_fill_d0a16 n I J T y1 = some q) : AW l ρ d M_J7_fill_d0a16 0 [(0, .ref 42), (1, .long y1)] [] (am_KD, gc, gs) (I, J, am_RT T) (am_KD, gc, gs) (fun v H' => v = [] ∧ H' = (I, q, am_RT T)) := t_J7_fill_d0a16_0 hd h
def f_X0_clear (n : Nat) (I : Nat → Nat → Int32) (J : Nat → Nat → Int64) (T : Nat) : Option ((Nat → Nat → Int32) × (Nat → Nat → Int64)) :=
  (f_J7_fill_d0a16 n I J T 0).bind fun w1 =>
  some ((am_u (am_u I 41 2 0) 41 3 0), w1)
set_option maxRecDepth 100000 in
set_option maxHeartbeats 4000000 in
theorem t_X0_clear_0 {l : Launch} {ρ : am_R} {n d gc gs : Nat} {I : Nat → Nat → Int32} {J : Nat → Nat → Int64} {T : Nat} {q : (Nat → Nat → Int32) × (Nat → Nat → Int64)} (hd : 0 * n + 1 ≤ (d + 1))
    (h : f_X0_clear n  I J T  = some q) : AW l ρ (d + 1) M_X0_clear 0 [(0, .ref 41)] [] (am_KD, gc, gs) (I, J, am_RT T) (am_KD, gc, gs) (fun v H' => v = [] ∧ H' = (q.1, q.2, am_RT T)) := by
  unfold f_X0_clear at h
  refine op_aload_n (k := 0) dX0_clear_0 rfl rfl ?_
  refine st_getR (z := 42) dX0_clear_1 fl_X0_9 kd_41 (by decide) rfl rr_41_0 ?_
  refine op_lconst (v := 0) dX0_clear_4 (by decide) ?_
  obtain ⟨w1, ew1, h⟩ := am_bd h
  refine op_callS (M' := M_J7_fill_d0a16) [.ref 42, .long 0] (S0 := []) dX0_clear_5 tw_693 ok_J7_fill_d0a16 tw_694 rfl rfl (Nat.le_of_ble_eq_true rfl) (Nat.le_of_ble_eq_true rfl) (t_J7_fill_d0a16 (by omega) ew1) (am_le_rf _) ?_
  rintro _ _ ⟨rfl, rfl⟩
  refine op_aload_n (k := 0) dX0_clear_8 rfl rfl ?_
  refine op_iconst (v := 0) dX0_clear_9 (by decide) ?_
  refine st_putI dX0_clear_10 fl_X0_24 kd_41 (by decide) rfl ?_
  refine op_aload_n (k := 0) dX0_clear_13 rfl rfl ?_
  refine op_iconst (v := 0) dX0_clear_14 (by decide) ?_
  refine st_putI dX0_clear_15 fl_X0_28 kd_41 (by decide) rfl ?_
  cases h
  exact (op_vret dX0_clear_18 rfl ⟨rfl, rfl⟩)
theorem t_X0_clear {l : Launch} {ρ : am_R} {n d gc gs : Nat} {I : Nat → Nat → Int32} {J : Nat → Nat → Int64} {T : Nat} {q : (Nat → Nat → Int32) × (Nat → Nat → Int64)} (hd : 0 * n + 1 ≤ d) (h : f_X0_clear n I J T  = some q) : AW l ρ d M_X0_clear 0 [(0, .ref 41)] [] (am_KD, gc, gs) (I, J, am_RT T) (am_KD, gc, gs) (fun v H' => v = [] ∧ H' = (q.1, q.2, am_RT T)) := by
  obtain ⟨d, rfl⟩ : ∃ e, d = e + 1 := ⟨d - 1, by omega⟩
  exact t_X0_clear_0 hd h
def f_X11_takeRoad (n : Nat) (I : Nat → Nat → Int32) (J : Nat → Nat → Int64) (T : Nat) : Option (Int32 × (Nat → Nat → Int32) × (Nat → Nat → Int64)) :=
  (f_X2_become_v3 n I J T).bind fun w1 =>
  (f_X0_clear n w1 J T).bind fun w2 =>
  some (w2.1 3 1, (am_u (am_u (am_u w2.1 37 5 0) 0 14 0) 1 1 0), w2.2)
set_option maxRecDepth 100000 in
set_option maxHeartbeats 4000000 in
theorem t_X11_takeRoad_0 {l : Launch} {ρ : am_R} {n d gc gs : Nat} {I : Nat → Nat → Int32} {J : Nat → Nat → Int64} {T : Nat} {q : Int32 × (Nat → Nat → Int32) × (Nat → Nat → Int64)} (hd : 0 * n + 2 ≤ (d + 1))
    (h : f_X11_takeRoad n  I J T  = some q) : AW l ρ (d + 1) M_X11_takeRoad 0 [(0, .ref 0)] [] (am_KD, gc, gs) (I, J, am_RT T) (am_KD, gc, gs) (fun v H' => v = [.int q.1] ∧ H' = (q.2.1, q.2.2, am_RT T)) := by
  unfold f_X11_takeRoad at h
  refine op_aload_n (k := 0) dX11_takeRoad_0 rfl rfl ?_
  refine st_getR (z := 3) dX11_takeRoad_1 fl_X11_19 kd_0 (by decide) rfl rr_0_1 ?_
  refine op_aload_n (k := 0) dX11_takeRoad_4 rfl rfl ?_
  refine st_getR (z := 9) dX11_takeRoad_5 fl_X11_23 kd_0 (by decide) rfl rr_0_2 ?_
  obtain ⟨w1, ew1, h⟩ := am_bd h
  refine op_callV (M' := M_X2_become) [.ref 9] (S0 := []) dX11_takeRoad_8 tw_682 ok_X2_become tw_683 tw_684 kd_3 cls_2 rfl rfl rfl (Nat.le_of_ble_eq_true rfl) (Nat.le_of_ble_eq_true rfl) (t_X2_become_v3 (by omega) ew1) (am_le_rf _) ?_
  rintro _ _ ⟨rfl, rfl⟩
  refine op_aload_n (k := 0) dX11_takeRoad_11 rfl rfl ?_
  refine st_getR (z := 41) dX11_takeRoad_12 fl_X11_95 kd_0 (by decide) rfl rr_0_11 ?_
  obtain ⟨w2, ew2, h⟩ := am_bd h
  refine op_callV (M' := M_X0_clear) [] (S0 := []) dX11_takeRoad_15 tw_689 ok_X0_clear tw_690 tw_691 kd_41 cls_0 rfl rfl rfl (Nat.le_of_ble_eq_true rfl) (Nat.le_of_ble_eq_true rfl) (t_X0_clear (by omega) ew2) (am_le_rf _) ?_
  rintro _ _ ⟨rfl, rfl⟩
  refine op_aload_n (k := 0) dX11_takeRoad_18 rfl rfl ?_
  refine st_getR (z := 37) dX11_takeRoad_19 fl_X11_88 kd_0 (by decide) rfl rr_0_10 ?_
  refine op_iconst (v := 0) dX11_takeRoad_22 (by decide) ?_
  refine st_putI dX11_takeRoad_23 fl_X11_142 kd_37 (by decide) rfl ?_
  refine op_aload_n (k := 0) dX11_takeRoad_26 rfl rfl ?_
  refine op_iconst (v := 0) dX11_takeRoad_27 (by decide) ?_
  refine st_putZ dX11_takeRoad_28 fl_X11_105 kd_0 (by decide) rfl (by decide) ?_
  refine op_aload_n (k := 0) dX11_takeRoad_31 rfl rfl ?_
  refine st_getR (z := 1) dX11_takeRoad_32 fl_X11_10 kd_0 (by decide) rfl rr_0_0 ?_
  refine op_iconst (v := 0) dX11_takeRoad_35 (by decide) ?_
  refine st_putI dX11_takeRoad_36 fl_X11_117 kd_1 (by decide) rfl ?_
  refine op_aload_n (k := 0) dX11_takeRoad_39 rfl rfl ?_
  refine st_getR (z := 3) dX11_takeRoad_40 fl_X11_19 kd_0 (by decide) rfl rr_0_1 ?_
  refine st_getI (v := w2.1 3 1) dX11_takeRoad_43 fl_X11_143 kd_3 (by decide) rfl rfl ?_
  cases h
  exact (op_iret dX11_takeRoad_46 rfl rfl ⟨rfl, rfl⟩)
theorem t_X11_takeRoad {l : Launch} {ρ : am_R} {n d gc gs : Nat} {I : Nat → Nat → Int32} {J : Nat → Nat → Int64} {T : Nat} {q : Int32 × (Nat → Nat → Int32) × (Nat → Nat → Int64)} (hd : 0 * n + 2 ≤ d) (h : f_X11_takeRoad n I J T  = some q) : AW l ρ d M_X11_takeRoad 0 [(0, .ref 0)] [] (am_KD, gc, gs) (I, J, am_RT T) (am_KD, gc, gs) (fun v H' => v = [.int q.1] ∧ H' = (q.2.1, q.2.2, am_RT T)) := by
  obtain ⟨d, rfl⟩ : ∃ e, d = e + 1 := ⟨d - 1, by omega⟩
  exact t_X11_takeRoad_0 hd h
def f_X5_append (n : Nat) (I : Nat → Nat → Int32) (J : Nat → Nat → Int64) (T : Nat) (x2 : Int32) : Option ((Nat → Nat → Int32)) :=
  if 4 ≤ (I 19 4) then
   some (I)
  else
   if 160 < x2 then
    some (I)
   else
    if ok_ix (I 19 4) 4 then
     if ((I 19 4).toNatClampNeg) < 4 then
      if 0 ≤ x2 ∧ x2.toNatClampNeg ≤ 160 ∧ x2.toNatClampNeg ≤ 160 then
       if ok_ix (I 19 4) 4 then
        some ((am_u (am_u (am_row I ((21 + ((I 19 4).toNatClampNeg))) ((fun a => if a < x2.toNatClampNeg then I 18 a else I ((21 + ((I 19 4).toNatClampNeg))) a))) 25 ((I 19 4).toNatClampNeg) x2) 19 4 ((I 19 4) + 1)))
       else none
      else none
     else none
    else none
set_option maxRecDepth 100000 in
set_option maxHeartbeats 4000000 in
theorem t_X5_append_0 {l : Launch} {ρ : am_R} {n d gc gs : Nat} {I : Nat → Nat → Int32} {J : Nat → Nat → Int64} {T : Nat} {x2 : Int32} {q : (Nat → Nat → Int32)} (hd : 0 * n + 1 ≤ (d + 1))
    (h : f_X5_append n  I J T x2 = some q) : AW l ρ (d + 1) M_X5_append 0 [(0, .ref 19), (1, .ref 18), (2, .int x2)] [] (am_KD, gc, gs) (I, J, am_RT T) (am_KD, gc, gs) (fun v H' => v = [] ∧ H' = (q, J, am_RT T)) := by
  unfold f_X5_append at h
  refine op_aload_n (k := 0) dX5_append_0 rfl rfl ?_
  refine st_getI (v := I 19 4) dX5_append_1 fl_X5_23 kd_19 (by decide) rfl rfl ?_
  refine op_iconst (v := 4) dX5_append_4 (by decide) ?_
  refine op_icmp_ge (tgt := 51) dX5_append_5 (by decide) (fun c1 => ?_) (fun c1 => ?_)
  · replace h := am_ip c1 h
    cases h
    exact (op_vret dX5_append_51 rfl ⟨rfl, rfl⟩)
  · replace h := am_ie c1 h
    refine op_iload_n (k := 2) dX5_append_8 rfl rfl ?_
    refine op_sipush (v := 160) dX5_append_9 (by decide) ?_
    refine op_icmp_gt (tgt := 51) dX5_append_12 (by decide) (fun c2 => ?_) (fun c2 => ?_)
    · replace h := am_ip c2 h
      cases h
      exact (op_vret dX5_append_51 rfl ⟨rfl, rfl⟩)
    · replace h := am_ie c2 h
      refine op_aload_n (k := 1) dX5_append_15 rfl rfl ?_
      refine op_iconst (v := 0) dX5_append_16 (by decide) ?_
      refine op_aload_n (k := 0) dX5_append_17 rfl rfl ?_
      refine st_getR (z := 20) dX5_append_18 fl_X5_13 kd_19 (by decide) rfl rr_19_0 ?_
      refine op_aload_n (k := 0) dX5_append_21 rfl rfl ?_
      refine st_getI (v := I 19 4) dX5_append_22 fl_X5_23 kd_19 (by decide) rfl rfl ?_
      obtain ⟨g3, h⟩ := am_gd h
      refine st_aald dX5_append_25 g3 ?_
      refine op_iconst (v := 0) dX5_append_26 (by decide) ?_
      refine op_iload_n (k := 2) dX5_append_27 rfl rfl ?_
      obtain ⟨g4, h⟩ := am_gd h
      obtain ⟨g5, h⟩ := am_gd h
      refine st_copyi (k := x2.toNatClampNeg) dX5_append_28 tw_704 tw_688 tw_687 tw_120 kd_18 (kd_row g4) g5 rfl (by decide) ?_
      refine op_aload_n (k := 0) dX5_append_31 rfl rfl ?_
      refine st_getR (z := 25) dX5_append_32 fl_X5_16 kd_19 (by decide) rfl rr_19_1 ?_
      refine op_aload_n (k := 0) dX5_append_35 rfl rfl ?_
      refine st_getI (v := I 19 4) dX5_append_36 fl_X5_23 kd_19 (by decide) rfl (by simp [am_u, am_row]; try omega) ?_
      refine op_iload_n (k := 2) dX5_append_39 rfl rfl ?_
      obtain ⟨g6, h⟩ := am_gd h
      refine st_iast (k := (I 19 4).toNatClampNeg) dX5_append_40 kd_25 g6 rfl ?_
      refine op_aload_n (k := 0) dX5_append_41 rfl rfl ?_
      refine op_dup dX5_append_42 rfl ?_
      refine st_getI (v := I 19 4) dX5_append_43 fl_X5_23 kd_19 (by decide) rfl (by simp [am_u, am_row]; try omega) ?_
      refine op_iconst (v := 1) dX5_append_46 (by decide) ?_
      refine op_iadd dX5_append_47 ?_
      refine st_putI dX5_append_48 fl_X5_23 kd_19 (by decide) rfl ?_
      cases h
      exact (op_vret dX5_append_51 rfl ⟨rfl, rfl⟩)
theorem t_X5_append {l : Launch} {ρ : am_R} {n d gc gs : Nat} {I : Nat → Nat → Int32} {J : Nat → Nat → Int64} {T : Nat} {x2 : Int32} {q : (Nat → Nat → Int32)} (hd : 0 * n + 1 ≤ d) (h : f_X5_append n I J T x2 = some q) : AW l ρ d M_X5_append 0 [(0, .ref 19), (1, .ref 18), (2, .int x2)] [] (am_KD, gc, gs) (I, J, am_RT T) (am_KD, gc, gs) (fun v H' => v = [] ∧ H' = (q, J, am_RT T)) := by
  obtain ⟨d, rfl⟩ : ∃ e, d = e + 1 := ⟨d - 1, by omega⟩
  exact t_X5_append_0 hd h
def f_X11_takeRule (n : Nat) (I : Nat → Nat → Int32) (J : Nat → Nat → Int64) (T : Nat) : Option (Int32 × (Nat → Nat → Int32)) :=
  (f_X5_append n I J T (I 17 2)).bind fun w1 =>
  some (I 19 4, (am_u w1 1 1 0))
set_option maxRecDepth 100000 in
set_option maxHeartbeats 4000000 in
theorem t_X11_takeRule_0 {l : Launch} {ρ : am_R} {n d gc gs : Nat} {I : Nat → Nat → Int32} {J : Nat → Nat → Int64} {T : Nat} {q : Int32 × (Nat → Nat → Int32)} (hd : 0 * n + 2 ≤ (d + 1))
    (h : f_X11_takeRule n  I J T  = some q) : AW l ρ (d + 1) M_X11_takeRule 0 [(0, .ref 0)] [] (am_KD, gc, gs) (I, J, am_RT T) (am_KD, gc, gs) (fun v H' => v = [.int q.1] ∧ H' = (q.2, J, am_RT T)) := by
  unfold f_X11_takeRule at h
  refine op_aload_n (k := 0) dX11_takeRule_0 rfl rfl ?_
  refine st_getR (z := 19) dX11_takeRule_1 fl_X11_47 kd_0 (by decide) rfl rr_0_5 ?_
  refine st_getI (v := I 19 4) dX11_takeRule_4 fl_X11_132 kd_19 (by decide) rfl rfl ?_
  refine op_istore_n (L' := [(1, .int (I 19 4)), (0, .ref 0)]) dX11_takeRule_7 rfl (by decide) rfl ?_
  refine op_aload_n (k := 1) dX11_takeRule_8 rfl rfl ?_
  refine st_getR (z := 19) dX11_takeRule_9 fl_X11_47 kd_0 (by decide) rfl rr_0_5 ?_
  refine op_aload_n (k := 1) dX11_takeRule_12 rfl rfl ?_
  refine st_getR (z := 17) dX11_takeRule_13 fl_X11_40 kd_0 (by decide) rfl rr_0_4 ?_
  refine st_getR (z := 18) dX11_takeRule_16 fl_X11_146 kd_17 (by decide) rfl rr_17_1 ?_
  refine op_aload_n (k := 1) dX11_takeRule_19 rfl rfl ?_
  refine st_getR (z := 17) dX11_takeRule_20 fl_X11_40 kd_0 (by decide) rfl rr_0_4 ?_
  refine st_getI (v := I 17 2) dX11_takeRule_23 fl_X11_150 kd_17 (by decide) rfl rfl ?_
  obtain ⟨w1, ew1, h⟩ := am_bd h
  refine op_callV (M' := M_X5_append) [.ref 18, .int (I 17 2)] (S0 := []) dX11_takeRule_26 tw_700 ok_X5_append tw_701 tw_702 kd_19 cls_5 rfl rfl rfl (Nat.le_of_ble_eq_true rfl) (Nat.le_of_ble_eq_true rfl) (t_X5_append (by omega) ew1) (am_le_rf _) ?_
  rintro _ _ ⟨rfl, rfl⟩
  refine op_aload_n (k := 1) dX11_takeRule_29 rfl rfl ?_
  refine st_getR (z := 1) dX11_takeRule_30 fl_X11_10 kd_0 (by decide) rfl rr_0_0 ?_
  refine op_iconst (v := 0) dX11_takeRule_33 (by decide) ?_
  refine st_putI dX11_takeRule_34 fl_X11_117 kd_1 (by decide) rfl ?_
  refine op_iload_n (k := 0) dX11_takeRule_37 rfl rfl ?_
  cases h
  exact (op_iret dX11_takeRule_38 rfl rfl ⟨rfl, rfl⟩)
theorem t_X11_takeRule {l : Launch} {ρ : am_R} {n d gc gs : Nat} {I : Nat → Nat → Int32} {J : Nat → Nat → Int64} {T : Nat} {q : Int32 × (Nat → Nat → Int32)} (hd : 0 * n + 2 ≤ d) (h : f_X11_takeRule n I J T  = some q) : AW l ρ d M_X11_takeRule 0 [(0, .ref 0)] [] (am_KD, gc, gs) (I, J, am_RT T) (am_KD, gc, gs) (fun v H' => v = [.int q.1] ∧ H' = (q.2, J, am_RT T)) := by
  obtain ⟨d, rfl⟩ : ∃ e, d = e + 1 := ⟨d - 1, by omega⟩
  exact t_X11_takeRule_0 hd h
def f_X11_text_20 (n : Nat) (I : Nat → Nat → Int32) (J : Nat → Nat → Int64) (T : Nat) (x1 : Int32) : Option (Int32 × (Nat → Nat → Int32) × (Nat → Nat → Int64)) :=
  if x1 = 1 then
   if 4 ≤ (I 19 4) then
    some ((-1), I, J)
   else
    (f_X4_read n I J T).bind fun w3 =>
    if w3.1 = ((-1)) then
     (f_X11_takeRule n w3.2 J T).bind fun w5 =>
     some (w5.1, w5.2, J)
    else
     some ((-1), w3.2, J)
  else
   some ((-1), I, J)
def f_X11_text (n : Nat) (I : Nat → Nat → Int32) (J : Nat → Nat → Int64) (T : Nat) (x1 : Int32) : Option (Int32 × (Nat → Nat → Int32) × (Nat → Nat → Int64)) :=
  if x1 = 0 then
   (f_X3_read n I J T).bind fun w2 =>
   if w2.1 = ((-1)) then
    (f_X11_takeRoad n w2.2 J T).bind fun w4 =>
    some (w4.1, w4.2.1, w4.2.2)
   else
    f_X11_text_20 n  w2.2 J T x1
  else
   f_X11_text_20 n  I J T x1
set_option maxRecDepth 100000 in
set_option maxHeartbeats 4000000 in
theorem t_X11_text_20 {l : Launch} {ρ : am_R} {n d gc gs : Nat} {I : Nat → Nat → Int32} {J : Nat → Nat → Int64} {T : Nat} {x1 : Int32} {q : Int32 × (Nat → Nat → Int32) × (Nat → Nat → Int64)} (hd : 2 * n + 7 ≤ (d + 1))
    (h : f_X11_text_20 n  I J T x1 = some q) : AW l ρ (d + 1) M_X11_text 20 [(0, .ref 0), (1, .int x1)] [] (am_KD, gc, gs) (I, J, am_RT T) (am_KD, gc, gs) (fun v H' => v = [.int q.1] ∧ H' = (q.2.1, q.2.2, am_RT T)) := by
  unfold f_X11_text_20 at h
  refine op_iload_n (k := 1) dX11_text_20 rfl rfl ?_
  refine op_iconst (v := 1) dX11_text_21 (by decide) ?_
  refine op_icmp_ne (tgt := 52) dX11_text_22 (by decide) (fun c1 => ?_) (fun c1 => ?_)
  · replace h := am_ie c1 h
    refine op_iconst (v := (-1)) dX11_text_52 (by decide) ?_
    cases h
    exact (op_iret dX11_text_53 rfl rfl ⟨rfl, rfl⟩)
  · replace h := am_ip c1 h
    refine op_aload_n (k := 0) dX11_text_25 rfl rfl ?_
    refine st_getR (z := 19) dX11_text_26 fl_X11_47 kd_0 (by decide) rfl rr_0_5 ?_
    refine st_getI (v := I 19 4) dX11_text_29 fl_X11_132 kd_19 (by decide) rfl rfl ?_
    refine op_iconst (v := 4) dX11_text_32 (by decide) ?_
    refine op_icmp_ge (tgt := 52) dX11_text_33 (by decide) (fun c2 => ?_) (fun c2 => ?_)
    · replace h := am_ip c2 h
      refine op_iconst (v := (-1)) dX11_text_52 (by decide) ?_
      cases h
      exact (op_iret dX11_text_53 rfl rfl ⟨rfl, rfl⟩)
    · replace h := am_ie c2 h
      refine op_aload_n (k := 0) dX11_text_36 rfl rfl ?_
      refine st_getR (z := 17) dX11_text_37 fl_X11_40 kd_0 (by decide) rfl rr_0_4 ?_
      obtain ⟨w3, ew3, h⟩ := am_bd h
      refine op_callV (M' := M_X4_read) [] (S0 := []) dX11_text_40 tw_614 ok_X4_read tw_615 tw_616 kd_17 cls_4 rfl rfl rfl (Nat.le_of_ble_eq_true rfl) (Nat.le_of_ble_eq_true rfl) (t_X4_read (by omega) ew3) (am_le_rf _) ?_
      rintro _ _ ⟨rfl, rfl⟩
      refine op_iconst (v := (-1)) dX11_text_43 (by decide) ?_
      refine op_icmp_ne (tgt := 52) dX11_text_44 (by decide) (fun c4 => ?_) (fun c4 => ?_)
      · replace h := am_ie c4 h
        refine op_iconst (v := (-1)) dX11_text_52 (by decide) ?_
        cases h
        exact (op_iret dX11_text_53 rfl rfl ⟨rfl, rfl⟩)
      · replace h := am_ip c4 h
        refine op_aload_n (k := 0) dX11_text_47 rfl rfl ?_
        obtain ⟨w5, ew5, h⟩ := am_bd h
        refine op_callV (M' := M_X11_takeRule) [] (S0 := []) dX11_text_48 tw_696 ok_X11_takeRule tw_698 tw_20 kd_0 cls_11 rfl rfl rfl (Nat.le_of_ble_eq_true rfl) (Nat.le_of_ble_eq_true rfl) (t_X11_takeRule (by omega) ew5) (am_le_rf _) ?_
        rintro _ _ ⟨rfl, rfl⟩
        cases h
        exact (op_iret dX11_text_51 rfl rfl ⟨rfl, rfl⟩)
set_option maxRecDepth 100000 in
set_option maxHeartbeats 4000000 in
theorem t_X11_text_0 {l : Launch} {ρ : am_R} {n d gc gs : Nat} {I : Nat → Nat → Int32} {J : Nat → Nat → Int64} {T : Nat} {x1 : Int32} {q : Int32 × (Nat → Nat → Int32) × (Nat → Nat → Int64)} (hd : 2 * n + 7 ≤ (d + 1))
    (h : f_X11_text n  I J T x1 = some q) : AW l ρ (d + 1) M_X11_text 0 [(0, .ref 0), (1, .int x1)] [] (am_KD, gc, gs) (I, J, am_RT T) (am_KD, gc, gs) (fun v H' => v = [.int q.1] ∧ H' = (q.2.1, q.2.2, am_RT T)) := by
  unfold f_X11_text at h
  refine op_iload_n (k := 1) dX11_text_0 rfl rfl ?_
  refine op_if_ne (tgt := 20) dX11_text_1 (by decide) (fun c1 => ?_) (fun c1 => ?_)
  · replace h := am_ie c1 h
    exact t_X11_text_20 hd  h
  · replace h := am_ip c1 h
    refine op_aload_n (k := 0) dX11_text_4 rfl rfl ?_
    refine st_getR (z := 15) dX11_text_5 fl_X11_31 kd_0 (by decide) rfl rr_0_3 ?_
    obtain ⟨w2, ew2, h⟩ := am_bd h
    refine op_callV (M' := M_X3_read) [] (S0 := []) dX11_text_8 tw_534 ok_X3_read tw_535 tw_536 kd_15 cls_3 rfl rfl rfl (Nat.le_of_ble_eq_true rfl) (Nat.le_of_ble_eq_true rfl) (t_X3_read (by omega) ew2) (am_le_rf _) ?_
    rintro _ _ ⟨rfl, rfl⟩
    refine op_iconst (v := (-1)) dX11_text_11 (by decide) ?_
    refine op_icmp_ne (tgt := 20) dX11_text_12 (by decide) (fun c3 => ?_) (fun c3 => ?_)
    · replace h := am_ie c3 h
      exact t_X11_text_20 hd  h
    · replace h := am_ip c3 h
      refine op_aload_n (k := 0) dX11_text_15 rfl rfl ?_
      obtain ⟨w4, ew4, h⟩ := am_bd h
      refine op_callV (M' := M_X11_takeRoad) [] (S0 := []) dX11_text_16 tw_678 ok_X11_takeRoad tw_680 tw_19 kd_0 cls_11 rfl rfl rfl (Nat.le_of_ble_eq_true rfl) (Nat.le_of_ble_eq_true rfl) (t_X11_takeRoad (by omega) ew4) (am_le_rf _) ?_
      rintro _ _ ⟨rfl, rfl⟩
      cases h
      exact (op_iret dX11_text_19 rfl rfl ⟨rfl, rfl⟩)
theorem t_X11_text {l : Launch} {ρ : am_R} {n d gc gs : Nat} {I : Nat → Nat → Int32} {J : Nat → Nat → Int64} {T : Nat} {x1 : Int32} {q : Int32 × (Nat → Nat → Int32) × (Nat → Nat → Int64)} (hd : 2 * n + 7 ≤ d) (h : f_X11_text n I J T x1 = some q) : AW l ρ d M_X11_text 0 [(0, .ref 0), (1, .int x1)] [] (am_KD, gc, gs) (I, J, am_RT T) (am_KD, gc, gs) (fun v H' => v = [.int q.1] ∧ H' = (q.2.1, q.2.2, am_RT T)) := by
  obtain ⟨d, rfl⟩ : ∃ e, d = e + 1 := ⟨d - 1, by omega⟩
  exact t_X11_text_0 hd h
def f_X0_takeBack_36 (n : Nat) : Nat → (Nat → Nat → Int32) → (Nat → Nat → Int64) → Nat → Int32 → Int32 → Option (Int32 × (Nat → Nat → Int32) × (Nat → Nat → Int64))
  | 0, _, _, _, _, _ => none
  | m + 1, I, J, T, x1, x2 =>
    if 6 ≤ x2 then
     some (1, I, J)
    else
     if ok_ix x2 6 then
      if ok_ix (x1 + x2) 240 then
       if ok_ix x2 6 then
        f_X0_takeBack_36 n  m I ((am_u J 42 x2.toNatClampNeg ((J 42 x2.toNatClampNeg) - (J 43 ((x1 + x2).toNatClampNeg))))) T x1 (x2 + 1)
       else none
      else none
     else none
def f_X0_takeBack (n : Nat) (I : Nat → Nat → Int32) (J : Nat → Nat → Int64) (T : Nat) : Option (Int32 × (Nat → Nat → Int32) × (Nat → Nat → Int64)) :=
  if (I 41 3) = 0 then
   some (0, I, J)
  else
   (f_X0_row n ((am_u (am_u I 41 2 ((I 41 2) - 1)) 41 3 ((I 41 3) - 1))) J T).bind fun w2 =>
   f_X0_takeBack_36 n  n ((am_u (am_u I 41 2 ((I 41 2) - 1)) 41 3 ((I 41 3) - 1))) J T w2 0
set_option maxRecDepth 100000 in
set_option maxHeartbeats 4000000 in
theorem t_X0_takeBack_36 {l : Launch} {ρ : am_R} {n d gc gs : Nat} {q : Int32 × (Nat → Nat → Int32) × (Nat → Nat → Int64)} (hd : 0 * n + 1 ≤ (d + 1))
    : ∀ (m : Nat) (I : Nat → Nat → Int32) (J : Nat → Nat → Int64) (T : Nat) (x1 : Int32) (x2 : Int32), f_X0_takeBack_36 n  m I J T x1 x2 = some q → AW l ρ (d + 1) M_X0_takeBack 36 [(0, .ref 41), (1, .int x1), (2, .int x2)] [] (am_KD, gc, gs) (I, J, am_RT T) (am_KD, gc, gs) (fun v H' => v = [.int q.1] ∧ H' = (q.2.1, q.2.2, am_RT T)) := by
  intro m
  induction m with
  | zero =>
    intro I J T x1 x2 h
    rw [f_X0_takeBack_36] at h
    cases h
  | succ m ih =>
    intro I J T x1 x2 h
    rw [f_X0_takeBack_36] at h
    refine op_iload_n (k := 2) dX0_takeBack_36 rfl rfl ?_
    refine op_bipush (v := 6) dX0_takeBack_37 (by decide) ?_
    refine op_icmp_ge (tgt := 65) dX0_takeBack_39 (by decide) (fun c1 => ?_) (fun c1 => ?_)
    · replace h := am_ip c1 h
      refine op_iconst (v := 1) dX0_takeBack_65 (by decide) ?_
      cases h
      exact (op_iret dX0_takeBack_66 rfl (by decide) ⟨rfl, rfl⟩)
    · replace h := am_ie c1 h
      refine op_aload_n (k := 0) dX0_takeBack_42 rfl rfl ?_
      refine st_getR (z := 42) dX0_takeBack_43 fl_X0_9 kd_41 (by decide) rfl rr_41_0 ?_
      refine op_iload_n (k := 2) dX0_takeBack_46 rfl rfl ?_
      refine op_dup2 dX0_takeBack_47 rfl rfl ?_
      obtain ⟨g2, h⟩ := am_gd h
      refine st_lald (k := x2.toNatClampNeg) (v := J 42 x2.toNatClampNeg) dX0_takeBack_48 kd_42 g2 rfl rfl ?_
      refine op_aload_n (k := 0) dX0_takeBack_49 rfl rfl ?_
      refine st_getR (z := 43) dX0_takeBack_50 fl_X0_15 kd_41 (by decide) rfl rr_41_1 ?_
      refine op_iload_n (k := 1) dX0_takeBack_53 rfl rfl ?_
      refine op_iload_n (k := 2) dX0_takeBack_54 rfl rfl ?_
      refine op_iadd dX0_takeBack_55 ?_
      obtain ⟨g3, h⟩ := am_gd h
      refine st_lald (k := (x1 + x2).toNatClampNeg) (v := J 43 ((x1 + x2).toNatClampNeg)) dX0_takeBack_56 kd_43 g3 rfl rfl ?_
      refine op_lsub dX0_takeBack_57 ?_
      obtain ⟨g4, h⟩ := am_gd h
      refine st_last (k := x2.toNatClampNeg) dX0_takeBack_58 kd_42 g4 rfl ?_
      refine op_iinc (k := 2) (v := x2 + 1) (L' := [(2, .int (x2 + 1)), (0, .ref 41), (1, .int x1)]) dX0_takeBack_59 rfl rfl (by decide) rfl ?_
      refine op_goto (tgt := 36) dX0_takeBack_62 (by decide) ?_
      refine AW.perm [1, 2, 0] rfl ?_
      exact ih _ _ _ _ _ h
set_option maxRecDepth 100000 in
set_option maxHeartbeats 4000000 in
theorem t_X0_takeBack_0 {l : Launch} {ρ : am_R} {n d gc gs : Nat} {I : Nat → Nat → Int32} {J : Nat → Nat → Int64} {T : Nat} {q : Int32 × (Nat → Nat → Int32) × (Nat → Nat → Int64)} (hd : 0 * n + 1 ≤ (d + 1))
    (h : f_X0_takeBack n  I J T  = some q) : AW l ρ (d + 1) M_X0_takeBack 0 [(0, .ref 41)] [] (am_KD, gc, gs) (I, J, am_RT T) (am_KD, gc, gs) (fun v H' => v = [.int q.1] ∧ H' = (q.2.1, q.2.2, am_RT T)) := by
  unfold f_X0_takeBack at h
  refine op_aload_n (k := 0) dX0_takeBack_0 rfl rfl ?_
  refine st_getI (v := I 41 3) dX0_takeBack_1 fl_X0_28 kd_41 (by decide) rfl rfl ?_
  refine op_if_ne (tgt := 9) dX0_takeBack_4 (by decide) (fun c1 => ?_) (fun c1 => ?_)
  · replace h := am_ie c1 h
    refine op_aload_n (k := 0) dX0_takeBack_9 rfl rfl ?_
    refine op_dup dX0_takeBack_10 rfl ?_
    refine st_getI (v := I 41 2) dX0_takeBack_11 fl_X0_24 kd_41 (by decide) rfl rfl ?_
    refine op_iconst (v := 1) dX0_takeBack_14 (by decide) ?_
    refine op_isub dX0_takeBack_15 ?_
    refine st_putI dX0_takeBack_16 fl_X0_24 kd_41 (by decide) rfl ?_
    refine op_aload_n (k := 0) dX0_takeBack_19 rfl rfl ?_
    refine op_dup dX0_takeBack_20 rfl ?_
    refine st_getI (v := I 41 3) dX0_takeBack_21 fl_X0_28 kd_41 (by decide) rfl rfl ?_
    refine op_iconst (v := 1) dX0_takeBack_24 (by decide) ?_
    refine op_isub dX0_takeBack_25 ?_
    refine st_putI dX0_takeBack_26 fl_X0_28 kd_41 (by decide) rfl ?_
    refine op_aload_n (k := 0) dX0_takeBack_29 rfl rfl ?_
    obtain ⟨w2, ew2, h⟩ := am_bd h
    refine op_callV (M' := M_X0_row) [] (S0 := []) dX0_takeBack_30 tw_1063 ok_X0_row tw_1065 tw_49 kd_41 cls_0 rfl rfl rfl (Nat.le_of_ble_eq_true rfl) (Nat.le_of_ble_eq_true rfl) (t_X0_row (by omega) ew2) (am_le_rf _) ?_
    rintro _ _ ⟨rfl, rfl⟩
    refine op_istore_n (L' := [(1, .int w2), (0, .ref 41)]) dX0_takeBack_33 rfl (by decide) rfl ?_
    refine op_iconst (v := 0) dX0_takeBack_34 (by decide) ?_
    refine op_istore_n (L' := [(2, .int 0), (1, .int w2), (0, .ref 41)]) dX0_takeBack_35 rfl (by decide) rfl ?_
    refine AW.perm [2, 1, 0] rfl ?_
    exact t_X0_takeBack_36 hd  n _ _ _ _ _ h
  · replace h := am_ip c1 h
    refine op_iconst (v := 0) dX0_takeBack_7 (by decide) ?_
    cases h
    exact (op_iret dX0_takeBack_8 rfl (by decide) ⟨rfl, rfl⟩)
theorem t_X0_takeBack {l : Launch} {ρ : am_R} {n d gc gs : Nat} {I : Nat → Nat → Int32} {J : Nat → Nat → Int64} {T : Nat} {q : Int32 × (Nat → Nat → Int32) × (Nat → Nat → Int64)} (hd : 0 * n + 1 ≤ d) (h : f_X0_takeBack n I J T  = some q) : AW l ρ d M_X0_takeBack 0 [(0, .ref 41)] [] (am_KD, gc, gs) (I, J, am_RT T) (am_KD, gc, gs) (fun v H' => v = [.int q.1] ∧ H' = (q.2.1, q.2.2, am_RT T)) := by
  obtain ⟨d, rfl⟩ : ∃ e, d = e + 1 := ⟨d - 1, by omega⟩
  exact t_X0_takeBack_0 hd h
def f_X11_undo (n : Nat) (I : Nat → Nat → Int32) (J : Nat → Nat → Int64) (T : Nat) : Option (Int32 × (Nat → Nat → Int32) × (Nat → Nat → Int64)) :=
  (f_X0_takeBack n I J T).bind fun w1 =>
  if w1.1 = 0 then
   some ((-1), w1.2.1, w1.2.2)
  else
   some (w1.2.1 41 2, w1.2.1, w1.2.2)
set_option maxRecDepth 100000 in
set_option maxHeartbeats 4000000 in
theorem t_X11_undo_0 {l : Launch} {ρ : am_R} {n d gc gs : Nat} {I : Nat → Nat → Int32} {J : Nat → Nat → Int64} {T : Nat} {q : Int32 × (Nat → Nat → Int32) × (Nat → Nat → Int64)} (hd : 0 * n + 2 ≤ (d + 1))
    (h : f_X11_undo n  I J T  = some q) : AW l ρ (d + 1) M_X11_undo 0 [(0, .ref 0)] [] (am_KD, gc, gs) (I, J, am_RT T) (am_KD, gc, gs) (fun v H' => v = [.int q.1] ∧ H' = (q.2.1, q.2.2, am_RT T)) := by
  unfold f_X11_undo at h
  refine op_aload_n (k := 0) dX11_undo_0 rfl rfl ?_
  refine st_getR (z := 41) dX11_undo_1 fl_X11_95 kd_0 (by decide) rfl rr_0_11 ?_
  obtain ⟨w1, ew1, h⟩ := am_bd h
  refine op_callV (M' := M_X0_takeBack) [] (S0 := []) dX11_undo_4 tw_1087 ok_X0_takeBack tw_1088 tw_1089 kd_41 cls_0 rfl rfl rfl (Nat.le_of_ble_eq_true rfl) (Nat.le_of_ble_eq_true rfl) (t_X0_takeBack (by omega) ew1) (am_le_rf _) ?_
  rintro _ _ ⟨rfl, rfl⟩
  refine op_if_eq (tgt := 20) dX11_undo_7 (by decide) (fun c2 => ?_) (fun c2 => ?_)
  · replace h := am_ip c2 h
    refine op_iconst (v := (-1)) dX11_undo_20 (by decide) ?_
    cases h
    exact (op_iret dX11_undo_21 rfl rfl ⟨rfl, rfl⟩)
  · replace h := am_ie c2 h
    refine op_aload_n (k := 0) dX11_undo_10 rfl rfl ?_
    refine st_getR (z := 41) dX11_undo_11 fl_X11_95 kd_0 (by decide) rfl rr_0_11 ?_
    refine st_getI (v := w1.2.1 41 2) dX11_undo_14 fl_X11_308 kd_41 (by decide) rfl rfl ?_
    refine op_goto (tgt := 21) dX11_undo_17 (by decide) ?_
    cases h
    exact (op_iret dX11_undo_21 rfl rfl ⟨rfl, rfl⟩)
theorem t_X11_undo {l : Launch} {ρ : am_R} {n d gc gs : Nat} {I : Nat → Nat → Int32} {J : Nat → Nat → Int64} {T : Nat} {q : Int32 × (Nat → Nat → Int32) × (Nat → Nat → Int64)} (hd : 0 * n + 2 ≤ d) (h : f_X11_undo n I J T  = some q) : AW l ρ d M_X11_undo 0 [(0, .ref 0)] [] (am_KD, gc, gs) (I, J, am_RT T) (am_KD, gc, gs) (fun v H' => v = [.int q.1] ∧ H' = (q.2.1, q.2.2, am_RT T)) := by
  obtain ⟨d, rfl⟩ : ∃ e, d = e + 1 := ⟨d - 1, by omega⟩
  exact t_X11_undo_0 hd h
def f_X11_way (n : Nat) (I : Nat → Nat → Int32) (J : Nat → Nat → Int64) (T : Nat) (x1 : Int32) (x2 : Int32) : Option (Int32) :=
  (f_X11_isHome n I J T x1).bind fun w1 =>
  if w1 = 0 then
   some ((-1))
  else
   (f_X11_isWithin n I J T x2 0 1).bind fun w3 =>
   if w3 = 0 then
    some ((-1))
   else
    if x2 = 0 then
     if ok_ix x1 10 then
      some (I 4 x1.toNatClampNeg)
     else none
    else
     if ok_ix x1 10 then
      some (I 5 x1.toNatClampNeg)
     else none
set_option maxRecDepth 100000 in
set_option maxHeartbeats 4000000 in
theorem t_X11_way_0 {l : Launch} {ρ : am_R} {n d gc gs : Nat} {I : Nat → Nat → Int32} {J : Nat → Nat → Int64} {T : Nat} {x1 : Int32} {x2 : Int32} {q : Int32} (hd : 0 * n + 1 ≤ (d + 1))
    (h : f_X11_way n  I J T x1 x2 = some q) : AW l ρ (d + 1) M_X11_way 0 [(0, .ref 0), (1, .int x1), (2, .int x2)] [] (am_KD, gc, gs) (I, J, am_RT T) (am_KD, gc, gs) (fun v H' => v = [.int q] ∧ H' = (I, J, am_RT T)) := by
  unfold f_X11_way at h
  refine op_aload_n (k := 0) dX11_way_0 rfl rfl ?_
  refine op_iload_n (k := 1) dX11_way_1 rfl rfl ?_
  obtain ⟨w1, ew1, h⟩ := am_bd h
  refine op_callV (M' := M_X11_isHome) [.int x1] (S0 := []) dX11_way_2 tw_709 ok_X11_isHome tw_711 tw_21 kd_0 cls_11 rfl rfl rfl (Nat.le_of_ble_eq_true rfl) (Nat.le_of_ble_eq_true rfl) (t_X11_isHome (by omega) ew1) (am_le_rf _) ?_
  rintro _ _ ⟨rfl, rfl⟩
  refine op_if_eq (tgt := 17) dX11_way_5 (by decide) (fun c2 => ?_) (fun c2 => ?_)
  · replace h := am_ip c2 h
    refine op_iconst (v := (-1)) dX11_way_17 (by decide) ?_
    cases h
    exact (op_iret dX11_way_18 rfl rfl ⟨rfl, rfl⟩)
  · replace h := am_ie c2 h
    refine op_iload_n (k := 2) dX11_way_8 rfl rfl ?_
    refine op_iconst (v := 0) dX11_way_9 (by decide) ?_
    refine op_iconst (v := 1) dX11_way_10 (by decide) ?_
    obtain ⟨w3, ew3, h⟩ := am_bd h
    refine op_callS (M' := M_X11_isWithin) [.int x2, .int 0, .int 1] (S0 := []) dX11_way_11 tw_713 ok_X11_isWithin tw_595 rfl rfl (Nat.le_of_ble_eq_true rfl) (Nat.le_of_ble_eq_true rfl) (t_X11_isWithin (by omega) ew3) (am_le_rf _) ?_
    rintro _ _ ⟨rfl, rfl⟩
    refine op_if_ne (tgt := 19) dX11_way_14 (by decide) (fun c4 => ?_) (fun c4 => ?_)
    · replace h := am_ie c4 h
      refine op_iload_n (k := 2) dX11_way_19 rfl rfl ?_
      refine op_if_ne (tgt := 35) dX11_way_20 (by decide) (fun c5 => ?_) (fun c5 => ?_)
      · replace h := am_ie c5 h
        refine op_aload_n (k := 0) dX11_way_35 rfl rfl ?_
        refine st_getR (z := 3) dX11_way_36 fl_X11_19 kd_0 (by decide) rfl rr_0_1 ?_
        refine st_getR (z := 5) dX11_way_39 fl_X11_186 kd_3 (by decide) rfl rr_3_6 ?_
        refine op_iload_n (k := 1) dX11_way_42 rfl rfl ?_
        obtain ⟨g6, h⟩ := am_gd h
        refine st_iald (k := x1.toNatClampNeg) (v := I 5 x1.toNatClampNeg) dX11_way_43 kd_5 g6 rfl rfl ?_
        cases h
        exact (op_iret dX11_way_44 rfl rfl ⟨rfl, rfl⟩)
      · replace h := am_ip c5 h
        refine op_aload_n (k := 0) dX11_way_23 rfl rfl ?_
        refine st_getR (z := 3) dX11_way_24 fl_X11_19 kd_0 (by decide) rfl rr_0_1 ?_
        refine st_getR (z := 4) dX11_way_27 fl_X11_183 kd_3 (by decide) rfl rr_3_5 ?_
        refine op_iload_n (k := 1) dX11_way_30 rfl rfl ?_
        obtain ⟨g7, h⟩ := am_gd h
        refine st_iald (k := x1.toNatClampNeg) (v := I 4 x1.toNatClampNeg) dX11_way_31 kd_4 g7 rfl rfl ?_
        refine op_goto (tgt := 44) dX11_way_32 (by decide) ?_
        cases h
        exact (op_iret dX11_way_44 rfl rfl ⟨rfl, rfl⟩)
    · replace h := am_ip c4 h
      refine op_iconst (v := (-1)) dX11_way_17 (by decide) ?_
      cases h
      exact (op_iret dX11_way_18 rfl rfl ⟨rfl, rfl⟩)
theorem t_X11_way {l : Launch} {ρ : am_R} {n d gc gs : Nat} {I : Nat → Nat → Int32} {J : Nat → Nat → Int64} {T : Nat} {x1 : Int32} {x2 : Int32} {q : Int32} (hd : 0 * n + 1 ≤ d) (h : f_X11_way n I J T x1 x2 = some q) : AW l ρ d M_X11_way 0 [(0, .ref 0), (1, .int x1), (2, .int x2)] [] (am_KD, gc, gs) (I, J, am_RT T) (am_KD, gc, gs) (fun v H' => v = [.int q] ∧ H' = (I, J, am_RT T)) := by
  obtain ⟨d, rfl⟩ : ∃ e, d = e + 1 := ⟨d - 1, by omega⟩
  exact t_X11_way_0 hd h
def f_X11_worse_72 (n : Nat) (k35 : (Nat → Nat → Int32) → (Nat → Nat → Int64) → Nat → Int32 → Int32 → Int32 → Option (Int32 × (Nat → Nat → Int32))) (I : Nat → Nat → Int32) (J : Nat → Nat → Int64) (T : Nat) (x2 : Int32) (x3 : Int32) (x4 : Int32) : Option (Int32 × (Nat → Nat → Int32)) :=
  k35 I J T x2 x3 (x4 + 1)
def f_X11_worse_35 (n : Nat) : Nat → (Nat → Nat → Int32) → (Nat → Nat → Int64) → Nat → Int32 → Int32 → Int32 → Option (Int32 × (Nat → Nat → Int32))
  | 0, _, _, _, _, _, _ => none
  | m + 1, I, J, T, x2, x3, x4 =>
    (f_X2_everyone n I J T).bind fun w1 =>
    if w1 < x4 then
     if x2 = ((-1)) then
      some (x3, I)
     else
      some ((-1), I)
    else
     (f_X7_excess n I J T x4).bind fun w4 =>
     if (lg_cmp w4.1 0) ≤ 0 then
      f_X11_worse_72 n (f_X11_worse_35 n m) w4.2 J T x2 x3 x4
     else
      if x3 = x2 then
       some (x4, w4.2)
      else
       f_X11_worse_72 n (f_X11_worse_35 n m) w4.2 J T x2 (x3 + 1) x4
def f_X11_worse (n : Nat) (I : Nat → Nat → Int32) (J : Nat → Nat → Int64) (T : Nat) (x1 : Int32) (x2 : Int32) : Option (Int32 × (Nat → Nat → Int32)) :=
  (f_X11_isLaw n I J T x1).bind fun w1 =>
  if w1 = 0 then
   some ((-1), I)
  else
   if ((-1)) ≤ x2 then
    (f_X7_weigh n I J T x1 (I 3 1)).bind fun w4 =>
    f_X11_worse_35 n  n w4 J T x2 0 1
   else
    some ((-1), I)
set_option maxRecDepth 100000 in
set_option maxHeartbeats 4000000 in
theorem t_X11_worse_72 {l : Launch} {ρ : am_R} {n d gc gs : Nat} {k35 : (Nat → Nat → Int32) → (Nat → Nat → Int64) → Nat → Int32 → Int32 → Int32 → Option (Int32 × (Nat → Nat → Int32))} {I : Nat → Nat → Int32} {J : Nat → Nat → Int64} {T : Nat} {x2 : Int32} {x3 : Int32} {x4 : Int32} {q : Int32 × (Nat → Nat → Int32)} (hd : 0 * n + 7 ≤ (d + 1))
    (hk35 : ∀ (I : Nat → Nat → Int32) (J : Nat → Nat → Int64) (T : Nat) (x2 : Int32) (x3 : Int32) (x4 : Int32), k35 I J T x2 x3 x4 = some q → AW l ρ (d + 1) M_X11_worse 35 [(0, .ref 0), (2, .int x2), (3, .int x3), (4, .int x4)] [] (am_KD, gc, gs) (I, J, am_RT T) (am_KD, gc, gs) (fun v H' => v = [.int q.1] ∧ H' = (q.2, J, am_RT T)))
    (h : f_X11_worse_72 n k35 I J T x2 x3 x4 = some q) : AW l ρ (d + 1) M_X11_worse 72 [(0, .ref 0), (2, .int x2), (3, .int x3), (4, .int x4)] [] (am_KD, gc, gs) (I, J, am_RT T) (am_KD, gc, gs) (fun v H' => v = [.int q.1] ∧ H' = (q.2, J, am_RT T)) := by
  unfold f_X11_worse_72 at h
  refine op_iinc (k := 3) (v := x4 + 1) (L' := [(4, .int (x4 + 1)), (0, .ref 0), (2, .int x2), (3, .int x3)]) dX11_worse_72 rfl rfl (by decide) rfl ?_
  refine op_goto (tgt := 35) dX11_worse_75 (by decide) ?_
  refine AW.perm [1, 2, 3, 0] rfl ?_
  exact hk35 _ _ _ _ _ _ h
set_option maxRecDepth 100000 in
set_option maxHeartbeats 4000000 in
theorem t_X11_worse_35 {l : Launch} {ρ : am_R} {n d gc gs : Nat} {q : Int32 × (Nat → Nat → Int32)} (hd : 0 * n + 7 ≤ (d + 1))
    : ∀ (m : Nat) (I : Nat → Nat → Int32) (J : Nat → Nat → Int64) (T : Nat) (x2 : Int32) (x3 : Int32) (x4 : Int32), f_X11_worse_35 n  m I J T x2 x3 x4 = some q → AW l ρ (d + 1) M_X11_worse 35 [(0, .ref 0), (2, .int x2), (3, .int x3), (4, .int x4)] [] (am_KD, gc, gs) (I, J, am_RT T) (am_KD, gc, gs) (fun v H' => v = [.int q.1] ∧ H' = (q.2, J, am_RT T)) := by
  intro m
  induction m with
  | zero =>
    intro I J T x2 x3 x4 h
    rw [f_X11_worse_35] at h
    cases h
  | succ m ih =>
    intro I J T x2 x3 x4 h
    rw [f_X11_worse_35] at h
    refine op_iload (k := 3) dX11_worse_35 rfl ?_
    refine op_aload_n (k := 0) dX11_worse_37 rfl rfl ?_
    refine st_getR (z := 3) dX11_worse_38 fl_X11_19 kd_0 (by decide) rfl rr_0_1 ?_
    obtain ⟨w1, ew1, h⟩ := am_bd h
    refine op_callV (M' := M_X2_everyone) [] (S0 := [.int x4]) dX11_worse_41 tw_762 ok_X2_everyone tw_763 tw_764 kd_3 cls_2 rfl rfl rfl (Nat.le_of_ble_eq_true rfl) (Nat.le_of_ble_eq_true rfl) (t_X2_everyone (by omega) ew1) (am_le_rf _) ?_
    rintro _ _ ⟨rfl, rfl⟩
    refine op_icmp_gt (tgt := 78) dX11_worse_44 (by decide) (fun c2 => ?_) (fun c2 => ?_)
    · replace h := am_ip c2 h
      refine op_iload_n (k := 1) dX11_worse_78 rfl rfl ?_
      refine op_iconst (v := (-1)) dX11_worse_79 (by decide) ?_
      refine op_icmp_ne (tgt := 87) dX11_worse_80 (by decide) (fun c3 => ?_) (fun c3 => ?_)
      · replace h := am_ie c3 h
        refine op_iconst (v := (-1)) dX11_worse_87 (by decide) ?_
        cases h
        exact (op_iret dX11_worse_88 rfl rfl ⟨rfl, rfl⟩)
      · replace h := am_ip c3 h
        refine op_iload_n (k := 2) dX11_worse_83 rfl rfl ?_
        refine op_goto (tgt := 88) dX11_worse_84 (by decide) ?_
        cases h
        exact (op_iret dX11_worse_88 rfl rfl ⟨rfl, rfl⟩)
    · replace h := am_ie c2 h
      refine op_aload_n (k := 0) dX11_worse_47 rfl rfl ?_
      refine st_getR (z := 27) dX11_worse_48 fl_X11_56 kd_0 (by decide) rfl rr_0_6 ?_
      refine op_iload (k := 3) dX11_worse_51 rfl ?_
      obtain ⟨w4, ew4, h⟩ := am_bd h
      refine op_callV (M' := M_X7_excess) [.int x4] (S0 := []) dX11_worse_53 tw_905 ok_X7_excess tw_906 tw_907 kd_27 cls_7 rfl rfl rfl (Nat.le_of_ble_eq_true rfl) (Nat.le_of_ble_eq_true rfl) (t_X7_excess (by omega) ew4) (am_le_rf _) ?_
      rintro _ _ ⟨rfl, rfl⟩
      refine op_lconst (v := 0) dX11_worse_56 (by decide) ?_
      refine op_lcmp dX11_worse_57 ?_
      refine op_if_le (tgt := 72) dX11_worse_58 (by decide) (fun c5 => ?_) (fun c5 => ?_)
      · replace h := am_ip c5 h
        exact t_X11_worse_72 hd ih h
      · replace h := am_ie c5 h
        refine op_iload_n (k := 2) dX11_worse_61 rfl rfl ?_
        refine op_iload_n (k := 1) dX11_worse_62 rfl rfl ?_
        refine op_icmp_ne (tgt := 69) dX11_worse_63 (by decide) (fun c6 => ?_) (fun c6 => ?_)
        · replace h := am_ie c6 h
          refine op_iinc (k := 2) (v := x3 + 1) (L' := [(3, .int (x3 + 1)), (0, .ref 0), (2, .int x2), (4, .int x4)]) dX11_worse_69 rfl rfl (by decide) rfl ?_
          refine AW.perm [1, 2, 0, 3] rfl ?_
          exact t_X11_worse_72 hd ih h
        · replace h := am_ip c6 h
          refine op_iload (k := 3) dX11_worse_66 rfl ?_
          cases h
          exact (op_iret dX11_worse_68 rfl rfl ⟨rfl, rfl⟩)
set_option maxRecDepth 100000 in
set_option maxHeartbeats 4000000 in
theorem t_X11_worse_0 {l : Launch} {ρ : am_R} {n d gc gs : Nat} {I : Nat → Nat → Int32} {J : Nat → Nat → Int64} {T : Nat} {x1 : Int32} {x2 : Int32} {q : Int32 × (Nat → Nat → Int32)} (hd : 0 * n + 7 ≤ (d + 1))
    (h : f_X11_worse n  I J T x1 x2 = some q) : AW l ρ (d + 1) M_X11_worse 0 [(0, .ref 0), (1, .int x1), (2, .int x2)] [] (am_KD, gc, gs) (I, J, am_RT T) (am_KD, gc, gs) (fun v H' => v = [.int q.1] ∧ H' = (q.2, J, am_RT T)) := by
  unfold f_X11_worse at h
  refine op_aload_n (k := 0) dX11_worse_0 rfl rfl ?_
  refine op_iload_n (k := 1) dX11_worse_1 rfl rfl ?_
  obtain ⟨w1, ew1, h⟩ := am_bd h
  refine op_callV (M' := M_X11_isLaw) [.int x1] (S0 := []) dX11_worse_2 tw_791 ok_X11_isLaw tw_793 tw_28 kd_0 cls_11 rfl rfl rfl (Nat.le_of_ble_eq_true rfl) (Nat.le_of_ble_eq_true rfl) (t_X11_isLaw (by omega) ew1) (am_le_rf _) ?_
  rintro _ _ ⟨rfl, rfl⟩
  refine op_if_eq (tgt := 13) dX11_worse_5 (by decide) (fun c2 => ?_) (fun c2 => ?_)
  · replace h := am_ip c2 h
    refine op_iconst (v := (-1)) dX11_worse_13 (by decide) ?_
    cases h
    exact (op_iret dX11_worse_14 rfl rfl ⟨rfl, rfl⟩)
  · replace h := am_ie c2 h
    refine op_iload_n (k := 2) dX11_worse_8 rfl rfl ?_
    refine op_iconst (v := (-1)) dX11_worse_9 (by decide) ?_
    refine op_icmp_ge (tgt := 15) dX11_worse_10 (by decide) (fun c3 => ?_) (fun c3 => ?_)
    · replace h := am_ip c3 h
      refine op_aload_n (k := 0) dX11_worse_15 rfl rfl ?_
      refine st_getR (z := 27) dX11_worse_16 fl_X11_56 kd_0 (by decide) rfl rr_0_6 ?_
      refine op_iload_n (k := 1) dX11_worse_19 rfl rfl ?_
      refine op_aload_n (k := 0) dX11_worse_20 rfl rfl ?_
      refine st_getR (z := 3) dX11_worse_21 fl_X11_19 kd_0 (by decide) rfl rr_0_1 ?_
      refine st_getI (v := I 3 1) dX11_worse_24 fl_X11_143 kd_3 (by decide) rfl rfl ?_
      obtain ⟨w4, ew4, h⟩ := am_bd h
      refine op_callV (M' := M_X7_weigh) [.int x1, .int (I 3 1)] (S0 := []) dX11_worse_27 tw_802 ok_X7_weigh tw_803 tw_804 kd_27 cls_7 rfl rfl rfl (Nat.le_of_ble_eq_true rfl) (Nat.le_of_ble_eq_true rfl) (t_X7_weigh (by omega) ew4) (am_le_rf _) ?_
      rintro _ _ ⟨rfl, rfl⟩
      refine op_iconst (v := 0) dX11_worse_30 (by decide) ?_
      refine op_istore_n (L' := [(3, .int 0), (0, .ref 0), (1, .int x1), (2, .int x2)]) dX11_worse_31 rfl (by decide) rfl ?_
      refine op_iconst (v := 1) dX11_worse_32 (by decide) ?_
      refine op_istore (L' := [(4, .int 1), (3, .int 0), (0, .ref 0), (1, .int x1), (2, .int x2)]) dX11_worse_33 (by decide) rfl ?_
      refine AW.perm [2, 4, 1, 0] rfl ?_
      exact t_X11_worse_35 hd  n _ _ _ _ _ _ h
    · replace h := am_ie c3 h
      refine op_iconst (v := (-1)) dX11_worse_13 (by decide) ?_
      cases h
      exact (op_iret dX11_worse_14 rfl rfl ⟨rfl, rfl⟩)
theorem t_X11_worse {l : Launch} {ρ : am_R} {n d gc gs : Nat} {I : Nat → Nat → Int32} {J : Nat → Nat → Int64} {T : Nat} {x1 : Int32} {x2 : Int32} {q : Int32 × (Nat → Nat → Int32)} (hd : 0 * n + 7 ≤ d) (h : f_X11_worse n I J T x1 x2 = some q) : AW l ρ d M_X11_worse 0 [(0, .ref 0), (1, .int x1), (2, .int x2)] [] (am_KD, gc, gs) (I, J, am_RT T) (am_KD, gc, gs) (fun v H' => v = [.int q.1] ∧ H' = (q.2, J, am_RT T)) := by
  obtain ⟨d, rfl⟩ : ∃ e, d = e + 1 := ⟨d - 1, by omega⟩
  exact t_X11_worse_0 hd h
def f_X12_apart_8 (n : Nat) : Nat → (Nat → Nat → Int32) → (Nat → Nat → Int64) → Nat → Int32 → Int32 → Int32 → Option (Int32)
  | 0, _, _, _, _, _, _ => none
  | m + 1, I, J, T, x3, x4, x5 =>
    if x3 = x4 then
     some (x5)
    else
     if x3 ≤ x4 then
      if ok_ix x4 10 then
       if ok_ix x4 10 then
        f_X12_apart_8 n  m I J T x3 (I 58 x4.toNatClampNeg) (x5 + (I 59 x4.toNatClampNeg))
       else none
      else none
     else
      if ok_ix x3 10 then
       if ok_ix x3 10 then
        f_X12_apart_8 n  m I J T (I 58 x3.toNatClampNeg) x4 (x5 + (I 59 x3.toNatClampNeg))
       else none
      else none
def f_X12_apart (n : Nat) (I : Nat → Nat → Int32) (J : Nat → Nat → Int64) (T : Nat) (x1 : Int32) (x2 : Int32) : Option (Int32) :=
  f_X12_apart_8 n  n I J T x1 x2 0
set_option maxRecDepth 100000 in
set_option maxHeartbeats 4000000 in
theorem t_X12_apart_8 {l : Launch} {ρ : am_R} {n d gc gs : Nat} {q : Int32} (hd : 0 * n + 0 ≤ d)
    : ∀ (m : Nat) (I : Nat → Nat → Int32) (J : Nat → Nat → Int64) (T : Nat) (x3 : Int32) (x4 : Int32) (x5 : Int32), f_X12_apart_8 n  m I J T x3 x4 x5 = some q → AW l ρ d M_X12_apart 8 [(0, .ref 53), (3, .int x3), (4, .int x4), (5, .int x5)] [] (am_KD, gc, gs) (I, J, am_RT T) (am_KD, gc, gs) (fun v H' => v = [.int q] ∧ H' = (I, J, am_RT T)) := by
  intro m
  induction m with
  | zero =>
    intro I J T x3 x4 x5 h
    rw [f_X12_apart_8] at h
    cases h
  | succ m ih =>
    intro I J T x3 x4 x5 h
    rw [f_X12_apart_8] at h
    refine op_iload_n (k := 1) dX12_apart_8 rfl rfl ?_
    refine op_iload (k := 2) dX12_apart_9 rfl ?_
    refine op_icmp_eq (tgt := 65) dX12_apart_11 (by decide) (fun c1 => ?_) (fun c1 => ?_)
    · replace h := am_ip c1 h
      refine op_iload (k := 3) dX12_apart_65 rfl ?_
      cases h
      exact (op_iret dX12_apart_67 rfl rfl ⟨rfl, rfl⟩)
    · replace h := am_ie c1 h
      refine op_iload_n (k := 1) dX12_apart_14 rfl rfl ?_
      refine op_iload (k := 2) dX12_apart_15 rfl ?_
      refine op_icmp_le (tgt := 41) dX12_apart_17 (by decide) (fun c2 => ?_) (fun c2 => ?_)
      · replace h := am_ip c2 h
        refine op_iload (k := 3) dX12_apart_41 rfl ?_
        refine op_aload_n (k := 0) dX12_apart_43 rfl rfl ?_
        refine st_getR (z := 59) dX12_apart_44 fl_X12_40 kd_53 (by decide) rfl rr_53_19 ?_
        refine op_iload (k := 2) dX12_apart_47 rfl ?_
        obtain ⟨g3, h⟩ := am_gd h
        refine st_iald (k := x4.toNatClampNeg) (v := I 59 x4.toNatClampNeg) dX12_apart_49 kd_59 g3 rfl rfl ?_
        refine op_iadd dX12_apart_50 ?_
        refine op_istore (L' := [(5, .int (x5 + (I 59 x4.toNatClampNeg))), (0, .ref 53), (3, .int x3), (4, .int x4)]) dX12_apart_51 (by decide) rfl ?_
        refine op_aload_n (k := 1) dX12_apart_53 rfl rfl ?_
        refine st_getR (z := 58) dX12_apart_54 fl_X12_37 kd_53 (by decide) rfl rr_53_18 ?_
        refine op_iload (k := 3) dX12_apart_57 rfl ?_
        obtain ⟨g4, h⟩ := am_gd h
        refine st_iald (k := x4.toNatClampNeg) (v := I 58 x4.toNatClampNeg) dX12_apart_59 kd_58 g4 rfl rfl ?_
        refine op_istore (L' := [(4, .int (I 58 x4.toNatClampNeg)), (5, .int (x5 + (I 59 x4.toNatClampNeg))), (0, .ref 53), (3, .int x3)]) dX12_apart_60 (by decide) rfl ?_
        refine op_goto (tgt := 8) dX12_apart_62 (by decide) ?_
        refine AW.perm [2, 3, 0, 1] rfl ?_
        exact ih _ _ _ _ _ _ h
      · replace h := am_ie c2 h
        refine op_iload (k := 3) dX12_apart_20 rfl ?_
        refine op_aload_n (k := 0) dX12_apart_22 rfl rfl ?_
        refine st_getR (z := 59) dX12_apart_23 fl_X12_40 kd_53 (by decide) rfl rr_53_19 ?_
        refine op_iload_n (k := 1) dX12_apart_26 rfl rfl ?_
        obtain ⟨g5, h⟩ := am_gd h
        refine st_iald (k := x3.toNatClampNeg) (v := I 59 x3.toNatClampNeg) dX12_apart_27 kd_59 g5 rfl rfl ?_
        refine op_iadd dX12_apart_28 ?_
        refine op_istore (L' := [(5, .int (x5 + (I 59 x3.toNatClampNeg))), (0, .ref 53), (3, .int x3), (4, .int x4)]) dX12_apart_29 (by decide) rfl ?_
        refine op_aload_n (k := 1) dX12_apart_31 rfl rfl ?_
        refine st_getR (z := 58) dX12_apart_32 fl_X12_37 kd_53 (by decide) rfl rr_53_18 ?_
        refine op_iload_n (k := 2) dX12_apart_35 rfl rfl ?_
        obtain ⟨g6, h⟩ := am_gd h
        refine st_iald (k := x3.toNatClampNeg) (v := I 58 x3.toNatClampNeg) dX12_apart_36 kd_58 g6 rfl rfl ?_
        refine op_istore_n (L' := [(3, .int (I 58 x3.toNatClampNeg)), (5, .int (x5 + (I 59 x3.toNatClampNeg))), (0, .ref 53), (4, .int x4)]) dX12_apart_37 rfl (by decide) rfl ?_
        refine op_goto (tgt := 8) dX12_apart_38 (by decide) ?_
        refine AW.perm [2, 0, 3, 1] rfl ?_
        exact ih _ _ _ _ _ _ h
set_option maxRecDepth 100000 in
set_option maxHeartbeats 4000000 in
theorem t_X12_apart_0 {l : Launch} {ρ : am_R} {n d gc gs : Nat} {I : Nat → Nat → Int32} {J : Nat → Nat → Int64} {T : Nat} {x1 : Int32} {x2 : Int32} {q : Int32} (hd : 0 * n + 0 ≤ d)
    (h : f_X12_apart n  I J T x1 x2 = some q) : AW l ρ d M_X12_apart 0 [(0, .ref 53), (1, .int x1), (2, .int x2)] [] (am_KD, gc, gs) (I, J, am_RT T) (am_KD, gc, gs) (fun v H' => v = [.int q] ∧ H' = (I, J, am_RT T)) := by
  unfold f_X12_apart at h
  refine op_iload_n (k := 1) dX12_apart_0 rfl rfl ?_
  refine op_istore_n (L' := [(3, .int x1), (0, .ref 53), (1, .int x1), (2, .int x2)]) dX12_apart_1 rfl (by decide) rfl ?_
  refine op_iload_n (k := 3) dX12_apart_2 rfl rfl ?_
  refine op_istore (L' := [(4, .int x2), (3, .int x1), (0, .ref 53), (1, .int x1), (2, .int x2)]) dX12_apart_3 (by decide) rfl ?_
  refine op_iconst (v := 0) dX12_apart_5 (by decide) ?_
  refine op_istore (L' := [(5, .int 0), (4, .int x2), (3, .int x1), (0, .ref 53), (1, .int x1), (2, .int x2)]) dX12_apart_6 (by decide) rfl ?_
  refine AW.perm [3, 2, 1, 0] rfl ?_
  exact t_X12_apart_8 hd  n _ _ _ _ _ _ h
theorem t_X12_apart {l : Launch} {ρ : am_R} {n d gc gs : Nat} {I : Nat → Nat → Int32} {J : Nat → Nat → Int64} {T : Nat} {x1 : Int32} {x2 : Int32} {q : Int32} (hd : 0 * n + 0 ≤ d) (h : f_X12_apart n I J T x1 x2 = some q) : AW l ρ d M_X12_apart 0 [(0, .ref 53), (1, .int x1), (2, .int x2)] [] (am_KD, gc, gs) (I, J, am_RT T) (am_KD, gc, gs) (fun v H' => v = [.int q] ∧ H' = (I, J, am_RT T)) := t_X12_apart_0 hd h
def f_X12_look_43 (n : Nat) (I : Nat → Nat → Int32) (J : Nat → Nat → Int64) (T : Nat) : Option (Int32 × (Nat → Nat → Int32)) :=
  if (I 53 9) ≤ (I 53 10) then
   some ((-1), I)
  else
   if T = 54 then
    if ok_ix ((I 53 8) + (I 53 10)) 160 then
     some ((I 54 (((I 53 8) + (I 53 10)).toNatClampNeg)) &&& 255, I)
    else none
   else if T = 55 then
    if ok_ix ((I 53 8) + (I 53 10)) 640 then
     some ((I 55 (((I 53 8) + (I 53 10)).toNatClampNeg)) &&& 255, I)
    else none
   else none
def f_X12_look_0 (n : Nat) : Nat → (Nat → Nat → Int32) → (Nat → Nat → Int64) → Nat → Option (Int32 × (Nat → Nat → Int32))
  | 0, _, _, _ => none
  | m + 1, I, J, T =>
    if (I 53 9) ≤ (I 53 10) then
     f_X12_look_43 n  I J T
    else
     if T = 54 then
      if ok_ix ((I 53 8) + (I 53 10)) 160 then
       if (I 54 (((I 53 8) + (I 53 10)).toNatClampNeg)) = 32 then
        f_X12_look_0 n  m ((am_u I 53 10 ((I 53 10) + 1))) J T
       else
        f_X12_look_43 n  I J T
      else none
     else if T = 55 then
      if ok_ix ((I 53 8) + (I 53 10)) 640 then
       if (I 55 (((I 53 8) + (I 53 10)).toNatClampNeg)) = 32 then
        f_X12_look_0 n  m ((am_u I 53 10 ((I 53 10) + 1))) J T
       else
        f_X12_look_43 n  I J T
      else none
     else none
def f_X12_look (n : Nat) (I : Nat → Nat → Int32) (J : Nat → Nat → Int64) (T : Nat) : Option (Int32 × (Nat → Nat → Int32)) := f_X12_look_0 n n I J T 
set_option maxRecDepth 100000 in
set_option maxHeartbeats 4000000 in
theorem t_X12_look_43 {l : Launch} {ρ : am_R} {n d gc gs : Nat} {I : Nat → Nat → Int32} {J : Nat → Nat → Int64} {T : Nat} {q : Int32 × (Nat → Nat → Int32)} (hd : 0 * n + 0 ≤ d)
    (h : f_X12_look_43 n  I J T  = some q) : AW l ρ d M_X12_look 43 [(0, .ref 53)] [] (am_KD, gc, gs) (I, J, am_RT T) (am_KD, gc, gs) (fun v H' => v = [.int q.1] ∧ H' = (q.2, J, am_RT T)) := by
  unfold f_X12_look_43 at h
  refine op_aload_n (k := 0) dX12_look_43 rfl rfl ?_
  refine st_getI (v := I 53 10) dX12_look_44 fl_X12_141 kd_53 (by decide) rfl rfl ?_
  refine op_aload_n (k := 0) dX12_look_47 rfl rfl ?_
  refine st_getI (v := I 53 9) dX12_look_48 fl_X12_144 kd_53 (by decide) rfl rfl ?_
  refine op_icmp_ge (tgt := 75) dX12_look_51 (by decide) (fun c1 => ?_) (fun c1 => ?_)
  · replace h := am_ip c1 h
    refine op_iconst (v := (-1)) dX12_look_75 (by decide) ?_
    cases h
    exact (op_iret dX12_look_76 rfl rfl ⟨rfl, rfl⟩)
  · replace h := am_ie c1 h
    refine op_aload_n (k := 0) dX12_look_54 rfl rfl ?_
    refine st_getT dX12_look_55 fl_X12_23 ?_
    refine op_aload_n (k := 0) dX12_look_58 rfl rfl ?_
    refine st_getI (v := I 53 8) dX12_look_59 fl_X12_147 kd_53 (by decide) rfl rfl ?_
    refine op_aload_n (k := 0) dX12_look_62 rfl rfl ?_
    refine st_getI (v := I 53 10) dX12_look_63 fl_X12_141 kd_53 (by decide) rfl rfl ?_
    refine op_iadd dX12_look_66 ?_
    by_cases c2 : T = 54
    · replace h := am_ip c2 h
      refine st_rf c2 ?_
      obtain ⟨g3, h⟩ := am_gd h
      refine st_bald (k := ((I 53 8) + (I 53 10)).toNatClampNeg) (v := I 54 (((I 53 8) + (I 53 10)).toNatClampNeg)) dX12_look_67 kd_54 g3 rfl rfl ?_
      refine op_sipush (v := 255) dX12_look_68 (by decide) ?_
      refine op_iand dX12_look_71 ?_
      refine op_goto (tgt := 76) dX12_look_72 (by decide) ?_
      cases h
      exact (op_iret dX12_look_76 rfl rfl ⟨rfl, rfl⟩)
    · replace h := am_ie c2 h
      obtain ⟨c2b, h⟩ := am_gd h
      refine st_rf c2b ?_
      obtain ⟨g4, h⟩ := am_gd h
      refine st_bald (k := ((I 53 8) + (I 53 10)).toNatClampNeg) (v := I 55 (((I 53 8) + (I 53 10)).toNatClampNeg)) dX12_look_67 kd_55 g4 rfl rfl ?_
      refine op_sipush (v := 255) dX12_look_68 (by decide) ?_
      refine op_iand dX12_look_71 ?_
      refine op_goto (tgt := 76) dX12_look_72 (by decide) ?_
      cases h
      exact (op_iret dX12_look_76 rfl rfl ⟨rfl, rfl⟩)
set_option maxRecDepth 100000 in
set_option maxHeartbeats 4000000 in
theorem t_X12_look_0 {l : Launch} {ρ : am_R} {n d gc gs : Nat} {q : Int32 × (Nat → Nat → Int32)} (hd : 0 * n + 0 ≤ d)
    : ∀ (m : Nat) (I : Nat → Nat → Int32) (J : Nat → Nat → Int64) (T : Nat), f_X12_look_0 n  m I J T  = some q → AW l ρ d M_X12_look 0 [(0, .ref 53)] [] (am_KD, gc, gs) (I, J, am_RT T) (am_KD, gc, gs) (fun v H' => v = [.int q.1] ∧ H' = (q.2, J, am_RT T)) := by
  intro m
  induction m with
  | zero =>
    intro I J T  h
    rw [f_X12_look_0] at h
    cases h
  | succ m ih =>
    intro I J T  h
    rw [f_X12_look_0] at h
    refine op_aload_n (k := 0) dX12_look_0 rfl rfl ?_
    refine st_getI (v := I 53 10) dX12_look_1 fl_X12_141 kd_53 (by decide) rfl rfl ?_
    refine op_aload_n (k := 0) dX12_look_4 rfl rfl ?_
    refine st_getI (v := I 53 9) dX12_look_5 fl_X12_144 kd_53 (by decide) rfl rfl ?_
    refine op_icmp_ge (tgt := 43) dX12_look_8 (by decide) (fun c1 => ?_) (fun c1 => ?_)
    · replace h := am_ip c1 h
      exact t_X12_look_43 hd  h
    · replace h := am_ie c1 h
      refine op_aload_n (k := 0) dX12_look_11 rfl rfl ?_
      refine st_getT dX12_look_12 fl_X12_23 ?_
      refine op_aload_n (k := 0) dX12_look_15 rfl rfl ?_
      refine st_getI (v := I 53 8) dX12_look_16 fl_X12_147 kd_53 (by decide) rfl rfl ?_
      refine op_aload_n (k := 0) dX12_look_19 rfl rfl ?_
      refine st_getI (v := I 53 10) dX12_look_20 fl_X12_141 kd_53 (by decide) rfl rfl ?_
      refine op_iadd dX12_look_23 ?_
      by_cases c2 : T = 54
      · replace h := am_ip c2 h
        refine st_rf c2 ?_
        obtain ⟨g3, h⟩ := am_gd h
        refine st_bald (k := ((I 53 8) + (I 53 10)).toNatClampNeg) (v := I 54 (((I 53 8) + (I 53 10)).toNatClampNeg)) dX12_look_24 kd_54 g3 rfl rfl ?_
        refine op_bipush (v := 32) dX12_look_25 (by decide) ?_
        refine op_icmp_ne (tgt := 43) dX12_look_27 (by decide) (fun c4 => ?_) (fun c4 => ?_)
        · replace h := am_ie c4 h
          exact t_X12_look_43 hd  h
        · replace h := am_ip c4 h
          refine op_aload_n (k := 0) dX12_look_30 rfl rfl ?_
          refine op_dup dX12_look_31 rfl ?_
          refine st_getI (v := I 53 10) dX12_look_32 fl_X12_141 kd_53 (by decide) rfl rfl ?_
          refine op_iconst (v := 1) dX12_look_35 (by decide) ?_
          refine op_iadd dX12_look_36 ?_
          refine st_putI dX12_look_37 fl_X12_141 kd_53 (by decide) rfl ?_
          refine op_goto (tgt := 0) dX12_look_40 (by decide) ?_
          exact ih _ _ _ h
      · replace h := am_ie c2 h
        obtain ⟨c2b, h⟩ := am_gd h
        refine st_rf c2b ?_
        obtain ⟨g5, h⟩ := am_gd h
        refine st_bald (k := ((I 53 8) + (I 53 10)).toNatClampNeg) (v := I 55 (((I 53 8) + (I 53 10)).toNatClampNeg)) dX12_look_24 kd_55 g5 rfl rfl ?_
        refine op_bipush (v := 32) dX12_look_25 (by decide) ?_
        refine op_icmp_ne (tgt := 43) dX12_look_27 (by decide) (fun c6 => ?_) (fun c6 => ?_)
        · replace h := am_ie c6 h
          exact t_X12_look_43 hd  h
        · replace h := am_ip c6 h
          refine op_aload_n (k := 0) dX12_look_30 rfl rfl ?_
          refine op_dup dX12_look_31 rfl ?_
          refine st_getI (v := I 53 10) dX12_look_32 fl_X12_141 kd_53 (by decide) rfl rfl ?_
          refine op_iconst (v := 1) dX12_look_35 (by decide) ?_
          refine op_iadd dX12_look_36 ?_
          refine st_putI dX12_look_37 fl_X12_141 kd_53 (by decide) rfl ?_
          refine op_goto (tgt := 0) dX12_look_40 (by decide) ?_
          exact ih _ _ _ h
theorem t_X12_look {l : Launch} {ρ : am_R} {n d gc gs : Nat} {I : Nat → Nat → Int32} {J : Nat → Nat → Int64} {T : Nat} {q : Int32 × (Nat → Nat → Int32)} (hd : 0 * n + 0 ≤ d) (h : f_X12_look n I J T  = some q) : AW l ρ d M_X12_look 0 [(0, .ref 53)] [] (am_KD, gc, gs) (I, J, am_RT T) (am_KD, gc, gs) (fun v H' => v = [.int q.1] ∧ H' = (q.2, J, am_RT T)) := t_X12_look_0 hd n _ _ _ h
def f_J0_coder_7d493 (n : Nat) (I : Nat → Nat → Int32) (J : Nat → Nat → Int64) (T : Nat) (r0 : Nat) : Option (Int32) :=
  if r0 < 5 then
   some (0)
  else none
set_option maxRecDepth 100000 in
set_option maxHeartbeats 4000000 in
theorem t_J0_coder_7d493_0 {l : Launch} {ρ : am_R} {n d gc gs : Nat} {I : Nat → Nat → Int32} {J : Nat → Nat → Int64} {T : Nat} {r0 : Nat} {q : Int32} (hd : 0 * n + 0 ≤ d)
    (h : f_J0_coder_7d493 n  I J T r0 = some q) : AW l ρ d M_J0_coder_7d493 0 [(0, .ref (1010 + r0))] [] (am_KD, gc, gs) (I, J, am_RT T) (am_KD, gc, gs) (fun v H' => v = [.int q] ∧ H' = (I, J, am_RT T)) := by
  unfold f_J0_coder_7d493 at h
  refine op_getsC dJ0_coder_7d493_0 tw_1431 ?_
  refine op_if_eq (tgt := 13) dJ0_coder_7d493_3 (by decide) (fun z => absurd z (by decide)) (fun _ => ?_)
  refine op_aload_n (k := 0) dJ0_coder_7d493_6 rfl rfl ?_
  obtain ⟨g1, h⟩ := am_gd h
  refine op_strC (i := r0) dJ0_coder_7d493_7 g1 tw_1812 ?_
  refine op_goto (tgt := 14) dJ0_coder_7d493_10 (by decide) ?_
  cases h
  exact (op_iret dJ0_coder_7d493_14 rfl (by decide) ⟨rfl, rfl⟩)
theorem t_J0_coder_7d493 {l : Launch} {ρ : am_R} {n d gc gs : Nat} {I : Nat → Nat → Int32} {J : Nat → Nat → Int64} {T : Nat} {r0 : Nat} {q : Int32} (hd : 0 * n + 0 ≤ d) (h : f_J0_coder_7d493 n I J T r0 = some q) : AW l ρ d M_J0_coder_7d493 0 [(0, .ref (1010 + r0))] [] (am_KD, gc, gs) (I, J, am_RT T) (am_KD, gc, gs) (fun v H' => v = [.int q] ∧ H' = (I, J, am_RT T)) := t_J0_coder_7d493_0 hd h
def f_J0_length_8abf5 (n : Nat) (I : Nat → Nat → Int32) (J : Nat → Nat → Int64) (T : Nat) (r0 : Nat) : Option (Int32) :=
  if r0 < 5 then
   if r0 < 5 then
    if r0 < 5 then
     (f_J0_coder_7d493 n I J T r0).bind fun w3 =>
     some ((Int32.ofNat (am_sl.getD r0 0)) >>> (w3 &&& 31))
    else none
   else none
  else none
set_option maxRecDepth 100000 in
set_option maxHeartbeats 4000000 in
theorem t_J0_length_8abf5_0 {l : Launch} {ρ : am_R} {n d gc gs : Nat} {I : Nat → Nat → Int32} {J : Nat → Nat → Int64} {T : Nat} {r0 : Nat} {q : Int32} (hd : 0 * n + 1 ≤ (d + 1))
    (h : f_J0_length_8abf5 n  I J T r0 = some q) : AW l ρ (d + 1) M_J0_length_8abf5 0 [(0, .ref (1010 + r0))] [] (am_KD, gc, gs) (I, J, am_RT T) (am_KD, gc, gs) (fun v H' => v = [.int q] ∧ H' = (I, J, am_RT T)) := by
  unfold f_J0_length_8abf5 at h
  refine op_aload_n (k := 0) dJ0_length_8abf5_0 rfl rfl ?_
  obtain ⟨g1, h⟩ := am_gd h
  refine op_strV (i := r0) dJ0_length_8abf5_1 g1 tw_1811 ?_
  obtain ⟨g2, h⟩ := am_gd h
  refine op_strL (i := r0) (v := Int32.ofNat (am_sl.getD r0 0)) dJ0_length_8abf5_4 g2 rfl ?_
  refine op_aload_n (k := 0) dJ0_length_8abf5_5 rfl rfl ?_
  obtain ⟨g4, h⟩ := am_gd h
  obtain ⟨w3, ew3, h⟩ := am_bd h
  refine op_callStr (b := r0) (M' := M_J0_coder_7d493) [] (S0 := [.int (Int32.ofNat (am_sl.getD r0 0))]) dJ0_length_8abf5_6 tw_1427 ok_J0_coder_7d493 tw_1428 tw_1429 g4 rfl rfl rfl (Nat.le_of_ble_eq_true rfl) (Nat.le_of_ble_eq_true rfl) (t_J0_coder_7d493 (by omega) ew3) (am_le_rf _) ?_
  rintro _ _ ⟨rfl, rfl⟩
  refine op_ishr dJ0_length_8abf5_9 ?_
  cases h
  exact (op_iret dJ0_length_8abf5_10 rfl rfl ⟨rfl, rfl⟩)
theorem t_J0_length_8abf5 {l : Launch} {ρ : am_R} {n d gc gs : Nat} {I : Nat → Nat → Int32} {J : Nat → Nat → Int64} {T : Nat} {r0 : Nat} {q : Int32} (hd : 0 * n + 1 ≤ d) (h : f_J0_length_8abf5 n I J T r0 = some q) : AW l ρ d M_J0_length_8abf5 0 [(0, .ref (1010 + r0))] [] (am_KD, gc, gs) (I, J, am_RT T) (am_KD, gc, gs) (fun v H' => v = [.int q] ∧ H' = (I, J, am_RT T)) := by
  obtain ⟨d, rfl⟩ : ∃ e, d = e + 1 := ⟨d - 1, by omega⟩
  exact t_J0_length_8abf5_0 hd h
def f_J0_isLatin1_aae02 (n : Nat) (I : Nat → Nat → Int32) (J : Nat → Nat → Int64) (T : Nat) (r0 : Nat) : Option (Int32) :=
  if r0 < 5 then
   some (1)
  else none
set_option maxRecDepth 100000 in
set_option maxHeartbeats 4000000 in
theorem t_J0_isLatin1_aae02_0 {l : Launch} {ρ : am_R} {n d gc gs : Nat} {I : Nat → Nat → Int32} {J : Nat → Nat → Int64} {T : Nat} {r0 : Nat} {q : Int32} (hd : 0 * n + 0 ≤ d)
    (h : f_J0_isLatin1_aae02 n  I J T r0 = some q) : AW l ρ d M_J0_isLatin1_aae02 0 [(0, .ref (1010 + r0))] [] (am_KD, gc, gs) (I, J, am_RT T) (am_KD, gc, gs) (fun v H' => v = [.int q] ∧ H' = (I, J, am_RT T)) := by
  unfold f_J0_isLatin1_aae02 at h
  refine op_getsC dJ0_isLatin1_aae02_0 tw_1431 ?_
  refine op_if_eq (tgt := 17) dJ0_isLatin1_aae02_3 (by decide) (fun z => absurd z (by decide)) (fun _ => ?_)
  refine op_aload_n (k := 0) dJ0_isLatin1_aae02_6 rfl rfl ?_
  obtain ⟨g1, h⟩ := am_gd h
  refine op_strC (i := r0) dJ0_isLatin1_aae02_7 g1 tw_1812 ?_
  refine op_if_ne (tgt := 17) dJ0_isLatin1_aae02_10 (by decide) (fun z => absurd z (by decide)) (fun _ => ?_)
  refine op_iconst (v := 1) dJ0_isLatin1_aae02_13 (by decide) ?_
  refine op_goto (tgt := 18) dJ0_isLatin1_aae02_14 (by decide) ?_
  cases h
  exact (op_iret dJ0_isLatin1_aae02_18 rfl (by decide) ⟨rfl, rfl⟩)
theorem t_J0_isLatin1_aae02 {l : Launch} {ρ : am_R} {n d gc gs : Nat} {I : Nat → Nat → Int32} {J : Nat → Nat → Int64} {T : Nat} {r0 : Nat} {q : Int32} (hd : 0 * n + 0 ≤ d) (h : f_J0_isLatin1_aae02 n I J T r0 = some q) : AW l ρ d M_J0_isLatin1_aae02 0 [(0, .ref (1010 + r0))] [] (am_KD, gc, gs) (I, J, am_RT T) (am_KD, gc, gs) (fun v H' => v = [.int q] ∧ H' = (I, J, am_RT T)) := t_J0_isLatin1_aae02_0 hd h
def f_J3_checkIndex_8e157 (n : Nat) (I : Nat → Nat → Int32) (J : Nat → Nat → Int64) (T : Nat) (x0 : Int32) (x1 : Int32) : Option (Int32) :=
  if x0 < 0 then
   none
  else
   if x0 < x1 then
    some (x0)
   else
    none
set_option maxRecDepth 100000 in
set_option maxHeartbeats 4000000 in
theorem t_J3_checkIndex_8e157_0 {l : Launch} {ρ : am_R} {n d gc gs : Nat} {r0 : Value} {I : Nat → Nat → Int32} {J : Nat → Nat → Int64} {T : Nat} {x0 : Int32} {x1 : Int32} {q : Int32} (hd : 0 * n + 0 ≤ d)
    (h : f_J3_checkIndex_8e157 n  I J T x0 x1 = some q) : AW l ρ d M_J3_checkIndex_8e157 0 [(0, .int x0), (1, .int x1), (2, r0)] [] (am_KD, gc, gs) (I, J, am_RT T) (am_KD, gc, gs) (fun v H' => v = [.int q] ∧ H' = (I, J, am_RT T)) := by
  unfold f_J3_checkIndex_8e157 at h
  refine op_iload_n (k := 0) dJ3_checkIndex_8e157_0 rfl rfl ?_
  refine op_if_lt (tgt := 9) dJ3_checkIndex_8e157_1 (by decide) (fun c1 => ?_) (fun c1 => ?_)
  · replace h := am_ip c1 h
    cases h
  · replace h := am_ie c1 h
    refine op_iload_n (k := 0) dJ3_checkIndex_8e157_4 rfl rfl ?_
    refine op_iload_n (k := 1) dJ3_checkIndex_8e157_5 rfl rfl ?_
    refine op_icmp_lt (tgt := 16) dJ3_checkIndex_8e157_6 (by decide) (fun c2 => ?_) (fun c2 => ?_)
    · replace h := am_ip c2 h
      refine op_iload_n (k := 0) dJ3_checkIndex_8e157_16 rfl rfl ?_
      cases h
      exact (op_iret dJ3_checkIndex_8e157_17 rfl rfl ⟨rfl, rfl⟩)
    · replace h := am_ie c2 h
      cases h
theorem t_J3_checkIndex_8e157 {l : Launch} {ρ : am_R} {n d gc gs : Nat} {r0 : Value} {I : Nat → Nat → Int32} {J : Nat → Nat → Int64} {T : Nat} {x0 : Int32} {x1 : Int32} {q : Int32} (hd : 0 * n + 0 ≤ d) (h : f_J3_checkIndex_8e157 n I J T x0 x1 = some q) : AW l ρ d M_J3_checkIndex_8e157 0 [(0, .int x0), (1, .int x1), (2, r0)] [] (am_KD, gc, gs) (I, J, am_RT T) (am_KD, gc, gs) (fun v H' => v = [.int q] ∧ H' = (I, J, am_RT T)) := t_J3_checkIndex_8e157_0 hd h
def f_J0_checkIndex_df160 (n : Nat) (I : Nat → Nat → Int32) (J : Nat → Nat → Int64) (T : Nat) (x0 : Int32) (x1 : Int32) : Option (Unit) :=
  (f_J3_checkIndex_8e157 n I J T x0 x1).bind fun w2 =>
  some ()
set_option maxRecDepth 100000 in
set_option maxHeartbeats 4000000 in
theorem t_J0_checkIndex_df160_0 {l : Launch} {ρ : am_R} {n d gc gs : Nat} {I : Nat → Nat → Int32} {J : Nat → Nat → Int64} {T : Nat} {x0 : Int32} {x1 : Int32} {q : Unit} (hd : 0 * n + 1 ≤ (d + 1))
    (h : f_J0_checkIndex_df160 n  I J T x0 x1 = some q) : AW l ρ (d + 1) M_J0_checkIndex_df160 0 [(0, .int x0), (1, .int x1)] [] (am_KD, gc, gs) (I, J, am_RT T) (am_KD, gc, gs) (fun v H' => v = [] ∧ H' = (I, J, am_RT T)) := by
  unfold f_J0_checkIndex_df160 at h
  refine op_iload_n (k := 0) dJ0_checkIndex_df160_0 rfl rfl ?_
  refine op_iload_n (k := 1) dJ0_checkIndex_df160_1 rfl rfl ?_
  refine op_getsF dJ0_checkIndex_df160_2 tw_1447 (fun v1 v1_h => ?_)
  obtain ⟨w2, ew2, h⟩ := am_bd h
  refine op_callS (M' := M_J3_checkIndex_8e157) [.int x0, .int x1, v1] (S0 := []) dJ0_checkIndex_df160_5 tw_1449 ok_J3_checkIndex_8e157 tw_1450 rfl rfl (Nat.le_of_ble_eq_true rfl) (by rcases v1_h with rfl | rfl <;> exact Nat.le_of_ble_eq_true rfl) (t_J3_checkIndex_8e157 (by omega) ew2) (am_le_rf _) ?_
  rintro _ _ ⟨rfl, rfl⟩
  refine op_pop dJ0_checkIndex_df160_8 rfl ?_
  cases h
  exact (op_vret dJ0_checkIndex_df160_9 rfl ⟨rfl, rfl⟩)
theorem t_J0_checkIndex_df160 {l : Launch} {ρ : am_R} {n d gc gs : Nat} {I : Nat → Nat → Int32} {J : Nat → Nat → Int64} {T : Nat} {x0 : Int32} {x1 : Int32} {q : Unit} (hd : 0 * n + 1 ≤ d) (h : f_J0_checkIndex_df160 n I J T x0 x1 = some q) : AW l ρ d M_J0_checkIndex_df160 0 [(0, .int x0), (1, .int x1)] [] (am_KD, gc, gs) (I, J, am_RT T) (am_KD, gc, gs) (fun v H' => v = [] ∧ H' = (I, J, am_RT T)) := by
  obtain ⟨d, rfl⟩ : ∃ e, d = e + 1 := ⟨d - 1, by omega⟩
  exact t_J0_checkIndex_df160_0 hd h
def f_J1_charAt_3b067 (n : Nat) (I : Nat → Nat → Int32) (J : Nat → Nat → Int64) (T : Nat) (r0 : Nat) (x1 : Int32) : Option (Int32) :=
  if r0 < 5 then
   (f_J0_checkIndex_df160 n I J T x1 (Int32.ofNat (am_sl.getD r0 0))).bind fun w2 =>
   if r0 < 5 then
    if ok_ix x1 (am_sl.getD r0 0) then
     if narrow .char (.int (((((am_sb.getD r0 []).getD x1.toNatClampNeg 0) &&& 255).toUInt32 % 65536).toInt32)) = .int (((((am_sb.getD r0 []).getD x1.toNatClampNeg 0) &&& 255).toUInt32 % 65536).toInt32) then
      some (((((am_sb.getD r0 []).getD x1.toNatClampNeg 0) &&& 255).toUInt32 % 65536).toInt32)
     else none
    else none
   else none
  else none
set_option maxRecDepth 100000 in
set_option maxHeartbeats 4000000 in
theorem t_J1_charAt_3b067_0 {l : Launch} {ρ : am_R} {n d gc gs : Nat} {I : Nat → Nat → Int32} {J : Nat → Nat → Int64} {T : Nat} {r0 : Nat} {x1 : Int32} {q : Int32} (hd : 0 * n + 2 ≤ (d + 1))
    (h : f_J1_charAt_3b067 n  I J T r0 x1 = some q) : AW l ρ (d + 1) M_J1_charAt_3b067 0 [(0, .ref (1020 + r0)), (1, .int x1)] [] (am_KD, gc, gs) (I, J, am_RT T) (am_KD, gc, gs) (fun v H' => v = [.int q] ∧ H' = (I, J, am_RT T)) := by
  unfold f_J1_charAt_3b067 at h
  refine op_iload_n (k := 1) dJ1_charAt_3b067_0 rfl rfl ?_
  refine op_aload_n (k := 0) dJ1_charAt_3b067_1 rfl rfl ?_
  obtain ⟨g1, h⟩ := am_gd h
  refine op_strL (i := r0) (v := Int32.ofNat (am_sl.getD r0 0)) dJ1_charAt_3b067_2 g1 rfl ?_
  obtain ⟨w2, ew2, h⟩ := am_bd h
  refine op_callS (M' := M_J0_checkIndex_df160) [.int x1, .int (Int32.ofNat (am_sl.getD r0 0))] (S0 := []) dJ1_charAt_3b067_3 tw_1444 ok_J0_checkIndex_df160 tw_1445 rfl rfl (Nat.le_of_ble_eq_true rfl) (Nat.le_of_ble_eq_true rfl) (t_J0_checkIndex_df160 (by omega) ew2) (am_le_rf _) ?_
  rintro _ _ ⟨rfl, rfl⟩
  refine op_aload_n (k := 0) dJ1_charAt_3b067_6 rfl rfl ?_
  refine op_iload_n (k := 1) dJ1_charAt_3b067_7 rfl rfl ?_
  obtain ⟨g3, h⟩ := am_gd h
  obtain ⟨g4, h⟩ := am_gd h
  refine op_strB (i := r0) (v := (am_sb.getD r0 []).getD x1.toNatClampNeg 0) dJ1_charAt_3b067_8 g3 g4 rfl ?_
  refine op_sipush (v := 255) dJ1_charAt_3b067_9 (by decide) ?_
  refine op_iand dJ1_charAt_3b067_12 ?_
  refine op_i2c dJ1_charAt_3b067_13 ?_
  obtain ⟨g5, h⟩ := am_gd h
  cases h
  exact (op_iret dJ1_charAt_3b067_14 rfl g5 ⟨rfl, rfl⟩)
theorem t_J1_charAt_3b067 {l : Launch} {ρ : am_R} {n d gc gs : Nat} {I : Nat → Nat → Int32} {J : Nat → Nat → Int64} {T : Nat} {r0 : Nat} {x1 : Int32} {q : Int32} (hd : 0 * n + 2 ≤ d) (h : f_J1_charAt_3b067 n I J T r0 x1 = some q) : AW l ρ d M_J1_charAt_3b067 0 [(0, .ref (1020 + r0)), (1, .int x1)] [] (am_KD, gc, gs) (I, J, am_RT T) (am_KD, gc, gs) (fun v H' => v = [.int q] ∧ H' = (I, J, am_RT T)) := by
  obtain ⟨d, rfl⟩ : ∃ e, d = e + 1 := ⟨d - 1, by omega⟩
  exact t_J1_charAt_3b067_0 hd h
def f_J0_charAt_5068e (n : Nat) (I : Nat → Nat → Int32) (J : Nat → Nat → Int64) (T : Nat) (r0 : Nat) (x1 : Int32) : Option (Int32) :=
  if r0 < 5 then
   (f_J0_isLatin1_aae02 n I J T r0).bind fun w1 =>
   if w1 = 0 then
    if r0 < 5 then
     none
    else none
   else
    if r0 < 5 then
     (f_J1_charAt_3b067 n I J T r0 x1).bind fun w5 =>
     if narrow .char (.int w5) = .int w5 then
      some (w5)
     else none
    else none
  else none
set_option maxRecDepth 100000 in
set_option maxHeartbeats 4000000 in
theorem t_J0_charAt_5068e_0 {l : Launch} {ρ : am_R} {n d gc gs : Nat} {I : Nat → Nat → Int32} {J : Nat → Nat → Int64} {T : Nat} {r0 : Nat} {x1 : Int32} {q : Int32} (hd : 0 * n + 3 ≤ (d + 1))
    (h : f_J0_charAt_5068e n  I J T r0 x1 = some q) : AW l ρ (d + 1) M_J0_charAt_5068e 0 [(0, .ref (1010 + r0)), (1, .int x1)] [] (am_KD, gc, gs) (I, J, am_RT T) (am_KD, gc, gs) (fun v H' => v = [.int q] ∧ H' = (I, J, am_RT T)) := by
  unfold f_J0_charAt_5068e at h
  refine op_aload_n (k := 0) dJ0_charAt_5068e_0 rfl rfl ?_
  obtain ⟨g7, h⟩ := am_gd h
  obtain ⟨w1, ew1, h⟩ := am_bd h
  refine op_callStr (b := r0) (M' := M_J0_isLatin1_aae02) [] (S0 := []) dJ0_charAt_5068e_1 tw_1437 ok_J0_isLatin1_aae02 tw_1438 tw_1439 g7 rfl rfl rfl (Nat.le_of_ble_eq_true rfl) (Nat.le_of_ble_eq_true rfl) (t_J0_isLatin1_aae02 (by omega) ew1) (am_le_rf _) ?_
  rintro _ _ ⟨rfl, rfl⟩
  refine op_if_eq (tgt := 16) dJ0_charAt_5068e_4 (by decide) (fun c2 => ?_) (fun c2 => ?_)
  · replace h := am_ip c2 h
    refine op_aload_n (k := 0) dJ0_charAt_5068e_16 rfl rfl ?_
    obtain ⟨g3, h⟩ := am_gd h
    refine op_strV (i := r0) dJ0_charAt_5068e_17 g3 tw_1811 ?_
    refine op_iload_n (k := 1) dJ0_charAt_5068e_20 rfl rfl ?_
    cases h
  · replace h := am_ie c2 h
    refine op_aload_n (k := 0) dJ0_charAt_5068e_7 rfl rfl ?_
    obtain ⟨g4, h⟩ := am_gd h
    refine op_strV (i := r0) dJ0_charAt_5068e_8 g4 tw_1811 ?_
    refine op_iload_n (k := 1) dJ0_charAt_5068e_11 rfl rfl ?_
    obtain ⟨w5, ew5, h⟩ := am_bd h
    refine op_callS (M' := M_J1_charAt_3b067) [.ref (1020 + r0), .int x1] (S0 := []) dJ0_charAt_5068e_12 tw_1441 ok_J1_charAt_3b067 tw_1442 rfl rfl (Nat.le_of_ble_eq_true rfl) (Nat.le_of_ble_eq_true rfl) (t_J1_charAt_3b067 (by omega) ew5) (am_le_rf _) ?_
    rintro _ _ ⟨rfl, rfl⟩
    obtain ⟨g6, h⟩ := am_gd h
    cases h
    exact (op_iret dJ0_charAt_5068e_15 rfl g6 ⟨rfl, rfl⟩)
theorem t_J0_charAt_5068e {l : Launch} {ρ : am_R} {n d gc gs : Nat} {I : Nat → Nat → Int32} {J : Nat → Nat → Int64} {T : Nat} {r0 : Nat} {x1 : Int32} {q : Int32} (hd : 0 * n + 3 ≤ d) (h : f_J0_charAt_5068e n I J T r0 x1 = some q) : AW l ρ d M_J0_charAt_5068e 0 [(0, .ref (1010 + r0)), (1, .int x1)] [] (am_KD, gc, gs) (I, J, am_RT T) (am_KD, gc, gs) (fun v H' => v = [.int q] ∧ H' = (I, J, am_RT T)) := by
  obtain ⟨d, rfl⟩ : ∃ e, d = e + 1 := ⟨d - 1, by omega⟩
  exact t_J0_charAt_5068e_0 hd h
def f_X12_isAmong_2 (n : Nat) : Nat → (Nat → Nat → Int32) → (Nat → Nat → Int64) → Nat → Nat → Int32 → Int32 → Option (Int32)
  | 0, _, _, _, _, _, _ => none
  | m + 1, I, J, T, r0, x1, x2 =>
    if r0 < 5 then
     (f_J0_length_8abf5 n I J T r0).bind fun w1 =>
     if w1 ≤ x2 then
      some (0)
     else
      if r0 < 5 then
       (f_J0_charAt_5068e n I J T r0 x2).bind fun w3 =>
       if w3 = x1 then
        some (1)
       else
        f_X12_isAmong_2 n  m I J T r0 x1 (x2 + 1)
      else none
    else none
def f_X12_isAmong (n : Nat) (I : Nat → Nat → Int32) (J : Nat → Nat → Int64) (T : Nat) (r0 : Nat) (x1 : Int32) : Option (Int32) :=
  f_X12_isAmong_2 n  n I J T r0 x1 0
set_option maxRecDepth 100000 in
set_option maxHeartbeats 4000000 in
theorem t_X12_isAmong_2 {l : Launch} {ρ : am_R} {n d gc gs : Nat} {q : Int32} (hd : 0 * n + 4 ≤ (d + 1))
    : ∀ (m : Nat) (I : Nat → Nat → Int32) (J : Nat → Nat → Int64) (T : Nat) (r0 : Nat) (x1 : Int32) (x2 : Int32), f_X12_isAmong_2 n  m I J T r0 x1 x2 = some q → AW l ρ (d + 1) M_X12_isAmong 2 [(0, .ref (1010 + r0)), (1, .int x1), (2, .int x2)] [] (am_KD, gc, gs) (I, J, am_RT T) (am_KD, gc, gs) (fun v H' => v = [.int q] ∧ H' = (I, J, am_RT T)) := by
  intro m
  induction m with
  | zero =>
    intro I J T r0 x1 x2 h
    rw [f_X12_isAmong_2] at h
    cases h
  | succ m ih =>
    intro I J T r0 x1 x2 h
    rw [f_X12_isAmong_2] at h
    refine op_iload_n (k := 2) dX12_isAmong_2 rfl rfl ?_
    refine op_aload_n (k := 0) dX12_isAmong_3 rfl rfl ?_
    obtain ⟨g6, h⟩ := am_gd h
    obtain ⟨w1, ew1, h⟩ := am_bd h
    refine op_callStr (b := r0) (M' := M_J0_length_8abf5) [] (S0 := [.int x2]) dX12_isAmong_4 tw_1423 ok_J0_length_8abf5 tw_1424 tw_1425 g6 rfl rfl rfl (Nat.le_of_ble_eq_true rfl) (Nat.le_of_ble_eq_true rfl) (t_J0_length_8abf5 (by omega) ew1) (am_le_rf _) ?_
    rintro _ _ ⟨rfl, rfl⟩
    refine op_icmp_ge (tgt := 27) dX12_isAmong_7 (by decide) (fun c2 => ?_) (fun c2 => ?_)
    · replace h := am_ip c2 h
      refine op_iconst (v := 0) dX12_isAmong_27 (by decide) ?_
      cases h
      exact (op_iret dX12_isAmong_28 rfl (by decide) ⟨rfl, rfl⟩)
    · replace h := am_ie c2 h
      refine op_aload_n (k := 0) dX12_isAmong_10 rfl rfl ?_
      refine op_iload_n (k := 2) dX12_isAmong_11 rfl rfl ?_
      obtain ⟨g5, h⟩ := am_gd h
      obtain ⟨w3, ew3, h⟩ := am_bd h
      refine op_callStr (b := r0) (M' := M_J0_charAt_5068e) [.int x2] (S0 := []) dX12_isAmong_12 tw_1433 ok_J0_charAt_5068e tw_1434 tw_1435 g5 rfl rfl rfl (Nat.le_of_ble_eq_true rfl) (Nat.le_of_ble_eq_true rfl) (t_J0_charAt_5068e (by omega) ew3) (am_le_rf _) ?_
      rintro _ _ ⟨rfl, rfl⟩
      refine op_iload_n (k := 1) dX12_isAmong_15 rfl rfl ?_
      refine op_icmp_ne (tgt := 21) dX12_isAmong_16 (by decide) (fun c4 => ?_) (fun c4 => ?_)
      · replace h := am_ie c4 h
        refine op_iinc (k := 2) (v := x2 + 1) (L' := [(2, .int (x2 + 1)), (0, .ref (1010 + r0)), (1, .int x1)]) dX12_isAmong_21 rfl rfl (by decide) rfl ?_
        refine op_goto (tgt := 2) dX12_isAmong_24 (by decide) ?_
        refine AW.perm [1, 2, 0] rfl ?_
        exact ih _ _ _ _ _ _ h
      · replace h := am_ip c4 h
        refine op_iconst (v := 1) dX12_isAmong_19 (by decide) ?_
        cases h
        exact (op_iret dX12_isAmong_20 rfl (by decide) ⟨rfl, rfl⟩)
set_option maxRecDepth 100000 in
set_option maxHeartbeats 4000000 in
theorem t_X12_isAmong_0 {l : Launch} {ρ : am_R} {n d gc gs : Nat} {I : Nat → Nat → Int32} {J : Nat → Nat → Int64} {T : Nat} {r0 : Nat} {x1 : Int32} {q : Int32} (hd : 0 * n + 4 ≤ (d + 1))
    (h : f_X12_isAmong n  I J T r0 x1 = some q) : AW l ρ (d + 1) M_X12_isAmong 0 [(0, .ref (1010 + r0)), (1, .int x1)] [] (am_KD, gc, gs) (I, J, am_RT T) (am_KD, gc, gs) (fun v H' => v = [.int q] ∧ H' = (I, J, am_RT T)) := by
  unfold f_X12_isAmong at h
  refine op_iconst (v := 0) dX12_isAmong_0 (by decide) ?_
  refine op_istore_n (L' := [(2, .int 0), (0, .ref (1010 + r0)), (1, .int x1)]) dX12_isAmong_1 rfl (by decide) rfl ?_
  refine AW.perm [1, 2, 0] rfl ?_
  exact t_X12_isAmong_2 hd  n _ _ _ _ _ _ h
theorem t_X12_isAmong {l : Launch} {ρ : am_R} {n d gc gs : Nat} {I : Nat → Nat → Int32} {J : Nat → Nat → Int64} {T : Nat} {r0 : Nat} {x1 : Int32} {q : Int32} (hd : 0 * n + 4 ≤ d) (h : f_X12_isAmong n I J T r0 x1 = some q) : AW l ρ d M_X12_isAmong 0 [(0, .ref (1010 + r0)), (1, .int x1)] [] (am_KD, gc, gs) (I, J, am_RT T) (am_KD, gc, gs) (fun v H' => v = [.int q] ∧ H' = (I, J, am_RT T)) := by
  obtain ⟨d, rfl⟩ : ∃ e, d = e + 1 := ⟨d - 1, by omega⟩
  exact t_X12_isAmong_0 hd h
def f_X12_isDigit (n : Nat) (I : Nat → Nat → Int32) (J : Nat → Nat → Int64) (T : Nat) : Option (Int32) :=
  if (I 53 9) ≤ (I 53 10) then
   some (0)
  else
   if T = 54 then
    if ok_ix ((I 53 8) + (I 53 10)) 160 then
     if (I 54 (((I 53 8) + (I 53 10)).toNatClampNeg)) < 48 then
      some (0)
     else
      if T = 54 then
       if ok_ix ((I 53 8) + (I 53 10)) 160 then
        if 57 < (I 54 (((I 53 8) + (I 53 10)).toNatClampNeg)) then
         some (0)
        else
         some (1)
       else none
      else if T = 55 then
       if ok_ix ((I 53 8) + (I 53 10)) 640 then
        if 57 < (I 55 (((I 53 8) + (I 53 10)).toNatClampNeg)) then
         some (0)
        else
         some (1)
       else none
      else none
    else none
   else if T = 55 then
    if ok_ix ((I 53 8) + (I 53 10)) 640 then
     if (I 55 (((I 53 8) + (I 53 10)).toNatClampNeg)) < 48 then
      some (0)
     else
      if T = 54 then
       if ok_ix ((I 53 8) + (I 53 10)) 160 then
        if 57 < (I 54 (((I 53 8) + (I 53 10)).toNatClampNeg)) then
         some (0)
        else
         some (1)
       else none
      else if T = 55 then
       if ok_ix ((I 53 8) + (I 53 10)) 640 then
        if 57 < (I 55 (((I 53 8) + (I 53 10)).toNatClampNeg)) then
         some (0)
        else
         some (1)
       else none
      else none
    else none
   else none
set_option maxRecDepth 100000 in
set_option maxHeartbeats 4000000 in
theorem t_X12_isDigit_0 {l : Launch} {ρ : am_R} {n d gc gs : Nat} {I : Nat → Nat → Int32} {J : Nat → Nat → Int64} {T : Nat} {q : Int32} (hd : 0 * n + 0 ≤ d)
    (h : f_X12_isDigit n  I J T  = some q) : AW l ρ d M_X12_isDigit 0 [(0, .ref 53)] [] (am_KD, gc, gs) (I, J, am_RT T) (am_KD, gc, gs) (fun v H' => v = [.int q] ∧ H' = (I, J, am_RT T)) := by
  unfold f_X12_isDigit at h
  refine op_aload_n (k := 0) dX12_isDigit_0 rfl rfl ?_
  refine st_getI (v := I 53 10) dX12_isDigit_1 fl_X12_141 kd_53 (by decide) rfl rfl ?_
  refine op_aload_n (k := 0) dX12_isDigit_4 rfl rfl ?_
  refine st_getI (v := I 53 9) dX12_isDigit_5 fl_X12_144 kd_53 (by decide) rfl rfl ?_
  refine op_icmp_ge (tgt := 53) dX12_isDigit_8 (by decide) (fun c1 => ?_) (fun c1 => ?_)
  · replace h := am_ip c1 h
    refine op_iconst (v := 0) dX12_isDigit_53 (by decide) ?_
    cases h
    exact (op_iret dX12_isDigit_54 rfl (by decide) ⟨rfl, rfl⟩)
  · replace h := am_ie c1 h
    refine op_aload_n (k := 0) dX12_isDigit_11 rfl rfl ?_
    refine st_getT dX12_isDigit_12 fl_X12_23 ?_
    refine op_aload_n (k := 0) dX12_isDigit_15 rfl rfl ?_
    refine st_getI (v := I 53 8) dX12_isDigit_16 fl_X12_147 kd_53 (by decide) rfl rfl ?_
    refine op_aload_n (k := 0) dX12_isDigit_19 rfl rfl ?_
    refine st_getI (v := I 53 10) dX12_isDigit_20 fl_X12_141 kd_53 (by decide) rfl rfl ?_
    refine op_iadd dX12_isDigit_23 ?_
    by_cases c2 : T = 54
    · replace h := am_ip c2 h
      refine st_rf c2 ?_
      obtain ⟨g3, h⟩ := am_gd h
      refine st_bald (k := ((I 53 8) + (I 53 10)).toNatClampNeg) (v := I 54 (((I 53 8) + (I 53 10)).toNatClampNeg)) dX12_isDigit_24 kd_54 g3 rfl rfl ?_
      refine op_bipush (v := 48) dX12_isDigit_25 (by decide) ?_
      refine op_icmp_lt (tgt := 53) dX12_isDigit_27 (by decide) (fun c4 => ?_) (fun c4 => ?_)
      · replace h := am_ip c4 h
        refine op_iconst (v := 0) dX12_isDigit_53 (by decide) ?_
        cases h
        exact (op_iret dX12_isDigit_54 rfl (by decide) ⟨rfl, rfl⟩)
      · replace h := am_ie c4 h
        refine op_aload_n (k := 0) dX12_isDigit_30 rfl rfl ?_
        refine st_getT dX12_isDigit_31 fl_X12_23 ?_
        refine op_aload_n (k := 0) dX12_isDigit_34 rfl rfl ?_
        refine st_getI (v := I 53 8) dX12_isDigit_35 fl_X12_147 kd_53 (by decide) rfl rfl ?_
        refine op_aload_n (k := 0) dX12_isDigit_38 rfl rfl ?_
        refine st_getI (v := I 53 10) dX12_isDigit_39 fl_X12_141 kd_53 (by decide) rfl rfl ?_
        refine op_iadd dX12_isDigit_42 ?_
        by_cases c5 : T = 54
        · replace h := am_ip c5 h
          refine st_rf c5 ?_
          obtain ⟨g6, h⟩ := am_gd h
          refine st_bald (k := ((I 53 8) + (I 53 10)).toNatClampNeg) (v := I 54 (((I 53 8) + (I 53 10)).toNatClampNeg)) dX12_isDigit_43 kd_54 g6 rfl rfl ?_
          refine op_bipush (v := 57) dX12_isDigit_44 (by decide) ?_
          refine op_icmp_gt (tgt := 53) dX12_isDigit_46 (by decide) (fun c7 => ?_) (fun c7 => ?_)
          · replace h := am_ip c7 h
            refine op_iconst (v := 0) dX12_isDigit_53 (by decide) ?_
            cases h
            exact (op_iret dX12_isDigit_54 rfl (by decide) ⟨rfl, rfl⟩)
          · replace h := am_ie c7 h
            refine op_iconst (v := 1) dX12_isDigit_49 (by decide) ?_
            refine op_goto (tgt := 54) dX12_isDigit_50 (by decide) ?_
            cases h
            exact (op_iret dX12_isDigit_54 rfl (by decide) ⟨rfl, rfl⟩)
        · replace h := am_ie c5 h
          obtain ⟨c5b, h⟩ := am_gd h
          refine st_rf c5b ?_
          obtain ⟨g8, h⟩ := am_gd h
          refine st_bald (k := ((I 53 8) + (I 53 10)).toNatClampNeg) (v := I 55 (((I 53 8) + (I 53 10)).toNatClampNeg)) dX12_isDigit_43 kd_55 g8 rfl rfl ?_
          refine op_bipush (v := 57) dX12_isDigit_44 (by decide) ?_
          refine op_icmp_gt (tgt := 53) dX12_isDigit_46 (by decide) (fun c9 => ?_) (fun c9 => ?_)
          · replace h := am_ip c9 h
            refine op_iconst (v := 0) dX12_isDigit_53 (by decide) ?_
            cases h
            exact (op_iret dX12_isDigit_54 rfl (by decide) ⟨rfl, rfl⟩)
          · replace h := am_ie c9 h
            refine op_iconst (v := 1) dX12_isDigit_49 (by decide) ?_
            refine op_goto (tgt := 54) dX12_isDigit_50 (by decide) ?_
            cases h
            exact (op_iret dX12_isDigit_54 rfl (by decide) ⟨rfl, rfl⟩)
    · replace h := am_ie c2 h
      obtain ⟨c2b, h⟩ := am_gd h
      refine st_rf c2b ?_
      obtain ⟨g10, h⟩ := am_gd h
      refine st_bald (k := ((I 53 8) + (I 53 10)).toNatClampNeg) (v := I 55 (((I 53 8) + (I 53 10)).toNatClampNeg)) dX12_isDigit_24 kd_55 g10 rfl rfl ?_
      refine op_bipush (v := 48) dX12_isDigit_25 (by decide) ?_
      refine op_icmp_lt (tgt := 53) dX12_isDigit_27 (by decide) (fun c11 => ?_) (fun c11 => ?_)
      · replace h := am_ip c11 h
        refine op_iconst (v := 0) dX12_isDigit_53 (by decide) ?_
        cases h
        exact (op_iret dX12_isDigit_54 rfl (by decide) ⟨rfl, rfl⟩)
      · replace h := am_ie c11 h
        refine op_aload_n (k := 0) dX12_isDigit_30 rfl rfl ?_
        refine st_getT dX12_isDigit_31 fl_X12_23 ?_
        refine op_aload_n (k := 0) dX12_isDigit_34 rfl rfl ?_
        refine st_getI (v := I 53 8) dX12_isDigit_35 fl_X12_147 kd_53 (by decide) rfl rfl ?_
        refine op_aload_n (k := 0) dX12_isDigit_38 rfl rfl ?_
        refine st_getI (v := I 53 10) dX12_isDigit_39 fl_X12_141 kd_53 (by decide) rfl rfl ?_
        refine op_iadd dX12_isDigit_42 ?_
        by_cases c12 : T = 54
        · replace h := am_ip c12 h
          refine st_rf c12 ?_
          obtain ⟨g13, h⟩ := am_gd h
          refine st_bald (k := ((I 53 8) + (I 53 10)).toNatClampNeg) (v := I 54 (((I 53 8) + (I 53 10)).toNatClampNeg)) dX12_isDigit_43 kd_54 g13 rfl rfl ?_
          refine op_bipush (v := 57) dX12_isDigit_44 (by decide) ?_
          refine op_icmp_gt (tgt := 53) dX12_isDigit_46 (by decide) (fun c14 => ?_) (fun c14 => ?_)
          · replace h := am_ip c14 h
            refine op_iconst (v := 0) dX12_isDigit_53 (by decide) ?_
            cases h
            exact (op_iret dX12_isDigit_54 rfl (by decide) ⟨rfl, rfl⟩)
          · replace h := am_ie c14 h
            refine op_iconst (v := 1) dX12_isDigit_49 (by decide) ?_
            refine op_goto (tgt := 54) dX12_isDigit_50 (by decide) ?_
            cases h
            exact (op_iret dX12_isDigit_54 rfl (by decide) ⟨rfl, rfl⟩)
        · replace h := am_ie c12 h
          obtain ⟨c12b, h⟩ := am_gd h
          refine st_rf c12b ?_
          obtain ⟨g15, h⟩ := am_gd h
          refine st_bald (k := ((I 53 8) + (I 53 10)).toNatClampNeg) (v := I 55 (((I 53 8) + (I 53 10)).toNatClampNeg)) dX12_isDigit_43 kd_55 g15 rfl rfl ?_
          refine op_bipush (v := 57) dX12_isDigit_44 (by decide) ?_
          refine op_icmp_gt (tgt := 53) dX12_isDigit_46 (by decide) (fun c16 => ?_) (fun c16 => ?_)
          · replace h := am_ip c16 h
            refine op_iconst (v := 0) dX12_isDigit_53 (by decide) ?_
            cases h
            exact (op_iret dX12_isDigit_54 rfl (by decide) ⟨rfl, rfl⟩)
          · replace h := am_ie c16 h
            refine op_iconst (v := 1) dX12_isDigit_49 (by decide) ?_
            refine op_goto (tgt := 54) dX12_isDigit_50 (by decide) ?_
            cases h
            exact (op_iret dX12_isDigit_54 rfl (by decide) ⟨rfl, rfl⟩)
theorem t_X12_isDigit {l : Launch} {ρ : am_R} {n d gc gs : Nat} {I : Nat → Nat → Int32} {J : Nat → Nat → Int64} {T : Nat} {q : Int32} (hd : 0 * n + 0 ≤ d) (h : f_X12_isDigit n I J T  = some q) : AW l ρ d M_X12_isDigit 0 [(0, .ref 53)] [] (am_KD, gc, gs) (I, J, am_RT T) (am_KD, gc, gs) (fun v H' => v = [.int q] ∧ H' = (I, J, am_RT T)) := t_X12_isDigit_0 hd h
def f_X12_fails (n : Nat) (I : Nat → Nat → Int32) (J : Nat → Nat → Int64) (T : Nat) : Option (Int32 × (Nat → Nat → Int32)) :=
  if (I 53 11) = ((-1)) then
   some (0, (am_u I 53 11 (I 53 10)))
  else
   some (0, I)
set_option maxRecDepth 100000 in
set_option maxHeartbeats 4000000 in
theorem t_X12_fails_0 {l : Launch} {ρ : am_R} {n d gc gs : Nat} {I : Nat → Nat → Int32} {J : Nat → Nat → Int64} {T : Nat} {q : Int32 × (Nat → Nat → Int32)} (hd : 0 * n + 0 ≤ d)
    (h : f_X12_fails n  I J T  = some q) : AW l ρ d M_X12_fails 0 [(0, .ref 53)] [] (am_KD, gc, gs) (I, J, am_RT T) (am_KD, gc, gs) (fun v H' => v = [.int q.1] ∧ H' = (q.2, J, am_RT T)) := by
  unfold f_X12_fails at h
  refine op_aload_n (k := 0) dX12_fails_0 rfl rfl ?_
  refine st_getI (v := I 53 11) dX12_fails_1 fl_X12_150 kd_53 (by decide) rfl rfl ?_
  refine op_iconst (v := (-1)) dX12_fails_4 (by decide) ?_
  refine op_icmp_ne (tgt := 16) dX12_fails_5 (by decide) (fun c1 => ?_) (fun c1 => ?_)
  · replace h := am_ie c1 h
    refine op_iconst (v := 0) dX12_fails_16 (by decide) ?_
    cases h
    exact (op_iret dX12_fails_17 rfl (by decide) ⟨rfl, rfl⟩)
  · replace h := am_ip c1 h
    refine op_aload_n (k := 0) dX12_fails_8 rfl rfl ?_
    refine op_aload_n (k := 0) dX12_fails_9 rfl rfl ?_
    refine st_getI (v := I 53 10) dX12_fails_10 fl_X12_141 kd_53 (by decide) rfl rfl ?_
    refine st_putI dX12_fails_13 fl_X12_150 kd_53 (by decide) rfl ?_
    refine op_iconst (v := 0) dX12_fails_16 (by decide) ?_
    cases h
    exact (op_iret dX12_fails_17 rfl (by decide) ⟨rfl, rfl⟩)
theorem t_X12_fails {l : Launch} {ρ : am_R} {n d gc gs : Nat} {I : Nat → Nat → Int32} {J : Nat → Nat → Int64} {T : Nat} {q : Int32 × (Nat → Nat → Int32)} (hd : 0 * n + 0 ≤ d) (h : f_X12_fails n I J T  = some q) : AW l ρ d M_X12_fails 0 [(0, .ref 53)] [] (am_KD, gc, gs) (I, J, am_RT T) (am_KD, gc, gs) (fun v H' => v = [.int q.1] ∧ H' = (q.2, J, am_RT T)) := t_X12_fails_0 hd h
def f_X12_goesIn (n : Nat) (I : Nat → Nat → Int32) (J : Nat → Nat → Int64) (T : Nat) : Option (Int32 × (Nat → Nat → Int32)) :=
  if (I 53 12) = 6 then
   (f_X12_fails n I J T).bind fun w2 =>
   if w2.1 = 0 ∨ w2.1 = 1 then
    some (w2.1, w2.2)
   else none
  else
   some (1, (am_u (am_u I 53 12 ((I 53 12) + 1)) 53 10 ((I 53 10) + 1)))
set_option maxRecDepth 100000 in
set_option maxHeartbeats 4000000 in
theorem t_X12_goesIn_0 {l : Launch} {ρ : am_R} {n d gc gs : Nat} {I : Nat → Nat → Int32} {J : Nat → Nat → Int64} {T : Nat} {q : Int32 × (Nat → Nat → Int32)} (hd : 0 * n + 1 ≤ (d + 1))
    (h : f_X12_goesIn n  I J T  = some q) : AW l ρ (d + 1) M_X12_goesIn 0 [(0, .ref 53)] [] (am_KD, gc, gs) (I, J, am_RT T) (am_KD, gc, gs) (fun v H' => v = [.int q.1] ∧ H' = (q.2, J, am_RT T)) := by
  unfold f_X12_goesIn at h
  refine op_aload_n (k := 0) dX12_goesIn_0 rfl rfl ?_
  refine st_getI (v := I 53 12) dX12_goesIn_1 fl_X12_153 kd_53 (by decide) rfl rfl ?_
  refine op_bipush (v := 6) dX12_goesIn_4 (by decide) ?_
  refine op_icmp_ne (tgt := 14) dX12_goesIn_6 (by decide) (fun c1 => ?_) (fun c1 => ?_)
  · replace h := am_ie c1 h
    refine op_aload_n (k := 0) dX12_goesIn_14 rfl rfl ?_
    refine op_dup dX12_goesIn_15 rfl ?_
    refine st_getI (v := I 53 12) dX12_goesIn_16 fl_X12_153 kd_53 (by decide) rfl rfl ?_
    refine op_iconst (v := 1) dX12_goesIn_19 (by decide) ?_
    refine op_iadd dX12_goesIn_20 ?_
    refine st_putI dX12_goesIn_21 fl_X12_153 kd_53 (by decide) rfl ?_
    refine op_aload_n (k := 0) dX12_goesIn_24 rfl rfl ?_
    refine op_dup dX12_goesIn_25 rfl ?_
    refine st_getI (v := I 53 10) dX12_goesIn_26 fl_X12_141 kd_53 (by decide) rfl rfl ?_
    refine op_iconst (v := 1) dX12_goesIn_29 (by decide) ?_
    refine op_iadd dX12_goesIn_30 ?_
    refine st_putI dX12_goesIn_31 fl_X12_141 kd_53 (by decide) rfl ?_
    refine op_iconst (v := 1) dX12_goesIn_34 (by decide) ?_
    cases h
    exact (op_iret dX12_goesIn_35 rfl (by decide) ⟨rfl, rfl⟩)
  · replace h := am_ip c1 h
    refine op_aload_n (k := 0) dX12_goesIn_9 rfl rfl ?_
    obtain ⟨w2, ew2, h⟩ := am_bd h
    refine op_callV (M' := M_X12_fails) [] (S0 := []) dX12_goesIn_10 tw_1409 ok_X12_fails tw_1411 tw_56 kd_53 cls_12 rfl rfl rfl (Nat.le_of_ble_eq_true rfl) (Nat.le_of_ble_eq_true rfl) (t_X12_fails (by omega) ew2) (am_le_rf _) ?_
    rintro _ _ ⟨rfl, rfl⟩
    obtain ⟨g3, h⟩ := am_gd h
    cases h
    exact (op_iret dX12_goesIn_13 rfl (am_zo g3) ⟨rfl, rfl⟩)
theorem t_X12_goesIn {l : Launch} {ρ : am_R} {n d gc gs : Nat} {I : Nat → Nat → Int32} {J : Nat → Nat → Int64} {T : Nat} {q : Int32 × (Nat → Nat → Int32)} (hd : 0 * n + 1 ≤ d) (h : f_X12_goesIn n I J T  = some q) : AW l ρ d M_X12_goesIn 0 [(0, .ref 53)] [] (am_KD, gc, gs) (I, J, am_RT T) (am_KD, gc, gs) (fun v H' => v = [.int q.1] ∧ H' = (q.2, J, am_RT T)) := by
  obtain ⟨d, rfl⟩ : ∃ e, d = e + 1 := ⟨d - 1, by omega⟩
  exact t_X12_goesIn_0 hd h
def f_X12_within (n : Nat) (I : Nat → Nat → Int32) (J : Nat → Nat → Int64) (T : Nat) (y0 : Int64) : Option (Int32) :=
  some ((am_maxL ((-1000000)) (am_minL 1000000 y0)).toInt32)
set_option maxRecDepth 100000 in
set_option maxHeartbeats 4000000 in
theorem t_X12_within_0 {l : Launch} {ρ : am_R} {n d gc gs : Nat} {I : Nat → Nat → Int32} {J : Nat → Nat → Int64} {T : Nat} {y0 : Int64} {q : Int32} (hd : 0 * n + 1 ≤ (d + 1))
    (h : f_X12_within n  I J T y0 = some q) : AW l ρ (d + 1) M_X12_within 0 [(0, .long y0)] [] (am_KD, gc, gs) (I, J, am_RT T) (am_KD, gc, gs) (fun v H' => v = [.int q] ∧ H' = (I, J, am_RT T)) := by
  unfold f_X12_within at h
  refine op_ldc2 dX12_within_0 tw_1544 ?_
  refine op_ldc2 dX12_within_3 tw_1545 ?_
  refine op_lload_n (k := 0) dX12_within_6 rfl rfl ?_
  refine op_mminL dX12_within_7 tw_1546 tw_844 tw_119 twl_845 (by simp [Value.category]) ⟨Nat.le_refl _, Nat.le_refl _⟩ ?_
  refine op_mmaxL dX12_within_10 tw_1547 tw_847 tw_119 twl_848 (by simp [Value.category]) ⟨Nat.le_refl _, Nat.le_refl _⟩ ?_
  refine op_l2i dX12_within_13 ?_
  cases h
  exact (op_iret dX12_within_14 rfl rfl ⟨rfl, rfl⟩)
theorem t_X12_within {l : Launch} {ρ : am_R} {n d gc gs : Nat} {I : Nat → Nat → Int32} {J : Nat → Nat → Int64} {T : Nat} {y0 : Int64} {q : Int32} (hd : 0 * n + 1 ≤ d) (h : f_X12_within n I J T y0 = some q) : AW l ρ d M_X12_within 0 [(0, .long y0)] [] (am_KD, gc, gs) (I, J, am_RT T) (am_KD, gc, gs) (fun v H' => v = [.int q] ∧ H' = (I, J, am_RT T)) := by
  obtain ⟨d, rfl⟩ : ∃ e, d = e + 1 := ⟨d - 1, by omega⟩
  exact t_X12_within_0 hd h
def f_X12_takes_16 (n : Nat) (I : Nat → Nat → Int32) (J : Nat → Nat → Int64) (T : Nat) : Option (Int32 × (Nat → Nat → Int32)) :=
  (f_X12_fails n I J T).bind fun w1 =>
  if w1.1 = 0 ∨ w1.1 = 1 then
   some (w1.1, w1.2)
  else none
def f_X12_takes (n : Nat) (I : Nat → Nat → Int32) (J : Nat → Nat → Int64) (T : Nat) (x1 : Int32) : Option (Int32 × (Nat → Nat → Int32)) :=
  if (I 53 11) = ((-1)) then
   (f_X12_look n I J T).bind fun w2 =>
   if w2.1 = x1 then
    some (1, (am_u w2.2 53 10 ((w2.2 53 10) + 1)))
   else
    f_X12_takes_16 n  w2.2 J T
  else
   f_X12_takes_16 n  I J T
set_option maxRecDepth 100000 in
set_option maxHeartbeats 4000000 in
theorem t_X12_takes_16 {l : Launch} {ρ : am_R} {n d gc gs : Nat} {I : Nat → Nat → Int32} {J : Nat → Nat → Int64} {T : Nat} {q : Int32 × (Nat → Nat → Int32)} (hd : 0 * n + 1 ≤ (d + 1))
    (h : f_X12_takes_16 n  I J T  = some q) : AW l ρ (d + 1) M_X12_takes 16 [(0, .ref 53)] [] (am_KD, gc, gs) (I, J, am_RT T) (am_KD, gc, gs) (fun v H' => v = [.int q.1] ∧ H' = (q.2, J, am_RT T)) := by
  unfold f_X12_takes_16 at h
  refine op_aload_n (k := 0) dX12_takes_16 rfl rfl ?_
  obtain ⟨w1, ew1, h⟩ := am_bd h
  refine op_callV (M' := M_X12_fails) [] (S0 := []) dX12_takes_17 tw_1409 ok_X12_fails tw_1411 tw_56 kd_53 cls_12 rfl rfl rfl (Nat.le_of_ble_eq_true rfl) (Nat.le_of_ble_eq_true rfl) (t_X12_fails (by omega) ew1) (am_le_rf _) ?_
  rintro _ _ ⟨rfl, rfl⟩
  obtain ⟨g2, h⟩ := am_gd h
  cases h
  exact (op_iret dX12_takes_20 rfl (am_zo g2) ⟨rfl, rfl⟩)
set_option maxRecDepth 100000 in
set_option maxHeartbeats 4000000 in
theorem t_X12_takes_0 {l : Launch} {ρ : am_R} {n d gc gs : Nat} {I : Nat → Nat → Int32} {J : Nat → Nat → Int64} {T : Nat} {x1 : Int32} {q : Int32 × (Nat → Nat → Int32)} (hd : 0 * n + 1 ≤ (d + 1))
    (h : f_X12_takes n  I J T x1 = some q) : AW l ρ (d + 1) M_X12_takes 0 [(0, .ref 53), (1, .int x1)] [] (am_KD, gc, gs) (I, J, am_RT T) (am_KD, gc, gs) (fun v H' => v = [.int q.1] ∧ H' = (q.2, J, am_RT T)) := by
  unfold f_X12_takes at h
  refine op_aload_n (k := 0) dX12_takes_0 rfl rfl ?_
  refine st_getI (v := I 53 11) dX12_takes_1 fl_X12_150 kd_53 (by decide) rfl rfl ?_
  refine op_iconst (v := (-1)) dX12_takes_4 (by decide) ?_
  refine op_icmp_ne (tgt := 16) dX12_takes_5 (by decide) (fun c1 => ?_) (fun c1 => ?_)
  · replace h := am_ie c1 h
    refine AW.perm [0] rfl ?_
    exact t_X12_takes_16 hd  h
  · replace h := am_ip c1 h
    refine op_aload_n (k := 0) dX12_takes_8 rfl rfl ?_
    obtain ⟨w2, ew2, h⟩ := am_bd h
    refine op_callV (M' := M_X12_look) [] (S0 := []) dX12_takes_9 tw_1405 ok_X12_look tw_1407 tw_55 kd_53 cls_12 rfl rfl rfl (Nat.le_of_ble_eq_true rfl) (Nat.le_of_ble_eq_true rfl) (t_X12_look (by omega) ew2) (am_le_rf _) ?_
    rintro _ _ ⟨rfl, rfl⟩
    refine op_iload_n (k := 1) dX12_takes_12 rfl rfl ?_
    refine op_icmp_eq (tgt := 21) dX12_takes_13 (by decide) (fun c3 => ?_) (fun c3 => ?_)
    · replace h := am_ip c3 h
      refine op_aload_n (k := 0) dX12_takes_21 rfl rfl ?_
      refine op_dup dX12_takes_22 rfl ?_
      refine st_getI (v := w2.2 53 10) dX12_takes_23 fl_X12_141 kd_53 (by decide) rfl rfl ?_
      refine op_iconst (v := 1) dX12_takes_26 (by decide) ?_
      refine op_iadd dX12_takes_27 ?_
      refine st_putI dX12_takes_28 fl_X12_141 kd_53 (by decide) rfl ?_
      refine op_iconst (v := 1) dX12_takes_31 (by decide) ?_
      cases h
      exact (op_iret dX12_takes_32 rfl (by decide) ⟨rfl, rfl⟩)
    · replace h := am_ie c3 h
      refine AW.perm [0] rfl ?_
      exact t_X12_takes_16 hd  h
theorem t_X12_takes {l : Launch} {ρ : am_R} {n d gc gs : Nat} {I : Nat → Nat → Int32} {J : Nat → Nat → Int64} {T : Nat} {x1 : Int32} {q : Int32 × (Nat → Nat → Int32)} (hd : 0 * n + 1 ≤ d) (h : f_X12_takes n I J T x1 = some q) : AW l ρ d M_X12_takes 0 [(0, .ref 53), (1, .int x1)] [] (am_KD, gc, gs) (I, J, am_RT T) (am_KD, gc, gs) (fun v H' => v = [.int q.1] ∧ H' = (q.2, J, am_RT T)) := by
  obtain ⟨d, rfl⟩ : ∃ e, d = e + 1 := ⟨d - 1, by omega⟩
  exact t_X12_takes_0 hd h
