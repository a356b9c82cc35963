def f_X12_term_87 (n : Nat) (rc_X12_term : (Nat → Nat → Int32) → (Nat → Nat → Int64) → Nat → Option (Int32 × (Nat → Nat → Int32))) (rc_X12_sum : (Nat → Nat → Int32) → (Nat → Nat → Int64) → Nat → Option (Int32 × (Nat → Nat → Int32))) (rc_X12_atom : (Nat → Nat → Int32) → (Nat → Nat → Int64) → Nat → Option (Int32 × (Nat → Nat → Int32))) (k5 : (Nat → Nat → Int32) → (Nat → Nat → Int64) → Nat → Int32 → Option (Int32 × (Nat → Nat → Int32))) (I : Nat → Nat → Int32) (J : Nat → Nat → Int64) (T : Nat) (z0 : Int64) : Option (Int32 × (Nat → Nat → Int32)) :=
  (f_X12_within n I J T z0).bind fun w1 =>
  k5 I J T w1
def f_X12_term_45 (n : Nat) (rc_X12_term : (Nat → Nat → Int32) → (Nat → Nat → Int64) → Nat → Option (Int32 × (Nat → Nat → Int32))) (rc_X12_sum : (Nat → Nat → Int32) → (Nat → Nat → Int64) → Nat → Option (Int32 × (Nat → Nat → Int32))) (rc_X12_atom : (Nat → Nat → Int32) → (Nat → Nat → Int64) → Nat → Option (Int32 × (Nat → Nat → Int32))) (k5 : (Nat → Nat → Int32) → (Nat → Nat → Int64) → Nat → Int32 → Option (Int32 × (Nat → Nat → Int32))) (I : Nat → Nat → Int32) (J : Nat → Nat → Int64) (T : Nat) (x1 : Int32) (s0 : Int32) : Option (Int32 × (Nat → Nat → Int32)) :=
  (rc_X12_atom ((am_u I 53 10 ((I 53 10) + 1))) J T).bind fun w1 =>
  if s0 = 0 then
   if (lg_cmp w1.1.toInt64 0) = 0 then
    f_X12_term_87 n rc_X12_term rc_X12_sum rc_X12_atom k5 w1.2 J T 0
   else
    if ¬ w1.1.toInt64 = 0 then
     f_X12_term_87 n rc_X12_term rc_X12_sum rc_X12_atom k5 w1.2 J T (x1.toInt64 / w1.1.toInt64)
    else none
  else
   f_X12_term_87 n rc_X12_term rc_X12_sum rc_X12_atom k5 w1.2 J T (x1.toInt64 * w1.1.toInt64)
def f_X12_term_31 (n : Nat) (rc_X12_term : (Nat → Nat → Int32) → (Nat → Nat → Int64) → Nat → Option (Int32 × (Nat → Nat → Int32))) (rc_X12_sum : (Nat → Nat → Int32) → (Nat → Nat → Int64) → Nat → Option (Int32 × (Nat → Nat → Int32))) (rc_X12_atom : (Nat → Nat → Int32) → (Nat → Nat → Int64) → Nat → Option (Int32 × (Nat → Nat → Int32))) (k5 : (Nat → Nat → Int32) → (Nat → Nat → Int64) → Nat → Int32 → Option (Int32 × (Nat → Nat → Int32))) (I : Nat → Nat → Int32) (J : Nat → Nat → Int64) (T : Nat) (x1 : Int32) : Option (Int32 × (Nat → Nat → Int32)) :=
  (f_X12_look n I J T).bind fun w1 =>
  if w1.1 = 42 then
   f_X12_term_45 n rc_X12_term rc_X12_sum rc_X12_atom k5 w1.2 J T x1 1
  else
   f_X12_term_45 n rc_X12_term rc_X12_sum rc_X12_atom k5 w1.2 J T x1 0
def f_X12_term_5 (n : Nat) (rc_X12_term : (Nat → Nat → Int32) → (Nat → Nat → Int64) → Nat → Option (Int32 × (Nat → Nat → Int32))) (rc_X12_sum : (Nat → Nat → Int32) → (Nat → Nat → Int64) → Nat → Option (Int32 × (Nat → Nat → Int32))) (rc_X12_atom : (Nat → Nat → Int32) → (Nat → Nat → Int64) → Nat → Option (Int32 × (Nat → Nat → Int32))) : Nat → (Nat → Nat → Int32) → (Nat → Nat → Int64) → Nat → Int32 → Option (Int32 × (Nat → Nat → Int32))
  | 0, _, _, _, _ => none
  | m + 1, I, J, T, x1 =>
    if (I 53 11) = ((-1)) then
     (f_X12_look n I J T).bind fun w2 =>
     if w2.1 = 42 then
      f_X12_term_31 n rc_X12_term rc_X12_sum rc_X12_atom (f_X12_term_5 n rc_X12_term rc_X12_sum rc_X12_atom m) w2.2 J T x1
     else
      (f_X12_look n w2.2 J T).bind fun w4 =>
      if w4.1 = 47 then
       f_X12_term_31 n rc_X12_term rc_X12_sum rc_X12_atom (f_X12_term_5 n rc_X12_term rc_X12_sum rc_X12_atom m) w4.2 J T x1
      else
       some (x1, w4.2)
    else
     some (x1, I)
def fb_X12_term (n : Nat) (rc_X12_term : (Nat → Nat → Int32) → (Nat → Nat → Int64) → Nat → Option (Int32 × (Nat → Nat → Int32))) (rc_X12_sum : (Nat → Nat → Int32) → (Nat → Nat → Int64) → Nat → Option (Int32 × (Nat → Nat → Int32))) (rc_X12_atom : (Nat → Nat → Int32) → (Nat → Nat → Int64) → Nat → Option (Int32 × (Nat → Nat → Int32))) (I : Nat → Nat → Int32) (J : Nat → Nat → Int64) (T : Nat) : Option (Int32 × (Nat → Nat → Int32)) :=
  (rc_X12_atom I J T).bind fun w1 =>
  f_X12_term_5 n rc_X12_term rc_X12_sum rc_X12_atom n w1.2 J T w1.1
def f_X12_sum_77 (n : Nat) (rc_X12_term : (Nat → Nat → Int32) → (Nat → Nat → Int64) → Nat → Option (Int32 × (Nat → Nat → Int32))) (rc_X12_sum : (Nat → Nat → Int32) → (Nat → Nat → Int64) → Nat → Option (Int32 × (Nat → Nat → Int32))) (rc_X12_atom : (Nat → Nat → Int32) → (Nat → Nat → Int64) → Nat → Option (Int32 × (Nat → Nat → Int32))) (k5 : (Nat → Nat → Int32) → (Nat → Nat → Int64) → Nat → Int32 → Option (Int32 × (Nat → Nat → Int32))) (I : Nat → Nat → Int32) (J : Nat → Nat → Int64) (T : Nat) (z0 : Int64) : Option (Int32 × (Nat → Nat → Int32)) :=
  (f_X12_within n I J T z0).bind fun w1 =>
  k5 I J T w1
def f_X12_sum_45 (n : Nat) (rc_X12_term : (Nat → Nat → Int32) → (Nat → Nat → Int64) → Nat → Option (Int32 × (Nat → Nat → Int32))) (rc_X12_sum : (Nat → Nat → Int32) → (Nat → Nat → Int64) → Nat → Option (Int32 × (Nat → Nat → Int32))) (rc_X12_atom : (Nat → Nat → Int32) → (Nat → Nat → Int64) → Nat → Option (Int32 × (Nat → Nat → Int32))) (k5 : (Nat → Nat → Int32) → (Nat → Nat → Int64) → Nat → Int32 → Option (Int32 × (Nat → Nat → Int32))) (I : Nat → Nat → Int32) (J : Nat → Nat → Int64) (T : Nat) (x1 : Int32) (s0 : Int32) : Option (Int32 × (Nat → Nat → Int32)) :=
  (rc_X12_term ((am_u I 53 10 ((I 53 10) + 1))) J T).bind fun w1 =>
  if s0 = 0 then
   f_X12_sum_77 n rc_X12_term rc_X12_sum rc_X12_atom k5 w1.2 J T (x1.toInt64 - w1.1.toInt64)
  else
   f_X12_sum_77 n rc_X12_term rc_X12_sum rc_X12_atom k5 w1.2 J T (x1.toInt64 + w1.1.toInt64)
def f_X12_sum_31 (n : Nat) (rc_X12_term : (Nat → Nat → Int32) → (Nat → Nat → Int64) → Nat → Option (Int32 × (Nat → Nat → Int32))) (rc_X12_sum : (Nat → Nat → Int32) → (Nat → Nat → Int64) → Nat → Option (Int32 × (Nat → Nat → Int32))) (rc_X12_atom : (Nat → Nat → Int32) → (Nat → Nat → Int64) → Nat → Option (Int32 × (Nat → Nat → Int32))) (k5 : (Nat → Nat → Int32) → (Nat → Nat → Int64) → Nat → Int32 → Option (Int32 × (Nat → Nat → Int32))) (I : Nat → Nat → Int32) (J : Nat → Nat → Int64) (T : Nat) (x1 : Int32) : Option (Int32 × (Nat → Nat → Int32)) :=
  (f_X12_look n I J T).bind fun w1 =>
  if w1.1 = 43 then
   f_X12_sum_45 n rc_X12_term rc_X12_sum rc_X12_atom k5 w1.2 J T x1 1
  else
   f_X12_sum_45 n rc_X12_term rc_X12_sum rc_X12_atom k5 w1.2 J T x1 0
def f_X12_sum_5 (n : Nat) (rc_X12_term : (Nat → Nat → Int32) → (Nat → Nat → Int64) → Nat → Option (Int32 × (Nat → Nat → Int32))) (rc_X12_sum : (Nat → Nat → Int32) → (Nat → Nat → Int64) → Nat → Option (Int32 × (Nat → Nat → Int32))) (rc_X12_atom : (Nat → Nat → Int32) → (Nat → Nat → Int64) → Nat → Option (Int32 × (Nat → Nat → Int32))) : Nat → (Nat → Nat → Int32) → (Nat → Nat → Int64) → Nat → Int32 → Option (Int32 × (Nat → Nat → Int32))
  | 0, _, _, _, _ => none
  | m + 1, I, J, T, x1 =>
    if (I 53 11) = ((-1)) then
     (f_X12_look n I J T).bind fun w2 =>
     if w2.1 = 43 then
      f_X12_sum_31 n rc_X12_term rc_X12_sum rc_X12_atom (f_X12_sum_5 n rc_X12_term rc_X12_sum rc_X12_atom m) w2.2 J T x1
     else
      (f_X12_look n w2.2 J T).bind fun w4 =>
      if w4.1 = 45 then
       f_X12_sum_31 n rc_X12_term rc_X12_sum rc_X12_atom (f_X12_sum_5 n rc_X12_term rc_X12_sum rc_X12_atom m) w4.2 J T x1
      else
       some (x1, w4.2)
    else
     some (x1, I)
def fb_X12_sum (n : Nat) (rc_X12_term : (Nat → Nat → Int32) → (Nat → Nat → Int64) → Nat → Option (Int32 × (Nat → Nat → Int32))) (rc_X12_sum : (Nat → Nat → Int32) → (Nat → Nat → Int64) → Nat → Option (Int32 × (Nat → Nat → Int32))) (rc_X12_atom : (Nat → Nat → Int32) → (Nat → Nat → Int64) → Nat → Option (Int32 × (Nat → Nat → Int32))) (I : Nat → Nat → Int32) (J : Nat → Nat → Int64) (T : Nat) : Option (Int32 × (Nat → Nat → Int32)) :=
  (rc_X12_term I J T).bind fun w1 =>
  f_X12_sum_5 n rc_X12_term rc_X12_sum rc_X12_atom n w1.2 J T w1.1
def f_X12_atom_90 (n : Nat) (rc_X12_term : (Nat → Nat → Int32) → (Nat → Nat → Int64) → Nat → Option (Int32 × (Nat → Nat → Int32))) (rc_X12_sum : (Nat → Nat → Int32) → (Nat → Nat → Int64) → Nat → Option (Int32 × (Nat → Nat → Int32))) (rc_X12_atom : (Nat → Nat → Int32) → (Nat → Nat → Int64) → Nat → Option (Int32 × (Nat → Nat → Int32))) : Nat → (Nat → Nat → Int32) → (Nat → Nat → Int64) → Nat → Int32 → Int32 → Option (Int32 × (Nat → Nat → Int32))
  | 0, _, _, _, _, _ => none
  | m + 1, I, J, T, x2, x3 =>
    (f_X12_isDigit n I J T).bind fun w1 =>
    if w1 = 0 then
     some (x2, I)
    else
     if (I 53 11) = ((-1)) then
      if x3 = 4 then
       (f_X12_fails n I J T).bind fun w8 =>
       some (0, w8.2)
      else
       if T = 54 then
        if ok_ix ((I 53 8) + (I 53 10)) 160 then
         f_X12_atom_90 n rc_X12_term rc_X12_sum rc_X12_atom m ((am_u I 53 10 ((I 53 10) + 1))) J T (((10 * x2) + (I 54 (((I 53 8) + (I 53 10)).toNatClampNeg))) - 48) (x3 + 1)
        else none
       else if T = 55 then
        if ok_ix ((I 53 8) + (I 53 10)) 640 then
         f_X12_atom_90 n rc_X12_term rc_X12_sum rc_X12_atom m ((am_u I 53 10 ((I 53 10) + 1))) J T (((10 * x2) + (I 55 (((I 53 8) + (I 53 10)).toNatClampNeg))) - 48) (x3 + 1)
        else none
       else none
     else
      some (x2, I)
def f_X12_atom_86 (n : Nat) (rc_X12_term : (Nat → Nat → Int32) → (Nat → Nat → Int64) → Nat → Option (Int32 × (Nat → Nat → Int32))) (rc_X12_sum : (Nat → Nat → Int32) → (Nat → Nat → Int64) → Nat → Option (Int32 × (Nat → Nat → Int32))) (rc_X12_atom : (Nat → Nat → Int32) → (Nat → Nat → Int64) → Nat → Option (Int32 × (Nat → Nat → Int32))) (I : Nat → Nat → Int32) (J : Nat → Nat → Int64) (T : Nat) : Option (Int32 × (Nat → Nat → Int32)) :=
  f_X12_atom_90 n rc_X12_term rc_X12_sum rc_X12_atom n I J T 0 0
def fb_X12_atom (n : Nat) (rc_X12_term : (Nat → Nat → Int32) → (Nat → Nat → Int64) → Nat → Option (Int32 × (Nat → Nat → Int32))) (rc_X12_sum : (Nat → Nat → Int32) → (Nat → Nat → Int64) → Nat → Option (Int32 × (Nat → Nat → Int32))) (rc_X12_atom : (Nat → Nat → Int32) → (Nat → Nat → Int64) → Nat → Option (Int32 × (Nat → Nat → Int32))) (I : Nat → Nat → Int32) (J : Nat → Nat → Int64) (T : Nat) : Option (Int32 × (Nat → Nat → Int32)) :=
  (f_X12_look n I J T).bind fun w1 =>
  (f_X12_isAmong n w1.2 J T 1 w1.1).bind fun w2 =>
  if w2 = 0 then
   if w1.1 = 91 then
    (f_X12_goesIn n w1.2 J T).bind fun w8 =>
    if w8.1 = 0 then
     some (0, w8.2)
    else
     (rc_X12_sum w8.2 J T).bind fun w10 =>
     (f_X12_takes n w10.2 J T 93).bind fun w11 =>
     if w11.1 = 0 then
      some (0, w11.2)
     else
      some (w10.1, (am_u w11.2 53 12 ((w11.2 53 12) - 1)))
   else
    (f_X12_isDigit n w1.2 J T).bind fun w5 =>
    if w5 = 0 then
     (f_X12_fails n w1.2 J T).bind fun w7 =>
     f_X12_atom_86 n rc_X12_term rc_X12_sum rc_X12_atom w7.2 J T
    else
     f_X12_atom_86 n rc_X12_term rc_X12_sum rc_X12_atom w1.2 J T
  else
   if ok_ix w1.1 128 then
    some (w1.2 57 w1.1.toNatClampNeg, (am_u w1.2 53 10 ((w1.2 53 10) + 1)))
   else none
def fx_X12_term (n : Nat) : Nat → ((Nat → Nat → Int32) → (Nat → Nat → Int64) → Nat → Option (Int32 × (Nat → Nat → Int32))) × ((Nat → Nat → Int32) → (Nat → Nat → Int64) → Nat → Option (Int32 × (Nat → Nat → Int32))) × ((Nat → Nat → Int32) → (Nat → Nat → Int64) → Nat → Option (Int32 × (Nat → Nat → Int32)))
  | 0 => (fun _ _ _ => none, fun _ _ _ => none, fun _ _ _ => none)
  | r + 1 => (fb_X12_term n (fx_X12_term n r).1 (fx_X12_term n r).2.1 (fx_X12_term n r).2.2, fb_X12_sum n (fx_X12_term n r).1 (fx_X12_term n r).2.1 (fx_X12_term n r).2.2, fb_X12_atom n (fx_X12_term n r).1 (fx_X12_term n r).2.1 (fx_X12_term n r).2.2)
def f_X12_term (n : Nat) : (Nat → Nat → Int32) → (Nat → Nat → Int64) → Nat → Option (Int32 × (Nat → Nat → Int32)) := (fx_X12_term n n).1
def f_X12_sum (n : Nat) : (Nat → Nat → Int32) → (Nat → Nat → Int64) → Nat → Option (Int32 × (Nat → Nat → Int32)) := (fx_X12_term n n).2.1
def f_X12_atom (n : Nat) : (Nat → Nat → Int32) → (Nat → Nat → Int64) → Nat → Option (Int32 × (Nat → Nat → Int32)) := (fx_X12_term n n).2.2
set_option maxRecDepth 100000 in
set_option maxHeartbeats 4000000 in
theorem t_X12_term_87 {l : Launch} {ρ : am_R} {n d gc gs : Nat} {rc_X12_term : (Nat → Nat → Int32) → (Nat → Nat → Int64) → Nat → Option (Int32 × (Nat → Nat → Int32))} {rc_X12_sum : (Nat → Nat → Int32) → (Nat → Nat → Int64) → Nat → Option (Int32 × (Nat → Nat → Int32))} {rc_X12_atom : (Nat → Nat → Int32) → (Nat → Nat → Int64) → Nat → Option (Int32 × (Nat → Nat → Int32))} {k5 : (Nat → Nat → Int32) → (Nat → Nat → Int64) → Nat → Int32 → Option (Int32 × (Nat → Nat → Int32))} {I : Nat → Nat → Int32} {J : Nat → Nat → Int64} {T : Nat} {z0 : Int64} {q : Int32 × (Nat → Nat → Int32)} (hd : 0 * n + 5 ≤ (d + 1))
    (hr_X12_term : ∀ (I : Nat → Nat → Int32) (J : Nat → Nat → Int64) (T : Nat) (q : Int32 × (Nat → Nat → Int32)) (gc gs : Nat), rc_X12_term I J T  = some q → AW l ρ d M_X12_term 0 [(0, .ref 53)] [] (am_KD, gc, gs) (I, J, am_RT T) (am_KD, gc, gs) (fun v H' => v = [.int q.1] ∧ H' = (q.2, J, am_RT T)))
    (hr_X12_sum : ∀ (I : Nat → Nat → Int32) (J : Nat → Nat → Int64) (T : Nat) (q : Int32 × (Nat → Nat → Int32)) (gc gs : Nat), rc_X12_sum I J T  = some q → AW l ρ d M_X12_sum 0 [(0, .ref 53)] [] (am_KD, gc, gs) (I, J, am_RT T) (am_KD, gc, gs) (fun v H' => v = [.int q.1] ∧ H' = (q.2, J, am_RT T)))
    (hr_X12_atom : ∀ (I : Nat → Nat → Int32) (J : Nat → Nat → Int64) (T : Nat) (q : Int32 × (Nat → Nat → Int32)) (gc gs : Nat), rc_X12_atom I J T  = some q → AW l ρ d M_X12_atom 0 [(0, .ref 53)] [] (am_KD, gc, gs) (I, J, am_RT T) (am_KD, gc, gs) (fun v H' => v = [.int q.1] ∧ H' = (q.2, J, am_RT T)))
    (hk5 : ∀ (I : Nat → Nat → Int32) (J : Nat → Nat → Int64) (T : Nat) (x1 : Int32), k5 I J T x1 = some q → AW l ρ (d + 1) M_X12_term 5 [(0, .ref 53), (1, .int x1)] [] (am_KD, gc, gs) (I, J, am_RT T) (am_KD, gc, gs) (fun v H' => v = [.int q.1] ∧ H' = (q.2, J, am_RT T)))
    (h : f_X12_term_87 n rc_X12_term rc_X12_sum rc_X12_atom k5 I J T z0 = some q) : AW l ρ (d + 1) M_X12_term 87 [(0, .ref 53)] [.long z0] (am_KD, gc, gs) (I, J, am_RT T) (am_KD, gc, gs) (fun v H' => v = [.int q.1] ∧ H' = (q.2, J, am_RT T)) := by
  unfold f_X12_term_87 at h
  obtain ⟨w1, ew1, h⟩ := am_bd h
  refine op_callS (M' := M_X12_within) [.long z0] (S0 := []) dX12_term_87 tw_1541 ok_X12_within tw_1542 rfl rfl (Nat.le_of_ble_eq_true rfl) (Nat.le_of_ble_eq_true rfl) (t_X12_within (by omega) ew1) (am_le_rf _) ?_
  rintro _ _ ⟨rfl, rfl⟩
  refine op_istore_n (L' := [(1, .int w1), (0, .ref 53)]) dX12_term_90 rfl (by decide) rfl ?_
  refine op_goto (tgt := 5) dX12_term_91 (by decide) ?_
  refine AW.perm [1, 0] rfl ?_
  exact hk5 _ _ _ _ h
set_option maxRecDepth 100000 in
set_option maxHeartbeats 4000000 in
theorem t_X12_term_45 {l : Launch} {ρ : am_R} {n d gc gs : Nat} {rc_X12_term : (Nat → Nat → Int32) → (Nat → Nat → Int64) → Nat → Option (Int32 × (Nat → Nat → Int32))} {rc_X12_sum : (Nat → Nat → Int32) → (Nat → Nat → Int64) → Nat → Option (Int32 × (Nat → Nat → Int32))} {rc_X12_atom : (Nat → Nat → Int32) → (Nat → Nat → Int64) → Nat → Option (Int32 × (Nat → Nat → Int32))} {k5 : (Nat → Nat → Int32) → (Nat → Nat → Int64) → Nat → Int32 → Option (Int32 × (Nat → Nat → Int32))} {I : Nat → Nat → Int32} {J : Nat → Nat → Int64} {T : Nat} {x1 : Int32} {s0 : Int32} {q : Int32 × (Nat → Nat → Int32)} (hd : 0 * n + 5 ≤ (d + 1))
    (hr_X12_term : ∀ (I : Nat → Nat → Int32) (J : Nat → Nat → Int64) (T : Nat) (q : Int32 × (Nat → Nat → Int32)) (gc gs : Nat), rc_X12_term I J T  = some q → AW l ρ d M_X12_term 0 [(0, .ref 53)] [] (am_KD, gc, gs) (I, J, am_RT T) (am_KD, gc, gs) (fun v H' => v = [.int q.1] ∧ H' = (q.2, J, am_RT T)))
    (hr_X12_sum : ∀ (I : Nat → Nat → Int32) (J : Nat → Nat → Int64) (T : Nat) (q : Int32 × (Nat → Nat → Int32)) (gc gs : Nat), rc_X12_sum I J T  = some q → AW l ρ d M_X12_sum 0 [(0, .ref 53)] [] (am_KD, gc, gs) (I, J, am_RT T) (am_KD, gc, gs) (fun v H' => v = [.int q.1] ∧ H' = (q.2, J, am_RT T)))
    (hr_X12_atom : ∀ (I : Nat → Nat → Int32) (J : Nat → Nat → Int64) (T : Nat) (q : Int32 × (Nat → Nat → Int32)) (gc gs : Nat), rc_X12_atom I J T  = some q → AW l ρ d M_X12_atom 0 [(0, .ref 53)] [] (am_KD, gc, gs) (I, J, am_RT T) (am_KD, gc, gs) (fun v H' => v = [.int q.1] ∧ H' = (q.2, J, am_RT T)))
    (hk5 : ∀ (I : Nat → Nat → Int32) (J : Nat → Nat → Int64) (T : Nat) (x1 : Int32), k5 I J T x1 = some q → AW l ρ (d + 1) M_X12_term 5 [(0, .ref 53), (1, .int x1)] [] (am_KD, gc, gs) (I, J, am_RT T) (am_KD, gc, gs) (fun v H' => v = [.int q.1] ∧ H' = (q.2, J, am_RT T)))
    (h : f_X12_term_45 n rc_X12_term rc_X12_sum rc_X12_atom k5 I J T x1 s0 = some q) : AW l ρ (d + 1) M_X12_term 45 [(0, .ref 53), (1, .int x1)] [.int s0] (am_KD, gc, gs) (I, J, am_RT T) (am_KD, gc, gs) (fun v H' => v = [.int q.1] ∧ H' = (q.2, J, am_RT T)) := by
  unfold f_X12_term_45 at h
  refine op_istore_n (L' := [(2, .int s0), (0, .ref 53), (1, .int x1)]) dX12_term_45 rfl (by decide) rfl ?_
  refine op_aload_n (k := 1) dX12_term_46 rfl rfl ?_
  refine op_dup dX12_term_47 rfl ?_
  refine st_getI (v := I 53 10) dX12_term_48 fl_X12_141 kd_53 (by decide) rfl rfl ?_
  refine op_iconst (v := 1) dX12_term_51 (by decide) ?_
  refine op_iadd dX12_term_52 ?_
  refine st_putI dX12_term_53 fl_X12_141 kd_53 (by decide) rfl ?_
  refine op_aload_n (k := 1) dX12_term_56 rfl rfl ?_
  obtain ⟨w1, ew1, h⟩ := am_bd h
  refine op_callV (M' := M_X12_atom) [] (S0 := []) dX12_term_57 tw_1533 ok_X12_atom tw_1535 tw_72 kd_53 cls_12 rfl rfl rfl (Nat.le_of_ble_eq_true rfl) (Nat.le_of_ble_eq_true rfl) (hr_X12_atom _ _ _ _ _ _ ew1) (am_le_rf _) ?_
  rintro _ _ ⟨rfl, rfl⟩
  refine op_i2l dX12_term_60 ?_
  refine op_lstore_n (L' := [(3, .long w1.1.toInt64), (2, .int s0), (0, .ref 53), (1, .int x1)]) dX12_term_61 rfl (by decide) rfl ?_
  refine op_iload_n (k := 1) dX12_term_62 rfl rfl ?_
  refine op_if_eq (tgt := 73) dX12_term_63 (by decide) (fun c2 => ?_) (fun c2 => ?_)
  · replace h := am_ip c2 h
    refine op_lload_n (k := 0) dX12_term_73 rfl rfl ?_
    refine op_lconst (v := 0) dX12_term_74 (by decide) ?_
    refine op_lcmp dX12_term_75 ?_
    refine op_if_ne (tgt := 83) dX12_term_76 (by decide) (fun c3 => ?_) (fun c3 => ?_)
    · replace h := am_ie c3 h
      refine op_iload_n (k := 3) dX12_term_83 rfl rfl ?_
      refine op_i2l dX12_term_84 ?_
      refine op_lload_n (k := 0) dX12_term_85 rfl rfl ?_
      obtain ⟨g4, h⟩ := am_gd h
      refine op_ldiv dX12_term_86 g4 ?_
      refine AW.perm [2] rfl ?_
      exact t_X12_term_87 hd hr_X12_term hr_X12_sum hr_X12_atom hk5 h
    · replace h := am_ip c3 h
      refine op_lconst (v := 0) dX12_term_79 (by decide) ?_
      refine op_goto (tgt := 87) dX12_term_80 (by decide) ?_
      refine AW.perm [2] rfl ?_
      exact t_X12_term_87 hd hr_X12_term hr_X12_sum hr_X12_atom hk5 h
  · replace h := am_ie c2 h
    refine op_iload_n (k := 3) dX12_term_66 rfl rfl ?_
    refine op_i2l dX12_term_67 ?_
    refine op_lload_n (k := 0) dX12_term_68 rfl rfl ?_
    refine op_lmul dX12_term_69 ?_
    refine op_goto (tgt := 87) dX12_term_70 (by decide) ?_
    refine AW.perm [2] rfl ?_
    exact t_X12_term_87 hd hr_X12_term hr_X12_sum hr_X12_atom hk5 h
set_option maxRecDepth 100000 in
set_option maxHeartbeats 4000000 in
theorem t_X12_term_31 {l : Launch} {ρ : am_R} {n d gc gs : Nat} {rc_X12_term : (Nat → Nat → Int32) → (Nat → Nat → Int64) → Nat → Option (Int32 × (Nat → Nat → Int32))} {rc_X12_sum : (Nat → Nat → Int32) → (Nat → Nat → Int64) → Nat → Option (Int32 × (Nat → Nat → Int32))} {rc_X12_atom : (Nat → Nat → Int32) → (Nat → Nat → Int64) → Nat → Option (Int32 × (Nat → Nat → Int32))} {k5 : (Nat → Nat → Int32) → (Nat → Nat → Int64) → Nat → Int32 → Option (Int32 × (Nat → Nat → Int32))} {I : Nat → Nat → Int32} {J : Nat → Nat → Int64} {T : Nat} {x1 : Int32} {q : Int32 × (Nat → Nat → Int32)} (hd : 0 * n + 5 ≤ (d + 1))
    (hr_X12_term : ∀ (I : Nat → Nat → Int32) (J : Nat → Nat → Int64) (T : Nat) (q : Int32 × (Nat → Nat → Int32)) (gc gs : Nat), rc_X12_term I J T  = some q → AW l ρ d M_X12_term 0 [(0, .ref 53)] [] (am_KD, gc, gs) (I, J, am_RT T) (am_KD, gc, gs) (fun v H' => v = [.int q.1] ∧ H' = (q.2, J, am_RT T)))
    (hr_X12_sum : ∀ (I : Nat → Nat → Int32) (J : Nat → Nat → Int64) (T : Nat) (q : Int32 × (Nat → Nat → Int32)) (gc gs : Nat), rc_X12_sum I J T  = some q → AW l ρ d M_X12_sum 0 [(0, .ref 53)] [] (am_KD, gc, gs) (I, J, am_RT T) (am_KD, gc, gs) (fun v H' => v = [.int q.1] ∧ H' = (q.2, J, am_RT T)))
    (hr_X12_atom : ∀ (I : Nat → Nat → Int32) (J : Nat → Nat → Int64) (T : Nat) (q : Int32 × (Nat → Nat → Int32)) (gc gs : Nat), rc_X12_atom I J T  = some q → AW l ρ d M_X12_atom 0 [(0, .ref 53)] [] (am_KD, gc, gs) (I, J, am_RT T) (am_KD, gc, gs) (fun v H' => v = [.int q.1] ∧ H' = (q.2, J, am_RT T)))
    (hk5 : ∀ (I : Nat → Nat → Int32) (J : Nat → Nat → Int64) (T : Nat) (x1 : Int32), k5 I J T x1 = some q → AW l ρ (d + 1) M_X12_term 5 [(0, .ref 53), (1, .int x1)] [] (am_KD, gc, gs) (I, J, am_RT T) (am_KD, gc, gs) (fun v H' => v = [.int q.1] ∧ H' = (q.2, J, am_RT T)))
    (h : f_X12_term_31 n rc_X12_term rc_X12_sum rc_X12_atom k5 I J T x1 = some q) : AW l ρ (d + 1) M_X12_term 31 [(0, .ref 53), (1, .int x1)] [] (am_KD, gc, gs) (I, J, am_RT T) (am_KD, gc, gs) (fun v H' => v = [.int q.1] ∧ H' = (q.2, J, am_RT T)) := by
  unfold f_X12_term_31 at h
  refine op_aload_n (k := 0) dX12_term_31 rfl rfl ?_
  obtain ⟨w1, ew1, h⟩ := am_bd h
  refine op_callV (M' := M_X12_look) [] (S0 := []) dX12_term_32 tw_1405 ok_X12_look tw_1407 tw_55 kd_53 cls_12 rfl rfl rfl (Nat.le_of_ble_eq_true rfl) (Nat.le_of_ble_eq_true rfl) (t_X12_look (by omega) ew1) (am_le_rf _) ?_
  rintro _ _ ⟨rfl, rfl⟩
  refine op_bipush (v := 42) dX12_term_35 (by decide) ?_
  refine op_icmp_ne (tgt := 44) dX12_term_37 (by decide) (fun c2 => ?_) (fun c2 => ?_)
  · replace h := am_ie c2 h
    refine op_iconst (v := 0) dX12_term_44 (by decide) ?_
    exact t_X12_term_45 hd hr_X12_term hr_X12_sum hr_X12_atom hk5 h
  · replace h := am_ip c2 h
    refine op_iconst (v := 1) dX12_term_40 (by decide) ?_
    refine op_goto (tgt := 45) dX12_term_41 (by decide) ?_
    exact t_X12_term_45 hd hr_X12_term hr_X12_sum hr_X12_atom hk5 h
set_option maxRecDepth 100000 in
set_option maxHeartbeats 4000000 in
theorem t_X12_term_5 {l : Launch} {ρ : am_R} {n d gc gs : Nat} {rc_X12_term : (Nat → Nat → Int32) → (Nat → Nat → Int64) → Nat → Option (Int32 × (Nat → Nat → Int32))} {rc_X12_sum : (Nat → Nat → Int32) → (Nat → Nat → Int64) → Nat → Option (Int32 × (Nat → Nat → Int32))} {rc_X12_atom : (Nat → Nat → Int32) → (Nat → Nat → Int64) → Nat → Option (Int32 × (Nat → Nat → Int32))} {q : Int32 × (Nat → Nat → Int32)} (hd : 0 * n + 5 ≤ (d + 1))
    (hr_X12_term : ∀ (I : Nat → Nat → Int32) (J : Nat → Nat → Int64) (T : Nat) (q : Int32 × (Nat → Nat → Int32)) (gc gs : Nat), rc_X12_term I J T  = some q → AW l ρ d M_X12_term 0 [(0, .ref 53)] [] (am_KD, gc, gs) (I, J, am_RT T) (am_KD, gc, gs) (fun v H' => v = [.int q.1] ∧ H' = (q.2, J, am_RT T)))
    (hr_X12_sum : ∀ (I : Nat → Nat → Int32) (J : Nat → Nat → Int64) (T : Nat) (q : Int32 × (Nat → Nat → Int32)) (gc gs : Nat), rc_X12_sum I J T  = some q → AW l ρ d M_X12_sum 0 [(0, .ref 53)] [] (am_KD, gc, gs) (I, J, am_RT T) (am_KD, gc, gs) (fun v H' => v = [.int q.1] ∧ H' = (q.2, J, am_RT T)))
    (hr_X12_atom : ∀ (I : Nat → Nat → Int32) (J : Nat → Nat → Int64) (T : Nat) (q : Int32 × (Nat → Nat → Int32)) (gc gs : Nat), rc_X12_atom I J T  = some q → AW l ρ d M_X12_atom 0 [(0, .ref 53)] [] (am_KD, gc, gs) (I, J, am_RT T) (am_KD, gc, gs) (fun v H' => v = [.int q.1] ∧ H' = (q.2, J, am_RT T)))
    : ∀ (m : Nat) (I : Nat → Nat → Int32) (J : Nat → Nat → Int64) (T : Nat) (x1 : Int32), f_X12_term_5 n rc_X12_term rc_X12_sum rc_X12_atom m I J T x1 = some q → AW l ρ (d + 1) M_X12_term 5 [(0, .ref 53), (1, .int x1)] [] (am_KD, gc, gs) (I, J, am_RT T) (am_KD, gc, gs) (fun v H' => v = [.int q.1] ∧ H' = (q.2, J, am_RT T)) := by
  intro m
  induction m with
  | zero =>
    intro I J T x1 h
    rw [f_X12_term_5] at h
    cases h
  | succ m ih =>
    intro I J T x1 h
    rw [f_X12_term_5] at h
    refine op_aload_n (k := 0) dX12_term_5 rfl rfl ?_
    refine st_getI (v := I 53 11) dX12_term_6 fl_X12_150 kd_53 (by decide) rfl rfl ?_
    refine op_iconst (v := (-1)) dX12_term_9 (by decide) ?_
    refine op_icmp_ne (tgt := 94) dX12_term_10 (by decide) (fun c1 => ?_) (fun c1 => ?_)
    · replace h := am_ie c1 h
      refine op_iload_n (k := 1) dX12_term_94 rfl rfl ?_
      cases h
      exact (op_iret dX12_term_95 rfl rfl ⟨rfl, rfl⟩)
    · replace h := am_ip c1 h
      refine op_aload_n (k := 0) dX12_term_13 rfl rfl ?_
      obtain ⟨w2, ew2, h⟩ := am_bd h
      refine op_callV (M' := M_X12_look) [] (S0 := []) dX12_term_14 tw_1405 ok_X12_look tw_1407 tw_55 kd_53 cls_12 rfl rfl rfl (Nat.le_of_ble_eq_true rfl) (Nat.le_of_ble_eq_true rfl) (t_X12_look (by omega) ew2) (am_le_rf _) ?_
      rintro _ _ ⟨rfl, rfl⟩
      refine op_bipush (v := 42) dX12_term_17 (by decide) ?_
      refine op_icmp_eq (tgt := 31) dX12_term_19 (by decide) (fun c3 => ?_) (fun c3 => ?_)
      · replace h := am_ip c3 h
        exact t_X12_term_31 hd hr_X12_term hr_X12_sum hr_X12_atom ih h
      · replace h := am_ie c3 h
        refine op_aload_n (k := 0) dX12_term_22 rfl rfl ?_
        obtain ⟨w4, ew4, h⟩ := am_bd h
        refine op_callV (M' := M_X12_look) [] (S0 := []) dX12_term_23 tw_1405 ok_X12_look tw_1407 tw_55 kd_53 cls_12 rfl rfl rfl (Nat.le_of_ble_eq_true rfl) (Nat.le_of_ble_eq_true rfl) (t_X12_look (by omega) ew4) (am_le_rf _) ?_
        rintro _ _ ⟨rfl, rfl⟩
        refine op_bipush (v := 47) dX12_term_26 (by decide) ?_
        refine op_icmp_ne (tgt := 94) dX12_term_28 (by decide) (fun c5 => ?_) (fun c5 => ?_)
        · replace h := am_ie c5 h
          refine op_iload_n (k := 1) dX12_term_94 rfl rfl ?_
          cases h
          exact (op_iret dX12_term_95 rfl rfl ⟨rfl, rfl⟩)
        · replace h := am_ip c5 h
          exact t_X12_term_31 hd hr_X12_term hr_X12_sum hr_X12_atom ih h
set_option maxRecDepth 100000 in
set_option maxHeartbeats 4000000 in
theorem t_X12_term_0 {l : Launch} {ρ : am_R} {n d gc gs : Nat} {rc_X12_term : (Nat → Nat → Int32) → (Nat → Nat → Int64) → Nat → Option (Int32 × (Nat → Nat → Int32))} {rc_X12_sum : (Nat → Nat → Int32) → (Nat → Nat → Int64) → Nat → Option (Int32 × (Nat → Nat → Int32))} {rc_X12_atom : (Nat → Nat → Int32) → (Nat → Nat → Int64) → Nat → Option (Int32 × (Nat → Nat → Int32))} {I : Nat → Nat → Int32} {J : Nat → Nat → Int64} {T : Nat} {q : Int32 × (Nat → Nat → Int32)} (hd : 0 * n + 5 ≤ (d + 1))
    (hr_X12_term : ∀ (I : Nat → Nat → Int32) (J : Nat → Nat → Int64) (T : Nat) (q : Int32 × (Nat → Nat → Int32)) (gc gs : Nat), rc_X12_term I J T  = some q → AW l ρ d M_X12_term 0 [(0, .ref 53)] [] (am_KD, gc, gs) (I, J, am_RT T) (am_KD, gc, gs) (fun v H' => v = [.int q.1] ∧ H' = (q.2, J, am_RT T)))
    (hr_X12_sum : ∀ (I : Nat → Nat → Int32) (J : Nat → Nat → Int64) (T : Nat) (q : Int32 × (Nat → Nat → Int32)) (gc gs : Nat), rc_X12_sum I J T  = some q → AW l ρ d M_X12_sum 0 [(0, .ref 53)] [] (am_KD, gc, gs) (I, J, am_RT T) (am_KD, gc, gs) (fun v H' => v = [.int q.1] ∧ H' = (q.2, J, am_RT T)))
    (hr_X12_atom : ∀ (I : Nat → Nat → Int32) (J : Nat → Nat → Int64) (T : Nat) (q : Int32 × (Nat → Nat → Int32)) (gc gs : Nat), rc_X12_atom I J T  = some q → AW l ρ d M_X12_atom 0 [(0, .ref 53)] [] (am_KD, gc, gs) (I, J, am_RT T) (am_KD, gc, gs) (fun v H' => v = [.int q.1] ∧ H' = (q.2, J, am_RT T)))
    (h : fb_X12_term n rc_X12_term rc_X12_sum rc_X12_atom I J T  = some q) : AW l ρ (d + 1) M_X12_term 0 [(0, .ref 53)] [] (am_KD, gc, gs) (I, J, am_RT T) (am_KD, gc, gs) (fun v H' => v = [.int q.1] ∧ H' = (q.2, J, am_RT T)) := by
  unfold fb_X12_term at h
  refine op_aload_n (k := 0) dX12_term_0 rfl rfl ?_
  obtain ⟨w1, ew1, h⟩ := am_bd h
  refine op_callV (M' := M_X12_atom) [] (S0 := []) dX12_term_1 tw_1533 ok_X12_atom tw_1535 tw_72 kd_53 cls_12 rfl rfl rfl (Nat.le_of_ble_eq_true rfl) (Nat.le_of_ble_eq_true rfl) (hr_X12_atom _ _ _ _ _ _ ew1) (am_le_rf _) ?_
  rintro _ _ ⟨rfl, rfl⟩
  refine op_istore_n (L' := [(1, .int w1.1), (0, .ref 53)]) dX12_term_4 rfl (by decide) rfl ?_
  refine AW.perm [1, 0] rfl ?_
  exact t_X12_term_5 hd hr_X12_term hr_X12_sum hr_X12_atom n _ _ _ _ h
set_option maxRecDepth 100000 in
set_option maxHeartbeats 4000000 in
theorem t_X12_sum_77 {l : Launch} {ρ : am_R} {n d gc gs : Nat} {rc_X12_term : (Nat → Nat → Int32) → (Nat → Nat → Int64) → Nat → Option (Int32 × (Nat → Nat → Int32))} {rc_X12_sum : (Nat → Nat → Int32) → (Nat → Nat → Int64) → Nat → Option (Int32 × (Nat → Nat → Int32))} {rc_X12_atom : (Nat → Nat → Int32) → (Nat → Nat → Int64) → Nat → Option (Int32 × (Nat → Nat → Int32))} {k5 : (Nat → Nat → Int32) → (Nat → Nat → Int64) → Nat → Int32 → Option (Int32 × (Nat → Nat → Int32))} {I : Nat → Nat → Int32} {J : Nat → Nat → Int64} {T : Nat} {z0 : Int64} {q : Int32 × (Nat → Nat → Int32)} (hd : 0 * n + 5 ≤ (d + 1))
    (hr_X12_term : ∀ (I : Nat → Nat → Int32) (J : Nat → Nat → Int64) (T : Nat) (q : Int32 × (Nat → Nat → Int32)) (gc gs : Nat), rc_X12_term I J T  = some q → AW l ρ d M_X12_term 0 [(0, .ref 53)] [] (am_KD, gc, gs) (I, J, am_RT T) (am_KD, gc, gs) (fun v H' => v = [.int q.1] ∧ H' = (q.2, J, am_RT T)))
    (hr_X12_sum : ∀ (I : Nat → Nat → Int32) (J : Nat → Nat → Int64) (T : Nat) (q : Int32 × (Nat → Nat → Int32)) (gc gs : Nat), rc_X12_sum I J T  = some q → AW l ρ d M_X12_sum 0 [(0, .ref 53)] [] (am_KD, gc, gs) (I, J, am_RT T) (am_KD, gc, gs) (fun v H' => v = [.int q.1] ∧ H' = (q.2, J, am_RT T)))
    (hr_X12_atom : ∀ (I : Nat → Nat → Int32) (J : Nat → Nat → Int64) (T : Nat) (q : Int32 × (Nat → Nat → Int32)) (gc gs : Nat), rc_X12_atom I J T  = some q → AW l ρ d M_X12_atom 0 [(0, .ref 53)] [] (am_KD, gc, gs) (I, J, am_RT T) (am_KD, gc, gs) (fun v H' => v = [.int q.1] ∧ H' = (q.2, J, am_RT T)))
    (hk5 : ∀ (I : Nat → Nat → Int32) (J : Nat → Nat → Int64) (T : Nat) (x1 : Int32), k5 I J T x1 = some q → AW l ρ (d + 1) M_X12_sum 5 [(0, .ref 53), (1, .int x1)] [] (am_KD, gc, gs) (I, J, am_RT T) (am_KD, gc, gs) (fun v H' => v = [.int q.1] ∧ H' = (q.2, J, am_RT T)))
    (h : f_X12_sum_77 n rc_X12_term rc_X12_sum rc_X12_atom k5 I J T z0 = some q) : AW l ρ (d + 1) M_X12_sum 77 [(0, .ref 53)] [.long z0] (am_KD, gc, gs) (I, J, am_RT T) (am_KD, gc, gs) (fun v H' => v = [.int q.1] ∧ H' = (q.2, J, am_RT T)) := by
  unfold f_X12_sum_77 at h
  obtain ⟨w1, ew1, h⟩ := am_bd h
  refine op_callS (M' := M_X12_within) [.long z0] (S0 := []) dX12_sum_77 tw_1541 ok_X12_within tw_1542 rfl rfl (Nat.le_of_ble_eq_true rfl) (Nat.le_of_ble_eq_true rfl) (t_X12_within (by omega) ew1) (am_le_rf _) ?_
  rintro _ _ ⟨rfl, rfl⟩
  refine op_istore_n (L' := [(1, .int w1), (0, .ref 53)]) dX12_sum_80 rfl (by decide) rfl ?_
  refine op_goto (tgt := 5) dX12_sum_81 (by decide) ?_
  refine AW.perm [1, 0] rfl ?_
  exact hk5 _ _ _ _ h
set_option maxRecDepth 100000 in
set_option maxHeartbeats 4000000 in
theorem t_X12_sum_45 {l : Launch} {ρ : am_R} {n d gc gs : Nat} {rc_X12_term : (Nat → Nat → Int32) → (Nat → Nat → Int64) → Nat → Option (Int32 × (Nat → Nat → Int32))} {rc_X12_sum : (Nat → Nat → Int32) → (Nat → Nat → Int64) → Nat → Option (Int32 × (Nat → Nat → Int32))} {rc_X12_atom : (Nat → Nat → Int32) → (Nat → Nat → Int64) → Nat → Option (Int32 × (Nat → Nat → Int32))} {k5 : (Nat → Nat → Int32) → (Nat → Nat → Int64) → Nat → Int32 → Option (Int32 × (Nat → Nat → Int32))} {I : Nat → Nat → Int32} {J : Nat → Nat → Int64} {T : Nat} {x1 : Int32} {s0 : Int32} {q : Int32 × (Nat → Nat → Int32)} (hd : 0 * n + 5 ≤ (d + 1))
    (hr_X12_term : ∀ (I : Nat → Nat → Int32) (J : Nat → Nat → Int64) (T : Nat) (q : Int32 × (Nat → Nat → Int32)) (gc gs : Nat), rc_X12_term I J T  = some q → AW l ρ d M_X12_term 0 [(0, .ref 53)] [] (am_KD, gc, gs) (I, J, am_RT T) (am_KD, gc, gs) (fun v H' => v = [.int q.1] ∧ H' = (q.2, J, am_RT T)))
    (hr_X12_sum : ∀ (I : Nat → Nat → Int32) (J : Nat → Nat → Int64) (T : Nat) (q : Int32 × (Nat → Nat → Int32)) (gc gs : Nat), rc_X12_sum I J T  = some q → AW l ρ d M_X12_sum 0 [(0, .ref 53)] [] (am_KD, gc, gs) (I, J, am_RT T) (am_KD, gc, gs) (fun v H' => v = [.int q.1] ∧ H' = (q.2, J, am_RT T)))
    (hr_X12_atom : ∀ (I : Nat → Nat → Int32) (J : Nat → Nat → Int64) (T : Nat) (q : Int32 × (Nat → Nat → Int32)) (gc gs : Nat), rc_X12_atom I J T  = some q → AW l ρ d M_X12_atom 0 [(0, .ref 53)] [] (am_KD, gc, gs) (I, J, am_RT T) (am_KD, gc, gs) (fun v H' => v = [.int q.1] ∧ H' = (q.2, J, am_RT T)))
    (hk5 : ∀ (I : Nat → Nat → Int32) (J : Nat → Nat → Int64) (T : Nat) (x1 : Int32), k5 I J T x1 = some q → AW l ρ (d + 1) M_X12_sum 5 [(0, .ref 53), (1, .int x1)] [] (am_KD, gc, gs) (I, J, am_RT T) (am_KD, gc, gs) (fun v H' => v = [.int q.1] ∧ H' = (q.2, J, am_RT T)))
    (h : f_X12_sum_45 n rc_X12_term rc_X12_sum rc_X12_atom k5 I J T x1 s0 = some q) : AW l ρ (d + 1) M_X12_sum 45 [(0, .ref 53), (1, .int x1)] [.int s0] (am_KD, gc, gs) (I, J, am_RT T) (am_KD, gc, gs) (fun v H' => v = [.int q.1] ∧ H' = (q.2, J, am_RT T)) := by
  unfold f_X12_sum_45 at h
  refine op_istore_n (L' := [(2, .int s0), (0, .ref 53), (1, .int x1)]) dX12_sum_45 rfl (by decide) rfl ?_
  refine op_aload_n (k := 1) dX12_sum_46 rfl rfl ?_
  refine op_dup dX12_sum_47 rfl ?_
  refine st_getI (v := I 53 10) dX12_sum_48 fl_X12_141 kd_53 (by decide) rfl rfl ?_
  refine op_iconst (v := 1) dX12_sum_51 (by decide) ?_
  refine op_iadd dX12_sum_52 ?_
  refine st_putI dX12_sum_53 fl_X12_141 kd_53 (by decide) rfl ?_
  refine op_aload_n (k := 1) dX12_sum_56 rfl rfl ?_
  obtain ⟨w1, ew1, h⟩ := am_bd h
  refine op_callV (M' := M_X12_term) [] (S0 := []) dX12_sum_57 tw_1529 ok_X12_term tw_1531 tw_71 kd_53 cls_12 rfl rfl rfl (Nat.le_of_ble_eq_true rfl) (Nat.le_of_ble_eq_true rfl) (hr_X12_term _ _ _ _ _ _ ew1) (am_le_rf _) ?_
  rintro _ _ ⟨rfl, rfl⟩
  refine op_i2l dX12_sum_60 ?_
  refine op_lstore_n (L' := [(3, .long w1.1.toInt64), (2, .int s0), (0, .ref 53), (1, .int x1)]) dX12_sum_61 rfl (by decide) rfl ?_
  refine op_iload_n (k := 1) dX12_sum_62 rfl rfl ?_
  refine op_if_eq (tgt := 73) dX12_sum_63 (by decide) (fun c2 => ?_) (fun c2 => ?_)
  · replace h := am_ip c2 h
    refine op_iload_n (k := 3) dX12_sum_73 rfl rfl ?_
    refine op_i2l dX12_sum_74 ?_
    refine op_lload_n (k := 0) dX12_sum_75 rfl rfl ?_
    refine op_lsub dX12_sum_76 ?_
    refine AW.perm [2] rfl ?_
    exact t_X12_sum_77 hd hr_X12_term hr_X12_sum hr_X12_atom hk5 h
  · replace h := am_ie c2 h
    refine op_iload_n (k := 3) dX12_sum_66 rfl rfl ?_
    refine op_i2l dX12_sum_67 ?_
    refine op_lload_n (k := 0) dX12_sum_68 rfl rfl ?_
    refine op_ladd dX12_sum_69 ?_
    refine op_goto (tgt := 77) dX12_sum_70 (by decide) ?_
    refine AW.perm [2] rfl ?_
    exact t_X12_sum_77 hd hr_X12_term hr_X12_sum hr_X12_atom hk5 h
set_option maxRecDepth 100000 in
set_option maxHeartbeats 4000000 in
theorem t_X12_sum_31 {l : Launch} {ρ : am_R} {n d gc gs : Nat} {rc_X12_term : (Nat → Nat → Int32) → (Nat → Nat → Int64) → Nat → Option (Int32 × (Nat → Nat → Int32))} {rc_X12_sum : (Nat → Nat → Int32) → (Nat → Nat → Int64) → Nat → Option (Int32 × (Nat → Nat → Int32))} {rc_X12_atom : (Nat → Nat → Int32) → (Nat → Nat → Int64) → Nat → Option (Int32 × (Nat → Nat → Int32))} {k5 : (Nat → Nat → Int32) → (Nat → Nat → Int64) → Nat → Int32 → Option (Int32 × (Nat → Nat → Int32))} {I : Nat → Nat → Int32} {J : Nat → Nat → Int64} {T : Nat} {x1 : Int32} {q : Int32 × (Nat → Nat → Int32)} (hd : 0 * n + 5 ≤ (d + 1))
    (hr_X12_term : ∀ (I : Nat → Nat → Int32) (J : Nat → Nat → Int64) (T : Nat) (q : Int32 × (Nat → Nat → Int32)) (gc gs : Nat), rc_X12_term I J T  = some q → AW l ρ d M_X12_term 0 [(0, .ref 53)] [] (am_KD, gc, gs) (I, J, am_RT T) (am_KD, gc, gs) (fun v H' => v = [.int q.1] ∧ H' = (q.2, J, am_RT T)))
    (hr_X12_sum : ∀ (I : Nat → Nat → Int32) (J : Nat → Nat → Int64) (T : Nat) (q : Int32 × (Nat → Nat → Int32)) (gc gs : Nat), rc_X12_sum I J T  = some q → AW l ρ d M_X12_sum 0 [(0, .ref 53)] [] (am_KD, gc, gs) (I, J, am_RT T) (am_KD, gc, gs) (fun v H' => v = [.int q.1] ∧ H' = (q.2, J, am_RT T)))
    (hr_X12_atom : ∀ (I : Nat → Nat → Int32) (J : Nat → Nat → Int64) (T : Nat) (q : Int32 × (Nat → Nat → Int32)) (gc gs : Nat), rc_X12_atom I J T  = some q → AW l ρ d M_X12_atom 0 [(0, .ref 53)] [] (am_KD, gc, gs) (I, J, am_RT T) (am_KD, gc, gs) (fun v H' => v = [.int q.1] ∧ H' = (q.2, J, am_RT T)))
    (hk5 : ∀ (I : Nat → Nat → Int32) (J : Nat → Nat → Int64) (T : Nat) (x1 : Int32), k5 I J T x1 = some q → AW l ρ (d + 1) M_X12_sum 5 [(0, .ref 53), (1, .int x1)] [] (am_KD, gc, gs) (I, J, am_RT T) (am_KD, gc, gs) (fun v H' => v = [.int q.1] ∧ H' = (q.2, J, am_RT T)))
    (h : f_X12_sum_31 n rc_X12_term rc_X12_sum rc_X12_atom k5 I J T x1 = some q) : AW l ρ (d + 1) M_X12_sum 31 [(0, .ref 53), (1, .int x1)] [] (am_KD, gc, gs) (I, J, am_RT T) (am_KD, gc, gs) (fun v H' => v = [.int q.1] ∧ H' = (q.2, J, am_RT T)) := by
  unfold f_X12_sum_31 at h
  refine op_aload_n (k := 0) dX12_sum_31 rfl rfl ?_
  obtain ⟨w1, ew1, h⟩ := am_bd h
  refine op_callV (M' := M_X12_look) [] (S0 := []) dX12_sum_32 tw_1405 ok_X12_look tw_1407 tw_55 kd_53 cls_12 rfl rfl rfl (Nat.le_of_ble_eq_true rfl) (Nat.le_of_ble_eq_true rfl) (t_X12_look (by omega) ew1) (am_le_rf _) ?_
  rintro _ _ ⟨rfl, rfl⟩
  refine op_bipush (v := 43) dX12_sum_35 (by decide) ?_
  refine op_icmp_ne (tgt := 44) dX12_sum_37 (by decide) (fun c2 => ?_) (fun c2 => ?_)
  · replace h := am_ie c2 h
    refine op_iconst (v := 0) dX12_sum_44 (by decide) ?_
    exact t_X12_sum_45 hd hr_X12_term hr_X12_sum hr_X12_atom hk5 h
  · replace h := am_ip c2 h
    refine op_iconst (v := 1) dX12_sum_40 (by decide) ?_
    refine op_goto (tgt := 45) dX12_sum_41 (by decide) ?_
    exact t_X12_sum_45 hd hr_X12_term hr_X12_sum hr_X12_atom hk5 h
set_option maxRecDepth 100000 in
set_option maxHeartbeats 4000000 in
theorem t_X12_sum_5 {l : Launch} {ρ : am_R} {n d gc gs : Nat} {rc_X12_term : (Nat → Nat → Int32) → (Nat → Nat → Int64) → Nat → Option (Int32 × (Nat → Nat → Int32))} {rc_X12_sum : (Nat → Nat → Int32) → (Nat → Nat → Int64) → Nat → Option (Int32 × (Nat → Nat → Int32))} {rc_X12_atom : (Nat → Nat → Int32) → (Nat → Nat → Int64) → Nat → Option (Int32 × (Nat → Nat → Int32))} {q : Int32 × (Nat → Nat → Int32)} (hd : 0 * n + 5 ≤ (d + 1))
    (hr_X12_term : ∀ (I : Nat → Nat → Int32) (J : Nat → Nat → Int64) (T : Nat) (q : Int32 × (Nat → Nat → Int32)) (gc gs : Nat), rc_X12_term I J T  = some q → AW l ρ d M_X12_term 0 [(0, .ref 53)] [] (am_KD, gc, gs) (I, J, am_RT T) (am_KD, gc, gs) (fun v H' => v = [.int q.1] ∧ H' = (q.2, J, am_RT T)))
    (hr_X12_sum : ∀ (I : Nat → Nat → Int32) (J : Nat → Nat → Int64) (T : Nat) (q : Int32 × (Nat → Nat → Int32)) (gc gs : Nat), rc_X12_sum I J T  = some q → AW l ρ d M_X12_sum 0 [(0, .ref 53)] [] (am_KD, gc, gs) (I, J, am_RT T) (am_KD, gc, gs) (fun v H' => v = [.int q.1] ∧ H' = (q.2, J, am_RT T)))
    (hr_X12_atom : ∀ (I : Nat → Nat → Int32) (J : Nat → Nat → Int64) (T : Nat) (q : Int32 × (Nat → Nat → Int32)) (gc gs : Nat), rc_X12_atom I J T  = some q → AW l ρ d M_X12_atom 0 [(0, .ref 53)] [] (am_KD, gc, gs) (I, J, am_RT T) (am_KD, gc, gs) (fun v H' => v = [.int q.1] ∧ H' = (q.2, J, am_RT T)))
    : ∀ (m : Nat) (I : Nat → Nat → Int32) (J : Nat → Nat → Int64) (T : Nat) (x1 : Int32), f_X12_sum_5 n rc_X12_term rc_X12_sum rc_X12_atom m I J T x1 = some q → AW l ρ (d + 1) M_X12_sum 5 [(0, .ref 53), (1, .int x1)] [] (am_KD, gc, gs) (I, J, am_RT T) (am_KD, gc, gs) (fun v H' => v = [.int q.1] ∧ H' = (q.2, J, am_RT T)) := by
  intro m
  induction m with
  | zero =>
    intro I J T x1 h
    rw [f_X12_sum_5] at h
    cases h
  | succ m ih =>
    intro I J T x1 h
    rw [f_X12_sum_5] at h
    refine op_aload_n (k := 0) dX12_sum_5 rfl rfl ?_
    refine st_getI (v := I 53 11) dX12_sum_6 fl_X12_150 kd_53 (by decide) rfl rfl ?_
    refine op_iconst (v := (-1)) dX12_sum_9 (by decide) ?_
    refine op_icmp_ne (tgt := 84) dX12_sum_10 (by decide) (fun c1 => ?_) (fun c1 => ?_)
    · replace h := am_ie c1 h
      refine op_iload_n (k := 1) dX12_sum_84 rfl rfl ?_
      cases h
      exact (op_iret dX12_sum_85 rfl rfl ⟨rfl, rfl⟩)
    · replace h := am_ip c1 h
      refine op_aload_n (k := 0) dX12_sum_13 rfl rfl ?_
      obtain ⟨w2, ew2, h⟩ := am_bd h
      refine op_callV (M' := M_X12_look) [] (S0 := []) dX12_sum_14 tw_1405 ok_X12_look tw_1407 tw_55 kd_53 cls_12 rfl rfl rfl (Nat.le_of_ble_eq_true rfl) (Nat.le_of_ble_eq_true rfl) (t_X12_look (by omega) ew2) (am_le_rf _) ?_
      rintro _ _ ⟨rfl, rfl⟩
      refine op_bipush (v := 43) dX12_sum_17 (by decide) ?_
      refine op_icmp_eq (tgt := 31) dX12_sum_19 (by decide) (fun c3 => ?_) (fun c3 => ?_)
      · replace h := am_ip c3 h
        exact t_X12_sum_31 hd hr_X12_term hr_X12_sum hr_X12_atom ih h
      · replace h := am_ie c3 h
        refine op_aload_n (k := 0) dX12_sum_22 rfl rfl ?_
        obtain ⟨w4, ew4, h⟩ := am_bd h
        refine op_callV (M' := M_X12_look) [] (S0 := []) dX12_sum_23 tw_1405 ok_X12_look tw_1407 tw_55 kd_53 cls_12 rfl rfl rfl (Nat.le_of_ble_eq_true rfl) (Nat.le_of_ble_eq_true rfl) (t_X12_look (by omega) ew4) (am_le_rf _) ?_
        rintro _ _ ⟨rfl, rfl⟩
        refine op_bipush (v := 45) dX12_sum_26 (by decide) ?_
        refine op_icmp_ne (tgt := 84) dX12_sum_28 (by decide) (fun c5 => ?_) (fun c5 => ?_)
        · replace h := am_ie c5 h
          refine op_iload_n (k := 1) dX12_sum_84 rfl rfl ?_
          cases h
          exact (op_iret dX12_sum_85 rfl rfl ⟨rfl, rfl⟩)
        · replace h := am_ip c5 h
          exact t_X12_sum_31 hd hr_X12_term hr_X12_sum hr_X12_atom ih h
set_option maxRecDepth 100000 in
set_option maxHeartbeats 4000000 in
theorem t_X12_sum_0 {l : Launch} {ρ : am_R} {n d gc gs : Nat} {rc_X12_term : (Nat → Nat → Int32) → (Nat → Nat → Int64) → Nat → Option (Int32 × (Nat → Nat → Int32))} {rc_X12_sum : (Nat → Nat → Int32) → (Nat → Nat → Int64) → Nat → Option (Int32 × (Nat → Nat → Int32))} {rc_X12_atom : (Nat → Nat → Int32) → (Nat → Nat → Int64) → Nat → Option (Int32 × (Nat → Nat → Int32))} {I : Nat → Nat → Int32} {J : Nat → Nat → Int64} {T : Nat} {q : Int32 × (Nat → Nat → Int32)} (hd : 0 * n + 5 ≤ (d + 1))
    (hr_X12_term : ∀ (I : Nat → Nat → Int32) (J : Nat → Nat → Int64) (T : Nat) (q : Int32 × (Nat → Nat → Int32)) (gc gs : Nat), rc_X12_term I J T  = some q → AW l ρ d M_X12_term 0 [(0, .ref 53)] [] (am_KD, gc, gs) (I, J, am_RT T) (am_KD, gc, gs) (fun v H' => v = [.int q.1] ∧ H' = (q.2, J, am_RT T)))
    (hr_X12_sum : ∀ (I : Nat → Nat → Int32) (J : Nat → Nat → Int64) (T : Nat) (q : Int32 × (Nat → Nat → Int32)) (gc gs : Nat), rc_X12_sum I J T  = some q → AW l ρ d M_X12_sum 0 [(0, .ref 53)] [] (am_KD, gc, gs) (I, J, am_RT T) (am_KD, gc, gs) (fun v H' => v = [.int q.1] ∧ H' = (q.2, J, am_RT T)))
    (hr_X12_atom : ∀ (I : Nat → Nat → Int32) (J : Nat → Nat → Int64) (T : Nat) (q : Int32 × (Nat → Nat → Int32)) (gc gs : Nat), rc_X12_atom I J T  = some q → AW l ρ d M_X12_atom 0 [(0, .ref 53)] [] (am_KD, gc, gs) (I, J, am_RT T) (am_KD, gc, gs) (fun v H' => v = [.int q.1] ∧ H' = (q.2, J, am_RT T)))
    (h : fb_X12_sum n rc_X12_term rc_X12_sum rc_X12_atom I J T  = some q) : AW l ρ (d + 1) M_X12_sum 0 [(0, .ref 53)] [] (am_KD, gc, gs) (I, J, am_RT T) (am_KD, gc, gs) (fun v H' => v = [.int q.1] ∧ H' = (q.2, J, am_RT T)) := by
  unfold fb_X12_sum at h
  refine op_aload_n (k := 0) dX12_sum_0 rfl rfl ?_
  obtain ⟨w1, ew1, h⟩ := am_bd h
  refine op_callV (M' := M_X12_term) [] (S0 := []) dX12_sum_1 tw_1529 ok_X12_term tw_1531 tw_71 kd_53 cls_12 rfl rfl rfl (Nat.le_of_ble_eq_true rfl) (Nat.le_of_ble_eq_true rfl) (hr_X12_term _ _ _ _ _ _ ew1) (am_le_rf _) ?_
  rintro _ _ ⟨rfl, rfl⟩
  refine op_istore_n (L' := [(1, .int w1.1), (0, .ref 53)]) dX12_sum_4 rfl (by decide) rfl ?_
  refine AW.perm [1, 0] rfl ?_
  exact t_X12_sum_5 hd hr_X12_term hr_X12_sum hr_X12_atom n _ _ _ _ h
set_option maxRecDepth 100000 in
set_option maxHeartbeats 4000000 in
theorem t_X12_atom_90 {l : Launch} {ρ : am_R} {n d gc gs : Nat} {rc_X12_term : (Nat → Nat → Int32) → (Nat → Nat → Int64) → Nat → Option (Int32 × (Nat → Nat → Int32))} {rc_X12_sum : (Nat → Nat → Int32) → (Nat → Nat → Int64) → Nat → Option (Int32 × (Nat → Nat → Int32))} {rc_X12_atom : (Nat → Nat → Int32) → (Nat → Nat → Int64) → Nat → Option (Int32 × (Nat → Nat → Int32))} {q : Int32 × (Nat → Nat → Int32)} (hd : 0 * n + 5 ≤ (d + 1))
    (hr_X12_term : ∀ (I : Nat → Nat → Int32) (J : Nat → Nat → Int64) (T : Nat) (q : Int32 × (Nat → Nat → Int32)) (gc gs : Nat), rc_X12_term I J T  = some q → AW l ρ d M_X12_term 0 [(0, .ref 53)] [] (am_KD, gc, gs) (I, J, am_RT T) (am_KD, gc, gs) (fun v H' => v = [.int q.1] ∧ H' = (q.2, J, am_RT T)))
    (hr_X12_sum : ∀ (I : Nat → Nat → Int32) (J : Nat → Nat → Int64) (T : Nat) (q : Int32 × (Nat → Nat → Int32)) (gc gs : Nat), rc_X12_sum I J T  = some q → AW l ρ d M_X12_sum 0 [(0, .ref 53)] [] (am_KD, gc, gs) (I, J, am_RT T) (am_KD, gc, gs) (fun v H' => v = [.int q.1] ∧ H' = (q.2, J, am_RT T)))
    (hr_X12_atom : ∀ (I : Nat → Nat → Int32) (J : Nat → Nat → Int64) (T : Nat) (q : Int32 × (Nat → Nat → Int32)) (gc gs : Nat), rc_X12_atom I J T  = some q → AW l ρ d M_X12_atom 0 [(0, .ref 53)] [] (am_KD, gc, gs) (I, J, am_RT T) (am_KD, gc, gs) (fun v H' => v = [.int q.1] ∧ H' = (q.2, J, am_RT T)))
    : ∀ (m : Nat) (I : Nat → Nat → Int32) (J : Nat → Nat → Int64) (T : Nat) (x2 : Int32) (x3 : Int32), f_X12_atom_90 n rc_X12_term rc_X12_sum rc_X12_atom m I J T x2 x3 = some q → AW l ρ (d + 1) M_X12_atom 90 [(0, .ref 53), (2, .int x2), (3, .int x3)] [] (am_KD, gc, gs) (I, J, am_RT T) (am_KD, gc, gs) (fun v H' => v = [.int q.1] ∧ H' = (q.2, J, am_RT T)) := by
  intro m
  induction m with
  | zero =>
    intro I J T x2 x3 h
    rw [f_X12_atom_90] at h
    cases h
  | succ m ih =>
    intro I J T x2 x3 h
    rw [f_X12_atom_90] at h
    refine op_aload_n (k := 0) dX12_atom_90 rfl rfl ?_
    obtain ⟨w1, ew1, h⟩ := am_bd h
    refine op_callV (M' := M_X12_isDigit) [] (S0 := []) dX12_atom_91 tw_1486 ok_X12_isDigit tw_1488 tw_61 kd_53 cls_12 rfl rfl rfl (Nat.le_of_ble_eq_true rfl) (Nat.le_of_ble_eq_true rfl) (t_X12_isDigit (by omega) ew1) (am_le_rf _) ?_
    rintro _ _ ⟨rfl, rfl⟩
    refine op_if_eq (tgt := 156) dX12_atom_94 (by decide) (fun c2 => ?_) (fun c2 => ?_)
    · replace h := am_ip c2 h
      refine op_iload_n (k := 1) dX12_atom_156 rfl rfl ?_
      cases h
      exact (op_iret dX12_atom_157 rfl rfl ⟨rfl, rfl⟩)
    · replace h := am_ie c2 h
      refine op_aload_n (k := 0) dX12_atom_97 rfl rfl ?_
      refine st_getI (v := I 53 11) dX12_atom_98 fl_X12_150 kd_53 (by decide) rfl rfl ?_
      refine op_iconst (v := (-1)) dX12_atom_101 (by decide) ?_
      refine op_icmp_ne (tgt := 156) dX12_atom_102 (by decide) (fun c3 => ?_) (fun c3 => ?_)
      · replace h := am_ie c3 h
        refine op_iload_n (k := 1) dX12_atom_156 rfl rfl ?_
        cases h
        exact (op_iret dX12_atom_157 rfl rfl ⟨rfl, rfl⟩)
      · replace h := am_ip c3 h
        refine op_iload_n (k := 2) dX12_atom_105 rfl rfl ?_
        refine op_iconst (v := 4) dX12_atom_106 (by decide) ?_
        refine op_icmp_ne (tgt := 117) dX12_atom_107 (by decide) (fun c4 => ?_) (fun c4 => ?_)
        · replace h := am_ie c4 h
          refine op_bipush (v := 10) dX12_atom_117 (by decide) ?_
          refine op_iload_n (k := 1) dX12_atom_119 rfl rfl ?_
          refine op_imul dX12_atom_120 ?_
          refine op_aload_n (k := 0) dX12_atom_121 rfl rfl ?_
          refine st_getT dX12_atom_122 fl_X12_23 ?_
          refine op_aload_n (k := 0) dX12_atom_125 rfl rfl ?_
          refine st_getI (v := I 53 8) dX12_atom_126 fl_X12_147 kd_53 (by decide) rfl rfl ?_
          refine op_aload_n (k := 0) dX12_atom_129 rfl rfl ?_
          refine st_getI (v := I 53 10) dX12_atom_130 fl_X12_141 kd_53 (by decide) rfl rfl ?_
          refine op_iadd dX12_atom_133 ?_
          by_cases c5 : T = 54
          · replace h := am_ip c5 h
            refine st_rf c5 ?_
            obtain ⟨g6, h⟩ := am_gd h
            refine st_bald (k := ((I 53 8) + (I 53 10)).toNatClampNeg) (v := I 54 (((I 53 8) + (I 53 10)).toNatClampNeg)) dX12_atom_134 kd_54 g6 rfl rfl ?_
            refine op_iadd dX12_atom_135 ?_
            refine op_bipush (v := 48) dX12_atom_136 (by decide) ?_
            refine op_isub dX12_atom_138 ?_
            refine op_istore_n (L' := [(2, .int (((10 * x2) + (I 54 (((I 53 8) + (I 53 10)).toNatClampNeg))) - 48)), (0, .ref 53), (3, .int x3)]) dX12_atom_139 rfl (by decide) rfl ?_
            refine op_aload_n (k := 1) dX12_atom_140 rfl rfl ?_
            refine op_dup dX12_atom_141 rfl ?_
            refine st_getI (v := I 53 10) dX12_atom_142 fl_X12_141 kd_53 (by decide) rfl rfl ?_
            refine op_iconst (v := 1) dX12_atom_145 (by decide) ?_
            refine op_iadd dX12_atom_146 ?_
            refine st_putI dX12_atom_147 fl_X12_141 kd_53 (by decide) rfl ?_
            refine op_iinc (k := 2) (v := x3 + 1) (L' := [(3, .int (x3 + 1)), (2, .int (((10 * x2) + (I 54 (((I 53 8) + (I 53 10)).toNatClampNeg))) - 48)), (0, .ref 53)]) dX12_atom_150 rfl rfl (by decide) rfl ?_
            refine op_goto (tgt := 90) dX12_atom_153 (by decide) ?_
            refine AW.perm [2, 1, 0] rfl ?_
            exact ih _ _ _ _ _ h
          · replace h := am_ie c5 h
            obtain ⟨c5b, h⟩ := am_gd h
            refine st_rf c5b ?_
            obtain ⟨g7, h⟩ := am_gd h
            refine st_bald (k := ((I 53 8) + (I 53 10)).toNatClampNeg) (v := I 55 (((I 53 8) + (I 53 10)).toNatClampNeg)) dX12_atom_134 kd_55 g7 rfl rfl ?_
            refine op_iadd dX12_atom_135 ?_
            refine op_bipush (v := 48) dX12_atom_136 (by decide) ?_
            refine op_isub dX12_atom_138 ?_
            refine op_istore_n (L' := [(2, .int (((10 * x2) + (I 55 (((I 53 8) + (I 53 10)).toNatClampNeg))) - 48)), (0, .ref 53), (3, .int x3)]) dX12_atom_139 rfl (by decide) rfl ?_
            refine op_aload_n (k := 1) dX12_atom_140 rfl rfl ?_
            refine op_dup dX12_atom_141 rfl ?_
            refine st_getI (v := I 53 10) dX12_atom_142 fl_X12_141 kd_53 (by decide) rfl rfl ?_
            refine op_iconst (v := 1) dX12_atom_145 (by decide) ?_
            refine op_iadd dX12_atom_146 ?_
            refine st_putI dX12_atom_147 fl_X12_141 kd_53 (by decide) rfl ?_
            refine op_iinc (k := 2) (v := x3 + 1) (L' := [(3, .int (x3 + 1)), (2, .int (((10 * x2) + (I 55 (((I 53 8) + (I 53 10)).toNatClampNeg))) - 48)), (0, .ref 53)]) dX12_atom_150 rfl rfl (by decide) rfl ?_
            refine op_goto (tgt := 90) dX12_atom_153 (by decide) ?_
            refine AW.perm [2, 1, 0] rfl ?_
            exact ih _ _ _ _ _ h
        · replace h := am_ip c4 h
          refine op_aload_n (k := 0) dX12_atom_110 rfl rfl ?_
          obtain ⟨w8, ew8, h⟩ := am_bd h
          refine op_callV (M' := M_X12_fails) [] (S0 := []) dX12_atom_111 tw_1409 ok_X12_fails tw_1411 tw_56 kd_53 cls_12 rfl rfl rfl (Nat.le_of_ble_eq_true rfl) (Nat.le_of_ble_eq_true rfl) (t_X12_fails (by omega) ew8) (am_le_rf _) ?_
          rintro _ _ ⟨rfl, rfl⟩
          refine op_pop dX12_atom_114 rfl ?_
          refine op_iconst (v := 0) dX12_atom_115 (by decide) ?_
          cases h
          exact (op_iret dX12_atom_116 rfl rfl ⟨rfl, rfl⟩)
set_option maxRecDepth 100000 in
set_option maxHeartbeats 4000000 in
theorem t_X12_atom_86 {l : Launch} {ρ : am_R} {n d gc gs : Nat} {rc_X12_term : (Nat → Nat → Int32) → (Nat → Nat → Int64) → Nat → Option (Int32 × (Nat → Nat → Int32))} {rc_X12_sum : (Nat → Nat → Int32) → (Nat → Nat → Int64) → Nat → Option (Int32 × (Nat → Nat → Int32))} {rc_X12_atom : (Nat → Nat → Int32) → (Nat → Nat → Int64) → Nat → Option (Int32 × (Nat → Nat → Int32))} {I : Nat → Nat → Int32} {J : Nat → Nat → Int64} {T : Nat} {q : Int32 × (Nat → Nat → Int32)} (hd : 0 * n + 5 ≤ (d + 1))
    (hr_X12_term : ∀ (I : Nat → Nat → Int32) (J : Nat → Nat → Int64) (T : Nat) (q : Int32 × (Nat → Nat → Int32)) (gc gs : Nat), rc_X12_term I J T  = some q → AW l ρ d M_X12_term 0 [(0, .ref 53)] [] (am_KD, gc, gs) (I, J, am_RT T) (am_KD, gc, gs) (fun v H' => v = [.int q.1] ∧ H' = (q.2, J, am_RT T)))
    (hr_X12_sum : ∀ (I : Nat → Nat → Int32) (J : Nat → Nat → Int64) (T : Nat) (q : Int32 × (Nat → Nat → Int32)) (gc gs : Nat), rc_X12_sum I J T  = some q → AW l ρ d M_X12_sum 0 [(0, .ref 53)] [] (am_KD, gc, gs) (I, J, am_RT T) (am_KD, gc, gs) (fun v H' => v = [.int q.1] ∧ H' = (q.2, J, am_RT T)))
    (hr_X12_atom : ∀ (I : Nat → Nat → Int32) (J : Nat → Nat → Int64) (T : Nat) (q : Int32 × (Nat → Nat → Int32)) (gc gs : Nat), rc_X12_atom I J T  = some q → AW l ρ d M_X12_atom 0 [(0, .ref 53)] [] (am_KD, gc, gs) (I, J, am_RT T) (am_KD, gc, gs) (fun v H' => v = [.int q.1] ∧ H' = (q.2, J, am_RT T)))
    (h : f_X12_atom_86 n rc_X12_term rc_X12_sum rc_X12_atom I J T  = some q) : AW l ρ (d + 1) M_X12_atom 86 [(0, .ref 53)] [] (am_KD, gc, gs) (I, J, am_RT T) (am_KD, gc, gs) (fun v H' => v = [.int q.1] ∧ H' = (q.2, J, am_RT T)) := by
  unfold f_X12_atom_86 at h
  refine op_iconst (v := 0) dX12_atom_86 (by decide) ?_
  refine op_istore_n (L' := [(2, .int 0), (0, .ref 53)]) dX12_atom_87 rfl (by decide) rfl ?_
  refine op_iconst (v := 0) dX12_atom_88 (by decide) ?_
  refine op_istore_n (L' := [(3, .int 0), (2, .int 0), (0, .ref 53)]) dX12_atom_89 rfl (by decide) rfl ?_
  refine AW.perm [2, 1, 0] rfl ?_
  exact t_X12_atom_90 hd hr_X12_term hr_X12_sum hr_X12_atom n _ _ _ _ _ h
set_option maxRecDepth 100000 in
set_option maxHeartbeats 4000000 in
theorem t_X12_atom_0 {l : Launch} {ρ : am_R} {n d gc gs : Nat} {rc_X12_term : (Nat → Nat → Int32) → (Nat → Nat → Int64) → Nat → Option (Int32 × (Nat → Nat → Int32))} {rc_X12_sum : (Nat → Nat → Int32) → (Nat → Nat → Int64) → Nat → Option (Int32 × (Nat → Nat → Int32))} {rc_X12_atom : (Nat → Nat → Int32) → (Nat → Nat → Int64) → Nat → Option (Int32 × (Nat → Nat → Int32))} {I : Nat → Nat → Int32} {J : Nat → Nat → Int64} {T : Nat} {q : Int32 × (Nat → Nat → Int32)} (hd : 0 * n + 5 ≤ (d + 1))
    (hr_X12_term : ∀ (I : Nat → Nat → Int32) (J : Nat → Nat → Int64) (T : Nat) (q : Int32 × (Nat → Nat → Int32)) (gc gs : Nat), rc_X12_term I J T  = some q → AW l ρ d M_X12_term 0 [(0, .ref 53)] [] (am_KD, gc, gs) (I, J, am_RT T) (am_KD, gc, gs) (fun v H' => v = [.int q.1] ∧ H' = (q.2, J, am_RT T)))
    (hr_X12_sum : ∀ (I : Nat → Nat → Int32) (J : Nat → Nat → Int64) (T : Nat) (q : Int32 × (Nat → Nat → Int32)) (gc gs : Nat), rc_X12_sum I J T  = some q → AW l ρ d M_X12_sum 0 [(0, .ref 53)] [] (am_KD, gc, gs) (I, J, am_RT T) (am_KD, gc, gs) (fun v H' => v = [.int q.1] ∧ H' = (q.2, J, am_RT T)))
    (hr_X12_atom : ∀ (I : Nat → Nat → Int32) (J : Nat → Nat → Int64) (T : Nat) (q : Int32 × (Nat → Nat → Int32)) (gc gs : Nat), rc_X12_atom I J T  = some q → AW l ρ d M_X12_atom 0 [(0, .ref 53)] [] (am_KD, gc, gs) (I, J, am_RT T) (am_KD, gc, gs) (fun v H' => v = [.int q.1] ∧ H' = (q.2, J, am_RT T)))
    (h : fb_X12_atom n rc_X12_term rc_X12_sum rc_X12_atom I J T  = some q) : AW l ρ (d + 1) M_X12_atom 0 [(0, .ref 53)] [] (am_KD, gc, gs) (I, J, am_RT T) (am_KD, gc, gs) (fun v H' => v = [.int q.1] ∧ H' = (q.2, J, am_RT T)) := by
  unfold fb_X12_atom at h
  refine op_aload_n (k := 0) dX12_atom_0 rfl rfl ?_
  obtain ⟨w1, ew1, h⟩ := am_bd h
  refine op_callV (M' := M_X12_look) [] (S0 := []) dX12_atom_1 tw_1405 ok_X12_look tw_1407 tw_55 kd_53 cls_12 rfl rfl rfl (Nat.le_of_ble_eq_true rfl) (Nat.le_of_ble_eq_true rfl) (t_X12_look (by omega) ew1) (am_le_rf _) ?_
  rintro _ _ ⟨rfl, rfl⟩
  refine op_istore_n (L' := [(1, .int w1.1), (0, .ref 53)]) dX12_atom_4 rfl (by decide) rfl ?_
  refine op_ldcS (i := 1) dX12_atom_5 rfl rfl rfl ?_
  refine op_iload_n (k := 0) dX12_atom_7 rfl rfl ?_
  obtain ⟨w2, ew2, h⟩ := am_bd h
  refine op_callS (M' := M_X12_isAmong) [.ref 1011, .int w1.1] (S0 := []) dX12_atom_8 tw_1506 ok_X12_isAmong tw_1507 rfl rfl (Nat.le_of_ble_eq_true rfl) (Nat.le_of_ble_eq_true rfl) (t_X12_isAmong (by omega) ew2) (am_le_rf _) ?_
  rintro _ _ ⟨rfl, rfl⟩
  refine op_if_eq (tgt := 31) dX12_atom_11 (by decide) (fun c3 => ?_) (fun c3 => ?_)
  · replace h := am_ip c3 h
    refine op_iload_n (k := 0) dX12_atom_31 rfl rfl ?_
    refine op_bipush (v := 91) dX12_atom_32 (by decide) ?_
    refine op_icmp_ne (tgt := 74) dX12_atom_34 (by decide) (fun c4 => ?_) (fun c4 => ?_)
    · replace h := am_ie c4 h
      refine op_aload_n (k := 1) dX12_atom_74 rfl rfl ?_
      obtain ⟨w5, ew5, h⟩ := am_bd h
      refine op_callV (M' := M_X12_isDigit) [] (S0 := []) dX12_atom_75 tw_1486 ok_X12_isDigit tw_1488 tw_61 kd_53 cls_12 rfl rfl rfl (Nat.le_of_ble_eq_true rfl) (Nat.le_of_ble_eq_true rfl) (t_X12_isDigit (by omega) ew5) (am_le_rf _) ?_
      rintro _ _ ⟨rfl, rfl⟩
      refine op_if_ne (tgt := 86) dX12_atom_78 (by decide) (fun c6 => ?_) (fun c6 => ?_)
      · replace h := am_ie c6 h
        refine AW.perm [1] rfl ?_
        exact t_X12_atom_86 hd hr_X12_term hr_X12_sum hr_X12_atom h
      · replace h := am_ip c6 h
        refine op_aload_n (k := 1) dX12_atom_81 rfl rfl ?_
        obtain ⟨w7, ew7, h⟩ := am_bd h
        refine op_callV (M' := M_X12_fails) [] (S0 := []) dX12_atom_82 tw_1409 ok_X12_fails tw_1411 tw_56 kd_53 cls_12 rfl rfl rfl (Nat.le_of_ble_eq_true rfl) (Nat.le_of_ble_eq_true rfl) (t_X12_fails (by omega) ew7) (am_le_rf _) ?_
        rintro _ _ ⟨rfl, rfl⟩
        refine op_pop dX12_atom_85 rfl ?_
        refine AW.perm [1] rfl ?_
        exact t_X12_atom_86 hd hr_X12_term hr_X12_sum hr_X12_atom h
    · replace h := am_ip c4 h
      refine op_aload_n (k := 1) dX12_atom_37 rfl rfl ?_
      obtain ⟨w8, ew8, h⟩ := am_bd h
      refine op_callV (M' := M_X12_goesIn) [] (S0 := []) dX12_atom_38 tw_1537 ok_X12_goesIn tw_1539 tw_73 kd_53 cls_12 rfl rfl rfl (Nat.le_of_ble_eq_true rfl) (Nat.le_of_ble_eq_true rfl) (t_X12_goesIn (by omega) ew8) (am_le_rf _) ?_
      rintro _ _ ⟨rfl, rfl⟩
      refine op_if_ne (tgt := 46) dX12_atom_41 (by decide) (fun c9 => ?_) (fun c9 => ?_)
      · replace h := am_ie c9 h
        refine op_aload_n (k := 1) dX12_atom_46 rfl rfl ?_
        obtain ⟨w10, ew10, h⟩ := am_bd h
        refine op_callV (M' := M_X12_sum) [] (S0 := []) dX12_atom_47 tw_1525 ok_X12_sum tw_1527 tw_70 kd_53 cls_12 rfl rfl rfl (Nat.le_of_ble_eq_true rfl) (Nat.le_of_ble_eq_true rfl) (hr_X12_sum _ _ _ _ _ _ ew10) (am_le_rf _) ?_
        rintro _ _ ⟨rfl, rfl⟩
        refine op_istore_n (L' := [(2, .int w10.1), (1, .int w1.1), (0, .ref 53)]) dX12_atom_50 rfl (by decide) rfl ?_
        refine op_aload_n (k := 2) dX12_atom_51 rfl rfl ?_
        refine op_bipush (v := 93) dX12_atom_52 (by decide) ?_
        obtain ⟨w11, ew11, h⟩ := am_bd h
        refine op_callV (M' := M_X12_takes) [.int 93] (S0 := []) dX12_atom_54 tw_1509 ok_X12_takes tw_1511 tw_66 kd_53 cls_12 rfl rfl rfl (Nat.le_of_ble_eq_true rfl) (Nat.le_of_ble_eq_true rfl) (t_X12_takes (by omega) ew11) (am_le_rf _) ?_
        rintro _ _ ⟨rfl, rfl⟩
        refine op_if_ne (tgt := 62) dX12_atom_57 (by decide) (fun c12 => ?_) (fun c12 => ?_)
        · replace h := am_ie c12 h
          refine op_aload_n (k := 2) dX12_atom_62 rfl rfl ?_
          refine op_dup dX12_atom_63 rfl ?_
          refine st_getI (v := w11.2 53 12) dX12_atom_64 fl_X12_153 kd_53 (by decide) rfl rfl ?_
          refine op_iconst (v := 1) dX12_atom_67 (by decide) ?_
          refine op_isub dX12_atom_68 ?_
          refine st_putI dX12_atom_69 fl_X12_153 kd_53 (by decide) rfl ?_
          refine op_iload_n (k := 0) dX12_atom_72 rfl rfl ?_
          cases h
          exact (op_iret dX12_atom_73 rfl rfl ⟨rfl, rfl⟩)
        · replace h := am_ip c12 h
          refine op_iconst (v := 0) dX12_atom_60 (by decide) ?_
          cases h
          exact (op_iret dX12_atom_61 rfl rfl ⟨rfl, rfl⟩)
      · replace h := am_ip c9 h
        refine op_iconst (v := 0) dX12_atom_44 (by decide) ?_
        cases h
        exact (op_iret dX12_atom_45 rfl rfl ⟨rfl, rfl⟩)
  · replace h := am_ie c3 h
    refine op_aload_n (k := 1) dX12_atom_14 rfl rfl ?_
    refine op_dup dX12_atom_15 rfl ?_
    refine st_getI (v := w1.2 53 10) dX12_atom_16 fl_X12_141 kd_53 (by decide) rfl rfl ?_
    refine op_iconst (v := 1) dX12_atom_19 (by decide) ?_
    refine op_iadd dX12_atom_20 ?_
    refine st_putI dX12_atom_21 fl_X12_141 kd_53 (by decide) rfl ?_
    refine op_aload_n (k := 1) dX12_atom_24 rfl rfl ?_
    refine st_getR (z := 57) dX12_atom_25 fl_X12_20 kd_53 (by decide) rfl rr_53_4 ?_
    refine op_iload_n (k := 0) dX12_atom_28 rfl rfl ?_
    obtain ⟨g13, h⟩ := am_gd h
    refine st_iald (k := w1.1.toNatClampNeg) (v := w1.2 57 w1.1.toNatClampNeg) dX12_atom_29 kd_57 g13 rfl rfl ?_
    cases h
    exact (op_iret dX12_atom_30 rfl rfl ⟨rfl, rfl⟩)
set_option maxRecDepth 100000 in
set_option maxHeartbeats 4000000 in
theorem tx_X12_term {l : Launch} {ρ : am_R} (n : Nat) : ∀ (r d : Nat), r + 0 * n + 5 ≤ d → (∀ (I : Nat → Nat → Int32) (J : Nat → Nat → Int64) (T : Nat) (q : Int32 × (Nat → Nat → Int32)) (gc gs : Nat), (fx_X12_term n r).1 I J T  = some q → AW l ρ d M_X12_term 0 [(0, .ref 53)] [] (am_KD, gc, gs) (I, J, am_RT T) (am_KD, gc, gs) (fun v H' => v = [.int q.1] ∧ H' = (q.2, J, am_RT T))) ∧ (∀ (I : Nat → Nat → Int32) (J : Nat → Nat → Int64) (T : Nat) (q : Int32 × (Nat → Nat → Int32)) (gc gs : Nat), (fx_X12_term n r).2.1 I J T  = some q → AW l ρ d M_X12_sum 0 [(0, .ref 53)] [] (am_KD, gc, gs) (I, J, am_RT T) (am_KD, gc, gs) (fun v H' => v = [.int q.1] ∧ H' = (q.2, J, am_RT T))) ∧ (∀ (I : Nat → Nat → Int32) (J : Nat → Nat → Int64) (T : Nat) (q : Int32 × (Nat → Nat → Int32)) (gc gs : Nat), (fx_X12_term n r).2.2 I J T  = some q → AW l ρ d M_X12_atom 0 [(0, .ref 53)] [] (am_KD, gc, gs) (I, J, am_RT T) (am_KD, gc, gs) (fun v H' => v = [.int q.1] ∧ H' = (q.2, J, am_RT T))) := by
  intro r
  induction r with
  | zero =>
    intro d _
    exact ⟨(fun _ _ _ q _ _ h => by have h : none = some q := h; cases h), (fun _ _ _ q _ _ h => by have h : none = some q := h; cases h), (fun _ _ _ q _ _ h => by have h : none = some q := h; cases h)⟩
  | succ r ih =>
    intro d hd
    obtain ⟨d, rfl⟩ : ∃ e, d = e + 1 := ⟨d - 1, by omega⟩
    have ih := ih d (by omega)
    exact ⟨(fun _ _ _ q _ _ h => t_X12_term_0 (rc_X12_term := (fx_X12_term n r).1) (rc_X12_sum := (fx_X12_term n r).2.1) (rc_X12_atom := (fx_X12_term n r).2.2) (by omega) (ih.1) (ih.2.1) (ih.2.2) h), (fun _ _ _ q _ _ h => t_X12_sum_0 (rc_X12_term := (fx_X12_term n r).1) (rc_X12_sum := (fx_X12_term n r).2.1) (rc_X12_atom := (fx_X12_term n r).2.2) (by omega) (ih.1) (ih.2.1) (ih.2.2) h), (fun _ _ _ q _ _ h => t_X12_atom_0 (rc_X12_term := (fx_X12_term n r).1) (rc_X12_sum := (fx_X12_term n r).2.1) (rc_X12_atom := (fx_X12_term n r).2.2) (by omega) (ih.1) (ih.2.1) (ih.2.2) h)⟩
theorem t_X12_term {l : Launch} {ρ : am_R} {n d gc gs : Nat} {I : Nat → Nat → Int32} {J : Nat → Nat → Int64} {T : Nat} {q : Int32 × (Nat → Nat → Int32)} (hd : 1 * n + 5 ≤ d) (h : f_X12_term n I J T  = some q) : AW l ρ d M_X12_term 0 [(0, .ref 53)] [] (am_KD, gc, gs) (I, J, am_RT T) (am_KD, gc, gs) (fun v H' => v = [.int q.1] ∧ H' = (q.2, J, am_RT T)) := (tx_X12_term n n d (by omega)).1 _ _ _  _ _ _ h
theorem t_X12_sum {l : Launch} {ρ : am_R} {n d gc gs : Nat} {I : Nat → Nat → Int32} {J : Nat → Nat → Int64} {T : Nat} {q : Int32 × (Nat → Nat → Int32)} (hd : 1 * n + 5 ≤ d) (h : f_X12_sum n I J T  = some q) : AW l ρ d M_X12_sum 0 [(0, .ref 53)] [] (am_KD, gc, gs) (I, J, am_RT T) (am_KD, gc, gs) (fun v H' => v = [.int q.1] ∧ H' = (q.2, J, am_RT T)) := (tx_X12_term n n d (by omega)).2.1 _ _ _  _ _ _ h
theorem t_X12_atom {l : Launch} {ρ : am_R} {n d gc gs : Nat} {I : Nat → Nat → Int32} {J : Nat → Nat → Int64} {T : Nat} {q : Int32 × (Nat → Nat → Int32)} (hd : 1 * n + 5 ≤ d) (h : f_X12_atom n I J T  = some q) : AW l ρ d M_X12_atom 0 [(0, .ref 53)] [] (am_KD, gc, gs) (I, J, am_RT T) (am_KD, gc, gs) (fun v H' => v = [.int q.1] ∧ H' = (q.2, J, am_RT T)) := (tx_X12_term n n d (by omega)).2.2 _ _ _  _ _ _ h
def f_X12_back_82 (n : Nat) : Nat → (Nat → Nat → Int32) → (Nat → Nat → Int64) → Nat → Int32 → Option (Int32 × (Nat → Nat → Int32) × (Nat → Nat → Int64))
  | 0, _, _, _, _ => none
  | m + 1, I, J, T, x1 =>
    if 240 ≤ x1 then
     some (I 53 57, (am_u (am_u I 53 51 (I 53 57)) 53 52 (I 53 58)), J)
    else
     if ok_ix x1 240 then
      if ok_ix x1 240 then
       f_X12_back_82 n  m I ((am_u J 75 x1.toNatClampNeg (J 79 x1.toNatClampNeg))) T (x1 + 1)
      else none
     else none
def f_X12_back_56 (n : Nat) : Nat → (Nat → Nat → Int32) → (Nat → Nat → Int64) → Nat → Int32 → Option (Int32 × (Nat → Nat → Int32) × (Nat → Nat → Int64))
  | 0, _, _, _, _ => none
  | m + 1, I, J, T, x1 =>
    if 10 ≤ x1 then
     f_X12_back_82 n  n I J T 0
    else
     if ok_ix x1 10 then
      if ok_ix x1 10 then
       f_X12_back_56 n  m ((am_u I 59 x1.toNatClampNeg (I 77 x1.toNatClampNeg))) J T (x1 + 1)
      else none
     else none
def f_X12_back_16 (n : Nat) : Nat → (Nat → Nat → Int32) → (Nat → Nat → Int64) → Nat → Int32 → Option (Int32 × (Nat → Nat → Int32) × (Nat → Nat → Int64))
  | 0, _, _, _, _ => none
  | m + 1, I, J, T, x1 =>
    if 6 ≤ x1 then
     f_X12_back_56 n  n I J T 0
    else
     if ok_ix x1 6 then
      if ok_ix (3 * x1) 18 then
       if ok_ix x1 6 then
        if ok_ix x1 6 then
         f_X12_back_16 n  m ((am_u I 60 ((3 * x1).toNatClampNeg) (I 76 x1.toNatClampNeg))) ((am_u J 74 x1.toNatClampNeg (J 78 x1.toNatClampNeg))) T (x1 + 1)
        else none
       else none
      else none
     else none
def f_X12_back (n : Nat) (I : Nat → Nat → Int32) (J : Nat → Nat → Int64) (T : Nat) : Option (Int32 × (Nat → Nat → Int32) × (Nat → Nat → Int64)) :=
  if (I 53 59) = 0 then
   some ((-1), (am_u I 53 0 0), J)
  else
   f_X12_back_16 n  n ((am_u I 53 0 0)) J T 0
set_option maxRecDepth 100000 in
set_option maxHeartbeats 4000000 in
theorem t_X12_back_82 {l : Launch} {ρ : am_R} {n d gc gs : Nat} {q : Int32 × (Nat → Nat → Int32) × (Nat → Nat → Int64)} (hd : 0 * n + 0 ≤ d)
    : ∀ (m : Nat) (I : Nat → Nat → Int32) (J : Nat → Nat → Int64) (T : Nat) (x1 : Int32), f_X12_back_82 n  m I J T x1 = some q → AW l ρ d M_X12_back 82 [(0, .ref 53), (1, .int x1)] [] (am_KD, gc, gs) (I, J, am_RT T) (am_KD, gc, gs) (fun v H' => v = [.int q.1] ∧ H' = (q.2.1, q.2.2, am_RT T)) := by
  intro m
  induction m with
  | zero =>
    intro I J T x1 h
    rw [f_X12_back_82] at h
    cases h
  | succ m ih =>
    intro I J T x1 h
    rw [f_X12_back_82] at h
    refine op_iload_n (k := 1) dX12_back_82 rfl rfl ?_
    refine op_sipush (v := 240) dX12_back_83 (by decide) ?_
    refine op_icmp_ge (tgt := 107) dX12_back_86 (by decide) (fun c1 => ?_) (fun c1 => ?_)
    · replace h := am_ip c1 h
      refine op_aload_n (k := 0) dX12_back_107 rfl rfl ?_
      refine op_aload_n (k := 0) dX12_back_108 rfl rfl ?_
      refine st_getI (v := I 53 57) dX12_back_109 fl_X12_458 kd_53 (by decide) rfl rfl ?_
      refine st_putI dX12_back_112 fl_X12_303 kd_53 (by decide) rfl ?_
      refine op_aload_n (k := 0) dX12_back_115 rfl rfl ?_
      refine op_aload_n (k := 0) dX12_back_116 rfl rfl ?_
      refine st_getI (v := I 53 58) dX12_back_117 fl_X12_461 kd_53 (by decide) rfl rfl ?_
      refine st_putI dX12_back_120 fl_X12_306 kd_53 (by decide) rfl ?_
      refine op_aload_n (k := 0) dX12_back_123 rfl rfl ?_
      refine st_getI (v := I 53 57) dX12_back_124 fl_X12_303 kd_53 (by decide) rfl rfl ?_
      cases h
      exact (op_iret dX12_back_127 rfl rfl ⟨rfl, rfl⟩)
    · replace h := am_ie c1 h
      refine op_aload_n (k := 0) dX12_back_89 rfl rfl ?_
      refine st_getR (z := 75) dX12_back_90 fl_X12_93 kd_53 (by decide) rfl rr_53_50 ?_
      refine op_iload_n (k := 1) dX12_back_93 rfl rfl ?_
      refine op_aload_n (k := 0) dX12_back_94 rfl rfl ?_
      refine st_getR (z := 79) dX12_back_95 fl_X12_105 kd_53 (by decide) rfl rr_53_56 ?_
      refine op_iload_n (k := 1) dX12_back_98 rfl rfl ?_
      obtain ⟨g2, h⟩ := am_gd h
      refine st_lald (k := x1.toNatClampNeg) (v := J 79 x1.toNatClampNeg) dX12_back_99 kd_79 g2 rfl rfl ?_
      obtain ⟨g3, h⟩ := am_gd h
      refine st_last (k := x1.toNatClampNeg) dX12_back_100 kd_75 g3 rfl ?_
      refine op_iinc (k := 1) (v := x1 + 1) (L' := [(1, .int (x1 + 1)), (0, .ref 53)]) dX12_back_101 rfl rfl (by decide) rfl ?_
      refine op_goto (tgt := 82) dX12_back_104 (by decide) ?_
      refine AW.perm [1, 0] rfl ?_
      exact ih _ _ _ _ h
set_option maxRecDepth 100000 in
set_option maxHeartbeats 4000000 in
theorem t_X12_back_56 {l : Launch} {ρ : am_R} {n d gc gs : Nat} {q : Int32 × (Nat → Nat → Int32) × (Nat → Nat → Int64)} (hd : 0 * n + 0 ≤ d)
    : ∀ (m : Nat) (I : Nat → Nat → Int32) (J : Nat → Nat → Int64) (T : Nat) (x1 : Int32), f_X12_back_56 n  m I J T x1 = some q → AW l ρ d M_X12_back 56 [(0, .ref 53), (1, .int x1)] [] (am_KD, gc, gs) (I, J, am_RT T) (am_KD, gc, gs) (fun v H' => v = [.int q.1] ∧ H' = (q.2.1, q.2.2, am_RT T)) := by
  intro m
  induction m with
  | zero =>
    intro I J T x1 h
    rw [f_X12_back_56] at h
    cases h
  | succ m ih =>
    intro I J T x1 h
    rw [f_X12_back_56] at h
    refine op_iload_n (k := 1) dX12_back_56 rfl rfl ?_
    refine op_bipush (v := 10) dX12_back_57 (by decide) ?_
    refine op_icmp_ge (tgt := 80) dX12_back_59 (by decide) (fun c1 => ?_) (fun c1 => ?_)
    · replace h := am_ip c1 h
      refine op_iconst (v := 0) dX12_back_80 (by decide) ?_
      refine op_istore_n (L' := [(1, .int 0), (0, .ref 53)]) dX12_back_81 rfl (by decide) rfl ?_
      refine AW.perm [1, 0] rfl ?_
      exact t_X12_back_82 hd  n _ _ _ _ h
    · replace h := am_ie c1 h
      refine op_aload_n (k := 0) dX12_back_62 rfl rfl ?_
      refine st_getR (z := 59) dX12_back_63 fl_X12_40 kd_53 (by decide) rfl rr_53_19 ?_
      refine op_iload_n (k := 1) dX12_back_66 rfl rfl ?_
      refine op_aload_n (k := 0) dX12_back_67 rfl rfl ?_
      refine st_getR (z := 77) dX12_back_68 fl_X12_99 kd_53 (by decide) rfl rr_53_54 ?_
      refine op_iload_n (k := 1) dX12_back_71 rfl rfl ?_
      obtain ⟨g2, h⟩ := am_gd h
      refine st_iald (k := x1.toNatClampNeg) (v := I 77 x1.toNatClampNeg) dX12_back_72 kd_77 g2 rfl rfl ?_
      obtain ⟨g3, h⟩ := am_gd h
      refine st_iast (k := x1.toNatClampNeg) dX12_back_73 kd_59 g3 rfl ?_
      refine op_iinc (k := 1) (v := x1 + 1) (L' := [(1, .int (x1 + 1)), (0, .ref 53)]) dX12_back_74 rfl rfl (by decide) rfl ?_
      refine op_goto (tgt := 56) dX12_back_77 (by decide) ?_
      refine AW.perm [1, 0] rfl ?_
      exact ih _ _ _ _ h
set_option maxRecDepth 100000 in
set_option maxHeartbeats 4000000 in
theorem t_X12_back_16 {l : Launch} {ρ : am_R} {n d gc gs : Nat} {q : Int32 × (Nat → Nat → Int32) × (Nat → Nat → Int64)} (hd : 0 * n + 0 ≤ d)
    : ∀ (m : Nat) (I : Nat → Nat → Int32) (J : Nat → Nat → Int64) (T : Nat) (x1 : Int32), f_X12_back_16 n  m I J T x1 = some q → AW l ρ d M_X12_back 16 [(0, .ref 53), (1, .int x1)] [] (am_KD, gc, gs) (I, J, am_RT T) (am_KD, gc, gs) (fun v H' => v = [.int q.1] ∧ H' = (q.2.1, q.2.2, am_RT T)) := by
  intro m
  induction m with
  | zero =>
    intro I J T x1 h
    rw [f_X12_back_16] at h
    cases h
  | succ m ih =>
    intro I J T x1 h
    rw [f_X12_back_16] at h
    refine op_iload_n (k := 1) dX12_back_16 rfl rfl ?_
    refine op_bipush (v := 6) dX12_back_17 (by decide) ?_
    refine op_icmp_ge (tgt := 54) dX12_back_19 (by decide) (fun c1 => ?_) (fun c1 => ?_)
    · replace h := am_ip c1 h
      refine op_iconst (v := 0) dX12_back_54 (by decide) ?_
      refine op_istore_n (L' := [(1, .int 0), (0, .ref 53)]) dX12_back_55 rfl (by decide) rfl ?_
      refine AW.perm [1, 0] rfl ?_
      exact t_X12_back_56 hd  n _ _ _ _ h
    · replace h := am_ie c1 h
      refine op_aload_n (k := 0) dX12_back_22 rfl rfl ?_
      refine st_getR (z := 60) dX12_back_23 fl_X12_43 kd_53 (by decide) rfl rr_53_20 ?_
      refine op_iconst (v := 3) dX12_back_26 (by decide) ?_
      refine op_iload_n (k := 1) dX12_back_27 rfl rfl ?_
      refine op_imul dX12_back_28 ?_
      refine op_aload_n (k := 0) dX12_back_29 rfl rfl ?_
      refine st_getR (z := 76) dX12_back_30 fl_X12_96 kd_53 (by decide) rfl rr_53_53 ?_
      refine op_iload_n (k := 1) dX12_back_33 rfl rfl ?_
      obtain ⟨g2, h⟩ := am_gd h
      refine st_iald (k := x1.toNatClampNeg) (v := I 76 x1.toNatClampNeg) dX12_back_34 kd_76 g2 rfl rfl ?_
      obtain ⟨g3, h⟩ := am_gd h
      refine st_iast (k := (3 * x1).toNatClampNeg) dX12_back_35 kd_60 g3 rfl ?_
      refine op_aload_n (k := 0) dX12_back_36 rfl rfl ?_
      refine st_getR (z := 74) dX12_back_37 fl_X12_90 kd_53 (by decide) rfl rr_53_49 ?_
      refine op_iload_n (k := 1) dX12_back_40 rfl rfl ?_
      refine op_aload_n (k := 0) dX12_back_41 rfl rfl ?_
      refine st_getR (z := 78) dX12_back_42 fl_X12_102 kd_53 (by decide) rfl rr_53_55 ?_
      refine op_iload_n (k := 1) dX12_back_45 rfl rfl ?_
      obtain ⟨g4, h⟩ := am_gd h
      refine st_lald (k := x1.toNatClampNeg) (v := J 78 x1.toNatClampNeg) dX12_back_46 kd_78 g4 rfl rfl ?_
      obtain ⟨g5, h⟩ := am_gd h
      refine st_last (k := x1.toNatClampNeg) dX12_back_47 kd_74 g5 rfl ?_
      refine op_iinc (k := 1) (v := x1 + 1) (L' := [(1, .int (x1 + 1)), (0, .ref 53)]) dX12_back_48 rfl rfl (by decide) rfl ?_
      refine op_goto (tgt := 16) dX12_back_51 (by decide) ?_
      refine AW.perm [1, 0] rfl ?_
      exact ih _ _ _ _ h
set_option maxRecDepth 100000 in
set_option maxHeartbeats 4000000 in
theorem t_X12_back_0 {l : Launch} {ρ : am_R} {n d gc gs : Nat} {I : Nat → Nat → Int32} {J : Nat → Nat → Int64} {T : Nat} {q : Int32 × (Nat → Nat → Int32) × (Nat → Nat → Int64)} (hd : 0 * n + 0 ≤ d)
    (h : f_X12_back n  I J T  = some q) : AW l ρ d M_X12_back 0 [(0, .ref 53)] [] (am_KD, gc, gs) (I, J, am_RT T) (am_KD, gc, gs) (fun v H' => v = [.int q.1] ∧ H' = (q.2.1, q.2.2, am_RT T)) := by
  unfold f_X12_back at h
  refine op_aload_n (k := 0) dX12_back_0 rfl rfl ?_
  refine op_iconst (v := 0) dX12_back_1 (by decide) ?_
  refine st_putI dX12_back_2 fl_X12_108 kd_53 (by decide) rfl ?_
  refine op_aload_n (k := 0) dX12_back_5 rfl rfl ?_
  refine st_getI (v := I 53 59) dX12_back_6 fl_X12_309 kd_53 (by decide) rfl rfl ?_
  refine op_if_ne (tgt := 14) dX12_back_9 (by decide) (fun c1 => ?_) (fun c1 => ?_)
  · replace h := am_ie c1 h
    refine op_iconst (v := 0) dX12_back_14 (by decide) ?_
    refine op_istore_n (L' := [(1, .int 0), (0, .ref 53)]) dX12_back_15 rfl (by decide) rfl ?_
    refine AW.perm [1, 0] rfl ?_
    exact t_X12_back_16 hd  n _ _ _ _ h
  · replace h := am_ip c1 h
    refine op_iconst (v := (-1)) dX12_back_12 (by decide) ?_
    cases h
    exact (op_iret dX12_back_13 rfl rfl ⟨rfl, rfl⟩)
theorem t_X12_back {l : Launch} {ρ : am_R} {n d gc gs : Nat} {I : Nat → Nat → Int32} {J : Nat → Nat → Int64} {T : Nat} {q : Int32 × (Nat → Nat → Int32) × (Nat → Nat → Int64)} (hd : 0 * n + 0 ≤ d) (h : f_X12_back n I J T  = some q) : AW l ρ d M_X12_back 0 [(0, .ref 53)] [] (am_KD, gc, gs) (I, J, am_RT T) (am_KD, gc, gs) (fun v H' => v = [.int q.1] ∧ H' = (q.2.1, q.2.2, am_RT T)) := t_X12_back_0 hd h
def f_X12_beginCoaches_2 (n : Nat) : Nat → (Nat → Nat → Int32) → (Nat → Nat → Int64) → Nat → Int32 → Option ((Nat → Nat → Int32))
  | 0, _, _, _, _ => none
  | m + 1, I, J, T, x1 =>
    if 6 < x1 then
     some (I)
    else
     if ok_ix x1 7 then
      f_X12_beginCoaches_2 n  m ((am_u I 70 x1.toNatClampNeg 0)) J T (x1 + 1)
     else none
def f_X12_beginCoaches (n : Nat) (I : Nat → Nat → Int32) (J : Nat → Nat → Int64) (T : Nat) : Option ((Nat → Nat → Int32)) :=
  f_X12_beginCoaches_2 n  n I J T 0
set_option maxRecDepth 100000 in
set_option maxHeartbeats 4000000 in
theorem t_X12_beginCoaches_2 {l : Launch} {ρ : am_R} {n d gc gs : Nat} {q : (Nat → Nat → Int32)} (hd : 0 * n + 0 ≤ d)
    : ∀ (m : Nat) (I : Nat → Nat → Int32) (J : Nat → Nat → Int64) (T : Nat) (x1 : Int32), f_X12_beginCoaches_2 n  m I J T x1 = some q → AW l ρ d M_X12_beginCoaches 2 [(0, .ref 53), (1, .int x1)] [] (am_KD, gc, gs) (I, J, am_RT T) (am_KD, gc, gs) (fun v H' => v = [] ∧ H' = (q, J, am_RT T)) := by
  intro m
  induction m with
  | zero =>
    intro I J T x1 h
    rw [f_X12_beginCoaches_2] at h
    cases h
  | succ m ih =>
    intro I J T x1 h
    rw [f_X12_beginCoaches_2] at h
    refine op_iload_n (k := 1) dX12_beginCoaches_2 rfl rfl ?_
    refine op_bipush (v := 6) dX12_beginCoaches_3 (by decide) ?_
    refine op_icmp_gt (tgt := 21) dX12_beginCoaches_5 (by decide) (fun c1 => ?_) (fun c1 => ?_)
    · replace h := am_ip c1 h
      cases h
      exact (op_vret dX12_beginCoaches_21 rfl ⟨rfl, rfl⟩)
    · replace h := am_ie c1 h
      refine op_aload_n (k := 0) dX12_beginCoaches_8 rfl rfl ?_
      refine st_getR (z := 70) dX12_beginCoaches_9 fl_X12_78 kd_53 (by decide) rfl rr_53_40 ?_
      refine op_iload_n (k := 1) dX12_beginCoaches_12 rfl rfl ?_
      refine op_iconst (v := 0) dX12_beginCoaches_13 (by decide) ?_
      obtain ⟨g2, h⟩ := am_gd h
      refine st_iast (k := x1.toNatClampNeg) dX12_beginCoaches_14 kd_70 g2 rfl ?_
      refine op_iinc (k := 1) (v := x1 + 1) (L' := [(1, .int (x1 + 1)), (0, .ref 53)]) dX12_beginCoaches_15 rfl rfl (by decide) rfl ?_
      refine op_goto (tgt := 2) dX12_beginCoaches_18 (by decide) ?_
      refine AW.perm [1, 0] rfl ?_
      exact ih _ _ _ _ h
set_option maxRecDepth 100000 in
set_option maxHeartbeats 4000000 in
theorem t_X12_beginCoaches_0 {l : Launch} {ρ : am_R} {n d gc gs : Nat} {I : Nat → Nat → Int32} {J : Nat → Nat → Int64} {T : Nat} {q : (Nat → Nat → Int32)} (hd : 0 * n + 0 ≤ d)
    (h : f_X12_beginCoaches n  I J T  = some q) : AW l ρ d M_X12_beginCoaches 0 [(0, .ref 53)] [] (am_KD, gc, gs) (I, J, am_RT T) (am_KD, gc, gs) (fun v H' => v = [] ∧ H' = (q, J, am_RT T)) := by
  unfold f_X12_beginCoaches at h
  refine op_iconst (v := 0) dX12_beginCoaches_0 (by decide) ?_
  refine op_istore_n (L' := [(1, .int 0), (0, .ref 53)]) dX12_beginCoaches_1 rfl (by decide) rfl ?_
  refine AW.perm [1, 0] rfl ?_
  exact t_X12_beginCoaches_2 hd  n _ _ _ _ h
theorem t_X12_beginCoaches {l : Launch} {ρ : am_R} {n d gc gs : Nat} {I : Nat → Nat → Int32} {J : Nat → Nat → Int64} {T : Nat} {q : (Nat → Nat → Int32)} (hd : 0 * n + 0 ≤ d) (h : f_X12_beginCoaches n I J T  = some q) : AW l ρ d M_X12_beginCoaches 0 [(0, .ref 53)] [] (am_KD, gc, gs) (I, J, am_RT T) (am_KD, gc, gs) (fun v H' => v = [] ∧ H' = (q, J, am_RT T)) := t_X12_beginCoaches_0 hd h
def f_X12_isPlace (n : Nat) (I : Nat → Nat → Int32) (J : Nat → Nat → Int64) (T : Nat) (x1 : Int32) : Option (Int32) :=
  if (I 53 27) ≤ 0 then
   some (0)
  else
   if x1 < 0 then
    some (0)
   else
    if (I 53 26) < x1 then
     some (0)
    else
     some (1)
set_option maxRecDepth 100000 in
set_option maxHeartbeats 4000000 in
theorem t_X12_isPlace_0 {l : Launch} {ρ : am_R} {n d gc gs : Nat} {I : Nat → Nat → Int32} {J : Nat → Nat → Int64} {T : Nat} {x1 : Int32} {q : Int32} (hd : 0 * n + 0 ≤ d)
    (h : f_X12_isPlace n  I J T x1 = some q) : AW l ρ d M_X12_isPlace 0 [(0, .ref 53), (1, .int x1)] [] (am_KD, gc, gs) (I, J, am_RT T) (am_KD, gc, gs) (fun v H' => v = [.int q] ∧ H' = (I, J, am_RT T)) := by
  unfold f_X12_isPlace at h
  refine op_aload_n (k := 0) dX12_isPlace_0 rfl rfl ?_
  refine st_getI (v := I 53 27) dX12_isPlace_1 fl_X12_297 kd_53 (by decide) rfl rfl ?_
  refine op_if_le (tgt := 23) dX12_isPlace_4 (by decide) (fun c1 => ?_) (fun c1 => ?_)
  · replace h := am_ip c1 h
    refine op_iconst (v := 0) dX12_isPlace_23 (by decide) ?_
    cases h
    exact (op_iret dX12_isPlace_24 rfl (by decide) ⟨rfl, rfl⟩)
  · replace h := am_ie c1 h
    refine op_iload_n (k := 1) dX12_isPlace_7 rfl rfl ?_
    refine op_if_lt (tgt := 23) dX12_isPlace_8 (by decide) (fun c2 => ?_) (fun c2 => ?_)
    · replace h := am_ip c2 h
      refine op_iconst (v := 0) dX12_isPlace_23 (by decide) ?_
      cases h
      exact (op_iret dX12_isPlace_24 rfl (by decide) ⟨rfl, rfl⟩)
    · replace h := am_ie c2 h
      refine op_iload_n (k := 1) dX12_isPlace_11 rfl rfl ?_
      refine op_aload_n (k := 0) dX12_isPlace_12 rfl rfl ?_
      refine st_getI (v := I 53 26) dX12_isPlace_13 fl_X12_294 kd_53 (by decide) rfl rfl ?_
      refine op_icmp_gt (tgt := 23) dX12_isPlace_16 (by decide) (fun c3 => ?_) (fun c3 => ?_)
      · replace h := am_ip c3 h
        refine op_iconst (v := 0) dX12_isPlace_23 (by decide) ?_
        cases h
        exact (op_iret dX12_isPlace_24 rfl (by decide) ⟨rfl, rfl⟩)
      · replace h := am_ie c3 h
        refine op_iconst (v := 1) dX12_isPlace_19 (by decide) ?_
        refine op_goto (tgt := 24) dX12_isPlace_20 (by decide) ?_
        cases h
        exact (op_iret dX12_isPlace_24 rfl (by decide) ⟨rfl, rfl⟩)
theorem t_X12_isPlace {l : Launch} {ρ : am_R} {n d gc gs : Nat} {I : Nat → Nat → Int32} {J : Nat → Nat → Int64} {T : Nat} {x1 : Int32} {q : Int32} (hd : 0 * n + 0 ≤ d) (h : f_X12_isPlace n I J T x1 = some q) : AW l ρ d M_X12_isPlace 0 [(0, .ref 53), (1, .int x1)] [] (am_KD, gc, gs) (I, J, am_RT T) (am_KD, gc, gs) (fun v H' => v = [.int q] ∧ H' = (I, J, am_RT T)) := t_X12_isPlace_0 hd h
def f_X12_between (n : Nat) (I : Nat → Nat → Int32) (J : Nat → Nat → Int64) (T : Nat) (x1 : Int32) (x2 : Int32) : Option (Int32 × (Nat → Nat → Int32)) :=
  (f_X12_isPlace n ((am_u I 53 0 0)) J T x1).bind fun w1 =>
  if w1 = 0 then
   some ((-1), (am_u I 53 0 0))
  else
   (f_X12_isPlace n ((am_u I 53 0 0)) J T x2).bind fun w3 =>
   if w3 = 0 then
    some ((-1), (am_u I 53 0 0))
   else
    (f_X12_apart n ((am_u I 53 0 0)) J T x1 x2).bind fun w5 =>
    some (w5, (am_u I 53 0 0))
set_option maxRecDepth 100000 in
set_option maxHeartbeats 4000000 in
theorem t_X12_between_0 {l : Launch} {ρ : am_R} {n d gc gs : Nat} {I : Nat → Nat → Int32} {J : Nat → Nat → Int64} {T : Nat} {x1 : Int32} {x2 : Int32} {q : Int32 × (Nat → Nat → Int32)} (hd : 0 * n + 1 ≤ (d + 1))
    (h : f_X12_between n  I J T x1 x2 = some q) : AW l ρ (d + 1) M_X12_between 0 [(0, .ref 53), (1, .int x1), (2, .int x2)] [] (am_KD, gc, gs) (I, J, am_RT T) (am_KD, gc, gs) (fun v H' => v = [.int q.1] ∧ H' = (q.2, J, am_RT T)) := by
  unfold f_X12_between at h
  refine op_aload_n (k := 0) dX12_between_0 rfl rfl ?_
  refine op_iconst (v := 0) dX12_between_1 (by decide) ?_
  refine st_putI dX12_between_2 fl_X12_108 kd_53 (by decide) rfl ?_
  refine op_aload_n (k := 0) dX12_between_5 rfl rfl ?_
  refine op_iload_n (k := 1) dX12_between_6 rfl rfl ?_
  obtain ⟨w1, ew1, h⟩ := am_bd h
  refine op_callV (M' := M_X12_isPlace) [.int x1] (S0 := []) dX12_between_7 tw_1586 ok_X12_isPlace tw_1588 tw_79 kd_53 cls_12 rfl rfl rfl (Nat.le_of_ble_eq_true rfl) (Nat.le_of_ble_eq_true rfl) (t_X12_isPlace (by omega) ew1) (am_le_rf _) ?_
  rintro _ _ ⟨rfl, rfl⟩
  refine op_if_eq (tgt := 30) dX12_between_10 (by decide) (fun c2 => ?_) (fun c2 => ?_)
  · replace h := am_ip c2 h
    refine op_iconst (v := (-1)) dX12_between_30 (by decide) ?_
    cases h
    exact (op_iret dX12_between_31 rfl rfl ⟨rfl, rfl⟩)
  · replace h := am_ie c2 h
    refine op_aload_n (k := 0) dX12_between_13 rfl rfl ?_
    refine op_iload_n (k := 2) dX12_between_14 rfl rfl ?_
    obtain ⟨w3, ew3, h⟩ := am_bd h
    refine op_callV (M' := M_X12_isPlace) [.int x2] (S0 := []) dX12_between_15 tw_1586 ok_X12_isPlace tw_1588 tw_79 kd_53 cls_12 rfl rfl rfl (Nat.le_of_ble_eq_true rfl) (Nat.le_of_ble_eq_true rfl) (t_X12_isPlace (by omega) ew3) (am_le_rf _) ?_
    rintro _ _ ⟨rfl, rfl⟩
    refine op_if_eq (tgt := 30) dX12_between_18 (by decide) (fun c4 => ?_) (fun c4 => ?_)
    · replace h := am_ip c4 h
      refine op_iconst (v := (-1)) dX12_between_30 (by decide) ?_
      cases h
      exact (op_iret dX12_between_31 rfl rfl ⟨rfl, rfl⟩)
    · replace h := am_ie c4 h
      refine op_aload_n (k := 0) dX12_between_21 rfl rfl ?_
      refine op_iload_n (k := 1) dX12_between_22 rfl rfl ?_
      refine op_iload_n (k := 2) dX12_between_23 rfl rfl ?_
      obtain ⟨w5, ew5, h⟩ := am_bd h
      refine op_callV (M' := M_X12_apart) [.int x1, .int x2] (S0 := []) dX12_between_24 tw_1594 ok_X12_apart tw_1596 tw_80 kd_53 cls_12 rfl rfl rfl (Nat.le_of_ble_eq_true rfl) (Nat.le_of_ble_eq_true rfl) (t_X12_apart (by omega) ew5) (am_le_rf _) ?_
      rintro _ _ ⟨rfl, rfl⟩
      refine op_goto (tgt := 31) dX12_between_27 (by decide) ?_
      cases h
      exact (op_iret dX12_between_31 rfl rfl ⟨rfl, rfl⟩)
theorem t_X12_between {l : Launch} {ρ : am_R} {n d gc gs : Nat} {I : Nat → Nat → Int32} {J : Nat → Nat → Int64} {T : Nat} {x1 : Int32} {x2 : Int32} {q : Int32 × (Nat → Nat → Int32)} (hd : 0 * n + 1 ≤ d) (h : f_X12_between n I J T x1 x2 = some q) : AW l ρ d M_X12_between 0 [(0, .ref 53), (1, .int x1), (2, .int x2)] [] (am_KD, gc, gs) (I, J, am_RT T) (am_KD, gc, gs) (fun v H' => v = [.int q.1] ∧ H' = (q.2, J, am_RT T)) := by
  obtain ⟨d, rfl⟩ : ∃ e, d = e + 1 := ⟨d - 1, by omega⟩
  exact t_X12_between_0 hd h
def f_X12_isIn (n : Nat) (I : Nat → Nat → Int32) (J : Nat → Nat → Int64) (T : Nat) (y0 : Int64) (y2 : Int64) (y4 : Int64) : Option (Int32) :=
  if (lg_cmp y0 y2) < 0 then
   some (0)
  else
   if 0 < (lg_cmp y0 y4) then
    some (0)
   else
    some (1)
set_option maxRecDepth 100000 in
set_option maxHeartbeats 4000000 in
theorem t_X12_isIn_0 {l : Launch} {ρ : am_R} {n d gc gs : Nat} {I : Nat → Nat → Int32} {J : Nat → Nat → Int64} {T : Nat} {y0 : Int64} {y2 : Int64} {y4 : Int64} {q : Int32} (hd : 0 * n + 0 ≤ d)
    (h : f_X12_isIn n  I J T y0 y2 y4 = some q) : AW l ρ d M_X12_isIn 0 [(0, .long y0), (2, .long y2), (4, .long y4)] [] (am_KD, gc, gs) (I, J, am_RT T) (am_KD, gc, gs) (fun v H' => v = [.int q] ∧ H' = (I, J, am_RT T)) := by
  unfold f_X12_isIn at h
  refine op_lload_n (k := 0) dX12_isIn_0 rfl rfl ?_
  refine op_lload_n (k := 1) dX12_isIn_1 rfl rfl ?_
  refine op_lcmp dX12_isIn_2 ?_
  refine op_if_lt (tgt := 17) dX12_isIn_3 (by decide) (fun c1 => ?_) (fun c1 => ?_)
  · replace h := am_ip c1 h
    refine op_iconst (v := 0) dX12_isIn_17 (by decide) ?_
    cases h
    exact (op_iret dX12_isIn_18 rfl (by decide) ⟨rfl, rfl⟩)
  · replace h := am_ie c1 h
    refine op_lload_n (k := 0) dX12_isIn_6 rfl rfl ?_
    refine op_lload (k := 2) dX12_isIn_7 rfl ?_
    refine op_lcmp dX12_isIn_9 ?_
    refine op_if_gt (tgt := 17) dX12_isIn_10 (by decide) (fun c2 => ?_) (fun c2 => ?_)
    · replace h := am_ip c2 h
      refine op_iconst (v := 0) dX12_isIn_17 (by decide) ?_
      cases h
      exact (op_iret dX12_isIn_18 rfl (by decide) ⟨rfl, rfl⟩)
    · replace h := am_ie c2 h
      refine op_iconst (v := 1) dX12_isIn_13 (by decide) ?_
      refine op_goto (tgt := 18) dX12_isIn_14 (by decide) ?_
      cases h
      exact (op_iret dX12_isIn_18 rfl (by decide) ⟨rfl, rfl⟩)
theorem t_X12_isIn {l : Launch} {ρ : am_R} {n d gc gs : Nat} {I : Nat → Nat → Int32} {J : Nat → Nat → Int64} {T : Nat} {y0 : Int64} {y2 : Int64} {y4 : Int64} {q : Int32} (hd : 0 * n + 0 ≤ d) (h : f_X12_isIn n I J T y0 y2 y4 = some q) : AW l ρ d M_X12_isIn 0 [(0, .long y0), (2, .long y2), (4, .long y4)] [] (am_KD, gc, gs) (I, J, am_RT T) (am_KD, gc, gs) (fun v H' => v = [.int q] ∧ H' = (I, J, am_RT T)) := t_X12_isIn_0 hd h
def f_X12_everybody (n : Nat) (I : Nat → Nat → Int32) (J : Nat → Nat → Int64) (T : Nat) : Option (Int32) :=
  some ((1 <<< ((I 53 27) &&& 31)) - 1)
set_option maxRecDepth 100000 in
set_option maxHeartbeats 4000000 in
theorem t_X12_everybody_0 {l : Launch} {ρ : am_R} {n d gc gs : Nat} {I : Nat → Nat → Int32} {J : Nat → Nat → Int64} {T : Nat} {q : Int32} (hd : 0 * n + 0 ≤ d)
    (h : f_X12_everybody n  I J T  = some q) : AW l ρ d M_X12_everybody 0 [(0, .ref 53)] [] (am_KD, gc, gs) (I, J, am_RT T) (am_KD, gc, gs) (fun v H' => v = [.int q] ∧ H' = (I, J, am_RT T)) := by
  unfold f_X12_everybody at h
  refine op_iconst (v := 1) dX12_everybody_0 (by decide) ?_
  refine op_aload_n (k := 0) dX12_everybody_1 rfl rfl ?_
  refine st_getI (v := I 53 27) dX12_everybody_2 fl_X12_297 kd_53 (by decide) rfl rfl ?_
  refine op_ishl dX12_everybody_5 ?_
  refine op_iconst (v := 1) dX12_everybody_6 (by decide) ?_
  refine op_isub dX12_everybody_7 ?_
  cases h
  exact (op_iret dX12_everybody_8 rfl rfl ⟨rfl, rfl⟩)
theorem t_X12_everybody {l : Launch} {ρ : am_R} {n d gc gs : Nat} {I : Nat → Nat → Int32} {J : Nat → Nat → Int64} {T : Nat} {q : Int32} (hd : 0 * n + 0 ≤ d) (h : f_X12_everybody n I J T  = some q) : AW l ρ d M_X12_everybody 0 [(0, .ref 53)] [] (am_KD, gc, gs) (I, J, am_RT T) (am_KD, gc, gs) (fun v H' => v = [.int q] ∧ H' = (I, J, am_RT T)) := t_X12_everybody_0 hd h
def f_X12_has (n : Nat) (I : Nat → Nat → Int32) (J : Nat → Nat → Int64) (T : Nat) (x0 : Int32) (x1 : Int32) : Option (Int32) :=
  if ((x0 >>> (x1 &&& 31)) &&& 1) = 1 then
   some (1)
  else
   some (0)
set_option maxRecDepth 100000 in
set_option maxHeartbeats 4000000 in
theorem t_X12_has_0 {l : Launch} {ρ : am_R} {n d gc gs : Nat} {I : Nat → Nat → Int32} {J : Nat → Nat → Int64} {T : Nat} {x0 : Int32} {x1 : Int32} {q : Int32} (hd : 0 * n + 0 ≤ d)
    (h : f_X12_has n  I J T x0 x1 = some q) : AW l ρ d M_X12_has 0 [(0, .int x0), (1, .int x1)] [] (am_KD, gc, gs) (I, J, am_RT T) (am_KD, gc, gs) (fun v H' => v = [.int q] ∧ H' = (I, J, am_RT T)) := by
  unfold f_X12_has at h
  refine op_iload_n (k := 0) dX12_has_0 rfl rfl ?_
  refine op_iload_n (k := 1) dX12_has_1 rfl rfl ?_
  refine op_ishr dX12_has_2 ?_
  refine op_iconst (v := 1) dX12_has_3 (by decide) ?_
  refine op_iand dX12_has_4 ?_
  refine op_iconst (v := 1) dX12_has_5 (by decide) ?_
  refine op_icmp_ne (tgt := 13) dX12_has_6 (by decide) (fun c1 => ?_) (fun c1 => ?_)
  · replace h := am_ie c1 h
    refine op_iconst (v := 0) dX12_has_13 (by decide) ?_
    cases h
    exact (op_iret dX12_has_14 rfl (by decide) ⟨rfl, rfl⟩)
  · replace h := am_ip c1 h
    refine op_iconst (v := 1) dX12_has_9 (by decide) ?_
    refine op_goto (tgt := 14) dX12_has_10 (by decide) ?_
    cases h
    exact (op_iret dX12_has_14 rfl (by decide) ⟨rfl, rfl⟩)
theorem t_X12_has {l : Launch} {ρ : am_R} {n d gc gs : Nat} {I : Nat → Nat → Int32} {J : Nat → Nat → Int64} {T : Nat} {x0 : Int32} {x1 : Int32} {q : Int32} (hd : 0 * n + 0 ≤ d) (h : f_X12_has n I J T x0 x1 = some q) : AW l ρ d M_X12_has 0 [(0, .int x0), (1, .int x1)] [] (am_KD, gc, gs) (I, J, am_RT T) (am_KD, gc, gs) (fun v H' => v = [.int q] ∧ H' = (I, J, am_RT T)) := t_X12_has_0 hd h
def f_X12_isOn_69 (n : Nat) (k5 : (Nat → Nat → Int32) → (Nat → Nat → Int64) → Nat → Int32 → Int32 → Int32 → Int32 → Option (Int32)) (I : Nat → Nat → Int32) (J : Nat → Nat → Int64) (T : Nat) (x1 : Int32) (x2 : Int32) (x3 : Int32) (x4 : Int32) : Option (Int32) :=
  k5 I J T x1 x2 x3 (x4 + 1)
def f_X12_isOn_67 (n : Nat) (k5 : (Nat → Nat → Int32) → (Nat → Nat → Int64) → Nat → Int32 → Int32 → Int32 → Int32 → Option (Int32)) (I : Nat → Nat → Int32) (J : Nat → Nat → Int64) (T : Nat) (x1 : Int32) (x2 : Int32) (x4 : Int32) (s0 : Int32) (s1 : Int32) : Option (Int32) :=
  f_X12_isOn_69 n k5 I J T x1 x2 (s0 + s1) x4
def f_X12_isOn_37 (n : Nat) (k5 : (Nat → Nat → Int32) → (Nat → Nat → Int64) → Nat → Int32 → Int32 → Int32 → Int32 → Option (Int32)) : Nat → (Nat → Nat → Int32) → (Nat → Nat → Int64) → Nat → Int32 → Int32 → Int32 → Int32 → Int32 → Option (Int32)
  | 0, _, _, _, _, _, _, _, _ => none
  | m + 1, I, J, T, x1, x2, x3, x4, x5 =>
    if x5 ≤ x2 then
     if x5 = x2 then
      f_X12_isOn_67 n k5 I J T x1 x2 x4 x3 1
     else
      f_X12_isOn_67 n k5 I J T x1 x2 x4 x3 0
    else
     if ok_ix x5 10 then
      f_X12_isOn_37 n k5 m I J T x1 x2 x3 x4 (I 58 x5.toNatClampNeg)
     else none
def f_X12_isOn_5 (n : Nat) : Nat → (Nat → Nat → Int32) → (Nat → Nat → Int64) → Nat → Int32 → Int32 → Int32 → Int32 → Option (Int32)
  | 0, _, _, _, _, _, _, _ => none
  | m + 1, I, J, T, x1, x2, x3, x4 =>
    if (I 53 27) ≤ x4 then
     some (x3)
    else
     (f_X12_has n I J T x1 x4).bind fun w2 =>
     if w2 = 0 then
      f_X12_isOn_69 n (f_X12_isOn_5 n m) I J T x1 x2 x3 x4
     else
      if ok_ix (3 * x4) 18 then
       f_X12_isOn_37 n (f_X12_isOn_5 n m) n I J T x1 x2 x3 x4 (I 60 ((3 * x4).toNatClampNeg))
      else none
def f_X12_isOn (n : Nat) (I : Nat → Nat → Int32) (J : Nat → Nat → Int64) (T : Nat) (x1 : Int32) (x2 : Int32) : Option (Int32) :=
  f_X12_isOn_5 n  n I J T x1 x2 0 0
set_option maxRecDepth 100000 in
set_option maxHeartbeats 4000000 in
theorem t_X12_isOn_69 {l : Launch} {ρ : am_R} {n d gc gs : Nat} {k5 : (Nat → Nat → Int32) → (Nat → Nat → Int64) → Nat → Int32 → Int32 → Int32 → Int32 → Option (Int32)} {I : Nat → Nat → Int32} {J : Nat → Nat → Int64} {T : Nat} {x1 : Int32} {x2 : Int32} {x3 : Int32} {x4 : Int32} {q : Int32} (hd : 0 * n + 1 ≤ (d + 1))
    (hk5 : ∀ (I : Nat → Nat → Int32) (J : Nat → Nat → Int64) (T : Nat) (x1 : Int32) (x2 : Int32) (x3 : Int32) (x4 : Int32), k5 I J T x1 x2 x3 x4 = some q → AW l ρ (d + 1) M_X12_isOn 5 [(0, .ref 53), (1, .int x1), (2, .int x2), (3, .int x3), (4, .int x4)] [] (am_KD, gc, gs) (I, J, am_RT T) (am_KD, gc, gs) (fun v H' => v = [.int q] ∧ H' = (I, J, am_RT T)))
    (h : f_X12_isOn_69 n k5 I J T x1 x2 x3 x4 = some q) : AW l ρ (d + 1) M_X12_isOn 69 [(0, .ref 53), (1, .int x1), (2, .int x2), (3, .int x3), (4, .int x4)] [] (am_KD, gc, gs) (I, J, am_RT T) (am_KD, gc, gs) (fun v H' => v = [.int q] ∧ H' = (I, J, am_RT T)) := by
  unfold f_X12_isOn_69 at h
  refine op_iinc (k := 4) (v := x4 + 1) (L' := [(4, .int (x4 + 1)), (0, .ref 53), (1, .int x1), (2, .int x2), (3, .int x3)]) dX12_isOn_69 rfl rfl (by decide) rfl ?_
  refine op_goto (tgt := 5) dX12_isOn_72 (by decide) ?_
  refine AW.perm [1, 2, 3, 4, 0] rfl ?_
  exact hk5 _ _ _ _ _ _ _ h
set_option maxRecDepth 100000 in
set_option maxHeartbeats 4000000 in
theorem t_X12_isOn_67 {l : Launch} {ρ : am_R} {n d gc gs : Nat} {k5 : (Nat → Nat → Int32) → (Nat → Nat → Int64) → Nat → Int32 → Int32 → Int32 → Int32 → Option (Int32)} {I : Nat → Nat → Int32} {J : Nat → Nat → Int64} {T : Nat} {x1 : Int32} {x2 : Int32} {x4 : Int32} {s0 : Int32} {s1 : Int32} {q : Int32} (hd : 0 * n + 1 ≤ (d + 1))
    (hk5 : ∀ (I : Nat → Nat → Int32) (J : Nat → Nat → Int64) (T : Nat) (x1 : Int32) (x2 : Int32) (x3 : Int32) (x4 : Int32), k5 I J T x1 x2 x3 x4 = some q → AW l ρ (d + 1) M_X12_isOn 5 [(0, .ref 53), (1, .int x1), (2, .int x2), (3, .int x3), (4, .int x4)] [] (am_KD, gc, gs) (I, J, am_RT T) (am_KD, gc, gs) (fun v H' => v = [.int q] ∧ H' = (I, J, am_RT T)))
    (h : f_X12_isOn_67 n k5 I J T x1 x2 x4 s0 s1 = some q) : AW l ρ (d + 1) M_X12_isOn 67 [(0, .ref 53), (1, .int x1), (2, .int x2), (4, .int x4)] [.int s1, .int s0] (am_KD, gc, gs) (I, J, am_RT T) (am_KD, gc, gs) (fun v H' => v = [.int q] ∧ H' = (I, J, am_RT T)) := by
  unfold f_X12_isOn_67 at h
  refine op_iadd dX12_isOn_67 ?_
  refine op_istore_n (L' := [(3, .int (s0 + s1)), (0, .ref 53), (1, .int x1), (2, .int x2), (4, .int x4)]) dX12_isOn_68 rfl (by decide) rfl ?_
  refine AW.perm [1, 2, 3, 0, 4] rfl ?_
  exact t_X12_isOn_69 hd hk5 h
set_option maxRecDepth 100000 in
set_option maxHeartbeats 4000000 in
theorem t_X12_isOn_37 {l : Launch} {ρ : am_R} {n d gc gs : Nat} {k5 : (Nat → Nat → Int32) → (Nat → Nat → Int64) → Nat → Int32 → Int32 → Int32 → Int32 → Option (Int32)} {q : Int32} (hd : 0 * n + 1 ≤ (d + 1))
    (hk5 : ∀ (I : Nat → Nat → Int32) (J : Nat → Nat → Int64) (T : Nat) (x1 : Int32) (x2 : Int32) (x3 : Int32) (x4 : Int32), k5 I J T x1 x2 x3 x4 = some q → AW l ρ (d + 1) M_X12_isOn 5 [(0, .ref 53), (1, .int x1), (2, .int x2), (3, .int x3), (4, .int x4)] [] (am_KD, gc, gs) (I, J, am_RT T) (am_KD, gc, gs) (fun v H' => v = [.int q] ∧ H' = (I, J, am_RT T)))
    : ∀ (m : Nat) (I : Nat → Nat → Int32) (J : Nat → Nat → Int64) (T : Nat) (x1 : Int32) (x2 : Int32) (x3 : Int32) (x4 : Int32) (x5 : Int32), f_X12_isOn_37 n k5 m I J T x1 x2 x3 x4 x5 = some q → AW l ρ (d + 1) M_X12_isOn 37 [(0, .ref 53), (1, .int x1), (2, .int x2), (3, .int x3), (4, .int x4), (5, .int x5)] [] (am_KD, gc, gs) (I, J, am_RT T) (am_KD, gc, gs) (fun v H' => v = [.int q] ∧ H' = (I, J, am_RT T)) := by
  intro m
  induction m with
  | zero =>
    intro I J T x1 x2 x3 x4 x5 h
    rw [f_X12_isOn_37] at h
    cases h
  | succ m ih =>
    intro I J T x1 x2 x3 x4 x5 h
    rw [f_X12_isOn_37] at h
    refine op_iload (k := 5) dX12_isOn_37 rfl ?_
    refine op_iload_n (k := 2) dX12_isOn_39 rfl rfl ?_
    refine op_icmp_le (tgt := 55) dX12_isOn_40 (by decide) (fun c1 => ?_) (fun c1 => ?_)
    · replace h := am_ip c1 h
      refine op_iload_n (k := 3) dX12_isOn_55 rfl rfl ?_
      refine op_iload (k := 5) dX12_isOn_56 rfl ?_
      refine op_iload_n (k := 2) dX12_isOn_58 rfl rfl ?_
      refine op_icmp_ne (tgt := 66) dX12_isOn_59 (by decide) (fun c2 => ?_) (fun c2 => ?_)
      · replace h := am_ie c2 h
        refine op_iconst (v := 0) dX12_isOn_66 (by decide) ?_
        refine AW.perm [0, 1, 2, 4] rfl ?_
        exact t_X12_isOn_67 hd hk5 h
      · replace h := am_ip c2 h
        refine op_iconst (v := 1) dX12_isOn_62 (by decide) ?_
        refine op_goto (tgt := 67) dX12_isOn_63 (by decide) ?_
        refine AW.perm [0, 1, 2, 4] rfl ?_
        exact t_X12_isOn_67 hd hk5 h
    · replace h := am_ie c1 h
      refine op_aload_n (k := 0) dX12_isOn_43 rfl rfl ?_
      refine st_getR (z := 58) dX12_isOn_44 fl_X12_37 kd_53 (by decide) rfl rr_53_18 ?_
      refine op_iload (k := 5) dX12_isOn_47 rfl ?_
      obtain ⟨g3, h⟩ := am_gd h
      refine st_iald (k := x5.toNatClampNeg) (v := I 58 x5.toNatClampNeg) dX12_isOn_49 kd_58 g3 rfl rfl ?_
      refine op_istore (L' := [(5, .int (I 58 x5.toNatClampNeg)), (0, .ref 53), (1, .int x1), (2, .int x2), (3, .int x3), (4, .int x4)]) dX12_isOn_50 (by decide) rfl ?_
      refine op_goto (tgt := 37) dX12_isOn_52 (by decide) ?_
      refine AW.perm [1, 2, 3, 4, 5, 0] rfl ?_
      exact ih _ _ _ _ _ _ _ _ h
set_option maxRecDepth 100000 in
set_option maxHeartbeats 4000000 in
theorem t_X12_isOn_5 {l : Launch} {ρ : am_R} {n d gc gs : Nat} {q : Int32} (hd : 0 * n + 1 ≤ (d + 1))
    : ∀ (m : Nat) (I : Nat → Nat → Int32) (J : Nat → Nat → Int64) (T : Nat) (x1 : Int32) (x2 : Int32) (x3 : Int32) (x4 : Int32), f_X12_isOn_5 n  m I J T x1 x2 x3 x4 = some q → AW l ρ (d + 1) M_X12_isOn 5 [(0, .ref 53), (1, .int x1), (2, .int x2), (3, .int x3), (4, .int x4)] [] (am_KD, gc, gs) (I, J, am_RT T) (am_KD, gc, gs) (fun v H' => v = [.int q] ∧ H' = (I, J, am_RT T)) := by
  intro m
  induction m with
  | zero =>
    intro I J T x1 x2 x3 x4 h
    rw [f_X12_isOn_5] at h
    cases h
  | succ m ih =>
    intro I J T x1 x2 x3 x4 h
    rw [f_X12_isOn_5] at h
    refine op_iload (k := 4) dX12_isOn_5 rfl ?_
    refine op_aload_n (k := 0) dX12_isOn_7 rfl rfl ?_
    refine st_getI (v := I 53 27) dX12_isOn_8 fl_X12_297 kd_53 (by decide) rfl rfl ?_
    refine op_icmp_ge (tgt := 75) dX12_isOn_11 (by decide) (fun c1 => ?_) (fun c1 => ?_)
    · replace h := am_ip c1 h
      refine op_iload_n (k := 3) dX12_isOn_75 rfl rfl ?_
      cases h
      exact (op_iret dX12_isOn_76 rfl rfl ⟨rfl, rfl⟩)
    · replace h := am_ie c1 h
      refine op_iload_n (k := 1) dX12_isOn_14 rfl rfl ?_
      refine op_iload (k := 4) dX12_isOn_15 rfl ?_
      obtain ⟨w2, ew2, h⟩ := am_bd h
      refine op_callS (M' := M_X12_has) [.int x1, .int x4] (S0 := []) dX12_isOn_17 tw_1471 ok_X12_has tw_1472 rfl rfl (Nat.le_of_ble_eq_true rfl) (Nat.le_of_ble_eq_true rfl) (t_X12_has (by omega) ew2) (am_le_rf _) ?_
      rintro _ _ ⟨rfl, rfl⟩
      refine op_if_ne (tgt := 26) dX12_isOn_20 (by decide) (fun c3 => ?_) (fun c3 => ?_)
      · replace h := am_ie c3 h
        refine op_aload_n (k := 0) dX12_isOn_26 rfl rfl ?_
        refine st_getR (z := 60) dX12_isOn_27 fl_X12_43 kd_53 (by decide) rfl rr_53_20 ?_
        refine op_iconst (v := 3) dX12_isOn_30 (by decide) ?_
        refine op_iload (k := 4) dX12_isOn_31 rfl ?_
        refine op_imul dX12_isOn_33 ?_
        obtain ⟨g4, h⟩ := am_gd h
        refine st_iald (k := (3 * x4).toNatClampNeg) (v := I 60 ((3 * x4).toNatClampNeg)) dX12_isOn_34 kd_60 g4 rfl rfl ?_
        refine op_istore (L' := [(5, .int (I 60 ((3 * x4).toNatClampNeg))), (0, .ref 53), (1, .int x1), (2, .int x2), (3, .int x3), (4, .int x4)]) dX12_isOn_35 (by decide) rfl ?_
        refine AW.perm [1, 2, 3, 4, 5, 0] rfl ?_
        exact t_X12_isOn_37 hd ih n _ _ _ _ _ _ _ _ h
      · replace h := am_ip c3 h
        refine op_goto (tgt := 69) dX12_isOn_23 (by decide) ?_
        exact t_X12_isOn_69 hd ih h
set_option maxRecDepth 100000 in
set_option maxHeartbeats 4000000 in
theorem t_X12_isOn_0 {l : Launch} {ρ : am_R} {n d gc gs : Nat} {I : Nat → Nat → Int32} {J : Nat → Nat → Int64} {T : Nat} {x1 : Int32} {x2 : Int32} {q : Int32} (hd : 0 * n + 1 ≤ (d + 1))
    (h : f_X12_isOn n  I J T x1 x2 = some q) : AW l ρ (d + 1) M_X12_isOn 0 [(0, .ref 53), (1, .int x1), (2, .int x2)] [] (am_KD, gc, gs) (I, J, am_RT T) (am_KD, gc, gs) (fun v H' => v = [.int q] ∧ H' = (I, J, am_RT T)) := by
  unfold f_X12_isOn at h
  refine op_iconst (v := 0) dX12_isOn_0 (by decide) ?_
  refine op_istore_n (L' := [(3, .int 0), (0, .ref 53), (1, .int x1), (2, .int x2)]) dX12_isOn_1 rfl (by decide) rfl ?_
  refine op_iconst (v := 0) dX12_isOn_2 (by decide) ?_
  refine op_istore (L' := [(4, .int 0), (3, .int 0), (0, .ref 53), (1, .int x1), (2, .int x2)]) dX12_isOn_3 (by decide) rfl ?_
  refine AW.perm [2, 3, 4, 1, 0] rfl ?_
  exact t_X12_isOn_5 hd  n _ _ _ _ _ _ _ h
theorem t_X12_isOn {l : Launch} {ρ : am_R} {n d gc gs : Nat} {I : Nat → Nat → Int32} {J : Nat → Nat → Int64} {T : Nat} {x1 : Int32} {x2 : Int32} {q : Int32} (hd : 0 * n + 1 ≤ d) (h : f_X12_isOn n I J T x1 x2 = some q) : AW l ρ d M_X12_isOn 0 [(0, .ref 53), (1, .int x1), (2, .int x2)] [] (am_KD, gc, gs) (I, J, am_RT T) (am_KD, gc, gs) (fun v H' => v = [.int q] ∧ H' = (I, J, am_RT T)) := by
  obtain ⟨d, rfl⟩ : ∃ e, d = e + 1 := ⟨d - 1, by omega⟩
  exact t_X12_isOn_0 hd h
def f_X12_milesOf_32 (n : Nat) (k4 : (Nat → Nat → Int32) → (Nat → Nat → Int64) → Nat → Int32 → Int32 → Int32 → Option (Int32)) (I : Nat → Nat → Int32) (J : Nat → Nat → Int64) (T : Nat) (x1 : Int32) (x3 : Int32) (s0 : Int32) (s1 : Int32) : Option (Int32) :=
  k4 I J T x1 (s0 + s1) (x3 + 1)
def f_X12_milesOf_4 (n : Nat) : Nat → (Nat → Nat → Int32) → (Nat → Nat → Int64) → Nat → Int32 → Int32 → Int32 → Option (Int32)
  | 0, _, _, _, _, _, _ => none
  | m + 1, I, J, T, x1, x2, x3 =>
    if (I 53 26) < x3 then
     some (x2)
    else
     (f_X12_isOn n I J T x1 x3).bind fun w2 =>
     if w2 ≤ 0 then
      f_X12_milesOf_32 n (f_X12_milesOf_4 n m) I J T x1 x3 x2 0
     else
      if ok_ix x3 10 then
       f_X12_milesOf_32 n (f_X12_milesOf_4 n m) I J T x1 x3 x2 (I 59 x3.toNatClampNeg)
      else none
def f_X12_milesOf (n : Nat) (I : Nat → Nat → Int32) (J : Nat → Nat → Int64) (T : Nat) (x1 : Int32) : Option (Int32) :=
  f_X12_milesOf_4 n  n I J T x1 0 1
set_option maxRecDepth 100000 in
set_option maxHeartbeats 4000000 in
theorem t_X12_milesOf_32 {l : Launch} {ρ : am_R} {n d gc gs : Nat} {k4 : (Nat → Nat → Int32) → (Nat → Nat → Int64) → Nat → Int32 → Int32 → Int32 → Option (Int32)} {I : Nat → Nat → Int32} {J : Nat → Nat → Int64} {T : Nat} {x1 : Int32} {x3 : Int32} {s0 : Int32} {s1 : Int32} {q : Int32} (hd : 0 * n + 2 ≤ (d + 1))
    (hk4 : ∀ (I : Nat → Nat → Int32) (J : Nat → Nat → Int64) (T : Nat) (x1 : Int32) (x2 : Int32) (x3 : Int32), k4 I J T x1 x2 x3 = some q → AW l ρ (d + 1) M_X12_milesOf 4 [(0, .ref 53), (1, .int x1), (2, .int x2), (3, .int x3)] [] (am_KD, gc, gs) (I, J, am_RT T) (am_KD, gc, gs) (fun v H' => v = [.int q] ∧ H' = (I, J, am_RT T)))
    (h : f_X12_milesOf_32 n k4 I J T x1 x3 s0 s1 = some q) : AW l ρ (d + 1) M_X12_milesOf 32 [(0, .ref 53), (1, .int x1), (3, .int x3)] [.int s1, .int s0] (am_KD, gc, gs) (I, J, am_RT T) (am_KD, gc, gs) (fun v H' => v = [.int q] ∧ H' = (I, J, am_RT T)) := by
  unfold f_X12_milesOf_32 at h
  refine op_iadd dX12_milesOf_32 ?_
  refine op_istore_n (L' := [(2, .int (s0 + s1)), (0, .ref 53), (1, .int x1), (3, .int x3)]) dX12_milesOf_33 rfl (by decide) rfl ?_
  refine op_iinc (k := 3) (v := x3 + 1) (L' := [(3, .int (x3 + 1)), (2, .int (s0 + s1)), (0, .ref 53), (1, .int x1)]) dX12_milesOf_34 rfl rfl (by decide) rfl ?_
  refine op_goto (tgt := 4) dX12_milesOf_37 (by decide) ?_
  refine AW.perm [2, 3, 1, 0] rfl ?_
  exact hk4 _ _ _ _ _ _ h
set_option maxRecDepth 100000 in
set_option maxHeartbeats 4000000 in
theorem t_X12_milesOf_4 {l : Launch} {ρ : am_R} {n d gc gs : Nat} {q : Int32} (hd : 0 * n + 2 ≤ (d + 1))
    : ∀ (m : Nat) (I : Nat → Nat → Int32) (J : Nat → Nat → Int64) (T : Nat) (x1 : Int32) (x2 : Int32) (x3 : Int32), f_X12_milesOf_4 n  m I J T x1 x2 x3 = some q → AW l ρ (d + 1) M_X12_milesOf 4 [(0, .ref 53), (1, .int x1), (2, .int x2), (3, .int x3)] [] (am_KD, gc, gs) (I, J, am_RT T) (am_KD, gc, gs) (fun v H' => v = [.int q] ∧ H' = (I, J, am_RT T)) := by
  intro m
  induction m with
  | zero =>
    intro I J T x1 x2 x3 h
    rw [f_X12_milesOf_4] at h
    cases h
  | succ m ih =>
    intro I J T x1 x2 x3 h
    rw [f_X12_milesOf_4] at h
    refine op_iload_n (k := 3) dX12_milesOf_4 rfl rfl ?_
    refine op_aload_n (k := 0) dX12_milesOf_5 rfl rfl ?_
    refine st_getI (v := I 53 26) dX12_milesOf_6 fl_X12_294 kd_53 (by decide) rfl rfl ?_
    refine op_icmp_gt (tgt := 40) dX12_milesOf_9 (by decide) (fun c1 => ?_) (fun c1 => ?_)
    · replace h := am_ip c1 h
      refine op_iload_n (k := 2) dX12_milesOf_40 rfl rfl ?_
      cases h
      exact (op_iret dX12_milesOf_41 rfl rfl ⟨rfl, rfl⟩)
    · replace h := am_ie c1 h
      refine op_iload_n (k := 2) dX12_milesOf_12 rfl rfl ?_
      refine op_aload_n (k := 0) dX12_milesOf_13 rfl rfl ?_
      refine op_iload_n (k := 1) dX12_milesOf_14 rfl rfl ?_
      refine op_iload_n (k := 3) dX12_milesOf_15 rfl rfl ?_
      obtain ⟨w2, ew2, h⟩ := am_bd h
      refine op_callV (M' := M_X12_isOn) [.int x1, .int x3] (S0 := [.int x2]) dX12_milesOf_16 tw_1573 ok_X12_isOn tw_1575 tw_77 kd_53 cls_12 rfl rfl rfl (Nat.le_of_ble_eq_true rfl) (Nat.le_of_ble_eq_true rfl) (t_X12_isOn (by omega) ew2) (am_le_rf _) ?_
      rintro _ _ ⟨rfl, rfl⟩
      refine op_if_le (tgt := 31) dX12_milesOf_19 (by decide) (fun c3 => ?_) (fun c3 => ?_)
      · replace h := am_ip c3 h
        refine op_iconst (v := 0) dX12_milesOf_31 (by decide) ?_
        refine AW.perm [0, 1, 3] rfl ?_
        exact t_X12_milesOf_32 hd ih h
      · replace h := am_ie c3 h
        refine op_aload_n (k := 0) dX12_milesOf_22 rfl rfl ?_
        refine st_getR (z := 59) dX12_milesOf_23 fl_X12_40 kd_53 (by decide) rfl rr_53_19 ?_
        refine op_iload_n (k := 3) dX12_milesOf_26 rfl rfl ?_
        obtain ⟨g4, h⟩ := am_gd h
        refine st_iald (k := x3.toNatClampNeg) (v := I 59 x3.toNatClampNeg) dX12_milesOf_27 kd_59 g4 rfl rfl ?_
        refine op_goto (tgt := 32) dX12_milesOf_28 (by decide) ?_
        refine AW.perm [0, 1, 3] rfl ?_
        exact t_X12_milesOf_32 hd ih h
set_option maxRecDepth 100000 in
set_option maxHeartbeats 4000000 in
theorem t_X12_milesOf_0 {l : Launch} {ρ : am_R} {n d gc gs : Nat} {I : Nat → Nat → Int32} {J : Nat → Nat → Int64} {T : Nat} {x1 : Int32} {q : Int32} (hd : 0 * n + 2 ≤ (d + 1))
    (h : f_X12_milesOf n  I J T x1 = some q) : AW l ρ (d + 1) M_X12_milesOf 0 [(0, .ref 53), (1, .int x1)] [] (am_KD, gc, gs) (I, J, am_RT T) (am_KD, gc, gs) (fun v H' => v = [.int q] ∧ H' = (I, J, am_RT T)) := by
  unfold f_X12_milesOf at h
  refine op_iconst (v := 0) dX12_milesOf_0 (by decide) ?_
  refine op_istore_n (L' := [(2, .int 0), (0, .ref 53), (1, .int x1)]) dX12_milesOf_1 rfl (by decide) rfl ?_
  refine op_iconst (v := 1) dX12_milesOf_2 (by decide) ?_
  refine op_istore_n (L' := [(3, .int 1), (2, .int 0), (0, .ref 53), (1, .int x1)]) dX12_milesOf_3 rfl (by decide) rfl ?_
  refine AW.perm [2, 3, 1, 0] rfl ?_
  exact t_X12_milesOf_4 hd  n _ _ _ _ _ _ h
theorem t_X12_milesOf {l : Launch} {ρ : am_R} {n d gc gs : Nat} {I : Nat → Nat → Int32} {J : Nat → Nat → Int64} {T : Nat} {x1 : Int32} {q : Int32} (hd : 0 * n + 2 ≤ d) (h : f_X12_milesOf n I J T x1 = some q) : AW l ρ d M_X12_milesOf 0 [(0, .ref 53), (1, .int x1)] [] (am_KD, gc, gs) (I, J, am_RT T) (am_KD, gc, gs) (fun v H' => v = [.int q] ∧ H' = (I, J, am_RT T)) := by
  obtain ⟨d, rfl⟩ : ∃ e, d = e + 1 := ⟨d - 1, by omega⟩
  exact t_X12_milesOf_0 hd h
def f_X12_costOf_38 (n : Nat) (I : Nat → Nat → Int32) (J : Nat → Nat → Int64) (T : Nat) (s0 : Int32) (s1 : Int32) (s2 : Int32) : Option (Int32) :=
  some (s0 * (s1 + s2))
def f_X12_costOf (n : Nat) (I : Nat → Nat → Int32) (J : Nat → Nat → Int64) (T : Nat) (x1 : Int32) : Option (Int32) :=
  (f_X12_milesOf n I J T x1).bind fun w1 =>
  if (I 61 2) = 0 then
   f_X12_costOf_38 n  I J T (I 61 1) w1 0
  else
   f_X12_costOf_38 n  I J T (I 61 1) w1 (am_max 0 (w1 - (I 61 2)))
set_option maxRecDepth 100000 in
set_option maxHeartbeats 4000000 in
theorem t_X12_costOf_38 {l : Launch} {ρ : am_R} {n d gc gs : Nat} {I : Nat → Nat → Int32} {J : Nat → Nat → Int64} {T : Nat} {s0 : Int32} {s1 : Int32} {s2 : Int32} {q : Int32} (hd : 0 * n + 3 ≤ (d + 1))
    (h : f_X12_costOf_38 n  I J T s0 s1 s2 = some q) : AW l ρ (d + 1) M_X12_costOf 38 [] [.int s2, .int s1, .int s0] (am_KD, gc, gs) (I, J, am_RT T) (am_KD, gc, gs) (fun v H' => v = [.int q] ∧ H' = (I, J, am_RT T)) := by
  unfold f_X12_costOf_38 at h
  refine op_iadd dX12_costOf_38 ?_
  refine op_imul dX12_costOf_39 ?_
  cases h
  exact (op_iret dX12_costOf_40 rfl rfl ⟨rfl, rfl⟩)
set_option maxRecDepth 100000 in
set_option maxHeartbeats 4000000 in
theorem t_X12_costOf_0 {l : Launch} {ρ : am_R} {n d gc gs : Nat} {I : Nat → Nat → Int32} {J : Nat → Nat → Int64} {T : Nat} {x1 : Int32} {q : Int32} (hd : 0 * n + 3 ≤ (d + 1))
    (h : f_X12_costOf n  I J T x1 = some q) : AW l ρ (d + 1) M_X12_costOf 0 [(0, .ref 53), (1, .int x1)] [] (am_KD, gc, gs) (I, J, am_RT T) (am_KD, gc, gs) (fun v H' => v = [.int q] ∧ H' = (I, J, am_RT T)) := by
  unfold f_X12_costOf at h
  refine op_aload_n (k := 0) dX12_costOf_0 rfl rfl ?_
  refine op_iload_n (k := 1) dX12_costOf_1 rfl rfl ?_
  obtain ⟨w1, ew1, h⟩ := am_bd h
  refine op_callV (M' := M_X12_milesOf) [.int x1] (S0 := []) dX12_costOf_2 tw_1569 ok_X12_milesOf tw_1571 tw_76 kd_53 cls_12 rfl rfl rfl (Nat.le_of_ble_eq_true rfl) (Nat.le_of_ble_eq_true rfl) (t_X12_milesOf (by omega) ew1) (am_le_rf _) ?_
  rintro _ _ ⟨rfl, rfl⟩
  refine op_istore_n (L' := [(2, .int w1), (0, .ref 53), (1, .int x1)]) dX12_costOf_5 rfl (by decide) rfl ?_
  refine op_aload_n (k := 1) dX12_costOf_6 rfl rfl ?_
  refine st_getR (z := 61) dX12_costOf_7 fl_X12_46 kd_53 (by decide) rfl rr_53_21 ?_
  refine op_iconst (v := 1) dX12_costOf_10 (by decide) ?_
  refine st_iald (k := 1) (v := I 61 1) dX12_costOf_11 kd_61 (by decide) (by decide) rfl ?_
  refine op_iload_n (k := 0) dX12_costOf_12 rfl rfl ?_
  refine op_aload_n (k := 1) dX12_costOf_13 rfl rfl ?_
  refine st_getR (z := 61) dX12_costOf_14 fl_X12_46 kd_53 (by decide) rfl rr_53_21 ?_
  refine op_iconst (v := 2) dX12_costOf_17 (by decide) ?_
  refine st_iald (k := 2) (v := I 61 2) dX12_costOf_18 kd_61 (by decide) (by decide) rfl ?_
  refine op_if_ne (tgt := 26) dX12_costOf_19 (by decide) (fun c2 => ?_) (fun c2 => ?_)
  · replace h := am_ie c2 h
    refine op_iconst (v := 0) dX12_costOf_26 (by decide) ?_
    refine op_iload_n (k := 0) dX12_costOf_27 rfl rfl ?_
    refine op_aload_n (k := 1) dX12_costOf_28 rfl rfl ?_
    refine st_getR (z := 61) dX12_costOf_29 fl_X12_46 kd_53 (by decide) rfl rr_53_21 ?_
    refine op_iconst (v := 2) dX12_costOf_32 (by decide) ?_
    refine st_iald (k := 2) (v := I 61 2) dX12_costOf_33 kd_61 (by decide) (by decide) rfl ?_
    refine op_isub dX12_costOf_34 ?_
    refine op_mmax dX12_costOf_35 tw_1581 tw_853 tw_119 twl_854 (by simp [Value.category]) ⟨Nat.le_refl _, Nat.le_refl _⟩ ?_
    refine AW.perm [] rfl ?_
    exact t_X12_costOf_38 hd  h
  · replace h := am_ip c2 h
    refine op_iconst (v := 0) dX12_costOf_22 (by decide) ?_
    refine op_goto (tgt := 38) dX12_costOf_23 (by decide) ?_
    refine AW.perm [] rfl ?_
    exact t_X12_costOf_38 hd  h
theorem t_X12_costOf {l : Launch} {ρ : am_R} {n d gc gs : Nat} {I : Nat → Nat → Int32} {J : Nat → Nat → Int64} {T : Nat} {x1 : Int32} {q : Int32} (hd : 0 * n + 3 ≤ d) (h : f_X12_costOf n I J T x1 = some q) : AW l ρ d M_X12_costOf 0 [(0, .ref 53), (1, .int x1)] [] (am_KD, gc, gs) (I, J, am_RT T) (am_KD, gc, gs) (fun v H' => v = [.int q] ∧ H' = (I, J, am_RT T)) := by
  obtain ⟨d, rfl⟩ : ∃ e, d = e + 1 := ⟨d - 1, by omega⟩
  exact t_X12_costOf_0 hd h
def f_X12_bridge_96 (n : Nat) (k31 : (Nat → Nat → Int32) → (Nat → Nat → Int64) → Nat → Int32 → Int32 → Int32 → Int32 → Option (Int32 × (Nat → Nat → Int32))) (I : Nat → Nat → Int32) (J : Nat → Nat → Int64) (T : Nat) (x1 : Int32) (x2 : Int32) (x3 : Int32) (x4 : Int32) : Option (Int32 × (Nat → Nat → Int32)) :=
  k31 I J T x1 x2 x3 (x4 + 1)
def f_X12_bridge_90 (n : Nat) (k31 : (Nat → Nat → Int32) → (Nat → Nat → Int64) → Nat → Int32 → Int32 → Int32 → Int32 → Option (Int32 × (Nat → Nat → Int32))) (I : Nat → Nat → Int32) (J : Nat → Nat → Int64) (T : Nat) (x1 : Int32) (x4 : Int32) (x6 : Int32) : Option (Int32 × (Nat → Nat → Int32)) :=
  f_X12_bridge_96 n k31 I J T x1 x4 x6 x4
def f_X12_bridge_31 (n : Nat) : Nat → (Nat → Nat → Int32) → (Nat → Nat → Int64) → Nat → Int32 → Int32 → Int32 → Int32 → Option (Int32 × (Nat → Nat → Int32))
  | 0, _, _, _, _, _, _, _ => none
  | m + 1, I, J, T, x1, x2, x3, x4 =>
    if (I 53 26) < x4 then
     if x1 = 0 then
      some (x2, I)
     else
      some (x3, I)
    else
     if ok_ix x4 10 then
      if ok_ix x4 10 then
       (f_X12_everybody n ((am_u I 59 x4.toNatClampNeg 1)) J T).bind fun w5 =>
       (f_X12_costOf n ((am_u I 59 x4.toNatClampNeg 1)) J T w5).bind fun w6 =>
       if ok_ix x4 10 then
        if x2 = ((-1)) then
         f_X12_bridge_90 n (f_X12_bridge_31 n m) ((am_u (am_u I 59 x4.toNatClampNeg 1) 59 x4.toNatClampNeg (I 59 x4.toNatClampNeg))) J T x1 x4 w6
        else
         if w6 < x3 then
          f_X12_bridge_90 n (f_X12_bridge_31 n m) ((am_u (am_u I 59 x4.toNatClampNeg 1) 59 x4.toNatClampNeg (I 59 x4.toNatClampNeg))) J T x1 x4 w6
         else
          f_X12_bridge_96 n (f_X12_bridge_31 n m) ((am_u (am_u I 59 x4.toNatClampNeg 1) 59 x4.toNatClampNeg (I 59 x4.toNatClampNeg))) J T x1 x2 x3 x4
       else none
      else none
     else none
def f_X12_bridge (n : Nat) (I : Nat → Nat → Int32) (J : Nat → Nat → Int64) (T : Nat) (x1 : Int32) : Option (Int32 × (Nat → Nat → Int32)) :=
  if (I 53 27) = 0 then
   some ((-1), (am_u I 53 0 0))
  else
   (f_X12_isIn n ((am_u I 53 0 0)) J T x1.toInt64 0 1).bind fun w2 =>
   if w2 = 0 then
    some ((-1), (am_u I 53 0 0))
   else
    f_X12_bridge_31 n  n ((am_u I 53 0 0)) J T x1 ((-1)) 0 1
set_option maxRecDepth 100000 in
set_option maxHeartbeats 4000000 in
theorem t_X12_bridge_96 {l : Launch} {ρ : am_R} {n d gc gs : Nat} {k31 : (Nat → Nat → Int32) → (Nat → Nat → Int64) → Nat → Int32 → Int32 → Int32 → Int32 → Option (Int32 × (Nat → Nat → Int32))} {I : Nat → Nat → Int32} {J : Nat → Nat → Int64} {T : Nat} {x1 : Int32} {x2 : Int32} {x3 : Int32} {x4 : Int32} {q : Int32 × (Nat → Nat → Int32)} (hd : 0 * n + 4 ≤ (d + 1))
    (hk31 : ∀ (I : Nat → Nat → Int32) (J : Nat → Nat → Int64) (T : Nat) (x1 : Int32) (x2 : Int32) (x3 : Int32) (x4 : Int32), k31 I J T x1 x2 x3 x4 = some q → AW l ρ (d + 1) M_X12_bridge 31 [(0, .ref 53), (1, .int x1), (2, .int x2), (3, .int x3), (4, .int x4)] [] (am_KD, gc, gs) (I, J, am_RT T) (am_KD, gc, gs) (fun v H' => v = [.int q.1] ∧ H' = (q.2, J, am_RT T)))
    (h : f_X12_bridge_96 n k31 I J T x1 x2 x3 x4 = some q) : AW l ρ (d + 1) M_X12_bridge 96 [(0, .ref 53), (1, .int x1), (2, .int x2), (3, .int x3), (4, .int x4)] [] (am_KD, gc, gs) (I, J, am_RT T) (am_KD, gc, gs) (fun v H' => v = [.int q.1] ∧ H' = (q.2, J, am_RT T)) := by
  unfold f_X12_bridge_96 at h
  refine op_iinc (k := 4) (v := x4 + 1) (L' := [(4, .int (x4 + 1)), (0, .ref 53), (1, .int x1), (2, .int x2), (3, .int x3)]) dX12_bridge_96 rfl rfl (by decide) rfl ?_
  refine op_goto (tgt := 31) dX12_bridge_99 (by decide) ?_
  refine AW.perm [1, 2, 3, 4, 0] rfl ?_
  exact hk31 _ _ _ _ _ _ _ h
set_option maxRecDepth 100000 in
set_option maxHeartbeats 4000000 in
theorem t_X12_bridge_90 {l : Launch} {ρ : am_R} {n d gc gs : Nat} {k31 : (Nat → Nat → Int32) → (Nat → Nat → Int64) → Nat → Int32 → Int32 → Int32 → Int32 → Option (Int32 × (Nat → Nat → Int32))} {I : Nat → Nat → Int32} {J : Nat → Nat → Int64} {T : Nat} {x1 : Int32} {x4 : Int32} {x6 : Int32} {q : Int32 × (Nat → Nat → Int32)} (hd : 0 * n + 4 ≤ (d + 1))
    (hk31 : ∀ (I : Nat → Nat → Int32) (J : Nat → Nat → Int64) (T : Nat) (x1 : Int32) (x2 : Int32) (x3 : Int32) (x4 : Int32), k31 I J T x1 x2 x3 x4 = some q → AW l ρ (d + 1) M_X12_bridge 31 [(0, .ref 53), (1, .int x1), (2, .int x2), (3, .int x3), (4, .int x4)] [] (am_KD, gc, gs) (I, J, am_RT T) (am_KD, gc, gs) (fun v H' => v = [.int q.1] ∧ H' = (q.2, J, am_RT T)))
    (h : f_X12_bridge_90 n k31 I J T x1 x4 x6 = some q) : AW l ρ (d + 1) M_X12_bridge 90 [(0, .ref 53), (1, .int x1), (4, .int x4), (6, .int x6)] [] (am_KD, gc, gs) (I, J, am_RT T) (am_KD, gc, gs) (fun v H' => v = [.int q.1] ∧ H' = (q.2, J, am_RT T)) := by
  unfold f_X12_bridge_90 at h
  refine op_iload (k := 2) dX12_bridge_90 rfl ?_
  refine op_istore_n (L' := [(2, .int x4), (0, .ref 53), (1, .int x1), (4, .int x4), (6, .int x6)]) dX12_bridge_92 rfl (by decide) rfl ?_
  refine op_iload (k := 4) dX12_bridge_93 rfl ?_
  refine op_istore_n (L' := [(3, .int x6), (2, .int x4), (0, .ref 53), (1, .int x1), (4, .int x4), (6, .int x6)]) dX12_bridge_95 rfl (by decide) rfl ?_
  refine AW.perm [2, 3, 1, 0, 4] rfl ?_
  exact t_X12_bridge_96 hd hk31 h
set_option maxRecDepth 100000 in
set_option maxHeartbeats 4000000 in
theorem t_X12_bridge_31 {l : Launch} {ρ : am_R} {n d gc gs : Nat} {q : Int32 × (Nat → Nat → Int32)} (hd : 0 * n + 4 ≤ (d + 1))
    : ∀ (m : Nat) (I : Nat → Nat → Int32) (J : Nat → Nat → Int64) (T : Nat) (x1 : Int32) (x2 : Int32) (x3 : Int32) (x4 : Int32), f_X12_bridge_31 n  m I J T x1 x2 x3 x4 = some q → AW l ρ (d + 1) M_X12_bridge 31 [(0, .ref 53), (1, .int x1), (2, .int x2), (3, .int x3), (4, .int x4)] [] (am_KD, gc, gs) (I, J, am_RT T) (am_KD, gc, gs) (fun v H' => v = [.int q.1] ∧ H' = (q.2, J, am_RT T)) := by
  intro m
  induction m with
  | zero =>
    intro I J T x1 x2 x3 x4 h
    rw [f_X12_bridge_31] at h
    cases h
  | succ m ih =>
    intro I J T x1 x2 x3 x4 h
    rw [f_X12_bridge_31] at h
    refine op_iload (k := 4) dX12_bridge_31 rfl ?_
    refine op_aload_n (k := 0) dX12_bridge_33 rfl rfl ?_
    refine st_getI (v := I 53 26) dX12_bridge_34 fl_X12_294 kd_53 (by decide) rfl rfl ?_
    refine op_icmp_gt (tgt := 102) dX12_bridge_37 (by decide) (fun c1 => ?_) (fun c1 => ?_)
    · replace h := am_ip c1 h
      refine op_iload_n (k := 1) dX12_bridge_102 rfl rfl ?_
      refine op_if_ne (tgt := 110) dX12_bridge_103 (by decide) (fun c2 => ?_) (fun c2 => ?_)
      · replace h := am_ie c2 h
        refine op_iload_n (k := 3) dX12_bridge_110 rfl rfl ?_
        cases h
        exact (op_iret dX12_bridge_111 rfl rfl ⟨rfl, rfl⟩)
      · replace h := am_ip c2 h
        refine op_iload_n (k := 2) dX12_bridge_106 rfl rfl ?_
        refine op_goto (tgt := 111) dX12_bridge_107 (by decide) ?_
        cases h
        exact (op_iret dX12_bridge_111 rfl rfl ⟨rfl, rfl⟩)
    · replace h := am_ie c1 h
      refine op_aload_n (k := 0) dX12_bridge_40 rfl rfl ?_
      refine st_getR (z := 59) dX12_bridge_41 fl_X12_40 kd_53 (by decide) rfl rr_53_19 ?_
      refine op_iload (k := 4) dX12_bridge_44 rfl ?_
      obtain ⟨g3, h⟩ := am_gd h
      refine st_iald (k := x4.toNatClampNeg) (v := I 59 x4.toNatClampNeg) dX12_bridge_46 kd_59 g3 rfl rfl ?_
      refine op_istore (L' := [(5, .int (I 59 x4.toNatClampNeg)), (0, .ref 53), (1, .int x1), (2, .int x2), (3, .int x3), (4, .int x4)]) dX12_bridge_47 (by decide) rfl ?_
      refine op_aload_n (k := 1) dX12_bridge_49 rfl rfl ?_
      refine st_getR (z := 59) dX12_bridge_50 fl_X12_40 kd_53 (by decide) rfl rr_53_19 ?_
      refine op_iload (k := 5) dX12_bridge_53 rfl ?_
      refine op_iconst (v := 1) dX12_bridge_55 (by decide) ?_
      obtain ⟨g4, h⟩ := am_gd h
      refine st_iast (k := x4.toNatClampNeg) dX12_bridge_56 kd_59 g4 rfl ?_
      refine op_aload_n (k := 1) dX12_bridge_57 rfl rfl ?_
      refine op_aload_n (k := 1) dX12_bridge_58 rfl rfl ?_
      obtain ⟨w5, ew5, h⟩ := am_bd h
      refine op_callV (M' := M_X12_everybody) [] (S0 := [.ref 53]) dX12_bridge_59 tw_1670 ok_X12_everybody tw_1672 tw_89 kd_53 cls_12 rfl rfl rfl (Nat.le_of_ble_eq_true rfl) (Nat.le_of_ble_eq_true rfl) (t_X12_everybody (by omega) ew5) (am_le_rf _) ?_
      rintro _ _ ⟨rfl, rfl⟩
      obtain ⟨w6, ew6, h⟩ := am_bd h
      refine op_callV (M' := M_X12_costOf) [.int w5] (S0 := []) dX12_bridge_62 tw_1577 ok_X12_costOf tw_1579 tw_78 kd_53 cls_12 rfl rfl rfl (Nat.le_of_ble_eq_true rfl) (Nat.le_of_ble_eq_true rfl) (t_X12_costOf (by omega) ew6) (am_le_rf _) ?_
      rintro _ _ ⟨rfl, rfl⟩
      refine op_istore (L' := [(6, .int w6), (5, .int (I 59 x4.toNatClampNeg)), (0, .ref 53), (1, .int x1), (2, .int x2), (3, .int x3), (4, .int x4)]) dX12_bridge_65 (by decide) rfl ?_
      refine op_aload_n (k := 2) dX12_bridge_67 rfl rfl ?_
      refine st_getR (z := 59) dX12_bridge_68 fl_X12_40 kd_53 (by decide) rfl rr_53_19 ?_
      refine op_iload (k := 6) dX12_bridge_71 rfl ?_
      refine op_iload (k := 1) dX12_bridge_73 rfl ?_
      obtain ⟨g7, h⟩ := am_gd h
      refine st_iast (k := x4.toNatClampNeg) dX12_bridge_75 kd_59 g7 rfl ?_
      refine op_iload_n (k := 4) dX12_bridge_76 rfl rfl ?_
      refine op_iconst (v := (-1)) dX12_bridge_77 (by decide) ?_
      refine op_icmp_eq (tgt := 90) dX12_bridge_78 (by decide) (fun c8 => ?_) (fun c8 => ?_)
      · replace h := am_ip c8 h
        refine AW.perm [2, 3, 6, 0] rfl ?_
        exact t_X12_bridge_90 hd ih h
      · replace h := am_ie c8 h
        refine op_iload (k := 0) dX12_bridge_81 rfl ?_
        refine op_iload_n (k := 5) dX12_bridge_83 rfl rfl ?_
        refine op_icmp_lt (tgt := 90) dX12_bridge_84 (by decide) (fun c9 => ?_) (fun c9 => ?_)
        · replace h := am_ip c9 h
          refine AW.perm [2, 3, 6, 0] rfl ?_
          exact t_X12_bridge_90 hd ih h
        · replace h := am_ie c9 h
          refine op_goto (tgt := 96) dX12_bridge_87 (by decide) ?_
          refine AW.perm [2, 3, 4, 5, 6] rfl ?_
          exact t_X12_bridge_96 hd ih h
set_option maxRecDepth 100000 in
set_option maxHeartbeats 4000000 in
theorem t_X12_bridge_0 {l : Launch} {ρ : am_R} {n d gc gs : Nat} {I : Nat → Nat → Int32} {J : Nat → Nat → Int64} {T : Nat} {x1 : Int32} {q : Int32 × (Nat → Nat → Int32)} (hd : 0 * n + 4 ≤ (d + 1))
    (h : f_X12_bridge n  I J T x1 = some q) : AW l ρ (d + 1) M_X12_bridge 0 [(0, .ref 53), (1, .int x1)] [] (am_KD, gc, gs) (I, J, am_RT T) (am_KD, gc, gs) (fun v H' => v = [.int q.1] ∧ H' = (q.2, J, am_RT T)) := by
  unfold f_X12_bridge at h
  refine op_aload_n (k := 0) dX12_bridge_0 rfl rfl ?_
  refine op_iconst (v := 0) dX12_bridge_1 (by decide) ?_
  refine st_putI dX12_bridge_2 fl_X12_108 kd_53 (by decide) rfl ?_
  refine op_aload_n (k := 0) dX12_bridge_5 rfl rfl ?_
  refine st_getI (v := I 53 27) dX12_bridge_6 fl_X12_297 kd_53 (by decide) rfl rfl ?_
  refine op_if_eq (tgt := 22) dX12_bridge_9 (by decide) (fun c1 => ?_) (fun c1 => ?_)
  · replace h := am_ip c1 h
    refine op_iconst (v := (-1)) dX12_bridge_22 (by decide) ?_
    cases h
    exact (op_iret dX12_bridge_23 rfl rfl ⟨rfl, rfl⟩)
  · replace h := am_ie c1 h
    refine op_iload_n (k := 1) dX12_bridge_12 rfl rfl ?_
    refine op_i2l dX12_bridge_13 ?_
    refine op_lconst (v := 0) dX12_bridge_14 (by decide) ?_
    refine op_lconst (v := 1) dX12_bridge_15 (by decide) ?_
    obtain ⟨w2, ew2, h⟩ := am_bd h
    refine op_callS (M' := M_X12_isIn) [.long x1.toInt64, .long 0, .long 1] (S0 := []) dX12_bridge_16 tw_1390 ok_X12_isIn tw_1391 rfl rfl (Nat.le_of_ble_eq_true rfl) (Nat.le_of_ble_eq_true rfl) (t_X12_isIn (by omega) ew2) (am_le_rf _) ?_
    rintro _ _ ⟨rfl, rfl⟩
    refine op_if_ne (tgt := 24) dX12_bridge_19 (by decide) (fun c3 => ?_) (fun c3 => ?_)
    · replace h := am_ie c3 h
      refine op_iconst (v := (-1)) dX12_bridge_24 (by decide) ?_
      refine op_istore_n (L' := [(2, .int ((-1))), (0, .ref 53), (1, .int x1)]) dX12_bridge_25 rfl (by decide) rfl ?_
      refine op_iconst (v := 0) dX12_bridge_26 (by decide) ?_
      refine op_istore_n (L' := [(3, .int 0), (2, .int ((-1))), (0, .ref 53), (1, .int x1)]) dX12_bridge_27 rfl (by decide) rfl ?_
      refine op_iconst (v := 1) dX12_bridge_28 (by decide) ?_
      refine op_istore (L' := [(4, .int 1), (3, .int 0), (2, .int ((-1))), (0, .ref 53), (1, .int x1)]) dX12_bridge_29 (by decide) rfl ?_
      refine AW.perm [3, 4, 2, 1, 0] rfl ?_
      exact t_X12_bridge_31 hd  n _ _ _ _ _ _ _ h
    · replace h := am_ip c3 h
      refine op_iconst (v := (-1)) dX12_bridge_22 (by decide) ?_
      cases h
      exact (op_iret dX12_bridge_23 rfl rfl ⟨rfl, rfl⟩)
theorem t_X12_bridge {l : Launch} {ρ : am_R} {n d gc gs : Nat} {I : Nat → Nat → Int32} {J : Nat → Nat → Int64} {T : Nat} {x1 : Int32} {q : Int32 × (Nat → Nat → Int32)} (hd : 0 * n + 4 ≤ d) (h : f_X12_bridge n I J T x1 = some q) : AW l ρ d M_X12_bridge 0 [(0, .ref 53), (1, .int x1)] [] (am_KD, gc, gs) (I, J, am_RT T) (am_KD, gc, gs) (fun v H' => v = [.int q.1] ∧ H' = (q.2, J, am_RT T)) := by
  obtain ⟨d, rfl⟩ : ∃ e, d = e + 1 := ⟨d - 1, by omega⟩
  exact t_X12_bridge_0 hd h
def f_X12_times_4 (n : Nat) : Nat → (Nat → Nat → Int32) → (Nat → Nat → Int64) → Nat → Int32 → Int32 → Int32 → Option (Int32)
  | 0, _, _, _, _, _, _ => none
  | m + 1, I, J, T, x0, x1, x2 =>
    if x0 < x2 then
     some (x1)
    else
     f_X12_times_4 n  m I J T x0 (x1 * x2) (x2 + 1)
def f_X12_times (n : Nat) (I : Nat → Nat → Int32) (J : Nat → Nat → Int64) (T : Nat) (x0 : Int32) : Option (Int32) :=
  f_X12_times_4 n  n I J T x0 1 2
set_option maxRecDepth 100000 in
set_option maxHeartbeats 4000000 in
theorem t_X12_times_4 {l : Launch} {ρ : am_R} {n d gc gs : Nat} {q : Int32} (hd : 0 * n + 0 ≤ d)
    : ∀ (m : Nat) (I : Nat → Nat → Int32) (J : Nat → Nat → Int64) (T : Nat) (x0 : Int32) (x1 : Int32) (x2 : Int32), f_X12_times_4 n  m I J T x0 x1 x2 = some q → AW l ρ d M_X12_times 4 [(0, .int x0), (1, .int x1), (2, .int x2)] [] (am_KD, gc, gs) (I, J, am_RT T) (am_KD, gc, gs) (fun v H' => v = [.int q] ∧ H' = (I, J, am_RT T)) := by
  intro m
  induction m with
  | zero =>
    intro I J T x0 x1 x2 h
    rw [f_X12_times_4] at h
    cases h
  | succ m ih =>
    intro I J T x0 x1 x2 h
    rw [f_X12_times_4] at h
    refine op_iload_n (k := 2) dX12_times_4 rfl rfl ?_
    refine op_iload_n (k := 0) dX12_times_5 rfl rfl ?_
    refine op_icmp_gt (tgt := 19) dX12_times_6 (by decide) (fun c1 => ?_) (fun c1 => ?_)
    · replace h := am_ip c1 h
      refine op_iload_n (k := 1) dX12_times_19 rfl rfl ?_
      cases h
      exact (op_iret dX12_times_20 rfl rfl ⟨rfl, rfl⟩)
    · replace h := am_ie c1 h
      refine op_iload_n (k := 1) dX12_times_9 rfl rfl ?_
      refine op_iload_n (k := 2) dX12_times_10 rfl rfl ?_
      refine op_imul dX12_times_11 ?_
      refine op_istore_n (L' := [(1, .int (x1 * x2)), (0, .int x0), (2, .int x2)]) dX12_times_12 rfl (by decide) rfl ?_
      refine op_iinc (k := 2) (v := x2 + 1) (L' := [(2, .int (x2 + 1)), (1, .int (x1 * x2)), (0, .int x0)]) dX12_times_13 rfl rfl (by decide) rfl ?_
      refine op_goto (tgt := 4) dX12_times_16 (by decide) ?_
      refine AW.perm [2, 1, 0] rfl ?_
      exact ih _ _ _ _ _ _ h
set_option maxRecDepth 100000 in
set_option maxHeartbeats 4000000 in
theorem t_X12_times_0 {l : Launch} {ρ : am_R} {n d gc gs : Nat} {I : Nat → Nat → Int32} {J : Nat → Nat → Int64} {T : Nat} {x0 : Int32} {q : Int32} (hd : 0 * n + 0 ≤ d)
    (h : f_X12_times n  I J T x0 = some q) : AW l ρ d M_X12_times 0 [(0, .int x0)] [] (am_KD, gc, gs) (I, J, am_RT T) (am_KD, gc, gs) (fun v H' => v = [.int q] ∧ H' = (I, J, am_RT T)) := by
  unfold f_X12_times at h
  refine op_iconst (v := 1) dX12_times_0 (by decide) ?_
  refine op_istore_n (L' := [(1, .int 1), (0, .int x0)]) dX12_times_1 rfl (by decide) rfl ?_
  refine op_iconst (v := 2) dX12_times_2 (by decide) ?_
  refine op_istore_n (L' := [(2, .int 2), (1, .int 1), (0, .int x0)]) dX12_times_3 rfl (by decide) rfl ?_
  refine AW.perm [2, 1, 0] rfl ?_
  exact t_X12_times_4 hd  n _ _ _ _ _ _ h
theorem t_X12_times {l : Launch} {ρ : am_R} {n d gc gs : Nat} {I : Nat → Nat → Int32} {J : Nat → Nat → Int64} {T : Nat} {x0 : Int32} {q : Int32} (hd : 0 * n + 0 ≤ d) (h : f_X12_times n I J T x0 = some q) : AW l ρ d M_X12_times 0 [(0, .int x0)] [] (am_KD, gc, gs) (I, J, am_RT T) (am_KD, gc, gs) (fun v H' => v = [.int q] ∧ H' = (I, J, am_RT T)) := t_X12_times_0 hd h
