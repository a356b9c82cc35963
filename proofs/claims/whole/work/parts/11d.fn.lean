def f_X10_number_66 (n : Nat) (I : Nat → Nat → Int32) (J : Nat → Nat → Int64) (T : Nat) (x2 : Int32) : Option (Int32 × (Nat → Nat → Int32)) :=
  (f_X10_fail n I J T (I 1 2)).bind fun w1 =>
  some (x2, w1)
def f_X10_number_55 (n : Nat) (I : Nat → Nat → Int32) (J : Nat → Nat → Int64) (T : Nat) (x2 : Int32) (x3 : Int32) : Option (Int32 × (Nat → Nat → Int32)) :=
  if x3 = 0 then
   f_X10_number_66 n  I J T x2
  else
   (f_X10_isDigitHere n I J T).bind fun w2 =>
   if w2 = 0 then
    some (x2, I)
   else
    f_X10_number_66 n  I J T x2
def f_X10_number_9 (n : Nat) : Nat → (Nat → Nat → Int32) → (Nat → Nat → Int64) → Nat → Int32 → Int32 → Int32 → Option (Int32 × (Nat → Nat → Int32))
  | 0, _, _, _, _, _, _ => none
  | m + 1, I, J, T, x1, x2, x3 =>
    if x1 ≤ x3 then
     f_X10_number_55 n  I J T x2 x3
    else
     (f_X10_isDigitHere n I J T).bind fun w2 =>
     if w2 = 0 then
      f_X10_number_55 n  I J T x2 x3
     else
      if ok_ix (I 1 2) 160 then
       f_X10_number_9 n  m ((am_u I 1 2 ((I 1 2) + 1))) J T x1 (((x2 * 10) + (I 2 ((I 1 2).toNatClampNeg))) - 48) (x3 + 1)
      else none
def f_X10_number (n : Nat) (I : Nat → Nat → Int32) (J : Nat → Nat → Int64) (T : Nat) (x1 : Int32) : Option (Int32 × (Nat → Nat → Int32)) :=
  (f_X10_sign n I J T).bind fun w1 =>
  f_X10_number_9 n  n w1.2 J T x1 0 0
set_option maxRecDepth 100000 in
set_option maxHeartbeats 4000000 in
theorem t_X10_number_66 {l : Launch} {ρ : am_R} {n d gc gs : Nat} {I : Nat → Nat → Int32} {J : Nat → Nat → Int64} {T : Nat} {x2 : Int32} {q : Int32 × (Nat → Nat → Int32)} (hd : 0 * n + 1 ≤ (d + 1))
    (h : f_X10_number_66 n  I J T x2 = some q) : AW l ρ (d + 1) M_X10_number 66 [(0, .ref 1), (2, .int x2)] [] (am_KD, gc, gs) (I, J, am_RT T) (am_KD, gc, gs) (fun v H' => v = [.int q.1] ∧ H' = (q.2, J, am_RT T)) := by
  unfold f_X10_number_66 at h
  refine op_aload_n (k := 0) dX10_number_66 rfl rfl ?_
  refine op_aload_n (k := 0) dX10_number_67 rfl rfl ?_
  refine st_getI (v := I 1 2) dX10_number_68 fl_X10_19 kd_1 (by decide) rfl rfl ?_
  obtain ⟨w1, ew1, h⟩ := am_bd h
  refine op_callV (M' := M_X10_fail) [.int (I 1 2)] (S0 := []) dX10_number_71 tw_586 ok_X10_fail tw_587 tw_588 kd_1 cls_10 rfl rfl rfl (Nat.le_of_ble_eq_true rfl) (Nat.le_of_ble_eq_true rfl) (t_X10_fail (by omega) ew1) (am_le_rf _) ?_
  rintro _ _ ⟨rfl, rfl⟩
  refine op_iload_n (k := 1) dX10_number_74 rfl rfl ?_
  cases h
  exact (op_iret dX10_number_75 rfl rfl ⟨rfl, rfl⟩)
set_option maxRecDepth 100000 in
set_option maxHeartbeats 4000000 in
theorem t_X10_number_55 {l : Launch} {ρ : am_R} {n d gc gs : Nat} {I : Nat → Nat → Int32} {J : Nat → Nat → Int64} {T : Nat} {x2 : Int32} {x3 : Int32} {q : Int32 × (Nat → Nat → Int32)} (hd : 0 * n + 1 ≤ (d + 1))
    (h : f_X10_number_55 n  I J T x2 x3 = some q) : AW l ρ (d + 1) M_X10_number 55 [(0, .ref 1), (2, .int x2), (3, .int x3)] [] (am_KD, gc, gs) (I, J, am_RT T) (am_KD, gc, gs) (fun v H' => v = [.int q.1] ∧ H' = (q.2, J, am_RT T)) := by
  unfold f_X10_number_55 at h
  refine op_iload_n (k := 2) dX10_number_55 rfl rfl ?_
  refine op_if_eq (tgt := 66) dX10_number_56 (by decide) (fun c1 => ?_) (fun c1 => ?_)
  · replace h := am_ip c1 h
    refine AW.perm [0, 1] rfl ?_
    exact t_X10_number_66 hd  h
  · replace h := am_ie c1 h
    refine op_aload_n (k := 0) dX10_number_59 rfl rfl ?_
    obtain ⟨w2, ew2, h⟩ := am_bd h
    refine op_callV (M' := M_X10_isDigitHere) [] (S0 := []) dX10_number_60 tw_582 ok_X10_isDigitHere tw_584 tw_6 kd_1 cls_10 rfl rfl rfl (Nat.le_of_ble_eq_true rfl) (Nat.le_of_ble_eq_true rfl) (t_X10_isDigitHere (by omega) ew2) (am_le_rf _) ?_
    rintro _ _ ⟨rfl, rfl⟩
    refine op_if_eq (tgt := 74) dX10_number_63 (by decide) (fun c3 => ?_) (fun c3 => ?_)
    · replace h := am_ip c3 h
      refine op_iload_n (k := 1) dX10_number_74 rfl rfl ?_
      cases h
      exact (op_iret dX10_number_75 rfl rfl ⟨rfl, rfl⟩)
    · replace h := am_ie c3 h
      refine AW.perm [0, 1] rfl ?_
      exact t_X10_number_66 hd  h
set_option maxRecDepth 100000 in
set_option maxHeartbeats 4000000 in
theorem t_X10_number_9 {l : Launch} {ρ : am_R} {n d gc gs : Nat} {q : Int32 × (Nat → Nat → Int32)} (hd : 0 * n + 1 ≤ (d + 1))
    : ∀ (m : Nat) (I : Nat → Nat → Int32) (J : Nat → Nat → Int64) (T : Nat) (x1 : Int32) (x2 : Int32) (x3 : Int32), f_X10_number_9 n  m I J T x1 x2 x3 = some q → AW l ρ (d + 1) M_X10_number 9 [(0, .ref 1), (1, .int x1), (2, .int x2), (3, .int x3)] [] (am_KD, gc, gs) (I, J, am_RT T) (am_KD, gc, gs) (fun v H' => v = [.int q.1] ∧ H' = (q.2, J, am_RT T)) := by
  intro m
  induction m with
  | zero =>
    intro I J T x1 x2 x3 h
    rw [f_X10_number_9] at h
    cases h
  | succ m ih =>
    intro I J T x1 x2 x3 h
    rw [f_X10_number_9] at h
    refine op_iload_n (k := 3) dX10_number_9 rfl rfl ?_
    refine op_iload_n (k := 1) dX10_number_10 rfl rfl ?_
    refine op_icmp_ge (tgt := 55) dX10_number_11 (by decide) (fun c1 => ?_) (fun c1 => ?_)
    · replace h := am_ip c1 h
      refine AW.perm [0, 2, 3] rfl ?_
      exact t_X10_number_55 hd  h
    · replace h := am_ie c1 h
      refine op_aload_n (k := 0) dX10_number_14 rfl rfl ?_
      obtain ⟨w2, ew2, h⟩ := am_bd h
      refine op_callV (M' := M_X10_isDigitHere) [] (S0 := []) dX10_number_15 tw_582 ok_X10_isDigitHere tw_584 tw_6 kd_1 cls_10 rfl rfl rfl (Nat.le_of_ble_eq_true rfl) (Nat.le_of_ble_eq_true rfl) (t_X10_isDigitHere (by omega) ew2) (am_le_rf _) ?_
      rintro _ _ ⟨rfl, rfl⟩
      refine op_if_eq (tgt := 55) dX10_number_18 (by decide) (fun c3 => ?_) (fun c3 => ?_)
      · replace h := am_ip c3 h
        refine AW.perm [0, 2, 3] rfl ?_
        exact t_X10_number_55 hd  h
      · replace h := am_ie c3 h
        refine op_iload_n (k := 2) dX10_number_21 rfl rfl ?_
        refine op_bipush (v := 10) dX10_number_22 (by decide) ?_
        refine op_imul dX10_number_24 ?_
        refine op_aload_n (k := 0) dX10_number_25 rfl rfl ?_
        refine st_getR (z := 2) dX10_number_26 fl_X10_11 kd_1 (by decide) rfl rr_1_0 ?_
        refine op_aload_n (k := 0) dX10_number_29 rfl rfl ?_
        refine st_getI (v := I 1 2) dX10_number_30 fl_X10_19 kd_1 (by decide) rfl rfl ?_
        obtain ⟨g4, h⟩ := am_gd h
        refine st_bald (k := (I 1 2).toNatClampNeg) (v := I 2 ((I 1 2).toNatClampNeg)) dX10_number_33 kd_2 g4 rfl rfl ?_
        refine op_iadd dX10_number_34 ?_
        refine op_bipush (v := 48) dX10_number_35 (by decide) ?_
        refine op_isub dX10_number_37 ?_
        refine op_istore_n (L' := [(2, .int (((x2 * 10) + (I 2 ((I 1 2).toNatClampNeg))) - 48)), (0, .ref 1), (1, .int x1), (3, .int x3)]) dX10_number_38 rfl (by decide) rfl ?_
        refine op_iinc (k := 3) (v := x3 + 1) (L' := [(3, .int (x3 + 1)), (2, .int (((x2 * 10) + (I 2 ((I 1 2).toNatClampNeg))) - 48)), (0, .ref 1), (1, .int x1)]) dX10_number_39 rfl rfl (by decide) rfl ?_
        refine op_aload_n (k := 2) dX10_number_42 rfl rfl ?_
        refine op_dup dX10_number_43 rfl ?_
        refine st_getI (v := I 1 2) dX10_number_44 fl_X10_19 kd_1 (by decide) rfl rfl ?_
        refine op_iconst (v := 1) dX10_number_47 (by decide) ?_
        refine op_iadd dX10_number_48 ?_
        refine st_putI dX10_number_49 fl_X10_19 kd_1 (by decide) rfl ?_
        refine op_goto (tgt := 9) dX10_number_52 (by decide) ?_
        refine AW.perm [2, 3, 1, 0] rfl ?_
        exact ih _ _ _ _ _ _ h
set_option maxRecDepth 100000 in
set_option maxHeartbeats 4000000 in
theorem t_X10_number_0 {l : Launch} {ρ : am_R} {n d gc gs : Nat} {I : Nat → Nat → Int32} {J : Nat → Nat → Int64} {T : Nat} {x1 : Int32} {q : Int32 × (Nat → Nat → Int32)} (hd : 0 * n + 1 ≤ (d + 1))
    (h : f_X10_number n  I J T x1 = some q) : AW l ρ (d + 1) M_X10_number 0 [(0, .ref 1), (1, .int x1)] [] (am_KD, gc, gs) (I, J, am_RT T) (am_KD, gc, gs) (fun v H' => v = [.int q.1] ∧ H' = (q.2, J, am_RT T)) := by
  unfold f_X10_number at h
  refine op_aload_n (k := 0) dX10_number_0 rfl rfl ?_
  obtain ⟨w1, ew1, h⟩ := am_bd h
  refine op_callV (M' := M_X10_sign) [] (S0 := []) dX10_number_1 tw_581 ok_X10_sign tw_561 tw_562 kd_1 cls_10 rfl rfl rfl (Nat.le_of_ble_eq_true rfl) (Nat.le_of_ble_eq_true rfl) (t_X10_sign (by omega) ew1) (am_le_rf _) ?_
  rintro _ _ ⟨rfl, rfl⟩
  refine op_pop dX10_number_4 rfl ?_
  refine op_iconst (v := 0) dX10_number_5 (by decide) ?_
  refine op_istore_n (L' := [(2, .int 0), (0, .ref 1), (1, .int x1)]) dX10_number_6 rfl (by decide) rfl ?_
  refine op_iconst (v := 0) dX10_number_7 (by decide) ?_
  refine op_istore_n (L' := [(3, .int 0), (2, .int 0), (0, .ref 1), (1, .int x1)]) dX10_number_8 rfl (by decide) rfl ?_
  refine AW.perm [2, 3, 1, 0] rfl ?_
  exact t_X10_number_9 hd  n _ _ _ _ _ _ h
theorem t_X10_number {l : Launch} {ρ : am_R} {n d gc gs : Nat} {I : Nat → Nat → Int32} {J : Nat → Nat → Int64} {T : Nat} {x1 : Int32} {q : Int32 × (Nat → Nat → Int32)} (hd : 0 * n + 1 ≤ d) (h : f_X10_number n I J T x1 = some q) : AW l ρ d M_X10_number 0 [(0, .ref 1), (1, .int x1)] [] (am_KD, gc, gs) (I, J, am_RT T) (am_KD, gc, gs) (fun v H' => v = [.int q.1] ∧ H' = (q.2, J, am_RT T)) := by
  obtain ⟨d, rfl⟩ : ∃ e, d = e + 1 := ⟨d - 1, by omega⟩
  exact t_X10_number_0 hd h
def fb_X4_atom (n : Nat) (rc_X4_atom : (Nat → Nat → Int32) → (Nat → Nat → Int64) → Nat → Int32 → Option ((Nat → Nat → Int32))) (rc_X4_term : (Nat → Nat → Int32) → (Nat → Nat → Int64) → Nat → Int32 → Option ((Nat → Nat → Int32))) (rc_X4_sum : (Nat → Nat → Int32) → (Nat → Nat → Int64) → Nat → Int32 → Option ((Nat → Nat → Int32))) (I : Nat → Nat → Int32) (J : Nat → Nat → Int64) (T : Nat) (x1 : Int32) : Option ((Nat → Nat → Int32)) :=
  (f_X10_sign n I J T).bind fun w1 =>
  (f_X11_isWithin n w1.2 J T w1.1 48 57).bind fun w2 =>
  if w2 = 0 then
   (f_X4_isLetter n w1.2 J T w1.1).bind fun w4 =>
   if w4 = 0 then
    (f_X4_opens n w1.2 J T 91 x1).bind fun w6 =>
    if w6.1 = 0 then
     (f_X10_fail n w6.2 J T (w6.2 1 2)).bind fun w8 =>
     some (w8)
    else
     (rc_X4_sum w6.2 J T (x1 + 1)).bind fun w9 =>
     (f_X10_expect n w9 J T 93).bind fun w10 =>
     some (w10)
   else
    (f_X4_emit n ((am_u w1.2 1 2 ((w1.2 1 2) + 1))) J T (10000 + w1.1)).bind fun w11 =>
    some (w11)
  else
   (f_X10_number n w1.2 J T 4).bind fun w12 =>
   (f_X4_emit n w12.2 J T w12.1).bind fun w13 =>
   some (w13)
def f_X4_term_34 (n : Nat) (rc_X4_atom : (Nat → Nat → Int32) → (Nat → Nat → Int64) → Nat → Int32 → Option ((Nat → Nat → Int32))) (rc_X4_term : (Nat → Nat → Int32) → (Nat → Nat → Int64) → Nat → Int32 → Option ((Nat → Nat → Int32))) (rc_X4_sum : (Nat → Nat → Int32) → (Nat → Nat → Int64) → Nat → Int32 → Option ((Nat → Nat → Int32))) (k15 : (Nat → Nat → Int32) → (Nat → Nat → Int64) → Nat → Int32 → Int32 → Int32 → Option ((Nat → Nat → Int32))) (I : Nat → Nat → Int32) (J : Nat → Nat → Int64) (T : Nat) (x1 : Int32) (x2 : Int32) (x3 : Int32) : Option ((Nat → Nat → Int32)) :=
  (rc_X4_atom ((am_u I 1 2 ((I 1 2) + 1))) J T x1).bind fun w1 =>
  (f_X4_emit n w1 J T (10000 + x2)).bind fun w2 =>
  (f_X10_sign n w2 J T).bind fun w3 =>
  k15 w3.2 J T x1 w3.1 (x3 + 1)
def f_X4_term_15 (n : Nat) (rc_X4_atom : (Nat → Nat → Int32) → (Nat → Nat → Int64) → Nat → Int32 → Option ((Nat → Nat → Int32))) (rc_X4_term : (Nat → Nat → Int32) → (Nat → Nat → Int64) → Nat → Int32 → Option ((Nat → Nat → Int32))) (rc_X4_sum : (Nat → Nat → Int32) → (Nat → Nat → Int64) → Nat → Int32 → Option ((Nat → Nat → Int32))) : Nat → (Nat → Nat → Int32) → (Nat → Nat → Int64) → Nat → Int32 → Int32 → Int32 → Option ((Nat → Nat → Int32))
  | 0, _, _, _, _, _, _ => none
  | m + 1, I, J, T, x1, x2, x3 =>
    if 160 ≤ x3 then
     some (I)
    else
     if x2 = 42 then
      f_X4_term_34 n rc_X4_atom rc_X4_term rc_X4_sum (f_X4_term_15 n rc_X4_atom rc_X4_term rc_X4_sum m) I J T x1 x2 x3
     else
      if x2 = 47 then
       f_X4_term_34 n rc_X4_atom rc_X4_term rc_X4_sum (f_X4_term_15 n rc_X4_atom rc_X4_term rc_X4_sum m) I J T x1 x2 x3
      else
       some (I)
def fb_X4_term (n : Nat) (rc_X4_atom : (Nat → Nat → Int32) → (Nat → Nat → Int64) → Nat → Int32 → Option ((Nat → Nat → Int32))) (rc_X4_term : (Nat → Nat → Int32) → (Nat → Nat → Int64) → Nat → Int32 → Option ((Nat → Nat → Int32))) (rc_X4_sum : (Nat → Nat → Int32) → (Nat → Nat → Int64) → Nat → Int32 → Option ((Nat → Nat → Int32))) (I : Nat → Nat → Int32) (J : Nat → Nat → Int64) (T : Nat) (x1 : Int32) : Option ((Nat → Nat → Int32)) :=
  (rc_X4_atom I J T x1).bind fun w1 =>
  (f_X10_sign n w1 J T).bind fun w2 =>
  f_X4_term_15 n rc_X4_atom rc_X4_term rc_X4_sum n w2.2 J T x1 w2.1 0
def f_X4_sum_34 (n : Nat) (rc_X4_atom : (Nat → Nat → Int32) → (Nat → Nat → Int64) → Nat → Int32 → Option ((Nat → Nat → Int32))) (rc_X4_term : (Nat → Nat → Int32) → (Nat → Nat → Int64) → Nat → Int32 → Option ((Nat → Nat → Int32))) (rc_X4_sum : (Nat → Nat → Int32) → (Nat → Nat → Int64) → Nat → Int32 → Option ((Nat → Nat → Int32))) (k15 : (Nat → Nat → Int32) → (Nat → Nat → Int64) → Nat → Int32 → Int32 → Int32 → Option ((Nat → Nat → Int32))) (I : Nat → Nat → Int32) (J : Nat → Nat → Int64) (T : Nat) (x1 : Int32) (x2 : Int32) (x3 : Int32) : Option ((Nat → Nat → Int32)) :=
  (rc_X4_term ((am_u I 1 2 ((I 1 2) + 1))) J T x1).bind fun w1 =>
  (f_X4_emit n w1 J T (10000 + x2)).bind fun w2 =>
  (f_X10_sign n w2 J T).bind fun w3 =>
  k15 w3.2 J T x1 w3.1 (x3 + 1)
def f_X4_sum_15 (n : Nat) (rc_X4_atom : (Nat → Nat → Int32) → (Nat → Nat → Int64) → Nat → Int32 → Option ((Nat → Nat → Int32))) (rc_X4_term : (Nat → Nat → Int32) → (Nat → Nat → Int64) → Nat → Int32 → Option ((Nat → Nat → Int32))) (rc_X4_sum : (Nat → Nat → Int32) → (Nat → Nat → Int64) → Nat → Int32 → Option ((Nat → Nat → Int32))) : Nat → (Nat → Nat → Int32) → (Nat → Nat → Int64) → Nat → Int32 → Int32 → Int32 → Option ((Nat → Nat → Int32))
  | 0, _, _, _, _, _, _ => none
  | m + 1, I, J, T, x1, x2, x3 =>
    if 160 ≤ x3 then
     some (I)
    else
     if x2 = 43 then
      f_X4_sum_34 n rc_X4_atom rc_X4_term rc_X4_sum (f_X4_sum_15 n rc_X4_atom rc_X4_term rc_X4_sum m) I J T x1 x2 x3
     else
      if x2 = 45 then
       f_X4_sum_34 n rc_X4_atom rc_X4_term rc_X4_sum (f_X4_sum_15 n rc_X4_atom rc_X4_term rc_X4_sum m) I J T x1 x2 x3
      else
       some (I)
def fb_X4_sum (n : Nat) (rc_X4_atom : (Nat → Nat → Int32) → (Nat → Nat → Int64) → Nat → Int32 → Option ((Nat → Nat → Int32))) (rc_X4_term : (Nat → Nat → Int32) → (Nat → Nat → Int64) → Nat → Int32 → Option ((Nat → Nat → Int32))) (rc_X4_sum : (Nat → Nat → Int32) → (Nat → Nat → Int64) → Nat → Int32 → Option ((Nat → Nat → Int32))) (I : Nat → Nat → Int32) (J : Nat → Nat → Int64) (T : Nat) (x1 : Int32) : Option ((Nat → Nat → Int32)) :=
  (rc_X4_term I J T x1).bind fun w1 =>
  (f_X10_sign n w1 J T).bind fun w2 =>
  f_X4_sum_15 n rc_X4_atom rc_X4_term rc_X4_sum n w2.2 J T x1 w2.1 0
def fx_X4_atom (n : Nat) : Nat → ((Nat → Nat → Int32) → (Nat → Nat → Int64) → Nat → Int32 → Option ((Nat → Nat → Int32))) × ((Nat → Nat → Int32) → (Nat → Nat → Int64) → Nat → Int32 → Option ((Nat → Nat → Int32))) × ((Nat → Nat → Int32) → (Nat → Nat → Int64) → Nat → Int32 → Option ((Nat → Nat → Int32)))
  | 0 => (fun _ _ _ _ => none, fun _ _ _ _ => none, fun _ _ _ _ => none)
  | r + 1 => (fb_X4_atom n (fx_X4_atom n r).1 (fx_X4_atom n r).2.1 (fx_X4_atom n r).2.2, fb_X4_term n (fx_X4_atom n r).1 (fx_X4_atom n r).2.1 (fx_X4_atom n r).2.2, fb_X4_sum n (fx_X4_atom n r).1 (fx_X4_atom n r).2.1 (fx_X4_atom n r).2.2)
def f_X4_atom (n : Nat) : (Nat → Nat → Int32) → (Nat → Nat → Int64) → Nat → Int32 → Option ((Nat → Nat → Int32)) := (fx_X4_atom n n).1
def f_X4_term (n : Nat) : (Nat → Nat → Int32) → (Nat → Nat → Int64) → Nat → Int32 → Option ((Nat → Nat → Int32)) := (fx_X4_atom n n).2.1
def f_X4_sum (n : Nat) : (Nat → Nat → Int32) → (Nat → Nat → Int64) → Nat → Int32 → Option ((Nat → Nat → Int32)) := (fx_X4_atom n n).2.2
set_option maxRecDepth 100000 in
set_option maxHeartbeats 4000000 in
theorem t_X4_atom_0 {l : Launch} {ρ : am_R} {n d gc gs : Nat} {rc_X4_atom : (Nat → Nat → Int32) → (Nat → Nat → Int64) → Nat → Int32 → Option ((Nat → Nat → Int32))} {rc_X4_term : (Nat → Nat → Int32) → (Nat → Nat → Int64) → Nat → Int32 → Option ((Nat → Nat → Int32))} {rc_X4_sum : (Nat → Nat → Int32) → (Nat → Nat → Int64) → Nat → Int32 → Option ((Nat → Nat → Int32))} {I : Nat → Nat → Int32} {J : Nat → Nat → Int64} {T : Nat} {x1 : Int32} {q : (Nat → Nat → Int32)} (hd : 0 * n + 2 ≤ (d + 1))
    (hr_X4_atom : ∀ (I : Nat → Nat → Int32) (J : Nat → Nat → Int64) (T : Nat) (x1 : Int32) (q : (Nat → Nat → Int32)) (gc gs : Nat), rc_X4_atom I J T x1 = some q → AW l ρ d M_X4_atom 0 [(0, .ref 17), (1, .int x1)] [] (am_KD, gc, gs) (I, J, am_RT T) (am_KD, gc, gs) (fun v H' => v = [] ∧ H' = (q, J, am_RT T)))
    (hr_X4_term : ∀ (I : Nat → Nat → Int32) (J : Nat → Nat → Int64) (T : Nat) (x1 : Int32) (q : (Nat → Nat → Int32)) (gc gs : Nat), rc_X4_term I J T x1 = some q → AW l ρ d M_X4_term 0 [(0, .ref 17), (1, .int x1)] [] (am_KD, gc, gs) (I, J, am_RT T) (am_KD, gc, gs) (fun v H' => v = [] ∧ H' = (q, J, am_RT T)))
    (hr_X4_sum : ∀ (I : Nat → Nat → Int32) (J : Nat → Nat → Int64) (T : Nat) (x1 : Int32) (q : (Nat → Nat → Int32)) (gc gs : Nat), rc_X4_sum I J T x1 = some q → AW l ρ d M_X4_sum 0 [(0, .ref 17), (1, .int x1)] [] (am_KD, gc, gs) (I, J, am_RT T) (am_KD, gc, gs) (fun v H' => v = [] ∧ H' = (q, J, am_RT T)))
    (h : fb_X4_atom n rc_X4_atom rc_X4_term rc_X4_sum I J T x1 = some q) : AW l ρ (d + 1) M_X4_atom 0 [(0, .ref 17), (1, .int x1)] [] (am_KD, gc, gs) (I, J, am_RT T) (am_KD, gc, gs) (fun v H' => v = [] ∧ H' = (q, J, am_RT T)) := by
  unfold fb_X4_atom at h
  refine op_aload_n (k := 0) dX4_atom_0 rfl rfl ?_
  refine st_getR (z := 1) dX4_atom_1 fl_X4_15 kd_17 (by decide) rfl rr_17_0 ?_
  obtain ⟨w1, ew1, h⟩ := am_bd h
  refine op_callV (M' := M_X10_sign) [] (S0 := []) dX4_atom_4 tw_627 ok_X10_sign tw_561 tw_562 kd_1 cls_10 rfl rfl rfl (Nat.le_of_ble_eq_true rfl) (Nat.le_of_ble_eq_true rfl) (t_X10_sign (by omega) ew1) (am_le_rf _) ?_
  rintro _ _ ⟨rfl, rfl⟩
  refine op_istore_n (L' := [(2, .int w1.1), (0, .ref 17), (1, .int x1)]) dX4_atom_7 rfl (by decide) rfl ?_
  refine op_iload_n (k := 0) dX4_atom_8 rfl rfl ?_
  refine op_bipush (v := 48) dX4_atom_9 (by decide) ?_
  refine op_bipush (v := 57) dX4_atom_11 (by decide) ?_
  obtain ⟨w2, ew2, h⟩ := am_bd h
  refine op_callSN (M' := M_X11_isWithin) [.int w1.1, .int 48, .int 57] (S0 := []) dX4_atom_13 tn_640 ok_X11_isWithin tw_595 rfl rfl (Nat.le_of_ble_eq_true rfl) (Nat.le_of_ble_eq_true rfl) (t_X11_isWithin (by omega) ew2) (am_le_rf _) ?_
  rintro _ _ ⟨rfl, rfl⟩
  refine op_if_eq (tgt := 34) dX4_atom_16 (by decide) (fun c3 => ?_) (fun c3 => ?_)
  · replace h := am_ip c3 h
    refine op_iload_n (k := 0) dX4_atom_34 rfl rfl ?_
    obtain ⟨w4, ew4, h⟩ := am_bd h
    refine op_callS (M' := M_X4_isLetter) [.int w1.1] (S0 := []) dX4_atom_35 tw_646 ok_X4_isLetter tw_647 rfl rfl (Nat.le_of_ble_eq_true rfl) (Nat.le_of_ble_eq_true rfl) (t_X4_isLetter (by omega) ew4) (am_le_rf _) ?_
    rintro _ _ ⟨rfl, rfl⟩
    refine op_if_eq (tgt := 66) dX4_atom_38 (by decide) (fun c5 => ?_) (fun c5 => ?_)
    · replace h := am_ip c5 h
      refine op_aload_n (k := 1) dX4_atom_66 rfl rfl ?_
      refine op_bipush (v := 91) dX4_atom_67 (by decide) ?_
      refine op_iload_n (k := 2) dX4_atom_69 rfl rfl ?_
      obtain ⟨w6, ew6, h⟩ := am_bd h
      refine op_callV (M' := M_X4_opens) [.int 91, .int x1] (S0 := []) dX4_atom_70 tw_649 ok_X4_opens tw_651 tw_14 kd_17 cls_4 rfl rfl rfl (Nat.le_of_ble_eq_true rfl) (Nat.le_of_ble_eq_true rfl) (t_X4_opens (by omega) ew6) (am_le_rf _) ?_
      rintro _ _ ⟨rfl, rfl⟩
      refine op_if_eq (tgt := 95) dX4_atom_73 (by decide) (fun c7 => ?_) (fun c7 => ?_)
      · replace h := am_ip c7 h
        refine op_aload_n (k := 1) dX4_atom_95 rfl rfl ?_
        refine st_getR (z := 1) dX4_atom_96 fl_X4_15 kd_17 (by decide) rfl rr_17_0 ?_
        refine op_aload_n (k := 1) dX4_atom_99 rfl rfl ?_
        refine st_getR (z := 1) dX4_atom_100 fl_X4_15 kd_17 (by decide) rfl rr_17_0 ?_
        refine st_getI (v := w6.2 1 2) dX4_atom_103 fl_X4_37 kd_1 (by decide) rfl rfl ?_
        obtain ⟨w8, ew8, h⟩ := am_bd h
        refine op_callV (M' := M_X10_fail) [.int (w6.2 1 2)] (S0 := []) dX4_atom_106 tw_653 ok_X10_fail tw_587 tw_588 kd_1 cls_10 rfl rfl rfl (Nat.le_of_ble_eq_true rfl) (Nat.le_of_ble_eq_true rfl) (t_X10_fail (by omega) ew8) (am_le_rf _) ?_
        rintro _ _ ⟨rfl, rfl⟩
        cases h
        exact (op_vret dX4_atom_109 rfl ⟨rfl, rfl⟩)
      · replace h := am_ie c7 h
        refine op_aload_n (k := 1) dX4_atom_76 rfl rfl ?_
        refine op_iload_n (k := 2) dX4_atom_77 rfl rfl ?_
        refine op_iconst (v := 1) dX4_atom_78 (by decide) ?_
        refine op_iadd dX4_atom_79 ?_
        obtain ⟨w9, ew9, h⟩ := am_bd h
        refine op_callV (M' := M_X4_sum) [.int (x1 + 1)] (S0 := []) dX4_atom_80 tw_628 ok_X4_sum tw_630 tw_10 kd_17 cls_4 rfl rfl rfl (Nat.le_of_ble_eq_true rfl) (Nat.le_of_ble_eq_true rfl) (hr_X4_sum _ _ _ _ _ _ _ ew9) (am_le_rf _) ?_
        rintro _ _ ⟨rfl, rfl⟩
        refine op_aload_n (k := 1) dX4_atom_83 rfl rfl ?_
        refine st_getR (z := 1) dX4_atom_84 fl_X4_15 kd_17 (by decide) rfl rr_17_0 ?_
        refine op_bipush (v := 93) dX4_atom_87 (by decide) ?_
        obtain ⟨w10, ew10, h⟩ := am_bd h
        refine op_callV (M' := M_X10_expect) [.int 93] (S0 := []) dX4_atom_89 tw_623 ok_X10_expect tw_624 tw_625 kd_1 cls_10 rfl rfl rfl (Nat.le_of_ble_eq_true rfl) (Nat.le_of_ble_eq_true rfl) (t_X10_expect (by omega) ew10) (am_le_rf _) ?_
        rintro _ _ ⟨rfl, rfl⟩
        refine op_goto (tgt := 109) dX4_atom_92 (by decide) ?_
        cases h
        exact (op_vret dX4_atom_109 rfl ⟨rfl, rfl⟩)
    · replace h := am_ie c5 h
      refine op_aload_n (k := 1) dX4_atom_41 rfl rfl ?_
      refine st_getR (z := 1) dX4_atom_42 fl_X4_15 kd_17 (by decide) rfl rr_17_0 ?_
      refine op_dup dX4_atom_45 rfl ?_
      refine st_getI (v := w1.2 1 2) dX4_atom_46 fl_X4_37 kd_1 (by decide) rfl rfl ?_
      refine op_iconst (v := 1) dX4_atom_49 (by decide) ?_
      refine op_iadd dX4_atom_50 ?_
      refine st_putI dX4_atom_51 fl_X4_37 kd_1 (by decide) rfl ?_
      refine op_aload_n (k := 1) dX4_atom_54 rfl rfl ?_
      refine op_sipush (v := 10000) dX4_atom_55 (by decide) ?_
      refine op_iload_n (k := 0) dX4_atom_58 rfl rfl ?_
      refine op_iadd dX4_atom_59 ?_
      obtain ⟨w11, ew11, h⟩ := am_bd h
      refine op_callV (M' := M_X4_emit) [.int (10000 + w1.1)] (S0 := []) dX4_atom_60 tw_642 ok_X4_emit tw_644 tw_13 kd_17 cls_4 rfl rfl rfl (Nat.le_of_ble_eq_true rfl) (Nat.le_of_ble_eq_true rfl) (t_X4_emit (by omega) ew11) (am_le_rf _) ?_
      rintro _ _ ⟨rfl, rfl⟩
      refine op_goto (tgt := 109) dX4_atom_63 (by decide) ?_
      cases h
      exact (op_vret dX4_atom_109 rfl ⟨rfl, rfl⟩)
  · replace h := am_ie c3 h
    refine op_aload_n (k := 1) dX4_atom_19 rfl rfl ?_
    refine op_aload_n (k := 1) dX4_atom_20 rfl rfl ?_
    refine st_getR (z := 1) dX4_atom_21 fl_X4_15 kd_17 (by decide) rfl rr_17_0 ?_
    refine op_iconst (v := 4) dX4_atom_24 (by decide) ?_
    obtain ⟨w12, ew12, h⟩ := am_bd h
    refine op_callV (M' := M_X10_number) [.int 4] (S0 := [.ref 17]) dX4_atom_25 tw_641 ok_X10_number tw_578 tw_579 kd_1 cls_10 rfl rfl rfl (Nat.le_of_ble_eq_true rfl) (Nat.le_of_ble_eq_true rfl) (t_X10_number (by omega) ew12) (am_le_rf _) ?_
    rintro _ _ ⟨rfl, rfl⟩
    obtain ⟨w13, ew13, h⟩ := am_bd h
    refine op_callV (M' := M_X4_emit) [.int w12.1] (S0 := []) dX4_atom_28 tw_642 ok_X4_emit tw_644 tw_13 kd_17 cls_4 rfl rfl rfl (Nat.le_of_ble_eq_true rfl) (Nat.le_of_ble_eq_true rfl) (t_X4_emit (by omega) ew13) (am_le_rf _) ?_
    rintro _ _ ⟨rfl, rfl⟩
    refine op_goto (tgt := 109) dX4_atom_31 (by decide) ?_
    cases h
    exact (op_vret dX4_atom_109 rfl ⟨rfl, rfl⟩)
set_option maxRecDepth 100000 in
set_option maxHeartbeats 4000000 in
theorem t_X4_term_34 {l : Launch} {ρ : am_R} {n d gc gs : Nat} {rc_X4_atom : (Nat → Nat → Int32) → (Nat → Nat → Int64) → Nat → Int32 → Option ((Nat → Nat → Int32))} {rc_X4_term : (Nat → Nat → Int32) → (Nat → Nat → Int64) → Nat → Int32 → Option ((Nat → Nat → Int32))} {rc_X4_sum : (Nat → Nat → Int32) → (Nat → Nat → Int64) → Nat → Int32 → Option ((Nat → Nat → Int32))} {k15 : (Nat → Nat → Int32) → (Nat → Nat → Int64) → Nat → Int32 → Int32 → Int32 → Option ((Nat → Nat → Int32))} {I : Nat → Nat → Int32} {J : Nat → Nat → Int64} {T : Nat} {x1 : Int32} {x2 : Int32} {x3 : Int32} {q : (Nat → Nat → Int32)} (hd : 0 * n + 2 ≤ (d + 1))
    (hr_X4_atom : ∀ (I : Nat → Nat → Int32) (J : Nat → Nat → Int64) (T : Nat) (x1 : Int32) (q : (Nat → Nat → Int32)) (gc gs : Nat), rc_X4_atom I J T x1 = some q → AW l ρ d M_X4_atom 0 [(0, .ref 17), (1, .int x1)] [] (am_KD, gc, gs) (I, J, am_RT T) (am_KD, gc, gs) (fun v H' => v = [] ∧ H' = (q, J, am_RT T)))
    (hr_X4_term : ∀ (I : Nat → Nat → Int32) (J : Nat → Nat → Int64) (T : Nat) (x1 : Int32) (q : (Nat → Nat → Int32)) (gc gs : Nat), rc_X4_term I J T x1 = some q → AW l ρ d M_X4_term 0 [(0, .ref 17), (1, .int x1)] [] (am_KD, gc, gs) (I, J, am_RT T) (am_KD, gc, gs) (fun v H' => v = [] ∧ H' = (q, J, am_RT T)))
    (hr_X4_sum : ∀ (I : Nat → Nat → Int32) (J : Nat → Nat → Int64) (T : Nat) (x1 : Int32) (q : (Nat → Nat → Int32)) (gc gs : Nat), rc_X4_sum I J T x1 = some q → AW l ρ d M_X4_sum 0 [(0, .ref 17), (1, .int x1)] [] (am_KD, gc, gs) (I, J, am_RT T) (am_KD, gc, gs) (fun v H' => v = [] ∧ H' = (q, J, am_RT T)))
    (hk15 : ∀ (I : Nat → Nat → Int32) (J : Nat → Nat → Int64) (T : Nat) (x1 : Int32) (x2 : Int32) (x3 : Int32), k15 I J T x1 x2 x3 = some q → AW l ρ (d + 1) M_X4_term 15 [(0, .ref 17), (1, .int x1), (2, .int x2), (3, .int x3)] [] (am_KD, gc, gs) (I, J, am_RT T) (am_KD, gc, gs) (fun v H' => v = [] ∧ H' = (q, J, am_RT T)))
    (h : f_X4_term_34 n rc_X4_atom rc_X4_term rc_X4_sum k15 I J T x1 x2 x3 = some q) : AW l ρ (d + 1) M_X4_term 34 [(0, .ref 17), (1, .int x1), (2, .int x2), (3, .int x3)] [] (am_KD, gc, gs) (I, J, am_RT T) (am_KD, gc, gs) (fun v H' => v = [] ∧ H' = (q, J, am_RT T)) := by
  unfold f_X4_term_34 at h
  refine op_aload_n (k := 0) dX4_term_34 rfl rfl ?_
  refine st_getR (z := 1) dX4_term_35 fl_X4_15 kd_17 (by decide) rfl rr_17_0 ?_
  refine op_dup dX4_term_38 rfl ?_
  refine st_getI (v := I 1 2) dX4_term_39 fl_X4_37 kd_1 (by decide) rfl rfl ?_
  refine op_iconst (v := 1) dX4_term_42 (by decide) ?_
  refine op_iadd dX4_term_43 ?_
  refine st_putI dX4_term_44 fl_X4_37 kd_1 (by decide) rfl ?_
  refine op_aload_n (k := 0) dX4_term_47 rfl rfl ?_
  refine op_iload_n (k := 1) dX4_term_48 rfl rfl ?_
  obtain ⟨w1, ew1, h⟩ := am_bd h
  refine op_callV (M' := M_X4_atom) [.int x1] (S0 := []) dX4_term_49 tw_636 ok_X4_atom tw_638 tw_12 kd_17 cls_4 rfl rfl rfl (Nat.le_of_ble_eq_true rfl) (Nat.le_of_ble_eq_true rfl) (hr_X4_atom _ _ _ _ _ _ _ ew1) (am_le_rf _) ?_
  rintro _ _ ⟨rfl, rfl⟩
  refine op_aload_n (k := 0) dX4_term_52 rfl rfl ?_
  refine op_sipush (v := 10000) dX4_term_53 (by decide) ?_
  refine op_iload_n (k := 2) dX4_term_56 rfl rfl ?_
  refine op_iadd dX4_term_57 ?_
  obtain ⟨w2, ew2, h⟩ := am_bd h
  refine op_callV (M' := M_X4_emit) [.int (10000 + x2)] (S0 := []) dX4_term_58 tw_642 ok_X4_emit tw_644 tw_13 kd_17 cls_4 rfl rfl rfl (Nat.le_of_ble_eq_true rfl) (Nat.le_of_ble_eq_true rfl) (t_X4_emit (by omega) ew2) (am_le_rf _) ?_
  rintro _ _ ⟨rfl, rfl⟩
  refine op_aload_n (k := 0) dX4_term_61 rfl rfl ?_
  refine st_getR (z := 1) dX4_term_62 fl_X4_15 kd_17 (by decide) rfl rr_17_0 ?_
  obtain ⟨w3, ew3, h⟩ := am_bd h
  refine op_callV (M' := M_X10_sign) [] (S0 := []) dX4_term_65 tw_627 ok_X10_sign tw_561 tw_562 kd_1 cls_10 rfl rfl rfl (Nat.le_of_ble_eq_true rfl) (Nat.le_of_ble_eq_true rfl) (t_X10_sign (by omega) ew3) (am_le_rf _) ?_
  rintro _ _ ⟨rfl, rfl⟩
  refine op_istore_n (L' := [(2, .int w3.1), (0, .ref 17), (1, .int x1), (3, .int x3)]) dX4_term_68 rfl (by decide) rfl ?_
  refine op_iinc (k := 3) (v := x3 + 1) (L' := [(3, .int (x3 + 1)), (2, .int w3.1), (0, .ref 17), (1, .int x1)]) dX4_term_69 rfl rfl (by decide) rfl ?_
  refine op_goto (tgt := 15) dX4_term_72 (by decide) ?_
  refine AW.perm [2, 3, 1, 0] rfl ?_
  exact hk15 _ _ _ _ _ _ h
set_option maxRecDepth 100000 in
set_option maxHeartbeats 4000000 in
theorem t_X4_term_15 {l : Launch} {ρ : am_R} {n d gc gs : Nat} {rc_X4_atom : (Nat → Nat → Int32) → (Nat → Nat → Int64) → Nat → Int32 → Option ((Nat → Nat → Int32))} {rc_X4_term : (Nat → Nat → Int32) → (Nat → Nat → Int64) → Nat → Int32 → Option ((Nat → Nat → Int32))} {rc_X4_sum : (Nat → Nat → Int32) → (Nat → Nat → Int64) → Nat → Int32 → Option ((Nat → Nat → Int32))} {q : (Nat → Nat → Int32)} (hd : 0 * n + 2 ≤ (d + 1))
    (hr_X4_atom : ∀ (I : Nat → Nat → Int32) (J : Nat → Nat → Int64) (T : Nat) (x1 : Int32) (q : (Nat → Nat → Int32)) (gc gs : Nat), rc_X4_atom I J T x1 = some q → AW l ρ d M_X4_atom 0 [(0, .ref 17), (1, .int x1)] [] (am_KD, gc, gs) (I, J, am_RT T) (am_KD, gc, gs) (fun v H' => v = [] ∧ H' = (q, J, am_RT T)))
    (hr_X4_term : ∀ (I : Nat → Nat → Int32) (J : Nat → Nat → Int64) (T : Nat) (x1 : Int32) (q : (Nat → Nat → Int32)) (gc gs : Nat), rc_X4_term I J T x1 = some q → AW l ρ d M_X4_term 0 [(0, .ref 17), (1, .int x1)] [] (am_KD, gc, gs) (I, J, am_RT T) (am_KD, gc, gs) (fun v H' => v = [] ∧ H' = (q, J, am_RT T)))
    (hr_X4_sum : ∀ (I : Nat → Nat → Int32) (J : Nat → Nat → Int64) (T : Nat) (x1 : Int32) (q : (Nat → Nat → Int32)) (gc gs : Nat), rc_X4_sum I J T x1 = some q → AW l ρ d M_X4_sum 0 [(0, .ref 17), (1, .int x1)] [] (am_KD, gc, gs) (I, J, am_RT T) (am_KD, gc, gs) (fun v H' => v = [] ∧ H' = (q, J, am_RT T)))
    : ∀ (m : Nat) (I : Nat → Nat → Int32) (J : Nat → Nat → Int64) (T : Nat) (x1 : Int32) (x2 : Int32) (x3 : Int32), f_X4_term_15 n rc_X4_atom rc_X4_term rc_X4_sum m I J T x1 x2 x3 = some q → AW l ρ (d + 1) M_X4_term 15 [(0, .ref 17), (1, .int x1), (2, .int x2), (3, .int x3)] [] (am_KD, gc, gs) (I, J, am_RT T) (am_KD, gc, gs) (fun v H' => v = [] ∧ H' = (q, J, am_RT T)) := by
  intro m
  induction m with
  | zero =>
    intro I J T x1 x2 x3 h
    rw [f_X4_term_15] at h
    cases h
  | succ m ih =>
    intro I J T x1 x2 x3 h
    rw [f_X4_term_15] at h
    refine op_iload_n (k := 3) dX4_term_15 rfl rfl ?_
    refine op_sipush (v := 160) dX4_term_16 (by decide) ?_
    refine op_icmp_ge (tgt := 75) dX4_term_19 (by decide) (fun c1 => ?_) (fun c1 => ?_)
    · replace h := am_ip c1 h
      cases h
      exact (op_vret dX4_term_75 rfl ⟨rfl, rfl⟩)
    · replace h := am_ie c1 h
      refine op_iload_n (k := 2) dX4_term_22 rfl rfl ?_
      refine op_bipush (v := 42) dX4_term_23 (by decide) ?_
      refine op_icmp_eq (tgt := 34) dX4_term_25 (by decide) (fun c2 => ?_) (fun c2 => ?_)
      · replace h := am_ip c2 h
        exact t_X4_term_34 hd hr_X4_atom hr_X4_term hr_X4_sum ih h
      · replace h := am_ie c2 h
        refine op_iload_n (k := 2) dX4_term_28 rfl rfl ?_
        refine op_bipush (v := 47) dX4_term_29 (by decide) ?_
        refine op_icmp_ne (tgt := 75) dX4_term_31 (by decide) (fun c3 => ?_) (fun c3 => ?_)
        · replace h := am_ie c3 h
          cases h
          exact (op_vret dX4_term_75 rfl ⟨rfl, rfl⟩)
        · replace h := am_ip c3 h
          exact t_X4_term_34 hd hr_X4_atom hr_X4_term hr_X4_sum ih h
set_option maxRecDepth 100000 in
set_option maxHeartbeats 4000000 in
theorem t_X4_term_0 {l : Launch} {ρ : am_R} {n d gc gs : Nat} {rc_X4_atom : (Nat → Nat → Int32) → (Nat → Nat → Int64) → Nat → Int32 → Option ((Nat → Nat → Int32))} {rc_X4_term : (Nat → Nat → Int32) → (Nat → Nat → Int64) → Nat → Int32 → Option ((Nat → Nat → Int32))} {rc_X4_sum : (Nat → Nat → Int32) → (Nat → Nat → Int64) → Nat → Int32 → Option ((Nat → Nat → Int32))} {I : Nat → Nat → Int32} {J : Nat → Nat → Int64} {T : Nat} {x1 : Int32} {q : (Nat → Nat → Int32)} (hd : 0 * n + 2 ≤ (d + 1))
    (hr_X4_atom : ∀ (I : Nat → Nat → Int32) (J : Nat → Nat → Int64) (T : Nat) (x1 : Int32) (q : (Nat → Nat → Int32)) (gc gs : Nat), rc_X4_atom I J T x1 = some q → AW l ρ d M_X4_atom 0 [(0, .ref 17), (1, .int x1)] [] (am_KD, gc, gs) (I, J, am_RT T) (am_KD, gc, gs) (fun v H' => v = [] ∧ H' = (q, J, am_RT T)))
    (hr_X4_term : ∀ (I : Nat → Nat → Int32) (J : Nat → Nat → Int64) (T : Nat) (x1 : Int32) (q : (Nat → Nat → Int32)) (gc gs : Nat), rc_X4_term I J T x1 = some q → AW l ρ d M_X4_term 0 [(0, .ref 17), (1, .int x1)] [] (am_KD, gc, gs) (I, J, am_RT T) (am_KD, gc, gs) (fun v H' => v = [] ∧ H' = (q, J, am_RT T)))
    (hr_X4_sum : ∀ (I : Nat → Nat → Int32) (J : Nat → Nat → Int64) (T : Nat) (x1 : Int32) (q : (Nat → Nat → Int32)) (gc gs : Nat), rc_X4_sum I J T x1 = some q → AW l ρ d M_X4_sum 0 [(0, .ref 17), (1, .int x1)] [] (am_KD, gc, gs) (I, J, am_RT T) (am_KD, gc, gs) (fun v H' => v = [] ∧ H' = (q, J, am_RT T)))
    (h : fb_X4_term n rc_X4_atom rc_X4_term rc_X4_sum I J T x1 = some q) : AW l ρ (d + 1) M_X4_term 0 [(0, .ref 17), (1, .int x1)] [] (am_KD, gc, gs) (I, J, am_RT T) (am_KD, gc, gs) (fun v H' => v = [] ∧ H' = (q, J, am_RT T)) := by
  unfold fb_X4_term at h
  refine op_aload_n (k := 0) dX4_term_0 rfl rfl ?_
  refine op_iload_n (k := 1) dX4_term_1 rfl rfl ?_
  obtain ⟨w1, ew1, h⟩ := am_bd h
  refine op_callV (M' := M_X4_atom) [.int x1] (S0 := []) dX4_term_2 tw_636 ok_X4_atom tw_638 tw_12 kd_17 cls_4 rfl rfl rfl (Nat.le_of_ble_eq_true rfl) (Nat.le_of_ble_eq_true rfl) (hr_X4_atom _ _ _ _ _ _ _ ew1) (am_le_rf _) ?_
  rintro _ _ ⟨rfl, rfl⟩
  refine op_aload_n (k := 0) dX4_term_5 rfl rfl ?_
  refine st_getR (z := 1) dX4_term_6 fl_X4_15 kd_17 (by decide) rfl rr_17_0 ?_
  obtain ⟨w2, ew2, h⟩ := am_bd h
  refine op_callV (M' := M_X10_sign) [] (S0 := []) dX4_term_9 tw_627 ok_X10_sign tw_561 tw_562 kd_1 cls_10 rfl rfl rfl (Nat.le_of_ble_eq_true rfl) (Nat.le_of_ble_eq_true rfl) (t_X10_sign (by omega) ew2) (am_le_rf _) ?_
  rintro _ _ ⟨rfl, rfl⟩
  refine op_istore_n (L' := [(2, .int w2.1), (0, .ref 17), (1, .int x1)]) dX4_term_12 rfl (by decide) rfl ?_
  refine op_iconst (v := 0) dX4_term_13 (by decide) ?_
  refine op_istore_n (L' := [(3, .int 0), (2, .int w2.1), (0, .ref 17), (1, .int x1)]) dX4_term_14 rfl (by decide) rfl ?_
  refine AW.perm [2, 3, 1, 0] rfl ?_
  exact t_X4_term_15 hd hr_X4_atom hr_X4_term hr_X4_sum n _ _ _ _ _ _ h
set_option maxRecDepth 100000 in
set_option maxHeartbeats 4000000 in
theorem t_X4_sum_34 {l : Launch} {ρ : am_R} {n d gc gs : Nat} {rc_X4_atom : (Nat → Nat → Int32) → (Nat → Nat → Int64) → Nat → Int32 → Option ((Nat → Nat → Int32))} {rc_X4_term : (Nat → Nat → Int32) → (Nat → Nat → Int64) → Nat → Int32 → Option ((Nat → Nat → Int32))} {rc_X4_sum : (Nat → Nat → Int32) → (Nat → Nat → Int64) → Nat → Int32 → Option ((Nat → Nat → Int32))} {k15 : (Nat → Nat → Int32) → (Nat → Nat → Int64) → Nat → Int32 → Int32 → Int32 → Option ((Nat → Nat → Int32))} {I : Nat → Nat → Int32} {J : Nat → Nat → Int64} {T : Nat} {x1 : Int32} {x2 : Int32} {x3 : Int32} {q : (Nat → Nat → Int32)} (hd : 0 * n + 2 ≤ (d + 1))
    (hr_X4_atom : ∀ (I : Nat → Nat → Int32) (J : Nat → Nat → Int64) (T : Nat) (x1 : Int32) (q : (Nat → Nat → Int32)) (gc gs : Nat), rc_X4_atom I J T x1 = some q → AW l ρ d M_X4_atom 0 [(0, .ref 17), (1, .int x1)] [] (am_KD, gc, gs) (I, J, am_RT T) (am_KD, gc, gs) (fun v H' => v = [] ∧ H' = (q, J, am_RT T)))
    (hr_X4_term : ∀ (I : Nat → Nat → Int32) (J : Nat → Nat → Int64) (T : Nat) (x1 : Int32) (q : (Nat → Nat → Int32)) (gc gs : Nat), rc_X4_term I J T x1 = some q → AW l ρ d M_X4_term 0 [(0, .ref 17), (1, .int x1)] [] (am_KD, gc, gs) (I, J, am_RT T) (am_KD, gc, gs) (fun v H' => v = [] ∧ H' = (q, J, am_RT T)))
    (hr_X4_sum : ∀ (I : Nat → Nat → Int32) (J : Nat → Nat → Int64) (T : Nat) (x1 : Int32) (q : (Nat → Nat → Int32)) (gc gs : Nat), rc_X4_sum I J T x1 = some q → AW l ρ d M_X4_sum 0 [(0, .ref 17), (1, .int x1)] [] (am_KD, gc, gs) (I, J, am_RT T) (am_KD, gc, gs) (fun v H' => v = [] ∧ H' = (q, J, am_RT T)))
    (hk15 : ∀ (I : Nat → Nat → Int32) (J : Nat → Nat → Int64) (T : Nat) (x1 : Int32) (x2 : Int32) (x3 : Int32), k15 I J T x1 x2 x3 = some q → AW l ρ (d + 1) M_X4_sum 15 [(0, .ref 17), (1, .int x1), (2, .int x2), (3, .int x3)] [] (am_KD, gc, gs) (I, J, am_RT T) (am_KD, gc, gs) (fun v H' => v = [] ∧ H' = (q, J, am_RT T)))
    (h : f_X4_sum_34 n rc_X4_atom rc_X4_term rc_X4_sum k15 I J T x1 x2 x3 = some q) : AW l ρ (d + 1) M_X4_sum 34 [(0, .ref 17), (1, .int x1), (2, .int x2), (3, .int x3)] [] (am_KD, gc, gs) (I, J, am_RT T) (am_KD, gc, gs) (fun v H' => v = [] ∧ H' = (q, J, am_RT T)) := by
  unfold f_X4_sum_34 at h
  refine op_aload_n (k := 0) dX4_sum_34 rfl rfl ?_
  refine st_getR (z := 1) dX4_sum_35 fl_X4_15 kd_17 (by decide) rfl rr_17_0 ?_
  refine op_dup dX4_sum_38 rfl ?_
  refine st_getI (v := I 1 2) dX4_sum_39 fl_X4_37 kd_1 (by decide) rfl rfl ?_
  refine op_iconst (v := 1) dX4_sum_42 (by decide) ?_
  refine op_iadd dX4_sum_43 ?_
  refine st_putI dX4_sum_44 fl_X4_37 kd_1 (by decide) rfl ?_
  refine op_aload_n (k := 0) dX4_sum_47 rfl rfl ?_
  refine op_iload_n (k := 1) dX4_sum_48 rfl rfl ?_
  obtain ⟨w1, ew1, h⟩ := am_bd h
  refine op_callV (M' := M_X4_term) [.int x1] (S0 := []) dX4_sum_49 tw_632 ok_X4_term tw_634 tw_11 kd_17 cls_4 rfl rfl rfl (Nat.le_of_ble_eq_true rfl) (Nat.le_of_ble_eq_true rfl) (hr_X4_term _ _ _ _ _ _ _ ew1) (am_le_rf _) ?_
  rintro _ _ ⟨rfl, rfl⟩
  refine op_aload_n (k := 0) dX4_sum_52 rfl rfl ?_
  refine op_sipush (v := 10000) dX4_sum_53 (by decide) ?_
  refine op_iload_n (k := 2) dX4_sum_56 rfl rfl ?_
  refine op_iadd dX4_sum_57 ?_
  obtain ⟨w2, ew2, h⟩ := am_bd h
  refine op_callV (M' := M_X4_emit) [.int (10000 + x2)] (S0 := []) dX4_sum_58 tw_642 ok_X4_emit tw_644 tw_13 kd_17 cls_4 rfl rfl rfl (Nat.le_of_ble_eq_true rfl) (Nat.le_of_ble_eq_true rfl) (t_X4_emit (by omega) ew2) (am_le_rf _) ?_
  rintro _ _ ⟨rfl, rfl⟩
  refine op_aload_n (k := 0) dX4_sum_61 rfl rfl ?_
  refine st_getR (z := 1) dX4_sum_62 fl_X4_15 kd_17 (by decide) rfl rr_17_0 ?_
  obtain ⟨w3, ew3, h⟩ := am_bd h
  refine op_callV (M' := M_X10_sign) [] (S0 := []) dX4_sum_65 tw_627 ok_X10_sign tw_561 tw_562 kd_1 cls_10 rfl rfl rfl (Nat.le_of_ble_eq_true rfl) (Nat.le_of_ble_eq_true rfl) (t_X10_sign (by omega) ew3) (am_le_rf _) ?_
  rintro _ _ ⟨rfl, rfl⟩
  refine op_istore_n (L' := [(2, .int w3.1), (0, .ref 17), (1, .int x1), (3, .int x3)]) dX4_sum_68 rfl (by decide) rfl ?_
  refine op_iinc (k := 3) (v := x3 + 1) (L' := [(3, .int (x3 + 1)), (2, .int w3.1), (0, .ref 17), (1, .int x1)]) dX4_sum_69 rfl rfl (by decide) rfl ?_
  refine op_goto (tgt := 15) dX4_sum_72 (by decide) ?_
  refine AW.perm [2, 3, 1, 0] rfl ?_
  exact hk15 _ _ _ _ _ _ h
set_option maxRecDepth 100000 in
set_option maxHeartbeats 4000000 in
theorem t_X4_sum_15 {l : Launch} {ρ : am_R} {n d gc gs : Nat} {rc_X4_atom : (Nat → Nat → Int32) → (Nat → Nat → Int64) → Nat → Int32 → Option ((Nat → Nat → Int32))} {rc_X4_term : (Nat → Nat → Int32) → (Nat → Nat → Int64) → Nat → Int32 → Option ((Nat → Nat → Int32))} {rc_X4_sum : (Nat → Nat → Int32) → (Nat → Nat → Int64) → Nat → Int32 → Option ((Nat → Nat → Int32))} {q : (Nat → Nat → Int32)} (hd : 0 * n + 2 ≤ (d + 1))
    (hr_X4_atom : ∀ (I : Nat → Nat → Int32) (J : Nat → Nat → Int64) (T : Nat) (x1 : Int32) (q : (Nat → Nat → Int32)) (gc gs : Nat), rc_X4_atom I J T x1 = some q → AW l ρ d M_X4_atom 0 [(0, .ref 17), (1, .int x1)] [] (am_KD, gc, gs) (I, J, am_RT T) (am_KD, gc, gs) (fun v H' => v = [] ∧ H' = (q, J, am_RT T)))
    (hr_X4_term : ∀ (I : Nat → Nat → Int32) (J : Nat → Nat → Int64) (T : Nat) (x1 : Int32) (q : (Nat → Nat → Int32)) (gc gs : Nat), rc_X4_term I J T x1 = some q → AW l ρ d M_X4_term 0 [(0, .ref 17), (1, .int x1)] [] (am_KD, gc, gs) (I, J, am_RT T) (am_KD, gc, gs) (fun v H' => v = [] ∧ H' = (q, J, am_RT T)))
    (hr_X4_sum : ∀ (I : Nat → Nat → Int32) (J : Nat → Nat → Int64) (T : Nat) (x1 : Int32) (q : (Nat → Nat → Int32)) (gc gs : Nat), rc_X4_sum I J T x1 = some q → AW l ρ d M_X4_sum 0 [(0, .ref 17), (1, .int x1)] [] (am_KD, gc, gs) (I, J, am_RT T) (am_KD, gc, gs) (fun v H' => v = [] ∧ H' = (q, J, am_RT T)))
    : ∀ (m : Nat) (I : Nat → Nat → Int32) (J : Nat → Nat → Int64) (T : Nat) (x1 : Int32) (x2 : Int32) (x3 : Int32), f_X4_sum_15 n rc_X4_atom rc_X4_term rc_X4_sum m I J T x1 x2 x3 = some q → AW l ρ (d + 1) M_X4_sum 15 [(0, .ref 17), (1, .int x1), (2, .int x2), (3, .int x3)] [] (am_KD, gc, gs) (I, J, am_RT T) (am_KD, gc, gs) (fun v H' => v = [] ∧ H' = (q, J, am_RT T)) := by
  intro m
  induction m with
  | zero =>
    intro I J T x1 x2 x3 h
    rw [f_X4_sum_15] at h
    cases h
  | succ m ih =>
    intro I J T x1 x2 x3 h
    rw [f_X4_sum_15] at h
    refine op_iload_n (k := 3) dX4_sum_15 rfl rfl ?_
    refine op_sipush (v := 160) dX4_sum_16 (by decide) ?_
    refine op_icmp_ge (tgt := 75) dX4_sum_19 (by decide) (fun c1 => ?_) (fun c1 => ?_)
    · replace h := am_ip c1 h
      cases h
      exact (op_vret dX4_sum_75 rfl ⟨rfl, rfl⟩)
    · replace h := am_ie c1 h
      refine op_iload_n (k := 2) dX4_sum_22 rfl rfl ?_
      refine op_bipush (v := 43) dX4_sum_23 (by decide) ?_
      refine op_icmp_eq (tgt := 34) dX4_sum_25 (by decide) (fun c2 => ?_) (fun c2 => ?_)
      · replace h := am_ip c2 h
        exact t_X4_sum_34 hd hr_X4_atom hr_X4_term hr_X4_sum ih h
      · replace h := am_ie c2 h
        refine op_iload_n (k := 2) dX4_sum_28 rfl rfl ?_
        refine op_bipush (v := 45) dX4_sum_29 (by decide) ?_
        refine op_icmp_ne (tgt := 75) dX4_sum_31 (by decide) (fun c3 => ?_) (fun c3 => ?_)
        · replace h := am_ie c3 h
          cases h
          exact (op_vret dX4_sum_75 rfl ⟨rfl, rfl⟩)
        · replace h := am_ip c3 h
          exact t_X4_sum_34 hd hr_X4_atom hr_X4_term hr_X4_sum ih h
set_option maxRecDepth 100000 in
set_option maxHeartbeats 4000000 in
theorem t_X4_sum_0 {l : Launch} {ρ : am_R} {n d gc gs : Nat} {rc_X4_atom : (Nat → Nat → Int32) → (Nat → Nat → Int64) → Nat → Int32 → Option ((Nat → Nat → Int32))} {rc_X4_term : (Nat → Nat → Int32) → (Nat → Nat → Int64) → Nat → Int32 → Option ((Nat → Nat → Int32))} {rc_X4_sum : (Nat → Nat → Int32) → (Nat → Nat → Int64) → Nat → Int32 → Option ((Nat → Nat → Int32))} {I : Nat → Nat → Int32} {J : Nat → Nat → Int64} {T : Nat} {x1 : Int32} {q : (Nat → Nat → Int32)} (hd : 0 * n + 2 ≤ (d + 1))
    (hr_X4_atom : ∀ (I : Nat → Nat → Int32) (J : Nat → Nat → Int64) (T : Nat) (x1 : Int32) (q : (Nat → Nat → Int32)) (gc gs : Nat), rc_X4_atom I J T x1 = some q → AW l ρ d M_X4_atom 0 [(0, .ref 17), (1, .int x1)] [] (am_KD, gc, gs) (I, J, am_RT T) (am_KD, gc, gs) (fun v H' => v = [] ∧ H' = (q, J, am_RT T)))
    (hr_X4_term : ∀ (I : Nat → Nat → Int32) (J : Nat → Nat → Int64) (T : Nat) (x1 : Int32) (q : (Nat → Nat → Int32)) (gc gs : Nat), rc_X4_term I J T x1 = some q → AW l ρ d M_X4_term 0 [(0, .ref 17), (1, .int x1)] [] (am_KD, gc, gs) (I, J, am_RT T) (am_KD, gc, gs) (fun v H' => v = [] ∧ H' = (q, J, am_RT T)))
    (hr_X4_sum : ∀ (I : Nat → Nat → Int32) (J : Nat → Nat → Int64) (T : Nat) (x1 : Int32) (q : (Nat → Nat → Int32)) (gc gs : Nat), rc_X4_sum I J T x1 = some q → AW l ρ d M_X4_sum 0 [(0, .ref 17), (1, .int x1)] [] (am_KD, gc, gs) (I, J, am_RT T) (am_KD, gc, gs) (fun v H' => v = [] ∧ H' = (q, J, am_RT T)))
    (h : fb_X4_sum n rc_X4_atom rc_X4_term rc_X4_sum I J T x1 = some q) : AW l ρ (d + 1) M_X4_sum 0 [(0, .ref 17), (1, .int x1)] [] (am_KD, gc, gs) (I, J, am_RT T) (am_KD, gc, gs) (fun v H' => v = [] ∧ H' = (q, J, am_RT T)) := by
  unfold fb_X4_sum at h
  refine op_aload_n (k := 0) dX4_sum_0 rfl rfl ?_
  refine op_iload_n (k := 1) dX4_sum_1 rfl rfl ?_
  obtain ⟨w1, ew1, h⟩ := am_bd h
  refine op_callV (M' := M_X4_term) [.int x1] (S0 := []) dX4_sum_2 tw_632 ok_X4_term tw_634 tw_11 kd_17 cls_4 rfl rfl rfl (Nat.le_of_ble_eq_true rfl) (Nat.le_of_ble_eq_true rfl) (hr_X4_term _ _ _ _ _ _ _ ew1) (am_le_rf _) ?_
  rintro _ _ ⟨rfl, rfl⟩
  refine op_aload_n (k := 0) dX4_sum_5 rfl rfl ?_
  refine st_getR (z := 1) dX4_sum_6 fl_X4_15 kd_17 (by decide) rfl rr_17_0 ?_
  obtain ⟨w2, ew2, h⟩ := am_bd h
  refine op_callV (M' := M_X10_sign) [] (S0 := []) dX4_sum_9 tw_627 ok_X10_sign tw_561 tw_562 kd_1 cls_10 rfl rfl rfl (Nat.le_of_ble_eq_true rfl) (Nat.le_of_ble_eq_true rfl) (t_X10_sign (by omega) ew2) (am_le_rf _) ?_
  rintro _ _ ⟨rfl, rfl⟩
  refine op_istore_n (L' := [(2, .int w2.1), (0, .ref 17), (1, .int x1)]) dX4_sum_12 rfl (by decide) rfl ?_
  refine op_iconst (v := 0) dX4_sum_13 (by decide) ?_
  refine op_istore_n (L' := [(3, .int 0), (2, .int w2.1), (0, .ref 17), (1, .int x1)]) dX4_sum_14 rfl (by decide) rfl ?_
  refine AW.perm [2, 3, 1, 0] rfl ?_
  exact t_X4_sum_15 hd hr_X4_atom hr_X4_term hr_X4_sum n _ _ _ _ _ _ h
set_option maxRecDepth 100000 in
set_option maxHeartbeats 4000000 in
theorem tx_X4_atom {l : Launch} {ρ : am_R} (n : Nat) : ∀ (r d : Nat), r + 0 * n + 2 ≤ d → (∀ (I : Nat → Nat → Int32) (J : Nat → Nat → Int64) (T : Nat) (x1 : Int32) (q : (Nat → Nat → Int32)) (gc gs : Nat), (fx_X4_atom n r).1 I J T x1 = some q → AW l ρ d M_X4_atom 0 [(0, .ref 17), (1, .int x1)] [] (am_KD, gc, gs) (I, J, am_RT T) (am_KD, gc, gs) (fun v H' => v = [] ∧ H' = (q, J, am_RT T))) ∧ (∀ (I : Nat → Nat → Int32) (J : Nat → Nat → Int64) (T : Nat) (x1 : Int32) (q : (Nat → Nat → Int32)) (gc gs : Nat), (fx_X4_atom n r).2.1 I J T x1 = some q → AW l ρ d M_X4_term 0 [(0, .ref 17), (1, .int x1)] [] (am_KD, gc, gs) (I, J, am_RT T) (am_KD, gc, gs) (fun v H' => v = [] ∧ H' = (q, J, am_RT T))) ∧ (∀ (I : Nat → Nat → Int32) (J : Nat → Nat → Int64) (T : Nat) (x1 : Int32) (q : (Nat → Nat → Int32)) (gc gs : Nat), (fx_X4_atom n r).2.2 I J T x1 = some q → AW l ρ d M_X4_sum 0 [(0, .ref 17), (1, .int x1)] [] (am_KD, gc, gs) (I, J, am_RT T) (am_KD, gc, gs) (fun v H' => v = [] ∧ H' = (q, J, am_RT T))) := by
  intro r
  induction r with
  | zero =>
    intro d _
    exact ⟨(fun _ _ _ _ q _ _ h => by have h : none = some q := h; cases h), (fun _ _ _ _ q _ _ h => by have h : none = some q := h; cases h), (fun _ _ _ _ q _ _ h => by have h : none = some q := h; cases h)⟩
  | succ r ih =>
    intro d hd
    obtain ⟨d, rfl⟩ : ∃ e, d = e + 1 := ⟨d - 1, by omega⟩
    have ih := ih d (by omega)
    exact ⟨(fun _ _ _ _ q _ _ h => t_X4_atom_0 (rc_X4_atom := (fx_X4_atom n r).1) (rc_X4_term := (fx_X4_atom n r).2.1) (rc_X4_sum := (fx_X4_atom n r).2.2) (by omega) (ih.1) (ih.2.1) (ih.2.2) h), (fun _ _ _ _ q _ _ h => t_X4_term_0 (rc_X4_atom := (fx_X4_atom n r).1) (rc_X4_term := (fx_X4_atom n r).2.1) (rc_X4_sum := (fx_X4_atom n r).2.2) (by omega) (ih.1) (ih.2.1) (ih.2.2) h), (fun _ _ _ _ q _ _ h => t_X4_sum_0 (rc_X4_atom := (fx_X4_atom n r).1) (rc_X4_term := (fx_X4_atom n r).2.1) (rc_X4_sum := (fx_X4_atom n r).2.2) (by omega) (ih.1) (ih.2.1) (ih.2.2) h)⟩
theorem t_X4_atom {l : Launch} {ρ : am_R} {n d gc gs : Nat} {I : Nat → Nat → Int32} {J : Nat → Nat → Int64} {T : Nat} {x1 : Int32} {q : (Nat → Nat → Int32)} (hd : 1 * n + 2 ≤ d) (h : f_X4_atom n I J T x1 = some q) : AW l ρ d M_X4_atom 0 [(0, .ref 17), (1, .int x1)] [] (am_KD, gc, gs) (I, J, am_RT T) (am_KD, gc, gs) (fun v H' => v = [] ∧ H' = (q, J, am_RT T)) := (tx_X4_atom n n d (by omega)).1 _ _ _ _ _ _ _ h
theorem t_X4_term {l : Launch} {ρ : am_R} {n d gc gs : Nat} {I : Nat → Nat → Int32} {J : Nat → Nat → Int64} {T : Nat} {x1 : Int32} {q : (Nat → Nat → Int32)} (hd : 1 * n + 2 ≤ d) (h : f_X4_term n I J T x1 = some q) : AW l ρ d M_X4_term 0 [(0, .ref 17), (1, .int x1)] [] (am_KD, gc, gs) (I, J, am_RT T) (am_KD, gc, gs) (fun v H' => v = [] ∧ H' = (q, J, am_RT T)) := (tx_X4_atom n n d (by omega)).2.1 _ _ _ _ _ _ _ h
theorem t_X4_sum {l : Launch} {ρ : am_R} {n d gc gs : Nat} {I : Nat → Nat → Int32} {J : Nat → Nat → Int64} {T : Nat} {x1 : Int32} {q : (Nat → Nat → Int32)} (hd : 1 * n + 2 ≤ d) (h : f_X4_sum n I J T x1 = some q) : AW l ρ d M_X4_sum 0 [(0, .ref 17), (1, .int x1)] [] (am_KD, gc, gs) (I, J, am_RT T) (am_KD, gc, gs) (fun v H' => v = [] ∧ H' = (q, J, am_RT T)) := (tx_X4_atom n n d (by omega)).2.2 _ _ _ _ _ _ _ h
def f_X4_isComparison_18 (n : Nat) (I : Nat → Nat → Int32) (J : Nat → Nat → Int64) (T : Nat) : Option (Int32) :=
  some (1)
def f_X4_isComparison (n : Nat) (I : Nat → Nat → Int32) (J : Nat → Nat → Int64) (T : Nat) (x0 : Int32) : Option (Int32) :=
  if x0 = 61 then
   f_X4_isComparison_18 n  I J T
  else
   if x0 = 60 then
    f_X4_isComparison_18 n  I J T
   else
    if x0 = 62 then
     f_X4_isComparison_18 n  I J T
    else
     some (0)
set_option maxRecDepth 100000 in
set_option maxHeartbeats 4000000 in
theorem t_X4_isComparison_18 {l : Launch} {ρ : am_R} {n d gc gs : Nat} {I : Nat → Nat → Int32} {J : Nat → Nat → Int64} {T : Nat} {q : Int32} (hd : 0 * n + 0 ≤ d)
    (h : f_X4_isComparison_18 n  I J T  = some q) : AW l ρ d M_X4_isComparison 18 [] [] (am_KD, gc, gs) (I, J, am_RT T) (am_KD, gc, gs) (fun v H' => v = [.int q] ∧ H' = (I, J, am_RT T)) := by
  unfold f_X4_isComparison_18 at h
  refine op_iconst (v := 1) dX4_isComparison_18 (by decide) ?_
  refine op_goto (tgt := 23) dX4_isComparison_19 (by decide) ?_
  cases h
  exact (op_iret dX4_isComparison_23 rfl (by decide) ⟨rfl, rfl⟩)
set_option maxRecDepth 100000 in
set_option maxHeartbeats 4000000 in
theorem t_X4_isComparison_0 {l : Launch} {ρ : am_R} {n d gc gs : Nat} {I : Nat → Nat → Int32} {J : Nat → Nat → Int64} {T : Nat} {x0 : Int32} {q : Int32} (hd : 0 * n + 0 ≤ d)
    (h : f_X4_isComparison n  I J T x0 = some q) : AW l ρ d M_X4_isComparison 0 [(0, .int x0)] [] (am_KD, gc, gs) (I, J, am_RT T) (am_KD, gc, gs) (fun v H' => v = [.int q] ∧ H' = (I, J, am_RT T)) := by
  unfold f_X4_isComparison at h
  refine op_iload_n (k := 0) dX4_isComparison_0 rfl rfl ?_
  refine op_bipush (v := 61) dX4_isComparison_1 (by decide) ?_
  refine op_icmp_eq (tgt := 18) dX4_isComparison_3 (by decide) (fun c1 => ?_) (fun c1 => ?_)
  · replace h := am_ip c1 h
    refine AW.perm [] rfl ?_
    exact t_X4_isComparison_18 hd  h
  · replace h := am_ie c1 h
    refine op_iload_n (k := 0) dX4_isComparison_6 rfl rfl ?_
    refine op_bipush (v := 60) dX4_isComparison_7 (by decide) ?_
    refine op_icmp_eq (tgt := 18) dX4_isComparison_9 (by decide) (fun c2 => ?_) (fun c2 => ?_)
    · replace h := am_ip c2 h
      refine AW.perm [] rfl ?_
      exact t_X4_isComparison_18 hd  h
    · replace h := am_ie c2 h
      refine op_iload_n (k := 0) dX4_isComparison_12 rfl rfl ?_
      refine op_bipush (v := 62) dX4_isComparison_13 (by decide) ?_
      refine op_icmp_ne (tgt := 22) dX4_isComparison_15 (by decide) (fun c3 => ?_) (fun c3 => ?_)
      · replace h := am_ie c3 h
        refine op_iconst (v := 0) dX4_isComparison_22 (by decide) ?_
        cases h
        exact (op_iret dX4_isComparison_23 rfl (by decide) ⟨rfl, rfl⟩)
      · replace h := am_ip c3 h
        refine AW.perm [] rfl ?_
        exact t_X4_isComparison_18 hd  h
theorem t_X4_isComparison {l : Launch} {ρ : am_R} {n d gc gs : Nat} {I : Nat → Nat → Int32} {J : Nat → Nat → Int64} {T : Nat} {x0 : Int32} {q : Int32} (hd : 0 * n + 0 ≤ d) (h : f_X4_isComparison n I J T x0 = some q) : AW l ρ d M_X4_isComparison 0 [(0, .int x0)] [] (am_KD, gc, gs) (I, J, am_RT T) (am_KD, gc, gs) (fun v H' => v = [.int q] ∧ H' = (I, J, am_RT T)) := t_X4_isComparison_0 hd h
def f_X4_comparison (n : Nat) (I : Nat → Nat → Int32) (J : Nat → Nat → Int64) (T : Nat) (x1 : Int32) : Option ((Nat → Nat → Int32)) :=
  (f_X10_sign n I J T).bind fun w1 =>
  (f_X4_isComparison n w1.2 J T w1.1).bind fun w2 =>
  if w2 = 0 then
   (f_X10_fail n w1.2 J T (w1.2 1 2)).bind fun w6 =>
   some (w6)
  else
   (f_X4_sum n ((am_u w1.2 1 2 ((w1.2 1 2) + 1))) J T x1).bind fun w4 =>
   (f_X4_emit n w4 J T (10000 + w1.1)).bind fun w5 =>
   some (w5)
set_option maxRecDepth 100000 in
set_option maxHeartbeats 4000000 in
theorem t_X4_comparison_0 {l : Launch} {ρ : am_R} {n d gc gs : Nat} {I : Nat → Nat → Int32} {J : Nat → Nat → Int64} {T : Nat} {x1 : Int32} {q : (Nat → Nat → Int32)} (hd : 1 * n + 3 ≤ (d + 1))
    (h : f_X4_comparison n  I J T x1 = some q) : AW l ρ (d + 1) M_X4_comparison 0 [(0, .ref 17), (1, .int x1)] [] (am_KD, gc, gs) (I, J, am_RT T) (am_KD, gc, gs) (fun v H' => v = [] ∧ H' = (q, J, am_RT T)) := by
  unfold f_X4_comparison at h
  refine op_aload_n (k := 0) dX4_comparison_0 rfl rfl ?_
  refine st_getR (z := 1) dX4_comparison_1 fl_X4_15 kd_17 (by decide) rfl rr_17_0 ?_
  obtain ⟨w1, ew1, h⟩ := am_bd h
  refine op_callV (M' := M_X10_sign) [] (S0 := []) dX4_comparison_4 tw_627 ok_X10_sign tw_561 tw_562 kd_1 cls_10 rfl rfl rfl (Nat.le_of_ble_eq_true rfl) (Nat.le_of_ble_eq_true rfl) (t_X10_sign (by omega) ew1) (am_le_rf _) ?_
  rintro _ _ ⟨rfl, rfl⟩
  refine op_istore_n (L' := [(2, .int w1.1), (0, .ref 17), (1, .int x1)]) dX4_comparison_7 rfl (by decide) rfl ?_
  refine op_iload_n (k := 0) dX4_comparison_8 rfl rfl ?_
  obtain ⟨w2, ew2, h⟩ := am_bd h
  refine op_callS (M' := M_X4_isComparison) [.int w1.1] (S0 := []) dX4_comparison_9 tw_654 ok_X4_isComparison tw_655 rfl rfl (Nat.le_of_ble_eq_true rfl) (Nat.le_of_ble_eq_true rfl) (t_X4_isComparison (by omega) ew2) (am_le_rf _) ?_
  rintro _ _ ⟨rfl, rfl⟩
  refine op_if_ne (tgt := 30) dX4_comparison_12 (by decide) (fun c3 => ?_) (fun c3 => ?_)
  · replace h := am_ie c3 h
    refine op_aload_n (k := 1) dX4_comparison_30 rfl rfl ?_
    refine st_getR (z := 1) dX4_comparison_31 fl_X4_15 kd_17 (by decide) rfl rr_17_0 ?_
    refine op_dup dX4_comparison_34 rfl ?_
    refine st_getI (v := w1.2 1 2) dX4_comparison_35 fl_X4_37 kd_1 (by decide) rfl rfl ?_
    refine op_iconst (v := 1) dX4_comparison_38 (by decide) ?_
    refine op_iadd dX4_comparison_39 ?_
    refine st_putI dX4_comparison_40 fl_X4_37 kd_1 (by decide) rfl ?_
    refine op_aload_n (k := 1) dX4_comparison_43 rfl rfl ?_
    refine op_iload_n (k := 2) dX4_comparison_44 rfl rfl ?_
    obtain ⟨w4, ew4, h⟩ := am_bd h
    refine op_callV (M' := M_X4_sum) [.int x1] (S0 := []) dX4_comparison_45 tw_628 ok_X4_sum tw_630 tw_10 kd_17 cls_4 rfl rfl rfl (Nat.le_of_ble_eq_true rfl) (Nat.le_of_ble_eq_true rfl) (t_X4_sum (by omega) ew4) (am_le_rf _) ?_
    rintro _ _ ⟨rfl, rfl⟩
    refine op_aload_n (k := 1) dX4_comparison_48 rfl rfl ?_
    refine op_sipush (v := 10000) dX4_comparison_49 (by decide) ?_
    refine op_iload_n (k := 0) dX4_comparison_52 rfl rfl ?_
    refine op_iadd dX4_comparison_53 ?_
    obtain ⟨w5, ew5, h⟩ := am_bd h
    refine op_callV (M' := M_X4_emit) [.int (10000 + w1.1)] (S0 := []) dX4_comparison_54 tw_642 ok_X4_emit tw_644 tw_13 kd_17 cls_4 rfl rfl rfl (Nat.le_of_ble_eq_true rfl) (Nat.le_of_ble_eq_true rfl) (t_X4_emit (by omega) ew5) (am_le_rf _) ?_
    rintro _ _ ⟨rfl, rfl⟩
    cases h
    exact (op_vret dX4_comparison_57 rfl ⟨rfl, rfl⟩)
  · replace h := am_ip c3 h
    refine op_aload_n (k := 1) dX4_comparison_15 rfl rfl ?_
    refine st_getR (z := 1) dX4_comparison_16 fl_X4_15 kd_17 (by decide) rfl rr_17_0 ?_
    refine op_aload_n (k := 1) dX4_comparison_19 rfl rfl ?_
    refine st_getR (z := 1) dX4_comparison_20 fl_X4_15 kd_17 (by decide) rfl rr_17_0 ?_
    refine st_getI (v := w1.2 1 2) dX4_comparison_23 fl_X4_37 kd_1 (by decide) rfl rfl ?_
    obtain ⟨w6, ew6, h⟩ := am_bd h
    refine op_callV (M' := M_X10_fail) [.int (w1.2 1 2)] (S0 := []) dX4_comparison_26 tw_653 ok_X10_fail tw_587 tw_588 kd_1 cls_10 rfl rfl rfl (Nat.le_of_ble_eq_true rfl) (Nat.le_of_ble_eq_true rfl) (t_X10_fail (by omega) ew6) (am_le_rf _) ?_
    rintro _ _ ⟨rfl, rfl⟩
    cases h
    exact (op_vret dX4_comparison_29 rfl ⟨rfl, rfl⟩)
theorem t_X4_comparison {l : Launch} {ρ : am_R} {n d gc gs : Nat} {I : Nat → Nat → Int32} {J : Nat → Nat → Int64} {T : Nat} {x1 : Int32} {q : (Nat → Nat → Int32)} (hd : 1 * n + 3 ≤ d) (h : f_X4_comparison n I J T x1 = some q) : AW l ρ d M_X4_comparison 0 [(0, .ref 17), (1, .int x1)] [] (am_KD, gc, gs) (I, J, am_RT T) (am_KD, gc, gs) (fun v H' => v = [] ∧ H' = (q, J, am_RT T)) := by
  obtain ⟨d, rfl⟩ : ∃ e, d = e + 1 := ⟨d - 1, by omega⟩
  exact t_X4_comparison_0 hd h
def f_X10_takes (n : Nat) (I : Nat → Nat → Int32) (J : Nat → Nat → Int64) (T : Nat) (x1 : Int32) : Option (Int32 × (Nat → Nat → Int32)) :=
  (f_X10_sign n I J T).bind fun w1 =>
  if w1.1 = x1 then
   some (1, (am_u w1.2 1 2 ((w1.2 1 2) + 1)))
  else
   some (0, w1.2)
set_option maxRecDepth 100000 in
set_option maxHeartbeats 4000000 in
theorem t_X10_takes_0 {l : Launch} {ρ : am_R} {n d gc gs : Nat} {I : Nat → Nat → Int32} {J : Nat → Nat → Int64} {T : Nat} {x1 : Int32} {q : Int32 × (Nat → Nat → Int32)} (hd : 0 * n + 1 ≤ (d + 1))
    (h : f_X10_takes n  I J T x1 = some q) : AW l ρ (d + 1) M_X10_takes 0 [(0, .ref 1), (1, .int x1)] [] (am_KD, gc, gs) (I, J, am_RT T) (am_KD, gc, gs) (fun v H' => v = [.int q.1] ∧ H' = (q.2, J, am_RT T)) := by
  unfold f_X10_takes at h
  refine op_aload_n (k := 0) dX10_takes_0 rfl rfl ?_
  obtain ⟨w1, ew1, h⟩ := am_bd h
  refine op_callV (M' := M_X10_sign) [] (S0 := []) dX10_takes_1 tw_581 ok_X10_sign tw_561 tw_562 kd_1 cls_10 rfl rfl rfl (Nat.le_of_ble_eq_true rfl) (Nat.le_of_ble_eq_true rfl) (t_X10_sign (by omega) ew1) (am_le_rf _) ?_
  rintro _ _ ⟨rfl, rfl⟩
  refine op_iload_n (k := 1) dX10_takes_4 rfl rfl ?_
  refine op_icmp_eq (tgt := 10) dX10_takes_5 (by decide) (fun c2 => ?_) (fun c2 => ?_)
  · replace h := am_ip c2 h
    refine op_aload_n (k := 0) dX10_takes_10 rfl rfl ?_
    refine op_dup dX10_takes_11 rfl ?_
    refine st_getI (v := w1.2 1 2) dX10_takes_12 fl_X10_19 kd_1 (by decide) rfl rfl ?_
    refine op_iconst (v := 1) dX10_takes_15 (by decide) ?_
    refine op_iadd dX10_takes_16 ?_
    refine st_putI dX10_takes_17 fl_X10_19 kd_1 (by decide) rfl ?_
    refine op_iconst (v := 1) dX10_takes_20 (by decide) ?_
    cases h
    exact (op_iret dX10_takes_21 rfl (by decide) ⟨rfl, rfl⟩)
  · replace h := am_ie c2 h
    refine op_iconst (v := 0) dX10_takes_8 (by decide) ?_
    cases h
    exact (op_iret dX10_takes_9 rfl (by decide) ⟨rfl, rfl⟩)
theorem t_X10_takes {l : Launch} {ρ : am_R} {n d gc gs : Nat} {I : Nat → Nat → Int32} {J : Nat → Nat → Int64} {T : Nat} {x1 : Int32} {q : Int32 × (Nat → Nat → Int32)} (hd : 0 * n + 1 ≤ d) (h : f_X10_takes n I J T x1 = some q) : AW l ρ d M_X10_takes 0 [(0, .ref 1), (1, .int x1)] [] (am_KD, gc, gs) (I, J, am_RT T) (am_KD, gc, gs) (fun v H' => v = [.int q.1] ∧ H' = (q.2, J, am_RT T)) := by
  obtain ⟨d, rfl⟩ : ∃ e, d = e + 1 := ⟨d - 1, by omega⟩
  exact t_X10_takes_0 hd h
def fb_X4_unit (n : Nat) (rc_X4_unit : (Nat → Nat → Int32) → (Nat → Nat → Int64) → Nat → Int32 → Int32 → Option ((Nat → Nat → Int32))) (rc_X4_truth : (Nat → Nat → Int32) → (Nat → Nat → Int64) → Nat → Int32 → Int32 → Option ((Nat → Nat → Int32))) (rc_X4_condition : (Nat → Nat → Int32) → (Nat → Nat → Int64) → Nat → Int32 → Int32 → Option ((Nat → Nat → Int32))) (I : Nat → Nat → Int32) (J : Nat → Nat → Int64) (T : Nat) (x1 : Int32) (x2 : Int32) : Option ((Nat → Nat → Int32)) :=
  if x2 = 0 then
   (f_X4_opens n I J T 33 x1).bind fun w2 =>
   if w2.1 = 0 then
    (f_X4_opens n w2.2 J T 40 x1).bind fun w4 =>
    if w4.1 = 0 then
     (f_X4_sum n w4.2 J T x1).bind fun w6 =>
     (f_X4_comparison n w6 J T x1).bind fun w7 =>
     some (w7)
    else
     (rc_X4_condition w4.2 J T (x1 + 1) 0).bind fun w8 =>
     (f_X10_expect n w8 J T 41).bind fun w9 =>
     some (w9)
   else
    (rc_X4_unit w2.2 J T (x1 + 1) 0).bind fun w10 =>
    (f_X4_emit n w10 J T 10033).bind fun w11 =>
    some (w11)
  else
   (f_X4_comparison n I J T x1).bind fun w12 =>
   some (w12)
def f_X4_truth_8 (n : Nat) (rc_X4_unit : (Nat → Nat → Int32) → (Nat → Nat → Int64) → Nat → Int32 → Int32 → Option ((Nat → Nat → Int32))) (rc_X4_truth : (Nat → Nat → Int32) → (Nat → Nat → Int64) → Nat → Int32 → Int32 → Option ((Nat → Nat → Int32))) (rc_X4_condition : (Nat → Nat → Int32) → (Nat → Nat → Int64) → Nat → Int32 → Int32 → Option ((Nat → Nat → Int32))) : Nat → (Nat → Nat → Int32) → (Nat → Nat → Int64) → Nat → Int32 → Int32 → Option ((Nat → Nat → Int32))
  | 0, _, _, _, _, _ => none
  | m + 1, I, J, T, x1, x3 =>
    if 160 ≤ x3 then
     some (I)
    else
     (f_X10_takes n I J T 38).bind fun w2 =>
     if w2.1 = 0 then
      some (w2.2)
     else
      (rc_X4_unit w2.2 J T x1 0).bind fun w4 =>
      (f_X4_emit n w4 J T 10038).bind fun w5 =>
      f_X4_truth_8 n rc_X4_unit rc_X4_truth rc_X4_condition m w5 J T x1 (x3 + 1)
def fb_X4_truth (n : Nat) (rc_X4_unit : (Nat → Nat → Int32) → (Nat → Nat → Int64) → Nat → Int32 → Int32 → Option ((Nat → Nat → Int32))) (rc_X4_truth : (Nat → Nat → Int32) → (Nat → Nat → Int64) → Nat → Int32 → Int32 → Option ((Nat → Nat → Int32))) (rc_X4_condition : (Nat → Nat → Int32) → (Nat → Nat → Int64) → Nat → Int32 → Int32 → Option ((Nat → Nat → Int32))) (I : Nat → Nat → Int32) (J : Nat → Nat → Int64) (T : Nat) (x1 : Int32) (x2 : Int32) : Option ((Nat → Nat → Int32)) :=
  (rc_X4_unit I J T x1 x2).bind fun w1 =>
  f_X4_truth_8 n rc_X4_unit rc_X4_truth rc_X4_condition n w1 J T x1 0
def f_X4_condition_8 (n : Nat) (rc_X4_unit : (Nat → Nat → Int32) → (Nat → Nat → Int64) → Nat → Int32 → Int32 → Option ((Nat → Nat → Int32))) (rc_X4_truth : (Nat → Nat → Int32) → (Nat → Nat → Int64) → Nat → Int32 → Int32 → Option ((Nat → Nat → Int32))) (rc_X4_condition : (Nat → Nat → Int32) → (Nat → Nat → Int64) → Nat → Int32 → Int32 → Option ((Nat → Nat → Int32))) : Nat → (Nat → Nat → Int32) → (Nat → Nat → Int64) → Nat → Int32 → Int32 → Option ((Nat → Nat → Int32))
  | 0, _, _, _, _, _ => none
  | m + 1, I, J, T, x1, x3 =>
    if 160 ≤ x3 then
     some (I)
    else
     (f_X10_takes n I J T 124).bind fun w2 =>
     if w2.1 = 0 then
      some (w2.2)
     else
      (rc_X4_truth w2.2 J T x1 0).bind fun w4 =>
      (f_X4_emit n w4 J T 10124).bind fun w5 =>
      f_X4_condition_8 n rc_X4_unit rc_X4_truth rc_X4_condition m w5 J T x1 (x3 + 1)
def fb_X4_condition (n : Nat) (rc_X4_unit : (Nat → Nat → Int32) → (Nat → Nat → Int64) → Nat → Int32 → Int32 → Option ((Nat → Nat → Int32))) (rc_X4_truth : (Nat → Nat → Int32) → (Nat → Nat → Int64) → Nat → Int32 → Int32 → Option ((Nat → Nat → Int32))) (rc_X4_condition : (Nat → Nat → Int32) → (Nat → Nat → Int64) → Nat → Int32 → Int32 → Option ((Nat → Nat → Int32))) (I : Nat → Nat → Int32) (J : Nat → Nat → Int64) (T : Nat) (x1 : Int32) (x2 : Int32) : Option ((Nat → Nat → Int32)) :=
  (rc_X4_truth I J T x1 x2).bind fun w1 =>
  f_X4_condition_8 n rc_X4_unit rc_X4_truth rc_X4_condition n w1 J T x1 0
def fx_X4_unit (n : Nat) : Nat → ((Nat → Nat → Int32) → (Nat → Nat → Int64) → Nat → Int32 → Int32 → Option ((Nat → Nat → Int32))) × ((Nat → Nat → Int32) → (Nat → Nat → Int64) → Nat → Int32 → Int32 → Option ((Nat → Nat → Int32))) × ((Nat → Nat → Int32) → (Nat → Nat → Int64) → Nat → Int32 → Int32 → Option ((Nat → Nat → Int32)))
  | 0 => (fun _ _ _ _ _ => none, fun _ _ _ _ _ => none, fun _ _ _ _ _ => none)
  | r + 1 => (fb_X4_unit n (fx_X4_unit n r).1 (fx_X4_unit n r).2.1 (fx_X4_unit n r).2.2, fb_X4_truth n (fx_X4_unit n r).1 (fx_X4_unit n r).2.1 (fx_X4_unit n r).2.2, fb_X4_condition n (fx_X4_unit n r).1 (fx_X4_unit n r).2.1 (fx_X4_unit n r).2.2)
def f_X4_unit (n : Nat) : (Nat → Nat → Int32) → (Nat → Nat → Int64) → Nat → Int32 → Int32 → Option ((Nat → Nat → Int32)) := (fx_X4_unit n n).1
def f_X4_truth (n : Nat) : (Nat → Nat → Int32) → (Nat → Nat → Int64) → Nat → Int32 → Int32 → Option ((Nat → Nat → Int32)) := (fx_X4_unit n n).2.1
def f_X4_condition (n : Nat) : (Nat → Nat → Int32) → (Nat → Nat → Int64) → Nat → Int32 → Int32 → Option ((Nat → Nat → Int32)) := (fx_X4_unit n n).2.2
set_option maxRecDepth 100000 in
set_option maxHeartbeats 4000000 in
theorem t_X4_unit_0 {l : Launch} {ρ : am_R} {n d gc gs : Nat} {rc_X4_unit : (Nat → Nat → Int32) → (Nat → Nat → Int64) → Nat → Int32 → Int32 → Option ((Nat → Nat → Int32))} {rc_X4_truth : (Nat → Nat → Int32) → (Nat → Nat → Int64) → Nat → Int32 → Int32 → Option ((Nat → Nat → Int32))} {rc_X4_condition : (Nat → Nat → Int32) → (Nat → Nat → Int64) → Nat → Int32 → Int32 → Option ((Nat → Nat → Int32))} {I : Nat → Nat → Int32} {J : Nat → Nat → Int64} {T : Nat} {x1 : Int32} {x2 : Int32} {q : (Nat → Nat → Int32)} (hd : 1 * n + 4 ≤ (d + 1))
    (hr_X4_unit : ∀ (I : Nat → Nat → Int32) (J : Nat → Nat → Int64) (T : Nat) (x1 : Int32) (x2 : Int32) (q : (Nat → Nat → Int32)) (gc gs : Nat), rc_X4_unit I J T x1 x2 = some q → AW l ρ d M_X4_unit 0 [(0, .ref 17), (1, .int x1), (2, .int x2)] [] (am_KD, gc, gs) (I, J, am_RT T) (am_KD, gc, gs) (fun v H' => v = [] ∧ H' = (q, J, am_RT T)))
    (hr_X4_truth : ∀ (I : Nat → Nat → Int32) (J : Nat → Nat → Int64) (T : Nat) (x1 : Int32) (x2 : Int32) (q : (Nat → Nat → Int32)) (gc gs : Nat), rc_X4_truth I J T x1 x2 = some q → AW l ρ d M_X4_truth 0 [(0, .ref 17), (1, .int x1), (2, .int x2)] [] (am_KD, gc, gs) (I, J, am_RT T) (am_KD, gc, gs) (fun v H' => v = [] ∧ H' = (q, J, am_RT T)))
    (hr_X4_condition : ∀ (I : Nat → Nat → Int32) (J : Nat → Nat → Int64) (T : Nat) (x1 : Int32) (x2 : Int32) (q : (Nat → Nat → Int32)) (gc gs : Nat), rc_X4_condition I J T x1 x2 = some q → AW l ρ d M_X4_condition 0 [(0, .ref 17), (1, .int x1), (2, .int x2)] [] (am_KD, gc, gs) (I, J, am_RT T) (am_KD, gc, gs) (fun v H' => v = [] ∧ H' = (q, J, am_RT T)))
    (h : fb_X4_unit n rc_X4_unit rc_X4_truth rc_X4_condition I J T x1 x2 = some q) : AW l ρ (d + 1) M_X4_unit 0 [(0, .ref 17), (1, .int x1), (2, .int x2)] [] (am_KD, gc, gs) (I, J, am_RT T) (am_KD, gc, gs) (fun v H' => v = [] ∧ H' = (q, J, am_RT T)) := by
  unfold fb_X4_unit at h
  refine op_iload_n (k := 2) dX4_unit_0 rfl rfl ?_
  refine op_if_eq (tgt := 12) dX4_unit_1 (by decide) (fun c1 => ?_) (fun c1 => ?_)
  · replace h := am_ip c1 h
    refine op_aload_n (k := 0) dX4_unit_12 rfl rfl ?_
    refine op_bipush (v := 33) dX4_unit_13 (by decide) ?_
    refine op_iload_n (k := 1) dX4_unit_15 rfl rfl ?_
    obtain ⟨w2, ew2, h⟩ := am_bd h
    refine op_callV (M' := M_X4_opens) [.int 33, .int x1] (S0 := []) dX4_unit_16 tw_649 ok_X4_opens tw_651 tw_14 kd_17 cls_4 rfl rfl rfl (Nat.le_of_ble_eq_true rfl) (Nat.le_of_ble_eq_true rfl) (t_X4_opens (by omega) ew2) (am_le_rf _) ?_
    rintro _ _ ⟨rfl, rfl⟩
    refine op_if_eq (tgt := 40) dX4_unit_19 (by decide) (fun c3 => ?_) (fun c3 => ?_)
    · replace h := am_ip c3 h
      refine op_aload_n (k := 0) dX4_unit_40 rfl rfl ?_
      refine op_bipush (v := 40) dX4_unit_41 (by decide) ?_
      refine op_iload_n (k := 1) dX4_unit_43 rfl rfl ?_
      obtain ⟨w4, ew4, h⟩ := am_bd h
      refine op_callV (M' := M_X4_opens) [.int 40, .int x1] (S0 := []) dX4_unit_44 tw_649 ok_X4_opens tw_651 tw_14 kd_17 cls_4 rfl rfl rfl (Nat.le_of_ble_eq_true rfl) (Nat.le_of_ble_eq_true rfl) (t_X4_opens (by omega) ew4) (am_le_rf _) ?_
      rintro _ _ ⟨rfl, rfl⟩
      refine op_if_eq (tgt := 70) dX4_unit_47 (by decide) (fun c5 => ?_) (fun c5 => ?_)
      · replace h := am_ip c5 h
        refine op_aload_n (k := 0) dX4_unit_70 rfl rfl ?_
        refine op_iload_n (k := 1) dX4_unit_71 rfl rfl ?_
        obtain ⟨w6, ew6, h⟩ := am_bd h
        refine op_callV (M' := M_X4_sum) [.int x1] (S0 := []) dX4_unit_72 tw_628 ok_X4_sum tw_630 tw_10 kd_17 cls_4 rfl rfl rfl (Nat.le_of_ble_eq_true rfl) (Nat.le_of_ble_eq_true rfl) (t_X4_sum (by omega) ew6) (am_le_rf _) ?_
        rintro _ _ ⟨rfl, rfl⟩
        refine op_aload_n (k := 0) dX4_unit_75 rfl rfl ?_
        refine op_iload_n (k := 1) dX4_unit_76 rfl rfl ?_
        obtain ⟨w7, ew7, h⟩ := am_bd h
        refine op_callV (M' := M_X4_comparison) [.int x1] (S0 := []) dX4_unit_77 tw_669 ok_X4_comparison tw_671 tw_18 kd_17 cls_4 rfl rfl rfl (Nat.le_of_ble_eq_true rfl) (Nat.le_of_ble_eq_true rfl) (t_X4_comparison (by omega) ew7) (am_le_rf _) ?_
        rintro _ _ ⟨rfl, rfl⟩
        cases h
        exact (op_vret dX4_unit_80 rfl ⟨rfl, rfl⟩)
      · replace h := am_ie c5 h
        refine op_aload_n (k := 0) dX4_unit_50 rfl rfl ?_
        refine op_iload_n (k := 1) dX4_unit_51 rfl rfl ?_
        refine op_iconst (v := 1) dX4_unit_52 (by decide) ?_
        refine op_iadd dX4_unit_53 ?_
        refine op_iconst (v := 0) dX4_unit_54 (by decide) ?_
        obtain ⟨w8, ew8, h⟩ := am_bd h
        refine op_callV (M' := M_X4_condition) [.int (x1 + 1), .int 0] (S0 := []) dX4_unit_55 tw_657 ok_X4_condition tw_659 tw_15 kd_17 cls_4 rfl rfl rfl (Nat.le_of_ble_eq_true rfl) (Nat.le_of_ble_eq_true rfl) (hr_X4_condition _ _ _ _ _ _ _ _ ew8) (am_le_rf _) ?_
        rintro _ _ ⟨rfl, rfl⟩
        refine op_aload_n (k := 0) dX4_unit_58 rfl rfl ?_
        refine st_getR (z := 1) dX4_unit_59 fl_X4_15 kd_17 (by decide) rfl rr_17_0 ?_
        refine op_bipush (v := 41) dX4_unit_62 (by decide) ?_
        obtain ⟨w9, ew9, h⟩ := am_bd h
        refine op_callV (M' := M_X10_expect) [.int 41] (S0 := []) dX4_unit_64 tw_623 ok_X10_expect tw_624 tw_625 kd_1 cls_10 rfl rfl rfl (Nat.le_of_ble_eq_true rfl) (Nat.le_of_ble_eq_true rfl) (t_X10_expect (by omega) ew9) (am_le_rf _) ?_
        rintro _ _ ⟨rfl, rfl⟩
        refine op_goto (tgt := 80) dX4_unit_67 (by decide) ?_
        cases h
        exact (op_vret dX4_unit_80 rfl ⟨rfl, rfl⟩)
    · replace h := am_ie c3 h
      refine op_aload_n (k := 0) dX4_unit_22 rfl rfl ?_
      refine op_iload_n (k := 1) dX4_unit_23 rfl rfl ?_
      refine op_iconst (v := 1) dX4_unit_24 (by decide) ?_
      refine op_iadd dX4_unit_25 ?_
      refine op_iconst (v := 0) dX4_unit_26 (by decide) ?_
      obtain ⟨w10, ew10, h⟩ := am_bd h
      refine op_callV (M' := M_X4_unit) [.int (x1 + 1), .int 0] (S0 := []) dX4_unit_27 tw_665 ok_X4_unit tw_667 tw_17 kd_17 cls_4 rfl rfl rfl (Nat.le_of_ble_eq_true rfl) (Nat.le_of_ble_eq_true rfl) (hr_X4_unit _ _ _ _ _ _ _ _ ew10) (am_le_rf _) ?_
      rintro _ _ ⟨rfl, rfl⟩
      refine op_aload_n (k := 0) dX4_unit_30 rfl rfl ?_
      refine op_sipush (v := 10033) dX4_unit_31 (by decide) ?_
      obtain ⟨w11, ew11, h⟩ := am_bd h
      refine op_callV (M' := M_X4_emit) [.int 10033] (S0 := []) dX4_unit_34 tw_642 ok_X4_emit tw_644 tw_13 kd_17 cls_4 rfl rfl rfl (Nat.le_of_ble_eq_true rfl) (Nat.le_of_ble_eq_true rfl) (t_X4_emit (by omega) ew11) (am_le_rf _) ?_
      rintro _ _ ⟨rfl, rfl⟩
      refine op_goto (tgt := 80) dX4_unit_37 (by decide) ?_
      cases h
      exact (op_vret dX4_unit_80 rfl ⟨rfl, rfl⟩)
  · replace h := am_ie c1 h
    refine op_aload_n (k := 0) dX4_unit_4 rfl rfl ?_
    refine op_iload_n (k := 1) dX4_unit_5 rfl rfl ?_
    obtain ⟨w12, ew12, h⟩ := am_bd h
    refine op_callV (M' := M_X4_comparison) [.int x1] (S0 := []) dX4_unit_6 tw_669 ok_X4_comparison tw_671 tw_18 kd_17 cls_4 rfl rfl rfl (Nat.le_of_ble_eq_true rfl) (Nat.le_of_ble_eq_true rfl) (t_X4_comparison (by omega) ew12) (am_le_rf _) ?_
    rintro _ _ ⟨rfl, rfl⟩
    refine op_goto (tgt := 80) dX4_unit_9 (by decide) ?_
    cases h
    exact (op_vret dX4_unit_80 rfl ⟨rfl, rfl⟩)
set_option maxRecDepth 100000 in
set_option maxHeartbeats 4000000 in
theorem t_X4_truth_8 {l : Launch} {ρ : am_R} {n d gc gs : Nat} {rc_X4_unit : (Nat → Nat → Int32) → (Nat → Nat → Int64) → Nat → Int32 → Int32 → Option ((Nat → Nat → Int32))} {rc_X4_truth : (Nat → Nat → Int32) → (Nat → Nat → Int64) → Nat → Int32 → Int32 → Option ((Nat → Nat → Int32))} {rc_X4_condition : (Nat → Nat → Int32) → (Nat → Nat → Int64) → Nat → Int32 → Int32 → Option ((Nat → Nat → Int32))} {q : (Nat → Nat → Int32)} (hd : 1 * n + 4 ≤ (d + 1))
    (hr_X4_unit : ∀ (I : Nat → Nat → Int32) (J : Nat → Nat → Int64) (T : Nat) (x1 : Int32) (x2 : Int32) (q : (Nat → Nat → Int32)) (gc gs : Nat), rc_X4_unit I J T x1 x2 = some q → AW l ρ d M_X4_unit 0 [(0, .ref 17), (1, .int x1), (2, .int x2)] [] (am_KD, gc, gs) (I, J, am_RT T) (am_KD, gc, gs) (fun v H' => v = [] ∧ H' = (q, J, am_RT T)))
    (hr_X4_truth : ∀ (I : Nat → Nat → Int32) (J : Nat → Nat → Int64) (T : Nat) (x1 : Int32) (x2 : Int32) (q : (Nat → Nat → Int32)) (gc gs : Nat), rc_X4_truth I J T x1 x2 = some q → AW l ρ d M_X4_truth 0 [(0, .ref 17), (1, .int x1), (2, .int x2)] [] (am_KD, gc, gs) (I, J, am_RT T) (am_KD, gc, gs) (fun v H' => v = [] ∧ H' = (q, J, am_RT T)))
    (hr_X4_condition : ∀ (I : Nat → Nat → Int32) (J : Nat → Nat → Int64) (T : Nat) (x1 : Int32) (x2 : Int32) (q : (Nat → Nat → Int32)) (gc gs : Nat), rc_X4_condition I J T x1 x2 = some q → AW l ρ d M_X4_condition 0 [(0, .ref 17), (1, .int x1), (2, .int x2)] [] (am_KD, gc, gs) (I, J, am_RT T) (am_KD, gc, gs) (fun v H' => v = [] ∧ H' = (q, J, am_RT T)))
    : ∀ (m : Nat) (I : Nat → Nat → Int32) (J : Nat → Nat → Int64) (T : Nat) (x1 : Int32) (x3 : Int32), f_X4_truth_8 n rc_X4_unit rc_X4_truth rc_X4_condition m I J T x1 x3 = some q → AW l ρ (d + 1) M_X4_truth 8 [(0, .ref 17), (1, .int x1), (3, .int x3)] [] (am_KD, gc, gs) (I, J, am_RT T) (am_KD, gc, gs) (fun v H' => v = [] ∧ H' = (q, J, am_RT T)) := by
  intro m
  induction m with
  | zero =>
    intro I J T x1 x3 h
    rw [f_X4_truth_8] at h
    cases h
  | succ m ih =>
    intro I J T x1 x3 h
    rw [f_X4_truth_8] at h
    refine op_iload_n (k := 2) dX4_truth_8 rfl rfl ?_
    refine op_sipush (v := 160) dX4_truth_9 (by decide) ?_
    refine op_icmp_ge (tgt := 46) dX4_truth_12 (by decide) (fun c1 => ?_) (fun c1 => ?_)
    · replace h := am_ip c1 h
      cases h
      exact (op_vret dX4_truth_46 rfl ⟨rfl, rfl⟩)
    · replace h := am_ie c1 h
      refine op_aload_n (k := 0) dX4_truth_15 rfl rfl ?_
      refine st_getR (z := 1) dX4_truth_16 fl_X4_15 kd_17 (by decide) rfl rr_17_0 ?_
      refine op_bipush (v := 38) dX4_truth_19 (by decide) ?_
      obtain ⟨w2, ew2, h⟩ := am_bd h
      refine op_callV (M' := M_X10_takes) [.int 38] (S0 := []) dX4_truth_21 tw_673 ok_X10_takes tw_607 tw_608 kd_1 cls_10 rfl rfl rfl (Nat.le_of_ble_eq_true rfl) (Nat.le_of_ble_eq_true rfl) (t_X10_takes (by omega) ew2) (am_le_rf _) ?_
      rintro _ _ ⟨rfl, rfl⟩
      refine op_if_eq (tgt := 46) dX4_truth_24 (by decide) (fun c3 => ?_) (fun c3 => ?_)
      · replace h := am_ip c3 h
        cases h
        exact (op_vret dX4_truth_46 rfl ⟨rfl, rfl⟩)
      · replace h := am_ie c3 h
        refine op_aload_n (k := 0) dX4_truth_27 rfl rfl ?_
        refine op_iload_n (k := 1) dX4_truth_28 rfl rfl ?_
        refine op_iconst (v := 0) dX4_truth_29 (by decide) ?_
        obtain ⟨w4, ew4, h⟩ := am_bd h
        refine op_callV (M' := M_X4_unit) [.int x1, .int 0] (S0 := []) dX4_truth_30 tw_665 ok_X4_unit tw_667 tw_17 kd_17 cls_4 rfl rfl rfl (Nat.le_of_ble_eq_true rfl) (Nat.le_of_ble_eq_true rfl) (hr_X4_unit _ _ _ _ _ _ _ _ ew4) (am_le_rf _) ?_
        rintro _ _ ⟨rfl, rfl⟩
        refine op_aload_n (k := 0) dX4_truth_33 rfl rfl ?_
        refine op_sipush (v := 10038) dX4_truth_34 (by decide) ?_
        obtain ⟨w5, ew5, h⟩ := am_bd h
        refine op_callV (M' := M_X4_emit) [.int 10038] (S0 := []) dX4_truth_37 tw_642 ok_X4_emit tw_644 tw_13 kd_17 cls_4 rfl rfl rfl (Nat.le_of_ble_eq_true rfl) (Nat.le_of_ble_eq_true rfl) (t_X4_emit (by omega) ew5) (am_le_rf _) ?_
        rintro _ _ ⟨rfl, rfl⟩
        refine op_iinc (k := 2) (v := x3 + 1) (L' := [(3, .int (x3 + 1)), (0, .ref 17), (1, .int x1)]) dX4_truth_40 rfl rfl (by decide) rfl ?_
        refine op_goto (tgt := 8) dX4_truth_43 (by decide) ?_
        refine AW.perm [1, 2, 0] rfl ?_
        exact ih _ _ _ _ _ h
set_option maxRecDepth 100000 in
set_option maxHeartbeats 4000000 in
theorem t_X4_truth_0 {l : Launch} {ρ : am_R} {n d gc gs : Nat} {rc_X4_unit : (Nat → Nat → Int32) → (Nat → Nat → Int64) → Nat → Int32 → Int32 → Option ((Nat → Nat → Int32))} {rc_X4_truth : (Nat → Nat → Int32) → (Nat → Nat → Int64) → Nat → Int32 → Int32 → Option ((Nat → Nat → Int32))} {rc_X4_condition : (Nat → Nat → Int32) → (Nat → Nat → Int64) → Nat → Int32 → Int32 → Option ((Nat → Nat → Int32))} {I : Nat → Nat → Int32} {J : Nat → Nat → Int64} {T : Nat} {x1 : Int32} {x2 : Int32} {q : (Nat → Nat → Int32)} (hd : 1 * n + 4 ≤ (d + 1))
    (hr_X4_unit : ∀ (I : Nat → Nat → Int32) (J : Nat → Nat → Int64) (T : Nat) (x1 : Int32) (x2 : Int32) (q : (Nat → Nat → Int32)) (gc gs : Nat), rc_X4_unit I J T x1 x2 = some q → AW l ρ d M_X4_unit 0 [(0, .ref 17), (1, .int x1), (2, .int x2)] [] (am_KD, gc, gs) (I, J, am_RT T) (am_KD, gc, gs) (fun v H' => v = [] ∧ H' = (q, J, am_RT T)))
    (hr_X4_truth : ∀ (I : Nat → Nat → Int32) (J : Nat → Nat → Int64) (T : Nat) (x1 : Int32) (x2 : Int32) (q : (Nat → Nat → Int32)) (gc gs : Nat), rc_X4_truth I J T x1 x2 = some q → AW l ρ d M_X4_truth 0 [(0, .ref 17), (1, .int x1), (2, .int x2)] [] (am_KD, gc, gs) (I, J, am_RT T) (am_KD, gc, gs) (fun v H' => v = [] ∧ H' = (q, J, am_RT T)))
    (hr_X4_condition : ∀ (I : Nat → Nat → Int32) (J : Nat → Nat → Int64) (T : Nat) (x1 : Int32) (x2 : Int32) (q : (Nat → Nat → Int32)) (gc gs : Nat), rc_X4_condition I J T x1 x2 = some q → AW l ρ d M_X4_condition 0 [(0, .ref 17), (1, .int x1), (2, .int x2)] [] (am_KD, gc, gs) (I, J, am_RT T) (am_KD, gc, gs) (fun v H' => v = [] ∧ H' = (q, J, am_RT T)))
    (h : fb_X4_truth n rc_X4_unit rc_X4_truth rc_X4_condition I J T x1 x2 = some q) : AW l ρ (d + 1) M_X4_truth 0 [(0, .ref 17), (1, .int x1), (2, .int x2)] [] (am_KD, gc, gs) (I, J, am_RT T) (am_KD, gc, gs) (fun v H' => v = [] ∧ H' = (q, J, am_RT T)) := by
  unfold fb_X4_truth at h
  refine op_aload_n (k := 0) dX4_truth_0 rfl rfl ?_
  refine op_iload_n (k := 1) dX4_truth_1 rfl rfl ?_
  refine op_iload_n (k := 2) dX4_truth_2 rfl rfl ?_
  obtain ⟨w1, ew1, h⟩ := am_bd h
  refine op_callV (M' := M_X4_unit) [.int x1, .int x2] (S0 := []) dX4_truth_3 tw_665 ok_X4_unit tw_667 tw_17 kd_17 cls_4 rfl rfl rfl (Nat.le_of_ble_eq_true rfl) (Nat.le_of_ble_eq_true rfl) (hr_X4_unit _ _ _ _ _ _ _ _ ew1) (am_le_rf _) ?_
  rintro _ _ ⟨rfl, rfl⟩
  refine op_iconst (v := 0) dX4_truth_6 (by decide) ?_
  refine op_istore_n (L' := [(3, .int 0), (0, .ref 17), (1, .int x1), (2, .int x2)]) dX4_truth_7 rfl (by decide) rfl ?_
  refine AW.perm [1, 2, 0] rfl ?_
  exact t_X4_truth_8 hd hr_X4_unit hr_X4_truth hr_X4_condition n _ _ _ _ _ h
set_option maxRecDepth 100000 in
set_option maxHeartbeats 4000000 in
theorem t_X4_condition_8 {l : Launch} {ρ : am_R} {n d gc gs : Nat} {rc_X4_unit : (Nat → Nat → Int32) → (Nat → Nat → Int64) → Nat → Int32 → Int32 → Option ((Nat → Nat → Int32))} {rc_X4_truth : (Nat → Nat → Int32) → (Nat → Nat → Int64) → Nat → Int32 → Int32 → Option ((Nat → Nat → Int32))} {rc_X4_condition : (Nat → Nat → Int32) → (Nat → Nat → Int64) → Nat → Int32 → Int32 → Option ((Nat → Nat → Int32))} {q : (Nat → Nat → Int32)} (hd : 1 * n + 4 ≤ (d + 1))
    (hr_X4_unit : ∀ (I : Nat → Nat → Int32) (J : Nat → Nat → Int64) (T : Nat) (x1 : Int32) (x2 : Int32) (q : (Nat → Nat → Int32)) (gc gs : Nat), rc_X4_unit I J T x1 x2 = some q → AW l ρ d M_X4_unit 0 [(0, .ref 17), (1, .int x1), (2, .int x2)] [] (am_KD, gc, gs) (I, J, am_RT T) (am_KD, gc, gs) (fun v H' => v = [] ∧ H' = (q, J, am_RT T)))
    (hr_X4_truth : ∀ (I : Nat → Nat → Int32) (J : Nat → Nat → Int64) (T : Nat) (x1 : Int32) (x2 : Int32) (q : (Nat → Nat → Int32)) (gc gs : Nat), rc_X4_truth I J T x1 x2 = some q → AW l ρ d M_X4_truth 0 [(0, .ref 17), (1, .int x1), (2, .int x2)] [] (am_KD, gc, gs) (I, J, am_RT T) (am_KD, gc, gs) (fun v H' => v = [] ∧ H' = (q, J, am_RT T)))
    (hr_X4_condition : ∀ (I : Nat → Nat → Int32) (J : Nat → Nat → Int64) (T : Nat) (x1 : Int32) (x2 : Int32) (q : (Nat → Nat → Int32)) (gc gs : Nat), rc_X4_condition I J T x1 x2 = some q → AW l ρ d M_X4_condition 0 [(0, .ref 17), (1, .int x1), (2, .int x2)] [] (am_KD, gc, gs) (I, J, am_RT T) (am_KD, gc, gs) (fun v H' => v = [] ∧ H' = (q, J, am_RT T)))
    : ∀ (m : Nat) (I : Nat → Nat → Int32) (J : Nat → Nat → Int64) (T : Nat) (x1 : Int32) (x3 : Int32), f_X4_condition_8 n rc_X4_unit rc_X4_truth rc_X4_condition m I J T x1 x3 = some q → AW l ρ (d + 1) M_X4_condition 8 [(0, .ref 17), (1, .int x1), (3, .int x3)] [] (am_KD, gc, gs) (I, J, am_RT T) (am_KD, gc, gs) (fun v H' => v = [] ∧ H' = (q, J, am_RT T)) := by
  intro m
  induction m with
  | zero =>
    intro I J T x1 x3 h
    rw [f_X4_condition_8] at h
    cases h
  | succ m ih =>
    intro I J T x1 x3 h
    rw [f_X4_condition_8] at h
    refine op_iload_n (k := 2) dX4_condition_8 rfl rfl ?_
    refine op_sipush (v := 160) dX4_condition_9 (by decide) ?_
    refine op_icmp_ge (tgt := 46) dX4_condition_12 (by decide) (fun c1 => ?_) (fun c1 => ?_)
    · replace h := am_ip c1 h
      cases h
      exact (op_vret dX4_condition_46 rfl ⟨rfl, rfl⟩)
    · replace h := am_ie c1 h
      refine op_aload_n (k := 0) dX4_condition_15 rfl rfl ?_
      refine st_getR (z := 1) dX4_condition_16 fl_X4_15 kd_17 (by decide) rfl rr_17_0 ?_
      refine op_bipush (v := 124) dX4_condition_19 (by decide) ?_
      obtain ⟨w2, ew2, h⟩ := am_bd h
      refine op_callV (M' := M_X10_takes) [.int 124] (S0 := []) dX4_condition_21 tw_673 ok_X10_takes tw_607 tw_608 kd_1 cls_10 rfl rfl rfl (Nat.le_of_ble_eq_true rfl) (Nat.le_of_ble_eq_true rfl) (t_X10_takes (by omega) ew2) (am_le_rf _) ?_
      rintro _ _ ⟨rfl, rfl⟩
      refine op_if_eq (tgt := 46) dX4_condition_24 (by decide) (fun c3 => ?_) (fun c3 => ?_)
      · replace h := am_ip c3 h
        cases h
        exact (op_vret dX4_condition_46 rfl ⟨rfl, rfl⟩)
      · replace h := am_ie c3 h
        refine op_aload_n (k := 0) dX4_condition_27 rfl rfl ?_
        refine op_iload_n (k := 1) dX4_condition_28 rfl rfl ?_
        refine op_iconst (v := 0) dX4_condition_29 (by decide) ?_
        obtain ⟨w4, ew4, h⟩ := am_bd h
        refine op_callV (M' := M_X4_truth) [.int x1, .int 0] (S0 := []) dX4_condition_30 tw_661 ok_X4_truth tw_663 tw_16 kd_17 cls_4 rfl rfl rfl (Nat.le_of_ble_eq_true rfl) (Nat.le_of_ble_eq_true rfl) (hr_X4_truth _ _ _ _ _ _ _ _ ew4) (am_le_rf _) ?_
        rintro _ _ ⟨rfl, rfl⟩
        refine op_aload_n (k := 0) dX4_condition_33 rfl rfl ?_
        refine op_sipush (v := 10124) dX4_condition_34 (by decide) ?_
        obtain ⟨w5, ew5, h⟩ := am_bd h
        refine op_callV (M' := M_X4_emit) [.int 10124] (S0 := []) dX4_condition_37 tw_642 ok_X4_emit tw_644 tw_13 kd_17 cls_4 rfl rfl rfl (Nat.le_of_ble_eq_true rfl) (Nat.le_of_ble_eq_true rfl) (t_X4_emit (by omega) ew5) (am_le_rf _) ?_
        rintro _ _ ⟨rfl, rfl⟩
        refine op_iinc (k := 2) (v := x3 + 1) (L' := [(3, .int (x3 + 1)), (0, .ref 17), (1, .int x1)]) dX4_condition_40 rfl rfl (by decide) rfl ?_
        refine op_goto (tgt := 8) dX4_condition_43 (by decide) ?_
        refine AW.perm [1, 2, 0] rfl ?_
        exact ih _ _ _ _ _ h
set_option maxRecDepth 100000 in
set_option maxHeartbeats 4000000 in
theorem t_X4_condition_0 {l : Launch} {ρ : am_R} {n d gc gs : Nat} {rc_X4_unit : (Nat → Nat → Int32) → (Nat → Nat → Int64) → Nat → Int32 → Int32 → Option ((Nat → Nat → Int32))} {rc_X4_truth : (Nat → Nat → Int32) → (Nat → Nat → Int64) → Nat → Int32 → Int32 → Option ((Nat → Nat → Int32))} {rc_X4_condition : (Nat → Nat → Int32) → (Nat → Nat → Int64) → Nat → Int32 → Int32 → Option ((Nat → Nat → Int32))} {I : Nat → Nat → Int32} {J : Nat → Nat → Int64} {T : Nat} {x1 : Int32} {x2 : Int32} {q : (Nat → Nat → Int32)} (hd : 1 * n + 4 ≤ (d + 1))
    (hr_X4_unit : ∀ (I : Nat → Nat → Int32) (J : Nat → Nat → Int64) (T : Nat) (x1 : Int32) (x2 : Int32) (q : (Nat → Nat → Int32)) (gc gs : Nat), rc_X4_unit I J T x1 x2 = some q → AW l ρ d M_X4_unit 0 [(0, .ref 17), (1, .int x1), (2, .int x2)] [] (am_KD, gc, gs) (I, J, am_RT T) (am_KD, gc, gs) (fun v H' => v = [] ∧ H' = (q, J, am_RT T)))
    (hr_X4_truth : ∀ (I : Nat → Nat → Int32) (J : Nat → Nat → Int64) (T : Nat) (x1 : Int32) (x2 : Int32) (q : (Nat → Nat → Int32)) (gc gs : Nat), rc_X4_truth I J T x1 x2 = some q → AW l ρ d M_X4_truth 0 [(0, .ref 17), (1, .int x1), (2, .int x2)] [] (am_KD, gc, gs) (I, J, am_RT T) (am_KD, gc, gs) (fun v H' => v = [] ∧ H' = (q, J, am_RT T)))
    (hr_X4_condition : ∀ (I : Nat → Nat → Int32) (J : Nat → Nat → Int64) (T : Nat) (x1 : Int32) (x2 : Int32) (q : (Nat → Nat → Int32)) (gc gs : Nat), rc_X4_condition I J T x1 x2 = some q → AW l ρ d M_X4_condition 0 [(0, .ref 17), (1, .int x1), (2, .int x2)] [] (am_KD, gc, gs) (I, J, am_RT T) (am_KD, gc, gs) (fun v H' => v = [] ∧ H' = (q, J, am_RT T)))
    (h : fb_X4_condition n rc_X4_unit rc_X4_truth rc_X4_condition I J T x1 x2 = some q) : AW l ρ (d + 1) M_X4_condition 0 [(0, .ref 17), (1, .int x1), (2, .int x2)] [] (am_KD, gc, gs) (I, J, am_RT T) (am_KD, gc, gs) (fun v H' => v = [] ∧ H' = (q, J, am_RT T)) := by
  unfold fb_X4_condition at h
  refine op_aload_n (k := 0) dX4_condition_0 rfl rfl ?_
  refine op_iload_n (k := 1) dX4_condition_1 rfl rfl ?_
  refine op_iload_n (k := 2) dX4_condition_2 rfl rfl ?_
  obtain ⟨w1, ew1, h⟩ := am_bd h
  refine op_callV (M' := M_X4_truth) [.int x1, .int x2] (S0 := []) dX4_condition_3 tw_661 ok_X4_truth tw_663 tw_16 kd_17 cls_4 rfl rfl rfl (Nat.le_of_ble_eq_true rfl) (Nat.le_of_ble_eq_true rfl) (hr_X4_truth _ _ _ _ _ _ _ _ ew1) (am_le_rf _) ?_
  rintro _ _ ⟨rfl, rfl⟩
  refine op_iconst (v := 0) dX4_condition_6 (by decide) ?_
  refine op_istore_n (L' := [(3, .int 0), (0, .ref 17), (1, .int x1), (2, .int x2)]) dX4_condition_7 rfl (by decide) rfl ?_
  refine AW.perm [1, 2, 0] rfl ?_
  exact t_X4_condition_8 hd hr_X4_unit hr_X4_truth hr_X4_condition n _ _ _ _ _ h
set_option maxRecDepth 100000 in
set_option maxHeartbeats 4000000 in
theorem tx_X4_unit {l : Launch} {ρ : am_R} (n : Nat) : ∀ (r d : Nat), r + 1 * n + 4 ≤ d → (∀ (I : Nat → Nat → Int32) (J : Nat → Nat → Int64) (T : Nat) (x1 : Int32) (x2 : Int32) (q : (Nat → Nat → Int32)) (gc gs : Nat), (fx_X4_unit n r).1 I J T x1 x2 = some q → AW l ρ d M_X4_unit 0 [(0, .ref 17), (1, .int x1), (2, .int x2)] [] (am_KD, gc, gs) (I, J, am_RT T) (am_KD, gc, gs) (fun v H' => v = [] ∧ H' = (q, J, am_RT T))) ∧ (∀ (I : Nat → Nat → Int32) (J : Nat → Nat → Int64) (T : Nat) (x1 : Int32) (x2 : Int32) (q : (Nat → Nat → Int32)) (gc gs : Nat), (fx_X4_unit n r).2.1 I J T x1 x2 = some q → AW l ρ d M_X4_truth 0 [(0, .ref 17), (1, .int x1), (2, .int x2)] [] (am_KD, gc, gs) (I, J, am_RT T) (am_KD, gc, gs) (fun v H' => v = [] ∧ H' = (q, J, am_RT T))) ∧ (∀ (I : Nat → Nat → Int32) (J : Nat → Nat → Int64) (T : Nat) (x1 : Int32) (x2 : Int32) (q : (Nat → Nat → Int32)) (gc gs : Nat), (fx_X4_unit n r).2.2 I J T x1 x2 = some q → AW l ρ d M_X4_condition 0 [(0, .ref 17), (1, .int x1), (2, .int x2)] [] (am_KD, gc, gs) (I, J, am_RT T) (am_KD, gc, gs) (fun v H' => v = [] ∧ H' = (q, J, am_RT T))) := by
  intro r
  induction r with
  | zero =>
    intro d _
    exact ⟨(fun _ _ _ _ _ q _ _ h => by have h : none = some q := h; cases h), (fun _ _ _ _ _ q _ _ h => by have h : none = some q := h; cases h), (fun _ _ _ _ _ q _ _ h => by have h : none = some q := h; cases h)⟩
  | succ r ih =>
    intro d hd
    obtain ⟨d, rfl⟩ : ∃ e, d = e + 1 := ⟨d - 1, by omega⟩
    have ih := ih d (by omega)
    exact ⟨(fun _ _ _ _ _ q _ _ h => t_X4_unit_0 (rc_X4_unit := (fx_X4_unit n r).1) (rc_X4_truth := (fx_X4_unit n r).2.1) (rc_X4_condition := (fx_X4_unit n r).2.2) (by omega) (ih.1) (ih.2.1) (ih.2.2) h), (fun _ _ _ _ _ q _ _ h => t_X4_truth_0 (rc_X4_unit := (fx_X4_unit n r).1) (rc_X4_truth := (fx_X4_unit n r).2.1) (rc_X4_condition := (fx_X4_unit n r).2.2) (by omega) (ih.1) (ih.2.1) (ih.2.2) h), (fun _ _ _ _ _ q _ _ h => t_X4_condition_0 (rc_X4_unit := (fx_X4_unit n r).1) (rc_X4_truth := (fx_X4_unit n r).2.1) (rc_X4_condition := (fx_X4_unit n r).2.2) (by omega) (ih.1) (ih.2.1) (ih.2.2) h)⟩
theorem t_X4_unit {l : Launch} {ρ : am_R} {n d gc gs : Nat} {I : Nat → Nat → Int32} {J : Nat → Nat → Int64} {T : Nat} {x1 : Int32} {x2 : Int32} {q : (Nat → Nat → Int32)} (hd : 2 * n + 4 ≤ d) (h : f_X4_unit n I J T x1 x2 = some q) : AW l ρ d M_X4_unit 0 [(0, .ref 17), (1, .int x1), (2, .int x2)] [] (am_KD, gc, gs) (I, J, am_RT T) (am_KD, gc, gs) (fun v H' => v = [] ∧ H' = (q, J, am_RT T)) := (tx_X4_unit n n d (by omega)).1 _ _ _ _ _ _ _ _ h
theorem t_X4_truth {l : Launch} {ρ : am_R} {n d gc gs : Nat} {I : Nat → Nat → Int32} {J : Nat → Nat → Int64} {T : Nat} {x1 : Int32} {x2 : Int32} {q : (Nat → Nat → Int32)} (hd : 2 * n + 4 ≤ d) (h : f_X4_truth n I J T x1 x2 = some q) : AW l ρ d M_X4_truth 0 [(0, .ref 17), (1, .int x1), (2, .int x2)] [] (am_KD, gc, gs) (I, J, am_RT T) (am_KD, gc, gs) (fun v H' => v = [] ∧ H' = (q, J, am_RT T)) := (tx_X4_unit n n d (by omega)).2.1 _ _ _ _ _ _ _ _ h
theorem t_X4_condition {l : Launch} {ρ : am_R} {n d gc gs : Nat} {I : Nat → Nat → Int32} {J : Nat → Nat → Int64} {T : Nat} {x1 : Int32} {x2 : Int32} {q : (Nat → Nat → Int32)} (hd : 2 * n + 4 ≤ d) (h : f_X4_condition n I J T x1 x2 = some q) : AW l ρ d M_X4_condition 0 [(0, .ref 17), (1, .int x1), (2, .int x2)] [] (am_KD, gc, gs) (I, J, am_RT T) (am_KD, gc, gs) (fun v H' => v = [] ∧ H' = (q, J, am_RT T)) := (tx_X4_unit n n d (by omega)).2.2 _ _ _ _ _ _ _ _ h
def f_X4_clause_108 (n : Nat) (I : Nat → Nat → Int32) (J : Nat → Nat → Int64) (T : Nat) : Option ((Nat → Nat → Int32)) :=
  (f_X4_emit n I J T 10059).bind fun w1 =>
  some (w1)
def f_X4_clause_83 (n : Nat) (I : Nat → Nat → Int32) (J : Nat → Nat → Int64) (T : Nat) (x2 : Int32) : Option ((Nat → Nat → Int32)) :=
  if x2 = 0 then
   f_X4_clause_108 n  I J T
  else
   (f_X10_expect n I J T 63).bind fun w2 =>
   (f_X4_emit n w2 J T 10063).bind fun w3 =>
   (f_X4_sum n w3 J T 0).bind fun w4 =>
   f_X4_clause_108 n  w4 J T
def f_X4_clause_43 (n : Nat) (I : Nat → Nat → Int32) (J : Nat → Nat → Int64) (T : Nat) (s0 : Int32) : Option ((Nat → Nat → Int32)) :=
  if s0 = 0 then
   (f_X4_sum n I J T 0).bind fun w3 =>
   (f_X10_sign n w3 J T).bind fun w4 =>
   (f_X4_isComparison n w4.2 J T w4.1).bind fun w5 =>
   if w5 = 0 then
    f_X4_clause_83 n  w4.2 J T w5
   else
    (f_X4_condition n w4.2 J T 0 1).bind fun w7 =>
    f_X4_clause_83 n  w7 J T w5
  else
   (f_X4_condition n I J T 0 0).bind fun w2 =>
   f_X4_clause_83 n  w2 J T s0
def f_X4_clause_38 (n : Nat) (I : Nat → Nat → Int32) (J : Nat → Nat → Int64) (T : Nat) : Option ((Nat → Nat → Int32)) :=
  f_X4_clause_43 n  I J T 1
def f_X4_clause (n : Nat) (I : Nat → Nat → Int32) (J : Nat → Nat → Int64) (T : Nat) : Option ((Nat → Nat → Int32)) :=
  (f_X10_expect n I J T 121).bind fun w1 =>
  (f_X10_expect n w1 J T 58).bind fun w2 =>
  (f_X10_sign n w2 J T).bind fun w3 =>
  if w3.1 = 33 then
   f_X4_clause_38 n  w3.2 J T
  else
   if w3.1 = 40 then
    f_X4_clause_38 n  w3.2 J T
   else
    f_X4_clause_43 n  w3.2 J T 0
set_option maxRecDepth 100000 in
set_option maxHeartbeats 4000000 in
theorem t_X4_clause_108 {l : Launch} {ρ : am_R} {n d gc gs : Nat} {I : Nat → Nat → Int32} {J : Nat → Nat → Int64} {T : Nat} {q : (Nat → Nat → Int32)} (hd : 2 * n + 5 ≤ (d + 1))
    (h : f_X4_clause_108 n  I J T  = some q) : AW l ρ (d + 1) M_X4_clause 108 [(0, .ref 17)] [] (am_KD, gc, gs) (I, J, am_RT T) (am_KD, gc, gs) (fun v H' => v = [] ∧ H' = (q, J, am_RT T)) := by
  unfold f_X4_clause_108 at h
  refine op_aload_n (k := 0) dX4_clause_108 rfl rfl ?_
  refine op_sipush (v := 10059) dX4_clause_109 (by decide) ?_
  obtain ⟨w1, ew1, h⟩ := am_bd h
  refine op_callV (M' := M_X4_emit) [.int 10059] (S0 := []) dX4_clause_112 tw_642 ok_X4_emit tw_644 tw_13 kd_17 cls_4 rfl rfl rfl (Nat.le_of_ble_eq_true rfl) (Nat.le_of_ble_eq_true rfl) (t_X4_emit (by omega) ew1) (am_le_rf _) ?_
  rintro _ _ ⟨rfl, rfl⟩
  cases h
  exact (op_vret dX4_clause_115 rfl ⟨rfl, rfl⟩)
set_option maxRecDepth 100000 in
set_option maxHeartbeats 4000000 in
theorem t_X4_clause_83 {l : Launch} {ρ : am_R} {n d gc gs : Nat} {I : Nat → Nat → Int32} {J : Nat → Nat → Int64} {T : Nat} {x2 : Int32} {q : (Nat → Nat → Int32)} (hd : 2 * n + 5 ≤ (d + 1))
    (h : f_X4_clause_83 n  I J T x2 = some q) : AW l ρ (d + 1) M_X4_clause 83 [(0, .ref 17), (2, .int x2)] [] (am_KD, gc, gs) (I, J, am_RT T) (am_KD, gc, gs) (fun v H' => v = [] ∧ H' = (q, J, am_RT T)) := by
  unfold f_X4_clause_83 at h
  refine op_iload_n (k := 1) dX4_clause_83 rfl rfl ?_
  refine op_if_eq (tgt := 108) dX4_clause_84 (by decide) (fun c1 => ?_) (fun c1 => ?_)
  · replace h := am_ip c1 h
    refine AW.perm [0] rfl ?_
    exact t_X4_clause_108 hd  h
  · replace h := am_ie c1 h
    refine op_aload_n (k := 0) dX4_clause_87 rfl rfl ?_
    refine st_getR (z := 1) dX4_clause_88 fl_X4_15 kd_17 (by decide) rfl rr_17_0 ?_
    refine op_bipush (v := 63) dX4_clause_91 (by decide) ?_
    obtain ⟨w2, ew2, h⟩ := am_bd h
    refine op_callV (M' := M_X10_expect) [.int 63] (S0 := []) dX4_clause_93 tw_623 ok_X10_expect tw_624 tw_625 kd_1 cls_10 rfl rfl rfl (Nat.le_of_ble_eq_true rfl) (Nat.le_of_ble_eq_true rfl) (t_X10_expect (by omega) ew2) (am_le_rf _) ?_
    rintro _ _ ⟨rfl, rfl⟩
    refine op_aload_n (k := 0) dX4_clause_96 rfl rfl ?_
    refine op_sipush (v := 10063) dX4_clause_97 (by decide) ?_
    obtain ⟨w3, ew3, h⟩ := am_bd h
    refine op_callV (M' := M_X4_emit) [.int 10063] (S0 := []) dX4_clause_100 tw_642 ok_X4_emit tw_644 tw_13 kd_17 cls_4 rfl rfl rfl (Nat.le_of_ble_eq_true rfl) (Nat.le_of_ble_eq_true rfl) (t_X4_emit (by omega) ew3) (am_le_rf _) ?_
    rintro _ _ ⟨rfl, rfl⟩
    refine op_aload_n (k := 0) dX4_clause_103 rfl rfl ?_
    refine op_iconst (v := 0) dX4_clause_104 (by decide) ?_
    obtain ⟨w4, ew4, h⟩ := am_bd h
    refine op_callV (M' := M_X4_sum) [.int 0] (S0 := []) dX4_clause_105 tw_628 ok_X4_sum tw_630 tw_10 kd_17 cls_4 rfl rfl rfl (Nat.le_of_ble_eq_true rfl) (Nat.le_of_ble_eq_true rfl) (t_X4_sum (by omega) ew4) (am_le_rf _) ?_
    rintro _ _ ⟨rfl, rfl⟩
    refine AW.perm [0] rfl ?_
    exact t_X4_clause_108 hd  h
set_option maxRecDepth 100000 in
set_option maxHeartbeats 4000000 in
theorem t_X4_clause_43 {l : Launch} {ρ : am_R} {n d gc gs : Nat} {I : Nat → Nat → Int32} {J : Nat → Nat → Int64} {T : Nat} {s0 : Int32} {q : (Nat → Nat → Int32)} (hd : 2 * n + 5 ≤ (d + 1))
    (h : f_X4_clause_43 n  I J T s0 = some q) : AW l ρ (d + 1) M_X4_clause 43 [(0, .ref 17)] [.int s0] (am_KD, gc, gs) (I, J, am_RT T) (am_KD, gc, gs) (fun v H' => v = [] ∧ H' = (q, J, am_RT T)) := by
  unfold f_X4_clause_43 at h
  refine op_istore_n (L' := [(2, .int s0), (0, .ref 17)]) dX4_clause_43 rfl (by decide) rfl ?_
  refine op_iload_n (k := 0) dX4_clause_44 rfl rfl ?_
  refine op_if_ne (tgt := 77) dX4_clause_45 (by decide) (fun c1 => ?_) (fun c1 => ?_)
  · replace h := am_ie c1 h
    refine op_aload_n (k := 1) dX4_clause_77 rfl rfl ?_
    refine op_iconst (v := 0) dX4_clause_78 (by decide) ?_
    refine op_iconst (v := 0) dX4_clause_79 (by decide) ?_
    obtain ⟨w2, ew2, h⟩ := am_bd h
    refine op_callV (M' := M_X4_condition) [.int 0, .int 0] (S0 := []) dX4_clause_80 tw_657 ok_X4_condition tw_659 tw_15 kd_17 cls_4 rfl rfl rfl (Nat.le_of_ble_eq_true rfl) (Nat.le_of_ble_eq_true rfl) (t_X4_condition (by omega) ew2) (am_le_rf _) ?_
    rintro _ _ ⟨rfl, rfl⟩
    refine AW.perm [1, 0] rfl ?_
    exact t_X4_clause_83 hd  h
  · replace h := am_ip c1 h
    refine op_aload_n (k := 1) dX4_clause_48 rfl rfl ?_
    refine op_iconst (v := 0) dX4_clause_49 (by decide) ?_
    obtain ⟨w3, ew3, h⟩ := am_bd h
    refine op_callV (M' := M_X4_sum) [.int 0] (S0 := []) dX4_clause_50 tw_628 ok_X4_sum tw_630 tw_10 kd_17 cls_4 rfl rfl rfl (Nat.le_of_ble_eq_true rfl) (Nat.le_of_ble_eq_true rfl) (t_X4_sum (by omega) ew3) (am_le_rf _) ?_
    rintro _ _ ⟨rfl, rfl⟩
    refine op_aload_n (k := 1) dX4_clause_53 rfl rfl ?_
    refine st_getR (z := 1) dX4_clause_54 fl_X4_15 kd_17 (by decide) rfl rr_17_0 ?_
    obtain ⟨w4, ew4, h⟩ := am_bd h
    refine op_callV (M' := M_X10_sign) [] (S0 := []) dX4_clause_57 tw_627 ok_X10_sign tw_561 tw_562 kd_1 cls_10 rfl rfl rfl (Nat.le_of_ble_eq_true rfl) (Nat.le_of_ble_eq_true rfl) (t_X10_sign (by omega) ew4) (am_le_rf _) ?_
    rintro _ _ ⟨rfl, rfl⟩
    obtain ⟨w5, ew5, h⟩ := am_bd h
    refine op_callS (M' := M_X4_isComparison) [.int w4.1] (S0 := []) dX4_clause_60 tw_654 ok_X4_isComparison tw_655 rfl rfl (Nat.le_of_ble_eq_true rfl) (Nat.le_of_ble_eq_true rfl) (t_X4_isComparison (by omega) ew5) (am_le_rf _) ?_
    rintro _ _ ⟨rfl, rfl⟩
    refine op_istore_n (L' := [(2, .int w5), (0, .ref 17)]) dX4_clause_63 rfl (by decide) rfl ?_
    refine op_iload_n (k := 0) dX4_clause_64 rfl rfl ?_
    refine op_if_eq (tgt := 83) dX4_clause_65 (by decide) (fun c6 => ?_) (fun c6 => ?_)
    · replace h := am_ip c6 h
      refine AW.perm [1, 0] rfl ?_
      exact t_X4_clause_83 hd  h
    · replace h := am_ie c6 h
      refine op_aload_n (k := 1) dX4_clause_68 rfl rfl ?_
      refine op_iconst (v := 0) dX4_clause_69 (by decide) ?_
      refine op_iconst (v := 1) dX4_clause_70 (by decide) ?_
      obtain ⟨w7, ew7, h⟩ := am_bd h
      refine op_callV (M' := M_X4_condition) [.int 0, .int 1] (S0 := []) dX4_clause_71 tw_657 ok_X4_condition tw_659 tw_15 kd_17 cls_4 rfl rfl rfl (Nat.le_of_ble_eq_true rfl) (Nat.le_of_ble_eq_true rfl) (t_X4_condition (by omega) ew7) (am_le_rf _) ?_
      rintro _ _ ⟨rfl, rfl⟩
      refine op_goto (tgt := 83) dX4_clause_74 (by decide) ?_
      refine AW.perm [1, 0] rfl ?_
      exact t_X4_clause_83 hd  h
set_option maxRecDepth 100000 in
set_option maxHeartbeats 4000000 in
theorem t_X4_clause_38 {l : Launch} {ρ : am_R} {n d gc gs : Nat} {I : Nat → Nat → Int32} {J : Nat → Nat → Int64} {T : Nat} {q : (Nat → Nat → Int32)} (hd : 2 * n + 5 ≤ (d + 1))
    (h : f_X4_clause_38 n  I J T  = some q) : AW l ρ (d + 1) M_X4_clause 38 [(0, .ref 17)] [] (am_KD, gc, gs) (I, J, am_RT T) (am_KD, gc, gs) (fun v H' => v = [] ∧ H' = (q, J, am_RT T)) := by
  unfold f_X4_clause_38 at h
  refine op_iconst (v := 1) dX4_clause_38 (by decide) ?_
  refine op_goto (tgt := 43) dX4_clause_39 (by decide) ?_
  exact t_X4_clause_43 hd  h
set_option maxRecDepth 100000 in
set_option maxHeartbeats 4000000 in
theorem t_X4_clause_0 {l : Launch} {ρ : am_R} {n d gc gs : Nat} {I : Nat → Nat → Int32} {J : Nat → Nat → Int64} {T : Nat} {q : (Nat → Nat → Int32)} (hd : 2 * n + 5 ≤ (d + 1))
    (h : f_X4_clause n  I J T  = some q) : AW l ρ (d + 1) M_X4_clause 0 [(0, .ref 17)] [] (am_KD, gc, gs) (I, J, am_RT T) (am_KD, gc, gs) (fun v H' => v = [] ∧ H' = (q, J, am_RT T)) := by
  unfold f_X4_clause at h
  refine op_aload_n (k := 0) dX4_clause_0 rfl rfl ?_
  refine st_getR (z := 1) dX4_clause_1 fl_X4_15 kd_17 (by decide) rfl rr_17_0 ?_
  refine op_bipush (v := 121) dX4_clause_4 (by decide) ?_
  obtain ⟨w1, ew1, h⟩ := am_bd h
  refine op_callV (M' := M_X10_expect) [.int 121] (S0 := []) dX4_clause_6 tw_623 ok_X10_expect tw_624 tw_625 kd_1 cls_10 rfl rfl rfl (Nat.le_of_ble_eq_true rfl) (Nat.le_of_ble_eq_true rfl) (t_X10_expect (by omega) ew1) (am_le_rf _) ?_
  rintro _ _ ⟨rfl, rfl⟩
  refine op_aload_n (k := 0) dX4_clause_9 rfl rfl ?_
  refine st_getR (z := 1) dX4_clause_10 fl_X4_15 kd_17 (by decide) rfl rr_17_0 ?_
  refine op_bipush (v := 58) dX4_clause_13 (by decide) ?_
  obtain ⟨w2, ew2, h⟩ := am_bd h
  refine op_callV (M' := M_X10_expect) [.int 58] (S0 := []) dX4_clause_15 tw_623 ok_X10_expect tw_624 tw_625 kd_1 cls_10 rfl rfl rfl (Nat.le_of_ble_eq_true rfl) (Nat.le_of_ble_eq_true rfl) (t_X10_expect (by omega) ew2) (am_le_rf _) ?_
  rintro _ _ ⟨rfl, rfl⟩
  refine op_aload_n (k := 0) dX4_clause_18 rfl rfl ?_
  refine st_getR (z := 1) dX4_clause_19 fl_X4_15 kd_17 (by decide) rfl rr_17_0 ?_
  obtain ⟨w3, ew3, h⟩ := am_bd h
  refine op_callV (M' := M_X10_sign) [] (S0 := []) dX4_clause_22 tw_627 ok_X10_sign tw_561 tw_562 kd_1 cls_10 rfl rfl rfl (Nat.le_of_ble_eq_true rfl) (Nat.le_of_ble_eq_true rfl) (t_X10_sign (by omega) ew3) (am_le_rf _) ?_
  rintro _ _ ⟨rfl, rfl⟩
  refine op_istore_n (L' := [(1, .int w3.1), (0, .ref 17)]) dX4_clause_25 rfl (by decide) rfl ?_
  refine op_iload_n (k := 0) dX4_clause_26 rfl rfl ?_
  refine op_bipush (v := 33) dX4_clause_27 (by decide) ?_
  refine op_icmp_eq (tgt := 38) dX4_clause_29 (by decide) (fun c4 => ?_) (fun c4 => ?_)
  · replace h := am_ip c4 h
    refine AW.perm [1] rfl ?_
    exact t_X4_clause_38 hd  h
  · replace h := am_ie c4 h
    refine op_iload_n (k := 0) dX4_clause_32 rfl rfl ?_
    refine op_bipush (v := 40) dX4_clause_33 (by decide) ?_
    refine op_icmp_ne (tgt := 42) dX4_clause_35 (by decide) (fun c5 => ?_) (fun c5 => ?_)
    · replace h := am_ie c5 h
      refine op_iconst (v := 0) dX4_clause_42 (by decide) ?_
      refine AW.perm [1] rfl ?_
      exact t_X4_clause_43 hd  h
    · replace h := am_ip c5 h
      refine AW.perm [1] rfl ?_
      exact t_X4_clause_38 hd  h
theorem t_X4_clause {l : Launch} {ρ : am_R} {n d gc gs : Nat} {I : Nat → Nat → Int32} {J : Nat → Nat → Int64} {T : Nat} {q : (Nat → Nat → Int32)} (hd : 2 * n + 5 ≤ d) (h : f_X4_clause n I J T  = some q) : AW l ρ d M_X4_clause 0 [(0, .ref 17)] [] (am_KD, gc, gs) (I, J, am_RT T) (am_KD, gc, gs) (fun v H' => v = [] ∧ H' = (q, J, am_RT T)) := by
  obtain ⟨d, rfl⟩ : ∃ e, d = e + 1 := ⟨d - 1, by omega⟩
  exact t_X4_clause_0 hd h
def f_X4_read_72 (n : Nat) (I : Nat → Nat → Int32) (J : Nat → Nat → Int64) (T : Nat) : Option (Int32 × (Nat → Nat → Int32)) :=
  some (I 1 3, I)
def f_X4_read_47 (n : Nat) (I : Nat → Nat → Int32) (J : Nat → Nat → Int64) (T : Nat) : Option (Int32 × (Nat → Nat → Int32)) :=
  (f_X10_sign n I J T).bind fun w1 =>
  if w1.1 = ((-1)) then
   f_X4_read_72 n  w1.2 J T
  else
   (f_X10_fail n w1.2 J T (w1.2 1 2)).bind fun w3 =>
   f_X4_read_72 n  w3 J T
def f_X4_read_18 (n : Nat) : Nat → (Nat → Nat → Int32) → (Nat → Nat → Int64) → Nat → Int32 → Option (Int32 × (Nat → Nat → Int32))
  | 0, _, _, _, _ => none
  | m + 1, I, J, T, x1 =>
    if 160 ≤ x1 then
     f_X4_read_47 n  I J T
    else
     (f_X10_takes n I J T 59).bind fun w2 =>
     if w2.1 = 0 then
      f_X4_read_47 n  w2.2 J T
     else
      (f_X4_clause n w2.2 J T).bind fun w4 =>
      f_X4_read_18 n  m w4 J T (x1 + 1)
def f_X4_read (n : Nat) (I : Nat → Nat → Int32) (J : Nat → Nat → Int64) (T : Nat) : Option (Int32 × (Nat → Nat → Int32)) :=
  (f_X10_begin n I J T).bind fun w1 =>
  (f_X4_clause n ((am_u w1 17 2 0)) J T).bind fun w2 =>
  f_X4_read_18 n  n w2 J T 0
set_option maxRecDepth 100000 in
set_option maxHeartbeats 4000000 in
theorem t_X4_read_72 {l : Launch} {ρ : am_R} {n d gc gs : Nat} {I : Nat → Nat → Int32} {J : Nat → Nat → Int64} {T : Nat} {q : Int32 × (Nat → Nat → Int32)} (hd : 2 * n + 6 ≤ (d + 1))
    (h : f_X4_read_72 n  I J T  = some q) : AW l ρ (d + 1) M_X4_read 72 [(0, .ref 17)] [] (am_KD, gc, gs) (I, J, am_RT T) (am_KD, gc, gs) (fun v H' => v = [.int q.1] ∧ H' = (q.2, J, am_RT T)) := by
  unfold f_X4_read_72 at h
  refine op_aload_n (k := 0) dX4_read_72 rfl rfl ?_
  refine st_getR (z := 1) dX4_read_73 fl_X4_15 kd_17 (by decide) rfl rr_17_0 ?_
  refine st_getI (v := I 1 3) dX4_read_76 fl_X4_44 kd_1 (by decide) rfl rfl ?_
  cases h
  exact (op_iret dX4_read_79 rfl rfl ⟨rfl, rfl⟩)
set_option maxRecDepth 100000 in
set_option maxHeartbeats 4000000 in
theorem t_X4_read_47 {l : Launch} {ρ : am_R} {n d gc gs : Nat} {I : Nat → Nat → Int32} {J : Nat → Nat → Int64} {T : Nat} {q : Int32 × (Nat → Nat → Int32)} (hd : 2 * n + 6 ≤ (d + 1))
    (h : f_X4_read_47 n  I J T  = some q) : AW l ρ (d + 1) M_X4_read 47 [(0, .ref 17)] [] (am_KD, gc, gs) (I, J, am_RT T) (am_KD, gc, gs) (fun v H' => v = [.int q.1] ∧ H' = (q.2, J, am_RT T)) := by
  unfold f_X4_read_47 at h
  refine op_aload_n (k := 0) dX4_read_47 rfl rfl ?_
  refine st_getR (z := 1) dX4_read_48 fl_X4_15 kd_17 (by decide) rfl rr_17_0 ?_
  obtain ⟨w1, ew1, h⟩ := am_bd h
  refine op_callV (M' := M_X10_sign) [] (S0 := []) dX4_read_51 tw_627 ok_X10_sign tw_561 tw_562 kd_1 cls_10 rfl rfl rfl (Nat.le_of_ble_eq_true rfl) (Nat.le_of_ble_eq_true rfl) (t_X10_sign (by omega) ew1) (am_le_rf _) ?_
  rintro _ _ ⟨rfl, rfl⟩
  refine op_iconst (v := (-1)) dX4_read_54 (by decide) ?_
  refine op_icmp_eq (tgt := 72) dX4_read_55 (by decide) (fun c2 => ?_) (fun c2 => ?_)
  · replace h := am_ip c2 h
    exact t_X4_read_72 hd  h
  · replace h := am_ie c2 h
    refine op_aload_n (k := 0) dX4_read_58 rfl rfl ?_
    refine st_getR (z := 1) dX4_read_59 fl_X4_15 kd_17 (by decide) rfl rr_17_0 ?_
    refine op_aload_n (k := 0) dX4_read_62 rfl rfl ?_
    refine st_getR (z := 1) dX4_read_63 fl_X4_15 kd_17 (by decide) rfl rr_17_0 ?_
    refine st_getI (v := w1.2 1 2) dX4_read_66 fl_X4_37 kd_1 (by decide) rfl rfl ?_
    obtain ⟨w3, ew3, h⟩ := am_bd h
    refine op_callV (M' := M_X10_fail) [.int (w1.2 1 2)] (S0 := []) dX4_read_69 tw_653 ok_X10_fail tw_587 tw_588 kd_1 cls_10 rfl rfl rfl (Nat.le_of_ble_eq_true rfl) (Nat.le_of_ble_eq_true rfl) (t_X10_fail (by omega) ew3) (am_le_rf _) ?_
    rintro _ _ ⟨rfl, rfl⟩
    exact t_X4_read_72 hd  h
set_option maxRecDepth 100000 in
set_option maxHeartbeats 4000000 in
theorem t_X4_read_18 {l : Launch} {ρ : am_R} {n d gc gs : Nat} {q : Int32 × (Nat → Nat → Int32)} (hd : 2 * n + 6 ≤ (d + 1))
    : ∀ (m : Nat) (I : Nat → Nat → Int32) (J : Nat → Nat → Int64) (T : Nat) (x1 : Int32), f_X4_read_18 n  m I J T x1 = some q → AW l ρ (d + 1) M_X4_read 18 [(0, .ref 17), (1, .int x1)] [] (am_KD, gc, gs) (I, J, am_RT T) (am_KD, gc, gs) (fun v H' => v = [.int q.1] ∧ H' = (q.2, J, am_RT T)) := by
  intro m
  induction m with
  | zero =>
    intro I J T x1 h
    rw [f_X4_read_18] at h
    cases h
  | succ m ih =>
    intro I J T x1 h
    rw [f_X4_read_18] at h
    refine op_iload_n (k := 1) dX4_read_18 rfl rfl ?_
    refine op_sipush (v := 160) dX4_read_19 (by decide) ?_
    refine op_icmp_ge (tgt := 47) dX4_read_22 (by decide) (fun c1 => ?_) (fun c1 => ?_)
    · replace h := am_ip c1 h
      refine AW.perm [0] rfl ?_
      exact t_X4_read_47 hd  h
    · replace h := am_ie c1 h
      refine op_aload_n (k := 0) dX4_read_25 rfl rfl ?_
      refine st_getR (z := 1) dX4_read_26 fl_X4_15 kd_17 (by decide) rfl rr_17_0 ?_
      refine op_bipush (v := 59) dX4_read_29 (by decide) ?_
      obtain ⟨w2, ew2, h⟩ := am_bd h
      refine op_callV (M' := M_X10_takes) [.int 59] (S0 := []) dX4_read_31 tw_673 ok_X10_takes tw_607 tw_608 kd_1 cls_10 rfl rfl rfl (Nat.le_of_ble_eq_true rfl) (Nat.le_of_ble_eq_true rfl) (t_X10_takes (by omega) ew2) (am_le_rf _) ?_
      rintro _ _ ⟨rfl, rfl⟩
      refine op_if_eq (tgt := 47) dX4_read_34 (by decide) (fun c3 => ?_) (fun c3 => ?_)
      · replace h := am_ip c3 h
        refine AW.perm [0] rfl ?_
        exact t_X4_read_47 hd  h
      · replace h := am_ie c3 h
        refine op_aload_n (k := 0) dX4_read_37 rfl rfl ?_
        obtain ⟨w4, ew4, h⟩ := am_bd h
        refine op_callV (M' := M_X4_clause) [] (S0 := []) dX4_read_38 tw_619 ok_X4_clause tw_621 tw_9 kd_17 cls_4 rfl rfl rfl (Nat.le_of_ble_eq_true rfl) (Nat.le_of_ble_eq_true rfl) (t_X4_clause (by omega) ew4) (am_le_rf _) ?_
        rintro _ _ ⟨rfl, rfl⟩
        refine op_iinc (k := 1) (v := x1 + 1) (L' := [(1, .int (x1 + 1)), (0, .ref 17)]) dX4_read_41 rfl rfl (by decide) rfl ?_
        refine op_goto (tgt := 18) dX4_read_44 (by decide) ?_
        refine AW.perm [1, 0] rfl ?_
        exact ih _ _ _ _ h
set_option maxRecDepth 100000 in
set_option maxHeartbeats 4000000 in
theorem t_X4_read_0 {l : Launch} {ρ : am_R} {n d gc gs : Nat} {I : Nat → Nat → Int32} {J : Nat → Nat → Int64} {T : Nat} {q : Int32 × (Nat → Nat → Int32)} (hd : 2 * n + 6 ≤ (d + 1))
    (h : f_X4_read n  I J T  = some q) : AW l ρ (d + 1) M_X4_read 0 [(0, .ref 17)] [] (am_KD, gc, gs) (I, J, am_RT T) (am_KD, gc, gs) (fun v H' => v = [.int q.1] ∧ H' = (q.2, J, am_RT T)) := by
  unfold f_X4_read at h
  refine op_aload_n (k := 0) dX4_read_0 rfl rfl ?_
  refine st_getR (z := 1) dX4_read_1 fl_X4_15 kd_17 (by decide) rfl rr_17_0 ?_
  obtain ⟨w1, ew1, h⟩ := am_bd h
  refine op_callV (M' := M_X10_begin) [] (S0 := []) dX4_read_4 tw_618 ok_X10_begin tw_543 tw_544 kd_1 cls_10 rfl rfl rfl (Nat.le_of_ble_eq_true rfl) (Nat.le_of_ble_eq_true rfl) (t_X10_begin (by omega) ew1) (am_le_rf _) ?_
  rintro _ _ ⟨rfl, rfl⟩
  refine op_aload_n (k := 0) dX4_read_7 rfl rfl ?_
  refine op_iconst (v := 0) dX4_read_8 (by decide) ?_
  refine st_putI dX4_read_9 fl_X4_22 kd_17 (by decide) rfl ?_
  refine op_aload_n (k := 0) dX4_read_12 rfl rfl ?_
  obtain ⟨w2, ew2, h⟩ := am_bd h
  refine op_callV (M' := M_X4_clause) [] (S0 := []) dX4_read_13 tw_619 ok_X4_clause tw_621 tw_9 kd_17 cls_4 rfl rfl rfl (Nat.le_of_ble_eq_true rfl) (Nat.le_of_ble_eq_true rfl) (t_X4_clause (by omega) ew2) (am_le_rf _) ?_
  rintro _ _ ⟨rfl, rfl⟩
  refine op_iconst (v := 0) dX4_read_16 (by decide) ?_
  refine op_istore_n (L' := [(1, .int 0), (0, .ref 17)]) dX4_read_17 rfl (by decide) rfl ?_
  refine AW.perm [1, 0] rfl ?_
  exact t_X4_read_18 hd  n _ _ _ _ h
theorem t_X4_read {l : Launch} {ρ : am_R} {n d gc gs : Nat} {I : Nat → Nat → Int32} {J : Nat → Nat → Int64} {T : Nat} {q : Int32 × (Nat → Nat → Int32)} (hd : 2 * n + 6 ≤ d) (h : f_X4_read n I J T  = some q) : AW l ρ d M_X4_read 0 [(0, .ref 17)] [] (am_KD, gc, gs) (I, J, am_RT T) (am_KD, gc, gs) (fun v H' => v = [.int q.1] ∧ H' = (q.2, J, am_RT T)) := by
  obtain ⟨d, rfl⟩ : ∃ e, d = e + 1 := ⟨d - 1, by omega⟩
  exact t_X4_read_0 hd h
def f_X3_fillWithout_2 (n : Nat) : Nat → (Nat → Nat → Int32) → (Nat → Nat → Int64) → Nat → Int32 → Int32 → Option ((Nat → Nat → Int32))
  | 0, _, _, _, _, _ => none
  | m + 1, I, J, T, x1, x2 =>
    if 3 ≤ x2 then
     some (I)
    else
     if ok_ix ((x1 * 3) + x2) 9 then
      if ok_ix x2 3 then
       f_X3_fillWithout_2 n  m ((am_u I 16 x2.toNatClampNeg (am_WITHOUT ((x1 * 3) + x2)))) J T x1 (x2 + 1)
      else none
     else none
def f_X3_fillWithout (n : Nat) (I : Nat → Nat → Int32) (J : Nat → Nat → Int64) (T : Nat) (x1 : Int32) : Option ((Nat → Nat → Int32)) :=
  f_X3_fillWithout_2 n  n I J T x1 0
set_option maxRecDepth 100000 in
set_option maxHeartbeats 4000000 in
theorem t_X3_fillWithout_2 {l : Launch} {ρ : am_R} {n d gc gs : Nat} {q : (Nat → Nat → Int32)} (hd : 0 * n + 0 ≤ d)
    : ∀ (m : Nat) (I : Nat → Nat → Int32) (J : Nat → Nat → Int64) (T : Nat) (x1 : Int32) (x2 : Int32), f_X3_fillWithout_2 n  m I J T x1 x2 = some q → AW l ρ d M_X3_fillWithout 2 [(0, .ref 15), (1, .int x1), (2, .int x2)] [] (am_KD, gc, gs) (I, J, am_RT T) (am_KD, gc, gs) (fun v H' => v = [] ∧ H' = (q, J, am_RT T)) := by
  intro m
  induction m with
  | zero =>
    intro I J T x1 x2 h
    rw [f_X3_fillWithout_2] at h
    cases h
  | succ m ih =>
    intro I J T x1 x2 h
    rw [f_X3_fillWithout_2] at h
    refine op_iload_n (k := 2) dX3_fillWithout_2 rfl rfl ?_
    refine op_iconst (v := 3) dX3_fillWithout_3 (by decide) ?_
    refine op_icmp_ge (tgt := 28) dX3_fillWithout_4 (by decide) (fun c1 => ?_) (fun c1 => ?_)
    · replace h := am_ip c1 h
      cases h
      exact (op_vret dX3_fillWithout_28 rfl ⟨rfl, rfl⟩)
    · replace h := am_ie c1 h
      refine op_aload_n (k := 0) dX3_fillWithout_7 rfl rfl ?_
      refine st_getR (z := 16) dX3_fillWithout_8 fl_X3_11 kd_15 (by decide) rfl rr_15_2 ?_
      refine op_iload_n (k := 2) dX3_fillWithout_11 rfl rfl ?_
      refine op_gets (j := 3) dX3_fillWithout_12 rfl tw_550 ?_
      refine op_iload_n (k := 1) dX3_fillWithout_15 rfl rfl ?_
      refine op_iconst (v := 3) dX3_fillWithout_16 (by decide) ?_
      refine op_imul dX3_fillWithout_17 ?_
      refine op_iload_n (k := 2) dX3_fillWithout_18 rfl rfl ?_
      refine op_iadd dX3_fillWithout_19 ?_
      obtain ⟨g2, h⟩ := am_gd h
      refine op_tald (j := 3) (v := am_WITHOUT ((x1 * 3) + x2)) dX3_fillWithout_20 rfl g2 rfl ?_
      obtain ⟨g3, h⟩ := am_gd h
      refine st_iast (k := x2.toNatClampNeg) dX3_fillWithout_21 kd_16 g3 rfl ?_
      refine op_iinc (k := 2) (v := x2 + 1) (L' := [(2, .int (x2 + 1)), (0, .ref 15), (1, .int x1)]) dX3_fillWithout_22 rfl rfl (by decide) rfl ?_
      refine op_goto (tgt := 2) dX3_fillWithout_25 (by decide) ?_
      refine AW.perm [1, 2, 0] rfl ?_
      exact ih _ _ _ _ _ h
set_option maxRecDepth 100000 in
set_option maxHeartbeats 4000000 in
theorem t_X3_fillWithout_0 {l : Launch} {ρ : am_R} {n d gc gs : Nat} {I : Nat → Nat → Int32} {J : Nat → Nat → Int64} {T : Nat} {x1 : Int32} {q : (Nat → Nat → Int32)} (hd : 0 * n + 0 ≤ d)
    (h : f_X3_fillWithout n  I J T x1 = some q) : AW l ρ d M_X3_fillWithout 0 [(0, .ref 15), (1, .int x1)] [] (am_KD, gc, gs) (I, J, am_RT T) (am_KD, gc, gs) (fun v H' => v = [] ∧ H' = (q, J, am_RT T)) := by
  unfold f_X3_fillWithout at h
  refine op_iconst (v := 0) dX3_fillWithout_0 (by decide) ?_
  refine op_istore_n (L' := [(2, .int 0), (0, .ref 15), (1, .int x1)]) dX3_fillWithout_1 rfl (by decide) rfl ?_
  refine AW.perm [1, 2, 0] rfl ?_
  exact t_X3_fillWithout_2 hd  n _ _ _ _ _ h
theorem t_X3_fillWithout {l : Launch} {ρ : am_R} {n d gc gs : Nat} {I : Nat → Nat → Int32} {J : Nat → Nat → Int64} {T : Nat} {x1 : Int32} {q : (Nat → Nat → Int32)} (hd : 0 * n + 0 ≤ d) (h : f_X3_fillWithout n I J T x1 = some q) : AW l ρ d M_X3_fillWithout 0 [(0, .ref 15), (1, .int x1)] [] (am_KD, gc, gs) (I, J, am_RT T) (am_KD, gc, gs) (fun v H' => v = [] ∧ H' = (q, J, am_RT T)) := t_X3_fillWithout_0 hd h
def f_X3_takeCoach (n : Nat) (I : Nat → Nat → Int32) (J : Nat → Nat → Int64) (T : Nat) : Option ((Nat → Nat → Int32)) :=
  some ((am_u (am_u (am_u I 9 2 (I 16 0)) 9 3 (I 16 1)) 9 4 (I 16 2)))
set_option maxRecDepth 100000 in
set_option maxHeartbeats 4000000 in
theorem t_X3_takeCoach_0 {l : Launch} {ρ : am_R} {n d gc gs : Nat} {I : Nat → Nat → Int32} {J : Nat → Nat → Int64} {T : Nat} {q : (Nat → Nat → Int32)} (hd : 0 * n + 0 ≤ d)
    (h : f_X3_takeCoach n  I J T  = some q) : AW l ρ d M_X3_takeCoach 0 [(0, .ref 15)] [] (am_KD, gc, gs) (I, J, am_RT T) (am_KD, gc, gs) (fun v H' => v = [] ∧ H' = (q, J, am_RT T)) := by
  unfold f_X3_takeCoach at h
  refine op_aload_n (k := 0) dX3_takeCoach_0 rfl rfl ?_
  refine st_getR (z := 9) dX3_takeCoach_1 fl_X3_19 kd_15 (by decide) rfl rr_15_1 ?_
  refine op_aload_n (k := 0) dX3_takeCoach_4 rfl rfl ?_
  refine st_getR (z := 16) dX3_takeCoach_5 fl_X3_11 kd_15 (by decide) rfl rr_15_2 ?_
  refine op_iconst (v := 0) dX3_takeCoach_8 (by decide) ?_
  refine st_iald (k := 0) (v := I 16 0) dX3_takeCoach_9 kd_16 (by decide) (by decide) rfl ?_
  refine st_putI dX3_takeCoach_10 fl_X3_127 kd_9 (by decide) rfl ?_
  refine op_aload_n (k := 0) dX3_takeCoach_13 rfl rfl ?_
  refine st_getR (z := 9) dX3_takeCoach_14 fl_X3_19 kd_15 (by decide) rfl rr_15_1 ?_
  refine op_aload_n (k := 0) dX3_takeCoach_17 rfl rfl ?_
  refine st_getR (z := 16) dX3_takeCoach_18 fl_X3_11 kd_15 (by decide) rfl rr_15_2 ?_
  refine op_iconst (v := 1) dX3_takeCoach_21 (by decide) ?_
  refine st_iald (k := 1) (v := I 16 1) dX3_takeCoach_22 kd_16 (by decide) (by decide) rfl ?_
  refine st_putI dX3_takeCoach_23 fl_X3_130 kd_9 (by decide) rfl ?_
  refine op_aload_n (k := 0) dX3_takeCoach_26 rfl rfl ?_
  refine st_getR (z := 9) dX3_takeCoach_27 fl_X3_19 kd_15 (by decide) rfl rr_15_1 ?_
  refine op_aload_n (k := 0) dX3_takeCoach_30 rfl rfl ?_
  refine st_getR (z := 16) dX3_takeCoach_31 fl_X3_11 kd_15 (by decide) rfl rr_15_2 ?_
  refine op_iconst (v := 2) dX3_takeCoach_34 (by decide) ?_
  refine st_iald (k := 2) (v := I 16 2) dX3_takeCoach_35 kd_16 (by decide) (by decide) rfl ?_
  refine st_putI dX3_takeCoach_36 fl_X3_133 kd_9 (by decide) rfl ?_
  cases h
  exact (op_vret dX3_takeCoach_39 rfl ⟨rfl, rfl⟩)
theorem t_X3_takeCoach {l : Launch} {ρ : am_R} {n d gc gs : Nat} {I : Nat → Nat → Int32} {J : Nat → Nat → Int64} {T : Nat} {q : (Nat → Nat → Int32)} (hd : 0 * n + 0 ≤ d) (h : f_X3_takeCoach n I J T  = some q) : AW l ρ d M_X3_takeCoach 0 [(0, .ref 15)] [] (am_KD, gc, gs) (I, J, am_RT T) (am_KD, gc, gs) (fun v H' => v = [] ∧ H' = (q, J, am_RT T)) := t_X3_takeCoach_0 hd h
def f_X3_begin (n : Nat) (I : Nat → Nat → Int32) (J : Nat → Nat → Int64) (T : Nat) : Option ((Nat → Nat → Int32)) :=
  (f_X10_begin n I J T).bind fun w1 =>
  (f_X3_fillWithout n ((am_u (am_u (am_u w1 9 0 0) 9 1 0) 15 3 0)) J T 2).bind fun w2 =>
  (f_X3_takeCoach n w2 J T).bind fun w3 =>
  some (w3)
set_option maxRecDepth 100000 in
set_option maxHeartbeats 4000000 in
theorem t_X3_begin_0 {l : Launch} {ρ : am_R} {n d gc gs : Nat} {I : Nat → Nat → Int32} {J : Nat → Nat → Int64} {T : Nat} {q : (Nat → Nat → Int32)} (hd : 0 * n + 1 ≤ (d + 1))
    (h : f_X3_begin n  I J T  = some q) : AW l ρ (d + 1) M_X3_begin 0 [(0, .ref 15)] [] (am_KD, gc, gs) (I, J, am_RT T) (am_KD, gc, gs) (fun v H' => v = [] ∧ H' = (q, J, am_RT T)) := by
  unfold f_X3_begin at h
  refine op_aload_n (k := 0) dX3_begin_0 rfl rfl ?_
  refine st_getR (z := 1) dX3_begin_1 fl_X3_15 kd_15 (by decide) rfl rr_15_0 ?_
  obtain ⟨w1, ew1, h⟩ := am_bd h
  refine op_callV (M' := M_X10_begin) [] (S0 := []) dX3_begin_4 tw_542 ok_X10_begin tw_543 tw_544 kd_1 cls_10 rfl rfl rfl (Nat.le_of_ble_eq_true rfl) (Nat.le_of_ble_eq_true rfl) (t_X10_begin (by omega) ew1) (am_le_rf _) ?_
  rintro _ _ ⟨rfl, rfl⟩
  refine op_aload_n (k := 0) dX3_begin_7 rfl rfl ?_
  refine st_getR (z := 9) dX3_begin_8 fl_X3_19 kd_15 (by decide) rfl rr_15_1 ?_
  refine op_iconst (v := 0) dX3_begin_11 (by decide) ?_
  refine st_putI dX3_begin_12 fl_X3_60 kd_9 (by decide) rfl ?_
  refine op_aload_n (k := 0) dX3_begin_15 rfl rfl ?_
  refine st_getR (z := 9) dX3_begin_16 fl_X3_19 kd_15 (by decide) rfl rr_15_1 ?_
  refine op_iconst (v := 0) dX3_begin_19 (by decide) ?_
  refine st_putI dX3_begin_20 fl_X3_63 kd_9 (by decide) rfl ?_
  refine op_aload_n (k := 0) dX3_begin_23 rfl rfl ?_
  refine op_iconst (v := 0) dX3_begin_24 (by decide) ?_
  refine st_putZ dX3_begin_25 fl_X3_66 kd_15 (by decide) rfl (by decide) ?_
  refine op_aload_n (k := 0) dX3_begin_28 rfl rfl ?_
  refine op_iconst (v := 2) dX3_begin_29 (by decide) ?_
  obtain ⟨w2, ew2, h⟩ := am_bd h
  refine op_callV (M' := M_X3_fillWithout) [.int 2] (S0 := []) dX3_begin_30 tw_546 ok_X3_fillWithout tw_548 tw_1 kd_15 cls_3 rfl rfl rfl (Nat.le_of_ble_eq_true rfl) (Nat.le_of_ble_eq_true rfl) (t_X3_fillWithout (by omega) ew2) (am_le_rf _) ?_
  rintro _ _ ⟨rfl, rfl⟩
  refine op_aload_n (k := 0) dX3_begin_33 rfl rfl ?_
  obtain ⟨w3, ew3, h⟩ := am_bd h
  refine op_callV (M' := M_X3_takeCoach) [] (S0 := []) dX3_begin_34 tw_552 ok_X3_takeCoach tw_554 tw_2 kd_15 cls_3 rfl rfl rfl (Nat.le_of_ble_eq_true rfl) (Nat.le_of_ble_eq_true rfl) (t_X3_takeCoach (by omega) ew3) (am_le_rf _) ?_
  rintro _ _ ⟨rfl, rfl⟩
  cases h
  exact (op_vret dX3_begin_37 rfl ⟨rfl, rfl⟩)
theorem t_X3_begin {l : Launch} {ρ : am_R} {n d gc gs : Nat} {I : Nat → Nat → Int32} {J : Nat → Nat → Int64} {T : Nat} {q : (Nat → Nat → Int32)} (hd : 0 * n + 1 ≤ d) (h : f_X3_begin n I J T  = some q) : AW l ρ d M_X3_begin 0 [(0, .ref 15)] [] (am_KD, gc, gs) (I, J, am_RT T) (am_KD, gc, gs) (fun v H' => v = [] ∧ H' = (q, J, am_RT T)) := by
  obtain ⟨d, rfl⟩ : ∃ e, d = e + 1 := ⟨d - 1, by omega⟩
  exact t_X3_begin_0 hd h
def f_X3_itemOf_2 (n : Nat) : Nat → (Nat → Nat → Int32) → (Nat → Nat → Int64) → Nat → Int32 → Int32 → Int32 → Option (Int32)
  | 0, _, _, _, _, _, _ => none
  | m + 1, I, J, T, x0, x1, x2 =>
    if 3 ≤ x2 then
     some ((-1))
    else
     if ok_ix ((x0 * 3) + x2) 9 then
      if (am_LETTERS ((x0 * 3) + x2)) = x1 then
       some (x2)
      else
       f_X3_itemOf_2 n  m I J T x0 x1 (x2 + 1)
     else none
def f_X3_itemOf (n : Nat) (I : Nat → Nat → Int32) (J : Nat → Nat → Int64) (T : Nat) (x0 : Int32) (x1 : Int32) : Option (Int32) :=
  f_X3_itemOf_2 n  n I J T x0 x1 0
set_option maxRecDepth 100000 in
set_option maxHeartbeats 4000000 in
theorem t_X3_itemOf_2 {l : Launch} {ρ : am_R} {n d gc gs : Nat} {q : Int32} (hd : 0 * n + 0 ≤ d)
    : ∀ (m : Nat) (I : Nat → Nat → Int32) (J : Nat → Nat → Int64) (T : Nat) (x0 : Int32) (x1 : Int32) (x2 : Int32), f_X3_itemOf_2 n  m I J T x0 x1 x2 = some q → AW l ρ d M_X3_itemOf 2 [(0, .int x0), (1, .int x1), (2, .int x2)] [] (am_KD, gc, gs) (I, J, am_RT T) (am_KD, gc, gs) (fun v H' => v = [.int q] ∧ H' = (I, J, am_RT T)) := by
  intro m
  induction m with
  | zero =>
    intro I J T x0 x1 x2 h
    rw [f_X3_itemOf_2] at h
    cases h
  | succ m ih =>
    intro I J T x0 x1 x2 h
    rw [f_X3_itemOf_2] at h
    refine op_iload_n (k := 2) dX3_itemOf_2 rfl rfl ?_
    refine op_iconst (v := 3) dX3_itemOf_3 (by decide) ?_
    refine op_icmp_ge (tgt := 28) dX3_itemOf_4 (by decide) (fun c1 => ?_) (fun c1 => ?_)
    · replace h := am_ip c1 h
      refine op_iconst (v := (-1)) dX3_itemOf_28 (by decide) ?_
      cases h
      exact (op_iret dX3_itemOf_29 rfl rfl ⟨rfl, rfl⟩)
    · replace h := am_ie c1 h
      refine op_gets (j := 0) dX3_itemOf_7 rfl tw_571 ?_
      refine op_iload_n (k := 0) dX3_itemOf_10 rfl rfl ?_
      refine op_iconst (v := 3) dX3_itemOf_11 (by decide) ?_
      refine op_imul dX3_itemOf_12 ?_
      refine op_iload_n (k := 2) dX3_itemOf_13 rfl rfl ?_
      refine op_iadd dX3_itemOf_14 ?_
      obtain ⟨g2, h⟩ := am_gd h
      refine op_tald (j := 0) (v := am_LETTERS ((x0 * 3) + x2)) dX3_itemOf_15 rfl g2 rfl ?_
      refine op_iload_n (k := 1) dX3_itemOf_16 rfl rfl ?_
      refine op_icmp_ne (tgt := 22) dX3_itemOf_17 (by decide) (fun c3 => ?_) (fun c3 => ?_)
      · replace h := am_ie c3 h
        refine op_iinc (k := 2) (v := x2 + 1) (L' := [(2, .int (x2 + 1)), (0, .int x0), (1, .int x1)]) dX3_itemOf_22 rfl rfl (by decide) rfl ?_
        refine op_goto (tgt := 2) dX3_itemOf_25 (by decide) ?_
        refine AW.perm [1, 2, 0] rfl ?_
        exact ih _ _ _ _ _ _ h
      · replace h := am_ip c3 h
        refine op_iload_n (k := 2) dX3_itemOf_20 rfl rfl ?_
        cases h
        exact (op_iret dX3_itemOf_21 rfl rfl ⟨rfl, rfl⟩)
set_option maxRecDepth 100000 in
set_option maxHeartbeats 4000000 in
theorem t_X3_itemOf_0 {l : Launch} {ρ : am_R} {n d gc gs : Nat} {I : Nat → Nat → Int32} {J : Nat → Nat → Int64} {T : Nat} {x0 : Int32} {x1 : Int32} {q : Int32} (hd : 0 * n + 0 ≤ d)
    (h : f_X3_itemOf n  I J T x0 x1 = some q) : AW l ρ d M_X3_itemOf 0 [(0, .int x0), (1, .int x1)] [] (am_KD, gc, gs) (I, J, am_RT T) (am_KD, gc, gs) (fun v H' => v = [.int q] ∧ H' = (I, J, am_RT T)) := by
  unfold f_X3_itemOf at h
  refine op_iconst (v := 0) dX3_itemOf_0 (by decide) ?_
  refine op_istore_n (L' := [(2, .int 0), (0, .int x0), (1, .int x1)]) dX3_itemOf_1 rfl (by decide) rfl ?_
  refine AW.perm [1, 2, 0] rfl ?_
  exact t_X3_itemOf_2 hd  n _ _ _ _ _ _ h
theorem t_X3_itemOf {l : Launch} {ρ : am_R} {n d gc gs : Nat} {I : Nat → Nat → Int32} {J : Nat → Nat → Int64} {T : Nat} {x0 : Int32} {x1 : Int32} {q : Int32} (hd : 0 * n + 0 ≤ d) (h : f_X3_itemOf n I J T x0 x1 = some q) : AW l ρ d M_X3_itemOf 0 [(0, .int x0), (1, .int x1)] [] (am_KD, gc, gs) (I, J, am_RT T) (am_KD, gc, gs) (fun v H' => v = [.int q] ∧ H' = (I, J, am_RT T)) := t_X3_itemOf_0 hd h
def f_X3_boundNumber_36 (n : Nat) (I : Nat → Nat → Int32) (J : Nat → Nat → Int64) (T : Nat) (x1 : Int32) (x2 : Int32) (x3 : Int32) (s0 : Int32) : Option (Int32 × (Nat → Nat → Int32)) :=
  if ok_ix ((x1 * 3) + x2) 9 then
   (f_X11_isWithin n I J T x3 (am_LEAST ((x1 * 3) + x2)) s0).bind fun w2 =>
   if w2 = 0 then
    (f_X10_fail n I J T ((I 1 2) - 1)).bind fun w4 =>
    some (x3, w4)
   else
    some (x3, I)
  else none
def f_X3_boundNumber_27 (n : Nat) (I : Nat → Nat → Int32) (J : Nat → Nat → Int64) (T : Nat) (x1 : Int32) (x2 : Int32) (x3 : Int32) : Option (Int32 × (Nat → Nat → Int32)) :=
  if ok_ix ((x1 * 3) + x2) 9 then
   f_X3_boundNumber_36 n  I J T x1 x2 x3 (am_MOST ((x1 * 3) + x2))
  else none
def f_X3_boundNumber (n : Nat) (I : Nat → Nat → Int32) (J : Nat → Nat → Int64) (T : Nat) (x1 : Int32) (x2 : Int32) : Option (Int32 × (Nat → Nat → Int32)) :=
  (f_X10_number n I J T 2).bind fun w1 =>
  if x1 = 0 then
   if x2 = 0 then
    f_X3_boundNumber_36 n  w1.2 J T x1 x2 w1.1 (w1.2 9 0)
   else
    f_X3_boundNumber_27 n  w1.2 J T x1 x2 w1.1
  else
   f_X3_boundNumber_27 n  w1.2 J T x1 x2 w1.1
set_option maxRecDepth 100000 in
set_option maxHeartbeats 4000000 in
theorem t_X3_boundNumber_36 {l : Launch} {ρ : am_R} {n d gc gs : Nat} {I : Nat → Nat → Int32} {J : Nat → Nat → Int64} {T : Nat} {x1 : Int32} {x2 : Int32} {x3 : Int32} {s0 : Int32} {q : Int32 × (Nat → Nat → Int32)} (hd : 0 * n + 2 ≤ (d + 1))
    (h : f_X3_boundNumber_36 n  I J T x1 x2 x3 s0 = some q) : AW l ρ (d + 1) M_X3_boundNumber 36 [(0, .ref 15), (1, .int x1), (2, .int x2), (3, .int x3)] [.int s0] (am_KD, gc, gs) (I, J, am_RT T) (am_KD, gc, gs) (fun v H' => v = [.int q.1] ∧ H' = (q.2, J, am_RT T)) := by
  unfold f_X3_boundNumber_36 at h
  refine op_istore (L' := [(4, .int s0), (0, .ref 15), (1, .int x1), (2, .int x2), (3, .int x3)]) dX3_boundNumber_36 (by decide) rfl ?_
  refine op_iload_n (k := 4) dX3_boundNumber_38 rfl rfl ?_
  refine op_gets (j := 1) dX3_boundNumber_39 rfl tw_592 ?_
  refine op_iload_n (k := 2) dX3_boundNumber_42 rfl rfl ?_
  refine op_iconst (v := 3) dX3_boundNumber_43 (by decide) ?_
  refine op_imul dX3_boundNumber_44 ?_
  refine op_iload_n (k := 3) dX3_boundNumber_45 rfl rfl ?_
  refine op_iadd dX3_boundNumber_46 ?_
  obtain ⟨g1, h⟩ := am_gd h
  refine op_tald (j := 1) (v := am_LEAST ((x1 * 3) + x2)) dX3_boundNumber_47 rfl g1 rfl ?_
  refine op_iload (k := 0) dX3_boundNumber_48 rfl ?_
  obtain ⟨w2, ew2, h⟩ := am_bd h
  refine op_callSN (M' := M_X11_isWithin) [.int x3, .int (am_LEAST ((x1 * 3) + x2)), .int s0] (S0 := []) dX3_boundNumber_50 tn_594 ok_X11_isWithin tw_595 rfl rfl (Nat.le_of_ble_eq_true rfl) (Nat.le_of_ble_eq_true rfl) (t_X11_isWithin (by omega) ew2) (am_le_rf _) ?_
  rintro _ _ ⟨rfl, rfl⟩
  refine op_if_ne (tgt := 72) dX3_boundNumber_53 (by decide) (fun c3 => ?_) (fun c3 => ?_)
  · replace h := am_ie c3 h
    refine op_iload_n (k := 4) dX3_boundNumber_72 rfl rfl ?_
    cases h
    exact (op_iret dX3_boundNumber_73 rfl rfl ⟨rfl, rfl⟩)
  · replace h := am_ip c3 h
    refine op_aload_n (k := 1) dX3_boundNumber_56 rfl rfl ?_
    refine st_getR (z := 1) dX3_boundNumber_57 fl_X3_15 kd_15 (by decide) rfl rr_15_0 ?_
    refine op_aload_n (k := 1) dX3_boundNumber_60 rfl rfl ?_
    refine st_getR (z := 1) dX3_boundNumber_61 fl_X3_15 kd_15 (by decide) rfl rr_15_0 ?_
    refine st_getI (v := I 1 2) dX3_boundNumber_64 fl_X3_39 kd_1 (by decide) rfl rfl ?_
    refine op_iconst (v := 1) dX3_boundNumber_67 (by decide) ?_
    refine op_isub dX3_boundNumber_68 ?_
    obtain ⟨w4, ew4, h⟩ := am_bd h
    refine op_callV (M' := M_X10_fail) [.int ((I 1 2) - 1)] (S0 := []) dX3_boundNumber_69 tw_597 ok_X10_fail tw_587 tw_588 kd_1 cls_10 rfl rfl rfl (Nat.le_of_ble_eq_true rfl) (Nat.le_of_ble_eq_true rfl) (t_X10_fail (by omega) ew4) (am_le_rf _) ?_
    rintro _ _ ⟨rfl, rfl⟩
    refine op_iload_n (k := 4) dX3_boundNumber_72 rfl rfl ?_
    cases h
    exact (op_iret dX3_boundNumber_73 rfl rfl ⟨rfl, rfl⟩)
set_option maxRecDepth 100000 in
set_option maxHeartbeats 4000000 in
theorem t_X3_boundNumber_27 {l : Launch} {ρ : am_R} {n d gc gs : Nat} {I : Nat → Nat → Int32} {J : Nat → Nat → Int64} {T : Nat} {x1 : Int32} {x2 : Int32} {x3 : Int32} {q : Int32 × (Nat → Nat → Int32)} (hd : 0 * n + 2 ≤ (d + 1))
    (h : f_X3_boundNumber_27 n  I J T x1 x2 x3 = some q) : AW l ρ (d + 1) M_X3_boundNumber 27 [(0, .ref 15), (1, .int x1), (2, .int x2), (3, .int x3)] [] (am_KD, gc, gs) (I, J, am_RT T) (am_KD, gc, gs) (fun v H' => v = [.int q.1] ∧ H' = (q.2, J, am_RT T)) := by
  unfold f_X3_boundNumber_27 at h
  refine op_gets (j := 2) dX3_boundNumber_27 rfl tw_590 ?_
  refine op_iload_n (k := 1) dX3_boundNumber_30 rfl rfl ?_
  refine op_iconst (v := 3) dX3_boundNumber_31 (by decide) ?_
  refine op_imul dX3_boundNumber_32 ?_
  refine op_iload_n (k := 2) dX3_boundNumber_33 rfl rfl ?_
  refine op_iadd dX3_boundNumber_34 ?_
  obtain ⟨g1, h⟩ := am_gd h
  refine op_tald (j := 2) (v := am_MOST ((x1 * 3) + x2)) dX3_boundNumber_35 rfl g1 rfl ?_
  exact t_X3_boundNumber_36 hd  h
set_option maxRecDepth 100000 in
set_option maxHeartbeats 4000000 in
theorem t_X3_boundNumber_0 {l : Launch} {ρ : am_R} {n d gc gs : Nat} {I : Nat → Nat → Int32} {J : Nat → Nat → Int64} {T : Nat} {x1 : Int32} {x2 : Int32} {q : Int32 × (Nat → Nat → Int32)} (hd : 0 * n + 2 ≤ (d + 1))
    (h : f_X3_boundNumber n  I J T x1 x2 = some q) : AW l ρ (d + 1) M_X3_boundNumber 0 [(0, .ref 15), (1, .int x1), (2, .int x2)] [] (am_KD, gc, gs) (I, J, am_RT T) (am_KD, gc, gs) (fun v H' => v = [.int q.1] ∧ H' = (q.2, J, am_RT T)) := by
  unfold f_X3_boundNumber at h
  refine op_aload_n (k := 0) dX3_boundNumber_0 rfl rfl ?_
  refine st_getR (z := 1) dX3_boundNumber_1 fl_X3_15 kd_15 (by decide) rfl rr_15_0 ?_
  refine op_iconst (v := 2) dX3_boundNumber_4 (by decide) ?_
  obtain ⟨w1, ew1, h⟩ := am_bd h
  refine op_callV (M' := M_X10_number) [.int 2] (S0 := []) dX3_boundNumber_5 tw_577 ok_X10_number tw_578 tw_579 kd_1 cls_10 rfl rfl rfl (Nat.le_of_ble_eq_true rfl) (Nat.le_of_ble_eq_true rfl) (t_X10_number (by omega) ew1) (am_le_rf _) ?_
  rintro _ _ ⟨rfl, rfl⟩
  refine op_istore_n (L' := [(3, .int w1.1), (0, .ref 15), (1, .int x1), (2, .int x2)]) dX3_boundNumber_8 rfl (by decide) rfl ?_
  refine op_iload_n (k := 2) dX3_boundNumber_9 rfl rfl ?_
  refine op_if_ne (tgt := 27) dX3_boundNumber_10 (by decide) (fun c2 => ?_) (fun c2 => ?_)
  · replace h := am_ie c2 h
    refine AW.perm [1, 2, 3, 0] rfl ?_
    exact t_X3_boundNumber_27 hd  h
  · replace h := am_ip c2 h
    refine op_iload_n (k := 3) dX3_boundNumber_13 rfl rfl ?_
    refine op_if_ne (tgt := 27) dX3_boundNumber_14 (by decide) (fun c3 => ?_) (fun c3 => ?_)
    · replace h := am_ie c3 h
      refine AW.perm [1, 2, 3, 0] rfl ?_
      exact t_X3_boundNumber_27 hd  h
    · replace h := am_ip c3 h
      refine op_aload_n (k := 1) dX3_boundNumber_17 rfl rfl ?_
      refine st_getR (z := 9) dX3_boundNumber_18 fl_X3_19 kd_15 (by decide) rfl rr_15_1 ?_
      refine st_getI (v := w1.2 9 0) dX3_boundNumber_21 fl_X3_60 kd_9 (by decide) rfl rfl ?_
      refine op_goto (tgt := 36) dX3_boundNumber_24 (by decide) ?_
      refine AW.perm [1, 2, 3, 0] rfl ?_
      exact t_X3_boundNumber_36 hd  h
theorem t_X3_boundNumber {l : Launch} {ρ : am_R} {n d gc gs : Nat} {I : Nat → Nat → Int32} {J : Nat → Nat → Int64} {T : Nat} {x1 : Int32} {x2 : Int32} {q : Int32 × (Nat → Nat → Int32)} (hd : 0 * n + 2 ≤ d) (h : f_X3_boundNumber n I J T x1 x2 = some q) : AW l ρ d M_X3_boundNumber 0 [(0, .ref 15), (1, .int x1), (2, .int x2)] [] (am_KD, gc, gs) (I, J, am_RT T) (am_KD, gc, gs) (fun v H' => v = [.int q.1] ∧ H' = (q.2, J, am_RT T)) := by
  obtain ⟨d, rfl⟩ : ∃ e, d = e + 1 := ⟨d - 1, by omega⟩
  exact t_X3_boundNumber_0 hd h
def f_X3_readItems_9 (n : Nat) : Nat → (Nat → Nat → Int32) → (Nat → Nat → Int64) → Nat → Int32 → Int32 → Int32 → Option ((Nat → Nat → Int32))
  | 0, _, _, _, _, _, _ => none
  | m + 1, I, J, T, x1, x2, x3 =>
    if 3 ≤ x3 then
     some (I)
    else
     (f_X10_sign n I J T).bind fun w2 =>
     (f_X3_itemOf n w2.2 J T x1 w2.1).bind fun w3 =>
     if w3 = ((-1)) then
      some (w2.2)
     else
      if ((x2 >>> (w3 &&& 31)) &&& 1) = 1 then
       some (w2.2)
      else
       (f_X3_boundNumber n ((am_u w2.2 1 2 ((w2.2 1 2) + 1))) J T x1 w3).bind fun w6 =>
       if ok_ix w3 3 then
        f_X3_readItems_9 n  m ((am_u w6.2 16 w3.toNatClampNeg w6.1)) J T x1 (x2 ||| (1 <<< (w3 &&& 31))) (x3 + 1)
       else none
def f_X3_readItems (n : Nat) (I : Nat → Nat → Int32) (J : Nat → Nat → Int64) (T : Nat) (x1 : Int32) : Option ((Nat → Nat → Int32)) :=
  (f_X3_fillWithout n I J T x1).bind fun w1 =>
  f_X3_readItems_9 n  n w1 J T x1 0 0
set_option maxRecDepth 100000 in
set_option maxHeartbeats 4000000 in
theorem t_X3_readItems_9 {l : Launch} {ρ : am_R} {n d gc gs : Nat} {q : (Nat → Nat → Int32)} (hd : 0 * n + 3 ≤ (d + 1))
    : ∀ (m : Nat) (I : Nat → Nat → Int32) (J : Nat → Nat → Int64) (T : Nat) (x1 : Int32) (x2 : Int32) (x3 : Int32), f_X3_readItems_9 n  m I J T x1 x2 x3 = some q → AW l ρ (d + 1) M_X3_readItems 9 [(0, .ref 15), (1, .int x1), (2, .int x2), (3, .int x3)] [] (am_KD, gc, gs) (I, J, am_RT T) (am_KD, gc, gs) (fun v H' => v = [] ∧ H' = (q, J, am_RT T)) := by
  intro m
  induction m with
  | zero =>
    intro I J T x1 x2 x3 h
    rw [f_X3_readItems_9] at h
    cases h
  | succ m ih =>
    intro I J T x1 x2 x3 h
    rw [f_X3_readItems_9] at h
    refine op_iload_n (k := 3) dX3_readItems_9 rfl rfl ?_
    refine op_iconst (v := 3) dX3_readItems_10 (by decide) ?_
    refine op_icmp_ge (tgt := 84) dX3_readItems_11 (by decide) (fun c1 => ?_) (fun c1 => ?_)
    · replace h := am_ip c1 h
      cases h
      exact (op_vret dX3_readItems_84 rfl ⟨rfl, rfl⟩)
    · replace h := am_ie c1 h
      refine op_iload_n (k := 1) dX3_readItems_14 rfl rfl ?_
      refine op_aload_n (k := 0) dX3_readItems_15 rfl rfl ?_
      refine st_getR (z := 1) dX3_readItems_16 fl_X3_15 kd_15 (by decide) rfl rr_15_0 ?_
      obtain ⟨w2, ew2, h⟩ := am_bd h
      refine op_callV (M' := M_X10_sign) [] (S0 := [.int x1]) dX3_readItems_19 tw_560 ok_X10_sign tw_561 tw_562 kd_1 cls_10 rfl rfl rfl (Nat.le_of_ble_eq_true rfl) (Nat.le_of_ble_eq_true rfl) (t_X10_sign (by omega) ew2) (am_le_rf _) ?_
      rintro _ _ ⟨rfl, rfl⟩
      obtain ⟨w3, ew3, h⟩ := am_bd h
      refine op_callS (M' := M_X3_itemOf) [.int x1, .int w2.1] (S0 := []) dX3_readItems_22 tw_568 ok_X3_itemOf tw_569 rfl rfl (Nat.le_of_ble_eq_true rfl) (Nat.le_of_ble_eq_true rfl) (t_X3_itemOf (by omega) ew3) (am_le_rf _) ?_
      rintro _ _ ⟨rfl, rfl⟩
      refine op_istore (L' := [(4, .int w3), (0, .ref 15), (1, .int x1), (2, .int x2), (3, .int x3)]) dX3_readItems_25 (by decide) rfl ?_
      refine op_iload (k := 0) dX3_readItems_27 rfl ?_
      refine op_iconst (v := (-1)) dX3_readItems_29 (by decide) ?_
      refine op_icmp_eq (tgt := 43) dX3_readItems_30 (by decide) (fun c4 => ?_) (fun c4 => ?_)
      · replace h := am_ip c4 h
        cases h
        exact (op_vret dX3_readItems_43 rfl ⟨rfl, rfl⟩)
      · replace h := am_ie c4 h
        refine op_iload_n (k := 3) dX3_readItems_33 rfl rfl ?_
        refine op_iload (k := 0) dX3_readItems_34 rfl ?_
        refine op_ishr dX3_readItems_36 ?_
        refine op_iconst (v := 1) dX3_readItems_37 (by decide) ?_
        refine op_iand dX3_readItems_38 ?_
        refine op_iconst (v := 1) dX3_readItems_39 (by decide) ?_
        refine op_icmp_ne (tgt := 44) dX3_readItems_40 (by decide) (fun c5 => ?_) (fun c5 => ?_)
        · replace h := am_ie c5 h
          refine op_aload_n (k := 1) dX3_readItems_44 rfl rfl ?_
          refine st_getR (z := 1) dX3_readItems_45 fl_X3_15 kd_15 (by decide) rfl rr_15_0 ?_
          refine op_dup dX3_readItems_48 rfl ?_
          refine st_getI (v := w2.2 1 2) dX3_readItems_49 fl_X3_39 kd_1 (by decide) rfl rfl ?_
          refine op_iconst (v := 1) dX3_readItems_52 (by decide) ?_
          refine op_iadd dX3_readItems_53 ?_
          refine st_putI dX3_readItems_54 fl_X3_39 kd_1 (by decide) rfl ?_
          refine op_iload_n (k := 3) dX3_readItems_57 rfl rfl ?_
          refine op_iconst (v := 1) dX3_readItems_58 (by decide) ?_
          refine op_iload (k := 0) dX3_readItems_59 rfl ?_
          refine op_ishl dX3_readItems_61 ?_
          refine op_ior dX3_readItems_62 ?_
          refine op_istore_n (L' := [(2, .int (x2 ||| (1 <<< (w3 &&& 31)))), (4, .int w3), (0, .ref 15), (1, .int x1), (3, .int x3)]) dX3_readItems_63 rfl (by decide) rfl ?_
          refine op_aload_n (k := 2) dX3_readItems_64 rfl rfl ?_
          refine st_getR (z := 16) dX3_readItems_65 fl_X3_11 kd_15 (by decide) rfl rr_15_2 ?_
          refine op_iload (k := 1) dX3_readItems_68 rfl ?_
          refine op_aload_n (k := 2) dX3_readItems_70 rfl rfl ?_
          refine op_iload_n (k := 3) dX3_readItems_71 rfl rfl ?_
          refine op_iload (k := 1) dX3_readItems_72 rfl ?_
          obtain ⟨w6, ew6, h⟩ := am_bd h
          refine op_callV (M' := M_X3_boundNumber) [.int x1, .int w3] (S0 := [.int w3, .ref 16]) dX3_readItems_74 tw_573 ok_X3_boundNumber tw_575 tw_5 kd_15 cls_3 rfl rfl rfl (Nat.le_of_ble_eq_true rfl) (Nat.le_of_ble_eq_true rfl) (t_X3_boundNumber (by omega) ew6) (am_le_rf _) ?_
          rintro _ _ ⟨rfl, rfl⟩
          obtain ⟨g7, h⟩ := am_gd h
          refine st_iast (k := w3.toNatClampNeg) dX3_readItems_77 kd_16 g7 rfl ?_
          refine op_iinc (k := 4) (v := x3 + 1) (L' := [(3, .int (x3 + 1)), (2, .int (x2 ||| (1 <<< (w3 &&& 31)))), (4, .int w3), (0, .ref 15), (1, .int x1)]) dX3_readItems_78 rfl rfl (by decide) rfl ?_
          refine op_goto (tgt := 9) dX3_readItems_81 (by decide) ?_
          refine AW.perm [3, 4, 1, 0] rfl ?_
          exact ih _ _ _ _ _ _ h
        · replace h := am_ip c5 h
          cases h
          exact (op_vret dX3_readItems_43 rfl ⟨rfl, rfl⟩)
set_option maxRecDepth 100000 in
set_option maxHeartbeats 4000000 in
theorem t_X3_readItems_0 {l : Launch} {ρ : am_R} {n d gc gs : Nat} {I : Nat → Nat → Int32} {J : Nat → Nat → Int64} {T : Nat} {x1 : Int32} {q : (Nat → Nat → Int32)} (hd : 0 * n + 3 ≤ (d + 1))
    (h : f_X3_readItems n  I J T x1 = some q) : AW l ρ (d + 1) M_X3_readItems 0 [(0, .ref 15), (1, .int x1)] [] (am_KD, gc, gs) (I, J, am_RT T) (am_KD, gc, gs) (fun v H' => v = [] ∧ H' = (q, J, am_RT T)) := by
  unfold f_X3_readItems at h
  refine op_aload_n (k := 0) dX3_readItems_0 rfl rfl ?_
  refine op_iload_n (k := 1) dX3_readItems_1 rfl rfl ?_
  obtain ⟨w1, ew1, h⟩ := am_bd h
  refine op_callV (M' := M_X3_fillWithout) [.int x1] (S0 := []) dX3_readItems_2 tw_546 ok_X3_fillWithout tw_548 tw_1 kd_15 cls_3 rfl rfl rfl (Nat.le_of_ble_eq_true rfl) (Nat.le_of_ble_eq_true rfl) (t_X3_fillWithout (by omega) ew1) (am_le_rf _) ?_
  rintro _ _ ⟨rfl, rfl⟩
  refine op_iconst (v := 0) dX3_readItems_5 (by decide) ?_
  refine op_istore_n (L' := [(2, .int 0), (0, .ref 15), (1, .int x1)]) dX3_readItems_6 rfl (by decide) rfl ?_
  refine op_iconst (v := 0) dX3_readItems_7 (by decide) ?_
  refine op_istore_n (L' := [(3, .int 0), (2, .int 0), (0, .ref 15), (1, .int x1)]) dX3_readItems_8 rfl (by decide) rfl ?_
  refine AW.perm [2, 3, 1, 0] rfl ?_
  exact t_X3_readItems_9 hd  n _ _ _ _ _ _ h
theorem t_X3_readItems {l : Launch} {ρ : am_R} {n d gc gs : Nat} {I : Nat → Nat → Int32} {J : Nat → Nat → Int64} {T : Nat} {x1 : Int32} {q : (Nat → Nat → Int32)} (hd : 0 * n + 3 ≤ d) (h : f_X3_readItems n I J T x1 = some q) : AW l ρ d M_X3_readItems 0 [(0, .ref 15), (1, .int x1)] [] (am_KD, gc, gs) (I, J, am_RT T) (am_KD, gc, gs) (fun v H' => v = [] ∧ H' = (q, J, am_RT T)) := by
  obtain ⟨d, rfl⟩ : ∃ e, d = e + 1 := ⟨d - 1, by omega⟩
  exact t_X3_readItems_0 hd h
def f_X3_takeWay (n : Nat) (I : Nat → Nat → Int32) (J : Nat → Nat → Int64) (T : Nat) : Option ((Nat → Nat → Int32)) :=
  if ok_ix ((I 9 0) + 1) 10 then
   if ok_ix ((I 9 0) + 1) 10 then
    some ((am_u (am_u (am_u I 9 0 ((I 9 0) + 1)) 10 (((I 9 0) + 1).toNatClampNeg) (I 16 0)) 11 (((I 9 0) + 1).toNatClampNeg) (I 16 1)))
   else none
  else none
set_option maxRecDepth 100000 in
set_option maxHeartbeats 4000000 in
theorem t_X3_takeWay_0 {l : Launch} {ρ : am_R} {n d gc gs : Nat} {I : Nat → Nat → Int32} {J : Nat → Nat → Int64} {T : Nat} {q : (Nat → Nat → Int32)} (hd : 0 * n + 0 ≤ d)
    (h : f_X3_takeWay n  I J T  = some q) : AW l ρ d M_X3_takeWay 0 [(0, .ref 15)] [] (am_KD, gc, gs) (I, J, am_RT T) (am_KD, gc, gs) (fun v H' => v = [] ∧ H' = (q, J, am_RT T)) := by
  unfold f_X3_takeWay at h
  refine op_aload_n (k := 0) dX3_takeWay_0 rfl rfl ?_
  refine st_getR (z := 9) dX3_takeWay_1 fl_X3_19 kd_15 (by decide) rfl rr_15_1 ?_
  refine op_dup dX3_takeWay_4 rfl ?_
  refine st_getI (v := I 9 0) dX3_takeWay_5 fl_X3_60 kd_9 (by decide) rfl rfl ?_
  refine op_iconst (v := 1) dX3_takeWay_8 (by decide) ?_
  refine op_iadd dX3_takeWay_9 ?_
  refine st_putI dX3_takeWay_10 fl_X3_60 kd_9 (by decide) rfl ?_
  refine op_aload_n (k := 0) dX3_takeWay_13 rfl rfl ?_
  refine st_getR (z := 9) dX3_takeWay_14 fl_X3_19 kd_15 (by decide) rfl rr_15_1 ?_
  refine st_getR (z := 10) dX3_takeWay_17 fl_X3_112 kd_9 (by decide) rfl rr_9_5 ?_
  refine op_aload_n (k := 0) dX3_takeWay_20 rfl rfl ?_
  refine st_getR (z := 9) dX3_takeWay_21 fl_X3_19 kd_15 (by decide) rfl rr_15_1 ?_
  refine st_getI (v := (I 9 0) + 1) dX3_takeWay_24 fl_X3_60 kd_9 (by decide) rfl rfl ?_
  refine op_aload_n (k := 0) dX3_takeWay_27 rfl rfl ?_
  refine st_getR (z := 16) dX3_takeWay_28 fl_X3_11 kd_15 (by decide) rfl rr_15_2 ?_
  refine op_iconst (v := 0) dX3_takeWay_31 (by decide) ?_
  refine st_iald (k := 0) (v := I 16 0) dX3_takeWay_32 kd_16 (by decide) (by decide) rfl ?_
  obtain ⟨g1, h⟩ := am_gd h
  refine st_iast (k := ((I 9 0) + 1).toNatClampNeg) dX3_takeWay_33 kd_10 g1 rfl ?_
  refine op_aload_n (k := 0) dX3_takeWay_34 rfl rfl ?_
  refine st_getR (z := 9) dX3_takeWay_35 fl_X3_19 kd_15 (by decide) rfl rr_15_1 ?_
  refine st_getR (z := 11) dX3_takeWay_38 fl_X3_115 kd_9 (by decide) rfl rr_9_6 ?_
  refine op_aload_n (k := 0) dX3_takeWay_41 rfl rfl ?_
  refine st_getR (z := 9) dX3_takeWay_42 fl_X3_19 kd_15 (by decide) rfl rr_15_1 ?_
  refine st_getI (v := (I 9 0) + 1) dX3_takeWay_45 fl_X3_60 kd_9 (by decide) rfl rfl ?_
  refine op_aload_n (k := 0) dX3_takeWay_48 rfl rfl ?_
  refine st_getR (z := 16) dX3_takeWay_49 fl_X3_11 kd_15 (by decide) rfl rr_15_2 ?_
  refine op_iconst (v := 1) dX3_takeWay_52 (by decide) ?_
  refine st_iald (k := 1) (v := I 16 1) dX3_takeWay_53 kd_16 (by decide) (by decide) rfl ?_
  obtain ⟨g2, h⟩ := am_gd h
  refine st_iast (k := ((I 9 0) + 1).toNatClampNeg) dX3_takeWay_54 kd_11 g2 rfl ?_
  cases h
  exact (op_vret dX3_takeWay_55 rfl ⟨rfl, rfl⟩)
theorem t_X3_takeWay {l : Launch} {ρ : am_R} {n d gc gs : Nat} {I : Nat → Nat → Int32} {J : Nat → Nat → Int64} {T : Nat} {q : (Nat → Nat → Int32)} (hd : 0 * n + 0 ≤ d) (h : f_X3_takeWay n I J T  = some q) : AW l ρ d M_X3_takeWay 0 [(0, .ref 15)] [] (am_KD, gc, gs) (I, J, am_RT T) (am_KD, gc, gs) (fun v H' => v = [] ∧ H' = (q, J, am_RT T)) := t_X3_takeWay_0 hd h
