def f_X3_takeRider (n : Nat) (I : Nat → Nat → Int32) (J : Nat → Nat → Int64) (T : Nat) : Option ((Nat → Nat → Int32)) :=
  if ok_ix (I 9 1) 6 then
   if ok_ix (I 9 1) 6 then
    if ok_ix (I 9 1) 6 then
     some ((am_u (am_u (am_u (am_u I 12 ((I 9 1).toNatClampNeg) (I 16 0)) 13 ((I 9 1).toNatClampNeg) (I 16 1)) 14 ((I 9 1).toNatClampNeg) (I 16 2)) 9 1 ((I 9 1) + 1)))
    else none
   else none
  else none
set_option maxRecDepth 100000 in
set_option maxHeartbeats 4000000 in
theorem t_X3_takeRider_0 {l : Launch} {ρ : am_R} {n d gc gs : Nat} {I : Nat → Nat → Int32} {J : Nat → Nat → Int64} {T : Nat} {q : (Nat → Nat → Int32)} (hd : 0 * n + 0 ≤ d)
    (h : f_X3_takeRider n  I J T  = some q) : AW l ρ d M_X3_takeRider 0 [(0, .ref 15)] [] (am_KD, gc, gs) (I, J, am_RT T) (am_KD, gc, gs) (fun v H' => v = [] ∧ H' = (q, J, am_RT T)) := by
  unfold f_X3_takeRider at h
  refine op_aload_n (k := 0) dX3_takeRider_0 rfl rfl ?_
  refine st_getR (z := 9) dX3_takeRider_1 fl_X3_19 kd_15 (by decide) rfl rr_15_1 ?_
  refine st_getR (z := 12) dX3_takeRider_4 fl_X3_118 kd_9 (by decide) rfl rr_9_7 ?_
  refine op_aload_n (k := 0) dX3_takeRider_7 rfl rfl ?_
  refine st_getR (z := 9) dX3_takeRider_8 fl_X3_19 kd_15 (by decide) rfl rr_15_1 ?_
  refine st_getI (v := I 9 1) dX3_takeRider_11 fl_X3_63 kd_9 (by decide) rfl rfl ?_
  refine op_aload_n (k := 0) dX3_takeRider_14 rfl rfl ?_
  refine st_getR (z := 16) dX3_takeRider_15 fl_X3_11 kd_15 (by decide) rfl rr_15_2 ?_
  refine op_iconst (v := 0) dX3_takeRider_18 (by decide) ?_
  refine st_iald (k := 0) (v := I 16 0) dX3_takeRider_19 kd_16 (by decide) (by decide) rfl ?_
  obtain ⟨g1, h⟩ := am_gd h
  refine st_iast (k := (I 9 1).toNatClampNeg) dX3_takeRider_20 kd_12 g1 rfl ?_
  refine op_aload_n (k := 0) dX3_takeRider_21 rfl rfl ?_
  refine st_getR (z := 9) dX3_takeRider_22 fl_X3_19 kd_15 (by decide) rfl rr_15_1 ?_
  refine st_getR (z := 13) dX3_takeRider_25 fl_X3_121 kd_9 (by decide) rfl rr_9_8 ?_
  refine op_aload_n (k := 0) dX3_takeRider_28 rfl rfl ?_
  refine st_getR (z := 9) dX3_takeRider_29 fl_X3_19 kd_15 (by decide) rfl rr_15_1 ?_
  refine st_getI (v := I 9 1) dX3_takeRider_32 fl_X3_63 kd_9 (by decide) rfl rfl ?_
  refine op_aload_n (k := 0) dX3_takeRider_35 rfl rfl ?_
  refine st_getR (z := 16) dX3_takeRider_36 fl_X3_11 kd_15 (by decide) rfl rr_15_2 ?_
  refine op_iconst (v := 1) dX3_takeRider_39 (by decide) ?_
  refine st_iald (k := 1) (v := I 16 1) dX3_takeRider_40 kd_16 (by decide) (by decide) rfl ?_
  obtain ⟨g2, h⟩ := am_gd h
  refine st_iast (k := (I 9 1).toNatClampNeg) dX3_takeRider_41 kd_13 g2 rfl ?_
  refine op_aload_n (k := 0) dX3_takeRider_42 rfl rfl ?_
  refine st_getR (z := 9) dX3_takeRider_43 fl_X3_19 kd_15 (by decide) rfl rr_15_1 ?_
  refine st_getR (z := 14) dX3_takeRider_46 fl_X3_124 kd_9 (by decide) rfl rr_9_9 ?_
  refine op_aload_n (k := 0) dX3_takeRider_49 rfl rfl ?_
  refine st_getR (z := 9) dX3_takeRider_50 fl_X3_19 kd_15 (by decide) rfl rr_15_1 ?_
  refine st_getI (v := I 9 1) dX3_takeRider_53 fl_X3_63 kd_9 (by decide) rfl rfl ?_
  refine op_aload_n (k := 0) dX3_takeRider_56 rfl rfl ?_
  refine st_getR (z := 16) dX3_takeRider_57 fl_X3_11 kd_15 (by decide) rfl rr_15_2 ?_
  refine op_iconst (v := 2) dX3_takeRider_60 (by decide) ?_
  refine st_iald (k := 2) (v := I 16 2) dX3_takeRider_61 kd_16 (by decide) (by decide) rfl ?_
  obtain ⟨g3, h⟩ := am_gd h
  refine st_iast (k := (I 9 1).toNatClampNeg) dX3_takeRider_62 kd_14 g3 rfl ?_
  refine op_aload_n (k := 0) dX3_takeRider_63 rfl rfl ?_
  refine st_getR (z := 9) dX3_takeRider_64 fl_X3_19 kd_15 (by decide) rfl rr_15_1 ?_
  refine op_dup dX3_takeRider_67 rfl ?_
  refine st_getI (v := I 9 1) dX3_takeRider_68 fl_X3_63 kd_9 (by decide) rfl rfl ?_
  refine op_iconst (v := 1) dX3_takeRider_71 (by decide) ?_
  refine op_iadd dX3_takeRider_72 ?_
  refine st_putI dX3_takeRider_73 fl_X3_63 kd_9 (by decide) rfl ?_
  cases h
  exact (op_vret dX3_takeRider_76 rfl ⟨rfl, rfl⟩)
theorem t_X3_takeRider {l : Launch} {ρ : am_R} {n d gc gs : Nat} {I : Nat → Nat → Int32} {J : Nat → Nat → Int64} {T : Nat} {q : (Nat → Nat → Int32)} (hd : 0 * n + 0 ≤ d) (h : f_X3_takeRider n I J T  = some q) : AW l ρ d M_X3_takeRider 0 [(0, .ref 15)] [] (am_KD, gc, gs) (I, J, am_RT T) (am_KD, gc, gs) (fun v H' => v = [] ∧ H' = (q, J, am_RT T)) := t_X3_takeRider_0 hd h
def f_X3_clause_137 (n : Nat) (I : Nat → Nat → Int32) (J : Nat → Nat → Int64) (T : Nat) : Option ((Nat → Nat → Int32)) :=
  (f_X10_fail n I J T (I 1 2)).bind fun w1 =>
  some (w1)
def f_X3_clause_94 (n : Nat) (I : Nat → Nat → Int32) (J : Nat → Nat → Int64) (T : Nat) (x1 : Int32) : Option ((Nat → Nat → Int32)) :=
  if x1 = 99 then
   if (I 15 3) = 0 then
    (f_X3_readItems n ((am_u (am_u I 1 2 ((I 1 2) + 1)) 15 3 1)) J T 2).bind fun w3 =>
    (f_X3_takeCoach n w3 J T).bind fun w4 =>
    some (w4)
   else
    f_X3_clause_137 n  I J T
  else
   f_X3_clause_137 n  I J T
def f_X3_clause_51 (n : Nat) (I : Nat → Nat → Int32) (J : Nat → Nat → Int64) (T : Nat) (x1 : Int32) : Option ((Nat → Nat → Int32)) :=
  if x1 = 114 then
   if 6 ≤ (I 9 1) then
    f_X3_clause_94 n  I J T x1
   else
    (f_X3_readItems n ((am_u I 1 2 ((I 1 2) + 1))) J T 1).bind fun w3 =>
    (f_X3_takeRider n w3 J T).bind fun w4 =>
    some (w4)
  else
   f_X3_clause_94 n  I J T x1
def f_X3_clause (n : Nat) (I : Nat → Nat → Int32) (J : Nat → Nat → Int64) (T : Nat) : Option ((Nat → Nat → Int32)) :=
  (f_X10_sign n I J T).bind fun w1 =>
  if w1.1 = 119 then
   if 9 ≤ (w1.2 9 0) then
    f_X3_clause_51 n  w1.2 J T w1.1
   else
    (f_X3_readItems n ((am_u w1.2 1 2 ((w1.2 1 2) + 1))) J T 0).bind fun w4 =>
    (f_X3_takeWay n w4 J T).bind fun w5 =>
    some (w5)
  else
   f_X3_clause_51 n  w1.2 J T w1.1
set_option maxRecDepth 100000 in
set_option maxHeartbeats 4000000 in
theorem t_X3_clause_137 {l : Launch} {ρ : am_R} {n d gc gs : Nat} {I : Nat → Nat → Int32} {J : Nat → Nat → Int64} {T : Nat} {q : (Nat → Nat → Int32)} (hd : 0 * n + 4 ≤ (d + 1))
    (h : f_X3_clause_137 n  I J T  = some q) : AW l ρ (d + 1) M_X3_clause 137 [(0, .ref 15)] [] (am_KD, gc, gs) (I, J, am_RT T) (am_KD, gc, gs) (fun v H' => v = [] ∧ H' = (q, J, am_RT T)) := by
  unfold f_X3_clause_137 at h
  refine op_aload_n (k := 0) dX3_clause_137 rfl rfl ?_
  refine st_getR (z := 1) dX3_clause_138 fl_X3_15 kd_15 (by decide) rfl rr_15_0 ?_
  refine op_aload_n (k := 0) dX3_clause_141 rfl rfl ?_
  refine st_getR (z := 1) dX3_clause_142 fl_X3_15 kd_15 (by decide) rfl rr_15_0 ?_
  refine st_getI (v := I 1 2) dX3_clause_145 fl_X3_39 kd_1 (by decide) rfl rfl ?_
  obtain ⟨w1, ew1, h⟩ := am_bd h
  refine op_callV (M' := M_X10_fail) [.int (I 1 2)] (S0 := []) dX3_clause_148 tw_597 ok_X10_fail tw_587 tw_588 kd_1 cls_10 rfl rfl rfl (Nat.le_of_ble_eq_true rfl) (Nat.le_of_ble_eq_true rfl) (t_X10_fail (by omega) ew1) (am_le_rf _) ?_
  rintro _ _ ⟨rfl, rfl⟩
  cases h
  exact (op_vret dX3_clause_151 rfl ⟨rfl, rfl⟩)
set_option maxRecDepth 100000 in
set_option maxHeartbeats 4000000 in
theorem t_X3_clause_94 {l : Launch} {ρ : am_R} {n d gc gs : Nat} {I : Nat → Nat → Int32} {J : Nat → Nat → Int64} {T : Nat} {x1 : Int32} {q : (Nat → Nat → Int32)} (hd : 0 * n + 4 ≤ (d + 1))
    (h : f_X3_clause_94 n  I J T x1 = some q) : AW l ρ (d + 1) M_X3_clause 94 [(0, .ref 15), (1, .int x1)] [] (am_KD, gc, gs) (I, J, am_RT T) (am_KD, gc, gs) (fun v H' => v = [] ∧ H' = (q, J, am_RT T)) := by
  unfold f_X3_clause_94 at h
  refine op_iload_n (k := 1) dX3_clause_94 rfl rfl ?_
  refine op_bipush (v := 99) dX3_clause_95 (by decide) ?_
  refine op_icmp_ne (tgt := 137) dX3_clause_97 (by decide) (fun c1 => ?_) (fun c1 => ?_)
  · replace h := am_ie c1 h
    refine AW.perm [0] rfl ?_
    exact t_X3_clause_137 hd  h
  · replace h := am_ip c1 h
    refine op_aload_n (k := 0) dX3_clause_100 rfl rfl ?_
    refine st_getI (v := I 15 3) dX3_clause_101 fl_X3_66 kd_15 (by decide) rfl rfl ?_
    refine op_if_ne (tgt := 137) dX3_clause_104 (by decide) (fun c2 => ?_) (fun c2 => ?_)
    · replace h := am_ie c2 h
      refine AW.perm [0] rfl ?_
      exact t_X3_clause_137 hd  h
    · replace h := am_ip c2 h
      refine op_aload_n (k := 0) dX3_clause_107 rfl rfl ?_
      refine st_getR (z := 1) dX3_clause_108 fl_X3_15 kd_15 (by decide) rfl rr_15_0 ?_
      refine op_dup dX3_clause_111 rfl ?_
      refine st_getI (v := I 1 2) dX3_clause_112 fl_X3_39 kd_1 (by decide) rfl rfl ?_
      refine op_iconst (v := 1) dX3_clause_115 (by decide) ?_
      refine op_iadd dX3_clause_116 ?_
      refine st_putI dX3_clause_117 fl_X3_39 kd_1 (by decide) rfl ?_
      refine op_aload_n (k := 0) dX3_clause_120 rfl rfl ?_
      refine op_iconst (v := 1) dX3_clause_121 (by decide) ?_
      refine st_putZ dX3_clause_122 fl_X3_66 kd_15 (by decide) rfl (by decide) ?_
      refine op_aload_n (k := 0) dX3_clause_125 rfl rfl ?_
      refine op_iconst (v := 2) dX3_clause_126 (by decide) ?_
      obtain ⟨w3, ew3, h⟩ := am_bd h
      refine op_callV (M' := M_X3_readItems) [.int 2] (S0 := []) dX3_clause_127 tw_564 ok_X3_readItems tw_566 tw_4 kd_15 cls_3 rfl rfl rfl (Nat.le_of_ble_eq_true rfl) (Nat.le_of_ble_eq_true rfl) (t_X3_readItems (by omega) ew3) (am_le_rf _) ?_
      rintro _ _ ⟨rfl, rfl⟩
      refine op_aload_n (k := 0) dX3_clause_130 rfl rfl ?_
      obtain ⟨w4, ew4, h⟩ := am_bd h
      refine op_callV (M' := M_X3_takeCoach) [] (S0 := []) dX3_clause_131 tw_552 ok_X3_takeCoach tw_554 tw_2 kd_15 cls_3 rfl rfl rfl (Nat.le_of_ble_eq_true rfl) (Nat.le_of_ble_eq_true rfl) (t_X3_takeCoach (by omega) ew4) (am_le_rf _) ?_
      rintro _ _ ⟨rfl, rfl⟩
      refine op_goto (tgt := 151) dX3_clause_134 (by decide) ?_
      cases h
      exact (op_vret dX3_clause_151 rfl ⟨rfl, rfl⟩)
set_option maxRecDepth 100000 in
set_option maxHeartbeats 4000000 in
theorem t_X3_clause_51 {l : Launch} {ρ : am_R} {n d gc gs : Nat} {I : Nat → Nat → Int32} {J : Nat → Nat → Int64} {T : Nat} {x1 : Int32} {q : (Nat → Nat → Int32)} (hd : 0 * n + 4 ≤ (d + 1))
    (h : f_X3_clause_51 n  I J T x1 = some q) : AW l ρ (d + 1) M_X3_clause 51 [(0, .ref 15), (1, .int x1)] [] (am_KD, gc, gs) (I, J, am_RT T) (am_KD, gc, gs) (fun v H' => v = [] ∧ H' = (q, J, am_RT T)) := by
  unfold f_X3_clause_51 at h
  refine op_iload_n (k := 1) dX3_clause_51 rfl rfl ?_
  refine op_bipush (v := 114) dX3_clause_52 (by decide) ?_
  refine op_icmp_ne (tgt := 94) dX3_clause_54 (by decide) (fun c1 => ?_) (fun c1 => ?_)
  · replace h := am_ie c1 h
    exact t_X3_clause_94 hd  h
  · replace h := am_ip c1 h
    refine op_aload_n (k := 0) dX3_clause_57 rfl rfl ?_
    refine st_getR (z := 9) dX3_clause_58 fl_X3_19 kd_15 (by decide) rfl rr_15_1 ?_
    refine st_getI (v := I 9 1) dX3_clause_61 fl_X3_63 kd_9 (by decide) rfl rfl ?_
    refine op_bipush (v := 6) dX3_clause_64 (by decide) ?_
    refine op_icmp_ge (tgt := 94) dX3_clause_66 (by decide) (fun c2 => ?_) (fun c2 => ?_)
    · replace h := am_ip c2 h
      exact t_X3_clause_94 hd  h
    · replace h := am_ie c2 h
      refine op_aload_n (k := 0) dX3_clause_69 rfl rfl ?_
      refine st_getR (z := 1) dX3_clause_70 fl_X3_15 kd_15 (by decide) rfl rr_15_0 ?_
      refine op_dup dX3_clause_73 rfl ?_
      refine st_getI (v := I 1 2) dX3_clause_74 fl_X3_39 kd_1 (by decide) rfl rfl ?_
      refine op_iconst (v := 1) dX3_clause_77 (by decide) ?_
      refine op_iadd dX3_clause_78 ?_
      refine st_putI dX3_clause_79 fl_X3_39 kd_1 (by decide) rfl ?_
      refine op_aload_n (k := 0) dX3_clause_82 rfl rfl ?_
      refine op_iconst (v := 1) dX3_clause_83 (by decide) ?_
      obtain ⟨w3, ew3, h⟩ := am_bd h
      refine op_callV (M' := M_X3_readItems) [.int 1] (S0 := []) dX3_clause_84 tw_564 ok_X3_readItems tw_566 tw_4 kd_15 cls_3 rfl rfl rfl (Nat.le_of_ble_eq_true rfl) (Nat.le_of_ble_eq_true rfl) (t_X3_readItems (by omega) ew3) (am_le_rf _) ?_
      rintro _ _ ⟨rfl, rfl⟩
      refine op_aload_n (k := 0) dX3_clause_87 rfl rfl ?_
      obtain ⟨w4, ew4, h⟩ := am_bd h
      refine op_callV (M' := M_X3_takeRider) [] (S0 := []) dX3_clause_88 tw_602 ok_X3_takeRider tw_604 tw_8 kd_15 cls_3 rfl rfl rfl (Nat.le_of_ble_eq_true rfl) (Nat.le_of_ble_eq_true rfl) (t_X3_takeRider (by omega) ew4) (am_le_rf _) ?_
      rintro _ _ ⟨rfl, rfl⟩
      refine op_goto (tgt := 151) dX3_clause_91 (by decide) ?_
      cases h
      exact (op_vret dX3_clause_151 rfl ⟨rfl, rfl⟩)
set_option maxRecDepth 100000 in
set_option maxHeartbeats 4000000 in
theorem t_X3_clause_0 {l : Launch} {ρ : am_R} {n d gc gs : Nat} {I : Nat → Nat → Int32} {J : Nat → Nat → Int64} {T : Nat} {q : (Nat → Nat → Int32)} (hd : 0 * n + 4 ≤ (d + 1))
    (h : f_X3_clause n  I J T  = some q) : AW l ρ (d + 1) M_X3_clause 0 [(0, .ref 15)] [] (am_KD, gc, gs) (I, J, am_RT T) (am_KD, gc, gs) (fun v H' => v = [] ∧ H' = (q, J, am_RT T)) := by
  unfold f_X3_clause at h
  refine op_aload_n (k := 0) dX3_clause_0 rfl rfl ?_
  refine st_getR (z := 1) dX3_clause_1 fl_X3_15 kd_15 (by decide) rfl rr_15_0 ?_
  obtain ⟨w1, ew1, h⟩ := am_bd h
  refine op_callV (M' := M_X10_sign) [] (S0 := []) dX3_clause_4 tw_560 ok_X10_sign tw_561 tw_562 kd_1 cls_10 rfl rfl rfl (Nat.le_of_ble_eq_true rfl) (Nat.le_of_ble_eq_true rfl) (t_X10_sign (by omega) ew1) (am_le_rf _) ?_
  rintro _ _ ⟨rfl, rfl⟩
  refine op_istore_n (L' := [(1, .int w1.1), (0, .ref 15)]) dX3_clause_7 rfl (by decide) rfl ?_
  refine op_iload_n (k := 0) dX3_clause_8 rfl rfl ?_
  refine op_bipush (v := 119) dX3_clause_9 (by decide) ?_
  refine op_icmp_ne (tgt := 51) dX3_clause_11 (by decide) (fun c2 => ?_) (fun c2 => ?_)
  · replace h := am_ie c2 h
    refine AW.perm [1, 0] rfl ?_
    exact t_X3_clause_51 hd  h
  · replace h := am_ip c2 h
    refine op_aload_n (k := 1) dX3_clause_14 rfl rfl ?_
    refine st_getR (z := 9) dX3_clause_15 fl_X3_19 kd_15 (by decide) rfl rr_15_1 ?_
    refine st_getI (v := w1.2 9 0) dX3_clause_18 fl_X3_60 kd_9 (by decide) rfl rfl ?_
    refine op_bipush (v := 9) dX3_clause_21 (by decide) ?_
    refine op_icmp_ge (tgt := 51) dX3_clause_23 (by decide) (fun c3 => ?_) (fun c3 => ?_)
    · replace h := am_ip c3 h
      refine AW.perm [1, 0] rfl ?_
      exact t_X3_clause_51 hd  h
    · replace h := am_ie c3 h
      refine op_aload_n (k := 1) dX3_clause_26 rfl rfl ?_
      refine st_getR (z := 1) dX3_clause_27 fl_X3_15 kd_15 (by decide) rfl rr_15_0 ?_
      refine op_dup dX3_clause_30 rfl ?_
      refine st_getI (v := w1.2 1 2) dX3_clause_31 fl_X3_39 kd_1 (by decide) rfl rfl ?_
      refine op_iconst (v := 1) dX3_clause_34 (by decide) ?_
      refine op_iadd dX3_clause_35 ?_
      refine st_putI dX3_clause_36 fl_X3_39 kd_1 (by decide) rfl ?_
      refine op_aload_n (k := 1) dX3_clause_39 rfl rfl ?_
      refine op_iconst (v := 0) dX3_clause_40 (by decide) ?_
      obtain ⟨w4, ew4, h⟩ := am_bd h
      refine op_callV (M' := M_X3_readItems) [.int 0] (S0 := []) dX3_clause_41 tw_564 ok_X3_readItems tw_566 tw_4 kd_15 cls_3 rfl rfl rfl (Nat.le_of_ble_eq_true rfl) (Nat.le_of_ble_eq_true rfl) (t_X3_readItems (by omega) ew4) (am_le_rf _) ?_
      rintro _ _ ⟨rfl, rfl⟩
      refine op_aload_n (k := 1) dX3_clause_44 rfl rfl ?_
      obtain ⟨w5, ew5, h⟩ := am_bd h
      refine op_callV (M' := M_X3_takeWay) [] (S0 := []) dX3_clause_45 tw_598 ok_X3_takeWay tw_600 tw_7 kd_15 cls_3 rfl rfl rfl (Nat.le_of_ble_eq_true rfl) (Nat.le_of_ble_eq_true rfl) (t_X3_takeWay (by omega) ew5) (am_le_rf _) ?_
      rintro _ _ ⟨rfl, rfl⟩
      refine op_goto (tgt := 151) dX3_clause_48 (by decide) ?_
      cases h
      exact (op_vret dX3_clause_151 rfl ⟨rfl, rfl⟩)
theorem t_X3_clause {l : Launch} {ρ : am_R} {n d gc gs : Nat} {I : Nat → Nat → Int32} {J : Nat → Nat → Int64} {T : Nat} {q : (Nat → Nat → Int32)} (hd : 0 * n + 4 ≤ d) (h : f_X3_clause n I J T  = some q) : AW l ρ d M_X3_clause 0 [(0, .ref 15)] [] (am_KD, gc, gs) (I, J, am_RT T) (am_KD, gc, gs) (fun v H' => v = [] ∧ H' = (q, J, am_RT T)) := by
  obtain ⟨d, rfl⟩ : ∃ e, d = e + 1 := ⟨d - 1, by omega⟩
  exact t_X3_clause_0 hd h
def f_X2_isWhole_52 (n : Nat) (k22 : (Nat → Nat → Int32) → (Nat → Nat → Int64) → Nat → Int32 → Int32 → Option (Int32)) (I : Nat → Nat → Int32) (J : Nat → Nat → Int64) (T : Nat) (x2 : Int32) (s0 : Int32) : Option (Int32) :=
  k22 I J T s0 (x2 + 1)
def f_X2_isWhole_51 (n : Nat) (k22 : (Nat → Nat → Int32) → (Nat → Nat → Int64) → Nat → Int32 → Int32 → Option (Int32)) (I : Nat → Nat → Int32) (J : Nat → Nat → Int64) (T : Nat) (x2 : Int32) : Option (Int32) :=
  f_X2_isWhole_52 n k22 I J T x2 0
def f_X2_isWhole_22 (n : Nat) : Nat → (Nat → Nat → Int32) → (Nat → Nat → Int64) → Nat → Int32 → Int32 → Option (Int32)
  | 0, _, _, _, _, _ => none
  | m + 1, I, J, T, x1, x2 =>
    if (I 9 1) ≤ x2 then
     if x1 = 0 ∨ x1 = 1 then
      some (x1)
     else none
    else
     if x1 = 0 then
      f_X2_isWhole_51 n (f_X2_isWhole_22 n m) I J T x2
     else
      if ok_ix x2 6 then
       if (I 9 0) < (I 12 x2.toNatClampNeg) then
        f_X2_isWhole_51 n (f_X2_isWhole_22 n m) I J T x2
       else
        f_X2_isWhole_52 n (f_X2_isWhole_22 n m) I J T x2 1
      else none
def f_X2_isWhole_19 (n : Nat) (I : Nat → Nat → Int32) (J : Nat → Nat → Int64) (T : Nat) (s0 : Int32) : Option (Int32) :=
  f_X2_isWhole_22 n  n I J T s0 0
def f_X2_isWhole_18 (n : Nat) (I : Nat → Nat → Int32) (J : Nat → Nat → Int64) (T : Nat) : Option (Int32) :=
  f_X2_isWhole_19 n  I J T 0
def f_X2_isWhole (n : Nat) (I : Nat → Nat → Int32) (J : Nat → Nat → Int64) (T : Nat) : Option (Int32) :=
  if (I 9 0) ≤ 0 then
   f_X2_isWhole_18 n  I J T
  else
   if (I 9 1) ≤ 0 then
    f_X2_isWhole_18 n  I J T
   else
    f_X2_isWhole_19 n  I J T 1
set_option maxRecDepth 100000 in
set_option maxHeartbeats 4000000 in
theorem t_X2_isWhole_52 {l : Launch} {ρ : am_R} {n d gc gs : Nat} {k22 : (Nat → Nat → Int32) → (Nat → Nat → Int64) → Nat → Int32 → Int32 → Option (Int32)} {I : Nat → Nat → Int32} {J : Nat → Nat → Int64} {T : Nat} {x2 : Int32} {s0 : Int32} {q : Int32} (hd : 0 * n + 0 ≤ d)
    (hk22 : ∀ (I : Nat → Nat → Int32) (J : Nat → Nat → Int64) (T : Nat) (x1 : Int32) (x2 : Int32), k22 I J T x1 x2 = some q → AW l ρ d M_X2_isWhole 22 [(0, .ref 9), (1, .int x1), (2, .int x2)] [] (am_KD, gc, gs) (I, J, am_RT T) (am_KD, gc, gs) (fun v H' => v = [.int q] ∧ H' = (I, J, am_RT T)))
    (h : f_X2_isWhole_52 n k22 I J T x2 s0 = some q) : AW l ρ d M_X2_isWhole 52 [(0, .ref 9), (2, .int x2)] [.int s0] (am_KD, gc, gs) (I, J, am_RT T) (am_KD, gc, gs) (fun v H' => v = [.int q] ∧ H' = (I, J, am_RT T)) := by
  unfold f_X2_isWhole_52 at h
  refine op_istore_n (L' := [(1, .int s0), (0, .ref 9), (2, .int x2)]) dX2_isWhole_52 rfl (by decide) rfl ?_
  refine op_iinc (k := 2) (v := x2 + 1) (L' := [(2, .int (x2 + 1)), (1, .int s0), (0, .ref 9)]) dX2_isWhole_53 rfl rfl (by decide) rfl ?_
  refine op_goto (tgt := 22) dX2_isWhole_56 (by decide) ?_
  refine AW.perm [2, 1, 0] rfl ?_
  exact hk22 _ _ _ _ _ h
set_option maxRecDepth 100000 in
set_option maxHeartbeats 4000000 in
theorem t_X2_isWhole_51 {l : Launch} {ρ : am_R} {n d gc gs : Nat} {k22 : (Nat → Nat → Int32) → (Nat → Nat → Int64) → Nat → Int32 → Int32 → Option (Int32)} {I : Nat → Nat → Int32} {J : Nat → Nat → Int64} {T : Nat} {x2 : Int32} {q : Int32} (hd : 0 * n + 0 ≤ d)
    (hk22 : ∀ (I : Nat → Nat → Int32) (J : Nat → Nat → Int64) (T : Nat) (x1 : Int32) (x2 : Int32), k22 I J T x1 x2 = some q → AW l ρ d M_X2_isWhole 22 [(0, .ref 9), (1, .int x1), (2, .int x2)] [] (am_KD, gc, gs) (I, J, am_RT T) (am_KD, gc, gs) (fun v H' => v = [.int q] ∧ H' = (I, J, am_RT T)))
    (h : f_X2_isWhole_51 n k22 I J T x2 = some q) : AW l ρ d M_X2_isWhole 51 [(0, .ref 9), (2, .int x2)] [] (am_KD, gc, gs) (I, J, am_RT T) (am_KD, gc, gs) (fun v H' => v = [.int q] ∧ H' = (I, J, am_RT T)) := by
  unfold f_X2_isWhole_51 at h
  refine op_iconst (v := 0) dX2_isWhole_51 (by decide) ?_
  exact t_X2_isWhole_52 hd hk22 h
set_option maxRecDepth 100000 in
set_option maxHeartbeats 4000000 in
theorem t_X2_isWhole_22 {l : Launch} {ρ : am_R} {n d gc gs : Nat} {q : Int32} (hd : 0 * n + 0 ≤ d)
    : ∀ (m : Nat) (I : Nat → Nat → Int32) (J : Nat → Nat → Int64) (T : Nat) (x1 : Int32) (x2 : Int32), f_X2_isWhole_22 n  m I J T x1 x2 = some q → AW l ρ d M_X2_isWhole 22 [(0, .ref 9), (1, .int x1), (2, .int x2)] [] (am_KD, gc, gs) (I, J, am_RT T) (am_KD, gc, gs) (fun v H' => v = [.int q] ∧ H' = (I, J, am_RT T)) := by
  intro m
  induction m with
  | zero =>
    intro I J T x1 x2 h
    rw [f_X2_isWhole_22] at h
    cases h
  | succ m ih =>
    intro I J T x1 x2 h
    rw [f_X2_isWhole_22] at h
    refine op_iload_n (k := 2) dX2_isWhole_22 rfl rfl ?_
    refine op_aload_n (k := 0) dX2_isWhole_23 rfl rfl ?_
    refine st_getI (v := I 9 1) dX2_isWhole_24 fl_X2_31 kd_9 (by decide) rfl rfl ?_
    refine op_icmp_ge (tgt := 59) dX2_isWhole_27 (by decide) (fun c1 => ?_) (fun c1 => ?_)
    · replace h := am_ip c1 h
      refine op_iload_n (k := 1) dX2_isWhole_59 rfl rfl ?_
      obtain ⟨g2, h⟩ := am_gd h
      cases h
      exact (op_iret dX2_isWhole_60 rfl (am_zo g2) ⟨rfl, rfl⟩)
    · replace h := am_ie c1 h
      refine op_iload_n (k := 1) dX2_isWhole_30 rfl rfl ?_
      refine op_if_eq (tgt := 51) dX2_isWhole_31 (by decide) (fun c3 => ?_) (fun c3 => ?_)
      · replace h := am_ip c3 h
        refine AW.perm [0, 2] rfl ?_
        exact t_X2_isWhole_51 hd ih h
      · replace h := am_ie c3 h
        refine op_aload_n (k := 0) dX2_isWhole_34 rfl rfl ?_
        refine st_getR (z := 12) dX2_isWhole_35 fl_X2_18 kd_9 (by decide) rfl rr_9_7 ?_
        refine op_iload_n (k := 2) dX2_isWhole_38 rfl rfl ?_
        obtain ⟨g4, h⟩ := am_gd h
        refine st_iald (k := x2.toNatClampNeg) (v := I 12 x2.toNatClampNeg) dX2_isWhole_39 kd_12 g4 rfl rfl ?_
        refine op_aload_n (k := 0) dX2_isWhole_40 rfl rfl ?_
        refine st_getI (v := I 9 0) dX2_isWhole_41 fl_X2_27 kd_9 (by decide) rfl rfl ?_
        refine op_icmp_gt (tgt := 51) dX2_isWhole_44 (by decide) (fun c5 => ?_) (fun c5 => ?_)
        · replace h := am_ip c5 h
          refine AW.perm [0, 2] rfl ?_
          exact t_X2_isWhole_51 hd ih h
        · replace h := am_ie c5 h
          refine op_iconst (v := 1) dX2_isWhole_47 (by decide) ?_
          refine op_goto (tgt := 52) dX2_isWhole_48 (by decide) ?_
          refine AW.perm [0, 2] rfl ?_
          exact t_X2_isWhole_52 hd ih h
set_option maxRecDepth 100000 in
set_option maxHeartbeats 4000000 in
theorem t_X2_isWhole_19 {l : Launch} {ρ : am_R} {n d gc gs : Nat} {I : Nat → Nat → Int32} {J : Nat → Nat → Int64} {T : Nat} {s0 : Int32} {q : Int32} (hd : 0 * n + 0 ≤ d)
    (h : f_X2_isWhole_19 n  I J T s0 = some q) : AW l ρ d M_X2_isWhole 19 [(0, .ref 9)] [.int s0] (am_KD, gc, gs) (I, J, am_RT T) (am_KD, gc, gs) (fun v H' => v = [.int q] ∧ H' = (I, J, am_RT T)) := by
  unfold f_X2_isWhole_19 at h
  refine op_istore_n (L' := [(1, .int s0), (0, .ref 9)]) dX2_isWhole_19 rfl (by decide) rfl ?_
  refine op_iconst (v := 0) dX2_isWhole_20 (by decide) ?_
  refine op_istore_n (L' := [(2, .int 0), (1, .int s0), (0, .ref 9)]) dX2_isWhole_21 rfl (by decide) rfl ?_
  refine AW.perm [2, 1, 0] rfl ?_
  exact t_X2_isWhole_22 hd  n _ _ _ _ _ h
set_option maxRecDepth 100000 in
set_option maxHeartbeats 4000000 in
theorem t_X2_isWhole_18 {l : Launch} {ρ : am_R} {n d gc gs : Nat} {I : Nat → Nat → Int32} {J : Nat → Nat → Int64} {T : Nat} {q : Int32} (hd : 0 * n + 0 ≤ d)
    (h : f_X2_isWhole_18 n  I J T  = some q) : AW l ρ d M_X2_isWhole 18 [(0, .ref 9)] [] (am_KD, gc, gs) (I, J, am_RT T) (am_KD, gc, gs) (fun v H' => v = [.int q] ∧ H' = (I, J, am_RT T)) := by
  unfold f_X2_isWhole_18 at h
  refine op_iconst (v := 0) dX2_isWhole_18 (by decide) ?_
  exact t_X2_isWhole_19 hd  h
set_option maxRecDepth 100000 in
set_option maxHeartbeats 4000000 in
theorem t_X2_isWhole_0 {l : Launch} {ρ : am_R} {n d gc gs : Nat} {I : Nat → Nat → Int32} {J : Nat → Nat → Int64} {T : Nat} {q : Int32} (hd : 0 * n + 0 ≤ d)
    (h : f_X2_isWhole n  I J T  = some q) : AW l ρ d M_X2_isWhole 0 [(0, .ref 9)] [] (am_KD, gc, gs) (I, J, am_RT T) (am_KD, gc, gs) (fun v H' => v = [.int q] ∧ H' = (I, J, am_RT T)) := by
  unfold f_X2_isWhole at h
  refine op_aload_n (k := 0) dX2_isWhole_0 rfl rfl ?_
  refine st_getI (v := I 9 0) dX2_isWhole_1 fl_X2_27 kd_9 (by decide) rfl rfl ?_
  refine op_if_le (tgt := 18) dX2_isWhole_4 (by decide) (fun c1 => ?_) (fun c1 => ?_)
  · replace h := am_ip c1 h
    exact t_X2_isWhole_18 hd  h
  · replace h := am_ie c1 h
    refine op_aload_n (k := 0) dX2_isWhole_7 rfl rfl ?_
    refine st_getI (v := I 9 1) dX2_isWhole_8 fl_X2_31 kd_9 (by decide) rfl rfl ?_
    refine op_if_le (tgt := 18) dX2_isWhole_11 (by decide) (fun c2 => ?_) (fun c2 => ?_)
    · replace h := am_ip c2 h
      exact t_X2_isWhole_18 hd  h
    · replace h := am_ie c2 h
      refine op_iconst (v := 1) dX2_isWhole_14 (by decide) ?_
      refine op_goto (tgt := 19) dX2_isWhole_15 (by decide) ?_
      exact t_X2_isWhole_19 hd  h
theorem t_X2_isWhole {l : Launch} {ρ : am_R} {n d gc gs : Nat} {I : Nat → Nat → Int32} {J : Nat → Nat → Int64} {T : Nat} {q : Int32} (hd : 0 * n + 0 ≤ d) (h : f_X2_isWhole n I J T  = some q) : AW l ρ d M_X2_isWhole 0 [(0, .ref 9)] [] (am_KD, gc, gs) (I, J, am_RT T) (am_KD, gc, gs) (fun v H' => v = [.int q] ∧ H' = (I, J, am_RT T)) := t_X2_isWhole_0 hd h
def f_X3_read_88 (n : Nat) (I : Nat → Nat → Int32) (J : Nat → Nat → Int64) (T : Nat) : Option (Int32 × (Nat → Nat → Int32)) :=
  some (I 1 3, I)
def f_X3_read_64 (n : Nat) (I : Nat → Nat → Int32) (J : Nat → Nat → Int64) (T : Nat) : Option (Int32 × (Nat → Nat → Int32)) :=
  (f_X2_isWhole n I J T).bind fun w1 =>
  if w1 = 0 then
   (f_X10_fail n I J T (I 1 1)).bind fun w3 =>
   f_X3_read_88 n  w3 J T
  else
   f_X3_read_88 n  I J T
def f_X3_read_39 (n : Nat) (I : Nat → Nat → Int32) (J : Nat → Nat → Int64) (T : Nat) : Option (Int32 × (Nat → Nat → Int32)) :=
  (f_X10_sign n I J T).bind fun w1 =>
  if w1.1 = ((-1)) then
   f_X3_read_64 n  w1.2 J T
  else
   (f_X10_fail n w1.2 J T (w1.2 1 2)).bind fun w3 =>
   f_X3_read_64 n  w3 J T
def f_X3_read_10 (n : Nat) : Nat → (Nat → Nat → Int32) → (Nat → Nat → Int64) → Nat → Int32 → Option (Int32 × (Nat → Nat → Int32))
  | 0, _, _, _, _ => none
  | m + 1, I, J, T, x1 =>
    if 160 ≤ x1 then
     f_X3_read_39 n  I J T
    else
     (f_X10_takes n I J T 59).bind fun w2 =>
     if w2.1 = 0 then
      f_X3_read_39 n  w2.2 J T
     else
      (f_X3_clause n w2.2 J T).bind fun w4 =>
      f_X3_read_10 n  m w4 J T (x1 + 1)
def f_X3_read (n : Nat) (I : Nat → Nat → Int32) (J : Nat → Nat → Int64) (T : Nat) : Option (Int32 × (Nat → Nat → Int32)) :=
  (f_X3_begin n I J T).bind fun w1 =>
  (f_X3_clause n w1 J T).bind fun w2 =>
  f_X3_read_10 n  n w2 J T 0
set_option maxRecDepth 100000 in
set_option maxHeartbeats 4000000 in
theorem t_X3_read_88 {l : Launch} {ρ : am_R} {n d gc gs : Nat} {I : Nat → Nat → Int32} {J : Nat → Nat → Int64} {T : Nat} {q : Int32 × (Nat → Nat → Int32)} (hd : 0 * n + 5 ≤ (d + 1))
    (h : f_X3_read_88 n  I J T  = some q) : AW l ρ (d + 1) M_X3_read 88 [(0, .ref 15)] [] (am_KD, gc, gs) (I, J, am_RT T) (am_KD, gc, gs) (fun v H' => v = [.int q.1] ∧ H' = (q.2, J, am_RT T)) := by
  unfold f_X3_read_88 at h
  refine op_aload_n (k := 0) dX3_read_88 rfl rfl ?_
  refine st_getR (z := 1) dX3_read_89 fl_X3_15 kd_15 (by decide) rfl rr_15_0 ?_
  refine st_getI (v := I 1 3) dX3_read_92 fl_X3_56 kd_1 (by decide) rfl rfl ?_
  cases h
  exact (op_iret dX3_read_95 rfl rfl ⟨rfl, rfl⟩)
set_option maxRecDepth 100000 in
set_option maxHeartbeats 4000000 in
theorem t_X3_read_64 {l : Launch} {ρ : am_R} {n d gc gs : Nat} {I : Nat → Nat → Int32} {J : Nat → Nat → Int64} {T : Nat} {q : Int32 × (Nat → Nat → Int32)} (hd : 0 * n + 5 ≤ (d + 1))
    (h : f_X3_read_64 n  I J T  = some q) : AW l ρ (d + 1) M_X3_read 64 [(0, .ref 15)] [] (am_KD, gc, gs) (I, J, am_RT T) (am_KD, gc, gs) (fun v H' => v = [.int q.1] ∧ H' = (q.2, J, am_RT T)) := by
  unfold f_X3_read_64 at h
  refine op_aload_n (k := 0) dX3_read_64 rfl rfl ?_
  refine st_getR (z := 9) dX3_read_65 fl_X3_19 kd_15 (by decide) rfl rr_15_1 ?_
  obtain ⟨w1, ew1, h⟩ := am_bd h
  refine op_callV (M' := M_X2_isWhole) [] (S0 := []) dX3_read_68 tw_610 ok_X2_isWhole tw_611 tw_612 kd_9 cls_2 rfl rfl rfl (Nat.le_of_ble_eq_true rfl) (Nat.le_of_ble_eq_true rfl) (t_X2_isWhole (by omega) ew1) (am_le_rf _) ?_
  rintro _ _ ⟨rfl, rfl⟩
  refine op_if_ne (tgt := 88) dX3_read_71 (by decide) (fun c2 => ?_) (fun c2 => ?_)
  · replace h := am_ie c2 h
    exact t_X3_read_88 hd  h
  · replace h := am_ip c2 h
    refine op_aload_n (k := 0) dX3_read_74 rfl rfl ?_
    refine st_getR (z := 1) dX3_read_75 fl_X3_15 kd_15 (by decide) rfl rr_15_0 ?_
    refine op_aload_n (k := 0) dX3_read_78 rfl rfl ?_
    refine st_getR (z := 1) dX3_read_79 fl_X3_15 kd_15 (by decide) rfl rr_15_0 ?_
    refine st_getI (v := I 1 1) dX3_read_82 fl_X3_53 kd_1 (by decide) rfl rfl ?_
    obtain ⟨w3, ew3, h⟩ := am_bd h
    refine op_callV (M' := M_X10_fail) [.int (I 1 1)] (S0 := []) dX3_read_85 tw_597 ok_X10_fail tw_587 tw_588 kd_1 cls_10 rfl rfl rfl (Nat.le_of_ble_eq_true rfl) (Nat.le_of_ble_eq_true rfl) (t_X10_fail (by omega) ew3) (am_le_rf _) ?_
    rintro _ _ ⟨rfl, rfl⟩
    exact t_X3_read_88 hd  h
set_option maxRecDepth 100000 in
set_option maxHeartbeats 4000000 in
theorem t_X3_read_39 {l : Launch} {ρ : am_R} {n d gc gs : Nat} {I : Nat → Nat → Int32} {J : Nat → Nat → Int64} {T : Nat} {q : Int32 × (Nat → Nat → Int32)} (hd : 0 * n + 5 ≤ (d + 1))
    (h : f_X3_read_39 n  I J T  = some q) : AW l ρ (d + 1) M_X3_read 39 [(0, .ref 15)] [] (am_KD, gc, gs) (I, J, am_RT T) (am_KD, gc, gs) (fun v H' => v = [.int q.1] ∧ H' = (q.2, J, am_RT T)) := by
  unfold f_X3_read_39 at h
  refine op_aload_n (k := 0) dX3_read_39 rfl rfl ?_
  refine st_getR (z := 1) dX3_read_40 fl_X3_15 kd_15 (by decide) rfl rr_15_0 ?_
  obtain ⟨w1, ew1, h⟩ := am_bd h
  refine op_callV (M' := M_X10_sign) [] (S0 := []) dX3_read_43 tw_560 ok_X10_sign tw_561 tw_562 kd_1 cls_10 rfl rfl rfl (Nat.le_of_ble_eq_true rfl) (Nat.le_of_ble_eq_true rfl) (t_X10_sign (by omega) ew1) (am_le_rf _) ?_
  rintro _ _ ⟨rfl, rfl⟩
  refine op_iconst (v := (-1)) dX3_read_46 (by decide) ?_
  refine op_icmp_eq (tgt := 64) dX3_read_47 (by decide) (fun c2 => ?_) (fun c2 => ?_)
  · replace h := am_ip c2 h
    exact t_X3_read_64 hd  h
  · replace h := am_ie c2 h
    refine op_aload_n (k := 0) dX3_read_50 rfl rfl ?_
    refine st_getR (z := 1) dX3_read_51 fl_X3_15 kd_15 (by decide) rfl rr_15_0 ?_
    refine op_aload_n (k := 0) dX3_read_54 rfl rfl ?_
    refine st_getR (z := 1) dX3_read_55 fl_X3_15 kd_15 (by decide) rfl rr_15_0 ?_
    refine st_getI (v := w1.2 1 2) dX3_read_58 fl_X3_39 kd_1 (by decide) rfl rfl ?_
    obtain ⟨w3, ew3, h⟩ := am_bd h
    refine op_callV (M' := M_X10_fail) [.int (w1.2 1 2)] (S0 := []) dX3_read_61 tw_597 ok_X10_fail tw_587 tw_588 kd_1 cls_10 rfl rfl rfl (Nat.le_of_ble_eq_true rfl) (Nat.le_of_ble_eq_true rfl) (t_X10_fail (by omega) ew3) (am_le_rf _) ?_
    rintro _ _ ⟨rfl, rfl⟩
    exact t_X3_read_64 hd  h
set_option maxRecDepth 100000 in
set_option maxHeartbeats 4000000 in
theorem t_X3_read_10 {l : Launch} {ρ : am_R} {n d gc gs : Nat} {q : Int32 × (Nat → Nat → Int32)} (hd : 0 * n + 5 ≤ (d + 1))
    : ∀ (m : Nat) (I : Nat → Nat → Int32) (J : Nat → Nat → Int64) (T : Nat) (x1 : Int32), f_X3_read_10 n  m I J T x1 = some q → AW l ρ (d + 1) M_X3_read 10 [(0, .ref 15), (1, .int x1)] [] (am_KD, gc, gs) (I, J, am_RT T) (am_KD, gc, gs) (fun v H' => v = [.int q.1] ∧ H' = (q.2, J, am_RT T)) := by
  intro m
  induction m with
  | zero =>
    intro I J T x1 h
    rw [f_X3_read_10] at h
    cases h
  | succ m ih =>
    intro I J T x1 h
    rw [f_X3_read_10] at h
    refine op_iload_n (k := 1) dX3_read_10 rfl rfl ?_
    refine op_sipush (v := 160) dX3_read_11 (by decide) ?_
    refine op_icmp_ge (tgt := 39) dX3_read_14 (by decide) (fun c1 => ?_) (fun c1 => ?_)
    · replace h := am_ip c1 h
      refine AW.perm [0] rfl ?_
      exact t_X3_read_39 hd  h
    · replace h := am_ie c1 h
      refine op_aload_n (k := 0) dX3_read_17 rfl rfl ?_
      refine st_getR (z := 1) dX3_read_18 fl_X3_15 kd_15 (by decide) rfl rr_15_0 ?_
      refine op_bipush (v := 59) dX3_read_21 (by decide) ?_
      obtain ⟨w2, ew2, h⟩ := am_bd h
      refine op_callV (M' := M_X10_takes) [.int 59] (S0 := []) dX3_read_23 tw_606 ok_X10_takes tw_607 tw_608 kd_1 cls_10 rfl rfl rfl (Nat.le_of_ble_eq_true rfl) (Nat.le_of_ble_eq_true rfl) (t_X10_takes (by omega) ew2) (am_le_rf _) ?_
      rintro _ _ ⟨rfl, rfl⟩
      refine op_if_eq (tgt := 39) dX3_read_26 (by decide) (fun c3 => ?_) (fun c3 => ?_)
      · replace h := am_ip c3 h
        refine AW.perm [0] rfl ?_
        exact t_X3_read_39 hd  h
      · replace h := am_ie c3 h
        refine op_aload_n (k := 0) dX3_read_29 rfl rfl ?_
        obtain ⟨w4, ew4, h⟩ := am_bd h
        refine op_callV (M' := M_X3_clause) [] (S0 := []) dX3_read_30 tw_556 ok_X3_clause tw_558 tw_3 kd_15 cls_3 rfl rfl rfl (Nat.le_of_ble_eq_true rfl) (Nat.le_of_ble_eq_true rfl) (t_X3_clause (by omega) ew4) (am_le_rf _) ?_
        rintro _ _ ⟨rfl, rfl⟩
        refine op_iinc (k := 1) (v := x1 + 1) (L' := [(1, .int (x1 + 1)), (0, .ref 15)]) dX3_read_33 rfl rfl (by decide) rfl ?_
        refine op_goto (tgt := 10) dX3_read_36 (by decide) ?_
        refine AW.perm [1, 0] rfl ?_
        exact ih _ _ _ _ h
set_option maxRecDepth 100000 in
set_option maxHeartbeats 4000000 in
theorem t_X3_read_0 {l : Launch} {ρ : am_R} {n d gc gs : Nat} {I : Nat → Nat → Int32} {J : Nat → Nat → Int64} {T : Nat} {q : Int32 × (Nat → Nat → Int32)} (hd : 0 * n + 5 ≤ (d + 1))
    (h : f_X3_read n  I J T  = some q) : AW l ρ (d + 1) M_X3_read 0 [(0, .ref 15)] [] (am_KD, gc, gs) (I, J, am_RT T) (am_KD, gc, gs) (fun v H' => v = [.int q.1] ∧ H' = (q.2, J, am_RT T)) := by
  unfold f_X3_read at h
  refine op_aload_n (k := 0) dX3_read_0 rfl rfl ?_
  obtain ⟨w1, ew1, h⟩ := am_bd h
  refine op_callV (M' := M_X3_begin) [] (S0 := []) dX3_read_1 tw_538 ok_X3_begin tw_540 tw_0 kd_15 cls_3 rfl rfl rfl (Nat.le_of_ble_eq_true rfl) (Nat.le_of_ble_eq_true rfl) (t_X3_begin (by omega) ew1) (am_le_rf _) ?_
  rintro _ _ ⟨rfl, rfl⟩
  refine op_aload_n (k := 0) dX3_read_4 rfl rfl ?_
  obtain ⟨w2, ew2, h⟩ := am_bd h
  refine op_callV (M' := M_X3_clause) [] (S0 := []) dX3_read_5 tw_556 ok_X3_clause tw_558 tw_3 kd_15 cls_3 rfl rfl rfl (Nat.le_of_ble_eq_true rfl) (Nat.le_of_ble_eq_true rfl) (t_X3_clause (by omega) ew2) (am_le_rf _) ?_
  rintro _ _ ⟨rfl, rfl⟩
  refine op_iconst (v := 0) dX3_read_8 (by decide) ?_
  refine op_istore_n (L' := [(1, .int 0), (0, .ref 15)]) dX3_read_9 rfl (by decide) rfl ?_
  refine AW.perm [1, 0] rfl ?_
  exact t_X3_read_10 hd  n _ _ _ _ h
theorem t_X3_read {l : Launch} {ρ : am_R} {n d gc gs : Nat} {I : Nat → Nat → Int32} {J : Nat → Nat → Int64} {T : Nat} {q : Int32 × (Nat → Nat → Int32)} (hd : 0 * n + 5 ≤ d) (h : f_X3_read n I J T  = some q) : AW l ρ d M_X3_read 0 [(0, .ref 15)] [] (am_KD, gc, gs) (I, J, am_RT T) (am_KD, gc, gs) (fun v H' => v = [.int q.1] ∧ H' = (q.2, J, am_RT T)) := by
  obtain ⟨d, rfl⟩ : ∃ e, d = e + 1 := ⟨d - 1, by omega⟩
  exact t_X3_read_0 hd h
def f_X11_fault (n : Nat) (I : Nat → Nat → Int32) (J : Nat → Nat → Int64) (T : Nat) (x1 : Int32) : Option (Int32 × (Nat → Nat → Int32)) :=
  if x1 = 0 then
   (f_X3_read n I J T).bind fun w4 =>
   some (w4.1, w4.2)
  else
   if x1 = 1 then
    (f_X4_read n I J T).bind fun w3 =>
    some (w3.1, w3.2)
   else
    some ((-2), I)
set_option maxRecDepth 100000 in
set_option maxHeartbeats 4000000 in
theorem t_X11_fault_0 {l : Launch} {ρ : am_R} {n d gc gs : Nat} {I : Nat → Nat → Int32} {J : Nat → Nat → Int64} {T : Nat} {x1 : Int32} {q : Int32 × (Nat → Nat → Int32)} (hd : 2 * n + 7 ≤ (d + 1))
    (h : f_X11_fault n  I J T x1 = some q) : AW l ρ (d + 1) M_X11_fault 0 [(0, .ref 0), (1, .int x1)] [] (am_KD, gc, gs) (I, J, am_RT T) (am_KD, gc, gs) (fun v H' => v = [.int q.1] ∧ H' = (q.2, J, am_RT T)) := by
  unfold f_X11_fault at h
  refine op_iload_n (k := 1) dX11_fault_0 rfl rfl ?_
  refine op_if_ne (tgt := 12) dX11_fault_1 (by decide) (fun c1 => ?_) (fun c1 => ?_)
  · replace h := am_ie c1 h
    refine op_iload_n (k := 1) dX11_fault_12 rfl rfl ?_
    refine op_iconst (v := 1) dX11_fault_13 (by decide) ?_
    refine op_icmp_ne (tgt := 27) dX11_fault_14 (by decide) (fun c2 => ?_) (fun c2 => ?_)
    · replace h := am_ie c2 h
      refine op_bipush (v := (-2)) dX11_fault_27 (by decide) ?_
      cases h
      exact (op_iret dX11_fault_29 rfl rfl ⟨rfl, rfl⟩)
    · replace h := am_ip c2 h
      refine op_aload_n (k := 0) dX11_fault_17 rfl rfl ?_
      refine st_getR (z := 17) dX11_fault_18 fl_X11_40 kd_0 (by decide) rfl rr_0_4 ?_
      obtain ⟨w3, ew3, h⟩ := am_bd h
      refine op_callV (M' := M_X4_read) [] (S0 := []) dX11_fault_21 tw_614 ok_X4_read tw_615 tw_616 kd_17 cls_4 rfl rfl rfl (Nat.le_of_ble_eq_true rfl) (Nat.le_of_ble_eq_true rfl) (t_X4_read (by omega) ew3) (am_le_rf _) ?_
      rintro _ _ ⟨rfl, rfl⟩
      refine op_goto (tgt := 29) dX11_fault_24 (by decide) ?_
      cases h
      exact (op_iret dX11_fault_29 rfl rfl ⟨rfl, rfl⟩)
  · replace h := am_ip c1 h
    refine op_aload_n (k := 0) dX11_fault_4 rfl rfl ?_
    refine st_getR (z := 15) dX11_fault_5 fl_X11_31 kd_0 (by decide) rfl rr_0_3 ?_
    obtain ⟨w4, ew4, h⟩ := am_bd h
    refine op_callV (M' := M_X3_read) [] (S0 := []) dX11_fault_8 tw_534 ok_X3_read tw_535 tw_536 kd_15 cls_3 rfl rfl rfl (Nat.le_of_ble_eq_true rfl) (Nat.le_of_ble_eq_true rfl) (t_X3_read (by omega) ew4) (am_le_rf _) ?_
    rintro _ _ ⟨rfl, rfl⟩
    cases h
    exact (op_iret dX11_fault_11 rfl rfl ⟨rfl, rfl⟩)
theorem t_X11_fault {l : Launch} {ρ : am_R} {n d gc gs : Nat} {I : Nat → Nat → Int32} {J : Nat → Nat → Int64} {T : Nat} {x1 : Int32} {q : Int32 × (Nat → Nat → Int32)} (hd : 2 * n + 7 ≤ d) (h : f_X11_fault n I J T x1 = some q) : AW l ρ d M_X11_fault 0 [(0, .ref 0), (1, .int x1)] [] (am_KD, gc, gs) (I, J, am_RT T) (am_KD, gc, gs) (fun v H' => v = [.int q.1] ∧ H' = (q.2, J, am_RT T)) := by
  obtain ⟨d, rfl⟩ : ∃ e, d = e + 1 := ⟨d - 1, by omega⟩
  exact t_X11_fault_0 hd h
def f_X10_signsOf_22 (n : Nat) (k5 : (Nat → Nat → Int32) → (Nat → Nat → Int64) → Nat → Int32 → Int32 → Int32 → Option (Int32)) (I : Nat → Nat → Int32) (J : Nat → Nat → Int64) (T : Nat) (x0 : Int32) (x1 : Int32) (x2 : Int32) : Option (Int32) :=
  k5 I J T x0 x1 (x2 + (-8))
def f_X10_signsOf_5 (n : Nat) : Nat → (Nat → Nat → Int32) → (Nat → Nat → Int64) → Nat → Int32 → Int32 → Int32 → Option (Int32)
  | 0, _, _, _, _, _, _ => none
  | m + 1, I, J, T, x0, x1, x2 =>
    if x2 < 0 then
     some (x1)
    else
     if ((am_ush x0 x2) &&& 255) = 0 then
      f_X10_signsOf_22 n (f_X10_signsOf_5 n m) I J T x0 x1 x2
     else
      f_X10_signsOf_22 n (f_X10_signsOf_5 n m) I J T x0 (x1 + 1) x2
def f_X10_signsOf (n : Nat) (I : Nat → Nat → Int32) (J : Nat → Nat → Int64) (T : Nat) (x0 : Int32) : Option (Int32) :=
  f_X10_signsOf_5 n  n I J T x0 0 24
set_option maxRecDepth 100000 in
set_option maxHeartbeats 4000000 in
theorem t_X10_signsOf_22 {l : Launch} {ρ : am_R} {n d gc gs : Nat} {k5 : (Nat → Nat → Int32) → (Nat → Nat → Int64) → Nat → Int32 → Int32 → Int32 → Option (Int32)} {I : Nat → Nat → Int32} {J : Nat → Nat → Int64} {T : Nat} {x0 : Int32} {x1 : Int32} {x2 : Int32} {q : Int32} (hd : 0 * n + 0 ≤ d)
    (hk5 : ∀ (I : Nat → Nat → Int32) (J : Nat → Nat → Int64) (T : Nat) (x0 : Int32) (x1 : Int32) (x2 : Int32), k5 I J T x0 x1 x2 = some q → AW l ρ d M_X10_signsOf 5 [(0, .int x0), (1, .int x1), (2, .int x2)] [] (am_KD, gc, gs) (I, J, am_RT T) (am_KD, gc, gs) (fun v H' => v = [.int q] ∧ H' = (I, J, am_RT T)))
    (h : f_X10_signsOf_22 n k5 I J T x0 x1 x2 = some q) : AW l ρ d M_X10_signsOf 22 [(0, .int x0), (1, .int x1), (2, .int x2)] [] (am_KD, gc, gs) (I, J, am_RT T) (am_KD, gc, gs) (fun v H' => v = [.int q] ∧ H' = (I, J, am_RT T)) := by
  unfold f_X10_signsOf_22 at h
  refine op_iinc (k := 2) (v := x2 + (-8)) (L' := [(2, .int (x2 + (-8))), (0, .int x0), (1, .int x1)]) dX10_signsOf_22 rfl rfl (by decide) rfl ?_
  refine op_goto (tgt := 5) dX10_signsOf_25 (by decide) ?_
  refine AW.perm [1, 2, 0] rfl ?_
  exact hk5 _ _ _ _ _ _ h
set_option maxRecDepth 100000 in
set_option maxHeartbeats 4000000 in
theorem t_X10_signsOf_5 {l : Launch} {ρ : am_R} {n d gc gs : Nat} {q : Int32} (hd : 0 * n + 0 ≤ d)
    : ∀ (m : Nat) (I : Nat → Nat → Int32) (J : Nat → Nat → Int64) (T : Nat) (x0 : Int32) (x1 : Int32) (x2 : Int32), f_X10_signsOf_5 n  m I J T x0 x1 x2 = some q → AW l ρ d M_X10_signsOf 5 [(0, .int x0), (1, .int x1), (2, .int x2)] [] (am_KD, gc, gs) (I, J, am_RT T) (am_KD, gc, gs) (fun v H' => v = [.int q] ∧ H' = (I, J, am_RT T)) := by
  intro m
  induction m with
  | zero =>
    intro I J T x0 x1 x2 h
    rw [f_X10_signsOf_5] at h
    cases h
  | succ m ih =>
    intro I J T x0 x1 x2 h
    rw [f_X10_signsOf_5] at h
    refine op_iload_n (k := 2) dX10_signsOf_5 rfl rfl ?_
    refine op_if_lt (tgt := 28) dX10_signsOf_6 (by decide) (fun c1 => ?_) (fun c1 => ?_)
    · replace h := am_ip c1 h
      refine op_iload_n (k := 1) dX10_signsOf_28 rfl rfl ?_
      cases h
      exact (op_iret dX10_signsOf_29 rfl rfl ⟨rfl, rfl⟩)
    · replace h := am_ie c1 h
      refine op_iload_n (k := 0) dX10_signsOf_9 rfl rfl ?_
      refine op_iload_n (k := 2) dX10_signsOf_10 rfl rfl ?_
      refine op_iushr (v := am_ush x0 x2) dX10_signsOf_11 rfl ?_
      refine op_sipush (v := 255) dX10_signsOf_12 (by decide) ?_
      refine op_iand dX10_signsOf_15 ?_
      refine op_if_eq (tgt := 22) dX10_signsOf_16 (by decide) (fun c2 => ?_) (fun c2 => ?_)
      · replace h := am_ip c2 h
        exact t_X10_signsOf_22 hd ih h
      · replace h := am_ie c2 h
        refine op_iinc (k := 1) (v := x1 + 1) (L' := [(1, .int (x1 + 1)), (0, .int x0), (2, .int x2)]) dX10_signsOf_19 rfl rfl (by decide) rfl ?_
        refine AW.perm [1, 0, 2] rfl ?_
        exact t_X10_signsOf_22 hd ih h
set_option maxRecDepth 100000 in
set_option maxHeartbeats 4000000 in
theorem t_X10_signsOf_0 {l : Launch} {ρ : am_R} {n d gc gs : Nat} {I : Nat → Nat → Int32} {J : Nat → Nat → Int64} {T : Nat} {x0 : Int32} {q : Int32} (hd : 0 * n + 0 ≤ d)
    (h : f_X10_signsOf n  I J T x0 = some q) : AW l ρ d M_X10_signsOf 0 [(0, .int x0)] [] (am_KD, gc, gs) (I, J, am_RT T) (am_KD, gc, gs) (fun v H' => v = [.int q] ∧ H' = (I, J, am_RT T)) := by
  unfold f_X10_signsOf at h
  refine op_iconst (v := 0) dX10_signsOf_0 (by decide) ?_
  refine op_istore_n (L' := [(1, .int 0), (0, .int x0)]) dX10_signsOf_1 rfl (by decide) rfl ?_
  refine op_bipush (v := 24) dX10_signsOf_2 (by decide) ?_
  refine op_istore_n (L' := [(2, .int 24), (1, .int 0), (0, .int x0)]) dX10_signsOf_4 rfl (by decide) rfl ?_
  refine AW.perm [2, 1, 0] rfl ?_
  exact t_X10_signsOf_5 hd  n _ _ _ _ _ _ h
theorem t_X10_signsOf {l : Launch} {ρ : am_R} {n d gc gs : Nat} {I : Nat → Nat → Int32} {J : Nat → Nat → Int64} {T : Nat} {x0 : Int32} {q : Int32} (hd : 0 * n + 0 ≤ d) (h : f_X10_signsOf n I J T x0 = some q) : AW l ρ d M_X10_signsOf 0 [(0, .int x0)] [] (am_KD, gc, gs) (I, J, am_RT T) (am_KD, gc, gs) (fun v H' => v = [.int q] ∧ H' = (I, J, am_RT T)) := t_X10_signsOf_0 hd h
def f_X10_append_50 (n : Nat) (k3 : (Nat → Nat → Int32) → (Nat → Nat → Int64) → Nat → Int32 → Int32 → Option ((Nat → Nat → Int32))) (I : Nat → Nat → Int32) (J : Nat → Nat → Int64) (T : Nat) (x1 : Int32) (x2 : Int32) : Option ((Nat → Nat → Int32)) :=
  k3 I J T x1 (x2 + (-8))
def f_X10_append_3 (n : Nat) : Nat → (Nat → Nat → Int32) → (Nat → Nat → Int64) → Nat → Int32 → Int32 → Option ((Nat → Nat → Int32))
  | 0, _, _, _, _, _ => none
  | m + 1, I, J, T, x1, x2 =>
    if x2 < 0 then
     some (I)
    else
     if ((am_ush x1 x2) &&& 255) = 0 then
      f_X10_append_50 n (f_X10_append_3 n m) I J T x1 x2
     else
      if 160 ≤ (I 1 1) then
       f_X10_append_50 n (f_X10_append_3 n m) I J T x1 x2
      else
       if ok_ix (I 1 1) 160 then
        f_X10_append_50 n (f_X10_append_3 n m) ((am_u (am_u I 2 ((I 1 1).toNatClampNeg) ((((am_ush x1 x2) &&& 255).toInt8.toInt32).toInt8.toInt32)) 1 1 ((I 1 1) + 1))) J T x1 x2
       else none
def f_X10_append (n : Nat) (I : Nat → Nat → Int32) (J : Nat → Nat → Int64) (T : Nat) (x1 : Int32) : Option ((Nat → Nat → Int32)) :=
  f_X10_append_3 n  n I J T x1 24
set_option maxRecDepth 100000 in
set_option maxHeartbeats 4000000 in
theorem t_X10_append_50 {l : Launch} {ρ : am_R} {n d gc gs : Nat} {k3 : (Nat → Nat → Int32) → (Nat → Nat → Int64) → Nat → Int32 → Int32 → Option ((Nat → Nat → Int32))} {I : Nat → Nat → Int32} {J : Nat → Nat → Int64} {T : Nat} {x1 : Int32} {x2 : Int32} {q : (Nat → Nat → Int32)} (hd : 0 * n + 0 ≤ d)
    (hk3 : ∀ (I : Nat → Nat → Int32) (J : Nat → Nat → Int64) (T : Nat) (x1 : Int32) (x2 : Int32), k3 I J T x1 x2 = some q → AW l ρ d M_X10_append 3 [(0, .ref 1), (1, .int x1), (2, .int x2)] [] (am_KD, gc, gs) (I, J, am_RT T) (am_KD, gc, gs) (fun v H' => v = [] ∧ H' = (q, J, am_RT T)))
    (h : f_X10_append_50 n k3 I J T x1 x2 = some q) : AW l ρ d M_X10_append 50 [(0, .ref 1), (1, .int x1), (2, .int x2)] [] (am_KD, gc, gs) (I, J, am_RT T) (am_KD, gc, gs) (fun v H' => v = [] ∧ H' = (q, J, am_RT T)) := by
  unfold f_X10_append_50 at h
  refine op_iinc (k := 2) (v := x2 + (-8)) (L' := [(2, .int (x2 + (-8))), (0, .ref 1), (1, .int x1)]) dX10_append_50 rfl rfl (by decide) rfl ?_
  refine op_goto (tgt := 3) dX10_append_53 (by decide) ?_
  refine AW.perm [1, 2, 0] rfl ?_
  exact hk3 _ _ _ _ _ h
set_option maxRecDepth 100000 in
set_option maxHeartbeats 4000000 in
theorem t_X10_append_3 {l : Launch} {ρ : am_R} {n d gc gs : Nat} {q : (Nat → Nat → Int32)} (hd : 0 * n + 0 ≤ d)
    : ∀ (m : Nat) (I : Nat → Nat → Int32) (J : Nat → Nat → Int64) (T : Nat) (x1 : Int32) (x2 : Int32), f_X10_append_3 n  m I J T x1 x2 = some q → AW l ρ d M_X10_append 3 [(0, .ref 1), (1, .int x1), (2, .int x2)] [] (am_KD, gc, gs) (I, J, am_RT T) (am_KD, gc, gs) (fun v H' => v = [] ∧ H' = (q, J, am_RT T)) := by
  intro m
  induction m with
  | zero =>
    intro I J T x1 x2 h
    rw [f_X10_append_3] at h
    cases h
  | succ m ih =>
    intro I J T x1 x2 h
    rw [f_X10_append_3] at h
    refine op_iload_n (k := 2) dX10_append_3 rfl rfl ?_
    refine op_if_lt (tgt := 56) dX10_append_4 (by decide) (fun c1 => ?_) (fun c1 => ?_)
    · replace h := am_ip c1 h
      cases h
      exact (op_vret dX10_append_56 rfl ⟨rfl, rfl⟩)
    · replace h := am_ie c1 h
      refine op_iload_n (k := 1) dX10_append_7 rfl rfl ?_
      refine op_iload_n (k := 2) dX10_append_8 rfl rfl ?_
      refine op_iushr (v := am_ush x1 x2) dX10_append_9 rfl ?_
      refine op_sipush (v := 255) dX10_append_10 (by decide) ?_
      refine op_iand dX10_append_13 ?_
      refine op_istore_n (L' := [(3, .int ((am_ush x1 x2) &&& 255)), (0, .ref 1), (1, .int x1), (2, .int x2)]) dX10_append_14 rfl (by decide) rfl ?_
      refine op_iload_n (k := 0) dX10_append_15 rfl rfl ?_
      refine op_if_eq (tgt := 50) dX10_append_16 (by decide) (fun c2 => ?_) (fun c2 => ?_)
      · replace h := am_ip c2 h
        refine AW.perm [1, 2, 3] rfl ?_
        exact t_X10_append_50 hd ih h
      · replace h := am_ie c2 h
        refine op_aload_n (k := 1) dX10_append_19 rfl rfl ?_
        refine st_getI (v := I 1 1) dX10_append_20 fl_X10_15 kd_1 (by decide) rfl rfl ?_
        refine op_sipush (v := 160) dX10_append_23 (by decide) ?_
        refine op_icmp_ge (tgt := 50) dX10_append_26 (by decide) (fun c3 => ?_) (fun c3 => ?_)
        · replace h := am_ip c3 h
          refine AW.perm [1, 2, 3] rfl ?_
          exact t_X10_append_50 hd ih h
        · replace h := am_ie c3 h
          refine op_aload_n (k := 1) dX10_append_29 rfl rfl ?_
          refine st_getR (z := 2) dX10_append_30 fl_X10_11 kd_1 (by decide) rfl rr_1_0 ?_
          refine op_aload_n (k := 1) dX10_append_33 rfl rfl ?_
          refine st_getI (v := I 1 1) dX10_append_34 fl_X10_15 kd_1 (by decide) rfl rfl ?_
          refine op_iload_n (k := 0) dX10_append_37 rfl rfl ?_
          refine op_i2b dX10_append_38 ?_
          obtain ⟨g4, h⟩ := am_gd h
          refine st_bast (k := (I 1 1).toNatClampNeg) dX10_append_39 kd_2 g4 rfl ?_
          refine op_aload_n (k := 1) dX10_append_40 rfl rfl ?_
          refine op_dup dX10_append_41 rfl ?_
          refine st_getI (v := I 1 1) dX10_append_42 fl_X10_15 kd_1 (by decide) rfl rfl ?_
          refine op_iconst (v := 1) dX10_append_45 (by decide) ?_
          refine op_iadd dX10_append_46 ?_
          refine st_putI dX10_append_47 fl_X10_15 kd_1 (by decide) rfl ?_
          refine AW.perm [1, 2, 3] rfl ?_
          exact t_X10_append_50 hd ih h
set_option maxRecDepth 100000 in
set_option maxHeartbeats 4000000 in
theorem t_X10_append_0 {l : Launch} {ρ : am_R} {n d gc gs : Nat} {I : Nat → Nat → Int32} {J : Nat → Nat → Int64} {T : Nat} {x1 : Int32} {q : (Nat → Nat → Int32)} (hd : 0 * n + 0 ≤ d)
    (h : f_X10_append n  I J T x1 = some q) : AW l ρ d M_X10_append 0 [(0, .ref 1), (1, .int x1)] [] (am_KD, gc, gs) (I, J, am_RT T) (am_KD, gc, gs) (fun v H' => v = [] ∧ H' = (q, J, am_RT T)) := by
  unfold f_X10_append at h
  refine op_bipush (v := 24) dX10_append_0 (by decide) ?_
  refine op_istore_n (L' := [(2, .int 24), (0, .ref 1), (1, .int x1)]) dX10_append_2 rfl (by decide) rfl ?_
  refine AW.perm [1, 2, 0] rfl ?_
  exact t_X10_append_3 hd  n _ _ _ _ _ h
theorem t_X10_append {l : Launch} {ρ : am_R} {n d gc gs : Nat} {I : Nat → Nat → Int32} {J : Nat → Nat → Int64} {T : Nat} {x1 : Int32} {q : (Nat → Nat → Int32)} (hd : 0 * n + 0 ≤ d) (h : f_X10_append n I J T x1 = some q) : AW l ρ d M_X10_append 0 [(0, .ref 1), (1, .int x1)] [] (am_KD, gc, gs) (I, J, am_RT T) (am_KD, gc, gs) (fun v H' => v = [] ∧ H' = (q, J, am_RT T)) := t_X10_append_0 hd h
def f_X11_feed (n : Nat) (I : Nat → Nat → Int32) (J : Nat → Nat → Int64) (T : Nat) (x1 : Int32) (x2 : Int32) (x3 : Int32) (x4 : Int32) (x5 : Int32) : Option (Int32 × (Nat → Nat → Int32)) :=
  (f_X10_signsOf n I J T x1).bind fun w1 =>
  (f_X10_signsOf n I J T x2).bind fun w2 =>
  (f_X10_signsOf n I J T x3).bind fun w3 =>
  (f_X10_signsOf n I J T x4).bind fun w4 =>
  (f_X10_signsOf n I J T x5).bind fun w5 =>
  if ((I 1 1) + ((((w1 + w2) + w3) + w4) + w5)) ≤ 160 then
   (f_X10_append n I J T x1).bind fun w7 =>
   (f_X10_append n w7 J T x2).bind fun w8 =>
   (f_X10_append n w8 J T x3).bind fun w9 =>
   (f_X10_append n w9 J T x4).bind fun w10 =>
   (f_X10_append n w10 J T x5).bind fun w11 =>
   some (w11 1 1, w11)
  else
   some ((-1), I)
set_option maxRecDepth 100000 in
set_option maxHeartbeats 4000000 in
theorem t_X11_feed_0 {l : Launch} {ρ : am_R} {n d gc gs : Nat} {I : Nat → Nat → Int32} {J : Nat → Nat → Int64} {T : Nat} {x1 : Int32} {x2 : Int32} {x3 : Int32} {x4 : Int32} {x5 : Int32} {q : Int32 × (Nat → Nat → Int32)} (hd : 0 * n + 1 ≤ (d + 1))
    (h : f_X11_feed n  I J T x1 x2 x3 x4 x5 = some q) : AW l ρ (d + 1) M_X11_feed 0 [(0, .ref 0), (1, .int x1), (2, .int x2), (3, .int x3), (4, .int x4), (5, .int x5)] [] (am_KD, gc, gs) (I, J, am_RT T) (am_KD, gc, gs) (fun v H' => v = [.int q.1] ∧ H' = (q.2, J, am_RT T)) := by
  unfold f_X11_feed at h
  refine op_iload_n (k := 1) dX11_feed_0 rfl rfl ?_
  obtain ⟨w1, ew1, h⟩ := am_bd h
  refine op_callS (M' := M_X10_signsOf) [.int x1] (S0 := []) dX11_feed_1 tw_519 ok_X10_signsOf tw_520 rfl rfl (Nat.le_of_ble_eq_true rfl) (Nat.le_of_ble_eq_true rfl) (t_X10_signsOf (by omega) ew1) (am_le_rf _) ?_
  rintro _ _ ⟨rfl, rfl⟩
  refine op_iload_n (k := 2) dX11_feed_4 rfl rfl ?_
  obtain ⟨w2, ew2, h⟩ := am_bd h
  refine op_callS (M' := M_X10_signsOf) [.int x2] (S0 := [.int w1]) dX11_feed_5 tw_519 ok_X10_signsOf tw_520 rfl rfl (Nat.le_of_ble_eq_true rfl) (Nat.le_of_ble_eq_true rfl) (t_X10_signsOf (by omega) ew2) (am_le_rf _) ?_
  rintro _ _ ⟨rfl, rfl⟩
  refine op_iadd dX11_feed_8 ?_
  refine op_iload_n (k := 3) dX11_feed_9 rfl rfl ?_
  obtain ⟨w3, ew3, h⟩ := am_bd h
  refine op_callS (M' := M_X10_signsOf) [.int x3] (S0 := [.int (w1 + w2)]) dX11_feed_10 tw_519 ok_X10_signsOf tw_520 rfl rfl (Nat.le_of_ble_eq_true rfl) (Nat.le_of_ble_eq_true rfl) (t_X10_signsOf (by omega) ew3) (am_le_rf _) ?_
  rintro _ _ ⟨rfl, rfl⟩
  refine op_iadd dX11_feed_13 ?_
  refine op_iload (k := 4) dX11_feed_14 rfl ?_
  obtain ⟨w4, ew4, h⟩ := am_bd h
  refine op_callS (M' := M_X10_signsOf) [.int x4] (S0 := [.int ((w1 + w2) + w3)]) dX11_feed_16 tw_519 ok_X10_signsOf tw_520 rfl rfl (Nat.le_of_ble_eq_true rfl) (Nat.le_of_ble_eq_true rfl) (t_X10_signsOf (by omega) ew4) (am_le_rf _) ?_
  rintro _ _ ⟨rfl, rfl⟩
  refine op_iadd dX11_feed_19 ?_
  refine op_iload (k := 5) dX11_feed_20 rfl ?_
  obtain ⟨w5, ew5, h⟩ := am_bd h
  refine op_callS (M' := M_X10_signsOf) [.int x5] (S0 := [.int (((w1 + w2) + w3) + w4)]) dX11_feed_22 tw_519 ok_X10_signsOf tw_520 rfl rfl (Nat.le_of_ble_eq_true rfl) (Nat.le_of_ble_eq_true rfl) (t_X10_signsOf (by omega) ew5) (am_le_rf _) ?_
  rintro _ _ ⟨rfl, rfl⟩
  refine op_iadd dX11_feed_25 ?_
  refine op_istore (L' := [(6, .int ((((w1 + w2) + w3) + w4) + w5)), (0, .ref 0), (1, .int x1), (2, .int x2), (3, .int x3), (4, .int x4), (5, .int x5)]) dX11_feed_26 (by decide) rfl ?_
  refine op_aload_n (k := 1) dX11_feed_28 rfl rfl ?_
  refine st_getR (z := 1) dX11_feed_29 fl_X11_10 kd_0 (by decide) rfl rr_0_0 ?_
  refine st_getI (v := I 1 1) dX11_feed_32 fl_X11_117 kd_1 (by decide) rfl rfl ?_
  refine op_iload (k := 0) dX11_feed_35 rfl ?_
  refine op_iadd dX11_feed_37 ?_
  refine op_sipush (v := 160) dX11_feed_38 (by decide) ?_
  refine op_icmp_le (tgt := 46) dX11_feed_41 (by decide) (fun c6 => ?_) (fun c6 => ?_)
  · replace h := am_ip c6 h
    refine op_aload_n (k := 1) dX11_feed_46 rfl rfl ?_
    refine st_getR (z := 1) dX11_feed_47 fl_X11_10 kd_0 (by decide) rfl rr_0_0 ?_
    refine op_iload_n (k := 2) dX11_feed_50 rfl rfl ?_
    obtain ⟨w7, ew7, h⟩ := am_bd h
    refine op_callV (M' := M_X10_append) [.int x1] (S0 := []) dX11_feed_51 tw_522 ok_X10_append tw_523 tw_524 kd_1 cls_10 rfl rfl rfl (Nat.le_of_ble_eq_true rfl) (Nat.le_of_ble_eq_true rfl) (t_X10_append (by omega) ew7) (am_le_rf _) ?_
    rintro _ _ ⟨rfl, rfl⟩
    refine op_aload_n (k := 1) dX11_feed_54 rfl rfl ?_
    refine st_getR (z := 1) dX11_feed_55 fl_X11_10 kd_0 (by decide) rfl rr_0_0 ?_
    refine op_iload_n (k := 3) dX11_feed_58 rfl rfl ?_
    obtain ⟨w8, ew8, h⟩ := am_bd h
    refine op_callV (M' := M_X10_append) [.int x2] (S0 := []) dX11_feed_59 tw_522 ok_X10_append tw_523 tw_524 kd_1 cls_10 rfl rfl rfl (Nat.le_of_ble_eq_true rfl) (Nat.le_of_ble_eq_true rfl) (t_X10_append (by omega) ew8) (am_le_rf _) ?_
    rintro _ _ ⟨rfl, rfl⟩
    refine op_aload_n (k := 1) dX11_feed_62 rfl rfl ?_
    refine st_getR (z := 1) dX11_feed_63 fl_X11_10 kd_0 (by decide) rfl rr_0_0 ?_
    refine op_iload_n (k := 4) dX11_feed_66 rfl rfl ?_
    obtain ⟨w9, ew9, h⟩ := am_bd h
    refine op_callV (M' := M_X10_append) [.int x3] (S0 := []) dX11_feed_67 tw_522 ok_X10_append tw_523 tw_524 kd_1 cls_10 rfl rfl rfl (Nat.le_of_ble_eq_true rfl) (Nat.le_of_ble_eq_true rfl) (t_X10_append (by omega) ew9) (am_le_rf _) ?_
    rintro _ _ ⟨rfl, rfl⟩
    refine op_aload_n (k := 1) dX11_feed_70 rfl rfl ?_
    refine st_getR (z := 1) dX11_feed_71 fl_X11_10 kd_0 (by decide) rfl rr_0_0 ?_
    refine op_iload (k := 5) dX11_feed_74 rfl ?_
    obtain ⟨w10, ew10, h⟩ := am_bd h
    refine op_callV (M' := M_X10_append) [.int x4] (S0 := []) dX11_feed_76 tw_522 ok_X10_append tw_523 tw_524 kd_1 cls_10 rfl rfl rfl (Nat.le_of_ble_eq_true rfl) (Nat.le_of_ble_eq_true rfl) (t_X10_append (by omega) ew10) (am_le_rf _) ?_
    rintro _ _ ⟨rfl, rfl⟩
    refine op_aload_n (k := 1) dX11_feed_79 rfl rfl ?_
    refine st_getR (z := 1) dX11_feed_80 fl_X11_10 kd_0 (by decide) rfl rr_0_0 ?_
    refine op_iload (k := 6) dX11_feed_83 rfl ?_
    obtain ⟨w11, ew11, h⟩ := am_bd h
    refine op_callV (M' := M_X10_append) [.int x5] (S0 := []) dX11_feed_85 tw_522 ok_X10_append tw_523 tw_524 kd_1 cls_10 rfl rfl rfl (Nat.le_of_ble_eq_true rfl) (Nat.le_of_ble_eq_true rfl) (t_X10_append (by omega) ew11) (am_le_rf _) ?_
    rintro _ _ ⟨rfl, rfl⟩
    refine op_aload_n (k := 1) dX11_feed_88 rfl rfl ?_
    refine st_getR (z := 1) dX11_feed_89 fl_X11_10 kd_0 (by decide) rfl rr_0_0 ?_
    refine st_getI (v := w11 1 1) dX11_feed_92 fl_X11_117 kd_1 (by decide) rfl rfl ?_
    cases h
    exact (op_iret dX11_feed_95 rfl rfl ⟨rfl, rfl⟩)
  · replace h := am_ie c6 h
    refine op_iconst (v := (-1)) dX11_feed_44 (by decide) ?_
    cases h
    exact (op_iret dX11_feed_45 rfl rfl ⟨rfl, rfl⟩)
theorem t_X11_feed {l : Launch} {ρ : am_R} {n d gc gs : Nat} {I : Nat → Nat → Int32} {J : Nat → Nat → Int64} {T : Nat} {x1 : Int32} {x2 : Int32} {x3 : Int32} {x4 : Int32} {x5 : Int32} {q : Int32 × (Nat → Nat → Int32)} (hd : 0 * n + 1 ≤ d) (h : f_X11_feed n I J T x1 x2 x3 x4 x5 = some q) : AW l ρ d M_X11_feed 0 [(0, .ref 0), (1, .int x1), (2, .int x2), (3, .int x3), (4, .int x4), (5, .int x5)] [] (am_KD, gc, gs) (I, J, am_RT T) (am_KD, gc, gs) (fun v H' => v = [.int q.1] ∧ H' = (q.2, J, am_RT T)) := by
  obtain ⟨d, rfl⟩ : ∃ e, d = e + 1 := ⟨d - 1, by omega⟩
  exact t_X11_feed_0 hd h
def f_X11_feet (n : Nat) (I : Nat → Nat → Int32) (J : Nat → Nat → Int64) (T : Nat) (x1 : Int32) : Option (Int32 × (Nat → Nat → Int32)) :=
  (f_X11_isWithin n I J T x1 0 20).bind fun w1 =>
  if w1 = 0 then
   some (0, I)
  else
   some (1, (am_u I 0 15 x1))
set_option maxRecDepth 100000 in
set_option maxHeartbeats 4000000 in
theorem t_X11_feet_0 {l : Launch} {ρ : am_R} {n d gc gs : Nat} {I : Nat → Nat → Int32} {J : Nat → Nat → Int64} {T : Nat} {x1 : Int32} {q : Int32 × (Nat → Nat → Int32)} (hd : 0 * n + 1 ≤ (d + 1))
    (h : f_X11_feet n  I J T x1 = some q) : AW l ρ (d + 1) M_X11_feet 0 [(0, .ref 0), (1, .int x1)] [] (am_KD, gc, gs) (I, J, am_RT T) (am_KD, gc, gs) (fun v H' => v = [.int q.1] ∧ H' = (q.2, J, am_RT T)) := by
  unfold f_X11_feet at h
  refine op_iload_n (k := 1) dX11_feet_0 rfl rfl ?_
  refine op_iconst (v := 0) dX11_feet_1 (by decide) ?_
  refine op_bipush (v := 20) dX11_feet_2 (by decide) ?_
  obtain ⟨w1, ew1, h⟩ := am_bd h
  refine op_callS (M' := M_X11_isWithin) [.int x1, .int 0, .int 20] (S0 := []) dX11_feet_4 tw_713 ok_X11_isWithin tw_595 rfl rfl (Nat.le_of_ble_eq_true rfl) (Nat.le_of_ble_eq_true rfl) (t_X11_isWithin (by omega) ew1) (am_le_rf _) ?_
  rintro _ _ ⟨rfl, rfl⟩
  refine op_if_ne (tgt := 12) dX11_feet_7 (by decide) (fun c2 => ?_) (fun c2 => ?_)
  · replace h := am_ie c2 h
    refine op_aload_n (k := 0) dX11_feet_12 rfl rfl ?_
    refine op_iload_n (k := 1) dX11_feet_13 rfl rfl ?_
    refine st_putI dX11_feet_14 fl_X11_109 kd_0 (by decide) rfl ?_
    refine op_iconst (v := 1) dX11_feet_17 (by decide) ?_
    cases h
    exact (op_iret dX11_feet_18 rfl (by decide) ⟨rfl, rfl⟩)
  · replace h := am_ip c2 h
    refine op_iconst (v := 0) dX11_feet_10 (by decide) ?_
    cases h
    exact (op_iret dX11_feet_11 rfl (by decide) ⟨rfl, rfl⟩)
theorem t_X11_feet {l : Launch} {ρ : am_R} {n d gc gs : Nat} {I : Nat → Nat → Int32} {J : Nat → Nat → Int64} {T : Nat} {x1 : Int32} {q : Int32 × (Nat → Nat → Int32)} (hd : 0 * n + 1 ≤ d) (h : f_X11_feet n I J T x1 = some q) : AW l ρ d M_X11_feet 0 [(0, .ref 0), (1, .int x1)] [] (am_KD, gc, gs) (I, J, am_RT T) (am_KD, gc, gs) (fun v H' => v = [.int q.1] ∧ H' = (q.2, J, am_RT T)) := by
  obtain ⟨d, rfl⟩ : ∃ e, d = e + 1 := ⟨d - 1, by omega⟩
  exact t_X11_feet_0 hd h
def f_X11_isRider (n : Nat) (I : Nat → Nat → Int32) (J : Nat → Nat → Int64) (T : Nat) (x1 : Int32) : Option (Int32) :=
  if x1 < 0 then
   some (0)
  else
   if (I 3 1) ≤ x1 then
    some (0)
   else
    some (1)
set_option maxRecDepth 100000 in
set_option maxHeartbeats 4000000 in
theorem t_X11_isRider_0 {l : Launch} {ρ : am_R} {n d gc gs : Nat} {I : Nat → Nat → Int32} {J : Nat → Nat → Int64} {T : Nat} {x1 : Int32} {q : Int32} (hd : 0 * n + 0 ≤ d)
    (h : f_X11_isRider n  I J T x1 = some q) : AW l ρ d M_X11_isRider 0 [(0, .ref 0), (1, .int x1)] [] (am_KD, gc, gs) (I, J, am_RT T) (am_KD, gc, gs) (fun v H' => v = [.int q] ∧ H' = (I, J, am_RT T)) := by
  unfold f_X11_isRider at h
  refine op_iload_n (k := 1) dX11_isRider_0 rfl rfl ?_
  refine op_if_lt (tgt := 19) dX11_isRider_1 (by decide) (fun c1 => ?_) (fun c1 => ?_)
  · replace h := am_ip c1 h
    refine op_iconst (v := 0) dX11_isRider_19 (by decide) ?_
    cases h
    exact (op_iret dX11_isRider_20 rfl (by decide) ⟨rfl, rfl⟩)
  · replace h := am_ie c1 h
    refine op_iload_n (k := 1) dX11_isRider_4 rfl rfl ?_
    refine op_aload_n (k := 0) dX11_isRider_5 rfl rfl ?_
    refine st_getR (z := 3) dX11_isRider_6 fl_X11_19 kd_0 (by decide) rfl rr_0_1 ?_
    refine st_getI (v := I 3 1) dX11_isRider_9 fl_X11_143 kd_3 (by decide) rfl rfl ?_
    refine op_icmp_ge (tgt := 19) dX11_isRider_12 (by decide) (fun c2 => ?_) (fun c2 => ?_)
    · replace h := am_ip c2 h
      refine op_iconst (v := 0) dX11_isRider_19 (by decide) ?_
      cases h
      exact (op_iret dX11_isRider_20 rfl (by decide) ⟨rfl, rfl⟩)
    · replace h := am_ie c2 h
      refine op_iconst (v := 1) dX11_isRider_15 (by decide) ?_
      refine op_goto (tgt := 20) dX11_isRider_16 (by decide) ?_
      cases h
      exact (op_iret dX11_isRider_20 rfl (by decide) ⟨rfl, rfl⟩)
theorem t_X11_isRider {l : Launch} {ρ : am_R} {n d gc gs : Nat} {I : Nat → Nat → Int32} {J : Nat → Nat → Int64} {T : Nat} {x1 : Int32} {q : Int32} (hd : 0 * n + 0 ≤ d) (h : f_X11_isRider n I J T x1 = some q) : AW l ρ d M_X11_isRider 0 [(0, .ref 0), (1, .int x1)] [] (am_KD, gc, gs) (I, J, am_RT T) (am_KD, gc, gs) (fun v H' => v = [.int q] ∧ H' = (I, J, am_RT T)) := t_X11_isRider_0 hd h
def f_X8_hold_25 (n : Nat) : Nat → (Nat → Nat → Int32) → (Nat → Nat → Int64) → Nat → Int32 → Int32 → Option (Int32 × (Nat → Nat → Int32))
  | 0, _, _, _, _, _ => none
  | m + 1, I, J, T, x1, x2 =>
    if (I 37 5) ≤ x2 then
     some (1, I)
    else
     if ok_ix x2 10 then
      (f_X7_above n I J T (I 38 x2.toNatClampNeg) x1).bind fun w3 =>
      if ok_ix x2 10 then
       if ok_ix x2 10 then
        (f_X7_below n w3.2 J T x1).bind fun w6 =>
        if (lg_cmp (w3.1 * ((w3.2 40 x2.toNatClampNeg).toInt64)) (((w3.2 39 x2.toNatClampNeg).toInt64) * w6)) = 0 then
         f_X8_hold_25 n  m w3.2 J T x1 (x2 + 1)
        else
         some (0, w3.2)
       else none
      else none
     else none
def f_X8_hold (n : Nat) (I : Nat → Nat → Int32) (J : Nat → Nat → Int64) (T : Nat) : Option (Int32 × (Nat → Nat → Int32)) :=
  (f_X2_everyone n I J T).bind fun w1 =>
  (f_X7_weigh n I J T 0 (I 3 1)).bind fun w2 =>
  f_X8_hold_25 n  n w2 J T w1 0
set_option maxRecDepth 100000 in
set_option maxHeartbeats 4000000 in
theorem t_X8_hold_25 {l : Launch} {ρ : am_R} {n d gc gs : Nat} {q : Int32 × (Nat → Nat → Int32)} (hd : 0 * n + 6 ≤ (d + 1))
    : ∀ (m : Nat) (I : Nat → Nat → Int32) (J : Nat → Nat → Int64) (T : Nat) (x1 : Int32) (x2 : Int32), f_X8_hold_25 n  m I J T x1 x2 = some q → AW l ρ (d + 1) M_X8_hold 25 [(0, .ref 37), (1, .int x1), (2, .int x2)] [] (am_KD, gc, gs) (I, J, am_RT T) (am_KD, gc, gs) (fun v H' => v = [.int q.1] ∧ H' = (q.2, J, am_RT T)) := by
  intro m
  induction m with
  | zero =>
    intro I J T x1 x2 h
    rw [f_X8_hold_25] at h
    cases h
  | succ m ih =>
    intro I J T x1 x2 h
    rw [f_X8_hold_25] at h
    refine op_iload_n (k := 2) dX8_hold_25 rfl rfl ?_
    refine op_aload_n (k := 0) dX8_hold_26 rfl rfl ?_
    refine st_getI (v := I 37 5) dX8_hold_27 fl_X8_29 kd_37 (by decide) rfl rfl ?_
    refine op_icmp_ge (tgt := 85) dX8_hold_30 (by decide) (fun c1 => ?_) (fun c1 => ?_)
    · replace h := am_ip c1 h
      refine op_iconst (v := 1) dX8_hold_85 (by decide) ?_
      cases h
      exact (op_iret dX8_hold_86 rfl (by decide) ⟨rfl, rfl⟩)
    · replace h := am_ie c1 h
      refine op_aload_n (k := 0) dX8_hold_33 rfl rfl ?_
      refine st_getR (z := 27) dX8_hold_34 fl_X8_25 kd_37 (by decide) rfl rr_37_1 ?_
      refine op_aload_n (k := 0) dX8_hold_37 rfl rfl ?_
      refine st_getR (z := 38) dX8_hold_38 fl_X8_11 kd_37 (by decide) rfl rr_37_2 ?_
      refine op_iload_n (k := 2) dX8_hold_41 rfl rfl ?_
      obtain ⟨g2, h⟩ := am_gd h
      refine st_iald (k := x2.toNatClampNeg) (v := I 38 x2.toNatClampNeg) dX8_hold_42 kd_38 g2 rfl rfl ?_
      refine op_iload_n (k := 1) dX8_hold_43 rfl rfl ?_
      obtain ⟨w3, ew3, h⟩ := am_bd h
      refine op_callV (M' := M_X7_above) [.int (I 38 x2.toNatClampNeg), .int x1] (S0 := []) dX8_hold_44 tw_1053 ok_X7_above tw_861 tw_862 kd_27 cls_7 rfl rfl rfl (Nat.le_of_ble_eq_true rfl) (Nat.le_of_ble_eq_true rfl) (t_X7_above (by omega) ew3) (am_le_rf _) ?_
      rintro _ _ ⟨rfl, rfl⟩
      refine op_aload_n (k := 0) dX8_hold_47 rfl rfl ?_
      refine st_getR (z := 40) dX8_hold_48 fl_X8_18 kd_37 (by decide) rfl rr_37_4 ?_
      refine op_iload_n (k := 2) dX8_hold_51 rfl rfl ?_
      obtain ⟨g4, h⟩ := am_gd h
      refine st_iald (k := x2.toNatClampNeg) (v := w3.2 40 x2.toNatClampNeg) dX8_hold_52 kd_40 g4 rfl rfl ?_
      refine op_i2l dX8_hold_53 ?_
      refine op_lmul dX8_hold_54 ?_
      refine op_lstore_n (L' := [(3, .long (w3.1 * ((w3.2 40 x2.toNatClampNeg).toInt64))), (0, .ref 37), (1, .int x1), (2, .int x2)]) dX8_hold_55 rfl (by decide) rfl ?_
      refine op_lload_n (k := 0) dX8_hold_56 rfl rfl ?_
      refine op_aload_n (k := 1) dX8_hold_57 rfl rfl ?_
      refine st_getR (z := 39) dX8_hold_58 fl_X8_15 kd_37 (by decide) rfl rr_37_3 ?_
      refine op_iload_n (k := 3) dX8_hold_61 rfl rfl ?_
      obtain ⟨g5, h⟩ := am_gd h
      refine st_iald (k := x2.toNatClampNeg) (v := w3.2 39 x2.toNatClampNeg) dX8_hold_62 kd_39 g5 rfl rfl ?_
      refine op_i2l dX8_hold_63 ?_
      refine op_aload_n (k := 1) dX8_hold_64 rfl rfl ?_
      refine st_getR (z := 27) dX8_hold_65 fl_X8_25 kd_37 (by decide) rfl rr_37_1 ?_
      refine op_iload_n (k := 2) dX8_hold_68 rfl rfl ?_
      obtain ⟨w6, ew6, h⟩ := am_bd h
      refine op_callV (M' := M_X7_below) [.int x1] (S0 := [.long ((w3.2 39 x2.toNatClampNeg).toInt64), .long (w3.1 * ((w3.2 40 x2.toNatClampNeg).toInt64))]) dX8_hold_69 tw_1054 ok_X7_below tw_890 tw_891 kd_27 cls_7 rfl rfl rfl (Nat.le_of_ble_eq_true rfl) (Nat.le_of_ble_eq_true rfl) (t_X7_below (by omega) ew6) (am_le_rf _) ?_
      rintro _ _ ⟨rfl, rfl⟩
      refine op_lmul dX8_hold_72 ?_
      refine op_lcmp dX8_hold_73 ?_
      refine op_if_eq (tgt := 79) dX8_hold_74 (by decide) (fun c7 => ?_) (fun c7 => ?_)
      · replace h := am_ip c7 h
        refine op_iinc (k := 3) (v := x2 + 1) (L' := [(2, .int (x2 + 1)), (3, .long (w3.1 * ((w3.2 40 x2.toNatClampNeg).toInt64))), (0, .ref 37), (1, .int x1)]) dX8_hold_79 rfl rfl (by decide) rfl ?_
        refine op_goto (tgt := 25) dX8_hold_82 (by decide) ?_
        refine AW.perm [2, 3, 0] rfl ?_
        exact ih _ _ _ _ _ h
      · replace h := am_ie c7 h
        refine op_iconst (v := 0) dX8_hold_77 (by decide) ?_
        cases h
        exact (op_iret dX8_hold_78 rfl (by decide) ⟨rfl, rfl⟩)
set_option maxRecDepth 100000 in
set_option maxHeartbeats 4000000 in
theorem t_X8_hold_0 {l : Launch} {ρ : am_R} {n d gc gs : Nat} {I : Nat → Nat → Int32} {J : Nat → Nat → Int64} {T : Nat} {q : Int32 × (Nat → Nat → Int32)} (hd : 0 * n + 6 ≤ (d + 1))
    (h : f_X8_hold n  I J T  = some q) : AW l ρ (d + 1) M_X8_hold 0 [(0, .ref 37)] [] (am_KD, gc, gs) (I, J, am_RT T) (am_KD, gc, gs) (fun v H' => v = [.int q.1] ∧ H' = (q.2, J, am_RT T)) := by
  unfold f_X8_hold at h
  refine op_aload_n (k := 0) dX8_hold_0 rfl rfl ?_
  refine st_getR (z := 3) dX8_hold_1 fl_X8_21 kd_37 (by decide) rfl rr_37_0 ?_
  obtain ⟨w1, ew1, h⟩ := am_bd h
  refine op_callV (M' := M_X2_everyone) [] (S0 := []) dX8_hold_4 tw_1051 ok_X2_everyone tw_763 tw_764 kd_3 cls_2 rfl rfl rfl (Nat.le_of_ble_eq_true rfl) (Nat.le_of_ble_eq_true rfl) (t_X2_everyone (by omega) ew1) (am_le_rf _) ?_
  rintro _ _ ⟨rfl, rfl⟩
  refine op_istore_n (L' := [(1, .int w1), (0, .ref 37)]) dX8_hold_7 rfl (by decide) rfl ?_
  refine op_aload_n (k := 1) dX8_hold_8 rfl rfl ?_
  refine st_getR (z := 27) dX8_hold_9 fl_X8_25 kd_37 (by decide) rfl rr_37_1 ?_
  refine op_iconst (v := 0) dX8_hold_12 (by decide) ?_
  refine op_aload_n (k := 1) dX8_hold_13 rfl rfl ?_
  refine st_getR (z := 3) dX8_hold_14 fl_X8_21 kd_37 (by decide) rfl rr_37_0 ?_
  refine st_getI (v := I 3 1) dX8_hold_17 fl_X8_39 kd_3 (by decide) rfl rfl ?_
  obtain ⟨w2, ew2, h⟩ := am_bd h
  refine op_callV (M' := M_X7_weigh) [.int 0, .int (I 3 1)] (S0 := []) dX8_hold_20 tw_1052 ok_X7_weigh tw_803 tw_804 kd_27 cls_7 rfl rfl rfl (Nat.le_of_ble_eq_true rfl) (Nat.le_of_ble_eq_true rfl) (t_X7_weigh (by omega) ew2) (am_le_rf _) ?_
  rintro _ _ ⟨rfl, rfl⟩
  refine op_iconst (v := 0) dX8_hold_23 (by decide) ?_
  refine op_istore_n (L' := [(2, .int 0), (1, .int w1), (0, .ref 37)]) dX8_hold_24 rfl (by decide) rfl ?_
  refine AW.perm [2, 1, 0] rfl ?_
  exact t_X8_hold_25 hd  n _ _ _ _ _ h
theorem t_X8_hold {l : Launch} {ρ : am_R} {n d gc gs : Nat} {I : Nat → Nat → Int32} {J : Nat → Nat → Int64} {T : Nat} {q : Int32 × (Nat → Nat → Int32)} (hd : 0 * n + 6 ≤ d) (h : f_X8_hold n I J T  = some q) : AW l ρ d M_X8_hold 0 [(0, .ref 37)] [] (am_KD, gc, gs) (I, J, am_RT T) (am_KD, gc, gs) (fun v H' => v = [.int q.1] ∧ H' = (q.2, J, am_RT T)) := by
  obtain ⟨d, rfl⟩ : ∃ e, d = e + 1 := ⟨d - 1, by omega⟩
  exact t_X8_hold_0 hd h
def f_X11_fits_65 (n : Nat) (k25 : (Nat → Nat → Int32) → (Nat → Nat → Int64) → Nat → Int32 → Int32 → Int32 → Int32 → Option (Int32 × (Nat → Nat → Int32))) (I : Nat → Nat → Int32) (J : Nat → Nat → Int64) (T : Nat) (x1 : Int32) (x2 : Int32) (x3 : Int32) (x4 : Int32) : Option (Int32 × (Nat → Nat → Int32)) :=
  k25 I J T x1 x2 x3 (x4 + 1)
def f_X11_fits_25 (n : Nat) : Nat → (Nat → Nat → Int32) → (Nat → Nat → Int64) → Nat → Int32 → Int32 → Int32 → Int32 → Option (Int32 × (Nat → Nat → Int32))
  | 0, _, _, _, _, _, _, _ => none
  | m + 1, I, J, T, x1, x2, x3, x4 =>
    if (I 3 0) < x4 then
     if ok_ix x1 6 then
      some (x3, (am_u I 6 x1.toNatClampNeg x2))
     else none
    else
     if ok_ix x1 6 then
      (f_X8_hold n ((am_u I 6 x1.toNatClampNeg x4)) J T).bind fun w4 =>
      if w4.1 = 0 then
       f_X11_fits_65 n (f_X11_fits_25 n m) w4.2 J T x1 x2 x3 x4
      else
       f_X11_fits_65 n (f_X11_fits_25 n m) w4.2 J T x1 x2 (x3 ||| (1 <<< (x4 &&& 31))) x4
     else none
def f_X11_fits (n : Nat) (I : Nat → Nat → Int32) (J : Nat → Nat → Int64) (T : Nat) (x1 : Int32) : Option (Int32 × (Nat → Nat → Int32)) :=
  (f_X11_isRider n I J T x1).bind fun w1 =>
  if w1 = 0 then
   some ((-1), I)
  else
   if ok_ix x1 6 then
    f_X11_fits_25 n  n I J T x1 (I 6 x1.toNatClampNeg) 0 1
   else none
set_option maxRecDepth 100000 in
set_option maxHeartbeats 4000000 in
theorem t_X11_fits_65 {l : Launch} {ρ : am_R} {n d gc gs : Nat} {k25 : (Nat → Nat → Int32) → (Nat → Nat → Int64) → Nat → Int32 → Int32 → Int32 → Int32 → Option (Int32 × (Nat → Nat → Int32))} {I : Nat → Nat → Int32} {J : Nat → Nat → Int64} {T : Nat} {x1 : Int32} {x2 : Int32} {x3 : Int32} {x4 : Int32} {q : Int32 × (Nat → Nat → Int32)} (hd : 0 * n + 7 ≤ (d + 1))
    (hk25 : ∀ (I : Nat → Nat → Int32) (J : Nat → Nat → Int64) (T : Nat) (x1 : Int32) (x2 : Int32) (x3 : Int32) (x4 : Int32), k25 I J T x1 x2 x3 x4 = some q → AW l ρ (d + 1) M_X11_fits 25 [(0, .ref 0), (1, .int x1), (2, .int x2), (3, .int x3), (4, .int x4)] [] (am_KD, gc, gs) (I, J, am_RT T) (am_KD, gc, gs) (fun v H' => v = [.int q.1] ∧ H' = (q.2, J, am_RT T)))
    (h : f_X11_fits_65 n k25 I J T x1 x2 x3 x4 = some q) : AW l ρ (d + 1) M_X11_fits 65 [(0, .ref 0), (1, .int x1), (2, .int x2), (3, .int x3), (4, .int x4)] [] (am_KD, gc, gs) (I, J, am_RT T) (am_KD, gc, gs) (fun v H' => v = [.int q.1] ∧ H' = (q.2, J, am_RT T)) := by
  unfold f_X11_fits_65 at h
  refine op_iinc (k := 4) (v := x4 + 1) (L' := [(4, .int (x4 + 1)), (0, .ref 0), (1, .int x1), (2, .int x2), (3, .int x3)]) dX11_fits_65 rfl rfl (by decide) rfl ?_
  refine op_goto (tgt := 25) dX11_fits_68 (by decide) ?_
  refine AW.perm [1, 2, 3, 4, 0] rfl ?_
  exact hk25 _ _ _ _ _ _ _ h
set_option maxRecDepth 100000 in
set_option maxHeartbeats 4000000 in
theorem t_X11_fits_25 {l : Launch} {ρ : am_R} {n d gc gs : Nat} {q : Int32 × (Nat → Nat → Int32)} (hd : 0 * n + 7 ≤ (d + 1))
    : ∀ (m : Nat) (I : Nat → Nat → Int32) (J : Nat → Nat → Int64) (T : Nat) (x1 : Int32) (x2 : Int32) (x3 : Int32) (x4 : Int32), f_X11_fits_25 n  m I J T x1 x2 x3 x4 = some q → AW l ρ (d + 1) M_X11_fits 25 [(0, .ref 0), (1, .int x1), (2, .int x2), (3, .int x3), (4, .int x4)] [] (am_KD, gc, gs) (I, J, am_RT T) (am_KD, gc, gs) (fun v H' => v = [.int q.1] ∧ H' = (q.2, J, am_RT T)) := by
  intro m
  induction m with
  | zero =>
    intro I J T x1 x2 x3 x4 h
    rw [f_X11_fits_25] at h
    cases h
  | succ m ih =>
    intro I J T x1 x2 x3 x4 h
    rw [f_X11_fits_25] at h
    refine op_iload (k := 4) dX11_fits_25 rfl ?_
    refine op_aload_n (k := 0) dX11_fits_27 rfl rfl ?_
    refine st_getR (z := 3) dX11_fits_28 fl_X11_19 kd_0 (by decide) rfl rr_0_1 ?_
    refine st_getI (v := I 3 0) dX11_fits_31 fl_X11_295 kd_3 (by decide) rfl rfl ?_
    refine op_icmp_gt (tgt := 71) dX11_fits_34 (by decide) (fun c1 => ?_) (fun c1 => ?_)
    · replace h := am_ip c1 h
      refine op_aload_n (k := 0) dX11_fits_71 rfl rfl ?_
      refine st_getR (z := 3) dX11_fits_72 fl_X11_19 kd_0 (by decide) rfl rr_0_1 ?_
      refine st_getR (z := 6) dX11_fits_75 fl_X11_165 kd_3 (by decide) rfl rr_3_7 ?_
      refine op_iload_n (k := 1) dX11_fits_78 rfl rfl ?_
      refine op_iload_n (k := 2) dX11_fits_79 rfl rfl ?_
      obtain ⟨g2, h⟩ := am_gd h
      refine st_iast (k := x1.toNatClampNeg) dX11_fits_80 kd_6 g2 rfl ?_
      refine op_iload_n (k := 3) dX11_fits_81 rfl rfl ?_
      cases h
      exact (op_iret dX11_fits_82 rfl rfl ⟨rfl, rfl⟩)
    · replace h := am_ie c1 h
      refine op_aload_n (k := 0) dX11_fits_37 rfl rfl ?_
      refine st_getR (z := 3) dX11_fits_38 fl_X11_19 kd_0 (by decide) rfl rr_0_1 ?_
      refine st_getR (z := 6) dX11_fits_41 fl_X11_165 kd_3 (by decide) rfl rr_3_7 ?_
      refine op_iload_n (k := 1) dX11_fits_44 rfl rfl ?_
      refine op_iload (k := 4) dX11_fits_45 rfl ?_
      obtain ⟨g3, h⟩ := am_gd h
      refine st_iast (k := x1.toNatClampNeg) dX11_fits_47 kd_6 g3 rfl ?_
      refine op_aload_n (k := 0) dX11_fits_48 rfl rfl ?_
      refine st_getR (z := 37) dX11_fits_49 fl_X11_88 kd_0 (by decide) rfl rr_0_10 ?_
      obtain ⟨w4, ew4, h⟩ := am_bd h
      refine op_callV (M' := M_X8_hold) [] (S0 := []) dX11_fits_52 tw_1047 ok_X8_hold tw_1048 tw_1049 kd_37 cls_8 rfl rfl rfl (Nat.le_of_ble_eq_true rfl) (Nat.le_of_ble_eq_true rfl) (t_X8_hold (by omega) ew4) (am_le_rf _) ?_
      rintro _ _ ⟨rfl, rfl⟩
      refine op_if_eq (tgt := 65) dX11_fits_55 (by decide) (fun c5 => ?_) (fun c5 => ?_)
      · replace h := am_ip c5 h
        exact t_X11_fits_65 hd ih h
      · replace h := am_ie c5 h
        refine op_iload_n (k := 3) dX11_fits_58 rfl rfl ?_
        refine op_iconst (v := 1) dX11_fits_59 (by decide) ?_
        refine op_iload (k := 4) dX11_fits_60 rfl ?_
        refine op_ishl dX11_fits_62 ?_
        refine op_ior dX11_fits_63 ?_
        refine op_istore_n (L' := [(3, .int (x3 ||| (1 <<< (x4 &&& 31)))), (0, .ref 0), (1, .int x1), (2, .int x2), (4, .int x4)]) dX11_fits_64 rfl (by decide) rfl ?_
        refine AW.perm [1, 2, 3, 0, 4] rfl ?_
        exact t_X11_fits_65 hd ih h
set_option maxRecDepth 100000 in
set_option maxHeartbeats 4000000 in
theorem t_X11_fits_0 {l : Launch} {ρ : am_R} {n d gc gs : Nat} {I : Nat → Nat → Int32} {J : Nat → Nat → Int64} {T : Nat} {x1 : Int32} {q : Int32 × (Nat → Nat → Int32)} (hd : 0 * n + 7 ≤ (d + 1))
    (h : f_X11_fits n  I J T x1 = some q) : AW l ρ (d + 1) M_X11_fits 0 [(0, .ref 0), (1, .int x1)] [] (am_KD, gc, gs) (I, J, am_RT T) (am_KD, gc, gs) (fun v H' => v = [.int q.1] ∧ H' = (q.2, J, am_RT T)) := by
  unfold f_X11_fits at h
  refine op_aload_n (k := 0) dX11_fits_0 rfl rfl ?_
  refine op_iload_n (k := 1) dX11_fits_1 rfl rfl ?_
  obtain ⟨w1, ew1, h⟩ := am_bd h
  refine op_callV (M' := M_X11_isRider) [.int x1] (S0 := []) dX11_fits_2 tw_742 ok_X11_isRider tw_744 tw_25 kd_0 cls_11 rfl rfl rfl (Nat.le_of_ble_eq_true rfl) (Nat.le_of_ble_eq_true rfl) (t_X11_isRider (by omega) ew1) (am_le_rf _) ?_
  rintro _ _ ⟨rfl, rfl⟩
  refine op_if_ne (tgt := 10) dX11_fits_5 (by decide) (fun c2 => ?_) (fun c2 => ?_)
  · replace h := am_ie c2 h
    refine op_aload_n (k := 0) dX11_fits_10 rfl rfl ?_
    refine st_getR (z := 3) dX11_fits_11 fl_X11_19 kd_0 (by decide) rfl rr_0_1 ?_
    refine st_getR (z := 6) dX11_fits_14 fl_X11_165 kd_3 (by decide) rfl rr_3_7 ?_
    refine op_iload_n (k := 1) dX11_fits_17 rfl rfl ?_
    obtain ⟨g3, h⟩ := am_gd h
    refine st_iald (k := x1.toNatClampNeg) (v := I 6 x1.toNatClampNeg) dX11_fits_18 kd_6 g3 rfl rfl ?_
    refine op_istore_n (L' := [(2, .int (I 6 x1.toNatClampNeg)), (0, .ref 0), (1, .int x1)]) dX11_fits_19 rfl (by decide) rfl ?_
    refine op_iconst (v := 0) dX11_fits_20 (by decide) ?_
    refine op_istore_n (L' := [(3, .int 0), (2, .int (I 6 x1.toNatClampNeg)), (0, .ref 0), (1, .int x1)]) dX11_fits_21 rfl (by decide) rfl ?_
    refine op_iconst (v := 1) dX11_fits_22 (by decide) ?_
    refine op_istore (L' := [(4, .int 1), (3, .int 0), (2, .int (I 6 x1.toNatClampNeg)), (0, .ref 0), (1, .int x1)]) dX11_fits_23 (by decide) rfl ?_
    refine AW.perm [3, 4, 2, 1, 0] rfl ?_
    exact t_X11_fits_25 hd  n _ _ _ _ _ _ _ h
  · replace h := am_ip c2 h
    refine op_iconst (v := (-1)) dX11_fits_8 (by decide) ?_
    cases h
    exact (op_iret dX11_fits_9 rfl rfl ⟨rfl, rfl⟩)
theorem t_X11_fits {l : Launch} {ρ : am_R} {n d gc gs : Nat} {I : Nat → Nat → Int32} {J : Nat → Nat → Int64} {T : Nat} {x1 : Int32} {q : Int32 × (Nat → Nat → Int32)} (hd : 0 * n + 7 ≤ d) (h : f_X11_fits n I J T x1 = some q) : AW l ρ d M_X11_fits 0 [(0, .ref 0), (1, .int x1)] [] (am_KD, gc, gs) (I, J, am_RT T) (am_KD, gc, gs) (fun v H' => v = [.int q.1] ∧ H' = (q.2, J, am_RT T)) := by
  obtain ⟨d, rfl⟩ : ∃ e, d = e + 1 := ⟨d - 1, by omega⟩
  exact t_X11_fits_0 hd h
def f_X2_become_v2 (n : Nat) (I : Nat → Nat → Int32) (J : Nat → Nat → Int64) (T : Nat) : Option ((Nat → Nat → Int32)) :=
  some ((am_row (am_row (am_row (am_row (am_row (am_u (am_u (am_u (am_u (am_u I 44 0 (I 3 0)) 44 1 (I 3 1)) 44 2 (I 3 2)) 44 3 (I 3 3)) 44 4 (I 3 4)) 45 ((fun a => if a < 10 then (am_u (am_u (am_u (am_u (am_u I 44 0 (I 3 0)) 44 1 (I 3 1)) 44 2 (I 3 2)) 44 3 (I 3 3)) 44 4 (I 3 4)) 4 a else (am_u (am_u (am_u (am_u (am_u I 44 0 (I 3 0)) 44 1 (I 3 1)) 44 2 (I 3 2)) 44 3 (I 3 3)) 44 4 (I 3 4)) 45 a))) 46 ((fun a => if a < 10 then (am_row (am_u (am_u (am_u (am_u (am_u I 44 0 (I 3 0)) 44 1 (I 3 1)) 44 2 (I 3 2)) 44 3 (I 3 3)) 44 4 (I 3 4)) 45 ((fun a => if a < 10 then (am_u (am_u (am_u (am_u (am_u I 44 0 (I 3 0)) 44 1 (I 3 1)) 44 2 (I 3 2)) 44 3 (I 3 3)) 44 4 (I 3 4)) 4 a else (am_u (am_u (am_u (am_u (am_u I 44 0 (I 3 0)) 44 1 (I 3 1)) 44 2 (I 3 2)) 44 3 (I 3 3)) 44 4 (I 3 4)) 45 a))) 5 a else (am_row (am_u (am_u (am_u (am_u (am_u I 44 0 (I 3 0)) 44 1 (I 3 1)) 44 2 (I 3 2)) 44 3 (I 3 3)) 44 4 (I 3 4)) 45 ((fun a => if a < 10 then (am_u (am_u (am_u (am_u (am_u I 44 0 (I 3 0)) 44 1 (I 3 1)) 44 2 (I 3 2)) 44 3 (I 3 3)) 44 4 (I 3 4)) 4 a else (am_u (am_u (am_u (am_u (am_u I 44 0 (I 3 0)) 44 1 (I 3 1)) 44 2 (I 3 2)) 44 3 (I 3 3)) 44 4 (I 3 4)) 45 a))) 46 a))) 47 ((fun a => if a < 6 then (am_row (am_row (am_u (am_u (am_u (am_u (am_u I 44 0 (I 3 0)) 44 1 (I 3 1)) 44 2 (I 3 2)) 44 3 (I 3 3)) 44 4 (I 3 4)) 45 ((fun a => if a < 10 then (am_u (am_u (am_u (am_u (am_u I 44 0 (I 3 0)) 44 1 (I 3 1)) 44 2 (I 3 2)) 44 3 (I 3 3)) 44 4 (I 3 4)) 4 a else (am_u (am_u (am_u (am_u (am_u I 44 0 (I 3 0)) 44 1 (I 3 1)) 44 2 (I 3 2)) 44 3 (I 3 3)) 44 4 (I 3 4)) 45 a))) 46 ((fun a => if a < 10 then (am_row (am_u (am_u (am_u (am_u (am_u I 44 0 (I 3 0)) 44 1 (I 3 1)) 44 2 (I 3 2)) 44 3 (I 3 3)) 44 4 (I 3 4)) 45 ((fun a => if a < 10 then (am_u (am_u (am_u (am_u (am_u I 44 0 (I 3 0)) 44 1 (I 3 1)) 44 2 (I 3 2)) 44 3 (I 3 3)) 44 4 (I 3 4)) 4 a else (am_u (am_u (am_u (am_u (am_u I 44 0 (I 3 0)) 44 1 (I 3 1)) 44 2 (I 3 2)) 44 3 (I 3 3)) 44 4 (I 3 4)) 45 a))) 5 a else (am_row (am_u (am_u (am_u (am_u (am_u I 44 0 (I 3 0)) 44 1 (I 3 1)) 44 2 (I 3 2)) 44 3 (I 3 3)) 44 4 (I 3 4)) 45 ((fun a => if a < 10 then (am_u (am_u (am_u (am_u (am_u I 44 0 (I 3 0)) 44 1 (I 3 1)) 44 2 (I 3 2)) 44 3 (I 3 3)) 44 4 (I 3 4)) 4 a else (am_u (am_u (am_u (am_u (am_u I 44 0 (I 3 0)) 44 1 (I 3 1)) 44 2 (I 3 2)) 44 3 (I 3 3)) 44 4 (I 3 4)) 45 a))) 46 a))) 6 a else (am_row (am_row (am_u (am_u (am_u (am_u (am_u I 44 0 (I 3 0)) 44 1 (I 3 1)) 44 2 (I 3 2)) 44 3 (I 3 3)) 44 4 (I 3 4)) 45 ((fun a => if a < 10 then (am_u (am_u (am_u (am_u (am_u I 44 0 (I 3 0)) 44 1 (I 3 1)) 44 2 (I 3 2)) 44 3 (I 3 3)) 44 4 (I 3 4)) 4 a else (am_u (am_u (am_u (am_u (am_u I 44 0 (I 3 0)) 44 1 (I 3 1)) 44 2 (I 3 2)) 44 3 (I 3 3)) 44 4 (I 3 4)) 45 a))) 46 ((fun a => if a < 10 then (am_row (am_u (am_u (am_u (am_u (am_u I 44 0 (I 3 0)) 44 1 (I 3 1)) 44 2 (I 3 2)) 44 3 (I 3 3)) 44 4 (I 3 4)) 45 ((fun a => if a < 10 then (am_u (am_u (am_u (am_u (am_u I 44 0 (I 3 0)) 44 1 (I 3 1)) 44 2 (I 3 2)) 44 3 (I 3 3)) 44 4 (I 3 4)) 4 a else (am_u (am_u (am_u (am_u (am_u I 44 0 (I 3 0)) 44 1 (I 3 1)) 44 2 (I 3 2)) 44 3 (I 3 3)) 44 4 (I 3 4)) 45 a))) 5 a else (am_row (am_u (am_u (am_u (am_u (am_u I 44 0 (I 3 0)) 44 1 (I 3 1)) 44 2 (I 3 2)) 44 3 (I 3 3)) 44 4 (I 3 4)) 45 ((fun a => if a < 10 then (am_u (am_u (am_u (am_u (am_u I 44 0 (I 3 0)) 44 1 (I 3 1)) 44 2 (I 3 2)) 44 3 (I 3 3)) 44 4 (I 3 4)) 4 a else (am_u (am_u (am_u (am_u (am_u I 44 0 (I 3 0)) 44 1 (I 3 1)) 44 2 (I 3 2)) 44 3 (I 3 3)) 44 4 (I 3 4)) 45 a))) 46 a))) 47 a))) 48 ((fun a => if a < 6 then (am_row (am_row (am_row (am_u (am_u (am_u (am_u (am_u I 44 0 (I 3 0)) 44 1 (I 3 1)) 44 2 (I 3 2)) 44 3 (I 3 3)) 44 4 (I 3 4)) 45 ((fun a => if a < 10 then (am_u (am_u (am_u (am_u (am_u I 44 0 (I 3 0)) 44 1 (I 3 1)) 44 2 (I 3 2)) 44 3 (I 3 3)) 44 4 (I 3 4)) 4 a else (am_u (am_u (am_u (am_u (am_u I 44 0 (I 3 0)) 44 1 (I 3 1)) 44 2 (I 3 2)) 44 3 (I 3 3)) 44 4 (I 3 4)) 45 a))) 46 ((fun a => if a < 10 then (am_row (am_u (am_u (am_u (am_u (am_u I 44 0 (I 3 0)) 44 1 (I 3 1)) 44 2 (I 3 2)) 44 3 (I 3 3)) 44 4 (I 3 4)) 45 ((fun a => if a < 10 then (am_u (am_u (am_u (am_u (am_u I 44 0 (I 3 0)) 44 1 (I 3 1)) 44 2 (I 3 2)) 44 3 (I 3 3)) 44 4 (I 3 4)) 4 a else (am_u (am_u (am_u (am_u (am_u I 44 0 (I 3 0)) 44 1 (I 3 1)) 44 2 (I 3 2)) 44 3 (I 3 3)) 44 4 (I 3 4)) 45 a))) 5 a else (am_row (am_u (am_u (am_u (am_u (am_u I 44 0 (I 3 0)) 44 1 (I 3 1)) 44 2 (I 3 2)) 44 3 (I 3 3)) 44 4 (I 3 4)) 45 ((fun a => if a < 10 then (am_u (am_u (am_u (am_u (am_u I 44 0 (I 3 0)) 44 1 (I 3 1)) 44 2 (I 3 2)) 44 3 (I 3 3)) 44 4 (I 3 4)) 4 a else (am_u (am_u (am_u (am_u (am_u I 44 0 (I 3 0)) 44 1 (I 3 1)) 44 2 (I 3 2)) 44 3 (I 3 3)) 44 4 (I 3 4)) 45 a))) 46 a))) 47 ((fun a => if a < 6 then (am_row (am_row (am_u (am_u (am_u (am_u (am_u I 44 0 (I 3 0)) 44 1 (I 3 1)) 44 2 (I 3 2)) 44 3 (I 3 3)) 44 4 (I 3 4)) 45 ((fun a => if a < 10 then (am_u (am_u (am_u (am_u (am_u I 44 0 (I 3 0)) 44 1 (I 3 1)) 44 2 (I 3 2)) 44 3 (I 3 3)) 44 4 (I 3 4)) 4 a else (am_u (am_u (am_u (am_u (am_u I 44 0 (I 3 0)) 44 1 (I 3 1)) 44 2 (I 3 2)) 44 3 (I 3 3)) 44 4 (I 3 4)) 45 a))) 46 ((fun a => if a < 10 then (am_row (am_u (am_u (am_u (am_u (am_u I 44 0 (I 3 0)) 44 1 (I 3 1)) 44 2 (I 3 2)) 44 3 (I 3 3)) 44 4 (I 3 4)) 45 ((fun a => if a < 10 then (am_u (am_u (am_u (am_u (am_u I 44 0 (I 3 0)) 44 1 (I 3 1)) 44 2 (I 3 2)) 44 3 (I 3 3)) 44 4 (I 3 4)) 4 a else (am_u (am_u (am_u (am_u (am_u I 44 0 (I 3 0)) 44 1 (I 3 1)) 44 2 (I 3 2)) 44 3 (I 3 3)) 44 4 (I 3 4)) 45 a))) 5 a else (am_row (am_u (am_u (am_u (am_u (am_u I 44 0 (I 3 0)) 44 1 (I 3 1)) 44 2 (I 3 2)) 44 3 (I 3 3)) 44 4 (I 3 4)) 45 ((fun a => if a < 10 then (am_u (am_u (am_u (am_u (am_u I 44 0 (I 3 0)) 44 1 (I 3 1)) 44 2 (I 3 2)) 44 3 (I 3 3)) 44 4 (I 3 4)) 4 a else (am_u (am_u (am_u (am_u (am_u I 44 0 (I 3 0)) 44 1 (I 3 1)) 44 2 (I 3 2)) 44 3 (I 3 3)) 44 4 (I 3 4)) 45 a))) 46 a))) 6 a else (am_row (am_row (am_u (am_u (am_u (am_u (am_u I 44 0 (I 3 0)) 44 1 (I 3 1)) 44 2 (I 3 2)) 44 3 (I 3 3)) 44 4 (I 3 4)) 45 ((fun a => if a < 10 then (am_u (am_u (am_u (am_u (am_u I 44 0 (I 3 0)) 44 1 (I 3 1)) 44 2 (I 3 2)) 44 3 (I 3 3)) 44 4 (I 3 4)) 4 a else (am_u (am_u (am_u (am_u (am_u I 44 0 (I 3 0)) 44 1 (I 3 1)) 44 2 (I 3 2)) 44 3 (I 3 3)) 44 4 (I 3 4)) 45 a))) 46 ((fun a => if a < 10 then (am_row (am_u (am_u (am_u (am_u (am_u I 44 0 (I 3 0)) 44 1 (I 3 1)) 44 2 (I 3 2)) 44 3 (I 3 3)) 44 4 (I 3 4)) 45 ((fun a => if a < 10 then (am_u (am_u (am_u (am_u (am_u I 44 0 (I 3 0)) 44 1 (I 3 1)) 44 2 (I 3 2)) 44 3 (I 3 3)) 44 4 (I 3 4)) 4 a else (am_u (am_u (am_u (am_u (am_u I 44 0 (I 3 0)) 44 1 (I 3 1)) 44 2 (I 3 2)) 44 3 (I 3 3)) 44 4 (I 3 4)) 45 a))) 5 a else (am_row (am_u (am_u (am_u (am_u (am_u I 44 0 (I 3 0)) 44 1 (I 3 1)) 44 2 (I 3 2)) 44 3 (I 3 3)) 44 4 (I 3 4)) 45 ((fun a => if a < 10 then (am_u (am_u (am_u (am_u (am_u I 44 0 (I 3 0)) 44 1 (I 3 1)) 44 2 (I 3 2)) 44 3 (I 3 3)) 44 4 (I 3 4)) 4 a else (am_u (am_u (am_u (am_u (am_u I 44 0 (I 3 0)) 44 1 (I 3 1)) 44 2 (I 3 2)) 44 3 (I 3 3)) 44 4 (I 3 4)) 45 a))) 46 a))) 47 a))) 7 a else (am_row (am_row (am_row (am_u (am_u (am_u (am_u (am_u I 44 0 (I 3 0)) 44 1 (I 3 1)) 44 2 (I 3 2)) 44 3 (I 3 3)) 44 4 (I 3 4)) 45 ((fun a => if a < 10 then (am_u (am_u (am_u (am_u (am_u I 44 0 (I 3 0)) 44 1 (I 3 1)) 44 2 (I 3 2)) 44 3 (I 3 3)) 44 4 (I 3 4)) 4 a else (am_u (am_u (am_u (am_u (am_u I 44 0 (I 3 0)) 44 1 (I 3 1)) 44 2 (I 3 2)) 44 3 (I 3 3)) 44 4 (I 3 4)) 45 a))) 46 ((fun a => if a < 10 then (am_row (am_u (am_u (am_u (am_u (am_u I 44 0 (I 3 0)) 44 1 (I 3 1)) 44 2 (I 3 2)) 44 3 (I 3 3)) 44 4 (I 3 4)) 45 ((fun a => if a < 10 then (am_u (am_u (am_u (am_u (am_u I 44 0 (I 3 0)) 44 1 (I 3 1)) 44 2 (I 3 2)) 44 3 (I 3 3)) 44 4 (I 3 4)) 4 a else (am_u (am_u (am_u (am_u (am_u I 44 0 (I 3 0)) 44 1 (I 3 1)) 44 2 (I 3 2)) 44 3 (I 3 3)) 44 4 (I 3 4)) 45 a))) 5 a else (am_row (am_u (am_u (am_u (am_u (am_u I 44 0 (I 3 0)) 44 1 (I 3 1)) 44 2 (I 3 2)) 44 3 (I 3 3)) 44 4 (I 3 4)) 45 ((fun a => if a < 10 then (am_u (am_u (am_u (am_u (am_u I 44 0 (I 3 0)) 44 1 (I 3 1)) 44 2 (I 3 2)) 44 3 (I 3 3)) 44 4 (I 3 4)) 4 a else (am_u (am_u (am_u (am_u (am_u I 44 0 (I 3 0)) 44 1 (I 3 1)) 44 2 (I 3 2)) 44 3 (I 3 3)) 44 4 (I 3 4)) 45 a))) 46 a))) 47 ((fun a => if a < 6 then (am_row (am_row (am_u (am_u (am_u (am_u (am_u I 44 0 (I 3 0)) 44 1 (I 3 1)) 44 2 (I 3 2)) 44 3 (I 3 3)) 44 4 (I 3 4)) 45 ((fun a => if a < 10 then (am_u (am_u (am_u (am_u (am_u I 44 0 (I 3 0)) 44 1 (I 3 1)) 44 2 (I 3 2)) 44 3 (I 3 3)) 44 4 (I 3 4)) 4 a else (am_u (am_u (am_u (am_u (am_u I 44 0 (I 3 0)) 44 1 (I 3 1)) 44 2 (I 3 2)) 44 3 (I 3 3)) 44 4 (I 3 4)) 45 a))) 46 ((fun a => if a < 10 then (am_row (am_u (am_u (am_u (am_u (am_u I 44 0 (I 3 0)) 44 1 (I 3 1)) 44 2 (I 3 2)) 44 3 (I 3 3)) 44 4 (I 3 4)) 45 ((fun a => if a < 10 then (am_u (am_u (am_u (am_u (am_u I 44 0 (I 3 0)) 44 1 (I 3 1)) 44 2 (I 3 2)) 44 3 (I 3 3)) 44 4 (I 3 4)) 4 a else (am_u (am_u (am_u (am_u (am_u I 44 0 (I 3 0)) 44 1 (I 3 1)) 44 2 (I 3 2)) 44 3 (I 3 3)) 44 4 (I 3 4)) 45 a))) 5 a else (am_row (am_u (am_u (am_u (am_u (am_u I 44 0 (I 3 0)) 44 1 (I 3 1)) 44 2 (I 3 2)) 44 3 (I 3 3)) 44 4 (I 3 4)) 45 ((fun a => if a < 10 then (am_u (am_u (am_u (am_u (am_u I 44 0 (I 3 0)) 44 1 (I 3 1)) 44 2 (I 3 2)) 44 3 (I 3 3)) 44 4 (I 3 4)) 4 a else (am_u (am_u (am_u (am_u (am_u I 44 0 (I 3 0)) 44 1 (I 3 1)) 44 2 (I 3 2)) 44 3 (I 3 3)) 44 4 (I 3 4)) 45 a))) 46 a))) 6 a else (am_row (am_row (am_u (am_u (am_u (am_u (am_u I 44 0 (I 3 0)) 44 1 (I 3 1)) 44 2 (I 3 2)) 44 3 (I 3 3)) 44 4 (I 3 4)) 45 ((fun a => if a < 10 then (am_u (am_u (am_u (am_u (am_u I 44 0 (I 3 0)) 44 1 (I 3 1)) 44 2 (I 3 2)) 44 3 (I 3 3)) 44 4 (I 3 4)) 4 a else (am_u (am_u (am_u (am_u (am_u I 44 0 (I 3 0)) 44 1 (I 3 1)) 44 2 (I 3 2)) 44 3 (I 3 3)) 44 4 (I 3 4)) 45 a))) 46 ((fun a => if a < 10 then (am_row (am_u (am_u (am_u (am_u (am_u I 44 0 (I 3 0)) 44 1 (I 3 1)) 44 2 (I 3 2)) 44 3 (I 3 3)) 44 4 (I 3 4)) 45 ((fun a => if a < 10 then (am_u (am_u (am_u (am_u (am_u I 44 0 (I 3 0)) 44 1 (I 3 1)) 44 2 (I 3 2)) 44 3 (I 3 3)) 44 4 (I 3 4)) 4 a else (am_u (am_u (am_u (am_u (am_u I 44 0 (I 3 0)) 44 1 (I 3 1)) 44 2 (I 3 2)) 44 3 (I 3 3)) 44 4 (I 3 4)) 45 a))) 5 a else (am_row (am_u (am_u (am_u (am_u (am_u I 44 0 (I 3 0)) 44 1 (I 3 1)) 44 2 (I 3 2)) 44 3 (I 3 3)) 44 4 (I 3 4)) 45 ((fun a => if a < 10 then (am_u (am_u (am_u (am_u (am_u I 44 0 (I 3 0)) 44 1 (I 3 1)) 44 2 (I 3 2)) 44 3 (I 3 3)) 44 4 (I 3 4)) 4 a else (am_u (am_u (am_u (am_u (am_u I 44 0 (I 3 0)) 44 1 (I 3 1)) 44 2 (I 3 2)) 44 3 (I 3 3)) 44 4 (I 3 4)) 45 a))) 46 a))) 47 a))) 48 a))) 49 ((fun a => if a < 6 then (am_row (am_row (am_row (am_row (am_u (am_u (am_u (am_u (am_u I 44 0 (I 3 0)) 44 1 (I 3 1)) 44 2 (I 3 2)) 44 3 (I 3 3)) 44 4 (I 3 4)) 45 ((fun a => if a < 10 then (am_u (am_u (am_u (am_u (am_u I 44 0 (I 3 0)) 44 1 (I 3 1)) 44 2 (I 3 2)) 44 3 (I 3 3)) 44 4 (I 3 4)) 4 a else (am_u (am_u (am_u (am_u (am_u I 44 0 (I 3 0)) 44 1 (I 3 1)) 44 2 (I 3 2)) 44 3 (I 3 3)) 44 4 (I 3 4)) 45 a))) 46 ((fun a => if a < 10 then (am_row (am_u (am_u (am_u (am_u (am_u I 44 0 (I 3 0)) 44 1 (I 3 1)) 44 2 (I 3 2)) 44 3 (I 3 3)) 44 4 (I 3 4)) 45 ((fun a => if a < 10 then (am_u (am_u (am_u (am_u (am_u I 44 0 (I 3 0)) 44 1 (I 3 1)) 44 2 (I 3 2)) 44 3 (I 3 3)) 44 4 (I 3 4)) 4 a else (am_u (am_u (am_u (am_u (am_u I 44 0 (I 3 0)) 44 1 (I 3 1)) 44 2 (I 3 2)) 44 3 (I 3 3)) 44 4 (I 3 4)) 45 a))) 5 a else (am_row (am_u (am_u (am_u (am_u (am_u I 44 0 (I 3 0)) 44 1 (I 3 1)) 44 2 (I 3 2)) 44 3 (I 3 3)) 44 4 (I 3 4)) 45 ((fun a => if a < 10 then (am_u (am_u (am_u (am_u (am_u I 44 0 (I 3 0)) 44 1 (I 3 1)) 44 2 (I 3 2)) 44 3 (I 3 3)) 44 4 (I 3 4)) 4 a else (am_u (am_u (am_u (am_u (am_u I 44 0 (I 3 0)) 44 1 (I 3 1)) 44 2 (I 3 2)) 44 3 (I 3 3)) 44 4 (I 3 4)) 45 a))) 46 a))) 47 ((fun a => if a < 6 then (am_row (am_row (am_u (am_u (am_u (am_u (am_u I 44 0 (I 3 0)) 44 1 (I 3 1)) 44 2 (I 3 2)) 44 3 (I 3 3)) 44 4 (I 3 4)) 45 ((fun a => if a < 10 then (am_u (am_u (am_u (am_u (am_u I 44 0 (I 3 0)) 44 1 (I 3 1)) 44 2 (I 3 2)) 44 3 (I 3 3)) 44 4 (I 3 4)) 4 a else (am_u (am_u (am_u (am_u (am_u I 44 0 (I 3 0)) 44 1 (I 3 1)) 44 2 (I 3 2)) 44 3 (I 3 3)) 44 4 (I 3 4)) 45 a))) 46 ((fun a => if a < 10 then (am_row (am_u (am_u (am_u (am_u (am_u I 44 0 (I 3 0)) 44 1 (I 3 1)) 44 2 (I 3 2)) 44 3 (I 3 3)) 44 4 (I 3 4)) 45 ((fun a => if a < 10 then (am_u (am_u (am_u (am_u (am_u I 44 0 (I 3 0)) 44 1 (I 3 1)) 44 2 (I 3 2)) 44 3 (I 3 3)) 44 4 (I 3 4)) 4 a else (am_u (am_u (am_u (am_u (am_u I 44 0 (I 3 0)) 44 1 (I 3 1)) 44 2 (I 3 2)) 44 3 (I 3 3)) 44 4 (I 3 4)) 45 a))) 5 a else (am_row (am_u (am_u (am_u (am_u (am_u I 44 0 (I 3 0)) 44 1 (I 3 1)) 44 2 (I 3 2)) 44 3 (I 3 3)) 44 4 (I 3 4)) 45 ((fun a => if a < 10 then (am_u (am_u (am_u (am_u (am_u I 44 0 (I 3 0)) 44 1 (I 3 1)) 44 2 (I 3 2)) 44 3 (I 3 3)) 44 4 (I 3 4)) 4 a else (am_u (am_u (am_u (am_u (am_u I 44 0 (I 3 0)) 44 1 (I 3 1)) 44 2 (I 3 2)) 44 3 (I 3 3)) 44 4 (I 3 4)) 45 a))) 46 a))) 6 a else (am_row (am_row (am_u (am_u (am_u (am_u (am_u I 44 0 (I 3 0)) 44 1 (I 3 1)) 44 2 (I 3 2)) 44 3 (I 3 3)) 44 4 (I 3 4)) 45 ((fun a => if a < 10 then (am_u (am_u (am_u (am_u (am_u I 44 0 (I 3 0)) 44 1 (I 3 1)) 44 2 (I 3 2)) 44 3 (I 3 3)) 44 4 (I 3 4)) 4 a else (am_u (am_u (am_u (am_u (am_u I 44 0 (I 3 0)) 44 1 (I 3 1)) 44 2 (I 3 2)) 44 3 (I 3 3)) 44 4 (I 3 4)) 45 a))) 46 ((fun a => if a < 10 then (am_row (am_u (am_u (am_u (am_u (am_u I 44 0 (I 3 0)) 44 1 (I 3 1)) 44 2 (I 3 2)) 44 3 (I 3 3)) 44 4 (I 3 4)) 45 ((fun a => if a < 10 then (am_u (am_u (am_u (am_u (am_u I 44 0 (I 3 0)) 44 1 (I 3 1)) 44 2 (I 3 2)) 44 3 (I 3 3)) 44 4 (I 3 4)) 4 a else (am_u (am_u (am_u (am_u (am_u I 44 0 (I 3 0)) 44 1 (I 3 1)) 44 2 (I 3 2)) 44 3 (I 3 3)) 44 4 (I 3 4)) 45 a))) 5 a else (am_row (am_u (am_u (am_u (am_u (am_u I 44 0 (I 3 0)) 44 1 (I 3 1)) 44 2 (I 3 2)) 44 3 (I 3 3)) 44 4 (I 3 4)) 45 ((fun a => if a < 10 then (am_u (am_u (am_u (am_u (am_u I 44 0 (I 3 0)) 44 1 (I 3 1)) 44 2 (I 3 2)) 44 3 (I 3 3)) 44 4 (I 3 4)) 4 a else (am_u (am_u (am_u (am_u (am_u I 44 0 (I 3 0)) 44 1 (I 3 1)) 44 2 (I 3 2)) 44 3 (I 3 3)) 44 4 (I 3 4)) 45 a))) 46 a))) 47 a))) 48 ((fun a => if a < 6 then (am_row (am_row (am_row (am_u (am_u (am_u (am_u (am_u I 44 0 (I 3 0)) 44 1 (I 3 1)) 44 2 (I 3 2)) 44 3 (I 3 3)) 44 4 (I 3 4)) 45 ((fun a => if a < 10 then (am_u (am_u (am_u (am_u (am_u I 44 0 (I 3 0)) 44 1 (I 3 1)) 44 2 (I 3 2)) 44 3 (I 3 3)) 44 4 (I 3 4)) 4 a else (am_u (am_u (am_u (am_u (am_u I 44 0 (I 3 0)) 44 1 (I 3 1)) 44 2 (I 3 2)) 44 3 (I 3 3)) 44 4 (I 3 4)) 45 a))) 46 ((fun a => if a < 10 then (am_row (am_u (am_u (am_u (am_u (am_u I 44 0 (I 3 0)) 44 1 (I 3 1)) 44 2 (I 3 2)) 44 3 (I 3 3)) 44 4 (I 3 4)) 45 ((fun a => if a < 10 then (am_u (am_u (am_u (am_u (am_u I 44 0 (I 3 0)) 44 1 (I 3 1)) 44 2 (I 3 2)) 44 3 (I 3 3)) 44 4 (I 3 4)) 4 a else (am_u (am_u (am_u (am_u (am_u I 44 0 (I 3 0)) 44 1 (I 3 1)) 44 2 (I 3 2)) 44 3 (I 3 3)) 44 4 (I 3 4)) 45 a))) 5 a else (am_row (am_u (am_u (am_u (am_u (am_u I 44 0 (I 3 0)) 44 1 (I 3 1)) 44 2 (I 3 2)) 44 3 (I 3 3)) 44 4 (I 3 4)) 45 ((fun a => if a < 10 then (am_u (am_u (am_u (am_u (am_u I 44 0 (I 3 0)) 44 1 (I 3 1)) 44 2 (I 3 2)) 44 3 (I 3 3)) 44 4 (I 3 4)) 4 a else (am_u (am_u (am_u (am_u (am_u I 44 0 (I 3 0)) 44 1 (I 3 1)) 44 2 (I 3 2)) 44 3 (I 3 3)) 44 4 (I 3 4)) 45 a))) 46 a))) 47 ((fun a => if a < 6 then (am_row (am_row (am_u (am_u (am_u (am_u (am_u I 44 0 (I 3 0)) 44 1 (I 3 1)) 44 2 (I 3 2)) 44 3 (I 3 3)) 44 4 (I 3 4)) 45 ((fun a => if a < 10 then (am_u (am_u (am_u (am_u (am_u I 44 0 (I 3 0)) 44 1 (I 3 1)) 44 2 (I 3 2)) 44 3 (I 3 3)) 44 4 (I 3 4)) 4 a else (am_u (am_u (am_u (am_u (am_u I 44 0 (I 3 0)) 44 1 (I 3 1)) 44 2 (I 3 2)) 44 3 (I 3 3)) 44 4 (I 3 4)) 45 a))) 46 ((fun a => if a < 10 then (am_row (am_u (am_u (am_u (am_u (am_u I 44 0 (I 3 0)) 44 1 (I 3 1)) 44 2 (I 3 2)) 44 3 (I 3 3)) 44 4 (I 3 4)) 45 ((fun a => if a < 10 then (am_u (am_u (am_u (am_u (am_u I 44 0 (I 3 0)) 44 1 (I 3 1)) 44 2 (I 3 2)) 44 3 (I 3 3)) 44 4 (I 3 4)) 4 a else (am_u (am_u (am_u (am_u (am_u I 44 0 (I 3 0)) 44 1 (I 3 1)) 44 2 (I 3 2)) 44 3 (I 3 3)) 44 4 (I 3 4)) 45 a))) 5 a else (am_row (am_u (am_u (am_u (am_u (am_u I 44 0 (I 3 0)) 44 1 (I 3 1)) 44 2 (I 3 2)) 44 3 (I 3 3)) 44 4 (I 3 4)) 45 ((fun a => if a < 10 then (am_u (am_u (am_u (am_u (am_u I 44 0 (I 3 0)) 44 1 (I 3 1)) 44 2 (I 3 2)) 44 3 (I 3 3)) 44 4 (I 3 4)) 4 a else (am_u (am_u (am_u (am_u (am_u I 44 0 (I 3 0)) 44 1 (I 3 1)) 44 2 (I 3 2)) 44 3 (I 3 3)) 44 4 (I 3 4)) 45 a))) 46 a))) 6 a else (am_row (am_row (am_u (am_u (am_u (am_u (am_u I 44 0 (I 3 0)) 44 1 (I 3 1)) 44 2 (I 3 2)) 44 3 (I 3 3)) 44 4 (I 3 4)) 45 ((fun a => if a < 10 then (am_u (am_u (am_u (am_u (am_u I 44 0 (I 3 0)) 44 1 (I 3 1)) 44 2 (I 3 2)) 44 3 (I 3 3)) 44 4 (I 3 4)) 4 a else (am_u (am_u (am_u (am_u (am_u I 44 0 (I 3 0)) 44 1 (I 3 1)) 44 2 (I 3 2)) 44 3 (I 3 3)) 44 4 (I 3 4)) 45 a))) 46 ((fun a => if a < 10 then (am_row (am_u (am_u (am_u (am_u (am_u I 44 0 (I 3 0)) 44 1 (I 3 1)) 44 2 (I 3 2)) 44 3 (I 3 3)) 44 4 (I 3 4)) 45 ((fun a => if a < 10 then (am_u (am_u (am_u (am_u (am_u I 44 0 (I 3 0)) 44 1 (I 3 1)) 44 2 (I 3 2)) 44 3 (I 3 3)) 44 4 (I 3 4)) 4 a else (am_u (am_u (am_u (am_u (am_u I 44 0 (I 3 0)) 44 1 (I 3 1)) 44 2 (I 3 2)) 44 3 (I 3 3)) 44 4 (I 3 4)) 45 a))) 5 a else (am_row (am_u (am_u (am_u (am_u (am_u I 44 0 (I 3 0)) 44 1 (I 3 1)) 44 2 (I 3 2)) 44 3 (I 3 3)) 44 4 (I 3 4)) 45 ((fun a => if a < 10 then (am_u (am_u (am_u (am_u (am_u I 44 0 (I 3 0)) 44 1 (I 3 1)) 44 2 (I 3 2)) 44 3 (I 3 3)) 44 4 (I 3 4)) 4 a else (am_u (am_u (am_u (am_u (am_u I 44 0 (I 3 0)) 44 1 (I 3 1)) 44 2 (I 3 2)) 44 3 (I 3 3)) 44 4 (I 3 4)) 45 a))) 46 a))) 47 a))) 7 a else (am_row (am_row (am_row (am_u (am_u (am_u (am_u (am_u I 44 0 (I 3 0)) 44 1 (I 3 1)) 44 2 (I 3 2)) 44 3 (I 3 3)) 44 4 (I 3 4)) 45 ((fun a => if a < 10 then (am_u (am_u (am_u (am_u (am_u I 44 0 (I 3 0)) 44 1 (I 3 1)) 44 2 (I 3 2)) 44 3 (I 3 3)) 44 4 (I 3 4)) 4 a else (am_u (am_u (am_u (am_u (am_u I 44 0 (I 3 0)) 44 1 (I 3 1)) 44 2 (I 3 2)) 44 3 (I 3 3)) 44 4 (I 3 4)) 45 a))) 46 ((fun a => if a < 10 then (am_row (am_u (am_u (am_u (am_u (am_u I 44 0 (I 3 0)) 44 1 (I 3 1)) 44 2 (I 3 2)) 44 3 (I 3 3)) 44 4 (I 3 4)) 45 ((fun a => if a < 10 then (am_u (am_u (am_u (am_u (am_u I 44 0 (I 3 0)) 44 1 (I 3 1)) 44 2 (I 3 2)) 44 3 (I 3 3)) 44 4 (I 3 4)) 4 a else (am_u (am_u (am_u (am_u (am_u I 44 0 (I 3 0)) 44 1 (I 3 1)) 44 2 (I 3 2)) 44 3 (I 3 3)) 44 4 (I 3 4)) 45 a))) 5 a else (am_row (am_u (am_u (am_u (am_u (am_u I 44 0 (I 3 0)) 44 1 (I 3 1)) 44 2 (I 3 2)) 44 3 (I 3 3)) 44 4 (I 3 4)) 45 ((fun a => if a < 10 then (am_u (am_u (am_u (am_u (am_u I 44 0 (I 3 0)) 44 1 (I 3 1)) 44 2 (I 3 2)) 44 3 (I 3 3)) 44 4 (I 3 4)) 4 a else (am_u (am_u (am_u (am_u (am_u I 44 0 (I 3 0)) 44 1 (I 3 1)) 44 2 (I 3 2)) 44 3 (I 3 3)) 44 4 (I 3 4)) 45 a))) 46 a))) 47 ((fun a => if a < 6 then (am_row (am_row (am_u (am_u (am_u (am_u (am_u I 44 0 (I 3 0)) 44 1 (I 3 1)) 44 2 (I 3 2)) 44 3 (I 3 3)) 44 4 (I 3 4)) 45 ((fun a => if a < 10 then (am_u (am_u (am_u (am_u (am_u I 44 0 (I 3 0)) 44 1 (I 3 1)) 44 2 (I 3 2)) 44 3 (I 3 3)) 44 4 (I 3 4)) 4 a else (am_u (am_u (am_u (am_u (am_u I 44 0 (I 3 0)) 44 1 (I 3 1)) 44 2 (I 3 2)) 44 3 (I 3 3)) 44 4 (I 3 4)) 45 a))) 46 ((fun a => if a < 10 then (am_row (am_u (am_u (am_u (am_u (am_u I 44 0 (I 3 0)) 44 1 (I 3 1)) 44 2 (I 3 2)) 44 3 (I 3 3)) 44 4 (I 3 4)) 45 ((fun a => if a < 10 then (am_u (am_u (am_u (am_u (am_u I 44 0 (I 3 0)) 44 1 (I 3 1)) 44 2 (I 3 2)) 44 3 (I 3 3)) 44 4 (I 3 4)) 4 a else (am_u (am_u (am_u (am_u (am_u I 44 0 (I 3 0)) 44 1 (I 3 1)) 44 2 (I 3 2)) 44 3 (I 3 3)) 44 4 (I 3 4)) 45 a))) 5 a else (am_row (am_u (am_u (am_u (am_u (am_u I 44 0 (I 3 0)) 44 1 (I 3 1)) 44 2 (I 3 2)) 44 3 (I 3 3)) 44 4 (I 3 4)) 45 ((fun a => if a < 10 then (am_u (am_u (am_u (am_u (am_u I 44 0 (I 3 0)) 44 1 (I 3 1)) 44 2 (I 3 2)) 44 3 (I 3 3)) 44 4 (I 3 4)) 4 a else (am_u (am_u (am_u (am_u (am_u I 44 0 (I 3 0)) 44 1 (I 3 1)) 44 2 (I 3 2)) 44 3 (I 3 3)) 44 4 (I 3 4)) 45 a))) 46 a))) 6 a else (am_row (am_row (am_u (am_u (am_u (am_u (am_u I 44 0 (I 3 0)) 44 1 (I 3 1)) 44 2 (I 3 2)) 44 3 (I 3 3)) 44 4 (I 3 4)) 45 ((fun a => if a < 10 then (am_u (am_u (am_u (am_u (am_u I 44 0 (I 3 0)) 44 1 (I 3 1)) 44 2 (I 3 2)) 44 3 (I 3 3)) 44 4 (I 3 4)) 4 a else (am_u (am_u (am_u (am_u (am_u I 44 0 (I 3 0)) 44 1 (I 3 1)) 44 2 (I 3 2)) 44 3 (I 3 3)) 44 4 (I 3 4)) 45 a))) 46 ((fun a => if a < 10 then (am_row (am_u (am_u (am_u (am_u (am_u I 44 0 (I 3 0)) 44 1 (I 3 1)) 44 2 (I 3 2)) 44 3 (I 3 3)) 44 4 (I 3 4)) 45 ((fun a => if a < 10 then (am_u (am_u (am_u (am_u (am_u I 44 0 (I 3 0)) 44 1 (I 3 1)) 44 2 (I 3 2)) 44 3 (I 3 3)) 44 4 (I 3 4)) 4 a else (am_u (am_u (am_u (am_u (am_u I 44 0 (I 3 0)) 44 1 (I 3 1)) 44 2 (I 3 2)) 44 3 (I 3 3)) 44 4 (I 3 4)) 45 a))) 5 a else (am_row (am_u (am_u (am_u (am_u (am_u I 44 0 (I 3 0)) 44 1 (I 3 1)) 44 2 (I 3 2)) 44 3 (I 3 3)) 44 4 (I 3 4)) 45 ((fun a => if a < 10 then (am_u (am_u (am_u (am_u (am_u I 44 0 (I 3 0)) 44 1 (I 3 1)) 44 2 (I 3 2)) 44 3 (I 3 3)) 44 4 (I 3 4)) 4 a else (am_u (am_u (am_u (am_u (am_u I 44 0 (I 3 0)) 44 1 (I 3 1)) 44 2 (I 3 2)) 44 3 (I 3 3)) 44 4 (I 3 4)) 45 a))) 46 a))) 47 a))) 48 a))) 8 a else (am_row (am_row (am_row (am_row (am_u (am_u (am_u (am_u (am_u I 44 0 (I 3 0)) 44 1 (I 3 1)) 44 2 (I 3 2)) 44 3 (I 3 3)) 44 4 (I 3 4)) 45 ((fun a => if a < 10 then (am_u (am_u (am_u (am_u (am_u I 44 0 (I 3 0)) 44 1 (I 3 1)) 44 2 (I 3 2)) 44 3 (I 3 3)) 44 4 (I 3 4)) 4 a else (am_u (am_u (am_u (am_u (am_u I 44 0 (I 3 0)) 44 1 (I 3 1)) 44 2 (I 3 2)) 44 3 (I 3 3)) 44 4 (I 3 4)) 45 a))) 46 ((fun a => if a < 10 then (am_row (am_u (am_u (am_u (am_u (am_u I 44 0 (I 3 0)) 44 1 (I 3 1)) 44 2 (I 3 2)) 44 3 (I 3 3)) 44 4 (I 3 4)) 45 ((fun a => if a < 10 then (am_u (am_u (am_u (am_u (am_u I 44 0 (I 3 0)) 44 1 (I 3 1)) 44 2 (I 3 2)) 44 3 (I 3 3)) 44 4 (I 3 4)) 4 a else (am_u (am_u (am_u (am_u (am_u I 44 0 (I 3 0)) 44 1 (I 3 1)) 44 2 (I 3 2)) 44 3 (I 3 3)) 44 4 (I 3 4)) 45 a))) 5 a else (am_row (am_u (am_u (am_u (am_u (am_u I 44 0 (I 3 0)) 44 1 (I 3 1)) 44 2 (I 3 2)) 44 3 (I 3 3)) 44 4 (I 3 4)) 45 ((fun a => if a < 10 then (am_u (am_u (am_u (am_u (am_u I 44 0 (I 3 0)) 44 1 (I 3 1)) 44 2 (I 3 2)) 44 3 (I 3 3)) 44 4 (I 3 4)) 4 a else (am_u (am_u (am_u (am_u (am_u I 44 0 (I 3 0)) 44 1 (I 3 1)) 44 2 (I 3 2)) 44 3 (I 3 3)) 44 4 (I 3 4)) 45 a))) 46 a))) 47 ((fun a => if a < 6 then (am_row (am_row (am_u (am_u (am_u (am_u (am_u I 44 0 (I 3 0)) 44 1 (I 3 1)) 44 2 (I 3 2)) 44 3 (I 3 3)) 44 4 (I 3 4)) 45 ((fun a => if a < 10 then (am_u (am_u (am_u (am_u (am_u I 44 0 (I 3 0)) 44 1 (I 3 1)) 44 2 (I 3 2)) 44 3 (I 3 3)) 44 4 (I 3 4)) 4 a else (am_u (am_u (am_u (am_u (am_u I 44 0 (I 3 0)) 44 1 (I 3 1)) 44 2 (I 3 2)) 44 3 (I 3 3)) 44 4 (I 3 4)) 45 a))) 46 ((fun a => if a < 10 then (am_row (am_u (am_u (am_u (am_u (am_u I 44 0 (I 3 0)) 44 1 (I 3 1)) 44 2 (I 3 2)) 44 3 (I 3 3)) 44 4 (I 3 4)) 45 ((fun a => if a < 10 then (am_u (am_u (am_u (am_u (am_u I 44 0 (I 3 0)) 44 1 (I 3 1)) 44 2 (I 3 2)) 44 3 (I 3 3)) 44 4 (I 3 4)) 4 a else (am_u (am_u (am_u (am_u (am_u I 44 0 (I 3 0)) 44 1 (I 3 1)) 44 2 (I 3 2)) 44 3 (I 3 3)) 44 4 (I 3 4)) 45 a))) 5 a else (am_row (am_u (am_u (am_u (am_u (am_u I 44 0 (I 3 0)) 44 1 (I 3 1)) 44 2 (I 3 2)) 44 3 (I 3 3)) 44 4 (I 3 4)) 45 ((fun a => if a < 10 then (am_u (am_u (am_u (am_u (am_u I 44 0 (I 3 0)) 44 1 (I 3 1)) 44 2 (I 3 2)) 44 3 (I 3 3)) 44 4 (I 3 4)) 4 a else (am_u (am_u (am_u (am_u (am_u I 44 0 (I 3 0)) 44 1 (I 3 1)) 44 2 (I 3 2)) 44 3 (I 3 3)) 44 4 (I 3 4)) 45 a))) 46 a))) 6 a else (am_row (am_row (am_u (am_u (am_u (am_u (am_u I 44 0 (I 3 0)) 44 1 (I 3 1)) 44 2 (I 3 2)) 44 3 (I 3 3)) 44 4 (I 3 4)) 45 ((fun a => if a < 10 then (am_u (am_u (am_u (am_u (am_u I 44 0 (I 3 0)) 44 1 (I 3 1)) 44 2 (I 3 2)) 44 3 (I 3 3)) 44 4 (I 3 4)) 4 a else (am_u (am_u (am_u (am_u (am_u I 44 0 (I 3 0)) 44 1 (I 3 1)) 44 2 (I 3 2)) 44 3 (I 3 3)) 44 4 (I 3 4)) 45 a))) 46 ((fun a => if a < 10 then (am_row (am_u (am_u (am_u (am_u (am_u I 44 0 (I 3 0)) 44 1 (I 3 1)) 44 2 (I 3 2)) 44 3 (I 3 3)) 44 4 (I 3 4)) 45 ((fun a => if a < 10 then (am_u (am_u (am_u (am_u (am_u I 44 0 (I 3 0)) 44 1 (I 3 1)) 44 2 (I 3 2)) 44 3 (I 3 3)) 44 4 (I 3 4)) 4 a else (am_u (am_u (am_u (am_u (am_u I 44 0 (I 3 0)) 44 1 (I 3 1)) 44 2 (I 3 2)) 44 3 (I 3 3)) 44 4 (I 3 4)) 45 a))) 5 a else (am_row (am_u (am_u (am_u (am_u (am_u I 44 0 (I 3 0)) 44 1 (I 3 1)) 44 2 (I 3 2)) 44 3 (I 3 3)) 44 4 (I 3 4)) 45 ((fun a => if a < 10 then (am_u (am_u (am_u (am_u (am_u I 44 0 (I 3 0)) 44 1 (I 3 1)) 44 2 (I 3 2)) 44 3 (I 3 3)) 44 4 (I 3 4)) 4 a else (am_u (am_u (am_u (am_u (am_u I 44 0 (I 3 0)) 44 1 (I 3 1)) 44 2 (I 3 2)) 44 3 (I 3 3)) 44 4 (I 3 4)) 45 a))) 46 a))) 47 a))) 48 ((fun a => if a < 6 then (am_row (am_row (am_row (am_u (am_u (am_u (am_u (am_u I 44 0 (I 3 0)) 44 1 (I 3 1)) 44 2 (I 3 2)) 44 3 (I 3 3)) 44 4 (I 3 4)) 45 ((fun a => if a < 10 then (am_u (am_u (am_u (am_u (am_u I 44 0 (I 3 0)) 44 1 (I 3 1)) 44 2 (I 3 2)) 44 3 (I 3 3)) 44 4 (I 3 4)) 4 a else (am_u (am_u (am_u (am_u (am_u I 44 0 (I 3 0)) 44 1 (I 3 1)) 44 2 (I 3 2)) 44 3 (I 3 3)) 44 4 (I 3 4)) 45 a))) 46 ((fun a => if a < 10 then (am_row (am_u (am_u (am_u (am_u (am_u I 44 0 (I 3 0)) 44 1 (I 3 1)) 44 2 (I 3 2)) 44 3 (I 3 3)) 44 4 (I 3 4)) 45 ((fun a => if a < 10 then (am_u (am_u (am_u (am_u (am_u I 44 0 (I 3 0)) 44 1 (I 3 1)) 44 2 (I 3 2)) 44 3 (I 3 3)) 44 4 (I 3 4)) 4 a else (am_u (am_u (am_u (am_u (am_u I 44 0 (I 3 0)) 44 1 (I 3 1)) 44 2 (I 3 2)) 44 3 (I 3 3)) 44 4 (I 3 4)) 45 a))) 5 a else (am_row (am_u (am_u (am_u (am_u (am_u I 44 0 (I 3 0)) 44 1 (I 3 1)) 44 2 (I 3 2)) 44 3 (I 3 3)) 44 4 (I 3 4)) 45 ((fun a => if a < 10 then (am_u (am_u (am_u (am_u (am_u I 44 0 (I 3 0)) 44 1 (I 3 1)) 44 2 (I 3 2)) 44 3 (I 3 3)) 44 4 (I 3 4)) 4 a else (am_u (am_u (am_u (am_u (am_u I 44 0 (I 3 0)) 44 1 (I 3 1)) 44 2 (I 3 2)) 44 3 (I 3 3)) 44 4 (I 3 4)) 45 a))) 46 a))) 47 ((fun a => if a < 6 then (am_row (am_row (am_u (am_u (am_u (am_u (am_u I 44 0 (I 3 0)) 44 1 (I 3 1)) 44 2 (I 3 2)) 44 3 (I 3 3)) 44 4 (I 3 4)) 45 ((fun a => if a < 10 then (am_u (am_u (am_u (am_u (am_u I 44 0 (I 3 0)) 44 1 (I 3 1)) 44 2 (I 3 2)) 44 3 (I 3 3)) 44 4 (I 3 4)) 4 a else (am_u (am_u (am_u (am_u (am_u I 44 0 (I 3 0)) 44 1 (I 3 1)) 44 2 (I 3 2)) 44 3 (I 3 3)) 44 4 (I 3 4)) 45 a))) 46 ((fun a => if a < 10 then (am_row (am_u (am_u (am_u (am_u (am_u I 44 0 (I 3 0)) 44 1 (I 3 1)) 44 2 (I 3 2)) 44 3 (I 3 3)) 44 4 (I 3 4)) 45 ((fun a => if a < 10 then (am_u (am_u (am_u (am_u (am_u I 44 0 (I 3 0)) 44 1 (I 3 1)) 44 2 (I 3 2)) 44 3 (I 3 3)) 44 4 (I 3 4)) 4 a else (am_u (am_u (am_u (am_u (am_u I 44 0 (I 3 0)) 44 1 (I 3 1)) 44 2 (I 3 2)) 44 3 (I 3 3)) 44 4 (I 3 4)) 45 a))) 5 a else (am_row (am_u (am_u (am_u (am_u (am_u I 44 0 (I 3 0)) 44 1 (I 3 1)) 44 2 (I 3 2)) 44 3 (I 3 3)) 44 4 (I 3 4)) 45 ((fun a => if a < 10 then (am_u (am_u (am_u (am_u (am_u I 44 0 (I 3 0)) 44 1 (I 3 1)) 44 2 (I 3 2)) 44 3 (I 3 3)) 44 4 (I 3 4)) 4 a else (am_u (am_u (am_u (am_u (am_u I 44 0 (I 3 0)) 44 1 (I 3 1)) 44 2 (I 3 2)) 44 3 (I 3 3)) 44 4 (I 3 4)) 45 a))) 46 a))) 6 a else (am_row (am_row (am_u (am_u (am_u (am_u (am_u I 44 0 (I 3 0)) 44 1 (I 3 1)) 44 2 (I 3 2)) 44 3 (I 3 3)) 44 4 (I 3 4)) 45 ((fun a => if a < 10 then (am_u (am_u (am_u (am_u (am_u I 44 0 (I 3 0)) 44 1 (I 3 1)) 44 2 (I 3 2)) 44 3 (I 3 3)) 44 4 (I 3 4)) 4 a else (am_u (am_u (am_u (am_u (am_u I 44 0 (I 3 0)) 44 1 (I 3 1)) 44 2 (I 3 2)) 44 3 (I 3 3)) 44 4 (I 3 4)) 45 a))) 46 ((fun a => if a < 10 then (am_row (am_u (am_u (am_u (am_u (am_u I 44 0 (I 3 0)) 44 1 (I 3 1)) 44 2 (I 3 2)) 44 3 (I 3 3)) 44 4 (I 3 4)) 45 ((fun a => if a < 10 then (am_u (am_u (am_u (am_u (am_u I 44 0 (I 3 0)) 44 1 (I 3 1)) 44 2 (I 3 2)) 44 3 (I 3 3)) 44 4 (I 3 4)) 4 a else (am_u (am_u (am_u (am_u (am_u I 44 0 (I 3 0)) 44 1 (I 3 1)) 44 2 (I 3 2)) 44 3 (I 3 3)) 44 4 (I 3 4)) 45 a))) 5 a else (am_row (am_u (am_u (am_u (am_u (am_u I 44 0 (I 3 0)) 44 1 (I 3 1)) 44 2 (I 3 2)) 44 3 (I 3 3)) 44 4 (I 3 4)) 45 ((fun a => if a < 10 then (am_u (am_u (am_u (am_u (am_u I 44 0 (I 3 0)) 44 1 (I 3 1)) 44 2 (I 3 2)) 44 3 (I 3 3)) 44 4 (I 3 4)) 4 a else (am_u (am_u (am_u (am_u (am_u I 44 0 (I 3 0)) 44 1 (I 3 1)) 44 2 (I 3 2)) 44 3 (I 3 3)) 44 4 (I 3 4)) 45 a))) 46 a))) 47 a))) 7 a else (am_row (am_row (am_row (am_u (am_u (am_u (am_u (am_u I 44 0 (I 3 0)) 44 1 (I 3 1)) 44 2 (I 3 2)) 44 3 (I 3 3)) 44 4 (I 3 4)) 45 ((fun a => if a < 10 then (am_u (am_u (am_u (am_u (am_u I 44 0 (I 3 0)) 44 1 (I 3 1)) 44 2 (I 3 2)) 44 3 (I 3 3)) 44 4 (I 3 4)) 4 a else (am_u (am_u (am_u (am_u (am_u I 44 0 (I 3 0)) 44 1 (I 3 1)) 44 2 (I 3 2)) 44 3 (I 3 3)) 44 4 (I 3 4)) 45 a))) 46 ((fun a => if a < 10 then (am_row (am_u (am_u (am_u (am_u (am_u I 44 0 (I 3 0)) 44 1 (I 3 1)) 44 2 (I 3 2)) 44 3 (I 3 3)) 44 4 (I 3 4)) 45 ((fun a => if a < 10 then (am_u (am_u (am_u (am_u (am_u I 44 0 (I 3 0)) 44 1 (I 3 1)) 44 2 (I 3 2)) 44 3 (I 3 3)) 44 4 (I 3 4)) 4 a else (am_u (am_u (am_u (am_u (am_u I 44 0 (I 3 0)) 44 1 (I 3 1)) 44 2 (I 3 2)) 44 3 (I 3 3)) 44 4 (I 3 4)) 45 a))) 5 a else (am_row (am_u (am_u (am_u (am_u (am_u I 44 0 (I 3 0)) 44 1 (I 3 1)) 44 2 (I 3 2)) 44 3 (I 3 3)) 44 4 (I 3 4)) 45 ((fun a => if a < 10 then (am_u (am_u (am_u (am_u (am_u I 44 0 (I 3 0)) 44 1 (I 3 1)) 44 2 (I 3 2)) 44 3 (I 3 3)) 44 4 (I 3 4)) 4 a else (am_u (am_u (am_u (am_u (am_u I 44 0 (I 3 0)) 44 1 (I 3 1)) 44 2 (I 3 2)) 44 3 (I 3 3)) 44 4 (I 3 4)) 45 a))) 46 a))) 47 ((fun a => if a < 6 then (am_row (am_row (am_u (am_u (am_u (am_u (am_u I 44 0 (I 3 0)) 44 1 (I 3 1)) 44 2 (I 3 2)) 44 3 (I 3 3)) 44 4 (I 3 4)) 45 ((fun a => if a < 10 then (am_u (am_u (am_u (am_u (am_u I 44 0 (I 3 0)) 44 1 (I 3 1)) 44 2 (I 3 2)) 44 3 (I 3 3)) 44 4 (I 3 4)) 4 a else (am_u (am_u (am_u (am_u (am_u I 44 0 (I 3 0)) 44 1 (I 3 1)) 44 2 (I 3 2)) 44 3 (I 3 3)) 44 4 (I 3 4)) 45 a))) 46 ((fun a => if a < 10 then (am_row (am_u (am_u (am_u (am_u (am_u I 44 0 (I 3 0)) 44 1 (I 3 1)) 44 2 (I 3 2)) 44 3 (I 3 3)) 44 4 (I 3 4)) 45 ((fun a => if a < 10 then (am_u (am_u (am_u (am_u (am_u I 44 0 (I 3 0)) 44 1 (I 3 1)) 44 2 (I 3 2)) 44 3 (I 3 3)) 44 4 (I 3 4)) 4 a else (am_u (am_u (am_u (am_u (am_u I 44 0 (I 3 0)) 44 1 (I 3 1)) 44 2 (I 3 2)) 44 3 (I 3 3)) 44 4 (I 3 4)) 45 a))) 5 a else (am_row (am_u (am_u (am_u (am_u (am_u I 44 0 (I 3 0)) 44 1 (I 3 1)) 44 2 (I 3 2)) 44 3 (I 3 3)) 44 4 (I 3 4)) 45 ((fun a => if a < 10 then (am_u (am_u (am_u (am_u (am_u I 44 0 (I 3 0)) 44 1 (I 3 1)) 44 2 (I 3 2)) 44 3 (I 3 3)) 44 4 (I 3 4)) 4 a else (am_u (am_u (am_u (am_u (am_u I 44 0 (I 3 0)) 44 1 (I 3 1)) 44 2 (I 3 2)) 44 3 (I 3 3)) 44 4 (I 3 4)) 45 a))) 46 a))) 6 a else (am_row (am_row (am_u (am_u (am_u (am_u (am_u I 44 0 (I 3 0)) 44 1 (I 3 1)) 44 2 (I 3 2)) 44 3 (I 3 3)) 44 4 (I 3 4)) 45 ((fun a => if a < 10 then (am_u (am_u (am_u (am_u (am_u I 44 0 (I 3 0)) 44 1 (I 3 1)) 44 2 (I 3 2)) 44 3 (I 3 3)) 44 4 (I 3 4)) 4 a else (am_u (am_u (am_u (am_u (am_u I 44 0 (I 3 0)) 44 1 (I 3 1)) 44 2 (I 3 2)) 44 3 (I 3 3)) 44 4 (I 3 4)) 45 a))) 46 ((fun a => if a < 10 then (am_row (am_u (am_u (am_u (am_u (am_u I 44 0 (I 3 0)) 44 1 (I 3 1)) 44 2 (I 3 2)) 44 3 (I 3 3)) 44 4 (I 3 4)) 45 ((fun a => if a < 10 then (am_u (am_u (am_u (am_u (am_u I 44 0 (I 3 0)) 44 1 (I 3 1)) 44 2 (I 3 2)) 44 3 (I 3 3)) 44 4 (I 3 4)) 4 a else (am_u (am_u (am_u (am_u (am_u I 44 0 (I 3 0)) 44 1 (I 3 1)) 44 2 (I 3 2)) 44 3 (I 3 3)) 44 4 (I 3 4)) 45 a))) 5 a else (am_row (am_u (am_u (am_u (am_u (am_u I 44 0 (I 3 0)) 44 1 (I 3 1)) 44 2 (I 3 2)) 44 3 (I 3 3)) 44 4 (I 3 4)) 45 ((fun a => if a < 10 then (am_u (am_u (am_u (am_u (am_u I 44 0 (I 3 0)) 44 1 (I 3 1)) 44 2 (I 3 2)) 44 3 (I 3 3)) 44 4 (I 3 4)) 4 a else (am_u (am_u (am_u (am_u (am_u I 44 0 (I 3 0)) 44 1 (I 3 1)) 44 2 (I 3 2)) 44 3 (I 3 3)) 44 4 (I 3 4)) 45 a))) 46 a))) 47 a))) 48 a))) 49 a))))
set_option maxRecDepth 100000 in
set_option maxHeartbeats 4000000 in
theorem t_X2_become_v2_0 {l : Launch} {ρ : am_R} {n d gc gs : Nat} {I : Nat → Nat → Int32} {J : Nat → Nat → Int64} {T : Nat} {q : (Nat → Nat → Int32)} (hd : 0 * n + 1 ≤ (d + 1))
    (h : f_X2_become_v2 n  I J T  = some q) : AW l ρ (d + 1) M_X2_become 0 [(0, .ref 44), (1, .ref 3)] [] (am_KD, gc, gs) (I, J, am_RT T) (am_KD, gc, gs) (fun v H' => v = [] ∧ H' = (q, J, am_RT T)) := by
  unfold f_X2_become_v2 at h
  refine op_aload_n (k := 0) dX2_become_0 rfl rfl ?_
  refine op_aload_n (k := 1) dX2_become_1 rfl rfl ?_
  refine st_getI (v := I 3 0) dX2_become_2 fl_X2_27 kd_3 (by decide) rfl rfl ?_
  refine st_putI dX2_become_5 fl_X2_27 kd_44 (by decide) rfl ?_
  refine op_aload_n (k := 0) dX2_become_8 rfl rfl ?_
  refine op_aload_n (k := 1) dX2_become_9 rfl rfl ?_
  refine st_getI (v := I 3 1) dX2_become_10 fl_X2_31 kd_3 (by decide) rfl rfl ?_
  refine st_putI dX2_become_13 fl_X2_31 kd_44 (by decide) rfl ?_
  refine op_aload_n (k := 0) dX2_become_16 rfl rfl ?_
  refine op_aload_n (k := 1) dX2_become_17 rfl rfl ?_
  refine st_getI (v := I 3 2) dX2_become_18 fl_X2_34 kd_3 (by decide) rfl rfl ?_
  refine st_putI dX2_become_21 fl_X2_34 kd_44 (by decide) rfl ?_
  refine op_aload_n (k := 0) dX2_become_24 rfl rfl ?_
  refine op_aload_n (k := 1) dX2_become_25 rfl rfl ?_
  refine st_getI (v := I 3 3) dX2_become_26 fl_X2_37 kd_3 (by decide) rfl rfl ?_
  refine st_putI dX2_become_29 fl_X2_37 kd_44 (by decide) rfl ?_
  refine op_aload_n (k := 0) dX2_become_32 rfl rfl ?_
  refine op_aload_n (k := 1) dX2_become_33 rfl rfl ?_
  refine st_getI (v := I 3 4) dX2_become_34 fl_X2_40 kd_3 (by decide) rfl rfl ?_
  refine st_putI dX2_become_37 fl_X2_40 kd_44 (by decide) rfl ?_
  refine op_aload_n (k := 1) dX2_become_40 rfl rfl ?_
  refine st_getR (z := 4) dX2_become_41 fl_X2_9 kd_3 (by decide) rfl rr_3_5 ?_
  refine op_iconst (v := 0) dX2_become_44 (by decide) ?_
  refine op_aload_n (k := 0) dX2_become_45 rfl rfl ?_
  refine st_getR (z := 45) dX2_become_46 fl_X2_9 kd_44 (by decide) rfl rr_44_5 ?_
  refine op_iconst (v := 0) dX2_become_49 (by decide) ?_
  refine op_aload_n (k := 0) dX2_become_50 rfl rfl ?_
  refine st_getR (z := 45) dX2_become_51 fl_X2_9 kd_44 (by decide) rfl rr_44_5 ?_
  refine op_alen50 dX2_become_54 kd_45 ?_
  refine st_copyi (k := 10) dX2_become_55 tw_686 tw_688 tw_687 tw_120 kd_4 kd_45 (by decide) (by decide) (by decide) ?_
  refine op_aload_n (k := 1) dX2_become_58 rfl rfl ?_
  refine st_getR (z := 5) dX2_become_59 fl_X2_15 kd_3 (by decide) rfl rr_3_6 ?_
  refine op_iconst (v := 0) dX2_become_62 (by decide) ?_
  refine op_aload_n (k := 0) dX2_become_63 rfl rfl ?_
  refine st_getR (z := 46) dX2_become_64 fl_X2_15 kd_44 (by decide) rfl rr_44_6 ?_
  refine op_iconst (v := 0) dX2_become_67 (by decide) ?_
  refine op_aload_n (k := 0) dX2_become_68 rfl rfl ?_
  refine st_getR (z := 46) dX2_become_69 fl_X2_15 kd_44 (by decide) rfl rr_44_6 ?_
  refine op_alen50 dX2_become_72 kd_46 ?_
  refine st_copyi (k := 10) dX2_become_73 tw_686 tw_688 tw_687 tw_120 kd_5 kd_46 (by decide) (by decide) (by decide) ?_
  refine op_aload_n (k := 1) dX2_become_76 rfl rfl ?_
  refine st_getR (z := 6) dX2_become_77 fl_X2_18 kd_3 (by decide) rfl rr_3_7 ?_
  refine op_iconst (v := 0) dX2_become_80 (by decide) ?_
  refine op_aload_n (k := 0) dX2_become_81 rfl rfl ?_
  refine st_getR (z := 47) dX2_become_82 fl_X2_18 kd_44 (by decide) rfl rr_44_7 ?_
  refine op_iconst (v := 0) dX2_become_85 (by decide) ?_
  refine op_aload_n (k := 0) dX2_become_86 rfl rfl ?_
  refine st_getR (z := 47) dX2_become_87 fl_X2_18 kd_44 (by decide) rfl rr_44_7 ?_
  refine op_alen50 dX2_become_90 kd_47 ?_
  refine st_copyi (k := 6) dX2_become_91 tw_686 tw_688 tw_687 tw_120 kd_6 kd_47 (by decide) (by decide) (by decide) ?_
  refine op_aload_n (k := 1) dX2_become_94 rfl rfl ?_
  refine st_getR (z := 7) dX2_become_95 fl_X2_21 kd_3 (by decide) rfl rr_3_8 ?_
  refine op_iconst (v := 0) dX2_become_98 (by decide) ?_
  refine op_aload_n (k := 0) dX2_become_99 rfl rfl ?_
  refine st_getR (z := 48) dX2_become_100 fl_X2_21 kd_44 (by decide) rfl rr_44_8 ?_
  refine op_iconst (v := 0) dX2_become_103 (by decide) ?_
  refine op_aload_n (k := 0) dX2_become_104 rfl rfl ?_
  refine st_getR (z := 48) dX2_become_105 fl_X2_21 kd_44 (by decide) rfl rr_44_8 ?_
  refine op_alen50 dX2_become_108 kd_48 ?_
  refine st_copyi (k := 6) dX2_become_109 tw_686 tw_688 tw_687 tw_120 kd_7 kd_48 (by decide) (by decide) (by decide) ?_
  refine op_aload_n (k := 1) dX2_become_112 rfl rfl ?_
  refine st_getR (z := 8) dX2_become_113 fl_X2_24 kd_3 (by decide) rfl rr_3_9 ?_
  refine op_iconst (v := 0) dX2_become_116 (by decide) ?_
  refine op_aload_n (k := 0) dX2_become_117 rfl rfl ?_
  refine st_getR (z := 49) dX2_become_118 fl_X2_24 kd_44 (by decide) rfl rr_44_9 ?_
  refine op_iconst (v := 0) dX2_become_121 (by decide) ?_
  refine op_aload_n (k := 0) dX2_become_122 rfl rfl ?_
  refine st_getR (z := 49) dX2_become_123 fl_X2_24 kd_44 (by decide) rfl rr_44_9 ?_
  refine op_alen50 dX2_become_126 kd_49 ?_
  refine st_copyi (k := 6) dX2_become_127 tw_686 tw_688 tw_687 tw_120 kd_8 kd_49 (by decide) (by decide) (by decide) ?_
  cases h
  exact (op_vret dX2_become_130 rfl ⟨rfl, rfl⟩)
theorem t_X2_become_v2 {l : Launch} {ρ : am_R} {n d gc gs : Nat} {I : Nat → Nat → Int32} {J : Nat → Nat → Int64} {T : Nat} {q : (Nat → Nat → Int32)} (hd : 0 * n + 1 ≤ d) (h : f_X2_become_v2 n I J T  = some q) : AW l ρ d M_X2_become 0 [(0, .ref 44), (1, .ref 3)] [] (am_KD, gc, gs) (I, J, am_RT T) (am_KD, gc, gs) (fun v H' => v = [] ∧ H' = (q, J, am_RT T)) := by
  obtain ⟨d, rfl⟩ : ∃ e, d = e + 1 := ⟨d - 1, by omega⟩
  exact t_X2_become_v2_0 hd h
def f_X0_become_v2 (n : Nat) (I : Nat → Nat → Int32) (J : Nat → Nat → Int64) (T : Nat) : Option ((Nat → Nat → Int32) × (Nat → Nat → Int64)) :=
  some ((am_u (am_u I 50 2 (I 41 2)) 50 3 (I 41 3)), (am_row (am_row J 51 ((fun a => if a < 6 then J 42 a else J 51 a))) 52 ((fun a => if a < 240 then (am_row J 51 ((fun a => if a < 6 then J 42 a else J 51 a))) 43 a else (am_row J 51 ((fun a => if a < 6 then J 42 a else J 51 a))) 52 a))))
set_option maxRecDepth 100000 in
set_option maxHeartbeats 4000000 in
theorem t_X0_become_v2_0 {l : Launch} {ρ : am_R} {n d gc gs : Nat} {I : Nat → Nat → Int32} {J : Nat → Nat → Int64} {T : Nat} {q : (Nat → Nat → Int32) × (Nat → Nat → Int64)} (hd : 0 * n + 1 ≤ (d + 1))
    (h : f_X0_become_v2 n  I J T  = some q) : AW l ρ (d + 1) M_X0_become 0 [(0, .ref 50), (1, .ref 41)] [] (am_KD, gc, gs) (I, J, am_RT T) (am_KD, gc, gs) (fun v H' => v = [] ∧ H' = (q.1, q.2, am_RT T)) := by
  unfold f_X0_become_v2 at h
  refine op_aload_n (k := 0) dX0_become_0 rfl rfl ?_
  refine op_aload_n (k := 1) dX0_become_1 rfl rfl ?_
  refine st_getI (v := I 41 2) dX0_become_2 fl_X0_24 kd_41 (by decide) rfl rfl ?_
  refine st_putI dX0_become_5 fl_X0_24 kd_50 (by decide) rfl ?_
  refine op_aload_n (k := 0) dX0_become_8 rfl rfl ?_
  refine op_aload_n (k := 1) dX0_become_9 rfl rfl ?_
  refine st_getI (v := I 41 3) dX0_become_10 fl_X0_28 kd_41 (by decide) rfl rfl ?_
  refine st_putI dX0_become_13 fl_X0_28 kd_50 (by decide) rfl ?_
  refine op_aload_n (k := 1) dX0_become_16 rfl rfl ?_
  refine st_getR (z := 42) dX0_become_17 fl_X0_9 kd_41 (by decide) rfl rr_41_0 ?_
  refine op_iconst (v := 0) dX0_become_20 (by decide) ?_
  refine op_aload_n (k := 0) dX0_become_21 rfl rfl ?_
  refine st_getR (z := 51) dX0_become_22 fl_X0_9 kd_50 (by decide) rfl rr_50_0 ?_
  refine op_iconst (v := 0) dX0_become_25 (by decide) ?_
  refine op_aload_n (k := 0) dX0_become_26 rfl rfl ?_
  refine st_getR (z := 51) dX0_become_27 fl_X0_9 kd_50 (by decide) rfl rr_50_0 ?_
  refine op_alen51 dX0_become_30 kd_51 ?_
  refine st_copyl (k := 6) dX0_become_31 tw_1099 tw_688 tw_687 tw_120 kd_42 kd_51 (by decide) (by decide) (by decide) ?_
  refine op_aload_n (k := 1) dX0_become_34 rfl rfl ?_
  refine st_getR (z := 43) dX0_become_35 fl_X0_15 kd_41 (by decide) rfl rr_41_1 ?_
  refine op_iconst (v := 0) dX0_become_38 (by decide) ?_
  refine op_aload_n (k := 0) dX0_become_39 rfl rfl ?_
  refine st_getR (z := 52) dX0_become_40 fl_X0_15 kd_50 (by decide) rfl rr_50_1 ?_
  refine op_iconst (v := 0) dX0_become_43 (by decide) ?_
  refine op_aload_n (k := 0) dX0_become_44 rfl rfl ?_
  refine st_getR (z := 52) dX0_become_45 fl_X0_15 kd_50 (by decide) rfl rr_50_1 ?_
  refine op_alen51 dX0_become_48 kd_52 ?_
  refine st_copyl (k := 240) dX0_become_49 tw_1099 tw_688 tw_687 tw_120 kd_43 kd_52 (by decide) (by decide) (by decide) ?_
  cases h
  exact (op_vret dX0_become_52 rfl ⟨rfl, rfl⟩)
theorem t_X0_become_v2 {l : Launch} {ρ : am_R} {n d gc gs : Nat} {I : Nat → Nat → Int32} {J : Nat → Nat → Int64} {T : Nat} {q : (Nat → Nat → Int32) × (Nat → Nat → Int64)} (hd : 0 * n + 1 ≤ d) (h : f_X0_become_v2 n I J T  = some q) : AW l ρ d M_X0_become 0 [(0, .ref 50), (1, .ref 41)] [] (am_KD, gc, gs) (I, J, am_RT T) (am_KD, gc, gs) (fun v H' => v = [] ∧ H' = (q.1, q.2, am_RT T)) := by
  obtain ⟨d, rfl⟩ : ∃ e, d = e + 1 := ⟨d - 1, by omega⟩
  exact t_X0_become_v2_0 hd h
def f_X11_image (n : Nat) (I : Nat → Nat → Int32) (J : Nat → Nat → Int64) (T : Nat) : Option (Int32 × (Nat → Nat → Int32) × (Nat → Nat → Int64)) :=
  (f_X11_isRoadless n I J T).bind fun w1 =>
  if w1 = 0 then
   (f_X2_become_v2 n I J T).bind fun w3 =>
   (f_X0_become_v2 n w3 J T).bind fun w4 =>
   some (w4.1 41 2, (am_u w4.1 0 14 1), w4.2)
  else
   some ((-1), I, J)
set_option maxRecDepth 100000 in
set_option maxHeartbeats 4000000 in
theorem t_X11_image_0 {l : Launch} {ρ : am_R} {n d gc gs : Nat} {I : Nat → Nat → Int32} {J : Nat → Nat → Int64} {T : Nat} {q : Int32 × (Nat → Nat → Int32) × (Nat → Nat → Int64)} (hd : 0 * n + 2 ≤ (d + 1))
    (h : f_X11_image n  I J T  = some q) : AW l ρ (d + 1) M_X11_image 0 [(0, .ref 0)] [] (am_KD, gc, gs) (I, J, am_RT T) (am_KD, gc, gs) (fun v H' => v = [.int q.1] ∧ H' = (q.2.1, q.2.2, am_RT T)) := by
  unfold f_X11_image at h
  refine op_aload_n (k := 0) dX11_image_0 rfl rfl ?_
  obtain ⟨w1, ew1, h⟩ := am_bd h
  refine op_callV (M' := M_X11_isRoadless) [] (S0 := []) dX11_image_1 tw_722 ok_X11_isRoadless tw_724 tw_23 kd_0 cls_11 rfl rfl rfl (Nat.le_of_ble_eq_true rfl) (Nat.le_of_ble_eq_true rfl) (t_X11_isRoadless (by omega) ew1) (am_le_rf _) ?_
  rintro _ _ ⟨rfl, rfl⟩
  refine op_if_eq (tgt := 9) dX11_image_4 (by decide) (fun c2 => ?_) (fun c2 => ?_)
  · replace h := am_ip c2 h
    refine op_aload_n (k := 0) dX11_image_9 rfl rfl ?_
    refine st_getR (z := 44) dX11_image_10 fl_X11_99 kd_0 (by decide) rfl rr_0_12 ?_
    refine op_aload_n (k := 0) dX11_image_13 rfl rfl ?_
    refine st_getR (z := 3) dX11_image_14 fl_X11_19 kd_0 (by decide) rfl rr_0_1 ?_
    obtain ⟨w3, ew3, h⟩ := am_bd h
    refine op_callV (M' := M_X2_become) [.ref 3] (S0 := []) dX11_image_17 tw_682 ok_X2_become tw_683 tw_684 kd_44 cls_2 rfl rfl rfl (Nat.le_of_ble_eq_true rfl) (Nat.le_of_ble_eq_true rfl) (t_X2_become_v2 (by omega) ew3) (am_le_rf _) ?_
    rintro _ _ ⟨rfl, rfl⟩
    refine op_aload_n (k := 0) dX11_image_20 rfl rfl ?_
    refine st_getR (z := 50) dX11_image_21 fl_X11_102 kd_0 (by decide) rfl rr_0_13 ?_
    refine op_aload_n (k := 0) dX11_image_24 rfl rfl ?_
    refine st_getR (z := 41) dX11_image_25 fl_X11_95 kd_0 (by decide) rfl rr_0_11 ?_
    obtain ⟨w4, ew4, h⟩ := am_bd h
    refine op_callV (M' := M_X0_become) [.ref 41] (S0 := []) dX11_image_28 tw_1095 ok_X0_become tw_1096 tw_1097 kd_50 cls_0 rfl rfl rfl (Nat.le_of_ble_eq_true rfl) (Nat.le_of_ble_eq_true rfl) (t_X0_become_v2 (by omega) ew4) (am_le_rf _) ?_
    rintro _ _ ⟨rfl, rfl⟩
    refine op_aload_n (k := 0) dX11_image_31 rfl rfl ?_
    refine op_iconst (v := 1) dX11_image_32 (by decide) ?_
    refine st_putZ dX11_image_33 fl_X11_105 kd_0 (by decide) rfl (by decide) ?_
    refine op_aload_n (k := 0) dX11_image_36 rfl rfl ?_
    refine st_getR (z := 41) dX11_image_37 fl_X11_95 kd_0 (by decide) rfl rr_0_11 ?_
    refine st_getI (v := w4.1 41 2) dX11_image_40 fl_X11_308 kd_41 (by decide) rfl rfl ?_
    cases h
    exact (op_iret dX11_image_43 rfl rfl ⟨rfl, rfl⟩)
  · replace h := am_ie c2 h
    refine op_iconst (v := (-1)) dX11_image_7 (by decide) ?_
    cases h
    exact (op_iret dX11_image_8 rfl rfl ⟨rfl, rfl⟩)
theorem t_X11_image {l : Launch} {ρ : am_R} {n d gc gs : Nat} {I : Nat → Nat → Int32} {J : Nat → Nat → Int64} {T : Nat} {q : Int32 × (Nat → Nat → Int32) × (Nat → Nat → Int64)} (hd : 0 * n + 2 ≤ d) (h : f_X11_image n I J T  = some q) : AW l ρ d M_X11_image 0 [(0, .ref 0)] [] (am_KD, gc, gs) (I, J, am_RT T) (am_KD, gc, gs) (fun v H' => v = [.int q.1] ∧ H' = (q.2.1, q.2.2, am_RT T)) := by
  obtain ⟨d, rfl⟩ : ∃ e, d = e + 1 := ⟨d - 1, by omega⟩
  exact t_X11_image_0 hd h
def f_X11_walkersOf_61 (n : Nat) (k4 : (Nat → Nat → Int32) → (Nat → Nat → Int64) → Nat → Int32 → Int32 → Int32 → Option (Int32 × (Nat → Nat → Int32))) (I : Nat → Nat → Int32) (J : Nat → Nat → Int64) (T : Nat) (x1 : Int32) (x2 : Int32) (x3 : Int32) : Option (Int32 × (Nat → Nat → Int32)) :=
  k4 I J T x1 x2 (x3 + 1)
def f_X11_walkersOf_4 (n : Nat) : Nat → (Nat → Nat → Int32) → (Nat → Nat → Int64) → Nat → Int32 → Int32 → Int32 → Option (Int32 × (Nat → Nat → Int32))
  | 0, _, _, _, _, _, _ => none
  | m + 1, I, J, T, x1, x2, x3 =>
    if (I 3 1) ≤ x3 then
     some (x2, I)
    else
     (f_X11_isIn n I J T x3 x1).bind fun w2 =>
     if w2 = 0 then
      f_X11_walkersOf_61 n (f_X11_walkersOf_4 n m) I J T x1 x2 x3
     else
      (f_X7_above n I J T x3 x1).bind fun w4 =>
      if ok_ix x3 6 then
       (f_X7_below n w4.2 J T x1).bind fun w6 =>
       if (lg_cmp w4.1 (((w4.2 7 x3.toNatClampNeg).toInt64) * w6)) ≤ 0 then
        f_X11_walkersOf_61 n (f_X11_walkersOf_4 n m) w4.2 J T x1 x2 x3
       else
        f_X11_walkersOf_61 n (f_X11_walkersOf_4 n m) w4.2 J T x1 (x2 ||| (1 <<< (x3 &&& 31))) x3
      else none
def f_X11_walkersOf (n : Nat) (I : Nat → Nat → Int32) (J : Nat → Nat → Int64) (T : Nat) (x1 : Int32) : Option (Int32 × (Nat → Nat → Int32)) :=
  f_X11_walkersOf_4 n  n I J T x1 0 0
set_option maxRecDepth 100000 in
set_option maxHeartbeats 4000000 in
theorem t_X11_walkersOf_61 {l : Launch} {ρ : am_R} {n d gc gs : Nat} {k4 : (Nat → Nat → Int32) → (Nat → Nat → Int64) → Nat → Int32 → Int32 → Int32 → Option (Int32 × (Nat → Nat → Int32))} {I : Nat → Nat → Int32} {J : Nat → Nat → Int64} {T : Nat} {x1 : Int32} {x2 : Int32} {x3 : Int32} {q : Int32 × (Nat → Nat → Int32)} (hd : 0 * n + 6 ≤ (d + 1))
    (hk4 : ∀ (I : Nat → Nat → Int32) (J : Nat → Nat → Int64) (T : Nat) (x1 : Int32) (x2 : Int32) (x3 : Int32), k4 I J T x1 x2 x3 = some q → AW l ρ (d + 1) M_X11_walkersOf 4 [(0, .ref 0), (1, .int x1), (2, .int x2), (3, .int x3)] [] (am_KD, gc, gs) (I, J, am_RT T) (am_KD, gc, gs) (fun v H' => v = [.int q.1] ∧ H' = (q.2, J, am_RT T)))
    (h : f_X11_walkersOf_61 n k4 I J T x1 x2 x3 = some q) : AW l ρ (d + 1) M_X11_walkersOf 61 [(0, .ref 0), (1, .int x1), (2, .int x2), (3, .int x3)] [] (am_KD, gc, gs) (I, J, am_RT T) (am_KD, gc, gs) (fun v H' => v = [.int q.1] ∧ H' = (q.2, J, am_RT T)) := by
  unfold f_X11_walkersOf_61 at h
  refine op_iinc (k := 3) (v := x3 + 1) (L' := [(3, .int (x3 + 1)), (0, .ref 0), (1, .int x1), (2, .int x2)]) dX11_walkersOf_61 rfl rfl (by decide) rfl ?_
  refine op_goto (tgt := 4) dX11_walkersOf_64 (by decide) ?_
  refine AW.perm [1, 2, 3, 0] rfl ?_
  exact hk4 _ _ _ _ _ _ h
set_option maxRecDepth 100000 in
set_option maxHeartbeats 4000000 in
theorem t_X11_walkersOf_4 {l : Launch} {ρ : am_R} {n d gc gs : Nat} {q : Int32 × (Nat → Nat → Int32)} (hd : 0 * n + 6 ≤ (d + 1))
    : ∀ (m : Nat) (I : Nat → Nat → Int32) (J : Nat → Nat → Int64) (T : Nat) (x1 : Int32) (x2 : Int32) (x3 : Int32), f_X11_walkersOf_4 n  m I J T x1 x2 x3 = some q → AW l ρ (d + 1) M_X11_walkersOf 4 [(0, .ref 0), (1, .int x1), (2, .int x2), (3, .int x3)] [] (am_KD, gc, gs) (I, J, am_RT T) (am_KD, gc, gs) (fun v H' => v = [.int q.1] ∧ H' = (q.2, J, am_RT T)) := by
  intro m
  induction m with
  | zero =>
    intro I J T x1 x2 x3 h
    rw [f_X11_walkersOf_4] at h
    cases h
  | succ m ih =>
    intro I J T x1 x2 x3 h
    rw [f_X11_walkersOf_4] at h
    refine op_iload_n (k := 3) dX11_walkersOf_4 rfl rfl ?_
    refine op_aload_n (k := 0) dX11_walkersOf_5 rfl rfl ?_
    refine st_getR (z := 3) dX11_walkersOf_6 fl_X11_19 kd_0 (by decide) rfl rr_0_1 ?_
    refine st_getI (v := I 3 1) dX11_walkersOf_9 fl_X11_143 kd_3 (by decide) rfl rfl ?_
    refine op_icmp_ge (tgt := 67) dX11_walkersOf_12 (by decide) (fun c1 => ?_) (fun c1 => ?_)
    · replace h := am_ip c1 h
      refine op_iload_n (k := 2) dX11_walkersOf_67 rfl rfl ?_
      cases h
      exact (op_iret dX11_walkersOf_68 rfl rfl ⟨rfl, rfl⟩)
    · replace h := am_ie c1 h
      refine op_iload_n (k := 3) dX11_walkersOf_15 rfl rfl ?_
      refine op_iload_n (k := 1) dX11_walkersOf_16 rfl rfl ?_
      obtain ⟨w2, ew2, h⟩ := am_bd h
      refine op_callS (M' := M_X11_isIn) [.int x3, .int x1] (S0 := []) dX11_walkersOf_17 tw_790 ok_X11_isIn tw_771 rfl rfl (Nat.le_of_ble_eq_true rfl) (Nat.le_of_ble_eq_true rfl) (t_X11_isIn (by omega) ew2) (am_le_rf _) ?_
      rintro _ _ ⟨rfl, rfl⟩
      refine op_if_eq (tgt := 61) dX11_walkersOf_20 (by decide) (fun c3 => ?_) (fun c3 => ?_)
      · replace h := am_ip c3 h
        exact t_X11_walkersOf_61 hd ih h
      · replace h := am_ie c3 h
        refine op_aload_n (k := 0) dX11_walkersOf_23 rfl rfl ?_
        refine st_getR (z := 27) dX11_walkersOf_24 fl_X11_56 kd_0 (by decide) rfl rr_0_6 ?_
        refine op_iload_n (k := 3) dX11_walkersOf_27 rfl rfl ?_
        refine op_iload_n (k := 1) dX11_walkersOf_28 rfl rfl ?_
        obtain ⟨w4, ew4, h⟩ := am_bd h
        refine op_callV (M' := M_X7_above) [.int x3, .int x1] (S0 := []) dX11_walkersOf_29 tw_860 ok_X7_above tw_861 tw_862 kd_27 cls_7 rfl rfl rfl (Nat.le_of_ble_eq_true rfl) (Nat.le_of_ble_eq_true rfl) (t_X7_above (by omega) ew4) (am_le_rf _) ?_
        rintro _ _ ⟨rfl, rfl⟩
        refine op_aload_n (k := 0) dX11_walkersOf_32 rfl rfl ?_
        refine st_getR (z := 3) dX11_walkersOf_33 fl_X11_19 kd_0 (by decide) rfl rr_0_1 ?_
        refine st_getR (z := 7) dX11_walkersOf_36 fl_X11_168 kd_3 (by decide) rfl rr_3_8 ?_
        refine op_iload_n (k := 3) dX11_walkersOf_39 rfl rfl ?_
        obtain ⟨g5, h⟩ := am_gd h
        refine st_iald (k := x3.toNatClampNeg) (v := w4.2 7 x3.toNatClampNeg) dX11_walkersOf_40 kd_7 g5 rfl rfl ?_
        refine op_i2l dX11_walkersOf_41 ?_
        refine op_aload_n (k := 0) dX11_walkersOf_42 rfl rfl ?_
        refine st_getR (z := 27) dX11_walkersOf_43 fl_X11_56 kd_0 (by decide) rfl rr_0_6 ?_
        refine op_iload_n (k := 1) dX11_walkersOf_46 rfl rfl ?_
        obtain ⟨w6, ew6, h⟩ := am_bd h
        refine op_callV (M' := M_X7_below) [.int x1] (S0 := [.long ((w4.2 7 x3.toNatClampNeg).toInt64), .long w4.1]) dX11_walkersOf_47 tw_889 ok_X7_below tw_890 tw_891 kd_27 cls_7 rfl rfl rfl (Nat.le_of_ble_eq_true rfl) (Nat.le_of_ble_eq_true rfl) (t_X7_below (by omega) ew6) (am_le_rf _) ?_
        rintro _ _ ⟨rfl, rfl⟩
        refine op_lmul dX11_walkersOf_50 ?_
        refine op_lcmp dX11_walkersOf_51 ?_
        refine op_if_le (tgt := 61) dX11_walkersOf_52 (by decide) (fun c7 => ?_) (fun c7 => ?_)
        · replace h := am_ip c7 h
          exact t_X11_walkersOf_61 hd ih h
        · replace h := am_ie c7 h
          refine op_iload_n (k := 2) dX11_walkersOf_55 rfl rfl ?_
          refine op_iconst (v := 1) dX11_walkersOf_56 (by decide) ?_
          refine op_iload_n (k := 3) dX11_walkersOf_57 rfl rfl ?_
          refine op_ishl dX11_walkersOf_58 ?_
          refine op_ior dX11_walkersOf_59 ?_
          refine op_istore_n (L' := [(2, .int (x2 ||| (1 <<< (x3 &&& 31)))), (0, .ref 0), (1, .int x1), (3, .int x3)]) dX11_walkersOf_60 rfl (by decide) rfl ?_
          refine AW.perm [1, 2, 0, 3] rfl ?_
          exact t_X11_walkersOf_61 hd ih h
set_option maxRecDepth 100000 in
set_option maxHeartbeats 4000000 in
theorem t_X11_walkersOf_0 {l : Launch} {ρ : am_R} {n d gc gs : Nat} {I : Nat → Nat → Int32} {J : Nat → Nat → Int64} {T : Nat} {x1 : Int32} {q : Int32 × (Nat → Nat → Int32)} (hd : 0 * n + 6 ≤ (d + 1))
    (h : f_X11_walkersOf n  I J T x1 = some q) : AW l ρ (d + 1) M_X11_walkersOf 0 [(0, .ref 0), (1, .int x1)] [] (am_KD, gc, gs) (I, J, am_RT T) (am_KD, gc, gs) (fun v H' => v = [.int q.1] ∧ H' = (q.2, J, am_RT T)) := by
  unfold f_X11_walkersOf at h
  refine op_iconst (v := 0) dX11_walkersOf_0 (by decide) ?_
  refine op_istore_n (L' := [(2, .int 0), (0, .ref 0), (1, .int x1)]) dX11_walkersOf_1 rfl (by decide) rfl ?_
  refine op_iconst (v := 0) dX11_walkersOf_2 (by decide) ?_
  refine op_istore_n (L' := [(3, .int 0), (2, .int 0), (0, .ref 0), (1, .int x1)]) dX11_walkersOf_3 rfl (by decide) rfl ?_
  refine AW.perm [2, 3, 1, 0] rfl ?_
  exact t_X11_walkersOf_4 hd  n _ _ _ _ _ _ h
theorem t_X11_walkersOf {l : Launch} {ρ : am_R} {n d gc gs : Nat} {I : Nat → Nat → Int32} {J : Nat → Nat → Int64} {T : Nat} {x1 : Int32} {q : Int32 × (Nat → Nat → Int32)} (hd : 0 * n + 6 ≤ d) (h : f_X11_walkersOf n I J T x1 = some q) : AW l ρ d M_X11_walkersOf 0 [(0, .ref 0), (1, .int x1)] [] (am_KD, gc, gs) (I, J, am_RT T) (am_KD, gc, gs) (fun v H' => v = [.int q.1] ∧ H' = (q.2, J, am_RT T)) := by
  obtain ⟨d, rfl⟩ : ∃ e, d = e + 1 := ⟨d - 1, by omega⟩
  exact t_X11_walkersOf_0 hd h
def f_X11_left_29 (n : Nat) : Nat → (Nat → Nat → Int32) → (Nat → Nat → Int64) → Nat → Int32 → Int32 → Option (Int32 × (Nat → Nat → Int32))
  | 0, _, _, _, _, _ => none
  | m + 1, I, J, T, x2, x3 =>
    if 6 ≤ x3 then
     some (x2, I)
    else
     (f_X11_walkersOf n I J T x2).bind fun w2 =>
     f_X11_left_29 n  m w2.2 J T (x2 &&& (w2.1 ^^^ ((-1)))) (x3 + 1)
def f_X11_left (n : Nat) (I : Nat → Nat → Int32) (J : Nat → Nat → Int64) (T : Nat) (x1 : Int32) : Option (Int32 × (Nat → Nat → Int32)) :=
  (f_X11_isLaw n I J T x1).bind fun w1 =>
  if w1 = 0 then
   some ((-1), I)
  else
   (f_X7_weigh n I J T x1 1).bind fun w3 =>
   (f_X2_everyone n w3 J T).bind fun w4 =>
   f_X11_left_29 n  n w3 J T w4 0
set_option maxRecDepth 100000 in
set_option maxHeartbeats 4000000 in
theorem t_X11_left_29 {l : Launch} {ρ : am_R} {n d gc gs : Nat} {q : Int32 × (Nat → Nat → Int32)} (hd : 0 * n + 7 ≤ (d + 1))
    : ∀ (m : Nat) (I : Nat → Nat → Int32) (J : Nat → Nat → Int64) (T : Nat) (x2 : Int32) (x3 : Int32), f_X11_left_29 n  m I J T x2 x3 = some q → AW l ρ (d + 1) M_X11_left 29 [(0, .ref 0), (2, .int x2), (3, .int x3)] [] (am_KD, gc, gs) (I, J, am_RT T) (am_KD, gc, gs) (fun v H' => v = [.int q.1] ∧ H' = (q.2, J, am_RT T)) := by
  intro m
  induction m with
  | zero =>
    intro I J T x2 x3 h
    rw [f_X11_left_29] at h
    cases h
  | succ m ih =>
    intro I J T x2 x3 h
    rw [f_X11_left_29] at h
    refine op_iload_n (k := 2) dX11_left_29 rfl rfl ?_
    refine op_bipush (v := 6) dX11_left_30 (by decide) ?_
    refine op_icmp_ge (tgt := 51) dX11_left_32 (by decide) (fun c1 => ?_) (fun c1 => ?_)
    · replace h := am_ip c1 h
      refine op_iload_n (k := 1) dX11_left_51 rfl rfl ?_
      cases h
      exact (op_iret dX11_left_52 rfl rfl ⟨rfl, rfl⟩)
    · replace h := am_ie c1 h
      refine op_iload_n (k := 1) dX11_left_35 rfl rfl ?_
      refine op_aload_n (k := 0) dX11_left_36 rfl rfl ?_
      refine op_iload_n (k := 1) dX11_left_37 rfl rfl ?_
      obtain ⟨w2, ew2, h⟩ := am_bd h
      refine op_callV (M' := M_X11_walkersOf) [.int x2] (S0 := [.int x2]) dX11_left_38 tw_997 ok_X11_walkersOf tw_999 tw_46 kd_0 cls_11 rfl rfl rfl (Nat.le_of_ble_eq_true rfl) (Nat.le_of_ble_eq_true rfl) (t_X11_walkersOf (by omega) ew2) (am_le_rf _) ?_
      rintro _ _ ⟨rfl, rfl⟩
      refine op_iconst (v := (-1)) dX11_left_41 (by decide) ?_
      refine op_ixor dX11_left_42 ?_
      refine op_iand dX11_left_43 ?_
      refine op_istore_n (L' := [(2, .int (x2 &&& (w2.1 ^^^ ((-1))))), (0, .ref 0), (3, .int x3)]) dX11_left_44 rfl (by decide) rfl ?_
      refine op_iinc (k := 2) (v := x3 + 1) (L' := [(3, .int (x3 + 1)), (2, .int (x2 &&& (w2.1 ^^^ ((-1))))), (0, .ref 0)]) dX11_left_45 rfl rfl (by decide) rfl ?_
      refine op_goto (tgt := 29) dX11_left_48 (by decide) ?_
      refine AW.perm [2, 1, 0] rfl ?_
      exact ih _ _ _ _ _ h
set_option maxRecDepth 100000 in
set_option maxHeartbeats 4000000 in
theorem t_X11_left_0 {l : Launch} {ρ : am_R} {n d gc gs : Nat} {I : Nat → Nat → Int32} {J : Nat → Nat → Int64} {T : Nat} {x1 : Int32} {q : Int32 × (Nat → Nat → Int32)} (hd : 0 * n + 7 ≤ (d + 1))
    (h : f_X11_left n  I J T x1 = some q) : AW l ρ (d + 1) M_X11_left 0 [(0, .ref 0), (1, .int x1)] [] (am_KD, gc, gs) (I, J, am_RT T) (am_KD, gc, gs) (fun v H' => v = [.int q.1] ∧ H' = (q.2, J, am_RT T)) := by
  unfold f_X11_left at h
  refine op_aload_n (k := 0) dX11_left_0 rfl rfl ?_
  refine op_iload_n (k := 1) dX11_left_1 rfl rfl ?_
  obtain ⟨w1, ew1, h⟩ := am_bd h
  refine op_callV (M' := M_X11_isLaw) [.int x1] (S0 := []) dX11_left_2 tw_791 ok_X11_isLaw tw_793 tw_28 kd_0 cls_11 rfl rfl rfl (Nat.le_of_ble_eq_true rfl) (Nat.le_of_ble_eq_true rfl) (t_X11_isLaw (by omega) ew1) (am_le_rf _) ?_
  rintro _ _ ⟨rfl, rfl⟩
  refine op_if_ne (tgt := 10) dX11_left_5 (by decide) (fun c2 => ?_) (fun c2 => ?_)
  · replace h := am_ie c2 h
    refine op_aload_n (k := 0) dX11_left_10 rfl rfl ?_
    refine st_getR (z := 27) dX11_left_11 fl_X11_56 kd_0 (by decide) rfl rr_0_6 ?_
    refine op_iload_n (k := 1) dX11_left_14 rfl rfl ?_
    refine op_iconst (v := 1) dX11_left_15 (by decide) ?_
    obtain ⟨w3, ew3, h⟩ := am_bd h
    refine op_callV (M' := M_X7_weigh) [.int x1, .int 1] (S0 := []) dX11_left_16 tw_802 ok_X7_weigh tw_803 tw_804 kd_27 cls_7 rfl rfl rfl (Nat.le_of_ble_eq_true rfl) (Nat.le_of_ble_eq_true rfl) (t_X7_weigh (by omega) ew3) (am_le_rf _) ?_
    rintro _ _ ⟨rfl, rfl⟩
    refine op_aload_n (k := 0) dX11_left_19 rfl rfl ?_
    refine st_getR (z := 3) dX11_left_20 fl_X11_19 kd_0 (by decide) rfl rr_0_1 ?_
    obtain ⟨w4, ew4, h⟩ := am_bd h
    refine op_callV (M' := M_X2_everyone) [] (S0 := []) dX11_left_23 tw_762 ok_X2_everyone tw_763 tw_764 kd_3 cls_2 rfl rfl rfl (Nat.le_of_ble_eq_true rfl) (Nat.le_of_ble_eq_true rfl) (t_X2_everyone (by omega) ew4) (am_le_rf _) ?_
    rintro _ _ ⟨rfl, rfl⟩
    refine op_istore_n (L' := [(2, .int w4), (0, .ref 0), (1, .int x1)]) dX11_left_26 rfl (by decide) rfl ?_
    refine op_iconst (v := 0) dX11_left_27 (by decide) ?_
    refine op_istore_n (L' := [(3, .int 0), (2, .int w4), (0, .ref 0), (1, .int x1)]) dX11_left_28 rfl (by decide) rfl ?_
    refine AW.perm [2, 1, 0] rfl ?_
    exact t_X11_left_29 hd  n _ _ _ _ _ h
  · replace h := am_ip c2 h
    refine op_iconst (v := (-1)) dX11_left_8 (by decide) ?_
    cases h
    exact (op_iret dX11_left_9 rfl rfl ⟨rfl, rfl⟩)
theorem t_X11_left {l : Launch} {ρ : am_R} {n d gc gs : Nat} {I : Nat → Nat → Int32} {J : Nat → Nat → Int64} {T : Nat} {x1 : Int32} {q : Int32 × (Nat → Nat → Int32)} (hd : 0 * n + 7 ≤ d) (h : f_X11_left n I J T x1 = some q) : AW l ρ d M_X11_left 0 [(0, .ref 0), (1, .int x1)] [] (am_KD, gc, gs) (I, J, am_RT T) (am_KD, gc, gs) (fun v H' => v = [.int q.1] ∧ H' = (q.2, J, am_RT T)) := by
  obtain ⟨d, rfl⟩ : ∃ e, d = e + 1 := ⟨d - 1, by omega⟩
  exact t_X11_left_0 hd h
def f_X1_take (n : Nat) (I : Nat → Nat → Int32) (J : Nat → Nat → Int64) (T : Nat) (x1 : Int32) (y2 : Int64) (y4 : Int64) : Option ((Nat → Nat → Int32) × (Nat → Nat → Int64)) :=
  some ((am_u I 36 6 x1), (am_u (am_u J 36 4 y2) 36 5 y4))
set_option maxRecDepth 100000 in
set_option maxHeartbeats 4000000 in
theorem t_X1_take_0 {l : Launch} {ρ : am_R} {n d gc gs : Nat} {I : Nat → Nat → Int32} {J : Nat → Nat → Int64} {T : Nat} {x1 : Int32} {y2 : Int64} {y4 : Int64} {q : (Nat → Nat → Int32) × (Nat → Nat → Int64)} (hd : 0 * n + 0 ≤ d)
    (h : f_X1_take n  I J T x1 y2 y4 = some q) : AW l ρ d M_X1_take 0 [(0, .ref 36), (1, .int x1), (2, .long y2), (4, .long y4)] [] (am_KD, gc, gs) (I, J, am_RT T) (am_KD, gc, gs) (fun v H' => v = [] ∧ H' = (q.1, q.2, am_RT T)) := by
  unfold f_X1_take at h
  refine op_aload_n (k := 0) dX1_take_0 rfl rfl ?_
  refine op_iload_n (k := 1) dX1_take_1 rfl rfl ?_
  refine st_putI dX1_take_2 fl_X1_69 kd_36 (by decide) rfl ?_
  refine op_aload_n (k := 0) dX1_take_5 rfl rfl ?_
  refine op_lload_n (k := 2) dX1_take_6 rfl rfl ?_
  refine st_putL dX1_take_7 fl_X1_66 kd_36 (by decide) rfl ?_
  refine op_aload_n (k := 0) dX1_take_10 rfl rfl ?_
  refine op_lload (k := 3) dX1_take_11 rfl ?_
  refine st_putL dX1_take_13 fl_X1_63 kd_36 (by decide) rfl ?_
  cases h
  exact (op_vret dX1_take_16 rfl ⟨rfl, rfl⟩)
theorem t_X1_take {l : Launch} {ρ : am_R} {n d gc gs : Nat} {I : Nat → Nat → Int32} {J : Nat → Nat → Int64} {T : Nat} {x1 : Int32} {y2 : Int64} {y4 : Int64} {q : (Nat → Nat → Int32) × (Nat → Nat → Int64)} (hd : 0 * n + 0 ≤ d) (h : f_X1_take n I J T x1 y2 y4 = some q) : AW l ρ d M_X1_take 0 [(0, .ref 36), (1, .int x1), (2, .long y2), (4, .long y4)] [] (am_KD, gc, gs) (I, J, am_RT T) (am_KD, gc, gs) (fun v H' => v = [] ∧ H' = (q.1, q.2, am_RT T)) := t_X1_take_0 hd h
