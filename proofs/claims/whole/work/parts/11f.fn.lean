def f_X1_search_186 (n : Nat) (k79 : (Nat → Nat → Int32) → (Nat → Nat → Int64) → Nat → Int32 → Int32 → Int32 → Int32 → Int32 → Int32 → Option ((Nat → Nat → Int32) × (Nat → Nat → Int64))) (I : Nat → Nat → Int32) (J : Nat → Nat → Int64) (T : Nat) (x1 : Int32) (x2 : Int32) (x3 : Int32) (x4 : Int32) (x5 : Int32) (x6 : Int32) : Option ((Nat → Nat → Int32) × (Nat → Nat → Int64)) :=
  k79 I J T x1 x2 x3 x4 x5 (x6 + 1)
def f_X1_search_79 (n : Nat) : Nat → (Nat → Nat → Int32) → (Nat → Nat → Int64) → Nat → Int32 → Int32 → Int32 → Int32 → Int32 → Int32 → Option ((Nat → Nat → Int32) × (Nat → Nat → Int64))
  | 0, _, _, _, _, _, _, _, _, _ => none
  | m + 1, I, J, T, x1, x2, x3, x4, x5, x6 =>
    if (I 3 0) < x6 then
     if ok_ix x1 6 then
      some ((am_u I 6 x1.toNatClampNeg x5), J)
     else none
    else
     if ok_ix x1 6 then
      (f_X7_weigh n ((am_u I 6 x1.toNatClampNeg x6)) J T x2 (I 3 1)).bind fun w4 =>
      (f_X7_below n w4 J T x4).bind fun w5 =>
      (f_X7_above n w4 J T x1 x4).bind fun w6 =>
      (f_X2_apart n w6.2 J T x6 x5).bind fun w7 =>
      if 0 ≤ (lg_cmp ((w6.1 + (((x3 * w7).toInt64) * w5)) * (J 36 5)) ((J 36 4) * w5)) then
       f_X1_search_186 n (f_X1_search_79 n m) w6.2 J T x1 x2 x3 x4 x5 x6
      else
       (f_X1_take n w6.2 J T x6 (w6.1 + (((x3 * w7).toInt64) * w5)) w5).bind fun w9 =>
       f_X1_search_186 n (f_X1_search_79 n m) w9.1 w9.2 T x1 x2 x3 x4 x5 x6
     else none
def f_X1_search (n : Nat) (I : Nat → Nat → Int32) (J : Nat → Nat → Int64) (T : Nat) (x1 : Int32) (x2 : Int32) (x3 : Int32) : Option ((Nat → Nat → Int32) × (Nat → Nat → Int64)) :=
  (f_X2_everyone n I J T).bind fun w1 =>
  if ok_ix x1 6 then
   (f_X7_weigh n I J T x2 (I 3 1)).bind fun w3 =>
   (f_X7_above n w3 J T x1 w1).bind fun w4 =>
   (f_X7_below n w4.2 ((am_u J 36 2 w4.1)) T w1).bind fun w5 =>
   (f_X1_take n w4.2 ((am_u (am_u J 36 2 w4.1) 36 3 w5)) T (I 6 x1.toNatClampNeg) w4.1 w5).bind fun w6 =>
   f_X1_search_79 n  n w6.1 w6.2 T x1 x2 x3 w1 (I 6 x1.toNatClampNeg) 1
  else none
set_option maxRecDepth 100000 in
set_option maxHeartbeats 4000000 in
theorem t_X1_search_186 {l : Launch} {ρ : am_R} {n d gc gs : Nat} {k79 : (Nat → Nat → Int32) → (Nat → Nat → Int64) → Nat → Int32 → Int32 → Int32 → Int32 → Int32 → Int32 → Option ((Nat → Nat → Int32) × (Nat → Nat → Int64))} {I : Nat → Nat → Int32} {J : Nat → Nat → Int64} {T : Nat} {x1 : Int32} {x2 : Int32} {x3 : Int32} {x4 : Int32} {x5 : Int32} {x6 : Int32} {q : (Nat → Nat → Int32) × (Nat → Nat → Int64)} (hd : 0 * n + 6 ≤ (d + 1))
    (hk79 : ∀ (I : Nat → Nat → Int32) (J : Nat → Nat → Int64) (T : Nat) (x1 : Int32) (x2 : Int32) (x3 : Int32) (x4 : Int32) (x5 : Int32) (x6 : Int32), k79 I J T x1 x2 x3 x4 x5 x6 = some q → AW l ρ (d + 1) M_X1_search 79 [(0, .ref 36), (1, .int x1), (2, .int x2), (3, .int x3), (4, .int x4), (5, .int x5), (6, .int x6)] [] (am_KD, gc, gs) (I, J, am_RT T) (am_KD, gc, gs) (fun v H' => v = [] ∧ H' = (q.1, q.2, am_RT T)))
    (h : f_X1_search_186 n k79 I J T x1 x2 x3 x4 x5 x6 = some q) : AW l ρ (d + 1) M_X1_search 186 [(0, .ref 36), (1, .int x1), (2, .int x2), (3, .int x3), (4, .int x4), (5, .int x5), (6, .int x6)] [] (am_KD, gc, gs) (I, J, am_RT T) (am_KD, gc, gs) (fun v H' => v = [] ∧ H' = (q.1, q.2, am_RT T)) := by
  unfold f_X1_search_186 at h
  refine op_iinc (k := 6) (v := x6 + 1) (L' := [(6, .int (x6 + 1)), (0, .ref 36), (1, .int x1), (2, .int x2), (3, .int x3), (4, .int x4), (5, .int x5)]) dX1_search_186 rfl rfl (by decide) rfl ?_
  refine op_goto (tgt := 79) dX1_search_189 (by decide) ?_
  refine AW.perm [1, 2, 3, 4, 5, 6, 0] rfl ?_
  exact hk79 _ _ _ _ _ _ _ _ _ h
set_option maxRecDepth 100000 in
set_option maxHeartbeats 4000000 in
theorem t_X1_search_79 {l : Launch} {ρ : am_R} {n d gc gs : Nat} {q : (Nat → Nat → Int32) × (Nat → Nat → Int64)} (hd : 0 * n + 6 ≤ (d + 1))
    : ∀ (m : Nat) (I : Nat → Nat → Int32) (J : Nat → Nat → Int64) (T : Nat) (x1 : Int32) (x2 : Int32) (x3 : Int32) (x4 : Int32) (x5 : Int32) (x6 : Int32), f_X1_search_79 n  m I J T x1 x2 x3 x4 x5 x6 = some q → AW l ρ (d + 1) M_X1_search 79 [(0, .ref 36), (1, .int x1), (2, .int x2), (3, .int x3), (4, .int x4), (5, .int x5), (6, .int x6)] [] (am_KD, gc, gs) (I, J, am_RT T) (am_KD, gc, gs) (fun v H' => v = [] ∧ H' = (q.1, q.2, am_RT T)) := by
  intro m
  induction m with
  | zero =>
    intro I J T x1 x2 x3 x4 x5 x6 h
    rw [f_X1_search_79] at h
    cases h
  | succ m ih =>
    intro I J T x1 x2 x3 x4 x5 x6 h
    rw [f_X1_search_79] at h
    refine op_iload (k := 6) dX1_search_79 rfl ?_
    refine op_aload_n (k := 0) dX1_search_81 rfl rfl ?_
    refine st_getR (z := 3) dX1_search_82 fl_X1_7 kd_36 (by decide) rfl rr_36_0 ?_
    refine st_getI (v := I 3 0) dX1_search_85 fl_X1_56 kd_3 (by decide) rfl rfl ?_
    refine op_icmp_gt (tgt := 192) dX1_search_88 (by decide) (fun c1 => ?_) (fun c1 => ?_)
    · replace h := am_ip c1 h
      refine op_aload_n (k := 0) dX1_search_192 rfl rfl ?_
      refine st_getR (z := 3) dX1_search_193 fl_X1_7 kd_36 (by decide) rfl rr_36_0 ?_
      refine st_getR (z := 6) dX1_search_196 fl_X1_23 kd_3 (by decide) rfl rr_3_7 ?_
      refine op_iload_n (k := 1) dX1_search_199 rfl rfl ?_
      refine op_iload (k := 5) dX1_search_200 rfl ?_
      obtain ⟨g2, h⟩ := am_gd h
      refine st_iast (k := x1.toNatClampNeg) dX1_search_202 kd_6 g2 rfl ?_
      cases h
      exact (op_vret dX1_search_203 rfl ⟨rfl, rfl⟩)
    · replace h := am_ie c1 h
      refine op_aload_n (k := 0) dX1_search_91 rfl rfl ?_
      refine st_getR (z := 3) dX1_search_92 fl_X1_7 kd_36 (by decide) rfl rr_36_0 ?_
      refine st_getR (z := 6) dX1_search_95 fl_X1_23 kd_3 (by decide) rfl rr_3_7 ?_
      refine op_iload_n (k := 1) dX1_search_98 rfl rfl ?_
      refine op_iload (k := 6) dX1_search_99 rfl ?_
      obtain ⟨g3, h⟩ := am_gd h
      refine st_iast (k := x1.toNatClampNeg) dX1_search_101 kd_6 g3 rfl ?_
      refine op_aload_n (k := 0) dX1_search_102 rfl rfl ?_
      refine st_getR (z := 27) dX1_search_103 fl_X1_13 kd_36 (by decide) rfl rr_36_1 ?_
      refine op_iload_n (k := 2) dX1_search_106 rfl rfl ?_
      refine op_aload_n (k := 0) dX1_search_107 rfl rfl ?_
      refine st_getR (z := 3) dX1_search_108 fl_X1_7 kd_36 (by decide) rfl rr_36_0 ?_
      refine st_getI (v := I 3 1) dX1_search_111 fl_X1_27 kd_3 (by decide) rfl rfl ?_
      obtain ⟨w4, ew4, h⟩ := am_bd h
      refine op_callV (M' := M_X7_weigh) [.int x2, .int (I 3 1)] (S0 := []) dX1_search_114 tw_1010 ok_X7_weigh tw_803 tw_804 kd_27 cls_7 rfl rfl rfl (Nat.le_of_ble_eq_true rfl) (Nat.le_of_ble_eq_true rfl) (t_X7_weigh (by omega) ew4) (am_le_rf _) ?_
      rintro _ _ ⟨rfl, rfl⟩
      refine op_aload_n (k := 0) dX1_search_117 rfl rfl ?_
      refine st_getR (z := 27) dX1_search_118 fl_X1_13 kd_36 (by decide) rfl rr_36_1 ?_
      refine op_iload (k := 4) dX1_search_121 rfl ?_
      obtain ⟨w5, ew5, h⟩ := am_bd h
      refine op_callV (M' := M_X7_below) [.int x4] (S0 := []) dX1_search_123 tw_1012 ok_X7_below tw_890 tw_891 kd_27 cls_7 rfl rfl rfl (Nat.le_of_ble_eq_true rfl) (Nat.le_of_ble_eq_true rfl) (t_X7_below (by omega) ew5) (am_le_rf _) ?_
      rintro _ _ ⟨rfl, rfl⟩
      refine op_lstore (L' := [(7, .long w5), (0, .ref 36), (1, .int x1), (2, .int x2), (3, .int x3), (4, .int x4), (5, .int x5), (6, .int x6)]) dX1_search_126 (by decide) rfl ?_
      refine op_aload_n (k := 1) dX1_search_128 rfl rfl ?_
      refine st_getR (z := 27) dX1_search_129 fl_X1_13 kd_36 (by decide) rfl rr_36_1 ?_
      refine op_iload_n (k := 2) dX1_search_132 rfl rfl ?_
      refine op_iload (k := 5) dX1_search_133 rfl ?_
      obtain ⟨w6, ew6, h⟩ := am_bd h
      refine op_callV (M' := M_X7_above) [.int x1, .int x4] (S0 := []) dX1_search_135 tw_1011 ok_X7_above tw_861 tw_862 kd_27 cls_7 rfl rfl rfl (Nat.le_of_ble_eq_true rfl) (Nat.le_of_ble_eq_true rfl) (t_X7_above (by omega) ew6) (am_le_rf _) ?_
      rintro _ _ ⟨rfl, rfl⟩
      refine op_iload_n (k := 4) dX1_search_138 rfl rfl ?_
      refine op_aload_n (k := 1) dX1_search_139 rfl rfl ?_
      refine st_getR (z := 3) dX1_search_140 fl_X1_7 kd_36 (by decide) rfl rr_36_0 ?_
      refine op_iload (k := 7) dX1_search_143 rfl ?_
      refine op_iload (k := 6) dX1_search_145 rfl ?_
      obtain ⟨w7, ew7, h⟩ := am_bd h
      refine op_callV (M' := M_X2_apart) [.int x6, .int x5] (S0 := [.int x3, .long w6.1]) dX1_search_147 tw_1017 ok_X2_apart tw_727 tw_728 kd_3 cls_2 rfl rfl rfl (Nat.le_of_ble_eq_true rfl) (Nat.le_of_ble_eq_true rfl) (t_X2_apart (by omega) ew7) (am_le_rf _) ?_
      rintro _ _ ⟨rfl, rfl⟩
      refine op_imul dX1_search_150 ?_
      refine op_i2l dX1_search_151 ?_
      refine op_lload (k := 0) dX1_search_152 rfl ?_
      refine op_lmul dX1_search_154 ?_
      refine op_ladd dX1_search_155 ?_
      refine op_lstore (L' := [(9, .long (w6.1 + (((x3 * w7).toInt64) * w5))), (7, .long w5), (0, .ref 36), (1, .int x1), (2, .int x2), (3, .int x3), (4, .int x4), (5, .int x5), (6, .int x6)]) dX1_search_156 (by decide) rfl ?_
      refine op_lload (k := 0) dX1_search_158 rfl ?_
      refine op_aload_n (k := 2) dX1_search_160 rfl rfl ?_
      refine st_getL (v := J 36 5) dX1_search_161 fl_X1_63 kd_36 (by decide) rfl rfl ?_
      refine op_lmul dX1_search_164 ?_
      refine op_aload_n (k := 2) dX1_search_165 rfl rfl ?_
      refine st_getL (v := J 36 4) dX1_search_166 fl_X1_66 kd_36 (by decide) rfl rfl ?_
      refine op_lload (k := 1) dX1_search_169 rfl ?_
      refine op_lmul dX1_search_171 ?_
      refine op_lcmp dX1_search_172 ?_
      refine op_if_ge (tgt := 186) dX1_search_173 (by decide) (fun c8 => ?_) (fun c8 => ?_)
      · replace h := am_ip c8 h
        refine AW.perm [2, 3, 4, 5, 6, 7, 8] rfl ?_
        exact t_X1_search_186 hd ih h
      · replace h := am_ie c8 h
        refine op_aload_n (k := 2) dX1_search_176 rfl rfl ?_
        refine op_iload (k := 8) dX1_search_177 rfl ?_
        refine op_lload (k := 0) dX1_search_179 rfl ?_
        refine op_lload (k := 1) dX1_search_181 rfl ?_
        obtain ⟨w9, ew9, h⟩ := am_bd h
        refine op_callV (M' := M_X1_take) [.int x6, .long (w6.1 + (((x3 * w7).toInt64) * w5)), .long w5] (S0 := []) dX1_search_183 tw_1013 ok_X1_take tw_1015 tw_47 kd_36 cls_1 rfl rfl rfl (Nat.le_of_ble_eq_true rfl) (Nat.le_of_ble_eq_true rfl) (t_X1_take (by omega) ew9) (am_le_rf _) ?_
        rintro _ _ ⟨rfl, rfl⟩
        refine AW.perm [2, 3, 4, 5, 6, 7, 8] rfl ?_
        exact t_X1_search_186 hd ih h
set_option maxRecDepth 100000 in
set_option maxHeartbeats 4000000 in
theorem t_X1_search_0 {l : Launch} {ρ : am_R} {n d gc gs : Nat} {I : Nat → Nat → Int32} {J : Nat → Nat → Int64} {T : Nat} {x1 : Int32} {x2 : Int32} {x3 : Int32} {q : (Nat → Nat → Int32) × (Nat → Nat → Int64)} (hd : 0 * n + 6 ≤ (d + 1))
    (h : f_X1_search n  I J T x1 x2 x3 = some q) : AW l ρ (d + 1) M_X1_search 0 [(0, .ref 36), (1, .int x1), (2, .int x2), (3, .int x3)] [] (am_KD, gc, gs) (I, J, am_RT T) (am_KD, gc, gs) (fun v H' => v = [] ∧ H' = (q.1, q.2, am_RT T)) := by
  unfold f_X1_search at h
  refine op_aload_n (k := 0) dX1_search_0 rfl rfl ?_
  refine st_getR (z := 3) dX1_search_1 fl_X1_7 kd_36 (by decide) rfl rr_36_0 ?_
  obtain ⟨w1, ew1, h⟩ := am_bd h
  refine op_callV (M' := M_X2_everyone) [] (S0 := []) dX1_search_4 tw_1009 ok_X2_everyone tw_763 tw_764 kd_3 cls_2 rfl rfl rfl (Nat.le_of_ble_eq_true rfl) (Nat.le_of_ble_eq_true rfl) (t_X2_everyone (by omega) ew1) (am_le_rf _) ?_
  rintro _ _ ⟨rfl, rfl⟩
  refine op_istore (L' := [(4, .int w1), (0, .ref 36), (1, .int x1), (2, .int x2), (3, .int x3)]) dX1_search_7 (by decide) rfl ?_
  refine op_aload_n (k := 1) dX1_search_9 rfl rfl ?_
  refine st_getR (z := 3) dX1_search_10 fl_X1_7 kd_36 (by decide) rfl rr_36_0 ?_
  refine st_getR (z := 6) dX1_search_13 fl_X1_23 kd_3 (by decide) rfl rr_3_7 ?_
  refine op_iload_n (k := 2) dX1_search_16 rfl rfl ?_
  obtain ⟨g2, h⟩ := am_gd h
  refine st_iald (k := x1.toNatClampNeg) (v := I 6 x1.toNatClampNeg) dX1_search_17 kd_6 g2 rfl rfl ?_
  refine op_istore (L' := [(5, .int (I 6 x1.toNatClampNeg)), (4, .int w1), (0, .ref 36), (1, .int x1), (2, .int x2), (3, .int x3)]) dX1_search_18 (by decide) rfl ?_
  refine op_aload_n (k := 2) dX1_search_20 rfl rfl ?_
  refine st_getR (z := 27) dX1_search_21 fl_X1_13 kd_36 (by decide) rfl rr_36_1 ?_
  refine op_iload_n (k := 4) dX1_search_24 rfl rfl ?_
  refine op_aload_n (k := 2) dX1_search_25 rfl rfl ?_
  refine st_getR (z := 3) dX1_search_26 fl_X1_7 kd_36 (by decide) rfl rr_36_0 ?_
  refine st_getI (v := I 3 1) dX1_search_29 fl_X1_27 kd_3 (by decide) rfl rfl ?_
  obtain ⟨w3, ew3, h⟩ := am_bd h
  refine op_callV (M' := M_X7_weigh) [.int x2, .int (I 3 1)] (S0 := []) dX1_search_32 tw_1010 ok_X7_weigh tw_803 tw_804 kd_27 cls_7 rfl rfl rfl (Nat.le_of_ble_eq_true rfl) (Nat.le_of_ble_eq_true rfl) (t_X7_weigh (by omega) ew3) (am_le_rf _) ?_
  rintro _ _ ⟨rfl, rfl⟩
  refine op_aload_n (k := 2) dX1_search_35 rfl rfl ?_
  refine op_aload_n (k := 2) dX1_search_36 rfl rfl ?_
  refine st_getR (z := 27) dX1_search_37 fl_X1_13 kd_36 (by decide) rfl rr_36_1 ?_
  refine op_iload_n (k := 3) dX1_search_40 rfl rfl ?_
  refine op_iload (k := 1) dX1_search_41 rfl ?_
  obtain ⟨w4, ew4, h⟩ := am_bd h
  refine op_callV (M' := M_X7_above) [.int x1, .int w1] (S0 := [.ref 36]) dX1_search_43 tw_1011 ok_X7_above tw_861 tw_862 kd_27 cls_7 rfl rfl rfl (Nat.le_of_ble_eq_true rfl) (Nat.le_of_ble_eq_true rfl) (t_X7_above (by omega) ew4) (am_le_rf _) ?_
  rintro _ _ ⟨rfl, rfl⟩
  refine st_putL dX1_search_46 fl_X1_41 kd_36 (by decide) rfl ?_
  refine op_aload_n (k := 2) dX1_search_49 rfl rfl ?_
  refine op_aload_n (k := 2) dX1_search_50 rfl rfl ?_
  refine st_getR (z := 27) dX1_search_51 fl_X1_13 kd_36 (by decide) rfl rr_36_1 ?_
  refine op_iload (k := 1) dX1_search_54 rfl ?_
  obtain ⟨w5, ew5, h⟩ := am_bd h
  refine op_callV (M' := M_X7_below) [.int w1] (S0 := [.ref 36]) dX1_search_56 tw_1012 ok_X7_below tw_890 tw_891 kd_27 cls_7 rfl rfl rfl (Nat.le_of_ble_eq_true rfl) (Nat.le_of_ble_eq_true rfl) (t_X7_below (by omega) ew5) (am_le_rf _) ?_
  rintro _ _ ⟨rfl, rfl⟩
  refine st_putL dX1_search_59 fl_X1_49 kd_36 (by decide) rfl ?_
  refine op_aload_n (k := 2) dX1_search_62 rfl rfl ?_
  refine op_iload (k := 0) dX1_search_63 rfl ?_
  refine op_aload_n (k := 2) dX1_search_65 rfl rfl ?_
  refine st_getL (v := w4.1) dX1_search_66 fl_X1_41 kd_36 (by decide) rfl rfl ?_
  refine op_aload_n (k := 2) dX1_search_69 rfl rfl ?_
  refine st_getL (v := w5) dX1_search_70 fl_X1_49 kd_36 (by decide) rfl rfl ?_
  obtain ⟨w6, ew6, h⟩ := am_bd h
  refine op_callV (M' := M_X1_take) [.int (I 6 x1.toNatClampNeg), .long w4.1, .long w5] (S0 := []) dX1_search_73 tw_1013 ok_X1_take tw_1015 tw_47 kd_36 cls_1 rfl rfl rfl (Nat.le_of_ble_eq_true rfl) (Nat.le_of_ble_eq_true rfl) (t_X1_take (by omega) ew6) (am_le_rf _) ?_
  rintro _ _ ⟨rfl, rfl⟩
  refine op_iconst (v := 1) dX1_search_76 (by decide) ?_
  refine op_istore (L' := [(6, .int 1), (5, .int (I 6 x1.toNatClampNeg)), (4, .int w1), (0, .ref 36), (1, .int x1), (2, .int x2), (3, .int x3)]) dX1_search_77 (by decide) rfl ?_
  refine AW.perm [3, 4, 5, 6, 2, 1, 0] rfl ?_
  exact t_X1_search_79 hd  n _ _ _ _ _ _ _ _ _ h
theorem t_X1_search {l : Launch} {ρ : am_R} {n d gc gs : Nat} {I : Nat → Nat → Int32} {J : Nat → Nat → Int64} {T : Nat} {x1 : Int32} {x2 : Int32} {x3 : Int32} {q : (Nat → Nat → Int32) × (Nat → Nat → Int64)} (hd : 0 * n + 6 ≤ d) (h : f_X1_search n I J T x1 x2 x3 = some q) : AW l ρ d M_X1_search 0 [(0, .ref 36), (1, .int x1), (2, .int x2), (3, .int x3)] [] (am_KD, gc, gs) (I, J, am_RT T) (am_KD, gc, gs) (fun v H' => v = [] ∧ H' = (q.1, q.2, am_RT T)) := by
  obtain ⟨d, rfl⟩ : ∃ e, d = e + 1 := ⟨d - 1, by omega⟩
  exact t_X1_search_0 hd h
def f_X1_gainAbove (n : Nat) (I : Nat → Nat → Int32) (J : Nat → Nat → Int64) (T : Nat) : Option (Int64) :=
  some (((J 36 2) * (J 36 5)) - ((J 36 4) * (J 36 3)))
set_option maxRecDepth 100000 in
set_option maxHeartbeats 4000000 in
theorem t_X1_gainAbove_0 {l : Launch} {ρ : am_R} {n d gc gs : Nat} {I : Nat → Nat → Int32} {J : Nat → Nat → Int64} {T : Nat} {q : Int64} (hd : 0 * n + 0 ≤ d)
    (h : f_X1_gainAbove n  I J T  = some q) : AW l ρ d M_X1_gainAbove 0 [(0, .ref 36)] [] (am_KD, gc, gs) (I, J, am_RT T) (am_KD, gc, gs) (fun v H' => v = [.long q] ∧ H' = (I, J, am_RT T)) := by
  unfold f_X1_gainAbove at h
  refine op_aload_n (k := 0) dX1_gainAbove_0 rfl rfl ?_
  refine st_getL (v := J 36 2) dX1_gainAbove_1 fl_X1_41 kd_36 (by decide) rfl rfl ?_
  refine op_aload_n (k := 0) dX1_gainAbove_4 rfl rfl ?_
  refine st_getL (v := J 36 5) dX1_gainAbove_5 fl_X1_63 kd_36 (by decide) rfl rfl ?_
  refine op_lmul dX1_gainAbove_8 ?_
  refine op_aload_n (k := 0) dX1_gainAbove_9 rfl rfl ?_
  refine st_getL (v := J 36 4) dX1_gainAbove_10 fl_X1_66 kd_36 (by decide) rfl rfl ?_
  refine op_aload_n (k := 0) dX1_gainAbove_13 rfl rfl ?_
  refine st_getL (v := J 36 3) dX1_gainAbove_14 fl_X1_49 kd_36 (by decide) rfl rfl ?_
  refine op_lmul dX1_gainAbove_17 ?_
  refine op_lsub dX1_gainAbove_18 ?_
  cases h
  exact (op_lret dX1_gainAbove_19 rfl ⟨rfl, rfl⟩)
theorem t_X1_gainAbove {l : Launch} {ρ : am_R} {n d gc gs : Nat} {I : Nat → Nat → Int32} {J : Nat → Nat → Int64} {T : Nat} {q : Int64} (hd : 0 * n + 0 ≤ d) (h : f_X1_gainAbove n I J T  = some q) : AW l ρ d M_X1_gainAbove 0 [(0, .ref 36)] [] (am_KD, gc, gs) (I, J, am_RT T) (am_KD, gc, gs) (fun v H' => v = [.long q] ∧ H' = (I, J, am_RT T)) := t_X1_gainAbove_0 hd h
def f_X1_gainBelow (n : Nat) (I : Nat → Nat → Int32) (J : Nat → Nat → Int64) (T : Nat) : Option (Int64) :=
  some ((J 36 3) * (J 36 5))
set_option maxRecDepth 100000 in
set_option maxHeartbeats 4000000 in
theorem t_X1_gainBelow_0 {l : Launch} {ρ : am_R} {n d gc gs : Nat} {I : Nat → Nat → Int32} {J : Nat → Nat → Int64} {T : Nat} {q : Int64} (hd : 0 * n + 0 ≤ d)
    (h : f_X1_gainBelow n  I J T  = some q) : AW l ρ d M_X1_gainBelow 0 [(0, .ref 36)] [] (am_KD, gc, gs) (I, J, am_RT T) (am_KD, gc, gs) (fun v H' => v = [.long q] ∧ H' = (I, J, am_RT T)) := by
  unfold f_X1_gainBelow at h
  refine op_aload_n (k := 0) dX1_gainBelow_0 rfl rfl ?_
  refine st_getL (v := J 36 3) dX1_gainBelow_1 fl_X1_49 kd_36 (by decide) rfl rfl ?_
  refine op_aload_n (k := 0) dX1_gainBelow_4 rfl rfl ?_
  refine st_getL (v := J 36 5) dX1_gainBelow_5 fl_X1_63 kd_36 (by decide) rfl rfl ?_
  refine op_lmul dX1_gainBelow_8 ?_
  cases h
  exact (op_lret dX1_gainBelow_9 rfl ⟨rfl, rfl⟩)
theorem t_X1_gainBelow {l : Launch} {ρ : am_R} {n d gc gs : Nat} {I : Nat → Nat → Int32} {J : Nat → Nat → Int64} {T : Nat} {q : Int64} (hd : 0 * n + 0 ≤ d) (h : f_X1_gainBelow n I J T  = some q) : AW l ρ d M_X1_gainBelow 0 [(0, .ref 36)] [] (am_KD, gc, gs) (I, J, am_RT T) (am_KD, gc, gs) (fun v H' => v = [.long q] ∧ H' = (I, J, am_RT T)) := t_X1_gainBelow_0 hd h
def f_X11_lie_81 (n : Nat) (I : Nat → Nat → Int32) (J : Nat → Nat → Int64) (T : Nat) (z0 : Int64) (z1 : Int64) (s2 : Int32) : Option (Int64 × (Nat → Nat → Int32) × (Nat → Nat → Int64)) :=
  (f_X11_plain n I J T z0 z1 s2).bind fun w1 =>
  some (w1, I, J)
def f_X11_lie (n : Nat) (I : Nat → Nat → Int32) (J : Nat → Nat → Int64) (T : Nat) (x1 : Int32) (x2 : Int32) (x3 : Int32) : Option (Int64 × (Nat → Nat → Int32) × (Nat → Nat → Int64)) :=
  (f_X11_isRider n I J T x1).bind fun w1 =>
  if w1 = 0 then
   some ((-1), I, J)
  else
   (f_X11_isLaw n I J T x2).bind fun w3 =>
   if w3 = 0 then
    some ((-1), I, J)
   else
    (f_X11_isWithin n I J T x3 0 2).bind fun w5 =>
    if w5 = 0 then
     some ((-1), I, J)
    else
     (f_X1_search n I J T x1 x2 (I 0 15)).bind fun w7 =>
     if x3 = 0 then
      some ((w7.1 36 6).toInt64, w7.1, w7.2)
     else
      (f_X1_gainAbove n w7.1 w7.2 T).bind fun w9 =>
      (f_X1_gainBelow n w7.1 w7.2 T).bind fun w10 =>
      if x3 = 1 then
       f_X11_lie_81 n  w7.1 w7.2 T w9 w10 1
      else
       f_X11_lie_81 n  w7.1 w7.2 T w9 w10 0
set_option maxRecDepth 100000 in
set_option maxHeartbeats 4000000 in
theorem t_X11_lie_81 {l : Launch} {ρ : am_R} {n d gc gs : Nat} {I : Nat → Nat → Int32} {J : Nat → Nat → Int64} {T : Nat} {z0 : Int64} {z1 : Int64} {s2 : Int32} {q : Int64 × (Nat → Nat → Int32) × (Nat → Nat → Int64)} (hd : 0 * n + 7 ≤ (d + 1))
    (h : f_X11_lie_81 n  I J T z0 z1 s2 = some q) : AW l ρ (d + 1) M_X11_lie 81 [] [.int s2, .long z1, .long z0] (am_KD, gc, gs) (I, J, am_RT T) (am_KD, gc, gs) (fun v H' => v = [.long q.1] ∧ H' = (q.2.1, q.2.2, am_RT T)) := by
  unfold f_X11_lie_81 at h
  obtain ⟨w1, ew1, h⟩ := am_bd h
  refine op_callS (M' := M_X11_plain) [.long z0, .long z1, .int s2] (S0 := []) dX11_lie_81 tw_895 ok_X11_plain tw_896 rfl rfl (Nat.le_of_ble_eq_true rfl) (Nat.le_of_ble_eq_true rfl) (t_X11_plain (by omega) ew1) (am_le_rf _) ?_
  rintro _ _ ⟨rfl, rfl⟩
  cases h
  exact (op_lret dX11_lie_84 rfl ⟨rfl, rfl⟩)
set_option maxRecDepth 100000 in
set_option maxHeartbeats 4000000 in
theorem t_X11_lie_0 {l : Launch} {ρ : am_R} {n d gc gs : Nat} {I : Nat → Nat → Int32} {J : Nat → Nat → Int64} {T : Nat} {x1 : Int32} {x2 : Int32} {x3 : Int32} {q : Int64 × (Nat → Nat → Int32) × (Nat → Nat → Int64)} (hd : 0 * n + 7 ≤ (d + 1))
    (h : f_X11_lie n  I J T x1 x2 x3 = some q) : AW l ρ (d + 1) M_X11_lie 0 [(0, .ref 0), (1, .int x1), (2, .int x2), (3, .int x3)] [] (am_KD, gc, gs) (I, J, am_RT T) (am_KD, gc, gs) (fun v H' => v = [.long q.1] ∧ H' = (q.2.1, q.2.2, am_RT T)) := by
  unfold f_X11_lie at h
  refine op_aload_n (k := 0) dX11_lie_0 rfl rfl ?_
  refine op_iload_n (k := 1) dX11_lie_1 rfl rfl ?_
  obtain ⟨w1, ew1, h⟩ := am_bd h
  refine op_callV (M' := M_X11_isRider) [.int x1] (S0 := []) dX11_lie_2 tw_742 ok_X11_isRider tw_744 tw_25 kd_0 cls_11 rfl rfl rfl (Nat.le_of_ble_eq_true rfl) (Nat.le_of_ble_eq_true rfl) (t_X11_isRider (by omega) ew1) (am_le_rf _) ?_
  rintro _ _ ⟨rfl, rfl⟩
  refine op_if_eq (tgt := 25) dX11_lie_5 (by decide) (fun c2 => ?_) (fun c2 => ?_)
  · replace h := am_ip c2 h
    refine op_ldc2 dX11_lie_25 tw_795 ?_
    cases h
    exact (op_lret dX11_lie_28 rfl ⟨rfl, rfl⟩)
  · replace h := am_ie c2 h
    refine op_aload_n (k := 0) dX11_lie_8 rfl rfl ?_
    refine op_iload_n (k := 2) dX11_lie_9 rfl rfl ?_
    obtain ⟨w3, ew3, h⟩ := am_bd h
    refine op_callV (M' := M_X11_isLaw) [.int x2] (S0 := []) dX11_lie_10 tw_791 ok_X11_isLaw tw_793 tw_28 kd_0 cls_11 rfl rfl rfl (Nat.le_of_ble_eq_true rfl) (Nat.le_of_ble_eq_true rfl) (t_X11_isLaw (by omega) ew3) (am_le_rf _) ?_
    rintro _ _ ⟨rfl, rfl⟩
    refine op_if_eq (tgt := 25) dX11_lie_13 (by decide) (fun c4 => ?_) (fun c4 => ?_)
    · replace h := am_ip c4 h
      refine op_ldc2 dX11_lie_25 tw_795 ?_
      cases h
      exact (op_lret dX11_lie_28 rfl ⟨rfl, rfl⟩)
    · replace h := am_ie c4 h
      refine op_iload_n (k := 3) dX11_lie_16 rfl rfl ?_
      refine op_iconst (v := 0) dX11_lie_17 (by decide) ?_
      refine op_iconst (v := 2) dX11_lie_18 (by decide) ?_
      obtain ⟨w5, ew5, h⟩ := am_bd h
      refine op_callS (M' := M_X11_isWithin) [.int x3, .int 0, .int 2] (S0 := []) dX11_lie_19 tw_713 ok_X11_isWithin tw_595 rfl rfl (Nat.le_of_ble_eq_true rfl) (Nat.le_of_ble_eq_true rfl) (t_X11_isWithin (by omega) ew5) (am_le_rf _) ?_
      rintro _ _ ⟨rfl, rfl⟩
      refine op_if_ne (tgt := 29) dX11_lie_22 (by decide) (fun c6 => ?_) (fun c6 => ?_)
      · replace h := am_ie c6 h
        refine op_aload_n (k := 0) dX11_lie_29 rfl rfl ?_
        refine st_getR (z := 36) dX11_lie_30 fl_X11_81 kd_0 (by decide) rfl rr_0_9 ?_
        refine op_iload_n (k := 1) dX11_lie_33 rfl rfl ?_
        refine op_iload_n (k := 2) dX11_lie_34 rfl rfl ?_
        refine op_aload_n (k := 0) dX11_lie_35 rfl rfl ?_
        refine st_getI (v := I 0 15) dX11_lie_36 fl_X11_109 kd_0 (by decide) rfl rfl ?_
        obtain ⟨w7, ew7, h⟩ := am_bd h
        refine op_callV (M' := M_X1_search) [.int x1, .int x2, .int (I 0 15)] (S0 := []) dX11_lie_39 tw_1005 ok_X1_search tw_1006 tw_1007 kd_36 cls_1 rfl rfl rfl (Nat.le_of_ble_eq_true rfl) (Nat.le_of_ble_eq_true rfl) (t_X1_search (by omega) ew7) (am_le_rf _) ?_
        rintro _ _ ⟨rfl, rfl⟩
        refine op_iload_n (k := 3) dX11_lie_42 rfl rfl ?_
        refine op_if_ne (tgt := 57) dX11_lie_43 (by decide) (fun c8 => ?_) (fun c8 => ?_)
        · replace h := am_ie c8 h
          refine op_aload_n (k := 0) dX11_lie_57 rfl rfl ?_
          refine st_getR (z := 36) dX11_lie_58 fl_X11_81 kd_0 (by decide) rfl rr_0_9 ?_
          obtain ⟨w9, ew9, h⟩ := am_bd h
          refine op_callV (M' := M_X1_gainAbove) [] (S0 := []) dX11_lie_61 tw_1018 ok_X1_gainAbove tw_1019 tw_1020 kd_36 cls_1 rfl rfl rfl (Nat.le_of_ble_eq_true rfl) (Nat.le_of_ble_eq_true rfl) (t_X1_gainAbove (by omega) ew9) (am_le_rf _) ?_
          rintro _ _ ⟨rfl, rfl⟩
          refine op_aload_n (k := 0) dX11_lie_64 rfl rfl ?_
          refine st_getR (z := 36) dX11_lie_65 fl_X11_81 kd_0 (by decide) rfl rr_0_9 ?_
          obtain ⟨w10, ew10, h⟩ := am_bd h
          refine op_callV (M' := M_X1_gainBelow) [] (S0 := [.long w9]) dX11_lie_68 tw_1022 ok_X1_gainBelow tw_1023 tw_1024 kd_36 cls_1 rfl rfl rfl (Nat.le_of_ble_eq_true rfl) (Nat.le_of_ble_eq_true rfl) (t_X1_gainBelow (by omega) ew10) (am_le_rf _) ?_
          rintro _ _ ⟨rfl, rfl⟩
          refine op_iload_n (k := 3) dX11_lie_71 rfl rfl ?_
          refine op_iconst (v := 1) dX11_lie_72 (by decide) ?_
          refine op_icmp_ne (tgt := 80) dX11_lie_73 (by decide) (fun c11 => ?_) (fun c11 => ?_)
          · replace h := am_ie c11 h
            refine op_iconst (v := 0) dX11_lie_80 (by decide) ?_
            refine AW.perm [] rfl ?_
            exact t_X11_lie_81 hd  h
          · replace h := am_ip c11 h
            refine op_iconst (v := 1) dX11_lie_76 (by decide) ?_
            refine op_goto (tgt := 81) dX11_lie_77 (by decide) ?_
            refine AW.perm [] rfl ?_
            exact t_X11_lie_81 hd  h
        · replace h := am_ip c8 h
          refine op_aload_n (k := 0) dX11_lie_46 rfl rfl ?_
          refine st_getR (z := 36) dX11_lie_47 fl_X11_81 kd_0 (by decide) rfl rr_0_9 ?_
          refine st_getI (v := w7.1 36 6) dX11_lie_50 fl_X11_282 kd_36 (by decide) rfl rfl ?_
          refine op_i2l dX11_lie_53 ?_
          refine op_goto (tgt := 84) dX11_lie_54 (by decide) ?_
          cases h
          exact (op_lret dX11_lie_84 rfl ⟨rfl, rfl⟩)
      · replace h := am_ip c6 h
        refine op_ldc2 dX11_lie_25 tw_795 ?_
        cases h
        exact (op_lret dX11_lie_28 rfl ⟨rfl, rfl⟩)
theorem t_X11_lie {l : Launch} {ρ : am_R} {n d gc gs : Nat} {I : Nat → Nat → Int32} {J : Nat → Nat → Int64} {T : Nat} {x1 : Int32} {x2 : Int32} {x3 : Int32} {q : Int64 × (Nat → Nat → Int32) × (Nat → Nat → Int64)} (hd : 0 * n + 7 ≤ d) (h : f_X11_lie n I J T x1 x2 x3 = some q) : AW l ρ d M_X11_lie 0 [(0, .ref 0), (1, .int x1), (2, .int x2), (3, .int x3)] [] (am_KD, gc, gs) (I, J, am_RT T) (am_KD, gc, gs) (fun v H' => v = [.long q.1] ∧ H' = (q.2.1, q.2.2, am_RT T)) := by
  obtain ⟨d, rfl⟩ : ∃ e, d = e + 1 := ⟨d - 1, by omega⟩
  exact t_X11_lie_0 hd h
def f_X11_move (n : Nat) (I : Nat → Nat → Int32) (J : Nat → Nat → Int64) (T : Nat) (x1 : Int32) (x2 : Int32) : Option (Int32 × (Nat → Nat → Int32)) :=
  (f_X11_isRider n I J T x1).bind fun w1 =>
  if w1 = 0 then
   some (0, I)
  else
   (f_X11_isHome n I J T x2).bind fun w3 =>
   if w3 = 0 then
    some (0, I)
   else
    if ok_ix x1 6 then
     if (I 6 x1.toNatClampNeg) = x2 then
      some (0, I)
     else
      if ok_ix x1 6 then
       some (1, (am_u I 6 x1.toNatClampNeg x2))
      else none
    else none
set_option maxRecDepth 100000 in
set_option maxHeartbeats 4000000 in
theorem t_X11_move_0 {l : Launch} {ρ : am_R} {n d gc gs : Nat} {I : Nat → Nat → Int32} {J : Nat → Nat → Int64} {T : Nat} {x1 : Int32} {x2 : Int32} {q : Int32 × (Nat → Nat → Int32)} (hd : 0 * n + 1 ≤ (d + 1))
    (h : f_X11_move n  I J T x1 x2 = some q) : AW l ρ (d + 1) M_X11_move 0 [(0, .ref 0), (1, .int x1), (2, .int x2)] [] (am_KD, gc, gs) (I, J, am_RT T) (am_KD, gc, gs) (fun v H' => v = [.int q.1] ∧ H' = (q.2, J, am_RT T)) := by
  unfold f_X11_move at h
  refine op_aload_n (k := 0) dX11_move_0 rfl rfl ?_
  refine op_iload_n (k := 1) dX11_move_1 rfl rfl ?_
  obtain ⟨w1, ew1, h⟩ := am_bd h
  refine op_callV (M' := M_X11_isRider) [.int x1] (S0 := []) dX11_move_2 tw_742 ok_X11_isRider tw_744 tw_25 kd_0 cls_11 rfl rfl rfl (Nat.le_of_ble_eq_true rfl) (Nat.le_of_ble_eq_true rfl) (t_X11_isRider (by omega) ew1) (am_le_rf _) ?_
  rintro _ _ ⟨rfl, rfl⟩
  refine op_if_eq (tgt := 29) dX11_move_5 (by decide) (fun c2 => ?_) (fun c2 => ?_)
  · replace h := am_ip c2 h
    refine op_iconst (v := 0) dX11_move_29 (by decide) ?_
    cases h
    exact (op_iret dX11_move_30 rfl (by decide) ⟨rfl, rfl⟩)
  · replace h := am_ie c2 h
    refine op_aload_n (k := 0) dX11_move_8 rfl rfl ?_
    refine op_iload_n (k := 2) dX11_move_9 rfl rfl ?_
    obtain ⟨w3, ew3, h⟩ := am_bd h
    refine op_callV (M' := M_X11_isHome) [.int x2] (S0 := []) dX11_move_10 tw_709 ok_X11_isHome tw_711 tw_21 kd_0 cls_11 rfl rfl rfl (Nat.le_of_ble_eq_true rfl) (Nat.le_of_ble_eq_true rfl) (t_X11_isHome (by omega) ew3) (am_le_rf _) ?_
    rintro _ _ ⟨rfl, rfl⟩
    refine op_if_eq (tgt := 29) dX11_move_13 (by decide) (fun c4 => ?_) (fun c4 => ?_)
    · replace h := am_ip c4 h
      refine op_iconst (v := 0) dX11_move_29 (by decide) ?_
      cases h
      exact (op_iret dX11_move_30 rfl (by decide) ⟨rfl, rfl⟩)
    · replace h := am_ie c4 h
      refine op_aload_n (k := 0) dX11_move_16 rfl rfl ?_
      refine st_getR (z := 3) dX11_move_17 fl_X11_19 kd_0 (by decide) rfl rr_0_1 ?_
      refine st_getR (z := 6) dX11_move_20 fl_X11_165 kd_3 (by decide) rfl rr_3_7 ?_
      refine op_iload_n (k := 1) dX11_move_23 rfl rfl ?_
      obtain ⟨g5, h⟩ := am_gd h
      refine st_iald (k := x1.toNatClampNeg) (v := I 6 x1.toNatClampNeg) dX11_move_24 kd_6 g5 rfl rfl ?_
      refine op_iload_n (k := 2) dX11_move_25 rfl rfl ?_
      refine op_icmp_ne (tgt := 31) dX11_move_26 (by decide) (fun c6 => ?_) (fun c6 => ?_)
      · replace h := am_ie c6 h
        refine op_aload_n (k := 0) dX11_move_31 rfl rfl ?_
        refine st_getR (z := 3) dX11_move_32 fl_X11_19 kd_0 (by decide) rfl rr_0_1 ?_
        refine st_getR (z := 6) dX11_move_35 fl_X11_165 kd_3 (by decide) rfl rr_3_7 ?_
        refine op_iload_n (k := 1) dX11_move_38 rfl rfl ?_
        refine op_iload_n (k := 2) dX11_move_39 rfl rfl ?_
        obtain ⟨g7, h⟩ := am_gd h
        refine st_iast (k := x1.toNatClampNeg) dX11_move_40 kd_6 g7 rfl ?_
        refine op_iconst (v := 1) dX11_move_41 (by decide) ?_
        cases h
        exact (op_iret dX11_move_42 rfl (by decide) ⟨rfl, rfl⟩)
      · replace h := am_ip c6 h
        refine op_iconst (v := 0) dX11_move_29 (by decide) ?_
        cases h
        exact (op_iret dX11_move_30 rfl (by decide) ⟨rfl, rfl⟩)
theorem t_X11_move {l : Launch} {ρ : am_R} {n d gc gs : Nat} {I : Nat → Nat → Int32} {J : Nat → Nat → Int64} {T : Nat} {x1 : Int32} {x2 : Int32} {q : Int32 × (Nat → Nat → Int32)} (hd : 0 * n + 1 ≤ d) (h : f_X11_move n I J T x1 x2 = some q) : AW l ρ d M_X11_move 0 [(0, .ref 0), (1, .int x1), (2, .int x2)] [] (am_KD, gc, gs) (I, J, am_RT T) (am_KD, gc, gs) (fun v H' => v = [.int q.1] ∧ H' = (q.2, J, am_RT T)) := by
  obtain ⟨d, rfl⟩ : ∃ e, d = e + 1 := ⟨d - 1, by omega⟩
  exact t_X11_move_0 hd h
def f_X11_night (n : Nat) (I : Nat → Nat → Int32) (J : Nat → Nat → Int64) (T : Nat) (x1 : Int32) (x2 : Int32) : Option (Int32 × (Nat → Nat → Int32) × (Nat → Nat → Int64)) :=
  (f_X11_isSet n I J T x1).bind fun w1 =>
  if w1 = 0 then
   some ((-1), I, J)
  else
   if x1 = 0 then
    some ((-1), I, J)
   else
    (f_X11_isLaw n I J T x2).bind fun w4 =>
    if w4 = 0 then
     some ((-1), I, J)
    else
     (f_J6_bitCount_0f7a4 n I J T x1).bind fun w6 =>
     (f_X7_weigh n I J T x2 w6).bind fun w7 =>
     (f_X0_collect n w7 J T x1).bind fun w8 =>
     some (w8.1 41 2, w8.1, w8.2)
set_option maxRecDepth 100000 in
set_option maxHeartbeats 4000000 in
theorem t_X11_night_0 {l : Launch} {ρ : am_R} {n d gc gs : Nat} {I : Nat → Nat → Int32} {J : Nat → Nat → Int64} {T : Nat} {x1 : Int32} {x2 : Int32} {q : Int32 × (Nat → Nat → Int32) × (Nat → Nat → Int64)} (hd : 0 * n + 7 ≤ (d + 1))
    (h : f_X11_night n  I J T x1 x2 = some q) : AW l ρ (d + 1) M_X11_night 0 [(0, .ref 0), (1, .int x1), (2, .int x2)] [] (am_KD, gc, gs) (I, J, am_RT T) (am_KD, gc, gs) (fun v H' => v = [.int q.1] ∧ H' = (q.2.1, q.2.2, am_RT T)) := by
  unfold f_X11_night at h
  refine op_aload_n (k := 0) dX11_night_0 rfl rfl ?_
  refine op_iload_n (k := 1) dX11_night_1 rfl rfl ?_
  obtain ⟨w1, ew1, h⟩ := am_bd h
  refine op_callV (M' := M_X11_isSet) [.int x1] (S0 := []) dX11_night_2 tw_758 ok_X11_isSet tw_760 tw_26 kd_0 cls_11 rfl rfl rfl (Nat.le_of_ble_eq_true rfl) (Nat.le_of_ble_eq_true rfl) (t_X11_isSet (by omega) ew1) (am_le_rf _) ?_
  rintro _ _ ⟨rfl, rfl⟩
  refine op_if_eq (tgt := 20) dX11_night_5 (by decide) (fun c2 => ?_) (fun c2 => ?_)
  · replace h := am_ip c2 h
    refine op_iconst (v := (-1)) dX11_night_20 (by decide) ?_
    cases h
    exact (op_iret dX11_night_21 rfl rfl ⟨rfl, rfl⟩)
  · replace h := am_ie c2 h
    refine op_iload_n (k := 1) dX11_night_8 rfl rfl ?_
    refine op_if_eq (tgt := 20) dX11_night_9 (by decide) (fun c3 => ?_) (fun c3 => ?_)
    · replace h := am_ip c3 h
      refine op_iconst (v := (-1)) dX11_night_20 (by decide) ?_
      cases h
      exact (op_iret dX11_night_21 rfl rfl ⟨rfl, rfl⟩)
    · replace h := am_ie c3 h
      refine op_aload_n (k := 0) dX11_night_12 rfl rfl ?_
      refine op_iload_n (k := 2) dX11_night_13 rfl rfl ?_
      obtain ⟨w4, ew4, h⟩ := am_bd h
      refine op_callV (M' := M_X11_isLaw) [.int x2] (S0 := []) dX11_night_14 tw_791 ok_X11_isLaw tw_793 tw_28 kd_0 cls_11 rfl rfl rfl (Nat.le_of_ble_eq_true rfl) (Nat.le_of_ble_eq_true rfl) (t_X11_isLaw (by omega) ew4) (am_le_rf _) ?_
      rintro _ _ ⟨rfl, rfl⟩
      refine op_if_ne (tgt := 22) dX11_night_17 (by decide) (fun c5 => ?_) (fun c5 => ?_)
      · replace h := am_ie c5 h
        refine op_aload_n (k := 0) dX11_night_22 rfl rfl ?_
        refine st_getR (z := 27) dX11_night_23 fl_X11_56 kd_0 (by decide) rfl rr_0_6 ?_
        refine op_iload_n (k := 2) dX11_night_26 rfl rfl ?_
        refine op_iload_n (k := 1) dX11_night_27 rfl rfl ?_
        obtain ⟨w6, ew6, h⟩ := am_bd h
        refine op_callS (M' := M_J6_bitCount_0f7a4) [.int x1] (S0 := [.int x2, .ref 27]) dX11_night_28 tw_796 ok_J6_bitCount_0f7a4 tw_797 rfl rfl (Nat.le_of_ble_eq_true rfl) (Nat.le_of_ble_eq_true rfl) (t_J6_bitCount_0f7a4 (by omega) ew6) (am_le_rf _) ?_
        rintro _ _ ⟨rfl, rfl⟩
        obtain ⟨w7, ew7, h⟩ := am_bd h
        refine op_callV (M' := M_X7_weigh) [.int x2, .int w6] (S0 := []) dX11_night_31 tw_802 ok_X7_weigh tw_803 tw_804 kd_27 cls_7 rfl rfl rfl (Nat.le_of_ble_eq_true rfl) (Nat.le_of_ble_eq_true rfl) (t_X7_weigh (by omega) ew7) (am_le_rf _) ?_
        rintro _ _ ⟨rfl, rfl⟩
        refine op_aload_n (k := 0) dX11_night_34 rfl rfl ?_
        refine st_getR (z := 41) dX11_night_35 fl_X11_95 kd_0 (by decide) rfl rr_0_11 ?_
        refine op_aload_n (k := 0) dX11_night_38 rfl rfl ?_
        refine st_getR (z := 27) dX11_night_39 fl_X11_56 kd_0 (by decide) rfl rr_0_6 ?_
        refine op_iload_n (k := 1) dX11_night_42 rfl rfl ?_
        obtain ⟨w8, ew8, h⟩ := am_bd h
        refine op_callV (M' := M_X0_collect) [.ref 27, .int x1] (S0 := []) dX11_night_43 tw_1059 ok_X0_collect tw_1060 tw_1061 kd_41 cls_0 rfl rfl rfl (Nat.le_of_ble_eq_true rfl) (Nat.le_of_ble_eq_true rfl) (t_X0_collect (by omega) ew8) (am_le_rf _) ?_
        rintro _ _ ⟨rfl, rfl⟩
        refine op_aload_n (k := 0) dX11_night_46 rfl rfl ?_
        refine st_getR (z := 41) dX11_night_47 fl_X11_95 kd_0 (by decide) rfl rr_0_11 ?_
        refine st_getI (v := w8.1 41 2) dX11_night_50 fl_X11_308 kd_41 (by decide) rfl rfl ?_
        cases h
        exact (op_iret dX11_night_53 rfl rfl ⟨rfl, rfl⟩)
      · replace h := am_ip c5 h
        refine op_iconst (v := (-1)) dX11_night_20 (by decide) ?_
        cases h
        exact (op_iret dX11_night_21 rfl rfl ⟨rfl, rfl⟩)
theorem t_X11_night {l : Launch} {ρ : am_R} {n d gc gs : Nat} {I : Nat → Nat → Int32} {J : Nat → Nat → Int64} {T : Nat} {x1 : Int32} {x2 : Int32} {q : Int32 × (Nat → Nat → Int32) × (Nat → Nat → Int64)} (hd : 0 * n + 7 ≤ d) (h : f_X11_night n I J T x1 x2 = some q) : AW l ρ d M_X11_night 0 [(0, .ref 0), (1, .int x1), (2, .int x2)] [] (am_KD, gc, gs) (I, J, am_RT T) (am_KD, gc, gs) (fun v H' => v = [.int q.1] ∧ H' = (q.2.1, q.2.2, am_RT T)) := by
  obtain ⟨d, rfl⟩ : ∃ e, d = e + 1 := ⟨d - 1, by omega⟩
  exact t_X11_night_0 hd h
def f_X9_grown (n : Nat) (I : Nat → Nat → Int32) (J : Nat → Nat → Int64) (T : Nat) (x1 : Int32) (x2 : Int32) (x3 : Int32) : Option (Int32) :=
  if (I 30 1) = 0 then
   some (x2)
  else
   if (I 30 1) = 1 then
    some (x1 + x2)
   else
    (f_X2_apart n I J T 0 x3).bind fun w3 =>
    some (am_max x1 (x2 - w3))
set_option maxRecDepth 100000 in
set_option maxHeartbeats 4000000 in
theorem t_X9_grown_0 {l : Launch} {ρ : am_R} {n d gc gs : Nat} {I : Nat → Nat → Int32} {J : Nat → Nat → Int64} {T : Nat} {x1 : Int32} {x2 : Int32} {x3 : Int32} {q : Int32} (hd : 0 * n + 2 ≤ (d + 1))
    (h : f_X9_grown n  I J T x1 x2 x3 = some q) : AW l ρ (d + 1) M_X9_grown 0 [(0, .ref 30), (1, .int x1), (2, .int x2), (3, .int x3)] [] (am_KD, gc, gs) (I, J, am_RT T) (am_KD, gc, gs) (fun v H' => v = [.int q] ∧ H' = (I, J, am_RT T)) := by
  unfold f_X9_grown at h
  refine op_aload_n (k := 0) dX9_grown_0 rfl rfl ?_
  refine st_getI (v := I 30 1) dX9_grown_1 fl_X9_15 kd_30 (by decide) rfl rfl ?_
  refine op_if_ne (tgt := 9) dX9_grown_4 (by decide) (fun c1 => ?_) (fun c1 => ?_)
  · replace h := am_ie c1 h
    refine op_aload_n (k := 0) dX9_grown_9 rfl rfl ?_
    refine st_getI (v := I 30 1) dX9_grown_10 fl_X9_15 kd_30 (by decide) rfl rfl ?_
    refine op_iconst (v := 1) dX9_grown_13 (by decide) ?_
    refine op_icmp_ne (tgt := 23) dX9_grown_14 (by decide) (fun c2 => ?_) (fun c2 => ?_)
    · replace h := am_ie c2 h
      refine op_iload_n (k := 1) dX9_grown_23 rfl rfl ?_
      refine op_iload_n (k := 2) dX9_grown_24 rfl rfl ?_
      refine op_aload_n (k := 0) dX9_grown_25 rfl rfl ?_
      refine st_getR (z := 3) dX9_grown_26 fl_X9_9 kd_30 (by decide) rfl rr_30_0 ?_
      refine op_iconst (v := 0) dX9_grown_29 (by decide) ?_
      refine op_iload_n (k := 3) dX9_grown_30 rfl rfl ?_
      obtain ⟨w3, ew3, h⟩ := am_bd h
      refine op_callV (M' := M_X2_apart) [.int 0, .int x3] (S0 := [.int x2, .int x1]) dX9_grown_31 tw_929 ok_X2_apart tw_727 tw_728 kd_3 cls_2 rfl rfl rfl (Nat.le_of_ble_eq_true rfl) (Nat.le_of_ble_eq_true rfl) (t_X2_apart (by omega) ew3) (am_le_rf _) ?_
      rintro _ _ ⟨rfl, rfl⟩
      refine op_isub dX9_grown_34 ?_
      refine op_mmax dX9_grown_35 tw_934 tw_853 tw_119 twl_854 (by simp [Value.category]) ⟨Nat.le_refl _, Nat.le_refl _⟩ ?_
      cases h
      exact (op_iret dX9_grown_38 rfl rfl ⟨rfl, rfl⟩)
    · replace h := am_ip c2 h
      refine op_iload_n (k := 1) dX9_grown_17 rfl rfl ?_
      refine op_iload_n (k := 2) dX9_grown_18 rfl rfl ?_
      refine op_iadd dX9_grown_19 ?_
      refine op_goto (tgt := 38) dX9_grown_20 (by decide) ?_
      cases h
      exact (op_iret dX9_grown_38 rfl rfl ⟨rfl, rfl⟩)
  · replace h := am_ip c1 h
    refine op_iload_n (k := 2) dX9_grown_7 rfl rfl ?_
    cases h
    exact (op_iret dX9_grown_8 rfl rfl ⟨rfl, rfl⟩)
theorem t_X9_grown {l : Launch} {ρ : am_R} {n d gc gs : Nat} {I : Nat → Nat → Int32} {J : Nat → Nat → Int64} {T : Nat} {x1 : Int32} {x2 : Int32} {x3 : Int32} {q : Int32} (hd : 0 * n + 2 ≤ d) (h : f_X9_grown n I J T x1 x2 x3 = some q) : AW l ρ d M_X9_grown 0 [(0, .ref 30), (1, .int x1), (2, .int x2), (3, .int x3)] [] (am_KD, gc, gs) (I, J, am_RT T) (am_KD, gc, gs) (fun v H' => v = [.int q] ∧ H' = (I, J, am_RT T)) := by
  obtain ⟨d, rfl⟩ : ∃ e, d = e + 1 := ⟨d - 1, by omega⟩
  exact t_X9_grown_0 hd h
def f_X9_visit_27 (n : Nat) (rc_X9_visit : (Nat → Nat → Int32) → (Nat → Nat → Int64) → Nat → Int32 → Int32 → Int32 → Int32 → Int32 → Int32 → Option ((Nat → Nat → Int32))) (I : Nat → Nat → Int32) (J : Nat → Nat → Int64) (T : Nat) (x5 : Int32) (x6 : Int32) : Option ((Nat → Nat → Int32)) :=
  some ((am_u (am_u I 30 2 x6) 30 3 x5))
def f_X9_visit_10 (n : Nat) (rc_X9_visit : (Nat → Nat → Int32) → (Nat → Nat → Int64) → Nat → Int32 → Int32 → Int32 → Int32 → Int32 → Int32 → Option ((Nat → Nat → Int32))) (I : Nat → Nat → Int32) (J : Nat → Nat → Int64) (T : Nat) (x5 : Int32) (x6 : Int32) : Option ((Nat → Nat → Int32)) :=
  if (I 30 2) = ((-1)) then
   f_X9_visit_27 n rc_X9_visit I J T x5 x6
  else
   if (I 30 3) ≤ x5 then
    some (I)
   else
    f_X9_visit_27 n rc_X9_visit I J T x5 x6
def f_X9_visit_132 (n : Nat) (rc_X9_visit : (Nat → Nat → Int32) → (Nat → Nat → Int64) → Nat → Int32 → Int32 → Int32 → Int32 → Int32 → Int32 → Option ((Nat → Nat → Int32))) (k43 : (Nat → Nat → Int32) → (Nat → Nat → Int64) → Nat → Int32 → Int32 → Int32 → Int32 → Int32 → Int32 → Int32 → Option ((Nat → Nat → Int32))) (I : Nat → Nat → Int32) (J : Nat → Nat → Int64) (T : Nat) (x1 : Int32) (x2 : Int32) (x3 : Int32) (x4 : Int32) (x5 : Int32) (x6 : Int32) (x7 : Int32) : Option ((Nat → Nat → Int32)) :=
  k43 I J T x1 x2 x3 x4 x5 x6 (x7 + 1)
def f_X9_visit_43 (n : Nat) (rc_X9_visit : (Nat → Nat → Int32) → (Nat → Nat → Int64) → Nat → Int32 → Int32 → Int32 → Int32 → Int32 → Int32 → Option ((Nat → Nat → Int32))) : Nat → (Nat → Nat → Int32) → (Nat → Nat → Int64) → Nat → Int32 → Int32 → Int32 → Int32 → Int32 → Int32 → Int32 → Option ((Nat → Nat → Int32))
  | 0, _, _, _, _, _, _, _, _, _, _ => none
  | m + 1, I, J, T, x1, x2, x3, x4, x5, x6, x7 =>
    if (I 3 1) ≤ x7 then
     some (I)
    else
     (f_X11_isIn n I J T x7 x2).bind fun w2 =>
     if w2 = 0 then
      f_X9_visit_132 n rc_X9_visit (f_X9_visit_43 n rc_X9_visit m) I J T x1 x2 x3 x4 x5 x6 x7
     else
      if ok_ix x7 6 then
       (f_X2_apart n I J T x3 (I 6 x7.toNatClampNeg)).bind fun w5 =>
       (f_X9_grown n I J T x5 (x4 + w5) (I 6 x7.toNatClampNeg)).bind fun w6 =>
       (rc_X9_visit I J T (x1 + 1) (x2 &&& ((1 <<< (x7 &&& 31)) ^^^ ((-1)))) (I 6 x7.toNatClampNeg) (x4 + w5) w6 ((x6 * 10) + x7)).bind fun w7 =>
       f_X9_visit_132 n rc_X9_visit (f_X9_visit_43 n rc_X9_visit m) w7 J T x1 x2 x3 x4 x5 x6 x7
      else none
def fb_X9_visit (n : Nat) (rc_X9_visit : (Nat → Nat → Int32) → (Nat → Nat → Int64) → Nat → Int32 → Int32 → Int32 → Int32 → Int32 → Int32 → Option ((Nat → Nat → Int32))) (I : Nat → Nat → Int32) (J : Nat → Nat → Int64) (T : Nat) (x1 : Int32) (x2 : Int32) (x3 : Int32) (x4 : Int32) (x5 : Int32) (x6 : Int32) : Option ((Nat → Nat → Int32)) :=
  if x2 = 0 then
   f_X9_visit_10 n rc_X9_visit I J T x5 x6
  else
   if x1 < 6 then
    f_X9_visit_43 n rc_X9_visit n I J T x1 x2 x3 x4 x5 x6 0
   else
    f_X9_visit_10 n rc_X9_visit I J T x5 x6
def fx_X9_visit (n : Nat) : Nat → ((Nat → Nat → Int32) → (Nat → Nat → Int64) → Nat → Int32 → Int32 → Int32 → Int32 → Int32 → Int32 → Option ((Nat → Nat → Int32)))
  | 0 => (fun _ _ _ _ _ _ _ _ _ => none)
  | r + 1 => (fb_X9_visit n (fx_X9_visit n r))
def f_X9_visit (n : Nat) : (Nat → Nat → Int32) → (Nat → Nat → Int64) → Nat → Int32 → Int32 → Int32 → Int32 → Int32 → Int32 → Option ((Nat → Nat → Int32)) := (fx_X9_visit n n)
set_option maxRecDepth 100000 in
set_option maxHeartbeats 4000000 in
theorem t_X9_visit_27 {l : Launch} {ρ : am_R} {n d gc gs : Nat} {rc_X9_visit : (Nat → Nat → Int32) → (Nat → Nat → Int64) → Nat → Int32 → Int32 → Int32 → Int32 → Int32 → Int32 → Option ((Nat → Nat → Int32))} {I : Nat → Nat → Int32} {J : Nat → Nat → Int64} {T : Nat} {x5 : Int32} {x6 : Int32} {q : (Nat → Nat → Int32)} (hd : 0 * n + 3 ≤ (d + 1))
    (hr_X9_visit : ∀ (I : Nat → Nat → Int32) (J : Nat → Nat → Int64) (T : Nat) (x1 : Int32) (x2 : Int32) (x3 : Int32) (x4 : Int32) (x5 : Int32) (x6 : Int32) (q : (Nat → Nat → Int32)) (gc gs : Nat), rc_X9_visit I J T x1 x2 x3 x4 x5 x6 = some q → AW l ρ d M_X9_visit 0 [(0, .ref 30), (1, .int x1), (2, .int x2), (3, .int x3), (4, .int x4), (5, .int x5), (6, .int x6)] [] (am_KD, gc, gs) (I, J, am_RT T) (am_KD, gc, gs) (fun v H' => v = [] ∧ H' = (q, J, am_RT T)))
    (h : f_X9_visit_27 n rc_X9_visit I J T x5 x6 = some q) : AW l ρ (d + 1) M_X9_visit 27 [(0, .ref 30), (5, .int x5), (6, .int x6)] [] (am_KD, gc, gs) (I, J, am_RT T) (am_KD, gc, gs) (fun v H' => v = [] ∧ H' = (q, J, am_RT T)) := by
  unfold f_X9_visit_27 at h
  refine op_aload_n (k := 0) dX9_visit_27 rfl rfl ?_
  refine op_iload (k := 2) dX9_visit_28 rfl ?_
  refine st_putI dX9_visit_30 fl_X9_19 kd_30 (by decide) rfl ?_
  refine op_aload_n (k := 0) dX9_visit_33 rfl rfl ?_
  refine op_iload (k := 1) dX9_visit_34 rfl ?_
  refine st_putI dX9_visit_36 fl_X9_22 kd_30 (by decide) rfl ?_
  cases h
  exact (op_vret dX9_visit_39 rfl ⟨rfl, rfl⟩)
set_option maxRecDepth 100000 in
set_option maxHeartbeats 4000000 in
theorem t_X9_visit_10 {l : Launch} {ρ : am_R} {n d gc gs : Nat} {rc_X9_visit : (Nat → Nat → Int32) → (Nat → Nat → Int64) → Nat → Int32 → Int32 → Int32 → Int32 → Int32 → Int32 → Option ((Nat → Nat → Int32))} {I : Nat → Nat → Int32} {J : Nat → Nat → Int64} {T : Nat} {x5 : Int32} {x6 : Int32} {q : (Nat → Nat → Int32)} (hd : 0 * n + 3 ≤ (d + 1))
    (hr_X9_visit : ∀ (I : Nat → Nat → Int32) (J : Nat → Nat → Int64) (T : Nat) (x1 : Int32) (x2 : Int32) (x3 : Int32) (x4 : Int32) (x5 : Int32) (x6 : Int32) (q : (Nat → Nat → Int32)) (gc gs : Nat), rc_X9_visit I J T x1 x2 x3 x4 x5 x6 = some q → AW l ρ d M_X9_visit 0 [(0, .ref 30), (1, .int x1), (2, .int x2), (3, .int x3), (4, .int x4), (5, .int x5), (6, .int x6)] [] (am_KD, gc, gs) (I, J, am_RT T) (am_KD, gc, gs) (fun v H' => v = [] ∧ H' = (q, J, am_RT T)))
    (h : f_X9_visit_10 n rc_X9_visit I J T x5 x6 = some q) : AW l ρ (d + 1) M_X9_visit 10 [(0, .ref 30), (5, .int x5), (6, .int x6)] [] (am_KD, gc, gs) (I, J, am_RT T) (am_KD, gc, gs) (fun v H' => v = [] ∧ H' = (q, J, am_RT T)) := by
  unfold f_X9_visit_10 at h
  refine op_aload_n (k := 0) dX9_visit_10 rfl rfl ?_
  refine st_getI (v := I 30 2) dX9_visit_11 fl_X9_19 kd_30 (by decide) rfl rfl ?_
  refine op_iconst (v := (-1)) dX9_visit_14 (by decide) ?_
  refine op_icmp_eq (tgt := 27) dX9_visit_15 (by decide) (fun c1 => ?_) (fun c1 => ?_)
  · replace h := am_ip c1 h
    exact t_X9_visit_27 hd hr_X9_visit h
  · replace h := am_ie c1 h
    refine op_iload (k := 1) dX9_visit_18 rfl ?_
    refine op_aload_n (k := 0) dX9_visit_20 rfl rfl ?_
    refine st_getI (v := I 30 3) dX9_visit_21 fl_X9_22 kd_30 (by decide) rfl rfl ?_
    refine op_icmp_ge (tgt := 39) dX9_visit_24 (by decide) (fun c2 => ?_) (fun c2 => ?_)
    · replace h := am_ip c2 h
      cases h
      exact (op_vret dX9_visit_39 rfl ⟨rfl, rfl⟩)
    · replace h := am_ie c2 h
      exact t_X9_visit_27 hd hr_X9_visit h
set_option maxRecDepth 100000 in
set_option maxHeartbeats 4000000 in
theorem t_X9_visit_132 {l : Launch} {ρ : am_R} {n d gc gs : Nat} {rc_X9_visit : (Nat → Nat → Int32) → (Nat → Nat → Int64) → Nat → Int32 → Int32 → Int32 → Int32 → Int32 → Int32 → Option ((Nat → Nat → Int32))} {k43 : (Nat → Nat → Int32) → (Nat → Nat → Int64) → Nat → Int32 → Int32 → Int32 → Int32 → Int32 → Int32 → Int32 → Option ((Nat → Nat → Int32))} {I : Nat → Nat → Int32} {J : Nat → Nat → Int64} {T : Nat} {x1 : Int32} {x2 : Int32} {x3 : Int32} {x4 : Int32} {x5 : Int32} {x6 : Int32} {x7 : Int32} {q : (Nat → Nat → Int32)} (hd : 0 * n + 3 ≤ (d + 1))
    (hr_X9_visit : ∀ (I : Nat → Nat → Int32) (J : Nat → Nat → Int64) (T : Nat) (x1 : Int32) (x2 : Int32) (x3 : Int32) (x4 : Int32) (x5 : Int32) (x6 : Int32) (q : (Nat → Nat → Int32)) (gc gs : Nat), rc_X9_visit I J T x1 x2 x3 x4 x5 x6 = some q → AW l ρ d M_X9_visit 0 [(0, .ref 30), (1, .int x1), (2, .int x2), (3, .int x3), (4, .int x4), (5, .int x5), (6, .int x6)] [] (am_KD, gc, gs) (I, J, am_RT T) (am_KD, gc, gs) (fun v H' => v = [] ∧ H' = (q, J, am_RT T)))
    (hk43 : ∀ (I : Nat → Nat → Int32) (J : Nat → Nat → Int64) (T : Nat) (x1 : Int32) (x2 : Int32) (x3 : Int32) (x4 : Int32) (x5 : Int32) (x6 : Int32) (x7 : Int32), k43 I J T x1 x2 x3 x4 x5 x6 x7 = some q → AW l ρ (d + 1) M_X9_visit 43 [(0, .ref 30), (1, .int x1), (2, .int x2), (3, .int x3), (4, .int x4), (5, .int x5), (6, .int x6), (7, .int x7)] [] (am_KD, gc, gs) (I, J, am_RT T) (am_KD, gc, gs) (fun v H' => v = [] ∧ H' = (q, J, am_RT T)))
    (h : f_X9_visit_132 n rc_X9_visit k43 I J T x1 x2 x3 x4 x5 x6 x7 = some q) : AW l ρ (d + 1) M_X9_visit 132 [(0, .ref 30), (1, .int x1), (2, .int x2), (3, .int x3), (4, .int x4), (5, .int x5), (6, .int x6), (7, .int x7)] [] (am_KD, gc, gs) (I, J, am_RT T) (am_KD, gc, gs) (fun v H' => v = [] ∧ H' = (q, J, am_RT T)) := by
  unfold f_X9_visit_132 at h
  refine op_iinc (k := 7) (v := x7 + 1) (L' := [(7, .int (x7 + 1)), (0, .ref 30), (1, .int x1), (2, .int x2), (3, .int x3), (4, .int x4), (5, .int x5), (6, .int x6)]) dX9_visit_132 rfl rfl (by decide) rfl ?_
  refine op_goto (tgt := 43) dX9_visit_135 (by decide) ?_
  refine AW.perm [1, 2, 3, 4, 5, 6, 7, 0] rfl ?_
  exact hk43 _ _ _ _ _ _ _ _ _ _ h
set_option maxRecDepth 100000 in
set_option maxHeartbeats 4000000 in
theorem t_X9_visit_43 {l : Launch} {ρ : am_R} {n d gc gs : Nat} {rc_X9_visit : (Nat → Nat → Int32) → (Nat → Nat → Int64) → Nat → Int32 → Int32 → Int32 → Int32 → Int32 → Int32 → Option ((Nat → Nat → Int32))} {q : (Nat → Nat → Int32)} (hd : 0 * n + 3 ≤ (d + 1))
    (hr_X9_visit : ∀ (I : Nat → Nat → Int32) (J : Nat → Nat → Int64) (T : Nat) (x1 : Int32) (x2 : Int32) (x3 : Int32) (x4 : Int32) (x5 : Int32) (x6 : Int32) (q : (Nat → Nat → Int32)) (gc gs : Nat), rc_X9_visit I J T x1 x2 x3 x4 x5 x6 = some q → AW l ρ d M_X9_visit 0 [(0, .ref 30), (1, .int x1), (2, .int x2), (3, .int x3), (4, .int x4), (5, .int x5), (6, .int x6)] [] (am_KD, gc, gs) (I, J, am_RT T) (am_KD, gc, gs) (fun v H' => v = [] ∧ H' = (q, J, am_RT T)))
    : ∀ (m : Nat) (I : Nat → Nat → Int32) (J : Nat → Nat → Int64) (T : Nat) (x1 : Int32) (x2 : Int32) (x3 : Int32) (x4 : Int32) (x5 : Int32) (x6 : Int32) (x7 : Int32), f_X9_visit_43 n rc_X9_visit m I J T x1 x2 x3 x4 x5 x6 x7 = some q → AW l ρ (d + 1) M_X9_visit 43 [(0, .ref 30), (1, .int x1), (2, .int x2), (3, .int x3), (4, .int x4), (5, .int x5), (6, .int x6), (7, .int x7)] [] (am_KD, gc, gs) (I, J, am_RT T) (am_KD, gc, gs) (fun v H' => v = [] ∧ H' = (q, J, am_RT T)) := by
  intro m
  induction m with
  | zero =>
    intro I J T x1 x2 x3 x4 x5 x6 x7 h
    rw [f_X9_visit_43] at h
    cases h
  | succ m ih =>
    intro I J T x1 x2 x3 x4 x5 x6 x7 h
    rw [f_X9_visit_43] at h
    refine op_iload (k := 7) dX9_visit_43 rfl ?_
    refine op_aload_n (k := 0) dX9_visit_45 rfl rfl ?_
    refine st_getR (z := 3) dX9_visit_46 fl_X9_9 kd_30 (by decide) rfl rr_30_0 ?_
    refine st_getI (v := I 3 1) dX9_visit_49 fl_X9_29 kd_3 (by decide) rfl rfl ?_
    refine op_icmp_ge (tgt := 138) dX9_visit_52 (by decide) (fun c1 => ?_) (fun c1 => ?_)
    · replace h := am_ip c1 h
      cases h
      exact (op_vret dX9_visit_138 rfl ⟨rfl, rfl⟩)
    · replace h := am_ie c1 h
      refine op_iload (k := 7) dX9_visit_55 rfl ?_
      refine op_iload_n (k := 2) dX9_visit_57 rfl rfl ?_
      obtain ⟨w2, ew2, h⟩ := am_bd h
      refine op_callSN (M' := M_X11_isIn) [.int x7, .int x2] (S0 := []) dX9_visit_58 tn_928 ok_X11_isIn tw_771 rfl rfl (Nat.le_of_ble_eq_true rfl) (Nat.le_of_ble_eq_true rfl) (t_X11_isIn (by omega) ew2) (am_le_rf _) ?_
      rintro _ _ ⟨rfl, rfl⟩
      refine op_if_eq (tgt := 132) dX9_visit_61 (by decide) (fun c3 => ?_) (fun c3 => ?_)
      · replace h := am_ip c3 h
        exact t_X9_visit_132 hd hr_X9_visit ih h
      · replace h := am_ie c3 h
        refine op_aload_n (k := 0) dX9_visit_64 rfl rfl ?_
        refine st_getR (z := 3) dX9_visit_65 fl_X9_9 kd_30 (by decide) rfl rr_30_0 ?_
        refine st_getR (z := 6) dX9_visit_68 fl_X9_38 kd_3 (by decide) rfl rr_3_7 ?_
        refine op_iload (k := 7) dX9_visit_71 rfl ?_
        obtain ⟨g4, h⟩ := am_gd h
        refine st_iald (k := x7.toNatClampNeg) (v := I 6 x7.toNatClampNeg) dX9_visit_73 kd_6 g4 rfl rfl ?_
        refine op_istore (L' := [(8, .int (I 6 x7.toNatClampNeg)), (0, .ref 30), (1, .int x1), (2, .int x2), (3, .int x3), (4, .int x4), (5, .int x5), (6, .int x6), (7, .int x7)]) dX9_visit_74 (by decide) rfl ?_
        refine op_iload (k := 5) dX9_visit_76 rfl ?_
        refine op_aload_n (k := 1) dX9_visit_78 rfl rfl ?_
        refine st_getR (z := 3) dX9_visit_79 fl_X9_9 kd_30 (by decide) rfl rr_30_0 ?_
        refine op_iload_n (k := 4) dX9_visit_82 rfl rfl ?_
        refine op_iload (k := 0) dX9_visit_83 rfl ?_
        obtain ⟨w5, ew5, h⟩ := am_bd h
        refine op_callV (M' := M_X2_apart) [.int x3, .int (I 6 x7.toNatClampNeg)] (S0 := [.int x4]) dX9_visit_85 tw_929 ok_X2_apart tw_727 tw_728 kd_3 cls_2 rfl rfl rfl (Nat.le_of_ble_eq_true rfl) (Nat.le_of_ble_eq_true rfl) (t_X2_apart (by omega) ew5) (am_le_rf _) ?_
        rintro _ _ ⟨rfl, rfl⟩
        refine op_iadd dX9_visit_88 ?_
        refine op_istore (L' := [(9, .int (x4 + w5)), (8, .int (I 6 x7.toNatClampNeg)), (0, .ref 30), (1, .int x1), (2, .int x2), (3, .int x3), (4, .int x4), (5, .int x5), (6, .int x6), (7, .int x7)]) dX9_visit_89 (by decide) rfl ?_
        refine op_aload_n (k := 2) dX9_visit_91 rfl rfl ?_
        refine op_iload (k := 7) dX9_visit_92 rfl ?_
        refine op_iload (k := 0) dX9_visit_94 rfl ?_
        refine op_iload (k := 1) dX9_visit_96 rfl ?_
        obtain ⟨w6, ew6, h⟩ := am_bd h
        refine op_callV (M' := M_X9_grown) [.int x5, .int (x4 + w5), .int (I 6 x7.toNatClampNeg)] (S0 := []) dX9_visit_98 tw_930 ok_X9_grown tw_932 tw_39 kd_30 cls_9 rfl rfl rfl (Nat.le_of_ble_eq_true rfl) (Nat.le_of_ble_eq_true rfl) (t_X9_grown (by omega) ew6) (am_le_rf _) ?_
        rintro _ _ ⟨rfl, rfl⟩
        refine op_istore (L' := [(10, .int w6), (9, .int (x4 + w5)), (8, .int (I 6 x7.toNatClampNeg)), (0, .ref 30), (1, .int x1), (2, .int x2), (3, .int x3), (4, .int x4), (5, .int x5), (6, .int x6), (7, .int x7)]) dX9_visit_101 (by decide) rfl ?_
        refine op_aload_n (k := 3) dX9_visit_103 rfl rfl ?_
        refine op_iload_n (k := 4) dX9_visit_104 rfl rfl ?_
        refine op_iconst (v := 1) dX9_visit_105 (by decide) ?_
        refine op_iadd dX9_visit_106 ?_
        refine op_iload_n (k := 5) dX9_visit_107 rfl rfl ?_
        refine op_iconst (v := 1) dX9_visit_108 (by decide) ?_
        refine op_iload (k := 10) dX9_visit_109 rfl ?_
        refine op_ishl dX9_visit_111 ?_
        refine op_iconst (v := (-1)) dX9_visit_112 (by decide) ?_
        refine op_ixor dX9_visit_113 ?_
        refine op_iand dX9_visit_114 ?_
        refine op_iload (k := 2) dX9_visit_115 rfl ?_
        refine op_iload (k := 1) dX9_visit_117 rfl ?_
        refine op_iload (k := 0) dX9_visit_119 rfl ?_
        refine op_iload (k := 9) dX9_visit_121 rfl ?_
        refine op_bipush (v := 10) dX9_visit_123 (by decide) ?_
        refine op_imul dX9_visit_125 ?_
        refine op_iload (k := 10) dX9_visit_126 rfl ?_
        refine op_iadd dX9_visit_128 ?_
        obtain ⟨w7, ew7, h⟩ := am_bd h
        refine op_callV (M' := M_X9_visit) [.int (x1 + 1), .int (x2 &&& ((1 <<< (x7 &&& 31)) ^^^ ((-1)))), .int (I 6 x7.toNatClampNeg), .int (x4 + w5), .int w6, .int ((x6 * 10) + x7)] (S0 := []) dX9_visit_129 tw_924 ok_X9_visit tw_926 tw_38 kd_30 cls_9 rfl rfl rfl (Nat.le_of_ble_eq_true rfl) (Nat.le_of_ble_eq_true rfl) (hr_X9_visit _ _ _ _ _ _ _ _ _ _ _ _ ew7) (am_le_rf _) ?_
        rintro _ _ ⟨rfl, rfl⟩
        refine AW.perm [3, 4, 5, 6, 7, 8, 9, 10] rfl ?_
        exact t_X9_visit_132 hd hr_X9_visit ih h
set_option maxRecDepth 100000 in
set_option maxHeartbeats 4000000 in
theorem t_X9_visit_0 {l : Launch} {ρ : am_R} {n d gc gs : Nat} {rc_X9_visit : (Nat → Nat → Int32) → (Nat → Nat → Int64) → Nat → Int32 → Int32 → Int32 → Int32 → Int32 → Int32 → Option ((Nat → Nat → Int32))} {I : Nat → Nat → Int32} {J : Nat → Nat → Int64} {T : Nat} {x1 : Int32} {x2 : Int32} {x3 : Int32} {x4 : Int32} {x5 : Int32} {x6 : Int32} {q : (Nat → Nat → Int32)} (hd : 0 * n + 3 ≤ (d + 1))
    (hr_X9_visit : ∀ (I : Nat → Nat → Int32) (J : Nat → Nat → Int64) (T : Nat) (x1 : Int32) (x2 : Int32) (x3 : Int32) (x4 : Int32) (x5 : Int32) (x6 : Int32) (q : (Nat → Nat → Int32)) (gc gs : Nat), rc_X9_visit I J T x1 x2 x3 x4 x5 x6 = some q → AW l ρ d M_X9_visit 0 [(0, .ref 30), (1, .int x1), (2, .int x2), (3, .int x3), (4, .int x4), (5, .int x5), (6, .int x6)] [] (am_KD, gc, gs) (I, J, am_RT T) (am_KD, gc, gs) (fun v H' => v = [] ∧ H' = (q, J, am_RT T)))
    (h : fb_X9_visit n rc_X9_visit I J T x1 x2 x3 x4 x5 x6 = some q) : AW l ρ (d + 1) M_X9_visit 0 [(0, .ref 30), (1, .int x1), (2, .int x2), (3, .int x3), (4, .int x4), (5, .int x5), (6, .int x6)] [] (am_KD, gc, gs) (I, J, am_RT T) (am_KD, gc, gs) (fun v H' => v = [] ∧ H' = (q, J, am_RT T)) := by
  unfold fb_X9_visit at h
  refine op_iload_n (k := 2) dX9_visit_0 rfl rfl ?_
  refine op_if_eq (tgt := 10) dX9_visit_1 (by decide) (fun c1 => ?_) (fun c1 => ?_)
  · replace h := am_ip c1 h
    refine AW.perm [0, 5, 6] rfl ?_
    exact t_X9_visit_10 hd hr_X9_visit h
  · replace h := am_ie c1 h
    refine op_iload_n (k := 1) dX9_visit_4 rfl rfl ?_
    refine op_bipush (v := 6) dX9_visit_5 (by decide) ?_
    refine op_icmp_lt (tgt := 40) dX9_visit_7 (by decide) (fun c2 => ?_) (fun c2 => ?_)
    · replace h := am_ip c2 h
      refine op_iconst (v := 0) dX9_visit_40 (by decide) ?_
      refine op_istore (L' := [(7, .int 0), (0, .ref 30), (1, .int x1), (2, .int x2), (3, .int x3), (4, .int x4), (5, .int x5), (6, .int x6)]) dX9_visit_41 (by decide) rfl ?_
      refine AW.perm [1, 2, 3, 4, 5, 6, 7, 0] rfl ?_
      exact t_X9_visit_43 hd hr_X9_visit n _ _ _ _ _ _ _ _ _ _ h
    · replace h := am_ie c2 h
      refine AW.perm [0, 5, 6] rfl ?_
      exact t_X9_visit_10 hd hr_X9_visit h
set_option maxRecDepth 100000 in
set_option maxHeartbeats 4000000 in
theorem tx_X9_visit {l : Launch} {ρ : am_R} (n : Nat) : ∀ (r d : Nat), r + 0 * n + 3 ≤ d → (∀ (I : Nat → Nat → Int32) (J : Nat → Nat → Int64) (T : Nat) (x1 : Int32) (x2 : Int32) (x3 : Int32) (x4 : Int32) (x5 : Int32) (x6 : Int32) (q : (Nat → Nat → Int32)) (gc gs : Nat), (fx_X9_visit n r) I J T x1 x2 x3 x4 x5 x6 = some q → AW l ρ d M_X9_visit 0 [(0, .ref 30), (1, .int x1), (2, .int x2), (3, .int x3), (4, .int x4), (5, .int x5), (6, .int x6)] [] (am_KD, gc, gs) (I, J, am_RT T) (am_KD, gc, gs) (fun v H' => v = [] ∧ H' = (q, J, am_RT T))) := by
  intro r
  induction r with
  | zero =>
    intro d _
    exact (fun _ _ _ _ _ _ _ _ _ q _ _ h => by have h : none = some q := h; cases h)
  | succ r ih =>
    intro d hd
    obtain ⟨d, rfl⟩ : ∃ e, d = e + 1 := ⟨d - 1, by omega⟩
    have ih := ih d (by omega)
    exact (fun _ _ _ _ _ _ _ _ _ q _ _ h => t_X9_visit_0 (rc_X9_visit := (fx_X9_visit n r)) (by omega) (ih) h)
theorem t_X9_visit {l : Launch} {ρ : am_R} {n d gc gs : Nat} {I : Nat → Nat → Int32} {J : Nat → Nat → Int64} {T : Nat} {x1 : Int32} {x2 : Int32} {x3 : Int32} {x4 : Int32} {x5 : Int32} {x6 : Int32} {q : (Nat → Nat → Int32)} (hd : 1 * n + 3 ≤ d) (h : f_X9_visit n I J T x1 x2 x3 x4 x5 x6 = some q) : AW l ρ d M_X9_visit 0 [(0, .ref 30), (1, .int x1), (2, .int x2), (3, .int x3), (4, .int x4), (5, .int x5), (6, .int x6)] [] (am_KD, gc, gs) (I, J, am_RT T) (am_KD, gc, gs) (fun v H' => v = [] ∧ H' = (q, J, am_RT T)) := (tx_X9_visit n n d (by omega)) _ _ _ _ _ _ _ _ _ _ _ _ h
def f_X9_search (n : Nat) (I : Nat → Nat → Int32) (J : Nat → Nat → Int64) (T : Nat) (x1 : Int32) (x2 : Int32) : Option ((Nat → Nat → Int32)) :=
  (f_X9_visit n ((am_u (am_u (am_u I 30 1 x2) 30 2 ((-1))) 30 3 ((-1)))) J T 0 x1 0 0 0 0).bind fun w1 =>
  some (w1)
set_option maxRecDepth 100000 in
set_option maxHeartbeats 4000000 in
theorem t_X9_search_0 {l : Launch} {ρ : am_R} {n d gc gs : Nat} {I : Nat → Nat → Int32} {J : Nat → Nat → Int64} {T : Nat} {x1 : Int32} {x2 : Int32} {q : (Nat → Nat → Int32)} (hd : 1 * n + 4 ≤ (d + 1))
    (h : f_X9_search n  I J T x1 x2 = some q) : AW l ρ (d + 1) M_X9_search 0 [(0, .ref 30), (1, .int x1), (2, .int x2)] [] (am_KD, gc, gs) (I, J, am_RT T) (am_KD, gc, gs) (fun v H' => v = [] ∧ H' = (q, J, am_RT T)) := by
  unfold f_X9_search at h
  refine op_aload_n (k := 0) dX9_search_0 rfl rfl ?_
  refine op_iload_n (k := 2) dX9_search_1 rfl rfl ?_
  refine st_putI dX9_search_2 fl_X9_15 kd_30 (by decide) rfl ?_
  refine op_aload_n (k := 0) dX9_search_5 rfl rfl ?_
  refine op_iconst (v := (-1)) dX9_search_6 (by decide) ?_
  refine st_putI dX9_search_7 fl_X9_19 kd_30 (by decide) rfl ?_
  refine op_aload_n (k := 0) dX9_search_10 rfl rfl ?_
  refine op_iconst (v := (-1)) dX9_search_11 (by decide) ?_
  refine st_putI dX9_search_12 fl_X9_22 kd_30 (by decide) rfl ?_
  refine op_aload_n (k := 0) dX9_search_15 rfl rfl ?_
  refine op_iconst (v := 0) dX9_search_16 (by decide) ?_
  refine op_iload_n (k := 1) dX9_search_17 rfl rfl ?_
  refine op_iconst (v := 0) dX9_search_18 (by decide) ?_
  refine op_iconst (v := 0) dX9_search_19 (by decide) ?_
  refine op_iconst (v := 0) dX9_search_20 (by decide) ?_
  refine op_iconst (v := 0) dX9_search_21 (by decide) ?_
  obtain ⟨w1, ew1, h⟩ := am_bd h
  refine op_callV (M' := M_X9_visit) [.int 0, .int x1, .int 0, .int 0, .int 0, .int 0] (S0 := []) dX9_search_22 tw_924 ok_X9_visit tw_926 tw_38 kd_30 cls_9 rfl rfl rfl (Nat.le_of_ble_eq_true rfl) (Nat.le_of_ble_eq_true rfl) (t_X9_visit (by omega) ew1) (am_le_rf _) ?_
  rintro _ _ ⟨rfl, rfl⟩
  cases h
  exact (op_vret dX9_search_25 rfl ⟨rfl, rfl⟩)
theorem t_X9_search {l : Launch} {ρ : am_R} {n d gc gs : Nat} {I : Nat → Nat → Int32} {J : Nat → Nat → Int64} {T : Nat} {x1 : Int32} {x2 : Int32} {q : (Nat → Nat → Int32)} (hd : 1 * n + 4 ≤ d) (h : f_X9_search n I J T x1 x2 = some q) : AW l ρ d M_X9_search 0 [(0, .ref 30), (1, .int x1), (2, .int x2)] [] (am_KD, gc, gs) (I, J, am_RT T) (am_KD, gc, gs) (fun v H' => v = [] ∧ H' = (q, J, am_RT T)) := by
  obtain ⟨d, rfl⟩ : ∃ e, d = e + 1 := ⟨d - 1, by omega⟩
  exact t_X9_search_0 hd h
def f_X11_order (n : Nat) (I : Nat → Nat → Int32) (J : Nat → Nat → Int64) (T : Nat) (x1 : Int32) (x2 : Int32) (x3 : Int32) : Option (Int32 × (Nat → Nat → Int32)) :=
  (f_X11_isSet n I J T x1).bind fun w1 =>
  if w1 = 0 then
   some ((-1), I)
  else
   if x1 = 0 then
    some ((-1), I)
   else
    (f_X11_isWithin n I J T x2 0 2).bind fun w4 =>
    if w4 = 0 then
     some ((-1), I)
    else
     (f_X11_isWithin n I J T x3 0 1).bind fun w6 =>
     if w6 = 0 then
      some ((-1), I)
     else
      (f_X9_search n I J T x1 x2).bind fun w8 =>
      if x3 = 0 then
       some (w8 30 2, w8)
      else
       some (w8 30 3, w8)
set_option maxRecDepth 100000 in
set_option maxHeartbeats 4000000 in
theorem t_X11_order_0 {l : Launch} {ρ : am_R} {n d gc gs : Nat} {I : Nat → Nat → Int32} {J : Nat → Nat → Int64} {T : Nat} {x1 : Int32} {x2 : Int32} {x3 : Int32} {q : Int32 × (Nat → Nat → Int32)} (hd : 1 * n + 5 ≤ (d + 1))
    (h : f_X11_order n  I J T x1 x2 x3 = some q) : AW l ρ (d + 1) M_X11_order 0 [(0, .ref 0), (1, .int x1), (2, .int x2), (3, .int x3)] [] (am_KD, gc, gs) (I, J, am_RT T) (am_KD, gc, gs) (fun v H' => v = [.int q.1] ∧ H' = (q.2, J, am_RT T)) := by
  unfold f_X11_order at h
  refine op_aload_n (k := 0) dX11_order_0 rfl rfl ?_
  refine op_iload_n (k := 1) dX11_order_1 rfl rfl ?_
  obtain ⟨w1, ew1, h⟩ := am_bd h
  refine op_callV (M' := M_X11_isSet) [.int x1] (S0 := []) dX11_order_2 tw_758 ok_X11_isSet tw_760 tw_26 kd_0 cls_11 rfl rfl rfl (Nat.le_of_ble_eq_true rfl) (Nat.le_of_ble_eq_true rfl) (t_X11_isSet (by omega) ew1) (am_le_rf _) ?_
  rintro _ _ ⟨rfl, rfl⟩
  refine op_if_eq (tgt := 30) dX11_order_5 (by decide) (fun c2 => ?_) (fun c2 => ?_)
  · replace h := am_ip c2 h
    refine op_iconst (v := (-1)) dX11_order_30 (by decide) ?_
    cases h
    exact (op_iret dX11_order_31 rfl rfl ⟨rfl, rfl⟩)
  · replace h := am_ie c2 h
    refine op_iload_n (k := 1) dX11_order_8 rfl rfl ?_
    refine op_if_eq (tgt := 30) dX11_order_9 (by decide) (fun c3 => ?_) (fun c3 => ?_)
    · replace h := am_ip c3 h
      refine op_iconst (v := (-1)) dX11_order_30 (by decide) ?_
      cases h
      exact (op_iret dX11_order_31 rfl rfl ⟨rfl, rfl⟩)
    · replace h := am_ie c3 h
      refine op_iload_n (k := 2) dX11_order_12 rfl rfl ?_
      refine op_iconst (v := 0) dX11_order_13 (by decide) ?_
      refine op_iconst (v := 2) dX11_order_14 (by decide) ?_
      obtain ⟨w4, ew4, h⟩ := am_bd h
      refine op_callS (M' := M_X11_isWithin) [.int x2, .int 0, .int 2] (S0 := []) dX11_order_15 tw_713 ok_X11_isWithin tw_595 rfl rfl (Nat.le_of_ble_eq_true rfl) (Nat.le_of_ble_eq_true rfl) (t_X11_isWithin (by omega) ew4) (am_le_rf _) ?_
      rintro _ _ ⟨rfl, rfl⟩
      refine op_if_eq (tgt := 30) dX11_order_18 (by decide) (fun c5 => ?_) (fun c5 => ?_)
      · replace h := am_ip c5 h
        refine op_iconst (v := (-1)) dX11_order_30 (by decide) ?_
        cases h
        exact (op_iret dX11_order_31 rfl rfl ⟨rfl, rfl⟩)
      · replace h := am_ie c5 h
        refine op_iload_n (k := 3) dX11_order_21 rfl rfl ?_
        refine op_iconst (v := 0) dX11_order_22 (by decide) ?_
        refine op_iconst (v := 1) dX11_order_23 (by decide) ?_
        obtain ⟨w6, ew6, h⟩ := am_bd h
        refine op_callS (M' := M_X11_isWithin) [.int x3, .int 0, .int 1] (S0 := []) dX11_order_24 tw_713 ok_X11_isWithin tw_595 rfl rfl (Nat.le_of_ble_eq_true rfl) (Nat.le_of_ble_eq_true rfl) (t_X11_isWithin (by omega) ew6) (am_le_rf _) ?_
        rintro _ _ ⟨rfl, rfl⟩
        refine op_if_ne (tgt := 32) dX11_order_27 (by decide) (fun c7 => ?_) (fun c7 => ?_)
        · replace h := am_ie c7 h
          refine op_aload_n (k := 0) dX11_order_32 rfl rfl ?_
          refine st_getR (z := 30) dX11_order_33 fl_X11_65 kd_0 (by decide) rfl rr_0_7 ?_
          refine op_iload_n (k := 1) dX11_order_36 rfl rfl ?_
          refine op_iload_n (k := 2) dX11_order_37 rfl rfl ?_
          obtain ⟨w8, ew8, h⟩ := am_bd h
          refine op_callV (M' := M_X9_search) [.int x1, .int x2] (S0 := []) dX11_order_38 tw_920 ok_X9_search tw_921 tw_922 kd_30 cls_9 rfl rfl rfl (Nat.le_of_ble_eq_true rfl) (Nat.le_of_ble_eq_true rfl) (t_X9_search (by omega) ew8) (am_le_rf _) ?_
          rintro _ _ ⟨rfl, rfl⟩
          refine op_iload_n (k := 3) dX11_order_41 rfl rfl ?_
          refine op_if_ne (tgt := 55) dX11_order_42 (by decide) (fun c9 => ?_) (fun c9 => ?_)
          · replace h := am_ie c9 h
            refine op_aload_n (k := 0) dX11_order_55 rfl rfl ?_
            refine st_getR (z := 30) dX11_order_56 fl_X11_65 kd_0 (by decide) rfl rr_0_7 ?_
            refine st_getI (v := w8 30 3) dX11_order_59 fl_X11_244 kd_30 (by decide) rfl rfl ?_
            cases h
            exact (op_iret dX11_order_62 rfl rfl ⟨rfl, rfl⟩)
          · replace h := am_ip c9 h
            refine op_aload_n (k := 0) dX11_order_45 rfl rfl ?_
            refine st_getR (z := 30) dX11_order_46 fl_X11_65 kd_0 (by decide) rfl rr_0_7 ?_
            refine st_getI (v := w8 30 2) dX11_order_49 fl_X11_241 kd_30 (by decide) rfl rfl ?_
            refine op_goto (tgt := 62) dX11_order_52 (by decide) ?_
            cases h
            exact (op_iret dX11_order_62 rfl rfl ⟨rfl, rfl⟩)
        · replace h := am_ip c7 h
          refine op_iconst (v := (-1)) dX11_order_30 (by decide) ?_
          cases h
          exact (op_iret dX11_order_31 rfl rfl ⟨rfl, rfl⟩)
theorem t_X11_order {l : Launch} {ρ : am_R} {n d gc gs : Nat} {I : Nat → Nat → Int32} {J : Nat → Nat → Int64} {T : Nat} {x1 : Int32} {x2 : Int32} {x3 : Int32} {q : Int32 × (Nat → Nat → Int32)} (hd : 1 * n + 5 ≤ d) (h : f_X11_order n I J T x1 x2 x3 = some q) : AW l ρ d M_X11_order 0 [(0, .ref 0), (1, .int x1), (2, .int x2), (3, .int x3)] [] (am_KD, gc, gs) (I, J, am_RT T) (am_KD, gc, gs) (fun v H' => v = [.int q.1] ∧ H' = (q.2, J, am_RT T)) := by
  obtain ⟨d, rfl⟩ : ∃ e, d = e + 1 := ⟨d - 1, by omega⟩
  exact t_X11_order_0 hd h
def f_X11_paid (n : Nat) (I : Nat → Nat → Int32) (J : Nat → Nat → Int64) (T : Nat) (x1 : Int32) : Option (Int64) :=
  (f_X11_isRider n I J T x1).bind fun w1 =>
  if w1 = 0 then
   some ((-1))
  else
   if ok_ix x1 6 then
    some (J 42 x1.toNatClampNeg)
   else none
set_option maxRecDepth 100000 in
set_option maxHeartbeats 4000000 in
theorem t_X11_paid_0 {l : Launch} {ρ : am_R} {n d gc gs : Nat} {I : Nat → Nat → Int32} {J : Nat → Nat → Int64} {T : Nat} {x1 : Int32} {q : Int64} (hd : 0 * n + 1 ≤ (d + 1))
    (h : f_X11_paid n  I J T x1 = some q) : AW l ρ (d + 1) M_X11_paid 0 [(0, .ref 0), (1, .int x1)] [] (am_KD, gc, gs) (I, J, am_RT T) (am_KD, gc, gs) (fun v H' => v = [.long q] ∧ H' = (I, J, am_RT T)) := by
  unfold f_X11_paid at h
  refine op_aload_n (k := 0) dX11_paid_0 rfl rfl ?_
  refine op_iload_n (k := 1) dX11_paid_1 rfl rfl ?_
  obtain ⟨w1, ew1, h⟩ := am_bd h
  refine op_callV (M' := M_X11_isRider) [.int x1] (S0 := []) dX11_paid_2 tw_742 ok_X11_isRider tw_744 tw_25 kd_0 cls_11 rfl rfl rfl (Nat.le_of_ble_eq_true rfl) (Nat.le_of_ble_eq_true rfl) (t_X11_isRider (by omega) ew1) (am_le_rf _) ?_
  rintro _ _ ⟨rfl, rfl⟩
  refine op_if_eq (tgt := 20) dX11_paid_5 (by decide) (fun c2 => ?_) (fun c2 => ?_)
  · replace h := am_ip c2 h
    refine op_ldc2 dX11_paid_20 tw_795 ?_
    cases h
    exact (op_lret dX11_paid_23 rfl ⟨rfl, rfl⟩)
  · replace h := am_ie c2 h
    refine op_aload_n (k := 0) dX11_paid_8 rfl rfl ?_
    refine st_getR (z := 41) dX11_paid_9 fl_X11_95 kd_0 (by decide) rfl rr_0_11 ?_
    refine st_getR (z := 42) dX11_paid_12 fl_X11_317 kd_41 (by decide) rfl rr_41_0 ?_
    refine op_iload_n (k := 1) dX11_paid_15 rfl rfl ?_
    obtain ⟨g3, h⟩ := am_gd h
    refine st_lald (k := x1.toNatClampNeg) (v := J 42 x1.toNatClampNeg) dX11_paid_16 kd_42 g3 rfl rfl ?_
    refine op_goto (tgt := 23) dX11_paid_17 (by decide) ?_
    cases h
    exact (op_lret dX11_paid_23 rfl ⟨rfl, rfl⟩)
theorem t_X11_paid {l : Launch} {ρ : am_R} {n d gc gs : Nat} {I : Nat → Nat → Int32} {J : Nat → Nat → Int64} {T : Nat} {x1 : Int32} {q : Int64} (hd : 0 * n + 1 ≤ d) (h : f_X11_paid n I J T x1 = some q) : AW l ρ d M_X11_paid 0 [(0, .ref 0), (1, .int x1)] [] (am_KD, gc, gs) (I, J, am_RT T) (am_KD, gc, gs) (fun v H' => v = [.long q] ∧ H' = (I, J, am_RT T)) := by
  obtain ⟨d, rfl⟩ : ∃ e, d = e + 1 := ⟨d - 1, by omega⟩
  exact t_X11_paid_0 hd h
def f_X9_ridden_121 (n : Nat) (k43 : (Nat → Nat → Int32) → (Nat → Nat → Int64) → Nat → Int32 → Int32 → Int32 → Int32 → Int32 → Int32 → Int32 → Option (Int32)) (I : Nat → Nat → Int32) (J : Nat → Nat → Int64) (T : Nat) (x3 : Int32) (x4 : Int32) (x5 : Int32) (x6 : Int32) (x8 : Int32) (x10 : Int32) (s0 : Int32) : Option (Int32) :=
  if ok_ix x10 6 then
   k43 I J T x3 (x4 / 10) (x5 &&& ((1 <<< (x10 &&& 31)) ^^^ ((-1)))) (x6 - (x10 * x4)) (I 6 x10.toNatClampNeg) x8 s0
  else none
def f_X9_ridden_43 (n : Nat) : Nat → (Nat → Nat → Int32) → (Nat → Nat → Int64) → Nat → Int32 → Int32 → Int32 → Int32 → Int32 → Int32 → Int32 → Option (Int32)
  | 0, _, _, _, _, _, _, _, _, _, _ => none
  | m + 1, I, J, T, x3, x4, x5, x6, x7, x8, x9 =>
    if x4 ≤ 0 then
     some (x9)
    else
     if ¬ x4 = 0 then
      if (x6 / x4) < 0 then
       some ((-1))
      else
       if (I 3 1) ≤ (x6 / x4) then
        some ((-1))
       else
        (f_X11_isIn n I J T (x6 / x4) x5).bind fun w5 =>
        if w5 = 0 then
         some ((-1))
        else
         if ok_ix (x6 / x4) 6 then
          (f_X2_apart n I J T x7 (I 6 ((x6 / x4).toNatClampNeg))).bind fun w8 =>
          if (x6 / x4) = x3 then
           f_X9_ridden_121 n (f_X9_ridden_43 n m) I J T x3 x4 x5 x6 (x8 + w8) (x6 / x4) (x8 + w8)
          else
           f_X9_ridden_121 n (f_X9_ridden_43 n m) I J T x3 x4 x5 x6 (x8 + w8) (x6 / x4) x9
         else none
     else none
def f_X9_ridden_6 (n : Nat) : Nat → (Nat → Nat → Int32) → (Nat → Nat → Int64) → Nat → Int32 → Int32 → Int32 → Int32 → Int32 → Option (Int32)
  | 0, _, _, _, _, _, _, _, _ => none
  | m + 1, I, J, T, x1, x2, x3, x4, x5 =>
    (f_J6_bitCount_0f7a4 n I J T x1).bind fun w1 =>
    if w1 ≤ x5 then
     f_X9_ridden_43 n  n I J T x3 x4 x1 x2 0 0 ((-1))
    else
     f_X9_ridden_6 n  m I J T x1 x2 x3 (x4 * 10) (x5 + 1)
def f_X9_ridden (n : Nat) (I : Nat → Nat → Int32) (J : Nat → Nat → Int64) (T : Nat) (x1 : Int32) (x2 : Int32) (x3 : Int32) : Option (Int32) :=
  f_X9_ridden_6 n  n I J T x1 x2 x3 1 1
set_option maxRecDepth 100000 in
set_option maxHeartbeats 4000000 in
theorem t_X9_ridden_121 {l : Launch} {ρ : am_R} {n d gc gs : Nat} {k43 : (Nat → Nat → Int32) → (Nat → Nat → Int64) → Nat → Int32 → Int32 → Int32 → Int32 → Int32 → Int32 → Int32 → Option (Int32)} {I : Nat → Nat → Int32} {J : Nat → Nat → Int64} {T : Nat} {x3 : Int32} {x4 : Int32} {x5 : Int32} {x6 : Int32} {x8 : Int32} {x10 : Int32} {s0 : Int32} {q : Int32} (hd : 0 * n + 2 ≤ (d + 1))
    (hk43 : ∀ (I : Nat → Nat → Int32) (J : Nat → Nat → Int64) (T : Nat) (x3 : Int32) (x4 : Int32) (x5 : Int32) (x6 : Int32) (x7 : Int32) (x8 : Int32) (x9 : Int32), k43 I J T x3 x4 x5 x6 x7 x8 x9 = some q → AW l ρ (d + 1) M_X9_ridden 43 [(0, .ref 30), (3, .int x3), (4, .int x4), (5, .int x5), (6, .int x6), (7, .int x7), (8, .int x8), (9, .int x9)] [] (am_KD, gc, gs) (I, J, am_RT T) (am_KD, gc, gs) (fun v H' => v = [.int q] ∧ H' = (I, J, am_RT T)))
    (h : f_X9_ridden_121 n k43 I J T x3 x4 x5 x6 x8 x10 s0 = some q) : AW l ρ (d + 1) M_X9_ridden 121 [(0, .ref 30), (3, .int x3), (4, .int x4), (5, .int x5), (6, .int x6), (8, .int x8), (10, .int x10)] [.int s0] (am_KD, gc, gs) (I, J, am_RT T) (am_KD, gc, gs) (fun v H' => v = [.int q] ∧ H' = (I, J, am_RT T)) := by
  unfold f_X9_ridden_121 at h
  refine op_istore (L' := [(9, .int s0), (0, .ref 30), (3, .int x3), (4, .int x4), (5, .int x5), (6, .int x6), (8, .int x8), (10, .int x10)]) dX9_ridden_121 (by decide) rfl ?_
  refine op_aload_n (k := 1) dX9_ridden_123 rfl rfl ?_
  refine st_getR (z := 3) dX9_ridden_124 fl_X9_9 kd_30 (by decide) rfl rr_30_0 ?_
  refine st_getR (z := 6) dX9_ridden_127 fl_X9_38 kd_3 (by decide) rfl rr_3_7 ?_
  refine op_iload (k := 7) dX9_ridden_130 rfl ?_
  obtain ⟨g1, h⟩ := am_gd h
  refine st_iald (k := x10.toNatClampNeg) (v := I 6 x10.toNatClampNeg) dX9_ridden_132 kd_6 g1 rfl rfl ?_
  refine op_istore (L' := [(7, .int (I 6 x10.toNatClampNeg)), (9, .int s0), (0, .ref 30), (3, .int x3), (4, .int x4), (5, .int x5), (6, .int x6), (8, .int x8), (10, .int x10)]) dX9_ridden_133 (by decide) rfl ?_
  refine op_iload (k := 5) dX9_ridden_135 rfl ?_
  refine op_iconst (v := 1) dX9_ridden_137 (by decide) ?_
  refine op_iload (k := 8) dX9_ridden_138 rfl ?_
  refine op_ishl dX9_ridden_140 ?_
  refine op_iconst (v := (-1)) dX9_ridden_141 (by decide) ?_
  refine op_ixor dX9_ridden_142 ?_
  refine op_iand dX9_ridden_143 ?_
  refine op_istore (L' := [(5, .int (x5 &&& ((1 <<< (x10 &&& 31)) ^^^ ((-1))))), (7, .int (I 6 x10.toNatClampNeg)), (9, .int s0), (0, .ref 30), (3, .int x3), (4, .int x4), (6, .int x6), (8, .int x8), (10, .int x10)]) dX9_ridden_144 (by decide) rfl ?_
  refine op_iload (k := 6) dX9_ridden_146 rfl ?_
  refine op_iload (k := 8) dX9_ridden_148 rfl ?_
  refine op_iload (k := 5) dX9_ridden_150 rfl ?_
  refine op_imul dX9_ridden_152 ?_
  refine op_isub dX9_ridden_153 ?_
  refine op_istore (L' := [(6, .int (x6 - (x10 * x4))), (5, .int (x5 &&& ((1 <<< (x10 &&& 31)) ^^^ ((-1))))), (7, .int (I 6 x10.toNatClampNeg)), (9, .int s0), (0, .ref 30), (3, .int x3), (4, .int x4), (8, .int x8), (10, .int x10)]) dX9_ridden_154 (by decide) rfl ?_
  refine op_iload (k := 6) dX9_ridden_156 rfl ?_
  refine op_bipush (v := 10) dX9_ridden_158 (by decide) ?_
  refine op_idiv dX9_ridden_160 (by decide) ?_
  refine op_istore (L' := [(4, .int (x4 / 10)), (6, .int (x6 - (x10 * x4))), (5, .int (x5 &&& ((1 <<< (x10 &&& 31)) ^^^ ((-1))))), (7, .int (I 6 x10.toNatClampNeg)), (9, .int s0), (0, .ref 30), (3, .int x3), (8, .int x8), (10, .int x10)]) dX9_ridden_161 (by decide) rfl ?_
  refine op_goto (tgt := 43) dX9_ridden_163 (by decide) ?_
  refine AW.perm [5, 6, 0, 2, 1, 3, 7, 4] rfl ?_
  exact hk43 _ _ _ _ _ _ _ _ _ _ h
set_option maxRecDepth 100000 in
set_option maxHeartbeats 4000000 in
theorem t_X9_ridden_43 {l : Launch} {ρ : am_R} {n d gc gs : Nat} {q : Int32} (hd : 0 * n + 2 ≤ (d + 1))
    : ∀ (m : Nat) (I : Nat → Nat → Int32) (J : Nat → Nat → Int64) (T : Nat) (x3 : Int32) (x4 : Int32) (x5 : Int32) (x6 : Int32) (x7 : Int32) (x8 : Int32) (x9 : Int32), f_X9_ridden_43 n  m I J T x3 x4 x5 x6 x7 x8 x9 = some q → AW l ρ (d + 1) M_X9_ridden 43 [(0, .ref 30), (3, .int x3), (4, .int x4), (5, .int x5), (6, .int x6), (7, .int x7), (8, .int x8), (9, .int x9)] [] (am_KD, gc, gs) (I, J, am_RT T) (am_KD, gc, gs) (fun v H' => v = [.int q] ∧ H' = (I, J, am_RT T)) := by
  intro m
  induction m with
  | zero =>
    intro I J T x3 x4 x5 x6 x7 x8 x9 h
    rw [f_X9_ridden_43] at h
    cases h
  | succ m ih =>
    intro I J T x3 x4 x5 x6 x7 x8 x9 h
    rw [f_X9_ridden_43] at h
    refine op_iload (k := 2) dX9_ridden_43 rfl ?_
    refine op_if_le (tgt := 166) dX9_ridden_45 (by decide) (fun c1 => ?_) (fun c1 => ?_)
    · replace h := am_ip c1 h
      refine op_iload (k := 7) dX9_ridden_166 rfl ?_
      cases h
      exact (op_iret dX9_ridden_168 rfl rfl ⟨rfl, rfl⟩)
    · replace h := am_ie c1 h
      refine op_iload (k := 4) dX9_ridden_48 rfl ?_
      refine op_iload (k := 2) dX9_ridden_50 rfl ?_
      obtain ⟨g2, h⟩ := am_gd h
      refine op_idiv dX9_ridden_52 g2 ?_
      refine op_istore (L' := [(10, .int (x6 / x4)), (0, .ref 30), (3, .int x3), (4, .int x4), (5, .int x5), (6, .int x6), (7, .int x7), (8, .int x8), (9, .int x9)]) dX9_ridden_53 (by decide) rfl ?_
      refine op_iload (k := 0) dX9_ridden_55 rfl ?_
      refine op_if_lt (tgt := 82) dX9_ridden_57 (by decide) (fun c3 => ?_) (fun c3 => ?_)
      · replace h := am_ip c3 h
        refine op_iconst (v := (-1)) dX9_ridden_82 (by decide) ?_
        cases h
        exact (op_iret dX9_ridden_83 rfl rfl ⟨rfl, rfl⟩)
      · replace h := am_ie c3 h
        refine op_iload (k := 0) dX9_ridden_60 rfl ?_
        refine op_aload_n (k := 1) dX9_ridden_62 rfl rfl ?_
        refine st_getR (z := 3) dX9_ridden_63 fl_X9_9 kd_30 (by decide) rfl rr_30_0 ?_
        refine st_getI (v := I 3 1) dX9_ridden_66 fl_X9_29 kd_3 (by decide) rfl rfl ?_
        refine op_icmp_ge (tgt := 82) dX9_ridden_69 (by decide) (fun c4 => ?_) (fun c4 => ?_)
        · replace h := am_ip c4 h
          refine op_iconst (v := (-1)) dX9_ridden_82 (by decide) ?_
          cases h
          exact (op_iret dX9_ridden_83 rfl rfl ⟨rfl, rfl⟩)
        · replace h := am_ie c4 h
          refine op_iload (k := 0) dX9_ridden_72 rfl ?_
          refine op_iload (k := 4) dX9_ridden_74 rfl ?_
          obtain ⟨w5, ew5, h⟩ := am_bd h
          refine op_callSN (M' := M_X11_isIn) [.int (x6 / x4), .int x5] (S0 := []) dX9_ridden_76 tn_928 ok_X11_isIn tw_771 rfl rfl (Nat.le_of_ble_eq_true rfl) (Nat.le_of_ble_eq_true rfl) (t_X11_isIn (by omega) ew5) (am_le_rf _) ?_
          rintro _ _ ⟨rfl, rfl⟩
          refine op_if_ne (tgt := 84) dX9_ridden_79 (by decide) (fun c6 => ?_) (fun c6 => ?_)
          · replace h := am_ie c6 h
            refine op_iload (k := 7) dX9_ridden_84 rfl ?_
            refine op_aload_n (k := 1) dX9_ridden_86 rfl rfl ?_
            refine st_getR (z := 3) dX9_ridden_87 fl_X9_9 kd_30 (by decide) rfl rr_30_0 ?_
            refine op_iload (k := 6) dX9_ridden_90 rfl ?_
            refine op_aload_n (k := 1) dX9_ridden_92 rfl rfl ?_
            refine st_getR (z := 3) dX9_ridden_93 fl_X9_9 kd_30 (by decide) rfl rr_30_0 ?_
            refine st_getR (z := 6) dX9_ridden_96 fl_X9_38 kd_3 (by decide) rfl rr_3_7 ?_
            refine op_iload (k := 0) dX9_ridden_99 rfl ?_
            obtain ⟨g7, h⟩ := am_gd h
            refine st_iald (k := (x6 / x4).toNatClampNeg) (v := I 6 ((x6 / x4).toNatClampNeg)) dX9_ridden_101 kd_6 g7 rfl rfl ?_
            obtain ⟨w8, ew8, h⟩ := am_bd h
            refine op_callV (M' := M_X2_apart) [.int x7, .int (I 6 ((x6 / x4).toNatClampNeg))] (S0 := [.int x8]) dX9_ridden_102 tw_929 ok_X2_apart tw_727 tw_728 kd_3 cls_2 rfl rfl rfl (Nat.le_of_ble_eq_true rfl) (Nat.le_of_ble_eq_true rfl) (t_X2_apart (by omega) ew8) (am_le_rf _) ?_
            rintro _ _ ⟨rfl, rfl⟩
            refine op_iadd dX9_ridden_105 ?_
            refine op_istore (L' := [(8, .int (x8 + w8)), (10, .int (x6 / x4)), (0, .ref 30), (3, .int x3), (4, .int x4), (5, .int x5), (6, .int x6), (7, .int x7), (9, .int x9)]) dX9_ridden_106 (by decide) rfl ?_
            refine op_iload (k := 1) dX9_ridden_108 rfl ?_
            refine op_iload_n (k := 3) dX9_ridden_110 rfl rfl ?_
            refine op_icmp_ne (tgt := 119) dX9_ridden_111 (by decide) (fun c9 => ?_) (fun c9 => ?_)
            · replace h := am_ie c9 h
              refine op_iload (k := 8) dX9_ridden_119 rfl ?_
              refine AW.perm [2, 3, 4, 5, 6, 0, 1] rfl ?_
              exact t_X9_ridden_121 hd ih h
            · replace h := am_ip c9 h
              refine op_iload (k := 0) dX9_ridden_114 rfl ?_
              refine op_goto (tgt := 121) dX9_ridden_116 (by decide) ?_
              refine AW.perm [2, 3, 4, 5, 6, 0, 1] rfl ?_
              exact t_X9_ridden_121 hd ih h
          · replace h := am_ip c6 h
            refine op_iconst (v := (-1)) dX9_ridden_82 (by decide) ?_
            cases h
            exact (op_iret dX9_ridden_83 rfl rfl ⟨rfl, rfl⟩)
set_option maxRecDepth 100000 in
set_option maxHeartbeats 4000000 in
theorem t_X9_ridden_6 {l : Launch} {ρ : am_R} {n d gc gs : Nat} {q : Int32} (hd : 0 * n + 2 ≤ (d + 1))
    : ∀ (m : Nat) (I : Nat → Nat → Int32) (J : Nat → Nat → Int64) (T : Nat) (x1 : Int32) (x2 : Int32) (x3 : Int32) (x4 : Int32) (x5 : Int32), f_X9_ridden_6 n  m I J T x1 x2 x3 x4 x5 = some q → AW l ρ (d + 1) M_X9_ridden 6 [(0, .ref 30), (1, .int x1), (2, .int x2), (3, .int x3), (4, .int x4), (5, .int x5)] [] (am_KD, gc, gs) (I, J, am_RT T) (am_KD, gc, gs) (fun v H' => v = [.int q] ∧ H' = (I, J, am_RT T)) := by
  intro m
  induction m with
  | zero =>
    intro I J T x1 x2 x3 x4 x5 h
    rw [f_X9_ridden_6] at h
    cases h
  | succ m ih =>
    intro I J T x1 x2 x3 x4 x5 h
    rw [f_X9_ridden_6] at h
    refine op_iload (k := 5) dX9_ridden_6 rfl ?_
    refine op_iload_n (k := 1) dX9_ridden_8 rfl rfl ?_
    obtain ⟨w1, ew1, h⟩ := am_bd h
    refine op_callS (M' := M_J6_bitCount_0f7a4) [.int x1] (S0 := [.int x5]) dX9_ridden_9 tw_943 ok_J6_bitCount_0f7a4 tw_797 rfl rfl (Nat.le_of_ble_eq_true rfl) (Nat.le_of_ble_eq_true rfl) (t_J6_bitCount_0f7a4 (by omega) ew1) (am_le_rf _) ?_
    rintro _ _ ⟨rfl, rfl⟩
    refine op_icmp_ge (tgt := 28) dX9_ridden_12 (by decide) (fun c2 => ?_) (fun c2 => ?_)
    · replace h := am_ip c2 h
      refine op_iload_n (k := 1) dX9_ridden_28 rfl rfl ?_
      refine op_istore (L' := [(5, .int x1), (0, .ref 30), (1, .int x1), (2, .int x2), (3, .int x3), (4, .int x4)]) dX9_ridden_29 (by decide) rfl ?_
      refine op_iload_n (k := 3) dX9_ridden_31 rfl rfl ?_
      refine op_istore (L' := [(6, .int x2), (5, .int x1), (0, .ref 30), (1, .int x1), (2, .int x2), (3, .int x3), (4, .int x4)]) dX9_ridden_32 (by decide) rfl ?_
      refine op_iconst (v := 0) dX9_ridden_34 (by decide) ?_
      refine op_istore (L' := [(7, .int 0), (6, .int x2), (5, .int x1), (0, .ref 30), (1, .int x1), (2, .int x2), (3, .int x3), (4, .int x4)]) dX9_ridden_35 (by decide) rfl ?_
      refine op_iconst (v := 0) dX9_ridden_37 (by decide) ?_
      refine op_istore (L' := [(8, .int 0), (7, .int 0), (6, .int x2), (5, .int x1), (0, .ref 30), (1, .int x1), (2, .int x2), (3, .int x3), (4, .int x4)]) dX9_ridden_38 (by decide) rfl ?_
      refine op_iconst (v := (-1)) dX9_ridden_40 (by decide) ?_
      refine op_istore (L' := [(9, .int ((-1))), (8, .int 0), (7, .int 0), (6, .int x2), (5, .int x1), (0, .ref 30), (1, .int x1), (2, .int x2), (3, .int x3), (4, .int x4)]) dX9_ridden_41 (by decide) rfl ?_
      refine AW.perm [5, 8, 9, 4, 3, 2, 1, 0] rfl ?_
      exact t_X9_ridden_43 hd  n _ _ _ _ _ _ _ _ _ _ h
    · replace h := am_ie c2 h
      refine op_iload (k := 4) dX9_ridden_15 rfl ?_
      refine op_bipush (v := 10) dX9_ridden_17 (by decide) ?_
      refine op_imul dX9_ridden_19 ?_
      refine op_istore (L' := [(4, .int (x4 * 10)), (0, .ref 30), (1, .int x1), (2, .int x2), (3, .int x3), (5, .int x5)]) dX9_ridden_20 (by decide) rfl ?_
      refine op_iinc (k := 5) (v := x5 + 1) (L' := [(5, .int (x5 + 1)), (4, .int (x4 * 10)), (0, .ref 30), (1, .int x1), (2, .int x2), (3, .int x3)]) dX9_ridden_22 rfl rfl (by decide) rfl ?_
      refine op_goto (tgt := 6) dX9_ridden_25 (by decide) ?_
      refine AW.perm [2, 3, 4, 5, 1, 0] rfl ?_
      exact ih _ _ _ _ _ _ _ _ h
set_option maxRecDepth 100000 in
set_option maxHeartbeats 4000000 in
theorem t_X9_ridden_0 {l : Launch} {ρ : am_R} {n d gc gs : Nat} {I : Nat → Nat → Int32} {J : Nat → Nat → Int64} {T : Nat} {x1 : Int32} {x2 : Int32} {x3 : Int32} {q : Int32} (hd : 0 * n + 2 ≤ (d + 1))
    (h : f_X9_ridden n  I J T x1 x2 x3 = some q) : AW l ρ (d + 1) M_X9_ridden 0 [(0, .ref 30), (1, .int x1), (2, .int x2), (3, .int x3)] [] (am_KD, gc, gs) (I, J, am_RT T) (am_KD, gc, gs) (fun v H' => v = [.int q] ∧ H' = (I, J, am_RT T)) := by
  unfold f_X9_ridden at h
  refine op_iconst (v := 1) dX9_ridden_0 (by decide) ?_
  refine op_istore (L' := [(4, .int 1), (0, .ref 30), (1, .int x1), (2, .int x2), (3, .int x3)]) dX9_ridden_1 (by decide) rfl ?_
  refine op_iconst (v := 1) dX9_ridden_3 (by decide) ?_
  refine op_istore (L' := [(5, .int 1), (4, .int 1), (0, .ref 30), (1, .int x1), (2, .int x2), (3, .int x3)]) dX9_ridden_4 (by decide) rfl ?_
  refine AW.perm [2, 3, 4, 5, 1, 0] rfl ?_
  exact t_X9_ridden_6 hd  n _ _ _ _ _ _ _ _ h
theorem t_X9_ridden {l : Launch} {ρ : am_R} {n d gc gs : Nat} {I : Nat → Nat → Int32} {J : Nat → Nat → Int64} {T : Nat} {x1 : Int32} {x2 : Int32} {x3 : Int32} {q : Int32} (hd : 0 * n + 2 ≤ d) (h : f_X9_ridden n I J T x1 x2 x3 = some q) : AW l ρ d M_X9_ridden 0 [(0, .ref 30), (1, .int x1), (2, .int x2), (3, .int x3)] [] (am_KD, gc, gs) (I, J, am_RT T) (am_KD, gc, gs) (fun v H' => v = [.int q] ∧ H' = (I, J, am_RT T)) := by
  obtain ⟨d, rfl⟩ : ∃ e, d = e + 1 := ⟨d - 1, by omega⟩
  exact t_X9_ridden_0 hd h
def f_X11_ride (n : Nat) (I : Nat → Nat → Int32) (J : Nat → Nat → Int64) (T : Nat) (x1 : Int32) (x2 : Int32) (x3 : Int32) : Option (Int32) :=
  (f_X11_isSet n I J T x1).bind fun w1 =>
  if w1 = 0 then
   some ((-1))
  else
   (f_X11_isRider n I J T x3).bind fun w3 =>
   if w3 = 0 then
    some ((-1))
   else
    (f_X11_isIn n I J T x3 x1).bind fun w5 =>
    if w5 = 0 then
     some ((-1))
    else
     (f_X9_ridden n I J T x1 x2 x3).bind fun w7 =>
     some (w7)
set_option maxRecDepth 100000 in
set_option maxHeartbeats 4000000 in
theorem t_X11_ride_0 {l : Launch} {ρ : am_R} {n d gc gs : Nat} {I : Nat → Nat → Int32} {J : Nat → Nat → Int64} {T : Nat} {x1 : Int32} {x2 : Int32} {x3 : Int32} {q : Int32} (hd : 0 * n + 3 ≤ (d + 1))
    (h : f_X11_ride n  I J T x1 x2 x3 = some q) : AW l ρ (d + 1) M_X11_ride 0 [(0, .ref 0), (1, .int x1), (2, .int x2), (3, .int x3)] [] (am_KD, gc, gs) (I, J, am_RT T) (am_KD, gc, gs) (fun v H' => v = [.int q] ∧ H' = (I, J, am_RT T)) := by
  unfold f_X11_ride at h
  refine op_aload_n (k := 0) dX11_ride_0 rfl rfl ?_
  refine op_iload_n (k := 1) dX11_ride_1 rfl rfl ?_
  obtain ⟨w1, ew1, h⟩ := am_bd h
  refine op_callV (M' := M_X11_isSet) [.int x1] (S0 := []) dX11_ride_2 tw_758 ok_X11_isSet tw_760 tw_26 kd_0 cls_11 rfl rfl rfl (Nat.le_of_ble_eq_true rfl) (Nat.le_of_ble_eq_true rfl) (t_X11_isSet (by omega) ew1) (am_le_rf _) ?_
  rintro _ _ ⟨rfl, rfl⟩
  refine op_if_eq (tgt := 24) dX11_ride_5 (by decide) (fun c2 => ?_) (fun c2 => ?_)
  · replace h := am_ip c2 h
    refine op_iconst (v := (-1)) dX11_ride_24 (by decide) ?_
    cases h
    exact (op_iret dX11_ride_25 rfl rfl ⟨rfl, rfl⟩)
  · replace h := am_ie c2 h
    refine op_aload_n (k := 0) dX11_ride_8 rfl rfl ?_
    refine op_iload_n (k := 3) dX11_ride_9 rfl rfl ?_
    obtain ⟨w3, ew3, h⟩ := am_bd h
    refine op_callV (M' := M_X11_isRider) [.int x3] (S0 := []) dX11_ride_10 tw_742 ok_X11_isRider tw_744 tw_25 kd_0 cls_11 rfl rfl rfl (Nat.le_of_ble_eq_true rfl) (Nat.le_of_ble_eq_true rfl) (t_X11_isRider (by omega) ew3) (am_le_rf _) ?_
    rintro _ _ ⟨rfl, rfl⟩
    refine op_if_eq (tgt := 24) dX11_ride_13 (by decide) (fun c4 => ?_) (fun c4 => ?_)
    · replace h := am_ip c4 h
      refine op_iconst (v := (-1)) dX11_ride_24 (by decide) ?_
      cases h
      exact (op_iret dX11_ride_25 rfl rfl ⟨rfl, rfl⟩)
    · replace h := am_ie c4 h
      refine op_iload_n (k := 3) dX11_ride_16 rfl rfl ?_
      refine op_iload_n (k := 1) dX11_ride_17 rfl rfl ?_
      obtain ⟨w5, ew5, h⟩ := am_bd h
      refine op_callS (M' := M_X11_isIn) [.int x3, .int x1] (S0 := []) dX11_ride_18 tw_790 ok_X11_isIn tw_771 rfl rfl (Nat.le_of_ble_eq_true rfl) (Nat.le_of_ble_eq_true rfl) (t_X11_isIn (by omega) ew5) (am_le_rf _) ?_
      rintro _ _ ⟨rfl, rfl⟩
      refine op_if_ne (tgt := 26) dX11_ride_21 (by decide) (fun c6 => ?_) (fun c6 => ?_)
      · replace h := am_ie c6 h
        refine op_aload_n (k := 0) dX11_ride_26 rfl rfl ?_
        refine st_getR (z := 30) dX11_ride_27 fl_X11_65 kd_0 (by decide) rfl rr_0_7 ?_
        refine op_iload_n (k := 1) dX11_ride_30 rfl rfl ?_
        refine op_iload_n (k := 2) dX11_ride_31 rfl rfl ?_
        refine op_iload_n (k := 3) dX11_ride_32 rfl rfl ?_
        obtain ⟨w7, ew7, h⟩ := am_bd h
        refine op_callV (M' := M_X9_ridden) [.int x1, .int x2, .int x3] (S0 := []) dX11_ride_33 tw_939 ok_X9_ridden tw_940 tw_941 kd_30 cls_9 rfl rfl rfl (Nat.le_of_ble_eq_true rfl) (Nat.le_of_ble_eq_true rfl) (t_X9_ridden (by omega) ew7) (am_le_rf _) ?_
        rintro _ _ ⟨rfl, rfl⟩
        cases h
        exact (op_iret dX11_ride_36 rfl rfl ⟨rfl, rfl⟩)
      · replace h := am_ip c6 h
        refine op_iconst (v := (-1)) dX11_ride_24 (by decide) ?_
        cases h
        exact (op_iret dX11_ride_25 rfl rfl ⟨rfl, rfl⟩)
theorem t_X11_ride {l : Launch} {ρ : am_R} {n d gc gs : Nat} {I : Nat → Nat → Int32} {J : Nat → Nat → Int64} {T : Nat} {x1 : Int32} {x2 : Int32} {x3 : Int32} {q : Int32} (hd : 0 * n + 3 ≤ d) (h : f_X11_ride n I J T x1 x2 x3 = some q) : AW l ρ d M_X11_ride 0 [(0, .ref 0), (1, .int x1), (2, .int x2), (3, .int x3)] [] (am_KD, gc, gs) (I, J, am_RT T) (am_KD, gc, gs) (fun v H' => v = [.int q] ∧ H' = (I, J, am_RT T)) := by
  obtain ⟨d, rfl⟩ : ∃ e, d = e + 1 := ⟨d - 1, by omega⟩
  exact t_X11_ride_0 hd h
def f_X11_rider (n : Nat) (I : Nat → Nat → Int32) (J : Nat → Nat → Int64) (T : Nat) (x1 : Int32) (x2 : Int32) : Option (Int32) :=
  (f_X11_isRider n I J T x1).bind fun w1 =>
  if w1 = 0 then
   none
  else
   (f_X11_isWithin n I J T x2 0 4).bind fun w3 =>
   if w3 = 0 then
    none
   else
    if x2 = 0 then
     if ok_ix x1 6 then
      some (I 6 x1.toNatClampNeg)
     else none
    else
    if x2 = 1 then
     if ok_ix x1 6 then
      some (I 7 x1.toNatClampNeg)
     else none
    else
    if x2 = 2 then
     if ok_ix x1 6 then
      some (I 8 x1.toNatClampNeg)
     else none
    else
    if x2 = 3 then
     (f_X2_milesFor n I J T (1 <<< (x1 &&& 31))).bind fun w9 =>
     some (w9)
    else
    (f_X2_costFor n I J T (1 <<< (x1 &&& 31))).bind fun w10 =>
    some (w10)
set_option maxRecDepth 100000 in
set_option maxHeartbeats 4000000 in
theorem t_X11_rider_0 {l : Launch} {ρ : am_R} {n d gc gs : Nat} {I : Nat → Nat → Int32} {J : Nat → Nat → Int64} {T : Nat} {x1 : Int32} {x2 : Int32} {q : Int32} (hd : 0 * n + 3 ≤ (d + 1))
    (h : f_X11_rider n  I J T x1 x2 = some q) : AW l ρ (d + 1) M_X11_rider 0 [(0, .ref 0), (1, .int x1), (2, .int x2)] [] (am_KD, gc, gs) (I, J, am_RT T) (am_KD, gc, gs) (fun v H' => v = [.int q] ∧ H' = (I, J, am_RT T)) := by
  unfold f_X11_rider at h
  refine op_aload_n (k := 0) dX11_rider_0 rfl rfl ?_
  refine op_iload_n (k := 1) dX11_rider_1 rfl rfl ?_
  obtain ⟨w1, ew1, h⟩ := am_bd h
  refine op_callV (M' := M_X11_isRider) [.int x1] (S0 := []) dX11_rider_2 tw_742 ok_X11_isRider tw_744 tw_25 kd_0 cls_11 rfl rfl rfl (Nat.le_of_ble_eq_true rfl) (Nat.le_of_ble_eq_true rfl) (t_X11_isRider (by omega) ew1) (am_le_rf _) ?_
  rintro _ _ ⟨rfl, rfl⟩
  refine op_if_eq (tgt := 17) dX11_rider_5 (by decide) (fun c2 => ?_) (fun c2 => ?_)
  · replace h := am_ip c2 h
    cases h
  · replace h := am_ie c2 h
    refine op_iload_n (k := 2) dX11_rider_8 rfl rfl ?_
    refine op_iconst (v := 0) dX11_rider_9 (by decide) ?_
    refine op_iconst (v := 4) dX11_rider_10 (by decide) ?_
    obtain ⟨w3, ew3, h⟩ := am_bd h
    refine op_callS (M' := M_X11_isWithin) [.int x2, .int 0, .int 4] (S0 := []) dX11_rider_11 tw_713 ok_X11_isWithin tw_595 rfl rfl (Nat.le_of_ble_eq_true rfl) (Nat.le_of_ble_eq_true rfl) (t_X11_isWithin (by omega) ew3) (am_le_rf _) ?_
    rintro _ _ ⟨rfl, rfl⟩
    refine op_if_ne (tgt := 25) dX11_rider_14 (by decide) (fun c4 => ?_) (fun c4 => ?_)
    · replace h := am_ie c4 h
      refine op_iload_n (k := 2) dX11_rider_25 rfl rfl ?_
      by_cases c5_0 : x2 = 0
      · replace h := am_ip c5_0 h
        refine op_tableIn (tgt := 56) dX11_rider_26 (by rw [c5_0]; decide) (by rw [c5_0]; decide) (off := 30) (by rw [c5_0]; rfl) (by decide) ?_
        refine op_aload_n (k := 0) dX11_rider_56 rfl rfl ?_
        refine st_getR (z := 3) dX11_rider_57 fl_X11_19 kd_0 (by decide) rfl rr_0_1 ?_
        refine st_getR (z := 6) dX11_rider_60 fl_X11_165 kd_3 (by decide) rfl rr_3_7 ?_
        refine op_iload_n (k := 1) dX11_rider_63 rfl rfl ?_
        obtain ⟨g6, h⟩ := am_gd h
        refine st_iald (k := x1.toNatClampNeg) (v := I 6 x1.toNatClampNeg) dX11_rider_64 kd_6 g6 rfl rfl ?_
        cases h
        exact (op_iret dX11_rider_65 rfl rfl ⟨rfl, rfl⟩)
      replace h := am_ie c5_0 h
      by_cases c5_1 : x2 = 1
      · replace h := am_ip c5_1 h
        refine op_tableIn (tgt := 66) dX11_rider_26 (by rw [c5_1]; decide) (by rw [c5_1]; decide) (off := 40) (by rw [c5_1]; rfl) (by decide) ?_
        refine op_aload_n (k := 0) dX11_rider_66 rfl rfl ?_
        refine st_getR (z := 3) dX11_rider_67 fl_X11_19 kd_0 (by decide) rfl rr_0_1 ?_
        refine st_getR (z := 7) dX11_rider_70 fl_X11_168 kd_3 (by decide) rfl rr_3_8 ?_
        refine op_iload_n (k := 1) dX11_rider_73 rfl rfl ?_
        obtain ⟨g7, h⟩ := am_gd h
        refine st_iald (k := x1.toNatClampNeg) (v := I 7 x1.toNatClampNeg) dX11_rider_74 kd_7 g7 rfl rfl ?_
        cases h
        exact (op_iret dX11_rider_75 rfl rfl ⟨rfl, rfl⟩)
      replace h := am_ie c5_1 h
      by_cases c5_2 : x2 = 2
      · replace h := am_ip c5_2 h
        refine op_tableIn (tgt := 76) dX11_rider_26 (by rw [c5_2]; decide) (by rw [c5_2]; decide) (off := 50) (by rw [c5_2]; rfl) (by decide) ?_
        refine op_aload_n (k := 0) dX11_rider_76 rfl rfl ?_
        refine st_getR (z := 3) dX11_rider_77 fl_X11_19 kd_0 (by decide) rfl rr_0_1 ?_
        refine st_getR (z := 8) dX11_rider_80 fl_X11_171 kd_3 (by decide) rfl rr_3_9 ?_
        refine op_iload_n (k := 1) dX11_rider_83 rfl rfl ?_
        obtain ⟨g8, h⟩ := am_gd h
        refine st_iald (k := x1.toNatClampNeg) (v := I 8 x1.toNatClampNeg) dX11_rider_84 kd_8 g8 rfl rfl ?_
        cases h
        exact (op_iret dX11_rider_85 rfl rfl ⟨rfl, rfl⟩)
      replace h := am_ie c5_2 h
      by_cases c5_3 : x2 = 3
      · replace h := am_ip c5_3 h
        refine op_tableIn (tgt := 86) dX11_rider_26 (by rw [c5_3]; decide) (by rw [c5_3]; decide) (off := 60) (by rw [c5_3]; rfl) (by decide) ?_
        refine op_aload_n (k := 0) dX11_rider_86 rfl rfl ?_
        refine st_getR (z := 3) dX11_rider_87 fl_X11_19 kd_0 (by decide) rfl rr_0_1 ?_
        refine op_iconst (v := 1) dX11_rider_90 (by decide) ?_
        refine op_iload_n (k := 1) dX11_rider_91 rfl rfl ?_
        refine op_ishl dX11_rider_92 ?_
        obtain ⟨w9, ew9, h⟩ := am_bd h
        refine op_callV (M' := M_X2_milesFor) [.int (1 <<< (x1 &&& 31))] (S0 := []) dX11_rider_93 tw_766 ok_X2_milesFor tw_767 tw_768 kd_3 cls_2 rfl rfl rfl (Nat.le_of_ble_eq_true rfl) (Nat.le_of_ble_eq_true rfl) (t_X2_milesFor (by omega) ew9) (am_le_rf _) ?_
        rintro _ _ ⟨rfl, rfl⟩
        cases h
        exact (op_iret dX11_rider_96 rfl rfl ⟨rfl, rfl⟩)
      replace h := am_ie c5_3 h
      refine op_tableOut (tgt := 97) dX11_rider_26 (by have z0 : x2.toInt ≠ 0 := fun z => c5_0 (Int32.toInt_inj.mp z); have z1 : x2.toInt ≠ 1 := fun z => c5_1 (Int32.toInt_inj.mp z); have z2 : x2.toInt ≠ 2 := fun z => c5_2 (Int32.toInt_inj.mp z); have z3 : x2.toInt ≠ 3 := fun z => c5_3 (Int32.toInt_inj.mp z); omega) (by decide) ?_
      refine op_aload_n (k := 0) dX11_rider_97 rfl rfl ?_
      refine st_getR (z := 3) dX11_rider_98 fl_X11_19 kd_0 (by decide) rfl rr_0_1 ?_
      refine op_iconst (v := 1) dX11_rider_101 (by decide) ?_
      refine op_iload_n (k := 1) dX11_rider_102 rfl rfl ?_
      refine op_ishl dX11_rider_103 ?_
      obtain ⟨w10, ew10, h⟩ := am_bd h
      refine op_callV (M' := M_X2_costFor) [.int (1 <<< (x1 &&& 31))] (S0 := []) dX11_rider_104 tw_773 ok_X2_costFor tw_774 tw_775 kd_3 cls_2 rfl rfl rfl (Nat.le_of_ble_eq_true rfl) (Nat.le_of_ble_eq_true rfl) (t_X2_costFor (by omega) ew10) (am_le_rf _) ?_
      rintro _ _ ⟨rfl, rfl⟩
      cases h
      exact (op_iret dX11_rider_107 rfl rfl ⟨rfl, rfl⟩)
    · replace h := am_ip c4 h
      cases h
theorem t_X11_rider {l : Launch} {ρ : am_R} {n d gc gs : Nat} {I : Nat → Nat → Int32} {J : Nat → Nat → Int64} {T : Nat} {x1 : Int32} {x2 : Int32} {q : Int32} (hd : 0 * n + 3 ≤ d) (h : f_X11_rider n I J T x1 x2 = some q) : AW l ρ d M_X11_rider 0 [(0, .ref 0), (1, .int x1), (2, .int x2)] [] (am_KD, gc, gs) (I, J, am_RT T) (am_KD, gc, gs) (fun v H' => v = [.int q] ∧ H' = (I, J, am_RT T)) := by
  obtain ⟨d, rfl⟩ : ∃ e, d = e + 1 := ⟨d - 1, by omega⟩
  exact t_X11_rider_0 hd h
def f_X8_append (n : Nat) (I : Nat → Nat → Int32) (J : Nat → Nat → Int64) (T : Nat) (x1 : Int32) (x2 : Int32) (x3 : Int32) : Option (Int32 × (Nat → Nat → Int32)) :=
  if (I 37 5) < 10 then
   if ok_ix (I 37 5) 10 then
    if ok_ix (I 37 5) 10 then
     if ok_ix (I 37 5) 10 then
      some (1, (am_u (am_u (am_u (am_u I 38 ((I 37 5).toNatClampNeg) x1) 39 ((I 37 5).toNatClampNeg) x2) 40 ((I 37 5).toNatClampNeg) x3) 37 5 ((I 37 5) + 1)))
     else none
    else none
   else none
  else
   some (0, I)
set_option maxRecDepth 100000 in
set_option maxHeartbeats 4000000 in
theorem t_X8_append_0 {l : Launch} {ρ : am_R} {n d gc gs : Nat} {I : Nat → Nat → Int32} {J : Nat → Nat → Int64} {T : Nat} {x1 : Int32} {x2 : Int32} {x3 : Int32} {q : Int32 × (Nat → Nat → Int32)} (hd : 0 * n + 0 ≤ d)
    (h : f_X8_append n  I J T x1 x2 x3 = some q) : AW l ρ d M_X8_append 0 [(0, .ref 37), (1, .int x1), (2, .int x2), (3, .int x3)] [] (am_KD, gc, gs) (I, J, am_RT T) (am_KD, gc, gs) (fun v H' => v = [.int q.1] ∧ H' = (q.2, J, am_RT T)) := by
  unfold f_X8_append at h
  refine op_aload_n (k := 0) dX8_append_0 rfl rfl ?_
  refine st_getI (v := I 37 5) dX8_append_1 fl_X8_29 kd_37 (by decide) rfl rfl ?_
  refine op_bipush (v := 10) dX8_append_4 (by decide) ?_
  refine op_icmp_lt (tgt := 11) dX8_append_6 (by decide) (fun c1 => ?_) (fun c1 => ?_)
  · replace h := am_ip c1 h
    refine op_aload_n (k := 0) dX8_append_11 rfl rfl ?_
    refine st_getR (z := 38) dX8_append_12 fl_X8_11 kd_37 (by decide) rfl rr_37_2 ?_
    refine op_aload_n (k := 0) dX8_append_15 rfl rfl ?_
    refine st_getI (v := I 37 5) dX8_append_16 fl_X8_29 kd_37 (by decide) rfl rfl ?_
    refine op_iload_n (k := 1) dX8_append_19 rfl rfl ?_
    obtain ⟨g2, h⟩ := am_gd h
    refine st_iast (k := (I 37 5).toNatClampNeg) dX8_append_20 kd_38 g2 rfl ?_
    refine op_aload_n (k := 0) dX8_append_21 rfl rfl ?_
    refine st_getR (z := 39) dX8_append_22 fl_X8_15 kd_37 (by decide) rfl rr_37_3 ?_
    refine op_aload_n (k := 0) dX8_append_25 rfl rfl ?_
    refine st_getI (v := I 37 5) dX8_append_26 fl_X8_29 kd_37 (by decide) rfl rfl ?_
    refine op_iload_n (k := 2) dX8_append_29 rfl rfl ?_
    obtain ⟨g3, h⟩ := am_gd h
    refine st_iast (k := (I 37 5).toNatClampNeg) dX8_append_30 kd_39 g3 rfl ?_
    refine op_aload_n (k := 0) dX8_append_31 rfl rfl ?_
    refine st_getR (z := 40) dX8_append_32 fl_X8_18 kd_37 (by decide) rfl rr_37_4 ?_
    refine op_aload_n (k := 0) dX8_append_35 rfl rfl ?_
    refine st_getI (v := I 37 5) dX8_append_36 fl_X8_29 kd_37 (by decide) rfl rfl ?_
    refine op_iload_n (k := 3) dX8_append_39 rfl rfl ?_
    obtain ⟨g4, h⟩ := am_gd h
    refine st_iast (k := (I 37 5).toNatClampNeg) dX8_append_40 kd_40 g4 rfl ?_
    refine op_aload_n (k := 0) dX8_append_41 rfl rfl ?_
    refine op_dup dX8_append_42 rfl ?_
    refine st_getI (v := I 37 5) dX8_append_43 fl_X8_29 kd_37 (by decide) rfl rfl ?_
    refine op_iconst (v := 1) dX8_append_46 (by decide) ?_
    refine op_iadd dX8_append_47 ?_
    refine st_putI dX8_append_48 fl_X8_29 kd_37 (by decide) rfl ?_
    refine op_iconst (v := 1) dX8_append_51 (by decide) ?_
    cases h
    exact (op_iret dX8_append_52 rfl (by decide) ⟨rfl, rfl⟩)
  · replace h := am_ie c1 h
    refine op_iconst (v := 0) dX8_append_9 (by decide) ?_
    cases h
    exact (op_iret dX8_append_10 rfl (by decide) ⟨rfl, rfl⟩)
theorem t_X8_append {l : Launch} {ρ : am_R} {n d gc gs : Nat} {I : Nat → Nat → Int32} {J : Nat → Nat → Int64} {T : Nat} {x1 : Int32} {x2 : Int32} {x3 : Int32} {q : Int32 × (Nat → Nat → Int32)} (hd : 0 * n + 0 ≤ d) (h : f_X8_append n I J T x1 x2 x3 = some q) : AW l ρ d M_X8_append 0 [(0, .ref 37), (1, .int x1), (2, .int x2), (3, .int x3)] [] (am_KD, gc, gs) (I, J, am_RT T) (am_KD, gc, gs) (fun v H' => v = [.int q.1] ∧ H' = (q.2, J, am_RT T)) := t_X8_append_0 hd h
def f_X11_see (n : Nat) (I : Nat → Nat → Int32) (J : Nat → Nat → Int64) (T : Nat) (x1 : Int32) (x2 : Int32) (x3 : Int32) : Option (Int32 × (Nat → Nat → Int32)) :=
  (f_X11_isRider n I J T x1).bind fun w1 =>
  if w1 = 0 then
   some ((-1), I)
  else
   (f_X11_isWithin n I J T x2 0 99999).bind fun w3 =>
   if w3 = 0 then
    some ((-1), I)
   else
    (f_X11_isWithin n I J T x3 1 999).bind fun w5 =>
    if w5 = 0 then
     some ((-1), I)
    else
     (f_X8_append n I J T x1 x2 x3).bind fun w7 =>
     if w7.1 = 0 then
      some ((-1), w7.2)
     else
      some (w7.2 37 5, w7.2)
set_option maxRecDepth 100000 in
set_option maxHeartbeats 4000000 in
theorem t_X11_see_0 {l : Launch} {ρ : am_R} {n d gc gs : Nat} {I : Nat → Nat → Int32} {J : Nat → Nat → Int64} {T : Nat} {x1 : Int32} {x2 : Int32} {x3 : Int32} {q : Int32 × (Nat → Nat → Int32)} (hd : 0 * n + 1 ≤ (d + 1))
    (h : f_X11_see n  I J T x1 x2 x3 = some q) : AW l ρ (d + 1) M_X11_see 0 [(0, .ref 0), (1, .int x1), (2, .int x2), (3, .int x3)] [] (am_KD, gc, gs) (I, J, am_RT T) (am_KD, gc, gs) (fun v H' => v = [.int q.1] ∧ H' = (q.2, J, am_RT T)) := by
  unfold f_X11_see at h
  refine op_aload_n (k := 0) dX11_see_0 rfl rfl ?_
  refine op_iload_n (k := 1) dX11_see_1 rfl rfl ?_
  obtain ⟨w1, ew1, h⟩ := am_bd h
  refine op_callV (M' := M_X11_isRider) [.int x1] (S0 := []) dX11_see_2 tw_742 ok_X11_isRider tw_744 tw_25 kd_0 cls_11 rfl rfl rfl (Nat.le_of_ble_eq_true rfl) (Nat.le_of_ble_eq_true rfl) (t_X11_isRider (by omega) ew1) (am_le_rf _) ?_
  rintro _ _ ⟨rfl, rfl⟩
  refine op_if_eq (tgt := 30) dX11_see_5 (by decide) (fun c2 => ?_) (fun c2 => ?_)
  · replace h := am_ip c2 h
    refine op_iconst (v := (-1)) dX11_see_30 (by decide) ?_
    cases h
    exact (op_iret dX11_see_31 rfl rfl ⟨rfl, rfl⟩)
  · replace h := am_ie c2 h
    refine op_iload_n (k := 2) dX11_see_8 rfl rfl ?_
    refine op_iconst (v := 0) dX11_see_9 (by decide) ?_
    refine op_ldcw dX11_see_10 tw_1038 ?_
    obtain ⟨w3, ew3, h⟩ := am_bd h
    refine op_callS (M' := M_X11_isWithin) [.int x2, .int 0, .int 99999] (S0 := []) dX11_see_13 tw_713 ok_X11_isWithin tw_595 rfl rfl (Nat.le_of_ble_eq_true rfl) (Nat.le_of_ble_eq_true rfl) (t_X11_isWithin (by omega) ew3) (am_le_rf _) ?_
    rintro _ _ ⟨rfl, rfl⟩
    refine op_if_eq (tgt := 30) dX11_see_16 (by decide) (fun c4 => ?_) (fun c4 => ?_)
    · replace h := am_ip c4 h
      refine op_iconst (v := (-1)) dX11_see_30 (by decide) ?_
      cases h
      exact (op_iret dX11_see_31 rfl rfl ⟨rfl, rfl⟩)
    · replace h := am_ie c4 h
      refine op_iload_n (k := 3) dX11_see_19 rfl rfl ?_
      refine op_iconst (v := 1) dX11_see_20 (by decide) ?_
      refine op_sipush (v := 999) dX11_see_21 (by decide) ?_
      obtain ⟨w5, ew5, h⟩ := am_bd h
      refine op_callS (M' := M_X11_isWithin) [.int x3, .int 1, .int 999] (S0 := []) dX11_see_24 tw_713 ok_X11_isWithin tw_595 rfl rfl (Nat.le_of_ble_eq_true rfl) (Nat.le_of_ble_eq_true rfl) (t_X11_isWithin (by omega) ew5) (am_le_rf _) ?_
      rintro _ _ ⟨rfl, rfl⟩
      refine op_if_ne (tgt := 32) dX11_see_27 (by decide) (fun c6 => ?_) (fun c6 => ?_)
      · replace h := am_ie c6 h
        refine op_aload_n (k := 0) dX11_see_32 rfl rfl ?_
        refine st_getR (z := 37) dX11_see_33 fl_X11_88 kd_0 (by decide) rfl rr_0_10 ?_
        refine op_iload_n (k := 1) dX11_see_36 rfl rfl ?_
        refine op_iload_n (k := 2) dX11_see_37 rfl rfl ?_
        refine op_iload_n (k := 3) dX11_see_38 rfl rfl ?_
        obtain ⟨w7, ew7, h⟩ := am_bd h
        refine op_callV (M' := M_X8_append) [.int x1, .int x2, .int x3] (S0 := []) dX11_see_39 tw_1039 ok_X8_append tw_1040 tw_1041 kd_37 cls_8 rfl rfl rfl (Nat.le_of_ble_eq_true rfl) (Nat.le_of_ble_eq_true rfl) (t_X8_append (by omega) ew7) (am_le_rf _) ?_
        rintro _ _ ⟨rfl, rfl⟩
        refine op_if_eq (tgt := 55) dX11_see_42 (by decide) (fun c8 => ?_) (fun c8 => ?_)
        · replace h := am_ip c8 h
          refine op_iconst (v := (-1)) dX11_see_55 (by decide) ?_
          cases h
          exact (op_iret dX11_see_56 rfl rfl ⟨rfl, rfl⟩)
        · replace h := am_ie c8 h
          refine op_aload_n (k := 0) dX11_see_45 rfl rfl ?_
          refine st_getR (z := 37) dX11_see_46 fl_X11_88 kd_0 (by decide) rfl rr_0_10 ?_
          refine st_getI (v := w7.2 37 5) dX11_see_49 fl_X11_142 kd_37 (by decide) rfl rfl ?_
          refine op_goto (tgt := 56) dX11_see_52 (by decide) ?_
          cases h
          exact (op_iret dX11_see_56 rfl rfl ⟨rfl, rfl⟩)
      · replace h := am_ip c6 h
        refine op_iconst (v := (-1)) dX11_see_30 (by decide) ?_
        cases h
        exact (op_iret dX11_see_31 rfl rfl ⟨rfl, rfl⟩)
theorem t_X11_see {l : Launch} {ρ : am_R} {n d gc gs : Nat} {I : Nat → Nat → Int32} {J : Nat → Nat → Int64} {T : Nat} {x1 : Int32} {x2 : Int32} {x3 : Int32} {q : Int32 × (Nat → Nat → Int32)} (hd : 0 * n + 1 ≤ d) (h : f_X11_see n I J T x1 x2 x3 = some q) : AW l ρ d M_X11_see 0 [(0, .ref 0), (1, .int x1), (2, .int x2), (3, .int x3)] [] (am_KD, gc, gs) (I, J, am_RT T) (am_KD, gc, gs) (fun v H' => v = [.int q.1] ∧ H' = (q.2, J, am_RT T)) := by
  obtain ⟨d, rfl⟩ : ∃ e, d = e + 1 := ⟨d - 1, by omega⟩
  exact t_X11_see_0 hd h
def f_X11_share_85 (n : Nat) (I : Nat → Nat → Int32) (J : Nat → Nat → Int64) (T : Nat) (z0 : Int64) (z1 : Int64) (s2 : Int32) : Option (Int64 × (Nat → Nat → Int32)) :=
  (f_X11_plain n I J T z0 z1 s2).bind fun w1 =>
  some (w1, I)
def f_X11_share (n : Nat) (I : Nat → Nat → Int32) (J : Nat → Nat → Int64) (T : Nat) (x1 : Int32) (x2 : Int32) (x3 : Int32) (x4 : Int32) : Option (Int64 × (Nat → Nat → Int32)) :=
  (f_X11_isRider n I J T x1).bind fun w1 =>
  if w1 = 0 then
   some ((-1), I)
  else
   (f_X11_isSet n I J T x2).bind fun w3 =>
   if w3 = 0 then
    some ((-1), I)
   else
    (f_X11_isIn n I J T x1 x2).bind fun w5 =>
    if w5 = 0 then
     some ((-1), I)
    else
     (f_X11_isLaw n I J T x3).bind fun w7 =>
     if w7 = 0 then
      some ((-1), I)
     else
      (f_X11_isWithin n I J T x4 0 1).bind fun w9 =>
      if w9 = 0 then
       some ((-1), I)
      else
       (f_J6_bitCount_0f7a4 n I J T x2).bind fun w11 =>
       (f_X7_weigh n I J T x3 w11).bind fun w12 =>
       (f_X7_above n w12 J T x1 x2).bind fun w13 =>
       (f_X7_below n w13.2 J T x2).bind fun w14 =>
       if x4 = 0 then
        f_X11_share_85 n  w13.2 J T w13.1 w14 1
       else
        f_X11_share_85 n  w13.2 J T w13.1 w14 0
set_option maxRecDepth 100000 in
set_option maxHeartbeats 4000000 in
theorem t_X11_share_85 {l : Launch} {ρ : am_R} {n d gc gs : Nat} {I : Nat → Nat → Int32} {J : Nat → Nat → Int64} {T : Nat} {z0 : Int64} {z1 : Int64} {s2 : Int32} {q : Int64 × (Nat → Nat → Int32)} (hd : 0 * n + 6 ≤ (d + 1))
    (h : f_X11_share_85 n  I J T z0 z1 s2 = some q) : AW l ρ (d + 1) M_X11_share 85 [] [.int s2, .long z1, .long z0] (am_KD, gc, gs) (I, J, am_RT T) (am_KD, gc, gs) (fun v H' => v = [.long q.1] ∧ H' = (q.2, J, am_RT T)) := by
  unfold f_X11_share_85 at h
  obtain ⟨w1, ew1, h⟩ := am_bd h
  refine op_callS (M' := M_X11_plain) [.long z0, .long z1, .int s2] (S0 := []) dX11_share_85 tw_895 ok_X11_plain tw_896 rfl rfl (Nat.le_of_ble_eq_true rfl) (Nat.le_of_ble_eq_true rfl) (t_X11_plain (by omega) ew1) (am_le_rf _) ?_
  rintro _ _ ⟨rfl, rfl⟩
  cases h
  exact (op_lret dX11_share_88 rfl ⟨rfl, rfl⟩)
set_option maxRecDepth 100000 in
set_option maxHeartbeats 4000000 in
theorem t_X11_share_0 {l : Launch} {ρ : am_R} {n d gc gs : Nat} {I : Nat → Nat → Int32} {J : Nat → Nat → Int64} {T : Nat} {x1 : Int32} {x2 : Int32} {x3 : Int32} {x4 : Int32} {q : Int64 × (Nat → Nat → Int32)} (hd : 0 * n + 6 ≤ (d + 1))
    (h : f_X11_share n  I J T x1 x2 x3 x4 = some q) : AW l ρ (d + 1) M_X11_share 0 [(0, .ref 0), (1, .int x1), (2, .int x2), (3, .int x3), (4, .int x4)] [] (am_KD, gc, gs) (I, J, am_RT T) (am_KD, gc, gs) (fun v H' => v = [.long q.1] ∧ H' = (q.2, J, am_RT T)) := by
  unfold f_X11_share at h
  refine op_aload_n (k := 0) dX11_share_0 rfl rfl ?_
  refine op_iload_n (k := 1) dX11_share_1 rfl rfl ?_
  obtain ⟨w1, ew1, h⟩ := am_bd h
  refine op_callV (M' := M_X11_isRider) [.int x1] (S0 := []) dX11_share_2 tw_742 ok_X11_isRider tw_744 tw_25 kd_0 cls_11 rfl rfl rfl (Nat.le_of_ble_eq_true rfl) (Nat.le_of_ble_eq_true rfl) (t_X11_isRider (by omega) ew1) (am_le_rf _) ?_
  rintro _ _ ⟨rfl, rfl⟩
  refine op_if_eq (tgt := 42) dX11_share_5 (by decide) (fun c2 => ?_) (fun c2 => ?_)
  · replace h := am_ip c2 h
    refine op_ldc2 dX11_share_42 tw_795 ?_
    cases h
    exact (op_lret dX11_share_45 rfl ⟨rfl, rfl⟩)
  · replace h := am_ie c2 h
    refine op_aload_n (k := 0) dX11_share_8 rfl rfl ?_
    refine op_iload_n (k := 2) dX11_share_9 rfl rfl ?_
    obtain ⟨w3, ew3, h⟩ := am_bd h
    refine op_callV (M' := M_X11_isSet) [.int x2] (S0 := []) dX11_share_10 tw_758 ok_X11_isSet tw_760 tw_26 kd_0 cls_11 rfl rfl rfl (Nat.le_of_ble_eq_true rfl) (Nat.le_of_ble_eq_true rfl) (t_X11_isSet (by omega) ew3) (am_le_rf _) ?_
    rintro _ _ ⟨rfl, rfl⟩
    refine op_if_eq (tgt := 42) dX11_share_13 (by decide) (fun c4 => ?_) (fun c4 => ?_)
    · replace h := am_ip c4 h
      refine op_ldc2 dX11_share_42 tw_795 ?_
      cases h
      exact (op_lret dX11_share_45 rfl ⟨rfl, rfl⟩)
    · replace h := am_ie c4 h
      refine op_iload_n (k := 1) dX11_share_16 rfl rfl ?_
      refine op_iload_n (k := 2) dX11_share_17 rfl rfl ?_
      obtain ⟨w5, ew5, h⟩ := am_bd h
      refine op_callS (M' := M_X11_isIn) [.int x1, .int x2] (S0 := []) dX11_share_18 tw_790 ok_X11_isIn tw_771 rfl rfl (Nat.le_of_ble_eq_true rfl) (Nat.le_of_ble_eq_true rfl) (t_X11_isIn (by omega) ew5) (am_le_rf _) ?_
      rintro _ _ ⟨rfl, rfl⟩
      refine op_if_eq (tgt := 42) dX11_share_21 (by decide) (fun c6 => ?_) (fun c6 => ?_)
      · replace h := am_ip c6 h
        refine op_ldc2 dX11_share_42 tw_795 ?_
        cases h
        exact (op_lret dX11_share_45 rfl ⟨rfl, rfl⟩)
      · replace h := am_ie c6 h
        refine op_aload_n (k := 0) dX11_share_24 rfl rfl ?_
        refine op_iload_n (k := 3) dX11_share_25 rfl rfl ?_
        obtain ⟨w7, ew7, h⟩ := am_bd h
        refine op_callV (M' := M_X11_isLaw) [.int x3] (S0 := []) dX11_share_26 tw_791 ok_X11_isLaw tw_793 tw_28 kd_0 cls_11 rfl rfl rfl (Nat.le_of_ble_eq_true rfl) (Nat.le_of_ble_eq_true rfl) (t_X11_isLaw (by omega) ew7) (am_le_rf _) ?_
        rintro _ _ ⟨rfl, rfl⟩
        refine op_if_eq (tgt := 42) dX11_share_29 (by decide) (fun c8 => ?_) (fun c8 => ?_)
        · replace h := am_ip c8 h
          refine op_ldc2 dX11_share_42 tw_795 ?_
          cases h
          exact (op_lret dX11_share_45 rfl ⟨rfl, rfl⟩)
        · replace h := am_ie c8 h
          refine op_iload (k := 4) dX11_share_32 rfl ?_
          refine op_iconst (v := 0) dX11_share_34 (by decide) ?_
          refine op_iconst (v := 1) dX11_share_35 (by decide) ?_
          obtain ⟨w9, ew9, h⟩ := am_bd h
          refine op_callS (M' := M_X11_isWithin) [.int x4, .int 0, .int 1] (S0 := []) dX11_share_36 tw_713 ok_X11_isWithin tw_595 rfl rfl (Nat.le_of_ble_eq_true rfl) (Nat.le_of_ble_eq_true rfl) (t_X11_isWithin (by omega) ew9) (am_le_rf _) ?_
          rintro _ _ ⟨rfl, rfl⟩
          refine op_if_ne (tgt := 46) dX11_share_39 (by decide) (fun c10 => ?_) (fun c10 => ?_)
          · replace h := am_ie c10 h
            refine op_aload_n (k := 0) dX11_share_46 rfl rfl ?_
            refine st_getR (z := 27) dX11_share_47 fl_X11_56 kd_0 (by decide) rfl rr_0_6 ?_
            refine op_iload_n (k := 3) dX11_share_50 rfl rfl ?_
            refine op_iload_n (k := 2) dX11_share_51 rfl rfl ?_
            obtain ⟨w11, ew11, h⟩ := am_bd h
            refine op_callS (M' := M_J6_bitCount_0f7a4) [.int x2] (S0 := [.int x3, .ref 27]) dX11_share_52 tw_796 ok_J6_bitCount_0f7a4 tw_797 rfl rfl (Nat.le_of_ble_eq_true rfl) (Nat.le_of_ble_eq_true rfl) (t_J6_bitCount_0f7a4 (by omega) ew11) (am_le_rf _) ?_
            rintro _ _ ⟨rfl, rfl⟩
            obtain ⟨w12, ew12, h⟩ := am_bd h
            refine op_callV (M' := M_X7_weigh) [.int x3, .int w11] (S0 := []) dX11_share_55 tw_802 ok_X7_weigh tw_803 tw_804 kd_27 cls_7 rfl rfl rfl (Nat.le_of_ble_eq_true rfl) (Nat.le_of_ble_eq_true rfl) (t_X7_weigh (by omega) ew12) (am_le_rf _) ?_
            rintro _ _ ⟨rfl, rfl⟩
            refine op_aload_n (k := 0) dX11_share_58 rfl rfl ?_
            refine st_getR (z := 27) dX11_share_59 fl_X11_56 kd_0 (by decide) rfl rr_0_6 ?_
            refine op_iload_n (k := 1) dX11_share_62 rfl rfl ?_
            refine op_iload_n (k := 2) dX11_share_63 rfl rfl ?_
            obtain ⟨w13, ew13, h⟩ := am_bd h
            refine op_callV (M' := M_X7_above) [.int x1, .int x2] (S0 := []) dX11_share_64 tw_860 ok_X7_above tw_861 tw_862 kd_27 cls_7 rfl rfl rfl (Nat.le_of_ble_eq_true rfl) (Nat.le_of_ble_eq_true rfl) (t_X7_above (by omega) ew13) (am_le_rf _) ?_
            rintro _ _ ⟨rfl, rfl⟩
            refine op_aload_n (k := 0) dX11_share_67 rfl rfl ?_
            refine st_getR (z := 27) dX11_share_68 fl_X11_56 kd_0 (by decide) rfl rr_0_6 ?_
            refine op_iload_n (k := 2) dX11_share_71 rfl rfl ?_
            obtain ⟨w14, ew14, h⟩ := am_bd h
            refine op_callV (M' := M_X7_below) [.int x2] (S0 := [.long w13.1]) dX11_share_72 tw_889 ok_X7_below tw_890 tw_891 kd_27 cls_7 rfl rfl rfl (Nat.le_of_ble_eq_true rfl) (Nat.le_of_ble_eq_true rfl) (t_X7_below (by omega) ew14) (am_le_rf _) ?_
            rintro _ _ ⟨rfl, rfl⟩
            refine op_iload (k := 4) dX11_share_75 rfl ?_
            refine op_if_ne (tgt := 84) dX11_share_77 (by decide) (fun c15 => ?_) (fun c15 => ?_)
            · replace h := am_ie c15 h
              refine op_iconst (v := 0) dX11_share_84 (by decide) ?_
              refine AW.perm [] rfl ?_
              exact t_X11_share_85 hd  h
            · replace h := am_ip c15 h
              refine op_iconst (v := 1) dX11_share_80 (by decide) ?_
              refine op_goto (tgt := 85) dX11_share_81 (by decide) ?_
              refine AW.perm [] rfl ?_
              exact t_X11_share_85 hd  h
          · replace h := am_ip c10 h
            refine op_ldc2 dX11_share_42 tw_795 ?_
            cases h
            exact (op_lret dX11_share_45 rfl ⟨rfl, rfl⟩)
theorem t_X11_share {l : Launch} {ρ : am_R} {n d gc gs : Nat} {I : Nat → Nat → Int32} {J : Nat → Nat → Int64} {T : Nat} {x1 : Int32} {x2 : Int32} {x3 : Int32} {x4 : Int32} {q : Int64 × (Nat → Nat → Int32)} (hd : 0 * n + 6 ≤ d) (h : f_X11_share n I J T x1 x2 x3 x4 = some q) : AW l ρ d M_X11_share 0 [(0, .ref 0), (1, .int x1), (2, .int x2), (3, .int x3), (4, .int x4)] [] (am_KD, gc, gs) (I, J, am_RT T) (am_KD, gc, gs) (fun v H' => v = [.long q.1] ∧ H' = (q.2, J, am_RT T)) := by
  obtain ⟨d, rfl⟩ : ∃ e, d = e + 1 := ⟨d - 1, by omega⟩
  exact t_X11_share_0 hd h
def f_X6_reckonShares_71 (n : Nat) (k2 : (Nat → Nat → Int32) → (Nat → Nat → Int64) → Nat → Int32 → Option ((Nat → Nat → Int32) × (Nat → Nat → Int64))) (k29 : (Nat → Nat → Int32) → (Nat → Nat → Int64) → Nat → Int32 → Int32 → Option ((Nat → Nat → Int32) × (Nat → Nat → Int64))) (I : Nat → Nat → Int32) (J : Nat → Nat → Int64) (T : Nat) (x1 : Int32) (x2 : Int32) (s1 : Int32) (z2 : Int64) : Option ((Nat → Nat → Int32) × (Nat → Nat → Int64)) :=
  if ok_ix s1 384 then
   k29 I ((am_u J 34 s1.toNatClampNeg z2)) T x1 (x2 + 1)
  else none
def f_X6_reckonShares_29 (n : Nat) (k2 : (Nat → Nat → Int32) → (Nat → Nat → Int64) → Nat → Int32 → Option ((Nat → Nat → Int32) × (Nat → Nat → Int64))) : Nat → (Nat → Nat → Int32) → (Nat → Nat → Int64) → Nat → Int32 → Int32 → Option ((Nat → Nat → Int32) × (Nat → Nat → Int64))
  | 0, _, _, _, _, _ => none
  | m + 1, I, J, T, x1, x2 =>
    if (I 3 1) ≤ x2 then
     k2 I J T (x1 + 1)
    else
     (f_X11_isIn n I J T x2 x1).bind fun w2 =>
     if w2 = 0 then
      f_X6_reckonShares_71 n k2 (f_X6_reckonShares_29 n k2 m) I J T x1 x2 ((x1 * 6) + x2) 0
     else
      (f_X7_above n I J T x2 x1).bind fun w4 =>
      f_X6_reckonShares_71 n k2 (f_X6_reckonShares_29 n k2 m) w4.2 J T x1 x2 ((x1 * 6) + x2) w4.1
def f_X6_reckonShares_2 (n : Nat) : Nat → (Nat → Nat → Int32) → (Nat → Nat → Int64) → Nat → Int32 → Option ((Nat → Nat → Int32) × (Nat → Nat → Int64))
  | 0, _, _, _, _ => none
  | m + 1, I, J, T, x1 =>
    (f_X2_everyone n I J T).bind fun w1 =>
    if w1 < x1 then
     some (I, J)
    else
     (f_X7_below n I J T x1).bind fun w3 =>
     if ok_ix x1 64 then
      f_X6_reckonShares_29 n (f_X6_reckonShares_2 n m) n I ((am_u J 35 x1.toNatClampNeg w3)) T x1 0
     else none
def f_X6_reckonShares (n : Nat) (I : Nat → Nat → Int32) (J : Nat → Nat → Int64) (T : Nat) : Option ((Nat → Nat → Int32) × (Nat → Nat → Int64)) :=
  f_X6_reckonShares_2 n  n I J T 1
set_option maxRecDepth 100000 in
set_option maxHeartbeats 4000000 in
theorem t_X6_reckonShares_71 {l : Launch} {ρ : am_R} {n d gc gs : Nat} {k2 : (Nat → Nat → Int32) → (Nat → Nat → Int64) → Nat → Int32 → Option ((Nat → Nat → Int32) × (Nat → Nat → Int64))} {k29 : (Nat → Nat → Int32) → (Nat → Nat → Int64) → Nat → Int32 → Int32 → Option ((Nat → Nat → Int32) × (Nat → Nat → Int64))} {I : Nat → Nat → Int32} {J : Nat → Nat → Int64} {T : Nat} {x1 : Int32} {x2 : Int32} {s1 : Int32} {z2 : Int64} {q : (Nat → Nat → Int32) × (Nat → Nat → Int64)} (hd : 0 * n + 6 ≤ (d + 1))
    (hk2 : ∀ (I : Nat → Nat → Int32) (J : Nat → Nat → Int64) (T : Nat) (x1 : Int32), k2 I J T x1 = some q → AW l ρ (d + 1) M_X6_reckonShares 2 [(0, .ref 31), (1, .int x1)] [] (am_KD, gc, gs) (I, J, am_RT T) (am_KD, gc, gs) (fun v H' => v = [] ∧ H' = (q.1, q.2, am_RT T)))
    (hk29 : ∀ (I : Nat → Nat → Int32) (J : Nat → Nat → Int64) (T : Nat) (x1 : Int32) (x2 : Int32), k29 I J T x1 x2 = some q → AW l ρ (d + 1) M_X6_reckonShares 29 [(0, .ref 31), (1, .int x1), (2, .int x2)] [] (am_KD, gc, gs) (I, J, am_RT T) (am_KD, gc, gs) (fun v H' => v = [] ∧ H' = (q.1, q.2, am_RT T)))
    (h : f_X6_reckonShares_71 n k2 k29 I J T x1 x2 s1 z2 = some q) : AW l ρ (d + 1) M_X6_reckonShares 71 [(0, .ref 31), (1, .int x1), (2, .int x2)] [.long z2, .int s1, .ref 34] (am_KD, gc, gs) (I, J, am_RT T) (am_KD, gc, gs) (fun v H' => v = [] ∧ H' = (q.1, q.2, am_RT T)) := by
  unfold f_X6_reckonShares_71 at h
  obtain ⟨g1, h⟩ := am_gd h
  refine st_last (k := s1.toNatClampNeg) dX6_reckonShares_71 kd_34 g1 rfl ?_
  refine op_iinc (k := 2) (v := x2 + 1) (L' := [(2, .int (x2 + 1)), (0, .ref 31), (1, .int x1)]) dX6_reckonShares_72 rfl rfl (by decide) rfl ?_
  refine op_goto (tgt := 29) dX6_reckonShares_75 (by decide) ?_
  refine AW.perm [1, 2, 0] rfl ?_
  exact hk29 _ _ _ _ _ h
set_option maxRecDepth 100000 in
set_option maxHeartbeats 4000000 in
theorem t_X6_reckonShares_29 {l : Launch} {ρ : am_R} {n d gc gs : Nat} {k2 : (Nat → Nat → Int32) → (Nat → Nat → Int64) → Nat → Int32 → Option ((Nat → Nat → Int32) × (Nat → Nat → Int64))} {q : (Nat → Nat → Int32) × (Nat → Nat → Int64)} (hd : 0 * n + 6 ≤ (d + 1))
    (hk2 : ∀ (I : Nat → Nat → Int32) (J : Nat → Nat → Int64) (T : Nat) (x1 : Int32), k2 I J T x1 = some q → AW l ρ (d + 1) M_X6_reckonShares 2 [(0, .ref 31), (1, .int x1)] [] (am_KD, gc, gs) (I, J, am_RT T) (am_KD, gc, gs) (fun v H' => v = [] ∧ H' = (q.1, q.2, am_RT T)))
    : ∀ (m : Nat) (I : Nat → Nat → Int32) (J : Nat → Nat → Int64) (T : Nat) (x1 : Int32) (x2 : Int32), f_X6_reckonShares_29 n k2 m I J T x1 x2 = some q → AW l ρ (d + 1) M_X6_reckonShares 29 [(0, .ref 31), (1, .int x1), (2, .int x2)] [] (am_KD, gc, gs) (I, J, am_RT T) (am_KD, gc, gs) (fun v H' => v = [] ∧ H' = (q.1, q.2, am_RT T)) := by
  intro m
  induction m with
  | zero =>
    intro I J T x1 x2 h
    rw [f_X6_reckonShares_29] at h
    cases h
  | succ m ih =>
    intro I J T x1 x2 h
    rw [f_X6_reckonShares_29] at h
    refine op_iload_n (k := 2) dX6_reckonShares_29 rfl rfl ?_
    refine op_aload_n (k := 0) dX6_reckonShares_30 rfl rfl ?_
    refine st_getR (z := 3) dX6_reckonShares_31 fl_X6_25 kd_31 (by decide) rfl rr_31_0 ?_
    refine st_getI (v := I 3 1) dX6_reckonShares_34 fl_X6_60 kd_3 (by decide) rfl rfl ?_
    refine op_icmp_ge (tgt := 78) dX6_reckonShares_37 (by decide) (fun c1 => ?_) (fun c1 => ?_)
    · replace h := am_ip c1 h
      refine op_iinc (k := 1) (v := x1 + 1) (L' := [(1, .int (x1 + 1)), (0, .ref 31), (2, .int x2)]) dX6_reckonShares_78 rfl rfl (by decide) rfl ?_
      refine op_goto (tgt := 2) dX6_reckonShares_81 (by decide) ?_
      refine AW.perm [1, 0] rfl ?_
      exact hk2 _ _ _ _ h
    · replace h := am_ie c1 h
      refine op_aload_n (k := 0) dX6_reckonShares_40 rfl rfl ?_
      refine st_getR (z := 34) dX6_reckonShares_41 fl_X6_18 kd_31 (by decide) rfl rr_31_4 ?_
      refine op_iload_n (k := 1) dX6_reckonShares_44 rfl rfl ?_
      refine op_bipush (v := 6) dX6_reckonShares_45 (by decide) ?_
      refine op_imul dX6_reckonShares_47 ?_
      refine op_iload_n (k := 2) dX6_reckonShares_48 rfl rfl ?_
      refine op_iadd dX6_reckonShares_49 ?_
      refine op_iload_n (k := 2) dX6_reckonShares_50 rfl rfl ?_
      refine op_iload_n (k := 1) dX6_reckonShares_51 rfl rfl ?_
      obtain ⟨w2, ew2, h⟩ := am_bd h
      refine op_callSN (M' := M_X11_isIn) [.int x2, .int x1] (S0 := [.int ((x1 * 6) + x2), .ref 34]) dX6_reckonShares_52 tn_964 ok_X11_isIn tw_771 rfl rfl (Nat.le_of_ble_eq_true rfl) (Nat.le_of_ble_eq_true rfl) (t_X11_isIn (by omega) ew2) (am_le_rf _) ?_
      rintro _ _ ⟨rfl, rfl⟩
      refine op_if_eq (tgt := 70) dX6_reckonShares_55 (by decide) (fun c3 => ?_) (fun c3 => ?_)
      · replace h := am_ip c3 h
        refine op_lconst (v := 0) dX6_reckonShares_70 (by decide) ?_
        exact t_X6_reckonShares_71 hd hk2 ih h
      · replace h := am_ie c3 h
        refine op_aload_n (k := 0) dX6_reckonShares_58 rfl rfl ?_
        refine st_getR (z := 27) dX6_reckonShares_59 fl_X6_29 kd_31 (by decide) rfl rr_31_1 ?_
        refine op_iload_n (k := 2) dX6_reckonShares_62 rfl rfl ?_
        refine op_iload_n (k := 1) dX6_reckonShares_63 rfl rfl ?_
        obtain ⟨w4, ew4, h⟩ := am_bd h
        refine op_callV (M' := M_X7_above) [.int x2, .int x1] (S0 := [.int ((x1 * 6) + x2), .ref 34]) dX6_reckonShares_64 tw_988 ok_X7_above tw_861 tw_862 kd_27 cls_7 rfl rfl rfl (Nat.le_of_ble_eq_true rfl) (Nat.le_of_ble_eq_true rfl) (t_X7_above (by omega) ew4) (am_le_rf _) ?_
        rintro _ _ ⟨rfl, rfl⟩
        refine op_goto (tgt := 71) dX6_reckonShares_67 (by decide) ?_
        exact t_X6_reckonShares_71 hd hk2 ih h
set_option maxRecDepth 100000 in
set_option maxHeartbeats 4000000 in
theorem t_X6_reckonShares_2 {l : Launch} {ρ : am_R} {n d gc gs : Nat} {q : (Nat → Nat → Int32) × (Nat → Nat → Int64)} (hd : 0 * n + 6 ≤ (d + 1))
    : ∀ (m : Nat) (I : Nat → Nat → Int32) (J : Nat → Nat → Int64) (T : Nat) (x1 : Int32), f_X6_reckonShares_2 n  m I J T x1 = some q → AW l ρ (d + 1) M_X6_reckonShares 2 [(0, .ref 31), (1, .int x1)] [] (am_KD, gc, gs) (I, J, am_RT T) (am_KD, gc, gs) (fun v H' => v = [] ∧ H' = (q.1, q.2, am_RT T)) := by
  intro m
  induction m with
  | zero =>
    intro I J T x1 h
    rw [f_X6_reckonShares_2] at h
    cases h
  | succ m ih =>
    intro I J T x1 h
    rw [f_X6_reckonShares_2] at h
    refine op_iload_n (k := 1) dX6_reckonShares_2 rfl rfl ?_
    refine op_aload_n (k := 0) dX6_reckonShares_3 rfl rfl ?_
    refine st_getR (z := 3) dX6_reckonShares_4 fl_X6_25 kd_31 (by decide) rfl rr_31_0 ?_
    obtain ⟨w1, ew1, h⟩ := am_bd h
    refine op_callV (M' := M_X2_everyone) [] (S0 := [.int x1]) dX6_reckonShares_7 tw_986 ok_X2_everyone tw_763 tw_764 kd_3 cls_2 rfl rfl rfl (Nat.le_of_ble_eq_true rfl) (Nat.le_of_ble_eq_true rfl) (t_X2_everyone (by omega) ew1) (am_le_rf _) ?_
    rintro _ _ ⟨rfl, rfl⟩
    refine op_icmp_gt (tgt := 84) dX6_reckonShares_10 (by decide) (fun c2 => ?_) (fun c2 => ?_)
    · replace h := am_ip c2 h
      cases h
      exact (op_vret dX6_reckonShares_84 rfl ⟨rfl, rfl⟩)
    · replace h := am_ie c2 h
      refine op_aload_n (k := 0) dX6_reckonShares_13 rfl rfl ?_
      refine st_getR (z := 35) dX6_reckonShares_14 fl_X6_22 kd_31 (by decide) rfl rr_31_5 ?_
      refine op_iload_n (k := 1) dX6_reckonShares_17 rfl rfl ?_
      refine op_aload_n (k := 0) dX6_reckonShares_18 rfl rfl ?_
      refine st_getR (z := 27) dX6_reckonShares_19 fl_X6_29 kd_31 (by decide) rfl rr_31_1 ?_
      refine op_iload_n (k := 1) dX6_reckonShares_22 rfl rfl ?_
      obtain ⟨w3, ew3, h⟩ := am_bd h
      refine op_callV (M' := M_X7_below) [.int x1] (S0 := [.int x1, .ref 35]) dX6_reckonShares_23 tw_987 ok_X7_below tw_890 tw_891 kd_27 cls_7 rfl rfl rfl (Nat.le_of_ble_eq_true rfl) (Nat.le_of_ble_eq_true rfl) (t_X7_below (by omega) ew3) (am_le_rf _) ?_
      rintro _ _ ⟨rfl, rfl⟩
      obtain ⟨g4, h⟩ := am_gd h
      refine st_last (k := x1.toNatClampNeg) dX6_reckonShares_26 kd_35 g4 rfl ?_
      refine op_iconst (v := 0) dX6_reckonShares_27 (by decide) ?_
      refine op_istore_n (L' := [(2, .int 0), (0, .ref 31), (1, .int x1)]) dX6_reckonShares_28 rfl (by decide) rfl ?_
      refine AW.perm [1, 2, 0] rfl ?_
      exact t_X6_reckonShares_29 hd ih n _ _ _ _ _ h
set_option maxRecDepth 100000 in
set_option maxHeartbeats 4000000 in
theorem t_X6_reckonShares_0 {l : Launch} {ρ : am_R} {n d gc gs : Nat} {I : Nat → Nat → Int32} {J : Nat → Nat → Int64} {T : Nat} {q : (Nat → Nat → Int32) × (Nat → Nat → Int64)} (hd : 0 * n + 6 ≤ (d + 1))
    (h : f_X6_reckonShares n  I J T  = some q) : AW l ρ (d + 1) M_X6_reckonShares 0 [(0, .ref 31)] [] (am_KD, gc, gs) (I, J, am_RT T) (am_KD, gc, gs) (fun v H' => v = [] ∧ H' = (q.1, q.2, am_RT T)) := by
  unfold f_X6_reckonShares at h
  refine op_iconst (v := 1) dX6_reckonShares_0 (by decide) ?_
  refine op_istore_n (L' := [(1, .int 1), (0, .ref 31)]) dX6_reckonShares_1 rfl (by decide) rfl ?_
  refine AW.perm [1, 0] rfl ?_
  exact t_X6_reckonShares_2 hd  n _ _ _ _ h
theorem t_X6_reckonShares {l : Launch} {ρ : am_R} {n d gc gs : Nat} {I : Nat → Nat → Int32} {J : Nat → Nat → Int64} {T : Nat} {q : (Nat → Nat → Int32) × (Nat → Nat → Int64)} (hd : 0 * n + 6 ≤ d) (h : f_X6_reckonShares n I J T  = some q) : AW l ρ d M_X6_reckonShares 0 [(0, .ref 31)] [] (am_KD, gc, gs) (I, J, am_RT T) (am_KD, gc, gs) (fun v H' => v = [] ∧ H' = (q.1, q.2, am_RT T)) := by
  obtain ⟨d, rfl⟩ : ∃ e, d = e + 1 := ⟨d - 1, by omega⟩
  exact t_X6_reckonShares_0 hd h
def f_X6_searchSteady (n : Nat) (I : Nat → Nat → Int32) (J : Nat → Nat → Int64) (T : Nat) (x1 : Int32) : Option ((Nat → Nat → Int32)) :=
  (f_X6_seat n ((am_u (am_u (am_u (am_u I 31 7 x1) 31 10 0) 31 11 ((-1))) 31 6 1)) J T 0 0 0).bind fun w1 =>
  some (w1)
set_option maxRecDepth 100000 in
set_option maxHeartbeats 4000000 in
theorem t_X6_searchSteady_0 {l : Launch} {ρ : am_R} {n d gc gs : Nat} {I : Nat → Nat → Int32} {J : Nat → Nat → Int64} {T : Nat} {x1 : Int32} {q : (Nat → Nat → Int32)} (hd : 1 * n + 5 ≤ (d + 1))
    (h : f_X6_searchSteady n  I J T x1 = some q) : AW l ρ (d + 1) M_X6_searchSteady 0 [(0, .ref 31), (1, .int x1)] [] (am_KD, gc, gs) (I, J, am_RT T) (am_KD, gc, gs) (fun v H' => v = [] ∧ H' = (q, J, am_RT T)) := by
  unfold f_X6_searchSteady at h
  refine op_aload_n (k := 0) dX6_searchSteady_0 rfl rfl ?_
  refine op_iload_n (k := 1) dX6_searchSteady_1 rfl rfl ?_
  refine st_putI dX6_searchSteady_2 fl_X6_71 kd_31 (by decide) rfl ?_
  refine op_aload_n (k := 0) dX6_searchSteady_5 rfl rfl ?_
  refine op_iconst (v := 0) dX6_searchSteady_6 (by decide) ?_
  refine st_putI dX6_searchSteady_7 fl_X6_74 kd_31 (by decide) rfl ?_
  refine op_aload_n (k := 0) dX6_searchSteady_10 rfl rfl ?_
  refine op_iconst (v := (-1)) dX6_searchSteady_11 (by decide) ?_
  refine st_putI dX6_searchSteady_12 fl_X6_77 kd_31 (by decide) rfl ?_
  refine op_aload_n (k := 0) dX6_searchSteady_15 rfl rfl ?_
  refine op_iconst (v := 1) dX6_searchSteady_16 (by decide) ?_
  refine st_putZ dX6_searchSteady_17 fl_X6_40 kd_31 (by decide) rfl (by decide) ?_
  refine op_aload_n (k := 0) dX6_searchSteady_20 rfl rfl ?_
  refine op_iconst (v := 0) dX6_searchSteady_21 (by decide) ?_
  refine op_iconst (v := 0) dX6_searchSteady_22 (by decide) ?_
  refine op_iconst (v := 0) dX6_searchSteady_23 (by decide) ?_
  obtain ⟨w1, ew1, h⟩ := am_bd h
  refine op_callV (M' := M_X6_seat) [.int 0, .int 0, .int 0] (S0 := []) dX6_searchSteady_24 tw_952 ok_X6_seat tw_954 tw_40 kd_31 cls_6 rfl rfl rfl (Nat.le_of_ble_eq_true rfl) (Nat.le_of_ble_eq_true rfl) (t_X6_seat (by omega) ew1) (am_le_rf _) ?_
  rintro _ _ ⟨rfl, rfl⟩
  cases h
  exact (op_vret dX6_searchSteady_27 rfl ⟨rfl, rfl⟩)
theorem t_X6_searchSteady {l : Launch} {ρ : am_R} {n d gc gs : Nat} {I : Nat → Nat → Int32} {J : Nat → Nat → Int64} {T : Nat} {x1 : Int32} {q : (Nat → Nat → Int32)} (hd : 1 * n + 5 ≤ d) (h : f_X6_searchSteady n I J T x1 = some q) : AW l ρ d M_X6_searchSteady 0 [(0, .ref 31), (1, .int x1)] [] (am_KD, gc, gs) (I, J, am_RT T) (am_KD, gc, gs) (fun v H' => v = [] ∧ H' = (q, J, am_RT T)) := by
  obtain ⟨d, rfl⟩ : ∃ e, d = e + 1 := ⟨d - 1, by omega⟩
  exact t_X6_searchSteady_0 hd h
def f_X11_steady (n : Nat) (I : Nat → Nat → Int32) (J : Nat → Nat → Int64) (T : Nat) (x1 : Int32) (x2 : Int32) : Option (Int32 × (Nat → Nat → Int32) × (Nat → Nat → Int64)) :=
  (f_X11_isLaw n I J T x1).bind fun w1 =>
  if w1 = 0 then
   some ((-1), I, J)
  else
   if ((-1)) ≤ x2 then
    (f_X7_weigh n I J T x1 1).bind fun w4 =>
    (f_X6_reckonShares n w4 J T).bind fun w5 =>
    (f_X6_searchSteady n w5.1 w5.2 T x2).bind fun w6 =>
    if x2 = ((-1)) then
     some (w6 31 10, w6, w5.2)
    else
     some (w6 31 11, w6, w5.2)
   else
    some ((-1), I, J)
set_option maxRecDepth 100000 in
set_option maxHeartbeats 4000000 in
theorem t_X11_steady_0 {l : Launch} {ρ : am_R} {n d gc gs : Nat} {I : Nat → Nat → Int32} {J : Nat → Nat → Int64} {T : Nat} {x1 : Int32} {x2 : Int32} {q : Int32 × (Nat → Nat → Int32) × (Nat → Nat → Int64)} (hd : 1 * n + 7 ≤ (d + 1))
    (h : f_X11_steady n  I J T x1 x2 = some q) : AW l ρ (d + 1) M_X11_steady 0 [(0, .ref 0), (1, .int x1), (2, .int x2)] [] (am_KD, gc, gs) (I, J, am_RT T) (am_KD, gc, gs) (fun v H' => v = [.int q.1] ∧ H' = (q.2.1, q.2.2, am_RT T)) := by
  unfold f_X11_steady at h
  refine op_aload_n (k := 0) dX11_steady_0 rfl rfl ?_
  refine op_iload_n (k := 1) dX11_steady_1 rfl rfl ?_
  obtain ⟨w1, ew1, h⟩ := am_bd h
  refine op_callV (M' := M_X11_isLaw) [.int x1] (S0 := []) dX11_steady_2 tw_791 ok_X11_isLaw tw_793 tw_28 kd_0 cls_11 rfl rfl rfl (Nat.le_of_ble_eq_true rfl) (Nat.le_of_ble_eq_true rfl) (t_X11_isLaw (by omega) ew1) (am_le_rf _) ?_
  rintro _ _ ⟨rfl, rfl⟩
  refine op_if_eq (tgt := 13) dX11_steady_5 (by decide) (fun c2 => ?_) (fun c2 => ?_)
  · replace h := am_ip c2 h
    refine op_iconst (v := (-1)) dX11_steady_13 (by decide) ?_
    cases h
    exact (op_iret dX11_steady_14 rfl rfl ⟨rfl, rfl⟩)
  · replace h := am_ie c2 h
    refine op_iload_n (k := 2) dX11_steady_8 rfl rfl ?_
    refine op_iconst (v := (-1)) dX11_steady_9 (by decide) ?_
    refine op_icmp_ge (tgt := 15) dX11_steady_10 (by decide) (fun c3 => ?_) (fun c3 => ?_)
    · replace h := am_ip c3 h
      refine op_aload_n (k := 0) dX11_steady_15 rfl rfl ?_
      refine st_getR (z := 27) dX11_steady_16 fl_X11_56 kd_0 (by decide) rfl rr_0_6 ?_
      refine op_iload_n (k := 1) dX11_steady_19 rfl rfl ?_
      refine op_iconst (v := 1) dX11_steady_20 (by decide) ?_
      obtain ⟨w4, ew4, h⟩ := am_bd h
      refine op_callV (M' := M_X7_weigh) [.int x1, .int 1] (S0 := []) dX11_steady_21 tw_802 ok_X7_weigh tw_803 tw_804 kd_27 cls_7 rfl rfl rfl (Nat.le_of_ble_eq_true rfl) (Nat.le_of_ble_eq_true rfl) (t_X7_weigh (by omega) ew4) (am_le_rf _) ?_
      rintro _ _ ⟨rfl, rfl⟩
      refine op_aload_n (k := 0) dX11_steady_24 rfl rfl ?_
      refine st_getR (z := 31) dX11_steady_25 fl_X11_74 kd_0 (by decide) rfl rr_0_8 ?_
      obtain ⟨w5, ew5, h⟩ := am_bd h
      refine op_callV (M' := M_X6_reckonShares) [] (S0 := []) dX11_steady_28 tw_982 ok_X6_reckonShares tw_983 tw_984 kd_31 cls_6 rfl rfl rfl (Nat.le_of_ble_eq_true rfl) (Nat.le_of_ble_eq_true rfl) (t_X6_reckonShares (by omega) ew5) (am_le_rf _) ?_
      rintro _ _ ⟨rfl, rfl⟩
      refine op_aload_n (k := 0) dX11_steady_31 rfl rfl ?_
      refine st_getR (z := 31) dX11_steady_32 fl_X11_74 kd_0 (by decide) rfl rr_0_8 ?_
      refine op_iload_n (k := 2) dX11_steady_35 rfl rfl ?_
      obtain ⟨w6, ew6, h⟩ := am_bd h
      refine op_callV (M' := M_X6_searchSteady) [.int x2] (S0 := []) dX11_steady_36 tw_989 ok_X6_searchSteady tw_990 tw_991 kd_31 cls_6 rfl rfl rfl (Nat.le_of_ble_eq_true rfl) (Nat.le_of_ble_eq_true rfl) (t_X6_searchSteady (by omega) ew6) (am_le_rf _) ?_
      rintro _ _ ⟨rfl, rfl⟩
      refine op_iload_n (k := 2) dX11_steady_39 rfl rfl ?_
      refine op_iconst (v := (-1)) dX11_steady_40 (by decide) ?_
      refine op_icmp_ne (tgt := 54) dX11_steady_41 (by decide) (fun c7 => ?_) (fun c7 => ?_)
      · replace h := am_ie c7 h
        refine op_aload_n (k := 0) dX11_steady_54 rfl rfl ?_
        refine st_getR (z := 31) dX11_steady_55 fl_X11_74 kd_0 (by decide) rfl rr_0_8 ?_
        refine st_getI (v := w6 31 11) dX11_steady_58 fl_X11_273 kd_31 (by decide) rfl rfl ?_
        cases h
        exact (op_iret dX11_steady_61 rfl rfl ⟨rfl, rfl⟩)
      · replace h := am_ip c7 h
        refine op_aload_n (k := 0) dX11_steady_44 rfl rfl ?_
        refine st_getR (z := 31) dX11_steady_45 fl_X11_74 kd_0 (by decide) rfl rr_0_8 ?_
        refine st_getI (v := w6 31 10) dX11_steady_48 fl_X11_270 kd_31 (by decide) rfl rfl ?_
        refine op_goto (tgt := 61) dX11_steady_51 (by decide) ?_
        cases h
        exact (op_iret dX11_steady_61 rfl rfl ⟨rfl, rfl⟩)
    · replace h := am_ie c3 h
      refine op_iconst (v := (-1)) dX11_steady_13 (by decide) ?_
      cases h
      exact (op_iret dX11_steady_14 rfl rfl ⟨rfl, rfl⟩)
theorem t_X11_steady {l : Launch} {ρ : am_R} {n d gc gs : Nat} {I : Nat → Nat → Int32} {J : Nat → Nat → Int64} {T : Nat} {x1 : Int32} {x2 : Int32} {q : Int32 × (Nat → Nat → Int32) × (Nat → Nat → Int64)} (hd : 1 * n + 7 ≤ d) (h : f_X11_steady n I J T x1 x2 = some q) : AW l ρ d M_X11_steady 0 [(0, .ref 0), (1, .int x1), (2, .int x2)] [] (am_KD, gc, gs) (I, J, am_RT T) (am_KD, gc, gs) (fun v H' => v = [.int q.1] ∧ H' = (q.2.1, q.2.2, am_RT T)) := by
  obtain ⟨d, rfl⟩ : ∃ e, d = e + 1 := ⟨d - 1, by omega⟩
  exact t_X11_steady_0 hd h
