def f_X12_byOrders_119 (n : Nat) (k11 : (Nat → Nat → Int32) → (Nat → Nat → Int64) → Nat → Int32 → Int32 → Int32 → Option ((Nat → Nat → Int64))) (I : Nat → Nat → Int32) (J : Nat → Nat → Int64) (T : Nat) (x1 : Int32) (x2 : Int32) (x3 : Int32) : Option ((Nat → Nat → Int64)) :=
  k11 I J T x1 x2 (x3 + 1)
def f_X12_byOrders_113 (n : Nat) (k11 : (Nat → Nat → Int32) → (Nat → Nat → Int64) → Nat → Int32 → Int32 → Int32 → Option ((Nat → Nat → Int64))) (k41 : (Nat → Nat → Int32) → (Nat → Nat → Int64) → Nat → Int32 → Int32 → Int32 → Int32 → Int32 → Option ((Nat → Nat → Int64))) (I : Nat → Nat → Int32) (J : Nat → Nat → Int64) (T : Nat) (x1 : Int32) (x2 : Int32) (x3 : Int32) (x4 : Int32) (x5 : Int32) : Option ((Nat → Nat → Int64)) :=
  k41 I J T x1 x2 x3 x4 (x5 + 1)
def f_X12_byOrders_41 (n : Nat) (k11 : (Nat → Nat → Int32) → (Nat → Nat → Int64) → Nat → Int32 → Int32 → Int32 → Option ((Nat → Nat → Int64))) : Nat → (Nat → Nat → Int32) → (Nat → Nat → Int64) → Nat → Int32 → Int32 → Int32 → Int32 → Int32 → Option ((Nat → Nat → Int64))
  | 0, _, _, _, _, _, _, _, _ => none
  | m + 1, I, J, T, x1, x2, x3, x4, x5 =>
    if (I 53 27) ≤ x5 then
     f_X12_byOrders_119 n k11 I J T x1 x2 x3
    else
     (f_X12_has n I J T x1 x5).bind fun w2 =>
     if w2 = 0 then
      f_X12_byOrders_113 n k11 (f_X12_byOrders_41 n k11 m) I J T x1 x2 x3 x4 x5
     else
      (f_X12_has n I J T x3 x5).bind fun w4 =>
      if w4 = 0 then
       if ok_ix x5 6 then
        (f_X12_times n I J T x4).bind fun w7 =>
        (f_X12_times n I J T ((x2 - x4) - 1)).bind fun w8 =>
        (f_X12_costOf n I J T (x3 ||| (1 <<< (x5 &&& 31)))).bind fun w9 =>
        (f_X12_costOf n I J T x3).bind fun w10 =>
        (some ((J 66 x5.toNatClampNeg) + ((w7.toInt64 * w8.toInt64) * ((w9 - w10).toInt64)) : Int64)).bind fun u11 =>
        if ok_ix x5 6 then
         f_X12_byOrders_113 n k11 (f_X12_byOrders_41 n k11 m) I ((am_u J 66 x5.toNatClampNeg u11)) T x1 x2 x3 x4 x5
        else none
       else none
      else
       f_X12_byOrders_113 n k11 (f_X12_byOrders_41 n k11 m) I J T x1 x2 x3 x4 x5
def f_X12_byOrders_11 (n : Nat) : Nat → (Nat → Nat → Int32) → (Nat → Nat → Int64) → Nat → Int32 → Int32 → Int32 → Option ((Nat → Nat → Int64))
  | 0, _, _, _, _, _, _ => none
  | m + 1, I, J, T, x1, x2, x3 =>
    if (1 <<< ((I 53 27) &&& 31)) ≤ x3 then
     some (J)
    else
     if (x3 &&& (x1 ^^^ ((-1)))) = 0 then
      (f_J6_bitCount_0f7a4 n I J T x3).bind fun w3 =>
      f_X12_byOrders_41 n (f_X12_byOrders_11 n m) n I J T x1 x2 x3 w3 0
     else
      f_X12_byOrders_119 n (f_X12_byOrders_11 n m) I J T x1 x2 x3
def f_X12_byOrders (n : Nat) (I : Nat → Nat → Int32) (J : Nat → Nat → Int64) (T : Nat) (x1 : Int32) (x2 : Int32) : Option ((Nat → Nat → Int64)) :=
  (f_X12_times n I J T x2).bind fun w1 =>
  f_X12_byOrders_11 n  n I ((am_u J 53 33 w1.toInt64)) T x1 x2 0
set_option maxRecDepth 100000 in
set_option maxHeartbeats 4000000 in
theorem t_X12_byOrders_119 {l : Launch} {ρ : am_R} {n d gc gs : Nat} {k11 : (Nat → Nat → Int32) → (Nat → Nat → Int64) → Nat → Int32 → Int32 → Int32 → Option ((Nat → Nat → Int64))} {I : Nat → Nat → Int32} {J : Nat → Nat → Int64} {T : Nat} {x1 : Int32} {x2 : Int32} {x3 : Int32} {q : (Nat → Nat → Int64)} (hd : 0 * n + 4 ≤ (d + 1))
    (hk11 : ∀ (I : Nat → Nat → Int32) (J : Nat → Nat → Int64) (T : Nat) (x1 : Int32) (x2 : Int32) (x3 : Int32), k11 I J T x1 x2 x3 = some q → AW l ρ (d + 1) M_X12_byOrders 11 [(0, .ref 53), (1, .int x1), (2, .int x2), (3, .int x3)] [] (am_KD, gc, gs) (I, J, am_RT T) (am_KD, gc, gs) (fun v H' => v = [] ∧ H' = (I, q, am_RT T)))
    (h : f_X12_byOrders_119 n k11 I J T x1 x2 x3 = some q) : AW l ρ (d + 1) M_X12_byOrders 119 [(0, .ref 53), (1, .int x1), (2, .int x2), (3, .int x3)] [] (am_KD, gc, gs) (I, J, am_RT T) (am_KD, gc, gs) (fun v H' => v = [] ∧ H' = (I, q, am_RT T)) := by
  unfold f_X12_byOrders_119 at h
  refine op_iinc (k := 3) (v := x3 + 1) (L' := [(3, .int (x3 + 1)), (0, .ref 53), (1, .int x1), (2, .int x2)]) dX12_byOrders_119 rfl rfl (by decide) rfl ?_
  refine op_goto (tgt := 11) dX12_byOrders_122 (by decide) ?_
  refine AW.perm [1, 2, 3, 0] rfl ?_
  exact hk11 _ _ _ _ _ _ h
set_option maxRecDepth 100000 in
set_option maxHeartbeats 4000000 in
theorem t_X12_byOrders_113 {l : Launch} {ρ : am_R} {n d gc gs : Nat} {k11 : (Nat → Nat → Int32) → (Nat → Nat → Int64) → Nat → Int32 → Int32 → Int32 → Option ((Nat → Nat → Int64))} {k41 : (Nat → Nat → Int32) → (Nat → Nat → Int64) → Nat → Int32 → Int32 → Int32 → Int32 → Int32 → Option ((Nat → Nat → Int64))} {I : Nat → Nat → Int32} {J : Nat → Nat → Int64} {T : Nat} {x1 : Int32} {x2 : Int32} {x3 : Int32} {x4 : Int32} {x5 : Int32} {q : (Nat → Nat → Int64)} (hd : 0 * n + 4 ≤ (d + 1))
    (hk11 : ∀ (I : Nat → Nat → Int32) (J : Nat → Nat → Int64) (T : Nat) (x1 : Int32) (x2 : Int32) (x3 : Int32), k11 I J T x1 x2 x3 = some q → AW l ρ (d + 1) M_X12_byOrders 11 [(0, .ref 53), (1, .int x1), (2, .int x2), (3, .int x3)] [] (am_KD, gc, gs) (I, J, am_RT T) (am_KD, gc, gs) (fun v H' => v = [] ∧ H' = (I, q, am_RT T)))
    (hk41 : ∀ (I : Nat → Nat → Int32) (J : Nat → Nat → Int64) (T : Nat) (x1 : Int32) (x2 : Int32) (x3 : Int32) (x4 : Int32) (x5 : Int32), k41 I J T x1 x2 x3 x4 x5 = some q → AW l ρ (d + 1) M_X12_byOrders 41 [(0, .ref 53), (1, .int x1), (2, .int x2), (3, .int x3), (4, .int x4), (5, .int x5)] [] (am_KD, gc, gs) (I, J, am_RT T) (am_KD, gc, gs) (fun v H' => v = [] ∧ H' = (I, q, am_RT T)))
    (h : f_X12_byOrders_113 n k11 k41 I J T x1 x2 x3 x4 x5 = some q) : AW l ρ (d + 1) M_X12_byOrders 113 [(0, .ref 53), (1, .int x1), (2, .int x2), (3, .int x3), (4, .int x4), (5, .int x5)] [] (am_KD, gc, gs) (I, J, am_RT T) (am_KD, gc, gs) (fun v H' => v = [] ∧ H' = (I, q, am_RT T)) := by
  unfold f_X12_byOrders_113 at h
  refine op_iinc (k := 5) (v := x5 + 1) (L' := [(5, .int (x5 + 1)), (0, .ref 53), (1, .int x1), (2, .int x2), (3, .int x3), (4, .int x4)]) dX12_byOrders_113 rfl rfl (by decide) rfl ?_
  refine op_goto (tgt := 41) dX12_byOrders_116 (by decide) ?_
  refine AW.perm [1, 2, 3, 4, 5, 0] rfl ?_
  exact hk41 _ _ _ _ _ _ _ _ h
set_option maxRecDepth 100000 in
set_option maxHeartbeats 4000000 in
theorem t_X12_byOrders_41 {l : Launch} {ρ : am_R} {n d gc gs : Nat} {k11 : (Nat → Nat → Int32) → (Nat → Nat → Int64) → Nat → Int32 → Int32 → Int32 → Option ((Nat → Nat → Int64))} {q : (Nat → Nat → Int64)} (hd : 0 * n + 4 ≤ (d + 1))
    (hk11 : ∀ (I : Nat → Nat → Int32) (J : Nat → Nat → Int64) (T : Nat) (x1 : Int32) (x2 : Int32) (x3 : Int32), k11 I J T x1 x2 x3 = some q → AW l ρ (d + 1) M_X12_byOrders 11 [(0, .ref 53), (1, .int x1), (2, .int x2), (3, .int x3)] [] (am_KD, gc, gs) (I, J, am_RT T) (am_KD, gc, gs) (fun v H' => v = [] ∧ H' = (I, q, am_RT T)))
    : ∀ (m : Nat) (I : Nat → Nat → Int32) (J : Nat → Nat → Int64) (T : Nat) (x1 : Int32) (x2 : Int32) (x3 : Int32) (x4 : Int32) (x5 : Int32), f_X12_byOrders_41 n k11 m I J T x1 x2 x3 x4 x5 = some q → AW l ρ (d + 1) M_X12_byOrders 41 [(0, .ref 53), (1, .int x1), (2, .int x2), (3, .int x3), (4, .int x4), (5, .int x5)] [] (am_KD, gc, gs) (I, J, am_RT T) (am_KD, gc, gs) (fun v H' => v = [] ∧ H' = (I, q, am_RT T)) := by
  intro m
  induction m with
  | zero =>
    intro I J T x1 x2 x3 x4 x5 h
    rw [f_X12_byOrders_41] at h
    cases h
  | succ m ih =>
    intro I J T x1 x2 x3 x4 x5 h
    rw [f_X12_byOrders_41] at h
    refine op_iload (k := 5) dX12_byOrders_41 rfl ?_
    refine op_aload_n (k := 0) dX12_byOrders_43 rfl rfl ?_
    refine st_getI (v := I 53 27) dX12_byOrders_44 fl_X12_297 kd_53 (by decide) rfl rfl ?_
    refine op_icmp_ge (tgt := 119) dX12_byOrders_47 (by decide) (fun c1 => ?_) (fun c1 => ?_)
    · replace h := am_ip c1 h
      refine AW.perm [0, 1, 2, 3] rfl ?_
      exact t_X12_byOrders_119 hd hk11 h
    · replace h := am_ie c1 h
      refine op_iload_n (k := 1) dX12_byOrders_50 rfl rfl ?_
      refine op_iload (k := 5) dX12_byOrders_51 rfl ?_
      obtain ⟨w2, ew2, h⟩ := am_bd h
      refine op_callS (M' := M_X12_has) [.int x1, .int x5] (S0 := []) dX12_byOrders_53 tw_1471 ok_X12_has tw_1472 rfl rfl (Nat.le_of_ble_eq_true rfl) (Nat.le_of_ble_eq_true rfl) (t_X12_has (by omega) ew2) (am_le_rf _) ?_
      rintro _ _ ⟨rfl, rfl⟩
      refine op_if_eq (tgt := 113) dX12_byOrders_56 (by decide) (fun c3 => ?_) (fun c3 => ?_)
      · replace h := am_ip c3 h
        exact t_X12_byOrders_113 hd hk11 ih h
      · replace h := am_ie c3 h
        refine op_iload_n (k := 3) dX12_byOrders_59 rfl rfl ?_
        refine op_iload (k := 5) dX12_byOrders_60 rfl ?_
        obtain ⟨w4, ew4, h⟩ := am_bd h
        refine op_callS (M' := M_X12_has) [.int x3, .int x5] (S0 := []) dX12_byOrders_62 tw_1471 ok_X12_has tw_1472 rfl rfl (Nat.le_of_ble_eq_true rfl) (Nat.le_of_ble_eq_true rfl) (t_X12_has (by omega) ew4) (am_le_rf _) ?_
        rintro _ _ ⟨rfl, rfl⟩
        refine op_if_ne (tgt := 113) dX12_byOrders_65 (by decide) (fun c5 => ?_) (fun c5 => ?_)
        · replace h := am_ie c5 h
          exact t_X12_byOrders_113 hd hk11 ih h
        · replace h := am_ip c5 h
          refine op_aload_n (k := 0) dX12_byOrders_68 rfl rfl ?_
          refine st_getR (z := 66) dX12_byOrders_69 fl_X12_65 kd_53 (by decide) rfl rr_53_32 ?_
          refine op_iload (k := 5) dX12_byOrders_72 rfl ?_
          refine op_dup2 dX12_byOrders_74 rfl rfl ?_
          obtain ⟨g6, h⟩ := am_gd h
          refine st_lald (k := x5.toNatClampNeg) (v := J 66 x5.toNatClampNeg) dX12_byOrders_75 kd_66 g6 rfl rfl ?_
          refine op_iload (k := 4) dX12_byOrders_76 rfl ?_
          obtain ⟨w7, ew7, h⟩ := am_bd h
          refine op_callS (M' := M_X12_times) [.int x4] (S0 := [.long (J 66 x5.toNatClampNeg), .int x5, .ref 66]) dX12_byOrders_78 tw_1647 ok_X12_times tw_1648 rfl rfl (Nat.le_of_ble_eq_true rfl) (Nat.le_of_ble_eq_true rfl) (t_X12_times (by omega) ew7) (am_le_rf _) ?_
          rintro _ _ ⟨rfl, rfl⟩
          refine op_i2l dX12_byOrders_81 ?_
          refine op_iload_n (k := 2) dX12_byOrders_82 rfl rfl ?_
          refine op_iload (k := 4) dX12_byOrders_83 rfl ?_
          refine op_isub dX12_byOrders_85 ?_
          refine op_iconst (v := 1) dX12_byOrders_86 (by decide) ?_
          refine op_isub dX12_byOrders_87 ?_
          obtain ⟨w8, ew8, h⟩ := am_bd h
          refine op_callS (M' := M_X12_times) [.int ((x2 - x4) - 1)] (S0 := [.long w7.toInt64, .long (J 66 x5.toNatClampNeg), .int x5, .ref 66]) dX12_byOrders_88 tw_1647 ok_X12_times tw_1648 rfl rfl (Nat.le_of_ble_eq_true rfl) (Nat.le_of_ble_eq_true rfl) (t_X12_times (by omega) ew8) (am_le_rf _) ?_
          rintro _ _ ⟨rfl, rfl⟩
          refine op_i2l dX12_byOrders_91 ?_
          refine op_lmul dX12_byOrders_92 ?_
          refine op_aload_n (k := 0) dX12_byOrders_93 rfl rfl ?_
          refine op_iload_n (k := 3) dX12_byOrders_94 rfl rfl ?_
          refine op_iconst (v := 1) dX12_byOrders_95 (by decide) ?_
          refine op_iload (k := 5) dX12_byOrders_96 rfl ?_
          refine op_ishl dX12_byOrders_98 ?_
          refine op_ior dX12_byOrders_99 ?_
          obtain ⟨w9, ew9, h⟩ := am_bd h
          refine op_callV (M' := M_X12_costOf) [.int (x3 ||| (1 <<< (x5 &&& 31)))] (S0 := [.long (w7.toInt64 * w8.toInt64), .long (J 66 x5.toNatClampNeg), .int x5, .ref 66]) dX12_byOrders_100 tw_1577 ok_X12_costOf tw_1579 tw_78 kd_53 cls_12 rfl rfl rfl (Nat.le_of_ble_eq_true rfl) (Nat.le_of_ble_eq_true rfl) (t_X12_costOf (by omega) ew9) (am_le_rf _) ?_
          rintro _ _ ⟨rfl, rfl⟩
          refine op_aload_n (k := 0) dX12_byOrders_103 rfl rfl ?_
          refine op_iload_n (k := 3) dX12_byOrders_104 rfl rfl ?_
          obtain ⟨w10, ew10, h⟩ := am_bd h
          refine op_callV (M' := M_X12_costOf) [.int x3] (S0 := [.int w9, .long (w7.toInt64 * w8.toInt64), .long (J 66 x5.toNatClampNeg), .int x5, .ref 66]) dX12_byOrders_105 tw_1577 ok_X12_costOf tw_1579 tw_78 kd_53 cls_12 rfl rfl rfl (Nat.le_of_ble_eq_true rfl) (Nat.le_of_ble_eq_true rfl) (t_X12_costOf (by omega) ew10) (am_le_rf _) ?_
          rintro _ _ ⟨rfl, rfl⟩
          refine op_isub dX12_byOrders_108 ?_
          refine op_i2l dX12_byOrders_109 ?_
          refine op_lmul dX12_byOrders_110 ?_
          refine op_ladd dX12_byOrders_111 ?_
          obtain ⟨u11, eu11, h⟩ := am_bd h
          replace eu11 := Option.some.inj eu11
          refine op_nmL eu11 ?_
          obtain ⟨g12, h⟩ := am_gd h
          refine st_last (k := x5.toNatClampNeg) dX12_byOrders_112 kd_66 g12 rfl ?_
          exact t_X12_byOrders_113 hd hk11 ih h
set_option maxRecDepth 100000 in
set_option maxHeartbeats 4000000 in
theorem t_X12_byOrders_11 {l : Launch} {ρ : am_R} {n d gc gs : Nat} {q : (Nat → Nat → Int64)} (hd : 0 * n + 4 ≤ (d + 1))
    : ∀ (m : Nat) (I : Nat → Nat → Int32) (J : Nat → Nat → Int64) (T : Nat) (x1 : Int32) (x2 : Int32) (x3 : Int32), f_X12_byOrders_11 n  m I J T x1 x2 x3 = some q → AW l ρ (d + 1) M_X12_byOrders 11 [(0, .ref 53), (1, .int x1), (2, .int x2), (3, .int x3)] [] (am_KD, gc, gs) (I, J, am_RT T) (am_KD, gc, gs) (fun v H' => v = [] ∧ H' = (I, q, am_RT T)) := by
  intro m
  induction m with
  | zero =>
    intro I J T x1 x2 x3 h
    rw [f_X12_byOrders_11] at h
    cases h
  | succ m ih =>
    intro I J T x1 x2 x3 h
    rw [f_X12_byOrders_11] at h
    refine op_iload_n (k := 3) dX12_byOrders_11 rfl rfl ?_
    refine op_iconst (v := 1) dX12_byOrders_12 (by decide) ?_
    refine op_aload_n (k := 0) dX12_byOrders_13 rfl rfl ?_
    refine st_getI (v := I 53 27) dX12_byOrders_14 fl_X12_297 kd_53 (by decide) rfl rfl ?_
    refine op_ishl dX12_byOrders_17 ?_
    refine op_icmp_ge (tgt := 125) dX12_byOrders_18 (by decide) (fun c1 => ?_) (fun c1 => ?_)
    · replace h := am_ip c1 h
      cases h
      exact (op_vret dX12_byOrders_125 rfl ⟨rfl, rfl⟩)
    · replace h := am_ie c1 h
      refine op_iload_n (k := 3) dX12_byOrders_21 rfl rfl ?_
      refine op_iload_n (k := 1) dX12_byOrders_22 rfl rfl ?_
      refine op_iconst (v := (-1)) dX12_byOrders_23 (by decide) ?_
      refine op_ixor dX12_byOrders_24 ?_
      refine op_iand dX12_byOrders_25 ?_
      refine op_if_eq (tgt := 32) dX12_byOrders_26 (by decide) (fun c2 => ?_) (fun c2 => ?_)
      · replace h := am_ip c2 h
        refine op_iload_n (k := 3) dX12_byOrders_32 rfl rfl ?_
        obtain ⟨w3, ew3, h⟩ := am_bd h
        refine op_callS (M' := M_J6_bitCount_0f7a4) [.int x3] (S0 := []) dX12_byOrders_33 tw_1637 ok_J6_bitCount_0f7a4 tw_797 rfl rfl (Nat.le_of_ble_eq_true rfl) (Nat.le_of_ble_eq_true rfl) (t_J6_bitCount_0f7a4 (by omega) ew3) (am_le_rf _) ?_
        rintro _ _ ⟨rfl, rfl⟩
        refine op_istore (L' := [(4, .int w3), (0, .ref 53), (1, .int x1), (2, .int x2), (3, .int x3)]) dX12_byOrders_36 (by decide) rfl ?_
        refine op_iconst (v := 0) dX12_byOrders_38 (by decide) ?_
        refine op_istore (L' := [(5, .int 0), (4, .int w3), (0, .ref 53), (1, .int x1), (2, .int x2), (3, .int x3)]) dX12_byOrders_39 (by decide) rfl ?_
        refine AW.perm [2, 3, 4, 5, 1, 0] rfl ?_
        exact t_X12_byOrders_41 hd ih n _ _ _ _ _ _ _ _ h
      · replace h := am_ie c2 h
        refine op_goto (tgt := 119) dX12_byOrders_29 (by decide) ?_
        exact t_X12_byOrders_119 hd ih h
set_option maxRecDepth 100000 in
set_option maxHeartbeats 4000000 in
theorem t_X12_byOrders_0 {l : Launch} {ρ : am_R} {n d gc gs : Nat} {I : Nat → Nat → Int32} {J : Nat → Nat → Int64} {T : Nat} {x1 : Int32} {x2 : Int32} {q : (Nat → Nat → Int64)} (hd : 0 * n + 4 ≤ (d + 1))
    (h : f_X12_byOrders n  I J T x1 x2 = some q) : AW l ρ (d + 1) M_X12_byOrders 0 [(0, .ref 53), (1, .int x1), (2, .int x2)] [] (am_KD, gc, gs) (I, J, am_RT T) (am_KD, gc, gs) (fun v H' => v = [] ∧ H' = (I, q, am_RT T)) := by
  unfold f_X12_byOrders at h
  refine op_aload_n (k := 0) dX12_byOrders_0 rfl rfl ?_
  refine op_iload_n (k := 2) dX12_byOrders_1 rfl rfl ?_
  obtain ⟨w1, ew1, h⟩ := am_bd h
  refine op_callS (M' := M_X12_times) [.int x2] (S0 := [.ref 53]) dX12_byOrders_2 tw_1647 ok_X12_times tw_1648 rfl rfl (Nat.le_of_ble_eq_true rfl) (Nat.le_of_ble_eq_true rfl) (t_X12_times (by omega) ew1) (am_le_rf _) ?_
  rintro _ _ ⟨rfl, rfl⟩
  refine op_i2l dX12_byOrders_5 ?_
  refine st_putL dX12_byOrders_6 fl_X12_361 kd_53 (by decide) rfl ?_
  refine op_iconst (v := 0) dX12_byOrders_9 (by decide) ?_
  refine op_istore_n (L' := [(3, .int 0), (0, .ref 53), (1, .int x1), (2, .int x2)]) dX12_byOrders_10 rfl (by decide) rfl ?_
  refine AW.perm [1, 2, 3, 0] rfl ?_
  exact t_X12_byOrders_11 hd  n _ _ _ _ _ _ h
theorem t_X12_byOrders {l : Launch} {ρ : am_R} {n d gc gs : Nat} {I : Nat → Nat → Int32} {J : Nat → Nat → Int64} {T : Nat} {x1 : Int32} {x2 : Int32} {q : (Nat → Nat → Int64)} (hd : 0 * n + 4 ≤ d) (h : f_X12_byOrders n I J T x1 x2 = some q) : AW l ρ d M_X12_byOrders 0 [(0, .ref 53), (1, .int x1), (2, .int x2)] [] (am_KD, gc, gs) (I, J, am_RT T) (am_KD, gc, gs) (fun v H' => v = [] ∧ H' = (I, q, am_RT T)) := by
  obtain ⟨d, rfl⟩ : ∃ e, d = e + 1 := ⟨d - 1, by omega⟩
  exact t_X12_byOrders_0 hd h
def f_X12_bySections_133 (n : Nat) (k30 : (Nat → Nat → Int32) → (Nat → Nat → Int64) → Nat → Int32 → Int32 → Int64 → Int32 → Option ((Nat → Nat → Int64))) (I : Nat → Nat → Int32) (J : Nat → Nat → Int64) (T : Nat) (x1 : Int32) (x2 : Int32) (y3 : Int64) (x5 : Int32) : Option ((Nat → Nat → Int64)) :=
  k30 I J T x1 x2 y3 (x5 + 1)
def f_X12_bySections_77 (n : Nat) (k30 : (Nat → Nat → Int32) → (Nat → Nat → Int64) → Nat → Int32 → Int32 → Int64 → Int32 → Option ((Nat → Nat → Int64))) : Nat → (Nat → Nat → Int32) → (Nat → Nat → Int64) → Nat → Int32 → Int32 → Int64 → Int32 → Int32 → Option ((Nat → Nat → Int64))
  | 0, _, _, _, _, _, _, _, _ => none
  | m + 1, I, J, T, x1, x2, y3, x5, x6 =>
    if x6 ≤ 0 then
     f_X12_bySections_133 n k30 I J T x1 x2 y3 x5
    else
     if ok_ix x5 6 then
      if ok_ix x6 10 then
       (f_X12_isOn n I J T x1 x6).bind fun w4 =>
       if ¬ w4.toInt64 = 0 then
        (some ((J 66 x5.toNatClampNeg) + (((60 * ((I 61 1).toInt64)) * ((I 59 x6.toNatClampNeg).toInt64)) / w4.toInt64) : Int64)).bind fun u6 =>
        if ok_ix x5 6 then
         if ok_ix x6 10 then
          f_X12_bySections_77 n k30 m I ((am_u J 66 x5.toNatClampNeg u6)) T x1 x2 y3 x5 (I 58 x6.toNatClampNeg)
         else none
        else none
       else none
      else none
     else none
def f_X12_bySections_30 (n : Nat) : Nat → (Nat → Nat → Int32) → (Nat → Nat → Int64) → Nat → Int32 → Int32 → Int64 → Int32 → Option ((Nat → Nat → Int64))
  | 0, _, _, _, _, _, _, _ => none
  | m + 1, I, J, T, x1, x2, y3, x5 =>
    if (I 53 27) ≤ x5 then
     some (J)
    else
     (f_X12_has n I J T x1 x5).bind fun w2 =>
     if w2 = 0 then
      f_X12_bySections_133 n (f_X12_bySections_30 n m) I J T x1 x2 y3 x5
     else
      if ¬ x2.toInt64 = 0 then
       if ok_ix x5 6 then
        if ok_ix (3 * x5) 18 then
         f_X12_bySections_77 n (f_X12_bySections_30 n m) n I ((am_u J 66 x5.toNatClampNeg ((y3 * 60) / x2.toInt64))) T x1 x2 y3 x5 (I 60 ((3 * x5).toNatClampNeg))
        else none
       else none
      else none
def f_X12_bySections (n : Nat) (I : Nat → Nat → Int32) (J : Nat → Nat → Int64) (T : Nat) (x1 : Int32) (x2 : Int32) : Option ((Nat → Nat → Int64)) :=
  (f_X12_costOf n I ((am_u J 53 33 60)) T x1).bind fun w1 =>
  (f_X12_milesOf n I ((am_u J 53 33 60)) T x1).bind fun w2 =>
  f_X12_bySections_30 n  n I ((am_u J 53 33 60)) T x1 x2 ((w1 - ((I 61 1) * w2)).toInt64) 0
set_option maxRecDepth 100000 in
set_option maxHeartbeats 4000000 in
theorem t_X12_bySections_133 {l : Launch} {ρ : am_R} {n d gc gs : Nat} {k30 : (Nat → Nat → Int32) → (Nat → Nat → Int64) → Nat → Int32 → Int32 → Int64 → Int32 → Option ((Nat → Nat → Int64))} {I : Nat → Nat → Int32} {J : Nat → Nat → Int64} {T : Nat} {x1 : Int32} {x2 : Int32} {y3 : Int64} {x5 : Int32} {q : (Nat → Nat → Int64)} (hd : 0 * n + 4 ≤ (d + 1))
    (hk30 : ∀ (I : Nat → Nat → Int32) (J : Nat → Nat → Int64) (T : Nat) (x1 : Int32) (x2 : Int32) (y3 : Int64) (x5 : Int32), k30 I J T x1 x2 y3 x5 = some q → AW l ρ (d + 1) M_X12_bySections 30 [(0, .ref 53), (1, .int x1), (2, .int x2), (3, .long y3), (5, .int x5)] [] (am_KD, gc, gs) (I, J, am_RT T) (am_KD, gc, gs) (fun v H' => v = [] ∧ H' = (I, q, am_RT T)))
    (h : f_X12_bySections_133 n k30 I J T x1 x2 y3 x5 = some q) : AW l ρ (d + 1) M_X12_bySections 133 [(0, .ref 53), (1, .int x1), (2, .int x2), (3, .long y3), (5, .int x5)] [] (am_KD, gc, gs) (I, J, am_RT T) (am_KD, gc, gs) (fun v H' => v = [] ∧ H' = (I, q, am_RT T)) := by
  unfold f_X12_bySections_133 at h
  refine op_iinc (k := 4) (v := x5 + 1) (L' := [(5, .int (x5 + 1)), (0, .ref 53), (1, .int x1), (2, .int x2), (3, .long y3)]) dX12_bySections_133 rfl rfl (by decide) rfl ?_
  refine op_goto (tgt := 30) dX12_bySections_136 (by decide) ?_
  refine AW.perm [1, 2, 3, 4, 0] rfl ?_
  exact hk30 _ _ _ _ _ _ _ h
set_option maxRecDepth 100000 in
set_option maxHeartbeats 4000000 in
theorem t_X12_bySections_77 {l : Launch} {ρ : am_R} {n d gc gs : Nat} {k30 : (Nat → Nat → Int32) → (Nat → Nat → Int64) → Nat → Int32 → Int32 → Int64 → Int32 → Option ((Nat → Nat → Int64))} {q : (Nat → Nat → Int64)} (hd : 0 * n + 4 ≤ (d + 1))
    (hk30 : ∀ (I : Nat → Nat → Int32) (J : Nat → Nat → Int64) (T : Nat) (x1 : Int32) (x2 : Int32) (y3 : Int64) (x5 : Int32), k30 I J T x1 x2 y3 x5 = some q → AW l ρ (d + 1) M_X12_bySections 30 [(0, .ref 53), (1, .int x1), (2, .int x2), (3, .long y3), (5, .int x5)] [] (am_KD, gc, gs) (I, J, am_RT T) (am_KD, gc, gs) (fun v H' => v = [] ∧ H' = (I, q, am_RT T)))
    : ∀ (m : Nat) (I : Nat → Nat → Int32) (J : Nat → Nat → Int64) (T : Nat) (x1 : Int32) (x2 : Int32) (y3 : Int64) (x5 : Int32) (x6 : Int32), f_X12_bySections_77 n k30 m I J T x1 x2 y3 x5 x6 = some q → AW l ρ (d + 1) M_X12_bySections 77 [(0, .ref 53), (1, .int x1), (2, .int x2), (3, .long y3), (5, .int x5), (6, .int x6)] [] (am_KD, gc, gs) (I, J, am_RT T) (am_KD, gc, gs) (fun v H' => v = [] ∧ H' = (I, q, am_RT T)) := by
  intro m
  induction m with
  | zero =>
    intro I J T x1 x2 y3 x5 x6 h
    rw [f_X12_bySections_77] at h
    cases h
  | succ m ih =>
    intro I J T x1 x2 y3 x5 x6 h
    rw [f_X12_bySections_77] at h
    refine op_iload (k := 5) dX12_bySections_77 rfl ?_
    refine op_if_le (tgt := 133) dX12_bySections_79 (by decide) (fun c1 => ?_) (fun c1 => ?_)
    · replace h := am_ip c1 h
      refine AW.perm [0, 1, 2, 3, 4] rfl ?_
      exact t_X12_bySections_133 hd hk30 h
    · replace h := am_ie c1 h
      refine op_aload_n (k := 0) dX12_bySections_82 rfl rfl ?_
      refine st_getR (z := 66) dX12_bySections_83 fl_X12_65 kd_53 (by decide) rfl rr_53_32 ?_
      refine op_iload (k := 4) dX12_bySections_86 rfl ?_
      refine op_dup2 dX12_bySections_88 rfl rfl ?_
      obtain ⟨g2, h⟩ := am_gd h
      refine st_lald (k := x5.toNatClampNeg) (v := J 66 x5.toNatClampNeg) dX12_bySections_89 kd_66 g2 rfl rfl ?_
      refine op_ldc2 dX12_bySections_90 tw_1642 ?_
      refine op_aload_n (k := 0) dX12_bySections_93 rfl rfl ?_
      refine st_getR (z := 61) dX12_bySections_94 fl_X12_46 kd_53 (by decide) rfl rr_53_21 ?_
      refine op_iconst (v := 1) dX12_bySections_97 (by decide) ?_
      refine st_iald (k := 1) (v := I 61 1) dX12_bySections_98 kd_61 (by decide) (by decide) rfl ?_
      refine op_i2l dX12_bySections_99 ?_
      refine op_lmul dX12_bySections_100 ?_
      refine op_aload_n (k := 0) dX12_bySections_101 rfl rfl ?_
      refine st_getR (z := 59) dX12_bySections_102 fl_X12_40 kd_53 (by decide) rfl rr_53_19 ?_
      refine op_iload (k := 5) dX12_bySections_105 rfl ?_
      obtain ⟨g3, h⟩ := am_gd h
      refine st_iald (k := x6.toNatClampNeg) (v := I 59 x6.toNatClampNeg) dX12_bySections_107 kd_59 g3 rfl rfl ?_
      refine op_i2l dX12_bySections_108 ?_
      refine op_lmul dX12_bySections_109 ?_
      refine op_aload_n (k := 0) dX12_bySections_110 rfl rfl ?_
      refine op_iload_n (k := 1) dX12_bySections_111 rfl rfl ?_
      refine op_iload (k := 5) dX12_bySections_112 rfl ?_
      obtain ⟨w4, ew4, h⟩ := am_bd h
      refine op_callV (M' := M_X12_isOn) [.int x1, .int x6] (S0 := [.long ((60 * ((I 61 1).toInt64)) * ((I 59 x6.toNatClampNeg).toInt64)), .long (J 66 x5.toNatClampNeg), .int x5, .ref 66]) dX12_bySections_114 tw_1573 ok_X12_isOn tw_1575 tw_77 kd_53 cls_12 rfl rfl rfl (Nat.le_of_ble_eq_true rfl) (Nat.le_of_ble_eq_true rfl) (t_X12_isOn (by omega) ew4) (am_le_rf _) ?_
      rintro _ _ ⟨rfl, rfl⟩
      refine op_i2l dX12_bySections_117 ?_
      obtain ⟨g5, h⟩ := am_gd h
      refine op_ldiv dX12_bySections_118 g5 ?_
      refine op_ladd dX12_bySections_119 ?_
      obtain ⟨u6, eu6, h⟩ := am_bd h
      replace eu6 := Option.some.inj eu6
      refine op_nmL eu6 ?_
      obtain ⟨g7, h⟩ := am_gd h
      refine st_last (k := x5.toNatClampNeg) dX12_bySections_120 kd_66 g7 rfl ?_
      refine op_aload_n (k := 0) dX12_bySections_121 rfl rfl ?_
      refine st_getR (z := 58) dX12_bySections_122 fl_X12_37 kd_53 (by decide) rfl rr_53_18 ?_
      refine op_iload (k := 5) dX12_bySections_125 rfl ?_
      obtain ⟨g8, h⟩ := am_gd h
      refine st_iald (k := x6.toNatClampNeg) (v := I 58 x6.toNatClampNeg) dX12_bySections_127 kd_58 g8 rfl rfl ?_
      refine op_istore (L' := [(6, .int (I 58 x6.toNatClampNeg)), (0, .ref 53), (1, .int x1), (2, .int x2), (3, .long y3), (5, .int x5)]) dX12_bySections_128 (by decide) rfl ?_
      refine op_goto (tgt := 77) dX12_bySections_130 (by decide) ?_
      refine AW.perm [1, 2, 3, 4, 5, 0] rfl ?_
      exact ih _ _ _ _ _ _ _ _ h
set_option maxRecDepth 100000 in
set_option maxHeartbeats 4000000 in
theorem t_X12_bySections_30 {l : Launch} {ρ : am_R} {n d gc gs : Nat} {q : (Nat → Nat → Int64)} (hd : 0 * n + 4 ≤ (d + 1))
    : ∀ (m : Nat) (I : Nat → Nat → Int32) (J : Nat → Nat → Int64) (T : Nat) (x1 : Int32) (x2 : Int32) (y3 : Int64) (x5 : Int32), f_X12_bySections_30 n  m I J T x1 x2 y3 x5 = some q → AW l ρ (d + 1) M_X12_bySections 30 [(0, .ref 53), (1, .int x1), (2, .int x2), (3, .long y3), (5, .int x5)] [] (am_KD, gc, gs) (I, J, am_RT T) (am_KD, gc, gs) (fun v H' => v = [] ∧ H' = (I, q, am_RT T)) := by
  intro m
  induction m with
  | zero =>
    intro I J T x1 x2 y3 x5 h
    rw [f_X12_bySections_30] at h
    cases h
  | succ m ih =>
    intro I J T x1 x2 y3 x5 h
    rw [f_X12_bySections_30] at h
    refine op_iload (k := 4) dX12_bySections_30 rfl ?_
    refine op_aload_n (k := 0) dX12_bySections_32 rfl rfl ?_
    refine st_getI (v := I 53 27) dX12_bySections_33 fl_X12_297 kd_53 (by decide) rfl rfl ?_
    refine op_icmp_ge (tgt := 139) dX12_bySections_36 (by decide) (fun c1 => ?_) (fun c1 => ?_)
    · replace h := am_ip c1 h
      cases h
      exact (op_vret dX12_bySections_139 rfl ⟨rfl, rfl⟩)
    · replace h := am_ie c1 h
      refine op_iload_n (k := 1) dX12_bySections_39 rfl rfl ?_
      refine op_iload (k := 4) dX12_bySections_40 rfl ?_
      obtain ⟨w2, ew2, h⟩ := am_bd h
      refine op_callS (M' := M_X12_has) [.int x1, .int x5] (S0 := []) dX12_bySections_42 tw_1471 ok_X12_has tw_1472 rfl rfl (Nat.le_of_ble_eq_true rfl) (Nat.le_of_ble_eq_true rfl) (t_X12_has (by omega) ew2) (am_le_rf _) ?_
      rintro _ _ ⟨rfl, rfl⟩
      refine op_if_ne (tgt := 51) dX12_bySections_45 (by decide) (fun c3 => ?_) (fun c3 => ?_)
      · replace h := am_ie c3 h
        refine op_aload_n (k := 0) dX12_bySections_51 rfl rfl ?_
        refine st_getR (z := 66) dX12_bySections_52 fl_X12_65 kd_53 (by decide) rfl rr_53_32 ?_
        refine op_iload (k := 4) dX12_bySections_55 rfl ?_
        refine op_lload_n (k := 3) dX12_bySections_57 rfl rfl ?_
        refine op_ldc2 dX12_bySections_58 tw_1642 ?_
        refine op_lmul dX12_bySections_61 ?_
        refine op_iload_n (k := 2) dX12_bySections_62 rfl rfl ?_
        refine op_i2l dX12_bySections_63 ?_
        obtain ⟨g4, h⟩ := am_gd h
        refine op_ldiv dX12_bySections_64 g4 ?_
        obtain ⟨g5, h⟩ := am_gd h
        refine st_last (k := x5.toNatClampNeg) dX12_bySections_65 kd_66 g5 rfl ?_
        refine op_aload_n (k := 0) dX12_bySections_66 rfl rfl ?_
        refine st_getR (z := 60) dX12_bySections_67 fl_X12_43 kd_53 (by decide) rfl rr_53_20 ?_
        refine op_iconst (v := 3) dX12_bySections_70 (by decide) ?_
        refine op_iload (k := 4) dX12_bySections_71 rfl ?_
        refine op_imul dX12_bySections_73 ?_
        obtain ⟨g6, h⟩ := am_gd h
        refine st_iald (k := (3 * x5).toNatClampNeg) (v := I 60 ((3 * x5).toNatClampNeg)) dX12_bySections_74 kd_60 g6 rfl rfl ?_
        refine op_istore (L' := [(6, .int (I 60 ((3 * x5).toNatClampNeg))), (0, .ref 53), (1, .int x1), (2, .int x2), (3, .long y3), (5, .int x5)]) dX12_bySections_75 (by decide) rfl ?_
        refine AW.perm [1, 2, 3, 4, 5, 0] rfl ?_
        exact t_X12_bySections_77 hd ih n _ _ _ _ _ _ _ _ h
      · replace h := am_ip c3 h
        refine op_goto (tgt := 133) dX12_bySections_48 (by decide) ?_
        exact t_X12_bySections_133 hd ih h
set_option maxRecDepth 100000 in
set_option maxHeartbeats 4000000 in
theorem t_X12_bySections_0 {l : Launch} {ρ : am_R} {n d gc gs : Nat} {I : Nat → Nat → Int32} {J : Nat → Nat → Int64} {T : Nat} {x1 : Int32} {x2 : Int32} {q : (Nat → Nat → Int64)} (hd : 0 * n + 4 ≤ (d + 1))
    (h : f_X12_bySections n  I J T x1 x2 = some q) : AW l ρ (d + 1) M_X12_bySections 0 [(0, .ref 53), (1, .int x1), (2, .int x2)] [] (am_KD, gc, gs) (I, J, am_RT T) (am_KD, gc, gs) (fun v H' => v = [] ∧ H' = (I, q, am_RT T)) := by
  unfold f_X12_bySections at h
  refine op_aload_n (k := 0) dX12_bySections_0 rfl rfl ?_
  refine op_ldc2 dX12_bySections_1 tw_1642 ?_
  refine st_putL dX12_bySections_4 fl_X12_361 kd_53 (by decide) rfl ?_
  refine op_aload_n (k := 0) dX12_bySections_7 rfl rfl ?_
  refine op_iload_n (k := 1) dX12_bySections_8 rfl rfl ?_
  obtain ⟨w1, ew1, h⟩ := am_bd h
  refine op_callV (M' := M_X12_costOf) [.int x1] (S0 := []) dX12_bySections_9 tw_1577 ok_X12_costOf tw_1579 tw_78 kd_53 cls_12 rfl rfl rfl (Nat.le_of_ble_eq_true rfl) (Nat.le_of_ble_eq_true rfl) (t_X12_costOf (by omega) ew1) (am_le_rf _) ?_
  rintro _ _ ⟨rfl, rfl⟩
  refine op_aload_n (k := 0) dX12_bySections_12 rfl rfl ?_
  refine st_getR (z := 61) dX12_bySections_13 fl_X12_46 kd_53 (by decide) rfl rr_53_21 ?_
  refine op_iconst (v := 1) dX12_bySections_16 (by decide) ?_
  refine st_iald (k := 1) (v := I 61 1) dX12_bySections_17 kd_61 (by decide) (by decide) rfl ?_
  refine op_aload_n (k := 0) dX12_bySections_18 rfl rfl ?_
  refine op_iload_n (k := 1) dX12_bySections_19 rfl rfl ?_
  obtain ⟨w2, ew2, h⟩ := am_bd h
  refine op_callV (M' := M_X12_milesOf) [.int x1] (S0 := [.int (I 61 1), .int w1]) dX12_bySections_20 tw_1569 ok_X12_milesOf tw_1571 tw_76 kd_53 cls_12 rfl rfl rfl (Nat.le_of_ble_eq_true rfl) (Nat.le_of_ble_eq_true rfl) (t_X12_milesOf (by omega) ew2) (am_le_rf _) ?_
  rintro _ _ ⟨rfl, rfl⟩
  refine op_imul dX12_bySections_23 ?_
  refine op_isub dX12_bySections_24 ?_
  refine op_i2l dX12_bySections_25 ?_
  refine op_lstore_n (L' := [(3, .long ((w1 - ((I 61 1) * w2)).toInt64)), (0, .ref 53), (1, .int x1), (2, .int x2)]) dX12_bySections_26 rfl (by decide) rfl ?_
  refine op_iconst (v := 0) dX12_bySections_27 (by decide) ?_
  refine op_istore (L' := [(5, .int 0), (3, .long ((w1 - ((I 61 1) * w2)).toInt64)), (0, .ref 53), (1, .int x1), (2, .int x2)]) dX12_bySections_28 (by decide) rfl ?_
  refine AW.perm [2, 3, 4, 1, 0] rfl ?_
  exact t_X12_bySections_30 hd  n _ _ _ _ _ _ _ h
theorem t_X12_bySections {l : Launch} {ρ : am_R} {n d gc gs : Nat} {I : Nat → Nat → Int32} {J : Nat → Nat → Int64} {T : Nat} {x1 : Int32} {x2 : Int32} {q : (Nat → Nat → Int64)} (hd : 0 * n + 4 ≤ d) (h : f_X12_bySections n I J T x1 x2 = some q) : AW l ρ d M_X12_bySections 0 [(0, .ref 53), (1, .int x1), (2, .int x2)] [] (am_KD, gc, gs) (I, J, am_RT T) (am_KD, gc, gs) (fun v H' => v = [] ∧ H' = (I, q, am_RT T)) := by
  obtain ⟨d, rfl⟩ : ∃ e, d = e + 1 := ⟨d - 1, by omega⟩
  exact t_X12_bySections_0 hd h
def f_X12_opens (n : Nat) (I : Nat → Nat → Int32) (J : Nat → Nat → Int64) (T : Nat) (x2 : Int32) (x3 : Int32) : Option ((Nat → Nat → Int32) × Nat) :=
  some ((am_u (am_u (am_u (am_u I 53 8 x2) 53 9 x3) 53 10 0) 53 11 ((-1))), 55)
set_option maxRecDepth 100000 in
set_option maxHeartbeats 4000000 in
theorem t_X12_opens_0 {l : Launch} {ρ : am_R} {n d gc gs : Nat} {I : Nat → Nat → Int32} {J : Nat → Nat → Int64} {T : Nat} {x2 : Int32} {x3 : Int32} {q : (Nat → Nat → Int32) × Nat} (hd : 0 * n + 0 ≤ d)
    (h : f_X12_opens n  I J T x2 x3 = some q) : AW l ρ d M_X12_opens 0 [(0, .ref 53), (1, .ref 55), (2, .int x2), (3, .int x3)] [] (am_KD, gc, gs) (I, J, am_RT T) (am_KD, gc, gs) (fun v H' => v = [] ∧ H' = (q.1, J, am_RT (q.2))) := by
  unfold f_X12_opens at h
  refine op_aload_n (k := 0) dX12_opens_0 rfl rfl ?_
  refine op_aload_n (k := 1) dX12_opens_1 rfl rfl ?_
  refine st_putT dX12_opens_2 fl_X12_23 ?_
  refine op_aload_n (k := 0) dX12_opens_5 rfl rfl ?_
  refine op_iload_n (k := 2) dX12_opens_6 rfl rfl ?_
  refine st_putI dX12_opens_7 fl_X12_147 kd_53 (by decide) rfl ?_
  refine op_aload_n (k := 0) dX12_opens_10 rfl rfl ?_
  refine op_iload_n (k := 3) dX12_opens_11 rfl rfl ?_
  refine st_putI dX12_opens_12 fl_X12_144 kd_53 (by decide) rfl ?_
  refine op_aload_n (k := 0) dX12_opens_15 rfl rfl ?_
  refine op_iconst (v := 0) dX12_opens_16 (by decide) ?_
  refine st_putI dX12_opens_17 fl_X12_141 kd_53 (by decide) rfl ?_
  refine op_aload_n (k := 0) dX12_opens_20 rfl rfl ?_
  refine op_iconst (v := (-1)) dX12_opens_21 (by decide) ?_
  refine st_putI dX12_opens_22 fl_X12_150 kd_53 (by decide) rfl ?_
  cases h
  exact (op_vret dX12_opens_25 rfl ⟨rfl, rfl⟩)
theorem t_X12_opens {l : Launch} {ρ : am_R} {n d gc gs : Nat} {I : Nat → Nat → Int32} {J : Nat → Nat → Int64} {T : Nat} {x2 : Int32} {x3 : Int32} {q : (Nat → Nat → Int32) × Nat} (hd : 0 * n + 0 ≤ d) (h : f_X12_opens n I J T x2 x3 = some q) : AW l ρ d M_X12_opens 0 [(0, .ref 53), (1, .ref 55), (2, .int x2), (3, .int x3)] [] (am_KD, gc, gs) (I, J, am_RT T) (am_KD, gc, gs) (fun v H' => v = [] ∧ H' = (q.1, J, am_RT (q.2))) := t_X12_opens_0 hd h
def f_X12_isSign_18 (n : Nat) (I : Nat → Nat → Int32) (J : Nat → Nat → Int64) (T : Nat) : Option (Int32) :=
  some (1)
def f_X12_isSign (n : Nat) (I : Nat → Nat → Int32) (J : Nat → Nat → Int64) (T : Nat) (x0 : Int32) : Option (Int32) :=
  if x0 = 61 then
   f_X12_isSign_18 n  I J T
  else
   if x0 = 60 then
    f_X12_isSign_18 n  I J T
   else
    if x0 = 62 then
     f_X12_isSign_18 n  I J T
    else
     some (0)
set_option maxRecDepth 100000 in
set_option maxHeartbeats 4000000 in
theorem t_X12_isSign_18 {l : Launch} {ρ : am_R} {n d gc gs : Nat} {I : Nat → Nat → Int32} {J : Nat → Nat → Int64} {T : Nat} {q : Int32} (hd : 0 * n + 0 ≤ d)
    (h : f_X12_isSign_18 n  I J T  = some q) : AW l ρ d M_X12_isSign 18 [] [] (am_KD, gc, gs) (I, J, am_RT T) (am_KD, gc, gs) (fun v H' => v = [.int q] ∧ H' = (I, J, am_RT T)) := by
  unfold f_X12_isSign_18 at h
  refine op_iconst (v := 1) dX12_isSign_18 (by decide) ?_
  refine op_goto (tgt := 23) dX12_isSign_19 (by decide) ?_
  cases h
  exact (op_iret dX12_isSign_23 rfl (by decide) ⟨rfl, rfl⟩)
set_option maxRecDepth 100000 in
set_option maxHeartbeats 4000000 in
theorem t_X12_isSign_0 {l : Launch} {ρ : am_R} {n d gc gs : Nat} {I : Nat → Nat → Int32} {J : Nat → Nat → Int64} {T : Nat} {x0 : Int32} {q : Int32} (hd : 0 * n + 0 ≤ d)
    (h : f_X12_isSign n  I J T x0 = some q) : AW l ρ d M_X12_isSign 0 [(0, .int x0)] [] (am_KD, gc, gs) (I, J, am_RT T) (am_KD, gc, gs) (fun v H' => v = [.int q] ∧ H' = (I, J, am_RT T)) := by
  unfold f_X12_isSign at h
  refine op_iload_n (k := 0) dX12_isSign_0 rfl rfl ?_
  refine op_bipush (v := 61) dX12_isSign_1 (by decide) ?_
  refine op_icmp_eq (tgt := 18) dX12_isSign_3 (by decide) (fun c1 => ?_) (fun c1 => ?_)
  · replace h := am_ip c1 h
    refine AW.perm [] rfl ?_
    exact t_X12_isSign_18 hd  h
  · replace h := am_ie c1 h
    refine op_iload_n (k := 0) dX12_isSign_6 rfl rfl ?_
    refine op_bipush (v := 60) dX12_isSign_7 (by decide) ?_
    refine op_icmp_eq (tgt := 18) dX12_isSign_9 (by decide) (fun c2 => ?_) (fun c2 => ?_)
    · replace h := am_ip c2 h
      refine AW.perm [] rfl ?_
      exact t_X12_isSign_18 hd  h
    · replace h := am_ie c2 h
      refine op_iload_n (k := 0) dX12_isSign_12 rfl rfl ?_
      refine op_bipush (v := 62) dX12_isSign_13 (by decide) ?_
      refine op_icmp_ne (tgt := 22) dX12_isSign_15 (by decide) (fun c3 => ?_) (fun c3 => ?_)
      · replace h := am_ie c3 h
        refine op_iconst (v := 0) dX12_isSign_22 (by decide) ?_
        cases h
        exact (op_iret dX12_isSign_23 rfl (by decide) ⟨rfl, rfl⟩)
      · replace h := am_ip c3 h
        refine AW.perm [] rfl ?_
        exact t_X12_isSign_18 hd  h
theorem t_X12_isSign {l : Launch} {ρ : am_R} {n d gc gs : Nat} {I : Nat → Nat → Int32} {J : Nat → Nat → Int64} {T : Nat} {x0 : Int32} {q : Int32} (hd : 0 * n + 0 ≤ d) (h : f_X12_isSign n I J T x0 = some q) : AW l ρ d M_X12_isSign 0 [(0, .int x0)] [] (am_KD, gc, gs) (I, J, am_RT T) (am_KD, gc, gs) (fun v H' => v = [.int q] ∧ H' = (I, J, am_RT T)) := t_X12_isSign_0 hd h
def f_X12_compares_12 (n : Nat) (I : Nat → Nat → Int32) (J : Nat → Nat → Int64) (T : Nat) (s0 : Int32) : Option (Int32 × (Nat → Nat → Int32)) :=
  if (I 53 11) = ((-1)) then
   (f_X12_look n I J T).bind fun w2 =>
   (f_X12_isSign n w2.2 J T w2.1).bind fun w3 =>
   if w3 = 0 then
    (f_X12_fails n w2.2 J T).bind fun w11 =>
    if w11.1 = 0 ∨ w11.1 = 1 then
     some (w11.1, w11.2)
    else none
   else
    (f_X12_sum n ((am_u w2.2 53 10 ((w2.2 53 10) + 1))) J T).bind fun w5 =>
    if w2.1 = 61 then
     if s0 = w5.1 then
      some (1, w5.2)
     else
      some (0, w5.2)
    else
     if w2.1 = 60 then
      if w5.1 ≤ s0 then
       some (0, w5.2)
      else
       some (1, w5.2)
     else
      if s0 ≤ w5.1 then
       some (0, w5.2)
      else
       some (1, w5.2)
  else
   some (0, I)
def f_X12_compares (n : Nat) (I : Nat → Nat → Int32) (J : Nat → Nat → Int64) (T : Nat) (x1 : Int32) (x2 : Int32) : Option (Int32 × (Nat → Nat → Int32)) :=
  if x1 = 0 then
   (f_X12_sum n I J T).bind fun w2 =>
   f_X12_compares_12 n  w2.2 J T w2.1
  else
   f_X12_compares_12 n  I J T x2
set_option maxRecDepth 100000 in
set_option maxHeartbeats 4000000 in
theorem t_X12_compares_12 {l : Launch} {ρ : am_R} {n d gc gs : Nat} {I : Nat → Nat → Int32} {J : Nat → Nat → Int64} {T : Nat} {s0 : Int32} {q : Int32 × (Nat → Nat → Int32)} (hd : 1 * n + 6 ≤ (d + 1))
    (h : f_X12_compares_12 n  I J T s0 = some q) : AW l ρ (d + 1) M_X12_compares 12 [(0, .ref 53)] [.int s0] (am_KD, gc, gs) (I, J, am_RT T) (am_KD, gc, gs) (fun v H' => v = [.int q.1] ∧ H' = (q.2, J, am_RT T)) := by
  unfold f_X12_compares_12 at h
  refine op_istore_n (L' := [(3, .int s0), (0, .ref 53)]) dX12_compares_12 rfl (by decide) rfl ?_
  refine op_aload_n (k := 1) dX12_compares_13 rfl rfl ?_
  refine st_getI (v := I 53 11) dX12_compares_14 fl_X12_150 kd_53 (by decide) rfl rfl ?_
  refine op_iconst (v := (-1)) dX12_compares_17 (by decide) ?_
  refine op_icmp_eq (tgt := 23) dX12_compares_18 (by decide) (fun c1 => ?_) (fun c1 => ?_)
  · replace h := am_ip c1 h
    refine op_aload_n (k := 1) dX12_compares_23 rfl rfl ?_
    obtain ⟨w2, ew2, h⟩ := am_bd h
    refine op_callV (M' := M_X12_look) [] (S0 := []) dX12_compares_24 tw_1405 ok_X12_look tw_1407 tw_55 kd_53 cls_12 rfl rfl rfl (Nat.le_of_ble_eq_true rfl) (Nat.le_of_ble_eq_true rfl) (t_X12_look (by omega) ew2) (am_le_rf _) ?_
    rintro _ _ ⟨rfl, rfl⟩
    refine op_istore (L' := [(4, .int w2.1), (3, .int s0), (0, .ref 53)]) dX12_compares_27 (by decide) rfl ?_
    refine op_iload (k := 0) dX12_compares_29 rfl ?_
    obtain ⟨w3, ew3, h⟩ := am_bd h
    refine op_callS (M' := M_X12_isSign) [.int w2.1] (S0 := []) dX12_compares_31 tw_1548 ok_X12_isSign tw_1549 rfl rfl (Nat.le_of_ble_eq_true rfl) (Nat.le_of_ble_eq_true rfl) (t_X12_isSign (by omega) ew3) (am_le_rf _) ?_
    rintro _ _ ⟨rfl, rfl⟩
    refine op_if_ne (tgt := 42) dX12_compares_34 (by decide) (fun c4 => ?_) (fun c4 => ?_)
    · replace h := am_ie c4 h
      refine op_aload_n (k := 2) dX12_compares_42 rfl rfl ?_
      refine op_dup dX12_compares_43 rfl ?_
      refine st_getI (v := w2.2 53 10) dX12_compares_44 fl_X12_141 kd_53 (by decide) rfl rfl ?_
      refine op_iconst (v := 1) dX12_compares_47 (by decide) ?_
      refine op_iadd dX12_compares_48 ?_
      refine st_putI dX12_compares_49 fl_X12_141 kd_53 (by decide) rfl ?_
      refine op_aload_n (k := 2) dX12_compares_52 rfl rfl ?_
      obtain ⟨w5, ew5, h⟩ := am_bd h
      refine op_callV (M' := M_X12_sum) [] (S0 := []) dX12_compares_53 tw_1525 ok_X12_sum tw_1527 tw_70 kd_53 cls_12 rfl rfl rfl (Nat.le_of_ble_eq_true rfl) (Nat.le_of_ble_eq_true rfl) (t_X12_sum (by omega) ew5) (am_le_rf _) ?_
      rintro _ _ ⟨rfl, rfl⟩
      refine op_istore (L' := [(5, .int w5.1), (4, .int w2.1), (3, .int s0), (0, .ref 53)]) dX12_compares_56 (by decide) rfl ?_
      refine op_iload (k := 1) dX12_compares_58 rfl ?_
      refine op_bipush (v := 61) dX12_compares_60 (by decide) ?_
      refine op_icmp_ne (tgt := 79) dX12_compares_62 (by decide) (fun c6 => ?_) (fun c6 => ?_)
      · replace h := am_ie c6 h
        refine op_iload (k := 1) dX12_compares_79 rfl ?_
        refine op_bipush (v := 60) dX12_compares_81 (by decide) ?_
        refine op_icmp_ne (tgt := 100) dX12_compares_83 (by decide) (fun c7 => ?_) (fun c7 => ?_)
        · replace h := am_ie c7 h
          refine op_iload_n (k := 2) dX12_compares_100 rfl rfl ?_
          refine op_iload (k := 0) dX12_compares_101 rfl ?_
          refine op_icmp_le (tgt := 110) dX12_compares_103 (by decide) (fun c8 => ?_) (fun c8 => ?_)
          · replace h := am_ip c8 h
            refine op_iconst (v := 0) dX12_compares_110 (by decide) ?_
            cases h
            exact (op_iret dX12_compares_111 rfl (by decide) ⟨rfl, rfl⟩)
          · replace h := am_ie c8 h
            refine op_iconst (v := 1) dX12_compares_106 (by decide) ?_
            refine op_goto (tgt := 111) dX12_compares_107 (by decide) ?_
            cases h
            exact (op_iret dX12_compares_111 rfl (by decide) ⟨rfl, rfl⟩)
        · replace h := am_ip c7 h
          refine op_iload_n (k := 2) dX12_compares_86 rfl rfl ?_
          refine op_iload (k := 0) dX12_compares_87 rfl ?_
          refine op_icmp_ge (tgt := 96) dX12_compares_89 (by decide) (fun c9 => ?_) (fun c9 => ?_)
          · replace h := am_ip c9 h
            refine op_iconst (v := 0) dX12_compares_96 (by decide) ?_
            refine op_goto (tgt := 111) dX12_compares_97 (by decide) ?_
            cases h
            exact (op_iret dX12_compares_111 rfl (by decide) ⟨rfl, rfl⟩)
          · replace h := am_ie c9 h
            refine op_iconst (v := 1) dX12_compares_92 (by decide) ?_
            refine op_goto (tgt := 111) dX12_compares_93 (by decide) ?_
            cases h
            exact (op_iret dX12_compares_111 rfl (by decide) ⟨rfl, rfl⟩)
      · replace h := am_ip c6 h
        refine op_iload_n (k := 2) dX12_compares_65 rfl rfl ?_
        refine op_iload (k := 0) dX12_compares_66 rfl ?_
        refine op_icmp_ne (tgt := 75) dX12_compares_68 (by decide) (fun c10 => ?_) (fun c10 => ?_)
        · replace h := am_ie c10 h
          refine op_iconst (v := 0) dX12_compares_75 (by decide) ?_
          refine op_goto (tgt := 111) dX12_compares_76 (by decide) ?_
          cases h
          exact (op_iret dX12_compares_111 rfl (by decide) ⟨rfl, rfl⟩)
        · replace h := am_ip c10 h
          refine op_iconst (v := 1) dX12_compares_71 (by decide) ?_
          refine op_goto (tgt := 111) dX12_compares_72 (by decide) ?_
          cases h
          exact (op_iret dX12_compares_111 rfl (by decide) ⟨rfl, rfl⟩)
    · replace h := am_ip c4 h
      refine op_aload_n (k := 2) dX12_compares_37 rfl rfl ?_
      obtain ⟨w11, ew11, h⟩ := am_bd h
      refine op_callV (M' := M_X12_fails) [] (S0 := []) dX12_compares_38 tw_1409 ok_X12_fails tw_1411 tw_56 kd_53 cls_12 rfl rfl rfl (Nat.le_of_ble_eq_true rfl) (Nat.le_of_ble_eq_true rfl) (t_X12_fails (by omega) ew11) (am_le_rf _) ?_
      rintro _ _ ⟨rfl, rfl⟩
      obtain ⟨g12, h⟩ := am_gd h
      cases h
      exact (op_iret dX12_compares_41 rfl (am_zo g12) ⟨rfl, rfl⟩)
  · replace h := am_ie c1 h
    refine op_iconst (v := 0) dX12_compares_21 (by decide) ?_
    cases h
    exact (op_iret dX12_compares_22 rfl (by decide) ⟨rfl, rfl⟩)
set_option maxRecDepth 100000 in
set_option maxHeartbeats 4000000 in
theorem t_X12_compares_0 {l : Launch} {ρ : am_R} {n d gc gs : Nat} {I : Nat → Nat → Int32} {J : Nat → Nat → Int64} {T : Nat} {x1 : Int32} {x2 : Int32} {q : Int32 × (Nat → Nat → Int32)} (hd : 1 * n + 6 ≤ (d + 1))
    (h : f_X12_compares n  I J T x1 x2 = some q) : AW l ρ (d + 1) M_X12_compares 0 [(0, .ref 53), (1, .int x1), (2, .int x2)] [] (am_KD, gc, gs) (I, J, am_RT T) (am_KD, gc, gs) (fun v H' => v = [.int q.1] ∧ H' = (q.2, J, am_RT T)) := by
  unfold f_X12_compares at h
  refine op_iload_n (k := 1) dX12_compares_0 rfl rfl ?_
  refine op_if_eq (tgt := 8) dX12_compares_1 (by decide) (fun c1 => ?_) (fun c1 => ?_)
  · replace h := am_ip c1 h
    refine op_aload_n (k := 0) dX12_compares_8 rfl rfl ?_
    obtain ⟨w2, ew2, h⟩ := am_bd h
    refine op_callV (M' := M_X12_sum) [] (S0 := []) dX12_compares_9 tw_1525 ok_X12_sum tw_1527 tw_70 kd_53 cls_12 rfl rfl rfl (Nat.le_of_ble_eq_true rfl) (Nat.le_of_ble_eq_true rfl) (t_X12_sum (by omega) ew2) (am_le_rf _) ?_
    rintro _ _ ⟨rfl, rfl⟩
    refine AW.perm [0] rfl ?_
    exact t_X12_compares_12 hd  h
  · replace h := am_ie c1 h
    refine op_iload_n (k := 2) dX12_compares_4 rfl rfl ?_
    refine op_goto (tgt := 12) dX12_compares_5 (by decide) ?_
    refine AW.perm [0] rfl ?_
    exact t_X12_compares_12 hd  h
theorem t_X12_compares {l : Launch} {ρ : am_R} {n d gc gs : Nat} {I : Nat → Nat → Int32} {J : Nat → Nat → Int64} {T : Nat} {x1 : Int32} {x2 : Int32} {q : Int32 × (Nat → Nat → Int32)} (hd : 1 * n + 6 ≤ d) (h : f_X12_compares n I J T x1 x2 = some q) : AW l ρ d M_X12_compares 0 [(0, .ref 53), (1, .int x1), (2, .int x2)] [] (am_KD, gc, gs) (I, J, am_RT T) (am_KD, gc, gs) (fun v H' => v = [.int q.1] ∧ H' = (q.2, J, am_RT T)) := by
  obtain ⟨d, rfl⟩ : ∃ e, d = e + 1 := ⟨d - 1, by omega⟩
  exact t_X12_compares_0 hd h
def fb_X12_unit (n : Nat) (rc_X12_unit : (Nat → Nat → Int32) → (Nat → Nat → Int64) → Nat → Option (Int32 × (Nat → Nat → Int32))) (rc_X12_part : (Nat → Nat → Int32) → (Nat → Nat → Int64) → Nat → Int32 → Int32 → Option (Int32 × (Nat → Nat → Int32))) (rc_X12_condition : (Nat → Nat → Int32) → (Nat → Nat → Int64) → Nat → Int32 → Int32 → Option (Int32 × (Nat → Nat → Int32))) (I : Nat → Nat → Int32) (J : Nat → Nat → Int64) (T : Nat) : Option (Int32 × (Nat → Nat → Int32)) :=
  (f_X12_look n I J T).bind fun w1 =>
  if w1.1 = 33 then
   (f_X12_goesIn n w1.2 J T).bind fun w12 =>
   if w12.1 = 0 then
    some (0, w12.2)
   else
    (rc_X12_unit w12.2 J T).bind fun w14 =>
    if w14.1 = 0 then
     some (1, (am_u w14.2 53 12 ((w14.2 53 12) - 1)))
    else
     some (0, (am_u w14.2 53 12 ((w14.2 53 12) - 1)))
  else
   if w1.1 = 40 then
    (f_X12_goesIn n w1.2 J T).bind fun w6 =>
    if w6.1 = 0 then
     some (0, w6.2)
    else
     (rc_X12_condition w6.2 J T 0 0).bind fun w8 =>
     (f_X12_takes n w8.2 J T 41).bind fun w9 =>
     if w9.1 = 0 then
      some (0, w9.2)
     else
      if w8.1 = 0 ∨ w8.1 = 1 then
       some (w8.1, (am_u w9.2 53 12 ((w9.2 53 12) - 1)))
      else none
   else
    (f_X12_compares n w1.2 J T 0 0).bind fun w4 =>
    if w4.1 = 0 ∨ w4.1 = 1 then
     some (w4.1, w4.2)
    else none
def f_X12_part_65 (n : Nat) (rc_X12_unit : (Nat → Nat → Int32) → (Nat → Nat → Int64) → Nat → Option (Int32 × (Nat → Nat → Int32))) (rc_X12_part : (Nat → Nat → Int32) → (Nat → Nat → Int64) → Nat → Int32 → Int32 → Option (Int32 × (Nat → Nat → Int32))) (rc_X12_condition : (Nat → Nat → Int32) → (Nat → Nat → Int64) → Nat → Int32 → Int32 → Option (Int32 × (Nat → Nat → Int32))) (k18 : (Nat → Nat → Int32) → (Nat → Nat → Int64) → Nat → Int32 → Option (Int32 × (Nat → Nat → Int32))) (I : Nat → Nat → Int32) (J : Nat → Nat → Int64) (T : Nat) (s0 : Int32) : Option (Int32 × (Nat → Nat → Int32)) :=
  k18 I J T s0
def f_X12_part_64 (n : Nat) (rc_X12_unit : (Nat → Nat → Int32) → (Nat → Nat → Int64) → Nat → Option (Int32 × (Nat → Nat → Int32))) (rc_X12_part : (Nat → Nat → Int32) → (Nat → Nat → Int64) → Nat → Int32 → Int32 → Option (Int32 × (Nat → Nat → Int32))) (rc_X12_condition : (Nat → Nat → Int32) → (Nat → Nat → Int64) → Nat → Int32 → Int32 → Option (Int32 × (Nat → Nat → Int32))) (k18 : (Nat → Nat → Int32) → (Nat → Nat → Int64) → Nat → Int32 → Option (Int32 × (Nat → Nat → Int32))) (I : Nat → Nat → Int32) (J : Nat → Nat → Int64) (T : Nat) : Option (Int32 × (Nat → Nat → Int32)) :=
  f_X12_part_65 n rc_X12_unit rc_X12_part rc_X12_condition k18 I J T 0
def f_X12_part_18 (n : Nat) (rc_X12_unit : (Nat → Nat → Int32) → (Nat → Nat → Int64) → Nat → Option (Int32 × (Nat → Nat → Int32))) (rc_X12_part : (Nat → Nat → Int32) → (Nat → Nat → Int64) → Nat → Int32 → Int32 → Option (Int32 × (Nat → Nat → Int32))) (rc_X12_condition : (Nat → Nat → Int32) → (Nat → Nat → Int64) → Nat → Int32 → Int32 → Option (Int32 × (Nat → Nat → Int32))) : Nat → (Nat → Nat → Int32) → (Nat → Nat → Int64) → Nat → Int32 → Option (Int32 × (Nat → Nat → Int32))
  | 0, _, _, _, _ => none
  | m + 1, I, J, T, x3 =>
    if (I 53 11) = ((-1)) then
     (f_X12_look n I J T).bind fun w3 =>
     if w3.1 = 38 then
      (rc_X12_unit ((am_u w3.2 53 10 ((w3.2 53 10) + 1))) J T).bind fun w6 =>
      if x3 = 0 then
       f_X12_part_64 n rc_X12_unit rc_X12_part rc_X12_condition (f_X12_part_18 n rc_X12_unit rc_X12_part rc_X12_condition m) w6.2 J T
      else
       if w6.1 = 0 then
        f_X12_part_64 n rc_X12_unit rc_X12_part rc_X12_condition (f_X12_part_18 n rc_X12_unit rc_X12_part rc_X12_condition m) w6.2 J T
       else
        f_X12_part_65 n rc_X12_unit rc_X12_part rc_X12_condition (f_X12_part_18 n rc_X12_unit rc_X12_part rc_X12_condition m) w6.2 J T 1
     else
      if x3 = 0 ∨ x3 = 1 then
       some (x3, w3.2)
      else none
    else
     if x3 = 0 ∨ x3 = 1 then
      some (x3, I)
     else none
def f_X12_part_17 (n : Nat) (rc_X12_unit : (Nat → Nat → Int32) → (Nat → Nat → Int64) → Nat → Option (Int32 × (Nat → Nat → Int32))) (rc_X12_part : (Nat → Nat → Int32) → (Nat → Nat → Int64) → Nat → Int32 → Int32 → Option (Int32 × (Nat → Nat → Int32))) (rc_X12_condition : (Nat → Nat → Int32) → (Nat → Nat → Int64) → Nat → Int32 → Int32 → Option (Int32 × (Nat → Nat → Int32))) (I : Nat → Nat → Int32) (J : Nat → Nat → Int64) (T : Nat) (s0 : Int32) : Option (Int32 × (Nat → Nat → Int32)) :=
  f_X12_part_18 n rc_X12_unit rc_X12_part rc_X12_condition n I J T s0
def fb_X12_part (n : Nat) (rc_X12_unit : (Nat → Nat → Int32) → (Nat → Nat → Int64) → Nat → Option (Int32 × (Nat → Nat → Int32))) (rc_X12_part : (Nat → Nat → Int32) → (Nat → Nat → Int64) → Nat → Int32 → Int32 → Option (Int32 × (Nat → Nat → Int32))) (rc_X12_condition : (Nat → Nat → Int32) → (Nat → Nat → Int64) → Nat → Int32 → Int32 → Option (Int32 × (Nat → Nat → Int32))) (I : Nat → Nat → Int32) (J : Nat → Nat → Int64) (T : Nat) (x1 : Int32) (x2 : Int32) : Option (Int32 × (Nat → Nat → Int32)) :=
  if x1 = 0 then
   (rc_X12_unit I J T).bind fun w2 =>
   f_X12_part_17 n rc_X12_unit rc_X12_part rc_X12_condition w2.2 J T w2.1
  else
   (f_X12_compares n I J T 1 x2).bind fun w3 =>
   f_X12_part_17 n rc_X12_unit rc_X12_part rc_X12_condition w3.2 J T w3.1
def f_X12_condition_56 (n : Nat) (rc_X12_unit : (Nat → Nat → Int32) → (Nat → Nat → Int64) → Nat → Option (Int32 × (Nat → Nat → Int32))) (rc_X12_part : (Nat → Nat → Int32) → (Nat → Nat → Int64) → Nat → Int32 → Int32 → Option (Int32 × (Nat → Nat → Int32))) (rc_X12_condition : (Nat → Nat → Int32) → (Nat → Nat → Int64) → Nat → Int32 → Int32 → Option (Int32 × (Nat → Nat → Int32))) (k7 : (Nat → Nat → Int32) → (Nat → Nat → Int64) → Nat → Int32 → Option (Int32 × (Nat → Nat → Int32))) (I : Nat → Nat → Int32) (J : Nat → Nat → Int64) (T : Nat) (s0 : Int32) : Option (Int32 × (Nat → Nat → Int32)) :=
  k7 I J T s0
def f_X12_condition_51 (n : Nat) (rc_X12_unit : (Nat → Nat → Int32) → (Nat → Nat → Int64) → Nat → Option (Int32 × (Nat → Nat → Int32))) (rc_X12_part : (Nat → Nat → Int32) → (Nat → Nat → Int64) → Nat → Int32 → Int32 → Option (Int32 × (Nat → Nat → Int32))) (rc_X12_condition : (Nat → Nat → Int32) → (Nat → Nat → Int64) → Nat → Int32 → Int32 → Option (Int32 × (Nat → Nat → Int32))) (k7 : (Nat → Nat → Int32) → (Nat → Nat → Int64) → Nat → Int32 → Option (Int32 × (Nat → Nat → Int32))) (I : Nat → Nat → Int32) (J : Nat → Nat → Int64) (T : Nat) : Option (Int32 × (Nat → Nat → Int32)) :=
  f_X12_condition_56 n rc_X12_unit rc_X12_part rc_X12_condition k7 I J T 1
def f_X12_condition_7 (n : Nat) (rc_X12_unit : (Nat → Nat → Int32) → (Nat → Nat → Int64) → Nat → Option (Int32 × (Nat → Nat → Int32))) (rc_X12_part : (Nat → Nat → Int32) → (Nat → Nat → Int64) → Nat → Int32 → Int32 → Option (Int32 × (Nat → Nat → Int32))) (rc_X12_condition : (Nat → Nat → Int32) → (Nat → Nat → Int64) → Nat → Int32 → Int32 → Option (Int32 × (Nat → Nat → Int32))) : Nat → (Nat → Nat → Int32) → (Nat → Nat → Int64) → Nat → Int32 → Option (Int32 × (Nat → Nat → Int32))
  | 0, _, _, _, _ => none
  | m + 1, I, J, T, x3 =>
    if (I 53 11) = ((-1)) then
     (f_X12_look n I J T).bind fun w3 =>
     if w3.1 = 124 then
      (rc_X12_part ((am_u w3.2 53 10 ((w3.2 53 10) + 1))) J T 0 0).bind fun w6 =>
      if x3 = 0 then
       if w6.1 = 0 then
        f_X12_condition_56 n rc_X12_unit rc_X12_part rc_X12_condition (f_X12_condition_7 n rc_X12_unit rc_X12_part rc_X12_condition m) w6.2 J T 0
       else
        f_X12_condition_51 n rc_X12_unit rc_X12_part rc_X12_condition (f_X12_condition_7 n rc_X12_unit rc_X12_part rc_X12_condition m) w6.2 J T
      else
       f_X12_condition_51 n rc_X12_unit rc_X12_part rc_X12_condition (f_X12_condition_7 n rc_X12_unit rc_X12_part rc_X12_condition m) w6.2 J T
     else
      if x3 = 0 ∨ x3 = 1 then
       some (x3, w3.2)
      else none
    else
     if x3 = 0 ∨ x3 = 1 then
      some (x3, I)
     else none
def fb_X12_condition (n : Nat) (rc_X12_unit : (Nat → Nat → Int32) → (Nat → Nat → Int64) → Nat → Option (Int32 × (Nat → Nat → Int32))) (rc_X12_part : (Nat → Nat → Int32) → (Nat → Nat → Int64) → Nat → Int32 → Int32 → Option (Int32 × (Nat → Nat → Int32))) (rc_X12_condition : (Nat → Nat → Int32) → (Nat → Nat → Int64) → Nat → Int32 → Int32 → Option (Int32 × (Nat → Nat → Int32))) (I : Nat → Nat → Int32) (J : Nat → Nat → Int64) (T : Nat) (x1 : Int32) (x2 : Int32) : Option (Int32 × (Nat → Nat → Int32)) :=
  (rc_X12_part I J T x1 x2).bind fun w1 =>
  f_X12_condition_7 n rc_X12_unit rc_X12_part rc_X12_condition n w1.2 J T w1.1
def fx_X12_unit (n : Nat) : Nat → ((Nat → Nat → Int32) → (Nat → Nat → Int64) → Nat → Option (Int32 × (Nat → Nat → Int32))) × ((Nat → Nat → Int32) → (Nat → Nat → Int64) → Nat → Int32 → Int32 → Option (Int32 × (Nat → Nat → Int32))) × ((Nat → Nat → Int32) → (Nat → Nat → Int64) → Nat → Int32 → Int32 → Option (Int32 × (Nat → Nat → Int32)))
  | 0 => (fun _ _ _ => none, fun _ _ _ _ _ => none, fun _ _ _ _ _ => none)
  | r + 1 => (fb_X12_unit n (fx_X12_unit n r).1 (fx_X12_unit n r).2.1 (fx_X12_unit n r).2.2, fb_X12_part n (fx_X12_unit n r).1 (fx_X12_unit n r).2.1 (fx_X12_unit n r).2.2, fb_X12_condition n (fx_X12_unit n r).1 (fx_X12_unit n r).2.1 (fx_X12_unit n r).2.2)
def f_X12_unit (n : Nat) : (Nat → Nat → Int32) → (Nat → Nat → Int64) → Nat → Option (Int32 × (Nat → Nat → Int32)) := (fx_X12_unit n n).1
def f_X12_part (n : Nat) : (Nat → Nat → Int32) → (Nat → Nat → Int64) → Nat → Int32 → Int32 → Option (Int32 × (Nat → Nat → Int32)) := (fx_X12_unit n n).2.1
def f_X12_condition (n : Nat) : (Nat → Nat → Int32) → (Nat → Nat → Int64) → Nat → Int32 → Int32 → Option (Int32 × (Nat → Nat → Int32)) := (fx_X12_unit n n).2.2
set_option maxRecDepth 100000 in
set_option maxHeartbeats 4000000 in
theorem t_X12_unit_0 {l : Launch} {ρ : am_R} {n d gc gs : Nat} {rc_X12_unit : (Nat → Nat → Int32) → (Nat → Nat → Int64) → Nat → Option (Int32 × (Nat → Nat → Int32))} {rc_X12_part : (Nat → Nat → Int32) → (Nat → Nat → Int64) → Nat → Int32 → Int32 → Option (Int32 × (Nat → Nat → Int32))} {rc_X12_condition : (Nat → Nat → Int32) → (Nat → Nat → Int64) → Nat → Int32 → Int32 → Option (Int32 × (Nat → Nat → Int32))} {I : Nat → Nat → Int32} {J : Nat → Nat → Int64} {T : Nat} {q : Int32 × (Nat → Nat → Int32)} (hd : 1 * n + 7 ≤ (d + 1))
    (hr_X12_unit : ∀ (I : Nat → Nat → Int32) (J : Nat → Nat → Int64) (T : Nat) (q : Int32 × (Nat → Nat → Int32)) (gc gs : Nat), rc_X12_unit I J T  = some q → AW l ρ d M_X12_unit 0 [(0, .ref 53)] [] (am_KD, gc, gs) (I, J, am_RT T) (am_KD, gc, gs) (fun v H' => v = [.int q.1] ∧ H' = (q.2, J, am_RT T)))
    (hr_X12_part : ∀ (I : Nat → Nat → Int32) (J : Nat → Nat → Int64) (T : Nat) (x1 : Int32) (x2 : Int32) (q : Int32 × (Nat → Nat → Int32)) (gc gs : Nat), rc_X12_part I J T x1 x2 = some q → AW l ρ d M_X12_part 0 [(0, .ref 53), (1, .int x1), (2, .int x2)] [] (am_KD, gc, gs) (I, J, am_RT T) (am_KD, gc, gs) (fun v H' => v = [.int q.1] ∧ H' = (q.2, J, am_RT T)))
    (hr_X12_condition : ∀ (I : Nat → Nat → Int32) (J : Nat → Nat → Int64) (T : Nat) (x1 : Int32) (x2 : Int32) (q : Int32 × (Nat → Nat → Int32)) (gc gs : Nat), rc_X12_condition I J T x1 x2 = some q → AW l ρ d M_X12_condition 0 [(0, .ref 53), (1, .int x1), (2, .int x2)] [] (am_KD, gc, gs) (I, J, am_RT T) (am_KD, gc, gs) (fun v H' => v = [.int q.1] ∧ H' = (q.2, J, am_RT T)))
    (h : fb_X12_unit n rc_X12_unit rc_X12_part rc_X12_condition I J T  = some q) : AW l ρ (d + 1) M_X12_unit 0 [(0, .ref 53)] [] (am_KD, gc, gs) (I, J, am_RT T) (am_KD, gc, gs) (fun v H' => v = [.int q.1] ∧ H' = (q.2, J, am_RT T)) := by
  unfold fb_X12_unit at h
  refine op_aload_n (k := 0) dX12_unit_0 rfl rfl ?_
  obtain ⟨w1, ew1, h⟩ := am_bd h
  refine op_callV (M' := M_X12_look) [] (S0 := []) dX12_unit_1 tw_1405 ok_X12_look tw_1407 tw_55 kd_53 cls_12 rfl rfl rfl (Nat.le_of_ble_eq_true rfl) (Nat.le_of_ble_eq_true rfl) (t_X12_look (by omega) ew1) (am_le_rf _) ?_
  rintro _ _ ⟨rfl, rfl⟩
  refine op_istore_n (L' := [(1, .int w1.1), (0, .ref 53)]) dX12_unit_4 rfl (by decide) rfl ?_
  refine op_iload_n (k := 0) dX12_unit_5 rfl rfl ?_
  refine op_bipush (v := 33) dX12_unit_6 (by decide) ?_
  refine op_icmp_ne (tgt := 45) dX12_unit_8 (by decide) (fun c2 => ?_) (fun c2 => ?_)
  · replace h := am_ie c2 h
    refine op_iload_n (k := 0) dX12_unit_45 rfl rfl ?_
    refine op_bipush (v := 40) dX12_unit_46 (by decide) ?_
    refine op_icmp_ne (tgt := 90) dX12_unit_48 (by decide) (fun c3 => ?_) (fun c3 => ?_)
    · replace h := am_ie c3 h
      refine op_aload_n (k := 1) dX12_unit_90 rfl rfl ?_
      refine op_iconst (v := 0) dX12_unit_91 (by decide) ?_
      refine op_iconst (v := 0) dX12_unit_92 (by decide) ?_
      obtain ⟨w4, ew4, h⟩ := am_bd h
      refine op_callV (M' := M_X12_compares) [.int 0, .int 0] (S0 := []) dX12_unit_93 tw_1521 ok_X12_compares tw_1523 tw_69 kd_53 cls_12 rfl rfl rfl (Nat.le_of_ble_eq_true rfl) (Nat.le_of_ble_eq_true rfl) (t_X12_compares (by omega) ew4) (am_le_rf _) ?_
      rintro _ _ ⟨rfl, rfl⟩
      obtain ⟨g5, h⟩ := am_gd h
      cases h
      exact (op_iret dX12_unit_96 rfl (am_zo g5) ⟨rfl, rfl⟩)
    · replace h := am_ip c3 h
      refine op_aload_n (k := 1) dX12_unit_51 rfl rfl ?_
      obtain ⟨w6, ew6, h⟩ := am_bd h
      refine op_callV (M' := M_X12_goesIn) [] (S0 := []) dX12_unit_52 tw_1537 ok_X12_goesIn tw_1539 tw_73 kd_53 cls_12 rfl rfl rfl (Nat.le_of_ble_eq_true rfl) (Nat.le_of_ble_eq_true rfl) (t_X12_goesIn (by omega) ew6) (am_le_rf _) ?_
      rintro _ _ ⟨rfl, rfl⟩
      refine op_if_ne (tgt := 60) dX12_unit_55 (by decide) (fun c7 => ?_) (fun c7 => ?_)
      · replace h := am_ie c7 h
        refine op_aload_n (k := 1) dX12_unit_60 rfl rfl ?_
        refine op_iconst (v := 0) dX12_unit_61 (by decide) ?_
        refine op_iconst (v := 0) dX12_unit_62 (by decide) ?_
        obtain ⟨w8, ew8, h⟩ := am_bd h
        refine op_callV (M' := M_X12_condition) [.int 0, .int 0] (S0 := []) dX12_unit_63 tw_1513 ok_X12_condition tw_1515 tw_67 kd_53 cls_12 rfl rfl rfl (Nat.le_of_ble_eq_true rfl) (Nat.le_of_ble_eq_true rfl) (hr_X12_condition _ _ _ _ _ _ _ _ ew8) (am_le_rf _) ?_
        rintro _ _ ⟨rfl, rfl⟩
        refine op_istore_n (L' := [(2, .int w8.1), (1, .int w1.1), (0, .ref 53)]) dX12_unit_66 rfl (by decide) rfl ?_
        refine op_aload_n (k := 2) dX12_unit_67 rfl rfl ?_
        refine op_bipush (v := 41) dX12_unit_68 (by decide) ?_
        obtain ⟨w9, ew9, h⟩ := am_bd h
        refine op_callV (M' := M_X12_takes) [.int 41] (S0 := []) dX12_unit_70 tw_1509 ok_X12_takes tw_1511 tw_66 kd_53 cls_12 rfl rfl rfl (Nat.le_of_ble_eq_true rfl) (Nat.le_of_ble_eq_true rfl) (t_X12_takes (by omega) ew9) (am_le_rf _) ?_
        rintro _ _ ⟨rfl, rfl⟩
        refine op_if_ne (tgt := 78) dX12_unit_73 (by decide) (fun c10 => ?_) (fun c10 => ?_)
        · replace h := am_ie c10 h
          refine op_aload_n (k := 2) dX12_unit_78 rfl rfl ?_
          refine op_dup dX12_unit_79 rfl ?_
          refine st_getI (v := w9.2 53 12) dX12_unit_80 fl_X12_153 kd_53 (by decide) rfl rfl ?_
          refine op_iconst (v := 1) dX12_unit_83 (by decide) ?_
          refine op_isub dX12_unit_84 ?_
          refine st_putI dX12_unit_85 fl_X12_153 kd_53 (by decide) rfl ?_
          refine op_iload_n (k := 0) dX12_unit_88 rfl rfl ?_
          obtain ⟨g11, h⟩ := am_gd h
          cases h
          exact (op_iret dX12_unit_89 rfl (am_zo g11) ⟨rfl, rfl⟩)
        · replace h := am_ip c10 h
          refine op_iconst (v := 0) dX12_unit_76 (by decide) ?_
          cases h
          exact (op_iret dX12_unit_77 rfl (by decide) ⟨rfl, rfl⟩)
      · replace h := am_ip c7 h
        refine op_iconst (v := 0) dX12_unit_58 (by decide) ?_
        cases h
        exact (op_iret dX12_unit_59 rfl (by decide) ⟨rfl, rfl⟩)
  · replace h := am_ip c2 h
    refine op_aload_n (k := 1) dX12_unit_11 rfl rfl ?_
    obtain ⟨w12, ew12, h⟩ := am_bd h
    refine op_callV (M' := M_X12_goesIn) [] (S0 := []) dX12_unit_12 tw_1537 ok_X12_goesIn tw_1539 tw_73 kd_53 cls_12 rfl rfl rfl (Nat.le_of_ble_eq_true rfl) (Nat.le_of_ble_eq_true rfl) (t_X12_goesIn (by omega) ew12) (am_le_rf _) ?_
    rintro _ _ ⟨rfl, rfl⟩
    refine op_if_ne (tgt := 20) dX12_unit_15 (by decide) (fun c13 => ?_) (fun c13 => ?_)
    · replace h := am_ie c13 h
      refine op_aload_n (k := 1) dX12_unit_20 rfl rfl ?_
      obtain ⟨w14, ew14, h⟩ := am_bd h
      refine op_callV (M' := M_X12_unit) [] (S0 := []) dX12_unit_21 tw_1551 ok_X12_unit tw_1553 tw_74 kd_53 cls_12 rfl rfl rfl (Nat.le_of_ble_eq_true rfl) (Nat.le_of_ble_eq_true rfl) (hr_X12_unit _ _ _ _ _ _ ew14) (am_le_rf _) ?_
      rintro _ _ ⟨rfl, rfl⟩
      refine op_istore_n (L' := [(2, .int w14.1), (1, .int w1.1), (0, .ref 53)]) dX12_unit_24 rfl (by decide) rfl ?_
      refine op_aload_n (k := 2) dX12_unit_25 rfl rfl ?_
      refine op_dup dX12_unit_26 rfl ?_
      refine st_getI (v := w14.2 53 12) dX12_unit_27 fl_X12_153 kd_53 (by decide) rfl rfl ?_
      refine op_iconst (v := 1) dX12_unit_30 (by decide) ?_
      refine op_isub dX12_unit_31 ?_
      refine st_putI dX12_unit_32 fl_X12_153 kd_53 (by decide) rfl ?_
      refine op_iload_n (k := 0) dX12_unit_35 rfl rfl ?_
      refine op_if_ne (tgt := 43) dX12_unit_36 (by decide) (fun c15 => ?_) (fun c15 => ?_)
      · replace h := am_ie c15 h
        refine op_iconst (v := 0) dX12_unit_43 (by decide) ?_
        cases h
        exact (op_iret dX12_unit_44 rfl (by decide) ⟨rfl, rfl⟩)
      · replace h := am_ip c15 h
        refine op_iconst (v := 1) dX12_unit_39 (by decide) ?_
        refine op_goto (tgt := 44) dX12_unit_40 (by decide) ?_
        cases h
        exact (op_iret dX12_unit_44 rfl (by decide) ⟨rfl, rfl⟩)
    · replace h := am_ip c13 h
      refine op_iconst (v := 0) dX12_unit_18 (by decide) ?_
      cases h
      exact (op_iret dX12_unit_19 rfl (by decide) ⟨rfl, rfl⟩)
set_option maxRecDepth 100000 in
set_option maxHeartbeats 4000000 in
theorem t_X12_part_65 {l : Launch} {ρ : am_R} {n d gc gs : Nat} {rc_X12_unit : (Nat → Nat → Int32) → (Nat → Nat → Int64) → Nat → Option (Int32 × (Nat → Nat → Int32))} {rc_X12_part : (Nat → Nat → Int32) → (Nat → Nat → Int64) → Nat → Int32 → Int32 → Option (Int32 × (Nat → Nat → Int32))} {rc_X12_condition : (Nat → Nat → Int32) → (Nat → Nat → Int64) → Nat → Int32 → Int32 → Option (Int32 × (Nat → Nat → Int32))} {k18 : (Nat → Nat → Int32) → (Nat → Nat → Int64) → Nat → Int32 → Option (Int32 × (Nat → Nat → Int32))} {I : Nat → Nat → Int32} {J : Nat → Nat → Int64} {T : Nat} {s0 : Int32} {q : Int32 × (Nat → Nat → Int32)} (hd : 1 * n + 7 ≤ (d + 1))
    (hr_X12_unit : ∀ (I : Nat → Nat → Int32) (J : Nat → Nat → Int64) (T : Nat) (q : Int32 × (Nat → Nat → Int32)) (gc gs : Nat), rc_X12_unit I J T  = some q → AW l ρ d M_X12_unit 0 [(0, .ref 53)] [] (am_KD, gc, gs) (I, J, am_RT T) (am_KD, gc, gs) (fun v H' => v = [.int q.1] ∧ H' = (q.2, J, am_RT T)))
    (hr_X12_part : ∀ (I : Nat → Nat → Int32) (J : Nat → Nat → Int64) (T : Nat) (x1 : Int32) (x2 : Int32) (q : Int32 × (Nat → Nat → Int32)) (gc gs : Nat), rc_X12_part I J T x1 x2 = some q → AW l ρ d M_X12_part 0 [(0, .ref 53), (1, .int x1), (2, .int x2)] [] (am_KD, gc, gs) (I, J, am_RT T) (am_KD, gc, gs) (fun v H' => v = [.int q.1] ∧ H' = (q.2, J, am_RT T)))
    (hr_X12_condition : ∀ (I : Nat → Nat → Int32) (J : Nat → Nat → Int64) (T : Nat) (x1 : Int32) (x2 : Int32) (q : Int32 × (Nat → Nat → Int32)) (gc gs : Nat), rc_X12_condition I J T x1 x2 = some q → AW l ρ d M_X12_condition 0 [(0, .ref 53), (1, .int x1), (2, .int x2)] [] (am_KD, gc, gs) (I, J, am_RT T) (am_KD, gc, gs) (fun v H' => v = [.int q.1] ∧ H' = (q.2, J, am_RT T)))
    (hk18 : ∀ (I : Nat → Nat → Int32) (J : Nat → Nat → Int64) (T : Nat) (x3 : Int32), k18 I J T x3 = some q → AW l ρ (d + 1) M_X12_part 18 [(0, .ref 53), (3, .int x3)] [] (am_KD, gc, gs) (I, J, am_RT T) (am_KD, gc, gs) (fun v H' => v = [.int q.1] ∧ H' = (q.2, J, am_RT T)))
    (h : f_X12_part_65 n rc_X12_unit rc_X12_part rc_X12_condition k18 I J T s0 = some q) : AW l ρ (d + 1) M_X12_part 65 [(0, .ref 53)] [.int s0] (am_KD, gc, gs) (I, J, am_RT T) (am_KD, gc, gs) (fun v H' => v = [.int q.1] ∧ H' = (q.2, J, am_RT T)) := by
  unfold f_X12_part_65 at h
  refine op_istore_n (L' := [(3, .int s0), (0, .ref 53)]) dX12_part_65 rfl (by decide) rfl ?_
  refine op_goto (tgt := 18) dX12_part_66 (by decide) ?_
  refine AW.perm [1, 0] rfl ?_
  exact hk18 _ _ _ _ h
set_option maxRecDepth 100000 in
set_option maxHeartbeats 4000000 in
theorem t_X12_part_64 {l : Launch} {ρ : am_R} {n d gc gs : Nat} {rc_X12_unit : (Nat → Nat → Int32) → (Nat → Nat → Int64) → Nat → Option (Int32 × (Nat → Nat → Int32))} {rc_X12_part : (Nat → Nat → Int32) → (Nat → Nat → Int64) → Nat → Int32 → Int32 → Option (Int32 × (Nat → Nat → Int32))} {rc_X12_condition : (Nat → Nat → Int32) → (Nat → Nat → Int64) → Nat → Int32 → Int32 → Option (Int32 × (Nat → Nat → Int32))} {k18 : (Nat → Nat → Int32) → (Nat → Nat → Int64) → Nat → Int32 → Option (Int32 × (Nat → Nat → Int32))} {I : Nat → Nat → Int32} {J : Nat → Nat → Int64} {T : Nat} {q : Int32 × (Nat → Nat → Int32)} (hd : 1 * n + 7 ≤ (d + 1))
    (hr_X12_unit : ∀ (I : Nat → Nat → Int32) (J : Nat → Nat → Int64) (T : Nat) (q : Int32 × (Nat → Nat → Int32)) (gc gs : Nat), rc_X12_unit I J T  = some q → AW l ρ d M_X12_unit 0 [(0, .ref 53)] [] (am_KD, gc, gs) (I, J, am_RT T) (am_KD, gc, gs) (fun v H' => v = [.int q.1] ∧ H' = (q.2, J, am_RT T)))
    (hr_X12_part : ∀ (I : Nat → Nat → Int32) (J : Nat → Nat → Int64) (T : Nat) (x1 : Int32) (x2 : Int32) (q : Int32 × (Nat → Nat → Int32)) (gc gs : Nat), rc_X12_part I J T x1 x2 = some q → AW l ρ d M_X12_part 0 [(0, .ref 53), (1, .int x1), (2, .int x2)] [] (am_KD, gc, gs) (I, J, am_RT T) (am_KD, gc, gs) (fun v H' => v = [.int q.1] ∧ H' = (q.2, J, am_RT T)))
    (hr_X12_condition : ∀ (I : Nat → Nat → Int32) (J : Nat → Nat → Int64) (T : Nat) (x1 : Int32) (x2 : Int32) (q : Int32 × (Nat → Nat → Int32)) (gc gs : Nat), rc_X12_condition I J T x1 x2 = some q → AW l ρ d M_X12_condition 0 [(0, .ref 53), (1, .int x1), (2, .int x2)] [] (am_KD, gc, gs) (I, J, am_RT T) (am_KD, gc, gs) (fun v H' => v = [.int q.1] ∧ H' = (q.2, J, am_RT T)))
    (hk18 : ∀ (I : Nat → Nat → Int32) (J : Nat → Nat → Int64) (T : Nat) (x3 : Int32), k18 I J T x3 = some q → AW l ρ (d + 1) M_X12_part 18 [(0, .ref 53), (3, .int x3)] [] (am_KD, gc, gs) (I, J, am_RT T) (am_KD, gc, gs) (fun v H' => v = [.int q.1] ∧ H' = (q.2, J, am_RT T)))
    (h : f_X12_part_64 n rc_X12_unit rc_X12_part rc_X12_condition k18 I J T  = some q) : AW l ρ (d + 1) M_X12_part 64 [(0, .ref 53)] [] (am_KD, gc, gs) (I, J, am_RT T) (am_KD, gc, gs) (fun v H' => v = [.int q.1] ∧ H' = (q.2, J, am_RT T)) := by
  unfold f_X12_part_64 at h
  refine op_iconst (v := 0) dX12_part_64 (by decide) ?_
  exact t_X12_part_65 hd hr_X12_unit hr_X12_part hr_X12_condition hk18 h
set_option maxRecDepth 100000 in
set_option maxHeartbeats 4000000 in
theorem t_X12_part_18 {l : Launch} {ρ : am_R} {n d gc gs : Nat} {rc_X12_unit : (Nat → Nat → Int32) → (Nat → Nat → Int64) → Nat → Option (Int32 × (Nat → Nat → Int32))} {rc_X12_part : (Nat → Nat → Int32) → (Nat → Nat → Int64) → Nat → Int32 → Int32 → Option (Int32 × (Nat → Nat → Int32))} {rc_X12_condition : (Nat → Nat → Int32) → (Nat → Nat → Int64) → Nat → Int32 → Int32 → Option (Int32 × (Nat → Nat → Int32))} {q : Int32 × (Nat → Nat → Int32)} (hd : 1 * n + 7 ≤ (d + 1))
    (hr_X12_unit : ∀ (I : Nat → Nat → Int32) (J : Nat → Nat → Int64) (T : Nat) (q : Int32 × (Nat → Nat → Int32)) (gc gs : Nat), rc_X12_unit I J T  = some q → AW l ρ d M_X12_unit 0 [(0, .ref 53)] [] (am_KD, gc, gs) (I, J, am_RT T) (am_KD, gc, gs) (fun v H' => v = [.int q.1] ∧ H' = (q.2, J, am_RT T)))
    (hr_X12_part : ∀ (I : Nat → Nat → Int32) (J : Nat → Nat → Int64) (T : Nat) (x1 : Int32) (x2 : Int32) (q : Int32 × (Nat → Nat → Int32)) (gc gs : Nat), rc_X12_part I J T x1 x2 = some q → AW l ρ d M_X12_part 0 [(0, .ref 53), (1, .int x1), (2, .int x2)] [] (am_KD, gc, gs) (I, J, am_RT T) (am_KD, gc, gs) (fun v H' => v = [.int q.1] ∧ H' = (q.2, J, am_RT T)))
    (hr_X12_condition : ∀ (I : Nat → Nat → Int32) (J : Nat → Nat → Int64) (T : Nat) (x1 : Int32) (x2 : Int32) (q : Int32 × (Nat → Nat → Int32)) (gc gs : Nat), rc_X12_condition I J T x1 x2 = some q → AW l ρ d M_X12_condition 0 [(0, .ref 53), (1, .int x1), (2, .int x2)] [] (am_KD, gc, gs) (I, J, am_RT T) (am_KD, gc, gs) (fun v H' => v = [.int q.1] ∧ H' = (q.2, J, am_RT T)))
    : ∀ (m : Nat) (I : Nat → Nat → Int32) (J : Nat → Nat → Int64) (T : Nat) (x3 : Int32), f_X12_part_18 n rc_X12_unit rc_X12_part rc_X12_condition m I J T x3 = some q → AW l ρ (d + 1) M_X12_part 18 [(0, .ref 53), (3, .int x3)] [] (am_KD, gc, gs) (I, J, am_RT T) (am_KD, gc, gs) (fun v H' => v = [.int q.1] ∧ H' = (q.2, J, am_RT T)) := by
  intro m
  induction m with
  | zero =>
    intro I J T x3 h
    rw [f_X12_part_18] at h
    cases h
  | succ m ih =>
    intro I J T x3 h
    rw [f_X12_part_18] at h
    refine op_aload_n (k := 0) dX12_part_18 rfl rfl ?_
    refine st_getI (v := I 53 11) dX12_part_19 fl_X12_150 kd_53 (by decide) rfl rfl ?_
    refine op_iconst (v := (-1)) dX12_part_22 (by decide) ?_
    refine op_icmp_ne (tgt := 69) dX12_part_23 (by decide) (fun c1 => ?_) (fun c1 => ?_)
    · replace h := am_ie c1 h
      refine op_iload_n (k := 1) dX12_part_69 rfl rfl ?_
      obtain ⟨g2, h⟩ := am_gd h
      cases h
      exact (op_iret dX12_part_70 rfl (am_zo g2) ⟨rfl, rfl⟩)
    · replace h := am_ip c1 h
      refine op_aload_n (k := 0) dX12_part_26 rfl rfl ?_
      obtain ⟨w3, ew3, h⟩ := am_bd h
      refine op_callV (M' := M_X12_look) [] (S0 := []) dX12_part_27 tw_1405 ok_X12_look tw_1407 tw_55 kd_53 cls_12 rfl rfl rfl (Nat.le_of_ble_eq_true rfl) (Nat.le_of_ble_eq_true rfl) (t_X12_look (by omega) ew3) (am_le_rf _) ?_
      rintro _ _ ⟨rfl, rfl⟩
      refine op_bipush (v := 38) dX12_part_30 (by decide) ?_
      refine op_icmp_ne (tgt := 69) dX12_part_32 (by decide) (fun c4 => ?_) (fun c4 => ?_)
      · replace h := am_ie c4 h
        refine op_iload_n (k := 1) dX12_part_69 rfl rfl ?_
        obtain ⟨g5, h⟩ := am_gd h
        cases h
        exact (op_iret dX12_part_70 rfl (am_zo g5) ⟨rfl, rfl⟩)
      · replace h := am_ip c4 h
        refine op_aload_n (k := 0) dX12_part_35 rfl rfl ?_
        refine op_dup dX12_part_36 rfl ?_
        refine st_getI (v := w3.2 53 10) dX12_part_37 fl_X12_141 kd_53 (by decide) rfl rfl ?_
        refine op_iconst (v := 1) dX12_part_40 (by decide) ?_
        refine op_iadd dX12_part_41 ?_
        refine st_putI dX12_part_42 fl_X12_141 kd_53 (by decide) rfl ?_
        refine op_aload_n (k := 0) dX12_part_45 rfl rfl ?_
        obtain ⟨w6, ew6, h⟩ := am_bd h
        refine op_callV (M' := M_X12_unit) [] (S0 := []) dX12_part_46 tw_1551 ok_X12_unit tw_1553 tw_74 kd_53 cls_12 rfl rfl rfl (Nat.le_of_ble_eq_true rfl) (Nat.le_of_ble_eq_true rfl) (hr_X12_unit _ _ _ _ _ _ ew6) (am_le_rf _) ?_
        rintro _ _ ⟨rfl, rfl⟩
        refine op_istore (L' := [(4, .int w6.1), (0, .ref 53), (3, .int x3)]) dX12_part_49 (by decide) rfl ?_
        refine op_iload_n (k := 2) dX12_part_51 rfl rfl ?_
        refine op_if_eq (tgt := 64) dX12_part_52 (by decide) (fun c7 => ?_) (fun c7 => ?_)
        · replace h := am_ip c7 h
          refine AW.perm [1] rfl ?_
          exact t_X12_part_64 hd hr_X12_unit hr_X12_part hr_X12_condition ih h
        · replace h := am_ie c7 h
          refine op_iload (k := 0) dX12_part_55 rfl ?_
          refine op_if_eq (tgt := 64) dX12_part_57 (by decide) (fun c8 => ?_) (fun c8 => ?_)
          · replace h := am_ip c8 h
            refine AW.perm [1] rfl ?_
            exact t_X12_part_64 hd hr_X12_unit hr_X12_part hr_X12_condition ih h
          · replace h := am_ie c8 h
            refine op_iconst (v := 1) dX12_part_60 (by decide) ?_
            refine op_goto (tgt := 65) dX12_part_61 (by decide) ?_
            refine AW.perm [1] rfl ?_
            exact t_X12_part_65 hd hr_X12_unit hr_X12_part hr_X12_condition ih h
set_option maxRecDepth 100000 in
set_option maxHeartbeats 4000000 in
theorem t_X12_part_17 {l : Launch} {ρ : am_R} {n d gc gs : Nat} {rc_X12_unit : (Nat → Nat → Int32) → (Nat → Nat → Int64) → Nat → Option (Int32 × (Nat → Nat → Int32))} {rc_X12_part : (Nat → Nat → Int32) → (Nat → Nat → Int64) → Nat → Int32 → Int32 → Option (Int32 × (Nat → Nat → Int32))} {rc_X12_condition : (Nat → Nat → Int32) → (Nat → Nat → Int64) → Nat → Int32 → Int32 → Option (Int32 × (Nat → Nat → Int32))} {I : Nat → Nat → Int32} {J : Nat → Nat → Int64} {T : Nat} {s0 : Int32} {q : Int32 × (Nat → Nat → Int32)} (hd : 1 * n + 7 ≤ (d + 1))
    (hr_X12_unit : ∀ (I : Nat → Nat → Int32) (J : Nat → Nat → Int64) (T : Nat) (q : Int32 × (Nat → Nat → Int32)) (gc gs : Nat), rc_X12_unit I J T  = some q → AW l ρ d M_X12_unit 0 [(0, .ref 53)] [] (am_KD, gc, gs) (I, J, am_RT T) (am_KD, gc, gs) (fun v H' => v = [.int q.1] ∧ H' = (q.2, J, am_RT T)))
    (hr_X12_part : ∀ (I : Nat → Nat → Int32) (J : Nat → Nat → Int64) (T : Nat) (x1 : Int32) (x2 : Int32) (q : Int32 × (Nat → Nat → Int32)) (gc gs : Nat), rc_X12_part I J T x1 x2 = some q → AW l ρ d M_X12_part 0 [(0, .ref 53), (1, .int x1), (2, .int x2)] [] (am_KD, gc, gs) (I, J, am_RT T) (am_KD, gc, gs) (fun v H' => v = [.int q.1] ∧ H' = (q.2, J, am_RT T)))
    (hr_X12_condition : ∀ (I : Nat → Nat → Int32) (J : Nat → Nat → Int64) (T : Nat) (x1 : Int32) (x2 : Int32) (q : Int32 × (Nat → Nat → Int32)) (gc gs : Nat), rc_X12_condition I J T x1 x2 = some q → AW l ρ d M_X12_condition 0 [(0, .ref 53), (1, .int x1), (2, .int x2)] [] (am_KD, gc, gs) (I, J, am_RT T) (am_KD, gc, gs) (fun v H' => v = [.int q.1] ∧ H' = (q.2, J, am_RT T)))
    (h : f_X12_part_17 n rc_X12_unit rc_X12_part rc_X12_condition I J T s0 = some q) : AW l ρ (d + 1) M_X12_part 17 [(0, .ref 53)] [.int s0] (am_KD, gc, gs) (I, J, am_RT T) (am_KD, gc, gs) (fun v H' => v = [.int q.1] ∧ H' = (q.2, J, am_RT T)) := by
  unfold f_X12_part_17 at h
  refine op_istore_n (L' := [(3, .int s0), (0, .ref 53)]) dX12_part_17 rfl (by decide) rfl ?_
  refine AW.perm [1, 0] rfl ?_
  exact t_X12_part_18 hd hr_X12_unit hr_X12_part hr_X12_condition n _ _ _ _ h
set_option maxRecDepth 100000 in
set_option maxHeartbeats 4000000 in
theorem t_X12_part_0 {l : Launch} {ρ : am_R} {n d gc gs : Nat} {rc_X12_unit : (Nat → Nat → Int32) → (Nat → Nat → Int64) → Nat → Option (Int32 × (Nat → Nat → Int32))} {rc_X12_part : (Nat → Nat → Int32) → (Nat → Nat → Int64) → Nat → Int32 → Int32 → Option (Int32 × (Nat → Nat → Int32))} {rc_X12_condition : (Nat → Nat → Int32) → (Nat → Nat → Int64) → Nat → Int32 → Int32 → Option (Int32 × (Nat → Nat → Int32))} {I : Nat → Nat → Int32} {J : Nat → Nat → Int64} {T : Nat} {x1 : Int32} {x2 : Int32} {q : Int32 × (Nat → Nat → Int32)} (hd : 1 * n + 7 ≤ (d + 1))
    (hr_X12_unit : ∀ (I : Nat → Nat → Int32) (J : Nat → Nat → Int64) (T : Nat) (q : Int32 × (Nat → Nat → Int32)) (gc gs : Nat), rc_X12_unit I J T  = some q → AW l ρ d M_X12_unit 0 [(0, .ref 53)] [] (am_KD, gc, gs) (I, J, am_RT T) (am_KD, gc, gs) (fun v H' => v = [.int q.1] ∧ H' = (q.2, J, am_RT T)))
    (hr_X12_part : ∀ (I : Nat → Nat → Int32) (J : Nat → Nat → Int64) (T : Nat) (x1 : Int32) (x2 : Int32) (q : Int32 × (Nat → Nat → Int32)) (gc gs : Nat), rc_X12_part I J T x1 x2 = some q → AW l ρ d M_X12_part 0 [(0, .ref 53), (1, .int x1), (2, .int x2)] [] (am_KD, gc, gs) (I, J, am_RT T) (am_KD, gc, gs) (fun v H' => v = [.int q.1] ∧ H' = (q.2, J, am_RT T)))
    (hr_X12_condition : ∀ (I : Nat → Nat → Int32) (J : Nat → Nat → Int64) (T : Nat) (x1 : Int32) (x2 : Int32) (q : Int32 × (Nat → Nat → Int32)) (gc gs : Nat), rc_X12_condition I J T x1 x2 = some q → AW l ρ d M_X12_condition 0 [(0, .ref 53), (1, .int x1), (2, .int x2)] [] (am_KD, gc, gs) (I, J, am_RT T) (am_KD, gc, gs) (fun v H' => v = [.int q.1] ∧ H' = (q.2, J, am_RT T)))
    (h : fb_X12_part n rc_X12_unit rc_X12_part rc_X12_condition I J T x1 x2 = some q) : AW l ρ (d + 1) M_X12_part 0 [(0, .ref 53), (1, .int x1), (2, .int x2)] [] (am_KD, gc, gs) (I, J, am_RT T) (am_KD, gc, gs) (fun v H' => v = [.int q.1] ∧ H' = (q.2, J, am_RT T)) := by
  unfold fb_X12_part at h
  refine op_iload_n (k := 1) dX12_part_0 rfl rfl ?_
  refine op_if_eq (tgt := 13) dX12_part_1 (by decide) (fun c1 => ?_) (fun c1 => ?_)
  · replace h := am_ip c1 h
    refine op_aload_n (k := 0) dX12_part_13 rfl rfl ?_
    obtain ⟨w2, ew2, h⟩ := am_bd h
    refine op_callV (M' := M_X12_unit) [] (S0 := []) dX12_part_14 tw_1551 ok_X12_unit tw_1553 tw_74 kd_53 cls_12 rfl rfl rfl (Nat.le_of_ble_eq_true rfl) (Nat.le_of_ble_eq_true rfl) (hr_X12_unit _ _ _ _ _ _ ew2) (am_le_rf _) ?_
    rintro _ _ ⟨rfl, rfl⟩
    refine AW.perm [0] rfl ?_
    exact t_X12_part_17 hd hr_X12_unit hr_X12_part hr_X12_condition h
  · replace h := am_ie c1 h
    refine op_aload_n (k := 0) dX12_part_4 rfl rfl ?_
    refine op_iconst (v := 1) dX12_part_5 (by decide) ?_
    refine op_iload_n (k := 2) dX12_part_6 rfl rfl ?_
    obtain ⟨w3, ew3, h⟩ := am_bd h
    refine op_callV (M' := M_X12_compares) [.int 1, .int x2] (S0 := []) dX12_part_7 tw_1521 ok_X12_compares tw_1523 tw_69 kd_53 cls_12 rfl rfl rfl (Nat.le_of_ble_eq_true rfl) (Nat.le_of_ble_eq_true rfl) (t_X12_compares (by omega) ew3) (am_le_rf _) ?_
    rintro _ _ ⟨rfl, rfl⟩
    refine op_goto (tgt := 17) dX12_part_10 (by decide) ?_
    refine AW.perm [0] rfl ?_
    exact t_X12_part_17 hd hr_X12_unit hr_X12_part hr_X12_condition h
set_option maxRecDepth 100000 in
set_option maxHeartbeats 4000000 in
theorem t_X12_condition_56 {l : Launch} {ρ : am_R} {n d gc gs : Nat} {rc_X12_unit : (Nat → Nat → Int32) → (Nat → Nat → Int64) → Nat → Option (Int32 × (Nat → Nat → Int32))} {rc_X12_part : (Nat → Nat → Int32) → (Nat → Nat → Int64) → Nat → Int32 → Int32 → Option (Int32 × (Nat → Nat → Int32))} {rc_X12_condition : (Nat → Nat → Int32) → (Nat → Nat → Int64) → Nat → Int32 → Int32 → Option (Int32 × (Nat → Nat → Int32))} {k7 : (Nat → Nat → Int32) → (Nat → Nat → Int64) → Nat → Int32 → Option (Int32 × (Nat → Nat → Int32))} {I : Nat → Nat → Int32} {J : Nat → Nat → Int64} {T : Nat} {s0 : Int32} {q : Int32 × (Nat → Nat → Int32)} (hd : 1 * n + 7 ≤ (d + 1))
    (hr_X12_unit : ∀ (I : Nat → Nat → Int32) (J : Nat → Nat → Int64) (T : Nat) (q : Int32 × (Nat → Nat → Int32)) (gc gs : Nat), rc_X12_unit I J T  = some q → AW l ρ d M_X12_unit 0 [(0, .ref 53)] [] (am_KD, gc, gs) (I, J, am_RT T) (am_KD, gc, gs) (fun v H' => v = [.int q.1] ∧ H' = (q.2, J, am_RT T)))
    (hr_X12_part : ∀ (I : Nat → Nat → Int32) (J : Nat → Nat → Int64) (T : Nat) (x1 : Int32) (x2 : Int32) (q : Int32 × (Nat → Nat → Int32)) (gc gs : Nat), rc_X12_part I J T x1 x2 = some q → AW l ρ d M_X12_part 0 [(0, .ref 53), (1, .int x1), (2, .int x2)] [] (am_KD, gc, gs) (I, J, am_RT T) (am_KD, gc, gs) (fun v H' => v = [.int q.1] ∧ H' = (q.2, J, am_RT T)))
    (hr_X12_condition : ∀ (I : Nat → Nat → Int32) (J : Nat → Nat → Int64) (T : Nat) (x1 : Int32) (x2 : Int32) (q : Int32 × (Nat → Nat → Int32)) (gc gs : Nat), rc_X12_condition I J T x1 x2 = some q → AW l ρ d M_X12_condition 0 [(0, .ref 53), (1, .int x1), (2, .int x2)] [] (am_KD, gc, gs) (I, J, am_RT T) (am_KD, gc, gs) (fun v H' => v = [.int q.1] ∧ H' = (q.2, J, am_RT T)))
    (hk7 : ∀ (I : Nat → Nat → Int32) (J : Nat → Nat → Int64) (T : Nat) (x3 : Int32), k7 I J T x3 = some q → AW l ρ (d + 1) M_X12_condition 7 [(0, .ref 53), (3, .int x3)] [] (am_KD, gc, gs) (I, J, am_RT T) (am_KD, gc, gs) (fun v H' => v = [.int q.1] ∧ H' = (q.2, J, am_RT T)))
    (h : f_X12_condition_56 n rc_X12_unit rc_X12_part rc_X12_condition k7 I J T s0 = some q) : AW l ρ (d + 1) M_X12_condition 56 [(0, .ref 53)] [.int s0] (am_KD, gc, gs) (I, J, am_RT T) (am_KD, gc, gs) (fun v H' => v = [.int q.1] ∧ H' = (q.2, J, am_RT T)) := by
  unfold f_X12_condition_56 at h
  refine op_istore_n (L' := [(3, .int s0), (0, .ref 53)]) dX12_condition_56 rfl (by decide) rfl ?_
  refine op_goto (tgt := 7) dX12_condition_57 (by decide) ?_
  refine AW.perm [1, 0] rfl ?_
  exact hk7 _ _ _ _ h
set_option maxRecDepth 100000 in
set_option maxHeartbeats 4000000 in
theorem t_X12_condition_51 {l : Launch} {ρ : am_R} {n d gc gs : Nat} {rc_X12_unit : (Nat → Nat → Int32) → (Nat → Nat → Int64) → Nat → Option (Int32 × (Nat → Nat → Int32))} {rc_X12_part : (Nat → Nat → Int32) → (Nat → Nat → Int64) → Nat → Int32 → Int32 → Option (Int32 × (Nat → Nat → Int32))} {rc_X12_condition : (Nat → Nat → Int32) → (Nat → Nat → Int64) → Nat → Int32 → Int32 → Option (Int32 × (Nat → Nat → Int32))} {k7 : (Nat → Nat → Int32) → (Nat → Nat → Int64) → Nat → Int32 → Option (Int32 × (Nat → Nat → Int32))} {I : Nat → Nat → Int32} {J : Nat → Nat → Int64} {T : Nat} {q : Int32 × (Nat → Nat → Int32)} (hd : 1 * n + 7 ≤ (d + 1))
    (hr_X12_unit : ∀ (I : Nat → Nat → Int32) (J : Nat → Nat → Int64) (T : Nat) (q : Int32 × (Nat → Nat → Int32)) (gc gs : Nat), rc_X12_unit I J T  = some q → AW l ρ d M_X12_unit 0 [(0, .ref 53)] [] (am_KD, gc, gs) (I, J, am_RT T) (am_KD, gc, gs) (fun v H' => v = [.int q.1] ∧ H' = (q.2, J, am_RT T)))
    (hr_X12_part : ∀ (I : Nat → Nat → Int32) (J : Nat → Nat → Int64) (T : Nat) (x1 : Int32) (x2 : Int32) (q : Int32 × (Nat → Nat → Int32)) (gc gs : Nat), rc_X12_part I J T x1 x2 = some q → AW l ρ d M_X12_part 0 [(0, .ref 53), (1, .int x1), (2, .int x2)] [] (am_KD, gc, gs) (I, J, am_RT T) (am_KD, gc, gs) (fun v H' => v = [.int q.1] ∧ H' = (q.2, J, am_RT T)))
    (hr_X12_condition : ∀ (I : Nat → Nat → Int32) (J : Nat → Nat → Int64) (T : Nat) (x1 : Int32) (x2 : Int32) (q : Int32 × (Nat → Nat → Int32)) (gc gs : Nat), rc_X12_condition I J T x1 x2 = some q → AW l ρ d M_X12_condition 0 [(0, .ref 53), (1, .int x1), (2, .int x2)] [] (am_KD, gc, gs) (I, J, am_RT T) (am_KD, gc, gs) (fun v H' => v = [.int q.1] ∧ H' = (q.2, J, am_RT T)))
    (hk7 : ∀ (I : Nat → Nat → Int32) (J : Nat → Nat → Int64) (T : Nat) (x3 : Int32), k7 I J T x3 = some q → AW l ρ (d + 1) M_X12_condition 7 [(0, .ref 53), (3, .int x3)] [] (am_KD, gc, gs) (I, J, am_RT T) (am_KD, gc, gs) (fun v H' => v = [.int q.1] ∧ H' = (q.2, J, am_RT T)))
    (h : f_X12_condition_51 n rc_X12_unit rc_X12_part rc_X12_condition k7 I J T  = some q) : AW l ρ (d + 1) M_X12_condition 51 [(0, .ref 53)] [] (am_KD, gc, gs) (I, J, am_RT T) (am_KD, gc, gs) (fun v H' => v = [.int q.1] ∧ H' = (q.2, J, am_RT T)) := by
  unfold f_X12_condition_51 at h
  refine op_iconst (v := 1) dX12_condition_51 (by decide) ?_
  refine op_goto (tgt := 56) dX12_condition_52 (by decide) ?_
  exact t_X12_condition_56 hd hr_X12_unit hr_X12_part hr_X12_condition hk7 h
set_option maxRecDepth 100000 in
set_option maxHeartbeats 4000000 in
theorem t_X12_condition_7 {l : Launch} {ρ : am_R} {n d gc gs : Nat} {rc_X12_unit : (Nat → Nat → Int32) → (Nat → Nat → Int64) → Nat → Option (Int32 × (Nat → Nat → Int32))} {rc_X12_part : (Nat → Nat → Int32) → (Nat → Nat → Int64) → Nat → Int32 → Int32 → Option (Int32 × (Nat → Nat → Int32))} {rc_X12_condition : (Nat → Nat → Int32) → (Nat → Nat → Int64) → Nat → Int32 → Int32 → Option (Int32 × (Nat → Nat → Int32))} {q : Int32 × (Nat → Nat → Int32)} (hd : 1 * n + 7 ≤ (d + 1))
    (hr_X12_unit : ∀ (I : Nat → Nat → Int32) (J : Nat → Nat → Int64) (T : Nat) (q : Int32 × (Nat → Nat → Int32)) (gc gs : Nat), rc_X12_unit I J T  = some q → AW l ρ d M_X12_unit 0 [(0, .ref 53)] [] (am_KD, gc, gs) (I, J, am_RT T) (am_KD, gc, gs) (fun v H' => v = [.int q.1] ∧ H' = (q.2, J, am_RT T)))
    (hr_X12_part : ∀ (I : Nat → Nat → Int32) (J : Nat → Nat → Int64) (T : Nat) (x1 : Int32) (x2 : Int32) (q : Int32 × (Nat → Nat → Int32)) (gc gs : Nat), rc_X12_part I J T x1 x2 = some q → AW l ρ d M_X12_part 0 [(0, .ref 53), (1, .int x1), (2, .int x2)] [] (am_KD, gc, gs) (I, J, am_RT T) (am_KD, gc, gs) (fun v H' => v = [.int q.1] ∧ H' = (q.2, J, am_RT T)))
    (hr_X12_condition : ∀ (I : Nat → Nat → Int32) (J : Nat → Nat → Int64) (T : Nat) (x1 : Int32) (x2 : Int32) (q : Int32 × (Nat → Nat → Int32)) (gc gs : Nat), rc_X12_condition I J T x1 x2 = some q → AW l ρ d M_X12_condition 0 [(0, .ref 53), (1, .int x1), (2, .int x2)] [] (am_KD, gc, gs) (I, J, am_RT T) (am_KD, gc, gs) (fun v H' => v = [.int q.1] ∧ H' = (q.2, J, am_RT T)))
    : ∀ (m : Nat) (I : Nat → Nat → Int32) (J : Nat → Nat → Int64) (T : Nat) (x3 : Int32), f_X12_condition_7 n rc_X12_unit rc_X12_part rc_X12_condition m I J T x3 = some q → AW l ρ (d + 1) M_X12_condition 7 [(0, .ref 53), (3, .int x3)] [] (am_KD, gc, gs) (I, J, am_RT T) (am_KD, gc, gs) (fun v H' => v = [.int q.1] ∧ H' = (q.2, J, am_RT T)) := by
  intro m
  induction m with
  | zero =>
    intro I J T x3 h
    rw [f_X12_condition_7] at h
    cases h
  | succ m ih =>
    intro I J T x3 h
    rw [f_X12_condition_7] at h
    refine op_aload_n (k := 0) dX12_condition_7 rfl rfl ?_
    refine st_getI (v := I 53 11) dX12_condition_8 fl_X12_150 kd_53 (by decide) rfl rfl ?_
    refine op_iconst (v := (-1)) dX12_condition_11 (by decide) ?_
    refine op_icmp_ne (tgt := 60) dX12_condition_12 (by decide) (fun c1 => ?_) (fun c1 => ?_)
    · replace h := am_ie c1 h
      refine op_iload_n (k := 1) dX12_condition_60 rfl rfl ?_
      obtain ⟨g2, h⟩ := am_gd h
      cases h
      exact (op_iret dX12_condition_61 rfl (am_zo g2) ⟨rfl, rfl⟩)
    · replace h := am_ip c1 h
      refine op_aload_n (k := 0) dX12_condition_15 rfl rfl ?_
      obtain ⟨w3, ew3, h⟩ := am_bd h
      refine op_callV (M' := M_X12_look) [] (S0 := []) dX12_condition_16 tw_1405 ok_X12_look tw_1407 tw_55 kd_53 cls_12 rfl rfl rfl (Nat.le_of_ble_eq_true rfl) (Nat.le_of_ble_eq_true rfl) (t_X12_look (by omega) ew3) (am_le_rf _) ?_
      rintro _ _ ⟨rfl, rfl⟩
      refine op_bipush (v := 124) dX12_condition_19 (by decide) ?_
      refine op_icmp_ne (tgt := 60) dX12_condition_21 (by decide) (fun c4 => ?_) (fun c4 => ?_)
      · replace h := am_ie c4 h
        refine op_iload_n (k := 1) dX12_condition_60 rfl rfl ?_
        obtain ⟨g5, h⟩ := am_gd h
        cases h
        exact (op_iret dX12_condition_61 rfl (am_zo g5) ⟨rfl, rfl⟩)
      · replace h := am_ip c4 h
        refine op_aload_n (k := 0) dX12_condition_24 rfl rfl ?_
        refine op_dup dX12_condition_25 rfl ?_
        refine st_getI (v := w3.2 53 10) dX12_condition_26 fl_X12_141 kd_53 (by decide) rfl rfl ?_
        refine op_iconst (v := 1) dX12_condition_29 (by decide) ?_
        refine op_iadd dX12_condition_30 ?_
        refine st_putI dX12_condition_31 fl_X12_141 kd_53 (by decide) rfl ?_
        refine op_aload_n (k := 0) dX12_condition_34 rfl rfl ?_
        refine op_iconst (v := 0) dX12_condition_35 (by decide) ?_
        refine op_iconst (v := 0) dX12_condition_36 (by decide) ?_
        obtain ⟨w6, ew6, h⟩ := am_bd h
        refine op_callV (M' := M_X12_part) [.int 0, .int 0] (S0 := []) dX12_condition_37 tw_1517 ok_X12_part tw_1519 tw_68 kd_53 cls_12 rfl rfl rfl (Nat.le_of_ble_eq_true rfl) (Nat.le_of_ble_eq_true rfl) (hr_X12_part _ _ _ _ _ _ _ _ ew6) (am_le_rf _) ?_
        rintro _ _ ⟨rfl, rfl⟩
        refine op_istore (L' := [(4, .int w6.1), (0, .ref 53), (3, .int x3)]) dX12_condition_40 (by decide) rfl ?_
        refine op_iload_n (k := 2) dX12_condition_42 rfl rfl ?_
        refine op_if_ne (tgt := 51) dX12_condition_43 (by decide) (fun c7 => ?_) (fun c7 => ?_)
        · replace h := am_ie c7 h
          refine AW.perm [1] rfl ?_
          exact t_X12_condition_51 hd hr_X12_unit hr_X12_part hr_X12_condition ih h
        · replace h := am_ip c7 h
          refine op_iload (k := 0) dX12_condition_46 rfl ?_
          refine op_if_eq (tgt := 55) dX12_condition_48 (by decide) (fun c8 => ?_) (fun c8 => ?_)
          · replace h := am_ip c8 h
            refine op_iconst (v := 0) dX12_condition_55 (by decide) ?_
            refine AW.perm [1] rfl ?_
            exact t_X12_condition_56 hd hr_X12_unit hr_X12_part hr_X12_condition ih h
          · replace h := am_ie c8 h
            refine AW.perm [1] rfl ?_
            exact t_X12_condition_51 hd hr_X12_unit hr_X12_part hr_X12_condition ih h
set_option maxRecDepth 100000 in
set_option maxHeartbeats 4000000 in
theorem t_X12_condition_0 {l : Launch} {ρ : am_R} {n d gc gs : Nat} {rc_X12_unit : (Nat → Nat → Int32) → (Nat → Nat → Int64) → Nat → Option (Int32 × (Nat → Nat → Int32))} {rc_X12_part : (Nat → Nat → Int32) → (Nat → Nat → Int64) → Nat → Int32 → Int32 → Option (Int32 × (Nat → Nat → Int32))} {rc_X12_condition : (Nat → Nat → Int32) → (Nat → Nat → Int64) → Nat → Int32 → Int32 → Option (Int32 × (Nat → Nat → Int32))} {I : Nat → Nat → Int32} {J : Nat → Nat → Int64} {T : Nat} {x1 : Int32} {x2 : Int32} {q : Int32 × (Nat → Nat → Int32)} (hd : 1 * n + 7 ≤ (d + 1))
    (hr_X12_unit : ∀ (I : Nat → Nat → Int32) (J : Nat → Nat → Int64) (T : Nat) (q : Int32 × (Nat → Nat → Int32)) (gc gs : Nat), rc_X12_unit I J T  = some q → AW l ρ d M_X12_unit 0 [(0, .ref 53)] [] (am_KD, gc, gs) (I, J, am_RT T) (am_KD, gc, gs) (fun v H' => v = [.int q.1] ∧ H' = (q.2, J, am_RT T)))
    (hr_X12_part : ∀ (I : Nat → Nat → Int32) (J : Nat → Nat → Int64) (T : Nat) (x1 : Int32) (x2 : Int32) (q : Int32 × (Nat → Nat → Int32)) (gc gs : Nat), rc_X12_part I J T x1 x2 = some q → AW l ρ d M_X12_part 0 [(0, .ref 53), (1, .int x1), (2, .int x2)] [] (am_KD, gc, gs) (I, J, am_RT T) (am_KD, gc, gs) (fun v H' => v = [.int q.1] ∧ H' = (q.2, J, am_RT T)))
    (hr_X12_condition : ∀ (I : Nat → Nat → Int32) (J : Nat → Nat → Int64) (T : Nat) (x1 : Int32) (x2 : Int32) (q : Int32 × (Nat → Nat → Int32)) (gc gs : Nat), rc_X12_condition I J T x1 x2 = some q → AW l ρ d M_X12_condition 0 [(0, .ref 53), (1, .int x1), (2, .int x2)] [] (am_KD, gc, gs) (I, J, am_RT T) (am_KD, gc, gs) (fun v H' => v = [.int q.1] ∧ H' = (q.2, J, am_RT T)))
    (h : fb_X12_condition n rc_X12_unit rc_X12_part rc_X12_condition I J T x1 x2 = some q) : AW l ρ (d + 1) M_X12_condition 0 [(0, .ref 53), (1, .int x1), (2, .int x2)] [] (am_KD, gc, gs) (I, J, am_RT T) (am_KD, gc, gs) (fun v H' => v = [.int q.1] ∧ H' = (q.2, J, am_RT T)) := by
  unfold fb_X12_condition at h
  refine op_aload_n (k := 0) dX12_condition_0 rfl rfl ?_
  refine op_iload_n (k := 1) dX12_condition_1 rfl rfl ?_
  refine op_iload_n (k := 2) dX12_condition_2 rfl rfl ?_
  obtain ⟨w1, ew1, h⟩ := am_bd h
  refine op_callV (M' := M_X12_part) [.int x1, .int x2] (S0 := []) dX12_condition_3 tw_1517 ok_X12_part tw_1519 tw_68 kd_53 cls_12 rfl rfl rfl (Nat.le_of_ble_eq_true rfl) (Nat.le_of_ble_eq_true rfl) (hr_X12_part _ _ _ _ _ _ _ _ ew1) (am_le_rf _) ?_
  rintro _ _ ⟨rfl, rfl⟩
  refine op_istore_n (L' := [(3, .int w1.1), (0, .ref 53), (1, .int x1), (2, .int x2)]) dX12_condition_6 rfl (by decide) rfl ?_
  refine AW.perm [1, 0] rfl ?_
  exact t_X12_condition_7 hd hr_X12_unit hr_X12_part hr_X12_condition n _ _ _ _ h
set_option maxRecDepth 100000 in
set_option maxHeartbeats 4000000 in
theorem tx_X12_unit {l : Launch} {ρ : am_R} (n : Nat) : ∀ (r d : Nat), r + 1 * n + 7 ≤ d → (∀ (I : Nat → Nat → Int32) (J : Nat → Nat → Int64) (T : Nat) (q : Int32 × (Nat → Nat → Int32)) (gc gs : Nat), (fx_X12_unit n r).1 I J T  = some q → AW l ρ d M_X12_unit 0 [(0, .ref 53)] [] (am_KD, gc, gs) (I, J, am_RT T) (am_KD, gc, gs) (fun v H' => v = [.int q.1] ∧ H' = (q.2, J, am_RT T))) ∧ (∀ (I : Nat → Nat → Int32) (J : Nat → Nat → Int64) (T : Nat) (x1 : Int32) (x2 : Int32) (q : Int32 × (Nat → Nat → Int32)) (gc gs : Nat), (fx_X12_unit n r).2.1 I J T x1 x2 = some q → AW l ρ d M_X12_part 0 [(0, .ref 53), (1, .int x1), (2, .int x2)] [] (am_KD, gc, gs) (I, J, am_RT T) (am_KD, gc, gs) (fun v H' => v = [.int q.1] ∧ H' = (q.2, J, am_RT T))) ∧ (∀ (I : Nat → Nat → Int32) (J : Nat → Nat → Int64) (T : Nat) (x1 : Int32) (x2 : Int32) (q : Int32 × (Nat → Nat → Int32)) (gc gs : Nat), (fx_X12_unit n r).2.2 I J T x1 x2 = some q → AW l ρ d M_X12_condition 0 [(0, .ref 53), (1, .int x1), (2, .int x2)] [] (am_KD, gc, gs) (I, J, am_RT T) (am_KD, gc, gs) (fun v H' => v = [.int q.1] ∧ H' = (q.2, J, am_RT T))) := by
  intro r
  induction r with
  | zero =>
    intro d _
    exact ⟨(fun _ _ _ q _ _ h => by have h : none = some q := h; cases h), (fun _ _ _ _ _ q _ _ h => by have h : none = some q := h; cases h), (fun _ _ _ _ _ q _ _ h => by have h : none = some q := h; cases h)⟩
  | succ r ih =>
    intro d hd
    obtain ⟨d, rfl⟩ : ∃ e, d = e + 1 := ⟨d - 1, by omega⟩
    have ih := ih d (by omega)
    exact ⟨(fun _ _ _ q _ _ h => t_X12_unit_0 (rc_X12_unit := (fx_X12_unit n r).1) (rc_X12_part := (fx_X12_unit n r).2.1) (rc_X12_condition := (fx_X12_unit n r).2.2) (by omega) (ih.1) (ih.2.1) (ih.2.2) h), (fun _ _ _ _ _ q _ _ h => t_X12_part_0 (rc_X12_unit := (fx_X12_unit n r).1) (rc_X12_part := (fx_X12_unit n r).2.1) (rc_X12_condition := (fx_X12_unit n r).2.2) (by omega) (ih.1) (ih.2.1) (ih.2.2) h), (fun _ _ _ _ _ q _ _ h => t_X12_condition_0 (rc_X12_unit := (fx_X12_unit n r).1) (rc_X12_part := (fx_X12_unit n r).2.1) (rc_X12_condition := (fx_X12_unit n r).2.2) (by omega) (ih.1) (ih.2.1) (ih.2.2) h)⟩
theorem t_X12_unit {l : Launch} {ρ : am_R} {n d gc gs : Nat} {I : Nat → Nat → Int32} {J : Nat → Nat → Int64} {T : Nat} {q : Int32 × (Nat → Nat → Int32)} (hd : 2 * n + 7 ≤ d) (h : f_X12_unit n I J T  = some q) : AW l ρ d M_X12_unit 0 [(0, .ref 53)] [] (am_KD, gc, gs) (I, J, am_RT T) (am_KD, gc, gs) (fun v H' => v = [.int q.1] ∧ H' = (q.2, J, am_RT T)) := (tx_X12_unit n n d (by omega)).1 _ _ _  _ _ _ h
theorem t_X12_part {l : Launch} {ρ : am_R} {n d gc gs : Nat} {I : Nat → Nat → Int32} {J : Nat → Nat → Int64} {T : Nat} {x1 : Int32} {x2 : Int32} {q : Int32 × (Nat → Nat → Int32)} (hd : 2 * n + 7 ≤ d) (h : f_X12_part n I J T x1 x2 = some q) : AW l ρ d M_X12_part 0 [(0, .ref 53), (1, .int x1), (2, .int x2)] [] (am_KD, gc, gs) (I, J, am_RT T) (am_KD, gc, gs) (fun v H' => v = [.int q.1] ∧ H' = (q.2, J, am_RT T)) := (tx_X12_unit n n d (by omega)).2.1 _ _ _ _ _ _ _ _ h
theorem t_X12_condition {l : Launch} {ρ : am_R} {n d gc gs : Nat} {I : Nat → Nat → Int32} {J : Nat → Nat → Int64} {T : Nat} {x1 : Int32} {x2 : Int32} {q : Int32 × (Nat → Nat → Int32)} (hd : 2 * n + 7 ≤ d) (h : f_X12_condition n I J T x1 x2 = some q) : AW l ρ d M_X12_condition 0 [(0, .ref 53), (1, .int x1), (2, .int x2)] [] (am_KD, gc, gs) (I, J, am_RT T) (am_KD, gc, gs) (fun v H' => v = [.int q.1] ∧ H' = (q.2, J, am_RT T)) := (tx_X12_unit n n d (by omega)).2.2 _ _ _ _ _ _ _ _ h
def f_X12_clause_134 (n : Nat) (I : Nat → Nat → Int32) (J : Nat → Nat → Int64) (T : Nat) (x1 : Int32) (x2 : Int32) (x3 : Int32) : Option ((Nat → Nat → Int32)) :=
  if (I 53 11) = ((-1)) then
   if (I 53 17) = 0 then
    if x1 = (I 53 13) then
     if x2 = 0 then
      some (I)
     else
      some ((am_u (am_u I 53 17 1) 53 14 x3))
    else
     some (I)
   else
    some (I)
  else
   some (I)
def f_X12_clause_64 (n : Nat) (I : Nat → Nat → Int32) (J : Nat → Nat → Int64) (T : Nat) (x1 : Int32) : Option ((Nat → Nat → Int32)) :=
  (f_X12_condition n I J T 0 0).bind fun w1 =>
  (f_X12_takes n w1.2 J T 63).bind fun w2 =>
  if w2.1 = 0 then
   some (w2.2)
  else
   (f_X12_sum n w2.2 J T).bind fun w4 =>
   f_X12_clause_134 n  w4.2 J T x1 w1.1 w4.1
def f_X12_clause (n : Nat) (I : Nat → Nat → Int32) (J : Nat → Nat → Int64) (T : Nat) : Option ((Nat → Nat → Int32)) :=
  (f_X12_look n I J T).bind fun w1 =>
  (f_X12_isAmong n w1.2 J T 0 w1.1).bind fun w2 =>
  if w2 = 0 then
   (f_X12_fails n w1.2 J T).bind fun w18 =>
   some (w18.2)
  else
   (f_X12_takes n ((am_u w1.2 53 10 ((w1.2 53 10) + 1))) J T 58).bind fun w4 =>
   if w4.1 = 0 then
    some (w4.2)
   else
    (f_X12_look n w4.2 J T).bind fun w6 =>
    if w6.1 = 33 then
     f_X12_clause_64 n  w6.2 J T w1.1
    else
     if w6.1 = 40 then
      f_X12_clause_64 n  w6.2 J T w1.1
     else
      (f_X12_sum n w6.2 J T).bind fun w9 =>
      if (w9.2 53 11) = ((-1)) then
       (f_X12_look n w9.2 J T).bind fun w11 =>
       (f_X12_isSign n w11.2 J T w11.1).bind fun w12 =>
       if w12 = 0 then
        f_X12_clause_134 n  w11.2 J T w1.1 1 w9.1
       else
        (f_X12_condition n w11.2 J T 1 w9.1).bind fun w14 =>
        (f_X12_takes n w14.2 J T 63).bind fun w15 =>
        if w15.1 = 0 then
         some (w15.2)
        else
         (f_X12_sum n w15.2 J T).bind fun w17 =>
         f_X12_clause_134 n  w17.2 J T w1.1 w14.1 w17.1
      else
       f_X12_clause_134 n  w9.2 J T w1.1 1 w9.1
set_option maxRecDepth 100000 in
set_option maxHeartbeats 4000000 in
theorem t_X12_clause_134 {l : Launch} {ρ : am_R} {n d gc gs : Nat} {I : Nat → Nat → Int32} {J : Nat → Nat → Int64} {T : Nat} {x1 : Int32} {x2 : Int32} {x3 : Int32} {q : (Nat → Nat → Int32)} (hd : 2 * n + 8 ≤ (d + 1))
    (h : f_X12_clause_134 n  I J T x1 x2 x3 = some q) : AW l ρ (d + 1) M_X12_clause 134 [(0, .ref 53), (1, .int x1), (2, .int x2), (3, .int x3)] [] (am_KD, gc, gs) (I, J, am_RT T) (am_KD, gc, gs) (fun v H' => v = [] ∧ H' = (q, J, am_RT T)) := by
  unfold f_X12_clause_134 at h
  refine op_aload_n (k := 0) dX12_clause_134 rfl rfl ?_
  refine st_getI (v := I 53 11) dX12_clause_135 fl_X12_150 kd_53 (by decide) rfl rfl ?_
  refine op_iconst (v := (-1)) dX12_clause_138 (by decide) ?_
  refine op_icmp_ne (tgt := 161) dX12_clause_139 (by decide) (fun c1 => ?_) (fun c1 => ?_)
  · replace h := am_ie c1 h
    cases h
    exact (op_vret dX12_clause_161 rfl ⟨rfl, rfl⟩)
  · replace h := am_ip c1 h
    refine op_aload_n (k := 0) dX12_clause_142 rfl rfl ?_
    refine st_getI (v := I 53 17) dX12_clause_143 fl_X12_216 kd_53 (by decide) rfl rfl ?_
    refine op_if_ne (tgt := 161) dX12_clause_146 (by decide) (fun c2 => ?_) (fun c2 => ?_)
    · replace h := am_ie c2 h
      cases h
      exact (op_vret dX12_clause_161 rfl ⟨rfl, rfl⟩)
    · replace h := am_ip c2 h
      refine op_iload_n (k := 1) dX12_clause_149 rfl rfl ?_
      refine op_aload_n (k := 0) dX12_clause_150 rfl rfl ?_
      refine st_getI (v := I 53 13) dX12_clause_151 fl_X12_220 kd_53 (by decide) rfl rfl ?_
      refine op_icmp_ne (tgt := 161) dX12_clause_154 (by decide) (fun c3 => ?_) (fun c3 => ?_)
      · replace h := am_ie c3 h
        cases h
        exact (op_vret dX12_clause_161 rfl ⟨rfl, rfl⟩)
      · replace h := am_ip c3 h
        refine op_iload_n (k := 2) dX12_clause_157 rfl rfl ?_
        refine op_if_ne (tgt := 162) dX12_clause_158 (by decide) (fun c4 => ?_) (fun c4 => ?_)
        · replace h := am_ie c4 h
          refine op_aload_n (k := 0) dX12_clause_162 rfl rfl ?_
          refine op_iconst (v := 1) dX12_clause_163 (by decide) ?_
          refine st_putZ dX12_clause_164 fl_X12_216 kd_53 (by decide) rfl (by decide) ?_
          refine op_aload_n (k := 0) dX12_clause_167 rfl rfl ?_
          refine op_iload_n (k := 3) dX12_clause_168 rfl rfl ?_
          refine st_putI dX12_clause_169 fl_X12_223 kd_53 (by decide) rfl ?_
          cases h
          exact (op_vret dX12_clause_172 rfl ⟨rfl, rfl⟩)
        · replace h := am_ip c4 h
          cases h
          exact (op_vret dX12_clause_161 rfl ⟨rfl, rfl⟩)
set_option maxRecDepth 100000 in
set_option maxHeartbeats 4000000 in
theorem t_X12_clause_64 {l : Launch} {ρ : am_R} {n d gc gs : Nat} {I : Nat → Nat → Int32} {J : Nat → Nat → Int64} {T : Nat} {x1 : Int32} {q : (Nat → Nat → Int32)} (hd : 2 * n + 8 ≤ (d + 1))
    (h : f_X12_clause_64 n  I J T x1 = some q) : AW l ρ (d + 1) M_X12_clause 64 [(0, .ref 53), (1, .int x1)] [] (am_KD, gc, gs) (I, J, am_RT T) (am_KD, gc, gs) (fun v H' => v = [] ∧ H' = (q, J, am_RT T)) := by
  unfold f_X12_clause_64 at h
  refine op_aload_n (k := 0) dX12_clause_64 rfl rfl ?_
  refine op_iconst (v := 0) dX12_clause_65 (by decide) ?_
  refine op_iconst (v := 0) dX12_clause_66 (by decide) ?_
  obtain ⟨w1, ew1, h⟩ := am_bd h
  refine op_callV (M' := M_X12_condition) [.int 0, .int 0] (S0 := []) dX12_clause_67 tw_1513 ok_X12_condition tw_1515 tw_67 kd_53 cls_12 rfl rfl rfl (Nat.le_of_ble_eq_true rfl) (Nat.le_of_ble_eq_true rfl) (t_X12_condition (by omega) ew1) (am_le_rf _) ?_
  rintro _ _ ⟨rfl, rfl⟩
  refine op_istore_n (L' := [(2, .int w1.1), (0, .ref 53), (1, .int x1)]) dX12_clause_70 rfl (by decide) rfl ?_
  refine op_aload_n (k := 1) dX12_clause_71 rfl rfl ?_
  refine op_bipush (v := 63) dX12_clause_72 (by decide) ?_
  obtain ⟨w2, ew2, h⟩ := am_bd h
  refine op_callV (M' := M_X12_takes) [.int 63] (S0 := []) dX12_clause_74 tw_1509 ok_X12_takes tw_1511 tw_66 kd_53 cls_12 rfl rfl rfl (Nat.le_of_ble_eq_true rfl) (Nat.le_of_ble_eq_true rfl) (t_X12_takes (by omega) ew2) (am_le_rf _) ?_
  rintro _ _ ⟨rfl, rfl⟩
  refine op_if_ne (tgt := 81) dX12_clause_77 (by decide) (fun c3 => ?_) (fun c3 => ?_)
  · replace h := am_ie c3 h
    refine op_aload_n (k := 1) dX12_clause_81 rfl rfl ?_
    obtain ⟨w4, ew4, h⟩ := am_bd h
    refine op_callV (M' := M_X12_sum) [] (S0 := []) dX12_clause_82 tw_1525 ok_X12_sum tw_1527 tw_70 kd_53 cls_12 rfl rfl rfl (Nat.le_of_ble_eq_true rfl) (Nat.le_of_ble_eq_true rfl) (t_X12_sum (by omega) ew4) (am_le_rf _) ?_
    rintro _ _ ⟨rfl, rfl⟩
    refine op_istore_n (L' := [(3, .int w4.1), (2, .int w1.1), (0, .ref 53), (1, .int x1)]) dX12_clause_85 rfl (by decide) rfl ?_
    refine op_goto (tgt := 134) dX12_clause_86 (by decide) ?_
    refine AW.perm [2, 3, 1, 0] rfl ?_
    exact t_X12_clause_134 hd  h
  · replace h := am_ip c3 h
    cases h
    exact (op_vret dX12_clause_80 rfl ⟨rfl, rfl⟩)
set_option maxRecDepth 100000 in
set_option maxHeartbeats 4000000 in
theorem t_X12_clause_0 {l : Launch} {ρ : am_R} {n d gc gs : Nat} {I : Nat → Nat → Int32} {J : Nat → Nat → Int64} {T : Nat} {q : (Nat → Nat → Int32)} (hd : 2 * n + 8 ≤ (d + 1))
    (h : f_X12_clause n  I J T  = some q) : AW l ρ (d + 1) M_X12_clause 0 [(0, .ref 53)] [] (am_KD, gc, gs) (I, J, am_RT T) (am_KD, gc, gs) (fun v H' => v = [] ∧ H' = (q, J, am_RT T)) := by
  unfold f_X12_clause at h
  refine op_aload_n (k := 0) dX12_clause_0 rfl rfl ?_
  obtain ⟨w1, ew1, h⟩ := am_bd h
  refine op_callV (M' := M_X12_look) [] (S0 := []) dX12_clause_1 tw_1405 ok_X12_look tw_1407 tw_55 kd_53 cls_12 rfl rfl rfl (Nat.le_of_ble_eq_true rfl) (Nat.le_of_ble_eq_true rfl) (t_X12_look (by omega) ew1) (am_le_rf _) ?_
  rintro _ _ ⟨rfl, rfl⟩
  refine op_istore_n (L' := [(1, .int w1.1), (0, .ref 53)]) dX12_clause_4 rfl (by decide) rfl ?_
  refine op_ldcS (i := 0) dX12_clause_5 rfl rfl rfl ?_
  refine op_iload_n (k := 0) dX12_clause_7 rfl rfl ?_
  obtain ⟨w2, ew2, h⟩ := am_bd h
  refine op_callS (M' := M_X12_isAmong) [.ref 1010, .int w1.1] (S0 := []) dX12_clause_8 tw_1506 ok_X12_isAmong tw_1507 rfl rfl (Nat.le_of_ble_eq_true rfl) (Nat.le_of_ble_eq_true rfl) (t_X12_isAmong (by omega) ew2) (am_le_rf _) ?_
  rintro _ _ ⟨rfl, rfl⟩
  refine op_if_ne (tgt := 20) dX12_clause_11 (by decide) (fun c3 => ?_) (fun c3 => ?_)
  · replace h := am_ie c3 h
    refine op_aload_n (k := 1) dX12_clause_20 rfl rfl ?_
    refine op_dup dX12_clause_21 rfl ?_
    refine st_getI (v := w1.2 53 10) dX12_clause_22 fl_X12_141 kd_53 (by decide) rfl rfl ?_
    refine op_iconst (v := 1) dX12_clause_25 (by decide) ?_
    refine op_iadd dX12_clause_26 ?_
    refine st_putI dX12_clause_27 fl_X12_141 kd_53 (by decide) rfl ?_
    refine op_aload_n (k := 1) dX12_clause_30 rfl rfl ?_
    refine op_bipush (v := 58) dX12_clause_31 (by decide) ?_
    obtain ⟨w4, ew4, h⟩ := am_bd h
    refine op_callV (M' := M_X12_takes) [.int 58] (S0 := []) dX12_clause_33 tw_1509 ok_X12_takes tw_1511 tw_66 kd_53 cls_12 rfl rfl rfl (Nat.le_of_ble_eq_true rfl) (Nat.le_of_ble_eq_true rfl) (t_X12_takes (by omega) ew4) (am_le_rf _) ?_
    rintro _ _ ⟨rfl, rfl⟩
    refine op_if_ne (tgt := 40) dX12_clause_36 (by decide) (fun c5 => ?_) (fun c5 => ?_)
    · replace h := am_ie c5 h
      refine op_iconst (v := 1) dX12_clause_40 (by decide) ?_
      refine op_istore_n (L' := [(2, .int 1), (1, .int w1.1), (0, .ref 53)]) dX12_clause_41 rfl (by decide) rfl ?_
      refine op_iconst (v := 0) dX12_clause_42 (by decide) ?_
      refine op_istore_n (L' := [(3, .int 0), (2, .int 1), (1, .int w1.1), (0, .ref 53)]) dX12_clause_43 rfl (by decide) rfl ?_
      refine op_aload_n (k := 3) dX12_clause_44 rfl rfl ?_
      obtain ⟨w6, ew6, h⟩ := am_bd h
      refine op_callV (M' := M_X12_look) [] (S0 := []) dX12_clause_45 tw_1405 ok_X12_look tw_1407 tw_55 kd_53 cls_12 rfl rfl rfl (Nat.le_of_ble_eq_true rfl) (Nat.le_of_ble_eq_true rfl) (t_X12_look (by omega) ew6) (am_le_rf _) ?_
      rintro _ _ ⟨rfl, rfl⟩
      refine op_istore (L' := [(4, .int w6.1), (3, .int 0), (2, .int 1), (1, .int w1.1), (0, .ref 53)]) dX12_clause_48 (by decide) rfl ?_
      refine op_iload (k := 0) dX12_clause_50 rfl ?_
      refine op_bipush (v := 33) dX12_clause_52 (by decide) ?_
      refine op_icmp_eq (tgt := 64) dX12_clause_54 (by decide) (fun c7 => ?_) (fun c7 => ?_)
      · replace h := am_ip c7 h
        refine AW.perm [4, 3] rfl ?_
        exact t_X12_clause_64 hd  h
      · replace h := am_ie c7 h
        refine op_iload (k := 0) dX12_clause_57 rfl ?_
        refine op_bipush (v := 40) dX12_clause_59 (by decide) ?_
        refine op_icmp_ne (tgt := 89) dX12_clause_61 (by decide) (fun c8 => ?_) (fun c8 => ?_)
        · replace h := am_ie c8 h
          refine op_aload_n (k := 4) dX12_clause_89 rfl rfl ?_
          obtain ⟨w9, ew9, h⟩ := am_bd h
          refine op_callV (M' := M_X12_sum) [] (S0 := []) dX12_clause_90 tw_1525 ok_X12_sum tw_1527 tw_70 kd_53 cls_12 rfl rfl rfl (Nat.le_of_ble_eq_true rfl) (Nat.le_of_ble_eq_true rfl) (t_X12_sum (by omega) ew9) (am_le_rf _) ?_
          rintro _ _ ⟨rfl, rfl⟩
          refine op_istore_n (L' := [(3, .int w9.1), (4, .int w6.1), (2, .int 1), (1, .int w1.1), (0, .ref 53)]) dX12_clause_93 rfl (by decide) rfl ?_
          refine op_aload_n (k := 4) dX12_clause_94 rfl rfl ?_
          refine st_getI (v := w9.2 53 11) dX12_clause_95 fl_X12_150 kd_53 (by decide) rfl rfl ?_
          refine op_iconst (v := (-1)) dX12_clause_98 (by decide) ?_
          refine op_icmp_ne (tgt := 134) dX12_clause_99 (by decide) (fun c10 => ?_) (fun c10 => ?_)
          · replace h := am_ie c10 h
            refine AW.perm [4, 3, 2, 0] rfl ?_
            exact t_X12_clause_134 hd  h
          · replace h := am_ip c10 h
            refine op_aload_n (k := 4) dX12_clause_102 rfl rfl ?_
            obtain ⟨w11, ew11, h⟩ := am_bd h
            refine op_callV (M' := M_X12_look) [] (S0 := []) dX12_clause_103 tw_1405 ok_X12_look tw_1407 tw_55 kd_53 cls_12 rfl rfl rfl (Nat.le_of_ble_eq_true rfl) (Nat.le_of_ble_eq_true rfl) (t_X12_look (by omega) ew11) (am_le_rf _) ?_
            rintro _ _ ⟨rfl, rfl⟩
            obtain ⟨w12, ew12, h⟩ := am_bd h
            refine op_callS (M' := M_X12_isSign) [.int w11.1] (S0 := []) dX12_clause_106 tw_1548 ok_X12_isSign tw_1549 rfl rfl (Nat.le_of_ble_eq_true rfl) (Nat.le_of_ble_eq_true rfl) (t_X12_isSign (by omega) ew12) (am_le_rf _) ?_
            rintro _ _ ⟨rfl, rfl⟩
            refine op_if_eq (tgt := 134) dX12_clause_109 (by decide) (fun c13 => ?_) (fun c13 => ?_)
            · replace h := am_ip c13 h
              refine AW.perm [4, 3, 2, 0] rfl ?_
              exact t_X12_clause_134 hd  h
            · replace h := am_ie c13 h
              refine op_aload_n (k := 4) dX12_clause_112 rfl rfl ?_
              refine op_iconst (v := 1) dX12_clause_113 (by decide) ?_
              refine op_iload_n (k := 0) dX12_clause_114 rfl rfl ?_
              obtain ⟨w14, ew14, h⟩ := am_bd h
              refine op_callV (M' := M_X12_condition) [.int 1, .int w9.1] (S0 := []) dX12_clause_115 tw_1513 ok_X12_condition tw_1515 tw_67 kd_53 cls_12 rfl rfl rfl (Nat.le_of_ble_eq_true rfl) (Nat.le_of_ble_eq_true rfl) (t_X12_condition (by omega) ew14) (am_le_rf _) ?_
              rintro _ _ ⟨rfl, rfl⟩
              refine op_istore_n (L' := [(2, .int w14.1), (3, .int w9.1), (4, .int w6.1), (1, .int w1.1), (0, .ref 53)]) dX12_clause_118 rfl (by decide) rfl ?_
              refine op_aload_n (k := 4) dX12_clause_119 rfl rfl ?_
              refine op_bipush (v := 63) dX12_clause_120 (by decide) ?_
              obtain ⟨w15, ew15, h⟩ := am_bd h
              refine op_callV (M' := M_X12_takes) [.int 63] (S0 := []) dX12_clause_122 tw_1509 ok_X12_takes tw_1511 tw_66 kd_53 cls_12 rfl rfl rfl (Nat.le_of_ble_eq_true rfl) (Nat.le_of_ble_eq_true rfl) (t_X12_takes (by omega) ew15) (am_le_rf _) ?_
              rintro _ _ ⟨rfl, rfl⟩
              refine op_if_ne (tgt := 129) dX12_clause_125 (by decide) (fun c16 => ?_) (fun c16 => ?_)
              · replace h := am_ie c16 h
                refine op_aload_n (k := 4) dX12_clause_129 rfl rfl ?_
                obtain ⟨w17, ew17, h⟩ := am_bd h
                refine op_callV (M' := M_X12_sum) [] (S0 := []) dX12_clause_130 tw_1525 ok_X12_sum tw_1527 tw_70 kd_53 cls_12 rfl rfl rfl (Nat.le_of_ble_eq_true rfl) (Nat.le_of_ble_eq_true rfl) (t_X12_sum (by omega) ew17) (am_le_rf _) ?_
                rintro _ _ ⟨rfl, rfl⟩
                refine op_istore_n (L' := [(3, .int w17.1), (2, .int w14.1), (4, .int w6.1), (1, .int w1.1), (0, .ref 53)]) dX12_clause_133 rfl (by decide) rfl ?_
                refine AW.perm [4, 3, 1, 0] rfl ?_
                exact t_X12_clause_134 hd  h
              · replace h := am_ip c16 h
                cases h
                exact (op_vret dX12_clause_128 rfl ⟨rfl, rfl⟩)
        · replace h := am_ip c8 h
          refine AW.perm [4, 3] rfl ?_
          exact t_X12_clause_64 hd  h
    · replace h := am_ip c5 h
      cases h
      exact (op_vret dX12_clause_39 rfl ⟨rfl, rfl⟩)
  · replace h := am_ip c3 h
    refine op_aload_n (k := 1) dX12_clause_14 rfl rfl ?_
    obtain ⟨w18, ew18, h⟩ := am_bd h
    refine op_callV (M' := M_X12_fails) [] (S0 := []) dX12_clause_15 tw_1409 ok_X12_fails tw_1411 tw_56 kd_53 cls_12 rfl rfl rfl (Nat.le_of_ble_eq_true rfl) (Nat.le_of_ble_eq_true rfl) (t_X12_fails (by omega) ew18) (am_le_rf _) ?_
    rintro _ _ ⟨rfl, rfl⟩
    refine op_pop dX12_clause_18 rfl ?_
    cases h
    exact (op_vret dX12_clause_19 rfl ⟨rfl, rfl⟩)
theorem t_X12_clause {l : Launch} {ρ : am_R} {n d gc gs : Nat} {I : Nat → Nat → Int32} {J : Nat → Nat → Int64} {T : Nat} {q : (Nat → Nat → Int32)} (hd : 2 * n + 8 ≤ d) (h : f_X12_clause n I J T  = some q) : AW l ρ d M_X12_clause 0 [(0, .ref 53)] [] (am_KD, gc, gs) (I, J, am_RT T) (am_KD, gc, gs) (fun v H' => v = [] ∧ H' = (q, J, am_RT T)) := by
  obtain ⟨d, rfl⟩ : ∃ e, d = e + 1 := ⟨d - 1, by omega⟩
  exact t_X12_clause_0 hd h
def f_X12_goThrough_66 (n : Nat) (I : Nat → Nat → Int32) (J : Nat → Nat → Int64) (T : Nat) : Option ((Nat → Nat → Int32) × Nat) :=
  if (I 53 11) = ((-1)) then
   (f_X12_look n I J T).bind fun w2 =>
   if w2.1 = ((-1)) then
    some (w2.2, T)
   else
    (f_X12_fails n w2.2 J T).bind fun w4 =>
    some (w4.2, T)
  else
   some (I, T)
def f_X12_goThrough_32 (n : Nat) : Nat → (Nat → Nat → Int32) → (Nat → Nat → Int64) → Nat → Option ((Nat → Nat → Int32) × Nat)
  | 0, _, _, _ => none
  | m + 1, I, J, T =>
    if (I 53 11) = ((-1)) then
     (f_X12_look n I J T).bind fun w2 =>
     if w2.1 = 59 then
      (f_X12_clause n ((am_u w2.2 53 10 ((w2.2 53 10) + 1))) J T).bind fun w4 =>
      f_X12_goThrough_32 n  m w4 J T
     else
      f_X12_goThrough_66 n  w2.2 J T
    else
     f_X12_goThrough_66 n  I J T
def f_X12_goThrough (n : Nat) (I : Nat → Nat → Int32) (J : Nat → Nat → Int64) (T : Nat) (x2 : Int32) (x3 : Int32) : Option ((Nat → Nat → Int32) × Nat) :=
  (f_X12_opens n I J T x2 x3).bind fun w1 =>
  (f_X12_clause n ((am_u (am_u (am_u (am_u w1.1 53 13 121) 53 12 0) 53 17 0) 53 14 0)) J w1.2).bind fun w2 =>
  f_X12_goThrough_32 n  n w2 J w1.2
set_option maxRecDepth 100000 in
set_option maxHeartbeats 4000000 in
theorem t_X12_goThrough_66 {l : Launch} {ρ : am_R} {n d gc gs : Nat} {I : Nat → Nat → Int32} {J : Nat → Nat → Int64} {T : Nat} {q : (Nat → Nat → Int32) × Nat} (hd : 2 * n + 9 ≤ (d + 1))
    (h : f_X12_goThrough_66 n  I J T  = some q) : AW l ρ (d + 1) M_X12_goThrough 66 [(0, .ref 53)] [] (am_KD, gc, gs) (I, J, am_RT T) (am_KD, gc, gs) (fun v H' => v = [] ∧ H' = (q.1, J, am_RT (q.2))) := by
  unfold f_X12_goThrough_66 at h
  refine op_aload_n (k := 0) dX12_goThrough_66 rfl rfl ?_
  refine st_getI (v := I 53 11) dX12_goThrough_67 fl_X12_150 kd_53 (by decide) rfl rfl ?_
  refine op_iconst (v := (-1)) dX12_goThrough_70 (by decide) ?_
  refine op_icmp_ne (tgt := 87) dX12_goThrough_71 (by decide) (fun c1 => ?_) (fun c1 => ?_)
  · replace h := am_ie c1 h
    cases h
    exact (op_vret dX12_goThrough_87 rfl ⟨rfl, rfl⟩)
  · replace h := am_ip c1 h
    refine op_aload_n (k := 0) dX12_goThrough_74 rfl rfl ?_
    obtain ⟨w2, ew2, h⟩ := am_bd h
    refine op_callV (M' := M_X12_look) [] (S0 := []) dX12_goThrough_75 tw_1405 ok_X12_look tw_1407 tw_55 kd_53 cls_12 rfl rfl rfl (Nat.le_of_ble_eq_true rfl) (Nat.le_of_ble_eq_true rfl) (t_X12_look (by omega) ew2) (am_le_rf _) ?_
    rintro _ _ ⟨rfl, rfl⟩
    refine op_iconst (v := (-1)) dX12_goThrough_78 (by decide) ?_
    refine op_icmp_eq (tgt := 87) dX12_goThrough_79 (by decide) (fun c3 => ?_) (fun c3 => ?_)
    · replace h := am_ip c3 h
      cases h
      exact (op_vret dX12_goThrough_87 rfl ⟨rfl, rfl⟩)
    · replace h := am_ie c3 h
      refine op_aload_n (k := 0) dX12_goThrough_82 rfl rfl ?_
      obtain ⟨w4, ew4, h⟩ := am_bd h
      refine op_callV (M' := M_X12_fails) [] (S0 := []) dX12_goThrough_83 tw_1409 ok_X12_fails tw_1411 tw_56 kd_53 cls_12 rfl rfl rfl (Nat.le_of_ble_eq_true rfl) (Nat.le_of_ble_eq_true rfl) (t_X12_fails (by omega) ew4) (am_le_rf _) ?_
      rintro _ _ ⟨rfl, rfl⟩
      refine op_pop dX12_goThrough_86 rfl ?_
      cases h
      exact (op_vret dX12_goThrough_87 rfl ⟨rfl, rfl⟩)
set_option maxRecDepth 100000 in
set_option maxHeartbeats 4000000 in
theorem t_X12_goThrough_32 {l : Launch} {ρ : am_R} {n d gc gs : Nat} {q : (Nat → Nat → Int32) × Nat} (hd : 2 * n + 9 ≤ (d + 1))
    : ∀ (m : Nat) (I : Nat → Nat → Int32) (J : Nat → Nat → Int64) (T : Nat), f_X12_goThrough_32 n  m I J T  = some q → AW l ρ (d + 1) M_X12_goThrough 32 [(0, .ref 53)] [] (am_KD, gc, gs) (I, J, am_RT T) (am_KD, gc, gs) (fun v H' => v = [] ∧ H' = (q.1, J, am_RT (q.2))) := by
  intro m
  induction m with
  | zero =>
    intro I J T  h
    rw [f_X12_goThrough_32] at h
    cases h
  | succ m ih =>
    intro I J T  h
    rw [f_X12_goThrough_32] at h
    refine op_aload_n (k := 0) dX12_goThrough_32 rfl rfl ?_
    refine st_getI (v := I 53 11) dX12_goThrough_33 fl_X12_150 kd_53 (by decide) rfl rfl ?_
    refine op_iconst (v := (-1)) dX12_goThrough_36 (by decide) ?_
    refine op_icmp_ne (tgt := 66) dX12_goThrough_37 (by decide) (fun c1 => ?_) (fun c1 => ?_)
    · replace h := am_ie c1 h
      exact t_X12_goThrough_66 hd  h
    · replace h := am_ip c1 h
      refine op_aload_n (k := 0) dX12_goThrough_40 rfl rfl ?_
      obtain ⟨w2, ew2, h⟩ := am_bd h
      refine op_callV (M' := M_X12_look) [] (S0 := []) dX12_goThrough_41 tw_1405 ok_X12_look tw_1407 tw_55 kd_53 cls_12 rfl rfl rfl (Nat.le_of_ble_eq_true rfl) (Nat.le_of_ble_eq_true rfl) (t_X12_look (by omega) ew2) (am_le_rf _) ?_
      rintro _ _ ⟨rfl, rfl⟩
      refine op_bipush (v := 59) dX12_goThrough_44 (by decide) ?_
      refine op_icmp_ne (tgt := 66) dX12_goThrough_46 (by decide) (fun c3 => ?_) (fun c3 => ?_)
      · replace h := am_ie c3 h
        exact t_X12_goThrough_66 hd  h
      · replace h := am_ip c3 h
        refine op_aload_n (k := 0) dX12_goThrough_49 rfl rfl ?_
        refine op_dup dX12_goThrough_50 rfl ?_
        refine st_getI (v := w2.2 53 10) dX12_goThrough_51 fl_X12_141 kd_53 (by decide) rfl rfl ?_
        refine op_iconst (v := 1) dX12_goThrough_54 (by decide) ?_
        refine op_iadd dX12_goThrough_55 ?_
        refine st_putI dX12_goThrough_56 fl_X12_141 kd_53 (by decide) rfl ?_
        refine op_aload_n (k := 0) dX12_goThrough_59 rfl rfl ?_
        obtain ⟨w4, ew4, h⟩ := am_bd h
        refine op_callV (M' := M_X12_clause) [] (S0 := []) dX12_goThrough_60 tw_1502 ok_X12_clause tw_1504 tw_65 kd_53 cls_12 rfl rfl rfl (Nat.le_of_ble_eq_true rfl) (Nat.le_of_ble_eq_true rfl) (t_X12_clause (by omega) ew4) (am_le_rf _) ?_
        rintro _ _ ⟨rfl, rfl⟩
        refine op_goto (tgt := 32) dX12_goThrough_63 (by decide) ?_
        exact ih _ _ _ h
set_option maxRecDepth 100000 in
set_option maxHeartbeats 4000000 in
theorem t_X12_goThrough_0 {l : Launch} {ρ : am_R} {n d gc gs : Nat} {I : Nat → Nat → Int32} {J : Nat → Nat → Int64} {T : Nat} {x2 : Int32} {x3 : Int32} {q : (Nat → Nat → Int32) × Nat} (hd : 2 * n + 9 ≤ (d + 1))
    (h : f_X12_goThrough n  I J T x2 x3 = some q) : AW l ρ (d + 1) M_X12_goThrough 0 [(0, .ref 53), (1, .ref 55), (2, .int x2), (3, .int x3)] [] (am_KD, gc, gs) (I, J, am_RT T) (am_KD, gc, gs) (fun v H' => v = [] ∧ H' = (q.1, J, am_RT (q.2))) := by
  unfold f_X12_goThrough at h
  refine op_aload_n (k := 0) dX12_goThrough_0 rfl rfl ?_
  refine op_aload_n (k := 1) dX12_goThrough_1 rfl rfl ?_
  refine op_iload_n (k := 2) dX12_goThrough_2 rfl rfl ?_
  refine op_iload_n (k := 3) dX12_goThrough_3 rfl rfl ?_
  obtain ⟨w1, ew1, h⟩ := am_bd h
  refine op_callV (M' := M_X12_opens) [.ref 55, .int x2, .int x3] (S0 := []) dX12_goThrough_4 tw_1397 ok_X12_opens tw_1399 tw_53 kd_53 cls_12 rfl rfl rfl (Nat.le_of_ble_eq_true rfl) (Nat.le_of_ble_eq_true rfl) (t_X12_opens (by omega) ew1) (am_le_rf _) ?_
  rintro _ _ ⟨rfl, rfl⟩
  refine op_aload_n (k := 0) dX12_goThrough_7 rfl rfl ?_
  refine op_bipush (v := 121) dX12_goThrough_8 (by decide) ?_
  refine st_putI dX12_goThrough_10 fl_X12_220 kd_53 (by decide) rfl ?_
  refine op_aload_n (k := 0) dX12_goThrough_13 rfl rfl ?_
  refine op_iconst (v := 0) dX12_goThrough_14 (by decide) ?_
  refine st_putI dX12_goThrough_15 fl_X12_153 kd_53 (by decide) rfl ?_
  refine op_aload_n (k := 0) dX12_goThrough_18 rfl rfl ?_
  refine op_iconst (v := 0) dX12_goThrough_19 (by decide) ?_
  refine st_putZ dX12_goThrough_20 fl_X12_216 kd_53 (by decide) rfl (by decide) ?_
  refine op_aload_n (k := 0) dX12_goThrough_23 rfl rfl ?_
  refine op_iconst (v := 0) dX12_goThrough_24 (by decide) ?_
  refine st_putI dX12_goThrough_25 fl_X12_223 kd_53 (by decide) rfl ?_
  refine op_aload_n (k := 0) dX12_goThrough_28 rfl rfl ?_
  obtain ⟨w2, ew2, h⟩ := am_bd h
  refine op_callV (M' := M_X12_clause) [] (S0 := []) dX12_goThrough_29 tw_1502 ok_X12_clause tw_1504 tw_65 kd_53 cls_12 rfl rfl rfl (Nat.le_of_ble_eq_true rfl) (Nat.le_of_ble_eq_true rfl) (t_X12_clause (by omega) ew2) (am_le_rf _) ?_
  rintro _ _ ⟨rfl, rfl⟩
  refine AW.perm [0] rfl ?_
  exact t_X12_goThrough_32 hd  n _ _ _ h
theorem t_X12_goThrough {l : Launch} {ρ : am_R} {n d gc gs : Nat} {I : Nat → Nat → Int32} {J : Nat → Nat → Int64} {T : Nat} {x2 : Int32} {x3 : Int32} {q : (Nat → Nat → Int32) × Nat} (hd : 2 * n + 9 ≤ d) (h : f_X12_goThrough n I J T x2 x3 = some q) : AW l ρ d M_X12_goThrough 0 [(0, .ref 53), (1, .ref 55), (2, .int x2), (3, .int x3)] [] (am_KD, gc, gs) (I, J, am_RT T) (am_KD, gc, gs) (fun v H' => v = [] ∧ H' = (q.1, J, am_RT (q.2))) := by
  obtain ⟨d, rfl⟩ : ∃ e, d = e + 1 := ⟨d - 1, by omega⟩
  exact t_X12_goThrough_0 hd h
def f_X12_weightOf (n : Nat) (I : Nat → Nat → Int32) (J : Nat → Nat → Int64) (T : Nat) (x1 : Int32) (x2 : Int32) (x3 : Int32) : Option (Int32 × (Nat → Nat → Int32) × Nat) :=
  if x3 = 2 then
   (f_X12_costOf n I J T (1 <<< (x1 &&& 31))).bind fun w7 =>
   some (w7, I, T)
  else
   (f_X12_milesOf n I J T (1 <<< (x1 &&& 31))).bind fun w2 =>
   if ok_ix ((3 * x1) + 2) 18 then
    if ok_ix ((3 * x1) + 1) 18 then
     if ok_ix (x3 - 3) 4 then
      (f_X12_goThrough n ((am_u (am_u (am_u (am_u (am_u (am_u I 57 109 w2) 57 115 (I 60 (((3 * x1) + 2).toNatClampNeg))) 57 119 (I 60 (((3 * x1) + 1).toNatClampNeg))) 57 110 x2) 57 112 (I 61 1)) 57 107 x1)) J T (160 * (x3 - 3)) (I 56 ((x3 - 3).toNatClampNeg))).bind fun w6 =>
      some (am_max 0 (am_min 1000 (w6.1 53 14)), w6.1, w6.2)
     else none
    else none
   else none
set_option maxRecDepth 100000 in
set_option maxHeartbeats 4000000 in
theorem t_X12_weightOf_0 {l : Launch} {ρ : am_R} {n d gc gs : Nat} {I : Nat → Nat → Int32} {J : Nat → Nat → Int64} {T : Nat} {x1 : Int32} {x2 : Int32} {x3 : Int32} {q : Int32 × (Nat → Nat → Int32) × Nat} (hd : 2 * n + 10 ≤ (d + 1))
    (h : f_X12_weightOf n  I J T x1 x2 x3 = some q) : AW l ρ (d + 1) M_X12_weightOf 0 [(0, .ref 53), (1, .int x1), (2, .int x2), (3, .int x3)] [] (am_KD, gc, gs) (I, J, am_RT T) (am_KD, gc, gs) (fun v H' => v = [.int q.1] ∧ H' = (q.2.1, J, am_RT (q.2.2))) := by
  unfold f_X12_weightOf at h
  refine op_iload_n (k := 3) dX12_weightOf_0 rfl rfl ?_
  refine op_iconst (v := 2) dX12_weightOf_1 (by decide) ?_
  refine op_icmp_ne (tgt := 13) dX12_weightOf_2 (by decide) (fun c1 => ?_) (fun c1 => ?_)
  · replace h := am_ie c1 h
    refine op_aload_n (k := 0) dX12_weightOf_13 rfl rfl ?_
    refine st_getR (z := 57) dX12_weightOf_14 fl_X12_20 kd_53 (by decide) rfl rr_53_4 ?_
    refine op_bipush (v := 109) dX12_weightOf_17 (by decide) ?_
    refine op_aload_n (k := 0) dX12_weightOf_19 rfl rfl ?_
    refine op_iconst (v := 1) dX12_weightOf_20 (by decide) ?_
    refine op_iload_n (k := 1) dX12_weightOf_21 rfl rfl ?_
    refine op_ishl dX12_weightOf_22 ?_
    obtain ⟨w2, ew2, h⟩ := am_bd h
    refine op_callV (M' := M_X12_milesOf) [.int (1 <<< (x1 &&& 31))] (S0 := [.int 109, .ref 57]) dX12_weightOf_23 tw_1569 ok_X12_milesOf tw_1571 tw_76 kd_53 cls_12 rfl rfl rfl (Nat.le_of_ble_eq_true rfl) (Nat.le_of_ble_eq_true rfl) (t_X12_milesOf (by omega) ew2) (am_le_rf _) ?_
    rintro _ _ ⟨rfl, rfl⟩
    refine st_iast (k := 109) dX12_weightOf_26 kd_57 (by decide) (by decide) ?_
    refine op_aload_n (k := 0) dX12_weightOf_27 rfl rfl ?_
    refine st_getR (z := 57) dX12_weightOf_28 fl_X12_20 kd_53 (by decide) rfl rr_53_4 ?_
    refine op_bipush (v := 115) dX12_weightOf_31 (by decide) ?_
    refine op_aload_n (k := 0) dX12_weightOf_33 rfl rfl ?_
    refine st_getR (z := 60) dX12_weightOf_34 fl_X12_43 kd_53 (by decide) rfl rr_53_20 ?_
    refine op_iconst (v := 3) dX12_weightOf_37 (by decide) ?_
    refine op_iload_n (k := 1) dX12_weightOf_38 rfl rfl ?_
    refine op_imul dX12_weightOf_39 ?_
    refine op_iconst (v := 2) dX12_weightOf_40 (by decide) ?_
    refine op_iadd dX12_weightOf_41 ?_
    obtain ⟨g3, h⟩ := am_gd h
    refine st_iald (k := ((3 * x1) + 2).toNatClampNeg) (v := I 60 (((3 * x1) + 2).toNatClampNeg)) dX12_weightOf_42 kd_60 g3 rfl rfl ?_
    refine st_iast (k := 115) dX12_weightOf_43 kd_57 (by decide) (by decide) ?_
    refine op_aload_n (k := 0) dX12_weightOf_44 rfl rfl ?_
    refine st_getR (z := 57) dX12_weightOf_45 fl_X12_20 kd_53 (by decide) rfl rr_53_4 ?_
    refine op_bipush (v := 119) dX12_weightOf_48 (by decide) ?_
    refine op_aload_n (k := 0) dX12_weightOf_50 rfl rfl ?_
    refine st_getR (z := 60) dX12_weightOf_51 fl_X12_43 kd_53 (by decide) rfl rr_53_20 ?_
    refine op_iconst (v := 3) dX12_weightOf_54 (by decide) ?_
    refine op_iload_n (k := 1) dX12_weightOf_55 rfl rfl ?_
    refine op_imul dX12_weightOf_56 ?_
    refine op_iconst (v := 1) dX12_weightOf_57 (by decide) ?_
    refine op_iadd dX12_weightOf_58 ?_
    obtain ⟨g4, h⟩ := am_gd h
    refine st_iald (k := ((3 * x1) + 1).toNatClampNeg) (v := I 60 (((3 * x1) + 1).toNatClampNeg)) dX12_weightOf_59 kd_60 g4 rfl rfl ?_
    refine st_iast (k := 119) dX12_weightOf_60 kd_57 (by decide) (by decide) ?_
    refine op_aload_n (k := 0) dX12_weightOf_61 rfl rfl ?_
    refine st_getR (z := 57) dX12_weightOf_62 fl_X12_20 kd_53 (by decide) rfl rr_53_4 ?_
    refine op_bipush (v := 110) dX12_weightOf_65 (by decide) ?_
    refine op_iload_n (k := 2) dX12_weightOf_67 rfl rfl ?_
    refine st_iast (k := 110) dX12_weightOf_68 kd_57 (by decide) (by decide) ?_
    refine op_aload_n (k := 0) dX12_weightOf_69 rfl rfl ?_
    refine st_getR (z := 57) dX12_weightOf_70 fl_X12_20 kd_53 (by decide) rfl rr_53_4 ?_
    refine op_bipush (v := 112) dX12_weightOf_73 (by decide) ?_
    refine op_aload_n (k := 0) dX12_weightOf_75 rfl rfl ?_
    refine st_getR (z := 61) dX12_weightOf_76 fl_X12_46 kd_53 (by decide) rfl rr_53_21 ?_
    refine op_iconst (v := 1) dX12_weightOf_79 (by decide) ?_
    refine st_iald (k := 1) (v := I 61 1) dX12_weightOf_80 kd_61 (by decide) (by decide) rfl ?_
    refine st_iast (k := 112) dX12_weightOf_81 kd_57 (by decide) (by decide) ?_
    refine op_aload_n (k := 0) dX12_weightOf_82 rfl rfl ?_
    refine st_getR (z := 57) dX12_weightOf_83 fl_X12_20 kd_53 (by decide) rfl rr_53_4 ?_
    refine op_bipush (v := 107) dX12_weightOf_86 (by decide) ?_
    refine op_iload_n (k := 1) dX12_weightOf_88 rfl rfl ?_
    refine st_iast (k := 107) dX12_weightOf_89 kd_57 (by decide) (by decide) ?_
    refine op_aload_n (k := 0) dX12_weightOf_90 rfl rfl ?_
    refine op_aload_n (k := 0) dX12_weightOf_91 rfl rfl ?_
    refine st_getR (z := 55) dX12_weightOf_92 fl_X12_13 kd_53 (by decide) rfl rr_53_2 ?_
    refine op_sipush (v := 160) dX12_weightOf_95 (by decide) ?_
    refine op_iload_n (k := 3) dX12_weightOf_98 rfl rfl ?_
    refine op_iconst (v := 3) dX12_weightOf_99 (by decide) ?_
    refine op_isub dX12_weightOf_100 ?_
    refine op_imul dX12_weightOf_101 ?_
    refine op_aload_n (k := 0) dX12_weightOf_102 rfl rfl ?_
    refine st_getR (z := 56) dX12_weightOf_103 fl_X12_16 kd_53 (by decide) rfl rr_53_3 ?_
    refine op_iload_n (k := 3) dX12_weightOf_106 rfl rfl ?_
    refine op_iconst (v := 3) dX12_weightOf_107 (by decide) ?_
    refine op_isub dX12_weightOf_108 ?_
    obtain ⟨g5, h⟩ := am_gd h
    refine st_iald (k := (x3 - 3).toNatClampNeg) (v := I 56 ((x3 - 3).toNatClampNeg)) dX12_weightOf_109 kd_56 g5 rfl rfl ?_
    obtain ⟨w6, ew6, h⟩ := am_bd h
    refine op_callV (M' := M_X12_goThrough) [.ref 55, .int (160 * (x3 - 3)), .int (I 56 ((x3 - 3).toNatClampNeg))] (S0 := []) dX12_weightOf_110 tw_1498 ok_X12_goThrough tw_1500 tw_64 kd_53 cls_12 rfl rfl rfl (Nat.le_of_ble_eq_true rfl) (Nat.le_of_ble_eq_true rfl) (t_X12_goThrough (by omega) ew6) (am_le_rf _) ?_
    rintro _ _ ⟨rfl, rfl⟩
    refine op_iconst (v := 0) dX12_weightOf_113 (by decide) ?_
    refine op_sipush (v := 1000) dX12_weightOf_114 (by decide) ?_
    refine op_aload_n (k := 0) dX12_weightOf_117 rfl rfl ?_
    refine st_getI (v := w6.1 53 14) dX12_weightOf_118 fl_X12_223 kd_53 (by decide) rfl rfl ?_
    refine op_mmin dX12_weightOf_121 tw_1658 tw_850 tw_119 twl_851 (by simp [Value.category]) ⟨Nat.le_refl _, Nat.le_refl _⟩ ?_
    refine op_mmax dX12_weightOf_124 tw_1581 tw_853 tw_119 twl_854 (by simp [Value.category]) ⟨Nat.le_refl _, Nat.le_refl _⟩ ?_
    cases h
    exact (op_iret dX12_weightOf_127 rfl rfl ⟨rfl, rfl⟩)
  · replace h := am_ip c1 h
    refine op_aload_n (k := 0) dX12_weightOf_5 rfl rfl ?_
    refine op_iconst (v := 1) dX12_weightOf_6 (by decide) ?_
    refine op_iload_n (k := 1) dX12_weightOf_7 rfl rfl ?_
    refine op_ishl dX12_weightOf_8 ?_
    obtain ⟨w7, ew7, h⟩ := am_bd h
    refine op_callV (M' := M_X12_costOf) [.int (1 <<< (x1 &&& 31))] (S0 := []) dX12_weightOf_9 tw_1577 ok_X12_costOf tw_1579 tw_78 kd_53 cls_12 rfl rfl rfl (Nat.le_of_ble_eq_true rfl) (Nat.le_of_ble_eq_true rfl) (t_X12_costOf (by omega) ew7) (am_le_rf _) ?_
    rintro _ _ ⟨rfl, rfl⟩
    cases h
    exact (op_iret dX12_weightOf_12 rfl rfl ⟨rfl, rfl⟩)
theorem t_X12_weightOf {l : Launch} {ρ : am_R} {n d gc gs : Nat} {I : Nat → Nat → Int32} {J : Nat → Nat → Int64} {T : Nat} {x1 : Int32} {x2 : Int32} {x3 : Int32} {q : Int32 × (Nat → Nat → Int32) × Nat} (hd : 2 * n + 10 ≤ d) (h : f_X12_weightOf n I J T x1 x2 x3 = some q) : AW l ρ d M_X12_weightOf 0 [(0, .ref 53), (1, .int x1), (2, .int x2), (3, .int x3)] [] (am_KD, gc, gs) (I, J, am_RT T) (am_KD, gc, gs) (fun v H' => v = [.int q.1] ∧ H' = (q.2.1, J, am_RT (q.2.2))) := by
  obtain ⟨d, rfl⟩ : ∃ e, d = e + 1 := ⟨d - 1, by omega⟩
  exact t_X12_weightOf_0 hd h
