def f_X7_sectionParts_124 (n : Nat) (k50 : (Nat → Nat → Int32) → (Nat → Nat → Int64) → Nat → Int32 → Int32 → Int64 → Int32 → Option (Int64)) (I : Nat → Nat → Int32) (J : Nat → Nat → Int64) (T : Nat) (x2 : Int32) (x4 : Int32) (y5 : Int64) (x7 : Int32) : Option (Int64) :=
  k50 I J T x2 x4 y5 (x7 + 1)
def f_X7_sectionParts_87 (n : Nat) (k50 : (Nat → Nat → Int32) → (Nat → Nat → Int64) → Nat → Int32 → Int32 → Int64 → Int32 → Option (Int64)) (I : Nat → Nat → Int32) (J : Nat → Nat → Int64) (T : Nat) (x2 : Int32) (x4 : Int32) (y5 : Int64) (x7 : Int32) (s0 : Int32) : Option (Int64) :=
  if s0 ≤ 0 then
   f_X7_sectionParts_124 n k50 I J T x2 x4 y5 x7
  else
   if ok_ix x7 10 then
    if ¬ s0 = 0 then
     f_X7_sectionParts_124 n k50 I J T x2 x4 (y5 + ((((I 3 3) * (I 5 x7.toNatClampNeg)) * (60 / s0)).toInt64)) x7
    else none
   else none
def f_X7_sectionParts_50 (n : Nat) : Nat → (Nat → Nat → Int32) → (Nat → Nat → Int64) → Nat → Int32 → Int32 → Int64 → Int32 → Option (Int64)
  | 0, _, _, _, _, _, _, _ => none
  | m + 1, I, J, T, x2, x4, y5, x7 =>
    if (I 3 0) < x7 then
     some (y5)
    else
     if ((x4 >>> (x7 &&& 31)) &&& 1) = 1 then
      (f_X2_comersOn n I J T x7 x2).bind fun w3 =>
      f_X7_sectionParts_87 n (f_X7_sectionParts_50 n m) I J T x2 x4 y5 x7 w3
     else
      f_X7_sectionParts_87 n (f_X7_sectionParts_50 n m) I J T x2 x4 y5 x7 0
def f_X7_sectionParts_45 (n : Nat) (I : Nat → Nat → Int32) (J : Nat → Nat → Int64) (T : Nat) (x2 : Int32) (x4 : Int32) (z0 : Int64) : Option (Int64) :=
  f_X7_sectionParts_50 n  n I J T x2 x4 z0 1
def f_X7_sectionParts (n : Nat) (I : Nat → Nat → Int32) (J : Nat → Nat → Int64) (T : Nat) (x1 : Int32) (x2 : Int32) : Option (Int64) :=
  (f_J6_bitCount_0f7a4 n I J T x2).bind fun w1 =>
  if ok_ix x1 6 then
   (f_X2_path n I J T (I 6 x1.toNatClampNeg)).bind fun w3 =>
   if w1 ≤ 0 then
    f_X7_sectionParts_45 n  I J T x2 w3 0
   else
    (f_X2_nightCostFor n I J T x2).bind fun w5 =>
    if ¬ w1 = 0 then
     f_X7_sectionParts_45 n  I J T x2 w3 ((w5 * (60 / w1)).toInt64)
    else none
  else none
set_option maxRecDepth 100000 in
set_option maxHeartbeats 4000000 in
theorem t_X7_sectionParts_124 {l : Launch} {ρ : am_R} {n d gc gs : Nat} {k50 : (Nat → Nat → Int32) → (Nat → Nat → Int64) → Nat → Int32 → Int32 → Int64 → Int32 → Option (Int64)} {I : Nat → Nat → Int32} {J : Nat → Nat → Int64} {T : Nat} {x2 : Int32} {x4 : Int32} {y5 : Int64} {x7 : Int32} {q : Int64} (hd : 0 * n + 3 ≤ (d + 1))
    (hk50 : ∀ (I : Nat → Nat → Int32) (J : Nat → Nat → Int64) (T : Nat) (x2 : Int32) (x4 : Int32) (y5 : Int64) (x7 : Int32), k50 I J T x2 x4 y5 x7 = some q → AW l ρ (d + 1) M_X7_sectionParts 50 [(0, .ref 27), (2, .int x2), (4, .int x4), (5, .long y5), (7, .int x7)] [] (am_KD, gc, gs) (I, J, am_RT T) (am_KD, gc, gs) (fun v H' => v = [.long q] ∧ H' = (I, J, am_RT T)))
    (h : f_X7_sectionParts_124 n k50 I J T x2 x4 y5 x7 = some q) : AW l ρ (d + 1) M_X7_sectionParts 124 [(0, .ref 27), (2, .int x2), (4, .int x4), (5, .long y5), (7, .int x7)] [] (am_KD, gc, gs) (I, J, am_RT T) (am_KD, gc, gs) (fun v H' => v = [.long q] ∧ H' = (I, J, am_RT T)) := by
  unfold f_X7_sectionParts_124 at h
  refine op_iinc (k := 4) (v := x7 + 1) (L' := [(7, .int (x7 + 1)), (0, .ref 27), (2, .int x2), (4, .int x4), (5, .long y5)]) dX7_sectionParts_124 rfl rfl (by decide) rfl ?_
  refine op_goto (tgt := 50) dX7_sectionParts_127 (by decide) ?_
  refine AW.perm [1, 2, 3, 4, 0] rfl ?_
  exact hk50 _ _ _ _ _ _ _ h
set_option maxRecDepth 100000 in
set_option maxHeartbeats 4000000 in
theorem t_X7_sectionParts_87 {l : Launch} {ρ : am_R} {n d gc gs : Nat} {k50 : (Nat → Nat → Int32) → (Nat → Nat → Int64) → Nat → Int32 → Int32 → Int64 → Int32 → Option (Int64)} {I : Nat → Nat → Int32} {J : Nat → Nat → Int64} {T : Nat} {x2 : Int32} {x4 : Int32} {y5 : Int64} {x7 : Int32} {s0 : Int32} {q : Int64} (hd : 0 * n + 3 ≤ (d + 1))
    (hk50 : ∀ (I : Nat → Nat → Int32) (J : Nat → Nat → Int64) (T : Nat) (x2 : Int32) (x4 : Int32) (y5 : Int64) (x7 : Int32), k50 I J T x2 x4 y5 x7 = some q → AW l ρ (d + 1) M_X7_sectionParts 50 [(0, .ref 27), (2, .int x2), (4, .int x4), (5, .long y5), (7, .int x7)] [] (am_KD, gc, gs) (I, J, am_RT T) (am_KD, gc, gs) (fun v H' => v = [.long q] ∧ H' = (I, J, am_RT T)))
    (h : f_X7_sectionParts_87 n k50 I J T x2 x4 y5 x7 s0 = some q) : AW l ρ (d + 1) M_X7_sectionParts 87 [(0, .ref 27), (2, .int x2), (4, .int x4), (5, .long y5), (7, .int x7)] [.int s0] (am_KD, gc, gs) (I, J, am_RT T) (am_KD, gc, gs) (fun v H' => v = [.long q] ∧ H' = (I, J, am_RT T)) := by
  unfold f_X7_sectionParts_87 at h
  refine op_istore (L' := [(8, .int s0), (0, .ref 27), (2, .int x2), (4, .int x4), (5, .long y5), (7, .int x7)]) dX7_sectionParts_87 (by decide) rfl ?_
  refine op_iload (k := 0) dX7_sectionParts_89 rfl ?_
  refine op_if_le (tgt := 124) dX7_sectionParts_91 (by decide) (fun c1 => ?_) (fun c1 => ?_)
  · replace h := am_ip c1 h
    refine AW.perm [1, 2, 3, 4, 5] rfl ?_
    exact t_X7_sectionParts_124 hd hk50 h
  · replace h := am_ie c1 h
    refine op_lload (k := 4) dX7_sectionParts_94 rfl ?_
    refine op_aload_n (k := 1) dX7_sectionParts_96 rfl rfl ?_
    refine st_getR (z := 3) dX7_sectionParts_97 fl_X7_18 kd_27 (by decide) rfl rr_27_0 ?_
    refine st_getI (v := I 3 3) dX7_sectionParts_100 fl_X7_92 kd_3 (by decide) rfl rfl ?_
    refine op_aload_n (k := 1) dX7_sectionParts_103 rfl rfl ?_
    refine st_getR (z := 3) dX7_sectionParts_104 fl_X7_18 kd_27 (by decide) rfl rr_27_0 ?_
    refine st_getR (z := 5) dX7_sectionParts_107 fl_X7_95 kd_3 (by decide) rfl rr_3_6 ?_
    refine op_iload (k := 5) dX7_sectionParts_110 rfl ?_
    obtain ⟨g2, h⟩ := am_gd h
    refine st_iald (k := x7.toNatClampNeg) (v := I 5 x7.toNatClampNeg) dX7_sectionParts_112 kd_5 g2 rfl rfl ?_
    refine op_imul dX7_sectionParts_113 ?_
    refine op_bipush (v := 60) dX7_sectionParts_114 (by decide) ?_
    refine op_iload (k := 0) dX7_sectionParts_116 rfl ?_
    obtain ⟨g3, h⟩ := am_gd h
    refine op_idiv dX7_sectionParts_118 g3 ?_
    refine op_imul dX7_sectionParts_119 ?_
    refine op_i2l dX7_sectionParts_120 ?_
    refine op_ladd dX7_sectionParts_121 ?_
    refine op_lstore (L' := [(5, .long (y5 + ((((I 3 3) * (I 5 x7.toNatClampNeg)) * (60 / s0)).toInt64))), (8, .int s0), (0, .ref 27), (2, .int x2), (4, .int x4), (7, .int x7)]) dX7_sectionParts_122 (by decide) rfl ?_
    refine AW.perm [2, 3, 4, 0, 5] rfl ?_
    exact t_X7_sectionParts_124 hd hk50 h
set_option maxRecDepth 100000 in
set_option maxHeartbeats 4000000 in
theorem t_X7_sectionParts_50 {l : Launch} {ρ : am_R} {n d gc gs : Nat} {q : Int64} (hd : 0 * n + 3 ≤ (d + 1))
    : ∀ (m : Nat) (I : Nat → Nat → Int32) (J : Nat → Nat → Int64) (T : Nat) (x2 : Int32) (x4 : Int32) (y5 : Int64) (x7 : Int32), f_X7_sectionParts_50 n  m I J T x2 x4 y5 x7 = some q → AW l ρ (d + 1) M_X7_sectionParts 50 [(0, .ref 27), (2, .int x2), (4, .int x4), (5, .long y5), (7, .int x7)] [] (am_KD, gc, gs) (I, J, am_RT T) (am_KD, gc, gs) (fun v H' => v = [.long q] ∧ H' = (I, J, am_RT T)) := by
  intro m
  induction m with
  | zero =>
    intro I J T x2 x4 y5 x7 h
    rw [f_X7_sectionParts_50] at h
    cases h
  | succ m ih =>
    intro I J T x2 x4 y5 x7 h
    rw [f_X7_sectionParts_50] at h
    refine op_iload (k := 4) dX7_sectionParts_50 rfl ?_
    refine op_aload_n (k := 0) dX7_sectionParts_52 rfl rfl ?_
    refine st_getR (z := 3) dX7_sectionParts_53 fl_X7_18 kd_27 (by decide) rfl rr_27_0 ?_
    refine st_getI (v := I 3 0) dX7_sectionParts_56 fl_X7_86 kd_3 (by decide) rfl rfl ?_
    refine op_icmp_gt (tgt := 130) dX7_sectionParts_59 (by decide) (fun c1 => ?_) (fun c1 => ?_)
    · replace h := am_ip c1 h
      refine op_lload (k := 3) dX7_sectionParts_130 rfl ?_
      cases h
      exact (op_lret dX7_sectionParts_132 rfl ⟨rfl, rfl⟩)
    · replace h := am_ie c1 h
      refine op_iload (k := 2) dX7_sectionParts_62 rfl ?_
      refine op_iload (k := 4) dX7_sectionParts_64 rfl ?_
      refine op_ishr dX7_sectionParts_66 ?_
      refine op_iconst (v := 1) dX7_sectionParts_67 (by decide) ?_
      refine op_iand dX7_sectionParts_68 ?_
      refine op_iconst (v := 1) dX7_sectionParts_69 (by decide) ?_
      refine op_icmp_ne (tgt := 86) dX7_sectionParts_70 (by decide) (fun c2 => ?_) (fun c2 => ?_)
      · replace h := am_ie c2 h
        refine op_iconst (v := 0) dX7_sectionParts_86 (by decide) ?_
        exact t_X7_sectionParts_87 hd ih h
      · replace h := am_ip c2 h
        refine op_aload_n (k := 0) dX7_sectionParts_73 rfl rfl ?_
        refine st_getR (z := 3) dX7_sectionParts_74 fl_X7_18 kd_27 (by decide) rfl rr_27_0 ?_
        refine op_iload (k := 4) dX7_sectionParts_77 rfl ?_
        refine op_iload_n (k := 1) dX7_sectionParts_79 rfl rfl ?_
        obtain ⟨w3, ew3, h⟩ := am_bd h
        refine op_callV (M' := M_X2_comersOn) [.int x7, .int x2] (S0 := []) dX7_sectionParts_80 tw_874 ok_X2_comersOn tw_875 tw_876 kd_3 cls_2 rfl rfl rfl (Nat.le_of_ble_eq_true rfl) (Nat.le_of_ble_eq_true rfl) (t_X2_comersOn (by omega) ew3) (am_le_rf _) ?_
        rintro _ _ ⟨rfl, rfl⟩
        refine op_goto (tgt := 87) dX7_sectionParts_83 (by decide) ?_
        exact t_X7_sectionParts_87 hd ih h
set_option maxRecDepth 100000 in
set_option maxHeartbeats 4000000 in
theorem t_X7_sectionParts_45 {l : Launch} {ρ : am_R} {n d gc gs : Nat} {I : Nat → Nat → Int32} {J : Nat → Nat → Int64} {T : Nat} {x2 : Int32} {x4 : Int32} {z0 : Int64} {q : Int64} (hd : 0 * n + 3 ≤ (d + 1))
    (h : f_X7_sectionParts_45 n  I J T x2 x4 z0 = some q) : AW l ρ (d + 1) M_X7_sectionParts 45 [(0, .ref 27), (2, .int x2), (4, .int x4)] [.long z0] (am_KD, gc, gs) (I, J, am_RT T) (am_KD, gc, gs) (fun v H' => v = [.long q] ∧ H' = (I, J, am_RT T)) := by
  unfold f_X7_sectionParts_45 at h
  refine op_lstore (L' := [(5, .long z0), (0, .ref 27), (2, .int x2), (4, .int x4)]) dX7_sectionParts_45 (by decide) rfl ?_
  refine op_iconst (v := 1) dX7_sectionParts_47 (by decide) ?_
  refine op_istore (L' := [(7, .int 1), (5, .long z0), (0, .ref 27), (2, .int x2), (4, .int x4)]) dX7_sectionParts_48 (by decide) rfl ?_
  refine AW.perm [2, 3, 4, 1, 0] rfl ?_
  exact t_X7_sectionParts_50 hd  n _ _ _ _ _ _ _ h
set_option maxRecDepth 100000 in
set_option maxHeartbeats 4000000 in
theorem t_X7_sectionParts_0 {l : Launch} {ρ : am_R} {n d gc gs : Nat} {I : Nat → Nat → Int32} {J : Nat → Nat → Int64} {T : Nat} {x1 : Int32} {x2 : Int32} {q : Int64} (hd : 0 * n + 3 ≤ (d + 1))
    (h : f_X7_sectionParts n  I J T x1 x2 = some q) : AW l ρ (d + 1) M_X7_sectionParts 0 [(0, .ref 27), (1, .int x1), (2, .int x2)] [] (am_KD, gc, gs) (I, J, am_RT T) (am_KD, gc, gs) (fun v H' => v = [.long q] ∧ H' = (I, J, am_RT T)) := by
  unfold f_X7_sectionParts at h
  refine op_iload_n (k := 2) dX7_sectionParts_0 rfl rfl ?_
  obtain ⟨w1, ew1, h⟩ := am_bd h
  refine op_callS (M' := M_J6_bitCount_0f7a4) [.int x2] (S0 := []) dX7_sectionParts_1 tw_868 ok_J6_bitCount_0f7a4 tw_797 rfl rfl (Nat.le_of_ble_eq_true rfl) (Nat.le_of_ble_eq_true rfl) (t_J6_bitCount_0f7a4 (by omega) ew1) (am_le_rf _) ?_
  rintro _ _ ⟨rfl, rfl⟩
  refine op_istore_n (L' := [(3, .int w1), (0, .ref 27), (1, .int x1), (2, .int x2)]) dX7_sectionParts_4 rfl (by decide) rfl ?_
  refine op_aload_n (k := 1) dX7_sectionParts_5 rfl rfl ?_
  refine st_getR (z := 3) dX7_sectionParts_6 fl_X7_18 kd_27 (by decide) rfl rr_27_0 ?_
  refine op_aload_n (k := 1) dX7_sectionParts_9 rfl rfl ?_
  refine st_getR (z := 3) dX7_sectionParts_10 fl_X7_18 kd_27 (by decide) rfl rr_27_0 ?_
  refine st_getR (z := 6) dX7_sectionParts_13 fl_X7_77 kd_3 (by decide) rfl rr_3_7 ?_
  refine op_iload_n (k := 2) dX7_sectionParts_16 rfl rfl ?_
  obtain ⟨g2, h⟩ := am_gd h
  refine st_iald (k := x1.toNatClampNeg) (v := I 6 x1.toNatClampNeg) dX7_sectionParts_17 kd_6 g2 rfl rfl ?_
  obtain ⟨w3, ew3, h⟩ := am_bd h
  refine op_callV (M' := M_X2_path) [.int (I 6 x1.toNatClampNeg)] (S0 := []) dX7_sectionParts_18 tw_869 ok_X2_path tw_731 tw_732 kd_3 cls_2 rfl rfl rfl (Nat.le_of_ble_eq_true rfl) (Nat.le_of_ble_eq_true rfl) (t_X2_path (by omega) ew3) (am_le_rf _) ?_
  rintro _ _ ⟨rfl, rfl⟩
  refine op_istore (L' := [(4, .int w3), (3, .int w1), (0, .ref 27), (1, .int x1), (2, .int x2)]) dX7_sectionParts_21 (by decide) rfl ?_
  refine op_iload_n (k := 1) dX7_sectionParts_23 rfl rfl ?_
  refine op_if_le (tgt := 44) dX7_sectionParts_24 (by decide) (fun c4 => ?_) (fun c4 => ?_)
  · replace h := am_ip c4 h
    refine op_lconst (v := 0) dX7_sectionParts_44 (by decide) ?_
    refine AW.perm [2, 4, 0] rfl ?_
    exact t_X7_sectionParts_45 hd  h
  · replace h := am_ie c4 h
    refine op_aload_n (k := 2) dX7_sectionParts_27 rfl rfl ?_
    refine st_getR (z := 3) dX7_sectionParts_28 fl_X7_18 kd_27 (by decide) rfl rr_27_0 ?_
    refine op_iload_n (k := 4) dX7_sectionParts_31 rfl rfl ?_
    obtain ⟨w5, ew5, h⟩ := am_bd h
    refine op_callV (M' := M_X2_nightCostFor) [.int x2] (S0 := []) dX7_sectionParts_32 tw_870 ok_X2_nightCostFor tw_871 tw_872 kd_3 cls_2 rfl rfl rfl (Nat.le_of_ble_eq_true rfl) (Nat.le_of_ble_eq_true rfl) (t_X2_nightCostFor (by omega) ew5) (am_le_rf _) ?_
    rintro _ _ ⟨rfl, rfl⟩
    refine op_bipush (v := 60) dX7_sectionParts_35 (by decide) ?_
    refine op_iload_n (k := 1) dX7_sectionParts_37 rfl rfl ?_
    obtain ⟨g6, h⟩ := am_gd h
    refine op_idiv dX7_sectionParts_38 g6 ?_
    refine op_imul dX7_sectionParts_39 ?_
    refine op_i2l dX7_sectionParts_40 ?_
    refine op_goto (tgt := 45) dX7_sectionParts_41 (by decide) ?_
    refine AW.perm [2, 4, 0] rfl ?_
    exact t_X7_sectionParts_45 hd  h
theorem t_X7_sectionParts {l : Launch} {ρ : am_R} {n d gc gs : Nat} {I : Nat → Nat → Int32} {J : Nat → Nat → Int64} {T : Nat} {x1 : Int32} {x2 : Int32} {q : Int64} (hd : 0 * n + 3 ≤ d) (h : f_X7_sectionParts n I J T x1 x2 = some q) : AW l ρ d M_X7_sectionParts 0 [(0, .ref 27), (1, .int x1), (2, .int x2)] [] (am_KD, gc, gs) (I, J, am_RT T) (am_KD, gc, gs) (fun v H' => v = [.long q] ∧ H' = (I, J, am_RT T)) := by
  obtain ⟨d, rfl⟩ : ∃ e, d = e + 1 := ⟨d - 1, by omega⟩
  exact t_X7_sectionParts_0 hd h
def f_X7_above_55 (n : Nat) (I : Nat → Nat → Int32) (J : Nat → Nat → Int64) (T : Nat) (x2 : Int32) (s0 : Int32) : Option (Int64 × (Nat → Nat → Int32)) :=
  (f_X7_costOf n I J T x2).bind fun w1 =>
  some (w1.1.toInt64 * s0.toInt64, w1.2)
def f_X7_above (n : Nat) (I : Nat → Nat → Int32) (J : Nat → Nat → Int64) (T : Nat) (x1 : Int32) (x2 : Int32) : Option (Int64 × (Nat → Nat → Int32)) :=
  if (I 27 2) = 0 then
   (f_X7_sectionParts n I J T x1 x2).bind fun w8 =>
   some (w8, I)
  else
   if (I 27 2) = 1 then
    (f_X7_orderParts n I J T x1 x2).bind fun w7 =>
    some (w7.1, w7.2)
   else
    (f_X7_weightsOf n I J T x2).bind fun w3 =>
    if w3 ≤ 0 then
     f_X7_above_55 n  I J T x2 1
    else
     (f_J6_bitCount_0f7a4 n I J T x2).bind fun w5 =>
     if ok_ix ((w5 * 6) + x1) 42 then
      f_X7_above_55 n  I J T x2 (I 29 (((w5 * 6) + x1).toNatClampNeg))
     else none
set_option maxRecDepth 100000 in
set_option maxHeartbeats 4000000 in
theorem t_X7_above_55 {l : Launch} {ρ : am_R} {n d gc gs : Nat} {I : Nat → Nat → Int32} {J : Nat → Nat → Int64} {T : Nat} {x2 : Int32} {s0 : Int32} {q : Int64 × (Nat → Nat → Int32)} (hd : 0 * n + 5 ≤ (d + 1))
    (h : f_X7_above_55 n  I J T x2 s0 = some q) : AW l ρ (d + 1) M_X7_above 55 [(0, .ref 27), (2, .int x2)] [.int s0] (am_KD, gc, gs) (I, J, am_RT T) (am_KD, gc, gs) (fun v H' => v = [.long q.1] ∧ H' = (q.2, J, am_RT T)) := by
  unfold f_X7_above_55 at h
  refine op_istore_n (L' := [(3, .int s0), (0, .ref 27), (2, .int x2)]) dX7_above_55 rfl (by decide) rfl ?_
  refine op_aload_n (k := 1) dX7_above_56 rfl rfl ?_
  refine op_iload_n (k := 2) dX7_above_57 rfl rfl ?_
  obtain ⟨w1, ew1, h⟩ := am_bd h
  refine op_callV (M' := M_X7_costOf) [.int x2] (S0 := []) dX7_above_58 tw_855 ok_X7_costOf tw_856 tw_857 kd_27 cls_7 rfl rfl rfl (Nat.le_of_ble_eq_true rfl) (Nat.le_of_ble_eq_true rfl) (t_X7_costOf (by omega) ew1) (am_le_rf _) ?_
  rintro _ _ ⟨rfl, rfl⟩
  refine op_i2l dX7_above_61 ?_
  refine op_iload_n (k := 0) dX7_above_62 rfl rfl ?_
  refine op_i2l dX7_above_63 ?_
  refine op_lmul dX7_above_64 ?_
  cases h
  exact (op_lret dX7_above_65 rfl ⟨rfl, rfl⟩)
set_option maxRecDepth 100000 in
set_option maxHeartbeats 4000000 in
theorem t_X7_above_0 {l : Launch} {ρ : am_R} {n d gc gs : Nat} {I : Nat → Nat → Int32} {J : Nat → Nat → Int64} {T : Nat} {x1 : Int32} {x2 : Int32} {q : Int64 × (Nat → Nat → Int32)} (hd : 0 * n + 5 ≤ (d + 1))
    (h : f_X7_above n  I J T x1 x2 = some q) : AW l ρ (d + 1) M_X7_above 0 [(0, .ref 27), (1, .int x1), (2, .int x2)] [] (am_KD, gc, gs) (I, J, am_RT T) (am_KD, gc, gs) (fun v H' => v = [.long q.1] ∧ H' = (q.2, J, am_RT T)) := by
  unfold f_X7_above at h
  refine op_aload_n (k := 0) dX7_above_0 rfl rfl ?_
  refine st_getI (v := I 27 2) dX7_above_1 fl_X7_26 kd_27 (by decide) rfl rfl ?_
  refine op_if_ne (tgt := 14) dX7_above_4 (by decide) (fun c1 => ?_) (fun c1 => ?_)
  · replace h := am_ie c1 h
    refine op_aload_n (k := 0) dX7_above_14 rfl rfl ?_
    refine st_getI (v := I 27 2) dX7_above_15 fl_X7_26 kd_27 (by decide) rfl rfl ?_
    refine op_iconst (v := 1) dX7_above_18 (by decide) ?_
    refine op_icmp_ne (tgt := 29) dX7_above_19 (by decide) (fun c2 => ?_) (fun c2 => ?_)
    · replace h := am_ie c2 h
      refine op_aload_n (k := 0) dX7_above_29 rfl rfl ?_
      refine op_iload_n (k := 2) dX7_above_30 rfl rfl ?_
      obtain ⟨w3, ew3, h⟩ := am_bd h
      refine op_callV (M' := M_X7_weightsOf) [.int x2] (S0 := []) dX7_above_31 tw_884 ok_X7_weightsOf tw_886 tw_37 kd_27 cls_7 rfl rfl rfl (Nat.le_of_ble_eq_true rfl) (Nat.le_of_ble_eq_true rfl) (t_X7_weightsOf (by omega) ew3) (am_le_rf _) ?_
      rintro _ _ ⟨rfl, rfl⟩
      refine op_if_le (tgt := 54) dX7_above_34 (by decide) (fun c4 => ?_) (fun c4 => ?_)
      · replace h := am_ip c4 h
        refine op_iconst (v := 1) dX7_above_54 (by decide) ?_
        refine AW.perm [0, 2] rfl ?_
        exact t_X7_above_55 hd  h
      · replace h := am_ie c4 h
        refine op_aload_n (k := 0) dX7_above_37 rfl rfl ?_
        refine st_getR (z := 29) dX7_above_38 fl_X7_15 kd_27 (by decide) rfl rr_27_4 ?_
        refine op_iload_n (k := 2) dX7_above_41 rfl rfl ?_
        obtain ⟨w5, ew5, h⟩ := am_bd h
        refine op_callS (M' := M_J6_bitCount_0f7a4) [.int x2] (S0 := [.ref 29]) dX7_above_42 tw_868 ok_J6_bitCount_0f7a4 tw_797 rfl rfl (Nat.le_of_ble_eq_true rfl) (Nat.le_of_ble_eq_true rfl) (t_J6_bitCount_0f7a4 (by omega) ew5) (am_le_rf _) ?_
        rintro _ _ ⟨rfl, rfl⟩
        refine op_bipush (v := 6) dX7_above_45 (by decide) ?_
        refine op_imul dX7_above_47 ?_
        refine op_iload_n (k := 1) dX7_above_48 rfl rfl ?_
        refine op_iadd dX7_above_49 ?_
        obtain ⟨g6, h⟩ := am_gd h
        refine st_iald (k := ((w5 * 6) + x1).toNatClampNeg) (v := I 29 (((w5 * 6) + x1).toNatClampNeg)) dX7_above_50 kd_29 g6 rfl rfl ?_
        refine op_goto (tgt := 55) dX7_above_51 (by decide) ?_
        refine AW.perm [0, 2] rfl ?_
        exact t_X7_above_55 hd  h
    · replace h := am_ip c2 h
      refine op_aload_n (k := 0) dX7_above_22 rfl rfl ?_
      refine op_iload_n (k := 1) dX7_above_23 rfl rfl ?_
      refine op_iload_n (k := 2) dX7_above_24 rfl rfl ?_
      obtain ⟨w7, ew7, h⟩ := am_bd h
      refine op_callV (M' := M_X7_orderParts) [.int x1, .int x2] (S0 := []) dX7_above_25 tw_878 ok_X7_orderParts tw_880 tw_36 kd_27 cls_7 rfl rfl rfl (Nat.le_of_ble_eq_true rfl) (Nat.le_of_ble_eq_true rfl) (t_X7_orderParts (by omega) ew7) (am_le_rf _) ?_
      rintro _ _ ⟨rfl, rfl⟩
      cases h
      exact (op_lret dX7_above_28 rfl ⟨rfl, rfl⟩)
  · replace h := am_ip c1 h
    refine op_aload_n (k := 0) dX7_above_7 rfl rfl ?_
    refine op_iload_n (k := 1) dX7_above_8 rfl rfl ?_
    refine op_iload_n (k := 2) dX7_above_9 rfl rfl ?_
    obtain ⟨w8, ew8, h⟩ := am_bd h
    refine op_callV (M' := M_X7_sectionParts) [.int x1, .int x2] (S0 := []) dX7_above_10 tw_864 ok_X7_sectionParts tw_866 tw_35 kd_27 cls_7 rfl rfl rfl (Nat.le_of_ble_eq_true rfl) (Nat.le_of_ble_eq_true rfl) (t_X7_sectionParts (by omega) ew8) (am_le_rf _) ?_
    rintro _ _ ⟨rfl, rfl⟩
    cases h
    exact (op_lret dX7_above_13 rfl ⟨rfl, rfl⟩)
theorem t_X7_above {l : Launch} {ρ : am_R} {n d gc gs : Nat} {I : Nat → Nat → Int32} {J : Nat → Nat → Int64} {T : Nat} {x1 : Int32} {x2 : Int32} {q : Int64 × (Nat → Nat → Int32)} (hd : 0 * n + 5 ≤ d) (h : f_X7_above n I J T x1 x2 = some q) : AW l ρ d M_X7_above 0 [(0, .ref 27), (1, .int x1), (2, .int x2)] [] (am_KD, gc, gs) (I, J, am_RT T) (am_KD, gc, gs) (fun v H' => v = [.long q.1] ∧ H' = (q.2, J, am_RT T)) := by
  obtain ⟨d, rfl⟩ : ∃ e, d = e + 1 := ⟨d - 1, by omega⟩
  exact t_X7_above_0 hd h
def f_X7_excess_56 (n : Nat) (k25 : (Nat → Nat → Int32) → (Nat → Nat → Int64) → Nat → Int32 → Int32 → Int64 → Int32 → Option (Int64 × (Nat → Nat → Int32))) (I : Nat → Nat → Int32) (J : Nat → Nat → Int64) (T : Nat) (x1 : Int32) (x2 : Int32) (y3 : Int64) (x5 : Int32) : Option (Int64 × (Nat → Nat → Int32)) :=
  k25 I J T x1 x2 y3 (x5 + 1)
def f_X7_excess_25 (n : Nat) : Nat → (Nat → Nat → Int32) → (Nat → Nat → Int64) → Nat → Int32 → Int32 → Int64 → Int32 → Option (Int64 × (Nat → Nat → Int32))
  | 0, _, _, _, _, _, _, _ => none
  | m + 1, I, J, T, x1, x2, y3, x5 =>
    if (I 3 1) ≤ x5 then
     some (y3, I)
    else
     (f_X11_isIn n I J T x5 x1).bind fun w2 =>
     if w2 = 0 then
      f_X7_excess_56 n (f_X7_excess_25 n m) I J T x1 x2 y3 x5
     else
      (f_X7_above n I J T x5 x2).bind fun w4 =>
      f_X7_excess_56 n (f_X7_excess_25 n m) w4.2 J T x1 x2 (y3 + w4.1) x5
def f_X7_excess (n : Nat) (I : Nat → Nat → Int32) (J : Nat → Nat → Int64) (T : Nat) (x1 : Int32) : Option (Int64 × (Nat → Nat → Int32)) :=
  (f_X2_everyone n I J T).bind fun w1 =>
  (f_X7_costOf n I J T x1).bind fun w2 =>
  (f_X7_below n w2.2 J T w1).bind fun w3 =>
  f_X7_excess_25 n  n w2.2 J T x1 w1 (((-w2.1).toInt64) * w3) 0
set_option maxRecDepth 100000 in
set_option maxHeartbeats 4000000 in
theorem t_X7_excess_56 {l : Launch} {ρ : am_R} {n d gc gs : Nat} {k25 : (Nat → Nat → Int32) → (Nat → Nat → Int64) → Nat → Int32 → Int32 → Int64 → Int32 → Option (Int64 × (Nat → Nat → Int32))} {I : Nat → Nat → Int32} {J : Nat → Nat → Int64} {T : Nat} {x1 : Int32} {x2 : Int32} {y3 : Int64} {x5 : Int32} {q : Int64 × (Nat → Nat → Int32)} (hd : 0 * n + 6 ≤ (d + 1))
    (hk25 : ∀ (I : Nat → Nat → Int32) (J : Nat → Nat → Int64) (T : Nat) (x1 : Int32) (x2 : Int32) (y3 : Int64) (x5 : Int32), k25 I J T x1 x2 y3 x5 = some q → AW l ρ (d + 1) M_X7_excess 25 [(0, .ref 27), (1, .int x1), (2, .int x2), (3, .long y3), (5, .int x5)] [] (am_KD, gc, gs) (I, J, am_RT T) (am_KD, gc, gs) (fun v H' => v = [.long q.1] ∧ H' = (q.2, J, am_RT T)))
    (h : f_X7_excess_56 n k25 I J T x1 x2 y3 x5 = some q) : AW l ρ (d + 1) M_X7_excess 56 [(0, .ref 27), (1, .int x1), (2, .int x2), (3, .long y3), (5, .int x5)] [] (am_KD, gc, gs) (I, J, am_RT T) (am_KD, gc, gs) (fun v H' => v = [.long q.1] ∧ H' = (q.2, J, am_RT T)) := by
  unfold f_X7_excess_56 at h
  refine op_iinc (k := 4) (v := x5 + 1) (L' := [(5, .int (x5 + 1)), (0, .ref 27), (1, .int x1), (2, .int x2), (3, .long y3)]) dX7_excess_56 rfl rfl (by decide) rfl ?_
  refine op_goto (tgt := 25) dX7_excess_59 (by decide) ?_
  refine AW.perm [1, 2, 3, 4, 0] rfl ?_
  exact hk25 _ _ _ _ _ _ _ h
set_option maxRecDepth 100000 in
set_option maxHeartbeats 4000000 in
theorem t_X7_excess_25 {l : Launch} {ρ : am_R} {n d gc gs : Nat} {q : Int64 × (Nat → Nat → Int32)} (hd : 0 * n + 6 ≤ (d + 1))
    : ∀ (m : Nat) (I : Nat → Nat → Int32) (J : Nat → Nat → Int64) (T : Nat) (x1 : Int32) (x2 : Int32) (y3 : Int64) (x5 : Int32), f_X7_excess_25 n  m I J T x1 x2 y3 x5 = some q → AW l ρ (d + 1) M_X7_excess 25 [(0, .ref 27), (1, .int x1), (2, .int x2), (3, .long y3), (5, .int x5)] [] (am_KD, gc, gs) (I, J, am_RT T) (am_KD, gc, gs) (fun v H' => v = [.long q.1] ∧ H' = (q.2, J, am_RT T)) := by
  intro m
  induction m with
  | zero =>
    intro I J T x1 x2 y3 x5 h
    rw [f_X7_excess_25] at h
    cases h
  | succ m ih =>
    intro I J T x1 x2 y3 x5 h
    rw [f_X7_excess_25] at h
    refine op_iload (k := 4) dX7_excess_25 rfl ?_
    refine op_aload_n (k := 0) dX7_excess_27 rfl rfl ?_
    refine st_getR (z := 3) dX7_excess_28 fl_X7_18 kd_27 (by decide) rfl rr_27_0 ?_
    refine st_getI (v := I 3 1) dX7_excess_31 fl_X7_36 kd_3 (by decide) rfl rfl ?_
    refine op_icmp_ge (tgt := 62) dX7_excess_34 (by decide) (fun c1 => ?_) (fun c1 => ?_)
    · replace h := am_ip c1 h
      refine op_lload_n (k := 3) dX7_excess_62 rfl rfl ?_
      cases h
      exact (op_lret dX7_excess_63 rfl ⟨rfl, rfl⟩)
    · replace h := am_ie c1 h
      refine op_iload (k := 4) dX7_excess_37 rfl ?_
      refine op_iload_n (k := 1) dX7_excess_39 rfl rfl ?_
      obtain ⟨w2, ew2, h⟩ := am_bd h
      refine op_callSN (M' := M_X11_isIn) [.int x5, .int x1] (S0 := []) dX7_excess_40 tn_888 ok_X11_isIn tw_771 rfl rfl (Nat.le_of_ble_eq_true rfl) (Nat.le_of_ble_eq_true rfl) (t_X11_isIn (by omega) ew2) (am_le_rf _) ?_
      rintro _ _ ⟨rfl, rfl⟩
      refine op_if_eq (tgt := 56) dX7_excess_43 (by decide) (fun c3 => ?_) (fun c3 => ?_)
      · replace h := am_ip c3 h
        exact t_X7_excess_56 hd ih h
      · replace h := am_ie c3 h
        refine op_lload_n (k := 3) dX7_excess_46 rfl rfl ?_
        refine op_aload_n (k := 0) dX7_excess_47 rfl rfl ?_
        refine op_iload (k := 4) dX7_excess_48 rfl ?_
        refine op_iload_n (k := 2) dX7_excess_50 rfl rfl ?_
        obtain ⟨w4, ew4, h⟩ := am_bd h
        refine op_callV (M' := M_X7_above) [.int x5, .int x2] (S0 := [.long y3]) dX7_excess_51 tw_911 ok_X7_above tw_861 tw_862 kd_27 cls_7 rfl rfl rfl (Nat.le_of_ble_eq_true rfl) (Nat.le_of_ble_eq_true rfl) (t_X7_above (by omega) ew4) (am_le_rf _) ?_
        rintro _ _ ⟨rfl, rfl⟩
        refine op_ladd dX7_excess_54 ?_
        refine op_lstore_n (L' := [(3, .long (y3 + w4.1)), (0, .ref 27), (1, .int x1), (2, .int x2), (5, .int x5)]) dX7_excess_55 rfl (by decide) rfl ?_
        refine AW.perm [1, 2, 3, 0, 4] rfl ?_
        exact t_X7_excess_56 hd ih h
set_option maxRecDepth 100000 in
set_option maxHeartbeats 4000000 in
theorem t_X7_excess_0 {l : Launch} {ρ : am_R} {n d gc gs : Nat} {I : Nat → Nat → Int32} {J : Nat → Nat → Int64} {T : Nat} {x1 : Int32} {q : Int64 × (Nat → Nat → Int32)} (hd : 0 * n + 6 ≤ (d + 1))
    (h : f_X7_excess n  I J T x1 = some q) : AW l ρ (d + 1) M_X7_excess 0 [(0, .ref 27), (1, .int x1)] [] (am_KD, gc, gs) (I, J, am_RT T) (am_KD, gc, gs) (fun v H' => v = [.long q.1] ∧ H' = (q.2, J, am_RT T)) := by
  unfold f_X7_excess at h
  refine op_aload_n (k := 0) dX7_excess_0 rfl rfl ?_
  refine st_getR (z := 3) dX7_excess_1 fl_X7_18 kd_27 (by decide) rfl rr_27_0 ?_
  obtain ⟨w1, ew1, h⟩ := am_bd h
  refine op_callV (M' := M_X2_everyone) [] (S0 := []) dX7_excess_4 tw_909 ok_X2_everyone tw_763 tw_764 kd_3 cls_2 rfl rfl rfl (Nat.le_of_ble_eq_true rfl) (Nat.le_of_ble_eq_true rfl) (t_X2_everyone (by omega) ew1) (am_le_rf _) ?_
  rintro _ _ ⟨rfl, rfl⟩
  refine op_istore_n (L' := [(2, .int w1), (0, .ref 27), (1, .int x1)]) dX7_excess_7 rfl (by decide) rfl ?_
  refine op_aload_n (k := 1) dX7_excess_8 rfl rfl ?_
  refine op_iload_n (k := 2) dX7_excess_9 rfl rfl ?_
  obtain ⟨w2, ew2, h⟩ := am_bd h
  refine op_callV (M' := M_X7_costOf) [.int x1] (S0 := []) dX7_excess_10 tw_855 ok_X7_costOf tw_856 tw_857 kd_27 cls_7 rfl rfl rfl (Nat.le_of_ble_eq_true rfl) (Nat.le_of_ble_eq_true rfl) (t_X7_costOf (by omega) ew2) (am_le_rf _) ?_
  rintro _ _ ⟨rfl, rfl⟩
  refine op_ineg dX7_excess_13 ?_
  refine op_i2l dX7_excess_14 ?_
  refine op_aload_n (k := 1) dX7_excess_15 rfl rfl ?_
  refine op_iload_n (k := 0) dX7_excess_16 rfl rfl ?_
  obtain ⟨w3, ew3, h⟩ := am_bd h
  refine op_callV (M' := M_X7_below) [.int w1] (S0 := [.long ((-w2.1).toInt64)]) dX7_excess_17 tw_910 ok_X7_below tw_890 tw_891 kd_27 cls_7 rfl rfl rfl (Nat.le_of_ble_eq_true rfl) (Nat.le_of_ble_eq_true rfl) (t_X7_below (by omega) ew3) (am_le_rf _) ?_
  rintro _ _ ⟨rfl, rfl⟩
  refine op_lmul dX7_excess_20 ?_
  refine op_lstore_n (L' := [(3, .long (((-w2.1).toInt64) * w3)), (2, .int w1), (0, .ref 27), (1, .int x1)]) dX7_excess_21 rfl (by decide) rfl ?_
  refine op_iconst (v := 0) dX7_excess_22 (by decide) ?_
  refine op_istore (L' := [(5, .int 0), (3, .long (((-w2.1).toInt64) * w3)), (2, .int w1), (0, .ref 27), (1, .int x1)]) dX7_excess_23 (by decide) rfl ?_
  refine AW.perm [3, 4, 2, 1, 0] rfl ?_
  exact t_X7_excess_25 hd  n _ _ _ _ _ _ _ h
theorem t_X7_excess {l : Launch} {ρ : am_R} {n d gc gs : Nat} {I : Nat → Nat → Int32} {J : Nat → Nat → Int64} {T : Nat} {x1 : Int32} {q : Int64 × (Nat → Nat → Int32)} (hd : 0 * n + 6 ≤ d) (h : f_X7_excess n I J T x1 = some q) : AW l ρ d M_X7_excess 0 [(0, .ref 27), (1, .int x1)] [] (am_KD, gc, gs) (I, J, am_RT T) (am_KD, gc, gs) (fun v H' => v = [.long q.1] ∧ H' = (q.2, J, am_RT T)) := by
  obtain ⟨d, rfl⟩ : ∃ e, d = e + 1 := ⟨d - 1, by omega⟩
  exact t_X7_excess_0 hd h
def f_X11_plain_69 (n : Nat) (I : Nat → Nat → Int32) (J : Nat → Nat → Int64) (T : Nat) (y5 : Int64) (z0 : Int64) : Option (Int64) :=
  if ¬ y5 = 0 then
   some (z0 / y5)
  else none
def f_X11_plain_48 (n : Nat) (I : Nat → Nat → Int32) (J : Nat → Nat → Int64) (T : Nat) (y0 : Int64) (y2 : Int64) (x4 : Int32) (y5 : Int64) : Option (Int64) :=
  if 0 ≤ (lg_cmp y5 1) then
   if x4 = 0 then
    f_X11_plain_69 n  I J T y5 y2
   else
    f_X11_plain_69 n  I J T y5 y0
  else
   some ((-1))
def f_X11_plain_12 (n : Nat) : Nat → (Nat → Nat → Int32) → (Nat → Nat → Int64) → Nat → Int64 → Int64 → Int32 → Int64 → Int64 → Int32 → Option (Int64)
  | 0, _, _, _, _, _, _, _, _, _ => none
  | m + 1, I, J, T, y0, y2, x4, y5, y7, x9 =>
    if 200 ≤ x9 then
     f_X11_plain_48 n  I J T y0 y2 x4 y5
    else
     if (lg_cmp y7 0) ≤ 0 then
      f_X11_plain_48 n  I J T y0 y2 x4 y5
     else
      if ¬ y7 = 0 then
       f_X11_plain_12 n  m I J T y0 y2 x4 y7 (y5 - y5 / y7 * y7) (x9 + 1)
      else none
def f_X11_plain (n : Nat) (I : Nat → Nat → Int32) (J : Nat → Nat → Int64) (T : Nat) (y0 : Int64) (y2 : Int64) (x4 : Int32) : Option (Int64) :=
  f_X11_plain_12 n  n I J T y0 y2 x4 y2 (am_absL y0) 0
set_option maxRecDepth 100000 in
set_option maxHeartbeats 4000000 in
theorem t_X11_plain_69 {l : Launch} {ρ : am_R} {n d gc gs : Nat} {I : Nat → Nat → Int32} {J : Nat → Nat → Int64} {T : Nat} {y5 : Int64} {z0 : Int64} {q : Int64} (hd : 0 * n + 1 ≤ (d + 1))
    (h : f_X11_plain_69 n  I J T y5 z0 = some q) : AW l ρ (d + 1) M_X11_plain 69 [(5, .long y5)] [.long z0] (am_KD, gc, gs) (I, J, am_RT T) (am_KD, gc, gs) (fun v H' => v = [.long q] ∧ H' = (I, J, am_RT T)) := by
  unfold f_X11_plain_69 at h
  refine op_lload (k := 0) dX11_plain_69 rfl ?_
  obtain ⟨g1, h⟩ := am_gd h
  refine op_ldiv dX11_plain_71 g1 ?_
  cases h
  exact (op_lret dX11_plain_72 rfl ⟨rfl, rfl⟩)
set_option maxRecDepth 100000 in
set_option maxHeartbeats 4000000 in
theorem t_X11_plain_48 {l : Launch} {ρ : am_R} {n d gc gs : Nat} {I : Nat → Nat → Int32} {J : Nat → Nat → Int64} {T : Nat} {y0 : Int64} {y2 : Int64} {x4 : Int32} {y5 : Int64} {q : Int64} (hd : 0 * n + 1 ≤ (d + 1))
    (h : f_X11_plain_48 n  I J T y0 y2 x4 y5 = some q) : AW l ρ (d + 1) M_X11_plain 48 [(0, .long y0), (2, .long y2), (4, .int x4), (5, .long y5)] [] (am_KD, gc, gs) (I, J, am_RT T) (am_KD, gc, gs) (fun v H' => v = [.long q] ∧ H' = (I, J, am_RT T)) := by
  unfold f_X11_plain_48 at h
  refine op_lload (k := 3) dX11_plain_48 rfl ?_
  refine op_lconst (v := 1) dX11_plain_50 (by decide) ?_
  refine op_lcmp dX11_plain_51 ?_
  refine op_if_ge (tgt := 59) dX11_plain_52 (by decide) (fun c1 => ?_) (fun c1 => ?_)
  · replace h := am_ip c1 h
    refine op_iload (k := 2) dX11_plain_59 rfl ?_
    refine op_if_eq (tgt := 68) dX11_plain_61 (by decide) (fun c2 => ?_) (fun c2 => ?_)
    · replace h := am_ip c2 h
      refine op_lload_n (k := 1) dX11_plain_68 rfl rfl ?_
      refine AW.perm [3] rfl ?_
      exact t_X11_plain_69 hd  h
    · replace h := am_ie c2 h
      refine op_lload_n (k := 0) dX11_plain_64 rfl rfl ?_
      refine op_goto (tgt := 69) dX11_plain_65 (by decide) ?_
      refine AW.perm [3] rfl ?_
      exact t_X11_plain_69 hd  h
  · replace h := am_ie c1 h
    refine op_ldc2 dX11_plain_55 tw_795 ?_
    cases h
    exact (op_lret dX11_plain_58 rfl ⟨rfl, rfl⟩)
set_option maxRecDepth 100000 in
set_option maxHeartbeats 4000000 in
theorem t_X11_plain_12 {l : Launch} {ρ : am_R} {n d gc gs : Nat} {q : Int64} (hd : 0 * n + 1 ≤ (d + 1))
    : ∀ (m : Nat) (I : Nat → Nat → Int32) (J : Nat → Nat → Int64) (T : Nat) (y0 : Int64) (y2 : Int64) (x4 : Int32) (y5 : Int64) (y7 : Int64) (x9 : Int32), f_X11_plain_12 n  m I J T y0 y2 x4 y5 y7 x9 = some q → AW l ρ (d + 1) M_X11_plain 12 [(0, .long y0), (2, .long y2), (4, .int x4), (5, .long y5), (7, .long y7), (9, .int x9)] [] (am_KD, gc, gs) (I, J, am_RT T) (am_KD, gc, gs) (fun v H' => v = [.long q] ∧ H' = (I, J, am_RT T)) := by
  intro m
  induction m with
  | zero =>
    intro I J T y0 y2 x4 y5 y7 x9 h
    rw [f_X11_plain_12] at h
    cases h
  | succ m ih =>
    intro I J T y0 y2 x4 y5 y7 x9 h
    rw [f_X11_plain_12] at h
    refine op_iload (k := 5) dX11_plain_12 rfl ?_
    refine op_sipush (v := 200) dX11_plain_14 (by decide) ?_
    refine op_icmp_ge (tgt := 48) dX11_plain_17 (by decide) (fun c1 => ?_) (fun c1 => ?_)
    · replace h := am_ip c1 h
      refine AW.perm [0, 1, 2, 3] rfl ?_
      exact t_X11_plain_48 hd  h
    · replace h := am_ie c1 h
      refine op_lload (k := 4) dX11_plain_20 rfl ?_
      refine op_lconst (v := 0) dX11_plain_22 (by decide) ?_
      refine op_lcmp dX11_plain_23 ?_
      refine op_if_le (tgt := 48) dX11_plain_24 (by decide) (fun c2 => ?_) (fun c2 => ?_)
      · replace h := am_ip c2 h
        refine AW.perm [0, 1, 2, 3] rfl ?_
        exact t_X11_plain_48 hd  h
      · replace h := am_ie c2 h
        refine op_lload (k := 3) dX11_plain_27 rfl ?_
        refine op_lload (k := 4) dX11_plain_29 rfl ?_
        obtain ⟨g3, h⟩ := am_gd h
        refine op_lrem dX11_plain_31 g3 ?_
        refine op_lstore (L' := [(10, .long (y5 - y5 / y7 * y7)), (0, .long y0), (2, .long y2), (4, .int x4), (5, .long y5), (7, .long y7), (9, .int x9)]) dX11_plain_32 (by decide) rfl ?_
        refine op_lload (k := 5) dX11_plain_34 rfl ?_
        refine op_lstore (L' := [(5, .long y7), (10, .long (y5 - y5 / y7 * y7)), (0, .long y0), (2, .long y2), (4, .int x4), (7, .long y7), (9, .int x9)]) dX11_plain_36 (by decide) rfl ?_
        refine op_lload (k := 1) dX11_plain_38 rfl ?_
        refine op_lstore (L' := [(7, .long (y5 - y5 / y7 * y7)), (5, .long y7), (10, .long (y5 - y5 / y7 * y7)), (0, .long y0), (2, .long y2), (4, .int x4), (9, .int x9)]) dX11_plain_40 (by decide) rfl ?_
        refine op_iinc (k := 6) (v := x9 + 1) (L' := [(9, .int (x9 + 1)), (7, .long (y5 - y5 / y7 * y7)), (5, .long y7), (10, .long (y5 - y5 / y7 * y7)), (0, .long y0), (2, .long y2), (4, .int x4)]) dX11_plain_42 rfl rfl (by decide) rfl ?_
        refine op_goto (tgt := 12) dX11_plain_45 (by decide) ?_
        refine AW.perm [4, 5, 6, 2, 1, 0] rfl ?_
        exact ih _ _ _ _ _ _ _ _ _ h
set_option maxRecDepth 100000 in
set_option maxHeartbeats 4000000 in
theorem t_X11_plain_0 {l : Launch} {ρ : am_R} {n d gc gs : Nat} {I : Nat → Nat → Int32} {J : Nat → Nat → Int64} {T : Nat} {y0 : Int64} {y2 : Int64} {x4 : Int32} {q : Int64} (hd : 0 * n + 1 ≤ (d + 1))
    (h : f_X11_plain n  I J T y0 y2 x4 = some q) : AW l ρ (d + 1) M_X11_plain 0 [(0, .long y0), (2, .long y2), (4, .int x4)] [] (am_KD, gc, gs) (I, J, am_RT T) (am_KD, gc, gs) (fun v H' => v = [.long q] ∧ H' = (I, J, am_RT T)) := by
  unfold f_X11_plain at h
  refine op_lload_n (k := 1) dX11_plain_0 rfl rfl ?_
  refine op_lstore (L' := [(5, .long y2), (0, .long y0), (2, .long y2), (4, .int x4)]) dX11_plain_1 (by decide) rfl ?_
  refine op_lload_n (k := 1) dX11_plain_3 rfl rfl ?_
  refine op_mabsL dX11_plain_4 tw_898 tw_899 tw_119 twl_900 (by simp [Value.category]) ⟨Nat.le_refl _, Nat.le_refl _⟩ ?_
  refine op_lstore (L' := [(7, .long (am_absL y0)), (5, .long y2), (0, .long y0), (2, .long y2), (4, .int x4)]) dX11_plain_7 (by decide) rfl ?_
  refine op_iconst (v := 0) dX11_plain_9 (by decide) ?_
  refine op_istore (L' := [(9, .int 0), (7, .long (am_absL y0)), (5, .long y2), (0, .long y0), (2, .long y2), (4, .int x4)]) dX11_plain_10 (by decide) rfl ?_
  refine AW.perm [3, 4, 5, 2, 1, 0] rfl ?_
  exact t_X11_plain_12 hd  n _ _ _ _ _ _ _ _ _ h
theorem t_X11_plain {l : Launch} {ρ : am_R} {n d gc gs : Nat} {I : Nat → Nat → Int32} {J : Nat → Nat → Int64} {T : Nat} {y0 : Int64} {y2 : Int64} {x4 : Int32} {q : Int64} (hd : 0 * n + 1 ≤ d) (h : f_X11_plain n I J T y0 y2 x4 = some q) : AW l ρ d M_X11_plain 0 [(0, .long y0), (2, .long y2), (4, .int x4)] [] (am_KD, gc, gs) (I, J, am_RT T) (am_KD, gc, gs) (fun v H' => v = [.long q] ∧ H' = (I, J, am_RT T)) := by
  obtain ⟨d, rfl⟩ : ∃ e, d = e + 1 := ⟨d - 1, by omega⟩
  exact t_X11_plain_0 hd h
def f_X11_complaint_141 (n : Nat) (I : Nat → Nat → Int32) (J : Nat → Nat → Int64) (T : Nat) (z0 : Int64) (z1 : Int64) (s2 : Int32) : Option (Int64 × (Nat → Nat → Int32)) :=
  (f_X11_plain n I J T z0 z1 s2).bind fun w1 =>
  some (w1, I)
def f_X11_complaint_100 (n : Nat) (k62 : (Nat → Nat → Int32) → (Nat → Nat → Int64) → Nat → Int32 → Int32 → Int64 → Int32 → Option (Int64 × (Nat → Nat → Int32))) (I : Nat → Nat → Int32) (J : Nat → Nat → Int64) (T : Nat) (x2 : Int32) (x3 : Int32) (y4 : Int64) (x6 : Int32) : Option (Int64 × (Nat → Nat → Int32)) :=
  k62 I J T x2 x3 y4 (x6 + 1)
def f_X11_complaint_62 (n : Nat) : Nat → (Nat → Nat → Int32) → (Nat → Nat → Int64) → Nat → Int32 → Int32 → Int64 → Int32 → Option (Int64 × (Nat → Nat → Int32))
  | 0, _, _, _, _, _, _, _ => none
  | m + 1, I, J, T, x2, x3, y4, x6 =>
    (f_X2_everyone n I J T).bind fun w1 =>
    if w1 ≤ x6 then
     if x2 = 0 then
      some (x3.toInt64, I)
     else
      (f_X2_everyone n I J T).bind fun w4 =>
      (f_X7_below n I J T w4).bind fun w5 =>
      if x2 = 1 then
       f_X11_complaint_141 n  I J T y4 w5 1
      else
       f_X11_complaint_141 n  I J T y4 w5 0
    else
     (f_X7_excess n I J T x6).bind fun w7 =>
     if (lg_cmp w7.1 y4) ≤ 0 then
      f_X11_complaint_100 n (f_X11_complaint_62 n m) w7.2 J T x2 x3 y4 x6
     else
      f_X11_complaint_100 n (f_X11_complaint_62 n m) w7.2 J T x2 x6 w7.1 x6
def f_X11_complaint (n : Nat) (I : Nat → Nat → Int32) (J : Nat → Nat → Int64) (T : Nat) (x1 : Int32) (x2 : Int32) : Option (Int64 × (Nat → Nat → Int32)) :=
  (f_X11_isLaw n I J T x1).bind fun w1 =>
  if w1 = 0 then
   some ((-1), I)
  else
   if (I 3 1) < 2 then
    some ((-1), I)
   else
    (f_X11_isWithin n I J T x2 0 2).bind fun w4 =>
    if w4 = 0 then
     some ((-1), I)
    else
     (f_X7_weigh n I J T x1 (I 3 1)).bind fun w6 =>
     (f_X7_excess n w6 J T 1).bind fun w7 =>
     f_X11_complaint_62 n  n w7.2 J T x2 1 w7.1 2
set_option maxRecDepth 100000 in
set_option maxHeartbeats 4000000 in
theorem t_X11_complaint_141 {l : Launch} {ρ : am_R} {n d gc gs : Nat} {I : Nat → Nat → Int32} {J : Nat → Nat → Int64} {T : Nat} {z0 : Int64} {z1 : Int64} {s2 : Int32} {q : Int64 × (Nat → Nat → Int32)} (hd : 0 * n + 7 ≤ (d + 1))
    (h : f_X11_complaint_141 n  I J T z0 z1 s2 = some q) : AW l ρ (d + 1) M_X11_complaint 141 [] [.int s2, .long z1, .long z0] (am_KD, gc, gs) (I, J, am_RT T) (am_KD, gc, gs) (fun v H' => v = [.long q.1] ∧ H' = (q.2, J, am_RT T)) := by
  unfold f_X11_complaint_141 at h
  obtain ⟨w1, ew1, h⟩ := am_bd h
  refine op_callS (M' := M_X11_plain) [.long z0, .long z1, .int s2] (S0 := []) dX11_complaint_141 tw_895 ok_X11_plain tw_896 rfl rfl (Nat.le_of_ble_eq_true rfl) (Nat.le_of_ble_eq_true rfl) (t_X11_plain (by omega) ew1) (am_le_rf _) ?_
  rintro _ _ ⟨rfl, rfl⟩
  cases h
  exact (op_lret dX11_complaint_144 rfl ⟨rfl, rfl⟩)
set_option maxRecDepth 100000 in
set_option maxHeartbeats 4000000 in
theorem t_X11_complaint_100 {l : Launch} {ρ : am_R} {n d gc gs : Nat} {k62 : (Nat → Nat → Int32) → (Nat → Nat → Int64) → Nat → Int32 → Int32 → Int64 → Int32 → Option (Int64 × (Nat → Nat → Int32))} {I : Nat → Nat → Int32} {J : Nat → Nat → Int64} {T : Nat} {x2 : Int32} {x3 : Int32} {y4 : Int64} {x6 : Int32} {q : Int64 × (Nat → Nat → Int32)} (hd : 0 * n + 7 ≤ (d + 1))
    (hk62 : ∀ (I : Nat → Nat → Int32) (J : Nat → Nat → Int64) (T : Nat) (x2 : Int32) (x3 : Int32) (y4 : Int64) (x6 : Int32), k62 I J T x2 x3 y4 x6 = some q → AW l ρ (d + 1) M_X11_complaint 62 [(0, .ref 0), (2, .int x2), (3, .int x3), (4, .long y4), (6, .int x6)] [] (am_KD, gc, gs) (I, J, am_RT T) (am_KD, gc, gs) (fun v H' => v = [.long q.1] ∧ H' = (q.2, J, am_RT T)))
    (h : f_X11_complaint_100 n k62 I J T x2 x3 y4 x6 = some q) : AW l ρ (d + 1) M_X11_complaint 100 [(0, .ref 0), (2, .int x2), (3, .int x3), (4, .long y4), (6, .int x6)] [] (am_KD, gc, gs) (I, J, am_RT T) (am_KD, gc, gs) (fun v H' => v = [.long q.1] ∧ H' = (q.2, J, am_RT T)) := by
  unfold f_X11_complaint_100 at h
  refine op_iinc (k := 4) (v := x6 + 1) (L' := [(6, .int (x6 + 1)), (0, .ref 0), (2, .int x2), (3, .int x3), (4, .long y4)]) dX11_complaint_100 rfl rfl (by decide) rfl ?_
  refine op_goto (tgt := 62) dX11_complaint_103 (by decide) ?_
  refine AW.perm [1, 2, 3, 4, 0] rfl ?_
  exact hk62 _ _ _ _ _ _ _ h
set_option maxRecDepth 100000 in
set_option maxHeartbeats 4000000 in
theorem t_X11_complaint_62 {l : Launch} {ρ : am_R} {n d gc gs : Nat} {q : Int64 × (Nat → Nat → Int32)} (hd : 0 * n + 7 ≤ (d + 1))
    : ∀ (m : Nat) (I : Nat → Nat → Int32) (J : Nat → Nat → Int64) (T : Nat) (x2 : Int32) (x3 : Int32) (y4 : Int64) (x6 : Int32), f_X11_complaint_62 n  m I J T x2 x3 y4 x6 = some q → AW l ρ (d + 1) M_X11_complaint 62 [(0, .ref 0), (2, .int x2), (3, .int x3), (4, .long y4), (6, .int x6)] [] (am_KD, gc, gs) (I, J, am_RT T) (am_KD, gc, gs) (fun v H' => v = [.long q.1] ∧ H' = (q.2, J, am_RT T)) := by
  intro m
  induction m with
  | zero =>
    intro I J T x2 x3 y4 x6 h
    rw [f_X11_complaint_62] at h
    cases h
  | succ m ih =>
    intro I J T x2 x3 y4 x6 h
    rw [f_X11_complaint_62] at h
    refine op_iload (k := 4) dX11_complaint_62 rfl ?_
    refine op_aload_n (k := 0) dX11_complaint_64 rfl rfl ?_
    refine st_getR (z := 3) dX11_complaint_65 fl_X11_19 kd_0 (by decide) rfl rr_0_1 ?_
    obtain ⟨w1, ew1, h⟩ := am_bd h
    refine op_callV (M' := M_X2_everyone) [] (S0 := [.int x6]) dX11_complaint_68 tw_762 ok_X2_everyone tw_763 tw_764 kd_3 cls_2 rfl rfl rfl (Nat.le_of_ble_eq_true rfl) (Nat.le_of_ble_eq_true rfl) (t_X2_everyone (by omega) ew1) (am_le_rf _) ?_
    rintro _ _ ⟨rfl, rfl⟩
    refine op_icmp_ge (tgt := 106) dX11_complaint_71 (by decide) (fun c2 => ?_) (fun c2 => ?_)
    · replace h := am_ip c2 h
      refine op_iload_n (k := 1) dX11_complaint_106 rfl rfl ?_
      refine op_if_ne (tgt := 115) dX11_complaint_107 (by decide) (fun c3 => ?_) (fun c3 => ?_)
      · replace h := am_ie c3 h
        refine op_lload (k := 3) dX11_complaint_115 rfl ?_
        refine op_aload_n (k := 0) dX11_complaint_117 rfl rfl ?_
        refine st_getR (z := 27) dX11_complaint_118 fl_X11_56 kd_0 (by decide) rfl rr_0_6 ?_
        refine op_aload_n (k := 0) dX11_complaint_121 rfl rfl ?_
        refine st_getR (z := 3) dX11_complaint_122 fl_X11_19 kd_0 (by decide) rfl rr_0_1 ?_
        obtain ⟨w4, ew4, h⟩ := am_bd h
        refine op_callV (M' := M_X2_everyone) [] (S0 := [.ref 27, .long y4]) dX11_complaint_125 tw_762 ok_X2_everyone tw_763 tw_764 kd_3 cls_2 rfl rfl rfl (Nat.le_of_ble_eq_true rfl) (Nat.le_of_ble_eq_true rfl) (t_X2_everyone (by omega) ew4) (am_le_rf _) ?_
        rintro _ _ ⟨rfl, rfl⟩
        obtain ⟨w5, ew5, h⟩ := am_bd h
        refine op_callV (M' := M_X7_below) [.int w4] (S0 := [.long y4]) dX11_complaint_128 tw_889 ok_X7_below tw_890 tw_891 kd_27 cls_7 rfl rfl rfl (Nat.le_of_ble_eq_true rfl) (Nat.le_of_ble_eq_true rfl) (t_X7_below (by omega) ew5) (am_le_rf _) ?_
        rintro _ _ ⟨rfl, rfl⟩
        refine op_iload_n (k := 1) dX11_complaint_131 rfl rfl ?_
        refine op_iconst (v := 1) dX11_complaint_132 (by decide) ?_
        refine op_icmp_ne (tgt := 140) dX11_complaint_133 (by decide) (fun c6 => ?_) (fun c6 => ?_)
        · replace h := am_ie c6 h
          refine op_iconst (v := 0) dX11_complaint_140 (by decide) ?_
          refine AW.perm [] rfl ?_
          exact t_X11_complaint_141 hd  h
        · replace h := am_ip c6 h
          refine op_iconst (v := 1) dX11_complaint_136 (by decide) ?_
          refine op_goto (tgt := 141) dX11_complaint_137 (by decide) ?_
          refine AW.perm [] rfl ?_
          exact t_X11_complaint_141 hd  h
      · replace h := am_ip c3 h
        refine op_iload_n (k := 2) dX11_complaint_110 rfl rfl ?_
        refine op_i2l dX11_complaint_111 ?_
        refine op_goto (tgt := 144) dX11_complaint_112 (by decide) ?_
        cases h
        exact (op_lret dX11_complaint_144 rfl ⟨rfl, rfl⟩)
    · replace h := am_ie c2 h
      refine op_aload_n (k := 0) dX11_complaint_74 rfl rfl ?_
      refine st_getR (z := 27) dX11_complaint_75 fl_X11_56 kd_0 (by decide) rfl rr_0_6 ?_
      refine op_iload (k := 4) dX11_complaint_78 rfl ?_
      obtain ⟨w7, ew7, h⟩ := am_bd h
      refine op_callV (M' := M_X7_excess) [.int x6] (S0 := []) dX11_complaint_80 tw_905 ok_X7_excess tw_906 tw_907 kd_27 cls_7 rfl rfl rfl (Nat.le_of_ble_eq_true rfl) (Nat.le_of_ble_eq_true rfl) (t_X7_excess (by omega) ew7) (am_le_rf _) ?_
      rintro _ _ ⟨rfl, rfl⟩
      refine op_lstore (L' := [(7, .long w7.1), (0, .ref 0), (2, .int x2), (3, .int x3), (4, .long y4), (6, .int x6)]) dX11_complaint_83 (by decide) rfl ?_
      refine op_lload (k := 0) dX11_complaint_85 rfl ?_
      refine op_lload (k := 4) dX11_complaint_87 rfl ?_
      refine op_lcmp dX11_complaint_89 ?_
      refine op_if_le (tgt := 100) dX11_complaint_90 (by decide) (fun c8 => ?_) (fun c8 => ?_)
      · replace h := am_ip c8 h
        refine AW.perm [1, 2, 3, 4, 5] rfl ?_
        exact t_X11_complaint_100 hd ih h
      · replace h := am_ie c8 h
        refine op_iload (k := 5) dX11_complaint_93 rfl ?_
        refine op_istore_n (L' := [(3, .int x6), (7, .long w7.1), (0, .ref 0), (2, .int x2), (4, .long y4), (6, .int x6)]) dX11_complaint_95 rfl (by decide) rfl ?_
        refine op_lload (k := 1) dX11_complaint_96 rfl ?_
        refine op_lstore (L' := [(4, .long w7.1), (3, .int x6), (7, .long w7.1), (0, .ref 0), (2, .int x2), (6, .int x6)]) dX11_complaint_98 (by decide) rfl ?_
        refine AW.perm [3, 4, 1, 0, 5] rfl ?_
        exact t_X11_complaint_100 hd ih h
set_option maxRecDepth 100000 in
set_option maxHeartbeats 4000000 in
theorem t_X11_complaint_0 {l : Launch} {ρ : am_R} {n d gc gs : Nat} {I : Nat → Nat → Int32} {J : Nat → Nat → Int64} {T : Nat} {x1 : Int32} {x2 : Int32} {q : Int64 × (Nat → Nat → Int32)} (hd : 0 * n + 7 ≤ (d + 1))
    (h : f_X11_complaint n  I J T x1 x2 = some q) : AW l ρ (d + 1) M_X11_complaint 0 [(0, .ref 0), (1, .int x1), (2, .int x2)] [] (am_KD, gc, gs) (I, J, am_RT T) (am_KD, gc, gs) (fun v H' => v = [.long q.1] ∧ H' = (q.2, J, am_RT T)) := by
  unfold f_X11_complaint at h
  refine op_aload_n (k := 0) dX11_complaint_0 rfl rfl ?_
  refine op_iload_n (k := 1) dX11_complaint_1 rfl rfl ?_
  obtain ⟨w1, ew1, h⟩ := am_bd h
  refine op_callV (M' := M_X11_isLaw) [.int x1] (S0 := []) dX11_complaint_2 tw_791 ok_X11_isLaw tw_793 tw_28 kd_0 cls_11 rfl rfl rfl (Nat.le_of_ble_eq_true rfl) (Nat.le_of_ble_eq_true rfl) (t_X11_isLaw (by omega) ew1) (am_le_rf _) ?_
  rintro _ _ ⟨rfl, rfl⟩
  refine op_if_eq (tgt := 28) dX11_complaint_5 (by decide) (fun c2 => ?_) (fun c2 => ?_)
  · replace h := am_ip c2 h
    refine op_ldc2 dX11_complaint_28 tw_795 ?_
    cases h
    exact (op_lret dX11_complaint_31 rfl ⟨rfl, rfl⟩)
  · replace h := am_ie c2 h
    refine op_aload_n (k := 0) dX11_complaint_8 rfl rfl ?_
    refine st_getR (z := 3) dX11_complaint_9 fl_X11_19 kd_0 (by decide) rfl rr_0_1 ?_
    refine st_getI (v := I 3 1) dX11_complaint_12 fl_X11_143 kd_3 (by decide) rfl rfl ?_
    refine op_iconst (v := 2) dX11_complaint_15 (by decide) ?_
    refine op_icmp_lt (tgt := 28) dX11_complaint_16 (by decide) (fun c3 => ?_) (fun c3 => ?_)
    · replace h := am_ip c3 h
      refine op_ldc2 dX11_complaint_28 tw_795 ?_
      cases h
      exact (op_lret dX11_complaint_31 rfl ⟨rfl, rfl⟩)
    · replace h := am_ie c3 h
      refine op_iload_n (k := 2) dX11_complaint_19 rfl rfl ?_
      refine op_iconst (v := 0) dX11_complaint_20 (by decide) ?_
      refine op_iconst (v := 2) dX11_complaint_21 (by decide) ?_
      obtain ⟨w4, ew4, h⟩ := am_bd h
      refine op_callS (M' := M_X11_isWithin) [.int x2, .int 0, .int 2] (S0 := []) dX11_complaint_22 tw_713 ok_X11_isWithin tw_595 rfl rfl (Nat.le_of_ble_eq_true rfl) (Nat.le_of_ble_eq_true rfl) (t_X11_isWithin (by omega) ew4) (am_le_rf _) ?_
      rintro _ _ ⟨rfl, rfl⟩
      refine op_if_ne (tgt := 32) dX11_complaint_25 (by decide) (fun c5 => ?_) (fun c5 => ?_)
      · replace h := am_ie c5 h
        refine op_aload_n (k := 0) dX11_complaint_32 rfl rfl ?_
        refine st_getR (z := 27) dX11_complaint_33 fl_X11_56 kd_0 (by decide) rfl rr_0_6 ?_
        refine op_iload_n (k := 1) dX11_complaint_36 rfl rfl ?_
        refine op_aload_n (k := 0) dX11_complaint_37 rfl rfl ?_
        refine st_getR (z := 3) dX11_complaint_38 fl_X11_19 kd_0 (by decide) rfl rr_0_1 ?_
        refine st_getI (v := I 3 1) dX11_complaint_41 fl_X11_143 kd_3 (by decide) rfl rfl ?_
        obtain ⟨w6, ew6, h⟩ := am_bd h
        refine op_callV (M' := M_X7_weigh) [.int x1, .int (I 3 1)] (S0 := []) dX11_complaint_44 tw_802 ok_X7_weigh tw_803 tw_804 kd_27 cls_7 rfl rfl rfl (Nat.le_of_ble_eq_true rfl) (Nat.le_of_ble_eq_true rfl) (t_X7_weigh (by omega) ew6) (am_le_rf _) ?_
        rintro _ _ ⟨rfl, rfl⟩
        refine op_iconst (v := 1) dX11_complaint_47 (by decide) ?_
        refine op_istore_n (L' := [(3, .int 1), (0, .ref 0), (1, .int x1), (2, .int x2)]) dX11_complaint_48 rfl (by decide) rfl ?_
        refine op_aload_n (k := 1) dX11_complaint_49 rfl rfl ?_
        refine st_getR (z := 27) dX11_complaint_50 fl_X11_56 kd_0 (by decide) rfl rr_0_6 ?_
        refine op_iconst (v := 1) dX11_complaint_53 (by decide) ?_
        obtain ⟨w7, ew7, h⟩ := am_bd h
        refine op_callV (M' := M_X7_excess) [.int 1] (S0 := []) dX11_complaint_54 tw_905 ok_X7_excess tw_906 tw_907 kd_27 cls_7 rfl rfl rfl (Nat.le_of_ble_eq_true rfl) (Nat.le_of_ble_eq_true rfl) (t_X7_excess (by omega) ew7) (am_le_rf _) ?_
        rintro _ _ ⟨rfl, rfl⟩
        refine op_lstore (L' := [(4, .long w7.1), (3, .int 1), (0, .ref 0), (1, .int x1), (2, .int x2)]) dX11_complaint_57 (by decide) rfl ?_
        refine op_iconst (v := 2) dX11_complaint_59 (by decide) ?_
        refine op_istore (L' := [(6, .int 2), (4, .long w7.1), (3, .int 1), (0, .ref 0), (1, .int x1), (2, .int x2)]) dX11_complaint_60 (by decide) rfl ?_
        refine AW.perm [3, 5, 2, 1, 0] rfl ?_
        exact t_X11_complaint_62 hd  n _ _ _ _ _ _ _ h
      · replace h := am_ip c5 h
        refine op_ldc2 dX11_complaint_28 tw_795 ?_
        cases h
        exact (op_lret dX11_complaint_31 rfl ⟨rfl, rfl⟩)
theorem t_X11_complaint {l : Launch} {ρ : am_R} {n d gc gs : Nat} {I : Nat → Nat → Int32} {J : Nat → Nat → Int64} {T : Nat} {x1 : Int32} {x2 : Int32} {q : Int64 × (Nat → Nat → Int32)} (hd : 0 * n + 7 ≤ d) (h : f_X11_complaint n I J T x1 x2 = some q) : AW l ρ d M_X11_complaint 0 [(0, .ref 0), (1, .int x1), (2, .int x2)] [] (am_KD, gc, gs) (I, J, am_RT T) (am_KD, gc, gs) (fun v H' => v = [.long q.1] ∧ H' = (q.2, J, am_RT T)) := by
  obtain ⟨d, rfl⟩ : ∃ e, d = e + 1 := ⟨d - 1, by omega⟩
  exact t_X11_complaint_0 hd h
def f_X11_isSet (n : Nat) (I : Nat → Nat → Int32) (J : Nat → Nat → Int64) (T : Nat) (x1 : Int32) : Option (Int32) :=
  (f_X11_isRoadless n I J T).bind fun w1 =>
  if w1 = 0 then
   if x1 < 0 then
    some (0)
   else
    (f_X2_everyone n I J T).bind fun w4 =>
    if w4 < x1 then
     some (0)
    else
     some (1)
  else
   some (0)
set_option maxRecDepth 100000 in
set_option maxHeartbeats 4000000 in
theorem t_X11_isSet_0 {l : Launch} {ρ : am_R} {n d gc gs : Nat} {I : Nat → Nat → Int32} {J : Nat → Nat → Int64} {T : Nat} {x1 : Int32} {q : Int32} (hd : 0 * n + 1 ≤ (d + 1))
    (h : f_X11_isSet n  I J T x1 = some q) : AW l ρ (d + 1) M_X11_isSet 0 [(0, .ref 0), (1, .int x1)] [] (am_KD, gc, gs) (I, J, am_RT T) (am_KD, gc, gs) (fun v H' => v = [.int q] ∧ H' = (I, J, am_RT T)) := by
  unfold f_X11_isSet at h
  refine op_aload_n (k := 0) dX11_isSet_0 rfl rfl ?_
  obtain ⟨w1, ew1, h⟩ := am_bd h
  refine op_callV (M' := M_X11_isRoadless) [] (S0 := []) dX11_isSet_1 tw_722 ok_X11_isRoadless tw_724 tw_23 kd_0 cls_11 rfl rfl rfl (Nat.le_of_ble_eq_true rfl) (Nat.le_of_ble_eq_true rfl) (t_X11_isRoadless (by omega) ew1) (am_le_rf _) ?_
  rintro _ _ ⟨rfl, rfl⟩
  refine op_if_ne (tgt := 26) dX11_isSet_4 (by decide) (fun c2 => ?_) (fun c2 => ?_)
  · replace h := am_ie c2 h
    refine op_iconst (v := 0) dX11_isSet_26 (by decide) ?_
    cases h
    exact (op_iret dX11_isSet_27 rfl (by decide) ⟨rfl, rfl⟩)
  · replace h := am_ip c2 h
    refine op_iload_n (k := 1) dX11_isSet_7 rfl rfl ?_
    refine op_if_lt (tgt := 26) dX11_isSet_8 (by decide) (fun c3 => ?_) (fun c3 => ?_)
    · replace h := am_ip c3 h
      refine op_iconst (v := 0) dX11_isSet_26 (by decide) ?_
      cases h
      exact (op_iret dX11_isSet_27 rfl (by decide) ⟨rfl, rfl⟩)
    · replace h := am_ie c3 h
      refine op_iload_n (k := 1) dX11_isSet_11 rfl rfl ?_
      refine op_aload_n (k := 0) dX11_isSet_12 rfl rfl ?_
      refine st_getR (z := 3) dX11_isSet_13 fl_X11_19 kd_0 (by decide) rfl rr_0_1 ?_
      obtain ⟨w4, ew4, h⟩ := am_bd h
      refine op_callV (M' := M_X2_everyone) [] (S0 := [.int x1]) dX11_isSet_16 tw_762 ok_X2_everyone tw_763 tw_764 kd_3 cls_2 rfl rfl rfl (Nat.le_of_ble_eq_true rfl) (Nat.le_of_ble_eq_true rfl) (t_X2_everyone (by omega) ew4) (am_le_rf _) ?_
      rintro _ _ ⟨rfl, rfl⟩
      refine op_icmp_gt (tgt := 26) dX11_isSet_19 (by decide) (fun c5 => ?_) (fun c5 => ?_)
      · replace h := am_ip c5 h
        refine op_iconst (v := 0) dX11_isSet_26 (by decide) ?_
        cases h
        exact (op_iret dX11_isSet_27 rfl (by decide) ⟨rfl, rfl⟩)
      · replace h := am_ie c5 h
        refine op_iconst (v := 1) dX11_isSet_22 (by decide) ?_
        refine op_goto (tgt := 27) dX11_isSet_23 (by decide) ?_
        cases h
        exact (op_iret dX11_isSet_27 rfl (by decide) ⟨rfl, rfl⟩)
theorem t_X11_isSet {l : Launch} {ρ : am_R} {n d gc gs : Nat} {I : Nat → Nat → Int32} {J : Nat → Nat → Int64} {T : Nat} {x1 : Int32} {q : Int32} (hd : 0 * n + 1 ≤ d) (h : f_X11_isSet n I J T x1 = some q) : AW l ρ d M_X11_isSet 0 [(0, .ref 0), (1, .int x1)] [] (am_KD, gc, gs) (I, J, am_RT T) (am_KD, gc, gs) (fun v H' => v = [.int q] ∧ H' = (I, J, am_RT T)) := by
  obtain ⟨d, rfl⟩ : ∃ e, d = e + 1 := ⟨d - 1, by omega⟩
  exact t_X11_isSet_0 hd h
def f_X2_seatsFor_29 (n : Nat) (k4 : (Nat → Nat → Int32) → (Nat → Nat → Int64) → Nat → Int32 → Int32 → Int32 → Option (Int32)) (I : Nat → Nat → Int32) (J : Nat → Nat → Int64) (T : Nat) (x1 : Int32) (x2 : Int32) (x3 : Int32) : Option (Int32) :=
  k4 I J T x1 x2 (x3 + 1)
def f_X2_seatsFor_4 (n : Nat) : Nat → (Nat → Nat → Int32) → (Nat → Nat → Int64) → Nat → Int32 → Int32 → Int32 → Option (Int32)
  | 0, _, _, _, _, _, _ => none
  | m + 1, I, J, T, x1, x2, x3 =>
    if (I 3 1) ≤ x3 then
     some (x2)
    else
     (f_X11_isIn n I J T x3 x1).bind fun w2 =>
     if w2 = 0 then
      f_X2_seatsFor_29 n (f_X2_seatsFor_4 n m) I J T x1 x2 x3
     else
      if ok_ix x3 6 then
       f_X2_seatsFor_29 n (f_X2_seatsFor_4 n m) I J T x1 (x2 + (I 8 x3.toNatClampNeg)) x3
      else none
def f_X2_seatsFor (n : Nat) (I : Nat → Nat → Int32) (J : Nat → Nat → Int64) (T : Nat) (x1 : Int32) : Option (Int32) :=
  f_X2_seatsFor_4 n  n I J T x1 0 0
set_option maxRecDepth 100000 in
set_option maxHeartbeats 4000000 in
theorem t_X2_seatsFor_29 {l : Launch} {ρ : am_R} {n d gc gs : Nat} {k4 : (Nat → Nat → Int32) → (Nat → Nat → Int64) → Nat → Int32 → Int32 → Int32 → Option (Int32)} {I : Nat → Nat → Int32} {J : Nat → Nat → Int64} {T : Nat} {x1 : Int32} {x2 : Int32} {x3 : Int32} {q : Int32} (hd : 0 * n + 1 ≤ (d + 1))
    (hk4 : ∀ (I : Nat → Nat → Int32) (J : Nat → Nat → Int64) (T : Nat) (x1 : Int32) (x2 : Int32) (x3 : Int32), k4 I J T x1 x2 x3 = some q → AW l ρ (d + 1) M_X2_seatsFor 4 [(0, .ref 3), (1, .int x1), (2, .int x2), (3, .int x3)] [] (am_KD, gc, gs) (I, J, am_RT T) (am_KD, gc, gs) (fun v H' => v = [.int q] ∧ H' = (I, J, am_RT T)))
    (h : f_X2_seatsFor_29 n k4 I J T x1 x2 x3 = some q) : AW l ρ (d + 1) M_X2_seatsFor 29 [(0, .ref 3), (1, .int x1), (2, .int x2), (3, .int x3)] [] (am_KD, gc, gs) (I, J, am_RT T) (am_KD, gc, gs) (fun v H' => v = [.int q] ∧ H' = (I, J, am_RT T)) := by
  unfold f_X2_seatsFor_29 at h
  refine op_iinc (k := 3) (v := x3 + 1) (L' := [(3, .int (x3 + 1)), (0, .ref 3), (1, .int x1), (2, .int x2)]) dX2_seatsFor_29 rfl rfl (by decide) rfl ?_
  refine op_goto (tgt := 4) dX2_seatsFor_32 (by decide) ?_
  refine AW.perm [1, 2, 3, 0] rfl ?_
  exact hk4 _ _ _ _ _ _ h
set_option maxRecDepth 100000 in
set_option maxHeartbeats 4000000 in
theorem t_X2_seatsFor_4 {l : Launch} {ρ : am_R} {n d gc gs : Nat} {q : Int32} (hd : 0 * n + 1 ≤ (d + 1))
    : ∀ (m : Nat) (I : Nat → Nat → Int32) (J : Nat → Nat → Int64) (T : Nat) (x1 : Int32) (x2 : Int32) (x3 : Int32), f_X2_seatsFor_4 n  m I J T x1 x2 x3 = some q → AW l ρ (d + 1) M_X2_seatsFor 4 [(0, .ref 3), (1, .int x1), (2, .int x2), (3, .int x3)] [] (am_KD, gc, gs) (I, J, am_RT T) (am_KD, gc, gs) (fun v H' => v = [.int q] ∧ H' = (I, J, am_RT T)) := by
  intro m
  induction m with
  | zero =>
    intro I J T x1 x2 x3 h
    rw [f_X2_seatsFor_4] at h
    cases h
  | succ m ih =>
    intro I J T x1 x2 x3 h
    rw [f_X2_seatsFor_4] at h
    refine op_iload_n (k := 3) dX2_seatsFor_4 rfl rfl ?_
    refine op_aload_n (k := 0) dX2_seatsFor_5 rfl rfl ?_
    refine st_getI (v := I 3 1) dX2_seatsFor_6 fl_X2_31 kd_3 (by decide) rfl rfl ?_
    refine op_icmp_ge (tgt := 35) dX2_seatsFor_9 (by decide) (fun c1 => ?_) (fun c1 => ?_)
    · replace h := am_ip c1 h
      refine op_iload_n (k := 2) dX2_seatsFor_35 rfl rfl ?_
      cases h
      exact (op_iret dX2_seatsFor_36 rfl rfl ⟨rfl, rfl⟩)
    · replace h := am_ie c1 h
      refine op_iload_n (k := 3) dX2_seatsFor_12 rfl rfl ?_
      refine op_iload_n (k := 1) dX2_seatsFor_13 rfl rfl ?_
      obtain ⟨w2, ew2, h⟩ := am_bd h
      refine op_callSN (M' := M_X11_isIn) [.int x3, .int x1] (S0 := []) dX2_seatsFor_14 tn_770 ok_X11_isIn tw_771 rfl rfl (Nat.le_of_ble_eq_true rfl) (Nat.le_of_ble_eq_true rfl) (t_X11_isIn (by omega) ew2) (am_le_rf _) ?_
      rintro _ _ ⟨rfl, rfl⟩
      refine op_if_eq (tgt := 29) dX2_seatsFor_17 (by decide) (fun c3 => ?_) (fun c3 => ?_)
      · replace h := am_ip c3 h
        exact t_X2_seatsFor_29 hd ih h
      · replace h := am_ie c3 h
        refine op_iload_n (k := 2) dX2_seatsFor_20 rfl rfl ?_
        refine op_aload_n (k := 0) dX2_seatsFor_21 rfl rfl ?_
        refine st_getR (z := 8) dX2_seatsFor_22 fl_X2_24 kd_3 (by decide) rfl rr_3_9 ?_
        refine op_iload_n (k := 3) dX2_seatsFor_25 rfl rfl ?_
        obtain ⟨g4, h⟩ := am_gd h
        refine st_iald (k := x3.toNatClampNeg) (v := I 8 x3.toNatClampNeg) dX2_seatsFor_26 kd_8 g4 rfl rfl ?_
        refine op_iadd dX2_seatsFor_27 ?_
        refine op_istore_n (L' := [(2, .int (x2 + (I 8 x3.toNatClampNeg))), (0, .ref 3), (1, .int x1), (3, .int x3)]) dX2_seatsFor_28 rfl (by decide) rfl ?_
        refine AW.perm [1, 2, 0, 3] rfl ?_
        exact t_X2_seatsFor_29 hd ih h
set_option maxRecDepth 100000 in
set_option maxHeartbeats 4000000 in
theorem t_X2_seatsFor_0 {l : Launch} {ρ : am_R} {n d gc gs : Nat} {I : Nat → Nat → Int32} {J : Nat → Nat → Int64} {T : Nat} {x1 : Int32} {q : Int32} (hd : 0 * n + 1 ≤ (d + 1))
    (h : f_X2_seatsFor n  I J T x1 = some q) : AW l ρ (d + 1) M_X2_seatsFor 0 [(0, .ref 3), (1, .int x1)] [] (am_KD, gc, gs) (I, J, am_RT T) (am_KD, gc, gs) (fun v H' => v = [.int q] ∧ H' = (I, J, am_RT T)) := by
  unfold f_X2_seatsFor at h
  refine op_iconst (v := 0) dX2_seatsFor_0 (by decide) ?_
  refine op_istore_n (L' := [(2, .int 0), (0, .ref 3), (1, .int x1)]) dX2_seatsFor_1 rfl (by decide) rfl ?_
  refine op_iconst (v := 0) dX2_seatsFor_2 (by decide) ?_
  refine op_istore_n (L' := [(3, .int 0), (2, .int 0), (0, .ref 3), (1, .int x1)]) dX2_seatsFor_3 rfl (by decide) rfl ?_
  refine AW.perm [2, 3, 1, 0] rfl ?_
  exact t_X2_seatsFor_4 hd  n _ _ _ _ _ _ h
theorem t_X2_seatsFor {l : Launch} {ρ : am_R} {n d gc gs : Nat} {I : Nat → Nat → Int32} {J : Nat → Nat → Int64} {T : Nat} {x1 : Int32} {q : Int32} (hd : 0 * n + 1 ≤ d) (h : f_X2_seatsFor n I J T x1 = some q) : AW l ρ d M_X2_seatsFor 0 [(0, .ref 3), (1, .int x1)] [] (am_KD, gc, gs) (I, J, am_RT T) (am_KD, gc, gs) (fun v H' => v = [.int q] ∧ H' = (I, J, am_RT T)) := by
  obtain ⟨d, rfl⟩ : ∃ e, d = e + 1 := ⟨d - 1, by omega⟩
  exact t_X2_seatsFor_0 hd h
def f_X11_cost (n : Nat) (I : Nat → Nat → Int32) (J : Nat → Nat → Int64) (T : Nat) (x1 : Int32) (x2 : Int32) : Option (Int32) :=
  (f_X11_isSet n I J T x1).bind fun w1 =>
  if w1 = 0 then
   some ((-1))
  else
   (f_X11_isWithin n I J T x2 0 2).bind fun w3 =>
   if w3 = 0 then
    some ((-1))
   else
    if x2 = 0 then
     (f_X2_milesFor n I J T x1).bind fun w9 =>
     some (w9)
    else
     if x2 = 1 then
      (f_X2_costFor n I J T x1).bind fun w8 =>
      some (w8)
     else
      (f_X2_seatsFor n I J T x1).bind fun w7 =>
      some (w7)
set_option maxRecDepth 100000 in
set_option maxHeartbeats 4000000 in
theorem t_X11_cost_0 {l : Launch} {ρ : am_R} {n d gc gs : Nat} {I : Nat → Nat → Int32} {J : Nat → Nat → Int64} {T : Nat} {x1 : Int32} {x2 : Int32} {q : Int32} (hd : 0 * n + 3 ≤ (d + 1))
    (h : f_X11_cost n  I J T x1 x2 = some q) : AW l ρ (d + 1) M_X11_cost 0 [(0, .ref 0), (1, .int x1), (2, .int x2)] [] (am_KD, gc, gs) (I, J, am_RT T) (am_KD, gc, gs) (fun v H' => v = [.int q] ∧ H' = (I, J, am_RT T)) := by
  unfold f_X11_cost at h
  refine op_aload_n (k := 0) dX11_cost_0 rfl rfl ?_
  refine op_iload_n (k := 1) dX11_cost_1 rfl rfl ?_
  obtain ⟨w1, ew1, h⟩ := am_bd h
  refine op_callV (M' := M_X11_isSet) [.int x1] (S0 := []) dX11_cost_2 tw_758 ok_X11_isSet tw_760 tw_26 kd_0 cls_11 rfl rfl rfl (Nat.le_of_ble_eq_true rfl) (Nat.le_of_ble_eq_true rfl) (t_X11_isSet (by omega) ew1) (am_le_rf _) ?_
  rintro _ _ ⟨rfl, rfl⟩
  refine op_if_eq (tgt := 17) dX11_cost_5 (by decide) (fun c2 => ?_) (fun c2 => ?_)
  · replace h := am_ip c2 h
    refine op_iconst (v := (-1)) dX11_cost_17 (by decide) ?_
    cases h
    exact (op_iret dX11_cost_18 rfl rfl ⟨rfl, rfl⟩)
  · replace h := am_ie c2 h
    refine op_iload_n (k := 2) dX11_cost_8 rfl rfl ?_
    refine op_iconst (v := 0) dX11_cost_9 (by decide) ?_
    refine op_iconst (v := 2) dX11_cost_10 (by decide) ?_
    obtain ⟨w3, ew3, h⟩ := am_bd h
    refine op_callS (M' := M_X11_isWithin) [.int x2, .int 0, .int 2] (S0 := []) dX11_cost_11 tw_713 ok_X11_isWithin tw_595 rfl rfl (Nat.le_of_ble_eq_true rfl) (Nat.le_of_ble_eq_true rfl) (t_X11_isWithin (by omega) ew3) (am_le_rf _) ?_
    rintro _ _ ⟨rfl, rfl⟩
    refine op_if_ne (tgt := 19) dX11_cost_14 (by decide) (fun c4 => ?_) (fun c4 => ?_)
    · replace h := am_ie c4 h
      refine op_iload_n (k := 2) dX11_cost_19 rfl rfl ?_
      refine op_if_ne (tgt := 32) dX11_cost_20 (by decide) (fun c5 => ?_) (fun c5 => ?_)
      · replace h := am_ie c5 h
        refine op_iload_n (k := 2) dX11_cost_32 rfl rfl ?_
        refine op_iconst (v := 1) dX11_cost_33 (by decide) ?_
        refine op_icmp_ne (tgt := 48) dX11_cost_34 (by decide) (fun c6 => ?_) (fun c6 => ?_)
        · replace h := am_ie c6 h
          refine op_aload_n (k := 0) dX11_cost_48 rfl rfl ?_
          refine st_getR (z := 3) dX11_cost_49 fl_X11_19 kd_0 (by decide) rfl rr_0_1 ?_
          refine op_iload_n (k := 1) dX11_cost_52 rfl rfl ?_
          obtain ⟨w7, ew7, h⟩ := am_bd h
          refine op_callV (M' := M_X2_seatsFor) [.int x1] (S0 := []) dX11_cost_53 tw_782 ok_X2_seatsFor tw_783 tw_784 kd_3 cls_2 rfl rfl rfl (Nat.le_of_ble_eq_true rfl) (Nat.le_of_ble_eq_true rfl) (t_X2_seatsFor (by omega) ew7) (am_le_rf _) ?_
          rintro _ _ ⟨rfl, rfl⟩
          cases h
          exact (op_iret dX11_cost_56 rfl rfl ⟨rfl, rfl⟩)
        · replace h := am_ip c6 h
          refine op_aload_n (k := 0) dX11_cost_37 rfl rfl ?_
          refine st_getR (z := 3) dX11_cost_38 fl_X11_19 kd_0 (by decide) rfl rr_0_1 ?_
          refine op_iload_n (k := 1) dX11_cost_41 rfl rfl ?_
          obtain ⟨w8, ew8, h⟩ := am_bd h
          refine op_callV (M' := M_X2_costFor) [.int x1] (S0 := []) dX11_cost_42 tw_773 ok_X2_costFor tw_774 tw_775 kd_3 cls_2 rfl rfl rfl (Nat.le_of_ble_eq_true rfl) (Nat.le_of_ble_eq_true rfl) (t_X2_costFor (by omega) ew8) (am_le_rf _) ?_
          rintro _ _ ⟨rfl, rfl⟩
          refine op_goto (tgt := 56) dX11_cost_45 (by decide) ?_
          cases h
          exact (op_iret dX11_cost_56 rfl rfl ⟨rfl, rfl⟩)
      · replace h := am_ip c5 h
        refine op_aload_n (k := 0) dX11_cost_23 rfl rfl ?_
        refine st_getR (z := 3) dX11_cost_24 fl_X11_19 kd_0 (by decide) rfl rr_0_1 ?_
        refine op_iload_n (k := 1) dX11_cost_27 rfl rfl ?_
        obtain ⟨w9, ew9, h⟩ := am_bd h
        refine op_callV (M' := M_X2_milesFor) [.int x1] (S0 := []) dX11_cost_28 tw_766 ok_X2_milesFor tw_767 tw_768 kd_3 cls_2 rfl rfl rfl (Nat.le_of_ble_eq_true rfl) (Nat.le_of_ble_eq_true rfl) (t_X2_milesFor (by omega) ew9) (am_le_rf _) ?_
        rintro _ _ ⟨rfl, rfl⟩
        cases h
        exact (op_iret dX11_cost_31 rfl rfl ⟨rfl, rfl⟩)
    · replace h := am_ip c4 h
      refine op_iconst (v := (-1)) dX11_cost_17 (by decide) ?_
      cases h
      exact (op_iret dX11_cost_18 rfl rfl ⟨rfl, rfl⟩)
theorem t_X11_cost {l : Launch} {ρ : am_R} {n d gc gs : Nat} {I : Nat → Nat → Int32} {J : Nat → Nat → Int64} {T : Nat} {x1 : Int32} {x2 : Int32} {q : Int32} (hd : 0 * n + 3 ≤ d) (h : f_X11_cost n I J T x1 x2 = some q) : AW l ρ d M_X11_cost 0 [(0, .ref 0), (1, .int x1), (2, .int x2)] [] (am_KD, gc, gs) (I, J, am_RT T) (am_KD, gc, gs) (fun v H' => v = [.int q] ∧ H' = (I, J, am_RT T)) := by
  obtain ⟨d, rfl⟩ : ∃ e, d = e + 1 := ⟨d - 1, by omega⟩
  exact t_X11_cost_0 hd h
def f_X11_count (n : Nat) (I : Nat → Nat → Int32) (J : Nat → Nat → Int64) (T : Nat) (x1 : Int32) : Option (Int32) :=
  if x1 = 0 then
   some (I 3 1)
  else
  if x1 = 1 then
   (f_X11_isRoadless n I J T).bind fun w2 =>
   if w2 = 0 then
    some ((I 3 0) + 1)
   else
    some (0)
  else
  if x1 = 2 then
   some (I 19 4)
  else
  if x1 = 3 then
   some (I 1 1)
  else
  if x1 = 4 then
   some (I 41 2)
  else
  if x1 = 5 then
   some (I 41 3)
  else
  if x1 = 6 then
   some (I 37 5)
  else
  if x1 = 7 then
   some (I 3 2)
  else
  if x1 = 8 then
   some (I 3 3)
  else
  if x1 = 9 then
   some (I 3 4)
  else
  if x1 = 10 then
   some (I 0 15)
  else
  some ((-1000000))
set_option maxRecDepth 100000 in
set_option maxHeartbeats 4000000 in
theorem t_X11_count_0 {l : Launch} {ρ : am_R} {n d gc gs : Nat} {I : Nat → Nat → Int32} {J : Nat → Nat → Int64} {T : Nat} {x1 : Int32} {q : Int32} (hd : 0 * n + 1 ≤ (d + 1))
    (h : f_X11_count n  I J T x1 = some q) : AW l ρ (d + 1) M_X11_count 0 [(0, .ref 0), (1, .int x1)] [] (am_KD, gc, gs) (I, J, am_RT T) (am_KD, gc, gs) (fun v H' => v = [.int q] ∧ H' = (I, J, am_RT T)) := by
  unfold f_X11_count at h
  refine op_iload_n (k := 1) dX11_count_0 rfl rfl ?_
  by_cases c1_0 : x1 = 0
  · replace h := am_ip c1_0 h
    refine op_tableIn (tgt := 60) dX11_count_1 (by rw [c1_0]; decide) (by rw [c1_0]; decide) (off := 59) (by rw [c1_0]; rfl) (by decide) ?_
    refine op_aload_n (k := 0) dX11_count_60 rfl rfl ?_
    refine st_getR (z := 3) dX11_count_61 fl_X11_19 kd_0 (by decide) rfl rr_0_1 ?_
    refine st_getI (v := I 3 1) dX11_count_64 fl_X11_143 kd_3 (by decide) rfl rfl ?_
    cases h
    exact (op_iret dX11_count_67 rfl rfl ⟨rfl, rfl⟩)
  replace h := am_ie c1_0 h
  by_cases c1_1 : x1 = 1
  · replace h := am_ip c1_1 h
    refine op_tableIn (tgt := 68) dX11_count_1 (by rw [c1_1]; decide) (by rw [c1_1]; decide) (off := 67) (by rw [c1_1]; rfl) (by decide) ?_
    refine op_aload_n (k := 0) dX11_count_68 rfl rfl ?_
    obtain ⟨w2, ew2, h⟩ := am_bd h
    refine op_callV (M' := M_X11_isRoadless) [] (S0 := []) dX11_count_69 tw_722 ok_X11_isRoadless tw_724 tw_23 kd_0 cls_11 rfl rfl rfl (Nat.le_of_ble_eq_true rfl) (Nat.le_of_ble_eq_true rfl) (t_X11_isRoadless (by omega) ew2) (am_le_rf _) ?_
    rintro _ _ ⟨rfl, rfl⟩
    refine op_if_eq (tgt := 79) dX11_count_72 (by decide) (fun c3 => ?_) (fun c3 => ?_)
    · replace h := am_ip c3 h
      refine op_aload_n (k := 0) dX11_count_79 rfl rfl ?_
      refine st_getR (z := 3) dX11_count_80 fl_X11_19 kd_0 (by decide) rfl rr_0_1 ?_
      refine st_getI (v := I 3 0) dX11_count_83 fl_X11_295 kd_3 (by decide) rfl rfl ?_
      refine op_iconst (v := 1) dX11_count_86 (by decide) ?_
      refine op_iadd dX11_count_87 ?_
      cases h
      exact (op_iret dX11_count_88 rfl rfl ⟨rfl, rfl⟩)
    · replace h := am_ie c3 h
      refine op_iconst (v := 0) dX11_count_75 (by decide) ?_
      refine op_goto (tgt := 88) dX11_count_76 (by decide) ?_
      cases h
      exact (op_iret dX11_count_88 rfl rfl ⟨rfl, rfl⟩)
  replace h := am_ie c1_1 h
  by_cases c1_2 : x1 = 2
  · replace h := am_ip c1_2 h
    refine op_tableIn (tgt := 89) dX11_count_1 (by rw [c1_2]; decide) (by rw [c1_2]; decide) (off := 88) (by rw [c1_2]; rfl) (by decide) ?_
    refine op_aload_n (k := 0) dX11_count_89 rfl rfl ?_
    refine st_getR (z := 19) dX11_count_90 fl_X11_47 kd_0 (by decide) rfl rr_0_5 ?_
    refine st_getI (v := I 19 4) dX11_count_93 fl_X11_132 kd_19 (by decide) rfl rfl ?_
    cases h
    exact (op_iret dX11_count_96 rfl rfl ⟨rfl, rfl⟩)
  replace h := am_ie c1_2 h
  by_cases c1_3 : x1 = 3
  · replace h := am_ip c1_3 h
    refine op_tableIn (tgt := 97) dX11_count_1 (by rw [c1_3]; decide) (by rw [c1_3]; decide) (off := 96) (by rw [c1_3]; rfl) (by decide) ?_
    refine op_aload_n (k := 0) dX11_count_97 rfl rfl ?_
    refine st_getR (z := 1) dX11_count_98 fl_X11_10 kd_0 (by decide) rfl rr_0_0 ?_
    refine st_getI (v := I 1 1) dX11_count_101 fl_X11_117 kd_1 (by decide) rfl rfl ?_
    cases h
    exact (op_iret dX11_count_104 rfl rfl ⟨rfl, rfl⟩)
  replace h := am_ie c1_3 h
  by_cases c1_4 : x1 = 4
  · replace h := am_ip c1_4 h
    refine op_tableIn (tgt := 105) dX11_count_1 (by rw [c1_4]; decide) (by rw [c1_4]; decide) (off := 104) (by rw [c1_4]; rfl) (by decide) ?_
    refine op_aload_n (k := 0) dX11_count_105 rfl rfl ?_
    refine st_getR (z := 41) dX11_count_106 fl_X11_95 kd_0 (by decide) rfl rr_0_11 ?_
    refine st_getI (v := I 41 2) dX11_count_109 fl_X11_308 kd_41 (by decide) rfl rfl ?_
    cases h
    exact (op_iret dX11_count_112 rfl rfl ⟨rfl, rfl⟩)
  replace h := am_ie c1_4 h
  by_cases c1_5 : x1 = 5
  · replace h := am_ip c1_5 h
    refine op_tableIn (tgt := 113) dX11_count_1 (by rw [c1_5]; decide) (by rw [c1_5]; decide) (off := 112) (by rw [c1_5]; rfl) (by decide) ?_
    refine op_aload_n (k := 0) dX11_count_113 rfl rfl ?_
    refine st_getR (z := 41) dX11_count_114 fl_X11_95 kd_0 (by decide) rfl rr_0_11 ?_
    refine st_getI (v := I 41 3) dX11_count_117 fl_X11_327 kd_41 (by decide) rfl rfl ?_
    cases h
    exact (op_iret dX11_count_120 rfl rfl ⟨rfl, rfl⟩)
  replace h := am_ie c1_5 h
  by_cases c1_6 : x1 = 6
  · replace h := am_ip c1_6 h
    refine op_tableIn (tgt := 121) dX11_count_1 (by rw [c1_6]; decide) (by rw [c1_6]; decide) (off := 120) (by rw [c1_6]; rfl) (by decide) ?_
    refine op_aload_n (k := 0) dX11_count_121 rfl rfl ?_
    refine st_getR (z := 37) dX11_count_122 fl_X11_88 kd_0 (by decide) rfl rr_0_10 ?_
    refine st_getI (v := I 37 5) dX11_count_125 fl_X11_142 kd_37 (by decide) rfl rfl ?_
    cases h
    exact (op_iret dX11_count_128 rfl rfl ⟨rfl, rfl⟩)
  replace h := am_ie c1_6 h
  by_cases c1_7 : x1 = 7
  · replace h := am_ip c1_7 h
    refine op_tableIn (tgt := 129) dX11_count_1 (by rw [c1_7]; decide) (by rw [c1_7]; decide) (off := 128) (by rw [c1_7]; rfl) (by decide) ?_
    refine op_aload_n (k := 0) dX11_count_129 rfl rfl ?_
    refine st_getR (z := 3) dX11_count_130 fl_X11_19 kd_0 (by decide) rfl rr_0_1 ?_
    refine st_getI (v := I 3 2) dX11_count_133 fl_X11_330 kd_3 (by decide) rfl rfl ?_
    cases h
    exact (op_iret dX11_count_136 rfl rfl ⟨rfl, rfl⟩)
  replace h := am_ie c1_7 h
  by_cases c1_8 : x1 = 8
  · replace h := am_ip c1_8 h
    refine op_tableIn (tgt := 137) dX11_count_1 (by rw [c1_8]; decide) (by rw [c1_8]; decide) (off := 136) (by rw [c1_8]; rfl) (by decide) ?_
    refine op_aload_n (k := 0) dX11_count_137 rfl rfl ?_
    refine st_getR (z := 3) dX11_count_138 fl_X11_19 kd_0 (by decide) rfl rr_0_1 ?_
    refine st_getI (v := I 3 3) dX11_count_141 fl_X11_333 kd_3 (by decide) rfl rfl ?_
    cases h
    exact (op_iret dX11_count_144 rfl rfl ⟨rfl, rfl⟩)
  replace h := am_ie c1_8 h
  by_cases c1_9 : x1 = 9
  · replace h := am_ip c1_9 h
    refine op_tableIn (tgt := 145) dX11_count_1 (by rw [c1_9]; decide) (by rw [c1_9]; decide) (off := 144) (by rw [c1_9]; rfl) (by decide) ?_
    refine op_aload_n (k := 0) dX11_count_145 rfl rfl ?_
    refine st_getR (z := 3) dX11_count_146 fl_X11_19 kd_0 (by decide) rfl rr_0_1 ?_
    refine st_getI (v := I 3 4) dX11_count_149 fl_X11_336 kd_3 (by decide) rfl rfl ?_
    cases h
    exact (op_iret dX11_count_152 rfl rfl ⟨rfl, rfl⟩)
  replace h := am_ie c1_9 h
  by_cases c1_10 : x1 = 10
  · replace h := am_ip c1_10 h
    refine op_tableIn (tgt := 153) dX11_count_1 (by rw [c1_10]; decide) (by rw [c1_10]; decide) (off := 152) (by rw [c1_10]; rfl) (by decide) ?_
    refine op_aload_n (k := 0) dX11_count_153 rfl rfl ?_
    refine st_getI (v := I 0 15) dX11_count_154 fl_X11_109 kd_0 (by decide) rfl rfl ?_
    cases h
    exact (op_iret dX11_count_157 rfl rfl ⟨rfl, rfl⟩)
  replace h := am_ie c1_10 h
  refine op_tableOut (tgt := 158) dX11_count_1 (by have z0 : x1.toInt ≠ 0 := fun z => c1_0 (Int32.toInt_inj.mp z); have z1 : x1.toInt ≠ 1 := fun z => c1_1 (Int32.toInt_inj.mp z); have z2 : x1.toInt ≠ 2 := fun z => c1_2 (Int32.toInt_inj.mp z); have z3 : x1.toInt ≠ 3 := fun z => c1_3 (Int32.toInt_inj.mp z); have z4 : x1.toInt ≠ 4 := fun z => c1_4 (Int32.toInt_inj.mp z); have z5 : x1.toInt ≠ 5 := fun z => c1_5 (Int32.toInt_inj.mp z); have z6 : x1.toInt ≠ 6 := fun z => c1_6 (Int32.toInt_inj.mp z); have z7 : x1.toInt ≠ 7 := fun z => c1_7 (Int32.toInt_inj.mp z); have z8 : x1.toInt ≠ 8 := fun z => c1_8 (Int32.toInt_inj.mp z); have z9 : x1.toInt ≠ 9 := fun z => c1_9 (Int32.toInt_inj.mp z); have z10 : x1.toInt ≠ 10 := fun z => c1_10 (Int32.toInt_inj.mp z); omega) (by decide) ?_
  refine op_ldcw dX11_count_158 tw_1108 ?_
  cases h
  exact (op_iret dX11_count_161 rfl rfl ⟨rfl, rfl⟩)
theorem t_X11_count {l : Launch} {ρ : am_R} {n d gc gs : Nat} {I : Nat → Nat → Int32} {J : Nat → Nat → Int64} {T : Nat} {x1 : Int32} {q : Int32} (hd : 0 * n + 1 ≤ d) (h : f_X11_count n I J T x1 = some q) : AW l ρ d M_X11_count 0 [(0, .ref 0), (1, .int x1)] [] (am_KD, gc, gs) (I, J, am_RT T) (am_KD, gc, gs) (fun v H' => v = [.int q] ∧ H' = (I, J, am_RT T)) := by
  obtain ⟨d, rfl⟩ : ∃ e, d = e + 1 := ⟨d - 1, by omega⟩
  exact t_X11_count_0 hd h
def f_X11_dig (n : Nat) (I : Nat → Nat → Int32) (J : Nat → Nat → Int64) (T : Nat) (x1 : Int32) (x2 : Int32) : Option (Int32 × (Nat → Nat → Int32)) :=
  (f_X11_isHome n I J T x1).bind fun w1 =>
  if w1 = 0 then
   some (0, I)
  else
   (f_X11_isWithin n I J T x2 1 20).bind fun w3 =>
   if w3 = 0 then
    some (0, I)
   else
    if ok_ix x1 10 then
     some (1, (am_u I 5 x1.toNatClampNeg x2))
    else none
set_option maxRecDepth 100000 in
set_option maxHeartbeats 4000000 in
theorem t_X11_dig_0 {l : Launch} {ρ : am_R} {n d gc gs : Nat} {I : Nat → Nat → Int32} {J : Nat → Nat → Int64} {T : Nat} {x1 : Int32} {x2 : Int32} {q : Int32 × (Nat → Nat → Int32)} (hd : 0 * n + 1 ≤ (d + 1))
    (h : f_X11_dig n  I J T x1 x2 = some q) : AW l ρ (d + 1) M_X11_dig 0 [(0, .ref 0), (1, .int x1), (2, .int x2)] [] (am_KD, gc, gs) (I, J, am_RT T) (am_KD, gc, gs) (fun v H' => v = [.int q.1] ∧ H' = (q.2, J, am_RT T)) := by
  unfold f_X11_dig at h
  refine op_aload_n (k := 0) dX11_dig_0 rfl rfl ?_
  refine op_iload_n (k := 1) dX11_dig_1 rfl rfl ?_
  obtain ⟨w1, ew1, h⟩ := am_bd h
  refine op_callV (M' := M_X11_isHome) [.int x1] (S0 := []) dX11_dig_2 tw_709 ok_X11_isHome tw_711 tw_21 kd_0 cls_11 rfl rfl rfl (Nat.le_of_ble_eq_true rfl) (Nat.le_of_ble_eq_true rfl) (t_X11_isHome (by omega) ew1) (am_le_rf _) ?_
  rintro _ _ ⟨rfl, rfl⟩
  refine op_if_eq (tgt := 18) dX11_dig_5 (by decide) (fun c2 => ?_) (fun c2 => ?_)
  · replace h := am_ip c2 h
    refine op_iconst (v := 0) dX11_dig_18 (by decide) ?_
    cases h
    exact (op_iret dX11_dig_19 rfl (by decide) ⟨rfl, rfl⟩)
  · replace h := am_ie c2 h
    refine op_iload_n (k := 2) dX11_dig_8 rfl rfl ?_
    refine op_iconst (v := 1) dX11_dig_9 (by decide) ?_
    refine op_bipush (v := 20) dX11_dig_10 (by decide) ?_
    obtain ⟨w3, ew3, h⟩ := am_bd h
    refine op_callS (M' := M_X11_isWithin) [.int x2, .int 1, .int 20] (S0 := []) dX11_dig_12 tw_713 ok_X11_isWithin tw_595 rfl rfl (Nat.le_of_ble_eq_true rfl) (Nat.le_of_ble_eq_true rfl) (t_X11_isWithin (by omega) ew3) (am_le_rf _) ?_
    rintro _ _ ⟨rfl, rfl⟩
    refine op_if_ne (tgt := 20) dX11_dig_15 (by decide) (fun c4 => ?_) (fun c4 => ?_)
    · replace h := am_ie c4 h
      refine op_aload_n (k := 0) dX11_dig_20 rfl rfl ?_
      refine st_getR (z := 3) dX11_dig_21 fl_X11_19 kd_0 (by decide) rfl rr_0_1 ?_
      refine st_getR (z := 5) dX11_dig_24 fl_X11_186 kd_3 (by decide) rfl rr_3_6 ?_
      refine op_iload_n (k := 1) dX11_dig_27 rfl rfl ?_
      refine op_iload_n (k := 2) dX11_dig_28 rfl rfl ?_
      obtain ⟨g5, h⟩ := am_gd h
      refine st_iast (k := x1.toNatClampNeg) dX11_dig_29 kd_5 g5 rfl ?_
      refine op_iconst (v := 1) dX11_dig_30 (by decide) ?_
      cases h
      exact (op_iret dX11_dig_31 rfl (by decide) ⟨rfl, rfl⟩)
    · replace h := am_ip c4 h
      refine op_iconst (v := 0) dX11_dig_18 (by decide) ?_
      cases h
      exact (op_iret dX11_dig_19 rfl (by decide) ⟨rfl, rfl⟩)
theorem t_X11_dig {l : Launch} {ρ : am_R} {n d gc gs : Nat} {I : Nat → Nat → Int32} {J : Nat → Nat → Int64} {T : Nat} {x1 : Int32} {x2 : Int32} {q : Int32 × (Nat → Nat → Int32)} (hd : 0 * n + 1 ≤ d) (h : f_X11_dig n I J T x1 x2 = some q) : AW l ρ d M_X11_dig 0 [(0, .ref 0), (1, .int x1), (2, .int x2)] [] (am_KD, gc, gs) (I, J, am_RT T) (am_KD, gc, gs) (fun v H' => v = [.int q.1] ∧ H' = (q.2, J, am_RT T)) := by
  obtain ⟨d, rfl⟩ : ∃ e, d = e + 1 := ⟨d - 1, by omega⟩
  exact t_X11_dig_0 hd h
def f_X0_row (n : Nat) (I : Nat → Nat → Int32) (J : Nat → Nat → Int64) (T : Nat) : Option (Int32) :=
  some (((I 41 2) - (I 41 2) / 40 * 40) * 6)
set_option maxRecDepth 100000 in
set_option maxHeartbeats 4000000 in
theorem t_X0_row_0 {l : Launch} {ρ : am_R} {n d gc gs : Nat} {I : Nat → Nat → Int32} {J : Nat → Nat → Int64} {T : Nat} {q : Int32} (hd : 0 * n + 0 ≤ d)
    (h : f_X0_row n  I J T  = some q) : AW l ρ d M_X0_row 0 [(0, .ref 41)] [] (am_KD, gc, gs) (I, J, am_RT T) (am_KD, gc, gs) (fun v H' => v = [.int q] ∧ H' = (I, J, am_RT T)) := by
  unfold f_X0_row at h
  refine op_aload_n (k := 0) dX0_row_0 rfl rfl ?_
  refine st_getI (v := I 41 2) dX0_row_1 fl_X0_24 kd_41 (by decide) rfl rfl ?_
  refine op_bipush (v := 40) dX0_row_4 (by decide) ?_
  refine op_irem dX0_row_6 (by decide) ?_
  refine op_bipush (v := 6) dX0_row_7 (by decide) ?_
  refine op_imul dX0_row_9 ?_
  cases h
  exact (op_iret dX0_row_10 rfl rfl ⟨rfl, rfl⟩)
theorem t_X0_row {l : Launch} {ρ : am_R} {n d gc gs : Nat} {I : Nat → Nat → Int32} {J : Nat → Nat → Int64} {T : Nat} {q : Int32} (hd : 0 * n + 0 ≤ d) (h : f_X0_row n I J T  = some q) : AW l ρ d M_X0_row 0 [(0, .ref 41)] [] (am_KD, gc, gs) (I, J, am_RT T) (am_KD, gc, gs) (fun v H' => v = [.int q] ∧ H' = (I, J, am_RT T)) := t_X0_row_0 hd h
def f_X0_collect_64 (n : Nat) (k23 : (Nat → Nat → Int32) → (Nat → Nat → Int64) → Nat → Int32 → Int32 → Int64 → Int32 → Option ((Nat → Nat → Int32) × (Nat → Nat → Int64))) (I : Nat → Nat → Int32) (J : Nat → Nat → Int64) (T : Nat) (x2 : Int32) (x3 : Int32) (y4 : Int64) (x6 : Int32) (z0 : Int64) : Option ((Nat → Nat → Int32) × (Nat → Nat → Int64)) :=
  if ok_ix (x3 + x6) 240 then
   if ok_ix x6 6 then
    if ok_ix x6 6 then
     k23 I ((am_u (am_u J 43 ((x3 + x6).toNatClampNeg) z0) 42 x6.toNatClampNeg ((J 42 x6.toNatClampNeg) + z0))) T x2 x3 y4 (x6 + 1)
    else none
   else none
  else none
def f_X0_collect_63 (n : Nat) (k23 : (Nat → Nat → Int32) → (Nat → Nat → Int64) → Nat → Int32 → Int32 → Int64 → Int32 → Option ((Nat → Nat → Int32) × (Nat → Nat → Int64))) (I : Nat → Nat → Int32) (J : Nat → Nat → Int64) (T : Nat) (x2 : Int32) (x3 : Int32) (y4 : Int64) (x6 : Int32) : Option ((Nat → Nat → Int32) × (Nat → Nat → Int64)) :=
  f_X0_collect_64 n k23 I J T x2 x3 y4 x6 0
def f_X0_collect_23 (n : Nat) : Nat → (Nat → Nat → Int32) → (Nat → Nat → Int64) → Nat → Int32 → Int32 → Int64 → Int32 → Option ((Nat → Nat → Int32) × (Nat → Nat → Int64))
  | 0, _, _, _, _, _, _, _ => none
  | m + 1, I, J, T, x2, x3, y4, x6 =>
    if 6 ≤ x6 then
     some ((am_u (am_u I 41 2 ((I 41 2) + 1)) 41 3 (am_min 40 ((I 41 3) + 1))), J)
    else
     (f_X11_isIn n I J T x6 x2).bind fun w2 =>
     if w2 = 0 then
      f_X0_collect_63 n (f_X0_collect_23 n m) I J T x2 x3 y4 x6
     else
      if (lg_cmp y4 0) ≤ 0 then
       f_X0_collect_63 n (f_X0_collect_23 n m) I J T x2 x3 y4 x6
      else
       (f_X7_above n I J T x6 x2).bind fun w5 =>
       if ¬ y4 = 0 then
        f_X0_collect_64 n (f_X0_collect_23 n m) w5.2 J T x2 x3 y4 x6 ((w5.1 * 720) / y4)
       else none
def f_X0_collect_18 (n : Nat) (I : Nat → Nat → Int32) (J : Nat → Nat → Int64) (T : Nat) (x2 : Int32) (x3 : Int32) (z0 : Int64) : Option ((Nat → Nat → Int32) × (Nat → Nat → Int64)) :=
  f_X0_collect_23 n  n I J T x2 x3 z0 0
def f_X0_collect (n : Nat) (I : Nat → Nat → Int32) (J : Nat → Nat → Int64) (T : Nat) (x2 : Int32) : Option ((Nat → Nat → Int32) × (Nat → Nat → Int64)) :=
  (f_X0_row n I J T).bind fun w1 =>
  if x2 = 0 then
   f_X0_collect_18 n  I J T x2 w1 1
  else
   (f_X7_below n I J T x2).bind fun w3 =>
   f_X0_collect_18 n  I J T x2 w1 w3
set_option maxRecDepth 100000 in
set_option maxHeartbeats 4000000 in
theorem t_X0_collect_64 {l : Launch} {ρ : am_R} {n d gc gs : Nat} {k23 : (Nat → Nat → Int32) → (Nat → Nat → Int64) → Nat → Int32 → Int32 → Int64 → Int32 → Option ((Nat → Nat → Int32) × (Nat → Nat → Int64))} {I : Nat → Nat → Int32} {J : Nat → Nat → Int64} {T : Nat} {x2 : Int32} {x3 : Int32} {y4 : Int64} {x6 : Int32} {z0 : Int64} {q : (Nat → Nat → Int32) × (Nat → Nat → Int64)} (hd : 0 * n + 6 ≤ (d + 1))
    (hk23 : ∀ (I : Nat → Nat → Int32) (J : Nat → Nat → Int64) (T : Nat) (x2 : Int32) (x3 : Int32) (y4 : Int64) (x6 : Int32), k23 I J T x2 x3 y4 x6 = some q → AW l ρ (d + 1) M_X0_collect 23 [(0, .ref 41), (1, .ref 27), (2, .int x2), (3, .int x3), (4, .long y4), (6, .int x6)] [] (am_KD, gc, gs) (I, J, am_RT T) (am_KD, gc, gs) (fun v H' => v = [] ∧ H' = (q.1, q.2, am_RT T)))
    (h : f_X0_collect_64 n k23 I J T x2 x3 y4 x6 z0 = some q) : AW l ρ (d + 1) M_X0_collect 64 [(0, .ref 41), (1, .ref 27), (2, .int x2), (3, .int x3), (4, .long y4), (6, .int x6)] [.long z0] (am_KD, gc, gs) (I, J, am_RT T) (am_KD, gc, gs) (fun v H' => v = [] ∧ H' = (q.1, q.2, am_RT T)) := by
  unfold f_X0_collect_64 at h
  refine op_lstore (L' := [(7, .long z0), (0, .ref 41), (1, .ref 27), (2, .int x2), (3, .int x3), (4, .long y4), (6, .int x6)]) dX0_collect_64 (by decide) rfl ?_
  refine op_aload_n (k := 1) dX0_collect_66 rfl rfl ?_
  refine st_getR (z := 43) dX0_collect_67 fl_X0_15 kd_41 (by decide) rfl rr_41_1 ?_
  refine op_iload_n (k := 4) dX0_collect_70 rfl rfl ?_
  refine op_iload (k := 6) dX0_collect_71 rfl ?_
  refine op_iadd dX0_collect_73 ?_
  refine op_lload (k := 0) dX0_collect_74 rfl ?_
  obtain ⟨g1, h⟩ := am_gd h
  refine st_last (k := (x3 + x6).toNatClampNeg) dX0_collect_76 kd_43 g1 rfl ?_
  refine op_aload_n (k := 1) dX0_collect_77 rfl rfl ?_
  refine st_getR (z := 42) dX0_collect_78 fl_X0_9 kd_41 (by decide) rfl rr_41_0 ?_
  refine op_iload (k := 6) dX0_collect_81 rfl ?_
  refine op_dup2 dX0_collect_83 rfl rfl ?_
  obtain ⟨g2, h⟩ := am_gd h
  refine st_lald (k := x6.toNatClampNeg) (v := J 42 x6.toNatClampNeg) dX0_collect_84 kd_42 g2 rfl rfl ?_
  refine op_lload (k := 0) dX0_collect_85 rfl ?_
  refine op_ladd dX0_collect_87 ?_
  obtain ⟨g3, h⟩ := am_gd h
  refine st_last (k := x6.toNatClampNeg) dX0_collect_88 kd_42 g3 rfl ?_
  refine op_iinc (k := 6) (v := x6 + 1) (L' := [(6, .int (x6 + 1)), (7, .long z0), (0, .ref 41), (1, .ref 27), (2, .int x2), (3, .int x3), (4, .long y4)]) dX0_collect_89 rfl rfl (by decide) rfl ?_
  refine op_goto (tgt := 23) dX0_collect_92 (by decide) ?_
  refine AW.perm [2, 3, 4, 5, 6, 0] rfl ?_
  exact hk23 _ _ _ _ _ _ _ h
set_option maxRecDepth 100000 in
set_option maxHeartbeats 4000000 in
theorem t_X0_collect_63 {l : Launch} {ρ : am_R} {n d gc gs : Nat} {k23 : (Nat → Nat → Int32) → (Nat → Nat → Int64) → Nat → Int32 → Int32 → Int64 → Int32 → Option ((Nat → Nat → Int32) × (Nat → Nat → Int64))} {I : Nat → Nat → Int32} {J : Nat → Nat → Int64} {T : Nat} {x2 : Int32} {x3 : Int32} {y4 : Int64} {x6 : Int32} {q : (Nat → Nat → Int32) × (Nat → Nat → Int64)} (hd : 0 * n + 6 ≤ (d + 1))
    (hk23 : ∀ (I : Nat → Nat → Int32) (J : Nat → Nat → Int64) (T : Nat) (x2 : Int32) (x3 : Int32) (y4 : Int64) (x6 : Int32), k23 I J T x2 x3 y4 x6 = some q → AW l ρ (d + 1) M_X0_collect 23 [(0, .ref 41), (1, .ref 27), (2, .int x2), (3, .int x3), (4, .long y4), (6, .int x6)] [] (am_KD, gc, gs) (I, J, am_RT T) (am_KD, gc, gs) (fun v H' => v = [] ∧ H' = (q.1, q.2, am_RT T)))
    (h : f_X0_collect_63 n k23 I J T x2 x3 y4 x6 = some q) : AW l ρ (d + 1) M_X0_collect 63 [(0, .ref 41), (1, .ref 27), (2, .int x2), (3, .int x3), (4, .long y4), (6, .int x6)] [] (am_KD, gc, gs) (I, J, am_RT T) (am_KD, gc, gs) (fun v H' => v = [] ∧ H' = (q.1, q.2, am_RT T)) := by
  unfold f_X0_collect_63 at h
  refine op_lconst (v := 0) dX0_collect_63 (by decide) ?_
  exact t_X0_collect_64 hd hk23 h
set_option maxRecDepth 100000 in
set_option maxHeartbeats 4000000 in
theorem t_X0_collect_23 {l : Launch} {ρ : am_R} {n d gc gs : Nat} {q : (Nat → Nat → Int32) × (Nat → Nat → Int64)} (hd : 0 * n + 6 ≤ (d + 1))
    : ∀ (m : Nat) (I : Nat → Nat → Int32) (J : Nat → Nat → Int64) (T : Nat) (x2 : Int32) (x3 : Int32) (y4 : Int64) (x6 : Int32), f_X0_collect_23 n  m I J T x2 x3 y4 x6 = some q → AW l ρ (d + 1) M_X0_collect 23 [(0, .ref 41), (1, .ref 27), (2, .int x2), (3, .int x3), (4, .long y4), (6, .int x6)] [] (am_KD, gc, gs) (I, J, am_RT T) (am_KD, gc, gs) (fun v H' => v = [] ∧ H' = (q.1, q.2, am_RT T)) := by
  intro m
  induction m with
  | zero =>
    intro I J T x2 x3 y4 x6 h
    rw [f_X0_collect_23] at h
    cases h
  | succ m ih =>
    intro I J T x2 x3 y4 x6 h
    rw [f_X0_collect_23] at h
    refine op_iload (k := 5) dX0_collect_23 rfl ?_
    refine op_bipush (v := 6) dX0_collect_25 (by decide) ?_
    refine op_icmp_ge (tgt := 95) dX0_collect_27 (by decide) (fun c1 => ?_) (fun c1 => ?_)
    · replace h := am_ip c1 h
      refine op_aload_n (k := 0) dX0_collect_95 rfl rfl ?_
      refine op_dup dX0_collect_96 rfl ?_
      refine st_getI (v := I 41 2) dX0_collect_97 fl_X0_24 kd_41 (by decide) rfl rfl ?_
      refine op_iconst (v := 1) dX0_collect_100 (by decide) ?_
      refine op_iadd dX0_collect_101 ?_
      refine st_putI dX0_collect_102 fl_X0_24 kd_41 (by decide) rfl ?_
      refine op_aload_n (k := 0) dX0_collect_105 rfl rfl ?_
      refine op_bipush (v := 40) dX0_collect_106 (by decide) ?_
      refine op_aload_n (k := 0) dX0_collect_108 rfl rfl ?_
      refine st_getI (v := I 41 3) dX0_collect_109 fl_X0_28 kd_41 (by decide) rfl rfl ?_
      refine op_iconst (v := 1) dX0_collect_112 (by decide) ?_
      refine op_iadd dX0_collect_113 ?_
      refine op_mmin dX0_collect_114 tw_1071 tw_850 tw_119 twl_851 (by simp [Value.category]) ⟨Nat.le_refl _, Nat.le_refl _⟩ ?_
      refine st_putI dX0_collect_117 fl_X0_28 kd_41 (by decide) rfl ?_
      cases h
      exact (op_vret dX0_collect_120 rfl ⟨rfl, rfl⟩)
    · replace h := am_ie c1 h
      refine op_iload (k := 5) dX0_collect_30 rfl ?_
      refine op_iload_n (k := 2) dX0_collect_32 rfl rfl ?_
      obtain ⟨w2, ew2, h⟩ := am_bd h
      refine op_callSN (M' := M_X11_isIn) [.int x6, .int x2] (S0 := []) dX0_collect_33 tn_1068 ok_X11_isIn tw_771 rfl rfl (Nat.le_of_ble_eq_true rfl) (Nat.le_of_ble_eq_true rfl) (t_X11_isIn (by omega) ew2) (am_le_rf _) ?_
      rintro _ _ ⟨rfl, rfl⟩
      refine op_if_eq (tgt := 63) dX0_collect_36 (by decide) (fun c3 => ?_) (fun c3 => ?_)
      · replace h := am_ip c3 h
        exact t_X0_collect_63 hd ih h
      · replace h := am_ie c3 h
        refine op_lload (k := 4) dX0_collect_39 rfl ?_
        refine op_lconst (v := 0) dX0_collect_41 (by decide) ?_
        refine op_lcmp dX0_collect_42 ?_
        refine op_if_le (tgt := 63) dX0_collect_43 (by decide) (fun c4 => ?_) (fun c4 => ?_)
        · replace h := am_ip c4 h
          exact t_X0_collect_63 hd ih h
        · replace h := am_ie c4 h
          refine op_aload_n (k := 1) dX0_collect_46 rfl rfl ?_
          refine op_iload (k := 5) dX0_collect_47 rfl ?_
          refine op_iload_n (k := 2) dX0_collect_49 rfl rfl ?_
          obtain ⟨w5, ew5, h⟩ := am_bd h
          refine op_callV (M' := M_X7_above) [.int x6, .int x2] (S0 := []) dX0_collect_50 tw_1069 ok_X7_above tw_861 tw_862 kd_27 cls_7 rfl rfl rfl (Nat.le_of_ble_eq_true rfl) (Nat.le_of_ble_eq_true rfl) (t_X7_above (by omega) ew5) (am_le_rf _) ?_
          rintro _ _ ⟨rfl, rfl⟩
          refine op_ldc2 dX0_collect_53 tw_1070 ?_
          refine op_lmul dX0_collect_56 ?_
          refine op_lload (k := 4) dX0_collect_57 rfl ?_
          obtain ⟨g6, h⟩ := am_gd h
          refine op_ldiv dX0_collect_59 g6 ?_
          refine op_goto (tgt := 64) dX0_collect_60 (by decide) ?_
          exact t_X0_collect_64 hd ih h
set_option maxRecDepth 100000 in
set_option maxHeartbeats 4000000 in
theorem t_X0_collect_18 {l : Launch} {ρ : am_R} {n d gc gs : Nat} {I : Nat → Nat → Int32} {J : Nat → Nat → Int64} {T : Nat} {x2 : Int32} {x3 : Int32} {z0 : Int64} {q : (Nat → Nat → Int32) × (Nat → Nat → Int64)} (hd : 0 * n + 6 ≤ (d + 1))
    (h : f_X0_collect_18 n  I J T x2 x3 z0 = some q) : AW l ρ (d + 1) M_X0_collect 18 [(0, .ref 41), (1, .ref 27), (2, .int x2), (3, .int x3)] [.long z0] (am_KD, gc, gs) (I, J, am_RT T) (am_KD, gc, gs) (fun v H' => v = [] ∧ H' = (q.1, q.2, am_RT T)) := by
  unfold f_X0_collect_18 at h
  refine op_lstore (L' := [(4, .long z0), (0, .ref 41), (1, .ref 27), (2, .int x2), (3, .int x3)]) dX0_collect_18 (by decide) rfl ?_
  refine op_iconst (v := 0) dX0_collect_20 (by decide) ?_
  refine op_istore (L' := [(6, .int 0), (4, .long z0), (0, .ref 41), (1, .ref 27), (2, .int x2), (3, .int x3)]) dX0_collect_21 (by decide) rfl ?_
  refine AW.perm [2, 3, 4, 5, 1, 0] rfl ?_
  exact t_X0_collect_23 hd  n _ _ _ _ _ _ _ h
set_option maxRecDepth 100000 in
set_option maxHeartbeats 4000000 in
theorem t_X0_collect_0 {l : Launch} {ρ : am_R} {n d gc gs : Nat} {I : Nat → Nat → Int32} {J : Nat → Nat → Int64} {T : Nat} {x2 : Int32} {q : (Nat → Nat → Int32) × (Nat → Nat → Int64)} (hd : 0 * n + 6 ≤ (d + 1))
    (h : f_X0_collect n  I J T x2 = some q) : AW l ρ (d + 1) M_X0_collect 0 [(0, .ref 41), (1, .ref 27), (2, .int x2)] [] (am_KD, gc, gs) (I, J, am_RT T) (am_KD, gc, gs) (fun v H' => v = [] ∧ H' = (q.1, q.2, am_RT T)) := by
  unfold f_X0_collect at h
  refine op_aload_n (k := 0) dX0_collect_0 rfl rfl ?_
  obtain ⟨w1, ew1, h⟩ := am_bd h
  refine op_callV (M' := M_X0_row) [] (S0 := []) dX0_collect_1 tw_1063 ok_X0_row tw_1065 tw_49 kd_41 cls_0 rfl rfl rfl (Nat.le_of_ble_eq_true rfl) (Nat.le_of_ble_eq_true rfl) (t_X0_row (by omega) ew1) (am_le_rf _) ?_
  rintro _ _ ⟨rfl, rfl⟩
  refine op_istore_n (L' := [(3, .int w1), (0, .ref 41), (1, .ref 27), (2, .int x2)]) dX0_collect_4 rfl (by decide) rfl ?_
  refine op_iload_n (k := 3) dX0_collect_5 rfl rfl ?_
  refine op_if_ne (tgt := 13) dX0_collect_6 (by decide) (fun c2 => ?_) (fun c2 => ?_)
  · replace h := am_ie c2 h
    refine op_aload_n (k := 2) dX0_collect_13 rfl rfl ?_
    refine op_iload_n (k := 3) dX0_collect_14 rfl rfl ?_
    obtain ⟨w3, ew3, h⟩ := am_bd h
    refine op_callV (M' := M_X7_below) [.int x2] (S0 := []) dX0_collect_15 tw_1067 ok_X7_below tw_890 tw_891 kd_27 cls_7 rfl rfl rfl (Nat.le_of_ble_eq_true rfl) (Nat.le_of_ble_eq_true rfl) (t_X7_below (by omega) ew3) (am_le_rf _) ?_
    rintro _ _ ⟨rfl, rfl⟩
    refine AW.perm [1, 2, 3, 0] rfl ?_
    exact t_X0_collect_18 hd  h
  · replace h := am_ip c2 h
    refine op_lconst (v := 1) dX0_collect_9 (by decide) ?_
    refine op_goto (tgt := 18) dX0_collect_10 (by decide) ?_
    refine AW.perm [1, 2, 3, 0] rfl ?_
    exact t_X0_collect_18 hd  h
theorem t_X0_collect {l : Launch} {ρ : am_R} {n d gc gs : Nat} {I : Nat → Nat → Int32} {J : Nat → Nat → Int64} {T : Nat} {x2 : Int32} {q : (Nat → Nat → Int32) × (Nat → Nat → Int64)} (hd : 0 * n + 6 ≤ d) (h : f_X0_collect n I J T x2 = some q) : AW l ρ d M_X0_collect 0 [(0, .ref 41), (1, .ref 27), (2, .int x2)] [] (am_KD, gc, gs) (I, J, am_RT T) (am_KD, gc, gs) (fun v H' => v = [] ∧ H' = (q.1, q.2, am_RT T)) := by
  obtain ⟨d, rfl⟩ : ∃ e, d = e + 1 := ⟨d - 1, by omega⟩
  exact t_X0_collect_0 hd h
def f_X11_drawn_47 (n : Nat) (k35 : (Nat → Nat → Int32) → (Nat → Nat → Int64) → Nat → Int32 → Int64 → Int32 → Option (Int32 × (Nat → Nat → Int32) × (Nat → Nat → Int64))) : Nat → (Nat → Nat → Int32) → (Nat → Nat → Int64) → Nat → Int32 → Int64 → Int32 → Int32 → Int32 → Option (Int32 × (Nat → Nat → Int32) × (Nat → Nat → Int64))
  | 0, _, _, _, _, _, _, _, _ => none
  | m + 1, I, J, T, x1, y5, x7, x8, x9 =>
    if (I 3 1) ≤ x9 then
     (f_X0_collect n I J T x8).bind fun w2 =>
     k35 w2.1 w2.2 T x1 y5 (x7 + 1)
    else
     (some (x8 ||| ((((am_lsh ((y5 * 6364136223846793005) + 1442695040888963407) 33) - (am_lsh ((y5 * 6364136223846793005) + 1442695040888963407) 33) / 2 * 2).toInt32) <<< (x9 &&& 31)) : Int32)).bind fun u3 =>
     f_X11_drawn_47 n k35 m I J T x1 ((y5 * 6364136223846793005) + 1442695040888963407) x7 u3 (x9 + 1)
def f_X11_drawn_35 (n : Nat) : Nat → (Nat → Nat → Int32) → (Nat → Nat → Int64) → Nat → Int32 → Int64 → Int32 → Option (Int32 × (Nat → Nat → Int32) × (Nat → Nat → Int64))
  | 0, _, _, _, _, _, _ => none
  | m + 1, I, J, T, x1, y5, x7 =>
    if x1 ≤ x7 then
     some (I 41 2, I, J)
    else
     f_X11_drawn_47 n (f_X11_drawn_35 n m) n I J T x1 y5 x7 0 0
def f_X11_drawn (n : Nat) (I : Nat → Nat → Int32) (J : Nat → Nat → Int64) (T : Nat) (x1 : Int32) (x2 : Int32) (y3 : Int64) : Option (Int32 × (Nat → Nat → Int32) × (Nat → Nat → Int64)) :=
  (f_X11_isLaw n I J T x2).bind fun w1 =>
  if w1 = 0 then
   some ((-1), I, J)
  else
   (f_X11_isWithin n I J T x1 1 40).bind fun w3 =>
   if w3 = 0 then
    some ((-1), I, J)
   else
    (f_X7_weigh n I J T x2 1).bind fun w5 =>
    f_X11_drawn_35 n  n w5 J T x1 y3 0
set_option maxRecDepth 100000 in
set_option maxHeartbeats 4000000 in
theorem t_X11_drawn_47 {l : Launch} {ρ : am_R} {n d gc gs : Nat} {k35 : (Nat → Nat → Int32) → (Nat → Nat → Int64) → Nat → Int32 → Int64 → Int32 → Option (Int32 × (Nat → Nat → Int32) × (Nat → Nat → Int64))} {q : Int32 × (Nat → Nat → Int32) × (Nat → Nat → Int64)} (hd : 0 * n + 7 ≤ (d + 1))
    (hk35 : ∀ (I : Nat → Nat → Int32) (J : Nat → Nat → Int64) (T : Nat) (x1 : Int32) (y5 : Int64) (x7 : Int32), k35 I J T x1 y5 x7 = some q → AW l ρ (d + 1) M_X11_drawn 35 [(0, .ref 0), (1, .int x1), (5, .long y5), (7, .int x7)] [] (am_KD, gc, gs) (I, J, am_RT T) (am_KD, gc, gs) (fun v H' => v = [.int q.1] ∧ H' = (q.2.1, q.2.2, am_RT T)))
    : ∀ (m : Nat) (I : Nat → Nat → Int32) (J : Nat → Nat → Int64) (T : Nat) (x1 : Int32) (y5 : Int64) (x7 : Int32) (x8 : Int32) (x9 : Int32), f_X11_drawn_47 n k35 m I J T x1 y5 x7 x8 x9 = some q → AW l ρ (d + 1) M_X11_drawn 47 [(0, .ref 0), (1, .int x1), (5, .long y5), (7, .int x7), (8, .int x8), (9, .int x9)] [] (am_KD, gc, gs) (I, J, am_RT T) (am_KD, gc, gs) (fun v H' => v = [.int q.1] ∧ H' = (q.2.1, q.2.2, am_RT T)) := by
  intro m
  induction m with
  | zero =>
    intro I J T x1 y5 x7 x8 x9 h
    rw [f_X11_drawn_47] at h
    cases h
  | succ m ih =>
    intro I J T x1 y5 x7 x8 x9 h
    rw [f_X11_drawn_47] at h
    refine op_iload (k := 5) dX11_drawn_47 rfl ?_
    refine op_aload_n (k := 0) dX11_drawn_49 rfl rfl ?_
    refine st_getR (z := 3) dX11_drawn_50 fl_X11_19 kd_0 (by decide) rfl rr_0_1 ?_
    refine st_getI (v := I 3 1) dX11_drawn_53 fl_X11_143 kd_3 (by decide) rfl rfl ?_
    refine op_icmp_ge (tgt := 95) dX11_drawn_56 (by decide) (fun c1 => ?_) (fun c1 => ?_)
    · replace h := am_ip c1 h
      refine op_aload_n (k := 0) dX11_drawn_95 rfl rfl ?_
      refine st_getR (z := 41) dX11_drawn_96 fl_X11_95 kd_0 (by decide) rfl rr_0_11 ?_
      refine op_aload_n (k := 0) dX11_drawn_99 rfl rfl ?_
      refine st_getR (z := 27) dX11_drawn_100 fl_X11_56 kd_0 (by decide) rfl rr_0_6 ?_
      refine op_iload (k := 4) dX11_drawn_103 rfl ?_
      obtain ⟨w2, ew2, h⟩ := am_bd h
      refine op_callV (M' := M_X0_collect) [.ref 27, .int x8] (S0 := []) dX11_drawn_105 tw_1059 ok_X0_collect tw_1060 tw_1061 kd_41 cls_0 rfl rfl rfl (Nat.le_of_ble_eq_true rfl) (Nat.le_of_ble_eq_true rfl) (t_X0_collect (by omega) ew2) (am_le_rf _) ?_
      rintro _ _ ⟨rfl, rfl⟩
      refine op_iinc (k := 3) (v := x7 + 1) (L' := [(7, .int (x7 + 1)), (0, .ref 0), (1, .int x1), (5, .long y5), (8, .int x8), (9, .int x9)]) dX11_drawn_108 rfl rfl (by decide) rfl ?_
      refine op_goto (tgt := 35) dX11_drawn_111 (by decide) ?_
      refine AW.perm [1, 2, 3, 0] rfl ?_
      exact hk35 _ _ _ _ _ _ h
    · replace h := am_ie c1 h
      refine op_lload (k := 2) dX11_drawn_59 rfl ?_
      refine op_ldc2 dX11_drawn_61 tw_1076 ?_
      refine op_lmul dX11_drawn_64 ?_
      refine op_ldc2 dX11_drawn_65 tw_1077 ?_
      refine op_ladd dX11_drawn_68 ?_
      refine op_lstore (L' := [(5, .long ((y5 * 6364136223846793005) + 1442695040888963407)), (0, .ref 0), (1, .int x1), (7, .int x7), (8, .int x8), (9, .int x9)]) dX11_drawn_69 (by decide) rfl ?_
      refine op_iload (k := 4) dX11_drawn_71 rfl ?_
      refine op_lload (k := 0) dX11_drawn_73 rfl ?_
      refine op_bipush (v := 33) dX11_drawn_75 (by decide) ?_
      refine op_lushr (v := am_lsh ((y5 * 6364136223846793005) + 1442695040888963407) 33) dX11_drawn_77 rfl ?_
      refine op_ldc2 dX11_drawn_78 tw_1078 ?_
      refine op_lrem dX11_drawn_81 (by decide) ?_
      refine op_l2i dX11_drawn_82 ?_
      refine op_iload (k := 5) dX11_drawn_83 rfl ?_
      refine op_ishl dX11_drawn_85 ?_
      refine op_ior dX11_drawn_86 ?_
      obtain ⟨u3, eu3, h⟩ := am_bd h
      replace eu3 := Option.some.inj eu3
      refine op_nmI eu3 ?_
      refine op_istore (L' := [(8, .int u3), (5, .long ((y5 * 6364136223846793005) + 1442695040888963407)), (0, .ref 0), (1, .int x1), (7, .int x7), (9, .int x9)]) dX11_drawn_87 (by decide) rfl ?_
      refine op_iinc (k := 5) (v := x9 + 1) (L' := [(9, .int (x9 + 1)), (8, .int u3), (5, .long ((y5 * 6364136223846793005) + 1442695040888963407)), (0, .ref 0), (1, .int x1), (7, .int x7)]) dX11_drawn_89 rfl rfl (by decide) rfl ?_
      refine op_goto (tgt := 47) dX11_drawn_92 (by decide) ?_
      refine AW.perm [3, 4, 2, 5, 1, 0] rfl ?_
      exact ih _ _ _ _ _ _ _ _ h
set_option maxRecDepth 100000 in
set_option maxHeartbeats 4000000 in
theorem t_X11_drawn_35 {l : Launch} {ρ : am_R} {n d gc gs : Nat} {q : Int32 × (Nat → Nat → Int32) × (Nat → Nat → Int64)} (hd : 0 * n + 7 ≤ (d + 1))
    : ∀ (m : Nat) (I : Nat → Nat → Int32) (J : Nat → Nat → Int64) (T : Nat) (x1 : Int32) (y5 : Int64) (x7 : Int32), f_X11_drawn_35 n  m I J T x1 y5 x7 = some q → AW l ρ (d + 1) M_X11_drawn 35 [(0, .ref 0), (1, .int x1), (5, .long y5), (7, .int x7)] [] (am_KD, gc, gs) (I, J, am_RT T) (am_KD, gc, gs) (fun v H' => v = [.int q.1] ∧ H' = (q.2.1, q.2.2, am_RT T)) := by
  intro m
  induction m with
  | zero =>
    intro I J T x1 y5 x7 h
    rw [f_X11_drawn_35] at h
    cases h
  | succ m ih =>
    intro I J T x1 y5 x7 h
    rw [f_X11_drawn_35] at h
    refine op_iload (k := 3) dX11_drawn_35 rfl ?_
    refine op_iload_n (k := 1) dX11_drawn_37 rfl rfl ?_
    refine op_icmp_ge (tgt := 114) dX11_drawn_38 (by decide) (fun c1 => ?_) (fun c1 => ?_)
    · replace h := am_ip c1 h
      refine op_aload_n (k := 0) dX11_drawn_114 rfl rfl ?_
      refine st_getR (z := 41) dX11_drawn_115 fl_X11_95 kd_0 (by decide) rfl rr_0_11 ?_
      refine st_getI (v := I 41 2) dX11_drawn_118 fl_X11_308 kd_41 (by decide) rfl rfl ?_
      cases h
      exact (op_iret dX11_drawn_121 rfl rfl ⟨rfl, rfl⟩)
    · replace h := am_ie c1 h
      refine op_iconst (v := 0) dX11_drawn_41 (by decide) ?_
      refine op_istore (L' := [(8, .int 0), (0, .ref 0), (1, .int x1), (5, .long y5), (7, .int x7)]) dX11_drawn_42 (by decide) rfl ?_
      refine op_iconst (v := 0) dX11_drawn_44 (by decide) ?_
      refine op_istore (L' := [(9, .int 0), (8, .int 0), (0, .ref 0), (1, .int x1), (5, .long y5), (7, .int x7)]) dX11_drawn_45 (by decide) rfl ?_
      refine AW.perm [2, 3, 4, 5, 1, 0] rfl ?_
      exact t_X11_drawn_47 hd ih n _ _ _ _ _ _ _ _ h
set_option maxRecDepth 100000 in
set_option maxHeartbeats 4000000 in
theorem t_X11_drawn_0 {l : Launch} {ρ : am_R} {n d gc gs : Nat} {I : Nat → Nat → Int32} {J : Nat → Nat → Int64} {T : Nat} {x1 : Int32} {x2 : Int32} {y3 : Int64} {q : Int32 × (Nat → Nat → Int32) × (Nat → Nat → Int64)} (hd : 0 * n + 7 ≤ (d + 1))
    (h : f_X11_drawn n  I J T x1 x2 y3 = some q) : AW l ρ (d + 1) M_X11_drawn 0 [(0, .ref 0), (1, .int x1), (2, .int x2), (3, .long y3)] [] (am_KD, gc, gs) (I, J, am_RT T) (am_KD, gc, gs) (fun v H' => v = [.int q.1] ∧ H' = (q.2.1, q.2.2, am_RT T)) := by
  unfold f_X11_drawn at h
  refine op_aload_n (k := 0) dX11_drawn_0 rfl rfl ?_
  refine op_iload_n (k := 2) dX11_drawn_1 rfl rfl ?_
  obtain ⟨w1, ew1, h⟩ := am_bd h
  refine op_callV (M' := M_X11_isLaw) [.int x2] (S0 := []) dX11_drawn_2 tw_791 ok_X11_isLaw tw_793 tw_28 kd_0 cls_11 rfl rfl rfl (Nat.le_of_ble_eq_true rfl) (Nat.le_of_ble_eq_true rfl) (t_X11_isLaw (by omega) ew1) (am_le_rf _) ?_
  rintro _ _ ⟨rfl, rfl⟩
  refine op_if_eq (tgt := 18) dX11_drawn_5 (by decide) (fun c2 => ?_) (fun c2 => ?_)
  · replace h := am_ip c2 h
    refine op_iconst (v := (-1)) dX11_drawn_18 (by decide) ?_
    cases h
    exact (op_iret dX11_drawn_19 rfl rfl ⟨rfl, rfl⟩)
  · replace h := am_ie c2 h
    refine op_iload_n (k := 1) dX11_drawn_8 rfl rfl ?_
    refine op_iconst (v := 1) dX11_drawn_9 (by decide) ?_
    refine op_bipush (v := 40) dX11_drawn_10 (by decide) ?_
    obtain ⟨w3, ew3, h⟩ := am_bd h
    refine op_callS (M' := M_X11_isWithin) [.int x1, .int 1, .int 40] (S0 := []) dX11_drawn_12 tw_713 ok_X11_isWithin tw_595 rfl rfl (Nat.le_of_ble_eq_true rfl) (Nat.le_of_ble_eq_true rfl) (t_X11_isWithin (by omega) ew3) (am_le_rf _) ?_
    rintro _ _ ⟨rfl, rfl⟩
    refine op_if_ne (tgt := 20) dX11_drawn_15 (by decide) (fun c4 => ?_) (fun c4 => ?_)
    · replace h := am_ie c4 h
      refine op_aload_n (k := 0) dX11_drawn_20 rfl rfl ?_
      refine st_getR (z := 27) dX11_drawn_21 fl_X11_56 kd_0 (by decide) rfl rr_0_6 ?_
      refine op_iload_n (k := 2) dX11_drawn_24 rfl rfl ?_
      refine op_iconst (v := 1) dX11_drawn_25 (by decide) ?_
      obtain ⟨w5, ew5, h⟩ := am_bd h
      refine op_callV (M' := M_X7_weigh) [.int x2, .int 1] (S0 := []) dX11_drawn_26 tw_802 ok_X7_weigh tw_803 tw_804 kd_27 cls_7 rfl rfl rfl (Nat.le_of_ble_eq_true rfl) (Nat.le_of_ble_eq_true rfl) (t_X7_weigh (by omega) ew5) (am_le_rf _) ?_
      rintro _ _ ⟨rfl, rfl⟩
      refine op_lload_n (k := 3) dX11_drawn_29 rfl rfl ?_
      refine op_lstore (L' := [(5, .long y3), (0, .ref 0), (1, .int x1), (2, .int x2), (3, .long y3)]) dX11_drawn_30 (by decide) rfl ?_
      refine op_iconst (v := 0) dX11_drawn_32 (by decide) ?_
      refine op_istore (L' := [(7, .int 0), (5, .long y3), (0, .ref 0), (1, .int x1), (2, .int x2), (3, .long y3)]) dX11_drawn_33 (by decide) rfl ?_
      refine AW.perm [2, 3, 1, 0] rfl ?_
      exact t_X11_drawn_35 hd  n _ _ _ _ _ _ h
    · replace h := am_ip c4 h
      refine op_iconst (v := (-1)) dX11_drawn_18 (by decide) ?_
      cases h
      exact (op_iret dX11_drawn_19 rfl rfl ⟨rfl, rfl⟩)
theorem t_X11_drawn {l : Launch} {ρ : am_R} {n d gc gs : Nat} {I : Nat → Nat → Int32} {J : Nat → Nat → Int64} {T : Nat} {x1 : Int32} {x2 : Int32} {y3 : Int64} {q : Int32 × (Nat → Nat → Int32) × (Nat → Nat → Int64)} (hd : 0 * n + 7 ≤ d) (h : f_X11_drawn n I J T x1 x2 y3 = some q) : AW l ρ d M_X11_drawn 0 [(0, .ref 0), (1, .int x1), (2, .int x2), (3, .long y3)] [] (am_KD, gc, gs) (I, J, am_RT T) (am_KD, gc, gs) (fun v H' => v = [.int q.1] ∧ H' = (q.2.1, q.2.2, am_RT T)) := by
  obtain ⟨d, rfl⟩ : ∃ e, d = e + 1 := ⟨d - 1, by omega⟩
  exact t_X11_drawn_0 hd h
def f_X11_end (n : Nat) (I : Nat → Nat → Int32) (J : Nat → Nat → Int64) (T : Nat) (x1 : Int32) : Option (Int32 × (Nat → Nat → Int32)) :=
  if x1 < 0 then
   some (0, I)
  else
   if x1 ≤ (I 1 1) then
    some (1, (am_u I 1 1 x1))
   else
    some (0, I)
set_option maxRecDepth 100000 in
set_option maxHeartbeats 4000000 in
theorem t_X11_end_0 {l : Launch} {ρ : am_R} {n d gc gs : Nat} {I : Nat → Nat → Int32} {J : Nat → Nat → Int64} {T : Nat} {x1 : Int32} {q : Int32 × (Nat → Nat → Int32)} (hd : 0 * n + 0 ≤ d)
    (h : f_X11_end n  I J T x1 = some q) : AW l ρ d M_X11_end 0 [(0, .ref 0), (1, .int x1)] [] (am_KD, gc, gs) (I, J, am_RT T) (am_KD, gc, gs) (fun v H' => v = [.int q.1] ∧ H' = (q.2, J, am_RT T)) := by
  unfold f_X11_end at h
  refine op_iload_n (k := 1) dX11_end_0 rfl rfl ?_
  refine op_if_lt (tgt := 15) dX11_end_1 (by decide) (fun c1 => ?_) (fun c1 => ?_)
  · replace h := am_ip c1 h
    refine op_iconst (v := 0) dX11_end_15 (by decide) ?_
    cases h
    exact (op_iret dX11_end_16 rfl (by decide) ⟨rfl, rfl⟩)
  · replace h := am_ie c1 h
    refine op_iload_n (k := 1) dX11_end_4 rfl rfl ?_
    refine op_aload_n (k := 0) dX11_end_5 rfl rfl ?_
    refine st_getR (z := 1) dX11_end_6 fl_X11_10 kd_0 (by decide) rfl rr_0_0 ?_
    refine st_getI (v := I 1 1) dX11_end_9 fl_X11_117 kd_1 (by decide) rfl rfl ?_
    refine op_icmp_le (tgt := 17) dX11_end_12 (by decide) (fun c2 => ?_) (fun c2 => ?_)
    · replace h := am_ip c2 h
      refine op_aload_n (k := 0) dX11_end_17 rfl rfl ?_
      refine st_getR (z := 1) dX11_end_18 fl_X11_10 kd_0 (by decide) rfl rr_0_0 ?_
      refine op_iload_n (k := 1) dX11_end_21 rfl rfl ?_
      refine st_putI dX11_end_22 fl_X11_117 kd_1 (by decide) rfl ?_
      refine op_iconst (v := 1) dX11_end_25 (by decide) ?_
      cases h
      exact (op_iret dX11_end_26 rfl (by decide) ⟨rfl, rfl⟩)
    · replace h := am_ie c2 h
      refine op_iconst (v := 0) dX11_end_15 (by decide) ?_
      cases h
      exact (op_iret dX11_end_16 rfl (by decide) ⟨rfl, rfl⟩)
theorem t_X11_end {l : Launch} {ρ : am_R} {n d gc gs : Nat} {I : Nat → Nat → Int32} {J : Nat → Nat → Int64} {T : Nat} {x1 : Int32} {q : Int32 × (Nat → Nat → Int32)} (hd : 0 * n + 0 ≤ d) (h : f_X11_end n I J T x1 = some q) : AW l ρ d M_X11_end 0 [(0, .ref 0), (1, .int x1)] [] (am_KD, gc, gs) (I, J, am_RT T) (am_KD, gc, gs) (fun v H' => v = [.int q.1] ∧ H' = (q.2, J, am_RT T)) := t_X11_end_0 hd h
def f_X10_begin (n : Nat) (I : Nat → Nat → Int32) (J : Nat → Nat → Int64) (T : Nat) : Option ((Nat → Nat → Int32)) :=
  some ((am_u (am_u I 1 2 0) 1 3 ((-1))))
set_option maxRecDepth 100000 in
set_option maxHeartbeats 4000000 in
theorem t_X10_begin_0 {l : Launch} {ρ : am_R} {n d gc gs : Nat} {I : Nat → Nat → Int32} {J : Nat → Nat → Int64} {T : Nat} {q : (Nat → Nat → Int32)} (hd : 0 * n + 0 ≤ d)
    (h : f_X10_begin n  I J T  = some q) : AW l ρ d M_X10_begin 0 [(0, .ref 1)] [] (am_KD, gc, gs) (I, J, am_RT T) (am_KD, gc, gs) (fun v H' => v = [] ∧ H' = (q, J, am_RT T)) := by
  unfold f_X10_begin at h
  refine op_aload_n (k := 0) dX10_begin_0 rfl rfl ?_
  refine op_iconst (v := 0) dX10_begin_1 (by decide) ?_
  refine st_putI dX10_begin_2 fl_X10_19 kd_1 (by decide) rfl ?_
  refine op_aload_n (k := 0) dX10_begin_5 rfl rfl ?_
  refine op_iconst (v := (-1)) dX10_begin_6 (by decide) ?_
  refine st_putI dX10_begin_7 fl_X10_22 kd_1 (by decide) rfl ?_
  cases h
  exact (op_vret dX10_begin_10 rfl ⟨rfl, rfl⟩)
theorem t_X10_begin {l : Launch} {ρ : am_R} {n d gc gs : Nat} {I : Nat → Nat → Int32} {J : Nat → Nat → Int64} {T : Nat} {q : (Nat → Nat → Int32)} (hd : 0 * n + 0 ≤ d) (h : f_X10_begin n I J T  = some q) : AW l ρ d M_X10_begin 0 [(0, .ref 1)] [] (am_KD, gc, gs) (I, J, am_RT T) (am_KD, gc, gs) (fun v H' => v = [] ∧ H' = (q, J, am_RT T)) := t_X10_begin_0 hd h
def f_X10_sign_48 (n : Nat) (I : Nat → Nat → Int32) (J : Nat → Nat → Int64) (T : Nat) : Option (Int32 × (Nat → Nat → Int32)) :=
  if (I 1 1) ≤ (I 1 2) then
   some ((-1), I)
  else
   if ok_ix (I 1 2) 160 then
    some ((I 2 ((I 1 2).toNatClampNeg)) &&& 255, I)
   else none
def f_X10_sign_10 (n : Nat) : Nat → (Nat → Nat → Int32) → (Nat → Nat → Int64) → Nat → Option (Int32 × (Nat → Nat → Int32))
  | 0, _, _, _ => none
  | m + 1, I, J, T =>
    if (I 1 1) ≤ (I 1 2) then
     f_X10_sign_48 n  I J T
    else
     if ok_ix (I 1 2) 160 then
      if (I 2 ((I 1 2).toNatClampNeg)) = 32 then
       f_X10_sign_10 n  m ((am_u I 1 2 ((I 1 2) + 1))) J T
      else
       f_X10_sign_48 n  I J T
     else none
def f_X10_sign (n : Nat) (I : Nat → Nat → Int32) (J : Nat → Nat → Int64) (T : Nat) : Option (Int32 × (Nat → Nat → Int32)) :=
  if (I 1 3) = ((-1)) then
   f_X10_sign_10 n  n I J T
  else
   some ((-1), I)
set_option maxRecDepth 100000 in
set_option maxHeartbeats 4000000 in
theorem t_X10_sign_48 {l : Launch} {ρ : am_R} {n d gc gs : Nat} {I : Nat → Nat → Int32} {J : Nat → Nat → Int64} {T : Nat} {q : Int32 × (Nat → Nat → Int32)} (hd : 0 * n + 0 ≤ d)
    (h : f_X10_sign_48 n  I J T  = some q) : AW l ρ d M_X10_sign 48 [(0, .ref 1)] [] (am_KD, gc, gs) (I, J, am_RT T) (am_KD, gc, gs) (fun v H' => v = [.int q.1] ∧ H' = (q.2, J, am_RT T)) := by
  unfold f_X10_sign_48 at h
  refine op_aload_n (k := 0) dX10_sign_48 rfl rfl ?_
  refine st_getI (v := I 1 2) dX10_sign_49 fl_X10_19 kd_1 (by decide) rfl rfl ?_
  refine op_aload_n (k := 0) dX10_sign_52 rfl rfl ?_
  refine st_getI (v := I 1 1) dX10_sign_53 fl_X10_15 kd_1 (by decide) rfl rfl ?_
  refine op_icmp_ge (tgt := 75) dX10_sign_56 (by decide) (fun c1 => ?_) (fun c1 => ?_)
  · replace h := am_ip c1 h
    refine op_iconst (v := (-1)) dX10_sign_75 (by decide) ?_
    cases h
    exact (op_iret dX10_sign_76 rfl rfl ⟨rfl, rfl⟩)
  · replace h := am_ie c1 h
    refine op_aload_n (k := 0) dX10_sign_59 rfl rfl ?_
    refine st_getR (z := 2) dX10_sign_60 fl_X10_11 kd_1 (by decide) rfl rr_1_0 ?_
    refine op_aload_n (k := 0) dX10_sign_63 rfl rfl ?_
    refine st_getI (v := I 1 2) dX10_sign_64 fl_X10_19 kd_1 (by decide) rfl rfl ?_
    obtain ⟨g2, h⟩ := am_gd h
    refine st_bald (k := (I 1 2).toNatClampNeg) (v := I 2 ((I 1 2).toNatClampNeg)) dX10_sign_67 kd_2 g2 rfl rfl ?_
    refine op_sipush (v := 255) dX10_sign_68 (by decide) ?_
    refine op_iand dX10_sign_71 ?_
    refine op_goto (tgt := 76) dX10_sign_72 (by decide) ?_
    cases h
    exact (op_iret dX10_sign_76 rfl rfl ⟨rfl, rfl⟩)
set_option maxRecDepth 100000 in
set_option maxHeartbeats 4000000 in
theorem t_X10_sign_10 {l : Launch} {ρ : am_R} {n d gc gs : Nat} {q : Int32 × (Nat → Nat → Int32)} (hd : 0 * n + 0 ≤ d)
    : ∀ (m : Nat) (I : Nat → Nat → Int32) (J : Nat → Nat → Int64) (T : Nat), f_X10_sign_10 n  m I J T  = some q → AW l ρ d M_X10_sign 10 [(0, .ref 1)] [] (am_KD, gc, gs) (I, J, am_RT T) (am_KD, gc, gs) (fun v H' => v = [.int q.1] ∧ H' = (q.2, J, am_RT T)) := by
  intro m
  induction m with
  | zero =>
    intro I J T  h
    rw [f_X10_sign_10] at h
    cases h
  | succ m ih =>
    intro I J T  h
    rw [f_X10_sign_10] at h
    refine op_aload_n (k := 0) dX10_sign_10 rfl rfl ?_
    refine st_getI (v := I 1 2) dX10_sign_11 fl_X10_19 kd_1 (by decide) rfl rfl ?_
    refine op_aload_n (k := 0) dX10_sign_14 rfl rfl ?_
    refine st_getI (v := I 1 1) dX10_sign_15 fl_X10_15 kd_1 (by decide) rfl rfl ?_
    refine op_icmp_ge (tgt := 48) dX10_sign_18 (by decide) (fun c1 => ?_) (fun c1 => ?_)
    · replace h := am_ip c1 h
      exact t_X10_sign_48 hd  h
    · replace h := am_ie c1 h
      refine op_aload_n (k := 0) dX10_sign_21 rfl rfl ?_
      refine st_getR (z := 2) dX10_sign_22 fl_X10_11 kd_1 (by decide) rfl rr_1_0 ?_
      refine op_aload_n (k := 0) dX10_sign_25 rfl rfl ?_
      refine st_getI (v := I 1 2) dX10_sign_26 fl_X10_19 kd_1 (by decide) rfl rfl ?_
      obtain ⟨g2, h⟩ := am_gd h
      refine st_bald (k := (I 1 2).toNatClampNeg) (v := I 2 ((I 1 2).toNatClampNeg)) dX10_sign_29 kd_2 g2 rfl rfl ?_
      refine op_bipush (v := 32) dX10_sign_30 (by decide) ?_
      refine op_icmp_ne (tgt := 48) dX10_sign_32 (by decide) (fun c3 => ?_) (fun c3 => ?_)
      · replace h := am_ie c3 h
        exact t_X10_sign_48 hd  h
      · replace h := am_ip c3 h
        refine op_aload_n (k := 0) dX10_sign_35 rfl rfl ?_
        refine op_dup dX10_sign_36 rfl ?_
        refine st_getI (v := I 1 2) dX10_sign_37 fl_X10_19 kd_1 (by decide) rfl rfl ?_
        refine op_iconst (v := 1) dX10_sign_40 (by decide) ?_
        refine op_iadd dX10_sign_41 ?_
        refine st_putI dX10_sign_42 fl_X10_19 kd_1 (by decide) rfl ?_
        refine op_goto (tgt := 10) dX10_sign_45 (by decide) ?_
        exact ih _ _ _ h
set_option maxRecDepth 100000 in
set_option maxHeartbeats 4000000 in
theorem t_X10_sign_0 {l : Launch} {ρ : am_R} {n d gc gs : Nat} {I : Nat → Nat → Int32} {J : Nat → Nat → Int64} {T : Nat} {q : Int32 × (Nat → Nat → Int32)} (hd : 0 * n + 0 ≤ d)
    (h : f_X10_sign n  I J T  = some q) : AW l ρ d M_X10_sign 0 [(0, .ref 1)] [] (am_KD, gc, gs) (I, J, am_RT T) (am_KD, gc, gs) (fun v H' => v = [.int q.1] ∧ H' = (q.2, J, am_RT T)) := by
  unfold f_X10_sign at h
  refine op_aload_n (k := 0) dX10_sign_0 rfl rfl ?_
  refine st_getI (v := I 1 3) dX10_sign_1 fl_X10_22 kd_1 (by decide) rfl rfl ?_
  refine op_iconst (v := (-1)) dX10_sign_4 (by decide) ?_
  refine op_icmp_eq (tgt := 10) dX10_sign_5 (by decide) (fun c1 => ?_) (fun c1 => ?_)
  · replace h := am_ip c1 h
    exact t_X10_sign_10 hd  n _ _ _ h
  · replace h := am_ie c1 h
    refine op_iconst (v := (-1)) dX10_sign_8 (by decide) ?_
    cases h
    exact (op_iret dX10_sign_9 rfl rfl ⟨rfl, rfl⟩)
theorem t_X10_sign {l : Launch} {ρ : am_R} {n d gc gs : Nat} {I : Nat → Nat → Int32} {J : Nat → Nat → Int64} {T : Nat} {q : Int32 × (Nat → Nat → Int32)} (hd : 0 * n + 0 ≤ d) (h : f_X10_sign n I J T  = some q) : AW l ρ d M_X10_sign 0 [(0, .ref 1)] [] (am_KD, gc, gs) (I, J, am_RT T) (am_KD, gc, gs) (fun v H' => v = [.int q.1] ∧ H' = (q.2, J, am_RT T)) := t_X10_sign_0 hd h
def f_X10_fail (n : Nat) (I : Nat → Nat → Int32) (J : Nat → Nat → Int64) (T : Nat) (x1 : Int32) : Option ((Nat → Nat → Int32)) :=
  if (I 1 3) = ((-1)) then
   some ((am_u I 1 3 x1))
  else
   some (I)
set_option maxRecDepth 100000 in
set_option maxHeartbeats 4000000 in
theorem t_X10_fail_0 {l : Launch} {ρ : am_R} {n d gc gs : Nat} {I : Nat → Nat → Int32} {J : Nat → Nat → Int64} {T : Nat} {x1 : Int32} {q : (Nat → Nat → Int32)} (hd : 0 * n + 0 ≤ d)
    (h : f_X10_fail n  I J T x1 = some q) : AW l ρ d M_X10_fail 0 [(0, .ref 1), (1, .int x1)] [] (am_KD, gc, gs) (I, J, am_RT T) (am_KD, gc, gs) (fun v H' => v = [] ∧ H' = (q, J, am_RT T)) := by
  unfold f_X10_fail at h
  refine op_aload_n (k := 0) dX10_fail_0 rfl rfl ?_
  refine st_getI (v := I 1 3) dX10_fail_1 fl_X10_22 kd_1 (by decide) rfl rfl ?_
  refine op_iconst (v := (-1)) dX10_fail_4 (by decide) ?_
  refine op_icmp_ne (tgt := 13) dX10_fail_5 (by decide) (fun c1 => ?_) (fun c1 => ?_)
  · replace h := am_ie c1 h
    cases h
    exact (op_vret dX10_fail_13 rfl ⟨rfl, rfl⟩)
  · replace h := am_ip c1 h
    refine op_aload_n (k := 0) dX10_fail_8 rfl rfl ?_
    refine op_iload_n (k := 1) dX10_fail_9 rfl rfl ?_
    refine st_putI dX10_fail_10 fl_X10_22 kd_1 (by decide) rfl ?_
    cases h
    exact (op_vret dX10_fail_13 rfl ⟨rfl, rfl⟩)
theorem t_X10_fail {l : Launch} {ρ : am_R} {n d gc gs : Nat} {I : Nat → Nat → Int32} {J : Nat → Nat → Int64} {T : Nat} {x1 : Int32} {q : (Nat → Nat → Int32)} (hd : 0 * n + 0 ≤ d) (h : f_X10_fail n I J T x1 = some q) : AW l ρ d M_X10_fail 0 [(0, .ref 1), (1, .int x1)] [] (am_KD, gc, gs) (I, J, am_RT T) (am_KD, gc, gs) (fun v H' => v = [] ∧ H' = (q, J, am_RT T)) := t_X10_fail_0 hd h
def f_X10_expect (n : Nat) (I : Nat → Nat → Int32) (J : Nat → Nat → Int64) (T : Nat) (x1 : Int32) : Option ((Nat → Nat → Int32)) :=
  (f_X10_sign n I J T).bind fun w1 =>
  if w1.1 = x1 then
   some ((am_u w1.2 1 2 ((w1.2 1 2) + 1)))
  else
   (f_X10_fail n w1.2 J T (w1.2 1 2)).bind fun w3 =>
   some (w3)
set_option maxRecDepth 100000 in
set_option maxHeartbeats 4000000 in
theorem t_X10_expect_0 {l : Launch} {ρ : am_R} {n d gc gs : Nat} {I : Nat → Nat → Int32} {J : Nat → Nat → Int64} {T : Nat} {x1 : Int32} {q : (Nat → Nat → Int32)} (hd : 0 * n + 1 ≤ (d + 1))
    (h : f_X10_expect n  I J T x1 = some q) : AW l ρ (d + 1) M_X10_expect 0 [(0, .ref 1), (1, .int x1)] [] (am_KD, gc, gs) (I, J, am_RT T) (am_KD, gc, gs) (fun v H' => v = [] ∧ H' = (q, J, am_RT T)) := by
  unfold f_X10_expect at h
  refine op_aload_n (k := 0) dX10_expect_0 rfl rfl ?_
  obtain ⟨w1, ew1, h⟩ := am_bd h
  refine op_callV (M' := M_X10_sign) [] (S0 := []) dX10_expect_1 tw_581 ok_X10_sign tw_561 tw_562 kd_1 cls_10 rfl rfl rfl (Nat.le_of_ble_eq_true rfl) (Nat.le_of_ble_eq_true rfl) (t_X10_sign (by omega) ew1) (am_le_rf _) ?_
  rintro _ _ ⟨rfl, rfl⟩
  refine op_iload_n (k := 1) dX10_expect_4 rfl rfl ?_
  refine op_icmp_ne (tgt := 21) dX10_expect_5 (by decide) (fun c2 => ?_) (fun c2 => ?_)
  · replace h := am_ie c2 h
    refine op_aload_n (k := 0) dX10_expect_21 rfl rfl ?_
    refine op_aload_n (k := 0) dX10_expect_22 rfl rfl ?_
    refine st_getI (v := w1.2 1 2) dX10_expect_23 fl_X10_19 kd_1 (by decide) rfl rfl ?_
    obtain ⟨w3, ew3, h⟩ := am_bd h
    refine op_callV (M' := M_X10_fail) [.int (w1.2 1 2)] (S0 := []) dX10_expect_26 tw_586 ok_X10_fail tw_587 tw_588 kd_1 cls_10 rfl rfl rfl (Nat.le_of_ble_eq_true rfl) (Nat.le_of_ble_eq_true rfl) (t_X10_fail (by omega) ew3) (am_le_rf _) ?_
    rintro _ _ ⟨rfl, rfl⟩
    cases h
    exact (op_vret dX10_expect_29 rfl ⟨rfl, rfl⟩)
  · replace h := am_ip c2 h
    refine op_aload_n (k := 0) dX10_expect_8 rfl rfl ?_
    refine op_dup dX10_expect_9 rfl ?_
    refine st_getI (v := w1.2 1 2) dX10_expect_10 fl_X10_19 kd_1 (by decide) rfl rfl ?_
    refine op_iconst (v := 1) dX10_expect_13 (by decide) ?_
    refine op_iadd dX10_expect_14 ?_
    refine st_putI dX10_expect_15 fl_X10_19 kd_1 (by decide) rfl ?_
    refine op_goto (tgt := 29) dX10_expect_18 (by decide) ?_
    cases h
    exact (op_vret dX10_expect_29 rfl ⟨rfl, rfl⟩)
theorem t_X10_expect {l : Launch} {ρ : am_R} {n d gc gs : Nat} {I : Nat → Nat → Int32} {J : Nat → Nat → Int64} {T : Nat} {x1 : Int32} {q : (Nat → Nat → Int32)} (hd : 0 * n + 1 ≤ d) (h : f_X10_expect n I J T x1 = some q) : AW l ρ d M_X10_expect 0 [(0, .ref 1), (1, .int x1)] [] (am_KD, gc, gs) (I, J, am_RT T) (am_KD, gc, gs) (fun v H' => v = [] ∧ H' = (q, J, am_RT T)) := by
  obtain ⟨d, rfl⟩ : ∃ e, d = e + 1 := ⟨d - 1, by omega⟩
  exact t_X10_expect_0 hd h
def f_X4_opens (n : Nat) (I : Nat → Nat → Int32) (J : Nat → Nat → Int64) (T : Nat) (x1 : Int32) (x2 : Int32) : Option (Int32 × (Nat → Nat → Int32)) :=
  (f_X10_sign n I J T).bind fun w1 =>
  if w1.1 = x1 then
   if x2 < 6 then
    some (1, (am_u w1.2 1 2 ((w1.2 1 2) + 1)))
   else
    (f_X10_fail n w1.2 J T (w1.2 1 2)).bind fun w4 =>
    some (0, w4)
  else
   some (0, w1.2)
set_option maxRecDepth 100000 in
set_option maxHeartbeats 4000000 in
theorem t_X4_opens_0 {l : Launch} {ρ : am_R} {n d gc gs : Nat} {I : Nat → Nat → Int32} {J : Nat → Nat → Int64} {T : Nat} {x1 : Int32} {x2 : Int32} {q : Int32 × (Nat → Nat → Int32)} (hd : 0 * n + 1 ≤ (d + 1))
    (h : f_X4_opens n  I J T x1 x2 = some q) : AW l ρ (d + 1) M_X4_opens 0 [(0, .ref 17), (1, .int x1), (2, .int x2)] [] (am_KD, gc, gs) (I, J, am_RT T) (am_KD, gc, gs) (fun v H' => v = [.int q.1] ∧ H' = (q.2, J, am_RT T)) := by
  unfold f_X4_opens at h
  refine op_aload_n (k := 0) dX4_opens_0 rfl rfl ?_
  refine st_getR (z := 1) dX4_opens_1 fl_X4_15 kd_17 (by decide) rfl rr_17_0 ?_
  obtain ⟨w1, ew1, h⟩ := am_bd h
  refine op_callV (M' := M_X10_sign) [] (S0 := []) dX4_opens_4 tw_627 ok_X10_sign tw_561 tw_562 kd_1 cls_10 rfl rfl rfl (Nat.le_of_ble_eq_true rfl) (Nat.le_of_ble_eq_true rfl) (t_X10_sign (by omega) ew1) (am_le_rf _) ?_
  rintro _ _ ⟨rfl, rfl⟩
  refine op_iload_n (k := 1) dX4_opens_7 rfl rfl ?_
  refine op_icmp_eq (tgt := 13) dX4_opens_8 (by decide) (fun c2 => ?_) (fun c2 => ?_)
  · replace h := am_ip c2 h
    refine op_iload_n (k := 2) dX4_opens_13 rfl rfl ?_
    refine op_bipush (v := 6) dX4_opens_14 (by decide) ?_
    refine op_icmp_lt (tgt := 35) dX4_opens_16 (by decide) (fun c3 => ?_) (fun c3 => ?_)
    · replace h := am_ip c3 h
      refine op_aload_n (k := 0) dX4_opens_35 rfl rfl ?_
      refine st_getR (z := 1) dX4_opens_36 fl_X4_15 kd_17 (by decide) rfl rr_17_0 ?_
      refine op_dup dX4_opens_39 rfl ?_
      refine st_getI (v := w1.2 1 2) dX4_opens_40 fl_X4_37 kd_1 (by decide) rfl rfl ?_
      refine op_iconst (v := 1) dX4_opens_43 (by decide) ?_
      refine op_iadd dX4_opens_44 ?_
      refine st_putI dX4_opens_45 fl_X4_37 kd_1 (by decide) rfl ?_
      refine op_iconst (v := 1) dX4_opens_48 (by decide) ?_
      cases h
      exact (op_iret dX4_opens_49 rfl (by decide) ⟨rfl, rfl⟩)
    · replace h := am_ie c3 h
      refine op_aload_n (k := 0) dX4_opens_19 rfl rfl ?_
      refine st_getR (z := 1) dX4_opens_20 fl_X4_15 kd_17 (by decide) rfl rr_17_0 ?_
      refine op_aload_n (k := 0) dX4_opens_23 rfl rfl ?_
      refine st_getR (z := 1) dX4_opens_24 fl_X4_15 kd_17 (by decide) rfl rr_17_0 ?_
      refine st_getI (v := w1.2 1 2) dX4_opens_27 fl_X4_37 kd_1 (by decide) rfl rfl ?_
      obtain ⟨w4, ew4, h⟩ := am_bd h
      refine op_callV (M' := M_X10_fail) [.int (w1.2 1 2)] (S0 := []) dX4_opens_30 tw_653 ok_X10_fail tw_587 tw_588 kd_1 cls_10 rfl rfl rfl (Nat.le_of_ble_eq_true rfl) (Nat.le_of_ble_eq_true rfl) (t_X10_fail (by omega) ew4) (am_le_rf _) ?_
      rintro _ _ ⟨rfl, rfl⟩
      refine op_iconst (v := 0) dX4_opens_33 (by decide) ?_
      cases h
      exact (op_iret dX4_opens_34 rfl (by decide) ⟨rfl, rfl⟩)
  · replace h := am_ie c2 h
    refine op_iconst (v := 0) dX4_opens_11 (by decide) ?_
    cases h
    exact (op_iret dX4_opens_12 rfl (by decide) ⟨rfl, rfl⟩)
theorem t_X4_opens {l : Launch} {ρ : am_R} {n d gc gs : Nat} {I : Nat → Nat → Int32} {J : Nat → Nat → Int64} {T : Nat} {x1 : Int32} {x2 : Int32} {q : Int32 × (Nat → Nat → Int32)} (hd : 0 * n + 1 ≤ d) (h : f_X4_opens n I J T x1 x2 = some q) : AW l ρ d M_X4_opens 0 [(0, .ref 17), (1, .int x1), (2, .int x2)] [] (am_KD, gc, gs) (I, J, am_RT T) (am_KD, gc, gs) (fun v H' => v = [.int q.1] ∧ H' = (q.2, J, am_RT T)) := by
  obtain ⟨d, rfl⟩ : ∃ e, d = e + 1 := ⟨d - 1, by omega⟩
  exact t_X4_opens_0 hd h
def f_X4_isLetter (n : Nat) (I : Nat → Nat → Int32) (J : Nat → Nat → Int64) (T : Nat) (x0 : Int32) : Option (Int32) :=
  if x0 = 107 then
   some (1)
  else
  if x0 = 109 then
   some (1)
  else
  if x0 = 110 then
   some (1)
  else
  if x0 = 112 then
   some (1)
  else
  if x0 = 115 then
   some (1)
  else
  if x0 = 119 then
   some (1)
  else
  some (0)
set_option maxRecDepth 100000 in
set_option maxHeartbeats 4000000 in
theorem t_X4_isLetter_0 {l : Launch} {ρ : am_R} {n d gc gs : Nat} {I : Nat → Nat → Int32} {J : Nat → Nat → Int64} {T : Nat} {x0 : Int32} {q : Int32} (hd : 0 * n + 0 ≤ d)
    (h : f_X4_isLetter n  I J T x0 = some q) : AW l ρ d M_X4_isLetter 0 [(0, .int x0)] [] (am_KD, gc, gs) (I, J, am_RT T) (am_KD, gc, gs) (fun v H' => v = [.int q] ∧ H' = (I, J, am_RT T)) := by
  unfold f_X4_isLetter at h
  refine op_iload_n (k := 0) dX4_isLetter_0 rfl rfl ?_
  by_cases c1_0 : x0 = 107
  · replace h := am_ip c1_0 h
    refine op_tableIn (tgt := 68) dX4_isLetter_1 (by rw [c1_0]; decide) (by rw [c1_0]; decide) (off := 67) (by rw [c1_0]; rfl) (by decide) ?_
    refine op_iconst (v := 1) dX4_isLetter_68 (by decide) ?_
    cases h
    exact (op_iret dX4_isLetter_69 rfl (by decide) ⟨rfl, rfl⟩)
  replace h := am_ie c1_0 h
  by_cases c1_1 : x0 = 109
  · replace h := am_ip c1_1 h
    refine op_tableIn (tgt := 68) dX4_isLetter_1 (by rw [c1_1]; decide) (by rw [c1_1]; decide) (off := 67) (by rw [c1_1]; rfl) (by decide) ?_
    refine op_iconst (v := 1) dX4_isLetter_68 (by decide) ?_
    cases h
    exact (op_iret dX4_isLetter_69 rfl (by decide) ⟨rfl, rfl⟩)
  replace h := am_ie c1_1 h
  by_cases c1_2 : x0 = 110
  · replace h := am_ip c1_2 h
    refine op_tableIn (tgt := 68) dX4_isLetter_1 (by rw [c1_2]; decide) (by rw [c1_2]; decide) (off := 67) (by rw [c1_2]; rfl) (by decide) ?_
    refine op_iconst (v := 1) dX4_isLetter_68 (by decide) ?_
    cases h
    exact (op_iret dX4_isLetter_69 rfl (by decide) ⟨rfl, rfl⟩)
  replace h := am_ie c1_2 h
  by_cases c1_3 : x0 = 112
  · replace h := am_ip c1_3 h
    refine op_tableIn (tgt := 68) dX4_isLetter_1 (by rw [c1_3]; decide) (by rw [c1_3]; decide) (off := 67) (by rw [c1_3]; rfl) (by decide) ?_
    refine op_iconst (v := 1) dX4_isLetter_68 (by decide) ?_
    cases h
    exact (op_iret dX4_isLetter_69 rfl (by decide) ⟨rfl, rfl⟩)
  replace h := am_ie c1_3 h
  by_cases c1_4 : x0 = 115
  · replace h := am_ip c1_4 h
    refine op_tableIn (tgt := 68) dX4_isLetter_1 (by rw [c1_4]; decide) (by rw [c1_4]; decide) (off := 67) (by rw [c1_4]; rfl) (by decide) ?_
    refine op_iconst (v := 1) dX4_isLetter_68 (by decide) ?_
    cases h
    exact (op_iret dX4_isLetter_69 rfl (by decide) ⟨rfl, rfl⟩)
  replace h := am_ie c1_4 h
  by_cases c1_5 : x0 = 119
  · replace h := am_ip c1_5 h
    refine op_tableIn (tgt := 68) dX4_isLetter_1 (by rw [c1_5]; decide) (by rw [c1_5]; decide) (off := 67) (by rw [c1_5]; rfl) (by decide) ?_
    refine op_iconst (v := 1) dX4_isLetter_68 (by decide) ?_
    cases h
    exact (op_iret dX4_isLetter_69 rfl (by decide) ⟨rfl, rfl⟩)
  replace h := am_ie c1_5 h
  have c1_d : x0.toInt = 108 ∨ x0.toInt = 111 ∨ x0.toInt = 113 ∨ x0.toInt = 114 ∨ x0.toInt = 116 ∨ x0.toInt = 117 ∨ x0.toInt = 118 ∨ (x0.toInt < 107 ∨ 119 < x0.toInt) := by have z0 : x0.toInt ≠ 107 := fun z => c1_0 (Int32.toInt_inj.mp z); have z1 : x0.toInt ≠ 109 := fun z => c1_1 (Int32.toInt_inj.mp z); have z2 : x0.toInt ≠ 110 := fun z => c1_2 (Int32.toInt_inj.mp z); have z3 : x0.toInt ≠ 112 := fun z => c1_3 (Int32.toInt_inj.mp z); have z4 : x0.toInt ≠ 115 := fun z => c1_4 (Int32.toInt_inj.mp z); have z5 : x0.toInt ≠ 119 := fun z => c1_5 (Int32.toInt_inj.mp z); omega
  have c1_k : AW l ρ d M_X4_isLetter 70 [(0, .int x0)] [] (am_KD, gc, gs) (I, J, am_RT T) (am_KD, gc, gs) (fun v H' => v = [.int q] ∧ H' = (I, J, am_RT T)) := by
    refine op_iconst (v := 0) dX4_isLetter_70 (by decide) ?_
    cases h
    exact (op_iret dX4_isLetter_71 rfl (by decide) ⟨rfl, rfl⟩)
  rcases c1_d with hz | hz | hz | hz | hz | hz | hz | hz
  · exact op_tableIn (tgt := 70) dX4_isLetter_1 (by rw [hz]; decide) (by rw [hz]; decide) (off := 69) (by rw [hz]; rfl) (by decide) c1_k
  · exact op_tableIn (tgt := 70) dX4_isLetter_1 (by rw [hz]; decide) (by rw [hz]; decide) (off := 69) (by rw [hz]; rfl) (by decide) c1_k
  · exact op_tableIn (tgt := 70) dX4_isLetter_1 (by rw [hz]; decide) (by rw [hz]; decide) (off := 69) (by rw [hz]; rfl) (by decide) c1_k
  · exact op_tableIn (tgt := 70) dX4_isLetter_1 (by rw [hz]; decide) (by rw [hz]; decide) (off := 69) (by rw [hz]; rfl) (by decide) c1_k
  · exact op_tableIn (tgt := 70) dX4_isLetter_1 (by rw [hz]; decide) (by rw [hz]; decide) (off := 69) (by rw [hz]; rfl) (by decide) c1_k
  · exact op_tableIn (tgt := 70) dX4_isLetter_1 (by rw [hz]; decide) (by rw [hz]; decide) (off := 69) (by rw [hz]; rfl) (by decide) c1_k
  · exact op_tableIn (tgt := 70) dX4_isLetter_1 (by rw [hz]; decide) (by rw [hz]; decide) (off := 69) (by rw [hz]; rfl) (by decide) c1_k
  · exact op_tableOut (tgt := 70) dX4_isLetter_1 hz (by decide) c1_k
theorem t_X4_isLetter {l : Launch} {ρ : am_R} {n d gc gs : Nat} {I : Nat → Nat → Int32} {J : Nat → Nat → Int64} {T : Nat} {x0 : Int32} {q : Int32} (hd : 0 * n + 0 ≤ d) (h : f_X4_isLetter n I J T x0 = some q) : AW l ρ d M_X4_isLetter 0 [(0, .int x0)] [] (am_KD, gc, gs) (I, J, am_RT T) (am_KD, gc, gs) (fun v H' => v = [.int q] ∧ H' = (I, J, am_RT T)) := t_X4_isLetter_0 hd h
def f_X4_emit (n : Nat) (I : Nat → Nat → Int32) (J : Nat → Nat → Int64) (T : Nat) (x1 : Int32) : Option ((Nat → Nat → Int32)) :=
  if 160 ≤ (I 17 2) then
   some (I)
  else
   if ok_ix (I 17 2) 160 then
    some ((am_u (am_u I 18 ((I 17 2).toNatClampNeg) x1) 17 2 ((I 17 2) + 1)))
   else none
set_option maxRecDepth 100000 in
set_option maxHeartbeats 4000000 in
theorem t_X4_emit_0 {l : Launch} {ρ : am_R} {n d gc gs : Nat} {I : Nat → Nat → Int32} {J : Nat → Nat → Int64} {T : Nat} {x1 : Int32} {q : (Nat → Nat → Int32)} (hd : 0 * n + 0 ≤ d)
    (h : f_X4_emit n  I J T x1 = some q) : AW l ρ d M_X4_emit 0 [(0, .ref 17), (1, .int x1)] [] (am_KD, gc, gs) (I, J, am_RT T) (am_KD, gc, gs) (fun v H' => v = [] ∧ H' = (q, J, am_RT T)) := by
  unfold f_X4_emit at h
  refine op_aload_n (k := 0) dX4_emit_0 rfl rfl ?_
  refine st_getI (v := I 17 2) dX4_emit_1 fl_X4_22 kd_17 (by decide) rfl rfl ?_
  refine op_aload_n (k := 0) dX4_emit_4 rfl rfl ?_
  refine st_getR (z := 18) dX4_emit_5 fl_X4_9 kd_17 (by decide) rfl rr_17_1 ?_
  refine op_alen50 dX4_emit_8 kd_18 ?_
  refine op_icmp_ge (tgt := 32) dX4_emit_9 (by decide) (fun c1 => ?_) (fun c1 => ?_)
  · replace h := am_ip c1 h
    cases h
    exact (op_vret dX4_emit_32 rfl ⟨rfl, rfl⟩)
  · replace h := am_ie c1 h
    refine op_aload_n (k := 0) dX4_emit_12 rfl rfl ?_
    refine st_getR (z := 18) dX4_emit_13 fl_X4_9 kd_17 (by decide) rfl rr_17_1 ?_
    refine op_aload_n (k := 0) dX4_emit_16 rfl rfl ?_
    refine st_getI (v := I 17 2) dX4_emit_17 fl_X4_22 kd_17 (by decide) rfl rfl ?_
    refine op_iload_n (k := 1) dX4_emit_20 rfl rfl ?_
    obtain ⟨g2, h⟩ := am_gd h
    refine st_iast (k := (I 17 2).toNatClampNeg) dX4_emit_21 kd_18 g2 rfl ?_
    refine op_aload_n (k := 0) dX4_emit_22 rfl rfl ?_
    refine op_dup dX4_emit_23 rfl ?_
    refine st_getI (v := I 17 2) dX4_emit_24 fl_X4_22 kd_17 (by decide) rfl rfl ?_
    refine op_iconst (v := 1) dX4_emit_27 (by decide) ?_
    refine op_iadd dX4_emit_28 ?_
    refine st_putI dX4_emit_29 fl_X4_22 kd_17 (by decide) rfl ?_
    cases h
    exact (op_vret dX4_emit_32 rfl ⟨rfl, rfl⟩)
theorem t_X4_emit {l : Launch} {ρ : am_R} {n d gc gs : Nat} {I : Nat → Nat → Int32} {J : Nat → Nat → Int64} {T : Nat} {x1 : Int32} {q : (Nat → Nat → Int32)} (hd : 0 * n + 0 ≤ d) (h : f_X4_emit n I J T x1 = some q) : AW l ρ d M_X4_emit 0 [(0, .ref 17), (1, .int x1)] [] (am_KD, gc, gs) (I, J, am_RT T) (am_KD, gc, gs) (fun v H' => v = [] ∧ H' = (q, J, am_RT T)) := t_X4_emit_0 hd h
def f_X10_isDigitHere (n : Nat) (I : Nat → Nat → Int32) (J : Nat → Nat → Int64) (T : Nat) : Option (Int32) :=
  if (I 1 1) ≤ (I 1 2) then
   some (0)
  else
   if ok_ix (I 1 2) 160 then
    if (I 2 ((I 1 2).toNatClampNeg)) < 48 then
     some (0)
    else
     if ok_ix (I 1 2) 160 then
      if 57 < (I 2 ((I 1 2).toNatClampNeg)) then
       some (0)
      else
       some (1)
     else none
   else none
set_option maxRecDepth 100000 in
set_option maxHeartbeats 4000000 in
theorem t_X10_isDigitHere_0 {l : Launch} {ρ : am_R} {n d gc gs : Nat} {I : Nat → Nat → Int32} {J : Nat → Nat → Int64} {T : Nat} {q : Int32} (hd : 0 * n + 0 ≤ d)
    (h : f_X10_isDigitHere n  I J T  = some q) : AW l ρ d M_X10_isDigitHere 0 [(0, .ref 1)] [] (am_KD, gc, gs) (I, J, am_RT T) (am_KD, gc, gs) (fun v H' => v = [.int q] ∧ H' = (I, J, am_RT T)) := by
  unfold f_X10_isDigitHere at h
  refine op_aload_n (k := 0) dX10_isDigitHere_0 rfl rfl ?_
  refine st_getI (v := I 1 2) dX10_isDigitHere_1 fl_X10_19 kd_1 (by decide) rfl rfl ?_
  refine op_aload_n (k := 0) dX10_isDigitHere_4 rfl rfl ?_
  refine st_getI (v := I 1 1) dX10_isDigitHere_5 fl_X10_15 kd_1 (by decide) rfl rfl ?_
  refine op_icmp_ge (tgt := 43) dX10_isDigitHere_8 (by decide) (fun c1 => ?_) (fun c1 => ?_)
  · replace h := am_ip c1 h
    refine op_iconst (v := 0) dX10_isDigitHere_43 (by decide) ?_
    cases h
    exact (op_iret dX10_isDigitHere_44 rfl (by decide) ⟨rfl, rfl⟩)
  · replace h := am_ie c1 h
    refine op_aload_n (k := 0) dX10_isDigitHere_11 rfl rfl ?_
    refine st_getR (z := 2) dX10_isDigitHere_12 fl_X10_11 kd_1 (by decide) rfl rr_1_0 ?_
    refine op_aload_n (k := 0) dX10_isDigitHere_15 rfl rfl ?_
    refine st_getI (v := I 1 2) dX10_isDigitHere_16 fl_X10_19 kd_1 (by decide) rfl rfl ?_
    obtain ⟨g2, h⟩ := am_gd h
    refine st_bald (k := (I 1 2).toNatClampNeg) (v := I 2 ((I 1 2).toNatClampNeg)) dX10_isDigitHere_19 kd_2 g2 rfl rfl ?_
    refine op_bipush (v := 48) dX10_isDigitHere_20 (by decide) ?_
    refine op_icmp_lt (tgt := 43) dX10_isDigitHere_22 (by decide) (fun c3 => ?_) (fun c3 => ?_)
    · replace h := am_ip c3 h
      refine op_iconst (v := 0) dX10_isDigitHere_43 (by decide) ?_
      cases h
      exact (op_iret dX10_isDigitHere_44 rfl (by decide) ⟨rfl, rfl⟩)
    · replace h := am_ie c3 h
      refine op_aload_n (k := 0) dX10_isDigitHere_25 rfl rfl ?_
      refine st_getR (z := 2) dX10_isDigitHere_26 fl_X10_11 kd_1 (by decide) rfl rr_1_0 ?_
      refine op_aload_n (k := 0) dX10_isDigitHere_29 rfl rfl ?_
      refine st_getI (v := I 1 2) dX10_isDigitHere_30 fl_X10_19 kd_1 (by decide) rfl rfl ?_
      obtain ⟨g4, h⟩ := am_gd h
      refine st_bald (k := (I 1 2).toNatClampNeg) (v := I 2 ((I 1 2).toNatClampNeg)) dX10_isDigitHere_33 kd_2 g4 rfl rfl ?_
      refine op_bipush (v := 57) dX10_isDigitHere_34 (by decide) ?_
      refine op_icmp_gt (tgt := 43) dX10_isDigitHere_36 (by decide) (fun c5 => ?_) (fun c5 => ?_)
      · replace h := am_ip c5 h
        refine op_iconst (v := 0) dX10_isDigitHere_43 (by decide) ?_
        cases h
        exact (op_iret dX10_isDigitHere_44 rfl (by decide) ⟨rfl, rfl⟩)
      · replace h := am_ie c5 h
        refine op_iconst (v := 1) dX10_isDigitHere_39 (by decide) ?_
        refine op_goto (tgt := 44) dX10_isDigitHere_40 (by decide) ?_
        cases h
        exact (op_iret dX10_isDigitHere_44 rfl (by decide) ⟨rfl, rfl⟩)
theorem t_X10_isDigitHere {l : Launch} {ρ : am_R} {n d gc gs : Nat} {I : Nat → Nat → Int32} {J : Nat → Nat → Int64} {T : Nat} {q : Int32} (hd : 0 * n + 0 ≤ d) (h : f_X10_isDigitHere n I J T  = some q) : AW l ρ d M_X10_isDigitHere 0 [(0, .ref 1)] [] (am_KD, gc, gs) (I, J, am_RT T) (am_KD, gc, gs) (fun v H' => v = [.int q] ∧ H' = (I, J, am_RT T)) := t_X10_isDigitHere_0 hd h
