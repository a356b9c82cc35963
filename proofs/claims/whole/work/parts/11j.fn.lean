def f_X12_byWeights_149 (n : Nat) (k105 : (Nat → Nat → Int32) → (Nat → Nat → Int64) → Nat → Int32 → Int32 → Int64 → Int32 → Option ((Nat → Nat → Int32) × (Nat → Nat → Int64) × Nat)) (I : Nat → Nat → Int32) (J : Nat → Nat → Int64) (T : Nat) (x1 : Int32) (x4 : Int32) (y5 : Int64) (x7 : Int32) : Option ((Nat → Nat → Int32) × (Nat → Nat → Int64) × Nat) :=
  k105 I J T x1 x4 y5 (x7 + 1)
def f_X12_byWeights_145 (n : Nat) (k105 : (Nat → Nat → Int32) → (Nat → Nat → Int64) → Nat → Int32 → Int32 → Int64 → Int32 → Option ((Nat → Nat → Int32) × (Nat → Nat → Int64) × Nat)) (I : Nat → Nat → Int32) (J : Nat → Nat → Int64) (T : Nat) (x1 : Int32) (x4 : Int32) (y5 : Int64) (x7 : Int32) (s1 : Int32) (z2 : Int64) : Option ((Nat → Nat → Int32) × (Nat → Nat → Int64) × Nat) :=
  if ok_ix s1 6 then
   f_X12_byWeights_149 n k105 I ((am_u J 66 s1.toNatClampNeg (z2 * y5))) T x1 x4 y5 x7
  else none
def f_X12_byWeights_105 (n : Nat) : Nat → (Nat → Nat → Int32) → (Nat → Nat → Int64) → Nat → Int32 → Int32 → Int64 → Int32 → Option ((Nat → Nat → Int32) × (Nat → Nat → Int64) × Nat)
  | 0, _, _, _, _, _, _, _ => none
  | m + 1, I, J, T, x1, x4, y5, x7 =>
    if (I 53 27) ≤ x7 then
     some (I, J, T)
    else
     (f_X12_has n I J T x1 x7).bind fun w2 =>
     if w2 = 0 then
      f_X12_byWeights_149 n (f_X12_byWeights_105 n m) I J T x1 x4 y5 x7
     else
      if x4 = 0 then
       if ok_ix x7 6 then
        f_X12_byWeights_145 n (f_X12_byWeights_105 n m) I J T x1 x4 y5 x7 x7 (J 66 x7.toNatClampNeg)
       else none
      else
       f_X12_byWeights_145 n (f_X12_byWeights_105 n m) I J T x1 x4 y5 x7 x7 1
def f_X12_byWeights_102 (n : Nat) (I : Nat → Nat → Int32) (J : Nat → Nat → Int64) (T : Nat) (x1 : Int32) (x4 : Int32) (y5 : Int64) : Option ((Nat → Nat → Int32) × (Nat → Nat → Int64) × Nat) :=
  f_X12_byWeights_105 n  n I J T x1 x4 y5 0
def f_X12_byWeights_81 (n : Nat) (I : Nat → Nat → Int32) (J : Nat → Nat → Int64) (T : Nat) (x1 : Int32) (x2 : Int32) (s0 : Int32) : Option ((Nat → Nat → Int32) × (Nat → Nat → Int64) × Nat) :=
  (f_X12_costOf n I J T x1).bind fun w1 =>
  if s0 = 0 then
   f_X12_byWeights_102 n  I J T x1 s0 w1.toInt64
  else
   f_X12_byWeights_102 n  I ((am_u J 53 33 x2.toInt64)) T x1 s0 w1.toInt64
def f_X12_byWeights_61 (n : Nat) (k8 : (Nat → Nat → Int32) → (Nat → Nat → Int64) → Nat → Int32 → Int32 → Int32 → Int32 → Option ((Nat → Nat → Int32) × (Nat → Nat → Int64) × Nat)) (I : Nat → Nat → Int32) (J : Nat → Nat → Int64) (T : Nat) (x1 : Int32) (x2 : Int32) (x3 : Int32) (x4 : Int32) : Option ((Nat → Nat → Int32) × (Nat → Nat → Int64) × Nat) :=
  k8 I J T x1 x2 x3 (x4 + 1)
def f_X12_byWeights_8 (n : Nat) : Nat → (Nat → Nat → Int32) → (Nat → Nat → Int64) → Nat → Int32 → Int32 → Int32 → Int32 → Option ((Nat → Nat → Int32) × (Nat → Nat → Int64) × Nat)
  | 0, _, _, _, _, _, _, _ => none
  | m + 1, I, J, T, x1, x2, x3, x4 =>
    if (I 53 27) ≤ x4 then
     if (lg_cmp (J 53 33) 0) = 0 then
      f_X12_byWeights_81 n  I J T x1 x2 1
     else
      f_X12_byWeights_81 n  I J T x1 x2 0
    else
     (f_X12_has n I J T x1 x4).bind fun w3 =>
     if w3 = 0 then
      f_X12_byWeights_61 n (f_X12_byWeights_8 n m) I J T x1 x2 x3 x4
     else
      (f_X12_weightOf n I J T x4 x2 x3).bind fun w5 =>
      if ok_ix x4 6 then
       if ok_ix x4 6 then
        f_X12_byWeights_61 n (f_X12_byWeights_8 n m) w5.2.1 ((am_u (am_u J 66 x4.toNatClampNeg w5.1.toInt64) 53 33 ((J 53 33) + w5.1.toInt64))) w5.2.2 x1 x2 x3 x4
       else none
      else none
def f_X12_byWeights (n : Nat) (I : Nat → Nat → Int32) (J : Nat → Nat → Int64) (T : Nat) (x1 : Int32) (x2 : Int32) (x3 : Int32) : Option ((Nat → Nat → Int32) × (Nat → Nat → Int64) × Nat) :=
  f_X12_byWeights_8 n  n I ((am_u J 53 33 0)) T x1 x2 x3 0
set_option maxRecDepth 100000 in
set_option maxHeartbeats 4000000 in
theorem t_X12_byWeights_149 {l : Launch} {ρ : am_R} {n d gc gs : Nat} {k105 : (Nat → Nat → Int32) → (Nat → Nat → Int64) → Nat → Int32 → Int32 → Int64 → Int32 → Option ((Nat → Nat → Int32) × (Nat → Nat → Int64) × Nat)} {I : Nat → Nat → Int32} {J : Nat → Nat → Int64} {T : Nat} {x1 : Int32} {x4 : Int32} {y5 : Int64} {x7 : Int32} {q : (Nat → Nat → Int32) × (Nat → Nat → Int64) × Nat} (hd : 2 * n + 11 ≤ (d + 1))
    (hk105 : ∀ (I : Nat → Nat → Int32) (J : Nat → Nat → Int64) (T : Nat) (x1 : Int32) (x4 : Int32) (y5 : Int64) (x7 : Int32), k105 I J T x1 x4 y5 x7 = some q → AW l ρ (d + 1) M_X12_byWeights 105 [(0, .ref 53), (1, .int x1), (4, .int x4), (5, .long y5), (7, .int x7)] [] (am_KD, gc, gs) (I, J, am_RT T) (am_KD, gc, gs) (fun v H' => v = [] ∧ H' = (q.1, q.2.1, am_RT (q.2.2))))
    (h : f_X12_byWeights_149 n k105 I J T x1 x4 y5 x7 = some q) : AW l ρ (d + 1) M_X12_byWeights 149 [(0, .ref 53), (1, .int x1), (4, .int x4), (5, .long y5), (7, .int x7)] [] (am_KD, gc, gs) (I, J, am_RT T) (am_KD, gc, gs) (fun v H' => v = [] ∧ H' = (q.1, q.2.1, am_RT (q.2.2))) := by
  unfold f_X12_byWeights_149 at h
  refine op_iinc (k := 4) (v := x7 + 1) (L' := [(7, .int (x7 + 1)), (0, .ref 53), (1, .int x1), (4, .int x4), (5, .long y5)]) dX12_byWeights_149 rfl rfl (by decide) rfl ?_
  refine op_goto (tgt := 105) dX12_byWeights_152 (by decide) ?_
  refine AW.perm [1, 2, 3, 4, 0] rfl ?_
  exact hk105 _ _ _ _ _ _ _ h
set_option maxRecDepth 100000 in
set_option maxHeartbeats 4000000 in
theorem t_X12_byWeights_145 {l : Launch} {ρ : am_R} {n d gc gs : Nat} {k105 : (Nat → Nat → Int32) → (Nat → Nat → Int64) → Nat → Int32 → Int32 → Int64 → Int32 → Option ((Nat → Nat → Int32) × (Nat → Nat → Int64) × Nat)} {I : Nat → Nat → Int32} {J : Nat → Nat → Int64} {T : Nat} {x1 : Int32} {x4 : Int32} {y5 : Int64} {x7 : Int32} {s1 : Int32} {z2 : Int64} {q : (Nat → Nat → Int32) × (Nat → Nat → Int64) × Nat} (hd : 2 * n + 11 ≤ (d + 1))
    (hk105 : ∀ (I : Nat → Nat → Int32) (J : Nat → Nat → Int64) (T : Nat) (x1 : Int32) (x4 : Int32) (y5 : Int64) (x7 : Int32), k105 I J T x1 x4 y5 x7 = some q → AW l ρ (d + 1) M_X12_byWeights 105 [(0, .ref 53), (1, .int x1), (4, .int x4), (5, .long y5), (7, .int x7)] [] (am_KD, gc, gs) (I, J, am_RT T) (am_KD, gc, gs) (fun v H' => v = [] ∧ H' = (q.1, q.2.1, am_RT (q.2.2))))
    (h : f_X12_byWeights_145 n k105 I J T x1 x4 y5 x7 s1 z2 = some q) : AW l ρ (d + 1) M_X12_byWeights 145 [(0, .ref 53), (1, .int x1), (4, .int x4), (5, .long y5), (7, .int x7)] [.long z2, .int s1, .ref 66] (am_KD, gc, gs) (I, J, am_RT T) (am_KD, gc, gs) (fun v H' => v = [] ∧ H' = (q.1, q.2.1, am_RT (q.2.2))) := by
  unfold f_X12_byWeights_145 at h
  refine op_lload (k := 3) dX12_byWeights_145 rfl ?_
  refine op_lmul dX12_byWeights_147 ?_
  obtain ⟨g1, h⟩ := am_gd h
  refine st_last (k := s1.toNatClampNeg) dX12_byWeights_148 kd_66 g1 rfl ?_
  exact t_X12_byWeights_149 hd hk105 h
set_option maxRecDepth 100000 in
set_option maxHeartbeats 4000000 in
theorem t_X12_byWeights_105 {l : Launch} {ρ : am_R} {n d gc gs : Nat} {q : (Nat → Nat → Int32) × (Nat → Nat → Int64) × Nat} (hd : 2 * n + 11 ≤ (d + 1))
    : ∀ (m : Nat) (I : Nat → Nat → Int32) (J : Nat → Nat → Int64) (T : Nat) (x1 : Int32) (x4 : Int32) (y5 : Int64) (x7 : Int32), f_X12_byWeights_105 n  m I J T x1 x4 y5 x7 = some q → AW l ρ (d + 1) M_X12_byWeights 105 [(0, .ref 53), (1, .int x1), (4, .int x4), (5, .long y5), (7, .int x7)] [] (am_KD, gc, gs) (I, J, am_RT T) (am_KD, gc, gs) (fun v H' => v = [] ∧ H' = (q.1, q.2.1, am_RT (q.2.2))) := by
  intro m
  induction m with
  | zero =>
    intro I J T x1 x4 y5 x7 h
    rw [f_X12_byWeights_105] at h
    cases h
  | succ m ih =>
    intro I J T x1 x4 y5 x7 h
    rw [f_X12_byWeights_105] at h
    refine op_iload (k := 4) dX12_byWeights_105 rfl ?_
    refine op_aload_n (k := 0) dX12_byWeights_107 rfl rfl ?_
    refine st_getI (v := I 53 27) dX12_byWeights_108 fl_X12_297 kd_53 (by decide) rfl rfl ?_
    refine op_icmp_ge (tgt := 155) dX12_byWeights_111 (by decide) (fun c1 => ?_) (fun c1 => ?_)
    · replace h := am_ip c1 h
      cases h
      exact (op_vret dX12_byWeights_155 rfl ⟨rfl, rfl⟩)
    · replace h := am_ie c1 h
      refine op_iload_n (k := 1) dX12_byWeights_114 rfl rfl ?_
      refine op_iload (k := 4) dX12_byWeights_115 rfl ?_
      obtain ⟨w2, ew2, h⟩ := am_bd h
      refine op_callS (M' := M_X12_has) [.int x1, .int x7] (S0 := []) dX12_byWeights_117 tw_1471 ok_X12_has tw_1472 rfl rfl (Nat.le_of_ble_eq_true rfl) (Nat.le_of_ble_eq_true rfl) (t_X12_has (by omega) ew2) (am_le_rf _) ?_
      rintro _ _ ⟨rfl, rfl⟩
      refine op_if_eq (tgt := 149) dX12_byWeights_120 (by decide) (fun c3 => ?_) (fun c3 => ?_)
      · replace h := am_ip c3 h
        exact t_X12_byWeights_149 hd ih h
      · replace h := am_ie c3 h
        refine op_aload_n (k := 0) dX12_byWeights_123 rfl rfl ?_
        refine st_getR (z := 66) dX12_byWeights_124 fl_X12_65 kd_53 (by decide) rfl rr_53_32 ?_
        refine op_iload (k := 4) dX12_byWeights_127 rfl ?_
        refine op_iload (k := 2) dX12_byWeights_129 rfl ?_
        refine op_if_eq (tgt := 138) dX12_byWeights_131 (by decide) (fun c4 => ?_) (fun c4 => ?_)
        · replace h := am_ip c4 h
          refine op_aload_n (k := 0) dX12_byWeights_138 rfl rfl ?_
          refine st_getR (z := 66) dX12_byWeights_139 fl_X12_65 kd_53 (by decide) rfl rr_53_32 ?_
          refine op_iload (k := 4) dX12_byWeights_142 rfl ?_
          obtain ⟨g5, h⟩ := am_gd h
          refine st_lald (k := x7.toNatClampNeg) (v := J 66 x7.toNatClampNeg) dX12_byWeights_144 kd_66 g5 rfl rfl ?_
          exact t_X12_byWeights_145 hd ih h
        · replace h := am_ie c4 h
          refine op_lconst (v := 1) dX12_byWeights_134 (by decide) ?_
          refine op_goto (tgt := 145) dX12_byWeights_135 (by decide) ?_
          exact t_X12_byWeights_145 hd ih h
set_option maxRecDepth 100000 in
set_option maxHeartbeats 4000000 in
theorem t_X12_byWeights_102 {l : Launch} {ρ : am_R} {n d gc gs : Nat} {I : Nat → Nat → Int32} {J : Nat → Nat → Int64} {T : Nat} {x1 : Int32} {x4 : Int32} {y5 : Int64} {q : (Nat → Nat → Int32) × (Nat → Nat → Int64) × Nat} (hd : 2 * n + 11 ≤ (d + 1))
    (h : f_X12_byWeights_102 n  I J T x1 x4 y5 = some q) : AW l ρ (d + 1) M_X12_byWeights 102 [(0, .ref 53), (1, .int x1), (4, .int x4), (5, .long y5)] [] (am_KD, gc, gs) (I, J, am_RT T) (am_KD, gc, gs) (fun v H' => v = [] ∧ H' = (q.1, q.2.1, am_RT (q.2.2))) := by
  unfold f_X12_byWeights_102 at h
  refine op_iconst (v := 0) dX12_byWeights_102 (by decide) ?_
  refine op_istore (L' := [(7, .int 0), (0, .ref 53), (1, .int x1), (4, .int x4), (5, .long y5)]) dX12_byWeights_103 (by decide) rfl ?_
  refine AW.perm [1, 2, 3, 4, 0] rfl ?_
  exact t_X12_byWeights_105 hd  n _ _ _ _ _ _ _ h
set_option maxRecDepth 100000 in
set_option maxHeartbeats 4000000 in
theorem t_X12_byWeights_81 {l : Launch} {ρ : am_R} {n d gc gs : Nat} {I : Nat → Nat → Int32} {J : Nat → Nat → Int64} {T : Nat} {x1 : Int32} {x2 : Int32} {s0 : Int32} {q : (Nat → Nat → Int32) × (Nat → Nat → Int64) × Nat} (hd : 2 * n + 11 ≤ (d + 1))
    (h : f_X12_byWeights_81 n  I J T x1 x2 s0 = some q) : AW l ρ (d + 1) M_X12_byWeights 81 [(0, .ref 53), (1, .int x1), (2, .int x2)] [.int s0] (am_KD, gc, gs) (I, J, am_RT T) (am_KD, gc, gs) (fun v H' => v = [] ∧ H' = (q.1, q.2.1, am_RT (q.2.2))) := by
  unfold f_X12_byWeights_81 at h
  refine op_istore (L' := [(4, .int s0), (0, .ref 53), (1, .int x1), (2, .int x2)]) dX12_byWeights_81 (by decide) rfl ?_
  refine op_aload_n (k := 1) dX12_byWeights_83 rfl rfl ?_
  refine op_iload_n (k := 2) dX12_byWeights_84 rfl rfl ?_
  obtain ⟨w1, ew1, h⟩ := am_bd h
  refine op_callV (M' := M_X12_costOf) [.int x1] (S0 := []) dX12_byWeights_85 tw_1577 ok_X12_costOf tw_1579 tw_78 kd_53 cls_12 rfl rfl rfl (Nat.le_of_ble_eq_true rfl) (Nat.le_of_ble_eq_true rfl) (t_X12_costOf (by omega) ew1) (am_le_rf _) ?_
  rintro _ _ ⟨rfl, rfl⟩
  refine op_i2l dX12_byWeights_88 ?_
  refine op_lstore (L' := [(5, .long w1.toInt64), (4, .int s0), (0, .ref 53), (1, .int x1), (2, .int x2)]) dX12_byWeights_89 (by decide) rfl ?_
  refine op_iload (k := 1) dX12_byWeights_91 rfl ?_
  refine op_if_eq (tgt := 102) dX12_byWeights_93 (by decide) (fun c2 => ?_) (fun c2 => ?_)
  · replace h := am_ip c2 h
    refine AW.perm [2, 3, 1, 0] rfl ?_
    exact t_X12_byWeights_102 hd  h
  · replace h := am_ie c2 h
    refine op_aload_n (k := 2) dX12_byWeights_96 rfl rfl ?_
    refine op_iload_n (k := 4) dX12_byWeights_97 rfl rfl ?_
    refine op_i2l dX12_byWeights_98 ?_
    refine st_putL dX12_byWeights_99 fl_X12_361 kd_53 (by decide) rfl ?_
    refine AW.perm [2, 3, 1, 0] rfl ?_
    exact t_X12_byWeights_102 hd  h
set_option maxRecDepth 100000 in
set_option maxHeartbeats 4000000 in
theorem t_X12_byWeights_61 {l : Launch} {ρ : am_R} {n d gc gs : Nat} {k8 : (Nat → Nat → Int32) → (Nat → Nat → Int64) → Nat → Int32 → Int32 → Int32 → Int32 → Option ((Nat → Nat → Int32) × (Nat → Nat → Int64) × Nat)} {I : Nat → Nat → Int32} {J : Nat → Nat → Int64} {T : Nat} {x1 : Int32} {x2 : Int32} {x3 : Int32} {x4 : Int32} {q : (Nat → Nat → Int32) × (Nat → Nat → Int64) × Nat} (hd : 2 * n + 11 ≤ (d + 1))
    (hk8 : ∀ (I : Nat → Nat → Int32) (J : Nat → Nat → Int64) (T : Nat) (x1 : Int32) (x2 : Int32) (x3 : Int32) (x4 : Int32), k8 I J T x1 x2 x3 x4 = some q → AW l ρ (d + 1) M_X12_byWeights 8 [(0, .ref 53), (1, .int x1), (2, .int x2), (3, .int x3), (4, .int x4)] [] (am_KD, gc, gs) (I, J, am_RT T) (am_KD, gc, gs) (fun v H' => v = [] ∧ H' = (q.1, q.2.1, am_RT (q.2.2))))
    (h : f_X12_byWeights_61 n k8 I J T x1 x2 x3 x4 = some q) : AW l ρ (d + 1) M_X12_byWeights 61 [(0, .ref 53), (1, .int x1), (2, .int x2), (3, .int x3), (4, .int x4)] [] (am_KD, gc, gs) (I, J, am_RT T) (am_KD, gc, gs) (fun v H' => v = [] ∧ H' = (q.1, q.2.1, am_RT (q.2.2))) := by
  unfold f_X12_byWeights_61 at h
  refine op_iinc (k := 4) (v := x4 + 1) (L' := [(4, .int (x4 + 1)), (0, .ref 53), (1, .int x1), (2, .int x2), (3, .int x3)]) dX12_byWeights_61 rfl rfl (by decide) rfl ?_
  refine op_goto (tgt := 8) dX12_byWeights_64 (by decide) ?_
  refine AW.perm [1, 2, 3, 4, 0] rfl ?_
  exact hk8 _ _ _ _ _ _ _ h
set_option maxRecDepth 100000 in
set_option maxHeartbeats 4000000 in
theorem t_X12_byWeights_8 {l : Launch} {ρ : am_R} {n d gc gs : Nat} {q : (Nat → Nat → Int32) × (Nat → Nat → Int64) × Nat} (hd : 2 * n + 11 ≤ (d + 1))
    : ∀ (m : Nat) (I : Nat → Nat → Int32) (J : Nat → Nat → Int64) (T : Nat) (x1 : Int32) (x2 : Int32) (x3 : Int32) (x4 : Int32), f_X12_byWeights_8 n  m I J T x1 x2 x3 x4 = some q → AW l ρ (d + 1) M_X12_byWeights 8 [(0, .ref 53), (1, .int x1), (2, .int x2), (3, .int x3), (4, .int x4)] [] (am_KD, gc, gs) (I, J, am_RT T) (am_KD, gc, gs) (fun v H' => v = [] ∧ H' = (q.1, q.2.1, am_RT (q.2.2))) := by
  intro m
  induction m with
  | zero =>
    intro I J T x1 x2 x3 x4 h
    rw [f_X12_byWeights_8] at h
    cases h
  | succ m ih =>
    intro I J T x1 x2 x3 x4 h
    rw [f_X12_byWeights_8] at h
    refine op_iload (k := 4) dX12_byWeights_8 rfl ?_
    refine op_aload_n (k := 0) dX12_byWeights_10 rfl rfl ?_
    refine st_getI (v := I 53 27) dX12_byWeights_11 fl_X12_297 kd_53 (by decide) rfl rfl ?_
    refine op_icmp_ge (tgt := 67) dX12_byWeights_14 (by decide) (fun c1 => ?_) (fun c1 => ?_)
    · replace h := am_ip c1 h
      refine op_aload_n (k := 0) dX12_byWeights_67 rfl rfl ?_
      refine st_getL (v := J 53 33) dX12_byWeights_68 fl_X12_361 kd_53 (by decide) rfl rfl ?_
      refine op_lconst (v := 0) dX12_byWeights_71 (by decide) ?_
      refine op_lcmp dX12_byWeights_72 ?_
      refine op_if_ne (tgt := 80) dX12_byWeights_73 (by decide) (fun c2 => ?_) (fun c2 => ?_)
      · replace h := am_ie c2 h
        refine op_iconst (v := 0) dX12_byWeights_80 (by decide) ?_
        refine AW.perm [0, 1, 2] rfl ?_
        exact t_X12_byWeights_81 hd  h
      · replace h := am_ip c2 h
        refine op_iconst (v := 1) dX12_byWeights_76 (by decide) ?_
        refine op_goto (tgt := 81) dX12_byWeights_77 (by decide) ?_
        refine AW.perm [0, 1, 2] rfl ?_
        exact t_X12_byWeights_81 hd  h
    · replace h := am_ie c1 h
      refine op_iload_n (k := 1) dX12_byWeights_17 rfl rfl ?_
      refine op_iload (k := 4) dX12_byWeights_18 rfl ?_
      obtain ⟨w3, ew3, h⟩ := am_bd h
      refine op_callS (M' := M_X12_has) [.int x1, .int x4] (S0 := []) dX12_byWeights_20 tw_1471 ok_X12_has tw_1472 rfl rfl (Nat.le_of_ble_eq_true rfl) (Nat.le_of_ble_eq_true rfl) (t_X12_has (by omega) ew3) (am_le_rf _) ?_
      rintro _ _ ⟨rfl, rfl⟩
      refine op_if_ne (tgt := 29) dX12_byWeights_23 (by decide) (fun c4 => ?_) (fun c4 => ?_)
      · replace h := am_ie c4 h
        refine op_aload_n (k := 0) dX12_byWeights_29 rfl rfl ?_
        refine st_getR (z := 66) dX12_byWeights_30 fl_X12_65 kd_53 (by decide) rfl rr_53_32 ?_
        refine op_iload (k := 4) dX12_byWeights_33 rfl ?_
        refine op_aload_n (k := 0) dX12_byWeights_35 rfl rfl ?_
        refine op_iload (k := 4) dX12_byWeights_36 rfl ?_
        refine op_iload_n (k := 2) dX12_byWeights_38 rfl rfl ?_
        refine op_iload_n (k := 3) dX12_byWeights_39 rfl rfl ?_
        obtain ⟨w5, ew5, h⟩ := am_bd h
        refine op_callV (M' := M_X12_weightOf) [.int x4, .int x2, .int x3] (S0 := [.int x4, .ref 66]) dX12_byWeights_40 tw_1654 ok_X12_weightOf tw_1656 tw_88 kd_53 cls_12 rfl rfl rfl (Nat.le_of_ble_eq_true rfl) (Nat.le_of_ble_eq_true rfl) (t_X12_weightOf (by omega) ew5) (am_le_rf _) ?_
        rintro _ _ ⟨rfl, rfl⟩
        refine op_i2l dX12_byWeights_43 ?_
        obtain ⟨g6, h⟩ := am_gd h
        refine st_last (k := x4.toNatClampNeg) dX12_byWeights_44 kd_66 g6 rfl ?_
        refine op_aload_n (k := 0) dX12_byWeights_45 rfl rfl ?_
        refine op_dup dX12_byWeights_46 rfl ?_
        refine st_getL (v := J 53 33) dX12_byWeights_47 fl_X12_361 kd_53 (by decide) rfl rfl ?_
        refine op_aload_n (k := 0) dX12_byWeights_50 rfl rfl ?_
        refine st_getR (z := 66) dX12_byWeights_51 fl_X12_65 kd_53 (by decide) rfl rr_53_32 ?_
        refine op_iload (k := 4) dX12_byWeights_54 rfl ?_
        obtain ⟨g7, h⟩ := am_gd h
        refine st_lald (k := x4.toNatClampNeg) (v := w5.1.toInt64) dX12_byWeights_56 kd_66 g7 rfl (by simp [am_u, am_row]) ?_
        refine op_ladd dX12_byWeights_57 ?_
        refine st_putL dX12_byWeights_58 fl_X12_361 kd_53 (by decide) rfl ?_
        exact t_X12_byWeights_61 hd ih h
      · replace h := am_ip c4 h
        refine op_goto (tgt := 61) dX12_byWeights_26 (by decide) ?_
        exact t_X12_byWeights_61 hd ih h
set_option maxRecDepth 100000 in
set_option maxHeartbeats 4000000 in
theorem t_X12_byWeights_0 {l : Launch} {ρ : am_R} {n d gc gs : Nat} {I : Nat → Nat → Int32} {J : Nat → Nat → Int64} {T : Nat} {x1 : Int32} {x2 : Int32} {x3 : Int32} {q : (Nat → Nat → Int32) × (Nat → Nat → Int64) × Nat} (hd : 2 * n + 11 ≤ (d + 1))
    (h : f_X12_byWeights n  I J T x1 x2 x3 = some q) : AW l ρ (d + 1) M_X12_byWeights 0 [(0, .ref 53), (1, .int x1), (2, .int x2), (3, .int x3)] [] (am_KD, gc, gs) (I, J, am_RT T) (am_KD, gc, gs) (fun v H' => v = [] ∧ H' = (q.1, q.2.1, am_RT (q.2.2))) := by
  unfold f_X12_byWeights at h
  refine op_aload_n (k := 0) dX12_byWeights_0 rfl rfl ?_
  refine op_lconst (v := 0) dX12_byWeights_1 (by decide) ?_
  refine st_putL dX12_byWeights_2 fl_X12_361 kd_53 (by decide) rfl ?_
  refine op_iconst (v := 0) dX12_byWeights_5 (by decide) ?_
  refine op_istore (L' := [(4, .int 0), (0, .ref 53), (1, .int x1), (2, .int x2), (3, .int x3)]) dX12_byWeights_6 (by decide) rfl ?_
  refine AW.perm [1, 2, 3, 4, 0] rfl ?_
  exact t_X12_byWeights_8 hd  n _ _ _ _ _ _ _ h
theorem t_X12_byWeights {l : Launch} {ρ : am_R} {n d gc gs : Nat} {I : Nat → Nat → Int32} {J : Nat → Nat → Int64} {T : Nat} {x1 : Int32} {x2 : Int32} {x3 : Int32} {q : (Nat → Nat → Int32) × (Nat → Nat → Int64) × Nat} (hd : 2 * n + 11 ≤ d) (h : f_X12_byWeights n I J T x1 x2 x3 = some q) : AW l ρ d M_X12_byWeights 0 [(0, .ref 53), (1, .int x1), (2, .int x2), (3, .int x3)] [] (am_KD, gc, gs) (I, J, am_RT T) (am_KD, gc, gs) (fun v H' => v = [] ∧ H' = (q.1, q.2.1, am_RT (q.2.2))) := by
  obtain ⟨d, rfl⟩ : ∃ e, d = e + 1 := ⟨d - 1, by omega⟩
  exact t_X12_byWeights_0 hd h
def f_X12_digitsNow_4 (n : Nat) : Nat → (Nat → Nat → Int32) → (Nat → Nat → Int64) → Nat → Int32 → Int32 → Option (Int32)
  | 0, _, _, _, _, _ => none
  | m + 1, I, J, T, x1, x2 =>
    if (I 53 27) ≤ x2 then
     some (x1)
    else
     if ok_ix x2 6 then
      f_X12_digitsNow_4 n  m I J T ((10 * x1) + (I 69 x2.toNatClampNeg)) (x2 + 1)
     else none
def f_X12_digitsNow (n : Nat) (I : Nat → Nat → Int32) (J : Nat → Nat → Int64) (T : Nat) : Option (Int32) :=
  f_X12_digitsNow_4 n  n I J T 0 0
set_option maxRecDepth 100000 in
set_option maxHeartbeats 4000000 in
theorem t_X12_digitsNow_4 {l : Launch} {ρ : am_R} {n d gc gs : Nat} {q : Int32} (hd : 0 * n + 0 ≤ d)
    : ∀ (m : Nat) (I : Nat → Nat → Int32) (J : Nat → Nat → Int64) (T : Nat) (x1 : Int32) (x2 : Int32), f_X12_digitsNow_4 n  m I J T x1 x2 = some q → AW l ρ d M_X12_digitsNow 4 [(0, .ref 53), (1, .int x1), (2, .int x2)] [] (am_KD, gc, gs) (I, J, am_RT T) (am_KD, gc, gs) (fun v H' => v = [.int q] ∧ H' = (I, J, am_RT T)) := by
  intro m
  induction m with
  | zero =>
    intro I J T x1 x2 h
    rw [f_X12_digitsNow_4] at h
    cases h
  | succ m ih =>
    intro I J T x1 x2 h
    rw [f_X12_digitsNow_4] at h
    refine op_iload_n (k := 2) dX12_digitsNow_4 rfl rfl ?_
    refine op_aload_n (k := 0) dX12_digitsNow_5 rfl rfl ?_
    refine st_getI (v := I 53 27) dX12_digitsNow_6 fl_X12_297 kd_53 (by decide) rfl rfl ?_
    refine op_icmp_ge (tgt := 30) dX12_digitsNow_9 (by decide) (fun c1 => ?_) (fun c1 => ?_)
    · replace h := am_ip c1 h
      refine op_iload_n (k := 1) dX12_digitsNow_30 rfl rfl ?_
      cases h
      exact (op_iret dX12_digitsNow_31 rfl rfl ⟨rfl, rfl⟩)
    · replace h := am_ie c1 h
      refine op_bipush (v := 10) dX12_digitsNow_12 (by decide) ?_
      refine op_iload_n (k := 1) dX12_digitsNow_14 rfl rfl ?_
      refine op_imul dX12_digitsNow_15 ?_
      refine op_aload_n (k := 0) dX12_digitsNow_16 rfl rfl ?_
      refine st_getR (z := 69) dX12_digitsNow_17 fl_X12_75 kd_53 (by decide) rfl rr_53_39 ?_
      refine op_iload_n (k := 2) dX12_digitsNow_20 rfl rfl ?_
      obtain ⟨g2, h⟩ := am_gd h
      refine st_iald (k := x2.toNatClampNeg) (v := I 69 x2.toNatClampNeg) dX12_digitsNow_21 kd_69 g2 rfl rfl ?_
      refine op_iadd dX12_digitsNow_22 ?_
      refine op_istore_n (L' := [(1, .int ((10 * x1) + (I 69 x2.toNatClampNeg))), (0, .ref 53), (2, .int x2)]) dX12_digitsNow_23 rfl (by decide) rfl ?_
      refine op_iinc (k := 2) (v := x2 + 1) (L' := [(2, .int (x2 + 1)), (1, .int ((10 * x1) + (I 69 x2.toNatClampNeg))), (0, .ref 53)]) dX12_digitsNow_24 rfl rfl (by decide) rfl ?_
      refine op_goto (tgt := 4) dX12_digitsNow_27 (by decide) ?_
      refine AW.perm [2, 1, 0] rfl ?_
      exact ih _ _ _ _ _ h
set_option maxRecDepth 100000 in
set_option maxHeartbeats 4000000 in
theorem t_X12_digitsNow_0 {l : Launch} {ρ : am_R} {n d gc gs : Nat} {I : Nat → Nat → Int32} {J : Nat → Nat → Int64} {T : Nat} {q : Int32} (hd : 0 * n + 0 ≤ d)
    (h : f_X12_digitsNow n  I J T  = some q) : AW l ρ d M_X12_digitsNow 0 [(0, .ref 53)] [] (am_KD, gc, gs) (I, J, am_RT T) (am_KD, gc, gs) (fun v H' => v = [.int q] ∧ H' = (I, J, am_RT T)) := by
  unfold f_X12_digitsNow at h
  refine op_iconst (v := 0) dX12_digitsNow_0 (by decide) ?_
  refine op_istore_n (L' := [(1, .int 0), (0, .ref 53)]) dX12_digitsNow_1 rfl (by decide) rfl ?_
  refine op_iconst (v := 0) dX12_digitsNow_2 (by decide) ?_
  refine op_istore_n (L' := [(2, .int 0), (1, .int 0), (0, .ref 53)]) dX12_digitsNow_3 rfl (by decide) rfl ?_
  refine AW.perm [2, 1, 0] rfl ?_
  exact t_X12_digitsNow_4 hd  n _ _ _ _ _ h
theorem t_X12_digitsNow {l : Launch} {ρ : am_R} {n d gc gs : Nat} {I : Nat → Nat → Int32} {J : Nat → Nat → Int64} {T : Nat} {q : Int32} (hd : 0 * n + 0 ≤ d) (h : f_X12_digitsNow n I J T  = some q) : AW l ρ d M_X12_digitsNow 0 [(0, .ref 53)] [] (am_KD, gc, gs) (I, J, am_RT T) (am_KD, gc, gs) (fun v H' => v = [.int q] ∧ H' = (I, J, am_RT T)) := t_X12_digitsNow_0 hd h
def f_X12_judgeCost_45 (n : Nat) (I : Nat → Nat → Int32) (J : Nat → Nat → Int64) (T : Nat) (x2 : Int32) : Option ((Nat → Nat → Int32)) :=
  (f_X12_digitsNow n I J T).bind fun w1 =>
  some ((am_u (am_u I 53 37 w1) 53 38 x2))
def f_X12_judgeCost_4 (n : Nat) : Nat → (Nat → Nat → Int32) → (Nat → Nat → Int64) → Nat → Int32 → Int32 → Int32 → Option ((Nat → Nat → Int32))
  | 0, _, _, _, _, _, _ => none
  | m + 1, I, J, T, x1, x2, x3 =>
    if x1 ≤ x3 then
     if (I 53 37) = ((-1)) then
      f_X12_judgeCost_45 n  I J T x2
     else
      if x2 < (I 53 38) then
       f_X12_judgeCost_45 n  I J T x2
      else
       some (I)
    else
     if ok_ix x3 7 then
      (f_X12_costOf n I J T (I 70 x3.toNatClampNeg)).bind fun w5 =>
      f_X12_judgeCost_4 n  m I J T x1 (x2 + w5) (x3 + 1)
     else none
def f_X12_judgeCost (n : Nat) (I : Nat → Nat → Int32) (J : Nat → Nat → Int64) (T : Nat) (x1 : Int32) : Option ((Nat → Nat → Int32)) :=
  f_X12_judgeCost_4 n  n I J T x1 0 0
set_option maxRecDepth 100000 in
set_option maxHeartbeats 4000000 in
theorem t_X12_judgeCost_45 {l : Launch} {ρ : am_R} {n d gc gs : Nat} {I : Nat → Nat → Int32} {J : Nat → Nat → Int64} {T : Nat} {x2 : Int32} {q : (Nat → Nat → Int32)} (hd : 0 * n + 4 ≤ (d + 1))
    (h : f_X12_judgeCost_45 n  I J T x2 = some q) : AW l ρ (d + 1) M_X12_judgeCost 45 [(0, .ref 53), (2, .int x2)] [] (am_KD, gc, gs) (I, J, am_RT T) (am_KD, gc, gs) (fun v H' => v = [] ∧ H' = (q, J, am_RT T)) := by
  unfold f_X12_judgeCost_45 at h
  refine op_aload_n (k := 0) dX12_judgeCost_45 rfl rfl ?_
  refine op_aload_n (k := 0) dX12_judgeCost_46 rfl rfl ?_
  obtain ⟨w1, ew1, h⟩ := am_bd h
  refine op_callV (M' := M_X12_digitsNow) [] (S0 := [.ref 53]) dX12_judgeCost_47 tw_1722 ok_X12_digitsNow tw_1724 tw_98 kd_53 cls_12 rfl rfl rfl (Nat.le_of_ble_eq_true rfl) (Nat.le_of_ble_eq_true rfl) (t_X12_digitsNow (by omega) ew1) (am_le_rf _) ?_
  rintro _ _ ⟨rfl, rfl⟩
  refine st_putI dX12_judgeCost_50 fl_X12_399 kd_53 (by decide) rfl ?_
  refine op_aload_n (k := 0) dX12_judgeCost_53 rfl rfl ?_
  refine op_iload_n (k := 1) dX12_judgeCost_54 rfl rfl ?_
  refine st_putI dX12_judgeCost_55 fl_X12_402 kd_53 (by decide) rfl ?_
  cases h
  exact (op_vret dX12_judgeCost_58 rfl ⟨rfl, rfl⟩)
set_option maxRecDepth 100000 in
set_option maxHeartbeats 4000000 in
theorem t_X12_judgeCost_4 {l : Launch} {ρ : am_R} {n d gc gs : Nat} {q : (Nat → Nat → Int32)} (hd : 0 * n + 4 ≤ (d + 1))
    : ∀ (m : Nat) (I : Nat → Nat → Int32) (J : Nat → Nat → Int64) (T : Nat) (x1 : Int32) (x2 : Int32) (x3 : Int32), f_X12_judgeCost_4 n  m I J T x1 x2 x3 = some q → AW l ρ (d + 1) M_X12_judgeCost 4 [(0, .ref 53), (1, .int x1), (2, .int x2), (3, .int x3)] [] (am_KD, gc, gs) (I, J, am_RT T) (am_KD, gc, gs) (fun v H' => v = [] ∧ H' = (q, J, am_RT T)) := by
  intro m
  induction m with
  | zero =>
    intro I J T x1 x2 x3 h
    rw [f_X12_judgeCost_4] at h
    cases h
  | succ m ih =>
    intro I J T x1 x2 x3 h
    rw [f_X12_judgeCost_4] at h
    refine op_iload_n (k := 3) dX12_judgeCost_4 rfl rfl ?_
    refine op_iload_n (k := 1) dX12_judgeCost_5 rfl rfl ?_
    refine op_icmp_ge (tgt := 28) dX12_judgeCost_6 (by decide) (fun c1 => ?_) (fun c1 => ?_)
    · replace h := am_ip c1 h
      refine op_aload_n (k := 0) dX12_judgeCost_28 rfl rfl ?_
      refine st_getI (v := I 53 37) dX12_judgeCost_29 fl_X12_399 kd_53 (by decide) rfl rfl ?_
      refine op_iconst (v := (-1)) dX12_judgeCost_32 (by decide) ?_
      refine op_icmp_eq (tgt := 45) dX12_judgeCost_33 (by decide) (fun c2 => ?_) (fun c2 => ?_)
      · replace h := am_ip c2 h
        refine AW.perm [0, 2] rfl ?_
        exact t_X12_judgeCost_45 hd  h
      · replace h := am_ie c2 h
        refine op_iload_n (k := 2) dX12_judgeCost_36 rfl rfl ?_
        refine op_aload_n (k := 0) dX12_judgeCost_37 rfl rfl ?_
        refine st_getI (v := I 53 38) dX12_judgeCost_38 fl_X12_402 kd_53 (by decide) rfl rfl ?_
        refine op_icmp_lt (tgt := 45) dX12_judgeCost_41 (by decide) (fun c3 => ?_) (fun c3 => ?_)
        · replace h := am_ip c3 h
          refine AW.perm [0, 2] rfl ?_
          exact t_X12_judgeCost_45 hd  h
        · replace h := am_ie c3 h
          cases h
          exact (op_vret dX12_judgeCost_44 rfl ⟨rfl, rfl⟩)
    · replace h := am_ie c1 h
      refine op_iload_n (k := 2) dX12_judgeCost_9 rfl rfl ?_
      refine op_aload_n (k := 0) dX12_judgeCost_10 rfl rfl ?_
      refine op_aload_n (k := 0) dX12_judgeCost_11 rfl rfl ?_
      refine st_getR (z := 70) dX12_judgeCost_12 fl_X12_78 kd_53 (by decide) rfl rr_53_40 ?_
      refine op_iload_n (k := 3) dX12_judgeCost_15 rfl rfl ?_
      obtain ⟨g4, h⟩ := am_gd h
      refine st_iald (k := x3.toNatClampNeg) (v := I 70 x3.toNatClampNeg) dX12_judgeCost_16 kd_70 g4 rfl rfl ?_
      obtain ⟨w5, ew5, h⟩ := am_bd h
      refine op_callV (M' := M_X12_costOf) [.int (I 70 x3.toNatClampNeg)] (S0 := [.int x2]) dX12_judgeCost_17 tw_1577 ok_X12_costOf tw_1579 tw_78 kd_53 cls_12 rfl rfl rfl (Nat.le_of_ble_eq_true rfl) (Nat.le_of_ble_eq_true rfl) (t_X12_costOf (by omega) ew5) (am_le_rf _) ?_
      rintro _ _ ⟨rfl, rfl⟩
      refine op_iadd dX12_judgeCost_20 ?_
      refine op_istore_n (L' := [(2, .int (x2 + w5)), (0, .ref 53), (1, .int x1), (3, .int x3)]) dX12_judgeCost_21 rfl (by decide) rfl ?_
      refine op_iinc (k := 3) (v := x3 + 1) (L' := [(3, .int (x3 + 1)), (2, .int (x2 + w5)), (0, .ref 53), (1, .int x1)]) dX12_judgeCost_22 rfl rfl (by decide) rfl ?_
      refine op_goto (tgt := 4) dX12_judgeCost_25 (by decide) ?_
      refine AW.perm [2, 3, 1, 0] rfl ?_
      exact ih _ _ _ _ _ _ h
set_option maxRecDepth 100000 in
set_option maxHeartbeats 4000000 in
theorem t_X12_judgeCost_0 {l : Launch} {ρ : am_R} {n d gc gs : Nat} {I : Nat → Nat → Int32} {J : Nat → Nat → Int64} {T : Nat} {x1 : Int32} {q : (Nat → Nat → Int32)} (hd : 0 * n + 4 ≤ (d + 1))
    (h : f_X12_judgeCost n  I J T x1 = some q) : AW l ρ (d + 1) M_X12_judgeCost 0 [(0, .ref 53), (1, .int x1)] [] (am_KD, gc, gs) (I, J, am_RT T) (am_KD, gc, gs) (fun v H' => v = [] ∧ H' = (q, J, am_RT T)) := by
  unfold f_X12_judgeCost at h
  refine op_iconst (v := 0) dX12_judgeCost_0 (by decide) ?_
  refine op_istore_n (L' := [(2, .int 0), (0, .ref 53), (1, .int x1)]) dX12_judgeCost_1 rfl (by decide) rfl ?_
  refine op_iconst (v := 0) dX12_judgeCost_2 (by decide) ?_
  refine op_istore_n (L' := [(3, .int 0), (2, .int 0), (0, .ref 53), (1, .int x1)]) dX12_judgeCost_3 rfl (by decide) rfl ?_
  refine AW.perm [2, 3, 1, 0] rfl ?_
  exact t_X12_judgeCost_4 hd  n _ _ _ _ _ _ h
theorem t_X12_judgeCost {l : Launch} {ρ : am_R} {n d gc gs : Nat} {I : Nat → Nat → Int32} {J : Nat → Nat → Int64} {T : Nat} {x1 : Int32} {q : (Nat → Nat → Int32)} (hd : 0 * n + 4 ≤ d) (h : f_X12_judgeCost n I J T x1 = some q) : AW l ρ d M_X12_judgeCost 0 [(0, .ref 53), (1, .int x1)] [] (am_KD, gc, gs) (I, J, am_RT T) (am_KD, gc, gs) (fun v H' => v = [] ∧ H' = (q, J, am_RT T)) := by
  obtain ⟨d, rfl⟩ : ∃ e, d = e + 1 := ⟨d - 1, by omega⟩
  exact t_X12_judgeCost_0 hd h
def f_X12_seatsOf_35 (n : Nat) (k4 : (Nat → Nat → Int32) → (Nat → Nat → Int64) → Nat → Int32 → Int32 → Int32 → Option (Int32)) (I : Nat → Nat → Int32) (J : Nat → Nat → Int64) (T : Nat) (x1 : Int32) (x3 : Int32) (s0 : Int32) (s1 : Int32) : Option (Int32) :=
  k4 I J T x1 (s0 + s1) (x3 + 1)
def f_X12_seatsOf_4 (n : Nat) : Nat → (Nat → Nat → Int32) → (Nat → Nat → Int64) → Nat → Int32 → Int32 → Int32 → Option (Int32)
  | 0, _, _, _, _, _, _ => none
  | m + 1, I, J, T, x1, x2, x3 =>
    if (I 53 27) ≤ x3 then
     some (x2)
    else
     (f_X12_has n I J T x1 x3).bind fun w2 =>
     if w2 = 0 then
      f_X12_seatsOf_35 n (f_X12_seatsOf_4 n m) I J T x1 x3 x2 0
     else
      if ok_ix ((3 * x3) + 2) 18 then
       f_X12_seatsOf_35 n (f_X12_seatsOf_4 n m) I J T x1 x3 x2 (I 60 (((3 * x3) + 2).toNatClampNeg))
      else none
def f_X12_seatsOf (n : Nat) (I : Nat → Nat → Int32) (J : Nat → Nat → Int64) (T : Nat) (x1 : Int32) : Option (Int32) :=
  f_X12_seatsOf_4 n  n I J T x1 0 0
set_option maxRecDepth 100000 in
set_option maxHeartbeats 4000000 in
theorem t_X12_seatsOf_35 {l : Launch} {ρ : am_R} {n d gc gs : Nat} {k4 : (Nat → Nat → Int32) → (Nat → Nat → Int64) → Nat → Int32 → Int32 → Int32 → Option (Int32)} {I : Nat → Nat → Int32} {J : Nat → Nat → Int64} {T : Nat} {x1 : Int32} {x3 : Int32} {s0 : Int32} {s1 : Int32} {q : Int32} (hd : 0 * n + 1 ≤ (d + 1))
    (hk4 : ∀ (I : Nat → Nat → Int32) (J : Nat → Nat → Int64) (T : Nat) (x1 : Int32) (x2 : Int32) (x3 : Int32), k4 I J T x1 x2 x3 = some q → AW l ρ (d + 1) M_X12_seatsOf 4 [(0, .ref 53), (1, .int x1), (2, .int x2), (3, .int x3)] [] (am_KD, gc, gs) (I, J, am_RT T) (am_KD, gc, gs) (fun v H' => v = [.int q] ∧ H' = (I, J, am_RT T)))
    (h : f_X12_seatsOf_35 n k4 I J T x1 x3 s0 s1 = some q) : AW l ρ (d + 1) M_X12_seatsOf 35 [(0, .ref 53), (1, .int x1), (3, .int x3)] [.int s1, .int s0] (am_KD, gc, gs) (I, J, am_RT T) (am_KD, gc, gs) (fun v H' => v = [.int q] ∧ H' = (I, J, am_RT T)) := by
  unfold f_X12_seatsOf_35 at h
  refine op_iadd dX12_seatsOf_35 ?_
  refine op_istore_n (L' := [(2, .int (s0 + s1)), (0, .ref 53), (1, .int x1), (3, .int x3)]) dX12_seatsOf_36 rfl (by decide) rfl ?_
  refine op_iinc (k := 3) (v := x3 + 1) (L' := [(3, .int (x3 + 1)), (2, .int (s0 + s1)), (0, .ref 53), (1, .int x1)]) dX12_seatsOf_37 rfl rfl (by decide) rfl ?_
  refine op_goto (tgt := 4) dX12_seatsOf_40 (by decide) ?_
  refine AW.perm [2, 3, 1, 0] rfl ?_
  exact hk4 _ _ _ _ _ _ h
set_option maxRecDepth 100000 in
set_option maxHeartbeats 4000000 in
theorem t_X12_seatsOf_4 {l : Launch} {ρ : am_R} {n d gc gs : Nat} {q : Int32} (hd : 0 * n + 1 ≤ (d + 1))
    : ∀ (m : Nat) (I : Nat → Nat → Int32) (J : Nat → Nat → Int64) (T : Nat) (x1 : Int32) (x2 : Int32) (x3 : Int32), f_X12_seatsOf_4 n  m I J T x1 x2 x3 = some q → AW l ρ (d + 1) M_X12_seatsOf 4 [(0, .ref 53), (1, .int x1), (2, .int x2), (3, .int x3)] [] (am_KD, gc, gs) (I, J, am_RT T) (am_KD, gc, gs) (fun v H' => v = [.int q] ∧ H' = (I, J, am_RT T)) := by
  intro m
  induction m with
  | zero =>
    intro I J T x1 x2 x3 h
    rw [f_X12_seatsOf_4] at h
    cases h
  | succ m ih =>
    intro I J T x1 x2 x3 h
    rw [f_X12_seatsOf_4] at h
    refine op_iload_n (k := 3) dX12_seatsOf_4 rfl rfl ?_
    refine op_aload_n (k := 0) dX12_seatsOf_5 rfl rfl ?_
    refine st_getI (v := I 53 27) dX12_seatsOf_6 fl_X12_297 kd_53 (by decide) rfl rfl ?_
    refine op_icmp_ge (tgt := 43) dX12_seatsOf_9 (by decide) (fun c1 => ?_) (fun c1 => ?_)
    · replace h := am_ip c1 h
      refine op_iload_n (k := 2) dX12_seatsOf_43 rfl rfl ?_
      cases h
      exact (op_iret dX12_seatsOf_44 rfl rfl ⟨rfl, rfl⟩)
    · replace h := am_ie c1 h
      refine op_iload_n (k := 2) dX12_seatsOf_12 rfl rfl ?_
      refine op_iload_n (k := 1) dX12_seatsOf_13 rfl rfl ?_
      refine op_iload_n (k := 3) dX12_seatsOf_14 rfl rfl ?_
      obtain ⟨w2, ew2, h⟩ := am_bd h
      refine op_callS (M' := M_X12_has) [.int x1, .int x3] (S0 := [.int x2]) dX12_seatsOf_15 tw_1471 ok_X12_has tw_1472 rfl rfl (Nat.le_of_ble_eq_true rfl) (Nat.le_of_ble_eq_true rfl) (t_X12_has (by omega) ew2) (am_le_rf _) ?_
      rintro _ _ ⟨rfl, rfl⟩
      refine op_if_eq (tgt := 34) dX12_seatsOf_18 (by decide) (fun c3 => ?_) (fun c3 => ?_)
      · replace h := am_ip c3 h
        refine op_iconst (v := 0) dX12_seatsOf_34 (by decide) ?_
        refine AW.perm [0, 1, 3] rfl ?_
        exact t_X12_seatsOf_35 hd ih h
      · replace h := am_ie c3 h
        refine op_aload_n (k := 0) dX12_seatsOf_21 rfl rfl ?_
        refine st_getR (z := 60) dX12_seatsOf_22 fl_X12_43 kd_53 (by decide) rfl rr_53_20 ?_
        refine op_iconst (v := 3) dX12_seatsOf_25 (by decide) ?_
        refine op_iload_n (k := 3) dX12_seatsOf_26 rfl rfl ?_
        refine op_imul dX12_seatsOf_27 ?_
        refine op_iconst (v := 2) dX12_seatsOf_28 (by decide) ?_
        refine op_iadd dX12_seatsOf_29 ?_
        obtain ⟨g4, h⟩ := am_gd h
        refine st_iald (k := ((3 * x3) + 2).toNatClampNeg) (v := I 60 (((3 * x3) + 2).toNatClampNeg)) dX12_seatsOf_30 kd_60 g4 rfl rfl ?_
        refine op_goto (tgt := 35) dX12_seatsOf_31 (by decide) ?_
        refine AW.perm [0, 1, 3] rfl ?_
        exact t_X12_seatsOf_35 hd ih h
set_option maxRecDepth 100000 in
set_option maxHeartbeats 4000000 in
theorem t_X12_seatsOf_0 {l : Launch} {ρ : am_R} {n d gc gs : Nat} {I : Nat → Nat → Int32} {J : Nat → Nat → Int64} {T : Nat} {x1 : Int32} {q : Int32} (hd : 0 * n + 1 ≤ (d + 1))
    (h : f_X12_seatsOf n  I J T x1 = some q) : AW l ρ (d + 1) M_X12_seatsOf 0 [(0, .ref 53), (1, .int x1)] [] (am_KD, gc, gs) (I, J, am_RT T) (am_KD, gc, gs) (fun v H' => v = [.int q] ∧ H' = (I, J, am_RT T)) := by
  unfold f_X12_seatsOf at h
  refine op_iconst (v := 0) dX12_seatsOf_0 (by decide) ?_
  refine op_istore_n (L' := [(2, .int 0), (0, .ref 53), (1, .int x1)]) dX12_seatsOf_1 rfl (by decide) rfl ?_
  refine op_iconst (v := 0) dX12_seatsOf_2 (by decide) ?_
  refine op_istore_n (L' := [(3, .int 0), (2, .int 0), (0, .ref 53), (1, .int x1)]) dX12_seatsOf_3 rfl (by decide) rfl ?_
  refine AW.perm [2, 3, 1, 0] rfl ?_
  exact t_X12_seatsOf_4 hd  n _ _ _ _ _ _ h
theorem t_X12_seatsOf {l : Launch} {ρ : am_R} {n d gc gs : Nat} {I : Nat → Nat → Int32} {J : Nat → Nat → Int64} {T : Nat} {x1 : Int32} {q : Int32} (hd : 0 * n + 1 ≤ d) (h : f_X12_seatsOf n I J T x1 = some q) : AW l ρ d M_X12_seatsOf 0 [(0, .ref 53), (1, .int x1)] [] (am_KD, gc, gs) (I, J, am_RT T) (am_KD, gc, gs) (fun v H' => v = [.int q] ∧ H' = (I, J, am_RT T)) := by
  obtain ⟨d, rfl⟩ : ∃ e, d = e + 1 := ⟨d - 1, by omega⟩
  exact t_X12_seatsOf_0 hd h
def f_X12_layShares_50 (n : Nat) (I : Nat → Nat → Int32) (J : Nat → Nat → Int64) (T : Nat) (x1 : Int32) (x2 : Int32) (x3 : Int32) : Option ((Nat → Nat → Int32) × (Nat → Nat → Int64) × Nat) :=
  if x2 ≤ 1 then
   some (I, J, T)
  else
   (f_X12_byWeights n I J T x1 x3 x2).bind fun w2 =>
   some (w2.1, w2.2.1, w2.2.2)
def f_X12_layShares_39 (n : Nat) (I : Nat → Nat → Int32) (J : Nat → Nat → Int64) (T : Nat) (x1 : Int32) (x2 : Int32) (x3 : Int32) : Option ((Nat → Nat → Int32) × (Nat → Nat → Int64) × Nat) :=
  if x2 = 1 then
   (f_X12_byOrders n I J T x1 x3).bind fun w2 =>
   f_X12_layShares_50 n  I w2 T x1 x2 x3
  else
   f_X12_layShares_50 n  I J T x1 x2 x3
def f_X12_layShares_8 (n : Nat) : Nat → (Nat → Nat → Int32) → (Nat → Nat → Int64) → Nat → Int32 → Int32 → Int32 → Int32 → Option ((Nat → Nat → Int32) × (Nat → Nat → Int64) × Nat)
  | 0, _, _, _, _, _, _, _ => none
  | m + 1, I, J, T, x1, x2, x3, x4 =>
    if 6 ≤ x4 then
     if x2 = 0 then
      (f_X12_bySections n I J T x1 x3).bind fun w3 =>
      f_X12_layShares_39 n  I w3 T x1 x2 x3
     else
      f_X12_layShares_39 n  I J T x1 x2 x3
    else
     if ok_ix x4 6 then
      f_X12_layShares_8 n  m I ((am_u J 66 x4.toNatClampNeg 0)) T x1 x2 x3 (x4 + 1)
     else none
def f_X12_layShares (n : Nat) (I : Nat → Nat → Int32) (J : Nat → Nat → Int64) (T : Nat) (x1 : Int32) (x2 : Int32) : Option ((Nat → Nat → Int32) × (Nat → Nat → Int64) × Nat) :=
  (f_J6_bitCount_0f7a4 n I J T x1).bind fun w1 =>
  f_X12_layShares_8 n  n I J T x1 x2 w1 0
set_option maxRecDepth 100000 in
set_option maxHeartbeats 4000000 in
theorem t_X12_layShares_50 {l : Launch} {ρ : am_R} {n d gc gs : Nat} {I : Nat → Nat → Int32} {J : Nat → Nat → Int64} {T : Nat} {x1 : Int32} {x2 : Int32} {x3 : Int32} {q : (Nat → Nat → Int32) × (Nat → Nat → Int64) × Nat} (hd : 2 * n + 12 ≤ (d + 1))
    (h : f_X12_layShares_50 n  I J T x1 x2 x3 = some q) : AW l ρ (d + 1) M_X12_layShares 50 [(0, .ref 53), (1, .int x1), (2, .int x2), (3, .int x3)] [] (am_KD, gc, gs) (I, J, am_RT T) (am_KD, gc, gs) (fun v H' => v = [] ∧ H' = (q.1, q.2.1, am_RT (q.2.2))) := by
  unfold f_X12_layShares_50 at h
  refine op_iload_n (k := 2) dX12_layShares_50 rfl rfl ?_
  refine op_iconst (v := 1) dX12_layShares_51 (by decide) ?_
  refine op_icmp_le (tgt := 62) dX12_layShares_52 (by decide) (fun c1 => ?_) (fun c1 => ?_)
  · replace h := am_ip c1 h
    cases h
    exact (op_vret dX12_layShares_62 rfl ⟨rfl, rfl⟩)
  · replace h := am_ie c1 h
    refine op_aload_n (k := 0) dX12_layShares_55 rfl rfl ?_
    refine op_iload_n (k := 1) dX12_layShares_56 rfl rfl ?_
    refine op_iload_n (k := 3) dX12_layShares_57 rfl rfl ?_
    refine op_iload_n (k := 2) dX12_layShares_58 rfl rfl ?_
    obtain ⟨w2, ew2, h⟩ := am_bd h
    refine op_callV (M' := M_X12_byWeights) [.int x1, .int x3, .int x2] (S0 := []) dX12_layShares_59 tw_1650 ok_X12_byWeights tw_1652 tw_87 kd_53 cls_12 rfl rfl rfl (Nat.le_of_ble_eq_true rfl) (Nat.le_of_ble_eq_true rfl) (t_X12_byWeights (by omega) ew2) (am_le_rf _) ?_
    rintro _ _ ⟨rfl, rfl⟩
    cases h
    exact (op_vret dX12_layShares_62 rfl ⟨rfl, rfl⟩)
set_option maxRecDepth 100000 in
set_option maxHeartbeats 4000000 in
theorem t_X12_layShares_39 {l : Launch} {ρ : am_R} {n d gc gs : Nat} {I : Nat → Nat → Int32} {J : Nat → Nat → Int64} {T : Nat} {x1 : Int32} {x2 : Int32} {x3 : Int32} {q : (Nat → Nat → Int32) × (Nat → Nat → Int64) × Nat} (hd : 2 * n + 12 ≤ (d + 1))
    (h : f_X12_layShares_39 n  I J T x1 x2 x3 = some q) : AW l ρ (d + 1) M_X12_layShares 39 [(0, .ref 53), (1, .int x1), (2, .int x2), (3, .int x3)] [] (am_KD, gc, gs) (I, J, am_RT T) (am_KD, gc, gs) (fun v H' => v = [] ∧ H' = (q.1, q.2.1, am_RT (q.2.2))) := by
  unfold f_X12_layShares_39 at h
  refine op_iload_n (k := 2) dX12_layShares_39 rfl rfl ?_
  refine op_iconst (v := 1) dX12_layShares_40 (by decide) ?_
  refine op_icmp_ne (tgt := 50) dX12_layShares_41 (by decide) (fun c1 => ?_) (fun c1 => ?_)
  · replace h := am_ie c1 h
    exact t_X12_layShares_50 hd  h
  · replace h := am_ip c1 h
    refine op_aload_n (k := 0) dX12_layShares_44 rfl rfl ?_
    refine op_iload_n (k := 1) dX12_layShares_45 rfl rfl ?_
    refine op_iload_n (k := 3) dX12_layShares_46 rfl rfl ?_
    obtain ⟨w2, ew2, h⟩ := am_bd h
    refine op_callV (M' := M_X12_byOrders) [.int x1, .int x3] (S0 := []) dX12_layShares_47 tw_1643 ok_X12_byOrders tw_1645 tw_86 kd_53 cls_12 rfl rfl rfl (Nat.le_of_ble_eq_true rfl) (Nat.le_of_ble_eq_true rfl) (t_X12_byOrders (by omega) ew2) (am_le_rf _) ?_
    rintro _ _ ⟨rfl, rfl⟩
    exact t_X12_layShares_50 hd  h
set_option maxRecDepth 100000 in
set_option maxHeartbeats 4000000 in
theorem t_X12_layShares_8 {l : Launch} {ρ : am_R} {n d gc gs : Nat} {q : (Nat → Nat → Int32) × (Nat → Nat → Int64) × Nat} (hd : 2 * n + 12 ≤ (d + 1))
    : ∀ (m : Nat) (I : Nat → Nat → Int32) (J : Nat → Nat → Int64) (T : Nat) (x1 : Int32) (x2 : Int32) (x3 : Int32) (x4 : Int32), f_X12_layShares_8 n  m I J T x1 x2 x3 x4 = some q → AW l ρ (d + 1) M_X12_layShares 8 [(0, .ref 53), (1, .int x1), (2, .int x2), (3, .int x3), (4, .int x4)] [] (am_KD, gc, gs) (I, J, am_RT T) (am_KD, gc, gs) (fun v H' => v = [] ∧ H' = (q.1, q.2.1, am_RT (q.2.2))) := by
  intro m
  induction m with
  | zero =>
    intro I J T x1 x2 x3 x4 h
    rw [f_X12_layShares_8] at h
    cases h
  | succ m ih =>
    intro I J T x1 x2 x3 x4 h
    rw [f_X12_layShares_8] at h
    refine op_iload (k := 4) dX12_layShares_8 rfl ?_
    refine op_bipush (v := 6) dX12_layShares_10 (by decide) ?_
    refine op_icmp_ge (tgt := 29) dX12_layShares_12 (by decide) (fun c1 => ?_) (fun c1 => ?_)
    · replace h := am_ip c1 h
      refine op_iload_n (k := 2) dX12_layShares_29 rfl rfl ?_
      refine op_if_ne (tgt := 39) dX12_layShares_30 (by decide) (fun c2 => ?_) (fun c2 => ?_)
      · replace h := am_ie c2 h
        refine AW.perm [0, 1, 2, 3] rfl ?_
        exact t_X12_layShares_39 hd  h
      · replace h := am_ip c2 h
        refine op_aload_n (k := 0) dX12_layShares_33 rfl rfl ?_
        refine op_iload_n (k := 1) dX12_layShares_34 rfl rfl ?_
        refine op_iload_n (k := 3) dX12_layShares_35 rfl rfl ?_
        obtain ⟨w3, ew3, h⟩ := am_bd h
        refine op_callV (M' := M_X12_bySections) [.int x1, .int x3] (S0 := []) dX12_layShares_36 tw_1638 ok_X12_bySections tw_1640 tw_85 kd_53 cls_12 rfl rfl rfl (Nat.le_of_ble_eq_true rfl) (Nat.le_of_ble_eq_true rfl) (t_X12_bySections (by omega) ew3) (am_le_rf _) ?_
        rintro _ _ ⟨rfl, rfl⟩
        refine AW.perm [0, 1, 2, 3] rfl ?_
        exact t_X12_layShares_39 hd  h
    · replace h := am_ie c1 h
      refine op_aload_n (k := 0) dX12_layShares_15 rfl rfl ?_
      refine st_getR (z := 66) dX12_layShares_16 fl_X12_65 kd_53 (by decide) rfl rr_53_32 ?_
      refine op_iload (k := 4) dX12_layShares_19 rfl ?_
      refine op_lconst (v := 0) dX12_layShares_21 (by decide) ?_
      obtain ⟨g4, h⟩ := am_gd h
      refine st_last (k := x4.toNatClampNeg) dX12_layShares_22 kd_66 g4 rfl ?_
      refine op_iinc (k := 4) (v := x4 + 1) (L' := [(4, .int (x4 + 1)), (0, .ref 53), (1, .int x1), (2, .int x2), (3, .int x3)]) dX12_layShares_23 rfl rfl (by decide) rfl ?_
      refine op_goto (tgt := 8) dX12_layShares_26 (by decide) ?_
      refine AW.perm [1, 2, 3, 4, 0] rfl ?_
      exact ih _ _ _ _ _ _ _ h
set_option maxRecDepth 100000 in
set_option maxHeartbeats 4000000 in
theorem t_X12_layShares_0 {l : Launch} {ρ : am_R} {n d gc gs : Nat} {I : Nat → Nat → Int32} {J : Nat → Nat → Int64} {T : Nat} {x1 : Int32} {x2 : Int32} {q : (Nat → Nat → Int32) × (Nat → Nat → Int64) × Nat} (hd : 2 * n + 12 ≤ (d + 1))
    (h : f_X12_layShares n  I J T x1 x2 = some q) : AW l ρ (d + 1) M_X12_layShares 0 [(0, .ref 53), (1, .int x1), (2, .int x2)] [] (am_KD, gc, gs) (I, J, am_RT T) (am_KD, gc, gs) (fun v H' => v = [] ∧ H' = (q.1, q.2.1, am_RT (q.2.2))) := by
  unfold f_X12_layShares at h
  refine op_iload_n (k := 1) dX12_layShares_0 rfl rfl ?_
  obtain ⟨w1, ew1, h⟩ := am_bd h
  refine op_callS (M' := M_J6_bitCount_0f7a4) [.int x1] (S0 := []) dX12_layShares_1 tw_1637 ok_J6_bitCount_0f7a4 tw_797 rfl rfl (Nat.le_of_ble_eq_true rfl) (Nat.le_of_ble_eq_true rfl) (t_J6_bitCount_0f7a4 (by omega) ew1) (am_le_rf _) ?_
  rintro _ _ ⟨rfl, rfl⟩
  refine op_istore_n (L' := [(3, .int w1), (0, .ref 53), (1, .int x1), (2, .int x2)]) dX12_layShares_4 rfl (by decide) rfl ?_
  refine op_iconst (v := 0) dX12_layShares_5 (by decide) ?_
  refine op_istore (L' := [(4, .int 0), (3, .int w1), (0, .ref 53), (1, .int x1), (2, .int x2)]) dX12_layShares_6 (by decide) rfl ?_
  refine AW.perm [2, 3, 4, 1, 0] rfl ?_
  exact t_X12_layShares_8 hd  n _ _ _ _ _ _ _ h
theorem t_X12_layShares {l : Launch} {ρ : am_R} {n d gc gs : Nat} {I : Nat → Nat → Int32} {J : Nat → Nat → Int64} {T : Nat} {x1 : Int32} {x2 : Int32} {q : (Nat → Nat → Int32) × (Nat → Nat → Int64) × Nat} (hd : 2 * n + 12 ≤ d) (h : f_X12_layShares n I J T x1 x2 = some q) : AW l ρ d M_X12_layShares 0 [(0, .ref 53), (1, .int x1), (2, .int x2)] [] (am_KD, gc, gs) (I, J, am_RT T) (am_KD, gc, gs) (fun v H' => v = [] ∧ H' = (q.1, q.2.1, am_RT (q.2.2))) := by
  obtain ⟨d, rfl⟩ : ∃ e, d = e + 1 := ⟨d - 1, by omega⟩
  exact t_X12_layShares_0 hd h
def f_X12_paysLess (n : Nat) (I : Nat → Nat → Int32) (J : Nat → Nat → Int64) (T : Nat) (x1 : Int32) (x2 : Int32) (x3 : Int32) : Option (Int32 × (Nat → Nat → Int32) × (Nat → Nat → Int64) × Nat) :=
  (f_X12_layShares n I J T x2 (I 53 41)).bind fun w1 =>
  if ok_ix x1 6 then
   (f_X12_layShares n w1.1 w1.2.1 w1.2.2 x3 (w1.1 53 41)).bind fun w3 =>
   if ok_ix x1 6 then
    if 0 ≤ (lg_cmp ((w3.2.1 66 x1.toNatClampNeg) * (w1.2.1 53 33)) ((w1.2.1 66 x1.toNatClampNeg) * (w3.2.1 53 33))) then
     some (0, w3.1, w3.2.1, w3.2.2)
    else
     some (1, w3.1, w3.2.1, w3.2.2)
   else none
  else none
set_option maxRecDepth 100000 in
set_option maxHeartbeats 4000000 in
theorem t_X12_paysLess_0 {l : Launch} {ρ : am_R} {n d gc gs : Nat} {I : Nat → Nat → Int32} {J : Nat → Nat → Int64} {T : Nat} {x1 : Int32} {x2 : Int32} {x3 : Int32} {q : Int32 × (Nat → Nat → Int32) × (Nat → Nat → Int64) × Nat} (hd : 2 * n + 13 ≤ (d + 1))
    (h : f_X12_paysLess n  I J T x1 x2 x3 = some q) : AW l ρ (d + 1) M_X12_paysLess 0 [(0, .ref 53), (1, .int x1), (2, .int x2), (3, .int x3)] [] (am_KD, gc, gs) (I, J, am_RT T) (am_KD, gc, gs) (fun v H' => v = [.int q.1] ∧ H' = (q.2.1, q.2.2.1, am_RT (q.2.2.2))) := by
  unfold f_X12_paysLess at h
  refine op_aload_n (k := 0) dX12_paysLess_0 rfl rfl ?_
  refine op_iload_n (k := 2) dX12_paysLess_1 rfl rfl ?_
  refine op_aload_n (k := 0) dX12_paysLess_2 rfl rfl ?_
  refine st_getI (v := I 53 41) dX12_paysLess_3 fl_X12_421 kd_53 (by decide) rfl rfl ?_
  obtain ⟨w1, ew1, h⟩ := am_bd h
  refine op_callV (M' := M_X12_layShares) [.int x2, .int (I 53 41)] (S0 := []) dX12_paysLess_6 tw_1633 ok_X12_layShares tw_1635 tw_84 kd_53 cls_12 rfl rfl rfl (Nat.le_of_ble_eq_true rfl) (Nat.le_of_ble_eq_true rfl) (t_X12_layShares (by omega) ew1) (am_le_rf _) ?_
  rintro _ _ ⟨rfl, rfl⟩
  refine op_aload_n (k := 0) dX12_paysLess_9 rfl rfl ?_
  refine st_getR (z := 66) dX12_paysLess_10 fl_X12_65 kd_53 (by decide) rfl rr_53_32 ?_
  refine op_iload_n (k := 1) dX12_paysLess_13 rfl rfl ?_
  obtain ⟨g2, h⟩ := am_gd h
  refine st_lald (k := x1.toNatClampNeg) (v := w1.2.1 66 x1.toNatClampNeg) dX12_paysLess_14 kd_66 g2 rfl rfl ?_
  refine op_lstore (L' := [(4, .long (w1.2.1 66 x1.toNatClampNeg)), (0, .ref 53), (1, .int x1), (2, .int x2), (3, .int x3)]) dX12_paysLess_15 (by decide) rfl ?_
  refine op_aload_n (k := 1) dX12_paysLess_17 rfl rfl ?_
  refine st_getL (v := w1.2.1 53 33) dX12_paysLess_18 fl_X12_361 kd_53 (by decide) rfl rfl ?_
  refine op_lstore (L' := [(6, .long (w1.2.1 53 33)), (4, .long (w1.2.1 66 x1.toNatClampNeg)), (0, .ref 53), (1, .int x1), (2, .int x2), (3, .int x3)]) dX12_paysLess_21 (by decide) rfl ?_
  refine op_aload_n (k := 2) dX12_paysLess_23 rfl rfl ?_
  refine op_iload_n (k := 5) dX12_paysLess_24 rfl rfl ?_
  refine op_aload_n (k := 2) dX12_paysLess_25 rfl rfl ?_
  refine st_getI (v := w1.1 53 41) dX12_paysLess_26 fl_X12_421 kd_53 (by decide) rfl rfl ?_
  obtain ⟨w3, ew3, h⟩ := am_bd h
  refine op_callV (M' := M_X12_layShares) [.int x3, .int (w1.1 53 41)] (S0 := []) dX12_paysLess_29 tw_1633 ok_X12_layShares tw_1635 tw_84 kd_53 cls_12 rfl rfl rfl (Nat.le_of_ble_eq_true rfl) (Nat.le_of_ble_eq_true rfl) (t_X12_layShares (by omega) ew3) (am_le_rf _) ?_
  rintro _ _ ⟨rfl, rfl⟩
  refine op_aload_n (k := 2) dX12_paysLess_32 rfl rfl ?_
  refine st_getR (z := 66) dX12_paysLess_33 fl_X12_65 kd_53 (by decide) rfl rr_53_32 ?_
  refine op_iload_n (k := 3) dX12_paysLess_36 rfl rfl ?_
  obtain ⟨g4, h⟩ := am_gd h
  refine st_lald (k := x1.toNatClampNeg) (v := w3.2.1 66 x1.toNatClampNeg) dX12_paysLess_37 kd_66 g4 rfl rfl ?_
  refine op_lload (k := 0) dX12_paysLess_38 rfl ?_
  refine op_lmul dX12_paysLess_40 ?_
  refine op_lload (k := 1) dX12_paysLess_41 rfl ?_
  refine op_aload_n (k := 2) dX12_paysLess_43 rfl rfl ?_
  refine st_getL (v := w3.2.1 53 33) dX12_paysLess_44 fl_X12_361 kd_53 (by decide) rfl rfl ?_
  refine op_lmul dX12_paysLess_47 ?_
  refine op_lcmp dX12_paysLess_48 ?_
  refine op_if_ge (tgt := 56) dX12_paysLess_49 (by decide) (fun c5 => ?_) (fun c5 => ?_)
  · replace h := am_ip c5 h
    refine op_iconst (v := 0) dX12_paysLess_56 (by decide) ?_
    cases h
    exact (op_iret dX12_paysLess_57 rfl (by decide) ⟨rfl, rfl⟩)
  · replace h := am_ie c5 h
    refine op_iconst (v := 1) dX12_paysLess_52 (by decide) ?_
    refine op_goto (tgt := 57) dX12_paysLess_53 (by decide) ?_
    cases h
    exact (op_iret dX12_paysLess_57 rfl (by decide) ⟨rfl, rfl⟩)
theorem t_X12_paysLess {l : Launch} {ρ : am_R} {n d gc gs : Nat} {I : Nat → Nat → Int32} {J : Nat → Nat → Int64} {T : Nat} {x1 : Int32} {x2 : Int32} {x3 : Int32} {q : Int32 × (Nat → Nat → Int32) × (Nat → Nat → Int64) × Nat} (hd : 2 * n + 13 ≤ d) (h : f_X12_paysLess n I J T x1 x2 x3 = some q) : AW l ρ d M_X12_paysLess 0 [(0, .ref 53), (1, .int x1), (2, .int x2), (3, .int x3)] [] (am_KD, gc, gs) (I, J, am_RT T) (am_KD, gc, gs) (fun v H' => v = [.int q.1] ∧ H' = (q.2.1, q.2.2.1, am_RT (q.2.2.2))) := by
  obtain ⟨d, rfl⟩ : ∃ e, d = e + 1 := ⟨d - 1, by omega⟩
  exact t_X12_paysLess_0 hd h
def f_X12_judgeSteady_128 (n : Nat) (I : Nat → Nat → Int32) (J : Nat → Nat → Int64) (T : Nat) : Option ((Nat → Nat → Int32) × (Nat → Nat → Int64) × Nat) :=
  some ((am_u I 53 43 ((I 53 43) + 1)), J, T)
def f_X12_judgeSteady_97 (n : Nat) (k2 : (Nat → Nat → Int32) → (Nat → Nat → Int64) → Nat → Int32 → Int32 → Option ((Nat → Nat → Int32) × (Nat → Nat → Int64) × Nat)) (k25 : (Nat → Nat → Int32) → (Nat → Nat → Int64) → Nat → Int32 → Int32 → Int32 → Int32 → Option ((Nat → Nat → Int32) × (Nat → Nat → Int64) × Nat)) (I : Nat → Nat → Int32) (J : Nat → Nat → Int64) (T : Nat) (x1 : Int32) (x2 : Int32) (x3 : Int32) (x4 : Int32) : Option ((Nat → Nat → Int32) × (Nat → Nat → Int64) × Nat) :=
  k25 I J T x1 x2 x3 (x4 + 1)
def f_X12_judgeSteady_54 (n : Nat) (k2 : (Nat → Nat → Int32) → (Nat → Nat → Int64) → Nat → Int32 → Int32 → Option ((Nat → Nat → Int32) × (Nat → Nat → Int64) × Nat)) (k25 : (Nat → Nat → Int32) → (Nat → Nat → Int64) → Nat → Int32 → Int32 → Int32 → Int32 → Option ((Nat → Nat → Int32) × (Nat → Nat → Int64) × Nat)) (I : Nat → Nat → Int32) (J : Nat → Nat → Int64) (T : Nat) (x1 : Int32) (x2 : Int32) (x3 : Int32) (x4 : Int32) (s0 : Int32) : Option ((Nat → Nat → Int32) × (Nat → Nat → Int64) × Nat) :=
  if ok_ix x2 6 then
   if x4 = (I 69 x2.toNatClampNeg) then
    f_X12_judgeSteady_97 n k2 k25 I J T x1 x2 x3 x4
   else
    (f_X12_seatsOf n I J T s0).bind fun w3 =>
    if w3 ≤ (I 61 0) then
     (f_X12_paysLess n I J T x2 x3 s0).bind fun w5 =>
     if w5.1 = 0 then
      f_X12_judgeSteady_97 n k2 k25 w5.2.1 w5.2.2.1 w5.2.2.2 x1 x2 x3 x4
     else
      some (w5.2.1, w5.2.2.1, w5.2.2.2)
    else
     f_X12_judgeSteady_97 n k2 k25 I J T x1 x2 x3 x4
  else none
def f_X12_judgeSteady_25 (n : Nat) (k2 : (Nat → Nat → Int32) → (Nat → Nat → Int64) → Nat → Int32 → Int32 → Option ((Nat → Nat → Int32) × (Nat → Nat → Int64) × Nat)) : Nat → (Nat → Nat → Int32) → (Nat → Nat → Int64) → Nat → Int32 → Int32 → Int32 → Int32 → Option ((Nat → Nat → Int32) × (Nat → Nat → Int64) × Nat)
  | 0, _, _, _, _, _, _, _ => none
  | m + 1, I, J, T, x1, x2, x3, x4 =>
    if x1 < x4 then
     k2 I J T x1 (x2 + 1)
    else
     if x4 = x1 then
      f_X12_judgeSteady_54 n k2 (f_X12_judgeSteady_25 n k2 m) I J T x1 x2 x3 x4 (1 <<< (x2 &&& 31))
     else
      if ok_ix x4 7 then
       f_X12_judgeSteady_54 n k2 (f_X12_judgeSteady_25 n k2 m) I J T x1 x2 x3 x4 ((I 70 x4.toNatClampNeg) ||| (1 <<< (x2 &&& 31)))
      else none
def f_X12_judgeSteady_2 (n : Nat) : Nat → (Nat → Nat → Int32) → (Nat → Nat → Int64) → Nat → Int32 → Int32 → Option ((Nat → Nat → Int32) × (Nat → Nat → Int64) × Nat)
  | 0, _, _, _, _, _ => none
  | m + 1, I, J, T, x1, x2 =>
    if (I 53 27) ≤ x2 then
     if (I 53 43) = (I 53 42) then
      (f_X12_digitsNow n I J T).bind fun w3 =>
      f_X12_judgeSteady_128 n  ((am_u I 53 44 w3)) J T
     else
      f_X12_judgeSteady_128 n  I J T
    else
     if ok_ix x2 6 then
      if ok_ix (I 69 x2.toNatClampNeg) 7 then
       f_X12_judgeSteady_25 n (f_X12_judgeSteady_2 n m) n I J T x1 x2 (I 70 ((I 69 x2.toNatClampNeg).toNatClampNeg)) 0
      else none
     else none
def f_X12_judgeSteady (n : Nat) (I : Nat → Nat → Int32) (J : Nat → Nat → Int64) (T : Nat) (x1 : Int32) : Option ((Nat → Nat → Int32) × (Nat → Nat → Int64) × Nat) :=
  f_X12_judgeSteady_2 n  n I J T x1 0
set_option maxRecDepth 100000 in
set_option maxHeartbeats 4000000 in
theorem t_X12_judgeSteady_128 {l : Launch} {ρ : am_R} {n d gc gs : Nat} {I : Nat → Nat → Int32} {J : Nat → Nat → Int64} {T : Nat} {q : (Nat → Nat → Int32) × (Nat → Nat → Int64) × Nat} (hd : 2 * n + 14 ≤ (d + 1))
    (h : f_X12_judgeSteady_128 n  I J T  = some q) : AW l ρ (d + 1) M_X12_judgeSteady 128 [(0, .ref 53)] [] (am_KD, gc, gs) (I, J, am_RT T) (am_KD, gc, gs) (fun v H' => v = [] ∧ H' = (q.1, q.2.1, am_RT (q.2.2))) := by
  unfold f_X12_judgeSteady_128 at h
  refine op_aload_n (k := 0) dX12_judgeSteady_128 rfl rfl ?_
  refine op_dup dX12_judgeSteady_129 rfl ?_
  refine st_getI (v := I 53 43) dX12_judgeSteady_130 fl_X12_428 kd_53 (by decide) rfl rfl ?_
  refine op_iconst (v := 1) dX12_judgeSteady_133 (by decide) ?_
  refine op_iadd dX12_judgeSteady_134 ?_
  refine st_putI dX12_judgeSteady_135 fl_X12_428 kd_53 (by decide) rfl ?_
  cases h
  exact (op_vret dX12_judgeSteady_138 rfl ⟨rfl, rfl⟩)
set_option maxRecDepth 100000 in
set_option maxHeartbeats 4000000 in
theorem t_X12_judgeSteady_97 {l : Launch} {ρ : am_R} {n d gc gs : Nat} {k2 : (Nat → Nat → Int32) → (Nat → Nat → Int64) → Nat → Int32 → Int32 → Option ((Nat → Nat → Int32) × (Nat → Nat → Int64) × Nat)} {k25 : (Nat → Nat → Int32) → (Nat → Nat → Int64) → Nat → Int32 → Int32 → Int32 → Int32 → Option ((Nat → Nat → Int32) × (Nat → Nat → Int64) × Nat)} {I : Nat → Nat → Int32} {J : Nat → Nat → Int64} {T : Nat} {x1 : Int32} {x2 : Int32} {x3 : Int32} {x4 : Int32} {q : (Nat → Nat → Int32) × (Nat → Nat → Int64) × Nat} (hd : 2 * n + 14 ≤ (d + 1))
    (hk2 : ∀ (I : Nat → Nat → Int32) (J : Nat → Nat → Int64) (T : Nat) (x1 : Int32) (x2 : Int32), k2 I J T x1 x2 = some q → AW l ρ (d + 1) M_X12_judgeSteady 2 [(0, .ref 53), (1, .int x1), (2, .int x2)] [] (am_KD, gc, gs) (I, J, am_RT T) (am_KD, gc, gs) (fun v H' => v = [] ∧ H' = (q.1, q.2.1, am_RT (q.2.2))))
    (hk25 : ∀ (I : Nat → Nat → Int32) (J : Nat → Nat → Int64) (T : Nat) (x1 : Int32) (x2 : Int32) (x3 : Int32) (x4 : Int32), k25 I J T x1 x2 x3 x4 = some q → AW l ρ (d + 1) M_X12_judgeSteady 25 [(0, .ref 53), (1, .int x1), (2, .int x2), (3, .int x3), (4, .int x4)] [] (am_KD, gc, gs) (I, J, am_RT T) (am_KD, gc, gs) (fun v H' => v = [] ∧ H' = (q.1, q.2.1, am_RT (q.2.2))))
    (h : f_X12_judgeSteady_97 n k2 k25 I J T x1 x2 x3 x4 = some q) : AW l ρ (d + 1) M_X12_judgeSteady 97 [(0, .ref 53), (1, .int x1), (2, .int x2), (3, .int x3), (4, .int x4)] [] (am_KD, gc, gs) (I, J, am_RT T) (am_KD, gc, gs) (fun v H' => v = [] ∧ H' = (q.1, q.2.1, am_RT (q.2.2))) := by
  unfold f_X12_judgeSteady_97 at h
  refine op_iinc (k := 4) (v := x4 + 1) (L' := [(4, .int (x4 + 1)), (0, .ref 53), (1, .int x1), (2, .int x2), (3, .int x3)]) dX12_judgeSteady_97 rfl rfl (by decide) rfl ?_
  refine op_goto (tgt := 25) dX12_judgeSteady_100 (by decide) ?_
  refine AW.perm [1, 2, 3, 4, 0] rfl ?_
  exact hk25 _ _ _ _ _ _ _ h
set_option maxRecDepth 100000 in
set_option maxHeartbeats 4000000 in
theorem t_X12_judgeSteady_54 {l : Launch} {ρ : am_R} {n d gc gs : Nat} {k2 : (Nat → Nat → Int32) → (Nat → Nat → Int64) → Nat → Int32 → Int32 → Option ((Nat → Nat → Int32) × (Nat → Nat → Int64) × Nat)} {k25 : (Nat → Nat → Int32) → (Nat → Nat → Int64) → Nat → Int32 → Int32 → Int32 → Int32 → Option ((Nat → Nat → Int32) × (Nat → Nat → Int64) × Nat)} {I : Nat → Nat → Int32} {J : Nat → Nat → Int64} {T : Nat} {x1 : Int32} {x2 : Int32} {x3 : Int32} {x4 : Int32} {s0 : Int32} {q : (Nat → Nat → Int32) × (Nat → Nat → Int64) × Nat} (hd : 2 * n + 14 ≤ (d + 1))
    (hk2 : ∀ (I : Nat → Nat → Int32) (J : Nat → Nat → Int64) (T : Nat) (x1 : Int32) (x2 : Int32), k2 I J T x1 x2 = some q → AW l ρ (d + 1) M_X12_judgeSteady 2 [(0, .ref 53), (1, .int x1), (2, .int x2)] [] (am_KD, gc, gs) (I, J, am_RT T) (am_KD, gc, gs) (fun v H' => v = [] ∧ H' = (q.1, q.2.1, am_RT (q.2.2))))
    (hk25 : ∀ (I : Nat → Nat → Int32) (J : Nat → Nat → Int64) (T : Nat) (x1 : Int32) (x2 : Int32) (x3 : Int32) (x4 : Int32), k25 I J T x1 x2 x3 x4 = some q → AW l ρ (d + 1) M_X12_judgeSteady 25 [(0, .ref 53), (1, .int x1), (2, .int x2), (3, .int x3), (4, .int x4)] [] (am_KD, gc, gs) (I, J, am_RT T) (am_KD, gc, gs) (fun v H' => v = [] ∧ H' = (q.1, q.2.1, am_RT (q.2.2))))
    (h : f_X12_judgeSteady_54 n k2 k25 I J T x1 x2 x3 x4 s0 = some q) : AW l ρ (d + 1) M_X12_judgeSteady 54 [(0, .ref 53), (1, .int x1), (2, .int x2), (3, .int x3), (4, .int x4)] [.int s0] (am_KD, gc, gs) (I, J, am_RT T) (am_KD, gc, gs) (fun v H' => v = [] ∧ H' = (q.1, q.2.1, am_RT (q.2.2))) := by
  unfold f_X12_judgeSteady_54 at h
  refine op_istore (L' := [(5, .int s0), (0, .ref 53), (1, .int x1), (2, .int x2), (3, .int x3), (4, .int x4)]) dX12_judgeSteady_54 (by decide) rfl ?_
  refine op_iload (k := 5) dX12_judgeSteady_56 rfl ?_
  refine op_aload_n (k := 1) dX12_judgeSteady_58 rfl rfl ?_
  refine st_getR (z := 69) dX12_judgeSteady_59 fl_X12_75 kd_53 (by decide) rfl rr_53_39 ?_
  refine op_iload_n (k := 3) dX12_judgeSteady_62 rfl rfl ?_
  obtain ⟨g1, h⟩ := am_gd h
  refine st_iald (k := x2.toNatClampNeg) (v := I 69 x2.toNatClampNeg) dX12_judgeSteady_63 kd_69 g1 rfl rfl ?_
  refine op_icmp_eq (tgt := 97) dX12_judgeSteady_64 (by decide) (fun c2 => ?_) (fun c2 => ?_)
  · replace h := am_ip c2 h
    refine AW.perm [1, 2, 3, 4, 5] rfl ?_
    exact t_X12_judgeSteady_97 hd hk2 hk25 h
  · replace h := am_ie c2 h
    refine op_aload_n (k := 1) dX12_judgeSteady_67 rfl rfl ?_
    refine op_iload (k := 0) dX12_judgeSteady_68 rfl ?_
    obtain ⟨w3, ew3, h⟩ := am_bd h
    refine op_callV (M' := M_X12_seatsOf) [.int s0] (S0 := []) dX12_judgeSteady_70 tw_1620 ok_X12_seatsOf tw_1622 tw_82 kd_53 cls_12 rfl rfl rfl (Nat.le_of_ble_eq_true rfl) (Nat.le_of_ble_eq_true rfl) (t_X12_seatsOf (by omega) ew3) (am_le_rf _) ?_
    rintro _ _ ⟨rfl, rfl⟩
    refine op_aload_n (k := 1) dX12_judgeSteady_73 rfl rfl ?_
    refine st_getR (z := 61) dX12_judgeSteady_74 fl_X12_46 kd_53 (by decide) rfl rr_53_21 ?_
    refine op_iconst (v := 0) dX12_judgeSteady_77 (by decide) ?_
    refine st_iald (k := 0) (v := I 61 0) dX12_judgeSteady_78 kd_61 (by decide) (by decide) rfl ?_
    refine op_icmp_le (tgt := 85) dX12_judgeSteady_79 (by decide) (fun c4 => ?_) (fun c4 => ?_)
    · replace h := am_ip c4 h
      refine op_aload_n (k := 1) dX12_judgeSteady_85 rfl rfl ?_
      refine op_iload_n (k := 3) dX12_judgeSteady_86 rfl rfl ?_
      refine op_iload_n (k := 4) dX12_judgeSteady_87 rfl rfl ?_
      refine op_iload (k := 0) dX12_judgeSteady_88 rfl ?_
      obtain ⟨w5, ew5, h⟩ := am_bd h
      refine op_callV (M' := M_X12_paysLess) [.int x2, .int x3, .int s0] (S0 := []) dX12_judgeSteady_90 tw_1718 ok_X12_paysLess tw_1720 tw_97 kd_53 cls_12 rfl rfl rfl (Nat.le_of_ble_eq_true rfl) (Nat.le_of_ble_eq_true rfl) (t_X12_paysLess (by omega) ew5) (am_le_rf _) ?_
      rintro _ _ ⟨rfl, rfl⟩
      refine op_if_eq (tgt := 97) dX12_judgeSteady_93 (by decide) (fun c6 => ?_) (fun c6 => ?_)
      · replace h := am_ip c6 h
        refine AW.perm [1, 2, 3, 4, 5] rfl ?_
        exact t_X12_judgeSteady_97 hd hk2 hk25 h
      · replace h := am_ie c6 h
        cases h
        exact (op_vret dX12_judgeSteady_96 rfl ⟨rfl, rfl⟩)
    · replace h := am_ie c4 h
      refine op_goto (tgt := 97) dX12_judgeSteady_82 (by decide) ?_
      refine AW.perm [1, 2, 3, 4, 5] rfl ?_
      exact t_X12_judgeSteady_97 hd hk2 hk25 h
set_option maxRecDepth 100000 in
set_option maxHeartbeats 4000000 in
theorem t_X12_judgeSteady_25 {l : Launch} {ρ : am_R} {n d gc gs : Nat} {k2 : (Nat → Nat → Int32) → (Nat → Nat → Int64) → Nat → Int32 → Int32 → Option ((Nat → Nat → Int32) × (Nat → Nat → Int64) × Nat)} {q : (Nat → Nat → Int32) × (Nat → Nat → Int64) × Nat} (hd : 2 * n + 14 ≤ (d + 1))
    (hk2 : ∀ (I : Nat → Nat → Int32) (J : Nat → Nat → Int64) (T : Nat) (x1 : Int32) (x2 : Int32), k2 I J T x1 x2 = some q → AW l ρ (d + 1) M_X12_judgeSteady 2 [(0, .ref 53), (1, .int x1), (2, .int x2)] [] (am_KD, gc, gs) (I, J, am_RT T) (am_KD, gc, gs) (fun v H' => v = [] ∧ H' = (q.1, q.2.1, am_RT (q.2.2))))
    : ∀ (m : Nat) (I : Nat → Nat → Int32) (J : Nat → Nat → Int64) (T : Nat) (x1 : Int32) (x2 : Int32) (x3 : Int32) (x4 : Int32), f_X12_judgeSteady_25 n k2 m I J T x1 x2 x3 x4 = some q → AW l ρ (d + 1) M_X12_judgeSteady 25 [(0, .ref 53), (1, .int x1), (2, .int x2), (3, .int x3), (4, .int x4)] [] (am_KD, gc, gs) (I, J, am_RT T) (am_KD, gc, gs) (fun v H' => v = [] ∧ H' = (q.1, q.2.1, am_RT (q.2.2))) := by
  intro m
  induction m with
  | zero =>
    intro I J T x1 x2 x3 x4 h
    rw [f_X12_judgeSteady_25] at h
    cases h
  | succ m ih =>
    intro I J T x1 x2 x3 x4 h
    rw [f_X12_judgeSteady_25] at h
    refine op_iload (k := 4) dX12_judgeSteady_25 rfl ?_
    refine op_iload_n (k := 1) dX12_judgeSteady_27 rfl rfl ?_
    refine op_icmp_gt (tgt := 103) dX12_judgeSteady_28 (by decide) (fun c1 => ?_) (fun c1 => ?_)
    · replace h := am_ip c1 h
      refine op_iinc (k := 2) (v := x2 + 1) (L' := [(2, .int (x2 + 1)), (0, .ref 53), (1, .int x1), (3, .int x3), (4, .int x4)]) dX12_judgeSteady_103 rfl rfl (by decide) rfl ?_
      refine op_goto (tgt := 2) dX12_judgeSteady_106 (by decide) ?_
      refine AW.perm [1, 2, 0] rfl ?_
      exact hk2 _ _ _ _ _ h
    · replace h := am_ie c1 h
      refine op_iload (k := 4) dX12_judgeSteady_31 rfl ?_
      refine op_iload_n (k := 1) dX12_judgeSteady_33 rfl rfl ?_
      refine op_icmp_ne (tgt := 43) dX12_judgeSteady_34 (by decide) (fun c2 => ?_) (fun c2 => ?_)
      · replace h := am_ie c2 h
        refine op_aload_n (k := 0) dX12_judgeSteady_43 rfl rfl ?_
        refine st_getR (z := 70) dX12_judgeSteady_44 fl_X12_78 kd_53 (by decide) rfl rr_53_40 ?_
        refine op_iload (k := 4) dX12_judgeSteady_47 rfl ?_
        obtain ⟨g3, h⟩ := am_gd h
        refine st_iald (k := x4.toNatClampNeg) (v := I 70 x4.toNatClampNeg) dX12_judgeSteady_49 kd_70 g3 rfl rfl ?_
        refine op_iconst (v := 1) dX12_judgeSteady_50 (by decide) ?_
        refine op_iload_n (k := 2) dX12_judgeSteady_51 rfl rfl ?_
        refine op_ishl dX12_judgeSteady_52 ?_
        refine op_ior dX12_judgeSteady_53 ?_
        exact t_X12_judgeSteady_54 hd hk2 ih h
      · replace h := am_ip c2 h
        refine op_iconst (v := 1) dX12_judgeSteady_37 (by decide) ?_
        refine op_iload_n (k := 2) dX12_judgeSteady_38 rfl rfl ?_
        refine op_ishl dX12_judgeSteady_39 ?_
        refine op_goto (tgt := 54) dX12_judgeSteady_40 (by decide) ?_
        exact t_X12_judgeSteady_54 hd hk2 ih h
set_option maxRecDepth 100000 in
set_option maxHeartbeats 4000000 in
theorem t_X12_judgeSteady_2 {l : Launch} {ρ : am_R} {n d gc gs : Nat} {q : (Nat → Nat → Int32) × (Nat → Nat → Int64) × Nat} (hd : 2 * n + 14 ≤ (d + 1))
    : ∀ (m : Nat) (I : Nat → Nat → Int32) (J : Nat → Nat → Int64) (T : Nat) (x1 : Int32) (x2 : Int32), f_X12_judgeSteady_2 n  m I J T x1 x2 = some q → AW l ρ (d + 1) M_X12_judgeSteady 2 [(0, .ref 53), (1, .int x1), (2, .int x2)] [] (am_KD, gc, gs) (I, J, am_RT T) (am_KD, gc, gs) (fun v H' => v = [] ∧ H' = (q.1, q.2.1, am_RT (q.2.2))) := by
  intro m
  induction m with
  | zero =>
    intro I J T x1 x2 h
    rw [f_X12_judgeSteady_2] at h
    cases h
  | succ m ih =>
    intro I J T x1 x2 h
    rw [f_X12_judgeSteady_2] at h
    refine op_iload_n (k := 2) dX12_judgeSteady_2 rfl rfl ?_
    refine op_aload_n (k := 0) dX12_judgeSteady_3 rfl rfl ?_
    refine st_getI (v := I 53 27) dX12_judgeSteady_4 fl_X12_297 kd_53 (by decide) rfl rfl ?_
    refine op_icmp_ge (tgt := 109) dX12_judgeSteady_7 (by decide) (fun c1 => ?_) (fun c1 => ?_)
    · replace h := am_ip c1 h
      refine op_aload_n (k := 0) dX12_judgeSteady_109 rfl rfl ?_
      refine st_getI (v := I 53 43) dX12_judgeSteady_110 fl_X12_428 kd_53 (by decide) rfl rfl ?_
      refine op_aload_n (k := 0) dX12_judgeSteady_113 rfl rfl ?_
      refine st_getI (v := I 53 42) dX12_judgeSteady_114 fl_X12_431 kd_53 (by decide) rfl rfl ?_
      refine op_icmp_ne (tgt := 128) dX12_judgeSteady_117 (by decide) (fun c2 => ?_) (fun c2 => ?_)
      · replace h := am_ie c2 h
        refine AW.perm [0] rfl ?_
        exact t_X12_judgeSteady_128 hd  h
      · replace h := am_ip c2 h
        refine op_aload_n (k := 0) dX12_judgeSteady_120 rfl rfl ?_
        refine op_aload_n (k := 0) dX12_judgeSteady_121 rfl rfl ?_
        obtain ⟨w3, ew3, h⟩ := am_bd h
        refine op_callV (M' := M_X12_digitsNow) [] (S0 := [.ref 53]) dX12_judgeSteady_122 tw_1722 ok_X12_digitsNow tw_1724 tw_98 kd_53 cls_12 rfl rfl rfl (Nat.le_of_ble_eq_true rfl) (Nat.le_of_ble_eq_true rfl) (t_X12_digitsNow (by omega) ew3) (am_le_rf _) ?_
        rintro _ _ ⟨rfl, rfl⟩
        refine st_putI dX12_judgeSteady_125 fl_X12_434 kd_53 (by decide) rfl ?_
        refine AW.perm [0] rfl ?_
        exact t_X12_judgeSteady_128 hd  h
    · replace h := am_ie c1 h
      refine op_aload_n (k := 0) dX12_judgeSteady_10 rfl rfl ?_
      refine st_getR (z := 70) dX12_judgeSteady_11 fl_X12_78 kd_53 (by decide) rfl rr_53_40 ?_
      refine op_aload_n (k := 0) dX12_judgeSteady_14 rfl rfl ?_
      refine st_getR (z := 69) dX12_judgeSteady_15 fl_X12_75 kd_53 (by decide) rfl rr_53_39 ?_
      refine op_iload_n (k := 2) dX12_judgeSteady_18 rfl rfl ?_
      obtain ⟨g4, h⟩ := am_gd h
      refine st_iald (k := x2.toNatClampNeg) (v := I 69 x2.toNatClampNeg) dX12_judgeSteady_19 kd_69 g4 rfl rfl ?_
      obtain ⟨g5, h⟩ := am_gd h
      refine st_iald (k := (I 69 x2.toNatClampNeg).toNatClampNeg) (v := I 70 ((I 69 x2.toNatClampNeg).toNatClampNeg)) dX12_judgeSteady_20 kd_70 g5 rfl rfl ?_
      refine op_istore_n (L' := [(3, .int (I 70 ((I 69 x2.toNatClampNeg).toNatClampNeg))), (0, .ref 53), (1, .int x1), (2, .int x2)]) dX12_judgeSteady_21 rfl (by decide) rfl ?_
      refine op_iconst (v := 0) dX12_judgeSteady_22 (by decide) ?_
      refine op_istore (L' := [(4, .int 0), (3, .int (I 70 ((I 69 x2.toNatClampNeg).toNatClampNeg))), (0, .ref 53), (1, .int x1), (2, .int x2)]) dX12_judgeSteady_23 (by decide) rfl ?_
      refine AW.perm [2, 3, 4, 1, 0] rfl ?_
      exact t_X12_judgeSteady_25 hd ih n _ _ _ _ _ _ _ h
set_option maxRecDepth 100000 in
set_option maxHeartbeats 4000000 in
theorem t_X12_judgeSteady_0 {l : Launch} {ρ : am_R} {n d gc gs : Nat} {I : Nat → Nat → Int32} {J : Nat → Nat → Int64} {T : Nat} {x1 : Int32} {q : (Nat → Nat → Int32) × (Nat → Nat → Int64) × Nat} (hd : 2 * n + 14 ≤ (d + 1))
    (h : f_X12_judgeSteady n  I J T x1 = some q) : AW l ρ (d + 1) M_X12_judgeSteady 0 [(0, .ref 53), (1, .int x1)] [] (am_KD, gc, gs) (I, J, am_RT T) (am_KD, gc, gs) (fun v H' => v = [] ∧ H' = (q.1, q.2.1, am_RT (q.2.2))) := by
  unfold f_X12_judgeSteady at h
  refine op_iconst (v := 0) dX12_judgeSteady_0 (by decide) ?_
  refine op_istore_n (L' := [(2, .int 0), (0, .ref 53), (1, .int x1)]) dX12_judgeSteady_1 rfl (by decide) rfl ?_
  refine AW.perm [1, 2, 0] rfl ?_
  exact t_X12_judgeSteady_2 hd  n _ _ _ _ _ h
theorem t_X12_judgeSteady {l : Launch} {ρ : am_R} {n d gc gs : Nat} {I : Nat → Nat → Int32} {J : Nat → Nat → Int64} {T : Nat} {x1 : Int32} {q : (Nat → Nat → Int32) × (Nat → Nat → Int64) × Nat} (hd : 2 * n + 14 ≤ d) (h : f_X12_judgeSteady n I J T x1 = some q) : AW l ρ d M_X12_judgeSteady 0 [(0, .ref 53), (1, .int x1)] [] (am_KD, gc, gs) (I, J, am_RT T) (am_KD, gc, gs) (fun v H' => v = [] ∧ H' = (q.1, q.2.1, am_RT (q.2.2))) := by
  obtain ⟨d, rfl⟩ : ∃ e, d = e + 1 := ⟨d - 1, by omega⟩
  exact t_X12_judgeSteady_0 hd h
def f_X12_goCoaches_119 (n : Nat) (rc_X12_goCoaches : (Nat → Nat → Int32) → (Nat → Nat → Int64) → Nat → Int32 → Int32 → Int32 → Option ((Nat → Nat → Int32) × (Nat → Nat → Int64) × Nat)) (k29 : (Nat → Nat → Int32) → (Nat → Nat → Int64) → Nat → Int32 → Int32 → Int32 → Int32 → Option ((Nat → Nat → Int32) × (Nat → Nat → Int64) × Nat)) (I : Nat → Nat → Int32) (J : Nat → Nat → Int64) (T : Nat) (x1 : Int32) (x2 : Int32) (x3 : Int32) (x4 : Int32) : Option ((Nat → Nat → Int32) × (Nat → Nat → Int64) × Nat) :=
  k29 I J T x1 x2 x3 (x4 + 1)
def f_X12_goCoaches_100 (n : Nat) (rc_X12_goCoaches : (Nat → Nat → Int32) → (Nat → Nat → Int64) → Nat → Int32 → Int32 → Int32 → Option ((Nat → Nat → Int32) × (Nat → Nat → Int64) × Nat)) (k29 : (Nat → Nat → Int32) → (Nat → Nat → Int64) → Nat → Int32 → Int32 → Int32 → Int32 → Option ((Nat → Nat → Int32) × (Nat → Nat → Int64) × Nat)) (I : Nat → Nat → Int32) (J : Nat → Nat → Int64) (T : Nat) (x1 : Int32) (x2 : Int32) (x3 : Int32) (x4 : Int32) (s1 : Int32) (s2 : Int32) : Option ((Nat → Nat → Int32) × (Nat → Nat → Int64) × Nat) :=
  (rc_X12_goCoaches I J T s1 s2 x3).bind fun w1 =>
  if ok_ix x4 7 then
   if ok_ix x4 7 then
    f_X12_goCoaches_119 n rc_X12_goCoaches k29 ((am_u w1.1 70 x4.toNatClampNeg ((w1.1 70 x4.toNatClampNeg) &&& ((1 <<< (x1 &&& 31)) ^^^ ((-1)))))) w1.2.1 w1.2.2 x1 x2 x3 x4
   else none
  else none
def f_X12_goCoaches_29 (n : Nat) (rc_X12_goCoaches : (Nat → Nat → Int32) → (Nat → Nat → Int64) → Nat → Int32 → Int32 → Int32 → Option ((Nat → Nat → Int32) × (Nat → Nat → Int64) × Nat)) : Nat → (Nat → Nat → Int32) → (Nat → Nat → Int64) → Nat → Int32 → Int32 → Int32 → Int32 → Option ((Nat → Nat → Int32) × (Nat → Nat → Int64) × Nat)
  | 0, _, _, _, _, _, _, _ => none
  | m + 1, I, J, T, x1, x2, x3, x4 =>
    if x2 < x4 then
     some (I, J, T)
    else
     if ok_ix x4 7 then
      (f_X12_seatsOf n I J T ((I 70 x4.toNatClampNeg) ||| (1 <<< (x1 &&& 31)))).bind fun w3 =>
      if w3 ≤ (I 61 0) then
       if ok_ix x4 7 then
        if ok_ix x4 7 then
         if ok_ix x1 6 then
          if x4 = x2 then
           f_X12_goCoaches_100 n rc_X12_goCoaches (f_X12_goCoaches_29 n rc_X12_goCoaches m) ((am_u (am_u I 70 x4.toNatClampNeg ((I 70 x4.toNatClampNeg) ||| (1 <<< (x1 &&& 31)))) 69 x1.toNatClampNeg x4)) J T x1 x2 x3 x4 (x1 + 1) (x2 + 1)
          else
           f_X12_goCoaches_100 n rc_X12_goCoaches (f_X12_goCoaches_29 n rc_X12_goCoaches m) ((am_u (am_u I 70 x4.toNatClampNeg ((I 70 x4.toNatClampNeg) ||| (1 <<< (x1 &&& 31)))) 69 x1.toNatClampNeg x4)) J T x1 x2 x3 x4 (x1 + 1) x2
         else none
        else none
       else none
      else
       f_X12_goCoaches_119 n rc_X12_goCoaches (f_X12_goCoaches_29 n rc_X12_goCoaches m) I J T x1 x2 x3 x4
     else none
def fb_X12_goCoaches (n : Nat) (rc_X12_goCoaches : (Nat → Nat → Int32) → (Nat → Nat → Int64) → Nat → Int32 → Int32 → Int32 → Option ((Nat → Nat → Int32) × (Nat → Nat → Int64) × Nat)) (I : Nat → Nat → Int32) (J : Nat → Nat → Int64) (T : Nat) (x1 : Int32) (x2 : Int32) (x3 : Int32) : Option ((Nat → Nat → Int32) × (Nat → Nat → Int64) × Nat) :=
  if x1 = (I 53 27) then
   if x3 = 0 then
    (f_X12_judgeCost n I J T x2).bind fun w3 =>
    some (w3, J, T)
   else
    (f_X12_judgeSteady n I J T x2).bind fun w4 =>
    some (w4.1, w4.2.1, w4.2.2)
  else
   f_X12_goCoaches_29 n rc_X12_goCoaches n I J T x1 x2 x3 0
def fx_X12_goCoaches (n : Nat) : Nat → ((Nat → Nat → Int32) → (Nat → Nat → Int64) → Nat → Int32 → Int32 → Int32 → Option ((Nat → Nat → Int32) × (Nat → Nat → Int64) × Nat))
  | 0 => (fun _ _ _ _ _ _ => none)
  | r + 1 => (fb_X12_goCoaches n (fx_X12_goCoaches n r))
def f_X12_goCoaches (n : Nat) : (Nat → Nat → Int32) → (Nat → Nat → Int64) → Nat → Int32 → Int32 → Int32 → Option ((Nat → Nat → Int32) × (Nat → Nat → Int64) × Nat) := (fx_X12_goCoaches n n)
set_option maxRecDepth 100000 in
set_option maxHeartbeats 4000000 in
theorem t_X12_goCoaches_119 {l : Launch} {ρ : am_R} {n d gc gs : Nat} {rc_X12_goCoaches : (Nat → Nat → Int32) → (Nat → Nat → Int64) → Nat → Int32 → Int32 → Int32 → Option ((Nat → Nat → Int32) × (Nat → Nat → Int64) × Nat)} {k29 : (Nat → Nat → Int32) → (Nat → Nat → Int64) → Nat → Int32 → Int32 → Int32 → Int32 → Option ((Nat → Nat → Int32) × (Nat → Nat → Int64) × Nat)} {I : Nat → Nat → Int32} {J : Nat → Nat → Int64} {T : Nat} {x1 : Int32} {x2 : Int32} {x3 : Int32} {x4 : Int32} {q : (Nat → Nat → Int32) × (Nat → Nat → Int64) × Nat} (hd : 2 * n + 15 ≤ (d + 1))
    (hr_X12_goCoaches : ∀ (I : Nat → Nat → Int32) (J : Nat → Nat → Int64) (T : Nat) (x1 : Int32) (x2 : Int32) (x3 : Int32) (q : (Nat → Nat → Int32) × (Nat → Nat → Int64) × Nat) (gc gs : Nat), rc_X12_goCoaches I J T x1 x2 x3 = some q → AW l ρ d M_X12_goCoaches 0 [(0, .ref 53), (1, .int x1), (2, .int x2), (3, .int x3)] [] (am_KD, gc, gs) (I, J, am_RT T) (am_KD, gc, gs) (fun v H' => v = [] ∧ H' = (q.1, q.2.1, am_RT (q.2.2))))
    (hk29 : ∀ (I : Nat → Nat → Int32) (J : Nat → Nat → Int64) (T : Nat) (x1 : Int32) (x2 : Int32) (x3 : Int32) (x4 : Int32), k29 I J T x1 x2 x3 x4 = some q → AW l ρ (d + 1) M_X12_goCoaches 29 [(0, .ref 53), (1, .int x1), (2, .int x2), (3, .int x3), (4, .int x4)] [] (am_KD, gc, gs) (I, J, am_RT T) (am_KD, gc, gs) (fun v H' => v = [] ∧ H' = (q.1, q.2.1, am_RT (q.2.2))))
    (h : f_X12_goCoaches_119 n rc_X12_goCoaches k29 I J T x1 x2 x3 x4 = some q) : AW l ρ (d + 1) M_X12_goCoaches 119 [(0, .ref 53), (1, .int x1), (2, .int x2), (3, .int x3), (4, .int x4)] [] (am_KD, gc, gs) (I, J, am_RT T) (am_KD, gc, gs) (fun v H' => v = [] ∧ H' = (q.1, q.2.1, am_RT (q.2.2))) := by
  unfold f_X12_goCoaches_119 at h
  refine op_iinc (k := 4) (v := x4 + 1) (L' := [(4, .int (x4 + 1)), (0, .ref 53), (1, .int x1), (2, .int x2), (3, .int x3)]) dX12_goCoaches_119 rfl rfl (by decide) rfl ?_
  refine op_goto (tgt := 29) dX12_goCoaches_122 (by decide) ?_
  refine AW.perm [1, 2, 3, 4, 0] rfl ?_
  exact hk29 _ _ _ _ _ _ _ h
set_option maxRecDepth 100000 in
set_option maxHeartbeats 4000000 in
theorem t_X12_goCoaches_100 {l : Launch} {ρ : am_R} {n d gc gs : Nat} {rc_X12_goCoaches : (Nat → Nat → Int32) → (Nat → Nat → Int64) → Nat → Int32 → Int32 → Int32 → Option ((Nat → Nat → Int32) × (Nat → Nat → Int64) × Nat)} {k29 : (Nat → Nat → Int32) → (Nat → Nat → Int64) → Nat → Int32 → Int32 → Int32 → Int32 → Option ((Nat → Nat → Int32) × (Nat → Nat → Int64) × Nat)} {I : Nat → Nat → Int32} {J : Nat → Nat → Int64} {T : Nat} {x1 : Int32} {x2 : Int32} {x3 : Int32} {x4 : Int32} {s1 : Int32} {s2 : Int32} {q : (Nat → Nat → Int32) × (Nat → Nat → Int64) × Nat} (hd : 2 * n + 15 ≤ (d + 1))
    (hr_X12_goCoaches : ∀ (I : Nat → Nat → Int32) (J : Nat → Nat → Int64) (T : Nat) (x1 : Int32) (x2 : Int32) (x3 : Int32) (q : (Nat → Nat → Int32) × (Nat → Nat → Int64) × Nat) (gc gs : Nat), rc_X12_goCoaches I J T x1 x2 x3 = some q → AW l ρ d M_X12_goCoaches 0 [(0, .ref 53), (1, .int x1), (2, .int x2), (3, .int x3)] [] (am_KD, gc, gs) (I, J, am_RT T) (am_KD, gc, gs) (fun v H' => v = [] ∧ H' = (q.1, q.2.1, am_RT (q.2.2))))
    (hk29 : ∀ (I : Nat → Nat → Int32) (J : Nat → Nat → Int64) (T : Nat) (x1 : Int32) (x2 : Int32) (x3 : Int32) (x4 : Int32), k29 I J T x1 x2 x3 x4 = some q → AW l ρ (d + 1) M_X12_goCoaches 29 [(0, .ref 53), (1, .int x1), (2, .int x2), (3, .int x3), (4, .int x4)] [] (am_KD, gc, gs) (I, J, am_RT T) (am_KD, gc, gs) (fun v H' => v = [] ∧ H' = (q.1, q.2.1, am_RT (q.2.2))))
    (h : f_X12_goCoaches_100 n rc_X12_goCoaches k29 I J T x1 x2 x3 x4 s1 s2 = some q) : AW l ρ (d + 1) M_X12_goCoaches 100 [(0, .ref 53), (1, .int x1), (2, .int x2), (3, .int x3), (4, .int x4)] [.int s2, .int s1, .ref 53] (am_KD, gc, gs) (I, J, am_RT T) (am_KD, gc, gs) (fun v H' => v = [] ∧ H' = (q.1, q.2.1, am_RT (q.2.2))) := by
  unfold f_X12_goCoaches_100 at h
  refine op_iload_n (k := 3) dX12_goCoaches_100 rfl rfl ?_
  obtain ⟨w1, ew1, h⟩ := am_bd h
  refine op_callV (M' := M_X12_goCoaches) [.int s1, .int s2, .int x3] (S0 := []) dX12_goCoaches_101 tw_1710 ok_X12_goCoaches tw_1712 tw_95 kd_53 cls_12 rfl rfl rfl (Nat.le_of_ble_eq_true rfl) (Nat.le_of_ble_eq_true rfl) (hr_X12_goCoaches _ _ _ _ _ _ _ _ _ ew1) (am_le_rf _) ?_
  rintro _ _ ⟨rfl, rfl⟩
  refine op_aload_n (k := 0) dX12_goCoaches_104 rfl rfl ?_
  refine st_getR (z := 70) dX12_goCoaches_105 fl_X12_78 kd_53 (by decide) rfl rr_53_40 ?_
  refine op_iload (k := 4) dX12_goCoaches_108 rfl ?_
  refine op_dup2 dX12_goCoaches_110 rfl rfl ?_
  obtain ⟨g2, h⟩ := am_gd h
  refine st_iald (k := x4.toNatClampNeg) (v := w1.1 70 x4.toNatClampNeg) dX12_goCoaches_111 kd_70 g2 rfl rfl ?_
  refine op_iconst (v := 1) dX12_goCoaches_112 (by decide) ?_
  refine op_iload_n (k := 1) dX12_goCoaches_113 rfl rfl ?_
  refine op_ishl dX12_goCoaches_114 ?_
  refine op_iconst (v := (-1)) dX12_goCoaches_115 (by decide) ?_
  refine op_ixor dX12_goCoaches_116 ?_
  refine op_iand dX12_goCoaches_117 ?_
  obtain ⟨g3, h⟩ := am_gd h
  refine st_iast (k := x4.toNatClampNeg) dX12_goCoaches_118 kd_70 g3 rfl ?_
  exact t_X12_goCoaches_119 hd hr_X12_goCoaches hk29 h
set_option maxRecDepth 100000 in
set_option maxHeartbeats 4000000 in
theorem t_X12_goCoaches_29 {l : Launch} {ρ : am_R} {n d gc gs : Nat} {rc_X12_goCoaches : (Nat → Nat → Int32) → (Nat → Nat → Int64) → Nat → Int32 → Int32 → Int32 → Option ((Nat → Nat → Int32) × (Nat → Nat → Int64) × Nat)} {q : (Nat → Nat → Int32) × (Nat → Nat → Int64) × Nat} (hd : 2 * n + 15 ≤ (d + 1))
    (hr_X12_goCoaches : ∀ (I : Nat → Nat → Int32) (J : Nat → Nat → Int64) (T : Nat) (x1 : Int32) (x2 : Int32) (x3 : Int32) (q : (Nat → Nat → Int32) × (Nat → Nat → Int64) × Nat) (gc gs : Nat), rc_X12_goCoaches I J T x1 x2 x3 = some q → AW l ρ d M_X12_goCoaches 0 [(0, .ref 53), (1, .int x1), (2, .int x2), (3, .int x3)] [] (am_KD, gc, gs) (I, J, am_RT T) (am_KD, gc, gs) (fun v H' => v = [] ∧ H' = (q.1, q.2.1, am_RT (q.2.2))))
    : ∀ (m : Nat) (I : Nat → Nat → Int32) (J : Nat → Nat → Int64) (T : Nat) (x1 : Int32) (x2 : Int32) (x3 : Int32) (x4 : Int32), f_X12_goCoaches_29 n rc_X12_goCoaches m I J T x1 x2 x3 x4 = some q → AW l ρ (d + 1) M_X12_goCoaches 29 [(0, .ref 53), (1, .int x1), (2, .int x2), (3, .int x3), (4, .int x4)] [] (am_KD, gc, gs) (I, J, am_RT T) (am_KD, gc, gs) (fun v H' => v = [] ∧ H' = (q.1, q.2.1, am_RT (q.2.2))) := by
  intro m
  induction m with
  | zero =>
    intro I J T x1 x2 x3 x4 h
    rw [f_X12_goCoaches_29] at h
    cases h
  | succ m ih =>
    intro I J T x1 x2 x3 x4 h
    rw [f_X12_goCoaches_29] at h
    refine op_iload (k := 4) dX12_goCoaches_29 rfl ?_
    refine op_iload_n (k := 2) dX12_goCoaches_31 rfl rfl ?_
    refine op_icmp_gt (tgt := 125) dX12_goCoaches_32 (by decide) (fun c1 => ?_) (fun c1 => ?_)
    · replace h := am_ip c1 h
      cases h
      exact (op_vret dX12_goCoaches_125 rfl ⟨rfl, rfl⟩)
    · replace h := am_ie c1 h
      refine op_aload_n (k := 0) dX12_goCoaches_35 rfl rfl ?_
      refine op_aload_n (k := 0) dX12_goCoaches_36 rfl rfl ?_
      refine st_getR (z := 70) dX12_goCoaches_37 fl_X12_78 kd_53 (by decide) rfl rr_53_40 ?_
      refine op_iload (k := 4) dX12_goCoaches_40 rfl ?_
      obtain ⟨g2, h⟩ := am_gd h
      refine st_iald (k := x4.toNatClampNeg) (v := I 70 x4.toNatClampNeg) dX12_goCoaches_42 kd_70 g2 rfl rfl ?_
      refine op_iconst (v := 1) dX12_goCoaches_43 (by decide) ?_
      refine op_iload_n (k := 1) dX12_goCoaches_44 rfl rfl ?_
      refine op_ishl dX12_goCoaches_45 ?_
      refine op_ior dX12_goCoaches_46 ?_
      obtain ⟨w3, ew3, h⟩ := am_bd h
      refine op_callV (M' := M_X12_seatsOf) [.int ((I 70 x4.toNatClampNeg) ||| (1 <<< (x1 &&& 31)))] (S0 := []) dX12_goCoaches_47 tw_1620 ok_X12_seatsOf tw_1622 tw_82 kd_53 cls_12 rfl rfl rfl (Nat.le_of_ble_eq_true rfl) (Nat.le_of_ble_eq_true rfl) (t_X12_seatsOf (by omega) ew3) (am_le_rf _) ?_
      rintro _ _ ⟨rfl, rfl⟩
      refine op_aload_n (k := 0) dX12_goCoaches_50 rfl rfl ?_
      refine st_getR (z := 61) dX12_goCoaches_51 fl_X12_46 kd_53 (by decide) rfl rr_53_21 ?_
      refine op_iconst (v := 0) dX12_goCoaches_54 (by decide) ?_
      refine st_iald (k := 0) (v := I 61 0) dX12_goCoaches_55 kd_61 (by decide) (by decide) rfl ?_
      refine op_icmp_le (tgt := 62) dX12_goCoaches_56 (by decide) (fun c4 => ?_) (fun c4 => ?_)
      · replace h := am_ip c4 h
        refine op_aload_n (k := 0) dX12_goCoaches_62 rfl rfl ?_
        refine st_getR (z := 70) dX12_goCoaches_63 fl_X12_78 kd_53 (by decide) rfl rr_53_40 ?_
        refine op_iload (k := 4) dX12_goCoaches_66 rfl ?_
        refine op_dup2 dX12_goCoaches_68 rfl rfl ?_
        obtain ⟨g5, h⟩ := am_gd h
        refine st_iald (k := x4.toNatClampNeg) (v := I 70 x4.toNatClampNeg) dX12_goCoaches_69 kd_70 g5 rfl rfl ?_
        refine op_iconst (v := 1) dX12_goCoaches_70 (by decide) ?_
        refine op_iload_n (k := 1) dX12_goCoaches_71 rfl rfl ?_
        refine op_ishl dX12_goCoaches_72 ?_
        refine op_ior dX12_goCoaches_73 ?_
        obtain ⟨g6, h⟩ := am_gd h
        refine st_iast (k := x4.toNatClampNeg) dX12_goCoaches_74 kd_70 g6 rfl ?_
        refine op_aload_n (k := 0) dX12_goCoaches_75 rfl rfl ?_
        refine st_getR (z := 69) dX12_goCoaches_76 fl_X12_75 kd_53 (by decide) rfl rr_53_39 ?_
        refine op_iload_n (k := 1) dX12_goCoaches_79 rfl rfl ?_
        refine op_iload (k := 4) dX12_goCoaches_80 rfl ?_
        obtain ⟨g7, h⟩ := am_gd h
        refine st_iast (k := x1.toNatClampNeg) dX12_goCoaches_82 kd_69 g7 rfl ?_
        refine op_aload_n (k := 0) dX12_goCoaches_83 rfl rfl ?_
        refine op_iload_n (k := 1) dX12_goCoaches_84 rfl rfl ?_
        refine op_iconst (v := 1) dX12_goCoaches_85 (by decide) ?_
        refine op_iadd dX12_goCoaches_86 ?_
        refine op_iload (k := 4) dX12_goCoaches_87 rfl ?_
        refine op_iload_n (k := 2) dX12_goCoaches_89 rfl rfl ?_
        refine op_icmp_ne (tgt := 99) dX12_goCoaches_90 (by decide) (fun c8 => ?_) (fun c8 => ?_)
        · replace h := am_ie c8 h
          refine op_iload_n (k := 2) dX12_goCoaches_99 rfl rfl ?_
          exact t_X12_goCoaches_100 hd hr_X12_goCoaches ih h
        · replace h := am_ip c8 h
          refine op_iload_n (k := 2) dX12_goCoaches_93 rfl rfl ?_
          refine op_iconst (v := 1) dX12_goCoaches_94 (by decide) ?_
          refine op_iadd dX12_goCoaches_95 ?_
          refine op_goto (tgt := 100) dX12_goCoaches_96 (by decide) ?_
          exact t_X12_goCoaches_100 hd hr_X12_goCoaches ih h
      · replace h := am_ie c4 h
        refine op_goto (tgt := 119) dX12_goCoaches_59 (by decide) ?_
        exact t_X12_goCoaches_119 hd hr_X12_goCoaches ih h
set_option maxRecDepth 100000 in
set_option maxHeartbeats 4000000 in
theorem t_X12_goCoaches_0 {l : Launch} {ρ : am_R} {n d gc gs : Nat} {rc_X12_goCoaches : (Nat → Nat → Int32) → (Nat → Nat → Int64) → Nat → Int32 → Int32 → Int32 → Option ((Nat → Nat → Int32) × (Nat → Nat → Int64) × Nat)} {I : Nat → Nat → Int32} {J : Nat → Nat → Int64} {T : Nat} {x1 : Int32} {x2 : Int32} {x3 : Int32} {q : (Nat → Nat → Int32) × (Nat → Nat → Int64) × Nat} (hd : 2 * n + 15 ≤ (d + 1))
    (hr_X12_goCoaches : ∀ (I : Nat → Nat → Int32) (J : Nat → Nat → Int64) (T : Nat) (x1 : Int32) (x2 : Int32) (x3 : Int32) (q : (Nat → Nat → Int32) × (Nat → Nat → Int64) × Nat) (gc gs : Nat), rc_X12_goCoaches I J T x1 x2 x3 = some q → AW l ρ d M_X12_goCoaches 0 [(0, .ref 53), (1, .int x1), (2, .int x2), (3, .int x3)] [] (am_KD, gc, gs) (I, J, am_RT T) (am_KD, gc, gs) (fun v H' => v = [] ∧ H' = (q.1, q.2.1, am_RT (q.2.2))))
    (h : fb_X12_goCoaches n rc_X12_goCoaches I J T x1 x2 x3 = some q) : AW l ρ (d + 1) M_X12_goCoaches 0 [(0, .ref 53), (1, .int x1), (2, .int x2), (3, .int x3)] [] (am_KD, gc, gs) (I, J, am_RT T) (am_KD, gc, gs) (fun v H' => v = [] ∧ H' = (q.1, q.2.1, am_RT (q.2.2))) := by
  unfold fb_X12_goCoaches at h
  refine op_iload_n (k := 1) dX12_goCoaches_0 rfl rfl ?_
  refine op_aload_n (k := 0) dX12_goCoaches_1 rfl rfl ?_
  refine st_getI (v := I 53 27) dX12_goCoaches_2 fl_X12_297 kd_53 (by decide) rfl rfl ?_
  refine op_icmp_ne (tgt := 26) dX12_goCoaches_5 (by decide) (fun c1 => ?_) (fun c1 => ?_)
  · replace h := am_ie c1 h
    refine op_iconst (v := 0) dX12_goCoaches_26 (by decide) ?_
    refine op_istore (L' := [(4, .int 0), (0, .ref 53), (1, .int x1), (2, .int x2), (3, .int x3)]) dX12_goCoaches_27 (by decide) rfl ?_
    refine AW.perm [1, 2, 3, 4, 0] rfl ?_
    exact t_X12_goCoaches_29 hd hr_X12_goCoaches n _ _ _ _ _ _ _ h
  · replace h := am_ip c1 h
    refine op_iload_n (k := 3) dX12_goCoaches_8 rfl rfl ?_
    refine op_if_eq (tgt := 20) dX12_goCoaches_9 (by decide) (fun c2 => ?_) (fun c2 => ?_)
    · replace h := am_ip c2 h
      refine op_aload_n (k := 0) dX12_goCoaches_20 rfl rfl ?_
      refine op_iload_n (k := 2) dX12_goCoaches_21 rfl rfl ?_
      obtain ⟨w3, ew3, h⟩ := am_bd h
      refine op_callV (M' := M_X12_judgeCost) [.int x2] (S0 := []) dX12_goCoaches_22 tw_1726 ok_X12_judgeCost tw_1728 tw_99 kd_53 cls_12 rfl rfl rfl (Nat.le_of_ble_eq_true rfl) (Nat.le_of_ble_eq_true rfl) (t_X12_judgeCost (by omega) ew3) (am_le_rf _) ?_
      rintro _ _ ⟨rfl, rfl⟩
      cases h
      exact (op_vret dX12_goCoaches_25 rfl ⟨rfl, rfl⟩)
    · replace h := am_ie c2 h
      refine op_aload_n (k := 0) dX12_goCoaches_12 rfl rfl ?_
      refine op_iload_n (k := 2) dX12_goCoaches_13 rfl rfl ?_
      obtain ⟨w4, ew4, h⟩ := am_bd h
      refine op_callV (M' := M_X12_judgeSteady) [.int x2] (S0 := []) dX12_goCoaches_14 tw_1714 ok_X12_judgeSteady tw_1716 tw_96 kd_53 cls_12 rfl rfl rfl (Nat.le_of_ble_eq_true rfl) (Nat.le_of_ble_eq_true rfl) (t_X12_judgeSteady (by omega) ew4) (am_le_rf _) ?_
      rintro _ _ ⟨rfl, rfl⟩
      refine op_goto (tgt := 25) dX12_goCoaches_17 (by decide) ?_
      cases h
      exact (op_vret dX12_goCoaches_25 rfl ⟨rfl, rfl⟩)
set_option maxRecDepth 100000 in
set_option maxHeartbeats 4000000 in
theorem tx_X12_goCoaches {l : Launch} {ρ : am_R} (n : Nat) : ∀ (r d : Nat), r + 2 * n + 15 ≤ d → (∀ (I : Nat → Nat → Int32) (J : Nat → Nat → Int64) (T : Nat) (x1 : Int32) (x2 : Int32) (x3 : Int32) (q : (Nat → Nat → Int32) × (Nat → Nat → Int64) × Nat) (gc gs : Nat), (fx_X12_goCoaches n r) I J T x1 x2 x3 = some q → AW l ρ d M_X12_goCoaches 0 [(0, .ref 53), (1, .int x1), (2, .int x2), (3, .int x3)] [] (am_KD, gc, gs) (I, J, am_RT T) (am_KD, gc, gs) (fun v H' => v = [] ∧ H' = (q.1, q.2.1, am_RT (q.2.2)))) := by
  intro r
  induction r with
  | zero =>
    intro d _
    exact (fun _ _ _ _ _ _ q _ _ h => by have h : none = some q := h; cases h)
  | succ r ih =>
    intro d hd
    obtain ⟨d, rfl⟩ : ∃ e, d = e + 1 := ⟨d - 1, by omega⟩
    have ih := ih d (by omega)
    exact (fun _ _ _ _ _ _ q _ _ h => t_X12_goCoaches_0 (rc_X12_goCoaches := (fx_X12_goCoaches n r)) (by omega) (ih) h)
theorem t_X12_goCoaches {l : Launch} {ρ : am_R} {n d gc gs : Nat} {I : Nat → Nat → Int32} {J : Nat → Nat → Int64} {T : Nat} {x1 : Int32} {x2 : Int32} {x3 : Int32} {q : (Nat → Nat → Int32) × (Nat → Nat → Int64) × Nat} (hd : 3 * n + 15 ≤ d) (h : f_X12_goCoaches n I J T x1 x2 x3 = some q) : AW l ρ d M_X12_goCoaches 0 [(0, .ref 53), (1, .int x1), (2, .int x2), (3, .int x3)] [] (am_KD, gc, gs) (I, J, am_RT T) (am_KD, gc, gs) (fun v H' => v = [] ∧ H' = (q.1, q.2.1, am_RT (q.2.2))) := (tx_X12_goCoaches n n d (by omega)) _ _ _ _ _ _ _ _ _ h
def f_X12_hasRoom (n : Nat) (I : Nat → Nat → Int32) (J : Nat → Nat → Int64) (T : Nat) (x1 : Int32) : Option (Int32) :=
  (f_X12_seatsOf n I J T (1 <<< (x1 &&& 31))).bind fun w1 =>
  if (I 61 0) < w1 then
   some (0)
  else
   some (1)
set_option maxRecDepth 100000 in
set_option maxHeartbeats 4000000 in
theorem t_X12_hasRoom_0 {l : Launch} {ρ : am_R} {n d gc gs : Nat} {I : Nat → Nat → Int32} {J : Nat → Nat → Int64} {T : Nat} {x1 : Int32} {q : Int32} (hd : 0 * n + 2 ≤ (d + 1))
    (h : f_X12_hasRoom n  I J T x1 = some q) : AW l ρ (d + 1) M_X12_hasRoom 0 [(0, .ref 53), (1, .int x1)] [] (am_KD, gc, gs) (I, J, am_RT T) (am_KD, gc, gs) (fun v H' => v = [.int q] ∧ H' = (I, J, am_RT T)) := by
  unfold f_X12_hasRoom at h
  refine op_aload_n (k := 0) dX12_hasRoom_0 rfl rfl ?_
  refine op_iconst (v := 1) dX12_hasRoom_1 (by decide) ?_
  refine op_iload_n (k := 1) dX12_hasRoom_2 rfl rfl ?_
  refine op_ishl dX12_hasRoom_3 ?_
  obtain ⟨w1, ew1, h⟩ := am_bd h
  refine op_callV (M' := M_X12_seatsOf) [.int (1 <<< (x1 &&& 31))] (S0 := []) dX12_hasRoom_4 tw_1620 ok_X12_seatsOf tw_1622 tw_82 kd_53 cls_12 rfl rfl rfl (Nat.le_of_ble_eq_true rfl) (Nat.le_of_ble_eq_true rfl) (t_X12_seatsOf (by omega) ew1) (am_le_rf _) ?_
  rintro _ _ ⟨rfl, rfl⟩
  refine op_aload_n (k := 0) dX12_hasRoom_7 rfl rfl ?_
  refine st_getR (z := 61) dX12_hasRoom_8 fl_X12_46 kd_53 (by decide) rfl rr_53_21 ?_
  refine op_iconst (v := 0) dX12_hasRoom_11 (by decide) ?_
  refine st_iald (k := 0) (v := I 61 0) dX12_hasRoom_12 kd_61 (by decide) (by decide) rfl ?_
  refine op_icmp_gt (tgt := 20) dX12_hasRoom_13 (by decide) (fun c2 => ?_) (fun c2 => ?_)
  · replace h := am_ip c2 h
    refine op_iconst (v := 0) dX12_hasRoom_20 (by decide) ?_
    cases h
    exact (op_iret dX12_hasRoom_21 rfl (by decide) ⟨rfl, rfl⟩)
  · replace h := am_ie c2 h
    refine op_iconst (v := 1) dX12_hasRoom_16 (by decide) ?_
    refine op_goto (tgt := 21) dX12_hasRoom_17 (by decide) ?_
    cases h
    exact (op_iret dX12_hasRoom_21 rfl (by decide) ⟨rfl, rfl⟩)
theorem t_X12_hasRoom {l : Launch} {ρ : am_R} {n d gc gs : Nat} {I : Nat → Nat → Int32} {J : Nat → Nat → Int64} {T : Nat} {x1 : Int32} {q : Int32} (hd : 0 * n + 2 ≤ d) (h : f_X12_hasRoom n I J T x1 = some q) : AW l ρ d M_X12_hasRoom 0 [(0, .ref 53), (1, .int x1)] [] (am_KD, gc, gs) (I, J, am_RT T) (am_KD, gc, gs) (fun v H' => v = [.int q] ∧ H' = (I, J, am_RT T)) := by
  obtain ⟨d, rfl⟩ : ∃ e, d = e + 1 := ⟨d - 1, by omega⟩
  exact t_X12_hasRoom_0 hd h
def f_X12_coaches_26 (n : Nat) : Nat → (Nat → Nat → Int32) → (Nat → Nat → Int64) → Nat → Int32 → Int32 → Option (Int32 × (Nat → Nat → Int32) × (Nat → Nat → Int64) × Nat)
  | 0, _, _, _, _, _ => none
  | m + 1, I, J, T, x1, x2 =>
    if (I 53 27) ≤ x2 then
     (f_X12_beginCoaches n I J T).bind fun w2 =>
     (f_X12_goCoaches n ((am_u w2 53 37 ((-1)))) J T 0 0 0).bind fun w3 =>
     if x1 = 0 then
      some (w3.1 53 37, w3.1, w3.2.1, w3.2.2)
     else
      some (w3.1 53 38, w3.1, w3.2.1, w3.2.2)
    else
     (f_X12_hasRoom n I J T x2).bind fun w5 =>
     if w5 = 0 then
      some ((-1), I, J, T)
     else
      f_X12_coaches_26 n  m I J T x1 (x2 + 1)
def f_X12_coaches (n : Nat) (I : Nat → Nat → Int32) (J : Nat → Nat → Int64) (T : Nat) (x1 : Int32) : Option (Int32 × (Nat → Nat → Int32) × (Nat → Nat → Int64) × Nat) :=
  if (I 53 27) = 0 then
   some ((-1), (am_u I 53 0 0), J, T)
  else
   (f_X12_isIn n ((am_u I 53 0 0)) J T x1.toInt64 0 1).bind fun w2 =>
   if w2 = 0 then
    some ((-1), (am_u I 53 0 0), J, T)
   else
    f_X12_coaches_26 n  n ((am_u I 53 0 0)) J T x1 0
set_option maxRecDepth 100000 in
set_option maxHeartbeats 4000000 in
theorem t_X12_coaches_26 {l : Launch} {ρ : am_R} {n d gc gs : Nat} {q : Int32 × (Nat → Nat → Int32) × (Nat → Nat → Int64) × Nat} (hd : 3 * n + 16 ≤ (d + 1))
    : ∀ (m : Nat) (I : Nat → Nat → Int32) (J : Nat → Nat → Int64) (T : Nat) (x1 : Int32) (x2 : Int32), f_X12_coaches_26 n  m I J T x1 x2 = some q → AW l ρ (d + 1) M_X12_coaches 26 [(0, .ref 53), (1, .int x1), (2, .int x2)] [] (am_KD, gc, gs) (I, J, am_RT T) (am_KD, gc, gs) (fun v H' => v = [.int q.1] ∧ H' = (q.2.1, q.2.2.1, am_RT (q.2.2.2))) := by
  intro m
  induction m with
  | zero =>
    intro I J T x1 x2 h
    rw [f_X12_coaches_26] at h
    cases h
  | succ m ih =>
    intro I J T x1 x2 h
    rw [f_X12_coaches_26] at h
    refine op_iload_n (k := 2) dX12_coaches_26 rfl rfl ?_
    refine op_aload_n (k := 0) dX12_coaches_27 rfl rfl ?_
    refine st_getI (v := I 53 27) dX12_coaches_28 fl_X12_297 kd_53 (by decide) rfl rfl ?_
    refine op_icmp_ge (tgt := 50) dX12_coaches_31 (by decide) (fun c1 => ?_) (fun c1 => ?_)
    · replace h := am_ip c1 h
      refine op_aload_n (k := 0) dX12_coaches_50 rfl rfl ?_
      obtain ⟨w2, ew2, h⟩ := am_bd h
      refine op_callV (M' := M_X12_beginCoaches) [] (S0 := []) dX12_coaches_51 tw_1706 ok_X12_beginCoaches tw_1708 tw_94 kd_53 cls_12 rfl rfl rfl (Nat.le_of_ble_eq_true rfl) (Nat.le_of_ble_eq_true rfl) (t_X12_beginCoaches (by omega) ew2) (am_le_rf _) ?_
      rintro _ _ ⟨rfl, rfl⟩
      refine op_aload_n (k := 0) dX12_coaches_54 rfl rfl ?_
      refine op_iconst (v := (-1)) dX12_coaches_55 (by decide) ?_
      refine st_putI dX12_coaches_56 fl_X12_399 kd_53 (by decide) rfl ?_
      refine op_aload_n (k := 0) dX12_coaches_59 rfl rfl ?_
      refine op_iconst (v := 0) dX12_coaches_60 (by decide) ?_
      refine op_iconst (v := 0) dX12_coaches_61 (by decide) ?_
      refine op_iconst (v := 0) dX12_coaches_62 (by decide) ?_
      obtain ⟨w3, ew3, h⟩ := am_bd h
      refine op_callV (M' := M_X12_goCoaches) [.int 0, .int 0, .int 0] (S0 := []) dX12_coaches_63 tw_1710 ok_X12_goCoaches tw_1712 tw_95 kd_53 cls_12 rfl rfl rfl (Nat.le_of_ble_eq_true rfl) (Nat.le_of_ble_eq_true rfl) (t_X12_goCoaches (by omega) ew3) (am_le_rf _) ?_
      rintro _ _ ⟨rfl, rfl⟩
      refine op_iload_n (k := 1) dX12_coaches_66 rfl rfl ?_
      refine op_if_ne (tgt := 77) dX12_coaches_67 (by decide) (fun c4 => ?_) (fun c4 => ?_)
      · replace h := am_ie c4 h
        refine op_aload_n (k := 0) dX12_coaches_77 rfl rfl ?_
        refine st_getI (v := w3.1 53 38) dX12_coaches_78 fl_X12_402 kd_53 (by decide) rfl rfl ?_
        cases h
        exact (op_iret dX12_coaches_81 rfl rfl ⟨rfl, rfl⟩)
      · replace h := am_ip c4 h
        refine op_aload_n (k := 0) dX12_coaches_70 rfl rfl ?_
        refine st_getI (v := w3.1 53 37) dX12_coaches_71 fl_X12_399 kd_53 (by decide) rfl rfl ?_
        refine op_goto (tgt := 81) dX12_coaches_74 (by decide) ?_
        cases h
        exact (op_iret dX12_coaches_81 rfl rfl ⟨rfl, rfl⟩)
    · replace h := am_ie c1 h
      refine op_aload_n (k := 0) dX12_coaches_34 rfl rfl ?_
      refine op_iload_n (k := 2) dX12_coaches_35 rfl rfl ?_
      obtain ⟨w5, ew5, h⟩ := am_bd h
      refine op_callV (M' := M_X12_hasRoom) [.int x2] (S0 := []) dX12_coaches_36 tw_1702 ok_X12_hasRoom tw_1704 tw_93 kd_53 cls_12 rfl rfl rfl (Nat.le_of_ble_eq_true rfl) (Nat.le_of_ble_eq_true rfl) (t_X12_hasRoom (by omega) ew5) (am_le_rf _) ?_
      rintro _ _ ⟨rfl, rfl⟩
      refine op_if_ne (tgt := 44) dX12_coaches_39 (by decide) (fun c6 => ?_) (fun c6 => ?_)
      · replace h := am_ie c6 h
        refine op_iinc (k := 2) (v := x2 + 1) (L' := [(2, .int (x2 + 1)), (0, .ref 53), (1, .int x1)]) dX12_coaches_44 rfl rfl (by decide) rfl ?_
        refine op_goto (tgt := 26) dX12_coaches_47 (by decide) ?_
        refine AW.perm [1, 2, 0] rfl ?_
        exact ih _ _ _ _ _ h
      · replace h := am_ip c6 h
        refine op_iconst (v := (-1)) dX12_coaches_42 (by decide) ?_
        cases h
        exact (op_iret dX12_coaches_43 rfl rfl ⟨rfl, rfl⟩)
set_option maxRecDepth 100000 in
set_option maxHeartbeats 4000000 in
theorem t_X12_coaches_0 {l : Launch} {ρ : am_R} {n d gc gs : Nat} {I : Nat → Nat → Int32} {J : Nat → Nat → Int64} {T : Nat} {x1 : Int32} {q : Int32 × (Nat → Nat → Int32) × (Nat → Nat → Int64) × Nat} (hd : 3 * n + 16 ≤ (d + 1))
    (h : f_X12_coaches n  I J T x1 = some q) : AW l ρ (d + 1) M_X12_coaches 0 [(0, .ref 53), (1, .int x1)] [] (am_KD, gc, gs) (I, J, am_RT T) (am_KD, gc, gs) (fun v H' => v = [.int q.1] ∧ H' = (q.2.1, q.2.2.1, am_RT (q.2.2.2))) := by
  unfold f_X12_coaches at h
  refine op_aload_n (k := 0) dX12_coaches_0 rfl rfl ?_
  refine op_iconst (v := 0) dX12_coaches_1 (by decide) ?_
  refine st_putI dX12_coaches_2 fl_X12_108 kd_53 (by decide) rfl ?_
  refine op_aload_n (k := 0) dX12_coaches_5 rfl rfl ?_
  refine st_getI (v := I 53 27) dX12_coaches_6 fl_X12_297 kd_53 (by decide) rfl rfl ?_
  refine op_if_eq (tgt := 22) dX12_coaches_9 (by decide) (fun c1 => ?_) (fun c1 => ?_)
  · replace h := am_ip c1 h
    refine op_iconst (v := (-1)) dX12_coaches_22 (by decide) ?_
    cases h
    exact (op_iret dX12_coaches_23 rfl rfl ⟨rfl, rfl⟩)
  · replace h := am_ie c1 h
    refine op_iload_n (k := 1) dX12_coaches_12 rfl rfl ?_
    refine op_i2l dX12_coaches_13 ?_
    refine op_lconst (v := 0) dX12_coaches_14 (by decide) ?_
    refine op_lconst (v := 1) dX12_coaches_15 (by decide) ?_
    obtain ⟨w2, ew2, h⟩ := am_bd h
    refine op_callS (M' := M_X12_isIn) [.long x1.toInt64, .long 0, .long 1] (S0 := []) dX12_coaches_16 tw_1390 ok_X12_isIn tw_1391 rfl rfl (Nat.le_of_ble_eq_true rfl) (Nat.le_of_ble_eq_true rfl) (t_X12_isIn (by omega) ew2) (am_le_rf _) ?_
    rintro _ _ ⟨rfl, rfl⟩
    refine op_if_ne (tgt := 24) dX12_coaches_19 (by decide) (fun c3 => ?_) (fun c3 => ?_)
    · replace h := am_ie c3 h
      refine op_iconst (v := 0) dX12_coaches_24 (by decide) ?_
      refine op_istore_n (L' := [(2, .int 0), (0, .ref 53), (1, .int x1)]) dX12_coaches_25 rfl (by decide) rfl ?_
      refine AW.perm [1, 2, 0] rfl ?_
      exact t_X12_coaches_26 hd  n _ _ _ _ _ h
    · replace h := am_ip c3 h
      refine op_iconst (v := (-1)) dX12_coaches_22 (by decide) ?_
      cases h
      exact (op_iret dX12_coaches_23 rfl rfl ⟨rfl, rfl⟩)
theorem t_X12_coaches {l : Launch} {ρ : am_R} {n d gc gs : Nat} {I : Nat → Nat → Int32} {J : Nat → Nat → Int64} {T : Nat} {x1 : Int32} {q : Int32 × (Nat → Nat → Int32) × (Nat → Nat → Int64) × Nat} (hd : 3 * n + 16 ≤ d) (h : f_X12_coaches n I J T x1 = some q) : AW l ρ d M_X12_coaches 0 [(0, .ref 53), (1, .int x1)] [] (am_KD, gc, gs) (I, J, am_RT T) (am_KD, gc, gs) (fun v H' => v = [.int q.1] ∧ H' = (q.2.1, q.2.2.1, am_RT (q.2.2.2))) := by
  obtain ⟨d, rfl⟩ : ∃ e, d = e + 1 := ⟨d - 1, by omega⟩
  exact t_X12_coaches_0 hd h
def f_X12_isLaw (n : Nat) (I : Nat → Nat → Int32) (J : Nat → Nat → Int64) (T : Nat) (x1 : Int32) : Option (Int32) :=
  if (I 53 27) ≤ 0 then
   some (0)
  else
   (f_X12_isIn n I J T x1.toInt64 0 ((2 + (I 53 7)).toInt64)).bind fun w2 =>
   if w2 = 0 then
    some (0)
   else
    some (1)
set_option maxRecDepth 100000 in
set_option maxHeartbeats 4000000 in
theorem t_X12_isLaw_0 {l : Launch} {ρ : am_R} {n d gc gs : Nat} {I : Nat → Nat → Int32} {J : Nat → Nat → Int64} {T : Nat} {x1 : Int32} {q : Int32} (hd : 0 * n + 1 ≤ (d + 1))
    (h : f_X12_isLaw n  I J T x1 = some q) : AW l ρ (d + 1) M_X12_isLaw 0 [(0, .ref 53), (1, .int x1)] [] (am_KD, gc, gs) (I, J, am_RT T) (am_KD, gc, gs) (fun v H' => v = [.int q] ∧ H' = (I, J, am_RT T)) := by
  unfold f_X12_isLaw at h
  refine op_aload_n (k := 0) dX12_isLaw_0 rfl rfl ?_
  refine st_getI (v := I 53 27) dX12_isLaw_1 fl_X12_297 kd_53 (by decide) rfl rfl ?_
  refine op_if_le (tgt := 27) dX12_isLaw_4 (by decide) (fun c1 => ?_) (fun c1 => ?_)
  · replace h := am_ip c1 h
    refine op_iconst (v := 0) dX12_isLaw_27 (by decide) ?_
    cases h
    exact (op_iret dX12_isLaw_28 rfl (by decide) ⟨rfl, rfl⟩)
  · replace h := am_ie c1 h
    refine op_iload_n (k := 1) dX12_isLaw_7 rfl rfl ?_
    refine op_i2l dX12_isLaw_8 ?_
    refine op_lconst (v := 0) dX12_isLaw_9 (by decide) ?_
    refine op_iconst (v := 2) dX12_isLaw_10 (by decide) ?_
    refine op_aload_n (k := 0) dX12_isLaw_11 rfl rfl ?_
    refine st_getI (v := I 53 7) dX12_isLaw_12 fl_X12_289 kd_53 (by decide) rfl rfl ?_
    refine op_iadd dX12_isLaw_15 ?_
    refine op_i2l dX12_isLaw_16 ?_
    obtain ⟨w2, ew2, h⟩ := am_bd h
    refine op_callS (M' := M_X12_isIn) [.long x1.toInt64, .long 0, .long ((2 + (I 53 7)).toInt64)] (S0 := []) dX12_isLaw_17 tw_1390 ok_X12_isIn tw_1391 rfl rfl (Nat.le_of_ble_eq_true rfl) (Nat.le_of_ble_eq_true rfl) (t_X12_isIn (by omega) ew2) (am_le_rf _) ?_
    rintro _ _ ⟨rfl, rfl⟩
    refine op_if_eq (tgt := 27) dX12_isLaw_20 (by decide) (fun c3 => ?_) (fun c3 => ?_)
    · replace h := am_ip c3 h
      refine op_iconst (v := 0) dX12_isLaw_27 (by decide) ?_
      cases h
      exact (op_iret dX12_isLaw_28 rfl (by decide) ⟨rfl, rfl⟩)
    · replace h := am_ie c3 h
      refine op_iconst (v := 1) dX12_isLaw_23 (by decide) ?_
      refine op_goto (tgt := 28) dX12_isLaw_24 (by decide) ?_
      cases h
      exact (op_iret dX12_isLaw_28 rfl (by decide) ⟨rfl, rfl⟩)
theorem t_X12_isLaw {l : Launch} {ρ : am_R} {n d gc gs : Nat} {I : Nat → Nat → Int32} {J : Nat → Nat → Int64} {T : Nat} {x1 : Int32} {q : Int32} (hd : 0 * n + 1 ≤ d) (h : f_X12_isLaw n I J T x1 = some q) : AW l ρ d M_X12_isLaw 0 [(0, .ref 53), (1, .int x1)] [] (am_KD, gc, gs) (I, J, am_RT T) (am_KD, gc, gs) (fun v H' => v = [.int q] ∧ H' = (I, J, am_RT T)) := by
  obtain ⟨d, rfl⟩ : ∃ e, d = e + 1 := ⟨d - 1, by omega⟩
  exact t_X12_isLaw_0 hd h
def fb_X12_common (n : Nat) (rc_X12_common : (Nat → Nat → Int32) → (Nat → Nat → Int64) → Nat → Int64 → Int64 → Option (Int64)) (I : Nat → Nat → Int32) (J : Nat → Nat → Int64) (T : Nat) (y0 : Int64) (y2 : Int64) : Option (Int64) :=
  if (lg_cmp y2 0) = 0 then
   some (am_absL y0)
  else
   if ¬ y2 = 0 then
    (rc_X12_common I J T y2 (y0 - y0 / y2 * y2)).bind fun w3 =>
    some (w3)
   else none
def fx_X12_common (n : Nat) : Nat → ((Nat → Nat → Int32) → (Nat → Nat → Int64) → Nat → Int64 → Int64 → Option (Int64))
  | 0 => (fun _ _ _ _ _ => none)
  | r + 1 => (fb_X12_common n (fx_X12_common n r))
def f_X12_common (n : Nat) : (Nat → Nat → Int32) → (Nat → Nat → Int64) → Nat → Int64 → Int64 → Option (Int64) := (fx_X12_common n n)
set_option maxRecDepth 100000 in
set_option maxHeartbeats 4000000 in
theorem t_X12_common_0 {l : Launch} {ρ : am_R} {n d gc gs : Nat} {rc_X12_common : (Nat → Nat → Int32) → (Nat → Nat → Int64) → Nat → Int64 → Int64 → Option (Int64)} {I : Nat → Nat → Int32} {J : Nat → Nat → Int64} {T : Nat} {y0 : Int64} {y2 : Int64} {q : Int64} (hd : 0 * n + 1 ≤ (d + 1))
    (hr_X12_common : ∀ (I : Nat → Nat → Int32) (J : Nat → Nat → Int64) (T : Nat) (y0 : Int64) (y2 : Int64) (q : Int64) (gc gs : Nat), rc_X12_common I J T y0 y2 = some q → AW l ρ d M_X12_common 0 [(0, .long y0), (2, .long y2)] [] (am_KD, gc, gs) (I, J, am_RT T) (am_KD, gc, gs) (fun v H' => v = [.long q] ∧ H' = (I, J, am_RT T)))
    (h : fb_X12_common n rc_X12_common I J T y0 y2 = some q) : AW l ρ (d + 1) M_X12_common 0 [(0, .long y0), (2, .long y2)] [] (am_KD, gc, gs) (I, J, am_RT T) (am_KD, gc, gs) (fun v H' => v = [.long q] ∧ H' = (I, J, am_RT T)) := by
  unfold fb_X12_common at h
  refine op_lload_n (k := 1) dX12_common_0 rfl rfl ?_
  refine op_lconst (v := 0) dX12_common_1 (by decide) ?_
  refine op_lcmp dX12_common_2 ?_
  refine op_if_ne (tgt := 13) dX12_common_3 (by decide) (fun c1 => ?_) (fun c1 => ?_)
  · replace h := am_ie c1 h
    refine op_lload_n (k := 1) dX12_common_13 rfl rfl ?_
    refine op_lload_n (k := 0) dX12_common_14 rfl rfl ?_
    refine op_lload_n (k := 1) dX12_common_15 rfl rfl ?_
    obtain ⟨g2, h⟩ := am_gd h
    refine op_lrem dX12_common_16 g2 ?_
    obtain ⟨w3, ew3, h⟩ := am_bd h
    refine op_callS (M' := M_X12_common) [.long y2, .long (y0 - y0 / y2 * y2)] (S0 := []) dX12_common_17 tw_1662 ok_X12_common tw_1663 rfl rfl (Nat.le_of_ble_eq_true rfl) (Nat.le_of_ble_eq_true rfl) (hr_X12_common _ _ _ _ _ _ _ _ ew3) (am_le_rf _) ?_
    rintro _ _ ⟨rfl, rfl⟩
    cases h
    exact (op_lret dX12_common_20 rfl ⟨rfl, rfl⟩)
  · replace h := am_ip c1 h
    refine op_lload_n (k := 0) dX12_common_6 rfl rfl ?_
    refine op_mabsL dX12_common_7 tw_1665 tw_899 tw_119 twl_900 (by simp [Value.category]) ⟨Nat.le_refl _, Nat.le_refl _⟩ ?_
    refine op_goto (tgt := 20) dX12_common_10 (by decide) ?_
    cases h
    exact (op_lret dX12_common_20 rfl ⟨rfl, rfl⟩)
set_option maxRecDepth 100000 in
set_option maxHeartbeats 4000000 in
theorem tx_X12_common {l : Launch} {ρ : am_R} (n : Nat) : ∀ (r d : Nat), r + 0 * n + 1 ≤ d → (∀ (I : Nat → Nat → Int32) (J : Nat → Nat → Int64) (T : Nat) (y0 : Int64) (y2 : Int64) (q : Int64) (gc gs : Nat), (fx_X12_common n r) I J T y0 y2 = some q → AW l ρ d M_X12_common 0 [(0, .long y0), (2, .long y2)] [] (am_KD, gc, gs) (I, J, am_RT T) (am_KD, gc, gs) (fun v H' => v = [.long q] ∧ H' = (I, J, am_RT T))) := by
  intro r
  induction r with
  | zero =>
    intro d _
    exact (fun _ _ _ _ _ q _ _ h => by have h : none = some q := h; cases h)
  | succ r ih =>
    intro d hd
    obtain ⟨d, rfl⟩ : ∃ e, d = e + 1 := ⟨d - 1, by omega⟩
    have ih := ih d (by omega)
    exact (fun _ _ _ _ _ q _ _ h => t_X12_common_0 (rc_X12_common := (fx_X12_common n r)) (by omega) (ih) h)
theorem t_X12_common {l : Launch} {ρ : am_R} {n d gc gs : Nat} {I : Nat → Nat → Int32} {J : Nat → Nat → Int64} {T : Nat} {y0 : Int64} {y2 : Int64} {q : Int64} (hd : 1 * n + 1 ≤ d) (h : f_X12_common n I J T y0 y2 = some q) : AW l ρ d M_X12_common 0 [(0, .long y0), (2, .long y2)] [] (am_KD, gc, gs) (I, J, am_RT T) (am_KD, gc, gs) (fun v H' => v = [.long q] ∧ H' = (I, J, am_RT T)) := (tx_X12_common n n d (by omega)) _ _ _ _ _ _ _ _ h
def f_X12_partOf (n : Nat) (I : Nat → Nat → Int32) (J : Nat → Nat → Int64) (T : Nat) (y0 : Int64) (y2 : Int64) (x4 : Int32) : Option (Int64) :=
  (f_X12_common n I J T y0 y2).bind fun w1 =>
  if x4 = 0 then
   if ¬ w1 = 0 then
    some (y0 / w1)
   else none
  else
   if ¬ w1 = 0 then
    some (y2 / w1)
   else none
set_option maxRecDepth 100000 in
set_option maxHeartbeats 4000000 in
theorem t_X12_partOf_0 {l : Launch} {ρ : am_R} {n d gc gs : Nat} {I : Nat → Nat → Int32} {J : Nat → Nat → Int64} {T : Nat} {y0 : Int64} {y2 : Int64} {x4 : Int32} {q : Int64} (hd : 1 * n + 2 ≤ (d + 1))
    (h : f_X12_partOf n  I J T y0 y2 x4 = some q) : AW l ρ (d + 1) M_X12_partOf 0 [(0, .long y0), (2, .long y2), (4, .int x4)] [] (am_KD, gc, gs) (I, J, am_RT T) (am_KD, gc, gs) (fun v H' => v = [.long q] ∧ H' = (I, J, am_RT T)) := by
  unfold f_X12_partOf at h
  refine op_lload_n (k := 0) dX12_partOf_0 rfl rfl ?_
  refine op_lload_n (k := 1) dX12_partOf_1 rfl rfl ?_
  obtain ⟨w1, ew1, h⟩ := am_bd h
  refine op_callS (M' := M_X12_common) [.long y0, .long y2] (S0 := []) dX12_partOf_2 tw_1662 ok_X12_common tw_1663 rfl rfl (Nat.le_of_ble_eq_true rfl) (Nat.le_of_ble_eq_true rfl) (t_X12_common (by omega) ew1) (am_le_rf _) ?_
  rintro _ _ ⟨rfl, rfl⟩
  refine op_lstore (L' := [(5, .long w1), (0, .long y0), (2, .long y2), (4, .int x4)]) dX12_partOf_5 (by decide) rfl ?_
  refine op_iload (k := 3) dX12_partOf_7 rfl ?_
  refine op_if_ne (tgt := 19) dX12_partOf_9 (by decide) (fun c2 => ?_) (fun c2 => ?_)
  · replace h := am_ie c2 h
    refine op_lload_n (k := 2) dX12_partOf_19 rfl rfl ?_
    refine op_lload (k := 0) dX12_partOf_20 rfl ?_
    obtain ⟨g3, h⟩ := am_gd h
    refine op_ldiv dX12_partOf_22 g3 ?_
    cases h
    exact (op_lret dX12_partOf_23 rfl ⟨rfl, rfl⟩)
  · replace h := am_ip c2 h
    refine op_lload_n (k := 1) dX12_partOf_12 rfl rfl ?_
    refine op_lload (k := 0) dX12_partOf_13 rfl ?_
    obtain ⟨g4, h⟩ := am_gd h
    refine op_ldiv dX12_partOf_15 g4 ?_
    refine op_goto (tgt := 23) dX12_partOf_16 (by decide) ?_
    cases h
    exact (op_lret dX12_partOf_23 rfl ⟨rfl, rfl⟩)
theorem t_X12_partOf {l : Launch} {ρ : am_R} {n d gc gs : Nat} {I : Nat → Nat → Int32} {J : Nat → Nat → Int64} {T : Nat} {y0 : Int64} {y2 : Int64} {x4 : Int32} {q : Int64} (hd : 1 * n + 2 ≤ d) (h : f_X12_partOf n I J T y0 y2 x4 = some q) : AW l ρ d M_X12_partOf 0 [(0, .long y0), (2, .long y2), (4, .int x4)] [] (am_KD, gc, gs) (I, J, am_RT T) (am_KD, gc, gs) (fun v H' => v = [.long q] ∧ H' = (I, J, am_RT T)) := by
  obtain ⟨d, rfl⟩ : ∃ e, d = e + 1 := ⟨d - 1, by omega⟩
  exact t_X12_partOf_0 hd h
def f_X12_sharesOf_35 (n : Nat) (k5 : (Nat → Nat → Int32) → (Nat → Nat → Int64) → Nat → Int32 → Int64 → Int32 → Option (Int64)) (I : Nat → Nat → Int32) (J : Nat → Nat → Int64) (T : Nat) (x1 : Int32) (x4 : Int32) (z0 : Int64) (z1 : Int64) : Option (Int64) :=
  k5 I J T x1 (z0 + z1) (x4 + 1)
def f_X12_sharesOf_5 (n : Nat) : Nat → (Nat → Nat → Int32) → (Nat → Nat → Int64) → Nat → Int32 → Int64 → Int32 → Option (Int64)
  | 0, _, _, _, _, _, _ => none
  | m + 1, I, J, T, x1, y2, x4 =>
    if (I 53 27) ≤ x4 then
     some (y2)
    else
     (f_X12_has n I J T x1 x4).bind fun w2 =>
     if w2 = 0 then
      f_X12_sharesOf_35 n (f_X12_sharesOf_5 n m) I J T x1 x4 y2 0
     else
      if ok_ix x4 6 then
       f_X12_sharesOf_35 n (f_X12_sharesOf_5 n m) I J T x1 x4 y2 (J 66 x4.toNatClampNeg)
      else none
def f_X12_sharesOf (n : Nat) (I : Nat → Nat → Int32) (J : Nat → Nat → Int64) (T : Nat) (x1 : Int32) : Option (Int64) :=
  f_X12_sharesOf_5 n  n I J T x1 0 0
set_option maxRecDepth 100000 in
set_option maxHeartbeats 4000000 in
theorem t_X12_sharesOf_35 {l : Launch} {ρ : am_R} {n d gc gs : Nat} {k5 : (Nat → Nat → Int32) → (Nat → Nat → Int64) → Nat → Int32 → Int64 → Int32 → Option (Int64)} {I : Nat → Nat → Int32} {J : Nat → Nat → Int64} {T : Nat} {x1 : Int32} {x4 : Int32} {z0 : Int64} {z1 : Int64} {q : Int64} (hd : 0 * n + 1 ≤ (d + 1))
    (hk5 : ∀ (I : Nat → Nat → Int32) (J : Nat → Nat → Int64) (T : Nat) (x1 : Int32) (y2 : Int64) (x4 : Int32), k5 I J T x1 y2 x4 = some q → AW l ρ (d + 1) M_X12_sharesOf 5 [(0, .ref 53), (1, .int x1), (2, .long y2), (4, .int x4)] [] (am_KD, gc, gs) (I, J, am_RT T) (am_KD, gc, gs) (fun v H' => v = [.long q] ∧ H' = (I, J, am_RT T)))
    (h : f_X12_sharesOf_35 n k5 I J T x1 x4 z0 z1 = some q) : AW l ρ (d + 1) M_X12_sharesOf 35 [(0, .ref 53), (1, .int x1), (4, .int x4)] [.long z1, .long z0] (am_KD, gc, gs) (I, J, am_RT T) (am_KD, gc, gs) (fun v H' => v = [.long q] ∧ H' = (I, J, am_RT T)) := by
  unfold f_X12_sharesOf_35 at h
  refine op_ladd dX12_sharesOf_35 ?_
  refine op_lstore_n (L' := [(2, .long (z0 + z1)), (0, .ref 53), (1, .int x1), (4, .int x4)]) dX12_sharesOf_36 rfl (by decide) rfl ?_
  refine op_iinc (k := 3) (v := x4 + 1) (L' := [(4, .int (x4 + 1)), (2, .long (z0 + z1)), (0, .ref 53), (1, .int x1)]) dX12_sharesOf_37 rfl rfl (by decide) rfl ?_
  refine op_goto (tgt := 5) dX12_sharesOf_40 (by decide) ?_
  refine AW.perm [2, 3, 1, 0] rfl ?_
  exact hk5 _ _ _ _ _ _ h
set_option maxRecDepth 100000 in
set_option maxHeartbeats 4000000 in
theorem t_X12_sharesOf_5 {l : Launch} {ρ : am_R} {n d gc gs : Nat} {q : Int64} (hd : 0 * n + 1 ≤ (d + 1))
    : ∀ (m : Nat) (I : Nat → Nat → Int32) (J : Nat → Nat → Int64) (T : Nat) (x1 : Int32) (y2 : Int64) (x4 : Int32), f_X12_sharesOf_5 n  m I J T x1 y2 x4 = some q → AW l ρ (d + 1) M_X12_sharesOf 5 [(0, .ref 53), (1, .int x1), (2, .long y2), (4, .int x4)] [] (am_KD, gc, gs) (I, J, am_RT T) (am_KD, gc, gs) (fun v H' => v = [.long q] ∧ H' = (I, J, am_RT T)) := by
  intro m
  induction m with
  | zero =>
    intro I J T x1 y2 x4 h
    rw [f_X12_sharesOf_5] at h
    cases h
  | succ m ih =>
    intro I J T x1 y2 x4 h
    rw [f_X12_sharesOf_5] at h
    refine op_iload (k := 3) dX12_sharesOf_5 rfl ?_
    refine op_aload_n (k := 0) dX12_sharesOf_7 rfl rfl ?_
    refine st_getI (v := I 53 27) dX12_sharesOf_8 fl_X12_297 kd_53 (by decide) rfl rfl ?_
    refine op_icmp_ge (tgt := 43) dX12_sharesOf_11 (by decide) (fun c1 => ?_) (fun c1 => ?_)
    · replace h := am_ip c1 h
      refine op_lload_n (k := 2) dX12_sharesOf_43 rfl rfl ?_
      cases h
      exact (op_lret dX12_sharesOf_44 rfl ⟨rfl, rfl⟩)
    · replace h := am_ie c1 h
      refine op_lload_n (k := 2) dX12_sharesOf_14 rfl rfl ?_
      refine op_iload_n (k := 1) dX12_sharesOf_15 rfl rfl ?_
      refine op_iload (k := 3) dX12_sharesOf_16 rfl ?_
      obtain ⟨w2, ew2, h⟩ := am_bd h
      refine op_callS (M' := M_X12_has) [.int x1, .int x4] (S0 := [.long y2]) dX12_sharesOf_18 tw_1471 ok_X12_has tw_1472 rfl rfl (Nat.le_of_ble_eq_true rfl) (Nat.le_of_ble_eq_true rfl) (t_X12_has (by omega) ew2) (am_le_rf _) ?_
      rintro _ _ ⟨rfl, rfl⟩
      refine op_if_eq (tgt := 34) dX12_sharesOf_21 (by decide) (fun c3 => ?_) (fun c3 => ?_)
      · replace h := am_ip c3 h
        refine op_lconst (v := 0) dX12_sharesOf_34 (by decide) ?_
        refine AW.perm [0, 1, 3] rfl ?_
        exact t_X12_sharesOf_35 hd ih h
      · replace h := am_ie c3 h
        refine op_aload_n (k := 0) dX12_sharesOf_24 rfl rfl ?_
        refine st_getR (z := 66) dX12_sharesOf_25 fl_X12_65 kd_53 (by decide) rfl rr_53_32 ?_
        refine op_iload (k := 3) dX12_sharesOf_28 rfl ?_
        obtain ⟨g4, h⟩ := am_gd h
        refine st_lald (k := x4.toNatClampNeg) (v := J 66 x4.toNatClampNeg) dX12_sharesOf_30 kd_66 g4 rfl rfl ?_
        refine op_goto (tgt := 35) dX12_sharesOf_31 (by decide) ?_
        refine AW.perm [0, 1, 3] rfl ?_
        exact t_X12_sharesOf_35 hd ih h
set_option maxRecDepth 100000 in
set_option maxHeartbeats 4000000 in
theorem t_X12_sharesOf_0 {l : Launch} {ρ : am_R} {n d gc gs : Nat} {I : Nat → Nat → Int32} {J : Nat → Nat → Int64} {T : Nat} {x1 : Int32} {q : Int64} (hd : 0 * n + 1 ≤ (d + 1))
    (h : f_X12_sharesOf n  I J T x1 = some q) : AW l ρ (d + 1) M_X12_sharesOf 0 [(0, .ref 53), (1, .int x1)] [] (am_KD, gc, gs) (I, J, am_RT T) (am_KD, gc, gs) (fun v H' => v = [.long q] ∧ H' = (I, J, am_RT T)) := by
  unfold f_X12_sharesOf at h
  refine op_lconst (v := 0) dX12_sharesOf_0 (by decide) ?_
  refine op_lstore_n (L' := [(2, .long 0), (0, .ref 53), (1, .int x1)]) dX12_sharesOf_1 rfl (by decide) rfl ?_
  refine op_iconst (v := 0) dX12_sharesOf_2 (by decide) ?_
  refine op_istore (L' := [(4, .int 0), (2, .long 0), (0, .ref 53), (1, .int x1)]) dX12_sharesOf_3 (by decide) rfl ?_
  refine AW.perm [2, 3, 1, 0] rfl ?_
  exact t_X12_sharesOf_5 hd  n _ _ _ _ _ _ h
theorem t_X12_sharesOf {l : Launch} {ρ : am_R} {n d gc gs : Nat} {I : Nat → Nat → Int32} {J : Nat → Nat → Int64} {T : Nat} {x1 : Int32} {q : Int64} (hd : 0 * n + 1 ≤ d) (h : f_X12_sharesOf n I J T x1 = some q) : AW l ρ d M_X12_sharesOf 0 [(0, .ref 53), (1, .int x1)] [] (am_KD, gc, gs) (I, J, am_RT T) (am_KD, gc, gs) (fun v H' => v = [.long q] ∧ H' = (I, J, am_RT T)) := by
  obtain ⟨d, rfl⟩ : ∃ e, d = e + 1 := ⟨d - 1, by omega⟩
  exact t_X12_sharesOf_0 hd h
def f_X12_complaint_106 (n : Nat) (k54 : (Nat → Nat → Int32) → (Nat → Nat → Int64) → Nat → Int32 → Int32 → Int64 → Int32 → Option (Int64 × (Nat → Nat → Int32) × (Nat → Nat → Int64) × Nat)) (I : Nat → Nat → Int32) (J : Nat → Nat → Int64) (T : Nat) (x2 : Int32) (x3 : Int32) (y4 : Int64) (x6 : Int32) : Option (Int64 × (Nat → Nat → Int32) × (Nat → Nat → Int64) × Nat) :=
  k54 I J T x2 x3 y4 (x6 + 1)
def f_X12_complaint_99 (n : Nat) (k54 : (Nat → Nat → Int32) → (Nat → Nat → Int64) → Nat → Int32 → Int32 → Int64 → Int32 → Option (Int64 × (Nat → Nat → Int32) × (Nat → Nat → Int64) × Nat)) (I : Nat → Nat → Int32) (J : Nat → Nat → Int64) (T : Nat) (x2 : Int32) (x6 : Int32) (y7 : Int64) : Option (Int64 × (Nat → Nat → Int32) × (Nat → Nat → Int64) × Nat) :=
  f_X12_complaint_106 n k54 I J T x2 x6 y7 x6
def f_X12_complaint_54 (n : Nat) : Nat → (Nat → Nat → Int32) → (Nat → Nat → Int64) → Nat → Int32 → Int32 → Int64 → Int32 → Option (Int64 × (Nat → Nat → Int32) × (Nat → Nat → Int64) × Nat)
  | 0, _, _, _, _, _, _, _ => none
  | m + 1, I, J, T, x2, x3, y4, x6 =>
    (f_X12_everybody n I J T).bind fun w1 =>
    if w1 ≤ x6 then
     if x2 = 0 then
      some (x3.toInt64, I, J, T)
     else
      (f_X12_partOf n I J T y4 (J 53 33) (x2 - 1)).bind fun w4 =>
      some (w4, I, J, T)
    else
     (f_X12_sharesOf n I J T x6).bind fun w5 =>
     (f_X12_costOf n I J T x6).bind fun w6 =>
     if x3 ≤ 0 then
      f_X12_complaint_99 n (f_X12_complaint_54 n m) I J T x2 x6 (w5 - (w6.toInt64 * (J 53 33)))
     else
      if 0 < (lg_cmp (w5 - (w6.toInt64 * (J 53 33))) y4) then
       f_X12_complaint_99 n (f_X12_complaint_54 n m) I J T x2 x6 (w5 - (w6.toInt64 * (J 53 33)))
      else
       f_X12_complaint_106 n (f_X12_complaint_54 n m) I J T x2 x3 y4 x6
def f_X12_complaint (n : Nat) (I : Nat → Nat → Int32) (J : Nat → Nat → Int64) (T : Nat) (x1 : Int32) (x2 : Int32) : Option (Int64 × (Nat → Nat → Int32) × (Nat → Nat → Int64) × Nat) :=
  (f_X12_isLaw n ((am_u I 53 0 0)) J T x1).bind fun w1 =>
  if w1 = 0 then
   some ((-1), (am_u I 53 0 0), J, T)
  else
   (f_X12_isIn n ((am_u I 53 0 0)) J T x2.toInt64 0 2).bind fun w3 =>
   if w3 = 0 then
    some ((-1), (am_u I 53 0 0), J, T)
   else
    if (I 53 27) = 1 then
     some ((-1), (am_u I 53 0 0), J, T)
    else
     (f_X12_everybody n ((am_u I 53 0 0)) J T).bind fun w6 =>
     (f_X12_layShares n ((am_u I 53 0 0)) J T w6 x1).bind fun w7 =>
     f_X12_complaint_54 n  n w7.1 w7.2.1 w7.2.2 x2 0 0 1
set_option maxRecDepth 100000 in
set_option maxHeartbeats 4000000 in
theorem t_X12_complaint_106 {l : Launch} {ρ : am_R} {n d gc gs : Nat} {k54 : (Nat → Nat → Int32) → (Nat → Nat → Int64) → Nat → Int32 → Int32 → Int64 → Int32 → Option (Int64 × (Nat → Nat → Int32) × (Nat → Nat → Int64) × Nat)} {I : Nat → Nat → Int32} {J : Nat → Nat → Int64} {T : Nat} {x2 : Int32} {x3 : Int32} {y4 : Int64} {x6 : Int32} {q : Int64 × (Nat → Nat → Int32) × (Nat → Nat → Int64) × Nat} (hd : 2 * n + 13 ≤ (d + 1))
    (hk54 : ∀ (I : Nat → Nat → Int32) (J : Nat → Nat → Int64) (T : Nat) (x2 : Int32) (x3 : Int32) (y4 : Int64) (x6 : Int32), k54 I J T x2 x3 y4 x6 = some q → AW l ρ (d + 1) M_X12_complaint 54 [(0, .ref 53), (2, .int x2), (3, .int x3), (4, .long y4), (6, .int x6)] [] (am_KD, gc, gs) (I, J, am_RT T) (am_KD, gc, gs) (fun v H' => v = [.long q.1] ∧ H' = (q.2.1, q.2.2.1, am_RT (q.2.2.2))))
    (h : f_X12_complaint_106 n k54 I J T x2 x3 y4 x6 = some q) : AW l ρ (d + 1) M_X12_complaint 106 [(0, .ref 53), (2, .int x2), (3, .int x3), (4, .long y4), (6, .int x6)] [] (am_KD, gc, gs) (I, J, am_RT T) (am_KD, gc, gs) (fun v H' => v = [.long q.1] ∧ H' = (q.2.1, q.2.2.1, am_RT (q.2.2.2))) := by
  unfold f_X12_complaint_106 at h
  refine op_iinc (k := 4) (v := x6 + 1) (L' := [(6, .int (x6 + 1)), (0, .ref 53), (2, .int x2), (3, .int x3), (4, .long y4)]) dX12_complaint_106 rfl rfl (by decide) rfl ?_
  refine op_goto (tgt := 54) dX12_complaint_109 (by decide) ?_
  refine AW.perm [1, 2, 3, 4, 0] rfl ?_
  exact hk54 _ _ _ _ _ _ _ h
set_option maxRecDepth 100000 in
set_option maxHeartbeats 4000000 in
theorem t_X12_complaint_99 {l : Launch} {ρ : am_R} {n d gc gs : Nat} {k54 : (Nat → Nat → Int32) → (Nat → Nat → Int64) → Nat → Int32 → Int32 → Int64 → Int32 → Option (Int64 × (Nat → Nat → Int32) × (Nat → Nat → Int64) × Nat)} {I : Nat → Nat → Int32} {J : Nat → Nat → Int64} {T : Nat} {x2 : Int32} {x6 : Int32} {y7 : Int64} {q : Int64 × (Nat → Nat → Int32) × (Nat → Nat → Int64) × Nat} (hd : 2 * n + 13 ≤ (d + 1))
    (hk54 : ∀ (I : Nat → Nat → Int32) (J : Nat → Nat → Int64) (T : Nat) (x2 : Int32) (x3 : Int32) (y4 : Int64) (x6 : Int32), k54 I J T x2 x3 y4 x6 = some q → AW l ρ (d + 1) M_X12_complaint 54 [(0, .ref 53), (2, .int x2), (3, .int x3), (4, .long y4), (6, .int x6)] [] (am_KD, gc, gs) (I, J, am_RT T) (am_KD, gc, gs) (fun v H' => v = [.long q.1] ∧ H' = (q.2.1, q.2.2.1, am_RT (q.2.2.2))))
    (h : f_X12_complaint_99 n k54 I J T x2 x6 y7 = some q) : AW l ρ (d + 1) M_X12_complaint 99 [(0, .ref 53), (2, .int x2), (6, .int x6), (7, .long y7)] [] (am_KD, gc, gs) (I, J, am_RT T) (am_KD, gc, gs) (fun v H' => v = [.long q.1] ∧ H' = (q.2.1, q.2.2.1, am_RT (q.2.2.2))) := by
  unfold f_X12_complaint_99 at h
  refine op_iload (k := 2) dX12_complaint_99 rfl ?_
  refine op_istore_n (L' := [(3, .int x6), (0, .ref 53), (2, .int x2), (6, .int x6), (7, .long y7)]) dX12_complaint_101 rfl (by decide) rfl ?_
  refine op_lload (k := 4) dX12_complaint_102 rfl ?_
  refine op_lstore (L' := [(4, .long y7), (3, .int x6), (0, .ref 53), (2, .int x2), (6, .int x6), (7, .long y7)]) dX12_complaint_104 (by decide) rfl ?_
  refine AW.perm [2, 3, 1, 0, 4] rfl ?_
  exact t_X12_complaint_106 hd hk54 h
set_option maxRecDepth 100000 in
set_option maxHeartbeats 4000000 in
theorem t_X12_complaint_54 {l : Launch} {ρ : am_R} {n d gc gs : Nat} {q : Int64 × (Nat → Nat → Int32) × (Nat → Nat → Int64) × Nat} (hd : 2 * n + 13 ≤ (d + 1))
    : ∀ (m : Nat) (I : Nat → Nat → Int32) (J : Nat → Nat → Int64) (T : Nat) (x2 : Int32) (x3 : Int32) (y4 : Int64) (x6 : Int32), f_X12_complaint_54 n  m I J T x2 x3 y4 x6 = some q → AW l ρ (d + 1) M_X12_complaint 54 [(0, .ref 53), (2, .int x2), (3, .int x3), (4, .long y4), (6, .int x6)] [] (am_KD, gc, gs) (I, J, am_RT T) (am_KD, gc, gs) (fun v H' => v = [.long q.1] ∧ H' = (q.2.1, q.2.2.1, am_RT (q.2.2.2))) := by
  intro m
  induction m with
  | zero =>
    intro I J T x2 x3 y4 x6 h
    rw [f_X12_complaint_54] at h
    cases h
  | succ m ih =>
    intro I J T x2 x3 y4 x6 h
    rw [f_X12_complaint_54] at h
    refine op_iload (k := 4) dX12_complaint_54 rfl ?_
    refine op_aload_n (k := 0) dX12_complaint_56 rfl rfl ?_
    obtain ⟨w1, ew1, h⟩ := am_bd h
    refine op_callV (M' := M_X12_everybody) [] (S0 := [.int x6]) dX12_complaint_57 tw_1670 ok_X12_everybody tw_1672 tw_89 kd_53 cls_12 rfl rfl rfl (Nat.le_of_ble_eq_true rfl) (Nat.le_of_ble_eq_true rfl) (t_X12_everybody (by omega) ew1) (am_le_rf _) ?_
    rintro _ _ ⟨rfl, rfl⟩
    refine op_icmp_ge (tgt := 112) dX12_complaint_60 (by decide) (fun c2 => ?_) (fun c2 => ?_)
    · replace h := am_ip c2 h
      refine op_iload_n (k := 1) dX12_complaint_112 rfl rfl ?_
      refine op_if_ne (tgt := 121) dX12_complaint_113 (by decide) (fun c3 => ?_) (fun c3 => ?_)
      · replace h := am_ie c3 h
        refine op_lload (k := 3) dX12_complaint_121 rfl ?_
        refine op_aload_n (k := 0) dX12_complaint_123 rfl rfl ?_
        refine st_getL (v := J 53 33) dX12_complaint_124 fl_X12_361 kd_53 (by decide) rfl rfl ?_
        refine op_iload_n (k := 1) dX12_complaint_127 rfl rfl ?_
        refine op_iconst (v := 1) dX12_complaint_128 (by decide) ?_
        refine op_isub dX12_complaint_129 ?_
        obtain ⟨w4, ew4, h⟩ := am_bd h
        refine op_callS (M' := M_X12_partOf) [.long y4, .long (J 53 33), .int (x2 - 1)] (S0 := []) dX12_complaint_130 tw_1659 ok_X12_partOf tw_1660 rfl rfl (Nat.le_of_ble_eq_true rfl) (Nat.le_of_ble_eq_true rfl) (t_X12_partOf (by omega) ew4) (am_le_rf _) ?_
        rintro _ _ ⟨rfl, rfl⟩
        cases h
        exact (op_lret dX12_complaint_133 rfl ⟨rfl, rfl⟩)
      · replace h := am_ip c3 h
        refine op_iload_n (k := 2) dX12_complaint_116 rfl rfl ?_
        refine op_i2l dX12_complaint_117 ?_
        refine op_goto (tgt := 133) dX12_complaint_118 (by decide) ?_
        cases h
        exact (op_lret dX12_complaint_133 rfl ⟨rfl, rfl⟩)
    · replace h := am_ie c2 h
      refine op_aload_n (k := 0) dX12_complaint_63 rfl rfl ?_
      refine op_iload (k := 4) dX12_complaint_64 rfl ?_
      obtain ⟨w5, ew5, h⟩ := am_bd h
      refine op_callV (M' := M_X12_sharesOf) [.int x6] (S0 := []) dX12_complaint_66 tw_1674 ok_X12_sharesOf tw_1676 tw_90 kd_53 cls_12 rfl rfl rfl (Nat.le_of_ble_eq_true rfl) (Nat.le_of_ble_eq_true rfl) (t_X12_sharesOf (by omega) ew5) (am_le_rf _) ?_
      rintro _ _ ⟨rfl, rfl⟩
      refine op_aload_n (k := 0) dX12_complaint_69 rfl rfl ?_
      refine op_iload (k := 4) dX12_complaint_70 rfl ?_
      obtain ⟨w6, ew6, h⟩ := am_bd h
      refine op_callV (M' := M_X12_costOf) [.int x6] (S0 := [.long w5]) dX12_complaint_72 tw_1577 ok_X12_costOf tw_1579 tw_78 kd_53 cls_12 rfl rfl rfl (Nat.le_of_ble_eq_true rfl) (Nat.le_of_ble_eq_true rfl) (t_X12_costOf (by omega) ew6) (am_le_rf _) ?_
      rintro _ _ ⟨rfl, rfl⟩
      refine op_i2l dX12_complaint_75 ?_
      refine op_aload_n (k := 0) dX12_complaint_76 rfl rfl ?_
      refine st_getL (v := J 53 33) dX12_complaint_77 fl_X12_361 kd_53 (by decide) rfl rfl ?_
      refine op_lmul dX12_complaint_80 ?_
      refine op_lsub dX12_complaint_81 ?_
      refine op_lstore (L' := [(7, .long (w5 - (w6.toInt64 * (J 53 33)))), (0, .ref 53), (2, .int x2), (3, .int x3), (4, .long y4), (6, .int x6)]) dX12_complaint_82 (by decide) rfl ?_
      refine op_iload_n (k := 3) dX12_complaint_84 rfl rfl ?_
      refine op_if_le (tgt := 99) dX12_complaint_85 (by decide) (fun c7 => ?_) (fun c7 => ?_)
      · replace h := am_ip c7 h
        refine AW.perm [1, 2, 5, 0] rfl ?_
        exact t_X12_complaint_99 hd ih h
      · replace h := am_ie c7 h
        refine op_lload (k := 0) dX12_complaint_88 rfl ?_
        refine op_lload (k := 4) dX12_complaint_90 rfl ?_
        refine op_lcmp dX12_complaint_92 ?_
        refine op_if_gt (tgt := 99) dX12_complaint_93 (by decide) (fun c8 => ?_) (fun c8 => ?_)
        · replace h := am_ip c8 h
          refine AW.perm [1, 2, 5, 0] rfl ?_
          exact t_X12_complaint_99 hd ih h
        · replace h := am_ie c8 h
          refine op_goto (tgt := 106) dX12_complaint_96 (by decide) ?_
          refine AW.perm [1, 2, 3, 4, 5] rfl ?_
          exact t_X12_complaint_106 hd ih h
set_option maxRecDepth 100000 in
set_option maxHeartbeats 4000000 in
theorem t_X12_complaint_0 {l : Launch} {ρ : am_R} {n d gc gs : Nat} {I : Nat → Nat → Int32} {J : Nat → Nat → Int64} {T : Nat} {x1 : Int32} {x2 : Int32} {q : Int64 × (Nat → Nat → Int32) × (Nat → Nat → Int64) × Nat} (hd : 2 * n + 13 ≤ (d + 1))
    (h : f_X12_complaint n  I J T x1 x2 = some q) : AW l ρ (d + 1) M_X12_complaint 0 [(0, .ref 53), (1, .int x1), (2, .int x2)] [] (am_KD, gc, gs) (I, J, am_RT T) (am_KD, gc, gs) (fun v H' => v = [.long q.1] ∧ H' = (q.2.1, q.2.2.1, am_RT (q.2.2.2))) := by
  unfold f_X12_complaint at h
  refine op_aload_n (k := 0) dX12_complaint_0 rfl rfl ?_
  refine op_iconst (v := 0) dX12_complaint_1 (by decide) ?_
  refine st_putI dX12_complaint_2 fl_X12_108 kd_53 (by decide) rfl ?_
  refine op_aload_n (k := 0) dX12_complaint_5 rfl rfl ?_
  refine op_iload_n (k := 1) dX12_complaint_6 rfl rfl ?_
  obtain ⟨w1, ew1, h⟩ := am_bd h
  refine op_callV (M' := M_X12_isLaw) [.int x1] (S0 := []) dX12_complaint_7 tw_1628 ok_X12_isLaw tw_1630 tw_83 kd_53 cls_12 rfl rfl rfl (Nat.le_of_ble_eq_true rfl) (Nat.le_of_ble_eq_true rfl) (t_X12_isLaw (by omega) ew1) (am_le_rf _) ?_
  rintro _ _ ⟨rfl, rfl⟩
  refine op_if_eq (tgt := 33) dX12_complaint_10 (by decide) (fun c2 => ?_) (fun c2 => ?_)
  · replace h := am_ip c2 h
    refine op_ldc2 dX12_complaint_33 tw_1632 ?_
    cases h
    exact (op_lret dX12_complaint_36 rfl ⟨rfl, rfl⟩)
  · replace h := am_ie c2 h
    refine op_iload_n (k := 2) dX12_complaint_13 rfl rfl ?_
    refine op_i2l dX12_complaint_14 ?_
    refine op_lconst (v := 0) dX12_complaint_15 (by decide) ?_
    refine op_ldc2 dX12_complaint_16 tw_1619 ?_
    obtain ⟨w3, ew3, h⟩ := am_bd h
    refine op_callS (M' := M_X12_isIn) [.long x2.toInt64, .long 0, .long 2] (S0 := []) dX12_complaint_19 tw_1390 ok_X12_isIn tw_1391 rfl rfl (Nat.le_of_ble_eq_true rfl) (Nat.le_of_ble_eq_true rfl) (t_X12_isIn (by omega) ew3) (am_le_rf _) ?_
    rintro _ _ ⟨rfl, rfl⟩
    refine op_if_eq (tgt := 33) dX12_complaint_22 (by decide) (fun c4 => ?_) (fun c4 => ?_)
    · replace h := am_ip c4 h
      refine op_ldc2 dX12_complaint_33 tw_1632 ?_
      cases h
      exact (op_lret dX12_complaint_36 rfl ⟨rfl, rfl⟩)
    · replace h := am_ie c4 h
      refine op_aload_n (k := 0) dX12_complaint_25 rfl rfl ?_
      refine st_getI (v := I 53 27) dX12_complaint_26 fl_X12_297 kd_53 (by decide) rfl rfl ?_
      refine op_iconst (v := 1) dX12_complaint_29 (by decide) ?_
      refine op_icmp_ne (tgt := 37) dX12_complaint_30 (by decide) (fun c5 => ?_) (fun c5 => ?_)
      · replace h := am_ie c5 h
        refine op_aload_n (k := 0) dX12_complaint_37 rfl rfl ?_
        refine op_aload_n (k := 0) dX12_complaint_38 rfl rfl ?_
        obtain ⟨w6, ew6, h⟩ := am_bd h
        refine op_callV (M' := M_X12_everybody) [] (S0 := [.ref 53]) dX12_complaint_39 tw_1670 ok_X12_everybody tw_1672 tw_89 kd_53 cls_12 rfl rfl rfl (Nat.le_of_ble_eq_true rfl) (Nat.le_of_ble_eq_true rfl) (t_X12_everybody (by omega) ew6) (am_le_rf _) ?_
        rintro _ _ ⟨rfl, rfl⟩
        refine op_iload_n (k := 1) dX12_complaint_42 rfl rfl ?_
        obtain ⟨w7, ew7, h⟩ := am_bd h
        refine op_callV (M' := M_X12_layShares) [.int w6, .int x1] (S0 := []) dX12_complaint_43 tw_1633 ok_X12_layShares tw_1635 tw_84 kd_53 cls_12 rfl rfl rfl (Nat.le_of_ble_eq_true rfl) (Nat.le_of_ble_eq_true rfl) (t_X12_layShares (by omega) ew7) (am_le_rf _) ?_
        rintro _ _ ⟨rfl, rfl⟩
        refine op_iconst (v := 0) dX12_complaint_46 (by decide) ?_
        refine op_istore_n (L' := [(3, .int 0), (0, .ref 53), (1, .int x1), (2, .int x2)]) dX12_complaint_47 rfl (by decide) rfl ?_
        refine op_lconst (v := 0) dX12_complaint_48 (by decide) ?_
        refine op_lstore (L' := [(4, .long 0), (3, .int 0), (0, .ref 53), (1, .int x1), (2, .int x2)]) dX12_complaint_49 (by decide) rfl ?_
        refine op_iconst (v := 1) dX12_complaint_51 (by decide) ?_
        refine op_istore (L' := [(6, .int 1), (4, .long 0), (3, .int 0), (0, .ref 53), (1, .int x1), (2, .int x2)]) dX12_complaint_52 (by decide) rfl ?_
        refine AW.perm [3, 5, 2, 1, 0] rfl ?_
        exact t_X12_complaint_54 hd  n _ _ _ _ _ _ _ h
      · replace h := am_ip c5 h
        refine op_ldc2 dX12_complaint_33 tw_1632 ?_
        cases h
        exact (op_lret dX12_complaint_36 rfl ⟨rfl, rfl⟩)
theorem t_X12_complaint {l : Launch} {ρ : am_R} {n d gc gs : Nat} {I : Nat → Nat → Int32} {J : Nat → Nat → Int64} {T : Nat} {x1 : Int32} {x2 : Int32} {q : Int64 × (Nat → Nat → Int32) × (Nat → Nat → Int64) × Nat} (hd : 2 * n + 13 ≤ d) (h : f_X12_complaint n I J T x1 x2 = some q) : AW l ρ d M_X12_complaint 0 [(0, .ref 53), (1, .int x1), (2, .int x2)] [] (am_KD, gc, gs) (I, J, am_RT T) (am_KD, gc, gs) (fun v H' => v = [.long q.1] ∧ H' = (q.2.1, q.2.2.1, am_RT (q.2.2.2))) := by
  obtain ⟨d, rfl⟩ : ∃ e, d = e + 1 := ⟨d - 1, by omega⟩
  exact t_X12_complaint_0 hd h
def f_X12_isSet (n : Nat) (I : Nat → Nat → Int32) (J : Nat → Nat → Int64) (T : Nat) (x1 : Int32) : Option (Int32) :=
  if (I 53 27) ≤ 0 then
   some (0)
  else
   if x1 ≤ 0 then
    some (0)
   else
    if (1 <<< ((I 53 27) &&& 31)) ≤ x1 then
     some (0)
    else
     some (1)
set_option maxRecDepth 100000 in
set_option maxHeartbeats 4000000 in
theorem t_X12_isSet_0 {l : Launch} {ρ : am_R} {n d gc gs : Nat} {I : Nat → Nat → Int32} {J : Nat → Nat → Int64} {T : Nat} {x1 : Int32} {q : Int32} (hd : 0 * n + 0 ≤ d)
    (h : f_X12_isSet n  I J T x1 = some q) : AW l ρ d M_X12_isSet 0 [(0, .ref 53), (1, .int x1)] [] (am_KD, gc, gs) (I, J, am_RT T) (am_KD, gc, gs) (fun v H' => v = [.int q] ∧ H' = (I, J, am_RT T)) := by
  unfold f_X12_isSet at h
  refine op_aload_n (k := 0) dX12_isSet_0 rfl rfl ?_
  refine st_getI (v := I 53 27) dX12_isSet_1 fl_X12_297 kd_53 (by decide) rfl rfl ?_
  refine op_if_le (tgt := 25) dX12_isSet_4 (by decide) (fun c1 => ?_) (fun c1 => ?_)
  · replace h := am_ip c1 h
    refine op_iconst (v := 0) dX12_isSet_25 (by decide) ?_
    cases h
    exact (op_iret dX12_isSet_26 rfl (by decide) ⟨rfl, rfl⟩)
  · replace h := am_ie c1 h
    refine op_iload_n (k := 1) dX12_isSet_7 rfl rfl ?_
    refine op_if_le (tgt := 25) dX12_isSet_8 (by decide) (fun c2 => ?_) (fun c2 => ?_)
    · replace h := am_ip c2 h
      refine op_iconst (v := 0) dX12_isSet_25 (by decide) ?_
      cases h
      exact (op_iret dX12_isSet_26 rfl (by decide) ⟨rfl, rfl⟩)
    · replace h := am_ie c2 h
      refine op_iload_n (k := 1) dX12_isSet_11 rfl rfl ?_
      refine op_iconst (v := 1) dX12_isSet_12 (by decide) ?_
      refine op_aload_n (k := 0) dX12_isSet_13 rfl rfl ?_
      refine st_getI (v := I 53 27) dX12_isSet_14 fl_X12_297 kd_53 (by decide) rfl rfl ?_
      refine op_ishl dX12_isSet_17 ?_
      refine op_icmp_ge (tgt := 25) dX12_isSet_18 (by decide) (fun c3 => ?_) (fun c3 => ?_)
      · replace h := am_ip c3 h
        refine op_iconst (v := 0) dX12_isSet_25 (by decide) ?_
        cases h
        exact (op_iret dX12_isSet_26 rfl (by decide) ⟨rfl, rfl⟩)
      · replace h := am_ie c3 h
        refine op_iconst (v := 1) dX12_isSet_21 (by decide) ?_
        refine op_goto (tgt := 26) dX12_isSet_22 (by decide) ?_
        cases h
        exact (op_iret dX12_isSet_26 rfl (by decide) ⟨rfl, rfl⟩)
theorem t_X12_isSet {l : Launch} {ρ : am_R} {n d gc gs : Nat} {I : Nat → Nat → Int32} {J : Nat → Nat → Int64} {T : Nat} {x1 : Int32} {q : Int32} (hd : 0 * n + 0 ≤ d) (h : f_X12_isSet n I J T x1 = some q) : AW l ρ d M_X12_isSet 0 [(0, .ref 53), (1, .int x1)] [] (am_KD, gc, gs) (I, J, am_RT T) (am_KD, gc, gs) (fun v H' => v = [.int q] ∧ H' = (I, J, am_RT T)) := t_X12_isSet_0 hd h
