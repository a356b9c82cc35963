def f_X12_lie_175 (n : Nat) (k85 : (Nat → Nat → Int32) → (Nat → Nat → Int64) → Nat → Int32 → Int32 → Int32 → Int32 → Int64 → Int64 → Int32 → Int64 → Int64 → Int32 → Option (Int64 × (Nat → Nat → Int32) × (Nat → Nat → Int64) × Nat)) (I : Nat → Nat → Int32) (J : Nat → Nat → Int64) (T : Nat) (x1 : Int32) (x2 : Int32) (x3 : Int32) (x4 : Int32) (y5 : Int64) (y7 : Int64) (x9 : Int32) (y10 : Int64) (y12 : Int64) (x14 : Int32) : Option (Int64 × (Nat → Nat → Int32) × (Nat → Nat → Int64) × Nat) :=
  k85 I J T x1 x2 x3 x4 y5 y7 x9 y10 y12 (x14 + 1)
def f_X12_lie_85 (n : Nat) : Nat → (Nat → Nat → Int32) → (Nat → Nat → Int64) → Nat → Int32 → Int32 → Int32 → Int32 → Int64 → Int64 → Int32 → Int64 → Int64 → Int32 → Option (Int64 × (Nat → Nat → Int32) × (Nat → Nat → Int64) × Nat)
  | 0, _, _, _, _, _, _, _, _, _, _, _, _, _ => none
  | m + 1, I, J, T, x1, x2, x3, x4, y5, y7, x9, y10, y12, x14 =>
    if (I 53 26) < x14 then
     if ok_ix (3 * x1) 18 then
      if x3 = 0 then
       some (x9.toInt64, (am_u I 60 ((3 * x1).toNatClampNeg) x4), J, T)
      else
       (f_X12_partOf n ((am_u I 60 ((3 * x1).toNatClampNeg) x4)) J T ((y5 * y12) - (y10 * y7)) (y7 * y12) (x3 - 1)).bind fun w4 =>
       some (w4, (am_u I 60 ((3 * x1).toNatClampNeg) x4), J, T)
     else none
    else
     if ok_ix (3 * x1) 18 then
      (f_X12_everybody n ((am_u I 60 ((3 * x1).toNatClampNeg) x14)) J T).bind fun w6 =>
      (f_X12_layShares n ((am_u I 60 ((3 * x1).toNatClampNeg) x14)) J T w6 x2).bind fun w7 =>
      if ok_ix x1 6 then
       (f_X12_apart n w7.1 w7.2.1 w7.2.2 x14 x4).bind fun w9 =>
       (some ((w7.2.1 66 x1.toNatClampNeg) + ((((w7.1 53 31).toInt64) * w9.toInt64) * (w7.2.1 53 33)) : Int64)).bind fun u10 =>
       if (lg_cmp (u10 * y12) (y10 * (w7.2.1 53 33))) < 0 then
        f_X12_lie_175 n (f_X12_lie_85 n m) w7.1 w7.2.1 w7.2.2 x1 x2 x3 x4 y5 y7 x14 u10 (w7.2.1 53 33) x14
       else
        f_X12_lie_175 n (f_X12_lie_85 n m) w7.1 w7.2.1 w7.2.2 x1 x2 x3 x4 y5 y7 x9 y10 y12 x14
      else none
     else none
def f_X12_lie (n : Nat) (I : Nat → Nat → Int32) (J : Nat → Nat → Int64) (T : Nat) (x1 : Int32) (x2 : Int32) (x3 : Int32) : Option (Int64 × (Nat → Nat → Int32) × (Nat → Nat → Int64) × Nat) :=
  (f_X12_isRider n ((am_u I 53 0 0)) J T x1).bind fun w1 =>
  if w1 = 0 then
   some ((-1), (am_u I 53 0 0), J, T)
  else
   (f_X12_isLaw n ((am_u I 53 0 0)) J T x2).bind fun w3 =>
   if w3 = 0 then
    some ((-1), (am_u I 53 0 0), J, T)
   else
    (f_X12_isIn n ((am_u I 53 0 0)) J T x3.toInt64 0 2).bind fun w5 =>
    if w5 = 0 then
     some ((-1), (am_u I 53 0 0), J, T)
    else
     if ok_ix (3 * x1) 18 then
      (f_X12_everybody n ((am_u I 53 0 0)) J T).bind fun w8 =>
      (f_X12_layShares n ((am_u I 53 0 0)) J T w8 x2).bind fun w9 =>
      if ok_ix x1 6 then
       f_X12_lie_85 n  n w9.1 w9.2.1 w9.2.2 x1 x2 x3 (I 60 ((3 * x1).toNatClampNeg)) (w9.2.1 66 x1.toNatClampNeg) (w9.2.1 53 33) (I 60 ((3 * x1).toNatClampNeg)) (w9.2.1 66 x1.toNatClampNeg) (w9.2.1 53 33) 1
      else none
     else none
set_option maxRecDepth 100000 in
set_option maxHeartbeats 4000000 in
theorem t_X12_lie_175 {l : Launch} {ρ : am_R} {n d gc gs : Nat} {k85 : (Nat → Nat → Int32) → (Nat → Nat → Int64) → Nat → Int32 → Int32 → Int32 → Int32 → Int64 → Int64 → Int32 → Int64 → Int64 → Int32 → Option (Int64 × (Nat → Nat → Int32) × (Nat → Nat → Int64) × Nat)} {I : Nat → Nat → Int32} {J : Nat → Nat → Int64} {T : Nat} {x1 : Int32} {x2 : Int32} {x3 : Int32} {x4 : Int32} {y5 : Int64} {y7 : Int64} {x9 : Int32} {y10 : Int64} {y12 : Int64} {x14 : Int32} {q : Int64 × (Nat → Nat → Int32) × (Nat → Nat → Int64) × Nat} (hd : 2 * n + 13 ≤ (d + 1))
    (hk85 : ∀ (I : Nat → Nat → Int32) (J : Nat → Nat → Int64) (T : Nat) (x1 : Int32) (x2 : Int32) (x3 : Int32) (x4 : Int32) (y5 : Int64) (y7 : Int64) (x9 : Int32) (y10 : Int64) (y12 : Int64) (x14 : Int32), k85 I J T x1 x2 x3 x4 y5 y7 x9 y10 y12 x14 = some q → AW l ρ (d + 1) M_X12_lie 85 [(0, .ref 53), (1, .int x1), (2, .int x2), (3, .int x3), (4, .int x4), (5, .long y5), (7, .long y7), (9, .int x9), (10, .long y10), (12, .long y12), (14, .int x14)] [] (am_KD, gc, gs) (I, J, am_RT T) (am_KD, gc, gs) (fun v H' => v = [.long q.1] ∧ H' = (q.2.1, q.2.2.1, am_RT (q.2.2.2))))
    (h : f_X12_lie_175 n k85 I J T x1 x2 x3 x4 y5 y7 x9 y10 y12 x14 = some q) : AW l ρ (d + 1) M_X12_lie 175 [(0, .ref 53), (1, .int x1), (2, .int x2), (3, .int x3), (4, .int x4), (5, .long y5), (7, .long y7), (9, .int x9), (10, .long y10), (12, .long y12), (14, .int x14)] [] (am_KD, gc, gs) (I, J, am_RT T) (am_KD, gc, gs) (fun v H' => v = [.long q.1] ∧ H' = (q.2.1, q.2.2.1, am_RT (q.2.2.2))) := by
  unfold f_X12_lie_175 at h
  refine op_iinc (k := 10) (v := x14 + 1) (L' := [(14, .int (x14 + 1)), (0, .ref 53), (1, .int x1), (2, .int x2), (3, .int x3), (4, .int x4), (5, .long y5), (7, .long y7), (9, .int x9), (10, .long y10), (12, .long y12)]) dX12_lie_175 rfl rfl (by decide) rfl ?_
  refine op_goto (tgt := 85) dX12_lie_178 (by decide) ?_
  refine AW.perm [1, 2, 3, 4, 5, 6, 7, 8, 9, 10, 0] rfl ?_
  exact hk85 _ _ _ _ _ _ _ _ _ _ _ _ _ h
set_option maxRecDepth 100000 in
set_option maxHeartbeats 4000000 in
theorem t_X12_lie_85 {l : Launch} {ρ : am_R} {n d gc gs : Nat} {q : Int64 × (Nat → Nat → Int32) × (Nat → Nat → Int64) × Nat} (hd : 2 * n + 13 ≤ (d + 1))
    : ∀ (m : Nat) (I : Nat → Nat → Int32) (J : Nat → Nat → Int64) (T : Nat) (x1 : Int32) (x2 : Int32) (x3 : Int32) (x4 : Int32) (y5 : Int64) (y7 : Int64) (x9 : Int32) (y10 : Int64) (y12 : Int64) (x14 : Int32), f_X12_lie_85 n  m I J T x1 x2 x3 x4 y5 y7 x9 y10 y12 x14 = some q → AW l ρ (d + 1) M_X12_lie 85 [(0, .ref 53), (1, .int x1), (2, .int x2), (3, .int x3), (4, .int x4), (5, .long y5), (7, .long y7), (9, .int x9), (10, .long y10), (12, .long y12), (14, .int x14)] [] (am_KD, gc, gs) (I, J, am_RT T) (am_KD, gc, gs) (fun v H' => v = [.long q.1] ∧ H' = (q.2.1, q.2.2.1, am_RT (q.2.2.2))) := by
  intro m
  induction m with
  | zero =>
    intro I J T x1 x2 x3 x4 y5 y7 x9 y10 y12 x14 h
    rw [f_X12_lie_85] at h
    cases h
  | succ m ih =>
    intro I J T x1 x2 x3 x4 y5 y7 x9 y10 y12 x14 h
    rw [f_X12_lie_85] at h
    refine op_iload (k := 10) dX12_lie_85 rfl ?_
    refine op_aload_n (k := 0) dX12_lie_87 rfl rfl ?_
    refine st_getI (v := I 53 26) dX12_lie_88 fl_X12_294 kd_53 (by decide) rfl rfl ?_
    refine op_icmp_gt (tgt := 181) dX12_lie_91 (by decide) (fun c1 => ?_) (fun c1 => ?_)
    · replace h := am_ip c1 h
      refine op_aload_n (k := 0) dX12_lie_181 rfl rfl ?_
      refine st_getR (z := 60) dX12_lie_182 fl_X12_43 kd_53 (by decide) rfl rr_53_20 ?_
      refine op_iconst (v := 3) dX12_lie_185 (by decide) ?_
      refine op_iload_n (k := 1) dX12_lie_186 rfl rfl ?_
      refine op_imul dX12_lie_187 ?_
      refine op_iload (k := 4) dX12_lie_188 rfl ?_
      obtain ⟨g2, h⟩ := am_gd h
      refine st_iast (k := (3 * x1).toNatClampNeg) dX12_lie_190 kd_60 g2 rfl ?_
      refine op_iload_n (k := 3) dX12_lie_191 rfl rfl ?_
      refine op_if_ne (tgt := 201) dX12_lie_192 (by decide) (fun c3 => ?_) (fun c3 => ?_)
      · replace h := am_ie c3 h
        refine op_lload (k := 5) dX12_lie_201 rfl ?_
        refine op_lload (k := 9) dX12_lie_203 rfl ?_
        refine op_lmul dX12_lie_205 ?_
        refine op_lload (k := 8) dX12_lie_206 rfl ?_
        refine op_lload (k := 6) dX12_lie_208 rfl ?_
        refine op_lmul dX12_lie_210 ?_
        refine op_lsub dX12_lie_211 ?_
        refine op_lload (k := 6) dX12_lie_212 rfl ?_
        refine op_lload (k := 9) dX12_lie_214 rfl ?_
        refine op_lmul dX12_lie_216 ?_
        refine op_iload_n (k := 3) dX12_lie_217 rfl rfl ?_
        refine op_iconst (v := 1) dX12_lie_218 (by decide) ?_
        refine op_isub dX12_lie_219 ?_
        obtain ⟨w4, ew4, h⟩ := am_bd h
        refine op_callS (M' := M_X12_partOf) [.long ((y5 * y12) - (y10 * y7)), .long (y7 * y12), .int (x3 - 1)] (S0 := []) dX12_lie_220 tw_1659 ok_X12_partOf tw_1660 rfl rfl (Nat.le_of_ble_eq_true rfl) (Nat.le_of_ble_eq_true rfl) (t_X12_partOf (by omega) ew4) (am_le_rf _) ?_
        rintro _ _ ⟨rfl, rfl⟩
        cases h
        exact (op_lret dX12_lie_223 rfl ⟨rfl, rfl⟩)
      · replace h := am_ip c3 h
        refine op_iload (k := 7) dX12_lie_195 rfl ?_
        refine op_i2l dX12_lie_197 ?_
        refine op_goto (tgt := 223) dX12_lie_198 (by decide) ?_
        cases h
        exact (op_lret dX12_lie_223 rfl ⟨rfl, rfl⟩)
    · replace h := am_ie c1 h
      refine op_aload_n (k := 0) dX12_lie_94 rfl rfl ?_
      refine st_getR (z := 60) dX12_lie_95 fl_X12_43 kd_53 (by decide) rfl rr_53_20 ?_
      refine op_iconst (v := 3) dX12_lie_98 (by decide) ?_
      refine op_iload_n (k := 1) dX12_lie_99 rfl rfl ?_
      refine op_imul dX12_lie_100 ?_
      refine op_iload (k := 10) dX12_lie_101 rfl ?_
      obtain ⟨g5, h⟩ := am_gd h
      refine st_iast (k := (3 * x1).toNatClampNeg) dX12_lie_103 kd_60 g5 rfl ?_
      refine op_aload_n (k := 0) dX12_lie_104 rfl rfl ?_
      refine op_aload_n (k := 0) dX12_lie_105 rfl rfl ?_
      obtain ⟨w6, ew6, h⟩ := am_bd h
      refine op_callV (M' := M_X12_everybody) [] (S0 := [.ref 53]) dX12_lie_106 tw_1670 ok_X12_everybody tw_1672 tw_89 kd_53 cls_12 rfl rfl rfl (Nat.le_of_ble_eq_true rfl) (Nat.le_of_ble_eq_true rfl) (t_X12_everybody (by omega) ew6) (am_le_rf _) ?_
      rintro _ _ ⟨rfl, rfl⟩
      refine op_iload_n (k := 2) dX12_lie_109 rfl rfl ?_
      obtain ⟨w7, ew7, h⟩ := am_bd h
      refine op_callV (M' := M_X12_layShares) [.int w6, .int x2] (S0 := []) dX12_lie_110 tw_1633 ok_X12_layShares tw_1635 tw_84 kd_53 cls_12 rfl rfl rfl (Nat.le_of_ble_eq_true rfl) (Nat.le_of_ble_eq_true rfl) (t_X12_layShares (by omega) ew7) (am_le_rf _) ?_
      rintro _ _ ⟨rfl, rfl⟩
      refine op_aload_n (k := 0) dX12_lie_113 rfl rfl ?_
      refine st_getR (z := 66) dX12_lie_114 fl_X12_65 kd_53 (by decide) rfl rr_53_32 ?_
      refine op_iload_n (k := 1) dX12_lie_117 rfl rfl ?_
      obtain ⟨g8, h⟩ := am_gd h
      refine st_lald (k := x1.toNatClampNeg) (v := w7.2.1 66 x1.toNatClampNeg) dX12_lie_118 kd_66 g8 rfl rfl ?_
      refine op_aload_n (k := 0) dX12_lie_119 rfl rfl ?_
      refine st_getI (v := w7.1 53 31) dX12_lie_120 fl_X12_61 kd_53 (by decide) rfl rfl ?_
      refine op_i2l dX12_lie_123 ?_
      refine op_aload_n (k := 0) dX12_lie_124 rfl rfl ?_
      refine op_iload (k := 10) dX12_lie_125 rfl ?_
      refine op_iload (k := 4) dX12_lie_127 rfl ?_
      obtain ⟨w9, ew9, h⟩ := am_bd h
      refine op_callV (M' := M_X12_apart) [.int x14, .int x4] (S0 := [.long ((w7.1 53 31).toInt64), .long (w7.2.1 66 x1.toNatClampNeg)]) dX12_lie_129 tw_1594 ok_X12_apart tw_1596 tw_80 kd_53 cls_12 rfl rfl rfl (Nat.le_of_ble_eq_true rfl) (Nat.le_of_ble_eq_true rfl) (t_X12_apart (by omega) ew9) (am_le_rf _) ?_
      rintro _ _ ⟨rfl, rfl⟩
      refine op_i2l dX12_lie_132 ?_
      refine op_lmul dX12_lie_133 ?_
      refine op_aload_n (k := 0) dX12_lie_134 rfl rfl ?_
      refine st_getL (v := w7.2.1 53 33) dX12_lie_135 fl_X12_361 kd_53 (by decide) rfl rfl ?_
      refine op_lmul dX12_lie_138 ?_
      refine op_ladd dX12_lie_139 ?_
      obtain ⟨u10, eu10, h⟩ := am_bd h
      replace eu10 := Option.some.inj eu10
      refine op_nmL eu10 ?_
      refine op_lstore (L' := [(15, .long u10), (0, .ref 53), (1, .int x1), (2, .int x2), (3, .int x3), (4, .int x4), (5, .long y5), (7, .long y7), (9, .int x9), (10, .long y10), (12, .long y12), (14, .int x14)]) dX12_lie_140 (by decide) rfl ?_
      refine op_lload (k := 0) dX12_lie_142 rfl ?_
      refine op_lload (k := 10) dX12_lie_144 rfl ?_
      refine op_lmul dX12_lie_146 ?_
      refine op_lload (k := 9) dX12_lie_147 rfl ?_
      refine op_aload_n (k := 1) dX12_lie_149 rfl rfl ?_
      refine st_getL (v := w7.2.1 53 33) dX12_lie_150 fl_X12_361 kd_53 (by decide) rfl rfl ?_
      refine op_lmul dX12_lie_153 ?_
      refine op_lcmp dX12_lie_154 ?_
      refine op_if_lt (tgt := 161) dX12_lie_155 (by decide) (fun c11 => ?_) (fun c11 => ?_)
      · replace h := am_ip c11 h
        refine op_iload (k := 11) dX12_lie_161 rfl ?_
        refine op_istore (L' := [(9, .int x14), (15, .long u10), (0, .ref 53), (1, .int x1), (2, .int x2), (3, .int x3), (4, .int x4), (5, .long y5), (7, .long y7), (10, .long y10), (12, .long y12), (14, .int x14)]) dX12_lie_163 (by decide) rfl ?_
        refine op_lload (k := 1) dX12_lie_165 rfl ?_
        refine op_lstore (L' := [(10, .long u10), (9, .int x14), (15, .long u10), (0, .ref 53), (1, .int x1), (2, .int x2), (3, .int x3), (4, .int x4), (5, .long y5), (7, .long y7), (12, .long y12), (14, .int x14)]) dX12_lie_167 (by decide) rfl ?_
        refine op_aload_n (k := 3) dX12_lie_169 rfl rfl ?_
        refine st_getL (v := w7.2.1 53 33) dX12_lie_170 fl_X12_361 kd_53 (by decide) rfl rfl ?_
        refine op_lstore (L' := [(12, .long (w7.2.1 53 33)), (10, .long u10), (9, .int x14), (15, .long u10), (0, .ref 53), (1, .int x1), (2, .int x2), (3, .int x3), (4, .int x4), (5, .long y5), (7, .long y7), (14, .int x14)]) dX12_lie_173 (by decide) rfl ?_
        refine AW.perm [4, 5, 6, 7, 8, 9, 10, 2, 1, 0, 11] rfl ?_
        exact t_X12_lie_175 hd ih h
      · replace h := am_ie c11 h
        refine op_goto (tgt := 175) dX12_lie_158 (by decide) ?_
        refine AW.perm [1, 2, 3, 4, 5, 6, 7, 8, 9, 10, 11] rfl ?_
        exact t_X12_lie_175 hd ih h
set_option maxRecDepth 100000 in
set_option maxHeartbeats 4000000 in
theorem t_X12_lie_0 {l : Launch} {ρ : am_R} {n d gc gs : Nat} {I : Nat → Nat → Int32} {J : Nat → Nat → Int64} {T : Nat} {x1 : Int32} {x2 : Int32} {x3 : Int32} {q : Int64 × (Nat → Nat → Int32) × (Nat → Nat → Int64) × Nat} (hd : 2 * n + 13 ≤ (d + 1))
    (h : f_X12_lie n  I J T x1 x2 x3 = some q) : AW l ρ (d + 1) M_X12_lie 0 [(0, .ref 53), (1, .int x1), (2, .int x2), (3, .int x3)] [] (am_KD, gc, gs) (I, J, am_RT T) (am_KD, gc, gs) (fun v H' => v = [.long q.1] ∧ H' = (q.2.1, q.2.2.1, am_RT (q.2.2.2))) := by
  unfold f_X12_lie at h
  refine op_aload_n (k := 0) dX12_lie_0 rfl rfl ?_
  refine op_iconst (v := 0) dX12_lie_1 (by decide) ?_
  refine st_putI dX12_lie_2 fl_X12_108 kd_53 (by decide) rfl ?_
  refine op_aload_n (k := 0) dX12_lie_5 rfl rfl ?_
  refine op_iload_n (k := 1) dX12_lie_6 rfl rfl ?_
  obtain ⟨w1, ew1, h⟩ := am_bd h
  refine op_callV (M' := M_X12_isRider) [.int x1] (S0 := []) dX12_lie_7 tw_1564 ok_X12_isRider tw_1566 tw_75 kd_53 cls_12 rfl rfl rfl (Nat.le_of_ble_eq_true rfl) (Nat.le_of_ble_eq_true rfl) (t_X12_isRider (by omega) ew1) (am_le_rf _) ?_
  rintro _ _ ⟨rfl, rfl⟩
  refine op_if_eq (tgt := 33) dX12_lie_10 (by decide) (fun c2 => ?_) (fun c2 => ?_)
  · replace h := am_ip c2 h
    refine op_ldc2 dX12_lie_33 tw_1632 ?_
    cases h
    exact (op_lret dX12_lie_36 rfl ⟨rfl, rfl⟩)
  · replace h := am_ie c2 h
    refine op_aload_n (k := 0) dX12_lie_13 rfl rfl ?_
    refine op_iload_n (k := 2) dX12_lie_14 rfl rfl ?_
    obtain ⟨w3, ew3, h⟩ := am_bd h
    refine op_callV (M' := M_X12_isLaw) [.int x2] (S0 := []) dX12_lie_15 tw_1628 ok_X12_isLaw tw_1630 tw_83 kd_53 cls_12 rfl rfl rfl (Nat.le_of_ble_eq_true rfl) (Nat.le_of_ble_eq_true rfl) (t_X12_isLaw (by omega) ew3) (am_le_rf _) ?_
    rintro _ _ ⟨rfl, rfl⟩
    refine op_if_eq (tgt := 33) dX12_lie_18 (by decide) (fun c4 => ?_) (fun c4 => ?_)
    · replace h := am_ip c4 h
      refine op_ldc2 dX12_lie_33 tw_1632 ?_
      cases h
      exact (op_lret dX12_lie_36 rfl ⟨rfl, rfl⟩)
    · replace h := am_ie c4 h
      refine op_iload_n (k := 3) dX12_lie_21 rfl rfl ?_
      refine op_i2l dX12_lie_22 ?_
      refine op_lconst (v := 0) dX12_lie_23 (by decide) ?_
      refine op_ldc2 dX12_lie_24 tw_1619 ?_
      obtain ⟨w5, ew5, h⟩ := am_bd h
      refine op_callS (M' := M_X12_isIn) [.long x3.toInt64, .long 0, .long 2] (S0 := []) dX12_lie_27 tw_1390 ok_X12_isIn tw_1391 rfl rfl (Nat.le_of_ble_eq_true rfl) (Nat.le_of_ble_eq_true rfl) (t_X12_isIn (by omega) ew5) (am_le_rf _) ?_
      rintro _ _ ⟨rfl, rfl⟩
      refine op_if_ne (tgt := 37) dX12_lie_30 (by decide) (fun c6 => ?_) (fun c6 => ?_)
      · replace h := am_ie c6 h
        refine op_aload_n (k := 0) dX12_lie_37 rfl rfl ?_
        refine st_getR (z := 60) dX12_lie_38 fl_X12_43 kd_53 (by decide) rfl rr_53_20 ?_
        refine op_iconst (v := 3) dX12_lie_41 (by decide) ?_
        refine op_iload_n (k := 1) dX12_lie_42 rfl rfl ?_
        refine op_imul dX12_lie_43 ?_
        obtain ⟨g7, h⟩ := am_gd h
        refine st_iald (k := (3 * x1).toNatClampNeg) (v := I 60 ((3 * x1).toNatClampNeg)) dX12_lie_44 kd_60 g7 rfl rfl ?_
        refine op_istore (L' := [(4, .int (I 60 ((3 * x1).toNatClampNeg))), (0, .ref 53), (1, .int x1), (2, .int x2), (3, .int x3)]) dX12_lie_45 (by decide) rfl ?_
        refine op_aload_n (k := 1) dX12_lie_47 rfl rfl ?_
        refine op_aload_n (k := 1) dX12_lie_48 rfl rfl ?_
        obtain ⟨w8, ew8, h⟩ := am_bd h
        refine op_callV (M' := M_X12_everybody) [] (S0 := [.ref 53]) dX12_lie_49 tw_1670 ok_X12_everybody tw_1672 tw_89 kd_53 cls_12 rfl rfl rfl (Nat.le_of_ble_eq_true rfl) (Nat.le_of_ble_eq_true rfl) (t_X12_everybody (by omega) ew8) (am_le_rf _) ?_
        rintro _ _ ⟨rfl, rfl⟩
        refine op_iload_n (k := 3) dX12_lie_52 rfl rfl ?_
        obtain ⟨w9, ew9, h⟩ := am_bd h
        refine op_callV (M' := M_X12_layShares) [.int w8, .int x2] (S0 := []) dX12_lie_53 tw_1633 ok_X12_layShares tw_1635 tw_84 kd_53 cls_12 rfl rfl rfl (Nat.le_of_ble_eq_true rfl) (Nat.le_of_ble_eq_true rfl) (t_X12_layShares (by omega) ew9) (am_le_rf _) ?_
        rintro _ _ ⟨rfl, rfl⟩
        refine op_aload_n (k := 1) dX12_lie_56 rfl rfl ?_
        refine st_getR (z := 66) dX12_lie_57 fl_X12_65 kd_53 (by decide) rfl rr_53_32 ?_
        refine op_iload_n (k := 2) dX12_lie_60 rfl rfl ?_
        obtain ⟨g10, h⟩ := am_gd h
        refine st_lald (k := x1.toNatClampNeg) (v := w9.2.1 66 x1.toNatClampNeg) dX12_lie_61 kd_66 g10 rfl rfl ?_
        refine op_lstore (L' := [(5, .long (w9.2.1 66 x1.toNatClampNeg)), (4, .int (I 60 ((3 * x1).toNatClampNeg))), (0, .ref 53), (1, .int x1), (2, .int x2), (3, .int x3)]) dX12_lie_62 (by decide) rfl ?_
        refine op_aload_n (k := 2) dX12_lie_64 rfl rfl ?_
        refine st_getL (v := w9.2.1 53 33) dX12_lie_65 fl_X12_361 kd_53 (by decide) rfl rfl ?_
        refine op_lstore (L' := [(7, .long (w9.2.1 53 33)), (5, .long (w9.2.1 66 x1.toNatClampNeg)), (4, .int (I 60 ((3 * x1).toNatClampNeg))), (0, .ref 53), (1, .int x1), (2, .int x2), (3, .int x3)]) dX12_lie_68 (by decide) rfl ?_
        refine op_iload (k := 2) dX12_lie_70 rfl ?_
        refine op_istore (L' := [(9, .int (I 60 ((3 * x1).toNatClampNeg))), (7, .long (w9.2.1 53 33)), (5, .long (w9.2.1 66 x1.toNatClampNeg)), (4, .int (I 60 ((3 * x1).toNatClampNeg))), (0, .ref 53), (1, .int x1), (2, .int x2), (3, .int x3)]) dX12_lie_72 (by decide) rfl ?_
        refine op_lload (k := 2) dX12_lie_74 rfl ?_
        refine op_lstore (L' := [(10, .long (w9.2.1 66 x1.toNatClampNeg)), (9, .int (I 60 ((3 * x1).toNatClampNeg))), (7, .long (w9.2.1 53 33)), (5, .long (w9.2.1 66 x1.toNatClampNeg)), (4, .int (I 60 ((3 * x1).toNatClampNeg))), (0, .ref 53), (1, .int x1), (2, .int x2), (3, .int x3)]) dX12_lie_76 (by decide) rfl ?_
        refine op_lload (k := 2) dX12_lie_78 rfl ?_
        refine op_lstore (L' := [(12, .long (w9.2.1 53 33)), (10, .long (w9.2.1 66 x1.toNatClampNeg)), (9, .int (I 60 ((3 * x1).toNatClampNeg))), (7, .long (w9.2.1 53 33)), (5, .long (w9.2.1 66 x1.toNatClampNeg)), (4, .int (I 60 ((3 * x1).toNatClampNeg))), (0, .ref 53), (1, .int x1), (2, .int x2), (3, .int x3)]) dX12_lie_80 (by decide) rfl ?_
        refine op_iconst (v := 1) dX12_lie_82 (by decide) ?_
        refine op_istore (L' := [(14, .int 1), (12, .long (w9.2.1 53 33)), (10, .long (w9.2.1 66 x1.toNatClampNeg)), (9, .int (I 60 ((3 * x1).toNatClampNeg))), (7, .long (w9.2.1 53 33)), (5, .long (w9.2.1 66 x1.toNatClampNeg)), (4, .int (I 60 ((3 * x1).toNatClampNeg))), (0, .ref 53), (1, .int x1), (2, .int x2), (3, .int x3)]) dX12_lie_83 (by decide) rfl ?_
        refine AW.perm [7, 8, 9, 10, 6, 5, 4, 3, 2, 1, 0] rfl ?_
        exact t_X12_lie_85 hd  n _ _ _ _ _ _ _ _ _ _ _ _ _ h
      · replace h := am_ip c6 h
        refine op_ldc2 dX12_lie_33 tw_1632 ?_
        cases h
        exact (op_lret dX12_lie_36 rfl ⟨rfl, rfl⟩)
theorem t_X12_lie {l : Launch} {ρ : am_R} {n d gc gs : Nat} {I : Nat → Nat → Int32} {J : Nat → Nat → Int64} {T : Nat} {x1 : Int32} {x2 : Int32} {x3 : Int32} {q : Int64 × (Nat → Nat → Int32) × (Nat → Nat → Int64) × Nat} (hd : 2 * n + 13 ≤ d) (h : f_X12_lie n I J T x1 x2 x3 = some q) : AW l ρ d M_X12_lie 0 [(0, .ref 53), (1, .int x1), (2, .int x2), (3, .int x3)] [] (am_KD, gc, gs) (I, J, am_RT T) (am_KD, gc, gs) (fun v H' => v = [.long q.1] ∧ H' = (q.2.1, q.2.2.1, am_RT (q.2.2.2))) := by
  obtain ⟨d, rfl⟩ : ∃ e, d = e + 1 := ⟨d - 1, by omega⟩
  exact t_X12_lie_0 hd h
def f_X12_move (n : Nat) (I : Nat → Nat → Int32) (J : Nat → Nat → Int64) (T : Nat) (x1 : Int32) (x2 : Int32) : Option (Int32 × (Nat → Nat → Int32)) :=
  (f_X12_isRider n ((am_u I 53 0 0)) J T x1).bind fun w1 =>
  if w1 = 0 then
   some (0, (am_u I 53 0 0))
  else
   (f_X12_isPlace n ((am_u I 53 0 0)) J T x2).bind fun w3 =>
   if w3 = 0 then
    some (0, (am_u I 53 0 0))
   else
    if x2 = 0 then
     some (0, (am_u I 53 0 0))
    else
     if ok_ix (3 * x1) 18 then
      if (I 60 ((3 * x1).toNatClampNeg)) = x2 then
       some (0, (am_u I 53 0 0))
      else
       if ok_ix (3 * x1) 18 then
        some (1, (am_u (am_u I 53 0 0) 60 ((3 * x1).toNatClampNeg) x2))
       else none
     else none
set_option maxRecDepth 100000 in
set_option maxHeartbeats 4000000 in
theorem t_X12_move_0 {l : Launch} {ρ : am_R} {n d gc gs : Nat} {I : Nat → Nat → Int32} {J : Nat → Nat → Int64} {T : Nat} {x1 : Int32} {x2 : Int32} {q : Int32 × (Nat → Nat → Int32)} (hd : 0 * n + 1 ≤ (d + 1))
    (h : f_X12_move n  I J T x1 x2 = some q) : AW l ρ (d + 1) M_X12_move 0 [(0, .ref 53), (1, .int x1), (2, .int x2)] [] (am_KD, gc, gs) (I, J, am_RT T) (am_KD, gc, gs) (fun v H' => v = [.int q.1] ∧ H' = (q.2, J, am_RT T)) := by
  unfold f_X12_move at h
  refine op_aload_n (k := 0) dX12_move_0 rfl rfl ?_
  refine op_iconst (v := 0) dX12_move_1 (by decide) ?_
  refine st_putI dX12_move_2 fl_X12_108 kd_53 (by decide) rfl ?_
  refine op_aload_n (k := 0) dX12_move_5 rfl rfl ?_
  refine op_iload_n (k := 1) dX12_move_6 rfl rfl ?_
  obtain ⟨w1, ew1, h⟩ := am_bd h
  refine op_callV (M' := M_X12_isRider) [.int x1] (S0 := []) dX12_move_7 tw_1564 ok_X12_isRider tw_1566 tw_75 kd_53 cls_12 rfl rfl rfl (Nat.le_of_ble_eq_true rfl) (Nat.le_of_ble_eq_true rfl) (t_X12_isRider (by omega) ew1) (am_le_rf _) ?_
  rintro _ _ ⟨rfl, rfl⟩
  refine op_if_eq (tgt := 37) dX12_move_10 (by decide) (fun c2 => ?_) (fun c2 => ?_)
  · replace h := am_ip c2 h
    refine op_iconst (v := 0) dX12_move_37 (by decide) ?_
    cases h
    exact (op_iret dX12_move_38 rfl (by decide) ⟨rfl, rfl⟩)
  · replace h := am_ie c2 h
    refine op_aload_n (k := 0) dX12_move_13 rfl rfl ?_
    refine op_iload_n (k := 2) dX12_move_14 rfl rfl ?_
    obtain ⟨w3, ew3, h⟩ := am_bd h
    refine op_callV (M' := M_X12_isPlace) [.int x2] (S0 := []) dX12_move_15 tw_1586 ok_X12_isPlace tw_1588 tw_79 kd_53 cls_12 rfl rfl rfl (Nat.le_of_ble_eq_true rfl) (Nat.le_of_ble_eq_true rfl) (t_X12_isPlace (by omega) ew3) (am_le_rf _) ?_
    rintro _ _ ⟨rfl, rfl⟩
    refine op_if_eq (tgt := 37) dX12_move_18 (by decide) (fun c4 => ?_) (fun c4 => ?_)
    · replace h := am_ip c4 h
      refine op_iconst (v := 0) dX12_move_37 (by decide) ?_
      cases h
      exact (op_iret dX12_move_38 rfl (by decide) ⟨rfl, rfl⟩)
    · replace h := am_ie c4 h
      refine op_iload_n (k := 2) dX12_move_21 rfl rfl ?_
      refine op_if_eq (tgt := 37) dX12_move_22 (by decide) (fun c5 => ?_) (fun c5 => ?_)
      · replace h := am_ip c5 h
        refine op_iconst (v := 0) dX12_move_37 (by decide) ?_
        cases h
        exact (op_iret dX12_move_38 rfl (by decide) ⟨rfl, rfl⟩)
      · replace h := am_ie c5 h
        refine op_aload_n (k := 0) dX12_move_25 rfl rfl ?_
        refine st_getR (z := 60) dX12_move_26 fl_X12_43 kd_53 (by decide) rfl rr_53_20 ?_
        refine op_iconst (v := 3) dX12_move_29 (by decide) ?_
        refine op_iload_n (k := 1) dX12_move_30 rfl rfl ?_
        refine op_imul dX12_move_31 ?_
        obtain ⟨g6, h⟩ := am_gd h
        refine st_iald (k := (3 * x1).toNatClampNeg) (v := I 60 ((3 * x1).toNatClampNeg)) dX12_move_32 kd_60 g6 rfl rfl ?_
        refine op_iload_n (k := 2) dX12_move_33 rfl rfl ?_
        refine op_icmp_ne (tgt := 39) dX12_move_34 (by decide) (fun c7 => ?_) (fun c7 => ?_)
        · replace h := am_ie c7 h
          refine op_aload_n (k := 0) dX12_move_39 rfl rfl ?_
          refine st_getR (z := 60) dX12_move_40 fl_X12_43 kd_53 (by decide) rfl rr_53_20 ?_
          refine op_iconst (v := 3) dX12_move_43 (by decide) ?_
          refine op_iload_n (k := 1) dX12_move_44 rfl rfl ?_
          refine op_imul dX12_move_45 ?_
          refine op_iload_n (k := 2) dX12_move_46 rfl rfl ?_
          obtain ⟨g8, h⟩ := am_gd h
          refine st_iast (k := (3 * x1).toNatClampNeg) dX12_move_47 kd_60 g8 rfl ?_
          refine op_iconst (v := 1) dX12_move_48 (by decide) ?_
          cases h
          exact (op_iret dX12_move_49 rfl (by decide) ⟨rfl, rfl⟩)
        · replace h := am_ip c7 h
          refine op_iconst (v := 0) dX12_move_37 (by decide) ?_
          cases h
          exact (op_iret dX12_move_38 rfl (by decide) ⟨rfl, rfl⟩)
theorem t_X12_move {l : Launch} {ρ : am_R} {n d gc gs : Nat} {I : Nat → Nat → Int32} {J : Nat → Nat → Int64} {T : Nat} {x1 : Int32} {x2 : Int32} {q : Int32 × (Nat → Nat → Int32)} (hd : 0 * n + 1 ≤ d) (h : f_X12_move n I J T x1 x2 = some q) : AW l ρ d M_X12_move 0 [(0, .ref 53), (1, .int x1), (2, .int x2)] [] (am_KD, gc, gs) (I, J, am_RT T) (am_KD, gc, gs) (fun v H' => v = [.int q.1] ∧ H' = (q.2, J, am_RT T)) := by
  obtain ⟨d, rfl⟩ : ∃ e, d = e + 1 := ⟨d - 1, by omega⟩
  exact t_X12_move_0 hd h
def f_X12_night (n : Nat) (I : Nat → Nat → Int32) (J : Nat → Nat → Int64) (T : Nat) (x1 : Int32) (x2 : Int32) : Option (Int32 × (Nat → Nat → Int32) × (Nat → Nat → Int64) × Nat) :=
  (f_X12_isSet n ((am_u I 53 0 0)) J T x1).bind fun w1 =>
  if w1 = 0 then
   some ((-1), (am_u I 53 0 0), J, T)
  else
   (f_X12_isLaw n ((am_u I 53 0 0)) J T x2).bind fun w3 =>
   if w3 = 0 then
    some ((-1), (am_u I 53 0 0), J, T)
   else
    (f_X12_ridesBy n ((am_u I 53 0 0)) J T x1 x2).bind fun w5 =>
    some (w5.1 53 51, w5.1, w5.2.1, w5.2.2)
set_option maxRecDepth 100000 in
set_option maxHeartbeats 4000000 in
theorem t_X12_night_0 {l : Launch} {ρ : am_R} {n d gc gs : Nat} {I : Nat → Nat → Int32} {J : Nat → Nat → Int64} {T : Nat} {x1 : Int32} {x2 : Int32} {q : Int32 × (Nat → Nat → Int32) × (Nat → Nat → Int64) × Nat} (hd : 2 * n + 14 ≤ (d + 1))
    (h : f_X12_night n  I J T x1 x2 = some q) : AW l ρ (d + 1) M_X12_night 0 [(0, .ref 53), (1, .int x1), (2, .int x2)] [] (am_KD, gc, gs) (I, J, am_RT T) (am_KD, gc, gs) (fun v H' => v = [.int q.1] ∧ H' = (q.2.1, q.2.2.1, am_RT (q.2.2.2))) := by
  unfold f_X12_night at h
  refine op_aload_n (k := 0) dX12_night_0 rfl rfl ?_
  refine op_iconst (v := 0) dX12_night_1 (by decide) ?_
  refine st_putI dX12_night_2 fl_X12_108 kd_53 (by decide) rfl ?_
  refine op_aload_n (k := 0) dX12_night_5 rfl rfl ?_
  refine op_iload_n (k := 1) dX12_night_6 rfl rfl ?_
  obtain ⟨w1, ew1, h⟩ := am_bd h
  refine op_callV (M' := M_X12_isSet) [.int x1] (S0 := []) dX12_night_7 tw_1615 ok_X12_isSet tw_1617 tw_81 kd_53 cls_12 rfl rfl rfl (Nat.le_of_ble_eq_true rfl) (Nat.le_of_ble_eq_true rfl) (t_X12_isSet (by omega) ew1) (am_le_rf _) ?_
  rintro _ _ ⟨rfl, rfl⟩
  refine op_if_eq (tgt := 21) dX12_night_10 (by decide) (fun c2 => ?_) (fun c2 => ?_)
  · replace h := am_ip c2 h
    refine op_iconst (v := (-1)) dX12_night_21 (by decide) ?_
    cases h
    exact (op_iret dX12_night_22 rfl rfl ⟨rfl, rfl⟩)
  · replace h := am_ie c2 h
    refine op_aload_n (k := 0) dX12_night_13 rfl rfl ?_
    refine op_iload_n (k := 2) dX12_night_14 rfl rfl ?_
    obtain ⟨w3, ew3, h⟩ := am_bd h
    refine op_callV (M' := M_X12_isLaw) [.int x2] (S0 := []) dX12_night_15 tw_1628 ok_X12_isLaw tw_1630 tw_83 kd_53 cls_12 rfl rfl rfl (Nat.le_of_ble_eq_true rfl) (Nat.le_of_ble_eq_true rfl) (t_X12_isLaw (by omega) ew3) (am_le_rf _) ?_
    rintro _ _ ⟨rfl, rfl⟩
    refine op_if_ne (tgt := 23) dX12_night_18 (by decide) (fun c4 => ?_) (fun c4 => ?_)
    · replace h := am_ie c4 h
      refine op_aload_n (k := 0) dX12_night_23 rfl rfl ?_
      refine op_iload_n (k := 1) dX12_night_24 rfl rfl ?_
      refine op_iload_n (k := 2) dX12_night_25 rfl rfl ?_
      obtain ⟨w5, ew5, h⟩ := am_bd h
      refine op_callV (M' := M_X12_ridesBy) [.int x1, .int x2] (S0 := []) dX12_night_26 tw_1760 ok_X12_ridesBy tw_1762 tw_100 kd_53 cls_12 rfl rfl rfl (Nat.le_of_ble_eq_true rfl) (Nat.le_of_ble_eq_true rfl) (t_X12_ridesBy (by omega) ew5) (am_le_rf _) ?_
      rintro _ _ ⟨rfl, rfl⟩
      refine op_aload_n (k := 0) dX12_night_29 rfl rfl ?_
      refine st_getI (v := w5.1 53 51) dX12_night_30 fl_X12_303 kd_53 (by decide) rfl rfl ?_
      cases h
      exact (op_iret dX12_night_33 rfl rfl ⟨rfl, rfl⟩)
    · replace h := am_ip c4 h
      refine op_iconst (v := (-1)) dX12_night_21 (by decide) ?_
      cases h
      exact (op_iret dX12_night_22 rfl rfl ⟨rfl, rfl⟩)
theorem t_X12_night {l : Launch} {ρ : am_R} {n d gc gs : Nat} {I : Nat → Nat → Int32} {J : Nat → Nat → Int64} {T : Nat} {x1 : Int32} {x2 : Int32} {q : Int32 × (Nat → Nat → Int32) × (Nat → Nat → Int64) × Nat} (hd : 2 * n + 14 ≤ d) (h : f_X12_night n I J T x1 x2 = some q) : AW l ρ d M_X12_night 0 [(0, .ref 53), (1, .int x1), (2, .int x2)] [] (am_KD, gc, gs) (I, J, am_RT T) (am_KD, gc, gs) (fun v H' => v = [.int q.1] ∧ H' = (q.2.1, q.2.2.1, am_RT (q.2.2.2))) := by
  obtain ⟨d, rfl⟩ : ∃ e, d = e + 1 := ⟨d - 1, by omega⟩
  exact t_X12_night_0 hd h
def f_X12_order (n : Nat) (I : Nat → Nat → Int32) (J : Nat → Nat → Int64) (T : Nat) (x1 : Int32) (x2 : Int32) (x3 : Int32) : Option (Int32 × (Nat → Nat → Int32)) :=
  (f_X12_isSet n ((am_u I 53 0 0)) J T x1).bind fun w1 =>
  if w1 = 0 then
   some ((-1), (am_u I 53 0 0))
  else
   (f_X12_isIn n ((am_u I 53 0 0)) J T x2.toInt64 0 2).bind fun w3 =>
   if w3 = 0 then
    some ((-1), (am_u I 53 0 0))
   else
    (f_X12_isIn n ((am_u I 53 0 0)) J T x3.toInt64 0 1).bind fun w5 =>
    if w5 = 0 then
     some ((-1), (am_u I 53 0 0))
    else
     (f_X12_goOrders n ((am_u (am_u (am_u I 53 0 0) 53 36 0) 53 37 ((-1)))) J T x1 0 x2).bind fun w7 =>
     if x3 = 0 then
      some (w7 53 37, w7)
     else
      some (w7 53 38, w7)
set_option maxRecDepth 100000 in
set_option maxHeartbeats 4000000 in
theorem t_X12_order_0 {l : Launch} {ρ : am_R} {n d gc gs : Nat} {I : Nat → Nat → Int32} {J : Nat → Nat → Int64} {T : Nat} {x1 : Int32} {x2 : Int32} {x3 : Int32} {q : Int32 × (Nat → Nat → Int32)} (hd : 1 * n + 5 ≤ (d + 1))
    (h : f_X12_order n  I J T x1 x2 x3 = some q) : AW l ρ (d + 1) M_X12_order 0 [(0, .ref 53), (1, .int x1), (2, .int x2), (3, .int x3)] [] (am_KD, gc, gs) (I, J, am_RT T) (am_KD, gc, gs) (fun v H' => v = [.int q.1] ∧ H' = (q.2, J, am_RT T)) := by
  unfold f_X12_order at h
  refine op_aload_n (k := 0) dX12_order_0 rfl rfl ?_
  refine op_iconst (v := 0) dX12_order_1 (by decide) ?_
  refine st_putI dX12_order_2 fl_X12_108 kd_53 (by decide) rfl ?_
  refine op_aload_n (k := 0) dX12_order_5 rfl rfl ?_
  refine op_iload_n (k := 1) dX12_order_6 rfl rfl ?_
  obtain ⟨w1, ew1, h⟩ := am_bd h
  refine op_callV (M' := M_X12_isSet) [.int x1] (S0 := []) dX12_order_7 tw_1615 ok_X12_isSet tw_1617 tw_81 kd_53 cls_12 rfl rfl rfl (Nat.le_of_ble_eq_true rfl) (Nat.le_of_ble_eq_true rfl) (t_X12_isSet (by omega) ew1) (am_le_rf _) ?_
  rintro _ _ ⟨rfl, rfl⟩
  refine op_if_eq (tgt := 35) dX12_order_10 (by decide) (fun c2 => ?_) (fun c2 => ?_)
  · replace h := am_ip c2 h
    refine op_iconst (v := (-1)) dX12_order_35 (by decide) ?_
    cases h
    exact (op_iret dX12_order_36 rfl rfl ⟨rfl, rfl⟩)
  · replace h := am_ie c2 h
    refine op_iload_n (k := 2) dX12_order_13 rfl rfl ?_
    refine op_i2l dX12_order_14 ?_
    refine op_lconst (v := 0) dX12_order_15 (by decide) ?_
    refine op_ldc2 dX12_order_16 tw_1619 ?_
    obtain ⟨w3, ew3, h⟩ := am_bd h
    refine op_callS (M' := M_X12_isIn) [.long x2.toInt64, .long 0, .long 2] (S0 := []) dX12_order_19 tw_1390 ok_X12_isIn tw_1391 rfl rfl (Nat.le_of_ble_eq_true rfl) (Nat.le_of_ble_eq_true rfl) (t_X12_isIn (by omega) ew3) (am_le_rf _) ?_
    rintro _ _ ⟨rfl, rfl⟩
    refine op_if_eq (tgt := 35) dX12_order_22 (by decide) (fun c4 => ?_) (fun c4 => ?_)
    · replace h := am_ip c4 h
      refine op_iconst (v := (-1)) dX12_order_35 (by decide) ?_
      cases h
      exact (op_iret dX12_order_36 rfl rfl ⟨rfl, rfl⟩)
    · replace h := am_ie c4 h
      refine op_iload_n (k := 3) dX12_order_25 rfl rfl ?_
      refine op_i2l dX12_order_26 ?_
      refine op_lconst (v := 0) dX12_order_27 (by decide) ?_
      refine op_lconst (v := 1) dX12_order_28 (by decide) ?_
      obtain ⟨w5, ew5, h⟩ := am_bd h
      refine op_callS (M' := M_X12_isIn) [.long x3.toInt64, .long 0, .long 1] (S0 := []) dX12_order_29 tw_1390 ok_X12_isIn tw_1391 rfl rfl (Nat.le_of_ble_eq_true rfl) (Nat.le_of_ble_eq_true rfl) (t_X12_isIn (by omega) ew5) (am_le_rf _) ?_
      rintro _ _ ⟨rfl, rfl⟩
      refine op_if_ne (tgt := 37) dX12_order_32 (by decide) (fun c6 => ?_) (fun c6 => ?_)
      · replace h := am_ie c6 h
        refine op_aload_n (k := 0) dX12_order_37 rfl rfl ?_
        refine op_iconst (v := 0) dX12_order_38 (by decide) ?_
        refine st_putI dX12_order_39 fl_X12_393 kd_53 (by decide) rfl ?_
        refine op_aload_n (k := 0) dX12_order_42 rfl rfl ?_
        refine op_iconst (v := (-1)) dX12_order_43 (by decide) ?_
        refine st_putI dX12_order_44 fl_X12_399 kd_53 (by decide) rfl ?_
        refine op_aload_n (k := 0) dX12_order_47 rfl rfl ?_
        refine op_iload_n (k := 1) dX12_order_48 rfl rfl ?_
        refine op_iconst (v := 0) dX12_order_49 (by decide) ?_
        refine op_iload_n (k := 2) dX12_order_50 rfl rfl ?_
        obtain ⟨w7, ew7, h⟩ := am_bd h
        refine op_callV (M' := M_X12_goOrders) [.int x1, .int 0, .int x2] (S0 := []) dX12_order_51 tw_1686 ok_X12_goOrders tw_1688 tw_91 kd_53 cls_12 rfl rfl rfl (Nat.le_of_ble_eq_true rfl) (Nat.le_of_ble_eq_true rfl) (t_X12_goOrders (by omega) ew7) (am_le_rf _) ?_
        rintro _ _ ⟨rfl, rfl⟩
        refine op_iload_n (k := 3) dX12_order_54 rfl rfl ?_
        refine op_if_ne (tgt := 65) dX12_order_55 (by decide) (fun c8 => ?_) (fun c8 => ?_)
        · replace h := am_ie c8 h
          refine op_aload_n (k := 0) dX12_order_65 rfl rfl ?_
          refine st_getI (v := w7 53 38) dX12_order_66 fl_X12_402 kd_53 (by decide) rfl rfl ?_
          cases h
          exact (op_iret dX12_order_69 rfl rfl ⟨rfl, rfl⟩)
        · replace h := am_ip c8 h
          refine op_aload_n (k := 0) dX12_order_58 rfl rfl ?_
          refine st_getI (v := w7 53 37) dX12_order_59 fl_X12_399 kd_53 (by decide) rfl rfl ?_
          refine op_goto (tgt := 69) dX12_order_62 (by decide) ?_
          cases h
          exact (op_iret dX12_order_69 rfl rfl ⟨rfl, rfl⟩)
      · replace h := am_ip c6 h
        refine op_iconst (v := (-1)) dX12_order_35 (by decide) ?_
        cases h
        exact (op_iret dX12_order_36 rfl rfl ⟨rfl, rfl⟩)
theorem t_X12_order {l : Launch} {ρ : am_R} {n d gc gs : Nat} {I : Nat → Nat → Int32} {J : Nat → Nat → Int64} {T : Nat} {x1 : Int32} {x2 : Int32} {x3 : Int32} {q : Int32 × (Nat → Nat → Int32)} (hd : 1 * n + 5 ≤ d) (h : f_X12_order n I J T x1 x2 x3 = some q) : AW l ρ d M_X12_order 0 [(0, .ref 53), (1, .int x1), (2, .int x2), (3, .int x3)] [] (am_KD, gc, gs) (I, J, am_RT T) (am_KD, gc, gs) (fun v H' => v = [.int q.1] ∧ H' = (q.2, J, am_RT T)) := by
  obtain ⟨d, rfl⟩ : ∃ e, d = e + 1 := ⟨d - 1, by omega⟩
  exact t_X12_order_0 hd h
def f_X12_paid (n : Nat) (I : Nat → Nat → Int32) (J : Nat → Nat → Int64) (T : Nat) (x1 : Int32) : Option (Int64 × (Nat → Nat → Int32)) :=
  (f_X12_isRider n ((am_u I 53 0 0)) J T x1).bind fun w1 =>
  if w1 = 0 then
   some ((-1), (am_u I 53 0 0))
  else
   if ok_ix x1 6 then
    some (J 74 x1.toNatClampNeg, (am_u I 53 0 0))
   else none
set_option maxRecDepth 100000 in
set_option maxHeartbeats 4000000 in
theorem t_X12_paid_0 {l : Launch} {ρ : am_R} {n d gc gs : Nat} {I : Nat → Nat → Int32} {J : Nat → Nat → Int64} {T : Nat} {x1 : Int32} {q : Int64 × (Nat → Nat → Int32)} (hd : 0 * n + 1 ≤ (d + 1))
    (h : f_X12_paid n  I J T x1 = some q) : AW l ρ (d + 1) M_X12_paid 0 [(0, .ref 53), (1, .int x1)] [] (am_KD, gc, gs) (I, J, am_RT T) (am_KD, gc, gs) (fun v H' => v = [.long q.1] ∧ H' = (q.2, J, am_RT T)) := by
  unfold f_X12_paid at h
  refine op_aload_n (k := 0) dX12_paid_0 rfl rfl ?_
  refine op_iconst (v := 0) dX12_paid_1 (by decide) ?_
  refine st_putI dX12_paid_2 fl_X12_108 kd_53 (by decide) rfl ?_
  refine op_aload_n (k := 0) dX12_paid_5 rfl rfl ?_
  refine op_iload_n (k := 1) dX12_paid_6 rfl rfl ?_
  obtain ⟨w1, ew1, h⟩ := am_bd h
  refine op_callV (M' := M_X12_isRider) [.int x1] (S0 := []) dX12_paid_7 tw_1564 ok_X12_isRider tw_1566 tw_75 kd_53 cls_12 rfl rfl rfl (Nat.le_of_ble_eq_true rfl) (Nat.le_of_ble_eq_true rfl) (t_X12_isRider (by omega) ew1) (am_le_rf _) ?_
  rintro _ _ ⟨rfl, rfl⟩
  refine op_if_eq (tgt := 22) dX12_paid_10 (by decide) (fun c2 => ?_) (fun c2 => ?_)
  · replace h := am_ip c2 h
    refine op_ldc2 dX12_paid_22 tw_1632 ?_
    cases h
    exact (op_lret dX12_paid_25 rfl ⟨rfl, rfl⟩)
  · replace h := am_ie c2 h
    refine op_aload_n (k := 0) dX12_paid_13 rfl rfl ?_
    refine st_getR (z := 74) dX12_paid_14 fl_X12_90 kd_53 (by decide) rfl rr_53_49 ?_
    refine op_iload_n (k := 1) dX12_paid_17 rfl rfl ?_
    obtain ⟨g3, h⟩ := am_gd h
    refine st_lald (k := x1.toNatClampNeg) (v := J 74 x1.toNatClampNeg) dX12_paid_18 kd_74 g3 rfl rfl ?_
    refine op_goto (tgt := 25) dX12_paid_19 (by decide) ?_
    cases h
    exact (op_lret dX12_paid_25 rfl ⟨rfl, rfl⟩)
theorem t_X12_paid {l : Launch} {ρ : am_R} {n d gc gs : Nat} {I : Nat → Nat → Int32} {J : Nat → Nat → Int64} {T : Nat} {x1 : Int32} {q : Int64 × (Nat → Nat → Int32)} (hd : 0 * n + 1 ≤ d) (h : f_X12_paid n I J T x1 = some q) : AW l ρ d M_X12_paid 0 [(0, .ref 53), (1, .int x1)] [] (am_KD, gc, gs) (I, J, am_RT T) (am_KD, gc, gs) (fun v H' => v = [.long q.1] ∧ H' = (q.2, J, am_RT T)) := by
  obtain ⟨d, rfl⟩ : ∃ e, d = e + 1 := ⟨d - 1, by omega⟩
  exact t_X12_paid_0 hd h
def f_X12_ride_57 (n : Nat) : Nat → (Nat → Nat → Int32) → (Nat → Nat → Int64) → Nat → Int32 → Int32 → Int32 → Int32 → Option (Int32 × (Nat → Nat → Int32))
  | 0, _, _, _, _, _, _, _ => none
  | m + 1, I, J, T, x3, x4, x5, x6 =>
    if x6 < 0 then
     if x4 = 0 then
      (f_X12_rideAll n I J T 0).bind fun w3 =>
      if ok_ix x3 6 then
       some (w3.2 68 x3.toNatClampNeg, w3.2)
      else none
     else
      some ((-1), I)
    else
     if ok_ix x6 6 then
      if ok_ix x6 6 then
       (f_X12_isRider n ((am_u I 67 x6.toNatClampNeg (x4 - x4 / 10 * 10))) J T (x4 - x4 / 10 * 10)).bind fun w7 =>
       if w7 = 0 then
        some ((-1), (am_u I 67 x6.toNatClampNeg (x4 - x4 / 10 * 10)))
       else
        if ok_ix x6 6 then
         (f_X12_has n ((am_u I 67 x6.toNatClampNeg (x4 - x4 / 10 * 10))) J T x5 (x4 - x4 / 10 * 10)).bind fun w10 =>
         if w10 = 0 then
          some ((-1), (am_u I 67 x6.toNatClampNeg (x4 - x4 / 10 * 10)))
         else
          if ok_ix x6 6 then
           f_X12_ride_57 n  m ((am_u I 67 x6.toNatClampNeg (x4 - x4 / 10 * 10))) J T x3 (x4 / 10) (x5 &&& ((1 <<< ((x4 - x4 / 10 * 10) &&& 31)) ^^^ ((-1)))) (x6 + (-1))
          else none
        else none
      else none
     else none
def f_X12_ride (n : Nat) (I : Nat → Nat → Int32) (J : Nat → Nat → Int64) (T : Nat) (x1 : Int32) (x2 : Int32) (x3 : Int32) : Option (Int32 × (Nat → Nat → Int32)) :=
  (f_X12_isSet n ((am_u I 53 0 0)) J T x1).bind fun w1 =>
  if w1 = 0 then
   some ((-1), (am_u I 53 0 0))
  else
   (f_X12_isRider n ((am_u I 53 0 0)) J T x3).bind fun w3 =>
   if w3 = 0 then
    some ((-1), (am_u I 53 0 0))
   else
    (f_X12_has n ((am_u I 53 0 0)) J T x1 x3).bind fun w5 =>
    if w5 = 0 then
     some ((-1), (am_u I 53 0 0))
    else
     if 0 ≤ x2 then
      (f_J6_bitCount_0f7a4 n ((am_u I 53 0 0)) J T x1).bind fun w8 =>
      f_X12_ride_57 n  n ((am_u (am_u I 53 0 0) 53 36 w8)) J T x3 x2 x1 (w8 - 1)
     else
      some ((-1), (am_u I 53 0 0))
set_option maxRecDepth 100000 in
set_option maxHeartbeats 4000000 in
theorem t_X12_ride_57 {l : Launch} {ρ : am_R} {n d gc gs : Nat} {q : Int32 × (Nat → Nat → Int32)} (hd : 0 * n + 4 ≤ (d + 1))
    : ∀ (m : Nat) (I : Nat → Nat → Int32) (J : Nat → Nat → Int64) (T : Nat) (x3 : Int32) (x4 : Int32) (x5 : Int32) (x6 : Int32), f_X12_ride_57 n  m I J T x3 x4 x5 x6 = some q → AW l ρ (d + 1) M_X12_ride 57 [(0, .ref 53), (3, .int x3), (4, .int x4), (5, .int x5), (6, .int x6)] [] (am_KD, gc, gs) (I, J, am_RT T) (am_KD, gc, gs) (fun v H' => v = [.int q.1] ∧ H' = (q.2, J, am_RT T)) := by
  intro m
  induction m with
  | zero =>
    intro I J T x3 x4 x5 x6 h
    rw [f_X12_ride_57] at h
    cases h
  | succ m ih =>
    intro I J T x3 x4 x5 x6 h
    rw [f_X12_ride_57] at h
    refine op_iload (k := 4) dX12_ride_57 rfl ?_
    refine op_if_lt (tgt := 134) dX12_ride_59 (by decide) (fun c1 => ?_) (fun c1 => ?_)
    · replace h := am_ip c1 h
      refine op_iload (k := 2) dX12_ride_134 rfl ?_
      refine op_if_eq (tgt := 141) dX12_ride_136 (by decide) (fun c2 => ?_) (fun c2 => ?_)
      · replace h := am_ip c2 h
        refine op_aload_n (k := 0) dX12_ride_141 rfl rfl ?_
        refine op_iconst (v := 0) dX12_ride_142 (by decide) ?_
        obtain ⟨w3, ew3, h⟩ := am_bd h
        refine op_callV (M' := M_X12_rideAll) [.int 0] (S0 := []) dX12_ride_143 tw_1690 ok_X12_rideAll tw_1692 tw_92 kd_53 cls_12 rfl rfl rfl (Nat.le_of_ble_eq_true rfl) (Nat.le_of_ble_eq_true rfl) (t_X12_rideAll (by omega) ew3) (am_le_rf _) ?_
        rintro _ _ ⟨rfl, rfl⟩
        refine op_pop dX12_ride_146 rfl ?_
        refine op_aload_n (k := 0) dX12_ride_147 rfl rfl ?_
        refine st_getR (z := 68) dX12_ride_148 fl_X12_72 kd_53 (by decide) rfl rr_53_35 ?_
        refine op_iload_n (k := 1) dX12_ride_151 rfl rfl ?_
        obtain ⟨g4, h⟩ := am_gd h
        refine st_iald (k := x3.toNatClampNeg) (v := w3.2 68 x3.toNatClampNeg) dX12_ride_152 kd_68 g4 rfl rfl ?_
        cases h
        exact (op_iret dX12_ride_153 rfl rfl ⟨rfl, rfl⟩)
      · replace h := am_ie c2 h
        refine op_iconst (v := (-1)) dX12_ride_139 (by decide) ?_
        cases h
        exact (op_iret dX12_ride_140 rfl rfl ⟨rfl, rfl⟩)
    · replace h := am_ie c1 h
      refine op_aload_n (k := 0) dX12_ride_62 rfl rfl ?_
      refine st_getR (z := 67) dX12_ride_63 fl_X12_69 kd_53 (by decide) rfl rr_53_34 ?_
      refine op_iload (k := 4) dX12_ride_66 rfl ?_
      refine op_iload (k := 2) dX12_ride_68 rfl ?_
      refine op_bipush (v := 10) dX12_ride_70 (by decide) ?_
      refine op_irem dX12_ride_72 (by decide) ?_
      obtain ⟨g5, h⟩ := am_gd h
      refine st_iast (k := x6.toNatClampNeg) dX12_ride_73 kd_67 g5 rfl ?_
      refine op_iload (k := 2) dX12_ride_74 rfl ?_
      refine op_bipush (v := 10) dX12_ride_76 (by decide) ?_
      refine op_idiv dX12_ride_78 (by decide) ?_
      refine op_istore (L' := [(4, .int (x4 / 10)), (0, .ref 53), (3, .int x3), (5, .int x5), (6, .int x6)]) dX12_ride_79 (by decide) rfl ?_
      refine op_aload_n (k := 1) dX12_ride_81 rfl rfl ?_
      refine op_aload_n (k := 1) dX12_ride_82 rfl rfl ?_
      refine st_getR (z := 67) dX12_ride_83 fl_X12_69 kd_53 (by decide) rfl rr_53_34 ?_
      refine op_iload (k := 4) dX12_ride_86 rfl ?_
      obtain ⟨g6, h⟩ := am_gd h
      refine st_iald (k := x6.toNatClampNeg) (v := x4 - x4 / 10 * 10) dX12_ride_88 kd_67 g6 rfl (by simp [am_u, am_row]) ?_
      obtain ⟨w7, ew7, h⟩ := am_bd h
      refine op_callV (M' := M_X12_isRider) [.int (x4 - x4 / 10 * 10)] (S0 := []) dX12_ride_89 tw_1564 ok_X12_isRider tw_1566 tw_75 kd_53 cls_12 rfl rfl rfl (Nat.le_of_ble_eq_true rfl) (Nat.le_of_ble_eq_true rfl) (t_X12_isRider (by omega) ew7) (am_le_rf _) ?_
      rintro _ _ ⟨rfl, rfl⟩
      refine op_if_eq (tgt := 110) dX12_ride_92 (by decide) (fun c8 => ?_) (fun c8 => ?_)
      · replace h := am_ip c8 h
        refine op_iconst (v := (-1)) dX12_ride_110 (by decide) ?_
        cases h
        exact (op_iret dX12_ride_111 rfl rfl ⟨rfl, rfl⟩)
      · replace h := am_ie c8 h
        refine op_iload (k := 3) dX12_ride_95 rfl ?_
        refine op_aload_n (k := 1) dX12_ride_97 rfl rfl ?_
        refine st_getR (z := 67) dX12_ride_98 fl_X12_69 kd_53 (by decide) rfl rr_53_34 ?_
        refine op_iload (k := 4) dX12_ride_101 rfl ?_
        obtain ⟨g9, h⟩ := am_gd h
        refine st_iald (k := x6.toNatClampNeg) (v := x4 - x4 / 10 * 10) dX12_ride_103 kd_67 g9 rfl (by simp [am_u, am_row]) ?_
        obtain ⟨w10, ew10, h⟩ := am_bd h
        refine op_callS (M' := M_X12_has) [.int x5, .int (x4 - x4 / 10 * 10)] (S0 := []) dX12_ride_104 tw_1471 ok_X12_has tw_1472 rfl rfl (Nat.le_of_ble_eq_true rfl) (Nat.le_of_ble_eq_true rfl) (t_X12_has (by omega) ew10) (am_le_rf _) ?_
        rintro _ _ ⟨rfl, rfl⟩
        refine op_if_ne (tgt := 112) dX12_ride_107 (by decide) (fun c11 => ?_) (fun c11 => ?_)
        · replace h := am_ie c11 h
          refine op_iload (k := 3) dX12_ride_112 rfl ?_
          refine op_iconst (v := 1) dX12_ride_114 (by decide) ?_
          refine op_aload_n (k := 1) dX12_ride_115 rfl rfl ?_
          refine st_getR (z := 67) dX12_ride_116 fl_X12_69 kd_53 (by decide) rfl rr_53_34 ?_
          refine op_iload (k := 4) dX12_ride_119 rfl ?_
          obtain ⟨g12, h⟩ := am_gd h
          refine st_iald (k := x6.toNatClampNeg) (v := x4 - x4 / 10 * 10) dX12_ride_121 kd_67 g12 rfl (by simp [am_u, am_row]) ?_
          refine op_ishl dX12_ride_122 ?_
          refine op_iconst (v := (-1)) dX12_ride_123 (by decide) ?_
          refine op_ixor dX12_ride_124 ?_
          refine op_iand dX12_ride_125 ?_
          refine op_istore (L' := [(5, .int (x5 &&& ((1 <<< ((x4 - x4 / 10 * 10) &&& 31)) ^^^ ((-1))))), (4, .int (x4 / 10)), (0, .ref 53), (3, .int x3), (6, .int x6)]) dX12_ride_126 (by decide) rfl ?_
          refine op_iinc (k := 4) (v := x6 + (-1)) (L' := [(6, .int (x6 + (-1))), (5, .int (x5 &&& ((1 <<< ((x4 - x4 / 10 * 10) &&& 31)) ^^^ ((-1))))), (4, .int (x4 / 10)), (0, .ref 53), (3, .int x3)]) dX12_ride_128 rfl rfl (by decide) rfl ?_
          refine op_goto (tgt := 57) dX12_ride_131 (by decide) ?_
          refine AW.perm [3, 4, 2, 1, 0] rfl ?_
          exact ih _ _ _ _ _ _ _ h
        · replace h := am_ip c11 h
          refine op_iconst (v := (-1)) dX12_ride_110 (by decide) ?_
          cases h
          exact (op_iret dX12_ride_111 rfl rfl ⟨rfl, rfl⟩)
set_option maxRecDepth 100000 in
set_option maxHeartbeats 4000000 in
theorem t_X12_ride_0 {l : Launch} {ρ : am_R} {n d gc gs : Nat} {I : Nat → Nat → Int32} {J : Nat → Nat → Int64} {T : Nat} {x1 : Int32} {x2 : Int32} {x3 : Int32} {q : Int32 × (Nat → Nat → Int32)} (hd : 0 * n + 4 ≤ (d + 1))
    (h : f_X12_ride n  I J T x1 x2 x3 = some q) : AW l ρ (d + 1) M_X12_ride 0 [(0, .ref 53), (1, .int x1), (2, .int x2), (3, .int x3)] [] (am_KD, gc, gs) (I, J, am_RT T) (am_KD, gc, gs) (fun v H' => v = [.int q.1] ∧ H' = (q.2, J, am_RT T)) := by
  unfold f_X12_ride at h
  refine op_aload_n (k := 0) dX12_ride_0 rfl rfl ?_
  refine op_iconst (v := 0) dX12_ride_1 (by decide) ?_
  refine st_putI dX12_ride_2 fl_X12_108 kd_53 (by decide) rfl ?_
  refine op_aload_n (k := 0) dX12_ride_5 rfl rfl ?_
  refine op_iload_n (k := 1) dX12_ride_6 rfl rfl ?_
  obtain ⟨w1, ew1, h⟩ := am_bd h
  refine op_callV (M' := M_X12_isSet) [.int x1] (S0 := []) dX12_ride_7 tw_1615 ok_X12_isSet tw_1617 tw_81 kd_53 cls_12 rfl rfl rfl (Nat.le_of_ble_eq_true rfl) (Nat.le_of_ble_eq_true rfl) (t_X12_isSet (by omega) ew1) (am_le_rf _) ?_
  rintro _ _ ⟨rfl, rfl⟩
  refine op_if_eq (tgt := 33) dX12_ride_10 (by decide) (fun c2 => ?_) (fun c2 => ?_)
  · replace h := am_ip c2 h
    refine op_iconst (v := (-1)) dX12_ride_33 (by decide) ?_
    cases h
    exact (op_iret dX12_ride_34 rfl rfl ⟨rfl, rfl⟩)
  · replace h := am_ie c2 h
    refine op_aload_n (k := 0) dX12_ride_13 rfl rfl ?_
    refine op_iload_n (k := 3) dX12_ride_14 rfl rfl ?_
    obtain ⟨w3, ew3, h⟩ := am_bd h
    refine op_callV (M' := M_X12_isRider) [.int x3] (S0 := []) dX12_ride_15 tw_1564 ok_X12_isRider tw_1566 tw_75 kd_53 cls_12 rfl rfl rfl (Nat.le_of_ble_eq_true rfl) (Nat.le_of_ble_eq_true rfl) (t_X12_isRider (by omega) ew3) (am_le_rf _) ?_
    rintro _ _ ⟨rfl, rfl⟩
    refine op_if_eq (tgt := 33) dX12_ride_18 (by decide) (fun c4 => ?_) (fun c4 => ?_)
    · replace h := am_ip c4 h
      refine op_iconst (v := (-1)) dX12_ride_33 (by decide) ?_
      cases h
      exact (op_iret dX12_ride_34 rfl rfl ⟨rfl, rfl⟩)
    · replace h := am_ie c4 h
      refine op_iload_n (k := 1) dX12_ride_21 rfl rfl ?_
      refine op_iload_n (k := 3) dX12_ride_22 rfl rfl ?_
      obtain ⟨w5, ew5, h⟩ := am_bd h
      refine op_callS (M' := M_X12_has) [.int x1, .int x3] (S0 := []) dX12_ride_23 tw_1471 ok_X12_has tw_1472 rfl rfl (Nat.le_of_ble_eq_true rfl) (Nat.le_of_ble_eq_true rfl) (t_X12_has (by omega) ew5) (am_le_rf _) ?_
      rintro _ _ ⟨rfl, rfl⟩
      refine op_if_eq (tgt := 33) dX12_ride_26 (by decide) (fun c6 => ?_) (fun c6 => ?_)
      · replace h := am_ip c6 h
        refine op_iconst (v := (-1)) dX12_ride_33 (by decide) ?_
        cases h
        exact (op_iret dX12_ride_34 rfl rfl ⟨rfl, rfl⟩)
      · replace h := am_ie c6 h
        refine op_iload_n (k := 2) dX12_ride_29 rfl rfl ?_
        refine op_if_ge (tgt := 35) dX12_ride_30 (by decide) (fun c7 => ?_) (fun c7 => ?_)
        · replace h := am_ip c7 h
          refine op_iload_n (k := 2) dX12_ride_35 rfl rfl ?_
          refine op_istore (L' := [(4, .int x2), (0, .ref 53), (1, .int x1), (2, .int x2), (3, .int x3)]) dX12_ride_36 (by decide) rfl ?_
          refine op_iload_n (k := 2) dX12_ride_38 rfl rfl ?_
          refine op_istore (L' := [(5, .int x1), (4, .int x2), (0, .ref 53), (1, .int x1), (2, .int x2), (3, .int x3)]) dX12_ride_39 (by decide) rfl ?_
          refine op_aload_n (k := 2) dX12_ride_41 rfl rfl ?_
          refine op_iload_n (k := 3) dX12_ride_42 rfl rfl ?_
          obtain ⟨w8, ew8, h⟩ := am_bd h
          refine op_callS (M' := M_J6_bitCount_0f7a4) [.int x1] (S0 := [.ref 53]) dX12_ride_43 tw_1637 ok_J6_bitCount_0f7a4 tw_797 rfl rfl (Nat.le_of_ble_eq_true rfl) (Nat.le_of_ble_eq_true rfl) (t_J6_bitCount_0f7a4 (by omega) ew8) (am_le_rf _) ?_
          rintro _ _ ⟨rfl, rfl⟩
          refine st_putI dX12_ride_46 fl_X12_393 kd_53 (by decide) rfl ?_
          refine op_aload_n (k := 2) dX12_ride_49 rfl rfl ?_
          refine st_getI (v := w8) dX12_ride_50 fl_X12_393 kd_53 (by decide) rfl rfl ?_
          refine op_iconst (v := 1) dX12_ride_53 (by decide) ?_
          refine op_isub dX12_ride_54 ?_
          refine op_istore (L' := [(6, .int (w8 - 1)), (5, .int x1), (4, .int x2), (0, .ref 53), (1, .int x1), (2, .int x2), (3, .int x3)]) dX12_ride_55 (by decide) rfl ?_
          refine AW.perm [3, 6, 2, 1, 0] rfl ?_
          exact t_X12_ride_57 hd  n _ _ _ _ _ _ _ h
        · replace h := am_ie c7 h
          refine op_iconst (v := (-1)) dX12_ride_33 (by decide) ?_
          cases h
          exact (op_iret dX12_ride_34 rfl rfl ⟨rfl, rfl⟩)
theorem t_X12_ride {l : Launch} {ρ : am_R} {n d gc gs : Nat} {I : Nat → Nat → Int32} {J : Nat → Nat → Int64} {T : Nat} {x1 : Int32} {x2 : Int32} {x3 : Int32} {q : Int32 × (Nat → Nat → Int32)} (hd : 0 * n + 4 ≤ d) (h : f_X12_ride n I J T x1 x2 x3 = some q) : AW l ρ d M_X12_ride 0 [(0, .ref 53), (1, .int x1), (2, .int x2), (3, .int x3)] [] (am_KD, gc, gs) (I, J, am_RT T) (am_KD, gc, gs) (fun v H' => v = [.int q.1] ∧ H' = (q.2, J, am_RT T)) := by
  obtain ⟨d, rfl⟩ : ∃ e, d = e + 1 := ⟨d - 1, by omega⟩
  exact t_X12_ride_0 hd h
def f_X12_rider_26 (n : Nat) (I : Nat → Nat → Int32) (J : Nat → Nat → Int64) (T : Nat) (x1 : Int32) (x2 : Int32) (s1 : Int32) : Option (Int32 × (Nat → Nat → Int32)) :=
  if s1 ≤ 0 then
   if 3 ≤ x2 then
    if x2 = 3 then
     (f_X12_milesOf n ((am_u I 53 0 s1)) J T (1 <<< (x1 &&& 31))).bind fun w5 =>
     some (w5, (am_u I 53 0 s1))
    else
     (f_X12_costOf n ((am_u I 53 0 s1)) J T (1 <<< (x1 &&& 31))).bind fun w4 =>
     some (w4, (am_u I 53 0 s1))
   else
    if ok_ix ((3 * x1) + x2) 18 then
     some (I 60 (((3 * x1) + x2).toNatClampNeg), (am_u I 53 0 s1))
    else none
  else
   some (0, (am_u I 53 0 s1))
def f_X12_rider_25 (n : Nat) (I : Nat → Nat → Int32) (J : Nat → Nat → Int64) (T : Nat) (x1 : Int32) (x2 : Int32) : Option (Int32 × (Nat → Nat → Int32)) :=
  f_X12_rider_26 n  I J T x1 x2 1
def f_X12_rider (n : Nat) (I : Nat → Nat → Int32) (J : Nat → Nat → Int64) (T : Nat) (x1 : Int32) (x2 : Int32) : Option (Int32 × (Nat → Nat → Int32)) :=
  (f_X12_isRider n I J T x1).bind fun w1 =>
  if w1 = 0 then
   f_X12_rider_25 n  I J T x1 x2
  else
   (f_X12_isIn n I J T x2.toInt64 0 4).bind fun w3 =>
   if w3 = 0 then
    f_X12_rider_25 n  I J T x1 x2
   else
    f_X12_rider_26 n  I J T x1 x2 0
set_option maxRecDepth 100000 in
set_option maxHeartbeats 4000000 in
theorem t_X12_rider_26 {l : Launch} {ρ : am_R} {n d gc gs : Nat} {I : Nat → Nat → Int32} {J : Nat → Nat → Int64} {T : Nat} {x1 : Int32} {x2 : Int32} {s1 : Int32} {q : Int32 × (Nat → Nat → Int32)} (hd : 0 * n + 4 ≤ (d + 1))
    (h : f_X12_rider_26 n  I J T x1 x2 s1 = some q) : AW l ρ (d + 1) M_X12_rider 26 [(0, .ref 53), (1, .int x1), (2, .int x2)] [.int s1, .ref 53] (am_KD, gc, gs) (I, J, am_RT T) (am_KD, gc, gs) (fun v H' => v = [.int q.1] ∧ H' = (q.2, J, am_RT T)) := by
  unfold f_X12_rider_26 at h
  refine st_putI dX12_rider_26 fl_X12_108 kd_53 (by decide) rfl ?_
  refine op_aload_n (k := 0) dX12_rider_29 rfl rfl ?_
  refine st_getI (v := s1) dX12_rider_30 fl_X12_108 kd_53 (by decide) rfl rfl ?_
  refine op_if_le (tgt := 38) dX12_rider_33 (by decide) (fun c1 => ?_) (fun c1 => ?_)
  · replace h := am_ip c1 h
    refine op_iload_n (k := 2) dX12_rider_38 rfl rfl ?_
    refine op_iconst (v := 3) dX12_rider_39 (by decide) ?_
    refine op_icmp_ge (tgt := 56) dX12_rider_40 (by decide) (fun c2 => ?_) (fun c2 => ?_)
    · replace h := am_ip c2 h
      refine op_iload_n (k := 2) dX12_rider_56 rfl rfl ?_
      refine op_iconst (v := 3) dX12_rider_57 (by decide) ?_
      refine op_icmp_ne (tgt := 71) dX12_rider_58 (by decide) (fun c3 => ?_) (fun c3 => ?_)
      · replace h := am_ie c3 h
        refine op_aload_n (k := 0) dX12_rider_71 rfl rfl ?_
        refine op_iconst (v := 1) dX12_rider_72 (by decide) ?_
        refine op_iload_n (k := 1) dX12_rider_73 rfl rfl ?_
        refine op_ishl dX12_rider_74 ?_
        obtain ⟨w4, ew4, h⟩ := am_bd h
        refine op_callV (M' := M_X12_costOf) [.int (1 <<< (x1 &&& 31))] (S0 := []) dX12_rider_75 tw_1577 ok_X12_costOf tw_1579 tw_78 kd_53 cls_12 rfl rfl rfl (Nat.le_of_ble_eq_true rfl) (Nat.le_of_ble_eq_true rfl) (t_X12_costOf (by omega) ew4) (am_le_rf _) ?_
        rintro _ _ ⟨rfl, rfl⟩
        cases h
        exact (op_iret dX12_rider_78 rfl rfl ⟨rfl, rfl⟩)
      · replace h := am_ip c3 h
        refine op_aload_n (k := 0) dX12_rider_61 rfl rfl ?_
        refine op_iconst (v := 1) dX12_rider_62 (by decide) ?_
        refine op_iload_n (k := 1) dX12_rider_63 rfl rfl ?_
        refine op_ishl dX12_rider_64 ?_
        obtain ⟨w5, ew5, h⟩ := am_bd h
        refine op_callV (M' := M_X12_milesOf) [.int (1 <<< (x1 &&& 31))] (S0 := []) dX12_rider_65 tw_1569 ok_X12_milesOf tw_1571 tw_76 kd_53 cls_12 rfl rfl rfl (Nat.le_of_ble_eq_true rfl) (Nat.le_of_ble_eq_true rfl) (t_X12_milesOf (by omega) ew5) (am_le_rf _) ?_
        rintro _ _ ⟨rfl, rfl⟩
        refine op_goto (tgt := 78) dX12_rider_68 (by decide) ?_
        cases h
        exact (op_iret dX12_rider_78 rfl rfl ⟨rfl, rfl⟩)
    · replace h := am_ie c2 h
      refine op_aload_n (k := 0) dX12_rider_43 rfl rfl ?_
      refine st_getR (z := 60) dX12_rider_44 fl_X12_43 kd_53 (by decide) rfl rr_53_20 ?_
      refine op_iconst (v := 3) dX12_rider_47 (by decide) ?_
      refine op_iload_n (k := 1) dX12_rider_48 rfl rfl ?_
      refine op_imul dX12_rider_49 ?_
      refine op_iload_n (k := 2) dX12_rider_50 rfl rfl ?_
      refine op_iadd dX12_rider_51 ?_
      obtain ⟨g6, h⟩ := am_gd h
      refine st_iald (k := ((3 * x1) + x2).toNatClampNeg) (v := I 60 (((3 * x1) + x2).toNatClampNeg)) dX12_rider_52 kd_60 g6 rfl rfl ?_
      refine op_goto (tgt := 78) dX12_rider_53 (by decide) ?_
      cases h
      exact (op_iret dX12_rider_78 rfl rfl ⟨rfl, rfl⟩)
  · replace h := am_ie c1 h
    refine op_iconst (v := 0) dX12_rider_36 (by decide) ?_
    cases h
    exact (op_iret dX12_rider_37 rfl rfl ⟨rfl, rfl⟩)
set_option maxRecDepth 100000 in
set_option maxHeartbeats 4000000 in
theorem t_X12_rider_25 {l : Launch} {ρ : am_R} {n d gc gs : Nat} {I : Nat → Nat → Int32} {J : Nat → Nat → Int64} {T : Nat} {x1 : Int32} {x2 : Int32} {q : Int32 × (Nat → Nat → Int32)} (hd : 0 * n + 4 ≤ (d + 1))
    (h : f_X12_rider_25 n  I J T x1 x2 = some q) : AW l ρ (d + 1) M_X12_rider 25 [(0, .ref 53), (1, .int x1), (2, .int x2)] [.ref 53] (am_KD, gc, gs) (I, J, am_RT T) (am_KD, gc, gs) (fun v H' => v = [.int q.1] ∧ H' = (q.2, J, am_RT T)) := by
  unfold f_X12_rider_25 at h
  refine op_iconst (v := 1) dX12_rider_25 (by decide) ?_
  exact t_X12_rider_26 hd  h
set_option maxRecDepth 100000 in
set_option maxHeartbeats 4000000 in
theorem t_X12_rider_0 {l : Launch} {ρ : am_R} {n d gc gs : Nat} {I : Nat → Nat → Int32} {J : Nat → Nat → Int64} {T : Nat} {x1 : Int32} {x2 : Int32} {q : Int32 × (Nat → Nat → Int32)} (hd : 0 * n + 4 ≤ (d + 1))
    (h : f_X12_rider n  I J T x1 x2 = some q) : AW l ρ (d + 1) M_X12_rider 0 [(0, .ref 53), (1, .int x1), (2, .int x2)] [] (am_KD, gc, gs) (I, J, am_RT T) (am_KD, gc, gs) (fun v H' => v = [.int q.1] ∧ H' = (q.2, J, am_RT T)) := by
  unfold f_X12_rider at h
  refine op_aload_n (k := 0) dX12_rider_0 rfl rfl ?_
  refine op_aload_n (k := 0) dX12_rider_1 rfl rfl ?_
  refine op_iload_n (k := 1) dX12_rider_2 rfl rfl ?_
  obtain ⟨w1, ew1, h⟩ := am_bd h
  refine op_callV (M' := M_X12_isRider) [.int x1] (S0 := [.ref 53]) dX12_rider_3 tw_1564 ok_X12_isRider tw_1566 tw_75 kd_53 cls_12 rfl rfl rfl (Nat.le_of_ble_eq_true rfl) (Nat.le_of_ble_eq_true rfl) (t_X12_isRider (by omega) ew1) (am_le_rf _) ?_
  rintro _ _ ⟨rfl, rfl⟩
  refine op_if_eq (tgt := 25) dX12_rider_6 (by decide) (fun c2 => ?_) (fun c2 => ?_)
  · replace h := am_ip c2 h
    exact t_X12_rider_25 hd  h
  · replace h := am_ie c2 h
    refine op_iload_n (k := 2) dX12_rider_9 rfl rfl ?_
    refine op_i2l dX12_rider_10 ?_
    refine op_lconst (v := 0) dX12_rider_11 (by decide) ?_
    refine op_ldc2 dX12_rider_12 tw_1568 ?_
    obtain ⟨w3, ew3, h⟩ := am_bd h
    refine op_callS (M' := M_X12_isIn) [.long x2.toInt64, .long 0, .long 4] (S0 := [.ref 53]) dX12_rider_15 tw_1390 ok_X12_isIn tw_1391 rfl rfl (Nat.le_of_ble_eq_true rfl) (Nat.le_of_ble_eq_true rfl) (t_X12_isIn (by omega) ew3) (am_le_rf _) ?_
    rintro _ _ ⟨rfl, rfl⟩
    refine op_if_eq (tgt := 25) dX12_rider_18 (by decide) (fun c4 => ?_) (fun c4 => ?_)
    · replace h := am_ip c4 h
      exact t_X12_rider_25 hd  h
    · replace h := am_ie c4 h
      refine op_iconst (v := 0) dX12_rider_21 (by decide) ?_
      refine op_goto (tgt := 26) dX12_rider_22 (by decide) ?_
      exact t_X12_rider_26 hd  h
theorem t_X12_rider {l : Launch} {ρ : am_R} {n d gc gs : Nat} {I : Nat → Nat → Int32} {J : Nat → Nat → Int64} {T : Nat} {x1 : Int32} {x2 : Int32} {q : Int32 × (Nat → Nat → Int32)} (hd : 0 * n + 4 ≤ d) (h : f_X12_rider n I J T x1 x2 = some q) : AW l ρ d M_X12_rider 0 [(0, .ref 53), (1, .int x1), (2, .int x2)] [] (am_KD, gc, gs) (I, J, am_RT T) (am_KD, gc, gs) (fun v H' => v = [.int q.1] ∧ H' = (q.2, J, am_RT T)) := by
  obtain ⟨d, rfl⟩ : ∃ e, d = e + 1 := ⟨d - 1, by omega⟩
  exact t_X12_rider_0 hd h
def f_X12_see (n : Nat) (I : Nat → Nat → Int32) (J : Nat → Nat → Int64) (T : Nat) (x1 : Int32) (x2 : Int32) (x3 : Int32) : Option (Int32 × (Nat → Nat → Int32)) :=
  (f_X12_isRider n ((am_u I 53 0 0)) J T x1).bind fun w1 =>
  if w1 = 0 then
   some ((-1), (am_u I 53 0 0))
  else
   (f_X12_isIn n ((am_u I 53 0 0)) J T x2.toInt64 0 99999).bind fun w3 =>
   if w3 = 0 then
    some ((-1), (am_u I 53 0 0))
   else
    (f_X12_isIn n ((am_u I 53 0 0)) J T x3.toInt64 1 999).bind fun w5 =>
    if w5 = 0 then
     some ((-1), (am_u I 53 0 0))
    else
     if (I 53 48) = 10 then
      some ((-1), (am_u I 53 0 0))
     else
      if ok_ix (I 53 48) 10 then
       if ok_ix (I 53 48) 10 then
        if ok_ix (I 53 48) 10 then
         some ((I 53 48) + 1, (am_u (am_u (am_u (am_u (am_u I 53 0 0) 71 ((I 53 48).toNatClampNeg) x1) 72 ((I 53 48).toNatClampNeg) x2) 73 ((I 53 48).toNatClampNeg) x3) 53 48 ((I 53 48) + 1)))
        else none
       else none
      else none
set_option maxRecDepth 100000 in
set_option maxHeartbeats 4000000 in
theorem t_X12_see_0 {l : Launch} {ρ : am_R} {n d gc gs : Nat} {I : Nat → Nat → Int32} {J : Nat → Nat → Int64} {T : Nat} {x1 : Int32} {x2 : Int32} {x3 : Int32} {q : Int32 × (Nat → Nat → Int32)} (hd : 0 * n + 1 ≤ (d + 1))
    (h : f_X12_see n  I J T x1 x2 x3 = some q) : AW l ρ (d + 1) M_X12_see 0 [(0, .ref 53), (1, .int x1), (2, .int x2), (3, .int x3)] [] (am_KD, gc, gs) (I, J, am_RT T) (am_KD, gc, gs) (fun v H' => v = [.int q.1] ∧ H' = (q.2, J, am_RT T)) := by
  unfold f_X12_see at h
  refine op_aload_n (k := 0) dX12_see_0 rfl rfl ?_
  refine op_iconst (v := 0) dX12_see_1 (by decide) ?_
  refine st_putI dX12_see_2 fl_X12_108 kd_53 (by decide) rfl ?_
  refine op_aload_n (k := 0) dX12_see_5 rfl rfl ?_
  refine op_iload_n (k := 1) dX12_see_6 rfl rfl ?_
  obtain ⟨w1, ew1, h⟩ := am_bd h
  refine op_callV (M' := M_X12_isRider) [.int x1] (S0 := []) dX12_see_7 tw_1564 ok_X12_isRider tw_1566 tw_75 kd_53 cls_12 rfl rfl rfl (Nat.le_of_ble_eq_true rfl) (Nat.le_of_ble_eq_true rfl) (t_X12_isRider (by omega) ew1) (am_le_rf _) ?_
  rintro _ _ ⟨rfl, rfl⟩
  refine op_if_eq (tgt := 46) dX12_see_10 (by decide) (fun c2 => ?_) (fun c2 => ?_)
  · replace h := am_ip c2 h
    refine op_iconst (v := (-1)) dX12_see_46 (by decide) ?_
    cases h
    exact (op_iret dX12_see_47 rfl rfl ⟨rfl, rfl⟩)
  · replace h := am_ie c2 h
    refine op_iload_n (k := 2) dX12_see_13 rfl rfl ?_
    refine op_i2l dX12_see_14 ?_
    refine op_lconst (v := 0) dX12_see_15 (by decide) ?_
    refine op_ldc2 dX12_see_16 tw_1750 ?_
    obtain ⟨w3, ew3, h⟩ := am_bd h
    refine op_callS (M' := M_X12_isIn) [.long x2.toInt64, .long 0, .long 99999] (S0 := []) dX12_see_19 tw_1390 ok_X12_isIn tw_1391 rfl rfl (Nat.le_of_ble_eq_true rfl) (Nat.le_of_ble_eq_true rfl) (t_X12_isIn (by omega) ew3) (am_le_rf _) ?_
    rintro _ _ ⟨rfl, rfl⟩
    refine op_if_eq (tgt := 46) dX12_see_22 (by decide) (fun c4 => ?_) (fun c4 => ?_)
    · replace h := am_ip c4 h
      refine op_iconst (v := (-1)) dX12_see_46 (by decide) ?_
      cases h
      exact (op_iret dX12_see_47 rfl rfl ⟨rfl, rfl⟩)
    · replace h := am_ie c4 h
      refine op_iload_n (k := 3) dX12_see_25 rfl rfl ?_
      refine op_i2l dX12_see_26 ?_
      refine op_lconst (v := 1) dX12_see_27 (by decide) ?_
      refine op_ldc2 dX12_see_28 tw_1751 ?_
      obtain ⟨w5, ew5, h⟩ := am_bd h
      refine op_callS (M' := M_X12_isIn) [.long x3.toInt64, .long 1, .long 999] (S0 := []) dX12_see_31 tw_1390 ok_X12_isIn tw_1391 rfl rfl (Nat.le_of_ble_eq_true rfl) (Nat.le_of_ble_eq_true rfl) (t_X12_isIn (by omega) ew5) (am_le_rf _) ?_
      rintro _ _ ⟨rfl, rfl⟩
      refine op_if_eq (tgt := 46) dX12_see_34 (by decide) (fun c6 => ?_) (fun c6 => ?_)
      · replace h := am_ip c6 h
        refine op_iconst (v := (-1)) dX12_see_46 (by decide) ?_
        cases h
        exact (op_iret dX12_see_47 rfl rfl ⟨rfl, rfl⟩)
      · replace h := am_ie c6 h
        refine op_aload_n (k := 0) dX12_see_37 rfl rfl ?_
        refine st_getI (v := I 53 48) dX12_see_38 fl_X12_300 kd_53 (by decide) rfl rfl ?_
        refine op_bipush (v := 10) dX12_see_41 (by decide) ?_
        refine op_icmp_ne (tgt := 48) dX12_see_43 (by decide) (fun c7 => ?_) (fun c7 => ?_)
        · replace h := am_ie c7 h
          refine op_aload_n (k := 0) dX12_see_48 rfl rfl ?_
          refine st_getR (z := 71) dX12_see_49 fl_X12_81 kd_53 (by decide) rfl rr_53_45 ?_
          refine op_aload_n (k := 0) dX12_see_52 rfl rfl ?_
          refine st_getI (v := I 53 48) dX12_see_53 fl_X12_300 kd_53 (by decide) rfl rfl ?_
          refine op_iload_n (k := 1) dX12_see_56 rfl rfl ?_
          obtain ⟨g8, h⟩ := am_gd h
          refine st_iast (k := (I 53 48).toNatClampNeg) dX12_see_57 kd_71 g8 rfl ?_
          refine op_aload_n (k := 0) dX12_see_58 rfl rfl ?_
          refine st_getR (z := 72) dX12_see_59 fl_X12_84 kd_53 (by decide) rfl rr_53_46 ?_
          refine op_aload_n (k := 0) dX12_see_62 rfl rfl ?_
          refine st_getI (v := I 53 48) dX12_see_63 fl_X12_300 kd_53 (by decide) rfl rfl ?_
          refine op_iload_n (k := 2) dX12_see_66 rfl rfl ?_
          obtain ⟨g9, h⟩ := am_gd h
          refine st_iast (k := (I 53 48).toNatClampNeg) dX12_see_67 kd_72 g9 rfl ?_
          refine op_aload_n (k := 0) dX12_see_68 rfl rfl ?_
          refine st_getR (z := 73) dX12_see_69 fl_X12_87 kd_53 (by decide) rfl rr_53_47 ?_
          refine op_aload_n (k := 0) dX12_see_72 rfl rfl ?_
          refine st_getI (v := I 53 48) dX12_see_73 fl_X12_300 kd_53 (by decide) rfl rfl ?_
          refine op_iload_n (k := 3) dX12_see_76 rfl rfl ?_
          obtain ⟨g10, h⟩ := am_gd h
          refine st_iast (k := (I 53 48).toNatClampNeg) dX12_see_77 kd_73 g10 rfl ?_
          refine op_aload_n (k := 0) dX12_see_78 rfl rfl ?_
          refine op_dup dX12_see_79 rfl ?_
          refine st_getI (v := I 53 48) dX12_see_80 fl_X12_300 kd_53 (by decide) rfl rfl ?_
          refine op_iconst (v := 1) dX12_see_83 (by decide) ?_
          refine op_iadd dX12_see_84 ?_
          refine st_putI dX12_see_85 fl_X12_300 kd_53 (by decide) rfl ?_
          refine op_aload_n (k := 0) dX12_see_88 rfl rfl ?_
          refine st_getI (v := (I 53 48) + 1) dX12_see_89 fl_X12_300 kd_53 (by decide) rfl rfl ?_
          cases h
          exact (op_iret dX12_see_92 rfl rfl ⟨rfl, rfl⟩)
        · replace h := am_ip c7 h
          refine op_iconst (v := (-1)) dX12_see_46 (by decide) ?_
          cases h
          exact (op_iret dX12_see_47 rfl rfl ⟨rfl, rfl⟩)
theorem t_X12_see {l : Launch} {ρ : am_R} {n d gc gs : Nat} {I : Nat → Nat → Int32} {J : Nat → Nat → Int64} {T : Nat} {x1 : Int32} {x2 : Int32} {x3 : Int32} {q : Int32 × (Nat → Nat → Int32)} (hd : 0 * n + 1 ≤ d) (h : f_X12_see n I J T x1 x2 x3 = some q) : AW l ρ d M_X12_see 0 [(0, .ref 53), (1, .int x1), (2, .int x2), (3, .int x3)] [] (am_KD, gc, gs) (I, J, am_RT T) (am_KD, gc, gs) (fun v H' => v = [.int q.1] ∧ H' = (q.2, J, am_RT T)) := by
  obtain ⟨d, rfl⟩ : ∃ e, d = e + 1 := ⟨d - 1, by omega⟩
  exact t_X12_see_0 hd h
def f_X12_share (n : Nat) (I : Nat → Nat → Int32) (J : Nat → Nat → Int64) (T : Nat) (x1 : Int32) (x2 : Int32) (x3 : Int32) (x4 : Int32) : Option (Int64 × (Nat → Nat → Int32) × (Nat → Nat → Int64) × Nat) :=
  (f_X12_isRider n ((am_u I 53 0 0)) J T x1).bind fun w1 =>
  if w1 = 0 then
   some ((-1), (am_u I 53 0 0), J, T)
  else
   (f_X12_isSet n ((am_u I 53 0 0)) J T x2).bind fun w3 =>
   if w3 = 0 then
    some ((-1), (am_u I 53 0 0), J, T)
   else
    (f_X12_has n ((am_u I 53 0 0)) J T x2 x1).bind fun w5 =>
    if w5 = 0 then
     some ((-1), (am_u I 53 0 0), J, T)
    else
     (f_X12_isLaw n ((am_u I 53 0 0)) J T x3).bind fun w7 =>
     if w7 = 0 then
      some ((-1), (am_u I 53 0 0), J, T)
     else
      (f_X12_isIn n ((am_u I 53 0 0)) J T x4.toInt64 0 1).bind fun w9 =>
      if w9 = 0 then
       some ((-1), (am_u I 53 0 0), J, T)
      else
       (f_X12_layShares n ((am_u I 53 0 0)) J T x2 x3).bind fun w11 =>
       if ok_ix x1 6 then
        (f_X12_partOf n w11.1 w11.2.1 w11.2.2 (w11.2.1 66 x1.toNatClampNeg) (w11.2.1 53 33) x4).bind fun w13 =>
        some (w13, w11.1, w11.2.1, w11.2.2)
       else none
set_option maxRecDepth 100000 in
set_option maxHeartbeats 4000000 in
theorem t_X12_share_0 {l : Launch} {ρ : am_R} {n d gc gs : Nat} {I : Nat → Nat → Int32} {J : Nat → Nat → Int64} {T : Nat} {x1 : Int32} {x2 : Int32} {x3 : Int32} {x4 : Int32} {q : Int64 × (Nat → Nat → Int32) × (Nat → Nat → Int64) × Nat} (hd : 2 * n + 13 ≤ (d + 1))
    (h : f_X12_share n  I J T x1 x2 x3 x4 = some q) : AW l ρ (d + 1) M_X12_share 0 [(0, .ref 53), (1, .int x1), (2, .int x2), (3, .int x3), (4, .int x4)] [] (am_KD, gc, gs) (I, J, am_RT T) (am_KD, gc, gs) (fun v H' => v = [.long q.1] ∧ H' = (q.2.1, q.2.2.1, am_RT (q.2.2.2))) := by
  unfold f_X12_share at h
  refine op_aload_n (k := 0) dX12_share_0 rfl rfl ?_
  refine op_iconst (v := 0) dX12_share_1 (by decide) ?_
  refine st_putI dX12_share_2 fl_X12_108 kd_53 (by decide) rfl ?_
  refine op_aload_n (k := 0) dX12_share_5 rfl rfl ?_
  refine op_iload_n (k := 1) dX12_share_6 rfl rfl ?_
  obtain ⟨w1, ew1, h⟩ := am_bd h
  refine op_callV (M' := M_X12_isRider) [.int x1] (S0 := []) dX12_share_7 tw_1564 ok_X12_isRider tw_1566 tw_75 kd_53 cls_12 rfl rfl rfl (Nat.le_of_ble_eq_true rfl) (Nat.le_of_ble_eq_true rfl) (t_X12_isRider (by omega) ew1) (am_le_rf _) ?_
  rintro _ _ ⟨rfl, rfl⟩
  refine op_if_eq (tgt := 48) dX12_share_10 (by decide) (fun c2 => ?_) (fun c2 => ?_)
  · replace h := am_ip c2 h
    refine op_ldc2 dX12_share_48 tw_1632 ?_
    cases h
    exact (op_lret dX12_share_51 rfl ⟨rfl, rfl⟩)
  · replace h := am_ie c2 h
    refine op_aload_n (k := 0) dX12_share_13 rfl rfl ?_
    refine op_iload_n (k := 2) dX12_share_14 rfl rfl ?_
    obtain ⟨w3, ew3, h⟩ := am_bd h
    refine op_callV (M' := M_X12_isSet) [.int x2] (S0 := []) dX12_share_15 tw_1615 ok_X12_isSet tw_1617 tw_81 kd_53 cls_12 rfl rfl rfl (Nat.le_of_ble_eq_true rfl) (Nat.le_of_ble_eq_true rfl) (t_X12_isSet (by omega) ew3) (am_le_rf _) ?_
    rintro _ _ ⟨rfl, rfl⟩
    refine op_if_eq (tgt := 48) dX12_share_18 (by decide) (fun c4 => ?_) (fun c4 => ?_)
    · replace h := am_ip c4 h
      refine op_ldc2 dX12_share_48 tw_1632 ?_
      cases h
      exact (op_lret dX12_share_51 rfl ⟨rfl, rfl⟩)
    · replace h := am_ie c4 h
      refine op_iload_n (k := 2) dX12_share_21 rfl rfl ?_
      refine op_iload_n (k := 1) dX12_share_22 rfl rfl ?_
      obtain ⟨w5, ew5, h⟩ := am_bd h
      refine op_callS (M' := M_X12_has) [.int x2, .int x1] (S0 := []) dX12_share_23 tw_1471 ok_X12_has tw_1472 rfl rfl (Nat.le_of_ble_eq_true rfl) (Nat.le_of_ble_eq_true rfl) (t_X12_has (by omega) ew5) (am_le_rf _) ?_
      rintro _ _ ⟨rfl, rfl⟩
      refine op_if_eq (tgt := 48) dX12_share_26 (by decide) (fun c6 => ?_) (fun c6 => ?_)
      · replace h := am_ip c6 h
        refine op_ldc2 dX12_share_48 tw_1632 ?_
        cases h
        exact (op_lret dX12_share_51 rfl ⟨rfl, rfl⟩)
      · replace h := am_ie c6 h
        refine op_aload_n (k := 0) dX12_share_29 rfl rfl ?_
        refine op_iload_n (k := 3) dX12_share_30 rfl rfl ?_
        obtain ⟨w7, ew7, h⟩ := am_bd h
        refine op_callV (M' := M_X12_isLaw) [.int x3] (S0 := []) dX12_share_31 tw_1628 ok_X12_isLaw tw_1630 tw_83 kd_53 cls_12 rfl rfl rfl (Nat.le_of_ble_eq_true rfl) (Nat.le_of_ble_eq_true rfl) (t_X12_isLaw (by omega) ew7) (am_le_rf _) ?_
        rintro _ _ ⟨rfl, rfl⟩
        refine op_if_eq (tgt := 48) dX12_share_34 (by decide) (fun c8 => ?_) (fun c8 => ?_)
        · replace h := am_ip c8 h
          refine op_ldc2 dX12_share_48 tw_1632 ?_
          cases h
          exact (op_lret dX12_share_51 rfl ⟨rfl, rfl⟩)
        · replace h := am_ie c8 h
          refine op_iload (k := 4) dX12_share_37 rfl ?_
          refine op_i2l dX12_share_39 ?_
          refine op_lconst (v := 0) dX12_share_40 (by decide) ?_
          refine op_lconst (v := 1) dX12_share_41 (by decide) ?_
          obtain ⟨w9, ew9, h⟩ := am_bd h
          refine op_callS (M' := M_X12_isIn) [.long x4.toInt64, .long 0, .long 1] (S0 := []) dX12_share_42 tw_1390 ok_X12_isIn tw_1391 rfl rfl (Nat.le_of_ble_eq_true rfl) (Nat.le_of_ble_eq_true rfl) (t_X12_isIn (by omega) ew9) (am_le_rf _) ?_
          rintro _ _ ⟨rfl, rfl⟩
          refine op_if_ne (tgt := 52) dX12_share_45 (by decide) (fun c10 => ?_) (fun c10 => ?_)
          · replace h := am_ie c10 h
            refine op_aload_n (k := 0) dX12_share_52 rfl rfl ?_
            refine op_iload_n (k := 2) dX12_share_53 rfl rfl ?_
            refine op_iload_n (k := 3) dX12_share_54 rfl rfl ?_
            obtain ⟨w11, ew11, h⟩ := am_bd h
            refine op_callV (M' := M_X12_layShares) [.int x2, .int x3] (S0 := []) dX12_share_55 tw_1633 ok_X12_layShares tw_1635 tw_84 kd_53 cls_12 rfl rfl rfl (Nat.le_of_ble_eq_true rfl) (Nat.le_of_ble_eq_true rfl) (t_X12_layShares (by omega) ew11) (am_le_rf _) ?_
            rintro _ _ ⟨rfl, rfl⟩
            refine op_aload_n (k := 0) dX12_share_58 rfl rfl ?_
            refine st_getR (z := 66) dX12_share_59 fl_X12_65 kd_53 (by decide) rfl rr_53_32 ?_
            refine op_iload_n (k := 1) dX12_share_62 rfl rfl ?_
            obtain ⟨g12, h⟩ := am_gd h
            refine st_lald (k := x1.toNatClampNeg) (v := w11.2.1 66 x1.toNatClampNeg) dX12_share_63 kd_66 g12 rfl rfl ?_
            refine op_aload_n (k := 0) dX12_share_64 rfl rfl ?_
            refine st_getL (v := w11.2.1 53 33) dX12_share_65 fl_X12_361 kd_53 (by decide) rfl rfl ?_
            refine op_iload (k := 4) dX12_share_68 rfl ?_
            obtain ⟨w13, ew13, h⟩ := am_bd h
            refine op_callS (M' := M_X12_partOf) [.long (w11.2.1 66 x1.toNatClampNeg), .long (w11.2.1 53 33), .int x4] (S0 := []) dX12_share_70 tw_1659 ok_X12_partOf tw_1660 rfl rfl (Nat.le_of_ble_eq_true rfl) (Nat.le_of_ble_eq_true rfl) (t_X12_partOf (by omega) ew13) (am_le_rf _) ?_
            rintro _ _ ⟨rfl, rfl⟩
            cases h
            exact (op_lret dX12_share_73 rfl ⟨rfl, rfl⟩)
          · replace h := am_ip c10 h
            refine op_ldc2 dX12_share_48 tw_1632 ?_
            cases h
            exact (op_lret dX12_share_51 rfl ⟨rfl, rfl⟩)
theorem t_X12_share {l : Launch} {ρ : am_R} {n d gc gs : Nat} {I : Nat → Nat → Int32} {J : Nat → Nat → Int64} {T : Nat} {x1 : Int32} {x2 : Int32} {x3 : Int32} {x4 : Int32} {q : Int64 × (Nat → Nat → Int32) × (Nat → Nat → Int64) × Nat} (hd : 2 * n + 13 ≤ d) (h : f_X12_share n I J T x1 x2 x3 x4 = some q) : AW l ρ d M_X12_share 0 [(0, .ref 53), (1, .int x1), (2, .int x2), (3, .int x3), (4, .int x4)] [] (am_KD, gc, gs) (I, J, am_RT T) (am_KD, gc, gs) (fun v H' => v = [.long q.1] ∧ H' = (q.2.1, q.2.2.1, am_RT (q.2.2.2))) := by
  obtain ⟨d, rfl⟩ : ∃ e, d = e + 1 := ⟨d - 1, by omega⟩
  exact t_X12_share_0 hd h
def f_X12_steady (n : Nat) (I : Nat → Nat → Int32) (J : Nat → Nat → Int64) (T : Nat) (x1 : Int32) (x2 : Int32) : Option (Int32 × (Nat → Nat → Int32) × (Nat → Nat → Int64) × Nat) :=
  (f_X12_isLaw n ((am_u I 53 0 0)) J T x1).bind fun w1 =>
  if w1 = 0 then
   some ((-1), (am_u I 53 0 0), J, T)
  else
   if ((-1)) ≤ x2 then
    (f_X12_beginCoaches n ((am_u I 53 0 0)) J T).bind fun w4 =>
    (f_X12_goCoaches n ((am_u (am_u (am_u (am_u w4 53 41 x1) 53 42 x2) 53 43 0) 53 44 ((-1)))) J T 0 0 1).bind fun w5 =>
    if x2 = ((-1)) then
     some (w5.1 53 43, w5.1, w5.2.1, w5.2.2)
    else
     some (w5.1 53 44, w5.1, w5.2.1, w5.2.2)
   else
    some ((-1), (am_u I 53 0 0), J, T)
set_option maxRecDepth 100000 in
set_option maxHeartbeats 4000000 in
theorem t_X12_steady_0 {l : Launch} {ρ : am_R} {n d gc gs : Nat} {I : Nat → Nat → Int32} {J : Nat → Nat → Int64} {T : Nat} {x1 : Int32} {x2 : Int32} {q : Int32 × (Nat → Nat → Int32) × (Nat → Nat → Int64) × Nat} (hd : 3 * n + 16 ≤ (d + 1))
    (h : f_X12_steady n  I J T x1 x2 = some q) : AW l ρ (d + 1) M_X12_steady 0 [(0, .ref 53), (1, .int x1), (2, .int x2)] [] (am_KD, gc, gs) (I, J, am_RT T) (am_KD, gc, gs) (fun v H' => v = [.int q.1] ∧ H' = (q.2.1, q.2.2.1, am_RT (q.2.2.2))) := by
  unfold f_X12_steady at h
  refine op_aload_n (k := 0) dX12_steady_0 rfl rfl ?_
  refine op_iconst (v := 0) dX12_steady_1 (by decide) ?_
  refine st_putI dX12_steady_2 fl_X12_108 kd_53 (by decide) rfl ?_
  refine op_aload_n (k := 0) dX12_steady_5 rfl rfl ?_
  refine op_iload_n (k := 1) dX12_steady_6 rfl rfl ?_
  obtain ⟨w1, ew1, h⟩ := am_bd h
  refine op_callV (M' := M_X12_isLaw) [.int x1] (S0 := []) dX12_steady_7 tw_1628 ok_X12_isLaw tw_1630 tw_83 kd_53 cls_12 rfl rfl rfl (Nat.le_of_ble_eq_true rfl) (Nat.le_of_ble_eq_true rfl) (t_X12_isLaw (by omega) ew1) (am_le_rf _) ?_
  rintro _ _ ⟨rfl, rfl⟩
  refine op_if_eq (tgt := 18) dX12_steady_10 (by decide) (fun c2 => ?_) (fun c2 => ?_)
  · replace h := am_ip c2 h
    refine op_iconst (v := (-1)) dX12_steady_18 (by decide) ?_
    cases h
    exact (op_iret dX12_steady_19 rfl rfl ⟨rfl, rfl⟩)
  · replace h := am_ie c2 h
    refine op_iload_n (k := 2) dX12_steady_13 rfl rfl ?_
    refine op_iconst (v := (-1)) dX12_steady_14 (by decide) ?_
    refine op_icmp_ge (tgt := 20) dX12_steady_15 (by decide) (fun c3 => ?_) (fun c3 => ?_)
    · replace h := am_ip c3 h
      refine op_aload_n (k := 0) dX12_steady_20 rfl rfl ?_
      obtain ⟨w4, ew4, h⟩ := am_bd h
      refine op_callV (M' := M_X12_beginCoaches) [] (S0 := []) dX12_steady_21 tw_1706 ok_X12_beginCoaches tw_1708 tw_94 kd_53 cls_12 rfl rfl rfl (Nat.le_of_ble_eq_true rfl) (Nat.le_of_ble_eq_true rfl) (t_X12_beginCoaches (by omega) ew4) (am_le_rf _) ?_
      rintro _ _ ⟨rfl, rfl⟩
      refine op_aload_n (k := 0) dX12_steady_24 rfl rfl ?_
      refine op_iload_n (k := 1) dX12_steady_25 rfl rfl ?_
      refine st_putI dX12_steady_26 fl_X12_421 kd_53 (by decide) rfl ?_
      refine op_aload_n (k := 0) dX12_steady_29 rfl rfl ?_
      refine op_iload_n (k := 2) dX12_steady_30 rfl rfl ?_
      refine st_putI dX12_steady_31 fl_X12_431 kd_53 (by decide) rfl ?_
      refine op_aload_n (k := 0) dX12_steady_34 rfl rfl ?_
      refine op_iconst (v := 0) dX12_steady_35 (by decide) ?_
      refine st_putI dX12_steady_36 fl_X12_428 kd_53 (by decide) rfl ?_
      refine op_aload_n (k := 0) dX12_steady_39 rfl rfl ?_
      refine op_iconst (v := (-1)) dX12_steady_40 (by decide) ?_
      refine st_putI dX12_steady_41 fl_X12_434 kd_53 (by decide) rfl ?_
      refine op_aload_n (k := 0) dX12_steady_44 rfl rfl ?_
      refine op_iconst (v := 0) dX12_steady_45 (by decide) ?_
      refine op_iconst (v := 0) dX12_steady_46 (by decide) ?_
      refine op_iconst (v := 1) dX12_steady_47 (by decide) ?_
      obtain ⟨w5, ew5, h⟩ := am_bd h
      refine op_callV (M' := M_X12_goCoaches) [.int 0, .int 0, .int 1] (S0 := []) dX12_steady_48 tw_1710 ok_X12_goCoaches tw_1712 tw_95 kd_53 cls_12 rfl rfl rfl (Nat.le_of_ble_eq_true rfl) (Nat.le_of_ble_eq_true rfl) (t_X12_goCoaches (by omega) ew5) (am_le_rf _) ?_
      rintro _ _ ⟨rfl, rfl⟩
      refine op_iload_n (k := 2) dX12_steady_51 rfl rfl ?_
      refine op_iconst (v := (-1)) dX12_steady_52 (by decide) ?_
      refine op_icmp_ne (tgt := 63) dX12_steady_53 (by decide) (fun c6 => ?_) (fun c6 => ?_)
      · replace h := am_ie c6 h
        refine op_aload_n (k := 0) dX12_steady_63 rfl rfl ?_
        refine st_getI (v := w5.1 53 44) dX12_steady_64 fl_X12_434 kd_53 (by decide) rfl rfl ?_
        cases h
        exact (op_iret dX12_steady_67 rfl rfl ⟨rfl, rfl⟩)
      · replace h := am_ip c6 h
        refine op_aload_n (k := 0) dX12_steady_56 rfl rfl ?_
        refine st_getI (v := w5.1 53 43) dX12_steady_57 fl_X12_428 kd_53 (by decide) rfl rfl ?_
        refine op_goto (tgt := 67) dX12_steady_60 (by decide) ?_
        cases h
        exact (op_iret dX12_steady_67 rfl rfl ⟨rfl, rfl⟩)
    · replace h := am_ie c3 h
      refine op_iconst (v := (-1)) dX12_steady_18 (by decide) ?_
      cases h
      exact (op_iret dX12_steady_19 rfl rfl ⟨rfl, rfl⟩)
theorem t_X12_steady {l : Launch} {ρ : am_R} {n d gc gs : Nat} {I : Nat → Nat → Int32} {J : Nat → Nat → Int64} {T : Nat} {x1 : Int32} {x2 : Int32} {q : Int32 × (Nat → Nat → Int32) × (Nat → Nat → Int64) × Nat} (hd : 3 * n + 16 ≤ d) (h : f_X12_steady n I J T x1 x2 = some q) : AW l ρ d M_X12_steady 0 [(0, .ref 53), (1, .int x1), (2, .int x2)] [] (am_KD, gc, gs) (I, J, am_RT T) (am_KD, gc, gs) (fun v H' => v = [.int q.1] ∧ H' = (q.2.1, q.2.2.1, am_RT (q.2.2.2))) := by
  obtain ⟨d, rfl⟩ : ∃ e, d = e + 1 := ⟨d - 1, by omega⟩
  exact t_X12_steady_0 hd h
def f_X12_text_222 (n : Nat) : Nat → (Nat → Nat → Int32) → (Nat → Nat → Int64) → Nat → Int32 → Option (Int32 × (Nat → Nat → Int32) × (Nat → Nat → Int64) × Nat)
  | 0, _, _, _, _ => none
  | m + 1, I, J, T, x3 =>
    if 6 ≤ x3 then
     some (I 53 27, (am_u (am_u (am_u (am_u I 53 48 0) 53 51 0) 53 52 0) 53 59 0), J, T)
    else
     if ok_ix x3 6 then
      f_X12_text_222 n  m I ((am_u J 74 x3.toNatClampNeg 0)) T (x3 + 1)
     else none
def f_X12_text_197 (n : Nat) : Nat → (Nat → Nat → Int32) → (Nat → Nat → Int64) → Nat → Int32 → Option (Int32 × (Nat → Nat → Int32) × (Nat → Nat → Int64) × Nat)
  | 0, _, _, _, _ => none
  | m + 1, I, J, T, x3 =>
    if 3 ≤ x3 then
     f_X12_text_222 n  n I J T 0
    else
     if ok_ix x3 3 then
      if ok_ix x3 3 then
       f_X12_text_197 n  m ((am_u I 61 x3.toNatClampNeg (I 65 x3.toNatClampNeg))) J T (x3 + 1)
      else none
     else none
def f_X12_text_171 (n : Nat) : Nat → (Nat → Nat → Int32) → (Nat → Nat → Int64) → Nat → Int32 → Option (Int32 × (Nat → Nat → Int32) × (Nat → Nat → Int64) × Nat)
  | 0, _, _, _, _ => none
  | m + 1, I, J, T, x3 =>
    if 18 ≤ x3 then
     f_X12_text_197 n  n I J T 0
    else
     if ok_ix x3 18 then
      if ok_ix x3 18 then
       f_X12_text_171 n  m ((am_u I 60 x3.toNatClampNeg (I 64 x3.toNatClampNeg))) J T (x3 + 1)
      else none
     else none
def f_X12_text_133 (n : Nat) : Nat → (Nat → Nat → Int32) → (Nat → Nat → Int64) → Nat → Int32 → Option (Int32 × (Nat → Nat → Int32) × (Nat → Nat → Int64) × Nat)
  | 0, _, _, _, _ => none
  | m + 1, I, J, T, x3 =>
    if 10 ≤ x3 then
     f_X12_text_171 n  n I J T 0
    else
     if ok_ix x3 10 then
      if ok_ix x3 10 then
       if ok_ix x3 10 then
        if ok_ix x3 10 then
         f_X12_text_133 n  m ((am_u (am_u I 58 x3.toNatClampNeg (I 62 x3.toNatClampNeg)) 59 x3.toNatClampNeg (I 63 x3.toNatClampNeg))) J T (x3 + 1)
        else none
       else none
      else none
     else none
def f_X12_text_56 (n : Nat) : Nat → (Nat → Nat → Int32) → (Nat → Nat → Int64) → Nat → Int32 → Int32 → Option (Int32 × (Nat → Nat → Int32) × (Nat → Nat → Int64) × Nat)
  | 0, _, _, _, _, _ => none
  | m + 1, I, J, T, x2, x3 =>
    if x2 ≤ x3 then
     if ok_ix (I 53 7) 4 then
      some (((I 53 7) + 1) - 1, (am_u (am_u I 56 ((I 53 7).toNatClampNeg) x2) 53 7 ((I 53 7) + 1)), J, T)
     else none
    else
     if ok_ix x3 160 then
      if ok_ix ((160 * (I 53 7)) + x3) 640 then
       f_X12_text_56 n  m ((am_u I 55 (((160 * (I 53 7)) + x3).toNatClampNeg) ((I 54 x3.toNatClampNeg).toInt8.toInt32))) J T x2 (x3 + 1)
      else none
     else none
def f_X12_text_28 (n : Nat) (I : Nat → Nat → Int32) (J : Nat → Nat → Int64) (T : Nat) (x1 : Int32) : Option (Int32 × (Nat → Nat → Int32) × (Nat → Nat → Int64) × Nat) :=
  (f_X12_fault n I J T x1).bind fun w1 =>
  if w1.1 = ((-1)) then
   if x1 = 1 then
    f_X12_text_56 n  n ((am_u w1.2.1 53 6 0)) J w1.2.2 (w1.2.1 53 6) 0
   else
    f_X12_text_133 n  n ((am_u (am_u (am_u w1.2.1 53 6 0) 53 26 (w1.2.1 53 28)) 53 27 (w1.2.1 53 29))) J w1.2.2 0
  else
   some ((-1), w1.2.1, J, w1.2.2)
def f_X12_text (n : Nat) (I : Nat → Nat → Int32) (J : Nat → Nat → Int64) (T : Nat) (x1 : Int32) : Option (Int32 × (Nat → Nat → Int32) × (Nat → Nat → Int64) × Nat) :=
  (f_X12_isIn n ((am_u I 53 0 0)) J T x1.toInt64 0 1).bind fun w1 =>
  if w1 = 0 then
   some ((-1), (am_u I 53 0 0), J, T)
  else
   if x1 = 1 then
    if (I 53 7) = 4 then
     some ((-1), (am_u I 53 0 0), J, T)
    else
     f_X12_text_28 n  ((am_u I 53 0 0)) J T x1
   else
    f_X12_text_28 n  ((am_u I 53 0 0)) J T x1
set_option maxRecDepth 100000 in
set_option maxHeartbeats 4000000 in
theorem t_X12_text_222 {l : Launch} {ρ : am_R} {n d gc gs : Nat} {q : Int32 × (Nat → Nat → Int32) × (Nat → Nat → Int64) × Nat} (hd : 2 * n + 11 ≤ (d + 1))
    : ∀ (m : Nat) (I : Nat → Nat → Int32) (J : Nat → Nat → Int64) (T : Nat) (x3 : Int32), f_X12_text_222 n  m I J T x3 = some q → AW l ρ (d + 1) M_X12_text 222 [(0, .ref 53), (3, .int x3)] [] (am_KD, gc, gs) (I, J, am_RT T) (am_KD, gc, gs) (fun v H' => v = [.int q.1] ∧ H' = (q.2.1, q.2.2.1, am_RT (q.2.2.2))) := by
  intro m
  induction m with
  | zero =>
    intro I J T x3 h
    rw [f_X12_text_222] at h
    cases h
  | succ m ih =>
    intro I J T x3 h
    rw [f_X12_text_222] at h
    refine op_iload_n (k := 1) dX12_text_222 rfl rfl ?_
    refine op_bipush (v := 6) dX12_text_223 (by decide) ?_
    refine op_icmp_ge (tgt := 241) dX12_text_225 (by decide) (fun c1 => ?_) (fun c1 => ?_)
    · replace h := am_ip c1 h
      refine op_aload_n (k := 0) dX12_text_241 rfl rfl ?_
      refine op_iconst (v := 0) dX12_text_242 (by decide) ?_
      refine st_putI dX12_text_243 fl_X12_300 kd_53 (by decide) rfl ?_
      refine op_aload_n (k := 0) dX12_text_246 rfl rfl ?_
      refine op_iconst (v := 0) dX12_text_247 (by decide) ?_
      refine st_putI dX12_text_248 fl_X12_303 kd_53 (by decide) rfl ?_
      refine op_aload_n (k := 0) dX12_text_251 rfl rfl ?_
      refine op_iconst (v := 0) dX12_text_252 (by decide) ?_
      refine st_putI dX12_text_253 fl_X12_306 kd_53 (by decide) rfl ?_
      refine op_aload_n (k := 0) dX12_text_256 rfl rfl ?_
      refine op_iconst (v := 0) dX12_text_257 (by decide) ?_
      refine st_putZ dX12_text_258 fl_X12_309 kd_53 (by decide) rfl (by decide) ?_
      refine op_aload_n (k := 0) dX12_text_261 rfl rfl ?_
      refine st_getI (v := I 53 27) dX12_text_262 fl_X12_297 kd_53 (by decide) rfl rfl ?_
      cases h
      exact (op_iret dX12_text_265 rfl rfl ⟨rfl, rfl⟩)
    · replace h := am_ie c1 h
      refine op_aload_n (k := 0) dX12_text_228 rfl rfl ?_
      refine st_getR (z := 74) dX12_text_229 fl_X12_90 kd_53 (by decide) rfl rr_53_49 ?_
      refine op_iload_n (k := 1) dX12_text_232 rfl rfl ?_
      refine op_lconst (v := 0) dX12_text_233 (by decide) ?_
      obtain ⟨g2, h⟩ := am_gd h
      refine st_last (k := x3.toNatClampNeg) dX12_text_234 kd_74 g2 rfl ?_
      refine op_iinc (k := 1) (v := x3 + 1) (L' := [(3, .int (x3 + 1)), (0, .ref 53)]) dX12_text_235 rfl rfl (by decide) rfl ?_
      refine op_goto (tgt := 222) dX12_text_238 (by decide) ?_
      refine AW.perm [1, 0] rfl ?_
      exact ih _ _ _ _ h
set_option maxRecDepth 100000 in
set_option maxHeartbeats 4000000 in
theorem t_X12_text_197 {l : Launch} {ρ : am_R} {n d gc gs : Nat} {q : Int32 × (Nat → Nat → Int32) × (Nat → Nat → Int64) × Nat} (hd : 2 * n + 11 ≤ (d + 1))
    : ∀ (m : Nat) (I : Nat → Nat → Int32) (J : Nat → Nat → Int64) (T : Nat) (x3 : Int32), f_X12_text_197 n  m I J T x3 = some q → AW l ρ (d + 1) M_X12_text 197 [(0, .ref 53), (3, .int x3)] [] (am_KD, gc, gs) (I, J, am_RT T) (am_KD, gc, gs) (fun v H' => v = [.int q.1] ∧ H' = (q.2.1, q.2.2.1, am_RT (q.2.2.2))) := by
  intro m
  induction m with
  | zero =>
    intro I J T x3 h
    rw [f_X12_text_197] at h
    cases h
  | succ m ih =>
    intro I J T x3 h
    rw [f_X12_text_197] at h
    refine op_iload_n (k := 1) dX12_text_197 rfl rfl ?_
    refine op_iconst (v := 3) dX12_text_198 (by decide) ?_
    refine op_icmp_ge (tgt := 220) dX12_text_199 (by decide) (fun c1 => ?_) (fun c1 => ?_)
    · replace h := am_ip c1 h
      refine op_iconst (v := 0) dX12_text_220 (by decide) ?_
      refine op_istore_n (L' := [(3, .int 0), (0, .ref 53)]) dX12_text_221 rfl (by decide) rfl ?_
      refine AW.perm [1, 0] rfl ?_
      exact t_X12_text_222 hd  n _ _ _ _ h
    · replace h := am_ie c1 h
      refine op_aload_n (k := 0) dX12_text_202 rfl rfl ?_
      refine st_getR (z := 61) dX12_text_203 fl_X12_46 kd_53 (by decide) rfl rr_53_21 ?_
      refine op_iload_n (k := 1) dX12_text_206 rfl rfl ?_
      refine op_aload_n (k := 0) dX12_text_207 rfl rfl ?_
      refine st_getR (z := 65) dX12_text_208 fl_X12_58 kd_53 (by decide) rfl rr_53_25 ?_
      refine op_iload_n (k := 1) dX12_text_211 rfl rfl ?_
      obtain ⟨g2, h⟩ := am_gd h
      refine st_iald (k := x3.toNatClampNeg) (v := I 65 x3.toNatClampNeg) dX12_text_212 kd_65 g2 rfl rfl ?_
      obtain ⟨g3, h⟩ := am_gd h
      refine st_iast (k := x3.toNatClampNeg) dX12_text_213 kd_61 g3 rfl ?_
      refine op_iinc (k := 1) (v := x3 + 1) (L' := [(3, .int (x3 + 1)), (0, .ref 53)]) dX12_text_214 rfl rfl (by decide) rfl ?_
      refine op_goto (tgt := 197) dX12_text_217 (by decide) ?_
      refine AW.perm [1, 0] rfl ?_
      exact ih _ _ _ _ h
set_option maxRecDepth 100000 in
set_option maxHeartbeats 4000000 in
theorem t_X12_text_171 {l : Launch} {ρ : am_R} {n d gc gs : Nat} {q : Int32 × (Nat → Nat → Int32) × (Nat → Nat → Int64) × Nat} (hd : 2 * n + 11 ≤ (d + 1))
    : ∀ (m : Nat) (I : Nat → Nat → Int32) (J : Nat → Nat → Int64) (T : Nat) (x3 : Int32), f_X12_text_171 n  m I J T x3 = some q → AW l ρ (d + 1) M_X12_text 171 [(0, .ref 53), (3, .int x3)] [] (am_KD, gc, gs) (I, J, am_RT T) (am_KD, gc, gs) (fun v H' => v = [.int q.1] ∧ H' = (q.2.1, q.2.2.1, am_RT (q.2.2.2))) := by
  intro m
  induction m with
  | zero =>
    intro I J T x3 h
    rw [f_X12_text_171] at h
    cases h
  | succ m ih =>
    intro I J T x3 h
    rw [f_X12_text_171] at h
    refine op_iload_n (k := 1) dX12_text_171 rfl rfl ?_
    refine op_bipush (v := 18) dX12_text_172 (by decide) ?_
    refine op_icmp_ge (tgt := 195) dX12_text_174 (by decide) (fun c1 => ?_) (fun c1 => ?_)
    · replace h := am_ip c1 h
      refine op_iconst (v := 0) dX12_text_195 (by decide) ?_
      refine op_istore_n (L' := [(3, .int 0), (0, .ref 53)]) dX12_text_196 rfl (by decide) rfl ?_
      refine AW.perm [1, 0] rfl ?_
      exact t_X12_text_197 hd  n _ _ _ _ h
    · replace h := am_ie c1 h
      refine op_aload_n (k := 0) dX12_text_177 rfl rfl ?_
      refine st_getR (z := 60) dX12_text_178 fl_X12_43 kd_53 (by decide) rfl rr_53_20 ?_
      refine op_iload_n (k := 1) dX12_text_181 rfl rfl ?_
      refine op_aload_n (k := 0) dX12_text_182 rfl rfl ?_
      refine st_getR (z := 64) dX12_text_183 fl_X12_55 kd_53 (by decide) rfl rr_53_24 ?_
      refine op_iload_n (k := 1) dX12_text_186 rfl rfl ?_
      obtain ⟨g2, h⟩ := am_gd h
      refine st_iald (k := x3.toNatClampNeg) (v := I 64 x3.toNatClampNeg) dX12_text_187 kd_64 g2 rfl rfl ?_
      obtain ⟨g3, h⟩ := am_gd h
      refine st_iast (k := x3.toNatClampNeg) dX12_text_188 kd_60 g3 rfl ?_
      refine op_iinc (k := 1) (v := x3 + 1) (L' := [(3, .int (x3 + 1)), (0, .ref 53)]) dX12_text_189 rfl rfl (by decide) rfl ?_
      refine op_goto (tgt := 171) dX12_text_192 (by decide) ?_
      refine AW.perm [1, 0] rfl ?_
      exact ih _ _ _ _ h
set_option maxRecDepth 100000 in
set_option maxHeartbeats 4000000 in
theorem t_X12_text_133 {l : Launch} {ρ : am_R} {n d gc gs : Nat} {q : Int32 × (Nat → Nat → Int32) × (Nat → Nat → Int64) × Nat} (hd : 2 * n + 11 ≤ (d + 1))
    : ∀ (m : Nat) (I : Nat → Nat → Int32) (J : Nat → Nat → Int64) (T : Nat) (x3 : Int32), f_X12_text_133 n  m I J T x3 = some q → AW l ρ (d + 1) M_X12_text 133 [(0, .ref 53), (3, .int x3)] [] (am_KD, gc, gs) (I, J, am_RT T) (am_KD, gc, gs) (fun v H' => v = [.int q.1] ∧ H' = (q.2.1, q.2.2.1, am_RT (q.2.2.2))) := by
  intro m
  induction m with
  | zero =>
    intro I J T x3 h
    rw [f_X12_text_133] at h
    cases h
  | succ m ih =>
    intro I J T x3 h
    rw [f_X12_text_133] at h
    refine op_iload_n (k := 1) dX12_text_133 rfl rfl ?_
    refine op_bipush (v := 10) dX12_text_134 (by decide) ?_
    refine op_icmp_ge (tgt := 169) dX12_text_136 (by decide) (fun c1 => ?_) (fun c1 => ?_)
    · replace h := am_ip c1 h
      refine op_iconst (v := 0) dX12_text_169 (by decide) ?_
      refine op_istore_n (L' := [(3, .int 0), (0, .ref 53)]) dX12_text_170 rfl (by decide) rfl ?_
      refine AW.perm [1, 0] rfl ?_
      exact t_X12_text_171 hd  n _ _ _ _ h
    · replace h := am_ie c1 h
      refine op_aload_n (k := 0) dX12_text_139 rfl rfl ?_
      refine st_getR (z := 58) dX12_text_140 fl_X12_37 kd_53 (by decide) rfl rr_53_18 ?_
      refine op_iload_n (k := 1) dX12_text_143 rfl rfl ?_
      refine op_aload_n (k := 0) dX12_text_144 rfl rfl ?_
      refine st_getR (z := 62) dX12_text_145 fl_X12_49 kd_53 (by decide) rfl rr_53_22 ?_
      refine op_iload_n (k := 1) dX12_text_148 rfl rfl ?_
      obtain ⟨g2, h⟩ := am_gd h
      refine st_iald (k := x3.toNatClampNeg) (v := I 62 x3.toNatClampNeg) dX12_text_149 kd_62 g2 rfl rfl ?_
      obtain ⟨g3, h⟩ := am_gd h
      refine st_iast (k := x3.toNatClampNeg) dX12_text_150 kd_58 g3 rfl ?_
      refine op_aload_n (k := 0) dX12_text_151 rfl rfl ?_
      refine st_getR (z := 59) dX12_text_152 fl_X12_40 kd_53 (by decide) rfl rr_53_19 ?_
      refine op_iload_n (k := 1) dX12_text_155 rfl rfl ?_
      refine op_aload_n (k := 0) dX12_text_156 rfl rfl ?_
      refine st_getR (z := 63) dX12_text_157 fl_X12_52 kd_53 (by decide) rfl rr_53_23 ?_
      refine op_iload_n (k := 1) dX12_text_160 rfl rfl ?_
      obtain ⟨g4, h⟩ := am_gd h
      refine st_iald (k := x3.toNatClampNeg) (v := I 63 x3.toNatClampNeg) dX12_text_161 kd_63 g4 rfl rfl ?_
      obtain ⟨g5, h⟩ := am_gd h
      refine st_iast (k := x3.toNatClampNeg) dX12_text_162 kd_59 g5 rfl ?_
      refine op_iinc (k := 1) (v := x3 + 1) (L' := [(3, .int (x3 + 1)), (0, .ref 53)]) dX12_text_163 rfl rfl (by decide) rfl ?_
      refine op_goto (tgt := 133) dX12_text_166 (by decide) ?_
      refine AW.perm [1, 0] rfl ?_
      exact ih _ _ _ _ h
set_option maxRecDepth 100000 in
set_option maxHeartbeats 4000000 in
theorem t_X12_text_56 {l : Launch} {ρ : am_R} {n d gc gs : Nat} {q : Int32 × (Nat → Nat → Int32) × (Nat → Nat → Int64) × Nat} (hd : 2 * n + 11 ≤ (d + 1))
    : ∀ (m : Nat) (I : Nat → Nat → Int32) (J : Nat → Nat → Int64) (T : Nat) (x2 : Int32) (x3 : Int32), f_X12_text_56 n  m I J T x2 x3 = some q → AW l ρ (d + 1) M_X12_text 56 [(0, .ref 53), (2, .int x2), (3, .int x3)] [] (am_KD, gc, gs) (I, J, am_RT T) (am_KD, gc, gs) (fun v H' => v = [.int q.1] ∧ H' = (q.2.1, q.2.2.1, am_RT (q.2.2.2))) := by
  intro m
  induction m with
  | zero =>
    intro I J T x2 x3 h
    rw [f_X12_text_56] at h
    cases h
  | succ m ih =>
    intro I J T x2 x3 h
    rw [f_X12_text_56] at h
    refine op_iload_n (k := 2) dX12_text_56 rfl rfl ?_
    refine op_iload_n (k := 1) dX12_text_57 rfl rfl ?_
    refine op_icmp_ge (tgt := 88) dX12_text_58 (by decide) (fun c1 => ?_) (fun c1 => ?_)
    · replace h := am_ip c1 h
      refine op_aload_n (k := 0) dX12_text_88 rfl rfl ?_
      refine st_getR (z := 56) dX12_text_89 fl_X12_16 kd_53 (by decide) rfl rr_53_3 ?_
      refine op_aload_n (k := 0) dX12_text_92 rfl rfl ?_
      refine st_getI (v := I 53 7) dX12_text_93 fl_X12_289 kd_53 (by decide) rfl rfl ?_
      refine op_iload_n (k := 1) dX12_text_96 rfl rfl ?_
      obtain ⟨g2, h⟩ := am_gd h
      refine st_iast (k := (I 53 7).toNatClampNeg) dX12_text_97 kd_56 g2 rfl ?_
      refine op_aload_n (k := 0) dX12_text_98 rfl rfl ?_
      refine op_dup dX12_text_99 rfl ?_
      refine st_getI (v := I 53 7) dX12_text_100 fl_X12_289 kd_53 (by decide) rfl rfl ?_
      refine op_iconst (v := 1) dX12_text_103 (by decide) ?_
      refine op_iadd dX12_text_104 ?_
      refine st_putI dX12_text_105 fl_X12_289 kd_53 (by decide) rfl ?_
      refine op_aload_n (k := 0) dX12_text_108 rfl rfl ?_
      refine st_getI (v := (I 53 7) + 1) dX12_text_109 fl_X12_289 kd_53 (by decide) rfl rfl ?_
      refine op_iconst (v := 1) dX12_text_112 (by decide) ?_
      refine op_isub dX12_text_113 ?_
      cases h
      exact (op_iret dX12_text_114 rfl rfl ⟨rfl, rfl⟩)
    · replace h := am_ie c1 h
      refine op_aload_n (k := 0) dX12_text_61 rfl rfl ?_
      refine st_getR (z := 55) dX12_text_62 fl_X12_13 kd_53 (by decide) rfl rr_53_2 ?_
      refine op_sipush (v := 160) dX12_text_65 (by decide) ?_
      refine op_aload_n (k := 0) dX12_text_68 rfl rfl ?_
      refine st_getI (v := I 53 7) dX12_text_69 fl_X12_289 kd_53 (by decide) rfl rfl ?_
      refine op_imul dX12_text_72 ?_
      refine op_iload_n (k := 2) dX12_text_73 rfl rfl ?_
      refine op_iadd dX12_text_74 ?_
      refine op_aload_n (k := 0) dX12_text_75 rfl rfl ?_
      refine st_getR (z := 54) dX12_text_76 fl_X12_9 kd_53 (by decide) rfl rr_53_1 ?_
      refine op_iload_n (k := 2) dX12_text_79 rfl rfl ?_
      obtain ⟨g3, h⟩ := am_gd h
      refine st_bald (k := x3.toNatClampNeg) (v := I 54 x3.toNatClampNeg) dX12_text_80 kd_54 g3 rfl rfl ?_
      obtain ⟨g4, h⟩ := am_gd h
      refine st_bast (k := ((160 * (I 53 7)) + x3).toNatClampNeg) dX12_text_81 kd_55 g4 rfl ?_
      refine op_iinc (k := 2) (v := x3 + 1) (L' := [(3, .int (x3 + 1)), (0, .ref 53), (2, .int x2)]) dX12_text_82 rfl rfl (by decide) rfl ?_
      refine op_goto (tgt := 56) dX12_text_85 (by decide) ?_
      refine AW.perm [1, 2, 0] rfl ?_
      exact ih _ _ _ _ _ h
set_option maxRecDepth 100000 in
set_option maxHeartbeats 4000000 in
theorem t_X12_text_28 {l : Launch} {ρ : am_R} {n d gc gs : Nat} {I : Nat → Nat → Int32} {J : Nat → Nat → Int64} {T : Nat} {x1 : Int32} {q : Int32 × (Nat → Nat → Int32) × (Nat → Nat → Int64) × Nat} (hd : 2 * n + 11 ≤ (d + 1))
    (h : f_X12_text_28 n  I J T x1 = some q) : AW l ρ (d + 1) M_X12_text 28 [(0, .ref 53), (1, .int x1)] [] (am_KD, gc, gs) (I, J, am_RT T) (am_KD, gc, gs) (fun v H' => v = [.int q.1] ∧ H' = (q.2.1, q.2.2.1, am_RT (q.2.2.2))) := by
  unfold f_X12_text_28 at h
  refine op_aload_n (k := 0) dX12_text_28 rfl rfl ?_
  refine op_iload_n (k := 1) dX12_text_29 rfl rfl ?_
  obtain ⟨w1, ew1, h⟩ := am_bd h
  refine op_callV (M' := M_X12_fault) [.int x1] (S0 := []) dX12_text_30 tw_1559 ok_X12_fault tw_1387 tw_1388 kd_53 cls_12 rfl rfl rfl (Nat.le_of_ble_eq_true rfl) (Nat.le_of_ble_eq_true rfl) (t_X12_fault (by omega) ew1) (am_le_rf _) ?_
  rintro _ _ ⟨rfl, rfl⟩
  refine op_iconst (v := (-1)) dX12_text_33 (by decide) ?_
  refine op_icmp_eq (tgt := 39) dX12_text_34 (by decide) (fun c2 => ?_) (fun c2 => ?_)
  · replace h := am_ip c2 h
    refine op_aload_n (k := 0) dX12_text_39 rfl rfl ?_
    refine st_getI (v := w1.2.1 53 6) dX12_text_40 fl_X12_131 kd_53 (by decide) rfl rfl ?_
    refine op_istore_n (L' := [(2, .int (w1.2.1 53 6)), (0, .ref 53), (1, .int x1)]) dX12_text_43 rfl (by decide) rfl ?_
    refine op_aload_n (k := 1) dX12_text_44 rfl rfl ?_
    refine op_iconst (v := 0) dX12_text_45 (by decide) ?_
    refine st_putI dX12_text_46 fl_X12_131 kd_53 (by decide) rfl ?_
    refine op_iload_n (k := 2) dX12_text_49 rfl rfl ?_
    refine op_iconst (v := 1) dX12_text_50 (by decide) ?_
    refine op_icmp_ne (tgt := 115) dX12_text_51 (by decide) (fun c3 => ?_) (fun c3 => ?_)
    · replace h := am_ie c3 h
      refine op_aload_n (k := 1) dX12_text_115 rfl rfl ?_
      refine op_aload_n (k := 1) dX12_text_116 rfl rfl ?_
      refine st_getI (v := w1.2.1 53 28) dX12_text_117 fl_X12_240 kd_53 (by decide) rfl rfl ?_
      refine st_putI dX12_text_120 fl_X12_294 kd_53 (by decide) rfl ?_
      refine op_aload_n (k := 1) dX12_text_123 rfl rfl ?_
      refine op_aload_n (k := 1) dX12_text_124 rfl rfl ?_
      refine st_getI (v := w1.2.1 53 29) dX12_text_125 fl_X12_243 kd_53 (by decide) rfl rfl ?_
      refine st_putI dX12_text_128 fl_X12_297 kd_53 (by decide) rfl ?_
      refine op_iconst (v := 0) dX12_text_131 (by decide) ?_
      refine op_istore_n (L' := [(3, .int 0), (2, .int (w1.2.1 53 6)), (0, .ref 53), (1, .int x1)]) dX12_text_132 rfl (by decide) rfl ?_
      refine AW.perm [2, 0] rfl ?_
      exact t_X12_text_133 hd  n _ _ _ _ h
    · replace h := am_ip c3 h
      refine op_iconst (v := 0) dX12_text_54 (by decide) ?_
      refine op_istore_n (L' := [(3, .int 0), (2, .int (w1.2.1 53 6)), (0, .ref 53), (1, .int x1)]) dX12_text_55 rfl (by decide) rfl ?_
      refine AW.perm [2, 1, 0] rfl ?_
      exact t_X12_text_56 hd  n _ _ _ _ _ h
  · replace h := am_ie c2 h
    refine op_iconst (v := (-1)) dX12_text_37 (by decide) ?_
    cases h
    exact (op_iret dX12_text_38 rfl rfl ⟨rfl, rfl⟩)
set_option maxRecDepth 100000 in
set_option maxHeartbeats 4000000 in
theorem t_X12_text_0 {l : Launch} {ρ : am_R} {n d gc gs : Nat} {I : Nat → Nat → Int32} {J : Nat → Nat → Int64} {T : Nat} {x1 : Int32} {q : Int32 × (Nat → Nat → Int32) × (Nat → Nat → Int64) × Nat} (hd : 2 * n + 11 ≤ (d + 1))
    (h : f_X12_text n  I J T x1 = some q) : AW l ρ (d + 1) M_X12_text 0 [(0, .ref 53), (1, .int x1)] [] (am_KD, gc, gs) (I, J, am_RT T) (am_KD, gc, gs) (fun v H' => v = [.int q.1] ∧ H' = (q.2.1, q.2.2.1, am_RT (q.2.2.2))) := by
  unfold f_X12_text at h
  refine op_aload_n (k := 0) dX12_text_0 rfl rfl ?_
  refine op_iconst (v := 0) dX12_text_1 (by decide) ?_
  refine st_putI dX12_text_2 fl_X12_108 kd_53 (by decide) rfl ?_
  refine op_iload_n (k := 1) dX12_text_5 rfl rfl ?_
  refine op_i2l dX12_text_6 ?_
  refine op_lconst (v := 0) dX12_text_7 (by decide) ?_
  refine op_lconst (v := 1) dX12_text_8 (by decide) ?_
  obtain ⟨w1, ew1, h⟩ := am_bd h
  refine op_callS (M' := M_X12_isIn) [.long x1.toInt64, .long 0, .long 1] (S0 := []) dX12_text_9 tw_1390 ok_X12_isIn tw_1391 rfl rfl (Nat.le_of_ble_eq_true rfl) (Nat.le_of_ble_eq_true rfl) (t_X12_isIn (by omega) ew1) (am_le_rf _) ?_
  rintro _ _ ⟨rfl, rfl⟩
  refine op_if_eq (tgt := 37) dX12_text_12 (by decide) (fun c2 => ?_) (fun c2 => ?_)
  · replace h := am_ip c2 h
    refine op_iconst (v := (-1)) dX12_text_37 (by decide) ?_
    cases h
    exact (op_iret dX12_text_38 rfl rfl ⟨rfl, rfl⟩)
  · replace h := am_ie c2 h
    refine op_iload_n (k := 1) dX12_text_15 rfl rfl ?_
    refine op_iconst (v := 1) dX12_text_16 (by decide) ?_
    refine op_icmp_ne (tgt := 28) dX12_text_17 (by decide) (fun c3 => ?_) (fun c3 => ?_)
    · replace h := am_ie c3 h
      exact t_X12_text_28 hd  h
    · replace h := am_ip c3 h
      refine op_aload_n (k := 0) dX12_text_20 rfl rfl ?_
      refine st_getI (v := I 53 7) dX12_text_21 fl_X12_289 kd_53 (by decide) rfl rfl ?_
      refine op_iconst (v := 4) dX12_text_24 (by decide) ?_
      refine op_icmp_eq (tgt := 37) dX12_text_25 (by decide) (fun c4 => ?_) (fun c4 => ?_)
      · replace h := am_ip c4 h
        refine op_iconst (v := (-1)) dX12_text_37 (by decide) ?_
        cases h
        exact (op_iret dX12_text_38 rfl rfl ⟨rfl, rfl⟩)
      · replace h := am_ie c4 h
        exact t_X12_text_28 hd  h
theorem t_X12_text {l : Launch} {ρ : am_R} {n d gc gs : Nat} {I : Nat → Nat → Int32} {J : Nat → Nat → Int64} {T : Nat} {x1 : Int32} {q : Int32 × (Nat → Nat → Int32) × (Nat → Nat → Int64) × Nat} (hd : 2 * n + 11 ≤ d) (h : f_X12_text n I J T x1 = some q) : AW l ρ d M_X12_text 0 [(0, .ref 53), (1, .int x1)] [] (am_KD, gc, gs) (I, J, am_RT T) (am_KD, gc, gs) (fun v H' => v = [.int q.1] ∧ H' = (q.2.1, q.2.2.1, am_RT (q.2.2.2))) := by
  obtain ⟨d, rfl⟩ : ∃ e, d = e + 1 := ⟨d - 1, by omega⟩
  exact t_X12_text_0 hd h
def f_X12_thrown (n : Nat) (I : Nat → Nat → Int32) (J : Nat → Nat → Int64) (T : Nat) : Option (Int32) :=
  some (I 53 0)
set_option maxRecDepth 100000 in
set_option maxHeartbeats 4000000 in
theorem t_X12_thrown_0 {l : Launch} {ρ : am_R} {n d gc gs : Nat} {I : Nat → Nat → Int32} {J : Nat → Nat → Int64} {T : Nat} {q : Int32} (hd : 0 * n + 0 ≤ d)
    (h : f_X12_thrown n  I J T  = some q) : AW l ρ d M_X12_thrown 0 [(0, .ref 53)] [] (am_KD, gc, gs) (I, J, am_RT T) (am_KD, gc, gs) (fun v H' => v = [.int q] ∧ H' = (I, J, am_RT T)) := by
  unfold f_X12_thrown at h
  refine op_aload_n (k := 0) dX12_thrown_0 rfl rfl ?_
  refine st_getI (v := I 53 0) dX12_thrown_1 fl_X12_108 kd_53 (by decide) rfl rfl ?_
  cases h
  exact (op_iret dX12_thrown_4 rfl rfl ⟨rfl, rfl⟩)
theorem t_X12_thrown {l : Launch} {ρ : am_R} {n d gc gs : Nat} {I : Nat → Nat → Int32} {J : Nat → Nat → Int64} {T : Nat} {q : Int32} (hd : 0 * n + 0 ≤ d) (h : f_X12_thrown n I J T  = some q) : AW l ρ d M_X12_thrown 0 [(0, .ref 53)] [] (am_KD, gc, gs) (I, J, am_RT T) (am_KD, gc, gs) (fun v H' => v = [.int q] ∧ H' = (I, J, am_RT T)) := t_X12_thrown_0 hd h
def f_X12_undo_36 (n : Nat) : Nat → (Nat → Nat → Int32) → (Nat → Nat → Int64) → Nat → Int32 → Option (Int32 × (Nat → Nat → Int32) × (Nat → Nat → Int64))
  | 0, _, _, _, _ => none
  | m + 1, I, J, T, x1 =>
    if (I 53 27) ≤ x1 then
     some (I 53 51, I, J)
    else
     if ok_ix x1 6 then
      if ok_ix ((6 * (I 53 52)) + x1) 240 then
       (some ((J 74 x1.toNatClampNeg) - (J 75 (((6 * (I 53 52)) + x1).toNatClampNeg)) : Int64)).bind fun u4 =>
       if ok_ix x1 6 then
        f_X12_undo_36 n  m I ((am_u J 74 x1.toNatClampNeg u4)) T (x1 + 1)
       else none
      else none
     else none
def f_X12_undo (n : Nat) (I : Nat → Nat → Int32) (J : Nat → Nat → Int64) (T : Nat) : Option (Int32 × (Nat → Nat → Int32) × (Nat → Nat → Int64)) :=
  if (I 53 52) = 0 then
   some ((-1), (am_u I 53 0 0), J)
  else
   f_X12_undo_36 n  n ((am_u (am_u (am_u I 53 0 0) 53 52 ((I 53 52) - 1)) 53 51 ((I 53 51) - 1))) J T 0
set_option maxRecDepth 100000 in
set_option maxHeartbeats 4000000 in
theorem t_X12_undo_36 {l : Launch} {ρ : am_R} {n d gc gs : Nat} {q : Int32 × (Nat → Nat → Int32) × (Nat → Nat → Int64)} (hd : 0 * n + 0 ≤ d)
    : ∀ (m : Nat) (I : Nat → Nat → Int32) (J : Nat → Nat → Int64) (T : Nat) (x1 : Int32), f_X12_undo_36 n  m I J T x1 = some q → AW l ρ d M_X12_undo 36 [(0, .ref 53), (1, .int x1)] [] (am_KD, gc, gs) (I, J, am_RT T) (am_KD, gc, gs) (fun v H' => v = [.int q.1] ∧ H' = (q.2.1, q.2.2, am_RT T)) := by
  intro m
  induction m with
  | zero =>
    intro I J T x1 h
    rw [f_X12_undo_36] at h
    cases h
  | succ m ih =>
    intro I J T x1 h
    rw [f_X12_undo_36] at h
    refine op_iload_n (k := 1) dX12_undo_36 rfl rfl ?_
    refine op_aload_n (k := 0) dX12_undo_37 rfl rfl ?_
    refine st_getI (v := I 53 27) dX12_undo_38 fl_X12_297 kd_53 (by decide) rfl rfl ?_
    refine op_icmp_ge (tgt := 73) dX12_undo_41 (by decide) (fun c1 => ?_) (fun c1 => ?_)
    · replace h := am_ip c1 h
      refine op_aload_n (k := 0) dX12_undo_73 rfl rfl ?_
      refine st_getI (v := I 53 51) dX12_undo_74 fl_X12_303 kd_53 (by decide) rfl rfl ?_
      cases h
      exact (op_iret dX12_undo_77 rfl rfl ⟨rfl, rfl⟩)
    · replace h := am_ie c1 h
      refine op_aload_n (k := 0) dX12_undo_44 rfl rfl ?_
      refine st_getR (z := 74) dX12_undo_45 fl_X12_90 kd_53 (by decide) rfl rr_53_49 ?_
      refine op_iload_n (k := 1) dX12_undo_48 rfl rfl ?_
      refine op_dup2 dX12_undo_49 rfl rfl ?_
      obtain ⟨g2, h⟩ := am_gd h
      refine st_lald (k := x1.toNatClampNeg) (v := J 74 x1.toNatClampNeg) dX12_undo_50 kd_74 g2 rfl rfl ?_
      refine op_aload_n (k := 0) dX12_undo_51 rfl rfl ?_
      refine st_getR (z := 75) dX12_undo_52 fl_X12_93 kd_53 (by decide) rfl rr_53_50 ?_
      refine op_bipush (v := 6) dX12_undo_55 (by decide) ?_
      refine op_aload_n (k := 0) dX12_undo_57 rfl rfl ?_
      refine st_getI (v := I 53 52) dX12_undo_58 fl_X12_306 kd_53 (by decide) rfl rfl ?_
      refine op_imul dX12_undo_61 ?_
      refine op_iload_n (k := 1) dX12_undo_62 rfl rfl ?_
      refine op_iadd dX12_undo_63 ?_
      obtain ⟨g3, h⟩ := am_gd h
      refine st_lald (k := ((6 * (I 53 52)) + x1).toNatClampNeg) (v := J 75 (((6 * (I 53 52)) + x1).toNatClampNeg)) dX12_undo_64 kd_75 g3 rfl rfl ?_
      refine op_lsub dX12_undo_65 ?_
      obtain ⟨u4, eu4, h⟩ := am_bd h
      replace eu4 := Option.some.inj eu4
      refine op_nmL eu4 ?_
      obtain ⟨g5, h⟩ := am_gd h
      refine st_last (k := x1.toNatClampNeg) dX12_undo_66 kd_74 g5 rfl ?_
      refine op_iinc (k := 1) (v := x1 + 1) (L' := [(1, .int (x1 + 1)), (0, .ref 53)]) dX12_undo_67 rfl rfl (by decide) rfl ?_
      refine op_goto (tgt := 36) dX12_undo_70 (by decide) ?_
      refine AW.perm [1, 0] rfl ?_
      exact ih _ _ _ _ h
set_option maxRecDepth 100000 in
set_option maxHeartbeats 4000000 in
theorem t_X12_undo_0 {l : Launch} {ρ : am_R} {n d gc gs : Nat} {I : Nat → Nat → Int32} {J : Nat → Nat → Int64} {T : Nat} {q : Int32 × (Nat → Nat → Int32) × (Nat → Nat → Int64)} (hd : 0 * n + 0 ≤ d)
    (h : f_X12_undo n  I J T  = some q) : AW l ρ d M_X12_undo 0 [(0, .ref 53)] [] (am_KD, gc, gs) (I, J, am_RT T) (am_KD, gc, gs) (fun v H' => v = [.int q.1] ∧ H' = (q.2.1, q.2.2, am_RT T)) := by
  unfold f_X12_undo at h
  refine op_aload_n (k := 0) dX12_undo_0 rfl rfl ?_
  refine op_iconst (v := 0) dX12_undo_1 (by decide) ?_
  refine st_putI dX12_undo_2 fl_X12_108 kd_53 (by decide) rfl ?_
  refine op_aload_n (k := 0) dX12_undo_5 rfl rfl ?_
  refine st_getI (v := I 53 52) dX12_undo_6 fl_X12_306 kd_53 (by decide) rfl rfl ?_
  refine op_if_ne (tgt := 14) dX12_undo_9 (by decide) (fun c1 => ?_) (fun c1 => ?_)
  · replace h := am_ie c1 h
    refine op_aload_n (k := 0) dX12_undo_14 rfl rfl ?_
    refine op_dup dX12_undo_15 rfl ?_
    refine st_getI (v := I 53 52) dX12_undo_16 fl_X12_306 kd_53 (by decide) rfl rfl ?_
    refine op_iconst (v := 1) dX12_undo_19 (by decide) ?_
    refine op_isub dX12_undo_20 ?_
    refine st_putI dX12_undo_21 fl_X12_306 kd_53 (by decide) rfl ?_
    refine op_aload_n (k := 0) dX12_undo_24 rfl rfl ?_
    refine op_dup dX12_undo_25 rfl ?_
    refine st_getI (v := I 53 51) dX12_undo_26 fl_X12_303 kd_53 (by decide) rfl rfl ?_
    refine op_iconst (v := 1) dX12_undo_29 (by decide) ?_
    refine op_isub dX12_undo_30 ?_
    refine st_putI dX12_undo_31 fl_X12_303 kd_53 (by decide) rfl ?_
    refine op_iconst (v := 0) dX12_undo_34 (by decide) ?_
    refine op_istore_n (L' := [(1, .int 0), (0, .ref 53)]) dX12_undo_35 rfl (by decide) rfl ?_
    refine AW.perm [1, 0] rfl ?_
    exact t_X12_undo_36 hd  n _ _ _ _ h
  · replace h := am_ip c1 h
    refine op_iconst (v := (-1)) dX12_undo_12 (by decide) ?_
    cases h
    exact (op_iret dX12_undo_13 rfl rfl ⟨rfl, rfl⟩)
theorem t_X12_undo {l : Launch} {ρ : am_R} {n d gc gs : Nat} {I : Nat → Nat → Int32} {J : Nat → Nat → Int64} {T : Nat} {q : Int32 × (Nat → Nat → Int32) × (Nat → Nat → Int64)} (hd : 0 * n + 0 ≤ d) (h : f_X12_undo n I J T  = some q) : AW l ρ d M_X12_undo 0 [(0, .ref 53)] [] (am_KD, gc, gs) (I, J, am_RT T) (am_KD, gc, gs) (fun v H' => v = [.int q.1] ∧ H' = (q.2.1, q.2.2, am_RT T)) := t_X12_undo_0 hd h
def f_X12_way (n : Nat) (I : Nat → Nat → Int32) (J : Nat → Nat → Int64) (T : Nat) (x1 : Int32) (x2 : Int32) : Option (Int32 × (Nat → Nat → Int32)) :=
  (f_X12_isPlace n ((am_u I 53 0 0)) J T x1).bind fun w1 =>
  if w1 = 0 then
   some ((-1), (am_u I 53 0 0))
  else
   if x1 = 0 then
    some ((-1), (am_u I 53 0 0))
   else
    (f_X12_isIn n ((am_u I 53 0 0)) J T x2.toInt64 0 1).bind fun w4 =>
    if w4 = 0 then
     some ((-1), (am_u I 53 0 0))
    else
     if x2 = 0 then
      if ok_ix x1 10 then
       some (I 58 x1.toNatClampNeg, (am_u I 53 0 0))
      else none
     else
      if ok_ix x1 10 then
       some (I 59 x1.toNatClampNeg, (am_u I 53 0 0))
      else none
set_option maxRecDepth 100000 in
set_option maxHeartbeats 4000000 in
theorem t_X12_way_0 {l : Launch} {ρ : am_R} {n d gc gs : Nat} {I : Nat → Nat → Int32} {J : Nat → Nat → Int64} {T : Nat} {x1 : Int32} {x2 : Int32} {q : Int32 × (Nat → Nat → Int32)} (hd : 0 * n + 1 ≤ (d + 1))
    (h : f_X12_way n  I J T x1 x2 = some q) : AW l ρ (d + 1) M_X12_way 0 [(0, .ref 53), (1, .int x1), (2, .int x2)] [] (am_KD, gc, gs) (I, J, am_RT T) (am_KD, gc, gs) (fun v H' => v = [.int q.1] ∧ H' = (q.2, J, am_RT T)) := by
  unfold f_X12_way at h
  refine op_aload_n (k := 0) dX12_way_0 rfl rfl ?_
  refine op_iconst (v := 0) dX12_way_1 (by decide) ?_
  refine st_putI dX12_way_2 fl_X12_108 kd_53 (by decide) rfl ?_
  refine op_aload_n (k := 0) dX12_way_5 rfl rfl ?_
  refine op_iload_n (k := 1) dX12_way_6 rfl rfl ?_
  obtain ⟨w1, ew1, h⟩ := am_bd h
  refine op_callV (M' := M_X12_isPlace) [.int x1] (S0 := []) dX12_way_7 tw_1586 ok_X12_isPlace tw_1588 tw_79 kd_53 cls_12 rfl rfl rfl (Nat.le_of_ble_eq_true rfl) (Nat.le_of_ble_eq_true rfl) (t_X12_isPlace (by omega) ew1) (am_le_rf _) ?_
  rintro _ _ ⟨rfl, rfl⟩
  refine op_if_eq (tgt := 27) dX12_way_10 (by decide) (fun c2 => ?_) (fun c2 => ?_)
  · replace h := am_ip c2 h
    refine op_iconst (v := (-1)) dX12_way_27 (by decide) ?_
    cases h
    exact (op_iret dX12_way_28 rfl rfl ⟨rfl, rfl⟩)
  · replace h := am_ie c2 h
    refine op_iload_n (k := 1) dX12_way_13 rfl rfl ?_
    refine op_if_eq (tgt := 27) dX12_way_14 (by decide) (fun c3 => ?_) (fun c3 => ?_)
    · replace h := am_ip c3 h
      refine op_iconst (v := (-1)) dX12_way_27 (by decide) ?_
      cases h
      exact (op_iret dX12_way_28 rfl rfl ⟨rfl, rfl⟩)
    · replace h := am_ie c3 h
      refine op_iload_n (k := 2) dX12_way_17 rfl rfl ?_
      refine op_i2l dX12_way_18 ?_
      refine op_lconst (v := 0) dX12_way_19 (by decide) ?_
      refine op_lconst (v := 1) dX12_way_20 (by decide) ?_
      obtain ⟨w4, ew4, h⟩ := am_bd h
      refine op_callS (M' := M_X12_isIn) [.long x2.toInt64, .long 0, .long 1] (S0 := []) dX12_way_21 tw_1390 ok_X12_isIn tw_1391 rfl rfl (Nat.le_of_ble_eq_true rfl) (Nat.le_of_ble_eq_true rfl) (t_X12_isIn (by omega) ew4) (am_le_rf _) ?_
      rintro _ _ ⟨rfl, rfl⟩
      refine op_if_ne (tgt := 29) dX12_way_24 (by decide) (fun c5 => ?_) (fun c5 => ?_)
      · replace h := am_ie c5 h
        refine op_iload_n (k := 2) dX12_way_29 rfl rfl ?_
        refine op_if_ne (tgt := 42) dX12_way_30 (by decide) (fun c6 => ?_) (fun c6 => ?_)
        · replace h := am_ie c6 h
          refine op_aload_n (k := 0) dX12_way_42 rfl rfl ?_
          refine st_getR (z := 59) dX12_way_43 fl_X12_40 kd_53 (by decide) rfl rr_53_19 ?_
          refine op_iload_n (k := 1) dX12_way_46 rfl rfl ?_
          obtain ⟨g7, h⟩ := am_gd h
          refine st_iald (k := x1.toNatClampNeg) (v := I 59 x1.toNatClampNeg) dX12_way_47 kd_59 g7 rfl rfl ?_
          cases h
          exact (op_iret dX12_way_48 rfl rfl ⟨rfl, rfl⟩)
        · replace h := am_ip c6 h
          refine op_aload_n (k := 0) dX12_way_33 rfl rfl ?_
          refine st_getR (z := 58) dX12_way_34 fl_X12_37 kd_53 (by decide) rfl rr_53_18 ?_
          refine op_iload_n (k := 1) dX12_way_37 rfl rfl ?_
          obtain ⟨g8, h⟩ := am_gd h
          refine st_iald (k := x1.toNatClampNeg) (v := I 58 x1.toNatClampNeg) dX12_way_38 kd_58 g8 rfl rfl ?_
          refine op_goto (tgt := 48) dX12_way_39 (by decide) ?_
          cases h
          exact (op_iret dX12_way_48 rfl rfl ⟨rfl, rfl⟩)
      · replace h := am_ip c5 h
        refine op_iconst (v := (-1)) dX12_way_27 (by decide) ?_
        cases h
        exact (op_iret dX12_way_28 rfl rfl ⟨rfl, rfl⟩)
theorem t_X12_way {l : Launch} {ρ : am_R} {n d gc gs : Nat} {I : Nat → Nat → Int32} {J : Nat → Nat → Int64} {T : Nat} {x1 : Int32} {x2 : Int32} {q : Int32 × (Nat → Nat → Int32)} (hd : 0 * n + 1 ≤ d) (h : f_X12_way n I J T x1 x2 = some q) : AW l ρ d M_X12_way 0 [(0, .ref 53), (1, .int x1), (2, .int x2)] [] (am_KD, gc, gs) (I, J, am_RT T) (am_KD, gc, gs) (fun v H' => v = [.int q.1] ∧ H' = (q.2, J, am_RT T)) := by
  obtain ⟨d, rfl⟩ : ∃ e, d = e + 1 := ⟨d - 1, by omega⟩
  exact t_X12_way_0 hd h
def f_X12_worse_79 (n : Nat) (k34 : (Nat → Nat → Int32) → (Nat → Nat → Int64) → Nat → Int32 → Int32 → Int32 → Option (Int32 × (Nat → Nat → Int32) × (Nat → Nat → Int64) × Nat)) (I : Nat → Nat → Int32) (J : Nat → Nat → Int64) (T : Nat) (x2 : Int32) (x3 : Int32) (x4 : Int32) : Option (Int32 × (Nat → Nat → Int32) × (Nat → Nat → Int64) × Nat) :=
  k34 I J T x2 x3 (x4 + 1)
def f_X12_worse_34 (n : Nat) : Nat → (Nat → Nat → Int32) → (Nat → Nat → Int64) → Nat → Int32 → Int32 → Int32 → Option (Int32 × (Nat → Nat → Int32) × (Nat → Nat → Int64) × Nat)
  | 0, _, _, _, _, _, _ => none
  | m + 1, I, J, T, x2, x3, x4 =>
    (f_X12_everybody n I J T).bind fun w1 =>
    if w1 < x4 then
     if x2 = ((-1)) then
      some (x3, I, J, T)
     else
      some ((-1), I, J, T)
    else
     (f_X12_sharesOf n I J T x4).bind fun w4 =>
     (f_X12_costOf n I J T x4).bind fun w5 =>
     if 0 < (lg_cmp w4 (w5.toInt64 * (J 53 33))) then
      if x3 = x2 then
       some (x4, I, J, T)
      else
       f_X12_worse_79 n (f_X12_worse_34 n m) I J T x2 (x3 + 1) x4
     else
      f_X12_worse_79 n (f_X12_worse_34 n m) I J T x2 x3 x4
def f_X12_worse (n : Nat) (I : Nat → Nat → Int32) (J : Nat → Nat → Int64) (T : Nat) (x1 : Int32) (x2 : Int32) : Option (Int32 × (Nat → Nat → Int32) × (Nat → Nat → Int64) × Nat) :=
  (f_X12_isLaw n ((am_u I 53 0 0)) J T x1).bind fun w1 =>
  if w1 = 0 then
   some ((-1), (am_u I 53 0 0), J, T)
  else
   if ((-1)) ≤ x2 then
    (f_X12_everybody n ((am_u I 53 0 0)) J T).bind fun w4 =>
    (f_X12_layShares n ((am_u I 53 0 0)) J T w4 x1).bind fun w5 =>
    f_X12_worse_34 n  n w5.1 w5.2.1 w5.2.2 x2 0 1
   else
    some ((-1), (am_u I 53 0 0), J, T)
set_option maxRecDepth 100000 in
set_option maxHeartbeats 4000000 in
theorem t_X12_worse_79 {l : Launch} {ρ : am_R} {n d gc gs : Nat} {k34 : (Nat → Nat → Int32) → (Nat → Nat → Int64) → Nat → Int32 → Int32 → Int32 → Option (Int32 × (Nat → Nat → Int32) × (Nat → Nat → Int64) × Nat)} {I : Nat → Nat → Int32} {J : Nat → Nat → Int64} {T : Nat} {x2 : Int32} {x3 : Int32} {x4 : Int32} {q : Int32 × (Nat → Nat → Int32) × (Nat → Nat → Int64) × Nat} (hd : 2 * n + 13 ≤ (d + 1))
    (hk34 : ∀ (I : Nat → Nat → Int32) (J : Nat → Nat → Int64) (T : Nat) (x2 : Int32) (x3 : Int32) (x4 : Int32), k34 I J T x2 x3 x4 = some q → AW l ρ (d + 1) M_X12_worse 34 [(0, .ref 53), (2, .int x2), (3, .int x3), (4, .int x4)] [] (am_KD, gc, gs) (I, J, am_RT T) (am_KD, gc, gs) (fun v H' => v = [.int q.1] ∧ H' = (q.2.1, q.2.2.1, am_RT (q.2.2.2))))
    (h : f_X12_worse_79 n k34 I J T x2 x3 x4 = some q) : AW l ρ (d + 1) M_X12_worse 79 [(0, .ref 53), (2, .int x2), (3, .int x3), (4, .int x4)] [] (am_KD, gc, gs) (I, J, am_RT T) (am_KD, gc, gs) (fun v H' => v = [.int q.1] ∧ H' = (q.2.1, q.2.2.1, am_RT (q.2.2.2))) := by
  unfold f_X12_worse_79 at h
  refine op_iinc (k := 3) (v := x4 + 1) (L' := [(4, .int (x4 + 1)), (0, .ref 53), (2, .int x2), (3, .int x3)]) dX12_worse_79 rfl rfl (by decide) rfl ?_
  refine op_goto (tgt := 34) dX12_worse_82 (by decide) ?_
  refine AW.perm [1, 2, 3, 0] rfl ?_
  exact hk34 _ _ _ _ _ _ h
set_option maxRecDepth 100000 in
set_option maxHeartbeats 4000000 in
theorem t_X12_worse_34 {l : Launch} {ρ : am_R} {n d gc gs : Nat} {q : Int32 × (Nat → Nat → Int32) × (Nat → Nat → Int64) × Nat} (hd : 2 * n + 13 ≤ (d + 1))
    : ∀ (m : Nat) (I : Nat → Nat → Int32) (J : Nat → Nat → Int64) (T : Nat) (x2 : Int32) (x3 : Int32) (x4 : Int32), f_X12_worse_34 n  m I J T x2 x3 x4 = some q → AW l ρ (d + 1) M_X12_worse 34 [(0, .ref 53), (2, .int x2), (3, .int x3), (4, .int x4)] [] (am_KD, gc, gs) (I, J, am_RT T) (am_KD, gc, gs) (fun v H' => v = [.int q.1] ∧ H' = (q.2.1, q.2.2.1, am_RT (q.2.2.2))) := by
  intro m
  induction m with
  | zero =>
    intro I J T x2 x3 x4 h
    rw [f_X12_worse_34] at h
    cases h
  | succ m ih =>
    intro I J T x2 x3 x4 h
    rw [f_X12_worse_34] at h
    refine op_iload (k := 3) dX12_worse_34 rfl ?_
    refine op_aload_n (k := 0) dX12_worse_36 rfl rfl ?_
    obtain ⟨w1, ew1, h⟩ := am_bd h
    refine op_callV (M' := M_X12_everybody) [] (S0 := [.int x4]) dX12_worse_37 tw_1670 ok_X12_everybody tw_1672 tw_89 kd_53 cls_12 rfl rfl rfl (Nat.le_of_ble_eq_true rfl) (Nat.le_of_ble_eq_true rfl) (t_X12_everybody (by omega) ew1) (am_le_rf _) ?_
    rintro _ _ ⟨rfl, rfl⟩
    refine op_icmp_gt (tgt := 85) dX12_worse_40 (by decide) (fun c2 => ?_) (fun c2 => ?_)
    · replace h := am_ip c2 h
      refine op_iload_n (k := 1) dX12_worse_85 rfl rfl ?_
      refine op_iconst (v := (-1)) dX12_worse_86 (by decide) ?_
      refine op_icmp_ne (tgt := 94) dX12_worse_87 (by decide) (fun c3 => ?_) (fun c3 => ?_)
      · replace h := am_ie c3 h
        refine op_iconst (v := (-1)) dX12_worse_94 (by decide) ?_
        cases h
        exact (op_iret dX12_worse_95 rfl rfl ⟨rfl, rfl⟩)
      · replace h := am_ip c3 h
        refine op_iload_n (k := 2) dX12_worse_90 rfl rfl ?_
        refine op_goto (tgt := 95) dX12_worse_91 (by decide) ?_
        cases h
        exact (op_iret dX12_worse_95 rfl rfl ⟨rfl, rfl⟩)
    · replace h := am_ie c2 h
      refine op_aload_n (k := 0) dX12_worse_43 rfl rfl ?_
      refine op_iload (k := 3) dX12_worse_44 rfl ?_
      obtain ⟨w4, ew4, h⟩ := am_bd h
      refine op_callV (M' := M_X12_sharesOf) [.int x4] (S0 := []) dX12_worse_46 tw_1674 ok_X12_sharesOf tw_1676 tw_90 kd_53 cls_12 rfl rfl rfl (Nat.le_of_ble_eq_true rfl) (Nat.le_of_ble_eq_true rfl) (t_X12_sharesOf (by omega) ew4) (am_le_rf _) ?_
      rintro _ _ ⟨rfl, rfl⟩
      refine op_aload_n (k := 0) dX12_worse_49 rfl rfl ?_
      refine op_iload (k := 3) dX12_worse_50 rfl ?_
      obtain ⟨w5, ew5, h⟩ := am_bd h
      refine op_callV (M' := M_X12_costOf) [.int x4] (S0 := [.long w4]) dX12_worse_52 tw_1577 ok_X12_costOf tw_1579 tw_78 kd_53 cls_12 rfl rfl rfl (Nat.le_of_ble_eq_true rfl) (Nat.le_of_ble_eq_true rfl) (t_X12_costOf (by omega) ew5) (am_le_rf _) ?_
      rintro _ _ ⟨rfl, rfl⟩
      refine op_i2l dX12_worse_55 ?_
      refine op_aload_n (k := 0) dX12_worse_56 rfl rfl ?_
      refine st_getL (v := J 53 33) dX12_worse_57 fl_X12_361 kd_53 (by decide) rfl rfl ?_
      refine op_lmul dX12_worse_60 ?_
      refine op_lcmp dX12_worse_61 ?_
      refine op_if_gt (tgt := 68) dX12_worse_62 (by decide) (fun c6 => ?_) (fun c6 => ?_)
      · replace h := am_ip c6 h
        refine op_iload_n (k := 2) dX12_worse_68 rfl rfl ?_
        refine op_iload_n (k := 1) dX12_worse_69 rfl rfl ?_
        refine op_icmp_ne (tgt := 76) dX12_worse_70 (by decide) (fun c7 => ?_) (fun c7 => ?_)
        · replace h := am_ie c7 h
          refine op_iinc (k := 2) (v := x3 + 1) (L' := [(3, .int (x3 + 1)), (0, .ref 53), (2, .int x2), (4, .int x4)]) dX12_worse_76 rfl rfl (by decide) rfl ?_
          refine AW.perm [1, 2, 0, 3] rfl ?_
          exact t_X12_worse_79 hd ih h
        · replace h := am_ip c7 h
          refine op_iload (k := 3) dX12_worse_73 rfl ?_
          cases h
          exact (op_iret dX12_worse_75 rfl rfl ⟨rfl, rfl⟩)
      · replace h := am_ie c6 h
        refine op_goto (tgt := 79) dX12_worse_65 (by decide) ?_
        exact t_X12_worse_79 hd ih h
set_option maxRecDepth 100000 in
set_option maxHeartbeats 4000000 in
theorem t_X12_worse_0 {l : Launch} {ρ : am_R} {n d gc gs : Nat} {I : Nat → Nat → Int32} {J : Nat → Nat → Int64} {T : Nat} {x1 : Int32} {x2 : Int32} {q : Int32 × (Nat → Nat → Int32) × (Nat → Nat → Int64) × Nat} (hd : 2 * n + 13 ≤ (d + 1))
    (h : f_X12_worse n  I J T x1 x2 = some q) : AW l ρ (d + 1) M_X12_worse 0 [(0, .ref 53), (1, .int x1), (2, .int x2)] [] (am_KD, gc, gs) (I, J, am_RT T) (am_KD, gc, gs) (fun v H' => v = [.int q.1] ∧ H' = (q.2.1, q.2.2.1, am_RT (q.2.2.2))) := by
  unfold f_X12_worse at h
  refine op_aload_n (k := 0) dX12_worse_0 rfl rfl ?_
  refine op_iconst (v := 0) dX12_worse_1 (by decide) ?_
  refine st_putI dX12_worse_2 fl_X12_108 kd_53 (by decide) rfl ?_
  refine op_aload_n (k := 0) dX12_worse_5 rfl rfl ?_
  refine op_iload_n (k := 1) dX12_worse_6 rfl rfl ?_
  obtain ⟨w1, ew1, h⟩ := am_bd h
  refine op_callV (M' := M_X12_isLaw) [.int x1] (S0 := []) dX12_worse_7 tw_1628 ok_X12_isLaw tw_1630 tw_83 kd_53 cls_12 rfl rfl rfl (Nat.le_of_ble_eq_true rfl) (Nat.le_of_ble_eq_true rfl) (t_X12_isLaw (by omega) ew1) (am_le_rf _) ?_
  rintro _ _ ⟨rfl, rfl⟩
  refine op_if_eq (tgt := 18) dX12_worse_10 (by decide) (fun c2 => ?_) (fun c2 => ?_)
  · replace h := am_ip c2 h
    refine op_iconst (v := (-1)) dX12_worse_18 (by decide) ?_
    cases h
    exact (op_iret dX12_worse_19 rfl rfl ⟨rfl, rfl⟩)
  · replace h := am_ie c2 h
    refine op_iload_n (k := 2) dX12_worse_13 rfl rfl ?_
    refine op_iconst (v := (-1)) dX12_worse_14 (by decide) ?_
    refine op_icmp_ge (tgt := 20) dX12_worse_15 (by decide) (fun c3 => ?_) (fun c3 => ?_)
    · replace h := am_ip c3 h
      refine op_aload_n (k := 0) dX12_worse_20 rfl rfl ?_
      refine op_aload_n (k := 0) dX12_worse_21 rfl rfl ?_
      obtain ⟨w4, ew4, h⟩ := am_bd h
      refine op_callV (M' := M_X12_everybody) [] (S0 := [.ref 53]) dX12_worse_22 tw_1670 ok_X12_everybody tw_1672 tw_89 kd_53 cls_12 rfl rfl rfl (Nat.le_of_ble_eq_true rfl) (Nat.le_of_ble_eq_true rfl) (t_X12_everybody (by omega) ew4) (am_le_rf _) ?_
      rintro _ _ ⟨rfl, rfl⟩
      refine op_iload_n (k := 1) dX12_worse_25 rfl rfl ?_
      obtain ⟨w5, ew5, h⟩ := am_bd h
      refine op_callV (M' := M_X12_layShares) [.int w4, .int x1] (S0 := []) dX12_worse_26 tw_1633 ok_X12_layShares tw_1635 tw_84 kd_53 cls_12 rfl rfl rfl (Nat.le_of_ble_eq_true rfl) (Nat.le_of_ble_eq_true rfl) (t_X12_layShares (by omega) ew5) (am_le_rf _) ?_
      rintro _ _ ⟨rfl, rfl⟩
      refine op_iconst (v := 0) dX12_worse_29 (by decide) ?_
      refine op_istore_n (L' := [(3, .int 0), (0, .ref 53), (1, .int x1), (2, .int x2)]) dX12_worse_30 rfl (by decide) rfl ?_
      refine op_iconst (v := 1) dX12_worse_31 (by decide) ?_
      refine op_istore (L' := [(4, .int 1), (3, .int 0), (0, .ref 53), (1, .int x1), (2, .int x2)]) dX12_worse_32 (by decide) rfl ?_
      refine AW.perm [2, 4, 1, 0] rfl ?_
      exact t_X12_worse_34 hd  n _ _ _ _ _ _ h
    · replace h := am_ie c3 h
      refine op_iconst (v := (-1)) dX12_worse_18 (by decide) ?_
      cases h
      exact (op_iret dX12_worse_19 rfl rfl ⟨rfl, rfl⟩)
theorem t_X12_worse {l : Launch} {ρ : am_R} {n d gc gs : Nat} {I : Nat → Nat → Int32} {J : Nat → Nat → Int64} {T : Nat} {x1 : Int32} {x2 : Int32} {q : Int32 × (Nat → Nat → Int32) × (Nat → Nat → Int64) × Nat} (hd : 2 * n + 13 ≤ d) (h : f_X12_worse n I J T x1 x2 = some q) : AW l ρ d M_X12_worse 0 [(0, .ref 53), (1, .int x1), (2, .int x2)] [] (am_KD, gc, gs) (I, J, am_RT T) (am_KD, gc, gs) (fun v H' => v = [.int q.1] ∧ H' = (q.2.1, q.2.2.1, am_RT (q.2.2.2))) := by
  obtain ⟨d, rfl⟩ : ∃ e, d = e + 1 := ⟨d - 1, by omega⟩
  exact t_X12_worse_0 hd h
