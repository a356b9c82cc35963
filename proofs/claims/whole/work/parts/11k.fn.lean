def f_X12_cost_24 (n : Nat) (I : Nat → Nat → Int32) (J : Nat → Nat → Int64) (T : Nat) (x1 : Int32) (x2 : Int32) : Option (Int32 × (Nat → Nat → Int32)) :=
  (f_X12_isIn n I J T x2.toInt64 0 2).bind fun w1 =>
  if w1 = 0 then
   some ((-1), I)
  else
   if x2 = 0 then
    (f_X12_milesOf n I J T x1).bind fun w7 =>
    some (w7, I)
   else
    if x2 = 1 then
     (f_X12_costOf n I J T x1).bind fun w6 =>
     some (w6, I)
    else
     (f_X12_seatsOf n I J T x1).bind fun w5 =>
     some (w5, I)
def f_X12_cost (n : Nat) (I : Nat → Nat → Int32) (J : Nat → Nat → Int64) (T : Nat) (x1 : Int32) (x2 : Int32) : Option (Int32 × (Nat → Nat → Int32)) :=
  if (I 53 27) = 0 then
   some ((-1), (am_u I 53 0 0))
  else
   if x1 = 0 then
    f_X12_cost_24 n  ((am_u I 53 0 0)) J T x1 x2
   else
    (f_X12_isSet n ((am_u I 53 0 0)) J T x1).bind fun w3 =>
    if w3 = 0 then
     some ((-1), (am_u I 53 0 0))
    else
     f_X12_cost_24 n  ((am_u I 53 0 0)) J T x1 x2
set_option maxRecDepth 100000 in
set_option maxHeartbeats 4000000 in
theorem t_X12_cost_24 {l : Launch} {ρ : am_R} {n d gc gs : Nat} {I : Nat → Nat → Int32} {J : Nat → Nat → Int64} {T : Nat} {x1 : Int32} {x2 : Int32} {q : Int32 × (Nat → Nat → Int32)} (hd : 0 * n + 4 ≤ (d + 1))
    (h : f_X12_cost_24 n  I J T x1 x2 = some q) : AW l ρ (d + 1) M_X12_cost 24 [(0, .ref 53), (1, .int x1), (2, .int x2)] [] (am_KD, gc, gs) (I, J, am_RT T) (am_KD, gc, gs) (fun v H' => v = [.int q.1] ∧ H' = (q.2, J, am_RT T)) := by
  unfold f_X12_cost_24 at h
  refine op_iload_n (k := 2) dX12_cost_24 rfl rfl ?_
  refine op_i2l dX12_cost_25 ?_
  refine op_lconst (v := 0) dX12_cost_26 (by decide) ?_
  refine op_ldc2 dX12_cost_27 tw_1619 ?_
  obtain ⟨w1, ew1, h⟩ := am_bd h
  refine op_callS (M' := M_X12_isIn) [.long x2.toInt64, .long 0, .long 2] (S0 := []) dX12_cost_30 tw_1390 ok_X12_isIn tw_1391 rfl rfl (Nat.le_of_ble_eq_true rfl) (Nat.le_of_ble_eq_true rfl) (t_X12_isIn (by omega) ew1) (am_le_rf _) ?_
  rintro _ _ ⟨rfl, rfl⟩
  refine op_if_ne (tgt := 38) dX12_cost_33 (by decide) (fun c2 => ?_) (fun c2 => ?_)
  · replace h := am_ie c2 h
    refine op_iload_n (k := 2) dX12_cost_38 rfl rfl ?_
    refine op_if_ne (tgt := 50) dX12_cost_39 (by decide) (fun c3 => ?_) (fun c3 => ?_)
    · replace h := am_ie c3 h
      refine op_iload_n (k := 2) dX12_cost_50 rfl rfl ?_
      refine op_iconst (v := 1) dX12_cost_51 (by decide) ?_
      refine op_icmp_ne (tgt := 63) dX12_cost_52 (by decide) (fun c4 => ?_) (fun c4 => ?_)
      · replace h := am_ie c4 h
        refine op_aload_n (k := 0) dX12_cost_63 rfl rfl ?_
        refine op_iload_n (k := 1) dX12_cost_64 rfl rfl ?_
        obtain ⟨w5, ew5, h⟩ := am_bd h
        refine op_callV (M' := M_X12_seatsOf) [.int x1] (S0 := []) dX12_cost_65 tw_1620 ok_X12_seatsOf tw_1622 tw_82 kd_53 cls_12 rfl rfl rfl (Nat.le_of_ble_eq_true rfl) (Nat.le_of_ble_eq_true rfl) (t_X12_seatsOf (by omega) ew5) (am_le_rf _) ?_
        rintro _ _ ⟨rfl, rfl⟩
        cases h
        exact (op_iret dX12_cost_68 rfl rfl ⟨rfl, rfl⟩)
      · replace h := am_ip c4 h
        refine op_aload_n (k := 0) dX12_cost_55 rfl rfl ?_
        refine op_iload_n (k := 1) dX12_cost_56 rfl rfl ?_
        obtain ⟨w6, ew6, h⟩ := am_bd h
        refine op_callV (M' := M_X12_costOf) [.int x1] (S0 := []) dX12_cost_57 tw_1577 ok_X12_costOf tw_1579 tw_78 kd_53 cls_12 rfl rfl rfl (Nat.le_of_ble_eq_true rfl) (Nat.le_of_ble_eq_true rfl) (t_X12_costOf (by omega) ew6) (am_le_rf _) ?_
        rintro _ _ ⟨rfl, rfl⟩
        refine op_goto (tgt := 68) dX12_cost_60 (by decide) ?_
        cases h
        exact (op_iret dX12_cost_68 rfl rfl ⟨rfl, rfl⟩)
    · replace h := am_ip c3 h
      refine op_aload_n (k := 0) dX12_cost_42 rfl rfl ?_
      refine op_iload_n (k := 1) dX12_cost_43 rfl rfl ?_
      obtain ⟨w7, ew7, h⟩ := am_bd h
      refine op_callV (M' := M_X12_milesOf) [.int x1] (S0 := []) dX12_cost_44 tw_1569 ok_X12_milesOf tw_1571 tw_76 kd_53 cls_12 rfl rfl rfl (Nat.le_of_ble_eq_true rfl) (Nat.le_of_ble_eq_true rfl) (t_X12_milesOf (by omega) ew7) (am_le_rf _) ?_
      rintro _ _ ⟨rfl, rfl⟩
      refine op_goto (tgt := 68) dX12_cost_47 (by decide) ?_
      cases h
      exact (op_iret dX12_cost_68 rfl rfl ⟨rfl, rfl⟩)
  · replace h := am_ip c2 h
    refine op_iconst (v := (-1)) dX12_cost_36 (by decide) ?_
    cases h
    exact (op_iret dX12_cost_37 rfl rfl ⟨rfl, rfl⟩)
set_option maxRecDepth 100000 in
set_option maxHeartbeats 4000000 in
theorem t_X12_cost_0 {l : Launch} {ρ : am_R} {n d gc gs : Nat} {I : Nat → Nat → Int32} {J : Nat → Nat → Int64} {T : Nat} {x1 : Int32} {x2 : Int32} {q : Int32 × (Nat → Nat → Int32)} (hd : 0 * n + 4 ≤ (d + 1))
    (h : f_X12_cost n  I J T x1 x2 = some q) : AW l ρ (d + 1) M_X12_cost 0 [(0, .ref 53), (1, .int x1), (2, .int x2)] [] (am_KD, gc, gs) (I, J, am_RT T) (am_KD, gc, gs) (fun v H' => v = [.int q.1] ∧ H' = (q.2, J, am_RT T)) := by
  unfold f_X12_cost at h
  refine op_aload_n (k := 0) dX12_cost_0 rfl rfl ?_
  refine op_iconst (v := 0) dX12_cost_1 (by decide) ?_
  refine st_putI dX12_cost_2 fl_X12_108 kd_53 (by decide) rfl ?_
  refine op_aload_n (k := 0) dX12_cost_5 rfl rfl ?_
  refine st_getI (v := I 53 27) dX12_cost_6 fl_X12_297 kd_53 (by decide) rfl rfl ?_
  refine op_if_eq (tgt := 36) dX12_cost_9 (by decide) (fun c1 => ?_) (fun c1 => ?_)
  · replace h := am_ip c1 h
    refine op_iconst (v := (-1)) dX12_cost_36 (by decide) ?_
    cases h
    exact (op_iret dX12_cost_37 rfl rfl ⟨rfl, rfl⟩)
  · replace h := am_ie c1 h
    refine op_iload_n (k := 1) dX12_cost_12 rfl rfl ?_
    refine op_if_eq (tgt := 24) dX12_cost_13 (by decide) (fun c2 => ?_) (fun c2 => ?_)
    · replace h := am_ip c2 h
      exact t_X12_cost_24 hd  h
    · replace h := am_ie c2 h
      refine op_aload_n (k := 0) dX12_cost_16 rfl rfl ?_
      refine op_iload_n (k := 1) dX12_cost_17 rfl rfl ?_
      obtain ⟨w3, ew3, h⟩ := am_bd h
      refine op_callV (M' := M_X12_isSet) [.int x1] (S0 := []) dX12_cost_18 tw_1615 ok_X12_isSet tw_1617 tw_81 kd_53 cls_12 rfl rfl rfl (Nat.le_of_ble_eq_true rfl) (Nat.le_of_ble_eq_true rfl) (t_X12_isSet (by omega) ew3) (am_le_rf _) ?_
      rintro _ _ ⟨rfl, rfl⟩
      refine op_if_eq (tgt := 36) dX12_cost_21 (by decide) (fun c4 => ?_) (fun c4 => ?_)
      · replace h := am_ip c4 h
        refine op_iconst (v := (-1)) dX12_cost_36 (by decide) ?_
        cases h
        exact (op_iret dX12_cost_37 rfl rfl ⟨rfl, rfl⟩)
      · replace h := am_ie c4 h
        exact t_X12_cost_24 hd  h
theorem t_X12_cost {l : Launch} {ρ : am_R} {n d gc gs : Nat} {I : Nat → Nat → Int32} {J : Nat → Nat → Int64} {T : Nat} {x1 : Int32} {x2 : Int32} {q : Int32 × (Nat → Nat → Int32)} (hd : 0 * n + 4 ≤ d) (h : f_X12_cost n I J T x1 x2 = some q) : AW l ρ d M_X12_cost 0 [(0, .ref 53), (1, .int x1), (2, .int x2)] [] (am_KD, gc, gs) (I, J, am_RT T) (am_KD, gc, gs) (fun v H' => v = [.int q.1] ∧ H' = (q.2, J, am_RT T)) := by
  obtain ⟨d, rfl⟩ : ∃ e, d = e + 1 := ⟨d - 1, by omega⟩
  exact t_X12_cost_0 hd h
def f_X12_count (n : Nat) (I : Nat → Nat → Int32) (J : Nat → Nat → Int64) (T : Nat) (x1 : Int32) : Option (Int32 × (Nat → Nat → Int32)) :=
  if x1 = 0 then
   some (I 53 27, (am_u I 53 0 0))
  else
  if x1 = 1 then
   if (I 53 27) = 0 then
    some (0, (am_u I 53 0 0))
   else
    some ((I 53 26) + 1, (am_u I 53 0 0))
  else
  if x1 = 2 then
   some (I 53 7, (am_u I 53 0 0))
  else
  if x1 = 3 then
   some (I 53 6, (am_u I 53 0 0))
  else
  if x1 = 4 then
   some (I 53 51, (am_u I 53 0 0))
  else
  if x1 = 5 then
   some (I 53 52, (am_u I 53 0 0))
  else
  if x1 = 6 then
   some (I 53 48, (am_u I 53 0 0))
  else
  if x1 = 7 then
   if (I 53 27) = 0 then
    some (0, (am_u I 53 0 0))
   else
    some (I 61 0, (am_u I 53 0 0))
  else
  if x1 = 8 then
   if (I 53 27) = 0 then
    some (0, (am_u I 53 0 0))
   else
    some (I 61 1, (am_u I 53 0 0))
  else
  if x1 = 9 then
   if (I 53 27) = 0 then
    some (0, (am_u I 53 0 0))
   else
    some (I 61 2, (am_u I 53 0 0))
  else
  if x1 = 10 then
   some (I 53 31, (am_u I 53 0 0))
  else
  some ((-1000000), (am_u I 53 0 0))
set_option maxRecDepth 100000 in
set_option maxHeartbeats 4000000 in
theorem t_X12_count_0 {l : Launch} {ρ : am_R} {n d gc gs : Nat} {I : Nat → Nat → Int32} {J : Nat → Nat → Int64} {T : Nat} {x1 : Int32} {q : Int32 × (Nat → Nat → Int32)} (hd : 0 * n + 0 ≤ d)
    (h : f_X12_count n  I J T x1 = some q) : AW l ρ d M_X12_count 0 [(0, .ref 53), (1, .int x1)] [] (am_KD, gc, gs) (I, J, am_RT T) (am_KD, gc, gs) (fun v H' => v = [.int q.1] ∧ H' = (q.2, J, am_RT T)) := by
  unfold f_X12_count at h
  refine op_aload_n (k := 0) dX12_count_0 rfl rfl ?_
  refine op_iconst (v := 0) dX12_count_1 (by decide) ?_
  refine st_putI dX12_count_2 fl_X12_108 kd_53 (by decide) rfl ?_
  refine op_iload_n (k := 1) dX12_count_5 rfl rfl ?_
  by_cases c1_0 : x1 = 0
  · replace h := am_ip c1_0 h
    refine op_tableIn (tgt := 64) dX12_count_6 (by rw [c1_0]; decide) (by rw [c1_0]; decide) (off := 58) (by rw [c1_0]; rfl) (by decide) ?_
    refine op_aload_n (k := 0) dX12_count_64 rfl rfl ?_
    refine st_getI (v := I 53 27) dX12_count_65 fl_X12_297 kd_53 (by decide) rfl rfl ?_
    cases h
    exact (op_iret dX12_count_68 rfl rfl ⟨rfl, rfl⟩)
  replace h := am_ie c1_0 h
  by_cases c1_1 : x1 = 1
  · replace h := am_ip c1_1 h
    refine op_tableIn (tgt := 69) dX12_count_6 (by rw [c1_1]; decide) (by rw [c1_1]; decide) (off := 63) (by rw [c1_1]; rfl) (by decide) ?_
    refine op_aload_n (k := 0) dX12_count_69 rfl rfl ?_
    refine st_getI (v := I 53 27) dX12_count_70 fl_X12_297 kd_53 (by decide) rfl rfl ?_
    refine op_if_ne (tgt := 80) dX12_count_73 (by decide) (fun c2 => ?_) (fun c2 => ?_)
    · replace h := am_ie c2 h
      refine op_aload_n (k := 0) dX12_count_80 rfl rfl ?_
      refine st_getI (v := I 53 26) dX12_count_81 fl_X12_294 kd_53 (by decide) rfl rfl ?_
      refine op_iconst (v := 1) dX12_count_84 (by decide) ?_
      refine op_iadd dX12_count_85 ?_
      cases h
      exact (op_iret dX12_count_86 rfl rfl ⟨rfl, rfl⟩)
    · replace h := am_ip c2 h
      refine op_iconst (v := 0) dX12_count_76 (by decide) ?_
      refine op_goto (tgt := 86) dX12_count_77 (by decide) ?_
      cases h
      exact (op_iret dX12_count_86 rfl rfl ⟨rfl, rfl⟩)
  replace h := am_ie c1_1 h
  by_cases c1_2 : x1 = 2
  · replace h := am_ip c1_2 h
    refine op_tableIn (tgt := 87) dX12_count_6 (by rw [c1_2]; decide) (by rw [c1_2]; decide) (off := 81) (by rw [c1_2]; rfl) (by decide) ?_
    refine op_aload_n (k := 0) dX12_count_87 rfl rfl ?_
    refine st_getI (v := I 53 7) dX12_count_88 fl_X12_289 kd_53 (by decide) rfl rfl ?_
    cases h
    exact (op_iret dX12_count_91 rfl rfl ⟨rfl, rfl⟩)
  replace h := am_ie c1_2 h
  by_cases c1_3 : x1 = 3
  · replace h := am_ip c1_3 h
    refine op_tableIn (tgt := 92) dX12_count_6 (by rw [c1_3]; decide) (by rw [c1_3]; decide) (off := 86) (by rw [c1_3]; rfl) (by decide) ?_
    refine op_aload_n (k := 0) dX12_count_92 rfl rfl ?_
    refine st_getI (v := I 53 6) dX12_count_93 fl_X12_131 kd_53 (by decide) rfl rfl ?_
    cases h
    exact (op_iret dX12_count_96 rfl rfl ⟨rfl, rfl⟩)
  replace h := am_ie c1_3 h
  by_cases c1_4 : x1 = 4
  · replace h := am_ip c1_4 h
    refine op_tableIn (tgt := 97) dX12_count_6 (by rw [c1_4]; decide) (by rw [c1_4]; decide) (off := 91) (by rw [c1_4]; rfl) (by decide) ?_
    refine op_aload_n (k := 0) dX12_count_97 rfl rfl ?_
    refine st_getI (v := I 53 51) dX12_count_98 fl_X12_303 kd_53 (by decide) rfl rfl ?_
    cases h
    exact (op_iret dX12_count_101 rfl rfl ⟨rfl, rfl⟩)
  replace h := am_ie c1_4 h
  by_cases c1_5 : x1 = 5
  · replace h := am_ip c1_5 h
    refine op_tableIn (tgt := 102) dX12_count_6 (by rw [c1_5]; decide) (by rw [c1_5]; decide) (off := 96) (by rw [c1_5]; rfl) (by decide) ?_
    refine op_aload_n (k := 0) dX12_count_102 rfl rfl ?_
    refine st_getI (v := I 53 52) dX12_count_103 fl_X12_306 kd_53 (by decide) rfl rfl ?_
    cases h
    exact (op_iret dX12_count_106 rfl rfl ⟨rfl, rfl⟩)
  replace h := am_ie c1_5 h
  by_cases c1_6 : x1 = 6
  · replace h := am_ip c1_6 h
    refine op_tableIn (tgt := 107) dX12_count_6 (by rw [c1_6]; decide) (by rw [c1_6]; decide) (off := 101) (by rw [c1_6]; rfl) (by decide) ?_
    refine op_aload_n (k := 0) dX12_count_107 rfl rfl ?_
    refine st_getI (v := I 53 48) dX12_count_108 fl_X12_300 kd_53 (by decide) rfl rfl ?_
    cases h
    exact (op_iret dX12_count_111 rfl rfl ⟨rfl, rfl⟩)
  replace h := am_ie c1_6 h
  by_cases c1_7 : x1 = 7
  · replace h := am_ip c1_7 h
    refine op_tableIn (tgt := 112) dX12_count_6 (by rw [c1_7]; decide) (by rw [c1_7]; decide) (off := 106) (by rw [c1_7]; rfl) (by decide) ?_
    refine op_aload_n (k := 0) dX12_count_112 rfl rfl ?_
    refine st_getI (v := I 53 27) dX12_count_113 fl_X12_297 kd_53 (by decide) rfl rfl ?_
    refine op_if_ne (tgt := 123) dX12_count_116 (by decide) (fun c3 => ?_) (fun c3 => ?_)
    · replace h := am_ie c3 h
      refine op_aload_n (k := 0) dX12_count_123 rfl rfl ?_
      refine st_getR (z := 61) dX12_count_124 fl_X12_46 kd_53 (by decide) rfl rr_53_21 ?_
      refine op_iconst (v := 0) dX12_count_127 (by decide) ?_
      refine st_iald (k := 0) (v := I 61 0) dX12_count_128 kd_61 (by decide) (by decide) rfl ?_
      cases h
      exact (op_iret dX12_count_129 rfl rfl ⟨rfl, rfl⟩)
    · replace h := am_ip c3 h
      refine op_iconst (v := 0) dX12_count_119 (by decide) ?_
      refine op_goto (tgt := 129) dX12_count_120 (by decide) ?_
      cases h
      exact (op_iret dX12_count_129 rfl rfl ⟨rfl, rfl⟩)
  replace h := am_ie c1_7 h
  by_cases c1_8 : x1 = 8
  · replace h := am_ip c1_8 h
    refine op_tableIn (tgt := 130) dX12_count_6 (by rw [c1_8]; decide) (by rw [c1_8]; decide) (off := 124) (by rw [c1_8]; rfl) (by decide) ?_
    refine op_aload_n (k := 0) dX12_count_130 rfl rfl ?_
    refine st_getI (v := I 53 27) dX12_count_131 fl_X12_297 kd_53 (by decide) rfl rfl ?_
    refine op_if_ne (tgt := 141) dX12_count_134 (by decide) (fun c4 => ?_) (fun c4 => ?_)
    · replace h := am_ie c4 h
      refine op_aload_n (k := 0) dX12_count_141 rfl rfl ?_
      refine st_getR (z := 61) dX12_count_142 fl_X12_46 kd_53 (by decide) rfl rr_53_21 ?_
      refine op_iconst (v := 1) dX12_count_145 (by decide) ?_
      refine st_iald (k := 1) (v := I 61 1) dX12_count_146 kd_61 (by decide) (by decide) rfl ?_
      cases h
      exact (op_iret dX12_count_147 rfl rfl ⟨rfl, rfl⟩)
    · replace h := am_ip c4 h
      refine op_iconst (v := 0) dX12_count_137 (by decide) ?_
      refine op_goto (tgt := 147) dX12_count_138 (by decide) ?_
      cases h
      exact (op_iret dX12_count_147 rfl rfl ⟨rfl, rfl⟩)
  replace h := am_ie c1_8 h
  by_cases c1_9 : x1 = 9
  · replace h := am_ip c1_9 h
    refine op_tableIn (tgt := 148) dX12_count_6 (by rw [c1_9]; decide) (by rw [c1_9]; decide) (off := 142) (by rw [c1_9]; rfl) (by decide) ?_
    refine op_aload_n (k := 0) dX12_count_148 rfl rfl ?_
    refine st_getI (v := I 53 27) dX12_count_149 fl_X12_297 kd_53 (by decide) rfl rfl ?_
    refine op_if_ne (tgt := 159) dX12_count_152 (by decide) (fun c5 => ?_) (fun c5 => ?_)
    · replace h := am_ie c5 h
      refine op_aload_n (k := 0) dX12_count_159 rfl rfl ?_
      refine st_getR (z := 61) dX12_count_160 fl_X12_46 kd_53 (by decide) rfl rr_53_21 ?_
      refine op_iconst (v := 2) dX12_count_163 (by decide) ?_
      refine st_iald (k := 2) (v := I 61 2) dX12_count_164 kd_61 (by decide) (by decide) rfl ?_
      cases h
      exact (op_iret dX12_count_165 rfl rfl ⟨rfl, rfl⟩)
    · replace h := am_ip c5 h
      refine op_iconst (v := 0) dX12_count_155 (by decide) ?_
      refine op_goto (tgt := 165) dX12_count_156 (by decide) ?_
      cases h
      exact (op_iret dX12_count_165 rfl rfl ⟨rfl, rfl⟩)
  replace h := am_ie c1_9 h
  by_cases c1_10 : x1 = 10
  · replace h := am_ip c1_10 h
    refine op_tableIn (tgt := 166) dX12_count_6 (by rw [c1_10]; decide) (by rw [c1_10]; decide) (off := 160) (by rw [c1_10]; rfl) (by decide) ?_
    refine op_aload_n (k := 0) dX12_count_166 rfl rfl ?_
    refine st_getI (v := I 53 31) dX12_count_167 fl_X12_61 kd_53 (by decide) rfl rfl ?_
    cases h
    exact (op_iret dX12_count_170 rfl rfl ⟨rfl, rfl⟩)
  replace h := am_ie c1_10 h
  refine op_tableOut (tgt := 171) dX12_count_6 (by have z0 : x1.toInt ≠ 0 := fun z => c1_0 (Int32.toInt_inj.mp z); have z1 : x1.toInt ≠ 1 := fun z => c1_1 (Int32.toInt_inj.mp z); have z2 : x1.toInt ≠ 2 := fun z => c1_2 (Int32.toInt_inj.mp z); have z3 : x1.toInt ≠ 3 := fun z => c1_3 (Int32.toInt_inj.mp z); have z4 : x1.toInt ≠ 4 := fun z => c1_4 (Int32.toInt_inj.mp z); have z5 : x1.toInt ≠ 5 := fun z => c1_5 (Int32.toInt_inj.mp z); have z6 : x1.toInt ≠ 6 := fun z => c1_6 (Int32.toInt_inj.mp z); have z7 : x1.toInt ≠ 7 := fun z => c1_7 (Int32.toInt_inj.mp z); have z8 : x1.toInt ≠ 8 := fun z => c1_8 (Int32.toInt_inj.mp z); have z9 : x1.toInt ≠ 9 := fun z => c1_9 (Int32.toInt_inj.mp z); have z10 : x1.toInt ≠ 10 := fun z => c1_10 (Int32.toInt_inj.mp z); omega) (by decide) ?_
  refine op_ldcw dX12_count_171 tw_1792 ?_
  cases h
  exact (op_iret dX12_count_174 rfl rfl ⟨rfl, rfl⟩)
theorem t_X12_count {l : Launch} {ρ : am_R} {n d gc gs : Nat} {I : Nat → Nat → Int32} {J : Nat → Nat → Int64} {T : Nat} {x1 : Int32} {q : Int32 × (Nat → Nat → Int32)} (hd : 0 * n + 0 ≤ d) (h : f_X12_count n I J T x1 = some q) : AW l ρ d M_X12_count 0 [(0, .ref 53), (1, .int x1)] [] (am_KD, gc, gs) (I, J, am_RT T) (am_KD, gc, gs) (fun v H' => v = [.int q.1] ∧ H' = (q.2, J, am_RT T)) := t_X12_count_0 hd h
def f_X12_dig (n : Nat) (I : Nat → Nat → Int32) (J : Nat → Nat → Int64) (T : Nat) (x1 : Int32) (x2 : Int32) : Option (Int32 × (Nat → Nat → Int32)) :=
  (f_X12_isPlace n ((am_u I 53 0 0)) J T x1).bind fun w1 =>
  if w1 = 0 then
   some (0, (am_u I 53 0 0))
  else
   if x1 = 0 then
    some (0, (am_u I 53 0 0))
   else
    (f_X12_isIn n ((am_u I 53 0 0)) J T x2.toInt64 1 20).bind fun w4 =>
    if w4 = 0 then
     some (0, (am_u I 53 0 0))
    else
     if ok_ix x1 10 then
      some (1, (am_u (am_u I 53 0 0) 59 x1.toNatClampNeg x2))
     else none
set_option maxRecDepth 100000 in
set_option maxHeartbeats 4000000 in
theorem t_X12_dig_0 {l : Launch} {ρ : am_R} {n d gc gs : Nat} {I : Nat → Nat → Int32} {J : Nat → Nat → Int64} {T : Nat} {x1 : Int32} {x2 : Int32} {q : Int32 × (Nat → Nat → Int32)} (hd : 0 * n + 1 ≤ (d + 1))
    (h : f_X12_dig n  I J T x1 x2 = some q) : AW l ρ (d + 1) M_X12_dig 0 [(0, .ref 53), (1, .int x1), (2, .int x2)] [] (am_KD, gc, gs) (I, J, am_RT T) (am_KD, gc, gs) (fun v H' => v = [.int q.1] ∧ H' = (q.2, J, am_RT T)) := by
  unfold f_X12_dig at h
  refine op_aload_n (k := 0) dX12_dig_0 rfl rfl ?_
  refine op_iconst (v := 0) dX12_dig_1 (by decide) ?_
  refine st_putI dX12_dig_2 fl_X12_108 kd_53 (by decide) rfl ?_
  refine op_aload_n (k := 0) dX12_dig_5 rfl rfl ?_
  refine op_iload_n (k := 1) dX12_dig_6 rfl rfl ?_
  obtain ⟨w1, ew1, h⟩ := am_bd h
  refine op_callV (M' := M_X12_isPlace) [.int x1] (S0 := []) dX12_dig_7 tw_1586 ok_X12_isPlace tw_1588 tw_79 kd_53 cls_12 rfl rfl rfl (Nat.le_of_ble_eq_true rfl) (Nat.le_of_ble_eq_true rfl) (t_X12_isPlace (by omega) ew1) (am_le_rf _) ?_
  rintro _ _ ⟨rfl, rfl⟩
  refine op_if_eq (tgt := 29) dX12_dig_10 (by decide) (fun c2 => ?_) (fun c2 => ?_)
  · replace h := am_ip c2 h
    refine op_iconst (v := 0) dX12_dig_29 (by decide) ?_
    cases h
    exact (op_iret dX12_dig_30 rfl (by decide) ⟨rfl, rfl⟩)
  · replace h := am_ie c2 h
    refine op_iload_n (k := 1) dX12_dig_13 rfl rfl ?_
    refine op_if_eq (tgt := 29) dX12_dig_14 (by decide) (fun c3 => ?_) (fun c3 => ?_)
    · replace h := am_ip c3 h
      refine op_iconst (v := 0) dX12_dig_29 (by decide) ?_
      cases h
      exact (op_iret dX12_dig_30 rfl (by decide) ⟨rfl, rfl⟩)
    · replace h := am_ie c3 h
      refine op_iload_n (k := 2) dX12_dig_17 rfl rfl ?_
      refine op_i2l dX12_dig_18 ?_
      refine op_lconst (v := 1) dX12_dig_19 (by decide) ?_
      refine op_ldc2 dX12_dig_20 tw_1606 ?_
      obtain ⟨w4, ew4, h⟩ := am_bd h
      refine op_callS (M' := M_X12_isIn) [.long x2.toInt64, .long 1, .long 20] (S0 := []) dX12_dig_23 tw_1390 ok_X12_isIn tw_1391 rfl rfl (Nat.le_of_ble_eq_true rfl) (Nat.le_of_ble_eq_true rfl) (t_X12_isIn (by omega) ew4) (am_le_rf _) ?_
      rintro _ _ ⟨rfl, rfl⟩
      refine op_if_ne (tgt := 31) dX12_dig_26 (by decide) (fun c5 => ?_) (fun c5 => ?_)
      · replace h := am_ie c5 h
        refine op_aload_n (k := 0) dX12_dig_31 rfl rfl ?_
        refine st_getR (z := 59) dX12_dig_32 fl_X12_40 kd_53 (by decide) rfl rr_53_19 ?_
        refine op_iload_n (k := 1) dX12_dig_35 rfl rfl ?_
        refine op_iload_n (k := 2) dX12_dig_36 rfl rfl ?_
        obtain ⟨g6, h⟩ := am_gd h
        refine st_iast (k := x1.toNatClampNeg) dX12_dig_37 kd_59 g6 rfl ?_
        refine op_iconst (v := 1) dX12_dig_38 (by decide) ?_
        cases h
        exact (op_iret dX12_dig_39 rfl (by decide) ⟨rfl, rfl⟩)
      · replace h := am_ip c5 h
        refine op_iconst (v := 0) dX12_dig_29 (by decide) ?_
        cases h
        exact (op_iret dX12_dig_30 rfl (by decide) ⟨rfl, rfl⟩)
theorem t_X12_dig {l : Launch} {ρ : am_R} {n d gc gs : Nat} {I : Nat → Nat → Int32} {J : Nat → Nat → Int64} {T : Nat} {x1 : Int32} {x2 : Int32} {q : Int32 × (Nat → Nat → Int32)} (hd : 0 * n + 1 ≤ d) (h : f_X12_dig n I J T x1 x2 = some q) : AW l ρ d M_X12_dig 0 [(0, .ref 53), (1, .int x1), (2, .int x2)] [] (am_KD, gc, gs) (I, J, am_RT T) (am_KD, gc, gs) (fun v H' => v = [.int q.1] ∧ H' = (q.2, J, am_RT T)) := by
  obtain ⟨d, rfl⟩ : ∃ e, d = e + 1 := ⟨d - 1, by omega⟩
  exact t_X12_dig_0 hd h
def f_X12_ridesBy_96 (n : Nat) (k61 : (Nat → Nat → Int32) → (Nat → Nat → Int64) → Nat → Int32 → Int32 → Option ((Nat → Nat → Int32) × (Nat → Nat → Int64) × Nat)) (I : Nat → Nat → Int32) (J : Nat → Nat → Int64) (T : Nat) (x1 : Int32) (x3 : Int32) (z0 : Int64) : Option ((Nat → Nat → Int32) × (Nat → Nat → Int64) × Nat) :=
  if ok_ix ((6 * (I 53 52)) + x3) 240 then
   if ok_ix x3 6 then
    if ok_ix x3 6 then
     k61 I ((am_u (am_u J 75 (((6 * (I 53 52)) + x3).toNatClampNeg) z0) 74 x3.toNatClampNeg ((J 74 x3.toNatClampNeg) + z0))) T x1 (x3 + 1)
    else none
   else none
  else none
def f_X12_ridesBy_61 (n : Nat) : Nat → (Nat → Nat → Int32) → (Nat → Nat → Int64) → Nat → Int32 → Int32 → Option ((Nat → Nat → Int32) × (Nat → Nat → Int64) × Nat)
  | 0, _, _, _, _, _ => none
  | m + 1, I, J, T, x1, x3 =>
    if (I 53 27) ≤ x3 then
     some ((am_u (am_u I 53 52 ((I 53 52) + 1)) 53 51 ((I 53 51) + 1)), J, T)
    else
     (f_X12_has n I J T x1 x3).bind fun w2 =>
     if w2 = 0 then
      f_X12_ridesBy_96 n (f_X12_ridesBy_61 n m) I J T x1 x3 0
     else
      if ok_ix x3 6 then
       if ¬ (J 53 33) = 0 then
        f_X12_ridesBy_96 n (f_X12_ridesBy_61 n m) I J T x1 x3 (((J 66 x3.toNatClampNeg) * 720) / (J 53 33))
       else none
      else none
def f_X12_ridesBy_59 (n : Nat) (I : Nat → Nat → Int32) (J : Nat → Nat → Int64) (T : Nat) (x1 : Int32) : Option ((Nat → Nat → Int32) × (Nat → Nat → Int64) × Nat) :=
  f_X12_ridesBy_61 n  n I J T x1 0
def f_X12_ridesBy_49 (n : Nat) (I : Nat → Nat → Int32) (J : Nat → Nat → Int64) (T : Nat) (x1 : Int32) (x2 : Int32) : Option ((Nat → Nat → Int32) × (Nat → Nat → Int64) × Nat) :=
  if x1 = 0 then
   f_X12_ridesBy_59 n  I J T x1
  else
   (f_X12_layShares n I J T x1 x2).bind fun w2 =>
   f_X12_ridesBy_59 n  w2.1 w2.2.1 w2.2.2 x1
def f_X12_ridesBy_11 (n : Nat) : Nat → (Nat → Nat → Int32) → (Nat → Nat → Int64) → Nat → Int32 → Int32 → Int32 → Option ((Nat → Nat → Int32) × (Nat → Nat → Int64) × Nat)
  | 0, _, _, _, _, _, _ => none
  | m + 1, I, J, T, x1, x2, x3 =>
    if 234 ≤ x3 then
     f_X12_ridesBy_49 n  ((am_u I 53 52 ((I 53 52) - 1))) J T x1 x2
    else
     if ok_ix (x3 + 6) 240 then
      if ok_ix x3 240 then
       f_X12_ridesBy_11 n  m I ((am_u J 75 x3.toNatClampNeg (J 75 ((x3 + 6).toNatClampNeg)))) T x1 x2 (x3 + 1)
      else none
     else none
def f_X12_ridesBy (n : Nat) (I : Nat → Nat → Int32) (J : Nat → Nat → Int64) (T : Nat) (x1 : Int32) (x2 : Int32) : Option ((Nat → Nat → Int32) × (Nat → Nat → Int64) × Nat) :=
  if (I 53 52) = 40 then
   f_X12_ridesBy_11 n  n I J T x1 x2 0
  else
   f_X12_ridesBy_49 n  I J T x1 x2
set_option maxRecDepth 100000 in
set_option maxHeartbeats 4000000 in
theorem t_X12_ridesBy_96 {l : Launch} {ρ : am_R} {n d gc gs : Nat} {k61 : (Nat → Nat → Int32) → (Nat → Nat → Int64) → Nat → Int32 → Int32 → Option ((Nat → Nat → Int32) × (Nat → Nat → Int64) × Nat)} {I : Nat → Nat → Int32} {J : Nat → Nat → Int64} {T : Nat} {x1 : Int32} {x3 : Int32} {z0 : Int64} {q : (Nat → Nat → Int32) × (Nat → Nat → Int64) × Nat} (hd : 2 * n + 13 ≤ (d + 1))
    (hk61 : ∀ (I : Nat → Nat → Int32) (J : Nat → Nat → Int64) (T : Nat) (x1 : Int32) (x3 : Int32), k61 I J T x1 x3 = some q → AW l ρ (d + 1) M_X12_ridesBy 61 [(0, .ref 53), (1, .int x1), (3, .int x3)] [] (am_KD, gc, gs) (I, J, am_RT T) (am_KD, gc, gs) (fun v H' => v = [] ∧ H' = (q.1, q.2.1, am_RT (q.2.2))))
    (h : f_X12_ridesBy_96 n k61 I J T x1 x3 z0 = some q) : AW l ρ (d + 1) M_X12_ridesBy 96 [(0, .ref 53), (1, .int x1), (3, .int x3)] [.long z0] (am_KD, gc, gs) (I, J, am_RT T) (am_KD, gc, gs) (fun v H' => v = [] ∧ H' = (q.1, q.2.1, am_RT (q.2.2))) := by
  unfold f_X12_ridesBy_96 at h
  refine op_lstore (L' := [(4, .long z0), (0, .ref 53), (1, .int x1), (3, .int x3)]) dX12_ridesBy_96 (by decide) rfl ?_
  refine op_aload_n (k := 1) dX12_ridesBy_98 rfl rfl ?_
  refine st_getR (z := 75) dX12_ridesBy_99 fl_X12_93 kd_53 (by decide) rfl rr_53_50 ?_
  refine op_bipush (v := 6) dX12_ridesBy_102 (by decide) ?_
  refine op_aload_n (k := 1) dX12_ridesBy_104 rfl rfl ?_
  refine st_getI (v := I 53 52) dX12_ridesBy_105 fl_X12_306 kd_53 (by decide) rfl rfl ?_
  refine op_imul dX12_ridesBy_108 ?_
  refine op_iload_n (k := 3) dX12_ridesBy_109 rfl rfl ?_
  refine op_iadd dX12_ridesBy_110 ?_
  refine op_lload (k := 0) dX12_ridesBy_111 rfl ?_
  obtain ⟨g1, h⟩ := am_gd h
  refine st_last (k := ((6 * (I 53 52)) + x3).toNatClampNeg) dX12_ridesBy_113 kd_75 g1 rfl ?_
  refine op_aload_n (k := 1) dX12_ridesBy_114 rfl rfl ?_
  refine st_getR (z := 74) dX12_ridesBy_115 fl_X12_90 kd_53 (by decide) rfl rr_53_49 ?_
  refine op_iload_n (k := 3) dX12_ridesBy_118 rfl rfl ?_
  refine op_dup2 dX12_ridesBy_119 rfl rfl ?_
  obtain ⟨g2, h⟩ := am_gd h
  refine st_lald (k := x3.toNatClampNeg) (v := J 74 x3.toNatClampNeg) dX12_ridesBy_120 kd_74 g2 rfl rfl ?_
  refine op_lload (k := 0) dX12_ridesBy_121 rfl ?_
  refine op_ladd dX12_ridesBy_123 ?_
  obtain ⟨g3, h⟩ := am_gd h
  refine st_last (k := x3.toNatClampNeg) dX12_ridesBy_124 kd_74 g3 rfl ?_
  refine op_iinc (k := 3) (v := x3 + 1) (L' := [(3, .int (x3 + 1)), (4, .long z0), (0, .ref 53), (1, .int x1)]) dX12_ridesBy_125 rfl rfl (by decide) rfl ?_
  refine op_goto (tgt := 61) dX12_ridesBy_128 (by decide) ?_
  refine AW.perm [2, 3, 0] rfl ?_
  exact hk61 _ _ _ _ _ h
set_option maxRecDepth 100000 in
set_option maxHeartbeats 4000000 in
theorem t_X12_ridesBy_61 {l : Launch} {ρ : am_R} {n d gc gs : Nat} {q : (Nat → Nat → Int32) × (Nat → Nat → Int64) × Nat} (hd : 2 * n + 13 ≤ (d + 1))
    : ∀ (m : Nat) (I : Nat → Nat → Int32) (J : Nat → Nat → Int64) (T : Nat) (x1 : Int32) (x3 : Int32), f_X12_ridesBy_61 n  m I J T x1 x3 = some q → AW l ρ (d + 1) M_X12_ridesBy 61 [(0, .ref 53), (1, .int x1), (3, .int x3)] [] (am_KD, gc, gs) (I, J, am_RT T) (am_KD, gc, gs) (fun v H' => v = [] ∧ H' = (q.1, q.2.1, am_RT (q.2.2))) := by
  intro m
  induction m with
  | zero =>
    intro I J T x1 x3 h
    rw [f_X12_ridesBy_61] at h
    cases h
  | succ m ih =>
    intro I J T x1 x3 h
    rw [f_X12_ridesBy_61] at h
    refine op_iload_n (k := 2) dX12_ridesBy_61 rfl rfl ?_
    refine op_aload_n (k := 0) dX12_ridesBy_62 rfl rfl ?_
    refine st_getI (v := I 53 27) dX12_ridesBy_63 fl_X12_297 kd_53 (by decide) rfl rfl ?_
    refine op_icmp_ge (tgt := 131) dX12_ridesBy_66 (by decide) (fun c1 => ?_) (fun c1 => ?_)
    · replace h := am_ip c1 h
      refine op_aload_n (k := 0) dX12_ridesBy_131 rfl rfl ?_
      refine op_dup dX12_ridesBy_132 rfl ?_
      refine st_getI (v := I 53 52) dX12_ridesBy_133 fl_X12_306 kd_53 (by decide) rfl rfl ?_
      refine op_iconst (v := 1) dX12_ridesBy_136 (by decide) ?_
      refine op_iadd dX12_ridesBy_137 ?_
      refine st_putI dX12_ridesBy_138 fl_X12_306 kd_53 (by decide) rfl ?_
      refine op_aload_n (k := 0) dX12_ridesBy_141 rfl rfl ?_
      refine op_dup dX12_ridesBy_142 rfl ?_
      refine st_getI (v := I 53 51) dX12_ridesBy_143 fl_X12_303 kd_53 (by decide) rfl rfl ?_
      refine op_iconst (v := 1) dX12_ridesBy_146 (by decide) ?_
      refine op_iadd dX12_ridesBy_147 ?_
      refine st_putI dX12_ridesBy_148 fl_X12_303 kd_53 (by decide) rfl ?_
      cases h
      exact (op_vret dX12_ridesBy_151 rfl ⟨rfl, rfl⟩)
    · replace h := am_ie c1 h
      refine op_iload_n (k := 1) dX12_ridesBy_69 rfl rfl ?_
      refine op_iload_n (k := 2) dX12_ridesBy_70 rfl rfl ?_
      obtain ⟨w2, ew2, h⟩ := am_bd h
      refine op_callS (M' := M_X12_has) [.int x1, .int x3] (S0 := []) dX12_ridesBy_71 tw_1471 ok_X12_has tw_1472 rfl rfl (Nat.le_of_ble_eq_true rfl) (Nat.le_of_ble_eq_true rfl) (t_X12_has (by omega) ew2) (am_le_rf _) ?_
      rintro _ _ ⟨rfl, rfl⟩
      refine op_if_eq (tgt := 95) dX12_ridesBy_74 (by decide) (fun c3 => ?_) (fun c3 => ?_)
      · replace h := am_ip c3 h
        refine op_lconst (v := 0) dX12_ridesBy_95 (by decide) ?_
        exact t_X12_ridesBy_96 hd ih h
      · replace h := am_ie c3 h
        refine op_aload_n (k := 0) dX12_ridesBy_77 rfl rfl ?_
        refine st_getR (z := 66) dX12_ridesBy_78 fl_X12_65 kd_53 (by decide) rfl rr_53_32 ?_
        refine op_iload_n (k := 2) dX12_ridesBy_81 rfl rfl ?_
        obtain ⟨g4, h⟩ := am_gd h
        refine st_lald (k := x3.toNatClampNeg) (v := J 66 x3.toNatClampNeg) dX12_ridesBy_82 kd_66 g4 rfl rfl ?_
        refine op_ldc2 dX12_ridesBy_83 tw_1764 ?_
        refine op_lmul dX12_ridesBy_86 ?_
        refine op_aload_n (k := 0) dX12_ridesBy_87 rfl rfl ?_
        refine st_getL (v := J 53 33) dX12_ridesBy_88 fl_X12_361 kd_53 (by decide) rfl rfl ?_
        obtain ⟨g5, h⟩ := am_gd h
        refine op_ldiv dX12_ridesBy_91 g5 ?_
        refine op_goto (tgt := 96) dX12_ridesBy_92 (by decide) ?_
        exact t_X12_ridesBy_96 hd ih h
set_option maxRecDepth 100000 in
set_option maxHeartbeats 4000000 in
theorem t_X12_ridesBy_59 {l : Launch} {ρ : am_R} {n d gc gs : Nat} {I : Nat → Nat → Int32} {J : Nat → Nat → Int64} {T : Nat} {x1 : Int32} {q : (Nat → Nat → Int32) × (Nat → Nat → Int64) × Nat} (hd : 2 * n + 13 ≤ (d + 1))
    (h : f_X12_ridesBy_59 n  I J T x1 = some q) : AW l ρ (d + 1) M_X12_ridesBy 59 [(0, .ref 53), (1, .int x1)] [] (am_KD, gc, gs) (I, J, am_RT T) (am_KD, gc, gs) (fun v H' => v = [] ∧ H' = (q.1, q.2.1, am_RT (q.2.2))) := by
  unfold f_X12_ridesBy_59 at h
  refine op_iconst (v := 0) dX12_ridesBy_59 (by decide) ?_
  refine op_istore_n (L' := [(3, .int 0), (0, .ref 53), (1, .int x1)]) dX12_ridesBy_60 rfl (by decide) rfl ?_
  refine AW.perm [1, 2, 0] rfl ?_
  exact t_X12_ridesBy_61 hd  n _ _ _ _ _ h
set_option maxRecDepth 100000 in
set_option maxHeartbeats 4000000 in
theorem t_X12_ridesBy_49 {l : Launch} {ρ : am_R} {n d gc gs : Nat} {I : Nat → Nat → Int32} {J : Nat → Nat → Int64} {T : Nat} {x1 : Int32} {x2 : Int32} {q : (Nat → Nat → Int32) × (Nat → Nat → Int64) × Nat} (hd : 2 * n + 13 ≤ (d + 1))
    (h : f_X12_ridesBy_49 n  I J T x1 x2 = some q) : AW l ρ (d + 1) M_X12_ridesBy 49 [(0, .ref 53), (1, .int x1), (2, .int x2)] [] (am_KD, gc, gs) (I, J, am_RT T) (am_KD, gc, gs) (fun v H' => v = [] ∧ H' = (q.1, q.2.1, am_RT (q.2.2))) := by
  unfold f_X12_ridesBy_49 at h
  refine op_iload_n (k := 1) dX12_ridesBy_49 rfl rfl ?_
  refine op_if_eq (tgt := 59) dX12_ridesBy_50 (by decide) (fun c1 => ?_) (fun c1 => ?_)
  · replace h := am_ip c1 h
    refine AW.perm [0, 1] rfl ?_
    exact t_X12_ridesBy_59 hd  h
  · replace h := am_ie c1 h
    refine op_aload_n (k := 0) dX12_ridesBy_53 rfl rfl ?_
    refine op_iload_n (k := 1) dX12_ridesBy_54 rfl rfl ?_
    refine op_iload_n (k := 2) dX12_ridesBy_55 rfl rfl ?_
    obtain ⟨w2, ew2, h⟩ := am_bd h
    refine op_callV (M' := M_X12_layShares) [.int x1, .int x2] (S0 := []) dX12_ridesBy_56 tw_1633 ok_X12_layShares tw_1635 tw_84 kd_53 cls_12 rfl rfl rfl (Nat.le_of_ble_eq_true rfl) (Nat.le_of_ble_eq_true rfl) (t_X12_layShares (by omega) ew2) (am_le_rf _) ?_
    rintro _ _ ⟨rfl, rfl⟩
    refine AW.perm [0, 1] rfl ?_
    exact t_X12_ridesBy_59 hd  h
set_option maxRecDepth 100000 in
set_option maxHeartbeats 4000000 in
theorem t_X12_ridesBy_11 {l : Launch} {ρ : am_R} {n d gc gs : Nat} {q : (Nat → Nat → Int32) × (Nat → Nat → Int64) × Nat} (hd : 2 * n + 13 ≤ (d + 1))
    : ∀ (m : Nat) (I : Nat → Nat → Int32) (J : Nat → Nat → Int64) (T : Nat) (x1 : Int32) (x2 : Int32) (x3 : Int32), f_X12_ridesBy_11 n  m I J T x1 x2 x3 = some q → AW l ρ (d + 1) M_X12_ridesBy 11 [(0, .ref 53), (1, .int x1), (2, .int x2), (3, .int x3)] [] (am_KD, gc, gs) (I, J, am_RT T) (am_KD, gc, gs) (fun v H' => v = [] ∧ H' = (q.1, q.2.1, am_RT (q.2.2))) := by
  intro m
  induction m with
  | zero =>
    intro I J T x1 x2 x3 h
    rw [f_X12_ridesBy_11] at h
    cases h
  | succ m ih =>
    intro I J T x1 x2 x3 h
    rw [f_X12_ridesBy_11] at h
    refine op_iload_n (k := 3) dX12_ridesBy_11 rfl rfl ?_
    refine op_sipush (v := 234) dX12_ridesBy_12 (by decide) ?_
    refine op_icmp_ge (tgt := 39) dX12_ridesBy_15 (by decide) (fun c1 => ?_) (fun c1 => ?_)
    · replace h := am_ip c1 h
      refine op_aload_n (k := 0) dX12_ridesBy_39 rfl rfl ?_
      refine op_dup dX12_ridesBy_40 rfl ?_
      refine st_getI (v := I 53 52) dX12_ridesBy_41 fl_X12_306 kd_53 (by decide) rfl rfl ?_
      refine op_iconst (v := 1) dX12_ridesBy_44 (by decide) ?_
      refine op_isub dX12_ridesBy_45 ?_
      refine st_putI dX12_ridesBy_46 fl_X12_306 kd_53 (by decide) rfl ?_
      refine AW.perm [0, 1, 2] rfl ?_
      exact t_X12_ridesBy_49 hd  h
    · replace h := am_ie c1 h
      refine op_aload_n (k := 0) dX12_ridesBy_18 rfl rfl ?_
      refine st_getR (z := 75) dX12_ridesBy_19 fl_X12_93 kd_53 (by decide) rfl rr_53_50 ?_
      refine op_iload_n (k := 3) dX12_ridesBy_22 rfl rfl ?_
      refine op_aload_n (k := 0) dX12_ridesBy_23 rfl rfl ?_
      refine st_getR (z := 75) dX12_ridesBy_24 fl_X12_93 kd_53 (by decide) rfl rr_53_50 ?_
      refine op_iload_n (k := 3) dX12_ridesBy_27 rfl rfl ?_
      refine op_bipush (v := 6) dX12_ridesBy_28 (by decide) ?_
      refine op_iadd dX12_ridesBy_30 ?_
      obtain ⟨g2, h⟩ := am_gd h
      refine st_lald (k := (x3 + 6).toNatClampNeg) (v := J 75 ((x3 + 6).toNatClampNeg)) dX12_ridesBy_31 kd_75 g2 rfl rfl ?_
      obtain ⟨g3, h⟩ := am_gd h
      refine st_last (k := x3.toNatClampNeg) dX12_ridesBy_32 kd_75 g3 rfl ?_
      refine op_iinc (k := 3) (v := x3 + 1) (L' := [(3, .int (x3 + 1)), (0, .ref 53), (1, .int x1), (2, .int x2)]) dX12_ridesBy_33 rfl rfl (by decide) rfl ?_
      refine op_goto (tgt := 11) dX12_ridesBy_36 (by decide) ?_
      refine AW.perm [1, 2, 3, 0] rfl ?_
      exact ih _ _ _ _ _ _ h
set_option maxRecDepth 100000 in
set_option maxHeartbeats 4000000 in
theorem t_X12_ridesBy_0 {l : Launch} {ρ : am_R} {n d gc gs : Nat} {I : Nat → Nat → Int32} {J : Nat → Nat → Int64} {T : Nat} {x1 : Int32} {x2 : Int32} {q : (Nat → Nat → Int32) × (Nat → Nat → Int64) × Nat} (hd : 2 * n + 13 ≤ (d + 1))
    (h : f_X12_ridesBy n  I J T x1 x2 = some q) : AW l ρ (d + 1) M_X12_ridesBy 0 [(0, .ref 53), (1, .int x1), (2, .int x2)] [] (am_KD, gc, gs) (I, J, am_RT T) (am_KD, gc, gs) (fun v H' => v = [] ∧ H' = (q.1, q.2.1, am_RT (q.2.2))) := by
  unfold f_X12_ridesBy at h
  refine op_aload_n (k := 0) dX12_ridesBy_0 rfl rfl ?_
  refine st_getI (v := I 53 52) dX12_ridesBy_1 fl_X12_306 kd_53 (by decide) rfl rfl ?_
  refine op_bipush (v := 40) dX12_ridesBy_4 (by decide) ?_
  refine op_icmp_ne (tgt := 49) dX12_ridesBy_6 (by decide) (fun c1 => ?_) (fun c1 => ?_)
  · replace h := am_ie c1 h
    exact t_X12_ridesBy_49 hd  h
  · replace h := am_ip c1 h
    refine op_iconst (v := 0) dX12_ridesBy_9 (by decide) ?_
    refine op_istore_n (L' := [(3, .int 0), (0, .ref 53), (1, .int x1), (2, .int x2)]) dX12_ridesBy_10 rfl (by decide) rfl ?_
    refine AW.perm [1, 2, 3, 0] rfl ?_
    exact t_X12_ridesBy_11 hd  n _ _ _ _ _ _ h
theorem t_X12_ridesBy {l : Launch} {ρ : am_R} {n d gc gs : Nat} {I : Nat → Nat → Int32} {J : Nat → Nat → Int64} {T : Nat} {x1 : Int32} {x2 : Int32} {q : (Nat → Nat → Int32) × (Nat → Nat → Int64) × Nat} (hd : 2 * n + 13 ≤ d) (h : f_X12_ridesBy n I J T x1 x2 = some q) : AW l ρ d M_X12_ridesBy 0 [(0, .ref 53), (1, .int x1), (2, .int x2)] [] (am_KD, gc, gs) (I, J, am_RT T) (am_KD, gc, gs) (fun v H' => v = [] ∧ H' = (q.1, q.2.1, am_RT (q.2.2))) := by
  obtain ⟨d, rfl⟩ : ∃ e, d = e + 1 := ⟨d - 1, by omega⟩
  exact t_X12_ridesBy_0 hd h
def f_X12_drawn_90 (n : Nat) (k33 : (Nat → Nat → Int32) → (Nat → Nat → Int64) → Nat → Int32 → Int32 → Int64 → Int32 → Option (Int32 × (Nat → Nat → Int32) × (Nat → Nat → Int64) × Nat)) (k45 : (Nat → Nat → Int32) → (Nat → Nat → Int64) → Nat → Int32 → Int32 → Int64 → Int32 → Int32 → Int32 → Option (Int32 × (Nat → Nat → Int32) × (Nat → Nat → Int64) × Nat)) (I : Nat → Nat → Int32) (J : Nat → Nat → Int64) (T : Nat) (x1 : Int32) (x2 : Int32) (y5 : Int64) (x7 : Int32) (x9 : Int32) (s0 : Int32) (s1 : Int32) : Option (Int32 × (Nat → Nat → Int32) × (Nat → Nat → Int64) × Nat) :=
  k45 I J T x1 x2 y5 x7 (s0 ||| s1) (x9 + 1)
def f_X12_drawn_45 (n : Nat) (k33 : (Nat → Nat → Int32) → (Nat → Nat → Int64) → Nat → Int32 → Int32 → Int64 → Int32 → Option (Int32 × (Nat → Nat → Int32) × (Nat → Nat → Int64) × Nat)) : Nat → (Nat → Nat → Int32) → (Nat → Nat → Int64) → Nat → Int32 → Int32 → Int64 → Int32 → Int32 → Int32 → Option (Int32 × (Nat → Nat → Int32) × (Nat → Nat → Int64) × Nat)
  | 0, _, _, _, _, _, _, _, _, _ => none
  | m + 1, I, J, T, x1, x2, y5, x7, x8, x9 =>
    if (I 53 27) ≤ x9 then
     (f_X12_ridesBy n I J T x8 x2).bind fun w2 =>
     k33 w2.1 w2.2.1 w2.2.2 x1 x2 y5 (x7 + 1)
    else
     if (lg_cmp ((am_lsh ((y5 * 6364136223846793005) + 1442695040888963407) 33) - (am_lsh ((y5 * 6364136223846793005) + 1442695040888963407) 33) / 2 * 2) 1) = 0 then
      f_X12_drawn_90 n k33 (f_X12_drawn_45 n k33 m) I J T x1 x2 ((y5 * 6364136223846793005) + 1442695040888963407) x7 x9 x8 (1 <<< (x9 &&& 31))
     else
      f_X12_drawn_90 n k33 (f_X12_drawn_45 n k33 m) I J T x1 x2 ((y5 * 6364136223846793005) + 1442695040888963407) x7 x9 x8 0
def f_X12_drawn_33 (n : Nat) : Nat → (Nat → Nat → Int32) → (Nat → Nat → Int64) → Nat → Int32 → Int32 → Int64 → Int32 → Option (Int32 × (Nat → Nat → Int32) × (Nat → Nat → Int64) × Nat)
  | 0, _, _, _, _, _, _, _ => none
  | m + 1, I, J, T, x1, x2, y5, x7 =>
    if x1 ≤ x7 then
     some (I 53 51, I, J, T)
    else
     f_X12_drawn_45 n (f_X12_drawn_33 n m) n I J T x1 x2 y5 x7 0 0
def f_X12_drawn (n : Nat) (I : Nat → Nat → Int32) (J : Nat → Nat → Int64) (T : Nat) (x1 : Int32) (x2 : Int32) (y3 : Int64) : Option (Int32 × (Nat → Nat → Int32) × (Nat → Nat → Int64) × Nat) :=
  (f_X12_isIn n ((am_u I 53 0 0)) J T x1.toInt64 1 40).bind fun w1 =>
  if w1 = 0 then
   some ((-1), (am_u I 53 0 0), J, T)
  else
   (f_X12_isLaw n ((am_u I 53 0 0)) J T x2).bind fun w3 =>
   if w3 = 0 then
    some ((-1), (am_u I 53 0 0), J, T)
   else
    f_X12_drawn_33 n  n ((am_u I 53 0 0)) J T x1 x2 y3 0
set_option maxRecDepth 100000 in
set_option maxHeartbeats 4000000 in
theorem t_X12_drawn_90 {l : Launch} {ρ : am_R} {n d gc gs : Nat} {k33 : (Nat → Nat → Int32) → (Nat → Nat → Int64) → Nat → Int32 → Int32 → Int64 → Int32 → Option (Int32 × (Nat → Nat → Int32) × (Nat → Nat → Int64) × Nat)} {k45 : (Nat → Nat → Int32) → (Nat → Nat → Int64) → Nat → Int32 → Int32 → Int64 → Int32 → Int32 → Int32 → Option (Int32 × (Nat → Nat → Int32) × (Nat → Nat → Int64) × Nat)} {I : Nat → Nat → Int32} {J : Nat → Nat → Int64} {T : Nat} {x1 : Int32} {x2 : Int32} {y5 : Int64} {x7 : Int32} {x9 : Int32} {s0 : Int32} {s1 : Int32} {q : Int32 × (Nat → Nat → Int32) × (Nat → Nat → Int64) × Nat} (hd : 2 * n + 14 ≤ (d + 1))
    (hk33 : ∀ (I : Nat → Nat → Int32) (J : Nat → Nat → Int64) (T : Nat) (x1 : Int32) (x2 : Int32) (y5 : Int64) (x7 : Int32), k33 I J T x1 x2 y5 x7 = some q → AW l ρ (d + 1) M_X12_drawn 33 [(0, .ref 53), (1, .int x1), (2, .int x2), (5, .long y5), (7, .int x7)] [] (am_KD, gc, gs) (I, J, am_RT T) (am_KD, gc, gs) (fun v H' => v = [.int q.1] ∧ H' = (q.2.1, q.2.2.1, am_RT (q.2.2.2))))
    (hk45 : ∀ (I : Nat → Nat → Int32) (J : Nat → Nat → Int64) (T : Nat) (x1 : Int32) (x2 : Int32) (y5 : Int64) (x7 : Int32) (x8 : Int32) (x9 : Int32), k45 I J T x1 x2 y5 x7 x8 x9 = some q → AW l ρ (d + 1) M_X12_drawn 45 [(0, .ref 53), (1, .int x1), (2, .int x2), (5, .long y5), (7, .int x7), (8, .int x8), (9, .int x9)] [] (am_KD, gc, gs) (I, J, am_RT T) (am_KD, gc, gs) (fun v H' => v = [.int q.1] ∧ H' = (q.2.1, q.2.2.1, am_RT (q.2.2.2))))
    (h : f_X12_drawn_90 n k33 k45 I J T x1 x2 y5 x7 x9 s0 s1 = some q) : AW l ρ (d + 1) M_X12_drawn 90 [(0, .ref 53), (1, .int x1), (2, .int x2), (5, .long y5), (7, .int x7), (9, .int x9)] [.int s1, .int s0] (am_KD, gc, gs) (I, J, am_RT T) (am_KD, gc, gs) (fun v H' => v = [.int q.1] ∧ H' = (q.2.1, q.2.2.1, am_RT (q.2.2.2))) := by
  unfold f_X12_drawn_90 at h
  refine op_ior dX12_drawn_90 ?_
  refine op_istore (L' := [(8, .int (s0 ||| s1)), (0, .ref 53), (1, .int x1), (2, .int x2), (5, .long y5), (7, .int x7), (9, .int x9)]) dX12_drawn_91 (by decide) rfl ?_
  refine op_iinc (k := 6) (v := x9 + 1) (L' := [(9, .int (x9 + 1)), (8, .int (s0 ||| s1)), (0, .ref 53), (1, .int x1), (2, .int x2), (5, .long y5), (7, .int x7)]) dX12_drawn_93 rfl rfl (by decide) rfl ?_
  refine op_goto (tgt := 45) dX12_drawn_96 (by decide) ?_
  refine AW.perm [2, 3, 4, 5, 6, 1, 0] rfl ?_
  exact hk45 _ _ _ _ _ _ _ _ _ h
set_option maxRecDepth 100000 in
set_option maxHeartbeats 4000000 in
theorem t_X12_drawn_45 {l : Launch} {ρ : am_R} {n d gc gs : Nat} {k33 : (Nat → Nat → Int32) → (Nat → Nat → Int64) → Nat → Int32 → Int32 → Int64 → Int32 → Option (Int32 × (Nat → Nat → Int32) × (Nat → Nat → Int64) × Nat)} {q : Int32 × (Nat → Nat → Int32) × (Nat → Nat → Int64) × Nat} (hd : 2 * n + 14 ≤ (d + 1))
    (hk33 : ∀ (I : Nat → Nat → Int32) (J : Nat → Nat → Int64) (T : Nat) (x1 : Int32) (x2 : Int32) (y5 : Int64) (x7 : Int32), k33 I J T x1 x2 y5 x7 = some q → AW l ρ (d + 1) M_X12_drawn 33 [(0, .ref 53), (1, .int x1), (2, .int x2), (5, .long y5), (7, .int x7)] [] (am_KD, gc, gs) (I, J, am_RT T) (am_KD, gc, gs) (fun v H' => v = [.int q.1] ∧ H' = (q.2.1, q.2.2.1, am_RT (q.2.2.2))))
    : ∀ (m : Nat) (I : Nat → Nat → Int32) (J : Nat → Nat → Int64) (T : Nat) (x1 : Int32) (x2 : Int32) (y5 : Int64) (x7 : Int32) (x8 : Int32) (x9 : Int32), f_X12_drawn_45 n k33 m I J T x1 x2 y5 x7 x8 x9 = some q → AW l ρ (d + 1) M_X12_drawn 45 [(0, .ref 53), (1, .int x1), (2, .int x2), (5, .long y5), (7, .int x7), (8, .int x8), (9, .int x9)] [] (am_KD, gc, gs) (I, J, am_RT T) (am_KD, gc, gs) (fun v H' => v = [.int q.1] ∧ H' = (q.2.1, q.2.2.1, am_RT (q.2.2.2))) := by
  intro m
  induction m with
  | zero =>
    intro I J T x1 x2 y5 x7 x8 x9 h
    rw [f_X12_drawn_45] at h
    cases h
  | succ m ih =>
    intro I J T x1 x2 y5 x7 x8 x9 h
    rw [f_X12_drawn_45] at h
    refine op_iload (k := 6) dX12_drawn_45 rfl ?_
    refine op_aload_n (k := 0) dX12_drawn_47 rfl rfl ?_
    refine st_getI (v := I 53 27) dX12_drawn_48 fl_X12_297 kd_53 (by decide) rfl rfl ?_
    refine op_icmp_ge (tgt := 99) dX12_drawn_51 (by decide) (fun c1 => ?_) (fun c1 => ?_)
    · replace h := am_ip c1 h
      refine op_aload_n (k := 0) dX12_drawn_99 rfl rfl ?_
      refine op_iload (k := 5) dX12_drawn_100 rfl ?_
      refine op_iload_n (k := 2) dX12_drawn_102 rfl rfl ?_
      obtain ⟨w2, ew2, h⟩ := am_bd h
      refine op_callV (M' := M_X12_ridesBy) [.int x8, .int x2] (S0 := []) dX12_drawn_103 tw_1760 ok_X12_ridesBy tw_1762 tw_100 kd_53 cls_12 rfl rfl rfl (Nat.le_of_ble_eq_true rfl) (Nat.le_of_ble_eq_true rfl) (t_X12_ridesBy (by omega) ew2) (am_le_rf _) ?_
      rintro _ _ ⟨rfl, rfl⟩
      refine op_iinc (k := 4) (v := x7 + 1) (L' := [(7, .int (x7 + 1)), (0, .ref 53), (1, .int x1), (2, .int x2), (5, .long y5), (8, .int x8), (9, .int x9)]) dX12_drawn_106 rfl rfl (by decide) rfl ?_
      refine op_goto (tgt := 33) dX12_drawn_109 (by decide) ?_
      refine AW.perm [1, 2, 3, 4, 0] rfl ?_
      exact hk33 _ _ _ _ _ _ _ h
    · replace h := am_ie c1 h
      refine op_lload (k := 3) dX12_drawn_54 rfl ?_
      refine op_ldc2 dX12_drawn_56 tw_1770 ?_
      refine op_lmul dX12_drawn_59 ?_
      refine op_ldc2 dX12_drawn_60 tw_1771 ?_
      refine op_ladd dX12_drawn_63 ?_
      refine op_lstore (L' := [(5, .long ((y5 * 6364136223846793005) + 1442695040888963407)), (0, .ref 53), (1, .int x1), (2, .int x2), (7, .int x7), (8, .int x8), (9, .int x9)]) dX12_drawn_64 (by decide) rfl ?_
      refine op_iload (k := 5) dX12_drawn_66 rfl ?_
      refine op_lload (k := 0) dX12_drawn_68 rfl ?_
      refine op_bipush (v := 33) dX12_drawn_70 (by decide) ?_
      refine op_lushr (v := am_lsh ((y5 * 6364136223846793005) + 1442695040888963407) 33) dX12_drawn_72 rfl ?_
      refine op_ldc2 dX12_drawn_73 tw_1619 ?_
      refine op_lrem dX12_drawn_76 (by decide) ?_
      refine op_lconst (v := 1) dX12_drawn_77 (by decide) ?_
      refine op_lcmp dX12_drawn_78 ?_
      refine op_if_ne (tgt := 89) dX12_drawn_79 (by decide) (fun c3 => ?_) (fun c3 => ?_)
      · replace h := am_ie c3 h
        refine op_iconst (v := 0) dX12_drawn_89 (by decide) ?_
        refine AW.perm [1, 2, 3, 0, 4, 6] rfl ?_
        exact t_X12_drawn_90 hd hk33 ih h
      · replace h := am_ip c3 h
        refine op_iconst (v := 1) dX12_drawn_82 (by decide) ?_
        refine op_iload (k := 6) dX12_drawn_83 rfl ?_
        refine op_ishl dX12_drawn_85 ?_
        refine op_goto (tgt := 90) dX12_drawn_86 (by decide) ?_
        refine AW.perm [1, 2, 3, 0, 4, 6] rfl ?_
        exact t_X12_drawn_90 hd hk33 ih h
set_option maxRecDepth 100000 in
set_option maxHeartbeats 4000000 in
theorem t_X12_drawn_33 {l : Launch} {ρ : am_R} {n d gc gs : Nat} {q : Int32 × (Nat → Nat → Int32) × (Nat → Nat → Int64) × Nat} (hd : 2 * n + 14 ≤ (d + 1))
    : ∀ (m : Nat) (I : Nat → Nat → Int32) (J : Nat → Nat → Int64) (T : Nat) (x1 : Int32) (x2 : Int32) (y5 : Int64) (x7 : Int32), f_X12_drawn_33 n  m I J T x1 x2 y5 x7 = some q → AW l ρ (d + 1) M_X12_drawn 33 [(0, .ref 53), (1, .int x1), (2, .int x2), (5, .long y5), (7, .int x7)] [] (am_KD, gc, gs) (I, J, am_RT T) (am_KD, gc, gs) (fun v H' => v = [.int q.1] ∧ H' = (q.2.1, q.2.2.1, am_RT (q.2.2.2))) := by
  intro m
  induction m with
  | zero =>
    intro I J T x1 x2 y5 x7 h
    rw [f_X12_drawn_33] at h
    cases h
  | succ m ih =>
    intro I J T x1 x2 y5 x7 h
    rw [f_X12_drawn_33] at h
    refine op_iload (k := 4) dX12_drawn_33 rfl ?_
    refine op_iload_n (k := 1) dX12_drawn_35 rfl rfl ?_
    refine op_icmp_ge (tgt := 112) dX12_drawn_36 (by decide) (fun c1 => ?_) (fun c1 => ?_)
    · replace h := am_ip c1 h
      refine op_aload_n (k := 0) dX12_drawn_112 rfl rfl ?_
      refine st_getI (v := I 53 51) dX12_drawn_113 fl_X12_303 kd_53 (by decide) rfl rfl ?_
      cases h
      exact (op_iret dX12_drawn_116 rfl rfl ⟨rfl, rfl⟩)
    · replace h := am_ie c1 h
      refine op_iconst (v := 0) dX12_drawn_39 (by decide) ?_
      refine op_istore (L' := [(8, .int 0), (0, .ref 53), (1, .int x1), (2, .int x2), (5, .long y5), (7, .int x7)]) dX12_drawn_40 (by decide) rfl ?_
      refine op_iconst (v := 0) dX12_drawn_42 (by decide) ?_
      refine op_istore (L' := [(9, .int 0), (8, .int 0), (0, .ref 53), (1, .int x1), (2, .int x2), (5, .long y5), (7, .int x7)]) dX12_drawn_43 (by decide) rfl ?_
      refine AW.perm [2, 3, 4, 5, 6, 1, 0] rfl ?_
      exact t_X12_drawn_45 hd ih n _ _ _ _ _ _ _ _ _ h
set_option maxRecDepth 100000 in
set_option maxHeartbeats 4000000 in
theorem t_X12_drawn_0 {l : Launch} {ρ : am_R} {n d gc gs : Nat} {I : Nat → Nat → Int32} {J : Nat → Nat → Int64} {T : Nat} {x1 : Int32} {x2 : Int32} {y3 : Int64} {q : Int32 × (Nat → Nat → Int32) × (Nat → Nat → Int64) × Nat} (hd : 2 * n + 14 ≤ (d + 1))
    (h : f_X12_drawn n  I J T x1 x2 y3 = some q) : AW l ρ (d + 1) M_X12_drawn 0 [(0, .ref 53), (1, .int x1), (2, .int x2), (3, .long y3)] [] (am_KD, gc, gs) (I, J, am_RT T) (am_KD, gc, gs) (fun v H' => v = [.int q.1] ∧ H' = (q.2.1, q.2.2.1, am_RT (q.2.2.2))) := by
  unfold f_X12_drawn at h
  refine op_aload_n (k := 0) dX12_drawn_0 rfl rfl ?_
  refine op_iconst (v := 0) dX12_drawn_1 (by decide) ?_
  refine st_putI dX12_drawn_2 fl_X12_108 kd_53 (by decide) rfl ?_
  refine op_iload_n (k := 1) dX12_drawn_5 rfl rfl ?_
  refine op_i2l dX12_drawn_6 ?_
  refine op_lconst (v := 1) dX12_drawn_7 (by decide) ?_
  refine op_ldc2 dX12_drawn_8 tw_1769 ?_
  obtain ⟨w1, ew1, h⟩ := am_bd h
  refine op_callS (M' := M_X12_isIn) [.long x1.toInt64, .long 1, .long 40] (S0 := []) dX12_drawn_11 tw_1390 ok_X12_isIn tw_1391 rfl rfl (Nat.le_of_ble_eq_true rfl) (Nat.le_of_ble_eq_true rfl) (t_X12_isIn (by omega) ew1) (am_le_rf _) ?_
  rintro _ _ ⟨rfl, rfl⟩
  refine op_if_eq (tgt := 25) dX12_drawn_14 (by decide) (fun c2 => ?_) (fun c2 => ?_)
  · replace h := am_ip c2 h
    refine op_iconst (v := (-1)) dX12_drawn_25 (by decide) ?_
    cases h
    exact (op_iret dX12_drawn_26 rfl rfl ⟨rfl, rfl⟩)
  · replace h := am_ie c2 h
    refine op_aload_n (k := 0) dX12_drawn_17 rfl rfl ?_
    refine op_iload_n (k := 2) dX12_drawn_18 rfl rfl ?_
    obtain ⟨w3, ew3, h⟩ := am_bd h
    refine op_callV (M' := M_X12_isLaw) [.int x2] (S0 := []) dX12_drawn_19 tw_1628 ok_X12_isLaw tw_1630 tw_83 kd_53 cls_12 rfl rfl rfl (Nat.le_of_ble_eq_true rfl) (Nat.le_of_ble_eq_true rfl) (t_X12_isLaw (by omega) ew3) (am_le_rf _) ?_
    rintro _ _ ⟨rfl, rfl⟩
    refine op_if_ne (tgt := 27) dX12_drawn_22 (by decide) (fun c4 => ?_) (fun c4 => ?_)
    · replace h := am_ie c4 h
      refine op_lload_n (k := 3) dX12_drawn_27 rfl rfl ?_
      refine op_lstore (L' := [(5, .long y3), (0, .ref 53), (1, .int x1), (2, .int x2), (3, .long y3)]) dX12_drawn_28 (by decide) rfl ?_
      refine op_iconst (v := 0) dX12_drawn_30 (by decide) ?_
      refine op_istore (L' := [(7, .int 0), (5, .long y3), (0, .ref 53), (1, .int x1), (2, .int x2), (3, .long y3)]) dX12_drawn_31 (by decide) rfl ?_
      refine AW.perm [2, 3, 4, 1, 0] rfl ?_
      exact t_X12_drawn_33 hd  n _ _ _ _ _ _ _ h
    · replace h := am_ip c4 h
      refine op_iconst (v := (-1)) dX12_drawn_25 (by decide) ?_
      cases h
      exact (op_iret dX12_drawn_26 rfl rfl ⟨rfl, rfl⟩)
theorem t_X12_drawn {l : Launch} {ρ : am_R} {n d gc gs : Nat} {I : Nat → Nat → Int32} {J : Nat → Nat → Int64} {T : Nat} {x1 : Int32} {x2 : Int32} {y3 : Int64} {q : Int32 × (Nat → Nat → Int32) × (Nat → Nat → Int64) × Nat} (hd : 2 * n + 14 ≤ d) (h : f_X12_drawn n I J T x1 x2 y3 = some q) : AW l ρ d M_X12_drawn 0 [(0, .ref 53), (1, .int x1), (2, .int x2), (3, .long y3)] [] (am_KD, gc, gs) (I, J, am_RT T) (am_KD, gc, gs) (fun v H' => v = [.int q.1] ∧ H' = (q.2.1, q.2.2.1, am_RT (q.2.2.2))) := by
  obtain ⟨d, rfl⟩ : ∃ e, d = e + 1 := ⟨d - 1, by omega⟩
  exact t_X12_drawn_0 hd h
def f_X12_end (n : Nat) (I : Nat → Nat → Int32) (J : Nat → Nat → Int64) (T : Nat) (x1 : Int32) : Option (Int32 × (Nat → Nat → Int32)) :=
  if x1 < 0 then
   some (0, (am_u I 53 0 0))
  else
   if x1 ≤ (I 53 6) then
    some (1, (am_u (am_u I 53 0 0) 53 6 x1))
   else
    some (0, (am_u I 53 0 0))
set_option maxRecDepth 100000 in
set_option maxHeartbeats 4000000 in
theorem t_X12_end_0 {l : Launch} {ρ : am_R} {n d gc gs : Nat} {I : Nat → Nat → Int32} {J : Nat → Nat → Int64} {T : Nat} {x1 : Int32} {q : Int32 × (Nat → Nat → Int32)} (hd : 0 * n + 0 ≤ d)
    (h : f_X12_end n  I J T x1 = some q) : AW l ρ d M_X12_end 0 [(0, .ref 53), (1, .int x1)] [] (am_KD, gc, gs) (I, J, am_RT T) (am_KD, gc, gs) (fun v H' => v = [.int q.1] ∧ H' = (q.2, J, am_RT T)) := by
  unfold f_X12_end at h
  refine op_aload_n (k := 0) dX12_end_0 rfl rfl ?_
  refine op_iconst (v := 0) dX12_end_1 (by decide) ?_
  refine st_putI dX12_end_2 fl_X12_108 kd_53 (by decide) rfl ?_
  refine op_iload_n (k := 1) dX12_end_5 rfl rfl ?_
  refine op_if_lt (tgt := 17) dX12_end_6 (by decide) (fun c1 => ?_) (fun c1 => ?_)
  · replace h := am_ip c1 h
    refine op_iconst (v := 0) dX12_end_17 (by decide) ?_
    cases h
    exact (op_iret dX12_end_18 rfl (by decide) ⟨rfl, rfl⟩)
  · replace h := am_ie c1 h
    refine op_iload_n (k := 1) dX12_end_9 rfl rfl ?_
    refine op_aload_n (k := 0) dX12_end_10 rfl rfl ?_
    refine st_getI (v := I 53 6) dX12_end_11 fl_X12_131 kd_53 (by decide) rfl rfl ?_
    refine op_icmp_le (tgt := 19) dX12_end_14 (by decide) (fun c2 => ?_) (fun c2 => ?_)
    · replace h := am_ip c2 h
      refine op_aload_n (k := 0) dX12_end_19 rfl rfl ?_
      refine op_iload_n (k := 1) dX12_end_20 rfl rfl ?_
      refine st_putI dX12_end_21 fl_X12_131 kd_53 (by decide) rfl ?_
      refine op_iconst (v := 1) dX12_end_24 (by decide) ?_
      cases h
      exact (op_iret dX12_end_25 rfl (by decide) ⟨rfl, rfl⟩)
    · replace h := am_ie c2 h
      refine op_iconst (v := 0) dX12_end_17 (by decide) ?_
      cases h
      exact (op_iret dX12_end_18 rfl (by decide) ⟨rfl, rfl⟩)
theorem t_X12_end {l : Launch} {ρ : am_R} {n d gc gs : Nat} {I : Nat → Nat → Int32} {J : Nat → Nat → Int64} {T : Nat} {x1 : Int32} {q : Int32 × (Nat → Nat → Int32)} (hd : 0 * n + 0 ≤ d) (h : f_X12_end n I J T x1 = some q) : AW l ρ d M_X12_end 0 [(0, .ref 53), (1, .int x1)] [] (am_KD, gc, gs) (I, J, am_RT T) (am_KD, gc, gs) (fun v H' => v = [.int q.1] ∧ H' = (q.2, J, am_RT T)) := t_X12_end_0 hd h
def f_X12_opens_v2 (n : Nat) (I : Nat → Nat → Int32) (J : Nat → Nat → Int64) (T : Nat) (x2 : Int32) (x3 : Int32) : Option ((Nat → Nat → Int32) × Nat) :=
  some ((am_u (am_u (am_u (am_u I 53 8 x2) 53 9 x3) 53 10 0) 53 11 ((-1))), 54)
set_option maxRecDepth 100000 in
set_option maxHeartbeats 4000000 in
theorem t_X12_opens_v2_0 {l : Launch} {ρ : am_R} {n d gc gs : Nat} {I : Nat → Nat → Int32} {J : Nat → Nat → Int64} {T : Nat} {x2 : Int32} {x3 : Int32} {q : (Nat → Nat → Int32) × Nat} (hd : 0 * n + 0 ≤ d)
    (h : f_X12_opens_v2 n  I J T x2 x3 = some q) : AW l ρ d M_X12_opens 0 [(0, .ref 53), (1, .ref 54), (2, .int x2), (3, .int x3)] [] (am_KD, gc, gs) (I, J, am_RT T) (am_KD, gc, gs) (fun v H' => v = [] ∧ H' = (q.1, J, am_RT (q.2))) := by
  unfold f_X12_opens_v2 at h
  refine op_aload_n (k := 0) dX12_opens_0 rfl rfl ?_
  refine op_aload_n (k := 1) dX12_opens_1 rfl rfl ?_
  refine st_putT dX12_opens_2 fl_X12_23 ?_
  refine op_aload_n (k := 0) dX12_opens_5 rfl rfl ?_
  refine op_iload_n (k := 2) dX12_opens_6 rfl rfl ?_
  refine st_putI dX12_opens_7 fl_X12_147 kd_53 (by decide) rfl ?_
  refine op_aload_n (k := 0) dX12_opens_10 rfl rfl ?_
  refine op_iload_n (k := 3) dX12_opens_11 rfl rfl ?_
  refine st_putI dX12_opens_12 fl_X12_144 kd_53 (by decide) rfl ?_
  refine op_aload_n (k := 0) dX12_opens_15 rfl rfl ?_
  refine op_iconst (v := 0) dX12_opens_16 (by decide) ?_
  refine st_putI dX12_opens_17 fl_X12_141 kd_53 (by decide) rfl ?_
  refine op_aload_n (k := 0) dX12_opens_20 rfl rfl ?_
  refine op_iconst (v := (-1)) dX12_opens_21 (by decide) ?_
  refine st_putI dX12_opens_22 fl_X12_150 kd_53 (by decide) rfl ?_
  cases h
  exact (op_vret dX12_opens_25 rfl ⟨rfl, rfl⟩)
theorem t_X12_opens_v2 {l : Launch} {ρ : am_R} {n d gc gs : Nat} {I : Nat → Nat → Int32} {J : Nat → Nat → Int64} {T : Nat} {x2 : Int32} {x3 : Int32} {q : (Nat → Nat → Int32) × Nat} (hd : 0 * n + 0 ≤ d) (h : f_X12_opens_v2 n I J T x2 x3 = some q) : AW l ρ d M_X12_opens 0 [(0, .ref 53), (1, .ref 54), (2, .int x2), (3, .int x3)] [] (am_KD, gc, gs) (I, J, am_RT T) (am_KD, gc, gs) (fun v H' => v = [] ∧ H' = (q.1, J, am_RT (q.2))) := t_X12_opens_v2_0 hd h
def f_X12_goThrough_v2_66 (n : Nat) (I : Nat → Nat → Int32) (J : Nat → Nat → Int64) (T : Nat) : Option ((Nat → Nat → Int32) × Nat) :=
  if (I 53 11) = ((-1)) then
   (f_X12_look n I J T).bind fun w2 =>
   if w2.1 = ((-1)) then
    some (w2.2, T)
   else
    (f_X12_fails n w2.2 J T).bind fun w4 =>
    some (w4.2, T)
  else
   some (I, T)
def f_X12_goThrough_v2_32 (n : Nat) : Nat → (Nat → Nat → Int32) → (Nat → Nat → Int64) → Nat → Option ((Nat → Nat → Int32) × Nat)
  | 0, _, _, _ => none
  | m + 1, I, J, T =>
    if (I 53 11) = ((-1)) then
     (f_X12_look n I J T).bind fun w2 =>
     if w2.1 = 59 then
      (f_X12_clause n ((am_u w2.2 53 10 ((w2.2 53 10) + 1))) J T).bind fun w4 =>
      f_X12_goThrough_v2_32 n  m w4 J T
     else
      f_X12_goThrough_v2_66 n  w2.2 J T
    else
     f_X12_goThrough_v2_66 n  I J T
def f_X12_goThrough_v2 (n : Nat) (I : Nat → Nat → Int32) (J : Nat → Nat → Int64) (T : Nat) (x2 : Int32) (x3 : Int32) : Option ((Nat → Nat → Int32) × Nat) :=
  (f_X12_opens_v2 n I J T x2 x3).bind fun w1 =>
  (f_X12_clause n ((am_u (am_u (am_u (am_u w1.1 53 13 121) 53 12 0) 53 17 0) 53 14 0)) J w1.2).bind fun w2 =>
  f_X12_goThrough_v2_32 n  n w2 J w1.2
set_option maxRecDepth 100000 in
set_option maxHeartbeats 4000000 in
theorem t_X12_goThrough_v2_66 {l : Launch} {ρ : am_R} {n d gc gs : Nat} {I : Nat → Nat → Int32} {J : Nat → Nat → Int64} {T : Nat} {q : (Nat → Nat → Int32) × Nat} (hd : 2 * n + 9 ≤ (d + 1))
    (h : f_X12_goThrough_v2_66 n  I J T  = some q) : AW l ρ (d + 1) M_X12_goThrough 66 [(0, .ref 53)] [] (am_KD, gc, gs) (I, J, am_RT T) (am_KD, gc, gs) (fun v H' => v = [] ∧ H' = (q.1, J, am_RT (q.2))) := by
  unfold f_X12_goThrough_v2_66 at h
  refine op_aload_n (k := 0) dX12_goThrough_66 rfl rfl ?_
  refine st_getI (v := I 53 11) dX12_goThrough_67 fl_X12_150 kd_53 (by decide) rfl rfl ?_
  refine op_iconst (v := (-1)) dX12_goThrough_70 (by decide) ?_
  refine op_icmp_ne (tgt := 87) dX12_goThrough_71 (by decide) (fun c1 => ?_) (fun c1 => ?_)
  · replace h := am_ie c1 h
    cases h
    exact (op_vret dX12_goThrough_87 rfl ⟨rfl, rfl⟩)
  · replace h := am_ip c1 h
    refine op_aload_n (k := 0) dX12_goThrough_74 rfl rfl ?_
    obtain ⟨w2, ew2, h⟩ := am_bd h
    refine op_callV (M' := M_X12_look) [] (S0 := []) dX12_goThrough_75 tw_1405 ok_X12_look tw_1407 tw_55 kd_53 cls_12 rfl rfl rfl (Nat.le_of_ble_eq_true rfl) (Nat.le_of_ble_eq_true rfl) (t_X12_look (by omega) ew2) (am_le_rf _) ?_
    rintro _ _ ⟨rfl, rfl⟩
    refine op_iconst (v := (-1)) dX12_goThrough_78 (by decide) ?_
    refine op_icmp_eq (tgt := 87) dX12_goThrough_79 (by decide) (fun c3 => ?_) (fun c3 => ?_)
    · replace h := am_ip c3 h
      cases h
      exact (op_vret dX12_goThrough_87 rfl ⟨rfl, rfl⟩)
    · replace h := am_ie c3 h
      refine op_aload_n (k := 0) dX12_goThrough_82 rfl rfl ?_
      obtain ⟨w4, ew4, h⟩ := am_bd h
      refine op_callV (M' := M_X12_fails) [] (S0 := []) dX12_goThrough_83 tw_1409 ok_X12_fails tw_1411 tw_56 kd_53 cls_12 rfl rfl rfl (Nat.le_of_ble_eq_true rfl) (Nat.le_of_ble_eq_true rfl) (t_X12_fails (by omega) ew4) (am_le_rf _) ?_
      rintro _ _ ⟨rfl, rfl⟩
      refine op_pop dX12_goThrough_86 rfl ?_
      cases h
      exact (op_vret dX12_goThrough_87 rfl ⟨rfl, rfl⟩)
set_option maxRecDepth 100000 in
set_option maxHeartbeats 4000000 in
theorem t_X12_goThrough_v2_32 {l : Launch} {ρ : am_R} {n d gc gs : Nat} {q : (Nat → Nat → Int32) × Nat} (hd : 2 * n + 9 ≤ (d + 1))
    : ∀ (m : Nat) (I : Nat → Nat → Int32) (J : Nat → Nat → Int64) (T : Nat), f_X12_goThrough_v2_32 n  m I J T  = some q → AW l ρ (d + 1) M_X12_goThrough 32 [(0, .ref 53)] [] (am_KD, gc, gs) (I, J, am_RT T) (am_KD, gc, gs) (fun v H' => v = [] ∧ H' = (q.1, J, am_RT (q.2))) := by
  intro m
  induction m with
  | zero =>
    intro I J T  h
    rw [f_X12_goThrough_v2_32] at h
    cases h
  | succ m ih =>
    intro I J T  h
    rw [f_X12_goThrough_v2_32] at h
    refine op_aload_n (k := 0) dX12_goThrough_32 rfl rfl ?_
    refine st_getI (v := I 53 11) dX12_goThrough_33 fl_X12_150 kd_53 (by decide) rfl rfl ?_
    refine op_iconst (v := (-1)) dX12_goThrough_36 (by decide) ?_
    refine op_icmp_ne (tgt := 66) dX12_goThrough_37 (by decide) (fun c1 => ?_) (fun c1 => ?_)
    · replace h := am_ie c1 h
      exact t_X12_goThrough_v2_66 hd  h
    · replace h := am_ip c1 h
      refine op_aload_n (k := 0) dX12_goThrough_40 rfl rfl ?_
      obtain ⟨w2, ew2, h⟩ := am_bd h
      refine op_callV (M' := M_X12_look) [] (S0 := []) dX12_goThrough_41 tw_1405 ok_X12_look tw_1407 tw_55 kd_53 cls_12 rfl rfl rfl (Nat.le_of_ble_eq_true rfl) (Nat.le_of_ble_eq_true rfl) (t_X12_look (by omega) ew2) (am_le_rf _) ?_
      rintro _ _ ⟨rfl, rfl⟩
      refine op_bipush (v := 59) dX12_goThrough_44 (by decide) ?_
      refine op_icmp_ne (tgt := 66) dX12_goThrough_46 (by decide) (fun c3 => ?_) (fun c3 => ?_)
      · replace h := am_ie c3 h
        exact t_X12_goThrough_v2_66 hd  h
      · replace h := am_ip c3 h
        refine op_aload_n (k := 0) dX12_goThrough_49 rfl rfl ?_
        refine op_dup dX12_goThrough_50 rfl ?_
        refine st_getI (v := w2.2 53 10) dX12_goThrough_51 fl_X12_141 kd_53 (by decide) rfl rfl ?_
        refine op_iconst (v := 1) dX12_goThrough_54 (by decide) ?_
        refine op_iadd dX12_goThrough_55 ?_
        refine st_putI dX12_goThrough_56 fl_X12_141 kd_53 (by decide) rfl ?_
        refine op_aload_n (k := 0) dX12_goThrough_59 rfl rfl ?_
        obtain ⟨w4, ew4, h⟩ := am_bd h
        refine op_callV (M' := M_X12_clause) [] (S0 := []) dX12_goThrough_60 tw_1502 ok_X12_clause tw_1504 tw_65 kd_53 cls_12 rfl rfl rfl (Nat.le_of_ble_eq_true rfl) (Nat.le_of_ble_eq_true rfl) (t_X12_clause (by omega) ew4) (am_le_rf _) ?_
        rintro _ _ ⟨rfl, rfl⟩
        refine op_goto (tgt := 32) dX12_goThrough_63 (by decide) ?_
        exact ih _ _ _ h
set_option maxRecDepth 100000 in
set_option maxHeartbeats 4000000 in
theorem t_X12_goThrough_v2_0 {l : Launch} {ρ : am_R} {n d gc gs : Nat} {I : Nat → Nat → Int32} {J : Nat → Nat → Int64} {T : Nat} {x2 : Int32} {x3 : Int32} {q : (Nat → Nat → Int32) × Nat} (hd : 2 * n + 9 ≤ (d + 1))
    (h : f_X12_goThrough_v2 n  I J T x2 x3 = some q) : AW l ρ (d + 1) M_X12_goThrough 0 [(0, .ref 53), (1, .ref 54), (2, .int x2), (3, .int x3)] [] (am_KD, gc, gs) (I, J, am_RT T) (am_KD, gc, gs) (fun v H' => v = [] ∧ H' = (q.1, J, am_RT (q.2))) := by
  unfold f_X12_goThrough_v2 at h
  refine op_aload_n (k := 0) dX12_goThrough_0 rfl rfl ?_
  refine op_aload_n (k := 1) dX12_goThrough_1 rfl rfl ?_
  refine op_iload_n (k := 2) dX12_goThrough_2 rfl rfl ?_
  refine op_iload_n (k := 3) dX12_goThrough_3 rfl rfl ?_
  obtain ⟨w1, ew1, h⟩ := am_bd h
  refine op_callV (M' := M_X12_opens) [.ref 54, .int x2, .int x3] (S0 := []) dX12_goThrough_4 tw_1397 ok_X12_opens tw_1399 tw_53 kd_53 cls_12 rfl rfl rfl (Nat.le_of_ble_eq_true rfl) (Nat.le_of_ble_eq_true rfl) (t_X12_opens_v2 (by omega) ew1) (am_le_rf _) ?_
  rintro _ _ ⟨rfl, rfl⟩
  refine op_aload_n (k := 0) dX12_goThrough_7 rfl rfl ?_
  refine op_bipush (v := 121) dX12_goThrough_8 (by decide) ?_
  refine st_putI dX12_goThrough_10 fl_X12_220 kd_53 (by decide) rfl ?_
  refine op_aload_n (k := 0) dX12_goThrough_13 rfl rfl ?_
  refine op_iconst (v := 0) dX12_goThrough_14 (by decide) ?_
  refine st_putI dX12_goThrough_15 fl_X12_153 kd_53 (by decide) rfl ?_
  refine op_aload_n (k := 0) dX12_goThrough_18 rfl rfl ?_
  refine op_iconst (v := 0) dX12_goThrough_19 (by decide) ?_
  refine st_putZ dX12_goThrough_20 fl_X12_216 kd_53 (by decide) rfl (by decide) ?_
  refine op_aload_n (k := 0) dX12_goThrough_23 rfl rfl ?_
  refine op_iconst (v := 0) dX12_goThrough_24 (by decide) ?_
  refine st_putI dX12_goThrough_25 fl_X12_223 kd_53 (by decide) rfl ?_
  refine op_aload_n (k := 0) dX12_goThrough_28 rfl rfl ?_
  obtain ⟨w2, ew2, h⟩ := am_bd h
  refine op_callV (M' := M_X12_clause) [] (S0 := []) dX12_goThrough_29 tw_1502 ok_X12_clause tw_1504 tw_65 kd_53 cls_12 rfl rfl rfl (Nat.le_of_ble_eq_true rfl) (Nat.le_of_ble_eq_true rfl) (t_X12_clause (by omega) ew2) (am_le_rf _) ?_
  rintro _ _ ⟨rfl, rfl⟩
  refine AW.perm [0] rfl ?_
  exact t_X12_goThrough_v2_32 hd  n _ _ _ h
theorem t_X12_goThrough_v2 {l : Launch} {ρ : am_R} {n d gc gs : Nat} {I : Nat → Nat → Int32} {J : Nat → Nat → Int64} {T : Nat} {x2 : Int32} {x3 : Int32} {q : (Nat → Nat → Int32) × Nat} (hd : 2 * n + 9 ≤ d) (h : f_X12_goThrough_v2 n I J T x2 x3 = some q) : AW l ρ d M_X12_goThrough 0 [(0, .ref 53), (1, .ref 54), (2, .int x2), (3, .int x3)] [] (am_KD, gc, gs) (I, J, am_RT T) (am_KD, gc, gs) (fun v H' => v = [] ∧ H' = (q.1, J, am_RT (q.2))) := by
  obtain ⟨d, rfl⟩ : ∃ e, d = e + 1 := ⟨d - 1, by omega⟩
  exact t_X12_goThrough_v2_0 hd h
def f_X12_lay_61 (n : Nat) (I : Nat → Nat → Int32) (J : Nat → Nat → Int64) (T : Nat) (x1 : Int32) (x2 : Int32) (x3 : Int32) : Option ((Nat → Nat → Int32)) :=
  if x1 = 99 then
   if ok_ix x2 3 then
    some ((am_u I 65 x2.toNatClampNeg x3))
   else none
  else
   some (I)
def f_X12_lay_41 (n : Nat) (I : Nat → Nat → Int32) (J : Nat → Nat → Int64) (T : Nat) (x1 : Int32) (x2 : Int32) (x3 : Int32) : Option ((Nat → Nat → Int32)) :=
  if x1 = 114 then
   if ok_ix ((3 * (I 53 29)) + x2) 18 then
    f_X12_lay_61 n  ((am_u I 64 (((3 * (I 53 29)) + x2).toNatClampNeg) x3)) J T x1 x2 x3
   else none
  else
   f_X12_lay_61 n  I J T x1 x2 x3
def f_X12_lay_20 (n : Nat) (I : Nat → Nat → Int32) (J : Nat → Nat → Int64) (T : Nat) (x1 : Int32) (x2 : Int32) (x3 : Int32) : Option ((Nat → Nat → Int32)) :=
  if x1 = 119 then
   if x2 = 1 then
    if ok_ix (I 53 28) 10 then
     f_X12_lay_41 n  ((am_u I 63 ((I 53 28).toNatClampNeg) x3)) J T x1 x2 x3
    else none
   else
    f_X12_lay_41 n  I J T x1 x2 x3
  else
   f_X12_lay_41 n  I J T x1 x2 x3
def f_X12_lay (n : Nat) (I : Nat → Nat → Int32) (J : Nat → Nat → Int64) (T : Nat) (x1 : Int32) (x2 : Int32) (x3 : Int32) : Option ((Nat → Nat → Int32)) :=
  if x1 = 119 then
   if x2 = 0 then
    if ok_ix (I 53 28) 10 then
     f_X12_lay_20 n  ((am_u I 62 ((I 53 28).toNatClampNeg) x3)) J T x1 x2 x3
    else none
   else
    f_X12_lay_20 n  I J T x1 x2 x3
  else
   f_X12_lay_20 n  I J T x1 x2 x3
set_option maxRecDepth 100000 in
set_option maxHeartbeats 4000000 in
theorem t_X12_lay_61 {l : Launch} {ρ : am_R} {n d gc gs : Nat} {I : Nat → Nat → Int32} {J : Nat → Nat → Int64} {T : Nat} {x1 : Int32} {x2 : Int32} {x3 : Int32} {q : (Nat → Nat → Int32)} (hd : 0 * n + 0 ≤ d)
    (h : f_X12_lay_61 n  I J T x1 x2 x3 = some q) : AW l ρ d M_X12_lay 61 [(0, .ref 53), (1, .int x1), (2, .int x2), (3, .int x3)] [] (am_KD, gc, gs) (I, J, am_RT T) (am_KD, gc, gs) (fun v H' => v = [] ∧ H' = (q, J, am_RT T)) := by
  unfold f_X12_lay_61 at h
  refine op_iload_n (k := 1) dX12_lay_61 rfl rfl ?_
  refine op_bipush (v := 99) dX12_lay_62 (by decide) ?_
  refine op_icmp_ne (tgt := 74) dX12_lay_64 (by decide) (fun c1 => ?_) (fun c1 => ?_)
  · replace h := am_ie c1 h
    cases h
    exact (op_vret dX12_lay_74 rfl ⟨rfl, rfl⟩)
  · replace h := am_ip c1 h
    refine op_aload_n (k := 0) dX12_lay_67 rfl rfl ?_
    refine st_getR (z := 65) dX12_lay_68 fl_X12_58 kd_53 (by decide) rfl rr_53_25 ?_
    refine op_iload_n (k := 2) dX12_lay_71 rfl rfl ?_
    refine op_iload_n (k := 3) dX12_lay_72 rfl rfl ?_
    obtain ⟨g2, h⟩ := am_gd h
    refine st_iast (k := x2.toNatClampNeg) dX12_lay_73 kd_65 g2 rfl ?_
    cases h
    exact (op_vret dX12_lay_74 rfl ⟨rfl, rfl⟩)
set_option maxRecDepth 100000 in
set_option maxHeartbeats 4000000 in
theorem t_X12_lay_41 {l : Launch} {ρ : am_R} {n d gc gs : Nat} {I : Nat → Nat → Int32} {J : Nat → Nat → Int64} {T : Nat} {x1 : Int32} {x2 : Int32} {x3 : Int32} {q : (Nat → Nat → Int32)} (hd : 0 * n + 0 ≤ d)
    (h : f_X12_lay_41 n  I J T x1 x2 x3 = some q) : AW l ρ d M_X12_lay 41 [(0, .ref 53), (1, .int x1), (2, .int x2), (3, .int x3)] [] (am_KD, gc, gs) (I, J, am_RT T) (am_KD, gc, gs) (fun v H' => v = [] ∧ H' = (q, J, am_RT T)) := by
  unfold f_X12_lay_41 at h
  refine op_iload_n (k := 1) dX12_lay_41 rfl rfl ?_
  refine op_bipush (v := 114) dX12_lay_42 (by decide) ?_
  refine op_icmp_ne (tgt := 61) dX12_lay_44 (by decide) (fun c1 => ?_) (fun c1 => ?_)
  · replace h := am_ie c1 h
    exact t_X12_lay_61 hd  h
  · replace h := am_ip c1 h
    refine op_aload_n (k := 0) dX12_lay_47 rfl rfl ?_
    refine st_getR (z := 64) dX12_lay_48 fl_X12_55 kd_53 (by decide) rfl rr_53_24 ?_
    refine op_iconst (v := 3) dX12_lay_51 (by decide) ?_
    refine op_aload_n (k := 0) dX12_lay_52 rfl rfl ?_
    refine st_getI (v := I 53 29) dX12_lay_53 fl_X12_243 kd_53 (by decide) rfl rfl ?_
    refine op_imul dX12_lay_56 ?_
    refine op_iload_n (k := 2) dX12_lay_57 rfl rfl ?_
    refine op_iadd dX12_lay_58 ?_
    refine op_iload_n (k := 3) dX12_lay_59 rfl rfl ?_
    obtain ⟨g2, h⟩ := am_gd h
    refine st_iast (k := ((3 * (I 53 29)) + x2).toNatClampNeg) dX12_lay_60 kd_64 g2 rfl ?_
    exact t_X12_lay_61 hd  h
set_option maxRecDepth 100000 in
set_option maxHeartbeats 4000000 in
theorem t_X12_lay_20 {l : Launch} {ρ : am_R} {n d gc gs : Nat} {I : Nat → Nat → Int32} {J : Nat → Nat → Int64} {T : Nat} {x1 : Int32} {x2 : Int32} {x3 : Int32} {q : (Nat → Nat → Int32)} (hd : 0 * n + 0 ≤ d)
    (h : f_X12_lay_20 n  I J T x1 x2 x3 = some q) : AW l ρ d M_X12_lay 20 [(0, .ref 53), (1, .int x1), (2, .int x2), (3, .int x3)] [] (am_KD, gc, gs) (I, J, am_RT T) (am_KD, gc, gs) (fun v H' => v = [] ∧ H' = (q, J, am_RT T)) := by
  unfold f_X12_lay_20 at h
  refine op_iload_n (k := 1) dX12_lay_20 rfl rfl ?_
  refine op_bipush (v := 119) dX12_lay_21 (by decide) ?_
  refine op_icmp_ne (tgt := 41) dX12_lay_23 (by decide) (fun c1 => ?_) (fun c1 => ?_)
  · replace h := am_ie c1 h
    exact t_X12_lay_41 hd  h
  · replace h := am_ip c1 h
    refine op_iload_n (k := 2) dX12_lay_26 rfl rfl ?_
    refine op_iconst (v := 1) dX12_lay_27 (by decide) ?_
    refine op_icmp_ne (tgt := 41) dX12_lay_28 (by decide) (fun c2 => ?_) (fun c2 => ?_)
    · replace h := am_ie c2 h
      exact t_X12_lay_41 hd  h
    · replace h := am_ip c2 h
      refine op_aload_n (k := 0) dX12_lay_31 rfl rfl ?_
      refine st_getR (z := 63) dX12_lay_32 fl_X12_52 kd_53 (by decide) rfl rr_53_23 ?_
      refine op_aload_n (k := 0) dX12_lay_35 rfl rfl ?_
      refine st_getI (v := I 53 28) dX12_lay_36 fl_X12_240 kd_53 (by decide) rfl rfl ?_
      refine op_iload_n (k := 3) dX12_lay_39 rfl rfl ?_
      obtain ⟨g3, h⟩ := am_gd h
      refine st_iast (k := (I 53 28).toNatClampNeg) dX12_lay_40 kd_63 g3 rfl ?_
      exact t_X12_lay_41 hd  h
set_option maxRecDepth 100000 in
set_option maxHeartbeats 4000000 in
theorem t_X12_lay_0 {l : Launch} {ρ : am_R} {n d gc gs : Nat} {I : Nat → Nat → Int32} {J : Nat → Nat → Int64} {T : Nat} {x1 : Int32} {x2 : Int32} {x3 : Int32} {q : (Nat → Nat → Int32)} (hd : 0 * n + 0 ≤ d)
    (h : f_X12_lay n  I J T x1 x2 x3 = some q) : AW l ρ d M_X12_lay 0 [(0, .ref 53), (1, .int x1), (2, .int x2), (3, .int x3)] [] (am_KD, gc, gs) (I, J, am_RT T) (am_KD, gc, gs) (fun v H' => v = [] ∧ H' = (q, J, am_RT T)) := by
  unfold f_X12_lay at h
  refine op_iload_n (k := 1) dX12_lay_0 rfl rfl ?_
  refine op_bipush (v := 119) dX12_lay_1 (by decide) ?_
  refine op_icmp_ne (tgt := 20) dX12_lay_3 (by decide) (fun c1 => ?_) (fun c1 => ?_)
  · replace h := am_ie c1 h
    exact t_X12_lay_20 hd  h
  · replace h := am_ip c1 h
    refine op_iload_n (k := 2) dX12_lay_6 rfl rfl ?_
    refine op_if_ne (tgt := 20) dX12_lay_7 (by decide) (fun c2 => ?_) (fun c2 => ?_)
    · replace h := am_ie c2 h
      exact t_X12_lay_20 hd  h
    · replace h := am_ip c2 h
      refine op_aload_n (k := 0) dX12_lay_10 rfl rfl ?_
      refine st_getR (z := 62) dX12_lay_11 fl_X12_49 kd_53 (by decide) rfl rr_53_22 ?_
      refine op_aload_n (k := 0) dX12_lay_14 rfl rfl ?_
      refine st_getI (v := I 53 28) dX12_lay_15 fl_X12_240 kd_53 (by decide) rfl rfl ?_
      refine op_iload_n (k := 3) dX12_lay_18 rfl rfl ?_
      obtain ⟨g3, h⟩ := am_gd h
      refine st_iast (k := (I 53 28).toNatClampNeg) dX12_lay_19 kd_62 g3 rfl ?_
      exact t_X12_lay_20 hd  h
theorem t_X12_lay {l : Launch} {ρ : am_R} {n d gc gs : Nat} {I : Nat → Nat → Int32} {J : Nat → Nat → Int64} {T : Nat} {x1 : Int32} {x2 : Int32} {x3 : Int32} {q : (Nat → Nat → Int32)} (hd : 0 * n + 0 ≤ d) (h : f_X12_lay n I J T x1 x2 x3 = some q) : AW l ρ d M_X12_lay 0 [(0, .ref 53), (1, .int x1), (2, .int x2), (3, .int x3)] [] (am_KD, gc, gs) (I, J, am_RT T) (am_KD, gc, gs) (fun v H' => v = [] ∧ H' = (q, J, am_RT T)) := t_X12_lay_0 hd h
def f_X12_placeOf_2 (n : Nat) : Nat → (Nat → Nat → Int32) → (Nat → Nat → Int64) → Nat → Nat → Int32 → Int32 → Option (Int32)
  | 0, _, _, _, _, _, _ => none
  | m + 1, I, J, T, r0, x1, x2 =>
    if r0 < 5 then
     (f_J0_length_8abf5 n I J T r0).bind fun w1 =>
     if w1 ≤ x2 then
      some ((-1))
     else
      if r0 < 5 then
       (f_J0_charAt_5068e n I J T r0 x2).bind fun w3 =>
       if w3 = x1 then
        some (x2)
       else
        f_X12_placeOf_2 n  m I J T r0 x1 (x2 + 1)
      else none
    else none
def f_X12_placeOf (n : Nat) (I : Nat → Nat → Int32) (J : Nat → Nat → Int64) (T : Nat) (r0 : Nat) (x1 : Int32) : Option (Int32) :=
  f_X12_placeOf_2 n  n I J T r0 x1 0
set_option maxRecDepth 100000 in
set_option maxHeartbeats 4000000 in
theorem t_X12_placeOf_2 {l : Launch} {ρ : am_R} {n d gc gs : Nat} {q : Int32} (hd : 0 * n + 4 ≤ (d + 1))
    : ∀ (m : Nat) (I : Nat → Nat → Int32) (J : Nat → Nat → Int64) (T : Nat) (r0 : Nat) (x1 : Int32) (x2 : Int32), f_X12_placeOf_2 n  m I J T r0 x1 x2 = some q → AW l ρ (d + 1) M_X12_placeOf 2 [(0, .ref (1010 + r0)), (1, .int x1), (2, .int x2)] [] (am_KD, gc, gs) (I, J, am_RT T) (am_KD, gc, gs) (fun v H' => v = [.int q] ∧ H' = (I, J, am_RT T)) := by
  intro m
  induction m with
  | zero =>
    intro I J T r0 x1 x2 h
    rw [f_X12_placeOf_2] at h
    cases h
  | succ m ih =>
    intro I J T r0 x1 x2 h
    rw [f_X12_placeOf_2] at h
    refine op_iload_n (k := 2) dX12_placeOf_2 rfl rfl ?_
    refine op_aload_n (k := 0) dX12_placeOf_3 rfl rfl ?_
    obtain ⟨g6, h⟩ := am_gd h
    obtain ⟨w1, ew1, h⟩ := am_bd h
    refine op_callStr (b := r0) (M' := M_J0_length_8abf5) [] (S0 := [.int x2]) dX12_placeOf_4 tw_1423 ok_J0_length_8abf5 tw_1424 tw_1425 g6 rfl rfl rfl (Nat.le_of_ble_eq_true rfl) (Nat.le_of_ble_eq_true rfl) (t_J0_length_8abf5 (by omega) ew1) (am_le_rf _) ?_
    rintro _ _ ⟨rfl, rfl⟩
    refine op_icmp_ge (tgt := 27) dX12_placeOf_7 (by decide) (fun c2 => ?_) (fun c2 => ?_)
    · replace h := am_ip c2 h
      refine op_iconst (v := (-1)) dX12_placeOf_27 (by decide) ?_
      cases h
      exact (op_iret dX12_placeOf_28 rfl rfl ⟨rfl, rfl⟩)
    · replace h := am_ie c2 h
      refine op_aload_n (k := 0) dX12_placeOf_10 rfl rfl ?_
      refine op_iload_n (k := 2) dX12_placeOf_11 rfl rfl ?_
      obtain ⟨g5, h⟩ := am_gd h
      obtain ⟨w3, ew3, h⟩ := am_bd h
      refine op_callStr (b := r0) (M' := M_J0_charAt_5068e) [.int x2] (S0 := []) dX12_placeOf_12 tw_1433 ok_J0_charAt_5068e tw_1434 tw_1435 g5 rfl rfl rfl (Nat.le_of_ble_eq_true rfl) (Nat.le_of_ble_eq_true rfl) (t_J0_charAt_5068e (by omega) ew3) (am_le_rf _) ?_
      rintro _ _ ⟨rfl, rfl⟩
      refine op_iload_n (k := 1) dX12_placeOf_15 rfl rfl ?_
      refine op_icmp_ne (tgt := 21) dX12_placeOf_16 (by decide) (fun c4 => ?_) (fun c4 => ?_)
      · replace h := am_ie c4 h
        refine op_iinc (k := 2) (v := x2 + 1) (L' := [(2, .int (x2 + 1)), (0, .ref (1010 + r0)), (1, .int x1)]) dX12_placeOf_21 rfl rfl (by decide) rfl ?_
        refine op_goto (tgt := 2) dX12_placeOf_24 (by decide) ?_
        refine AW.perm [1, 2, 0] rfl ?_
        exact ih _ _ _ _ _ _ h
      · replace h := am_ip c4 h
        refine op_iload_n (k := 2) dX12_placeOf_19 rfl rfl ?_
        cases h
        exact (op_iret dX12_placeOf_20 rfl rfl ⟨rfl, rfl⟩)
set_option maxRecDepth 100000 in
set_option maxHeartbeats 4000000 in
theorem t_X12_placeOf_0 {l : Launch} {ρ : am_R} {n d gc gs : Nat} {I : Nat → Nat → Int32} {J : Nat → Nat → Int64} {T : Nat} {r0 : Nat} {x1 : Int32} {q : Int32} (hd : 0 * n + 4 ≤ (d + 1))
    (h : f_X12_placeOf n  I J T r0 x1 = some q) : AW l ρ (d + 1) M_X12_placeOf 0 [(0, .ref (1010 + r0)), (1, .int x1)] [] (am_KD, gc, gs) (I, J, am_RT T) (am_KD, gc, gs) (fun v H' => v = [.int q] ∧ H' = (I, J, am_RT T)) := by
  unfold f_X12_placeOf at h
  refine op_iconst (v := 0) dX12_placeOf_0 (by decide) ?_
  refine op_istore_n (L' := [(2, .int 0), (0, .ref (1010 + r0)), (1, .int x1)]) dX12_placeOf_1 rfl (by decide) rfl ?_
  refine AW.perm [1, 2, 0] rfl ?_
  exact t_X12_placeOf_2 hd  n _ _ _ _ _ _ h
theorem t_X12_placeOf {l : Launch} {ρ : am_R} {n d gc gs : Nat} {I : Nat → Nat → Int32} {J : Nat → Nat → Int64} {T : Nat} {r0 : Nat} {x1 : Int32} {q : Int32} (hd : 0 * n + 4 ≤ d) (h : f_X12_placeOf n I J T r0 x1 = some q) : AW l ρ d M_X12_placeOf 0 [(0, .ref (1010 + r0)), (1, .int x1)] [] (am_KD, gc, gs) (I, J, am_RT T) (am_KD, gc, gs) (fun v H' => v = [.int q] ∧ H' = (I, J, am_RT T)) := by
  obtain ⟨d, rfl⟩ : ∃ e, d = e + 1 := ⟨d - 1, by omega⟩
  exact t_X12_placeOf_0 hd h
def f_X12_leastOf (n : Nat) (I : Nat → Nat → Int32) (J : Nat → Nat → Int64) (T : Nat) (x1 : Int32) (x2 : Int32) : Option (Int32) :=
  if x1 = 119 then
   if x2 = 0 then
    some (0)
   else
    some (1)
  else
   if x1 = 114 then
    if x2 = 1 then
     some (0)
    else
     some (1)
   else
    if x2 = 2 then
     some (0)
    else
     some (1)
set_option maxRecDepth 100000 in
set_option maxHeartbeats 4000000 in
theorem t_X12_leastOf_0 {l : Launch} {ρ : am_R} {n d gc gs : Nat} {I : Nat → Nat → Int32} {J : Nat → Nat → Int64} {T : Nat} {x1 : Int32} {x2 : Int32} {q : Int32} (hd : 0 * n + 0 ≤ d)
    (h : f_X12_leastOf n  I J T x1 x2 = some q) : AW l ρ d M_X12_leastOf 0 [(0, .ref 53), (1, .int x1), (2, .int x2)] [] (am_KD, gc, gs) (I, J, am_RT T) (am_KD, gc, gs) (fun v H' => v = [.int q] ∧ H' = (I, J, am_RT T)) := by
  unfold f_X12_leastOf at h
  refine op_iload_n (k := 1) dX12_leastOf_0 rfl rfl ?_
  refine op_bipush (v := 119) dX12_leastOf_1 (by decide) ?_
  refine op_icmp_ne (tgt := 16) dX12_leastOf_3 (by decide) (fun c1 => ?_) (fun c1 => ?_)
  · replace h := am_ie c1 h
    refine op_iload_n (k := 1) dX12_leastOf_16 rfl rfl ?_
    refine op_bipush (v := 114) dX12_leastOf_17 (by decide) ?_
    refine op_icmp_ne (tgt := 33) dX12_leastOf_19 (by decide) (fun c2 => ?_) (fun c2 => ?_)
    · replace h := am_ie c2 h
      refine op_iload_n (k := 2) dX12_leastOf_33 rfl rfl ?_
      refine op_iconst (v := 2) dX12_leastOf_34 (by decide) ?_
      refine op_icmp_ne (tgt := 42) dX12_leastOf_35 (by decide) (fun c3 => ?_) (fun c3 => ?_)
      · replace h := am_ie c3 h
        refine op_iconst (v := 1) dX12_leastOf_42 (by decide) ?_
        cases h
        exact (op_iret dX12_leastOf_43 rfl rfl ⟨rfl, rfl⟩)
      · replace h := am_ip c3 h
        refine op_iconst (v := 0) dX12_leastOf_38 (by decide) ?_
        refine op_goto (tgt := 43) dX12_leastOf_39 (by decide) ?_
        cases h
        exact (op_iret dX12_leastOf_43 rfl rfl ⟨rfl, rfl⟩)
    · replace h := am_ip c2 h
      refine op_iload_n (k := 2) dX12_leastOf_22 rfl rfl ?_
      refine op_iconst (v := 1) dX12_leastOf_23 (by decide) ?_
      refine op_icmp_ne (tgt := 31) dX12_leastOf_24 (by decide) (fun c4 => ?_) (fun c4 => ?_)
      · replace h := am_ie c4 h
        refine op_iconst (v := 1) dX12_leastOf_31 (by decide) ?_
        cases h
        exact (op_iret dX12_leastOf_32 rfl rfl ⟨rfl, rfl⟩)
      · replace h := am_ip c4 h
        refine op_iconst (v := 0) dX12_leastOf_27 (by decide) ?_
        refine op_goto (tgt := 32) dX12_leastOf_28 (by decide) ?_
        cases h
        exact (op_iret dX12_leastOf_32 rfl rfl ⟨rfl, rfl⟩)
  · replace h := am_ip c1 h
    refine op_iload_n (k := 2) dX12_leastOf_6 rfl rfl ?_
    refine op_if_ne (tgt := 14) dX12_leastOf_7 (by decide) (fun c5 => ?_) (fun c5 => ?_)
    · replace h := am_ie c5 h
      refine op_iconst (v := 1) dX12_leastOf_14 (by decide) ?_
      cases h
      exact (op_iret dX12_leastOf_15 rfl rfl ⟨rfl, rfl⟩)
    · replace h := am_ip c5 h
      refine op_iconst (v := 0) dX12_leastOf_10 (by decide) ?_
      refine op_goto (tgt := 15) dX12_leastOf_11 (by decide) ?_
      cases h
      exact (op_iret dX12_leastOf_15 rfl rfl ⟨rfl, rfl⟩)
theorem t_X12_leastOf {l : Launch} {ρ : am_R} {n d gc gs : Nat} {I : Nat → Nat → Int32} {J : Nat → Nat → Int64} {T : Nat} {x1 : Int32} {x2 : Int32} {q : Int32} (hd : 0 * n + 0 ≤ d) (h : f_X12_leastOf n I J T x1 x2 = some q) : AW l ρ d M_X12_leastOf 0 [(0, .ref 53), (1, .int x1), (2, .int x2)] [] (am_KD, gc, gs) (I, J, am_RT T) (am_KD, gc, gs) (fun v H' => v = [.int q] ∧ H' = (I, J, am_RT T)) := t_X12_leastOf_0 hd h
def f_X12_mostOf (n : Nat) (I : Nat → Nat → Int32) (J : Nat → Nat → Int64) (T : Nat) (x1 : Int32) (x2 : Int32) : Option (Int32) :=
  if x1 = 119 then
   if x2 = 0 then
    some ((I 53 28) - 1)
   else
    some (20)
  else
   if x1 = 114 then
    if x2 = 0 then
     some (9)
    else
     if x2 = 1 then
      some (99)
     else
      some (3)
   else
    if x2 = 0 then
     some (9)
    else
     if x2 = 1 then
      some (20)
     else
      some (99)
set_option maxRecDepth 100000 in
set_option maxHeartbeats 4000000 in
theorem t_X12_mostOf_0 {l : Launch} {ρ : am_R} {n d gc gs : Nat} {I : Nat → Nat → Int32} {J : Nat → Nat → Int64} {T : Nat} {x1 : Int32} {x2 : Int32} {q : Int32} (hd : 0 * n + 0 ≤ d)
    (h : f_X12_mostOf n  I J T x1 x2 = some q) : AW l ρ d M_X12_mostOf 0 [(0, .ref 53), (1, .int x1), (2, .int x2)] [] (am_KD, gc, gs) (I, J, am_RT T) (am_KD, gc, gs) (fun v H' => v = [.int q] ∧ H' = (I, J, am_RT T)) := by
  unfold f_X12_mostOf at h
  refine op_iload_n (k := 1) dX12_mostOf_0 rfl rfl ?_
  refine op_bipush (v := 119) dX12_mostOf_1 (by decide) ?_
  refine op_icmp_ne (tgt := 22) dX12_mostOf_3 (by decide) (fun c1 => ?_) (fun c1 => ?_)
  · replace h := am_ie c1 h
    refine op_iload_n (k := 1) dX12_mostOf_22 rfl rfl ?_
    refine op_bipush (v := 114) dX12_mostOf_23 (by decide) ?_
    refine op_icmp_ne (tgt := 49) dX12_mostOf_25 (by decide) (fun c2 => ?_) (fun c2 => ?_)
    · replace h := am_ie c2 h
      refine op_iload_n (k := 2) dX12_mostOf_49 rfl rfl ?_
      refine op_if_ne (tgt := 58) dX12_mostOf_50 (by decide) (fun c3 => ?_) (fun c3 => ?_)
      · replace h := am_ie c3 h
        refine op_iload_n (k := 2) dX12_mostOf_58 rfl rfl ?_
        refine op_iconst (v := 1) dX12_mostOf_59 (by decide) ?_
        refine op_icmp_ne (tgt := 68) dX12_mostOf_60 (by decide) (fun c4 => ?_) (fun c4 => ?_)
        · replace h := am_ie c4 h
          refine op_bipush (v := 99) dX12_mostOf_68 (by decide) ?_
          cases h
          exact (op_iret dX12_mostOf_70 rfl rfl ⟨rfl, rfl⟩)
        · replace h := am_ip c4 h
          refine op_bipush (v := 20) dX12_mostOf_63 (by decide) ?_
          refine op_goto (tgt := 70) dX12_mostOf_65 (by decide) ?_
          cases h
          exact (op_iret dX12_mostOf_70 rfl rfl ⟨rfl, rfl⟩)
      · replace h := am_ip c3 h
        refine op_bipush (v := 9) dX12_mostOf_53 (by decide) ?_
        refine op_goto (tgt := 70) dX12_mostOf_55 (by decide) ?_
        cases h
        exact (op_iret dX12_mostOf_70 rfl rfl ⟨rfl, rfl⟩)
    · replace h := am_ip c2 h
      refine op_iload_n (k := 2) dX12_mostOf_28 rfl rfl ?_
      refine op_if_ne (tgt := 37) dX12_mostOf_29 (by decide) (fun c5 => ?_) (fun c5 => ?_)
      · replace h := am_ie c5 h
        refine op_iload_n (k := 2) dX12_mostOf_37 rfl rfl ?_
        refine op_iconst (v := 1) dX12_mostOf_38 (by decide) ?_
        refine op_icmp_ne (tgt := 47) dX12_mostOf_39 (by decide) (fun c6 => ?_) (fun c6 => ?_)
        · replace h := am_ie c6 h
          refine op_iconst (v := 3) dX12_mostOf_47 (by decide) ?_
          cases h
          exact (op_iret dX12_mostOf_48 rfl rfl ⟨rfl, rfl⟩)
        · replace h := am_ip c6 h
          refine op_bipush (v := 99) dX12_mostOf_42 (by decide) ?_
          refine op_goto (tgt := 48) dX12_mostOf_44 (by decide) ?_
          cases h
          exact (op_iret dX12_mostOf_48 rfl rfl ⟨rfl, rfl⟩)
      · replace h := am_ip c5 h
        refine op_bipush (v := 9) dX12_mostOf_32 (by decide) ?_
        refine op_goto (tgt := 48) dX12_mostOf_34 (by decide) ?_
        cases h
        exact (op_iret dX12_mostOf_48 rfl rfl ⟨rfl, rfl⟩)
  · replace h := am_ip c1 h
    refine op_iload_n (k := 2) dX12_mostOf_6 rfl rfl ?_
    refine op_if_ne (tgt := 19) dX12_mostOf_7 (by decide) (fun c7 => ?_) (fun c7 => ?_)
    · replace h := am_ie c7 h
      refine op_bipush (v := 20) dX12_mostOf_19 (by decide) ?_
      cases h
      exact (op_iret dX12_mostOf_21 rfl rfl ⟨rfl, rfl⟩)
    · replace h := am_ip c7 h
      refine op_aload_n (k := 0) dX12_mostOf_10 rfl rfl ?_
      refine st_getI (v := I 53 28) dX12_mostOf_11 fl_X12_240 kd_53 (by decide) rfl rfl ?_
      refine op_iconst (v := 1) dX12_mostOf_14 (by decide) ?_
      refine op_isub dX12_mostOf_15 ?_
      refine op_goto (tgt := 21) dX12_mostOf_16 (by decide) ?_
      cases h
      exact (op_iret dX12_mostOf_21 rfl rfl ⟨rfl, rfl⟩)
theorem t_X12_mostOf {l : Launch} {ρ : am_R} {n d gc gs : Nat} {I : Nat → Nat → Int32} {J : Nat → Nat → Int64} {T : Nat} {x1 : Int32} {x2 : Int32} {q : Int32} (hd : 0 * n + 0 ≤ d) (h : f_X12_mostOf n I J T x1 x2 = some q) : AW l ρ d M_X12_mostOf 0 [(0, .ref 53), (1, .int x1), (2, .int x2)] [] (am_KD, gc, gs) (I, J, am_RT T) (am_KD, gc, gs) (fun v H' => v = [.int q] ∧ H' = (I, J, am_RT T)) := t_X12_mostOf_0 hd h
def f_X12_here (n : Nat) (I : Nat → Nat → Int32) (J : Nat → Nat → Int64) (T : Nat) : Option (Int32) :=
  if (I 53 9) ≤ (I 53 10) then
   some ((-1))
  else
   if T = 54 then
    if ok_ix ((I 53 8) + (I 53 10)) 160 then
     some ((I 54 (((I 53 8) + (I 53 10)).toNatClampNeg)) &&& 255)
    else none
   else if T = 55 then
    if ok_ix ((I 53 8) + (I 53 10)) 640 then
     some ((I 55 (((I 53 8) + (I 53 10)).toNatClampNeg)) &&& 255)
    else none
   else none
set_option maxRecDepth 100000 in
set_option maxHeartbeats 4000000 in
theorem t_X12_here_0 {l : Launch} {ρ : am_R} {n d gc gs : Nat} {I : Nat → Nat → Int32} {J : Nat → Nat → Int64} {T : Nat} {q : Int32} (hd : 0 * n + 0 ≤ d)
    (h : f_X12_here n  I J T  = some q) : AW l ρ d M_X12_here 0 [(0, .ref 53)] [] (am_KD, gc, gs) (I, J, am_RT T) (am_KD, gc, gs) (fun v H' => v = [.int q] ∧ H' = (I, J, am_RT T)) := by
  unfold f_X12_here at h
  refine op_aload_n (k := 0) dX12_here_0 rfl rfl ?_
  refine st_getI (v := I 53 10) dX12_here_1 fl_X12_141 kd_53 (by decide) rfl rfl ?_
  refine op_aload_n (k := 0) dX12_here_4 rfl rfl ?_
  refine st_getI (v := I 53 9) dX12_here_5 fl_X12_144 kd_53 (by decide) rfl rfl ?_
  refine op_icmp_ge (tgt := 32) dX12_here_8 (by decide) (fun c1 => ?_) (fun c1 => ?_)
  · replace h := am_ip c1 h
    refine op_iconst (v := (-1)) dX12_here_32 (by decide) ?_
    cases h
    exact (op_iret dX12_here_33 rfl rfl ⟨rfl, rfl⟩)
  · replace h := am_ie c1 h
    refine op_aload_n (k := 0) dX12_here_11 rfl rfl ?_
    refine st_getT dX12_here_12 fl_X12_23 ?_
    refine op_aload_n (k := 0) dX12_here_15 rfl rfl ?_
    refine st_getI (v := I 53 8) dX12_here_16 fl_X12_147 kd_53 (by decide) rfl rfl ?_
    refine op_aload_n (k := 0) dX12_here_19 rfl rfl ?_
    refine st_getI (v := I 53 10) dX12_here_20 fl_X12_141 kd_53 (by decide) rfl rfl ?_
    refine op_iadd dX12_here_23 ?_
    by_cases c2 : T = 54
    · replace h := am_ip c2 h
      refine st_rf c2 ?_
      obtain ⟨g3, h⟩ := am_gd h
      refine st_bald (k := ((I 53 8) + (I 53 10)).toNatClampNeg) (v := I 54 (((I 53 8) + (I 53 10)).toNatClampNeg)) dX12_here_24 kd_54 g3 rfl rfl ?_
      refine op_sipush (v := 255) dX12_here_25 (by decide) ?_
      refine op_iand dX12_here_28 ?_
      refine op_goto (tgt := 33) dX12_here_29 (by decide) ?_
      cases h
      exact (op_iret dX12_here_33 rfl rfl ⟨rfl, rfl⟩)
    · replace h := am_ie c2 h
      obtain ⟨c2b, h⟩ := am_gd h
      refine st_rf c2b ?_
      obtain ⟨g4, h⟩ := am_gd h
      refine st_bald (k := ((I 53 8) + (I 53 10)).toNatClampNeg) (v := I 55 (((I 53 8) + (I 53 10)).toNatClampNeg)) dX12_here_24 kd_55 g4 rfl rfl ?_
      refine op_sipush (v := 255) dX12_here_25 (by decide) ?_
      refine op_iand dX12_here_28 ?_
      refine op_goto (tgt := 33) dX12_here_29 (by decide) ?_
      cases h
      exact (op_iret dX12_here_33 rfl rfl ⟨rfl, rfl⟩)
theorem t_X12_here {l : Launch} {ρ : am_R} {n d gc gs : Nat} {I : Nat → Nat → Int32} {J : Nat → Nat → Int64} {T : Nat} {q : Int32} (hd : 0 * n + 0 ≤ d) (h : f_X12_here n I J T  = some q) : AW l ρ d M_X12_here 0 [(0, .ref 53)] [] (am_KD, gc, gs) (I, J, am_RT T) (am_KD, gc, gs) (fun v H' => v = [.int q] ∧ H' = (I, J, am_RT T)) := t_X12_here_0 hd h
def f_X12_number_77 (n : Nat) (I : Nat → Nat → Int32) (J : Nat → Nat → Int64) (T : Nat) (x1 : Int32) (x2 : Int32) (x4 : Int32) : Option (Int32 × (Nat → Nat → Int32)) :=
  (f_X12_isDigit n I J T).bind fun w1 =>
  if w1 = 0 then
   (f_X12_isIn n I J T x4.toInt64 x1.toInt64 x2.toInt64).bind fun w3 =>
   if w3 = 0 then
    (f_X12_fails n ((am_u I 53 10 ((I 53 10) - 1))) J T).bind fun w5 =>
    some ((-1), w5.2)
   else
    some (x4, I)
  else
   (f_X12_fails n I J T).bind fun w6 =>
   some ((-1), w6.2)
def f_X12_number (n : Nat) (I : Nat → Nat → Int32) (J : Nat → Nat → Int64) (T : Nat) (x1 : Int32) (x2 : Int32) : Option (Int32 × (Nat → Nat → Int32)) :=
  (f_X12_look n ((am_u I 53 10 ((I 53 10) + 1))) J T).bind fun w1 =>
  (f_X12_isDigit n w1.2 J T).bind fun w2 =>
  if w2 = 0 then
   (f_X12_fails n w1.2 J T).bind fun w7 =>
   some ((-1), w7.2)
  else
   (f_X12_isDigit n ((am_u w1.2 53 10 ((w1.2 53 10) + 1))) J T).bind fun w4 =>
   if w4 = 0 then
    f_X12_number_77 n  ((am_u w1.2 53 10 ((w1.2 53 10) + 1))) J T x1 x2 (w1.1 - 48)
   else
    (f_X12_here n ((am_u w1.2 53 10 ((w1.2 53 10) + 1))) J T).bind fun w6 =>
    f_X12_number_77 n  ((am_u (am_u w1.2 53 10 ((w1.2 53 10) + 1)) 53 10 (((w1.2 53 10) + 1) + 1))) J T x1 x2 (((10 * (w1.1 - 48)) + w6) - 48)
set_option maxRecDepth 100000 in
set_option maxHeartbeats 4000000 in
theorem t_X12_number_77 {l : Launch} {ρ : am_R} {n d gc gs : Nat} {I : Nat → Nat → Int32} {J : Nat → Nat → Int64} {T : Nat} {x1 : Int32} {x2 : Int32} {x4 : Int32} {q : Int32 × (Nat → Nat → Int32)} (hd : 0 * n + 1 ≤ (d + 1))
    (h : f_X12_number_77 n  I J T x1 x2 x4 = some q) : AW l ρ (d + 1) M_X12_number 77 [(0, .ref 53), (1, .int x1), (2, .int x2), (4, .int x4)] [] (am_KD, gc, gs) (I, J, am_RT T) (am_KD, gc, gs) (fun v H' => v = [.int q.1] ∧ H' = (q.2, J, am_RT T)) := by
  unfold f_X12_number_77 at h
  refine op_aload_n (k := 0) dX12_number_77 rfl rfl ?_
  obtain ⟨w1, ew1, h⟩ := am_bd h
  refine op_callV (M' := M_X12_isDigit) [] (S0 := []) dX12_number_78 tw_1486 ok_X12_isDigit tw_1488 tw_61 kd_53 cls_12 rfl rfl rfl (Nat.le_of_ble_eq_true rfl) (Nat.le_of_ble_eq_true rfl) (t_X12_isDigit (by omega) ew1) (am_le_rf _) ?_
  rintro _ _ ⟨rfl, rfl⟩
  refine op_if_eq (tgt := 91) dX12_number_81 (by decide) (fun c2 => ?_) (fun c2 => ?_)
  · replace h := am_ip c2 h
    refine op_iload (k := 3) dX12_number_91 rfl ?_
    refine op_i2l dX12_number_93 ?_
    refine op_iload_n (k := 1) dX12_number_94 rfl rfl ?_
    refine op_i2l dX12_number_95 ?_
    refine op_iload_n (k := 2) dX12_number_96 rfl rfl ?_
    refine op_i2l dX12_number_97 ?_
    obtain ⟨w3, ew3, h⟩ := am_bd h
    refine op_callS (M' := M_X12_isIn) [.long x4.toInt64, .long x1.toInt64, .long x2.toInt64] (S0 := []) dX12_number_98 tw_1390 ok_X12_isIn tw_1391 rfl rfl (Nat.le_of_ble_eq_true rfl) (Nat.le_of_ble_eq_true rfl) (t_X12_isIn (by omega) ew3) (am_le_rf _) ?_
    rintro _ _ ⟨rfl, rfl⟩
    refine op_if_ne (tgt := 121) dX12_number_101 (by decide) (fun c4 => ?_) (fun c4 => ?_)
    · replace h := am_ie c4 h
      refine op_iload (k := 3) dX12_number_121 rfl ?_
      cases h
      exact (op_iret dX12_number_123 rfl rfl ⟨rfl, rfl⟩)
    · replace h := am_ip c4 h
      refine op_aload_n (k := 0) dX12_number_104 rfl rfl ?_
      refine op_dup dX12_number_105 rfl ?_
      refine st_getI (v := I 53 10) dX12_number_106 fl_X12_141 kd_53 (by decide) rfl rfl ?_
      refine op_iconst (v := 1) dX12_number_109 (by decide) ?_
      refine op_isub dX12_number_110 ?_
      refine st_putI dX12_number_111 fl_X12_141 kd_53 (by decide) rfl ?_
      refine op_aload_n (k := 0) dX12_number_114 rfl rfl ?_
      obtain ⟨w5, ew5, h⟩ := am_bd h
      refine op_callV (M' := M_X12_fails) [] (S0 := []) dX12_number_115 tw_1409 ok_X12_fails tw_1411 tw_56 kd_53 cls_12 rfl rfl rfl (Nat.le_of_ble_eq_true rfl) (Nat.le_of_ble_eq_true rfl) (t_X12_fails (by omega) ew5) (am_le_rf _) ?_
      rintro _ _ ⟨rfl, rfl⟩
      refine op_pop dX12_number_118 rfl ?_
      refine op_iconst (v := (-1)) dX12_number_119 (by decide) ?_
      cases h
      exact (op_iret dX12_number_120 rfl rfl ⟨rfl, rfl⟩)
  · replace h := am_ie c2 h
    refine op_aload_n (k := 0) dX12_number_84 rfl rfl ?_
    obtain ⟨w6, ew6, h⟩ := am_bd h
    refine op_callV (M' := M_X12_fails) [] (S0 := []) dX12_number_85 tw_1409 ok_X12_fails tw_1411 tw_56 kd_53 cls_12 rfl rfl rfl (Nat.le_of_ble_eq_true rfl) (Nat.le_of_ble_eq_true rfl) (t_X12_fails (by omega) ew6) (am_le_rf _) ?_
    rintro _ _ ⟨rfl, rfl⟩
    refine op_pop dX12_number_88 rfl ?_
    refine op_iconst (v := (-1)) dX12_number_89 (by decide) ?_
    cases h
    exact (op_iret dX12_number_90 rfl rfl ⟨rfl, rfl⟩)
set_option maxRecDepth 100000 in
set_option maxHeartbeats 4000000 in
theorem t_X12_number_0 {l : Launch} {ρ : am_R} {n d gc gs : Nat} {I : Nat → Nat → Int32} {J : Nat → Nat → Int64} {T : Nat} {x1 : Int32} {x2 : Int32} {q : Int32 × (Nat → Nat → Int32)} (hd : 0 * n + 1 ≤ (d + 1))
    (h : f_X12_number n  I J T x1 x2 = some q) : AW l ρ (d + 1) M_X12_number 0 [(0, .ref 53), (1, .int x1), (2, .int x2)] [] (am_KD, gc, gs) (I, J, am_RT T) (am_KD, gc, gs) (fun v H' => v = [.int q.1] ∧ H' = (q.2, J, am_RT T)) := by
  unfold f_X12_number at h
  refine op_aload_n (k := 0) dX12_number_0 rfl rfl ?_
  refine op_dup dX12_number_1 rfl ?_
  refine st_getI (v := I 53 10) dX12_number_2 fl_X12_141 kd_53 (by decide) rfl rfl ?_
  refine op_iconst (v := 1) dX12_number_5 (by decide) ?_
  refine op_iadd dX12_number_6 ?_
  refine st_putI dX12_number_7 fl_X12_141 kd_53 (by decide) rfl ?_
  refine op_aload_n (k := 0) dX12_number_10 rfl rfl ?_
  obtain ⟨w1, ew1, h⟩ := am_bd h
  refine op_callV (M' := M_X12_look) [] (S0 := []) dX12_number_11 tw_1405 ok_X12_look tw_1407 tw_55 kd_53 cls_12 rfl rfl rfl (Nat.le_of_ble_eq_true rfl) (Nat.le_of_ble_eq_true rfl) (t_X12_look (by omega) ew1) (am_le_rf _) ?_
  rintro _ _ ⟨rfl, rfl⟩
  refine op_istore_n (L' := [(3, .int w1.1), (0, .ref 53), (1, .int x1), (2, .int x2)]) dX12_number_14 rfl (by decide) rfl ?_
  refine op_aload_n (k := 1) dX12_number_15 rfl rfl ?_
  obtain ⟨w2, ew2, h⟩ := am_bd h
  refine op_callV (M' := M_X12_isDigit) [] (S0 := []) dX12_number_16 tw_1486 ok_X12_isDigit tw_1488 tw_61 kd_53 cls_12 rfl rfl rfl (Nat.le_of_ble_eq_true rfl) (Nat.le_of_ble_eq_true rfl) (t_X12_isDigit (by omega) ew2) (am_le_rf _) ?_
  rintro _ _ ⟨rfl, rfl⟩
  refine op_if_ne (tgt := 29) dX12_number_19 (by decide) (fun c3 => ?_) (fun c3 => ?_)
  · replace h := am_ie c3 h
    refine op_iload_n (k := 0) dX12_number_29 rfl rfl ?_
    refine op_bipush (v := 48) dX12_number_30 (by decide) ?_
    refine op_isub dX12_number_32 ?_
    refine op_istore (L' := [(4, .int (w1.1 - 48)), (3, .int w1.1), (0, .ref 53), (1, .int x1), (2, .int x2)]) dX12_number_33 (by decide) rfl ?_
    refine op_aload_n (k := 2) dX12_number_35 rfl rfl ?_
    refine op_dup dX12_number_36 rfl ?_
    refine st_getI (v := w1.2 53 10) dX12_number_37 fl_X12_141 kd_53 (by decide) rfl rfl ?_
    refine op_iconst (v := 1) dX12_number_40 (by decide) ?_
    refine op_iadd dX12_number_41 ?_
    refine st_putI dX12_number_42 fl_X12_141 kd_53 (by decide) rfl ?_
    refine op_aload_n (k := 2) dX12_number_45 rfl rfl ?_
    obtain ⟨w4, ew4, h⟩ := am_bd h
    refine op_callV (M' := M_X12_isDigit) [] (S0 := []) dX12_number_46 tw_1486 ok_X12_isDigit tw_1488 tw_61 kd_53 cls_12 rfl rfl rfl (Nat.le_of_ble_eq_true rfl) (Nat.le_of_ble_eq_true rfl) (t_X12_isDigit (by omega) ew4) (am_le_rf _) ?_
    rintro _ _ ⟨rfl, rfl⟩
    refine op_if_eq (tgt := 77) dX12_number_49 (by decide) (fun c5 => ?_) (fun c5 => ?_)
    · replace h := am_ip c5 h
      refine AW.perm [2, 3, 4, 0] rfl ?_
      exact t_X12_number_77 hd  h
    · replace h := am_ie c5 h
      refine op_bipush (v := 10) dX12_number_52 (by decide) ?_
      refine op_iload (k := 0) dX12_number_54 rfl ?_
      refine op_imul dX12_number_56 ?_
      refine op_aload_n (k := 2) dX12_number_57 rfl rfl ?_
      obtain ⟨w6, ew6, h⟩ := am_bd h
      refine op_callV (M' := M_X12_here) [] (S0 := [.int (10 * (w1.1 - 48))]) dX12_number_58 tw_1490 ok_X12_here tw_1492 tw_62 kd_53 cls_12 rfl rfl rfl (Nat.le_of_ble_eq_true rfl) (Nat.le_of_ble_eq_true rfl) (t_X12_here (by omega) ew6) (am_le_rf _) ?_
      rintro _ _ ⟨rfl, rfl⟩
      refine op_iadd dX12_number_61 ?_
      refine op_bipush (v := 48) dX12_number_62 (by decide) ?_
      refine op_isub dX12_number_64 ?_
      refine op_istore (L' := [(4, .int (((10 * (w1.1 - 48)) + w6) - 48)), (3, .int w1.1), (0, .ref 53), (1, .int x1), (2, .int x2)]) dX12_number_65 (by decide) rfl ?_
      refine op_aload_n (k := 2) dX12_number_67 rfl rfl ?_
      refine op_dup dX12_number_68 rfl ?_
      refine st_getI (v := (w1.2 53 10) + 1) dX12_number_69 fl_X12_141 kd_53 (by decide) rfl rfl ?_
      refine op_iconst (v := 1) dX12_number_72 (by decide) ?_
      refine op_iadd dX12_number_73 ?_
      refine st_putI dX12_number_74 fl_X12_141 kd_53 (by decide) rfl ?_
      refine AW.perm [2, 3, 4, 0] rfl ?_
      exact t_X12_number_77 hd  h
  · replace h := am_ip c3 h
    refine op_aload_n (k := 1) dX12_number_22 rfl rfl ?_
    obtain ⟨w7, ew7, h⟩ := am_bd h
    refine op_callV (M' := M_X12_fails) [] (S0 := []) dX12_number_23 tw_1409 ok_X12_fails tw_1411 tw_56 kd_53 cls_12 rfl rfl rfl (Nat.le_of_ble_eq_true rfl) (Nat.le_of_ble_eq_true rfl) (t_X12_fails (by omega) ew7) (am_le_rf _) ?_
    rintro _ _ ⟨rfl, rfl⟩
    refine op_pop dX12_number_26 rfl ?_
    refine op_iconst (v := (-1)) dX12_number_27 (by decide) ?_
    cases h
    exact (op_iret dX12_number_28 rfl rfl ⟨rfl, rfl⟩)
theorem t_X12_number {l : Launch} {ρ : am_R} {n d gc gs : Nat} {I : Nat → Nat → Int32} {J : Nat → Nat → Int64} {T : Nat} {x1 : Int32} {x2 : Int32} {q : Int32 × (Nat → Nat → Int32)} (hd : 0 * n + 1 ≤ d) (h : f_X12_number n I J T x1 x2 = some q) : AW l ρ d M_X12_number 0 [(0, .ref 53), (1, .int x1), (2, .int x2)] [] (am_KD, gc, gs) (I, J, am_RT T) (am_KD, gc, gs) (fun v H' => v = [.int q.1] ∧ H' = (q.2, J, am_RT T)) := by
  obtain ⟨d, rfl⟩ : ∃ e, d = e + 1 := ⟨d - 1, by omega⟩
  exact t_X12_number_0 hd h
def f_X12_readClause_277 (n : Nat) (I : Nat → Nat → Int32) (J : Nat → Nat → Int64) (T : Nat) (x1 : Int32) : Option ((Nat → Nat → Int32)) :=
  if x1 = 114 then
   some ((am_u I 53 29 ((I 53 29) + 1)))
  else
   some (I)
def f_X12_readClause_187 (n : Nat) : Nat → (Nat → Nat → Int32) → (Nat → Nat → Int64) → Nat → Int32 → Nat → Int32 → Int32 → Option ((Nat → Nat → Int32))
  | 0, _, _, _, _, _, _, _ => none
  | m + 1, I, J, T, x1, r3, x4, x5 =>
    if x5 = ((-1)) then
     f_X12_readClause_277 n  I J T x1
    else
     if (I 53 11) = ((-1)) then
      (f_X12_has n I J T x4 x5).bind fun w3 =>
      if w3 = 0 then
       (f_X12_leastOf n I J T x1 x5).bind fun w5 =>
       (f_X12_mostOf n I J T x1 x5).bind fun w6 =>
       (f_X12_number n I J T w5 w6).bind fun w7 =>
       if (w7.2 53 11) = ((-1)) then
        (f_X12_lay n w7.2 J T x1 x5 w7.1).bind fun w9 =>
        (f_X12_look n w9 J T).bind fun w10 =>
        (f_X12_placeOf n w10.2 J T r3 w10.1).bind fun w11 =>
        f_X12_readClause_187 n  m w10.2 J T x1 r3 (x4 ||| (1 <<< (x5 &&& 31))) w11
       else
        some (w7.2)
      else
       (f_X12_fails n I J T).bind fun w12 =>
       some (w12.2)
     else
      f_X12_readClause_277 n  I J T x1
def f_X12_readClause_173 (n : Nat) (I : Nat → Nat → Int32) (J : Nat → Nat → Int64) (T : Nat) (x1 : Int32) (q0 : Nat) : Option ((Nat → Nat → Int32)) :=
  (f_X12_look n I J T).bind fun w1 =>
  (f_X12_placeOf n w1.2 J T q0 w1.1).bind fun w2 =>
  f_X12_readClause_187 n  n w1.2 J T x1 q0 0 w2
def f_X12_readClause_148 (n : Nat) (I : Nat → Nat → Int32) (J : Nat → Nat → Int64) (T : Nat) (x1 : Int32) : Option ((Nat → Nat → Int32)) :=
  if x1 = 119 then
   f_X12_readClause_173 n  I J T x1 2
  else
   if x1 = 114 then
    f_X12_readClause_173 n  I J T x1 3
   else
    f_X12_readClause_173 n  I J T x1 4
def f_X12_readClause_137 (n : Nat) (I : Nat → Nat → Int32) (J : Nat → Nat → Int64) (T : Nat) (x1 : Int32) : Option ((Nat → Nat → Int32)) :=
  if x1 = 99 then
   f_X12_readClause_148 n  ((am_u I 53 30 1)) J T x1
  else
   f_X12_readClause_148 n  I J T x1
def f_X12_readClause_106 (n : Nat) (I : Nat → Nat → Int32) (J : Nat → Nat → Int64) (T : Nat) (x1 : Int32) : Option ((Nat → Nat → Int32)) :=
  if x1 = 114 then
   (f_X12_lay n I J T 114 0 1).bind fun w2 =>
   (f_X12_lay n w2 J T 114 1 99).bind fun w3 =>
   (f_X12_lay n w3 J T 114 2 1).bind fun w4 =>
   f_X12_readClause_137 n  w4 J T x1
  else
   f_X12_readClause_137 n  I J T x1
def f_X12_readClause_53 (n : Nat) (I : Nat → Nat → Int32) (J : Nat → Nat → Int64) (T : Nat) (x1 : Int32) (s0 : Int32) : Option ((Nat → Nat → Int32)) :=
  if s0 = 0 then
   (f_X12_fails n I J T).bind fun w5 =>
   some (w5.2)
  else
   if x1 = 119 then
    (f_X12_lay n ((am_u (am_u I 53 10 ((I 53 10) + 1)) 53 28 ((I 53 28) + 1))) J T 119 0 0).bind fun w3 =>
    (f_X12_lay n w3 J T 119 1 1).bind fun w4 =>
    f_X12_readClause_106 n  w4 J T x1
   else
    f_X12_readClause_106 n  ((am_u I 53 10 ((I 53 10) + 1))) J T x1
def f_X12_readClause_52 (n : Nat) (I : Nat → Nat → Int32) (J : Nat → Nat → Int64) (T : Nat) (x1 : Int32) : Option ((Nat → Nat → Int32)) :=
  f_X12_readClause_53 n  I J T x1 0
def f_X12_readClause_48 (n : Nat) (I : Nat → Nat → Int32) (J : Nat → Nat → Int64) (T : Nat) (x1 : Int32) : Option ((Nat → Nat → Int32)) :=
  f_X12_readClause_53 n  I J T x1 1
def f_X12_readClause_35 (n : Nat) (I : Nat → Nat → Int32) (J : Nat → Nat → Int64) (T : Nat) (x1 : Int32) : Option ((Nat → Nat → Int32)) :=
  if x1 = 99 then
   if (I 53 30) = 0 then
    f_X12_readClause_48 n  I J T x1
   else
    f_X12_readClause_52 n  I J T x1
  else
   f_X12_readClause_52 n  I J T x1
def f_X12_readClause_20 (n : Nat) (I : Nat → Nat → Int32) (J : Nat → Nat → Int64) (T : Nat) (x1 : Int32) : Option ((Nat → Nat → Int32)) :=
  if x1 = 114 then
   if (I 53 29) < 6 then
    f_X12_readClause_48 n  I J T x1
   else
    f_X12_readClause_35 n  I J T x1
  else
   f_X12_readClause_35 n  I J T x1
def f_X12_readClause (n : Nat) (I : Nat → Nat → Int32) (J : Nat → Nat → Int64) (T : Nat) : Option ((Nat → Nat → Int32)) :=
  (f_X12_look n I J T).bind fun w1 =>
  if w1.1 = 119 then
   if (w1.2 53 28) < 9 then
    f_X12_readClause_48 n  w1.2 J T w1.1
   else
    f_X12_readClause_20 n  w1.2 J T w1.1
  else
   f_X12_readClause_20 n  w1.2 J T w1.1
set_option maxRecDepth 100000 in
set_option maxHeartbeats 4000000 in
theorem t_X12_readClause_277 {l : Launch} {ρ : am_R} {n d gc gs : Nat} {I : Nat → Nat → Int32} {J : Nat → Nat → Int64} {T : Nat} {x1 : Int32} {q : (Nat → Nat → Int32)} (hd : 0 * n + 5 ≤ (d + 1))
    (h : f_X12_readClause_277 n  I J T x1 = some q) : AW l ρ (d + 1) M_X12_readClause 277 [(0, .ref 53), (1, .int x1)] [] (am_KD, gc, gs) (I, J, am_RT T) (am_KD, gc, gs) (fun v H' => v = [] ∧ H' = (q, J, am_RT T)) := by
  unfold f_X12_readClause_277 at h
  refine op_iload_n (k := 1) dX12_readClause_277 rfl rfl ?_
  refine op_bipush (v := 114) dX12_readClause_278 (by decide) ?_
  refine op_icmp_ne (tgt := 293) dX12_readClause_280 (by decide) (fun c1 => ?_) (fun c1 => ?_)
  · replace h := am_ie c1 h
    cases h
    exact (op_vret dX12_readClause_293 rfl ⟨rfl, rfl⟩)
  · replace h := am_ip c1 h
    refine op_aload_n (k := 0) dX12_readClause_283 rfl rfl ?_
    refine op_dup dX12_readClause_284 rfl ?_
    refine st_getI (v := I 53 29) dX12_readClause_285 fl_X12_243 kd_53 (by decide) rfl rfl ?_
    refine op_iconst (v := 1) dX12_readClause_288 (by decide) ?_
    refine op_iadd dX12_readClause_289 ?_
    refine st_putI dX12_readClause_290 fl_X12_243 kd_53 (by decide) rfl ?_
    cases h
    exact (op_vret dX12_readClause_293 rfl ⟨rfl, rfl⟩)
set_option maxRecDepth 100000 in
set_option maxHeartbeats 4000000 in
theorem t_X12_readClause_187 {l : Launch} {ρ : am_R} {n d gc gs : Nat} {q : (Nat → Nat → Int32)} (hd : 0 * n + 5 ≤ (d + 1))
    : ∀ (m : Nat) (I : Nat → Nat → Int32) (J : Nat → Nat → Int64) (T : Nat) (x1 : Int32) (r3 : Nat) (x4 : Int32) (x5 : Int32), f_X12_readClause_187 n  m I J T x1 r3 x4 x5 = some q → AW l ρ (d + 1) M_X12_readClause 187 [(0, .ref 53), (1, .int x1), (3, .ref (1010 + r3)), (4, .int x4), (5, .int x5)] [] (am_KD, gc, gs) (I, J, am_RT T) (am_KD, gc, gs) (fun v H' => v = [] ∧ H' = (q, J, am_RT T)) := by
  intro m
  induction m with
  | zero =>
    intro I J T x1 r3 x4 x5 h
    rw [f_X12_readClause_187] at h
    cases h
  | succ m ih =>
    intro I J T x1 r3 x4 x5 h
    rw [f_X12_readClause_187] at h
    refine op_iload (k := 4) dX12_readClause_187 rfl ?_
    refine op_iconst (v := (-1)) dX12_readClause_189 (by decide) ?_
    refine op_icmp_eq (tgt := 277) dX12_readClause_190 (by decide) (fun c1 => ?_) (fun c1 => ?_)
    · replace h := am_ip c1 h
      refine AW.perm [0, 1] rfl ?_
      exact t_X12_readClause_277 hd  h
    · replace h := am_ie c1 h
      refine op_aload_n (k := 0) dX12_readClause_193 rfl rfl ?_
      refine st_getI (v := I 53 11) dX12_readClause_194 fl_X12_150 kd_53 (by decide) rfl rfl ?_
      refine op_iconst (v := (-1)) dX12_readClause_197 (by decide) ?_
      refine op_icmp_ne (tgt := 277) dX12_readClause_198 (by decide) (fun c2 => ?_) (fun c2 => ?_)
      · replace h := am_ie c2 h
        refine AW.perm [0, 1] rfl ?_
        exact t_X12_readClause_277 hd  h
      · replace h := am_ip c2 h
        refine op_iload (k := 3) dX12_readClause_201 rfl ?_
        refine op_iload (k := 4) dX12_readClause_203 rfl ?_
        obtain ⟨w3, ew3, h⟩ := am_bd h
        refine op_callS (M' := M_X12_has) [.int x4, .int x5] (S0 := []) dX12_readClause_205 tw_1471 ok_X12_has tw_1472 rfl rfl (Nat.le_of_ble_eq_true rfl) (Nat.le_of_ble_eq_true rfl) (t_X12_has (by omega) ew3) (am_le_rf _) ?_
        rintro _ _ ⟨rfl, rfl⟩
        refine op_if_eq (tgt := 217) dX12_readClause_208 (by decide) (fun c4 => ?_) (fun c4 => ?_)
        · replace h := am_ip c4 h
          refine op_iload (k := 3) dX12_readClause_217 rfl ?_
          refine op_iconst (v := 1) dX12_readClause_219 (by decide) ?_
          refine op_iload (k := 4) dX12_readClause_220 rfl ?_
          refine op_ishl dX12_readClause_222 ?_
          refine op_ior dX12_readClause_223 ?_
          refine op_istore (L' := [(4, .int (x4 ||| (1 <<< (x5 &&& 31)))), (0, .ref 53), (1, .int x1), (3, .ref (1010 + r3)), (5, .int x5)]) dX12_readClause_224 (by decide) rfl ?_
          refine op_aload_n (k := 1) dX12_readClause_226 rfl rfl ?_
          refine op_aload_n (k := 1) dX12_readClause_227 rfl rfl ?_
          refine op_iload_n (k := 2) dX12_readClause_228 rfl rfl ?_
          refine op_iload (k := 4) dX12_readClause_229 rfl ?_
          obtain ⟨w5, ew5, h⟩ := am_bd h
          refine op_callV (M' := M_X12_leastOf) [.int x1, .int x5] (S0 := [.ref 53]) dX12_readClause_231 tw_1474 ok_X12_leastOf tw_1476 tw_58 kd_53 cls_12 rfl rfl rfl (Nat.le_of_ble_eq_true rfl) (Nat.le_of_ble_eq_true rfl) (t_X12_leastOf (by omega) ew5) (am_le_rf _) ?_
          rintro _ _ ⟨rfl, rfl⟩
          refine op_aload_n (k := 1) dX12_readClause_234 rfl rfl ?_
          refine op_iload_n (k := 2) dX12_readClause_235 rfl rfl ?_
          refine op_iload (k := 4) dX12_readClause_236 rfl ?_
          obtain ⟨w6, ew6, h⟩ := am_bd h
          refine op_callV (M' := M_X12_mostOf) [.int x1, .int x5] (S0 := [.int w5, .ref 53]) dX12_readClause_238 tw_1478 ok_X12_mostOf tw_1480 tw_59 kd_53 cls_12 rfl rfl rfl (Nat.le_of_ble_eq_true rfl) (Nat.le_of_ble_eq_true rfl) (t_X12_mostOf (by omega) ew6) (am_le_rf _) ?_
          rintro _ _ ⟨rfl, rfl⟩
          obtain ⟨w7, ew7, h⟩ := am_bd h
          refine op_callV (M' := M_X12_number) [.int w5, .int w6] (S0 := []) dX12_readClause_241 tw_1482 ok_X12_number tw_1484 tw_60 kd_53 cls_12 rfl rfl rfl (Nat.le_of_ble_eq_true rfl) (Nat.le_of_ble_eq_true rfl) (t_X12_number (by omega) ew7) (am_le_rf _) ?_
          rintro _ _ ⟨rfl, rfl⟩
          refine op_istore (L' := [(6, .int w7.1), (4, .int (x4 ||| (1 <<< (x5 &&& 31)))), (0, .ref 53), (1, .int x1), (3, .ref (1010 + r3)), (5, .int x5)]) dX12_readClause_244 (by decide) rfl ?_
          refine op_aload_n (k := 2) dX12_readClause_246 rfl rfl ?_
          refine st_getI (v := w7.2 53 11) dX12_readClause_247 fl_X12_150 kd_53 (by decide) rfl rfl ?_
          refine op_iconst (v := (-1)) dX12_readClause_250 (by decide) ?_
          refine op_icmp_eq (tgt := 255) dX12_readClause_251 (by decide) (fun c8 => ?_) (fun c8 => ?_)
          · replace h := am_ip c8 h
            refine op_aload_n (k := 2) dX12_readClause_255 rfl rfl ?_
            refine op_iload_n (k := 3) dX12_readClause_256 rfl rfl ?_
            refine op_iload (k := 5) dX12_readClause_257 rfl ?_
            refine op_iload (k := 0) dX12_readClause_259 rfl ?_
            obtain ⟨w9, ew9, h⟩ := am_bd h
            refine op_callV (M' := M_X12_lay) [.int x1, .int x5, .int w7.1] (S0 := []) dX12_readClause_261 tw_1413 ok_X12_lay tw_1415 tw_57 kd_53 cls_12 rfl rfl rfl (Nat.le_of_ble_eq_true rfl) (Nat.le_of_ble_eq_true rfl) (t_X12_lay (by omega) ew9) (am_le_rf _) ?_
            rintro _ _ ⟨rfl, rfl⟩
            refine op_aload_n (k := 4) dX12_readClause_264 rfl rfl ?_
            refine op_aload_n (k := 2) dX12_readClause_265 rfl rfl ?_
            obtain ⟨w10, ew10, h⟩ := am_bd h
            refine op_callV (M' := M_X12_look) [] (S0 := [.ref (1010 + r3)]) dX12_readClause_266 tw_1405 ok_X12_look tw_1407 tw_55 kd_53 cls_12 rfl rfl rfl (Nat.le_of_ble_eq_true rfl) (Nat.le_of_ble_eq_true rfl) (t_X12_look (by omega) ew10) (am_le_rf _) ?_
            rintro _ _ ⟨rfl, rfl⟩
            obtain ⟨w11, ew11, h⟩ := am_bd h
            refine op_callS (M' := M_X12_placeOf) [.ref (1010 + r3), .int w10.1] (S0 := []) dX12_readClause_269 tw_1420 ok_X12_placeOf tw_1421 rfl rfl (Nat.le_of_ble_eq_true rfl) (Nat.le_of_ble_eq_true rfl) (t_X12_placeOf (by omega) ew11) (am_le_rf _) ?_
            rintro _ _ ⟨rfl, rfl⟩
            refine op_istore (L' := [(5, .int w11), (6, .int w7.1), (4, .int (x4 ||| (1 <<< (x5 &&& 31)))), (0, .ref 53), (1, .int x1), (3, .ref (1010 + r3))]) dX12_readClause_272 (by decide) rfl ?_
            refine op_goto (tgt := 187) dX12_readClause_274 (by decide) ?_
            refine AW.perm [3, 4, 5, 2, 0] rfl ?_
            exact ih _ _ _ _ _ _ _ h
          · replace h := am_ie c8 h
            cases h
            exact (op_vret dX12_readClause_254 rfl ⟨rfl, rfl⟩)
        · replace h := am_ie c4 h
          refine op_aload_n (k := 0) dX12_readClause_211 rfl rfl ?_
          obtain ⟨w12, ew12, h⟩ := am_bd h
          refine op_callV (M' := M_X12_fails) [] (S0 := []) dX12_readClause_212 tw_1409 ok_X12_fails tw_1411 tw_56 kd_53 cls_12 rfl rfl rfl (Nat.le_of_ble_eq_true rfl) (Nat.le_of_ble_eq_true rfl) (t_X12_fails (by omega) ew12) (am_le_rf _) ?_
          rintro _ _ ⟨rfl, rfl⟩
          refine op_pop dX12_readClause_215 rfl ?_
          cases h
          exact (op_vret dX12_readClause_216 rfl ⟨rfl, rfl⟩)
set_option maxRecDepth 100000 in
set_option maxHeartbeats 4000000 in
theorem t_X12_readClause_173 {l : Launch} {ρ : am_R} {n d gc gs : Nat} {I : Nat → Nat → Int32} {J : Nat → Nat → Int64} {T : Nat} {x1 : Int32} {q0 : Nat} {q : (Nat → Nat → Int32)} (hd : 0 * n + 5 ≤ (d + 1))
    (h : f_X12_readClause_173 n  I J T x1 q0 = some q) : AW l ρ (d + 1) M_X12_readClause 173 [(0, .ref 53), (1, .int x1)] [.ref (1010 + q0)] (am_KD, gc, gs) (I, J, am_RT T) (am_KD, gc, gs) (fun v H' => v = [] ∧ H' = (q, J, am_RT T)) := by
  unfold f_X12_readClause_173 at h
  refine op_astore_n (L' := [(3, .ref (1010 + q0)), (0, .ref 53), (1, .int x1)]) dX12_readClause_173 rfl (by decide) rfl ?_
  refine op_iconst (v := 0) dX12_readClause_174 (by decide) ?_
  refine op_istore (L' := [(4, .int 0), (3, .ref (1010 + q0)), (0, .ref 53), (1, .int x1)]) dX12_readClause_175 (by decide) rfl ?_
  refine op_aload_n (k := 1) dX12_readClause_177 rfl rfl ?_
  refine op_aload_n (k := 2) dX12_readClause_178 rfl rfl ?_
  obtain ⟨w1, ew1, h⟩ := am_bd h
  refine op_callV (M' := M_X12_look) [] (S0 := [.ref (1010 + q0)]) dX12_readClause_179 tw_1405 ok_X12_look tw_1407 tw_55 kd_53 cls_12 rfl rfl rfl (Nat.le_of_ble_eq_true rfl) (Nat.le_of_ble_eq_true rfl) (t_X12_look (by omega) ew1) (am_le_rf _) ?_
  rintro _ _ ⟨rfl, rfl⟩
  obtain ⟨w2, ew2, h⟩ := am_bd h
  refine op_callS (M' := M_X12_placeOf) [.ref (1010 + q0), .int w1.1] (S0 := []) dX12_readClause_182 tw_1420 ok_X12_placeOf tw_1421 rfl rfl (Nat.le_of_ble_eq_true rfl) (Nat.le_of_ble_eq_true rfl) (t_X12_placeOf (by omega) ew2) (am_le_rf _) ?_
  rintro _ _ ⟨rfl, rfl⟩
  refine op_istore (L' := [(5, .int w2), (4, .int 0), (3, .ref (1010 + q0)), (0, .ref 53), (1, .int x1)]) dX12_readClause_185 (by decide) rfl ?_
  refine AW.perm [3, 4, 2, 1, 0] rfl ?_
  exact t_X12_readClause_187 hd  n _ _ _ _ _ _ _ h
set_option maxRecDepth 100000 in
set_option maxHeartbeats 4000000 in
theorem t_X12_readClause_148 {l : Launch} {ρ : am_R} {n d gc gs : Nat} {I : Nat → Nat → Int32} {J : Nat → Nat → Int64} {T : Nat} {x1 : Int32} {q : (Nat → Nat → Int32)} (hd : 0 * n + 5 ≤ (d + 1))
    (h : f_X12_readClause_148 n  I J T x1 = some q) : AW l ρ (d + 1) M_X12_readClause 148 [(0, .ref 53), (1, .int x1)] [] (am_KD, gc, gs) (I, J, am_RT T) (am_KD, gc, gs) (fun v H' => v = [] ∧ H' = (q, J, am_RT T)) := by
  unfold f_X12_readClause_148 at h
  refine op_iload_n (k := 1) dX12_readClause_148 rfl rfl ?_
  refine op_bipush (v := 119) dX12_readClause_149 (by decide) ?_
  refine op_icmp_ne (tgt := 159) dX12_readClause_151 (by decide) (fun c1 => ?_) (fun c1 => ?_)
  · replace h := am_ie c1 h
    refine op_iload_n (k := 1) dX12_readClause_159 rfl rfl ?_
    refine op_bipush (v := 114) dX12_readClause_160 (by decide) ?_
    refine op_icmp_ne (tgt := 170) dX12_readClause_162 (by decide) (fun c2 => ?_) (fun c2 => ?_)
    · replace h := am_ie c2 h
      refine op_ldcSW (i := 4) dX12_readClause_170 rfl rfl rfl ?_
      exact t_X12_readClause_173 hd  h
    · replace h := am_ip c2 h
      refine op_ldcS (i := 3) dX12_readClause_165 rfl rfl rfl ?_
      refine op_goto (tgt := 173) dX12_readClause_167 (by decide) ?_
      exact t_X12_readClause_173 hd  h
  · replace h := am_ip c1 h
    refine op_ldcS (i := 2) dX12_readClause_154 rfl rfl rfl ?_
    refine op_goto (tgt := 173) dX12_readClause_156 (by decide) ?_
    exact t_X12_readClause_173 hd  h
set_option maxRecDepth 100000 in
set_option maxHeartbeats 4000000 in
theorem t_X12_readClause_137 {l : Launch} {ρ : am_R} {n d gc gs : Nat} {I : Nat → Nat → Int32} {J : Nat → Nat → Int64} {T : Nat} {x1 : Int32} {q : (Nat → Nat → Int32)} (hd : 0 * n + 5 ≤ (d + 1))
    (h : f_X12_readClause_137 n  I J T x1 = some q) : AW l ρ (d + 1) M_X12_readClause 137 [(0, .ref 53), (1, .int x1)] [] (am_KD, gc, gs) (I, J, am_RT T) (am_KD, gc, gs) (fun v H' => v = [] ∧ H' = (q, J, am_RT T)) := by
  unfold f_X12_readClause_137 at h
  refine op_iload_n (k := 1) dX12_readClause_137 rfl rfl ?_
  refine op_bipush (v := 99) dX12_readClause_138 (by decide) ?_
  refine op_icmp_ne (tgt := 148) dX12_readClause_140 (by decide) (fun c1 => ?_) (fun c1 => ?_)
  · replace h := am_ie c1 h
    exact t_X12_readClause_148 hd  h
  · replace h := am_ip c1 h
    refine op_aload_n (k := 0) dX12_readClause_143 rfl rfl ?_
    refine op_iconst (v := 1) dX12_readClause_144 (by decide) ?_
    refine st_putZ dX12_readClause_145 fl_X12_246 kd_53 (by decide) rfl (by decide) ?_
    exact t_X12_readClause_148 hd  h
set_option maxRecDepth 100000 in
set_option maxHeartbeats 4000000 in
theorem t_X12_readClause_106 {l : Launch} {ρ : am_R} {n d gc gs : Nat} {I : Nat → Nat → Int32} {J : Nat → Nat → Int64} {T : Nat} {x1 : Int32} {q : (Nat → Nat → Int32)} (hd : 0 * n + 5 ≤ (d + 1))
    (h : f_X12_readClause_106 n  I J T x1 = some q) : AW l ρ (d + 1) M_X12_readClause 106 [(0, .ref 53), (1, .int x1)] [] (am_KD, gc, gs) (I, J, am_RT T) (am_KD, gc, gs) (fun v H' => v = [] ∧ H' = (q, J, am_RT T)) := by
  unfold f_X12_readClause_106 at h
  refine op_iload_n (k := 1) dX12_readClause_106 rfl rfl ?_
  refine op_bipush (v := 114) dX12_readClause_107 (by decide) ?_
  refine op_icmp_ne (tgt := 137) dX12_readClause_109 (by decide) (fun c1 => ?_) (fun c1 => ?_)
  · replace h := am_ie c1 h
    exact t_X12_readClause_137 hd  h
  · replace h := am_ip c1 h
    refine op_aload_n (k := 0) dX12_readClause_112 rfl rfl ?_
    refine op_bipush (v := 114) dX12_readClause_113 (by decide) ?_
    refine op_iconst (v := 0) dX12_readClause_115 (by decide) ?_
    refine op_iconst (v := 1) dX12_readClause_116 (by decide) ?_
    obtain ⟨w2, ew2, h⟩ := am_bd h
    refine op_callV (M' := M_X12_lay) [.int 114, .int 0, .int 1] (S0 := []) dX12_readClause_117 tw_1413 ok_X12_lay tw_1415 tw_57 kd_53 cls_12 rfl rfl rfl (Nat.le_of_ble_eq_true rfl) (Nat.le_of_ble_eq_true rfl) (t_X12_lay (by omega) ew2) (am_le_rf _) ?_
    rintro _ _ ⟨rfl, rfl⟩
    refine op_aload_n (k := 0) dX12_readClause_120 rfl rfl ?_
    refine op_bipush (v := 114) dX12_readClause_121 (by decide) ?_
    refine op_iconst (v := 1) dX12_readClause_123 (by decide) ?_
    refine op_bipush (v := 99) dX12_readClause_124 (by decide) ?_
    obtain ⟨w3, ew3, h⟩ := am_bd h
    refine op_callV (M' := M_X12_lay) [.int 114, .int 1, .int 99] (S0 := []) dX12_readClause_126 tw_1413 ok_X12_lay tw_1415 tw_57 kd_53 cls_12 rfl rfl rfl (Nat.le_of_ble_eq_true rfl) (Nat.le_of_ble_eq_true rfl) (t_X12_lay (by omega) ew3) (am_le_rf _) ?_
    rintro _ _ ⟨rfl, rfl⟩
    refine op_aload_n (k := 0) dX12_readClause_129 rfl rfl ?_
    refine op_bipush (v := 114) dX12_readClause_130 (by decide) ?_
    refine op_iconst (v := 2) dX12_readClause_132 (by decide) ?_
    refine op_iconst (v := 1) dX12_readClause_133 (by decide) ?_
    obtain ⟨w4, ew4, h⟩ := am_bd h
    refine op_callV (M' := M_X12_lay) [.int 114, .int 2, .int 1] (S0 := []) dX12_readClause_134 tw_1413 ok_X12_lay tw_1415 tw_57 kd_53 cls_12 rfl rfl rfl (Nat.le_of_ble_eq_true rfl) (Nat.le_of_ble_eq_true rfl) (t_X12_lay (by omega) ew4) (am_le_rf _) ?_
    rintro _ _ ⟨rfl, rfl⟩
    exact t_X12_readClause_137 hd  h
set_option maxRecDepth 100000 in
set_option maxHeartbeats 4000000 in
theorem t_X12_readClause_53 {l : Launch} {ρ : am_R} {n d gc gs : Nat} {I : Nat → Nat → Int32} {J : Nat → Nat → Int64} {T : Nat} {x1 : Int32} {s0 : Int32} {q : (Nat → Nat → Int32)} (hd : 0 * n + 5 ≤ (d + 1))
    (h : f_X12_readClause_53 n  I J T x1 s0 = some q) : AW l ρ (d + 1) M_X12_readClause 53 [(0, .ref 53), (1, .int x1)] [.int s0] (am_KD, gc, gs) (I, J, am_RT T) (am_KD, gc, gs) (fun v H' => v = [] ∧ H' = (q, J, am_RT T)) := by
  unfold f_X12_readClause_53 at h
  refine op_istore_n (L' := [(2, .int s0), (0, .ref 53), (1, .int x1)]) dX12_readClause_53 rfl (by decide) rfl ?_
  refine op_iload_n (k := 0) dX12_readClause_54 rfl rfl ?_
  refine op_if_ne (tgt := 64) dX12_readClause_55 (by decide) (fun c1 => ?_) (fun c1 => ?_)
  · replace h := am_ie c1 h
    refine op_aload_n (k := 1) dX12_readClause_64 rfl rfl ?_
    refine op_dup dX12_readClause_65 rfl ?_
    refine st_getI (v := I 53 10) dX12_readClause_66 fl_X12_141 kd_53 (by decide) rfl rfl ?_
    refine op_iconst (v := 1) dX12_readClause_69 (by decide) ?_
    refine op_iadd dX12_readClause_70 ?_
    refine st_putI dX12_readClause_71 fl_X12_141 kd_53 (by decide) rfl ?_
    refine op_iload_n (k := 2) dX12_readClause_74 rfl rfl ?_
    refine op_bipush (v := 119) dX12_readClause_75 (by decide) ?_
    refine op_icmp_ne (tgt := 106) dX12_readClause_77 (by decide) (fun c2 => ?_) (fun c2 => ?_)
    · replace h := am_ie c2 h
      refine AW.perm [1, 2] rfl ?_
      exact t_X12_readClause_106 hd  h
    · replace h := am_ip c2 h
      refine op_aload_n (k := 1) dX12_readClause_80 rfl rfl ?_
      refine op_dup dX12_readClause_81 rfl ?_
      refine st_getI (v := I 53 28) dX12_readClause_82 fl_X12_240 kd_53 (by decide) rfl rfl ?_
      refine op_iconst (v := 1) dX12_readClause_85 (by decide) ?_
      refine op_iadd dX12_readClause_86 ?_
      refine st_putI dX12_readClause_87 fl_X12_240 kd_53 (by decide) rfl ?_
      refine op_aload_n (k := 1) dX12_readClause_90 rfl rfl ?_
      refine op_bipush (v := 119) dX12_readClause_91 (by decide) ?_
      refine op_iconst (v := 0) dX12_readClause_93 (by decide) ?_
      refine op_iconst (v := 0) dX12_readClause_94 (by decide) ?_
      obtain ⟨w3, ew3, h⟩ := am_bd h
      refine op_callV (M' := M_X12_lay) [.int 119, .int 0, .int 0] (S0 := []) dX12_readClause_95 tw_1413 ok_X12_lay tw_1415 tw_57 kd_53 cls_12 rfl rfl rfl (Nat.le_of_ble_eq_true rfl) (Nat.le_of_ble_eq_true rfl) (t_X12_lay (by omega) ew3) (am_le_rf _) ?_
      rintro _ _ ⟨rfl, rfl⟩
      refine op_aload_n (k := 1) dX12_readClause_98 rfl rfl ?_
      refine op_bipush (v := 119) dX12_readClause_99 (by decide) ?_
      refine op_iconst (v := 1) dX12_readClause_101 (by decide) ?_
      refine op_iconst (v := 1) dX12_readClause_102 (by decide) ?_
      obtain ⟨w4, ew4, h⟩ := am_bd h
      refine op_callV (M' := M_X12_lay) [.int 119, .int 1, .int 1] (S0 := []) dX12_readClause_103 tw_1413 ok_X12_lay tw_1415 tw_57 kd_53 cls_12 rfl rfl rfl (Nat.le_of_ble_eq_true rfl) (Nat.le_of_ble_eq_true rfl) (t_X12_lay (by omega) ew4) (am_le_rf _) ?_
      rintro _ _ ⟨rfl, rfl⟩
      refine AW.perm [1, 2] rfl ?_
      exact t_X12_readClause_106 hd  h
  · replace h := am_ip c1 h
    refine op_aload_n (k := 1) dX12_readClause_58 rfl rfl ?_
    obtain ⟨w5, ew5, h⟩ := am_bd h
    refine op_callV (M' := M_X12_fails) [] (S0 := []) dX12_readClause_59 tw_1409 ok_X12_fails tw_1411 tw_56 kd_53 cls_12 rfl rfl rfl (Nat.le_of_ble_eq_true rfl) (Nat.le_of_ble_eq_true rfl) (t_X12_fails (by omega) ew5) (am_le_rf _) ?_
    rintro _ _ ⟨rfl, rfl⟩
    refine op_pop dX12_readClause_62 rfl ?_
    cases h
    exact (op_vret dX12_readClause_63 rfl ⟨rfl, rfl⟩)
set_option maxRecDepth 100000 in
set_option maxHeartbeats 4000000 in
theorem t_X12_readClause_52 {l : Launch} {ρ : am_R} {n d gc gs : Nat} {I : Nat → Nat → Int32} {J : Nat → Nat → Int64} {T : Nat} {x1 : Int32} {q : (Nat → Nat → Int32)} (hd : 0 * n + 5 ≤ (d + 1))
    (h : f_X12_readClause_52 n  I J T x1 = some q) : AW l ρ (d + 1) M_X12_readClause 52 [(0, .ref 53), (1, .int x1)] [] (am_KD, gc, gs) (I, J, am_RT T) (am_KD, gc, gs) (fun v H' => v = [] ∧ H' = (q, J, am_RT T)) := by
  unfold f_X12_readClause_52 at h
  refine op_iconst (v := 0) dX12_readClause_52 (by decide) ?_
  exact t_X12_readClause_53 hd  h
set_option maxRecDepth 100000 in
set_option maxHeartbeats 4000000 in
theorem t_X12_readClause_48 {l : Launch} {ρ : am_R} {n d gc gs : Nat} {I : Nat → Nat → Int32} {J : Nat → Nat → Int64} {T : Nat} {x1 : Int32} {q : (Nat → Nat → Int32)} (hd : 0 * n + 5 ≤ (d + 1))
    (h : f_X12_readClause_48 n  I J T x1 = some q) : AW l ρ (d + 1) M_X12_readClause 48 [(0, .ref 53), (1, .int x1)] [] (am_KD, gc, gs) (I, J, am_RT T) (am_KD, gc, gs) (fun v H' => v = [] ∧ H' = (q, J, am_RT T)) := by
  unfold f_X12_readClause_48 at h
  refine op_iconst (v := 1) dX12_readClause_48 (by decide) ?_
  refine op_goto (tgt := 53) dX12_readClause_49 (by decide) ?_
  exact t_X12_readClause_53 hd  h
set_option maxRecDepth 100000 in
set_option maxHeartbeats 4000000 in
theorem t_X12_readClause_35 {l : Launch} {ρ : am_R} {n d gc gs : Nat} {I : Nat → Nat → Int32} {J : Nat → Nat → Int64} {T : Nat} {x1 : Int32} {q : (Nat → Nat → Int32)} (hd : 0 * n + 5 ≤ (d + 1))
    (h : f_X12_readClause_35 n  I J T x1 = some q) : AW l ρ (d + 1) M_X12_readClause 35 [(0, .ref 53), (1, .int x1)] [] (am_KD, gc, gs) (I, J, am_RT T) (am_KD, gc, gs) (fun v H' => v = [] ∧ H' = (q, J, am_RT T)) := by
  unfold f_X12_readClause_35 at h
  refine op_iload_n (k := 1) dX12_readClause_35 rfl rfl ?_
  refine op_bipush (v := 99) dX12_readClause_36 (by decide) ?_
  refine op_icmp_ne (tgt := 52) dX12_readClause_38 (by decide) (fun c1 => ?_) (fun c1 => ?_)
  · replace h := am_ie c1 h
    exact t_X12_readClause_52 hd  h
  · replace h := am_ip c1 h
    refine op_aload_n (k := 0) dX12_readClause_41 rfl rfl ?_
    refine st_getI (v := I 53 30) dX12_readClause_42 fl_X12_246 kd_53 (by decide) rfl rfl ?_
    refine op_if_ne (tgt := 52) dX12_readClause_45 (by decide) (fun c2 => ?_) (fun c2 => ?_)
    · replace h := am_ie c2 h
      exact t_X12_readClause_52 hd  h
    · replace h := am_ip c2 h
      exact t_X12_readClause_48 hd  h
set_option maxRecDepth 100000 in
set_option maxHeartbeats 4000000 in
theorem t_X12_readClause_20 {l : Launch} {ρ : am_R} {n d gc gs : Nat} {I : Nat → Nat → Int32} {J : Nat → Nat → Int64} {T : Nat} {x1 : Int32} {q : (Nat → Nat → Int32)} (hd : 0 * n + 5 ≤ (d + 1))
    (h : f_X12_readClause_20 n  I J T x1 = some q) : AW l ρ (d + 1) M_X12_readClause 20 [(0, .ref 53), (1, .int x1)] [] (am_KD, gc, gs) (I, J, am_RT T) (am_KD, gc, gs) (fun v H' => v = [] ∧ H' = (q, J, am_RT T)) := by
  unfold f_X12_readClause_20 at h
  refine op_iload_n (k := 1) dX12_readClause_20 rfl rfl ?_
  refine op_bipush (v := 114) dX12_readClause_21 (by decide) ?_
  refine op_icmp_ne (tgt := 35) dX12_readClause_23 (by decide) (fun c1 => ?_) (fun c1 => ?_)
  · replace h := am_ie c1 h
    exact t_X12_readClause_35 hd  h
  · replace h := am_ip c1 h
    refine op_aload_n (k := 0) dX12_readClause_26 rfl rfl ?_
    refine st_getI (v := I 53 29) dX12_readClause_27 fl_X12_243 kd_53 (by decide) rfl rfl ?_
    refine op_bipush (v := 6) dX12_readClause_30 (by decide) ?_
    refine op_icmp_lt (tgt := 48) dX12_readClause_32 (by decide) (fun c2 => ?_) (fun c2 => ?_)
    · replace h := am_ip c2 h
      exact t_X12_readClause_48 hd  h
    · replace h := am_ie c2 h
      exact t_X12_readClause_35 hd  h
set_option maxRecDepth 100000 in
set_option maxHeartbeats 4000000 in
theorem t_X12_readClause_0 {l : Launch} {ρ : am_R} {n d gc gs : Nat} {I : Nat → Nat → Int32} {J : Nat → Nat → Int64} {T : Nat} {q : (Nat → Nat → Int32)} (hd : 0 * n + 5 ≤ (d + 1))
    (h : f_X12_readClause n  I J T  = some q) : AW l ρ (d + 1) M_X12_readClause 0 [(0, .ref 53)] [] (am_KD, gc, gs) (I, J, am_RT T) (am_KD, gc, gs) (fun v H' => v = [] ∧ H' = (q, J, am_RT T)) := by
  unfold f_X12_readClause at h
  refine op_aload_n (k := 0) dX12_readClause_0 rfl rfl ?_
  obtain ⟨w1, ew1, h⟩ := am_bd h
  refine op_callV (M' := M_X12_look) [] (S0 := []) dX12_readClause_1 tw_1405 ok_X12_look tw_1407 tw_55 kd_53 cls_12 rfl rfl rfl (Nat.le_of_ble_eq_true rfl) (Nat.le_of_ble_eq_true rfl) (t_X12_look (by omega) ew1) (am_le_rf _) ?_
  rintro _ _ ⟨rfl, rfl⟩
  refine op_istore_n (L' := [(1, .int w1.1), (0, .ref 53)]) dX12_readClause_4 rfl (by decide) rfl ?_
  refine op_iload_n (k := 0) dX12_readClause_5 rfl rfl ?_
  refine op_bipush (v := 119) dX12_readClause_6 (by decide) ?_
  refine op_icmp_ne (tgt := 20) dX12_readClause_8 (by decide) (fun c2 => ?_) (fun c2 => ?_)
  · replace h := am_ie c2 h
    refine AW.perm [1, 0] rfl ?_
    exact t_X12_readClause_20 hd  h
  · replace h := am_ip c2 h
    refine op_aload_n (k := 1) dX12_readClause_11 rfl rfl ?_
    refine st_getI (v := w1.2 53 28) dX12_readClause_12 fl_X12_240 kd_53 (by decide) rfl rfl ?_
    refine op_bipush (v := 9) dX12_readClause_15 (by decide) ?_
    refine op_icmp_lt (tgt := 48) dX12_readClause_17 (by decide) (fun c3 => ?_) (fun c3 => ?_)
    · replace h := am_ip c3 h
      refine AW.perm [1, 0] rfl ?_
      exact t_X12_readClause_48 hd  h
    · replace h := am_ie c3 h
      refine AW.perm [1, 0] rfl ?_
      exact t_X12_readClause_20 hd  h
theorem t_X12_readClause {l : Launch} {ρ : am_R} {n d gc gs : Nat} {I : Nat → Nat → Int32} {J : Nat → Nat → Int64} {T : Nat} {q : (Nat → Nat → Int32)} (hd : 0 * n + 5 ≤ d) (h : f_X12_readClause n I J T  = some q) : AW l ρ d M_X12_readClause 0 [(0, .ref 53)] [] (am_KD, gc, gs) (I, J, am_RT T) (am_KD, gc, gs) (fun v H' => v = [] ∧ H' = (q, J, am_RT T)) := by
  obtain ⟨d, rfl⟩ : ∃ e, d = e + 1 := ⟨d - 1, by omega⟩
  exact t_X12_readClause_0 hd h
def f_X12_isWhole_2 (n : Nat) : Nat → (Nat → Nat → Int32) → (Nat → Nat → Int64) → Nat → Int32 → Option (Int32)
  | 0, _, _, _, _ => none
  | m + 1, I, J, T, x1 =>
    if (I 53 29) ≤ x1 then
     if (I 53 28) ≤ 0 then
      some (0)
     else
      if (I 53 29) ≤ 0 then
       some (0)
      else
       some (1)
    else
     if ok_ix (3 * x1) 18 then
      if (I 64 ((3 * x1).toNatClampNeg)) ≤ (I 53 28) then
       f_X12_isWhole_2 n  m I J T (x1 + 1)
      else
       some (0)
     else none
def f_X12_isWhole (n : Nat) (I : Nat → Nat → Int32) (J : Nat → Nat → Int64) (T : Nat) : Option (Int32) :=
  f_X12_isWhole_2 n  n I J T 0
set_option maxRecDepth 100000 in
set_option maxHeartbeats 4000000 in
theorem t_X12_isWhole_2 {l : Launch} {ρ : am_R} {n d gc gs : Nat} {q : Int32} (hd : 0 * n + 0 ≤ d)
    : ∀ (m : Nat) (I : Nat → Nat → Int32) (J : Nat → Nat → Int64) (T : Nat) (x1 : Int32), f_X12_isWhole_2 n  m I J T x1 = some q → AW l ρ d M_X12_isWhole 2 [(0, .ref 53), (1, .int x1)] [] (am_KD, gc, gs) (I, J, am_RT T) (am_KD, gc, gs) (fun v H' => v = [.int q] ∧ H' = (I, J, am_RT T)) := by
  intro m
  induction m with
  | zero =>
    intro I J T x1 h
    rw [f_X12_isWhole_2] at h
    cases h
  | succ m ih =>
    intro I J T x1 h
    rw [f_X12_isWhole_2] at h
    refine op_iload_n (k := 1) dX12_isWhole_2 rfl rfl ?_
    refine op_aload_n (k := 0) dX12_isWhole_3 rfl rfl ?_
    refine st_getI (v := I 53 29) dX12_isWhole_4 fl_X12_243 kd_53 (by decide) rfl rfl ?_
    refine op_icmp_ge (tgt := 33) dX12_isWhole_7 (by decide) (fun c1 => ?_) (fun c1 => ?_)
    · replace h := am_ip c1 h
      refine op_aload_n (k := 0) dX12_isWhole_33 rfl rfl ?_
      refine st_getI (v := I 53 28) dX12_isWhole_34 fl_X12_240 kd_53 (by decide) rfl rfl ?_
      refine op_if_le (tgt := 51) dX12_isWhole_37 (by decide) (fun c2 => ?_) (fun c2 => ?_)
      · replace h := am_ip c2 h
        refine op_iconst (v := 0) dX12_isWhole_51 (by decide) ?_
        cases h
        exact (op_iret dX12_isWhole_52 rfl (by decide) ⟨rfl, rfl⟩)
      · replace h := am_ie c2 h
        refine op_aload_n (k := 0) dX12_isWhole_40 rfl rfl ?_
        refine st_getI (v := I 53 29) dX12_isWhole_41 fl_X12_243 kd_53 (by decide) rfl rfl ?_
        refine op_if_le (tgt := 51) dX12_isWhole_44 (by decide) (fun c3 => ?_) (fun c3 => ?_)
        · replace h := am_ip c3 h
          refine op_iconst (v := 0) dX12_isWhole_51 (by decide) ?_
          cases h
          exact (op_iret dX12_isWhole_52 rfl (by decide) ⟨rfl, rfl⟩)
        · replace h := am_ie c3 h
          refine op_iconst (v := 1) dX12_isWhole_47 (by decide) ?_
          refine op_goto (tgt := 52) dX12_isWhole_48 (by decide) ?_
          cases h
          exact (op_iret dX12_isWhole_52 rfl (by decide) ⟨rfl, rfl⟩)
    · replace h := am_ie c1 h
      refine op_aload_n (k := 0) dX12_isWhole_10 rfl rfl ?_
      refine st_getR (z := 64) dX12_isWhole_11 fl_X12_55 kd_53 (by decide) rfl rr_53_24 ?_
      refine op_iconst (v := 3) dX12_isWhole_14 (by decide) ?_
      refine op_iload_n (k := 1) dX12_isWhole_15 rfl rfl ?_
      refine op_imul dX12_isWhole_16 ?_
      obtain ⟨g4, h⟩ := am_gd h
      refine st_iald (k := (3 * x1).toNatClampNeg) (v := I 64 ((3 * x1).toNatClampNeg)) dX12_isWhole_17 kd_64 g4 rfl rfl ?_
      refine op_aload_n (k := 0) dX12_isWhole_18 rfl rfl ?_
      refine st_getI (v := I 53 28) dX12_isWhole_19 fl_X12_240 kd_53 (by decide) rfl rfl ?_
      refine op_icmp_le (tgt := 27) dX12_isWhole_22 (by decide) (fun c5 => ?_) (fun c5 => ?_)
      · replace h := am_ip c5 h
        refine op_iinc (k := 1) (v := x1 + 1) (L' := [(1, .int (x1 + 1)), (0, .ref 53)]) dX12_isWhole_27 rfl rfl (by decide) rfl ?_
        refine op_goto (tgt := 2) dX12_isWhole_30 (by decide) ?_
        refine AW.perm [1, 0] rfl ?_
        exact ih _ _ _ _ h
      · replace h := am_ie c5 h
        refine op_iconst (v := 0) dX12_isWhole_25 (by decide) ?_
        cases h
        exact (op_iret dX12_isWhole_26 rfl (by decide) ⟨rfl, rfl⟩)
set_option maxRecDepth 100000 in
set_option maxHeartbeats 4000000 in
theorem t_X12_isWhole_0 {l : Launch} {ρ : am_R} {n d gc gs : Nat} {I : Nat → Nat → Int32} {J : Nat → Nat → Int64} {T : Nat} {q : Int32} (hd : 0 * n + 0 ≤ d)
    (h : f_X12_isWhole n  I J T  = some q) : AW l ρ d M_X12_isWhole 0 [(0, .ref 53)] [] (am_KD, gc, gs) (I, J, am_RT T) (am_KD, gc, gs) (fun v H' => v = [.int q] ∧ H' = (I, J, am_RT T)) := by
  unfold f_X12_isWhole at h
  refine op_iconst (v := 0) dX12_isWhole_0 (by decide) ?_
  refine op_istore_n (L' := [(1, .int 0), (0, .ref 53)]) dX12_isWhole_1 rfl (by decide) rfl ?_
  refine AW.perm [1, 0] rfl ?_
  exact t_X12_isWhole_2 hd  n _ _ _ _ h
theorem t_X12_isWhole {l : Launch} {ρ : am_R} {n d gc gs : Nat} {I : Nat → Nat → Int32} {J : Nat → Nat → Int64} {T : Nat} {q : Int32} (hd : 0 * n + 0 ≤ d) (h : f_X12_isWhole n I J T  = some q) : AW l ρ d M_X12_isWhole 0 [(0, .ref 53)] [] (am_KD, gc, gs) (I, J, am_RT T) (am_KD, gc, gs) (fun v H' => v = [.int q] ∧ H' = (I, J, am_RT T)) := t_X12_isWhole_0 hd h
