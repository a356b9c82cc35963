def f_X12_readRoad_131 (n : Nat) (I : Nat → Nat → Int32) (J : Nat → Nat → Int64) (T : Nat) : Option ((Nat → Nat → Int32) × Nat) :=
  (f_X12_fails n I J T).bind fun w1 =>
  some (w1.2, T)
def f_X12_readRoad_108 (n : Nat) (I : Nat → Nat → Int32) (J : Nat → Nat → Int64) (T : Nat) : Option ((Nat → Nat → Int32) × Nat) :=
  if (I 53 11) = ((-1)) then
   (f_X12_look n I J T).bind fun w2 =>
   if w2.1 = ((-1)) then
    (f_X12_isWhole n w2.2 J T).bind fun w4 =>
    if w4 = 0 then
     f_X12_readRoad_131 n  w2.2 J T
    else
     some (w2.2, T)
   else
    f_X12_readRoad_131 n  w2.2 J T
  else
   some (I, T)
def f_X12_readRoad_90 (n : Nat) (k52 : (Nat → Nat → Int32) → (Nat → Nat → Int64) → Nat → Int32 → Option ((Nat → Nat → Int32) × Nat)) (I : Nat → Nat → Int32) (J : Nat → Nat → Int64) (T : Nat) (s0 : Int32) : Option ((Nat → Nat → Int32) × Nat) :=
  if s0 = 0 then
   k52 I J T s0
  else
   k52 ((am_u I 53 10 ((I 53 10) + 1))) J T s0
def f_X12_readRoad_89 (n : Nat) (k52 : (Nat → Nat → Int32) → (Nat → Nat → Int64) → Nat → Int32 → Option ((Nat → Nat → Int32) × Nat)) (I : Nat → Nat → Int32) (J : Nat → Nat → Int64) (T : Nat) : Option ((Nat → Nat → Int32) × Nat) :=
  f_X12_readRoad_90 n k52 I J T 0
def f_X12_readRoad_52 (n : Nat) : Nat → (Nat → Nat → Int32) → (Nat → Nat → Int64) → Nat → Int32 → Option ((Nat → Nat → Int32) × Nat)
  | 0, _, _, _, _ => none
  | m + 1, I, J, T, x1 =>
    if x1 = 0 then
     f_X12_readRoad_108 n  I J T
    else
     if (I 53 11) = ((-1)) then
      (f_X12_readClause n I J T).bind fun w3 =>
      if (w3 53 11) = ((-1)) then
       (f_X12_look n w3 J T).bind fun w5 =>
       if w5.1 = 59 then
        f_X12_readRoad_90 n (f_X12_readRoad_52 n m) w5.2 J T 1
       else
        f_X12_readRoad_89 n (f_X12_readRoad_52 n m) w5.2 J T
      else
       f_X12_readRoad_89 n (f_X12_readRoad_52 n m) w3 J T
     else
      f_X12_readRoad_108 n  I J T
def f_X12_readRoad (n : Nat) (I : Nat → Nat → Int32) (J : Nat → Nat → Int64) (T : Nat) : Option ((Nat → Nat → Int32) × Nat) :=
  (f_X12_opens_v2 n I J T 0 (I 53 6)).bind fun w1 =>
  f_X12_readRoad_52 n  n ((am_u (am_u (am_u (am_u (am_u (am_u w1.1 53 28 0) 53 29 0) 53 30 0) 65 0 4) 65 1 1) 65 2 99)) J w1.2 1
set_option maxRecDepth 100000 in
set_option maxHeartbeats 4000000 in
theorem t_X12_readRoad_131 {l : Launch} {ρ : am_R} {n d gc gs : Nat} {I : Nat → Nat → Int32} {J : Nat → Nat → Int64} {T : Nat} {q : (Nat → Nat → Int32) × Nat} (hd : 0 * n + 6 ≤ (d + 1))
    (h : f_X12_readRoad_131 n  I J T  = some q) : AW l ρ (d + 1) M_X12_readRoad 131 [(0, .ref 53)] [] (am_KD, gc, gs) (I, J, am_RT T) (am_KD, gc, gs) (fun v H' => v = [] ∧ H' = (q.1, J, am_RT (q.2))) := by
  unfold f_X12_readRoad_131 at h
  refine op_aload_n (k := 0) dX12_readRoad_131 rfl rfl ?_
  obtain ⟨w1, ew1, h⟩ := am_bd h
  refine op_callV (M' := M_X12_fails) [] (S0 := []) dX12_readRoad_132 tw_1409 ok_X12_fails tw_1411 tw_56 kd_53 cls_12 rfl rfl rfl (Nat.le_of_ble_eq_true rfl) (Nat.le_of_ble_eq_true rfl) (t_X12_fails (by omega) ew1) (am_le_rf _) ?_
  rintro _ _ ⟨rfl, rfl⟩
  refine op_pop dX12_readRoad_135 rfl ?_
  cases h
  exact (op_vret dX12_readRoad_136 rfl ⟨rfl, rfl⟩)
set_option maxRecDepth 100000 in
set_option maxHeartbeats 4000000 in
theorem t_X12_readRoad_108 {l : Launch} {ρ : am_R} {n d gc gs : Nat} {I : Nat → Nat → Int32} {J : Nat → Nat → Int64} {T : Nat} {q : (Nat → Nat → Int32) × Nat} (hd : 0 * n + 6 ≤ (d + 1))
    (h : f_X12_readRoad_108 n  I J T  = some q) : AW l ρ (d + 1) M_X12_readRoad 108 [(0, .ref 53)] [] (am_KD, gc, gs) (I, J, am_RT T) (am_KD, gc, gs) (fun v H' => v = [] ∧ H' = (q.1, J, am_RT (q.2))) := by
  unfold f_X12_readRoad_108 at h
  refine op_aload_n (k := 0) dX12_readRoad_108 rfl rfl ?_
  refine st_getI (v := I 53 11) dX12_readRoad_109 fl_X12_150 kd_53 (by decide) rfl rfl ?_
  refine op_iconst (v := (-1)) dX12_readRoad_112 (by decide) ?_
  refine op_icmp_ne (tgt := 136) dX12_readRoad_113 (by decide) (fun c1 => ?_) (fun c1 => ?_)
  · replace h := am_ie c1 h
    cases h
    exact (op_vret dX12_readRoad_136 rfl ⟨rfl, rfl⟩)
  · replace h := am_ip c1 h
    refine op_aload_n (k := 0) dX12_readRoad_116 rfl rfl ?_
    obtain ⟨w2, ew2, h⟩ := am_bd h
    refine op_callV (M' := M_X12_look) [] (S0 := []) dX12_readRoad_117 tw_1405 ok_X12_look tw_1407 tw_55 kd_53 cls_12 rfl rfl rfl (Nat.le_of_ble_eq_true rfl) (Nat.le_of_ble_eq_true rfl) (t_X12_look (by omega) ew2) (am_le_rf _) ?_
    rintro _ _ ⟨rfl, rfl⟩
    refine op_iconst (v := (-1)) dX12_readRoad_120 (by decide) ?_
    refine op_icmp_ne (tgt := 131) dX12_readRoad_121 (by decide) (fun c3 => ?_) (fun c3 => ?_)
    · replace h := am_ie c3 h
      exact t_X12_readRoad_131 hd  h
    · replace h := am_ip c3 h
      refine op_aload_n (k := 0) dX12_readRoad_124 rfl rfl ?_
      obtain ⟨w4, ew4, h⟩ := am_bd h
      refine op_callV (M' := M_X12_isWhole) [] (S0 := []) dX12_readRoad_125 tw_1494 ok_X12_isWhole tw_1496 tw_63 kd_53 cls_12 rfl rfl rfl (Nat.le_of_ble_eq_true rfl) (Nat.le_of_ble_eq_true rfl) (t_X12_isWhole (by omega) ew4) (am_le_rf _) ?_
      rintro _ _ ⟨rfl, rfl⟩
      refine op_if_ne (tgt := 136) dX12_readRoad_128 (by decide) (fun c5 => ?_) (fun c5 => ?_)
      · replace h := am_ie c5 h
        cases h
        exact (op_vret dX12_readRoad_136 rfl ⟨rfl, rfl⟩)
      · replace h := am_ip c5 h
        exact t_X12_readRoad_131 hd  h
set_option maxRecDepth 100000 in
set_option maxHeartbeats 4000000 in
theorem t_X12_readRoad_90 {l : Launch} {ρ : am_R} {n d gc gs : Nat} {k52 : (Nat → Nat → Int32) → (Nat → Nat → Int64) → Nat → Int32 → Option ((Nat → Nat → Int32) × Nat)} {I : Nat → Nat → Int32} {J : Nat → Nat → Int64} {T : Nat} {s0 : Int32} {q : (Nat → Nat → Int32) × Nat} (hd : 0 * n + 6 ≤ (d + 1))
    (hk52 : ∀ (I : Nat → Nat → Int32) (J : Nat → Nat → Int64) (T : Nat) (x1 : Int32), k52 I J T x1 = some q → AW l ρ (d + 1) M_X12_readRoad 52 [(0, .ref 53), (1, .int x1)] [] (am_KD, gc, gs) (I, J, am_RT T) (am_KD, gc, gs) (fun v H' => v = [] ∧ H' = (q.1, J, am_RT (q.2))))
    (h : f_X12_readRoad_90 n k52 I J T s0 = some q) : AW l ρ (d + 1) M_X12_readRoad 90 [(0, .ref 53)] [.int s0] (am_KD, gc, gs) (I, J, am_RT T) (am_KD, gc, gs) (fun v H' => v = [] ∧ H' = (q.1, J, am_RT (q.2))) := by
  unfold f_X12_readRoad_90 at h
  refine op_istore_n (L' := [(1, .int s0), (0, .ref 53)]) dX12_readRoad_90 rfl (by decide) rfl ?_
  refine op_iload_n (k := 0) dX12_readRoad_91 rfl rfl ?_
  refine op_if_eq (tgt := 52) dX12_readRoad_92 (by decide) (fun c1 => ?_) (fun c1 => ?_)
  · replace h := am_ip c1 h
    refine AW.perm [1, 0] rfl ?_
    exact hk52 _ _ _ _ h
  · replace h := am_ie c1 h
    refine op_aload_n (k := 1) dX12_readRoad_95 rfl rfl ?_
    refine op_dup dX12_readRoad_96 rfl ?_
    refine st_getI (v := I 53 10) dX12_readRoad_97 fl_X12_141 kd_53 (by decide) rfl rfl ?_
    refine op_iconst (v := 1) dX12_readRoad_100 (by decide) ?_
    refine op_iadd dX12_readRoad_101 ?_
    refine st_putI dX12_readRoad_102 fl_X12_141 kd_53 (by decide) rfl ?_
    refine op_goto (tgt := 52) dX12_readRoad_105 (by decide) ?_
    refine AW.perm [1, 0] rfl ?_
    exact hk52 _ _ _ _ h
set_option maxRecDepth 100000 in
set_option maxHeartbeats 4000000 in
theorem t_X12_readRoad_89 {l : Launch} {ρ : am_R} {n d gc gs : Nat} {k52 : (Nat → Nat → Int32) → (Nat → Nat → Int64) → Nat → Int32 → Option ((Nat → Nat → Int32) × Nat)} {I : Nat → Nat → Int32} {J : Nat → Nat → Int64} {T : Nat} {q : (Nat → Nat → Int32) × Nat} (hd : 0 * n + 6 ≤ (d + 1))
    (hk52 : ∀ (I : Nat → Nat → Int32) (J : Nat → Nat → Int64) (T : Nat) (x1 : Int32), k52 I J T x1 = some q → AW l ρ (d + 1) M_X12_readRoad 52 [(0, .ref 53), (1, .int x1)] [] (am_KD, gc, gs) (I, J, am_RT T) (am_KD, gc, gs) (fun v H' => v = [] ∧ H' = (q.1, J, am_RT (q.2))))
    (h : f_X12_readRoad_89 n k52 I J T  = some q) : AW l ρ (d + 1) M_X12_readRoad 89 [(0, .ref 53)] [] (am_KD, gc, gs) (I, J, am_RT T) (am_KD, gc, gs) (fun v H' => v = [] ∧ H' = (q.1, J, am_RT (q.2))) := by
  unfold f_X12_readRoad_89 at h
  refine op_iconst (v := 0) dX12_readRoad_89 (by decide) ?_
  exact t_X12_readRoad_90 hd hk52 h
set_option maxRecDepth 100000 in
set_option maxHeartbeats 4000000 in
theorem t_X12_readRoad_52 {l : Launch} {ρ : am_R} {n d gc gs : Nat} {q : (Nat → Nat → Int32) × Nat} (hd : 0 * n + 6 ≤ (d + 1))
    : ∀ (m : Nat) (I : Nat → Nat → Int32) (J : Nat → Nat → Int64) (T : Nat) (x1 : Int32), f_X12_readRoad_52 n  m I J T x1 = some q → AW l ρ (d + 1) M_X12_readRoad 52 [(0, .ref 53), (1, .int x1)] [] (am_KD, gc, gs) (I, J, am_RT T) (am_KD, gc, gs) (fun v H' => v = [] ∧ H' = (q.1, J, am_RT (q.2))) := by
  intro m
  induction m with
  | zero =>
    intro I J T x1 h
    rw [f_X12_readRoad_52] at h
    cases h
  | succ m ih =>
    intro I J T x1 h
    rw [f_X12_readRoad_52] at h
    refine op_iload_n (k := 1) dX12_readRoad_52 rfl rfl ?_
    refine op_if_eq (tgt := 108) dX12_readRoad_53 (by decide) (fun c1 => ?_) (fun c1 => ?_)
    · replace h := am_ip c1 h
      refine AW.perm [0] rfl ?_
      exact t_X12_readRoad_108 hd  h
    · replace h := am_ie c1 h
      refine op_aload_n (k := 0) dX12_readRoad_56 rfl rfl ?_
      refine st_getI (v := I 53 11) dX12_readRoad_57 fl_X12_150 kd_53 (by decide) rfl rfl ?_
      refine op_iconst (v := (-1)) dX12_readRoad_60 (by decide) ?_
      refine op_icmp_ne (tgt := 108) dX12_readRoad_61 (by decide) (fun c2 => ?_) (fun c2 => ?_)
      · replace h := am_ie c2 h
        refine AW.perm [0] rfl ?_
        exact t_X12_readRoad_108 hd  h
      · replace h := am_ip c2 h
        refine op_aload_n (k := 0) dX12_readRoad_64 rfl rfl ?_
        obtain ⟨w3, ew3, h⟩ := am_bd h
        refine op_callV (M' := M_X12_readClause) [] (S0 := []) dX12_readRoad_65 tw_1401 ok_X12_readClause tw_1403 tw_54 kd_53 cls_12 rfl rfl rfl (Nat.le_of_ble_eq_true rfl) (Nat.le_of_ble_eq_true rfl) (t_X12_readClause (by omega) ew3) (am_le_rf _) ?_
        rintro _ _ ⟨rfl, rfl⟩
        refine op_aload_n (k := 0) dX12_readRoad_68 rfl rfl ?_
        refine st_getI (v := w3 53 11) dX12_readRoad_69 fl_X12_150 kd_53 (by decide) rfl rfl ?_
        refine op_iconst (v := (-1)) dX12_readRoad_72 (by decide) ?_
        refine op_icmp_ne (tgt := 89) dX12_readRoad_73 (by decide) (fun c4 => ?_) (fun c4 => ?_)
        · replace h := am_ie c4 h
          refine AW.perm [0] rfl ?_
          exact t_X12_readRoad_89 hd ih h
        · replace h := am_ip c4 h
          refine op_aload_n (k := 0) dX12_readRoad_76 rfl rfl ?_
          obtain ⟨w5, ew5, h⟩ := am_bd h
          refine op_callV (M' := M_X12_look) [] (S0 := []) dX12_readRoad_77 tw_1405 ok_X12_look tw_1407 tw_55 kd_53 cls_12 rfl rfl rfl (Nat.le_of_ble_eq_true rfl) (Nat.le_of_ble_eq_true rfl) (t_X12_look (by omega) ew5) (am_le_rf _) ?_
          rintro _ _ ⟨rfl, rfl⟩
          refine op_bipush (v := 59) dX12_readRoad_80 (by decide) ?_
          refine op_icmp_ne (tgt := 89) dX12_readRoad_82 (by decide) (fun c6 => ?_) (fun c6 => ?_)
          · replace h := am_ie c6 h
            refine AW.perm [0] rfl ?_
            exact t_X12_readRoad_89 hd ih h
          · replace h := am_ip c6 h
            refine op_iconst (v := 1) dX12_readRoad_85 (by decide) ?_
            refine op_goto (tgt := 90) dX12_readRoad_86 (by decide) ?_
            refine AW.perm [0] rfl ?_
            exact t_X12_readRoad_90 hd ih h
set_option maxRecDepth 100000 in
set_option maxHeartbeats 4000000 in
theorem t_X12_readRoad_0 {l : Launch} {ρ : am_R} {n d gc gs : Nat} {I : Nat → Nat → Int32} {J : Nat → Nat → Int64} {T : Nat} {q : (Nat → Nat → Int32) × Nat} (hd : 0 * n + 6 ≤ (d + 1))
    (h : f_X12_readRoad n  I J T  = some q) : AW l ρ (d + 1) M_X12_readRoad 0 [(0, .ref 53)] [] (am_KD, gc, gs) (I, J, am_RT T) (am_KD, gc, gs) (fun v H' => v = [] ∧ H' = (q.1, J, am_RT (q.2))) := by
  unfold f_X12_readRoad at h
  refine op_aload_n (k := 0) dX12_readRoad_0 rfl rfl ?_
  refine op_aload_n (k := 0) dX12_readRoad_1 rfl rfl ?_
  refine st_getR (z := 54) dX12_readRoad_2 fl_X12_9 kd_53 (by decide) rfl rr_53_1 ?_
  refine op_iconst (v := 0) dX12_readRoad_5 (by decide) ?_
  refine op_aload_n (k := 0) dX12_readRoad_6 rfl rfl ?_
  refine st_getI (v := I 53 6) dX12_readRoad_7 fl_X12_131 kd_53 (by decide) rfl rfl ?_
  obtain ⟨w1, ew1, h⟩ := am_bd h
  refine op_callV (M' := M_X12_opens) [.ref 54, .int 0, .int (I 53 6)] (S0 := []) dX12_readRoad_10 tw_1397 ok_X12_opens tw_1399 tw_53 kd_53 cls_12 rfl rfl rfl (Nat.le_of_ble_eq_true rfl) (Nat.le_of_ble_eq_true rfl) (t_X12_opens_v2 (by omega) ew1) (am_le_rf _) ?_
  rintro _ _ ⟨rfl, rfl⟩
  refine op_aload_n (k := 0) dX12_readRoad_13 rfl rfl ?_
  refine op_iconst (v := 0) dX12_readRoad_14 (by decide) ?_
  refine st_putI dX12_readRoad_15 fl_X12_240 kd_53 (by decide) rfl ?_
  refine op_aload_n (k := 0) dX12_readRoad_18 rfl rfl ?_
  refine op_iconst (v := 0) dX12_readRoad_19 (by decide) ?_
  refine st_putI dX12_readRoad_20 fl_X12_243 kd_53 (by decide) rfl ?_
  refine op_aload_n (k := 0) dX12_readRoad_23 rfl rfl ?_
  refine op_iconst (v := 0) dX12_readRoad_24 (by decide) ?_
  refine st_putZ dX12_readRoad_25 fl_X12_246 kd_53 (by decide) rfl (by decide) ?_
  refine op_aload_n (k := 0) dX12_readRoad_28 rfl rfl ?_
  refine st_getR (z := 65) dX12_readRoad_29 fl_X12_58 kd_53 (by decide) rfl rr_53_25 ?_
  refine op_iconst (v := 0) dX12_readRoad_32 (by decide) ?_
  refine op_iconst (v := 4) dX12_readRoad_33 (by decide) ?_
  refine st_iast (k := 0) dX12_readRoad_34 kd_65 (by decide) (by decide) ?_
  refine op_aload_n (k := 0) dX12_readRoad_35 rfl rfl ?_
  refine st_getR (z := 65) dX12_readRoad_36 fl_X12_58 kd_53 (by decide) rfl rr_53_25 ?_
  refine op_iconst (v := 1) dX12_readRoad_39 (by decide) ?_
  refine op_iconst (v := 1) dX12_readRoad_40 (by decide) ?_
  refine st_iast (k := 1) dX12_readRoad_41 kd_65 (by decide) (by decide) ?_
  refine op_aload_n (k := 0) dX12_readRoad_42 rfl rfl ?_
  refine st_getR (z := 65) dX12_readRoad_43 fl_X12_58 kd_53 (by decide) rfl rr_53_25 ?_
  refine op_iconst (v := 2) dX12_readRoad_46 (by decide) ?_
  refine op_bipush (v := 99) dX12_readRoad_47 (by decide) ?_
  refine st_iast (k := 2) dX12_readRoad_49 kd_65 (by decide) (by decide) ?_
  refine op_iconst (v := 1) dX12_readRoad_50 (by decide) ?_
  refine op_istore_n (L' := [(1, .int 1), (0, .ref 53)]) dX12_readRoad_51 rfl (by decide) rfl ?_
  refine AW.perm [1, 0] rfl ?_
  exact t_X12_readRoad_52 hd  n _ _ _ _ h
theorem t_X12_readRoad {l : Launch} {ρ : am_R} {n d gc gs : Nat} {I : Nat → Nat → Int32} {J : Nat → Nat → Int64} {T : Nat} {q : (Nat → Nat → Int32) × Nat} (hd : 0 * n + 6 ≤ d) (h : f_X12_readRoad n I J T  = some q) : AW l ρ d M_X12_readRoad 0 [(0, .ref 53)] [] (am_KD, gc, gs) (I, J, am_RT T) (am_KD, gc, gs) (fun v H' => v = [] ∧ H' = (q.1, J, am_RT (q.2))) := by
  obtain ⟨d, rfl⟩ : ∃ e, d = e + 1 := ⟨d - 1, by omega⟩
  exact t_X12_readRoad_0 hd h
def f_X12_fault_42 (n : Nat) (I : Nat → Nat → Int32) (J : Nat → Nat → Int64) (T : Nat) : Option (Int32 × (Nat → Nat → Int32) × Nat) :=
  some (I 53 11, I, T)
def f_X12_fault (n : Nat) (I : Nat → Nat → Int32) (J : Nat → Nat → Int64) (T : Nat) (x1 : Int32) : Option (Int32 × (Nat → Nat → Int32) × Nat) :=
  (f_X12_isIn n ((am_u I 53 0 0)) J T x1.toInt64 0 1).bind fun w1 =>
  if w1 = 0 then
   some ((-2), (am_u I 53 0 0), T)
  else
   if x1 = 0 then
    (f_X12_readRoad n ((am_u I 53 0 0)) J T).bind fun w5 =>
    f_X12_fault_42 n  w5.1 J w5.2
   else
    (f_X12_goThrough_v2 n ((am_u I 53 0 0)) J T 0 (I 53 6)).bind fun w4 =>
    f_X12_fault_42 n  w4.1 J w4.2
set_option maxRecDepth 100000 in
set_option maxHeartbeats 4000000 in
theorem t_X12_fault_42 {l : Launch} {ρ : am_R} {n d gc gs : Nat} {I : Nat → Nat → Int32} {J : Nat → Nat → Int64} {T : Nat} {q : Int32 × (Nat → Nat → Int32) × Nat} (hd : 2 * n + 10 ≤ (d + 1))
    (h : f_X12_fault_42 n  I J T  = some q) : AW l ρ (d + 1) M_X12_fault 42 [(0, .ref 53)] [] (am_KD, gc, gs) (I, J, am_RT T) (am_KD, gc, gs) (fun v H' => v = [.int q.1] ∧ H' = (q.2.1, J, am_RT (q.2.2))) := by
  unfold f_X12_fault_42 at h
  refine op_aload_n (k := 0) dX12_fault_42 rfl rfl ?_
  refine st_getI (v := I 53 11) dX12_fault_43 fl_X12_150 kd_53 (by decide) rfl rfl ?_
  cases h
  exact (op_iret dX12_fault_46 rfl rfl ⟨rfl, rfl⟩)
set_option maxRecDepth 100000 in
set_option maxHeartbeats 4000000 in
theorem t_X12_fault_0 {l : Launch} {ρ : am_R} {n d gc gs : Nat} {I : Nat → Nat → Int32} {J : Nat → Nat → Int64} {T : Nat} {x1 : Int32} {q : Int32 × (Nat → Nat → Int32) × Nat} (hd : 2 * n + 10 ≤ (d + 1))
    (h : f_X12_fault n  I J T x1 = some q) : AW l ρ (d + 1) M_X12_fault 0 [(0, .ref 53), (1, .int x1)] [] (am_KD, gc, gs) (I, J, am_RT T) (am_KD, gc, gs) (fun v H' => v = [.int q.1] ∧ H' = (q.2.1, J, am_RT (q.2.2))) := by
  unfold f_X12_fault at h
  refine op_aload_n (k := 0) dX12_fault_0 rfl rfl ?_
  refine op_iconst (v := 0) dX12_fault_1 (by decide) ?_
  refine st_putI dX12_fault_2 fl_X12_108 kd_53 (by decide) rfl ?_
  refine op_iload_n (k := 1) dX12_fault_5 rfl rfl ?_
  refine op_i2l dX12_fault_6 ?_
  refine op_lconst (v := 0) dX12_fault_7 (by decide) ?_
  refine op_lconst (v := 1) dX12_fault_8 (by decide) ?_
  obtain ⟨w1, ew1, h⟩ := am_bd h
  refine op_callS (M' := M_X12_isIn) [.long x1.toInt64, .long 0, .long 1] (S0 := []) dX12_fault_9 tw_1390 ok_X12_isIn tw_1391 rfl rfl (Nat.le_of_ble_eq_true rfl) (Nat.le_of_ble_eq_true rfl) (t_X12_isIn (by omega) ew1) (am_le_rf _) ?_
  rintro _ _ ⟨rfl, rfl⟩
  refine op_if_ne (tgt := 18) dX12_fault_12 (by decide) (fun c2 => ?_) (fun c2 => ?_)
  · replace h := am_ie c2 h
    refine op_iload_n (k := 1) dX12_fault_18 rfl rfl ?_
    refine op_if_ne (tgt := 29) dX12_fault_19 (by decide) (fun c3 => ?_) (fun c3 => ?_)
    · replace h := am_ie c3 h
      refine op_aload_n (k := 0) dX12_fault_29 rfl rfl ?_
      refine op_aload_n (k := 0) dX12_fault_30 rfl rfl ?_
      refine st_getR (z := 54) dX12_fault_31 fl_X12_9 kd_53 (by decide) rfl rr_53_1 ?_
      refine op_iconst (v := 0) dX12_fault_34 (by decide) ?_
      refine op_aload_n (k := 0) dX12_fault_35 rfl rfl ?_
      refine st_getI (v := I 53 6) dX12_fault_36 fl_X12_131 kd_53 (by decide) rfl rfl ?_
      obtain ⟨w4, ew4, h⟩ := am_bd h
      refine op_callV (M' := M_X12_goThrough) [.ref 54, .int 0, .int (I 53 6)] (S0 := []) dX12_fault_39 tw_1498 ok_X12_goThrough tw_1500 tw_64 kd_53 cls_12 rfl rfl rfl (Nat.le_of_ble_eq_true rfl) (Nat.le_of_ble_eq_true rfl) (t_X12_goThrough_v2 (by omega) ew4) (am_le_rf _) ?_
      rintro _ _ ⟨rfl, rfl⟩
      refine AW.perm [0] rfl ?_
      exact t_X12_fault_42 hd  h
    · replace h := am_ip c3 h
      refine op_aload_n (k := 0) dX12_fault_22 rfl rfl ?_
      obtain ⟨w5, ew5, h⟩ := am_bd h
      refine op_callV (M' := M_X12_readRoad) [] (S0 := []) dX12_fault_23 tw_1393 ok_X12_readRoad tw_1395 tw_52 kd_53 cls_12 rfl rfl rfl (Nat.le_of_ble_eq_true rfl) (Nat.le_of_ble_eq_true rfl) (t_X12_readRoad (by omega) ew5) (am_le_rf _) ?_
      rintro _ _ ⟨rfl, rfl⟩
      refine op_goto (tgt := 42) dX12_fault_26 (by decide) ?_
      refine AW.perm [0] rfl ?_
      exact t_X12_fault_42 hd  h
  · replace h := am_ip c2 h
    refine op_bipush (v := (-2)) dX12_fault_15 (by decide) ?_
    cases h
    exact (op_iret dX12_fault_17 rfl rfl ⟨rfl, rfl⟩)
theorem t_X12_fault {l : Launch} {ρ : am_R} {n d gc gs : Nat} {I : Nat → Nat → Int32} {J : Nat → Nat → Int64} {T : Nat} {x1 : Int32} {q : Int32 × (Nat → Nat → Int32) × Nat} (hd : 2 * n + 10 ≤ d) (h : f_X12_fault n I J T x1 = some q) : AW l ρ d M_X12_fault 0 [(0, .ref 53), (1, .int x1)] [] (am_KD, gc, gs) (I, J, am_RT T) (am_KD, gc, gs) (fun v H' => v = [.int q.1] ∧ H' = (q.2.1, J, am_RT (q.2.2))) := by
  obtain ⟨d, rfl⟩ : ∃ e, d = e + 1 := ⟨d - 1, by omega⟩
  exact t_X12_fault_0 hd h
def f_X12_bytesIn_25 (n : Nat) (k5 : (Nat → Nat → Int32) → (Nat → Nat → Int64) → Nat → Int32 → Int32 → Int32 → Option (Int32)) (I : Nat → Nat → Int32) (J : Nat → Nat → Int64) (T : Nat) (x0 : Int32) (x2 : Int32) (s0 : Int32) (s1 : Int32) : Option (Int32) :=
  k5 I J T x0 (s0 + s1) (x2 + (-8))
def f_X12_bytesIn_5 (n : Nat) : Nat → (Nat → Nat → Int32) → (Nat → Nat → Int64) → Nat → Int32 → Int32 → Int32 → Option (Int32)
  | 0, _, _, _, _, _, _ => none
  | m + 1, I, J, T, x0, x1, x2 =>
    if x2 < 0 then
     some (x1)
    else
     if ((x0 >>> (x2 &&& 31)) &&& 255) = 0 then
      f_X12_bytesIn_25 n (f_X12_bytesIn_5 n m) I J T x0 x2 x1 0
     else
      f_X12_bytesIn_25 n (f_X12_bytesIn_5 n m) I J T x0 x2 x1 1
def f_X12_bytesIn (n : Nat) (I : Nat → Nat → Int32) (J : Nat → Nat → Int64) (T : Nat) (x0 : Int32) : Option (Int32) :=
  f_X12_bytesIn_5 n  n I J T x0 0 24
set_option maxRecDepth 100000 in
set_option maxHeartbeats 4000000 in
theorem t_X12_bytesIn_25 {l : Launch} {ρ : am_R} {n d gc gs : Nat} {k5 : (Nat → Nat → Int32) → (Nat → Nat → Int64) → Nat → Int32 → Int32 → Int32 → Option (Int32)} {I : Nat → Nat → Int32} {J : Nat → Nat → Int64} {T : Nat} {x0 : Int32} {x2 : Int32} {s0 : Int32} {s1 : Int32} {q : Int32} (hd : 0 * n + 0 ≤ d)
    (hk5 : ∀ (I : Nat → Nat → Int32) (J : Nat → Nat → Int64) (T : Nat) (x0 : Int32) (x1 : Int32) (x2 : Int32), k5 I J T x0 x1 x2 = some q → AW l ρ d M_X12_bytesIn 5 [(0, .int x0), (1, .int x1), (2, .int x2)] [] (am_KD, gc, gs) (I, J, am_RT T) (am_KD, gc, gs) (fun v H' => v = [.int q] ∧ H' = (I, J, am_RT T)))
    (h : f_X12_bytesIn_25 n k5 I J T x0 x2 s0 s1 = some q) : AW l ρ d M_X12_bytesIn 25 [(0, .int x0), (2, .int x2)] [.int s1, .int s0] (am_KD, gc, gs) (I, J, am_RT T) (am_KD, gc, gs) (fun v H' => v = [.int q] ∧ H' = (I, J, am_RT T)) := by
  unfold f_X12_bytesIn_25 at h
  refine op_iadd dX12_bytesIn_25 ?_
  refine op_istore_n (L' := [(1, .int (s0 + s1)), (0, .int x0), (2, .int x2)]) dX12_bytesIn_26 rfl (by decide) rfl ?_
  refine op_iinc (k := 2) (v := x2 + (-8)) (L' := [(2, .int (x2 + (-8))), (1, .int (s0 + s1)), (0, .int x0)]) dX12_bytesIn_27 rfl rfl (by decide) rfl ?_
  refine op_goto (tgt := 5) dX12_bytesIn_30 (by decide) ?_
  refine AW.perm [2, 1, 0] rfl ?_
  exact hk5 _ _ _ _ _ _ h
set_option maxRecDepth 100000 in
set_option maxHeartbeats 4000000 in
theorem t_X12_bytesIn_5 {l : Launch} {ρ : am_R} {n d gc gs : Nat} {q : Int32} (hd : 0 * n + 0 ≤ d)
    : ∀ (m : Nat) (I : Nat → Nat → Int32) (J : Nat → Nat → Int64) (T : Nat) (x0 : Int32) (x1 : Int32) (x2 : Int32), f_X12_bytesIn_5 n  m I J T x0 x1 x2 = some q → AW l ρ d M_X12_bytesIn 5 [(0, .int x0), (1, .int x1), (2, .int x2)] [] (am_KD, gc, gs) (I, J, am_RT T) (am_KD, gc, gs) (fun v H' => v = [.int q] ∧ H' = (I, J, am_RT T)) := by
  intro m
  induction m with
  | zero =>
    intro I J T x0 x1 x2 h
    rw [f_X12_bytesIn_5] at h
    cases h
  | succ m ih =>
    intro I J T x0 x1 x2 h
    rw [f_X12_bytesIn_5] at h
    refine op_iload_n (k := 2) dX12_bytesIn_5 rfl rfl ?_
    refine op_if_lt (tgt := 33) dX12_bytesIn_6 (by decide) (fun c1 => ?_) (fun c1 => ?_)
    · replace h := am_ip c1 h
      refine op_iload_n (k := 1) dX12_bytesIn_33 rfl rfl ?_
      cases h
      exact (op_iret dX12_bytesIn_34 rfl rfl ⟨rfl, rfl⟩)
    · replace h := am_ie c1 h
      refine op_iload_n (k := 1) dX12_bytesIn_9 rfl rfl ?_
      refine op_iload_n (k := 0) dX12_bytesIn_10 rfl rfl ?_
      refine op_iload_n (k := 2) dX12_bytesIn_11 rfl rfl ?_
      refine op_ishr dX12_bytesIn_12 ?_
      refine op_sipush (v := 255) dX12_bytesIn_13 (by decide) ?_
      refine op_iand dX12_bytesIn_16 ?_
      refine op_if_eq (tgt := 24) dX12_bytesIn_17 (by decide) (fun c2 => ?_) (fun c2 => ?_)
      · replace h := am_ip c2 h
        refine op_iconst (v := 0) dX12_bytesIn_24 (by decide) ?_
        refine AW.perm [0, 2] rfl ?_
        exact t_X12_bytesIn_25 hd ih h
      · replace h := am_ie c2 h
        refine op_iconst (v := 1) dX12_bytesIn_20 (by decide) ?_
        refine op_goto (tgt := 25) dX12_bytesIn_21 (by decide) ?_
        refine AW.perm [0, 2] rfl ?_
        exact t_X12_bytesIn_25 hd ih h
set_option maxRecDepth 100000 in
set_option maxHeartbeats 4000000 in
theorem t_X12_bytesIn_0 {l : Launch} {ρ : am_R} {n d gc gs : Nat} {I : Nat → Nat → Int32} {J : Nat → Nat → Int64} {T : Nat} {x0 : Int32} {q : Int32} (hd : 0 * n + 0 ≤ d)
    (h : f_X12_bytesIn n  I J T x0 = some q) : AW l ρ d M_X12_bytesIn 0 [(0, .int x0)] [] (am_KD, gc, gs) (I, J, am_RT T) (am_KD, gc, gs) (fun v H' => v = [.int q] ∧ H' = (I, J, am_RT T)) := by
  unfold f_X12_bytesIn at h
  refine op_iconst (v := 0) dX12_bytesIn_0 (by decide) ?_
  refine op_istore_n (L' := [(1, .int 0), (0, .int x0)]) dX12_bytesIn_1 rfl (by decide) rfl ?_
  refine op_bipush (v := 24) dX12_bytesIn_2 (by decide) ?_
  refine op_istore_n (L' := [(2, .int 24), (1, .int 0), (0, .int x0)]) dX12_bytesIn_4 rfl (by decide) rfl ?_
  refine AW.perm [2, 1, 0] rfl ?_
  exact t_X12_bytesIn_5 hd  n _ _ _ _ _ _ h
theorem t_X12_bytesIn {l : Launch} {ρ : am_R} {n d gc gs : Nat} {I : Nat → Nat → Int32} {J : Nat → Nat → Int64} {T : Nat} {x0 : Int32} {q : Int32} (hd : 0 * n + 0 ≤ d) (h : f_X12_bytesIn n I J T x0 = some q) : AW l ρ d M_X12_bytesIn 0 [(0, .int x0)] [] (am_KD, gc, gs) (I, J, am_RT T) (am_KD, gc, gs) (fun v H' => v = [.int q] ∧ H' = (I, J, am_RT T)) := t_X12_bytesIn_0 hd h
def f_X12_put_43 (n : Nat) (k3 : (Nat → Nat → Int32) → (Nat → Nat → Int64) → Nat → Int32 → Int32 → Option ((Nat → Nat → Int32))) (I : Nat → Nat → Int32) (J : Nat → Nat → Int64) (T : Nat) (x1 : Int32) (x2 : Int32) : Option ((Nat → Nat → Int32)) :=
  k3 I J T x1 (x2 + (-8))
def f_X12_put_3 (n : Nat) : Nat → (Nat → Nat → Int32) → (Nat → Nat → Int64) → Nat → Int32 → Int32 → Option ((Nat → Nat → Int32))
  | 0, _, _, _, _, _ => none
  | m + 1, I, J, T, x1, x2 =>
    if x2 < 0 then
     some (I)
    else
     if ((x1 >>> (x2 &&& 31)) &&& 255) = 0 then
      f_X12_put_43 n (f_X12_put_3 n m) I J T x1 x2
     else
      if ok_ix (I 53 6) 160 then
       f_X12_put_43 n (f_X12_put_3 n m) ((am_u (am_u I 54 ((I 53 6).toNatClampNeg) (((x1 >>> (x2 &&& 31)).toInt8.toInt32).toInt8.toInt32)) 53 6 ((I 53 6) + 1))) J T x1 x2
      else none
def f_X12_put (n : Nat) (I : Nat → Nat → Int32) (J : Nat → Nat → Int64) (T : Nat) (x1 : Int32) : Option ((Nat → Nat → Int32)) :=
  f_X12_put_3 n  n I J T x1 24
set_option maxRecDepth 100000 in
set_option maxHeartbeats 4000000 in
theorem t_X12_put_43 {l : Launch} {ρ : am_R} {n d gc gs : Nat} {k3 : (Nat → Nat → Int32) → (Nat → Nat → Int64) → Nat → Int32 → Int32 → Option ((Nat → Nat → Int32))} {I : Nat → Nat → Int32} {J : Nat → Nat → Int64} {T : Nat} {x1 : Int32} {x2 : Int32} {q : (Nat → Nat → Int32)} (hd : 0 * n + 0 ≤ d)
    (hk3 : ∀ (I : Nat → Nat → Int32) (J : Nat → Nat → Int64) (T : Nat) (x1 : Int32) (x2 : Int32), k3 I J T x1 x2 = some q → AW l ρ d M_X12_put 3 [(0, .ref 53), (1, .int x1), (2, .int x2)] [] (am_KD, gc, gs) (I, J, am_RT T) (am_KD, gc, gs) (fun v H' => v = [] ∧ H' = (q, J, am_RT T)))
    (h : f_X12_put_43 n k3 I J T x1 x2 = some q) : AW l ρ d M_X12_put 43 [(0, .ref 53), (1, .int x1), (2, .int x2)] [] (am_KD, gc, gs) (I, J, am_RT T) (am_KD, gc, gs) (fun v H' => v = [] ∧ H' = (q, J, am_RT T)) := by
  unfold f_X12_put_43 at h
  refine op_iinc (k := 2) (v := x2 + (-8)) (L' := [(2, .int (x2 + (-8))), (0, .ref 53), (1, .int x1)]) dX12_put_43 rfl rfl (by decide) rfl ?_
  refine op_goto (tgt := 3) dX12_put_46 (by decide) ?_
  refine AW.perm [1, 2, 0] rfl ?_
  exact hk3 _ _ _ _ _ h
set_option maxRecDepth 100000 in
set_option maxHeartbeats 4000000 in
theorem t_X12_put_3 {l : Launch} {ρ : am_R} {n d gc gs : Nat} {q : (Nat → Nat → Int32)} (hd : 0 * n + 0 ≤ d)
    : ∀ (m : Nat) (I : Nat → Nat → Int32) (J : Nat → Nat → Int64) (T : Nat) (x1 : Int32) (x2 : Int32), f_X12_put_3 n  m I J T x1 x2 = some q → AW l ρ d M_X12_put 3 [(0, .ref 53), (1, .int x1), (2, .int x2)] [] (am_KD, gc, gs) (I, J, am_RT T) (am_KD, gc, gs) (fun v H' => v = [] ∧ H' = (q, J, am_RT T)) := by
  intro m
  induction m with
  | zero =>
    intro I J T x1 x2 h
    rw [f_X12_put_3] at h
    cases h
  | succ m ih =>
    intro I J T x1 x2 h
    rw [f_X12_put_3] at h
    refine op_iload_n (k := 2) dX12_put_3 rfl rfl ?_
    refine op_if_lt (tgt := 49) dX12_put_4 (by decide) (fun c1 => ?_) (fun c1 => ?_)
    · replace h := am_ip c1 h
      cases h
      exact (op_vret dX12_put_49 rfl ⟨rfl, rfl⟩)
    · replace h := am_ie c1 h
      refine op_iload_n (k := 1) dX12_put_7 rfl rfl ?_
      refine op_iload_n (k := 2) dX12_put_8 rfl rfl ?_
      refine op_ishr dX12_put_9 ?_
      refine op_sipush (v := 255) dX12_put_10 (by decide) ?_
      refine op_iand dX12_put_13 ?_
      refine op_if_ne (tgt := 20) dX12_put_14 (by decide) (fun c2 => ?_) (fun c2 => ?_)
      · replace h := am_ie c2 h
        refine op_aload_n (k := 0) dX12_put_20 rfl rfl ?_
        refine st_getR (z := 54) dX12_put_21 fl_X12_9 kd_53 (by decide) rfl rr_53_1 ?_
        refine op_aload_n (k := 0) dX12_put_24 rfl rfl ?_
        refine st_getI (v := I 53 6) dX12_put_25 fl_X12_131 kd_53 (by decide) rfl rfl ?_
        refine op_iload_n (k := 1) dX12_put_28 rfl rfl ?_
        refine op_iload_n (k := 2) dX12_put_29 rfl rfl ?_
        refine op_ishr dX12_put_30 ?_
        refine op_i2b dX12_put_31 ?_
        obtain ⟨g3, h⟩ := am_gd h
        refine st_bast (k := (I 53 6).toNatClampNeg) dX12_put_32 kd_54 g3 rfl ?_
        refine op_aload_n (k := 0) dX12_put_33 rfl rfl ?_
        refine op_dup dX12_put_34 rfl ?_
        refine st_getI (v := I 53 6) dX12_put_35 fl_X12_131 kd_53 (by decide) rfl rfl ?_
        refine op_iconst (v := 1) dX12_put_38 (by decide) ?_
        refine op_iadd dX12_put_39 ?_
        refine st_putI dX12_put_40 fl_X12_131 kd_53 (by decide) rfl ?_
        exact t_X12_put_43 hd ih h
      · replace h := am_ip c2 h
        refine op_goto (tgt := 43) dX12_put_17 (by decide) ?_
        exact t_X12_put_43 hd ih h
set_option maxRecDepth 100000 in
set_option maxHeartbeats 4000000 in
theorem t_X12_put_0 {l : Launch} {ρ : am_R} {n d gc gs : Nat} {I : Nat → Nat → Int32} {J : Nat → Nat → Int64} {T : Nat} {x1 : Int32} {q : (Nat → Nat → Int32)} (hd : 0 * n + 0 ≤ d)
    (h : f_X12_put n  I J T x1 = some q) : AW l ρ d M_X12_put 0 [(0, .ref 53), (1, .int x1)] [] (am_KD, gc, gs) (I, J, am_RT T) (am_KD, gc, gs) (fun v H' => v = [] ∧ H' = (q, J, am_RT T)) := by
  unfold f_X12_put at h
  refine op_bipush (v := 24) dX12_put_0 (by decide) ?_
  refine op_istore_n (L' := [(2, .int 24), (0, .ref 53), (1, .int x1)]) dX12_put_2 rfl (by decide) rfl ?_
  refine AW.perm [1, 2, 0] rfl ?_
  exact t_X12_put_3 hd  n _ _ _ _ _ h
theorem t_X12_put {l : Launch} {ρ : am_R} {n d gc gs : Nat} {I : Nat → Nat → Int32} {J : Nat → Nat → Int64} {T : Nat} {x1 : Int32} {q : (Nat → Nat → Int32)} (hd : 0 * n + 0 ≤ d) (h : f_X12_put n I J T x1 = some q) : AW l ρ d M_X12_put 0 [(0, .ref 53), (1, .int x1)] [] (am_KD, gc, gs) (I, J, am_RT T) (am_KD, gc, gs) (fun v H' => v = [] ∧ H' = (q, J, am_RT T)) := t_X12_put_0 hd h
def f_X12_feed (n : Nat) (I : Nat → Nat → Int32) (J : Nat → Nat → Int64) (T : Nat) (x1 : Int32) (x2 : Int32) (x3 : Int32) (x4 : Int32) (x5 : Int32) : Option (Int32 × (Nat → Nat → Int32)) :=
  (f_X12_bytesIn n ((am_u I 53 0 0)) J T x1).bind fun w1 =>
  (f_X12_bytesIn n ((am_u I 53 0 0)) J T x2).bind fun w2 =>
  (f_X12_bytesIn n ((am_u I 53 0 0)) J T x3).bind fun w3 =>
  (f_X12_bytesIn n ((am_u I 53 0 0)) J T x4).bind fun w4 =>
  (f_X12_bytesIn n ((am_u I 53 0 0)) J T x5).bind fun w5 =>
  if ((((((I 53 6) + w1) + w2) + w3) + w4) + w5) ≤ 160 then
   (f_X12_put n ((am_u I 53 0 0)) J T x1).bind fun w7 =>
   (f_X12_put n w7 J T x2).bind fun w8 =>
   (f_X12_put n w8 J T x3).bind fun w9 =>
   (f_X12_put n w9 J T x4).bind fun w10 =>
   (f_X12_put n w10 J T x5).bind fun w11 =>
   some (w11 53 6, w11)
  else
   some ((-1), (am_u I 53 0 0))
set_option maxRecDepth 100000 in
set_option maxHeartbeats 4000000 in
theorem t_X12_feed_0 {l : Launch} {ρ : am_R} {n d gc gs : Nat} {I : Nat → Nat → Int32} {J : Nat → Nat → Int64} {T : Nat} {x1 : Int32} {x2 : Int32} {x3 : Int32} {x4 : Int32} {x5 : Int32} {q : Int32 × (Nat → Nat → Int32)} (hd : 0 * n + 1 ≤ (d + 1))
    (h : f_X12_feed n  I J T x1 x2 x3 x4 x5 = some q) : AW l ρ (d + 1) M_X12_feed 0 [(0, .ref 53), (1, .int x1), (2, .int x2), (3, .int x3), (4, .int x4), (5, .int x5)] [] (am_KD, gc, gs) (I, J, am_RT T) (am_KD, gc, gs) (fun v H' => v = [.int q.1] ∧ H' = (q.2, J, am_RT T)) := by
  unfold f_X12_feed at h
  refine op_aload_n (k := 0) dX12_feed_0 rfl rfl ?_
  refine op_iconst (v := 0) dX12_feed_1 (by decide) ?_
  refine st_putI dX12_feed_2 fl_X12_108 kd_53 (by decide) rfl ?_
  refine op_aload_n (k := 0) dX12_feed_5 rfl rfl ?_
  refine st_getI (v := I 53 6) dX12_feed_6 fl_X12_131 kd_53 (by decide) rfl rfl ?_
  refine op_iload_n (k := 1) dX12_feed_9 rfl rfl ?_
  obtain ⟨w1, ew1, h⟩ := am_bd h
  refine op_callS (M' := M_X12_bytesIn) [.int x1] (S0 := [.int (I 53 6)]) dX12_feed_10 tw_1375 ok_X12_bytesIn tw_1376 rfl rfl (Nat.le_of_ble_eq_true rfl) (Nat.le_of_ble_eq_true rfl) (t_X12_bytesIn (by omega) ew1) (am_le_rf _) ?_
  rintro _ _ ⟨rfl, rfl⟩
  refine op_iadd dX12_feed_13 ?_
  refine op_iload_n (k := 2) dX12_feed_14 rfl rfl ?_
  obtain ⟨w2, ew2, h⟩ := am_bd h
  refine op_callS (M' := M_X12_bytesIn) [.int x2] (S0 := [.int ((I 53 6) + w1)]) dX12_feed_15 tw_1375 ok_X12_bytesIn tw_1376 rfl rfl (Nat.le_of_ble_eq_true rfl) (Nat.le_of_ble_eq_true rfl) (t_X12_bytesIn (by omega) ew2) (am_le_rf _) ?_
  rintro _ _ ⟨rfl, rfl⟩
  refine op_iadd dX12_feed_18 ?_
  refine op_iload_n (k := 3) dX12_feed_19 rfl rfl ?_
  obtain ⟨w3, ew3, h⟩ := am_bd h
  refine op_callS (M' := M_X12_bytesIn) [.int x3] (S0 := [.int (((I 53 6) + w1) + w2)]) dX12_feed_20 tw_1375 ok_X12_bytesIn tw_1376 rfl rfl (Nat.le_of_ble_eq_true rfl) (Nat.le_of_ble_eq_true rfl) (t_X12_bytesIn (by omega) ew3) (am_le_rf _) ?_
  rintro _ _ ⟨rfl, rfl⟩
  refine op_iadd dX12_feed_23 ?_
  refine op_iload (k := 4) dX12_feed_24 rfl ?_
  obtain ⟨w4, ew4, h⟩ := am_bd h
  refine op_callS (M' := M_X12_bytesIn) [.int x4] (S0 := [.int ((((I 53 6) + w1) + w2) + w3)]) dX12_feed_26 tw_1375 ok_X12_bytesIn tw_1376 rfl rfl (Nat.le_of_ble_eq_true rfl) (Nat.le_of_ble_eq_true rfl) (t_X12_bytesIn (by omega) ew4) (am_le_rf _) ?_
  rintro _ _ ⟨rfl, rfl⟩
  refine op_iadd dX12_feed_29 ?_
  refine op_iload (k := 5) dX12_feed_30 rfl ?_
  obtain ⟨w5, ew5, h⟩ := am_bd h
  refine op_callS (M' := M_X12_bytesIn) [.int x5] (S0 := [.int (((((I 53 6) + w1) + w2) + w3) + w4)]) dX12_feed_32 tw_1375 ok_X12_bytesIn tw_1376 rfl rfl (Nat.le_of_ble_eq_true rfl) (Nat.le_of_ble_eq_true rfl) (t_X12_bytesIn (by omega) ew5) (am_le_rf _) ?_
  rintro _ _ ⟨rfl, rfl⟩
  refine op_iadd dX12_feed_35 ?_
  refine op_sipush (v := 160) dX12_feed_36 (by decide) ?_
  refine op_icmp_le (tgt := 44) dX12_feed_39 (by decide) (fun c6 => ?_) (fun c6 => ?_)
  · replace h := am_ip c6 h
    refine op_aload_n (k := 0) dX12_feed_44 rfl rfl ?_
    refine op_iload_n (k := 1) dX12_feed_45 rfl rfl ?_
    obtain ⟨w7, ew7, h⟩ := am_bd h
    refine op_callV (M' := M_X12_put) [.int x1] (S0 := []) dX12_feed_46 tw_1378 ok_X12_put tw_1380 tw_51 kd_53 cls_12 rfl rfl rfl (Nat.le_of_ble_eq_true rfl) (Nat.le_of_ble_eq_true rfl) (t_X12_put (by omega) ew7) (am_le_rf _) ?_
    rintro _ _ ⟨rfl, rfl⟩
    refine op_aload_n (k := 0) dX12_feed_49 rfl rfl ?_
    refine op_iload_n (k := 2) dX12_feed_50 rfl rfl ?_
    obtain ⟨w8, ew8, h⟩ := am_bd h
    refine op_callV (M' := M_X12_put) [.int x2] (S0 := []) dX12_feed_51 tw_1378 ok_X12_put tw_1380 tw_51 kd_53 cls_12 rfl rfl rfl (Nat.le_of_ble_eq_true rfl) (Nat.le_of_ble_eq_true rfl) (t_X12_put (by omega) ew8) (am_le_rf _) ?_
    rintro _ _ ⟨rfl, rfl⟩
    refine op_aload_n (k := 0) dX12_feed_54 rfl rfl ?_
    refine op_iload_n (k := 3) dX12_feed_55 rfl rfl ?_
    obtain ⟨w9, ew9, h⟩ := am_bd h
    refine op_callV (M' := M_X12_put) [.int x3] (S0 := []) dX12_feed_56 tw_1378 ok_X12_put tw_1380 tw_51 kd_53 cls_12 rfl rfl rfl (Nat.le_of_ble_eq_true rfl) (Nat.le_of_ble_eq_true rfl) (t_X12_put (by omega) ew9) (am_le_rf _) ?_
    rintro _ _ ⟨rfl, rfl⟩
    refine op_aload_n (k := 0) dX12_feed_59 rfl rfl ?_
    refine op_iload (k := 4) dX12_feed_60 rfl ?_
    obtain ⟨w10, ew10, h⟩ := am_bd h
    refine op_callV (M' := M_X12_put) [.int x4] (S0 := []) dX12_feed_62 tw_1378 ok_X12_put tw_1380 tw_51 kd_53 cls_12 rfl rfl rfl (Nat.le_of_ble_eq_true rfl) (Nat.le_of_ble_eq_true rfl) (t_X12_put (by omega) ew10) (am_le_rf _) ?_
    rintro _ _ ⟨rfl, rfl⟩
    refine op_aload_n (k := 0) dX12_feed_65 rfl rfl ?_
    refine op_iload (k := 5) dX12_feed_66 rfl ?_
    obtain ⟨w11, ew11, h⟩ := am_bd h
    refine op_callV (M' := M_X12_put) [.int x5] (S0 := []) dX12_feed_68 tw_1378 ok_X12_put tw_1380 tw_51 kd_53 cls_12 rfl rfl rfl (Nat.le_of_ble_eq_true rfl) (Nat.le_of_ble_eq_true rfl) (t_X12_put (by omega) ew11) (am_le_rf _) ?_
    rintro _ _ ⟨rfl, rfl⟩
    refine op_aload_n (k := 0) dX12_feed_71 rfl rfl ?_
    refine st_getI (v := w11 53 6) dX12_feed_72 fl_X12_131 kd_53 (by decide) rfl rfl ?_
    cases h
    exact (op_iret dX12_feed_75 rfl rfl ⟨rfl, rfl⟩)
  · replace h := am_ie c6 h
    refine op_iconst (v := (-1)) dX12_feed_42 (by decide) ?_
    cases h
    exact (op_iret dX12_feed_43 rfl rfl ⟨rfl, rfl⟩)
theorem t_X12_feed {l : Launch} {ρ : am_R} {n d gc gs : Nat} {I : Nat → Nat → Int32} {J : Nat → Nat → Int64} {T : Nat} {x1 : Int32} {x2 : Int32} {x3 : Int32} {x4 : Int32} {x5 : Int32} {q : Int32 × (Nat → Nat → Int32)} (hd : 0 * n + 1 ≤ d) (h : f_X12_feed n I J T x1 x2 x3 x4 x5 = some q) : AW l ρ d M_X12_feed 0 [(0, .ref 53), (1, .int x1), (2, .int x2), (3, .int x3), (4, .int x4), (5, .int x5)] [] (am_KD, gc, gs) (I, J, am_RT T) (am_KD, gc, gs) (fun v H' => v = [.int q.1] ∧ H' = (q.2, J, am_RT T)) := by
  obtain ⟨d, rfl⟩ : ∃ e, d = e + 1 := ⟨d - 1, by omega⟩
  exact t_X12_feed_0 hd h
def f_X12_feet (n : Nat) (I : Nat → Nat → Int32) (J : Nat → Nat → Int64) (T : Nat) (x1 : Int32) : Option (Int32 × (Nat → Nat → Int32)) :=
  (f_X12_isIn n ((am_u I 53 0 0)) J T x1.toInt64 0 20).bind fun w1 =>
  if w1 = 0 then
   some (0, (am_u I 53 0 0))
  else
   some (1, (am_u (am_u I 53 0 0) 53 31 x1))
set_option maxRecDepth 100000 in
set_option maxHeartbeats 4000000 in
theorem t_X12_feet_0 {l : Launch} {ρ : am_R} {n d gc gs : Nat} {I : Nat → Nat → Int32} {J : Nat → Nat → Int64} {T : Nat} {x1 : Int32} {q : Int32 × (Nat → Nat → Int32)} (hd : 0 * n + 1 ≤ (d + 1))
    (h : f_X12_feet n  I J T x1 = some q) : AW l ρ (d + 1) M_X12_feet 0 [(0, .ref 53), (1, .int x1)] [] (am_KD, gc, gs) (I, J, am_RT T) (am_KD, gc, gs) (fun v H' => v = [.int q.1] ∧ H' = (q.2, J, am_RT T)) := by
  unfold f_X12_feet at h
  refine op_aload_n (k := 0) dX12_feet_0 rfl rfl ?_
  refine op_iconst (v := 0) dX12_feet_1 (by decide) ?_
  refine st_putI dX12_feet_2 fl_X12_108 kd_53 (by decide) rfl ?_
  refine op_iload_n (k := 1) dX12_feet_5 rfl rfl ?_
  refine op_i2l dX12_feet_6 ?_
  refine op_lconst (v := 0) dX12_feet_7 (by decide) ?_
  refine op_ldc2 dX12_feet_8 tw_1606 ?_
  obtain ⟨w1, ew1, h⟩ := am_bd h
  refine op_callS (M' := M_X12_isIn) [.long x1.toInt64, .long 0, .long 20] (S0 := []) dX12_feet_11 tw_1390 ok_X12_isIn tw_1391 rfl rfl (Nat.le_of_ble_eq_true rfl) (Nat.le_of_ble_eq_true rfl) (t_X12_isIn (by omega) ew1) (am_le_rf _) ?_
  rintro _ _ ⟨rfl, rfl⟩
  refine op_if_ne (tgt := 19) dX12_feet_14 (by decide) (fun c2 => ?_) (fun c2 => ?_)
  · replace h := am_ie c2 h
    refine op_aload_n (k := 0) dX12_feet_19 rfl rfl ?_
    refine op_iload_n (k := 1) dX12_feet_20 rfl rfl ?_
    refine st_putI dX12_feet_21 fl_X12_61 kd_53 (by decide) rfl ?_
    refine op_iconst (v := 1) dX12_feet_24 (by decide) ?_
    cases h
    exact (op_iret dX12_feet_25 rfl (by decide) ⟨rfl, rfl⟩)
  · replace h := am_ip c2 h
    refine op_iconst (v := 0) dX12_feet_17 (by decide) ?_
    cases h
    exact (op_iret dX12_feet_18 rfl (by decide) ⟨rfl, rfl⟩)
theorem t_X12_feet {l : Launch} {ρ : am_R} {n d gc gs : Nat} {I : Nat → Nat → Int32} {J : Nat → Nat → Int64} {T : Nat} {x1 : Int32} {q : Int32 × (Nat → Nat → Int32)} (hd : 0 * n + 1 ≤ d) (h : f_X12_feet n I J T x1 = some q) : AW l ρ d M_X12_feet 0 [(0, .ref 53), (1, .int x1)] [] (am_KD, gc, gs) (I, J, am_RT T) (am_KD, gc, gs) (fun v H' => v = [.int q.1] ∧ H' = (q.2, J, am_RT T)) := by
  obtain ⟨d, rfl⟩ : ∃ e, d = e + 1 := ⟨d - 1, by omega⟩
  exact t_X12_feet_0 hd h
def f_X12_isRider (n : Nat) (I : Nat → Nat → Int32) (J : Nat → Nat → Int64) (T : Nat) (x1 : Int32) : Option (Int32) :=
  if x1 < 0 then
   some (0)
  else
   if (I 53 27) ≤ x1 then
    some (0)
   else
    some (1)
set_option maxRecDepth 100000 in
set_option maxHeartbeats 4000000 in
theorem t_X12_isRider_0 {l : Launch} {ρ : am_R} {n d gc gs : Nat} {I : Nat → Nat → Int32} {J : Nat → Nat → Int64} {T : Nat} {x1 : Int32} {q : Int32} (hd : 0 * n + 0 ≤ d)
    (h : f_X12_isRider n  I J T x1 = some q) : AW l ρ d M_X12_isRider 0 [(0, .ref 53), (1, .int x1)] [] (am_KD, gc, gs) (I, J, am_RT T) (am_KD, gc, gs) (fun v H' => v = [.int q] ∧ H' = (I, J, am_RT T)) := by
  unfold f_X12_isRider at h
  refine op_iload_n (k := 1) dX12_isRider_0 rfl rfl ?_
  refine op_if_lt (tgt := 16) dX12_isRider_1 (by decide) (fun c1 => ?_) (fun c1 => ?_)
  · replace h := am_ip c1 h
    refine op_iconst (v := 0) dX12_isRider_16 (by decide) ?_
    cases h
    exact (op_iret dX12_isRider_17 rfl (by decide) ⟨rfl, rfl⟩)
  · replace h := am_ie c1 h
    refine op_iload_n (k := 1) dX12_isRider_4 rfl rfl ?_
    refine op_aload_n (k := 0) dX12_isRider_5 rfl rfl ?_
    refine st_getI (v := I 53 27) dX12_isRider_6 fl_X12_297 kd_53 (by decide) rfl rfl ?_
    refine op_icmp_ge (tgt := 16) dX12_isRider_9 (by decide) (fun c2 => ?_) (fun c2 => ?_)
    · replace h := am_ip c2 h
      refine op_iconst (v := 0) dX12_isRider_16 (by decide) ?_
      cases h
      exact (op_iret dX12_isRider_17 rfl (by decide) ⟨rfl, rfl⟩)
    · replace h := am_ie c2 h
      refine op_iconst (v := 1) dX12_isRider_12 (by decide) ?_
      refine op_goto (tgt := 17) dX12_isRider_13 (by decide) ?_
      cases h
      exact (op_iret dX12_isRider_17 rfl (by decide) ⟨rfl, rfl⟩)
theorem t_X12_isRider {l : Launch} {ρ : am_R} {n d gc gs : Nat} {I : Nat → Nat → Int32} {J : Nat → Nat → Int64} {T : Nat} {x1 : Int32} {q : Int32} (hd : 0 * n + 0 ≤ d) (h : f_X12_isRider n I J T x1 = some q) : AW l ρ d M_X12_isRider 0 [(0, .ref 53), (1, .int x1)] [] (am_KD, gc, gs) (I, J, am_RT T) (am_KD, gc, gs) (fun v H' => v = [.int q] ∧ H' = (I, J, am_RT T)) := t_X12_isRider_0 hd h
def f_X12_fits_142 (n : Nat) (k29 : (Nat → Nat → Int32) → (Nat → Nat → Int64) → Nat → Int32 → Int32 → Int32 → Int32 → Option (Int32 × (Nat → Nat → Int32) × (Nat → Nat → Int64) × Nat)) (I : Nat → Nat → Int32) (J : Nat → Nat → Int64) (T : Nat) (x1 : Int32) (x2 : Int32) (x4 : Int32) (s0 : Int32) (s1 : Int32) : Option (Int32 × (Nat → Nat → Int32) × (Nat → Nat → Int64) × Nat) :=
  k29 I J T x1 x2 (s0 ||| s1) (x4 + 1)
def f_X12_fits_120 (n : Nat) (k29 : (Nat → Nat → Int32) → (Nat → Nat → Int64) → Nat → Int32 → Int32 → Int32 → Int32 → Option (Int32 × (Nat → Nat → Int32) × (Nat → Nat → Int64) × Nat)) (k63 : (Nat → Nat → Int32) → (Nat → Nat → Int64) → Nat → Int32 → Int32 → Int32 → Int32 → Int32 → Int32 → Option (Int32 × (Nat → Nat → Int32) × (Nat → Nat → Int64) × Nat)) (I : Nat → Nat → Int32) (J : Nat → Nat → Int64) (T : Nat) (x1 : Int32) (x2 : Int32) (x3 : Int32) (x4 : Int32) (x6 : Int32) (s0 : Int32) : Option (Int32 × (Nat → Nat → Int32) × (Nat → Nat → Int64) × Nat) :=
  k63 I J T x1 x2 x3 x4 s0 (x6 + 1)
def f_X12_fits_119 (n : Nat) (k29 : (Nat → Nat → Int32) → (Nat → Nat → Int64) → Nat → Int32 → Int32 → Int32 → Int32 → Option (Int32 × (Nat → Nat → Int32) × (Nat → Nat → Int64) × Nat)) (k63 : (Nat → Nat → Int32) → (Nat → Nat → Int64) → Nat → Int32 → Int32 → Int32 → Int32 → Int32 → Int32 → Option (Int32 × (Nat → Nat → Int32) × (Nat → Nat → Int64) × Nat)) (I : Nat → Nat → Int32) (J : Nat → Nat → Int64) (T : Nat) (x1 : Int32) (x2 : Int32) (x3 : Int32) (x4 : Int32) (x6 : Int32) : Option (Int32 × (Nat → Nat → Int32) × (Nat → Nat → Int64) × Nat) :=
  f_X12_fits_120 n k29 k63 I J T x1 x2 x3 x4 x6 0
def f_X12_fits_63 (n : Nat) (k29 : (Nat → Nat → Int32) → (Nat → Nat → Int64) → Nat → Int32 → Int32 → Int32 → Int32 → Option (Int32 × (Nat → Nat → Int32) × (Nat → Nat → Int64) × Nat)) : Nat → (Nat → Nat → Int32) → (Nat → Nat → Int64) → Nat → Int32 → Int32 → Int32 → Int32 → Int32 → Int32 → Option (Int32 × (Nat → Nat → Int32) × (Nat → Nat → Int64) × Nat)
  | 0, _, _, _, _, _, _, _, _, _ => none
  | m + 1, I, J, T, x1, x2, x3, x4, x5, x6 =>
    if (I 53 48) ≤ x6 then
     if x5 = 0 then
      f_X12_fits_142 n k29 I J T x1 x2 x4 x3 0
     else
      f_X12_fits_142 n k29 I J T x1 x2 x4 x3 (1 <<< (x4 &&& 31))
    else
     if x5 = 0 then
      f_X12_fits_119 n k29 (f_X12_fits_63 n k29 m) I J T x1 x2 x3 x4 x6
     else
      if ok_ix x6 10 then
       if ok_ix (I 71 x6.toNatClampNeg) 6 then
        if ok_ix x6 10 then
         if ok_ix x6 10 then
          if (lg_cmp ((J 66 ((I 71 x6.toNatClampNeg).toNatClampNeg)) * ((I 73 x6.toNatClampNeg).toInt64)) (((I 72 x6.toNatClampNeg).toInt64) * (J 53 33))) = 0 then
           f_X12_fits_120 n k29 (f_X12_fits_63 n k29 m) I J T x1 x2 x3 x4 x6 1
          else
           f_X12_fits_119 n k29 (f_X12_fits_63 n k29 m) I J T x1 x2 x3 x4 x6
         else none
        else none
       else none
      else none
def f_X12_fits_29 (n : Nat) : Nat → (Nat → Nat → Int32) → (Nat → Nat → Int64) → Nat → Int32 → Int32 → Int32 → Int32 → Option (Int32 × (Nat → Nat → Int32) × (Nat → Nat → Int64) × Nat)
  | 0, _, _, _, _, _, _, _ => none
  | m + 1, I, J, T, x1, x2, x3, x4 =>
    if (I 53 26) < x4 then
     if ok_ix (3 * x1) 18 then
      some (x3, (am_u I 60 ((3 * x1).toNatClampNeg) x2), J, T)
     else none
    else
     if ok_ix (3 * x1) 18 then
      (f_X12_everybody n ((am_u I 60 ((3 * x1).toNatClampNeg) x4)) J T).bind fun w4 =>
      (f_X12_layShares n ((am_u I 60 ((3 * x1).toNatClampNeg) x4)) J T w4 0).bind fun w5 =>
      f_X12_fits_63 n (f_X12_fits_29 n m) n w5.1 w5.2.1 w5.2.2 x1 x2 x3 x4 1 0
     else none
def f_X12_fits (n : Nat) (I : Nat → Nat → Int32) (J : Nat → Nat → Int64) (T : Nat) (x1 : Int32) : Option (Int32 × (Nat → Nat → Int32) × (Nat → Nat → Int64) × Nat) :=
  (f_X12_isRider n ((am_u I 53 0 0)) J T x1).bind fun w1 =>
  if w1 = 0 then
   some ((-1), (am_u I 53 0 0), J, T)
  else
   if ok_ix (3 * x1) 18 then
    f_X12_fits_29 n  n ((am_u I 53 0 0)) J T x1 (I 60 ((3 * x1).toNatClampNeg)) 0 1
   else none
set_option maxRecDepth 100000 in
set_option maxHeartbeats 4000000 in
theorem t_X12_fits_142 {l : Launch} {ρ : am_R} {n d gc gs : Nat} {k29 : (Nat → Nat → Int32) → (Nat → Nat → Int64) → Nat → Int32 → Int32 → Int32 → Int32 → Option (Int32 × (Nat → Nat → Int32) × (Nat → Nat → Int64) × Nat)} {I : Nat → Nat → Int32} {J : Nat → Nat → Int64} {T : Nat} {x1 : Int32} {x2 : Int32} {x4 : Int32} {s0 : Int32} {s1 : Int32} {q : Int32 × (Nat → Nat → Int32) × (Nat → Nat → Int64) × Nat} (hd : 2 * n + 13 ≤ (d + 1))
    (hk29 : ∀ (I : Nat → Nat → Int32) (J : Nat → Nat → Int64) (T : Nat) (x1 : Int32) (x2 : Int32) (x3 : Int32) (x4 : Int32), k29 I J T x1 x2 x3 x4 = some q → AW l ρ (d + 1) M_X12_fits 29 [(0, .ref 53), (1, .int x1), (2, .int x2), (3, .int x3), (4, .int x4)] [] (am_KD, gc, gs) (I, J, am_RT T) (am_KD, gc, gs) (fun v H' => v = [.int q.1] ∧ H' = (q.2.1, q.2.2.1, am_RT (q.2.2.2))))
    (h : f_X12_fits_142 n k29 I J T x1 x2 x4 s0 s1 = some q) : AW l ρ (d + 1) M_X12_fits 142 [(0, .ref 53), (1, .int x1), (2, .int x2), (4, .int x4)] [.int s1, .int s0] (am_KD, gc, gs) (I, J, am_RT T) (am_KD, gc, gs) (fun v H' => v = [.int q.1] ∧ H' = (q.2.1, q.2.2.1, am_RT (q.2.2.2))) := by
  unfold f_X12_fits_142 at h
  refine op_ior dX12_fits_142 ?_
  refine op_istore_n (L' := [(3, .int (s0 ||| s1)), (0, .ref 53), (1, .int x1), (2, .int x2), (4, .int x4)]) dX12_fits_143 rfl (by decide) rfl ?_
  refine op_iinc (k := 4) (v := x4 + 1) (L' := [(4, .int (x4 + 1)), (3, .int (s0 ||| s1)), (0, .ref 53), (1, .int x1), (2, .int x2)]) dX12_fits_144 rfl rfl (by decide) rfl ?_
  refine op_goto (tgt := 29) dX12_fits_147 (by decide) ?_
  refine AW.perm [2, 3, 4, 1, 0] rfl ?_
  exact hk29 _ _ _ _ _ _ _ h
set_option maxRecDepth 100000 in
set_option maxHeartbeats 4000000 in
theorem t_X12_fits_120 {l : Launch} {ρ : am_R} {n d gc gs : Nat} {k29 : (Nat → Nat → Int32) → (Nat → Nat → Int64) → Nat → Int32 → Int32 → Int32 → Int32 → Option (Int32 × (Nat → Nat → Int32) × (Nat → Nat → Int64) × Nat)} {k63 : (Nat → Nat → Int32) → (Nat → Nat → Int64) → Nat → Int32 → Int32 → Int32 → Int32 → Int32 → Int32 → Option (Int32 × (Nat → Nat → Int32) × (Nat → Nat → Int64) × Nat)} {I : Nat → Nat → Int32} {J : Nat → Nat → Int64} {T : Nat} {x1 : Int32} {x2 : Int32} {x3 : Int32} {x4 : Int32} {x6 : Int32} {s0 : Int32} {q : Int32 × (Nat → Nat → Int32) × (Nat → Nat → Int64) × Nat} (hd : 2 * n + 13 ≤ (d + 1))
    (hk29 : ∀ (I : Nat → Nat → Int32) (J : Nat → Nat → Int64) (T : Nat) (x1 : Int32) (x2 : Int32) (x3 : Int32) (x4 : Int32), k29 I J T x1 x2 x3 x4 = some q → AW l ρ (d + 1) M_X12_fits 29 [(0, .ref 53), (1, .int x1), (2, .int x2), (3, .int x3), (4, .int x4)] [] (am_KD, gc, gs) (I, J, am_RT T) (am_KD, gc, gs) (fun v H' => v = [.int q.1] ∧ H' = (q.2.1, q.2.2.1, am_RT (q.2.2.2))))
    (hk63 : ∀ (I : Nat → Nat → Int32) (J : Nat → Nat → Int64) (T : Nat) (x1 : Int32) (x2 : Int32) (x3 : Int32) (x4 : Int32) (x5 : Int32) (x6 : Int32), k63 I J T x1 x2 x3 x4 x5 x6 = some q → AW l ρ (d + 1) M_X12_fits 63 [(0, .ref 53), (1, .int x1), (2, .int x2), (3, .int x3), (4, .int x4), (5, .int x5), (6, .int x6)] [] (am_KD, gc, gs) (I, J, am_RT T) (am_KD, gc, gs) (fun v H' => v = [.int q.1] ∧ H' = (q.2.1, q.2.2.1, am_RT (q.2.2.2))))
    (h : f_X12_fits_120 n k29 k63 I J T x1 x2 x3 x4 x6 s0 = some q) : AW l ρ (d + 1) M_X12_fits 120 [(0, .ref 53), (1, .int x1), (2, .int x2), (3, .int x3), (4, .int x4), (6, .int x6)] [.int s0] (am_KD, gc, gs) (I, J, am_RT T) (am_KD, gc, gs) (fun v H' => v = [.int q.1] ∧ H' = (q.2.1, q.2.2.1, am_RT (q.2.2.2))) := by
  unfold f_X12_fits_120 at h
  refine op_istore (L' := [(5, .int s0), (0, .ref 53), (1, .int x1), (2, .int x2), (3, .int x3), (4, .int x4), (6, .int x6)]) dX12_fits_120 (by decide) rfl ?_
  refine op_iinc (k := 6) (v := x6 + 1) (L' := [(6, .int (x6 + 1)), (5, .int s0), (0, .ref 53), (1, .int x1), (2, .int x2), (3, .int x3), (4, .int x4)]) dX12_fits_122 rfl rfl (by decide) rfl ?_
  refine op_goto (tgt := 63) dX12_fits_125 (by decide) ?_
  refine AW.perm [2, 3, 4, 5, 6, 1, 0] rfl ?_
  exact hk63 _ _ _ _ _ _ _ _ _ h
set_option maxRecDepth 100000 in
set_option maxHeartbeats 4000000 in
theorem t_X12_fits_119 {l : Launch} {ρ : am_R} {n d gc gs : Nat} {k29 : (Nat → Nat → Int32) → (Nat → Nat → Int64) → Nat → Int32 → Int32 → Int32 → Int32 → Option (Int32 × (Nat → Nat → Int32) × (Nat → Nat → Int64) × Nat)} {k63 : (Nat → Nat → Int32) → (Nat → Nat → Int64) → Nat → Int32 → Int32 → Int32 → Int32 → Int32 → Int32 → Option (Int32 × (Nat → Nat → Int32) × (Nat → Nat → Int64) × Nat)} {I : Nat → Nat → Int32} {J : Nat → Nat → Int64} {T : Nat} {x1 : Int32} {x2 : Int32} {x3 : Int32} {x4 : Int32} {x6 : Int32} {q : Int32 × (Nat → Nat → Int32) × (Nat → Nat → Int64) × Nat} (hd : 2 * n + 13 ≤ (d + 1))
    (hk29 : ∀ (I : Nat → Nat → Int32) (J : Nat → Nat → Int64) (T : Nat) (x1 : Int32) (x2 : Int32) (x3 : Int32) (x4 : Int32), k29 I J T x1 x2 x3 x4 = some q → AW l ρ (d + 1) M_X12_fits 29 [(0, .ref 53), (1, .int x1), (2, .int x2), (3, .int x3), (4, .int x4)] [] (am_KD, gc, gs) (I, J, am_RT T) (am_KD, gc, gs) (fun v H' => v = [.int q.1] ∧ H' = (q.2.1, q.2.2.1, am_RT (q.2.2.2))))
    (hk63 : ∀ (I : Nat → Nat → Int32) (J : Nat → Nat → Int64) (T : Nat) (x1 : Int32) (x2 : Int32) (x3 : Int32) (x4 : Int32) (x5 : Int32) (x6 : Int32), k63 I J T x1 x2 x3 x4 x5 x6 = some q → AW l ρ (d + 1) M_X12_fits 63 [(0, .ref 53), (1, .int x1), (2, .int x2), (3, .int x3), (4, .int x4), (5, .int x5), (6, .int x6)] [] (am_KD, gc, gs) (I, J, am_RT T) (am_KD, gc, gs) (fun v H' => v = [.int q.1] ∧ H' = (q.2.1, q.2.2.1, am_RT (q.2.2.2))))
    (h : f_X12_fits_119 n k29 k63 I J T x1 x2 x3 x4 x6 = some q) : AW l ρ (d + 1) M_X12_fits 119 [(0, .ref 53), (1, .int x1), (2, .int x2), (3, .int x3), (4, .int x4), (6, .int x6)] [] (am_KD, gc, gs) (I, J, am_RT T) (am_KD, gc, gs) (fun v H' => v = [.int q.1] ∧ H' = (q.2.1, q.2.2.1, am_RT (q.2.2.2))) := by
  unfold f_X12_fits_119 at h
  refine op_iconst (v := 0) dX12_fits_119 (by decide) ?_
  exact t_X12_fits_120 hd hk29 hk63 h
set_option maxRecDepth 100000 in
set_option maxHeartbeats 4000000 in
theorem t_X12_fits_63 {l : Launch} {ρ : am_R} {n d gc gs : Nat} {k29 : (Nat → Nat → Int32) → (Nat → Nat → Int64) → Nat → Int32 → Int32 → Int32 → Int32 → Option (Int32 × (Nat → Nat → Int32) × (Nat → Nat → Int64) × Nat)} {q : Int32 × (Nat → Nat → Int32) × (Nat → Nat → Int64) × Nat} (hd : 2 * n + 13 ≤ (d + 1))
    (hk29 : ∀ (I : Nat → Nat → Int32) (J : Nat → Nat → Int64) (T : Nat) (x1 : Int32) (x2 : Int32) (x3 : Int32) (x4 : Int32), k29 I J T x1 x2 x3 x4 = some q → AW l ρ (d + 1) M_X12_fits 29 [(0, .ref 53), (1, .int x1), (2, .int x2), (3, .int x3), (4, .int x4)] [] (am_KD, gc, gs) (I, J, am_RT T) (am_KD, gc, gs) (fun v H' => v = [.int q.1] ∧ H' = (q.2.1, q.2.2.1, am_RT (q.2.2.2))))
    : ∀ (m : Nat) (I : Nat → Nat → Int32) (J : Nat → Nat → Int64) (T : Nat) (x1 : Int32) (x2 : Int32) (x3 : Int32) (x4 : Int32) (x5 : Int32) (x6 : Int32), f_X12_fits_63 n k29 m I J T x1 x2 x3 x4 x5 x6 = some q → AW l ρ (d + 1) M_X12_fits 63 [(0, .ref 53), (1, .int x1), (2, .int x2), (3, .int x3), (4, .int x4), (5, .int x5), (6, .int x6)] [] (am_KD, gc, gs) (I, J, am_RT T) (am_KD, gc, gs) (fun v H' => v = [.int q.1] ∧ H' = (q.2.1, q.2.2.1, am_RT (q.2.2.2))) := by
  intro m
  induction m with
  | zero =>
    intro I J T x1 x2 x3 x4 x5 x6 h
    rw [f_X12_fits_63] at h
    cases h
  | succ m ih =>
    intro I J T x1 x2 x3 x4 x5 x6 h
    rw [f_X12_fits_63] at h
    refine op_iload (k := 6) dX12_fits_63 rfl ?_
    refine op_aload_n (k := 0) dX12_fits_65 rfl rfl ?_
    refine st_getI (v := I 53 48) dX12_fits_66 fl_X12_300 kd_53 (by decide) rfl rfl ?_
    refine op_icmp_ge (tgt := 128) dX12_fits_69 (by decide) (fun c1 => ?_) (fun c1 => ?_)
    · replace h := am_ip c1 h
      refine op_iload_n (k := 3) dX12_fits_128 rfl rfl ?_
      refine op_iload (k := 5) dX12_fits_129 rfl ?_
      refine op_if_eq (tgt := 141) dX12_fits_131 (by decide) (fun c2 => ?_) (fun c2 => ?_)
      · replace h := am_ip c2 h
        refine op_iconst (v := 0) dX12_fits_141 (by decide) ?_
        refine AW.perm [0, 1, 2, 4] rfl ?_
        exact t_X12_fits_142 hd hk29 h
      · replace h := am_ie c2 h
        refine op_iconst (v := 1) dX12_fits_134 (by decide) ?_
        refine op_iload (k := 4) dX12_fits_135 rfl ?_
        refine op_ishl dX12_fits_137 ?_
        refine op_goto (tgt := 142) dX12_fits_138 (by decide) ?_
        refine AW.perm [0, 1, 2, 4] rfl ?_
        exact t_X12_fits_142 hd hk29 h
    · replace h := am_ie c1 h
      refine op_iload (k := 5) dX12_fits_72 rfl ?_
      refine op_if_eq (tgt := 119) dX12_fits_74 (by decide) (fun c3 => ?_) (fun c3 => ?_)
      · replace h := am_ip c3 h
        refine AW.perm [0, 1, 2, 3, 4, 6] rfl ?_
        exact t_X12_fits_119 hd hk29 ih h
      · replace h := am_ie c3 h
        refine op_aload_n (k := 0) dX12_fits_77 rfl rfl ?_
        refine st_getR (z := 66) dX12_fits_78 fl_X12_65 kd_53 (by decide) rfl rr_53_32 ?_
        refine op_aload_n (k := 0) dX12_fits_81 rfl rfl ?_
        refine st_getR (z := 71) dX12_fits_82 fl_X12_81 kd_53 (by decide) rfl rr_53_45 ?_
        refine op_iload (k := 6) dX12_fits_85 rfl ?_
        obtain ⟨g4, h⟩ := am_gd h
        refine st_iald (k := x6.toNatClampNeg) (v := I 71 x6.toNatClampNeg) dX12_fits_87 kd_71 g4 rfl rfl ?_
        obtain ⟨g5, h⟩ := am_gd h
        refine st_lald (k := (I 71 x6.toNatClampNeg).toNatClampNeg) (v := J 66 ((I 71 x6.toNatClampNeg).toNatClampNeg)) dX12_fits_88 kd_66 g5 rfl rfl ?_
        refine op_aload_n (k := 0) dX12_fits_89 rfl rfl ?_
        refine st_getR (z := 73) dX12_fits_90 fl_X12_87 kd_53 (by decide) rfl rr_53_47 ?_
        refine op_iload (k := 6) dX12_fits_93 rfl ?_
        obtain ⟨g6, h⟩ := am_gd h
        refine st_iald (k := x6.toNatClampNeg) (v := I 73 x6.toNatClampNeg) dX12_fits_95 kd_73 g6 rfl rfl ?_
        refine op_i2l dX12_fits_96 ?_
        refine op_lmul dX12_fits_97 ?_
        refine op_aload_n (k := 0) dX12_fits_98 rfl rfl ?_
        refine st_getR (z := 72) dX12_fits_99 fl_X12_84 kd_53 (by decide) rfl rr_53_46 ?_
        refine op_iload (k := 6) dX12_fits_102 rfl ?_
        obtain ⟨g7, h⟩ := am_gd h
        refine st_iald (k := x6.toNatClampNeg) (v := I 72 x6.toNatClampNeg) dX12_fits_104 kd_72 g7 rfl rfl ?_
        refine op_i2l dX12_fits_105 ?_
        refine op_aload_n (k := 0) dX12_fits_106 rfl rfl ?_
        refine st_getL (v := J 53 33) dX12_fits_107 fl_X12_361 kd_53 (by decide) rfl rfl ?_
        refine op_lmul dX12_fits_110 ?_
        refine op_lcmp dX12_fits_111 ?_
        refine op_if_ne (tgt := 119) dX12_fits_112 (by decide) (fun c8 => ?_) (fun c8 => ?_)
        · replace h := am_ie c8 h
          refine AW.perm [0, 1, 2, 3, 4, 6] rfl ?_
          exact t_X12_fits_119 hd hk29 ih h
        · replace h := am_ip c8 h
          refine op_iconst (v := 1) dX12_fits_115 (by decide) ?_
          refine op_goto (tgt := 120) dX12_fits_116 (by decide) ?_
          refine AW.perm [0, 1, 2, 3, 4, 6] rfl ?_
          exact t_X12_fits_120 hd hk29 ih h
set_option maxRecDepth 100000 in
set_option maxHeartbeats 4000000 in
theorem t_X12_fits_29 {l : Launch} {ρ : am_R} {n d gc gs : Nat} {q : Int32 × (Nat → Nat → Int32) × (Nat → Nat → Int64) × Nat} (hd : 2 * n + 13 ≤ (d + 1))
    : ∀ (m : Nat) (I : Nat → Nat → Int32) (J : Nat → Nat → Int64) (T : Nat) (x1 : Int32) (x2 : Int32) (x3 : Int32) (x4 : Int32), f_X12_fits_29 n  m I J T x1 x2 x3 x4 = some q → AW l ρ (d + 1) M_X12_fits 29 [(0, .ref 53), (1, .int x1), (2, .int x2), (3, .int x3), (4, .int x4)] [] (am_KD, gc, gs) (I, J, am_RT T) (am_KD, gc, gs) (fun v H' => v = [.int q.1] ∧ H' = (q.2.1, q.2.2.1, am_RT (q.2.2.2))) := by
  intro m
  induction m with
  | zero =>
    intro I J T x1 x2 x3 x4 h
    rw [f_X12_fits_29] at h
    cases h
  | succ m ih =>
    intro I J T x1 x2 x3 x4 h
    rw [f_X12_fits_29] at h
    refine op_iload (k := 4) dX12_fits_29 rfl ?_
    refine op_aload_n (k := 0) dX12_fits_31 rfl rfl ?_
    refine st_getI (v := I 53 26) dX12_fits_32 fl_X12_294 kd_53 (by decide) rfl rfl ?_
    refine op_icmp_gt (tgt := 150) dX12_fits_35 (by decide) (fun c1 => ?_) (fun c1 => ?_)
    · replace h := am_ip c1 h
      refine op_aload_n (k := 0) dX12_fits_150 rfl rfl ?_
      refine st_getR (z := 60) dX12_fits_151 fl_X12_43 kd_53 (by decide) rfl rr_53_20 ?_
      refine op_iconst (v := 3) dX12_fits_154 (by decide) ?_
      refine op_iload_n (k := 1) dX12_fits_155 rfl rfl ?_
      refine op_imul dX12_fits_156 ?_
      refine op_iload_n (k := 2) dX12_fits_157 rfl rfl ?_
      obtain ⟨g2, h⟩ := am_gd h
      refine st_iast (k := (3 * x1).toNatClampNeg) dX12_fits_158 kd_60 g2 rfl ?_
      refine op_iload_n (k := 3) dX12_fits_159 rfl rfl ?_
      cases h
      exact (op_iret dX12_fits_160 rfl rfl ⟨rfl, rfl⟩)
    · replace h := am_ie c1 h
      refine op_aload_n (k := 0) dX12_fits_38 rfl rfl ?_
      refine st_getR (z := 60) dX12_fits_39 fl_X12_43 kd_53 (by decide) rfl rr_53_20 ?_
      refine op_iconst (v := 3) dX12_fits_42 (by decide) ?_
      refine op_iload_n (k := 1) dX12_fits_43 rfl rfl ?_
      refine op_imul dX12_fits_44 ?_
      refine op_iload (k := 4) dX12_fits_45 rfl ?_
      obtain ⟨g3, h⟩ := am_gd h
      refine st_iast (k := (3 * x1).toNatClampNeg) dX12_fits_47 kd_60 g3 rfl ?_
      refine op_aload_n (k := 0) dX12_fits_48 rfl rfl ?_
      refine op_aload_n (k := 0) dX12_fits_49 rfl rfl ?_
      obtain ⟨w4, ew4, h⟩ := am_bd h
      refine op_callV (M' := M_X12_everybody) [] (S0 := [.ref 53]) dX12_fits_50 tw_1670 ok_X12_everybody tw_1672 tw_89 kd_53 cls_12 rfl rfl rfl (Nat.le_of_ble_eq_true rfl) (Nat.le_of_ble_eq_true rfl) (t_X12_everybody (by omega) ew4) (am_le_rf _) ?_
      rintro _ _ ⟨rfl, rfl⟩
      refine op_iconst (v := 0) dX12_fits_53 (by decide) ?_
      obtain ⟨w5, ew5, h⟩ := am_bd h
      refine op_callV (M' := M_X12_layShares) [.int w4, .int 0] (S0 := []) dX12_fits_54 tw_1633 ok_X12_layShares tw_1635 tw_84 kd_53 cls_12 rfl rfl rfl (Nat.le_of_ble_eq_true rfl) (Nat.le_of_ble_eq_true rfl) (t_X12_layShares (by omega) ew5) (am_le_rf _) ?_
      rintro _ _ ⟨rfl, rfl⟩
      refine op_iconst (v := 1) dX12_fits_57 (by decide) ?_
      refine op_istore (L' := [(5, .int 1), (0, .ref 53), (1, .int x1), (2, .int x2), (3, .int x3), (4, .int x4)]) dX12_fits_58 (by decide) rfl ?_
      refine op_iconst (v := 0) dX12_fits_60 (by decide) ?_
      refine op_istore (L' := [(6, .int 0), (5, .int 1), (0, .ref 53), (1, .int x1), (2, .int x2), (3, .int x3), (4, .int x4)]) dX12_fits_61 (by decide) rfl ?_
      refine AW.perm [2, 3, 4, 5, 6, 1, 0] rfl ?_
      exact t_X12_fits_63 hd ih n _ _ _ _ _ _ _ _ _ h
set_option maxRecDepth 100000 in
set_option maxHeartbeats 4000000 in
theorem t_X12_fits_0 {l : Launch} {ρ : am_R} {n d gc gs : Nat} {I : Nat → Nat → Int32} {J : Nat → Nat → Int64} {T : Nat} {x1 : Int32} {q : Int32 × (Nat → Nat → Int32) × (Nat → Nat → Int64) × Nat} (hd : 2 * n + 13 ≤ (d + 1))
    (h : f_X12_fits n  I J T x1 = some q) : AW l ρ (d + 1) M_X12_fits 0 [(0, .ref 53), (1, .int x1)] [] (am_KD, gc, gs) (I, J, am_RT T) (am_KD, gc, gs) (fun v H' => v = [.int q.1] ∧ H' = (q.2.1, q.2.2.1, am_RT (q.2.2.2))) := by
  unfold f_X12_fits at h
  refine op_aload_n (k := 0) dX12_fits_0 rfl rfl ?_
  refine op_iconst (v := 0) dX12_fits_1 (by decide) ?_
  refine st_putI dX12_fits_2 fl_X12_108 kd_53 (by decide) rfl ?_
  refine op_aload_n (k := 0) dX12_fits_5 rfl rfl ?_
  refine op_iload_n (k := 1) dX12_fits_6 rfl rfl ?_
  obtain ⟨w1, ew1, h⟩ := am_bd h
  refine op_callV (M' := M_X12_isRider) [.int x1] (S0 := []) dX12_fits_7 tw_1564 ok_X12_isRider tw_1566 tw_75 kd_53 cls_12 rfl rfl rfl (Nat.le_of_ble_eq_true rfl) (Nat.le_of_ble_eq_true rfl) (t_X12_isRider (by omega) ew1) (am_le_rf _) ?_
  rintro _ _ ⟨rfl, rfl⟩
  refine op_if_ne (tgt := 15) dX12_fits_10 (by decide) (fun c2 => ?_) (fun c2 => ?_)
  · replace h := am_ie c2 h
    refine op_aload_n (k := 0) dX12_fits_15 rfl rfl ?_
    refine st_getR (z := 60) dX12_fits_16 fl_X12_43 kd_53 (by decide) rfl rr_53_20 ?_
    refine op_iconst (v := 3) dX12_fits_19 (by decide) ?_
    refine op_iload_n (k := 1) dX12_fits_20 rfl rfl ?_
    refine op_imul dX12_fits_21 ?_
    obtain ⟨g3, h⟩ := am_gd h
    refine st_iald (k := (3 * x1).toNatClampNeg) (v := I 60 ((3 * x1).toNatClampNeg)) dX12_fits_22 kd_60 g3 rfl rfl ?_
    refine op_istore_n (L' := [(2, .int (I 60 ((3 * x1).toNatClampNeg))), (0, .ref 53), (1, .int x1)]) dX12_fits_23 rfl (by decide) rfl ?_
    refine op_iconst (v := 0) dX12_fits_24 (by decide) ?_
    refine op_istore_n (L' := [(3, .int 0), (2, .int (I 60 ((3 * x1).toNatClampNeg))), (0, .ref 53), (1, .int x1)]) dX12_fits_25 rfl (by decide) rfl ?_
    refine op_iconst (v := 1) dX12_fits_26 (by decide) ?_
    refine op_istore (L' := [(4, .int 1), (3, .int 0), (2, .int (I 60 ((3 * x1).toNatClampNeg))), (0, .ref 53), (1, .int x1)]) dX12_fits_27 (by decide) rfl ?_
    refine AW.perm [3, 4, 2, 1, 0] rfl ?_
    exact t_X12_fits_29 hd  n _ _ _ _ _ _ _ h
  · replace h := am_ip c2 h
    refine op_iconst (v := (-1)) dX12_fits_13 (by decide) ?_
    cases h
    exact (op_iret dX12_fits_14 rfl rfl ⟨rfl, rfl⟩)
theorem t_X12_fits {l : Launch} {ρ : am_R} {n d gc gs : Nat} {I : Nat → Nat → Int32} {J : Nat → Nat → Int64} {T : Nat} {x1 : Int32} {q : Int32 × (Nat → Nat → Int32) × (Nat → Nat → Int64) × Nat} (hd : 2 * n + 13 ≤ d) (h : f_X12_fits n I J T x1 = some q) : AW l ρ d M_X12_fits 0 [(0, .ref 53), (1, .int x1)] [] (am_KD, gc, gs) (I, J, am_RT T) (am_KD, gc, gs) (fun v H' => v = [.int q.1] ∧ H' = (q.2.1, q.2.2.1, am_RT (q.2.2.2))) := by
  obtain ⟨d, rfl⟩ : ∃ e, d = e + 1 := ⟨d - 1, by omega⟩
  exact t_X12_fits_0 hd h
def f_X12_rideAll_13 (n : Nat) : Nat → (Nat → Nat → Int32) → (Nat → Nat → Int64) → Nat → Int32 → Int32 → Int32 → Int32 → Int32 → Int32 → Option (Int32 × (Nat → Nat → Int32))
  | 0, _, _, _, _, _, _, _, _, _ => none
  | m + 1, I, J, T, x1, x2, x3, x4, x5, x6 =>
    if (I 53 36) ≤ x6 then
     if x1 = 0 then
      some (x3, I)
     else
      if x1 = 1 then
       some (x4, I)
      else
       some (x5, I)
    else
     if ok_ix x6 6 then
      if ok_ix (3 * (I 67 x6.toNatClampNeg)) 18 then
       (f_X12_apart n I J T x2 (I 60 ((3 * (I 67 x6.toNatClampNeg)).toNatClampNeg))).bind fun w6 =>
       if ok_ix (3 * (I 67 x6.toNatClampNeg)) 18 then
        if ok_ix (I 67 x6.toNatClampNeg) 6 then
         (f_X12_milesOf n ((am_u I 68 ((I 67 x6.toNatClampNeg).toNatClampNeg) (x3 + w6))) J T (1 <<< ((I 67 x6.toNatClampNeg) &&& 31))).bind fun w9 =>
         f_X12_rideAll_13 n  m ((am_u I 68 ((I 67 x6.toNatClampNeg).toNatClampNeg) (x3 + w6))) J T x1 (I 60 ((3 * (I 67 x6.toNatClampNeg)).toNatClampNeg)) (x3 + w6) (x4 + (x3 + w6)) (am_max x5 ((x3 + w6) - w9)) (x6 + 1)
        else none
       else none
      else none
     else none
def f_X12_rideAll (n : Nat) (I : Nat → Nat → Int32) (J : Nat → Nat → Int64) (T : Nat) (x1 : Int32) : Option (Int32 × (Nat → Nat → Int32)) :=
  f_X12_rideAll_13 n  n I J T x1 0 0 0 0 0
set_option maxRecDepth 100000 in
set_option maxHeartbeats 4000000 in
theorem t_X12_rideAll_13 {l : Launch} {ρ : am_R} {n d gc gs : Nat} {q : Int32 × (Nat → Nat → Int32)} (hd : 0 * n + 3 ≤ (d + 1))
    : ∀ (m : Nat) (I : Nat → Nat → Int32) (J : Nat → Nat → Int64) (T : Nat) (x1 : Int32) (x2 : Int32) (x3 : Int32) (x4 : Int32) (x5 : Int32) (x6 : Int32), f_X12_rideAll_13 n  m I J T x1 x2 x3 x4 x5 x6 = some q → AW l ρ (d + 1) M_X12_rideAll 13 [(0, .ref 53), (1, .int x1), (2, .int x2), (3, .int x3), (4, .int x4), (5, .int x5), (6, .int x6)] [] (am_KD, gc, gs) (I, J, am_RT T) (am_KD, gc, gs) (fun v H' => v = [.int q.1] ∧ H' = (q.2, J, am_RT T)) := by
  intro m
  induction m with
  | zero =>
    intro I J T x1 x2 x3 x4 x5 x6 h
    rw [f_X12_rideAll_13] at h
    cases h
  | succ m ih =>
    intro I J T x1 x2 x3 x4 x5 x6 h
    rw [f_X12_rideAll_13] at h
    refine op_iload (k := 6) dX12_rideAll_13 rfl ?_
    refine op_aload_n (k := 0) dX12_rideAll_15 rfl rfl ?_
    refine st_getI (v := I 53 36) dX12_rideAll_16 fl_X12_393 kd_53 (by decide) rfl rfl ?_
    refine op_icmp_ge (tgt := 95) dX12_rideAll_19 (by decide) (fun c1 => ?_) (fun c1 => ?_)
    · replace h := am_ip c1 h
      refine op_iload_n (k := 1) dX12_rideAll_95 rfl rfl ?_
      refine op_if_ne (tgt := 103) dX12_rideAll_96 (by decide) (fun c2 => ?_) (fun c2 => ?_)
      · replace h := am_ie c2 h
        refine op_iload_n (k := 1) dX12_rideAll_103 rfl rfl ?_
        refine op_iconst (v := 1) dX12_rideAll_104 (by decide) ?_
        refine op_icmp_ne (tgt := 113) dX12_rideAll_105 (by decide) (fun c3 => ?_) (fun c3 => ?_)
        · replace h := am_ie c3 h
          refine op_iload (k := 5) dX12_rideAll_113 rfl ?_
          cases h
          exact (op_iret dX12_rideAll_115 rfl rfl ⟨rfl, rfl⟩)
        · replace h := am_ip c3 h
          refine op_iload (k := 4) dX12_rideAll_108 rfl ?_
          refine op_goto (tgt := 115) dX12_rideAll_110 (by decide) ?_
          cases h
          exact (op_iret dX12_rideAll_115 rfl rfl ⟨rfl, rfl⟩)
      · replace h := am_ip c2 h
        refine op_iload_n (k := 3) dX12_rideAll_99 rfl rfl ?_
        refine op_goto (tgt := 115) dX12_rideAll_100 (by decide) ?_
        cases h
        exact (op_iret dX12_rideAll_115 rfl rfl ⟨rfl, rfl⟩)
    · replace h := am_ie c1 h
      refine op_aload_n (k := 0) dX12_rideAll_22 rfl rfl ?_
      refine st_getR (z := 67) dX12_rideAll_23 fl_X12_69 kd_53 (by decide) rfl rr_53_34 ?_
      refine op_iload (k := 6) dX12_rideAll_26 rfl ?_
      obtain ⟨g4, h⟩ := am_gd h
      refine st_iald (k := x6.toNatClampNeg) (v := I 67 x6.toNatClampNeg) dX12_rideAll_28 kd_67 g4 rfl rfl ?_
      refine op_istore (L' := [(7, .int (I 67 x6.toNatClampNeg)), (0, .ref 53), (1, .int x1), (2, .int x2), (3, .int x3), (4, .int x4), (5, .int x5), (6, .int x6)]) dX12_rideAll_29 (by decide) rfl ?_
      refine op_iload_n (k := 4) dX12_rideAll_31 rfl rfl ?_
      refine op_aload_n (k := 1) dX12_rideAll_32 rfl rfl ?_
      refine op_iload_n (k := 3) dX12_rideAll_33 rfl rfl ?_
      refine op_aload_n (k := 1) dX12_rideAll_34 rfl rfl ?_
      refine st_getR (z := 60) dX12_rideAll_35 fl_X12_43 kd_53 (by decide) rfl rr_53_20 ?_
      refine op_iconst (v := 3) dX12_rideAll_38 (by decide) ?_
      refine op_iload (k := 0) dX12_rideAll_39 rfl ?_
      refine op_imul dX12_rideAll_41 ?_
      obtain ⟨g5, h⟩ := am_gd h
      refine st_iald (k := (3 * (I 67 x6.toNatClampNeg)).toNatClampNeg) (v := I 60 ((3 * (I 67 x6.toNatClampNeg)).toNatClampNeg)) dX12_rideAll_42 kd_60 g5 rfl rfl ?_
      obtain ⟨w6, ew6, h⟩ := am_bd h
      refine op_callV (M' := M_X12_apart) [.int x2, .int (I 60 ((3 * (I 67 x6.toNatClampNeg)).toNatClampNeg))] (S0 := [.int x3]) dX12_rideAll_43 tw_1594 ok_X12_apart tw_1596 tw_80 kd_53 cls_12 rfl rfl rfl (Nat.le_of_ble_eq_true rfl) (Nat.le_of_ble_eq_true rfl) (t_X12_apart (by omega) ew6) (am_le_rf _) ?_
      rintro _ _ ⟨rfl, rfl⟩
      refine op_iadd dX12_rideAll_46 ?_
      refine op_istore_n (L' := [(3, .int (x3 + w6)), (7, .int (I 67 x6.toNatClampNeg)), (0, .ref 53), (1, .int x1), (2, .int x2), (4, .int x4), (5, .int x5), (6, .int x6)]) dX12_rideAll_47 rfl (by decide) rfl ?_
      refine op_aload_n (k := 2) dX12_rideAll_48 rfl rfl ?_
      refine st_getR (z := 60) dX12_rideAll_49 fl_X12_43 kd_53 (by decide) rfl rr_53_20 ?_
      refine op_iconst (v := 3) dX12_rideAll_52 (by decide) ?_
      refine op_iload (k := 1) dX12_rideAll_53 rfl ?_
      refine op_imul dX12_rideAll_55 ?_
      obtain ⟨g7, h⟩ := am_gd h
      refine st_iald (k := (3 * (I 67 x6.toNatClampNeg)).toNatClampNeg) (v := I 60 ((3 * (I 67 x6.toNatClampNeg)).toNatClampNeg)) dX12_rideAll_56 kd_60 g7 rfl rfl ?_
      refine op_istore_n (L' := [(2, .int (I 60 ((3 * (I 67 x6.toNatClampNeg)).toNatClampNeg))), (3, .int (x3 + w6)), (7, .int (I 67 x6.toNatClampNeg)), (0, .ref 53), (1, .int x1), (4, .int x4), (5, .int x5), (6, .int x6)]) dX12_rideAll_57 rfl (by decide) rfl ?_
      refine op_aload_n (k := 3) dX12_rideAll_58 rfl rfl ?_
      refine st_getR (z := 68) dX12_rideAll_59 fl_X12_72 kd_53 (by decide) rfl rr_53_35 ?_
      refine op_iload (k := 2) dX12_rideAll_62 rfl ?_
      refine op_iload_n (k := 1) dX12_rideAll_64 rfl rfl ?_
      obtain ⟨g8, h⟩ := am_gd h
      refine st_iast (k := (I 67 x6.toNatClampNeg).toNatClampNeg) dX12_rideAll_65 kd_68 g8 rfl ?_
      refine op_iload (k := 5) dX12_rideAll_66 rfl ?_
      refine op_iload_n (k := 1) dX12_rideAll_68 rfl rfl ?_
      refine op_iadd dX12_rideAll_69 ?_
      refine op_istore (L' := [(4, .int (x4 + (x3 + w6))), (2, .int (I 60 ((3 * (I 67 x6.toNatClampNeg)).toNatClampNeg))), (3, .int (x3 + w6)), (7, .int (I 67 x6.toNatClampNeg)), (0, .ref 53), (1, .int x1), (5, .int x5), (6, .int x6)]) dX12_rideAll_70 (by decide) rfl ?_
      refine op_iload (k := 6) dX12_rideAll_72 rfl ?_
      refine op_iload_n (k := 2) dX12_rideAll_74 rfl rfl ?_
      refine op_aload_n (k := 4) dX12_rideAll_75 rfl rfl ?_
      refine op_iconst (v := 1) dX12_rideAll_76 (by decide) ?_
      refine op_iload (k := 3) dX12_rideAll_77 rfl ?_
      refine op_ishl dX12_rideAll_79 ?_
      obtain ⟨w9, ew9, h⟩ := am_bd h
      refine op_callV (M' := M_X12_milesOf) [.int (1 <<< ((I 67 x6.toNatClampNeg) &&& 31))] (S0 := [.int (x3 + w6), .int x5]) dX12_rideAll_80 tw_1569 ok_X12_milesOf tw_1571 tw_76 kd_53 cls_12 rfl rfl rfl (Nat.le_of_ble_eq_true rfl) (Nat.le_of_ble_eq_true rfl) (t_X12_milesOf (by omega) ew9) (am_le_rf _) ?_
      rintro _ _ ⟨rfl, rfl⟩
      refine op_isub dX12_rideAll_83 ?_
      refine op_mmax dX12_rideAll_84 tw_1581 tw_853 tw_119 twl_854 (by simp [Value.category]) ⟨Nat.le_refl _, Nat.le_refl _⟩ ?_
      refine op_istore (L' := [(5, .int (am_max x5 ((x3 + w6) - w9))), (4, .int (x4 + (x3 + w6))), (2, .int (I 60 ((3 * (I 67 x6.toNatClampNeg)).toNatClampNeg))), (3, .int (x3 + w6)), (7, .int (I 67 x6.toNatClampNeg)), (0, .ref 53), (1, .int x1), (6, .int x6)]) dX12_rideAll_87 (by decide) rfl ?_
      refine op_iinc (k := 7) (v := x6 + 1) (L' := [(6, .int (x6 + 1)), (5, .int (am_max x5 ((x3 + w6) - w9))), (4, .int (x4 + (x3 + w6))), (2, .int (I 60 ((3 * (I 67 x6.toNatClampNeg)).toNatClampNeg))), (3, .int (x3 + w6)), (7, .int (I 67 x6.toNatClampNeg)), (0, .ref 53), (1, .int x1)]) dX12_rideAll_89 rfl rfl (by decide) rfl ?_
      refine op_goto (tgt := 13) dX12_rideAll_92 (by decide) ?_
      refine AW.perm [6, 7, 3, 4, 2, 1, 0] rfl ?_
      exact ih _ _ _ _ _ _ _ _ _ h
set_option maxRecDepth 100000 in
set_option maxHeartbeats 4000000 in
theorem t_X12_rideAll_0 {l : Launch} {ρ : am_R} {n d gc gs : Nat} {I : Nat → Nat → Int32} {J : Nat → Nat → Int64} {T : Nat} {x1 : Int32} {q : Int32 × (Nat → Nat → Int32)} (hd : 0 * n + 3 ≤ (d + 1))
    (h : f_X12_rideAll n  I J T x1 = some q) : AW l ρ (d + 1) M_X12_rideAll 0 [(0, .ref 53), (1, .int x1)] [] (am_KD, gc, gs) (I, J, am_RT T) (am_KD, gc, gs) (fun v H' => v = [.int q.1] ∧ H' = (q.2, J, am_RT T)) := by
  unfold f_X12_rideAll at h
  refine op_iconst (v := 0) dX12_rideAll_0 (by decide) ?_
  refine op_istore_n (L' := [(2, .int 0), (0, .ref 53), (1, .int x1)]) dX12_rideAll_1 rfl (by decide) rfl ?_
  refine op_iconst (v := 0) dX12_rideAll_2 (by decide) ?_
  refine op_istore_n (L' := [(3, .int 0), (2, .int 0), (0, .ref 53), (1, .int x1)]) dX12_rideAll_3 rfl (by decide) rfl ?_
  refine op_iconst (v := 0) dX12_rideAll_4 (by decide) ?_
  refine op_istore (L' := [(4, .int 0), (3, .int 0), (2, .int 0), (0, .ref 53), (1, .int x1)]) dX12_rideAll_5 (by decide) rfl ?_
  refine op_iconst (v := 0) dX12_rideAll_7 (by decide) ?_
  refine op_istore (L' := [(5, .int 0), (4, .int 0), (3, .int 0), (2, .int 0), (0, .ref 53), (1, .int x1)]) dX12_rideAll_8 (by decide) rfl ?_
  refine op_iconst (v := 0) dX12_rideAll_10 (by decide) ?_
  refine op_istore (L' := [(6, .int 0), (5, .int 0), (4, .int 0), (3, .int 0), (2, .int 0), (0, .ref 53), (1, .int x1)]) dX12_rideAll_11 (by decide) rfl ?_
  refine AW.perm [5, 6, 4, 3, 2, 1, 0] rfl ?_
  exact t_X12_rideAll_13 hd  n _ _ _ _ _ _ _ _ _ h
theorem t_X12_rideAll {l : Launch} {ρ : am_R} {n d gc gs : Nat} {I : Nat → Nat → Int32} {J : Nat → Nat → Int64} {T : Nat} {x1 : Int32} {q : Int32 × (Nat → Nat → Int32)} (hd : 0 * n + 3 ≤ d) (h : f_X12_rideAll n I J T x1 = some q) : AW l ρ d M_X12_rideAll 0 [(0, .ref 53), (1, .int x1)] [] (am_KD, gc, gs) (I, J, am_RT T) (am_KD, gc, gs) (fun v H' => v = [.int q.1] ∧ H' = (q.2, J, am_RT T)) := by
  obtain ⟨d, rfl⟩ : ∃ e, d = e + 1 := ⟨d - 1, by omega⟩
  exact t_X12_rideAll_0 hd h
def f_X12_goOrders_116 (n : Nat) (rc_X12_goOrders : (Nat → Nat → Int32) → (Nat → Nat → Int64) → Nat → Int32 → Int32 → Int32 → Option ((Nat → Nat → Int32))) (k44 : (Nat → Nat → Int32) → (Nat → Nat → Int64) → Nat → Int32 → Int32 → Int32 → Int32 → Option ((Nat → Nat → Int32))) (I : Nat → Nat → Int32) (J : Nat → Nat → Int64) (T : Nat) (x1 : Int32) (x2 : Int32) (x3 : Int32) (x4 : Int32) : Option ((Nat → Nat → Int32)) :=
  k44 I J T x1 x2 x3 (x4 + 1)
def f_X12_goOrders_44 (n : Nat) (rc_X12_goOrders : (Nat → Nat → Int32) → (Nat → Nat → Int64) → Nat → Int32 → Int32 → Int32 → Option ((Nat → Nat → Int32))) : Nat → (Nat → Nat → Int32) → (Nat → Nat → Int64) → Nat → Int32 → Int32 → Int32 → Int32 → Option ((Nat → Nat → Int32))
  | 0, _, _, _, _, _, _, _ => none
  | m + 1, I, J, T, x1, x2, x3, x4 =>
    if (I 53 27) ≤ x4 then
     some (I)
    else
     (f_X12_has n I J T x1 x4).bind fun w2 =>
     if w2 = 0 then
      f_X12_goOrders_116 n rc_X12_goOrders (f_X12_goOrders_44 n rc_X12_goOrders m) I J T x1 x2 x3 x4
     else
      if ok_ix (I 53 36) 6 then
       (rc_X12_goOrders ((am_u (am_u I 67 ((I 53 36).toNatClampNeg) x4) 53 36 ((I 53 36) + 1))) J T (x1 &&& ((1 <<< (x4 &&& 31)) ^^^ ((-1)))) ((10 * x2) + x4) x3).bind fun w5 =>
       f_X12_goOrders_116 n rc_X12_goOrders (f_X12_goOrders_44 n rc_X12_goOrders m) ((am_u w5 53 36 ((w5 53 36) - 1))) J T x1 x2 x3 x4
      else none
def f_X12_goOrders_29 (n : Nat) (rc_X12_goOrders : (Nat → Nat → Int32) → (Nat → Nat → Int64) → Nat → Int32 → Int32 → Int32 → Option ((Nat → Nat → Int32))) (I : Nat → Nat → Int32) (J : Nat → Nat → Int64) (T : Nat) (x2 : Int32) (x4 : Int32) : Option ((Nat → Nat → Int32)) :=
  some ((am_u (am_u I 53 37 x2) 53 38 x4))
def fb_X12_goOrders (n : Nat) (rc_X12_goOrders : (Nat → Nat → Int32) → (Nat → Nat → Int64) → Nat → Int32 → Int32 → Int32 → Option ((Nat → Nat → Int32))) (I : Nat → Nat → Int32) (J : Nat → Nat → Int64) (T : Nat) (x1 : Int32) (x2 : Int32) (x3 : Int32) : Option ((Nat → Nat → Int32)) :=
  if x1 = 0 then
   (f_X12_rideAll n I J T x3).bind fun w2 =>
   if (w2.2 53 37) = ((-1)) then
    f_X12_goOrders_29 n rc_X12_goOrders w2.2 J T x2 w2.1
   else
    if w2.1 < (w2.2 53 38) then
     f_X12_goOrders_29 n rc_X12_goOrders w2.2 J T x2 w2.1
    else
     some (w2.2)
  else
   f_X12_goOrders_44 n rc_X12_goOrders n I J T x1 x2 x3 0
def fx_X12_goOrders (n : Nat) : Nat → ((Nat → Nat → Int32) → (Nat → Nat → Int64) → Nat → Int32 → Int32 → Int32 → Option ((Nat → Nat → Int32)))
  | 0 => (fun _ _ _ _ _ _ => none)
  | r + 1 => (fb_X12_goOrders n (fx_X12_goOrders n r))
def f_X12_goOrders (n : Nat) : (Nat → Nat → Int32) → (Nat → Nat → Int64) → Nat → Int32 → Int32 → Int32 → Option ((Nat → Nat → Int32)) := (fx_X12_goOrders n n)
set_option maxRecDepth 100000 in
set_option maxHeartbeats 4000000 in
theorem t_X12_goOrders_116 {l : Launch} {ρ : am_R} {n d gc gs : Nat} {rc_X12_goOrders : (Nat → Nat → Int32) → (Nat → Nat → Int64) → Nat → Int32 → Int32 → Int32 → Option ((Nat → Nat → Int32))} {k44 : (Nat → Nat → Int32) → (Nat → Nat → Int64) → Nat → Int32 → Int32 → Int32 → Int32 → Option ((Nat → Nat → Int32))} {I : Nat → Nat → Int32} {J : Nat → Nat → Int64} {T : Nat} {x1 : Int32} {x2 : Int32} {x3 : Int32} {x4 : Int32} {q : (Nat → Nat → Int32)} (hd : 0 * n + 4 ≤ (d + 1))
    (hr_X12_goOrders : ∀ (I : Nat → Nat → Int32) (J : Nat → Nat → Int64) (T : Nat) (x1 : Int32) (x2 : Int32) (x3 : Int32) (q : (Nat → Nat → Int32)) (gc gs : Nat), rc_X12_goOrders I J T x1 x2 x3 = some q → AW l ρ d M_X12_goOrders 0 [(0, .ref 53), (1, .int x1), (2, .int x2), (3, .int x3)] [] (am_KD, gc, gs) (I, J, am_RT T) (am_KD, gc, gs) (fun v H' => v = [] ∧ H' = (q, J, am_RT T)))
    (hk44 : ∀ (I : Nat → Nat → Int32) (J : Nat → Nat → Int64) (T : Nat) (x1 : Int32) (x2 : Int32) (x3 : Int32) (x4 : Int32), k44 I J T x1 x2 x3 x4 = some q → AW l ρ (d + 1) M_X12_goOrders 44 [(0, .ref 53), (1, .int x1), (2, .int x2), (3, .int x3), (4, .int x4)] [] (am_KD, gc, gs) (I, J, am_RT T) (am_KD, gc, gs) (fun v H' => v = [] ∧ H' = (q, J, am_RT T)))
    (h : f_X12_goOrders_116 n rc_X12_goOrders k44 I J T x1 x2 x3 x4 = some q) : AW l ρ (d + 1) M_X12_goOrders 116 [(0, .ref 53), (1, .int x1), (2, .int x2), (3, .int x3), (4, .int x4)] [] (am_KD, gc, gs) (I, J, am_RT T) (am_KD, gc, gs) (fun v H' => v = [] ∧ H' = (q, J, am_RT T)) := by
  unfold f_X12_goOrders_116 at h
  refine op_iinc (k := 4) (v := x4 + 1) (L' := [(4, .int (x4 + 1)), (0, .ref 53), (1, .int x1), (2, .int x2), (3, .int x3)]) dX12_goOrders_116 rfl rfl (by decide) rfl ?_
  refine op_goto (tgt := 44) dX12_goOrders_119 (by decide) ?_
  refine AW.perm [1, 2, 3, 4, 0] rfl ?_
  exact hk44 _ _ _ _ _ _ _ h
set_option maxRecDepth 100000 in
set_option maxHeartbeats 4000000 in
theorem t_X12_goOrders_44 {l : Launch} {ρ : am_R} {n d gc gs : Nat} {rc_X12_goOrders : (Nat → Nat → Int32) → (Nat → Nat → Int64) → Nat → Int32 → Int32 → Int32 → Option ((Nat → Nat → Int32))} {q : (Nat → Nat → Int32)} (hd : 0 * n + 4 ≤ (d + 1))
    (hr_X12_goOrders : ∀ (I : Nat → Nat → Int32) (J : Nat → Nat → Int64) (T : Nat) (x1 : Int32) (x2 : Int32) (x3 : Int32) (q : (Nat → Nat → Int32)) (gc gs : Nat), rc_X12_goOrders I J T x1 x2 x3 = some q → AW l ρ d M_X12_goOrders 0 [(0, .ref 53), (1, .int x1), (2, .int x2), (3, .int x3)] [] (am_KD, gc, gs) (I, J, am_RT T) (am_KD, gc, gs) (fun v H' => v = [] ∧ H' = (q, J, am_RT T)))
    : ∀ (m : Nat) (I : Nat → Nat → Int32) (J : Nat → Nat → Int64) (T : Nat) (x1 : Int32) (x2 : Int32) (x3 : Int32) (x4 : Int32), f_X12_goOrders_44 n rc_X12_goOrders m I J T x1 x2 x3 x4 = some q → AW l ρ (d + 1) M_X12_goOrders 44 [(0, .ref 53), (1, .int x1), (2, .int x2), (3, .int x3), (4, .int x4)] [] (am_KD, gc, gs) (I, J, am_RT T) (am_KD, gc, gs) (fun v H' => v = [] ∧ H' = (q, J, am_RT T)) := by
  intro m
  induction m with
  | zero =>
    intro I J T x1 x2 x3 x4 h
    rw [f_X12_goOrders_44] at h
    cases h
  | succ m ih =>
    intro I J T x1 x2 x3 x4 h
    rw [f_X12_goOrders_44] at h
    refine op_iload (k := 4) dX12_goOrders_44 rfl ?_
    refine op_aload_n (k := 0) dX12_goOrders_46 rfl rfl ?_
    refine st_getI (v := I 53 27) dX12_goOrders_47 fl_X12_297 kd_53 (by decide) rfl rfl ?_
    refine op_icmp_ge (tgt := 122) dX12_goOrders_50 (by decide) (fun c1 => ?_) (fun c1 => ?_)
    · replace h := am_ip c1 h
      cases h
      exact (op_vret dX12_goOrders_122 rfl ⟨rfl, rfl⟩)
    · replace h := am_ie c1 h
      refine op_iload_n (k := 1) dX12_goOrders_53 rfl rfl ?_
      refine op_iload (k := 4) dX12_goOrders_54 rfl ?_
      obtain ⟨w2, ew2, h⟩ := am_bd h
      refine op_callS (M' := M_X12_has) [.int x1, .int x4] (S0 := []) dX12_goOrders_56 tw_1471 ok_X12_has tw_1472 rfl rfl (Nat.le_of_ble_eq_true rfl) (Nat.le_of_ble_eq_true rfl) (t_X12_has (by omega) ew2) (am_le_rf _) ?_
      rintro _ _ ⟨rfl, rfl⟩
      refine op_if_ne (tgt := 65) dX12_goOrders_59 (by decide) (fun c3 => ?_) (fun c3 => ?_)
      · replace h := am_ie c3 h
        refine op_aload_n (k := 0) dX12_goOrders_65 rfl rfl ?_
        refine st_getR (z := 67) dX12_goOrders_66 fl_X12_69 kd_53 (by decide) rfl rr_53_34 ?_
        refine op_aload_n (k := 0) dX12_goOrders_69 rfl rfl ?_
        refine st_getI (v := I 53 36) dX12_goOrders_70 fl_X12_393 kd_53 (by decide) rfl rfl ?_
        refine op_iload (k := 4) dX12_goOrders_73 rfl ?_
        obtain ⟨g4, h⟩ := am_gd h
        refine st_iast (k := (I 53 36).toNatClampNeg) dX12_goOrders_75 kd_67 g4 rfl ?_
        refine op_aload_n (k := 0) dX12_goOrders_76 rfl rfl ?_
        refine op_dup dX12_goOrders_77 rfl ?_
        refine st_getI (v := I 53 36) dX12_goOrders_78 fl_X12_393 kd_53 (by decide) rfl rfl ?_
        refine op_iconst (v := 1) dX12_goOrders_81 (by decide) ?_
        refine op_iadd dX12_goOrders_82 ?_
        refine st_putI dX12_goOrders_83 fl_X12_393 kd_53 (by decide) rfl ?_
        refine op_aload_n (k := 0) dX12_goOrders_86 rfl rfl ?_
        refine op_iload_n (k := 1) dX12_goOrders_87 rfl rfl ?_
        refine op_iconst (v := 1) dX12_goOrders_88 (by decide) ?_
        refine op_iload (k := 4) dX12_goOrders_89 rfl ?_
        refine op_ishl dX12_goOrders_91 ?_
        refine op_iconst (v := (-1)) dX12_goOrders_92 (by decide) ?_
        refine op_ixor dX12_goOrders_93 ?_
        refine op_iand dX12_goOrders_94 ?_
        refine op_bipush (v := 10) dX12_goOrders_95 (by decide) ?_
        refine op_iload_n (k := 2) dX12_goOrders_97 rfl rfl ?_
        refine op_imul dX12_goOrders_98 ?_
        refine op_iload (k := 4) dX12_goOrders_99 rfl ?_
        refine op_iadd dX12_goOrders_101 ?_
        refine op_iload_n (k := 3) dX12_goOrders_102 rfl rfl ?_
        obtain ⟨w5, ew5, h⟩ := am_bd h
        refine op_callV (M' := M_X12_goOrders) [.int (x1 &&& ((1 <<< (x4 &&& 31)) ^^^ ((-1)))), .int ((10 * x2) + x4), .int x3] (S0 := []) dX12_goOrders_103 tw_1686 ok_X12_goOrders tw_1688 tw_91 kd_53 cls_12 rfl rfl rfl (Nat.le_of_ble_eq_true rfl) (Nat.le_of_ble_eq_true rfl) (hr_X12_goOrders _ _ _ _ _ _ _ _ _ ew5) (am_le_rf _) ?_
        rintro _ _ ⟨rfl, rfl⟩
        refine op_aload_n (k := 0) dX12_goOrders_106 rfl rfl ?_
        refine op_dup dX12_goOrders_107 rfl ?_
        refine st_getI (v := w5 53 36) dX12_goOrders_108 fl_X12_393 kd_53 (by decide) rfl rfl ?_
        refine op_iconst (v := 1) dX12_goOrders_111 (by decide) ?_
        refine op_isub dX12_goOrders_112 ?_
        refine st_putI dX12_goOrders_113 fl_X12_393 kd_53 (by decide) rfl ?_
        exact t_X12_goOrders_116 hd hr_X12_goOrders ih h
      · replace h := am_ip c3 h
        refine op_goto (tgt := 116) dX12_goOrders_62 (by decide) ?_
        exact t_X12_goOrders_116 hd hr_X12_goOrders ih h
set_option maxRecDepth 100000 in
set_option maxHeartbeats 4000000 in
theorem t_X12_goOrders_29 {l : Launch} {ρ : am_R} {n d gc gs : Nat} {rc_X12_goOrders : (Nat → Nat → Int32) → (Nat → Nat → Int64) → Nat → Int32 → Int32 → Int32 → Option ((Nat → Nat → Int32))} {I : Nat → Nat → Int32} {J : Nat → Nat → Int64} {T : Nat} {x2 : Int32} {x4 : Int32} {q : (Nat → Nat → Int32)} (hd : 0 * n + 4 ≤ (d + 1))
    (hr_X12_goOrders : ∀ (I : Nat → Nat → Int32) (J : Nat → Nat → Int64) (T : Nat) (x1 : Int32) (x2 : Int32) (x3 : Int32) (q : (Nat → Nat → Int32)) (gc gs : Nat), rc_X12_goOrders I J T x1 x2 x3 = some q → AW l ρ d M_X12_goOrders 0 [(0, .ref 53), (1, .int x1), (2, .int x2), (3, .int x3)] [] (am_KD, gc, gs) (I, J, am_RT T) (am_KD, gc, gs) (fun v H' => v = [] ∧ H' = (q, J, am_RT T)))
    (h : f_X12_goOrders_29 n rc_X12_goOrders I J T x2 x4 = some q) : AW l ρ (d + 1) M_X12_goOrders 29 [(0, .ref 53), (2, .int x2), (4, .int x4)] [] (am_KD, gc, gs) (I, J, am_RT T) (am_KD, gc, gs) (fun v H' => v = [] ∧ H' = (q, J, am_RT T)) := by
  unfold f_X12_goOrders_29 at h
  refine op_aload_n (k := 0) dX12_goOrders_29 rfl rfl ?_
  refine op_iload_n (k := 1) dX12_goOrders_30 rfl rfl ?_
  refine st_putI dX12_goOrders_31 fl_X12_399 kd_53 (by decide) rfl ?_
  refine op_aload_n (k := 0) dX12_goOrders_34 rfl rfl ?_
  refine op_iload (k := 2) dX12_goOrders_35 rfl ?_
  refine st_putI dX12_goOrders_37 fl_X12_402 kd_53 (by decide) rfl ?_
  cases h
  exact (op_vret dX12_goOrders_40 rfl ⟨rfl, rfl⟩)
set_option maxRecDepth 100000 in
set_option maxHeartbeats 4000000 in
theorem t_X12_goOrders_0 {l : Launch} {ρ : am_R} {n d gc gs : Nat} {rc_X12_goOrders : (Nat → Nat → Int32) → (Nat → Nat → Int64) → Nat → Int32 → Int32 → Int32 → Option ((Nat → Nat → Int32))} {I : Nat → Nat → Int32} {J : Nat → Nat → Int64} {T : Nat} {x1 : Int32} {x2 : Int32} {x3 : Int32} {q : (Nat → Nat → Int32)} (hd : 0 * n + 4 ≤ (d + 1))
    (hr_X12_goOrders : ∀ (I : Nat → Nat → Int32) (J : Nat → Nat → Int64) (T : Nat) (x1 : Int32) (x2 : Int32) (x3 : Int32) (q : (Nat → Nat → Int32)) (gc gs : Nat), rc_X12_goOrders I J T x1 x2 x3 = some q → AW l ρ d M_X12_goOrders 0 [(0, .ref 53), (1, .int x1), (2, .int x2), (3, .int x3)] [] (am_KD, gc, gs) (I, J, am_RT T) (am_KD, gc, gs) (fun v H' => v = [] ∧ H' = (q, J, am_RT T)))
    (h : fb_X12_goOrders n rc_X12_goOrders I J T x1 x2 x3 = some q) : AW l ρ (d + 1) M_X12_goOrders 0 [(0, .ref 53), (1, .int x1), (2, .int x2), (3, .int x3)] [] (am_KD, gc, gs) (I, J, am_RT T) (am_KD, gc, gs) (fun v H' => v = [] ∧ H' = (q, J, am_RT T)) := by
  unfold fb_X12_goOrders at h
  refine op_iload_n (k := 1) dX12_goOrders_0 rfl rfl ?_
  refine op_if_ne (tgt := 41) dX12_goOrders_1 (by decide) (fun c1 => ?_) (fun c1 => ?_)
  · replace h := am_ie c1 h
    refine op_iconst (v := 0) dX12_goOrders_41 (by decide) ?_
    refine op_istore (L' := [(4, .int 0), (0, .ref 53), (1, .int x1), (2, .int x2), (3, .int x3)]) dX12_goOrders_42 (by decide) rfl ?_
    refine AW.perm [1, 2, 3, 4, 0] rfl ?_
    exact t_X12_goOrders_44 hd hr_X12_goOrders n _ _ _ _ _ _ _ h
  · replace h := am_ip c1 h
    refine op_aload_n (k := 0) dX12_goOrders_4 rfl rfl ?_
    refine op_iload_n (k := 3) dX12_goOrders_5 rfl rfl ?_
    obtain ⟨w2, ew2, h⟩ := am_bd h
    refine op_callV (M' := M_X12_rideAll) [.int x3] (S0 := []) dX12_goOrders_6 tw_1690 ok_X12_rideAll tw_1692 tw_92 kd_53 cls_12 rfl rfl rfl (Nat.le_of_ble_eq_true rfl) (Nat.le_of_ble_eq_true rfl) (t_X12_rideAll (by omega) ew2) (am_le_rf _) ?_
    rintro _ _ ⟨rfl, rfl⟩
    refine op_istore (L' := [(4, .int w2.1), (0, .ref 53), (1, .int x1), (2, .int x2), (3, .int x3)]) dX12_goOrders_9 (by decide) rfl ?_
    refine op_aload_n (k := 1) dX12_goOrders_11 rfl rfl ?_
    refine st_getI (v := w2.2 53 37) dX12_goOrders_12 fl_X12_399 kd_53 (by decide) rfl rfl ?_
    refine op_iconst (v := (-1)) dX12_goOrders_15 (by decide) ?_
    refine op_icmp_eq (tgt := 29) dX12_goOrders_16 (by decide) (fun c3 => ?_) (fun c3 => ?_)
    · replace h := am_ip c3 h
      refine AW.perm [1, 3, 0] rfl ?_
      exact t_X12_goOrders_29 hd hr_X12_goOrders h
    · replace h := am_ie c3 h
      refine op_iload (k := 0) dX12_goOrders_19 rfl ?_
      refine op_aload_n (k := 1) dX12_goOrders_21 rfl rfl ?_
      refine st_getI (v := w2.2 53 38) dX12_goOrders_22 fl_X12_402 kd_53 (by decide) rfl rfl ?_
      refine op_icmp_lt (tgt := 29) dX12_goOrders_25 (by decide) (fun c4 => ?_) (fun c4 => ?_)
      · replace h := am_ip c4 h
        refine AW.perm [1, 3, 0] rfl ?_
        exact t_X12_goOrders_29 hd hr_X12_goOrders h
      · replace h := am_ie c4 h
        cases h
        exact (op_vret dX12_goOrders_28 rfl ⟨rfl, rfl⟩)
set_option maxRecDepth 100000 in
set_option maxHeartbeats 4000000 in
theorem tx_X12_goOrders {l : Launch} {ρ : am_R} (n : Nat) : ∀ (r d : Nat), r + 0 * n + 4 ≤ d → (∀ (I : Nat → Nat → Int32) (J : Nat → Nat → Int64) (T : Nat) (x1 : Int32) (x2 : Int32) (x3 : Int32) (q : (Nat → Nat → Int32)) (gc gs : Nat), (fx_X12_goOrders n r) I J T x1 x2 x3 = some q → AW l ρ d M_X12_goOrders 0 [(0, .ref 53), (1, .int x1), (2, .int x2), (3, .int x3)] [] (am_KD, gc, gs) (I, J, am_RT T) (am_KD, gc, gs) (fun v H' => v = [] ∧ H' = (q, J, am_RT T))) := by
  intro r
  induction r with
  | zero =>
    intro d _
    exact (fun _ _ _ _ _ _ q _ _ h => by have h : none = some q := h; cases h)
  | succ r ih =>
    intro d hd
    obtain ⟨d, rfl⟩ : ∃ e, d = e + 1 := ⟨d - 1, by omega⟩
    have ih := ih d (by omega)
    exact (fun _ _ _ _ _ _ q _ _ h => t_X12_goOrders_0 (rc_X12_goOrders := (fx_X12_goOrders n r)) (by omega) (ih) h)
theorem t_X12_goOrders {l : Launch} {ρ : am_R} {n d gc gs : Nat} {I : Nat → Nat → Int32} {J : Nat → Nat → Int64} {T : Nat} {x1 : Int32} {x2 : Int32} {x3 : Int32} {q : (Nat → Nat → Int32)} (hd : 1 * n + 4 ≤ d) (h : f_X12_goOrders n I J T x1 x2 x3 = some q) : AW l ρ d M_X12_goOrders 0 [(0, .ref 53), (1, .int x1), (2, .int x2), (3, .int x3)] [] (am_KD, gc, gs) (I, J, am_RT T) (am_KD, gc, gs) (fun v H' => v = [] ∧ H' = (q, J, am_RT T)) := (tx_X12_goOrders n n d (by omega)) _ _ _ _ _ _ _ _ _ h
def f_X12_image_82 (n : Nat) : Nat → (Nat → Nat → Int32) → (Nat → Nat → Int64) → Nat → Int32 → Option (Int32 × (Nat → Nat → Int32) × (Nat → Nat → Int64))
  | 0, _, _, _, _ => none
  | m + 1, I, J, T, x1 =>
    if 240 ≤ x1 then
     some (I 53 51, (am_u (am_u (am_u I 53 57 (I 53 51)) 53 58 (I 53 52)) 53 59 1), J)
    else
     if ok_ix x1 240 then
      if ok_ix x1 240 then
       f_X12_image_82 n  m I ((am_u J 79 x1.toNatClampNeg (J 75 x1.toNatClampNeg))) T (x1 + 1)
      else none
     else none
def f_X12_image_56 (n : Nat) : Nat → (Nat → Nat → Int32) → (Nat → Nat → Int64) → Nat → Int32 → Option (Int32 × (Nat → Nat → Int32) × (Nat → Nat → Int64))
  | 0, _, _, _, _ => none
  | m + 1, I, J, T, x1 =>
    if 10 ≤ x1 then
     f_X12_image_82 n  n I J T 0
    else
     if ok_ix x1 10 then
      if ok_ix x1 10 then
       f_X12_image_56 n  m ((am_u I 77 x1.toNatClampNeg (I 59 x1.toNatClampNeg))) J T (x1 + 1)
      else none
     else none
def f_X12_image_16 (n : Nat) : Nat → (Nat → Nat → Int32) → (Nat → Nat → Int64) → Nat → Int32 → Option (Int32 × (Nat → Nat → Int32) × (Nat → Nat → Int64))
  | 0, _, _, _, _ => none
  | m + 1, I, J, T, x1 =>
    if 6 ≤ x1 then
     f_X12_image_56 n  n I J T 0
    else
     if ok_ix (3 * x1) 18 then
      if ok_ix x1 6 then
       if ok_ix x1 6 then
        if ok_ix x1 6 then
         f_X12_image_16 n  m ((am_u I 76 x1.toNatClampNeg (I 60 ((3 * x1).toNatClampNeg)))) ((am_u J 78 x1.toNatClampNeg (J 74 x1.toNatClampNeg))) T (x1 + 1)
        else none
       else none
      else none
     else none
def f_X12_image (n : Nat) (I : Nat → Nat → Int32) (J : Nat → Nat → Int64) (T : Nat) : Option (Int32 × (Nat → Nat → Int32) × (Nat → Nat → Int64)) :=
  if (I 53 27) = 0 then
   some ((-1), (am_u I 53 0 0), J)
  else
   f_X12_image_16 n  n ((am_u I 53 0 0)) J T 0
set_option maxRecDepth 100000 in
set_option maxHeartbeats 4000000 in
theorem t_X12_image_82 {l : Launch} {ρ : am_R} {n d gc gs : Nat} {q : Int32 × (Nat → Nat → Int32) × (Nat → Nat → Int64)} (hd : 0 * n + 0 ≤ d)
    : ∀ (m : Nat) (I : Nat → Nat → Int32) (J : Nat → Nat → Int64) (T : Nat) (x1 : Int32), f_X12_image_82 n  m I J T x1 = some q → AW l ρ d M_X12_image 82 [(0, .ref 53), (1, .int x1)] [] (am_KD, gc, gs) (I, J, am_RT T) (am_KD, gc, gs) (fun v H' => v = [.int q.1] ∧ H' = (q.2.1, q.2.2, am_RT T)) := by
  intro m
  induction m with
  | zero =>
    intro I J T x1 h
    rw [f_X12_image_82] at h
    cases h
  | succ m ih =>
    intro I J T x1 h
    rw [f_X12_image_82] at h
    refine op_iload_n (k := 1) dX12_image_82 rfl rfl ?_
    refine op_sipush (v := 240) dX12_image_83 (by decide) ?_
    refine op_icmp_ge (tgt := 107) dX12_image_86 (by decide) (fun c1 => ?_) (fun c1 => ?_)
    · replace h := am_ip c1 h
      refine op_aload_n (k := 0) dX12_image_107 rfl rfl ?_
      refine op_aload_n (k := 0) dX12_image_108 rfl rfl ?_
      refine st_getI (v := I 53 51) dX12_image_109 fl_X12_303 kd_53 (by decide) rfl rfl ?_
      refine st_putI dX12_image_112 fl_X12_458 kd_53 (by decide) rfl ?_
      refine op_aload_n (k := 0) dX12_image_115 rfl rfl ?_
      refine op_aload_n (k := 0) dX12_image_116 rfl rfl ?_
      refine st_getI (v := I 53 52) dX12_image_117 fl_X12_306 kd_53 (by decide) rfl rfl ?_
      refine st_putI dX12_image_120 fl_X12_461 kd_53 (by decide) rfl ?_
      refine op_aload_n (k := 0) dX12_image_123 rfl rfl ?_
      refine op_iconst (v := 1) dX12_image_124 (by decide) ?_
      refine st_putZ dX12_image_125 fl_X12_309 kd_53 (by decide) rfl (by decide) ?_
      refine op_aload_n (k := 0) dX12_image_128 rfl rfl ?_
      refine st_getI (v := I 53 51) dX12_image_129 fl_X12_303 kd_53 (by decide) rfl rfl ?_
      cases h
      exact (op_iret dX12_image_132 rfl rfl ⟨rfl, rfl⟩)
    · replace h := am_ie c1 h
      refine op_aload_n (k := 0) dX12_image_89 rfl rfl ?_
      refine st_getR (z := 79) dX12_image_90 fl_X12_105 kd_53 (by decide) rfl rr_53_56 ?_
      refine op_iload_n (k := 1) dX12_image_93 rfl rfl ?_
      refine op_aload_n (k := 0) dX12_image_94 rfl rfl ?_
      refine st_getR (z := 75) dX12_image_95 fl_X12_93 kd_53 (by decide) rfl rr_53_50 ?_
      refine op_iload_n (k := 1) dX12_image_98 rfl rfl ?_
      obtain ⟨g2, h⟩ := am_gd h
      refine st_lald (k := x1.toNatClampNeg) (v := J 75 x1.toNatClampNeg) dX12_image_99 kd_75 g2 rfl rfl ?_
      obtain ⟨g3, h⟩ := am_gd h
      refine st_last (k := x1.toNatClampNeg) dX12_image_100 kd_79 g3 rfl ?_
      refine op_iinc (k := 1) (v := x1 + 1) (L' := [(1, .int (x1 + 1)), (0, .ref 53)]) dX12_image_101 rfl rfl (by decide) rfl ?_
      refine op_goto (tgt := 82) dX12_image_104 (by decide) ?_
      refine AW.perm [1, 0] rfl ?_
      exact ih _ _ _ _ h
set_option maxRecDepth 100000 in
set_option maxHeartbeats 4000000 in
theorem t_X12_image_56 {l : Launch} {ρ : am_R} {n d gc gs : Nat} {q : Int32 × (Nat → Nat → Int32) × (Nat → Nat → Int64)} (hd : 0 * n + 0 ≤ d)
    : ∀ (m : Nat) (I : Nat → Nat → Int32) (J : Nat → Nat → Int64) (T : Nat) (x1 : Int32), f_X12_image_56 n  m I J T x1 = some q → AW l ρ d M_X12_image 56 [(0, .ref 53), (1, .int x1)] [] (am_KD, gc, gs) (I, J, am_RT T) (am_KD, gc, gs) (fun v H' => v = [.int q.1] ∧ H' = (q.2.1, q.2.2, am_RT T)) := by
  intro m
  induction m with
  | zero =>
    intro I J T x1 h
    rw [f_X12_image_56] at h
    cases h
  | succ m ih =>
    intro I J T x1 h
    rw [f_X12_image_56] at h
    refine op_iload_n (k := 1) dX12_image_56 rfl rfl ?_
    refine op_bipush (v := 10) dX12_image_57 (by decide) ?_
    refine op_icmp_ge (tgt := 80) dX12_image_59 (by decide) (fun c1 => ?_) (fun c1 => ?_)
    · replace h := am_ip c1 h
      refine op_iconst (v := 0) dX12_image_80 (by decide) ?_
      refine op_istore_n (L' := [(1, .int 0), (0, .ref 53)]) dX12_image_81 rfl (by decide) rfl ?_
      refine AW.perm [1, 0] rfl ?_
      exact t_X12_image_82 hd  n _ _ _ _ h
    · replace h := am_ie c1 h
      refine op_aload_n (k := 0) dX12_image_62 rfl rfl ?_
      refine st_getR (z := 77) dX12_image_63 fl_X12_99 kd_53 (by decide) rfl rr_53_54 ?_
      refine op_iload_n (k := 1) dX12_image_66 rfl rfl ?_
      refine op_aload_n (k := 0) dX12_image_67 rfl rfl ?_
      refine st_getR (z := 59) dX12_image_68 fl_X12_40 kd_53 (by decide) rfl rr_53_19 ?_
      refine op_iload_n (k := 1) dX12_image_71 rfl rfl ?_
      obtain ⟨g2, h⟩ := am_gd h
      refine st_iald (k := x1.toNatClampNeg) (v := I 59 x1.toNatClampNeg) dX12_image_72 kd_59 g2 rfl rfl ?_
      obtain ⟨g3, h⟩ := am_gd h
      refine st_iast (k := x1.toNatClampNeg) dX12_image_73 kd_77 g3 rfl ?_
      refine op_iinc (k := 1) (v := x1 + 1) (L' := [(1, .int (x1 + 1)), (0, .ref 53)]) dX12_image_74 rfl rfl (by decide) rfl ?_
      refine op_goto (tgt := 56) dX12_image_77 (by decide) ?_
      refine AW.perm [1, 0] rfl ?_
      exact ih _ _ _ _ h
set_option maxRecDepth 100000 in
set_option maxHeartbeats 4000000 in
theorem t_X12_image_16 {l : Launch} {ρ : am_R} {n d gc gs : Nat} {q : Int32 × (Nat → Nat → Int32) × (Nat → Nat → Int64)} (hd : 0 * n + 0 ≤ d)
    : ∀ (m : Nat) (I : Nat → Nat → Int32) (J : Nat → Nat → Int64) (T : Nat) (x1 : Int32), f_X12_image_16 n  m I J T x1 = some q → AW l ρ d M_X12_image 16 [(0, .ref 53), (1, .int x1)] [] (am_KD, gc, gs) (I, J, am_RT T) (am_KD, gc, gs) (fun v H' => v = [.int q.1] ∧ H' = (q.2.1, q.2.2, am_RT T)) := by
  intro m
  induction m with
  | zero =>
    intro I J T x1 h
    rw [f_X12_image_16] at h
    cases h
  | succ m ih =>
    intro I J T x1 h
    rw [f_X12_image_16] at h
    refine op_iload_n (k := 1) dX12_image_16 rfl rfl ?_
    refine op_bipush (v := 6) dX12_image_17 (by decide) ?_
    refine op_icmp_ge (tgt := 54) dX12_image_19 (by decide) (fun c1 => ?_) (fun c1 => ?_)
    · replace h := am_ip c1 h
      refine op_iconst (v := 0) dX12_image_54 (by decide) ?_
      refine op_istore_n (L' := [(1, .int 0), (0, .ref 53)]) dX12_image_55 rfl (by decide) rfl ?_
      refine AW.perm [1, 0] rfl ?_
      exact t_X12_image_56 hd  n _ _ _ _ h
    · replace h := am_ie c1 h
      refine op_aload_n (k := 0) dX12_image_22 rfl rfl ?_
      refine st_getR (z := 76) dX12_image_23 fl_X12_96 kd_53 (by decide) rfl rr_53_53 ?_
      refine op_iload_n (k := 1) dX12_image_26 rfl rfl ?_
      refine op_aload_n (k := 0) dX12_image_27 rfl rfl ?_
      refine st_getR (z := 60) dX12_image_28 fl_X12_43 kd_53 (by decide) rfl rr_53_20 ?_
      refine op_iconst (v := 3) dX12_image_31 (by decide) ?_
      refine op_iload_n (k := 1) dX12_image_32 rfl rfl ?_
      refine op_imul dX12_image_33 ?_
      obtain ⟨g2, h⟩ := am_gd h
      refine st_iald (k := (3 * x1).toNatClampNeg) (v := I 60 ((3 * x1).toNatClampNeg)) dX12_image_34 kd_60 g2 rfl rfl ?_
      obtain ⟨g3, h⟩ := am_gd h
      refine st_iast (k := x1.toNatClampNeg) dX12_image_35 kd_76 g3 rfl ?_
      refine op_aload_n (k := 0) dX12_image_36 rfl rfl ?_
      refine st_getR (z := 78) dX12_image_37 fl_X12_102 kd_53 (by decide) rfl rr_53_55 ?_
      refine op_iload_n (k := 1) dX12_image_40 rfl rfl ?_
      refine op_aload_n (k := 0) dX12_image_41 rfl rfl ?_
      refine st_getR (z := 74) dX12_image_42 fl_X12_90 kd_53 (by decide) rfl rr_53_49 ?_
      refine op_iload_n (k := 1) dX12_image_45 rfl rfl ?_
      obtain ⟨g4, h⟩ := am_gd h
      refine st_lald (k := x1.toNatClampNeg) (v := J 74 x1.toNatClampNeg) dX12_image_46 kd_74 g4 rfl rfl ?_
      obtain ⟨g5, h⟩ := am_gd h
      refine st_last (k := x1.toNatClampNeg) dX12_image_47 kd_78 g5 rfl ?_
      refine op_iinc (k := 1) (v := x1 + 1) (L' := [(1, .int (x1 + 1)), (0, .ref 53)]) dX12_image_48 rfl rfl (by decide) rfl ?_
      refine op_goto (tgt := 16) dX12_image_51 (by decide) ?_
      refine AW.perm [1, 0] rfl ?_
      exact ih _ _ _ _ h
set_option maxRecDepth 100000 in
set_option maxHeartbeats 4000000 in
theorem t_X12_image_0 {l : Launch} {ρ : am_R} {n d gc gs : Nat} {I : Nat → Nat → Int32} {J : Nat → Nat → Int64} {T : Nat} {q : Int32 × (Nat → Nat → Int32) × (Nat → Nat → Int64)} (hd : 0 * n + 0 ≤ d)
    (h : f_X12_image n  I J T  = some q) : AW l ρ d M_X12_image 0 [(0, .ref 53)] [] (am_KD, gc, gs) (I, J, am_RT T) (am_KD, gc, gs) (fun v H' => v = [.int q.1] ∧ H' = (q.2.1, q.2.2, am_RT T)) := by
  unfold f_X12_image at h
  refine op_aload_n (k := 0) dX12_image_0 rfl rfl ?_
  refine op_iconst (v := 0) dX12_image_1 (by decide) ?_
  refine st_putI dX12_image_2 fl_X12_108 kd_53 (by decide) rfl ?_
  refine op_aload_n (k := 0) dX12_image_5 rfl rfl ?_
  refine st_getI (v := I 53 27) dX12_image_6 fl_X12_297 kd_53 (by decide) rfl rfl ?_
  refine op_if_ne (tgt := 14) dX12_image_9 (by decide) (fun c1 => ?_) (fun c1 => ?_)
  · replace h := am_ie c1 h
    refine op_iconst (v := 0) dX12_image_14 (by decide) ?_
    refine op_istore_n (L' := [(1, .int 0), (0, .ref 53)]) dX12_image_15 rfl (by decide) rfl ?_
    refine AW.perm [1, 0] rfl ?_
    exact t_X12_image_16 hd  n _ _ _ _ h
  · replace h := am_ip c1 h
    refine op_iconst (v := (-1)) dX12_image_12 (by decide) ?_
    cases h
    exact (op_iret dX12_image_13 rfl rfl ⟨rfl, rfl⟩)
theorem t_X12_image {l : Launch} {ρ : am_R} {n d gc gs : Nat} {I : Nat → Nat → Int32} {J : Nat → Nat → Int64} {T : Nat} {q : Int32 × (Nat → Nat → Int32) × (Nat → Nat → Int64)} (hd : 0 * n + 0 ≤ d) (h : f_X12_image n I J T  = some q) : AW l ρ d M_X12_image 0 [(0, .ref 53)] [] (am_KD, gc, gs) (I, J, am_RT T) (am_KD, gc, gs) (fun v H' => v = [.int q.1] ∧ H' = (q.2.1, q.2.2, am_RT T)) := t_X12_image_0 hd h
def f_X12_left_118 (n : Nat) (k22 : (Nat → Nat → Int32) → (Nat → Nat → Int64) → Nat → Int32 → Int32 → Int32 → Option (Int32 × (Nat → Nat → Int32) × (Nat → Nat → Int64) × Nat)) (I : Nat → Nat → Int32) (J : Nat → Nat → Int64) (T : Nat) (x1 : Int32) (x4 : Int32) (s0 : Int32) : Option (Int32 × (Nat → Nat → Int32) × (Nat → Nat → Int64) × Nat) :=
  k22 I J T x1 x4 s0
def f_X12_left_98 (n : Nat) (k22 : (Nat → Nat → Int32) → (Nat → Nat → Int64) → Nat → Int32 → Int32 → Int32 → Option (Int32 × (Nat → Nat → Int32) × (Nat → Nat → Int64) × Nat)) (k42 : (Nat → Nat → Int32) → (Nat → Nat → Int64) → Nat → Int32 → Int32 → Int32 → Int32 → Option (Int32 × (Nat → Nat → Int32) × (Nat → Nat → Int64) × Nat)) (I : Nat → Nat → Int32) (J : Nat → Nat → Int64) (T : Nat) (x1 : Int32) (x2 : Int32) (x5 : Int32) (s0 : Int32) (s1 : Int32) : Option (Int32 × (Nat → Nat → Int32) × (Nat → Nat → Int64) × Nat) :=
  k42 I J T x1 x2 (s0 ||| s1) (x5 + 1)
def f_X12_left_97 (n : Nat) (k22 : (Nat → Nat → Int32) → (Nat → Nat → Int64) → Nat → Int32 → Int32 → Int32 → Option (Int32 × (Nat → Nat → Int32) × (Nat → Nat → Int64) × Nat)) (k42 : (Nat → Nat → Int32) → (Nat → Nat → Int64) → Nat → Int32 → Int32 → Int32 → Int32 → Option (Int32 × (Nat → Nat → Int32) × (Nat → Nat → Int64) × Nat)) (I : Nat → Nat → Int32) (J : Nat → Nat → Int64) (T : Nat) (x1 : Int32) (x2 : Int32) (x5 : Int32) (s0 : Int32) : Option (Int32 × (Nat → Nat → Int32) × (Nat → Nat → Int64) × Nat) :=
  f_X12_left_98 n k22 k42 I J T x1 x2 x5 s0 0
def f_X12_left_42 (n : Nat) (k22 : (Nat → Nat → Int32) → (Nat → Nat → Int64) → Nat → Int32 → Int32 → Int32 → Option (Int32 × (Nat → Nat → Int32) × (Nat → Nat → Int64) × Nat)) : Nat → (Nat → Nat → Int32) → (Nat → Nat → Int64) → Nat → Int32 → Int32 → Int32 → Int32 → Option (Int32 × (Nat → Nat → Int32) × (Nat → Nat → Int64) × Nat)
  | 0, _, _, _, _, _, _, _ => none
  | m + 1, I, J, T, x1, x2, x4, x5 =>
    if (I 53 27) ≤ x5 then
     if x4 = x2 then
      f_X12_left_118 n k22 I J T x1 x4 0
     else
      f_X12_left_118 n k22 I J T x1 x4 1
    else
     (f_X12_has n I J T x2 x5).bind fun w3 =>
     if w3 = 0 then
      f_X12_left_97 n k22 (f_X12_left_42 n k22 m) I J T x1 x2 x5 x4
     else
      if ok_ix x5 6 then
       if ok_ix ((3 * x5) + 1) 18 then
        if 0 < (lg_cmp (J 66 x5.toNatClampNeg) (((I 60 (((3 * x5) + 1).toNatClampNeg)).toInt64) * (J 53 33))) then
         f_X12_left_97 n k22 (f_X12_left_42 n k22 m) I J T x1 x2 x5 x4
        else
         f_X12_left_98 n k22 (f_X12_left_42 n k22 m) I J T x1 x2 x5 x4 (1 <<< (x5 &&& 31))
       else none
      else none
def f_X12_left_22 (n : Nat) : Nat → (Nat → Nat → Int32) → (Nat → Nat → Int64) → Nat → Int32 → Int32 → Int32 → Option (Int32 × (Nat → Nat → Int32) × (Nat → Nat → Int64) × Nat)
  | 0, _, _, _, _, _, _ => none
  | m + 1, I, J, T, x1, x2, x3 =>
    if x3 = 0 then
     some (x2, I, J, T)
    else
     if x2 = 0 then
      some (x2, I, J, T)
     else
      (f_X12_layShares n I J T x2 x1).bind fun w3 =>
      f_X12_left_42 n (f_X12_left_22 n m) n w3.1 w3.2.1 w3.2.2 x1 x2 0 0
def f_X12_left (n : Nat) (I : Nat → Nat → Int32) (J : Nat → Nat → Int64) (T : Nat) (x1 : Int32) : Option (Int32 × (Nat → Nat → Int32) × (Nat → Nat → Int64) × Nat) :=
  (f_X12_isLaw n ((am_u I 53 0 0)) J T x1).bind fun w1 =>
  if w1 = 0 then
   some ((-1), (am_u I 53 0 0), J, T)
  else
   (f_X12_everybody n ((am_u I 53 0 0)) J T).bind fun w3 =>
   f_X12_left_22 n  n ((am_u I 53 0 0)) J T x1 w3 1
set_option maxRecDepth 100000 in
set_option maxHeartbeats 4000000 in
theorem t_X12_left_118 {l : Launch} {ρ : am_R} {n d gc gs : Nat} {k22 : (Nat → Nat → Int32) → (Nat → Nat → Int64) → Nat → Int32 → Int32 → Int32 → Option (Int32 × (Nat → Nat → Int32) × (Nat → Nat → Int64) × Nat)} {I : Nat → Nat → Int32} {J : Nat → Nat → Int64} {T : Nat} {x1 : Int32} {x4 : Int32} {s0 : Int32} {q : Int32 × (Nat → Nat → Int32) × (Nat → Nat → Int64) × Nat} (hd : 2 * n + 13 ≤ (d + 1))
    (hk22 : ∀ (I : Nat → Nat → Int32) (J : Nat → Nat → Int64) (T : Nat) (x1 : Int32) (x2 : Int32) (x3 : Int32), k22 I J T x1 x2 x3 = some q → AW l ρ (d + 1) M_X12_left 22 [(0, .ref 53), (1, .int x1), (2, .int x2), (3, .int x3)] [] (am_KD, gc, gs) (I, J, am_RT T) (am_KD, gc, gs) (fun v H' => v = [.int q.1] ∧ H' = (q.2.1, q.2.2.1, am_RT (q.2.2.2))))
    (h : f_X12_left_118 n k22 I J T x1 x4 s0 = some q) : AW l ρ (d + 1) M_X12_left 118 [(0, .ref 53), (1, .int x1), (4, .int x4)] [.int s0] (am_KD, gc, gs) (I, J, am_RT T) (am_KD, gc, gs) (fun v H' => v = [.int q.1] ∧ H' = (q.2.1, q.2.2.1, am_RT (q.2.2.2))) := by
  unfold f_X12_left_118 at h
  refine op_istore_n (L' := [(3, .int s0), (0, .ref 53), (1, .int x1), (4, .int x4)]) dX12_left_118 rfl (by decide) rfl ?_
  refine op_iload (k := 3) dX12_left_119 rfl ?_
  refine op_istore_n (L' := [(2, .int x4), (3, .int s0), (0, .ref 53), (1, .int x1), (4, .int x4)]) dX12_left_121 rfl (by decide) rfl ?_
  refine op_goto (tgt := 22) dX12_left_122 (by decide) ?_
  refine AW.perm [2, 3, 0, 1] rfl ?_
  exact hk22 _ _ _ _ _ _ h
set_option maxRecDepth 100000 in
set_option maxHeartbeats 4000000 in
theorem t_X12_left_98 {l : Launch} {ρ : am_R} {n d gc gs : Nat} {k22 : (Nat → Nat → Int32) → (Nat → Nat → Int64) → Nat → Int32 → Int32 → Int32 → Option (Int32 × (Nat → Nat → Int32) × (Nat → Nat → Int64) × Nat)} {k42 : (Nat → Nat → Int32) → (Nat → Nat → Int64) → Nat → Int32 → Int32 → Int32 → Int32 → Option (Int32 × (Nat → Nat → Int32) × (Nat → Nat → Int64) × Nat)} {I : Nat → Nat → Int32} {J : Nat → Nat → Int64} {T : Nat} {x1 : Int32} {x2 : Int32} {x5 : Int32} {s0 : Int32} {s1 : Int32} {q : Int32 × (Nat → Nat → Int32) × (Nat → Nat → Int64) × Nat} (hd : 2 * n + 13 ≤ (d + 1))
    (hk22 : ∀ (I : Nat → Nat → Int32) (J : Nat → Nat → Int64) (T : Nat) (x1 : Int32) (x2 : Int32) (x3 : Int32), k22 I J T x1 x2 x3 = some q → AW l ρ (d + 1) M_X12_left 22 [(0, .ref 53), (1, .int x1), (2, .int x2), (3, .int x3)] [] (am_KD, gc, gs) (I, J, am_RT T) (am_KD, gc, gs) (fun v H' => v = [.int q.1] ∧ H' = (q.2.1, q.2.2.1, am_RT (q.2.2.2))))
    (hk42 : ∀ (I : Nat → Nat → Int32) (J : Nat → Nat → Int64) (T : Nat) (x1 : Int32) (x2 : Int32) (x4 : Int32) (x5 : Int32), k42 I J T x1 x2 x4 x5 = some q → AW l ρ (d + 1) M_X12_left 42 [(0, .ref 53), (1, .int x1), (2, .int x2), (4, .int x4), (5, .int x5)] [] (am_KD, gc, gs) (I, J, am_RT T) (am_KD, gc, gs) (fun v H' => v = [.int q.1] ∧ H' = (q.2.1, q.2.2.1, am_RT (q.2.2.2))))
    (h : f_X12_left_98 n k22 k42 I J T x1 x2 x5 s0 s1 = some q) : AW l ρ (d + 1) M_X12_left 98 [(0, .ref 53), (1, .int x1), (2, .int x2), (5, .int x5)] [.int s1, .int s0] (am_KD, gc, gs) (I, J, am_RT T) (am_KD, gc, gs) (fun v H' => v = [.int q.1] ∧ H' = (q.2.1, q.2.2.1, am_RT (q.2.2.2))) := by
  unfold f_X12_left_98 at h
  refine op_ior dX12_left_98 ?_
  refine op_istore (L' := [(4, .int (s0 ||| s1)), (0, .ref 53), (1, .int x1), (2, .int x2), (5, .int x5)]) dX12_left_99 (by decide) rfl ?_
  refine op_iinc (k := 4) (v := x5 + 1) (L' := [(5, .int (x5 + 1)), (4, .int (s0 ||| s1)), (0, .ref 53), (1, .int x1), (2, .int x2)]) dX12_left_101 rfl rfl (by decide) rfl ?_
  refine op_goto (tgt := 42) dX12_left_104 (by decide) ?_
  refine AW.perm [2, 3, 4, 1, 0] rfl ?_
  exact hk42 _ _ _ _ _ _ _ h
set_option maxRecDepth 100000 in
set_option maxHeartbeats 4000000 in
theorem t_X12_left_97 {l : Launch} {ρ : am_R} {n d gc gs : Nat} {k22 : (Nat → Nat → Int32) → (Nat → Nat → Int64) → Nat → Int32 → Int32 → Int32 → Option (Int32 × (Nat → Nat → Int32) × (Nat → Nat → Int64) × Nat)} {k42 : (Nat → Nat → Int32) → (Nat → Nat → Int64) → Nat → Int32 → Int32 → Int32 → Int32 → Option (Int32 × (Nat → Nat → Int32) × (Nat → Nat → Int64) × Nat)} {I : Nat → Nat → Int32} {J : Nat → Nat → Int64} {T : Nat} {x1 : Int32} {x2 : Int32} {x5 : Int32} {s0 : Int32} {q : Int32 × (Nat → Nat → Int32) × (Nat → Nat → Int64) × Nat} (hd : 2 * n + 13 ≤ (d + 1))
    (hk22 : ∀ (I : Nat → Nat → Int32) (J : Nat → Nat → Int64) (T : Nat) (x1 : Int32) (x2 : Int32) (x3 : Int32), k22 I J T x1 x2 x3 = some q → AW l ρ (d + 1) M_X12_left 22 [(0, .ref 53), (1, .int x1), (2, .int x2), (3, .int x3)] [] (am_KD, gc, gs) (I, J, am_RT T) (am_KD, gc, gs) (fun v H' => v = [.int q.1] ∧ H' = (q.2.1, q.2.2.1, am_RT (q.2.2.2))))
    (hk42 : ∀ (I : Nat → Nat → Int32) (J : Nat → Nat → Int64) (T : Nat) (x1 : Int32) (x2 : Int32) (x4 : Int32) (x5 : Int32), k42 I J T x1 x2 x4 x5 = some q → AW l ρ (d + 1) M_X12_left 42 [(0, .ref 53), (1, .int x1), (2, .int x2), (4, .int x4), (5, .int x5)] [] (am_KD, gc, gs) (I, J, am_RT T) (am_KD, gc, gs) (fun v H' => v = [.int q.1] ∧ H' = (q.2.1, q.2.2.1, am_RT (q.2.2.2))))
    (h : f_X12_left_97 n k22 k42 I J T x1 x2 x5 s0 = some q) : AW l ρ (d + 1) M_X12_left 97 [(0, .ref 53), (1, .int x1), (2, .int x2), (5, .int x5)] [.int s0] (am_KD, gc, gs) (I, J, am_RT T) (am_KD, gc, gs) (fun v H' => v = [.int q.1] ∧ H' = (q.2.1, q.2.2.1, am_RT (q.2.2.2))) := by
  unfold f_X12_left_97 at h
  refine op_iconst (v := 0) dX12_left_97 (by decide) ?_
  exact t_X12_left_98 hd hk22 hk42 h
set_option maxRecDepth 100000 in
set_option maxHeartbeats 4000000 in
theorem t_X12_left_42 {l : Launch} {ρ : am_R} {n d gc gs : Nat} {k22 : (Nat → Nat → Int32) → (Nat → Nat → Int64) → Nat → Int32 → Int32 → Int32 → Option (Int32 × (Nat → Nat → Int32) × (Nat → Nat → Int64) × Nat)} {q : Int32 × (Nat → Nat → Int32) × (Nat → Nat → Int64) × Nat} (hd : 2 * n + 13 ≤ (d + 1))
    (hk22 : ∀ (I : Nat → Nat → Int32) (J : Nat → Nat → Int64) (T : Nat) (x1 : Int32) (x2 : Int32) (x3 : Int32), k22 I J T x1 x2 x3 = some q → AW l ρ (d + 1) M_X12_left 22 [(0, .ref 53), (1, .int x1), (2, .int x2), (3, .int x3)] [] (am_KD, gc, gs) (I, J, am_RT T) (am_KD, gc, gs) (fun v H' => v = [.int q.1] ∧ H' = (q.2.1, q.2.2.1, am_RT (q.2.2.2))))
    : ∀ (m : Nat) (I : Nat → Nat → Int32) (J : Nat → Nat → Int64) (T : Nat) (x1 : Int32) (x2 : Int32) (x4 : Int32) (x5 : Int32), f_X12_left_42 n k22 m I J T x1 x2 x4 x5 = some q → AW l ρ (d + 1) M_X12_left 42 [(0, .ref 53), (1, .int x1), (2, .int x2), (4, .int x4), (5, .int x5)] [] (am_KD, gc, gs) (I, J, am_RT T) (am_KD, gc, gs) (fun v H' => v = [.int q.1] ∧ H' = (q.2.1, q.2.2.1, am_RT (q.2.2.2))) := by
  intro m
  induction m with
  | zero =>
    intro I J T x1 x2 x4 x5 h
    rw [f_X12_left_42] at h
    cases h
  | succ m ih =>
    intro I J T x1 x2 x4 x5 h
    rw [f_X12_left_42] at h
    refine op_iload (k := 4) dX12_left_42 rfl ?_
    refine op_aload_n (k := 0) dX12_left_44 rfl rfl ?_
    refine st_getI (v := I 53 27) dX12_left_45 fl_X12_297 kd_53 (by decide) rfl rfl ?_
    refine op_icmp_ge (tgt := 107) dX12_left_48 (by decide) (fun c1 => ?_) (fun c1 => ?_)
    · replace h := am_ip c1 h
      refine op_iload (k := 3) dX12_left_107 rfl ?_
      refine op_iload_n (k := 2) dX12_left_109 rfl rfl ?_
      refine op_icmp_eq (tgt := 117) dX12_left_110 (by decide) (fun c2 => ?_) (fun c2 => ?_)
      · replace h := am_ip c2 h
        refine op_iconst (v := 0) dX12_left_117 (by decide) ?_
        refine AW.perm [0, 1, 3] rfl ?_
        exact t_X12_left_118 hd hk22 h
      · replace h := am_ie c2 h
        refine op_iconst (v := 1) dX12_left_113 (by decide) ?_
        refine op_goto (tgt := 118) dX12_left_114 (by decide) ?_
        refine AW.perm [0, 1, 3] rfl ?_
        exact t_X12_left_118 hd hk22 h
    · replace h := am_ie c1 h
      refine op_iload (k := 3) dX12_left_51 rfl ?_
      refine op_iload_n (k := 2) dX12_left_53 rfl rfl ?_
      refine op_iload (k := 4) dX12_left_54 rfl ?_
      obtain ⟨w3, ew3, h⟩ := am_bd h
      refine op_callS (M' := M_X12_has) [.int x2, .int x5] (S0 := [.int x4]) dX12_left_56 tw_1471 ok_X12_has tw_1472 rfl rfl (Nat.le_of_ble_eq_true rfl) (Nat.le_of_ble_eq_true rfl) (t_X12_has (by omega) ew3) (am_le_rf _) ?_
      rintro _ _ ⟨rfl, rfl⟩
      refine op_if_eq (tgt := 97) dX12_left_59 (by decide) (fun c4 => ?_) (fun c4 => ?_)
      · replace h := am_ip c4 h
        refine AW.perm [0, 1, 2, 4] rfl ?_
        exact t_X12_left_97 hd hk22 ih h
      · replace h := am_ie c4 h
        refine op_aload_n (k := 0) dX12_left_62 rfl rfl ?_
        refine st_getR (z := 66) dX12_left_63 fl_X12_65 kd_53 (by decide) rfl rr_53_32 ?_
        refine op_iload (k := 4) dX12_left_66 rfl ?_
        obtain ⟨g5, h⟩ := am_gd h
        refine st_lald (k := x5.toNatClampNeg) (v := J 66 x5.toNatClampNeg) dX12_left_68 kd_66 g5 rfl rfl ?_
        refine op_aload_n (k := 0) dX12_left_69 rfl rfl ?_
        refine st_getR (z := 60) dX12_left_70 fl_X12_43 kd_53 (by decide) rfl rr_53_20 ?_
        refine op_iconst (v := 3) dX12_left_73 (by decide) ?_
        refine op_iload (k := 4) dX12_left_74 rfl ?_
        refine op_imul dX12_left_76 ?_
        refine op_iconst (v := 1) dX12_left_77 (by decide) ?_
        refine op_iadd dX12_left_78 ?_
        obtain ⟨g6, h⟩ := am_gd h
        refine st_iald (k := ((3 * x5) + 1).toNatClampNeg) (v := I 60 (((3 * x5) + 1).toNatClampNeg)) dX12_left_79 kd_60 g6 rfl rfl ?_
        refine op_i2l dX12_left_80 ?_
        refine op_aload_n (k := 0) dX12_left_81 rfl rfl ?_
        refine st_getL (v := J 53 33) dX12_left_82 fl_X12_361 kd_53 (by decide) rfl rfl ?_
        refine op_lmul dX12_left_85 ?_
        refine op_lcmp dX12_left_86 ?_
        refine op_if_gt (tgt := 97) dX12_left_87 (by decide) (fun c7 => ?_) (fun c7 => ?_)
        · replace h := am_ip c7 h
          refine AW.perm [0, 1, 2, 4] rfl ?_
          exact t_X12_left_97 hd hk22 ih h
        · replace h := am_ie c7 h
          refine op_iconst (v := 1) dX12_left_90 (by decide) ?_
          refine op_iload (k := 4) dX12_left_91 rfl ?_
          refine op_ishl dX12_left_93 ?_
          refine op_goto (tgt := 98) dX12_left_94 (by decide) ?_
          refine AW.perm [0, 1, 2, 4] rfl ?_
          exact t_X12_left_98 hd hk22 ih h
set_option maxRecDepth 100000 in
set_option maxHeartbeats 4000000 in
theorem t_X12_left_22 {l : Launch} {ρ : am_R} {n d gc gs : Nat} {q : Int32 × (Nat → Nat → Int32) × (Nat → Nat → Int64) × Nat} (hd : 2 * n + 13 ≤ (d + 1))
    : ∀ (m : Nat) (I : Nat → Nat → Int32) (J : Nat → Nat → Int64) (T : Nat) (x1 : Int32) (x2 : Int32) (x3 : Int32), f_X12_left_22 n  m I J T x1 x2 x3 = some q → AW l ρ (d + 1) M_X12_left 22 [(0, .ref 53), (1, .int x1), (2, .int x2), (3, .int x3)] [] (am_KD, gc, gs) (I, J, am_RT T) (am_KD, gc, gs) (fun v H' => v = [.int q.1] ∧ H' = (q.2.1, q.2.2.1, am_RT (q.2.2.2))) := by
  intro m
  induction m with
  | zero =>
    intro I J T x1 x2 x3 h
    rw [f_X12_left_22] at h
    cases h
  | succ m ih =>
    intro I J T x1 x2 x3 h
    rw [f_X12_left_22] at h
    refine op_iload_n (k := 3) dX12_left_22 rfl rfl ?_
    refine op_if_eq (tgt := 125) dX12_left_23 (by decide) (fun c1 => ?_) (fun c1 => ?_)
    · replace h := am_ip c1 h
      refine op_iload_n (k := 2) dX12_left_125 rfl rfl ?_
      cases h
      exact (op_iret dX12_left_126 rfl rfl ⟨rfl, rfl⟩)
    · replace h := am_ie c1 h
      refine op_iload_n (k := 2) dX12_left_26 rfl rfl ?_
      refine op_if_eq (tgt := 125) dX12_left_27 (by decide) (fun c2 => ?_) (fun c2 => ?_)
      · replace h := am_ip c2 h
        refine op_iload_n (k := 2) dX12_left_125 rfl rfl ?_
        cases h
        exact (op_iret dX12_left_126 rfl rfl ⟨rfl, rfl⟩)
      · replace h := am_ie c2 h
        refine op_aload_n (k := 0) dX12_left_30 rfl rfl ?_
        refine op_iload_n (k := 2) dX12_left_31 rfl rfl ?_
        refine op_iload_n (k := 1) dX12_left_32 rfl rfl ?_
        obtain ⟨w3, ew3, h⟩ := am_bd h
        refine op_callV (M' := M_X12_layShares) [.int x2, .int x1] (S0 := []) dX12_left_33 tw_1633 ok_X12_layShares tw_1635 tw_84 kd_53 cls_12 rfl rfl rfl (Nat.le_of_ble_eq_true rfl) (Nat.le_of_ble_eq_true rfl) (t_X12_layShares (by omega) ew3) (am_le_rf _) ?_
        rintro _ _ ⟨rfl, rfl⟩
        refine op_iconst (v := 0) dX12_left_36 (by decide) ?_
        refine op_istore (L' := [(4, .int 0), (0, .ref 53), (1, .int x1), (2, .int x2), (3, .int x3)]) dX12_left_37 (by decide) rfl ?_
        refine op_iconst (v := 0) dX12_left_39 (by decide) ?_
        refine op_istore (L' := [(5, .int 0), (4, .int 0), (0, .ref 53), (1, .int x1), (2, .int x2), (3, .int x3)]) dX12_left_40 (by decide) rfl ?_
        refine AW.perm [2, 3, 4, 1, 0] rfl ?_
        exact t_X12_left_42 hd ih n _ _ _ _ _ _ _ h
set_option maxRecDepth 100000 in
set_option maxHeartbeats 4000000 in
theorem t_X12_left_0 {l : Launch} {ρ : am_R} {n d gc gs : Nat} {I : Nat → Nat → Int32} {J : Nat → Nat → Int64} {T : Nat} {x1 : Int32} {q : Int32 × (Nat → Nat → Int32) × (Nat → Nat → Int64) × Nat} (hd : 2 * n + 13 ≤ (d + 1))
    (h : f_X12_left n  I J T x1 = some q) : AW l ρ (d + 1) M_X12_left 0 [(0, .ref 53), (1, .int x1)] [] (am_KD, gc, gs) (I, J, am_RT T) (am_KD, gc, gs) (fun v H' => v = [.int q.1] ∧ H' = (q.2.1, q.2.2.1, am_RT (q.2.2.2))) := by
  unfold f_X12_left at h
  refine op_aload_n (k := 0) dX12_left_0 rfl rfl ?_
  refine op_iconst (v := 0) dX12_left_1 (by decide) ?_
  refine st_putI dX12_left_2 fl_X12_108 kd_53 (by decide) rfl ?_
  refine op_aload_n (k := 0) dX12_left_5 rfl rfl ?_
  refine op_iload_n (k := 1) dX12_left_6 rfl rfl ?_
  obtain ⟨w1, ew1, h⟩ := am_bd h
  refine op_callV (M' := M_X12_isLaw) [.int x1] (S0 := []) dX12_left_7 tw_1628 ok_X12_isLaw tw_1630 tw_83 kd_53 cls_12 rfl rfl rfl (Nat.le_of_ble_eq_true rfl) (Nat.le_of_ble_eq_true rfl) (t_X12_isLaw (by omega) ew1) (am_le_rf _) ?_
  rintro _ _ ⟨rfl, rfl⟩
  refine op_if_ne (tgt := 15) dX12_left_10 (by decide) (fun c2 => ?_) (fun c2 => ?_)
  · replace h := am_ie c2 h
    refine op_aload_n (k := 0) dX12_left_15 rfl rfl ?_
    obtain ⟨w3, ew3, h⟩ := am_bd h
    refine op_callV (M' := M_X12_everybody) [] (S0 := []) dX12_left_16 tw_1670 ok_X12_everybody tw_1672 tw_89 kd_53 cls_12 rfl rfl rfl (Nat.le_of_ble_eq_true rfl) (Nat.le_of_ble_eq_true rfl) (t_X12_everybody (by omega) ew3) (am_le_rf _) ?_
    rintro _ _ ⟨rfl, rfl⟩
    refine op_istore_n (L' := [(2, .int w3), (0, .ref 53), (1, .int x1)]) dX12_left_19 rfl (by decide) rfl ?_
    refine op_iconst (v := 1) dX12_left_20 (by decide) ?_
    refine op_istore_n (L' := [(3, .int 1), (2, .int w3), (0, .ref 53), (1, .int x1)]) dX12_left_21 rfl (by decide) rfl ?_
    refine AW.perm [2, 3, 1, 0] rfl ?_
    exact t_X12_left_22 hd  n _ _ _ _ _ _ h
  · replace h := am_ip c2 h
    refine op_iconst (v := (-1)) dX12_left_13 (by decide) ?_
    cases h
    exact (op_iret dX12_left_14 rfl rfl ⟨rfl, rfl⟩)
theorem t_X12_left {l : Launch} {ρ : am_R} {n d gc gs : Nat} {I : Nat → Nat → Int32} {J : Nat → Nat → Int64} {T : Nat} {x1 : Int32} {q : Int32 × (Nat → Nat → Int32) × (Nat → Nat → Int64) × Nat} (hd : 2 * n + 13 ≤ d) (h : f_X12_left n I J T x1 = some q) : AW l ρ d M_X12_left 0 [(0, .ref 53), (1, .int x1)] [] (am_KD, gc, gs) (I, J, am_RT T) (am_KD, gc, gs) (fun v H' => v = [.int q.1] ∧ H' = (q.2.1, q.2.2.1, am_RT (q.2.2.2))) := by
  obtain ⟨d, rfl⟩ : ∃ e, d = e + 1 := ⟨d - 1, by omega⟩
  exact t_X12_left_0 hd h
