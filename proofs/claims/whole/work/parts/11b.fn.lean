def f_X6_seat_130 (n : Nat) (rc_X6_seat : (Nat → Nat → Int32) → (Nat → Nat → Int64) → Nat → Int32 → Int32 → Int32 → Option ((Nat → Nat → Int32))) (k21 : (Nat → Nat → Int32) → (Nat → Nat → Int64) → Nat → Int32 → Int32 → Int32 → Int32 → Option ((Nat → Nat → Int32))) (I : Nat → Nat → Int32) (J : Nat → Nat → Int64) (T : Nat) (x1 : Int32) (x2 : Int32) (x3 : Int32) (x4 : Int32) : Option ((Nat → Nat → Int32)) :=
  k21 I J T x1 x2 x3 (x4 + 1)
def f_X6_seat_86 (n : Nat) (rc_X6_seat : (Nat → Nat → Int32) → (Nat → Nat → Int64) → Nat → Int32 → Int32 → Int32 → Option ((Nat → Nat → Int32))) (k21 : (Nat → Nat → Int32) → (Nat → Nat → Int64) → Nat → Int32 → Int32 → Int32 → Int32 → Option ((Nat → Nat → Int32))) (I : Nat → Nat → Int32) (J : Nat → Nat → Int64) (T : Nat) (x1 : Int32) (x2 : Int32) (x3 : Int32) (x4 : Int32) (s1 : Int32) (s2 : Int32) : Option ((Nat → Nat → Int32)) :=
  (rc_X6_seat I J T s1 s2 ((x3 * 10) + x4)).bind fun w1 =>
  if ok_ix x4 7 then
   if ok_ix x4 7 then
    if ok_ix x4 7 then
     if ok_ix x1 6 then
      if ok_ix x4 7 then
       f_X6_seat_130 n rc_X6_seat k21 ((am_u (am_u w1 32 x4.toNatClampNeg ((w1 32 x4.toNatClampNeg) &&& ((1 <<< (x1 &&& 31)) ^^^ ((-1))))) 33 x4.toNatClampNeg ((w1 33 x4.toNatClampNeg) - (w1 8 x1.toNatClampNeg)))) J T x1 x2 x3 x4
      else none
     else none
    else none
   else none
  else none
def f_X6_seat_21 (n : Nat) (rc_X6_seat : (Nat → Nat → Int32) → (Nat → Nat → Int64) → Nat → Int32 → Int32 → Int32 → Option ((Nat → Nat → Int32))) : Nat → (Nat → Nat → Int32) → (Nat → Nat → Int64) → Nat → Int32 → Int32 → Int32 → Int32 → Option ((Nat → Nat → Int32))
  | 0, _, _, _, _, _, _, _ => none
  | m + 1, I, J, T, x1, x2, x3, x4 =>
    if x2 < x4 then
     some (I)
    else
     (f_X6_hasRoom n I J T x4 x1).bind fun w2 =>
     if w2 = 0 then
      f_X6_seat_130 n rc_X6_seat (f_X6_seat_21 n rc_X6_seat m) I J T x1 x2 x3 x4
     else
      if ok_ix x4 7 then
       if ok_ix x4 7 then
        if ok_ix x4 7 then
         if ok_ix x1 6 then
          if ok_ix x4 7 then
           if x4 = x2 then
            f_X6_seat_86 n rc_X6_seat (f_X6_seat_21 n rc_X6_seat m) ((am_u (am_u I 32 x4.toNatClampNeg ((I 32 x4.toNatClampNeg) ||| (1 <<< (x1 &&& 31)))) 33 x4.toNatClampNeg ((I 33 x4.toNatClampNeg) + (I 8 x1.toNatClampNeg)))) J T x1 x2 x3 x4 (x1 + 1) (x2 + 1)
           else
            f_X6_seat_86 n rc_X6_seat (f_X6_seat_21 n rc_X6_seat m) ((am_u (am_u I 32 x4.toNatClampNeg ((I 32 x4.toNatClampNeg) ||| (1 <<< (x1 &&& 31)))) 33 x4.toNatClampNeg ((I 33 x4.toNatClampNeg) + (I 8 x1.toNatClampNeg)))) J T x1 x2 x3 x4 (x1 + 1) x2
          else none
         else none
        else none
       else none
      else none
def fb_X6_seat (n : Nat) (rc_X6_seat : (Nat → Nat → Int32) → (Nat → Nat → Int64) → Nat → Int32 → Int32 → Int32 → Option ((Nat → Nat → Int32))) (I : Nat → Nat → Int32) (J : Nat → Nat → Int64) (T : Nat) (x1 : Int32) (x2 : Int32) (x3 : Int32) : Option ((Nat → Nat → Int32)) :=
  if x1 < (I 3 1) then
   f_X6_seat_21 n rc_X6_seat n I J T x1 x2 x3 0
  else
   (f_X6_judge n I J T x2 x3).bind fun w2 =>
   some (w2)
def fx_X6_seat (n : Nat) : Nat → ((Nat → Nat → Int32) → (Nat → Nat → Int64) → Nat → Int32 → Int32 → Int32 → Option ((Nat → Nat → Int32)))
  | 0 => (fun _ _ _ _ _ _ => none)
  | r + 1 => (fb_X6_seat n (fx_X6_seat n r))
def f_X6_seat (n : Nat) : (Nat → Nat → Int32) → (Nat → Nat → Int64) → Nat → Int32 → Int32 → Int32 → Option ((Nat → Nat → Int32)) := (fx_X6_seat n n)
set_option maxRecDepth 100000 in
set_option maxHeartbeats 4000000 in
theorem t_X6_seat_130 {l : Launch} {ρ : am_R} {n d gc gs : Nat} {rc_X6_seat : (Nat → Nat → Int32) → (Nat → Nat → Int64) → Nat → Int32 → Int32 → Int32 → Option ((Nat → Nat → Int32))} {k21 : (Nat → Nat → Int32) → (Nat → Nat → Int64) → Nat → Int32 → Int32 → Int32 → Int32 → Option ((Nat → Nat → Int32))} {I : Nat → Nat → Int32} {J : Nat → Nat → Int64} {T : Nat} {x1 : Int32} {x2 : Int32} {x3 : Int32} {x4 : Int32} {q : (Nat → Nat → Int32)} (hd : 0 * n + 4 ≤ (d + 1))
    (hr_X6_seat : ∀ (I : Nat → Nat → Int32) (J : Nat → Nat → Int64) (T : Nat) (x1 : Int32) (x2 : Int32) (x3 : Int32) (q : (Nat → Nat → Int32)) (gc gs : Nat), rc_X6_seat I J T x1 x2 x3 = some q → AW l ρ d M_X6_seat 0 [(0, .ref 31), (1, .int x1), (2, .int x2), (3, .int x3)] [] (am_KD, gc, gs) (I, J, am_RT T) (am_KD, gc, gs) (fun v H' => v = [] ∧ H' = (q, J, am_RT T)))
    (hk21 : ∀ (I : Nat → Nat → Int32) (J : Nat → Nat → Int64) (T : Nat) (x1 : Int32) (x2 : Int32) (x3 : Int32) (x4 : Int32), k21 I J T x1 x2 x3 x4 = some q → AW l ρ (d + 1) M_X6_seat 21 [(0, .ref 31), (1, .int x1), (2, .int x2), (3, .int x3), (4, .int x4)] [] (am_KD, gc, gs) (I, J, am_RT T) (am_KD, gc, gs) (fun v H' => v = [] ∧ H' = (q, J, am_RT T)))
    (h : f_X6_seat_130 n rc_X6_seat k21 I J T x1 x2 x3 x4 = some q) : AW l ρ (d + 1) M_X6_seat 130 [(0, .ref 31), (1, .int x1), (2, .int x2), (3, .int x3), (4, .int x4)] [] (am_KD, gc, gs) (I, J, am_RT T) (am_KD, gc, gs) (fun v H' => v = [] ∧ H' = (q, J, am_RT T)) := by
  unfold f_X6_seat_130 at h
  refine op_iinc (k := 4) (v := x4 + 1) (L' := [(4, .int (x4 + 1)), (0, .ref 31), (1, .int x1), (2, .int x2), (3, .int x3)]) dX6_seat_130 rfl rfl (by decide) rfl ?_
  refine op_goto (tgt := 21) dX6_seat_133 (by decide) ?_
  refine AW.perm [1, 2, 3, 4, 0] rfl ?_
  exact hk21 _ _ _ _ _ _ _ h
set_option maxRecDepth 100000 in
set_option maxHeartbeats 4000000 in
theorem t_X6_seat_86 {l : Launch} {ρ : am_R} {n d gc gs : Nat} {rc_X6_seat : (Nat → Nat → Int32) → (Nat → Nat → Int64) → Nat → Int32 → Int32 → Int32 → Option ((Nat → Nat → Int32))} {k21 : (Nat → Nat → Int32) → (Nat → Nat → Int64) → Nat → Int32 → Int32 → Int32 → Int32 → Option ((Nat → Nat → Int32))} {I : Nat → Nat → Int32} {J : Nat → Nat → Int64} {T : Nat} {x1 : Int32} {x2 : Int32} {x3 : Int32} {x4 : Int32} {s1 : Int32} {s2 : Int32} {q : (Nat → Nat → Int32)} (hd : 0 * n + 4 ≤ (d + 1))
    (hr_X6_seat : ∀ (I : Nat → Nat → Int32) (J : Nat → Nat → Int64) (T : Nat) (x1 : Int32) (x2 : Int32) (x3 : Int32) (q : (Nat → Nat → Int32)) (gc gs : Nat), rc_X6_seat I J T x1 x2 x3 = some q → AW l ρ d M_X6_seat 0 [(0, .ref 31), (1, .int x1), (2, .int x2), (3, .int x3)] [] (am_KD, gc, gs) (I, J, am_RT T) (am_KD, gc, gs) (fun v H' => v = [] ∧ H' = (q, J, am_RT T)))
    (hk21 : ∀ (I : Nat → Nat → Int32) (J : Nat → Nat → Int64) (T : Nat) (x1 : Int32) (x2 : Int32) (x3 : Int32) (x4 : Int32), k21 I J T x1 x2 x3 x4 = some q → AW l ρ (d + 1) M_X6_seat 21 [(0, .ref 31), (1, .int x1), (2, .int x2), (3, .int x3), (4, .int x4)] [] (am_KD, gc, gs) (I, J, am_RT T) (am_KD, gc, gs) (fun v H' => v = [] ∧ H' = (q, J, am_RT T)))
    (h : f_X6_seat_86 n rc_X6_seat k21 I J T x1 x2 x3 x4 s1 s2 = some q) : AW l ρ (d + 1) M_X6_seat 86 [(0, .ref 31), (1, .int x1), (2, .int x2), (3, .int x3), (4, .int x4)] [.int s2, .int s1, .ref 31] (am_KD, gc, gs) (I, J, am_RT T) (am_KD, gc, gs) (fun v H' => v = [] ∧ H' = (q, J, am_RT T)) := by
  unfold f_X6_seat_86 at h
  refine op_iload_n (k := 3) dX6_seat_86 rfl rfl ?_
  refine op_bipush (v := 10) dX6_seat_87 (by decide) ?_
  refine op_imul dX6_seat_89 ?_
  refine op_iload (k := 4) dX6_seat_90 rfl ?_
  refine op_iadd dX6_seat_92 ?_
  obtain ⟨w1, ew1, h⟩ := am_bd h
  refine op_callV (M' := M_X6_seat) [.int s1, .int s2, .int ((x3 * 10) + x4)] (S0 := []) dX6_seat_93 tw_952 ok_X6_seat tw_954 tw_40 kd_31 cls_6 rfl rfl rfl (Nat.le_of_ble_eq_true rfl) (Nat.le_of_ble_eq_true rfl) (hr_X6_seat _ _ _ _ _ _ _ _ _ ew1) (am_le_rf _) ?_
  rintro _ _ ⟨rfl, rfl⟩
  refine op_aload_n (k := 0) dX6_seat_96 rfl rfl ?_
  refine st_getR (z := 32) dX6_seat_97 fl_X6_9 kd_31 (by decide) rfl rr_31_2 ?_
  refine op_iload (k := 4) dX6_seat_100 rfl ?_
  refine op_dup2 dX6_seat_102 rfl rfl ?_
  obtain ⟨g2, h⟩ := am_gd h
  refine st_iald (k := x4.toNatClampNeg) (v := w1 32 x4.toNatClampNeg) dX6_seat_103 kd_32 g2 rfl rfl ?_
  refine op_iconst (v := 1) dX6_seat_104 (by decide) ?_
  refine op_iload_n (k := 1) dX6_seat_105 rfl rfl ?_
  refine op_ishl dX6_seat_106 ?_
  refine op_iconst (v := (-1)) dX6_seat_107 (by decide) ?_
  refine op_ixor dX6_seat_108 ?_
  refine op_iand dX6_seat_109 ?_
  obtain ⟨g3, h⟩ := am_gd h
  refine st_iast (k := x4.toNatClampNeg) dX6_seat_110 kd_32 g3 rfl ?_
  refine op_aload_n (k := 0) dX6_seat_111 rfl rfl ?_
  refine st_getR (z := 33) dX6_seat_112 fl_X6_15 kd_31 (by decide) rfl rr_31_3 ?_
  refine op_iload (k := 4) dX6_seat_115 rfl ?_
  refine op_dup2 dX6_seat_117 rfl rfl ?_
  obtain ⟨g4, h⟩ := am_gd h
  refine st_iald (k := x4.toNatClampNeg) (v := w1 33 x4.toNatClampNeg) dX6_seat_118 kd_33 g4 rfl rfl ?_
  refine op_aload_n (k := 0) dX6_seat_119 rfl rfl ?_
  refine st_getR (z := 3) dX6_seat_120 fl_X6_25 kd_31 (by decide) rfl rr_31_0 ?_
  refine st_getR (z := 8) dX6_seat_123 fl_X6_87 kd_3 (by decide) rfl rr_3_9 ?_
  refine op_iload_n (k := 1) dX6_seat_126 rfl rfl ?_
  obtain ⟨g5, h⟩ := am_gd h
  refine st_iald (k := x1.toNatClampNeg) (v := w1 8 x1.toNatClampNeg) dX6_seat_127 kd_8 g5 rfl rfl ?_
  refine op_isub dX6_seat_128 ?_
  obtain ⟨g6, h⟩ := am_gd h
  refine st_iast (k := x4.toNatClampNeg) dX6_seat_129 kd_33 g6 rfl ?_
  exact t_X6_seat_130 hd hr_X6_seat hk21 h
set_option maxRecDepth 100000 in
set_option maxHeartbeats 4000000 in
theorem t_X6_seat_21 {l : Launch} {ρ : am_R} {n d gc gs : Nat} {rc_X6_seat : (Nat → Nat → Int32) → (Nat → Nat → Int64) → Nat → Int32 → Int32 → Int32 → Option ((Nat → Nat → Int32))} {q : (Nat → Nat → Int32)} (hd : 0 * n + 4 ≤ (d + 1))
    (hr_X6_seat : ∀ (I : Nat → Nat → Int32) (J : Nat → Nat → Int64) (T : Nat) (x1 : Int32) (x2 : Int32) (x3 : Int32) (q : (Nat → Nat → Int32)) (gc gs : Nat), rc_X6_seat I J T x1 x2 x3 = some q → AW l ρ d M_X6_seat 0 [(0, .ref 31), (1, .int x1), (2, .int x2), (3, .int x3)] [] (am_KD, gc, gs) (I, J, am_RT T) (am_KD, gc, gs) (fun v H' => v = [] ∧ H' = (q, J, am_RT T)))
    : ∀ (m : Nat) (I : Nat → Nat → Int32) (J : Nat → Nat → Int64) (T : Nat) (x1 : Int32) (x2 : Int32) (x3 : Int32) (x4 : Int32), f_X6_seat_21 n rc_X6_seat m I J T x1 x2 x3 x4 = some q → AW l ρ (d + 1) M_X6_seat 21 [(0, .ref 31), (1, .int x1), (2, .int x2), (3, .int x3), (4, .int x4)] [] (am_KD, gc, gs) (I, J, am_RT T) (am_KD, gc, gs) (fun v H' => v = [] ∧ H' = (q, J, am_RT T)) := by
  intro m
  induction m with
  | zero =>
    intro I J T x1 x2 x3 x4 h
    rw [f_X6_seat_21] at h
    cases h
  | succ m ih =>
    intro I J T x1 x2 x3 x4 h
    rw [f_X6_seat_21] at h
    refine op_iload (k := 4) dX6_seat_21 rfl ?_
    refine op_iload_n (k := 2) dX6_seat_23 rfl rfl ?_
    refine op_icmp_gt (tgt := 136) dX6_seat_24 (by decide) (fun c1 => ?_) (fun c1 => ?_)
    · replace h := am_ip c1 h
      cases h
      exact (op_vret dX6_seat_136 rfl ⟨rfl, rfl⟩)
    · replace h := am_ie c1 h
      refine op_aload_n (k := 0) dX6_seat_27 rfl rfl ?_
      refine op_iload (k := 4) dX6_seat_28 rfl ?_
      refine op_iload_n (k := 1) dX6_seat_30 rfl rfl ?_
      obtain ⟨w2, ew2, h⟩ := am_bd h
      refine op_callV (M' := M_X6_hasRoom) [.int x4, .int x1] (S0 := []) dX6_seat_31 tw_969 ok_X6_hasRoom tw_971 tw_44 kd_31 cls_6 rfl rfl rfl (Nat.le_of_ble_eq_true rfl) (Nat.le_of_ble_eq_true rfl) (t_X6_hasRoom (by omega) ew2) (am_le_rf _) ?_
      rintro _ _ ⟨rfl, rfl⟩
      refine op_if_eq (tgt := 130) dX6_seat_34 (by decide) (fun c3 => ?_) (fun c3 => ?_)
      · replace h := am_ip c3 h
        exact t_X6_seat_130 hd hr_X6_seat ih h
      · replace h := am_ie c3 h
        refine op_aload_n (k := 0) dX6_seat_37 rfl rfl ?_
        refine st_getR (z := 32) dX6_seat_38 fl_X6_9 kd_31 (by decide) rfl rr_31_2 ?_
        refine op_iload (k := 4) dX6_seat_41 rfl ?_
        refine op_dup2 dX6_seat_43 rfl rfl ?_
        obtain ⟨g4, h⟩ := am_gd h
        refine st_iald (k := x4.toNatClampNeg) (v := I 32 x4.toNatClampNeg) dX6_seat_44 kd_32 g4 rfl rfl ?_
        refine op_iconst (v := 1) dX6_seat_45 (by decide) ?_
        refine op_iload_n (k := 1) dX6_seat_46 rfl rfl ?_
        refine op_ishl dX6_seat_47 ?_
        refine op_ior dX6_seat_48 ?_
        obtain ⟨g5, h⟩ := am_gd h
        refine st_iast (k := x4.toNatClampNeg) dX6_seat_49 kd_32 g5 rfl ?_
        refine op_aload_n (k := 0) dX6_seat_50 rfl rfl ?_
        refine st_getR (z := 33) dX6_seat_51 fl_X6_15 kd_31 (by decide) rfl rr_31_3 ?_
        refine op_iload (k := 4) dX6_seat_54 rfl ?_
        refine op_dup2 dX6_seat_56 rfl rfl ?_
        obtain ⟨g6, h⟩ := am_gd h
        refine st_iald (k := x4.toNatClampNeg) (v := I 33 x4.toNatClampNeg) dX6_seat_57 kd_33 g6 rfl rfl ?_
        refine op_aload_n (k := 0) dX6_seat_58 rfl rfl ?_
        refine st_getR (z := 3) dX6_seat_59 fl_X6_25 kd_31 (by decide) rfl rr_31_0 ?_
        refine st_getR (z := 8) dX6_seat_62 fl_X6_87 kd_3 (by decide) rfl rr_3_9 ?_
        refine op_iload_n (k := 1) dX6_seat_65 rfl rfl ?_
        obtain ⟨g7, h⟩ := am_gd h
        refine st_iald (k := x1.toNatClampNeg) (v := I 8 x1.toNatClampNeg) dX6_seat_66 kd_8 g7 rfl rfl ?_
        refine op_iadd dX6_seat_67 ?_
        obtain ⟨g8, h⟩ := am_gd h
        refine st_iast (k := x4.toNatClampNeg) dX6_seat_68 kd_33 g8 rfl ?_
        refine op_aload_n (k := 0) dX6_seat_69 rfl rfl ?_
        refine op_iload_n (k := 1) dX6_seat_70 rfl rfl ?_
        refine op_iconst (v := 1) dX6_seat_71 (by decide) ?_
        refine op_iadd dX6_seat_72 ?_
        refine op_iload (k := 4) dX6_seat_73 rfl ?_
        refine op_iload_n (k := 2) dX6_seat_75 rfl rfl ?_
        refine op_icmp_ne (tgt := 85) dX6_seat_76 (by decide) (fun c9 => ?_) (fun c9 => ?_)
        · replace h := am_ie c9 h
          refine op_iload_n (k := 2) dX6_seat_85 rfl rfl ?_
          exact t_X6_seat_86 hd hr_X6_seat ih h
        · replace h := am_ip c9 h
          refine op_iload_n (k := 2) dX6_seat_79 rfl rfl ?_
          refine op_iconst (v := 1) dX6_seat_80 (by decide) ?_
          refine op_iadd dX6_seat_81 ?_
          refine op_goto (tgt := 86) dX6_seat_82 (by decide) ?_
          exact t_X6_seat_86 hd hr_X6_seat ih h
set_option maxRecDepth 100000 in
set_option maxHeartbeats 4000000 in
theorem t_X6_seat_0 {l : Launch} {ρ : am_R} {n d gc gs : Nat} {rc_X6_seat : (Nat → Nat → Int32) → (Nat → Nat → Int64) → Nat → Int32 → Int32 → Int32 → Option ((Nat → Nat → Int32))} {I : Nat → Nat → Int32} {J : Nat → Nat → Int64} {T : Nat} {x1 : Int32} {x2 : Int32} {x3 : Int32} {q : (Nat → Nat → Int32)} (hd : 0 * n + 4 ≤ (d + 1))
    (hr_X6_seat : ∀ (I : Nat → Nat → Int32) (J : Nat → Nat → Int64) (T : Nat) (x1 : Int32) (x2 : Int32) (x3 : Int32) (q : (Nat → Nat → Int32)) (gc gs : Nat), rc_X6_seat I J T x1 x2 x3 = some q → AW l ρ d M_X6_seat 0 [(0, .ref 31), (1, .int x1), (2, .int x2), (3, .int x3)] [] (am_KD, gc, gs) (I, J, am_RT T) (am_KD, gc, gs) (fun v H' => v = [] ∧ H' = (q, J, am_RT T)))
    (h : fb_X6_seat n rc_X6_seat I J T x1 x2 x3 = some q) : AW l ρ (d + 1) M_X6_seat 0 [(0, .ref 31), (1, .int x1), (2, .int x2), (3, .int x3)] [] (am_KD, gc, gs) (I, J, am_RT T) (am_KD, gc, gs) (fun v H' => v = [] ∧ H' = (q, J, am_RT T)) := by
  unfold fb_X6_seat at h
  refine op_iload_n (k := 1) dX6_seat_0 rfl rfl ?_
  refine op_aload_n (k := 0) dX6_seat_1 rfl rfl ?_
  refine st_getR (z := 3) dX6_seat_2 fl_X6_25 kd_31 (by decide) rfl rr_31_0 ?_
  refine st_getI (v := I 3 1) dX6_seat_5 fl_X6_60 kd_3 (by decide) rfl rfl ?_
  refine op_icmp_lt (tgt := 18) dX6_seat_8 (by decide) (fun c1 => ?_) (fun c1 => ?_)
  · replace h := am_ip c1 h
    refine op_iconst (v := 0) dX6_seat_18 (by decide) ?_
    refine op_istore (L' := [(4, .int 0), (0, .ref 31), (1, .int x1), (2, .int x2), (3, .int x3)]) dX6_seat_19 (by decide) rfl ?_
    refine AW.perm [1, 2, 3, 4, 0] rfl ?_
    exact t_X6_seat_21 hd hr_X6_seat n _ _ _ _ _ _ _ h
  · replace h := am_ie c1 h
    refine op_aload_n (k := 0) dX6_seat_11 rfl rfl ?_
    refine op_iload_n (k := 2) dX6_seat_12 rfl rfl ?_
    refine op_iload_n (k := 3) dX6_seat_13 rfl rfl ?_
    obtain ⟨w2, ew2, h⟩ := am_bd h
    refine op_callV (M' := M_X6_judge) [.int x2, .int x3] (S0 := []) dX6_seat_14 tw_956 ok_X6_judge tw_958 tw_41 kd_31 cls_6 rfl rfl rfl (Nat.le_of_ble_eq_true rfl) (Nat.le_of_ble_eq_true rfl) (t_X6_judge (by omega) ew2) (am_le_rf _) ?_
    rintro _ _ ⟨rfl, rfl⟩
    cases h
    exact (op_vret dX6_seat_17 rfl ⟨rfl, rfl⟩)
set_option maxRecDepth 100000 in
set_option maxHeartbeats 4000000 in
theorem tx_X6_seat {l : Launch} {ρ : am_R} (n : Nat) : ∀ (r d : Nat), r + 0 * n + 4 ≤ d → (∀ (I : Nat → Nat → Int32) (J : Nat → Nat → Int64) (T : Nat) (x1 : Int32) (x2 : Int32) (x3 : Int32) (q : (Nat → Nat → Int32)) (gc gs : Nat), (fx_X6_seat n r) I J T x1 x2 x3 = some q → AW l ρ d M_X6_seat 0 [(0, .ref 31), (1, .int x1), (2, .int x2), (3, .int x3)] [] (am_KD, gc, gs) (I, J, am_RT T) (am_KD, gc, gs) (fun v H' => v = [] ∧ H' = (q, J, am_RT T))) := by
  intro r
  induction r with
  | zero =>
    intro d _
    exact (fun _ _ _ _ _ _ q _ _ h => by have h : none = some q := h; cases h)
  | succ r ih =>
    intro d hd
    obtain ⟨d, rfl⟩ : ∃ e, d = e + 1 := ⟨d - 1, by omega⟩
    have ih := ih d (by omega)
    exact (fun _ _ _ _ _ _ q _ _ h => t_X6_seat_0 (rc_X6_seat := (fx_X6_seat n r)) (by omega) (ih) h)
theorem t_X6_seat {l : Launch} {ρ : am_R} {n d gc gs : Nat} {I : Nat → Nat → Int32} {J : Nat → Nat → Int64} {T : Nat} {x1 : Int32} {x2 : Int32} {x3 : Int32} {q : (Nat → Nat → Int32)} (hd : 1 * n + 4 ≤ d) (h : f_X6_seat n I J T x1 x2 x3 = some q) : AW l ρ d M_X6_seat 0 [(0, .ref 31), (1, .int x1), (2, .int x2), (3, .int x3)] [] (am_KD, gc, gs) (I, J, am_RT T) (am_KD, gc, gs) (fun v H' => v = [] ∧ H' = (q, J, am_RT T)) := (tx_X6_seat n n d (by omega)) _ _ _ _ _ _ _ _ _ h
def f_X6_searchBest (n : Nat) (I : Nat → Nat → Int32) (J : Nat → Nat → Int64) (T : Nat) : Option ((Nat → Nat → Int32)) :=
  (f_X6_seat n ((am_u (am_u (am_u I 31 8 ((-1))) 31 9 ((-1))) 31 6 0)) J T 0 0 0).bind fun w1 =>
  some (w1)
set_option maxRecDepth 100000 in
set_option maxHeartbeats 4000000 in
theorem t_X6_searchBest_0 {l : Launch} {ρ : am_R} {n d gc gs : Nat} {I : Nat → Nat → Int32} {J : Nat → Nat → Int64} {T : Nat} {q : (Nat → Nat → Int32)} (hd : 1 * n + 5 ≤ (d + 1))
    (h : f_X6_searchBest n  I J T  = some q) : AW l ρ (d + 1) M_X6_searchBest 0 [(0, .ref 31)] [] (am_KD, gc, gs) (I, J, am_RT T) (am_KD, gc, gs) (fun v H' => v = [] ∧ H' = (q, J, am_RT T)) := by
  unfold f_X6_searchBest at h
  refine op_aload_n (k := 0) dX6_searchBest_0 rfl rfl ?_
  refine op_iconst (v := (-1)) dX6_searchBest_1 (by decide) ?_
  refine st_putI dX6_searchBest_2 fl_X6_33 kd_31 (by decide) rfl ?_
  refine op_aload_n (k := 0) dX6_searchBest_5 rfl rfl ?_
  refine op_iconst (v := (-1)) dX6_searchBest_6 (by decide) ?_
  refine st_putI dX6_searchBest_7 fl_X6_37 kd_31 (by decide) rfl ?_
  refine op_aload_n (k := 0) dX6_searchBest_10 rfl rfl ?_
  refine op_iconst (v := 0) dX6_searchBest_11 (by decide) ?_
  refine st_putZ dX6_searchBest_12 fl_X6_40 kd_31 (by decide) rfl (by decide) ?_
  refine op_aload_n (k := 0) dX6_searchBest_15 rfl rfl ?_
  refine op_iconst (v := 0) dX6_searchBest_16 (by decide) ?_
  refine op_iconst (v := 0) dX6_searchBest_17 (by decide) ?_
  refine op_iconst (v := 0) dX6_searchBest_18 (by decide) ?_
  obtain ⟨w1, ew1, h⟩ := am_bd h
  refine op_callV (M' := M_X6_seat) [.int 0, .int 0, .int 0] (S0 := []) dX6_searchBest_19 tw_952 ok_X6_seat tw_954 tw_40 kd_31 cls_6 rfl rfl rfl (Nat.le_of_ble_eq_true rfl) (Nat.le_of_ble_eq_true rfl) (t_X6_seat (by omega) ew1) (am_le_rf _) ?_
  rintro _ _ ⟨rfl, rfl⟩
  cases h
  exact (op_vret dX6_searchBest_22 rfl ⟨rfl, rfl⟩)
theorem t_X6_searchBest {l : Launch} {ρ : am_R} {n d gc gs : Nat} {I : Nat → Nat → Int32} {J : Nat → Nat → Int64} {T : Nat} {q : (Nat → Nat → Int32)} (hd : 1 * n + 5 ≤ d) (h : f_X6_searchBest n I J T  = some q) : AW l ρ d M_X6_searchBest 0 [(0, .ref 31)] [] (am_KD, gc, gs) (I, J, am_RT T) (am_KD, gc, gs) (fun v H' => v = [] ∧ H' = (q, J, am_RT T)) := by
  obtain ⟨d, rfl⟩ : ∃ e, d = e + 1 := ⟨d - 1, by omega⟩
  exact t_X6_searchBest_0 hd h
def f_X11_coaches (n : Nat) (I : Nat → Nat → Int32) (J : Nat → Nat → Int64) (T : Nat) (x1 : Int32) : Option (Int32 × (Nat → Nat → Int32)) :=
  (f_X11_isRoadless n I J T).bind fun w1 =>
  if w1 = 0 then
   (f_X11_isWithin n I J T x1 0 1).bind fun w3 =>
   if w3 = 0 then
    some ((-1), I)
   else
    (f_X6_searchBest n I J T).bind fun w5 =>
    if x1 = 0 then
     some (w5 31 8, w5)
    else
     some (w5 31 9, w5)
  else
   some ((-1), I)
set_option maxRecDepth 100000 in
set_option maxHeartbeats 4000000 in
theorem t_X11_coaches_0 {l : Launch} {ρ : am_R} {n d gc gs : Nat} {I : Nat → Nat → Int32} {J : Nat → Nat → Int64} {T : Nat} {x1 : Int32} {q : Int32 × (Nat → Nat → Int32)} (hd : 1 * n + 6 ≤ (d + 1))
    (h : f_X11_coaches n  I J T x1 = some q) : AW l ρ (d + 1) M_X11_coaches 0 [(0, .ref 0), (1, .int x1)] [] (am_KD, gc, gs) (I, J, am_RT T) (am_KD, gc, gs) (fun v H' => v = [.int q.1] ∧ H' = (q.2, J, am_RT T)) := by
  unfold f_X11_coaches at h
  refine op_aload_n (k := 0) dX11_coaches_0 rfl rfl ?_
  obtain ⟨w1, ew1, h⟩ := am_bd h
  refine op_callV (M' := M_X11_isRoadless) [] (S0 := []) dX11_coaches_1 tw_722 ok_X11_isRoadless tw_724 tw_23 kd_0 cls_11 rfl rfl rfl (Nat.le_of_ble_eq_true rfl) (Nat.le_of_ble_eq_true rfl) (t_X11_isRoadless (by omega) ew1) (am_le_rf _) ?_
  rintro _ _ ⟨rfl, rfl⟩
  refine op_if_ne (tgt := 16) dX11_coaches_4 (by decide) (fun c2 => ?_) (fun c2 => ?_)
  · replace h := am_ie c2 h
    refine op_iconst (v := (-1)) dX11_coaches_16 (by decide) ?_
    cases h
    exact (op_iret dX11_coaches_17 rfl rfl ⟨rfl, rfl⟩)
  · replace h := am_ip c2 h
    refine op_iload_n (k := 1) dX11_coaches_7 rfl rfl ?_
    refine op_iconst (v := 0) dX11_coaches_8 (by decide) ?_
    refine op_iconst (v := 1) dX11_coaches_9 (by decide) ?_
    obtain ⟨w3, ew3, h⟩ := am_bd h
    refine op_callS (M' := M_X11_isWithin) [.int x1, .int 0, .int 1] (S0 := []) dX11_coaches_10 tw_713 ok_X11_isWithin tw_595 rfl rfl (Nat.le_of_ble_eq_true rfl) (Nat.le_of_ble_eq_true rfl) (t_X11_isWithin (by omega) ew3) (am_le_rf _) ?_
    rintro _ _ ⟨rfl, rfl⟩
    refine op_if_ne (tgt := 18) dX11_coaches_13 (by decide) (fun c4 => ?_) (fun c4 => ?_)
    · replace h := am_ie c4 h
      refine op_aload_n (k := 0) dX11_coaches_18 rfl rfl ?_
      refine st_getR (z := 31) dX11_coaches_19 fl_X11_74 kd_0 (by decide) rfl rr_0_8 ?_
      obtain ⟨w5, ew5, h⟩ := am_bd h
      refine op_callV (M' := M_X6_searchBest) [] (S0 := []) dX11_coaches_22 tw_948 ok_X6_searchBest tw_949 tw_950 kd_31 cls_6 rfl rfl rfl (Nat.le_of_ble_eq_true rfl) (Nat.le_of_ble_eq_true rfl) (t_X6_searchBest (by omega) ew5) (am_le_rf _) ?_
      rintro _ _ ⟨rfl, rfl⟩
      refine op_iload_n (k := 1) dX11_coaches_25 rfl rfl ?_
      refine op_if_ne (tgt := 39) dX11_coaches_26 (by decide) (fun c6 => ?_) (fun c6 => ?_)
      · replace h := am_ie c6 h
        refine op_aload_n (k := 0) dX11_coaches_39 rfl rfl ?_
        refine st_getR (z := 31) dX11_coaches_40 fl_X11_74 kd_0 (by decide) rfl rr_0_8 ?_
        refine st_getI (v := w5 31 9) dX11_coaches_43 fl_X11_261 kd_31 (by decide) rfl rfl ?_
        cases h
        exact (op_iret dX11_coaches_46 rfl rfl ⟨rfl, rfl⟩)
      · replace h := am_ip c6 h
        refine op_aload_n (k := 0) dX11_coaches_29 rfl rfl ?_
        refine st_getR (z := 31) dX11_coaches_30 fl_X11_74 kd_0 (by decide) rfl rr_0_8 ?_
        refine st_getI (v := w5 31 8) dX11_coaches_33 fl_X11_258 kd_31 (by decide) rfl rfl ?_
        refine op_goto (tgt := 46) dX11_coaches_36 (by decide) ?_
        cases h
        exact (op_iret dX11_coaches_46 rfl rfl ⟨rfl, rfl⟩)
    · replace h := am_ip c4 h
      refine op_iconst (v := (-1)) dX11_coaches_16 (by decide) ?_
      cases h
      exact (op_iret dX11_coaches_17 rfl rfl ⟨rfl, rfl⟩)
theorem t_X11_coaches {l : Launch} {ρ : am_R} {n d gc gs : Nat} {I : Nat → Nat → Int32} {J : Nat → Nat → Int64} {T : Nat} {x1 : Int32} {q : Int32 × (Nat → Nat → Int32)} (hd : 1 * n + 6 ≤ d) (h : f_X11_coaches n I J T x1 = some q) : AW l ρ d M_X11_coaches 0 [(0, .ref 0), (1, .int x1)] [] (am_KD, gc, gs) (I, J, am_RT T) (am_KD, gc, gs) (fun v H' => v = [.int q.1] ∧ H' = (q.2, J, am_RT T)) := by
  obtain ⟨d, rfl⟩ : ∃ e, d = e + 1 := ⟨d - 1, by omega⟩
  exact t_X11_coaches_0 hd h
def f_X11_isLaw (n : Nat) (I : Nat → Nat → Int32) (J : Nat → Nat → Int64) (T : Nat) (x1 : Int32) : Option (Int32) :=
  (f_X11_isRoadless n I J T).bind fun w1 =>
  if w1 = 0 then
   if x1 < 0 then
    some (0)
   else
    if (3 + (I 19 4)) ≤ x1 then
     some (0)
    else
     some (1)
  else
   some (0)
set_option maxRecDepth 100000 in
set_option maxHeartbeats 4000000 in
theorem t_X11_isLaw_0 {l : Launch} {ρ : am_R} {n d gc gs : Nat} {I : Nat → Nat → Int32} {J : Nat → Nat → Int64} {T : Nat} {x1 : Int32} {q : Int32} (hd : 0 * n + 1 ≤ (d + 1))
    (h : f_X11_isLaw n  I J T x1 = some q) : AW l ρ (d + 1) M_X11_isLaw 0 [(0, .ref 0), (1, .int x1)] [] (am_KD, gc, gs) (I, J, am_RT T) (am_KD, gc, gs) (fun v H' => v = [.int q] ∧ H' = (I, J, am_RT T)) := by
  unfold f_X11_isLaw at h
  refine op_aload_n (k := 0) dX11_isLaw_0 rfl rfl ?_
  obtain ⟨w1, ew1, h⟩ := am_bd h
  refine op_callV (M' := M_X11_isRoadless) [] (S0 := []) dX11_isLaw_1 tw_722 ok_X11_isRoadless tw_724 tw_23 kd_0 cls_11 rfl rfl rfl (Nat.le_of_ble_eq_true rfl) (Nat.le_of_ble_eq_true rfl) (t_X11_isRoadless (by omega) ew1) (am_le_rf _) ?_
  rintro _ _ ⟨rfl, rfl⟩
  refine op_if_ne (tgt := 28) dX11_isLaw_4 (by decide) (fun c2 => ?_) (fun c2 => ?_)
  · replace h := am_ie c2 h
    refine op_iconst (v := 0) dX11_isLaw_28 (by decide) ?_
    cases h
    exact (op_iret dX11_isLaw_29 rfl (by decide) ⟨rfl, rfl⟩)
  · replace h := am_ip c2 h
    refine op_iload_n (k := 1) dX11_isLaw_7 rfl rfl ?_
    refine op_if_lt (tgt := 28) dX11_isLaw_8 (by decide) (fun c3 => ?_) (fun c3 => ?_)
    · replace h := am_ip c3 h
      refine op_iconst (v := 0) dX11_isLaw_28 (by decide) ?_
      cases h
      exact (op_iret dX11_isLaw_29 rfl (by decide) ⟨rfl, rfl⟩)
    · replace h := am_ie c3 h
      refine op_iload_n (k := 1) dX11_isLaw_11 rfl rfl ?_
      refine op_iconst (v := 3) dX11_isLaw_12 (by decide) ?_
      refine op_aload_n (k := 0) dX11_isLaw_13 rfl rfl ?_
      refine st_getR (z := 19) dX11_isLaw_14 fl_X11_47 kd_0 (by decide) rfl rr_0_5 ?_
      refine st_getI (v := I 19 4) dX11_isLaw_17 fl_X11_132 kd_19 (by decide) rfl rfl ?_
      refine op_iadd dX11_isLaw_20 ?_
      refine op_icmp_ge (tgt := 28) dX11_isLaw_21 (by decide) (fun c4 => ?_) (fun c4 => ?_)
      · replace h := am_ip c4 h
        refine op_iconst (v := 0) dX11_isLaw_28 (by decide) ?_
        cases h
        exact (op_iret dX11_isLaw_29 rfl (by decide) ⟨rfl, rfl⟩)
      · replace h := am_ie c4 h
        refine op_iconst (v := 1) dX11_isLaw_24 (by decide) ?_
        refine op_goto (tgt := 29) dX11_isLaw_25 (by decide) ?_
        cases h
        exact (op_iret dX11_isLaw_29 rfl (by decide) ⟨rfl, rfl⟩)
theorem t_X11_isLaw {l : Launch} {ρ : am_R} {n d gc gs : Nat} {I : Nat → Nat → Int32} {J : Nat → Nat → Int64} {T : Nat} {x1 : Int32} {q : Int32} (hd : 0 * n + 1 ≤ d) (h : f_X11_isLaw n I J T x1 = some q) : AW l ρ d M_X11_isLaw 0 [(0, .ref 0), (1, .int x1)] [] (am_KD, gc, gs) (I, J, am_RT T) (am_KD, gc, gs) (fun v H' => v = [.int q] ∧ H' = (I, J, am_RT T)) := by
  obtain ⟨d, rfl⟩ : ∃ e, d = e + 1 := ⟨d - 1, by omega⟩
  exact t_X11_isLaw_0 hd h
def f_J7_fill_53178_5 (n : Nat) : Nat → (Nat → Nat → Int32) → (Nat → Nat → Int64) → Nat → Int32 → Int32 → Int32 → Option ((Nat → Nat → Int32))
  | 0, _, _, _, _, _, _ => none
  | m + 1, I, J, T, x1, x2, x3 =>
    if x3 ≤ x2 then
     some (I)
    else
     if ok_ix x2 64 then
      f_J7_fill_53178_5 n  m ((am_u I 28 x2.toNatClampNeg x1)) J T x1 (x2 + 1) x3
     else none
def f_J7_fill_53178 (n : Nat) (I : Nat → Nat → Int32) (J : Nat → Nat → Int64) (T : Nat) (x1 : Int32) : Option ((Nat → Nat → Int32)) :=
  f_J7_fill_53178_5 n  n I J T x1 0 64
set_option maxRecDepth 100000 in
set_option maxHeartbeats 4000000 in
theorem t_J7_fill_53178_5 {l : Launch} {ρ : am_R} {n d gc gs : Nat} {q : (Nat → Nat → Int32)} (hd : 0 * n + 0 ≤ d)
    : ∀ (m : Nat) (I : Nat → Nat → Int32) (J : Nat → Nat → Int64) (T : Nat) (x1 : Int32) (x2 : Int32) (x3 : Int32), f_J7_fill_53178_5 n  m I J T x1 x2 x3 = some q → AW l ρ d M_J7_fill_53178 5 [(0, .ref 28), (1, .int x1), (2, .int x2), (3, .int x3)] [] (am_KD, gc, gs) (I, J, am_RT T) (am_KD, gc, gs) (fun v H' => v = [] ∧ H' = (q, J, am_RT T)) := by
  intro m
  induction m with
  | zero =>
    intro I J T x1 x2 x3 h
    rw [f_J7_fill_53178_5] at h
    cases h
  | succ m ih =>
    intro I J T x1 x2 x3 h
    rw [f_J7_fill_53178_5] at h
    refine op_iload_n (k := 2) dJ7_fill_53178_5 rfl rfl ?_
    refine op_iload_n (k := 3) dJ7_fill_53178_6 rfl rfl ?_
    refine op_icmp_ge (tgt := 20) dJ7_fill_53178_7 (by decide) (fun c1 => ?_) (fun c1 => ?_)
    · replace h := am_ip c1 h
      cases h
      exact (op_vret dJ7_fill_53178_20 rfl ⟨rfl, rfl⟩)
    · replace h := am_ie c1 h
      refine op_aload_n (k := 0) dJ7_fill_53178_10 rfl rfl ?_
      refine op_iload_n (k := 2) dJ7_fill_53178_11 rfl rfl ?_
      refine op_iload_n (k := 1) dJ7_fill_53178_12 rfl rfl ?_
      obtain ⟨g2, h⟩ := am_gd h
      refine st_iast (k := x2.toNatClampNeg) dJ7_fill_53178_13 kd_28 g2 rfl ?_
      refine op_iinc (k := 2) (v := x2 + 1) (L' := [(2, .int (x2 + 1)), (0, .ref 28), (1, .int x1), (3, .int x3)]) dJ7_fill_53178_14 rfl rfl (by decide) rfl ?_
      refine op_goto (tgt := 5) dJ7_fill_53178_17 (by decide) ?_
      refine AW.perm [1, 2, 0, 3] rfl ?_
      exact ih _ _ _ _ _ _ h
set_option maxRecDepth 100000 in
set_option maxHeartbeats 4000000 in
theorem t_J7_fill_53178_0 {l : Launch} {ρ : am_R} {n d gc gs : Nat} {I : Nat → Nat → Int32} {J : Nat → Nat → Int64} {T : Nat} {x1 : Int32} {q : (Nat → Nat → Int32)} (hd : 0 * n + 0 ≤ d)
    (h : f_J7_fill_53178 n  I J T x1 = some q) : AW l ρ d M_J7_fill_53178 0 [(0, .ref 28), (1, .int x1)] [] (am_KD, gc, gs) (I, J, am_RT T) (am_KD, gc, gs) (fun v H' => v = [] ∧ H' = (q, J, am_RT T)) := by
  unfold f_J7_fill_53178 at h
  refine op_iconst (v := 0) dJ7_fill_53178_0 (by decide) ?_
  refine op_istore_n (L' := [(2, .int 0), (0, .ref 28), (1, .int x1)]) dJ7_fill_53178_1 rfl (by decide) rfl ?_
  refine op_aload_n (k := 1) dJ7_fill_53178_2 rfl rfl ?_
  refine op_alen50 dJ7_fill_53178_3 kd_28 ?_
  refine op_istore_n (L' := [(3, .int 64), (2, .int 0), (0, .ref 28), (1, .int x1)]) dJ7_fill_53178_4 rfl (by decide) rfl ?_
  refine AW.perm [2, 3, 1, 0] rfl ?_
  exact t_J7_fill_53178_5 hd  n _ _ _ _ _ _ h
theorem t_J7_fill_53178 {l : Launch} {ρ : am_R} {n d gc gs : Nat} {I : Nat → Nat → Int32} {J : Nat → Nat → Int64} {T : Nat} {x1 : Int32} {q : (Nat → Nat → Int32)} (hd : 0 * n + 0 ≤ d) (h : f_J7_fill_53178 n I J T x1 = some q) : AW l ρ d M_J7_fill_53178 0 [(0, .ref 28), (1, .int x1)] [] (am_KD, gc, gs) (I, J, am_RT T) (am_KD, gc, gs) (fun v H' => v = [] ∧ H' = (q, J, am_RT T)) := t_J7_fill_53178_0 hd h
def f_X7_costOf_24 (n : Nat) (I : Nat → Nat → Int32) (J : Nat → Nat → Int64) (T : Nat) (x1 : Int32) : Option (Int32 × (Nat → Nat → Int32)) :=
  if ok_ix x1 64 then
   some (I 28 x1.toNatClampNeg, I)
  else none
def f_X7_costOf (n : Nat) (I : Nat → Nat → Int32) (J : Nat → Nat → Int64) (T : Nat) (x1 : Int32) : Option (Int32 × (Nat → Nat → Int32)) :=
  if ok_ix x1 64 then
   if (I 28 x1.toNatClampNeg) = ((-1)) then
    (f_X2_costFor n I J T x1).bind fun w3 =>
    if ok_ix x1 64 then
     f_X7_costOf_24 n  ((am_u I 28 x1.toNatClampNeg w3)) J T x1
    else none
   else
    f_X7_costOf_24 n  I J T x1
  else none
set_option maxRecDepth 100000 in
set_option maxHeartbeats 4000000 in
theorem t_X7_costOf_24 {l : Launch} {ρ : am_R} {n d gc gs : Nat} {I : Nat → Nat → Int32} {J : Nat → Nat → Int64} {T : Nat} {x1 : Int32} {q : Int32 × (Nat → Nat → Int32)} (hd : 0 * n + 3 ≤ (d + 1))
    (h : f_X7_costOf_24 n  I J T x1 = some q) : AW l ρ (d + 1) M_X7_costOf 24 [(0, .ref 27), (1, .int x1)] [] (am_KD, gc, gs) (I, J, am_RT T) (am_KD, gc, gs) (fun v H' => v = [.int q.1] ∧ H' = (q.2, J, am_RT T)) := by
  unfold f_X7_costOf_24 at h
  refine op_aload_n (k := 0) dX7_costOf_24 rfl rfl ?_
  refine st_getR (z := 28) dX7_costOf_25 fl_X7_9 kd_27 (by decide) rfl rr_27_3 ?_
  refine op_iload_n (k := 1) dX7_costOf_28 rfl rfl ?_
  obtain ⟨g1, h⟩ := am_gd h
  refine st_iald (k := x1.toNatClampNeg) (v := I 28 x1.toNatClampNeg) dX7_costOf_29 kd_28 g1 rfl rfl ?_
  cases h
  exact (op_iret dX7_costOf_30 rfl rfl ⟨rfl, rfl⟩)
set_option maxRecDepth 100000 in
set_option maxHeartbeats 4000000 in
theorem t_X7_costOf_0 {l : Launch} {ρ : am_R} {n d gc gs : Nat} {I : Nat → Nat → Int32} {J : Nat → Nat → Int64} {T : Nat} {x1 : Int32} {q : Int32 × (Nat → Nat → Int32)} (hd : 0 * n + 3 ≤ (d + 1))
    (h : f_X7_costOf n  I J T x1 = some q) : AW l ρ (d + 1) M_X7_costOf 0 [(0, .ref 27), (1, .int x1)] [] (am_KD, gc, gs) (I, J, am_RT T) (am_KD, gc, gs) (fun v H' => v = [.int q.1] ∧ H' = (q.2, J, am_RT T)) := by
  unfold f_X7_costOf at h
  refine op_aload_n (k := 0) dX7_costOf_0 rfl rfl ?_
  refine st_getR (z := 28) dX7_costOf_1 fl_X7_9 kd_27 (by decide) rfl rr_27_3 ?_
  refine op_iload_n (k := 1) dX7_costOf_4 rfl rfl ?_
  obtain ⟨g1, h⟩ := am_gd h
  refine st_iald (k := x1.toNatClampNeg) (v := I 28 x1.toNatClampNeg) dX7_costOf_5 kd_28 g1 rfl rfl ?_
  refine op_iconst (v := (-1)) dX7_costOf_6 (by decide) ?_
  refine op_icmp_ne (tgt := 24) dX7_costOf_7 (by decide) (fun c2 => ?_) (fun c2 => ?_)
  · replace h := am_ie c2 h
    exact t_X7_costOf_24 hd  h
  · replace h := am_ip c2 h
    refine op_aload_n (k := 0) dX7_costOf_10 rfl rfl ?_
    refine st_getR (z := 28) dX7_costOf_11 fl_X7_9 kd_27 (by decide) rfl rr_27_3 ?_
    refine op_iload_n (k := 1) dX7_costOf_14 rfl rfl ?_
    refine op_aload_n (k := 0) dX7_costOf_15 rfl rfl ?_
    refine st_getR (z := 3) dX7_costOf_16 fl_X7_18 kd_27 (by decide) rfl rr_27_0 ?_
    refine op_iload_n (k := 1) dX7_costOf_19 rfl rfl ?_
    obtain ⟨w3, ew3, h⟩ := am_bd h
    refine op_callV (M' := M_X2_costFor) [.int x1] (S0 := [.int x1, .ref 28]) dX7_costOf_20 tw_859 ok_X2_costFor tw_774 tw_775 kd_3 cls_2 rfl rfl rfl (Nat.le_of_ble_eq_true rfl) (Nat.le_of_ble_eq_true rfl) (t_X2_costFor (by omega) ew3) (am_le_rf _) ?_
    rintro _ _ ⟨rfl, rfl⟩
    obtain ⟨g4, h⟩ := am_gd h
    refine st_iast (k := x1.toNatClampNeg) dX7_costOf_23 kd_28 g4 rfl ?_
    exact t_X7_costOf_24 hd  h
theorem t_X7_costOf {l : Launch} {ρ : am_R} {n d gc gs : Nat} {I : Nat → Nat → Int32} {J : Nat → Nat → Int64} {T : Nat} {x1 : Int32} {q : Int32 × (Nat → Nat → Int32)} (hd : 0 * n + 3 ≤ d) (h : f_X7_costOf n I J T x1 = some q) : AW l ρ d M_X7_costOf 0 [(0, .ref 27), (1, .int x1)] [] (am_KD, gc, gs) (I, J, am_RT T) (am_KD, gc, gs) (fun v H' => v = [.int q.1] ∧ H' = (q.2, J, am_RT T)) := by
  obtain ⟨d, rfl⟩ : ∃ e, d = e + 1 := ⟨d - 1, by omega⟩
  exact t_X7_costOf_0 hd h
def f_X5_pop (n : Nat) (I : Nat → Nat → Int32) (J : Nat → Nat → Int64) (T : Nat) : Option (Int32 × (Nat → Nat → Int32)) :=
  if (I 19 3) = 0 then
   some (0, I)
  else
   if ok_ix ((I 19 3) - 1) 160 then
    some (I 26 (((I 19 3) - 1).toNatClampNeg), (am_u I 19 3 ((I 19 3) - 1)))
   else none
set_option maxRecDepth 100000 in
set_option maxHeartbeats 4000000 in
theorem t_X5_pop_0 {l : Launch} {ρ : am_R} {n d gc gs : Nat} {I : Nat → Nat → Int32} {J : Nat → Nat → Int64} {T : Nat} {q : Int32 × (Nat → Nat → Int32)} (hd : 0 * n + 0 ≤ d)
    (h : f_X5_pop n  I J T  = some q) : AW l ρ d M_X5_pop 0 [(0, .ref 19)] [] (am_KD, gc, gs) (I, J, am_RT T) (am_KD, gc, gs) (fun v H' => v = [.int q.1] ∧ H' = (q.2, J, am_RT T)) := by
  unfold f_X5_pop at h
  refine op_aload_n (k := 0) dX5_pop_0 rfl rfl ?_
  refine st_getI (v := I 19 3) dX5_pop_1 fl_X5_33 kd_19 (by decide) rfl rfl ?_
  refine op_if_ne (tgt := 9) dX5_pop_4 (by decide) (fun c1 => ?_) (fun c1 => ?_)
  · replace h := am_ie c1 h
    refine op_aload_n (k := 0) dX5_pop_9 rfl rfl ?_
    refine op_dup dX5_pop_10 rfl ?_
    refine st_getI (v := I 19 3) dX5_pop_11 fl_X5_33 kd_19 (by decide) rfl rfl ?_
    refine op_iconst (v := 1) dX5_pop_14 (by decide) ?_
    refine op_isub dX5_pop_15 ?_
    refine st_putI dX5_pop_16 fl_X5_33 kd_19 (by decide) rfl ?_
    refine op_aload_n (k := 0) dX5_pop_19 rfl rfl ?_
    refine st_getR (z := 26) dX5_pop_20 fl_X5_20 kd_19 (by decide) rfl rr_19_2 ?_
    refine op_aload_n (k := 0) dX5_pop_23 rfl rfl ?_
    refine st_getI (v := (I 19 3) - 1) dX5_pop_24 fl_X5_33 kd_19 (by decide) rfl rfl ?_
    obtain ⟨g2, h⟩ := am_gd h
    refine st_iald (k := ((I 19 3) - 1).toNatClampNeg) (v := I 26 (((I 19 3) - 1).toNatClampNeg)) dX5_pop_27 kd_26 g2 rfl rfl ?_
    cases h
    exact (op_iret dX5_pop_28 rfl rfl ⟨rfl, rfl⟩)
  · replace h := am_ip c1 h
    refine op_iconst (v := 0) dX5_pop_7 (by decide) ?_
    cases h
    exact (op_iret dX5_pop_8 rfl rfl ⟨rfl, rfl⟩)
theorem t_X5_pop {l : Launch} {ρ : am_R} {n d gc gs : Nat} {I : Nat → Nat → Int32} {J : Nat → Nat → Int64} {T : Nat} {q : Int32 × (Nat → Nat → Int32)} (hd : 0 * n + 0 ≤ d) (h : f_X5_pop n I J T  = some q) : AW l ρ d M_X5_pop 0 [(0, .ref 19)] [] (am_KD, gc, gs) (I, J, am_RT T) (am_KD, gc, gs) (fun v H' => v = [.int q.1] ∧ H' = (q.2, J, am_RT T)) := t_X5_pop_0 hd h
def f_X5_push (n : Nat) (I : Nat → Nat → Int32) (J : Nat → Nat → Int64) (T : Nat) (x1 : Int32) : Option ((Nat → Nat → Int32)) :=
  if 160 ≤ (I 19 3) then
   some (I)
  else
   if ok_ix (I 19 3) 160 then
    some ((am_u (am_u I 26 ((I 19 3).toNatClampNeg) x1) 19 3 ((I 19 3) + 1)))
   else none
set_option maxRecDepth 100000 in
set_option maxHeartbeats 4000000 in
theorem t_X5_push_0 {l : Launch} {ρ : am_R} {n d gc gs : Nat} {I : Nat → Nat → Int32} {J : Nat → Nat → Int64} {T : Nat} {x1 : Int32} {q : (Nat → Nat → Int32)} (hd : 0 * n + 0 ≤ d)
    (h : f_X5_push n  I J T x1 = some q) : AW l ρ d M_X5_push 0 [(0, .ref 19), (1, .int x1)] [] (am_KD, gc, gs) (I, J, am_RT T) (am_KD, gc, gs) (fun v H' => v = [] ∧ H' = (q, J, am_RT T)) := by
  unfold f_X5_push at h
  refine op_aload_n (k := 0) dX5_push_0 rfl rfl ?_
  refine st_getI (v := I 19 3) dX5_push_1 fl_X5_33 kd_19 (by decide) rfl rfl ?_
  refine op_aload_n (k := 0) dX5_push_4 rfl rfl ?_
  refine st_getR (z := 26) dX5_push_5 fl_X5_20 kd_19 (by decide) rfl rr_19_2 ?_
  refine op_alen50 dX5_push_8 kd_26 ?_
  refine op_icmp_ge (tgt := 32) dX5_push_9 (by decide) (fun c1 => ?_) (fun c1 => ?_)
  · replace h := am_ip c1 h
    cases h
    exact (op_vret dX5_push_32 rfl ⟨rfl, rfl⟩)
  · replace h := am_ie c1 h
    refine op_aload_n (k := 0) dX5_push_12 rfl rfl ?_
    refine st_getR (z := 26) dX5_push_13 fl_X5_20 kd_19 (by decide) rfl rr_19_2 ?_
    refine op_aload_n (k := 0) dX5_push_16 rfl rfl ?_
    refine st_getI (v := I 19 3) dX5_push_17 fl_X5_33 kd_19 (by decide) rfl rfl ?_
    refine op_iload_n (k := 1) dX5_push_20 rfl rfl ?_
    obtain ⟨g2, h⟩ := am_gd h
    refine st_iast (k := (I 19 3).toNatClampNeg) dX5_push_21 kd_26 g2 rfl ?_
    refine op_aload_n (k := 0) dX5_push_22 rfl rfl ?_
    refine op_dup dX5_push_23 rfl ?_
    refine st_getI (v := I 19 3) dX5_push_24 fl_X5_33 kd_19 (by decide) rfl rfl ?_
    refine op_iconst (v := 1) dX5_push_27 (by decide) ?_
    refine op_iadd dX5_push_28 ?_
    refine st_putI dX5_push_29 fl_X5_33 kd_19 (by decide) rfl ?_
    cases h
    exact (op_vret dX5_push_32 rfl ⟨rfl, rfl⟩)
theorem t_X5_push {l : Launch} {ρ : am_R} {n d gc gs : Nat} {I : Nat → Nat → Int32} {J : Nat → Nat → Int64} {T : Nat} {x1 : Int32} {q : (Nat → Nat → Int32)} (hd : 0 * n + 0 ≤ d) (h : f_X5_push n I J T x1 = some q) : AW l ρ d M_X5_push 0 [(0, .ref 19), (1, .int x1)] [] (am_KD, gc, gs) (I, J, am_RT T) (am_KD, gc, gs) (fun v H' => v = [] ∧ H' = (q, J, am_RT T)) := t_X5_push_0 hd h
def f_X5_pair_208 (n : Nat) (I : Nat → Nat → Int32) (J : Nat → Nat → Int64) (T : Nat) : Option (Int64) :=
  some (1)
def f_X5_pair (n : Nat) (I : Nat → Nat → Int32) (J : Nat → Nat → Int64) (T : Nat) (x0 : Int32) (y1 : Int64) (y3 : Int64) : Option (Int64) :=
  if x0 = 38 then
   if (lg_cmp y1 1) = 0 then
    if (lg_cmp y3 1) = 0 then
     some (1)
    else
     some (0)
   else
    some (0)
  else
  if x0 = 42 then
   some (y1 * y3)
  else
  if x0 = 43 then
   some (y1 + y3)
  else
  if x0 = 45 then
   some (y1 - y3)
  else
  if x0 = 47 then
   if (lg_cmp y3 0) = 0 then
    some (0)
   else
    if ¬ y3 = 0 then
     some (y1 / y3)
    else none
  else
  if x0 = 60 then
   if 0 ≤ (lg_cmp y1 y3) then
    some (0)
   else
    some (1)
  else
  if x0 = 61 then
   if (lg_cmp y1 y3) = 0 then
    some (1)
   else
    some (0)
  else
  if x0 = 62 then
   if (lg_cmp y1 y3) ≤ 0 then
    some (0)
   else
    some (1)
  else
  if (lg_cmp y1 1) = 0 then
   f_X5_pair_208 n  I J T
  else
   if (lg_cmp y3 1) = 0 then
    f_X5_pair_208 n  I J T
   else
    some (0)
set_option maxRecDepth 100000 in
set_option maxHeartbeats 4000000 in
theorem t_X5_pair_208 {l : Launch} {ρ : am_R} {n d gc gs : Nat} {I : Nat → Nat → Int32} {J : Nat → Nat → Int64} {T : Nat} {q : Int64} (hd : 0 * n + 0 ≤ d)
    (h : f_X5_pair_208 n  I J T  = some q) : AW l ρ d M_X5_pair 208 [] [] (am_KD, gc, gs) (I, J, am_RT T) (am_KD, gc, gs) (fun v H' => v = [.long q] ∧ H' = (I, J, am_RT T)) := by
  unfold f_X5_pair_208 at h
  refine op_lconst (v := 1) dX5_pair_208 (by decide) ?_
  refine op_goto (tgt := 213) dX5_pair_209 (by decide) ?_
  cases h
  exact (op_lret dX5_pair_213 rfl ⟨rfl, rfl⟩)
set_option maxRecDepth 100000 in
set_option maxHeartbeats 4000000 in
theorem t_X5_pair_0 {l : Launch} {ρ : am_R} {n d gc gs : Nat} {I : Nat → Nat → Int32} {J : Nat → Nat → Int64} {T : Nat} {x0 : Int32} {y1 : Int64} {y3 : Int64} {q : Int64} (hd : 0 * n + 0 ≤ d)
    (h : f_X5_pair n  I J T x0 y1 y3 = some q) : AW l ρ d M_X5_pair 0 [(0, .int x0), (1, .long y1), (3, .long y3)] [] (am_KD, gc, gs) (I, J, am_RT T) (am_KD, gc, gs) (fun v H' => v = [.long q] ∧ H' = (I, J, am_RT T)) := by
  unfold f_X5_pair at h
  refine op_iload_n (k := 0) dX5_pair_0 rfl rfl ?_
  by_cases c1_0 : x0 = 38
  · replace h := am_ip c1_0 h
    refine op_tableIn (tgt := 178) dX5_pair_1 (by rw [c1_0]; decide) (by rw [c1_0]; decide) (off := 177) (by rw [c1_0]; rfl) (by decide) ?_
    refine op_lload_n (k := 1) dX5_pair_178 rfl rfl ?_
    refine op_lconst (v := 1) dX5_pair_179 (by decide) ?_
    refine op_lcmp dX5_pair_180 ?_
    refine op_if_ne (tgt := 194) dX5_pair_181 (by decide) (fun c2 => ?_) (fun c2 => ?_)
    · replace h := am_ie c2 h
      refine op_lconst (v := 0) dX5_pair_194 (by decide) ?_
      cases h
      exact (op_lret dX5_pair_195 rfl ⟨rfl, rfl⟩)
    · replace h := am_ip c2 h
      refine op_lload_n (k := 2) dX5_pair_184 rfl rfl ?_
      refine op_lconst (v := 1) dX5_pair_185 (by decide) ?_
      refine op_lcmp dX5_pair_186 ?_
      refine op_if_ne (tgt := 194) dX5_pair_187 (by decide) (fun c3 => ?_) (fun c3 => ?_)
      · replace h := am_ie c3 h
        refine op_lconst (v := 0) dX5_pair_194 (by decide) ?_
        cases h
        exact (op_lret dX5_pair_195 rfl ⟨rfl, rfl⟩)
      · replace h := am_ip c3 h
        refine op_lconst (v := 1) dX5_pair_190 (by decide) ?_
        refine op_goto (tgt := 195) dX5_pair_191 (by decide) ?_
        cases h
        exact (op_lret dX5_pair_195 rfl ⟨rfl, rfl⟩)
  replace h := am_ie c1_0 h
  by_cases c1_1 : x0 = 42
  · replace h := am_ip c1_1 h
    refine op_tableIn (tgt := 124) dX5_pair_1 (by rw [c1_1]; decide) (by rw [c1_1]; decide) (off := 123) (by rw [c1_1]; rfl) (by decide) ?_
    refine op_lload_n (k := 1) dX5_pair_124 rfl rfl ?_
    refine op_lload_n (k := 2) dX5_pair_125 rfl rfl ?_
    refine op_lmul dX5_pair_126 ?_
    cases h
    exact (op_lret dX5_pair_127 rfl ⟨rfl, rfl⟩)
  replace h := am_ie c1_1 h
  by_cases c1_2 : x0 = 43
  · replace h := am_ip c1_2 h
    refine op_tableIn (tgt := 116) dX5_pair_1 (by rw [c1_2]; decide) (by rw [c1_2]; decide) (off := 115) (by rw [c1_2]; rfl) (by decide) ?_
    refine op_lload_n (k := 1) dX5_pair_116 rfl rfl ?_
    refine op_lload_n (k := 2) dX5_pair_117 rfl rfl ?_
    refine op_ladd dX5_pair_118 ?_
    cases h
    exact (op_lret dX5_pair_119 rfl ⟨rfl, rfl⟩)
  replace h := am_ie c1_2 h
  by_cases c1_3 : x0 = 45
  · replace h := am_ip c1_3 h
    refine op_tableIn (tgt := 120) dX5_pair_1 (by rw [c1_3]; decide) (by rw [c1_3]; decide) (off := 119) (by rw [c1_3]; rfl) (by decide) ?_
    refine op_lload_n (k := 1) dX5_pair_120 rfl rfl ?_
    refine op_lload_n (k := 2) dX5_pair_121 rfl rfl ?_
    refine op_lsub dX5_pair_122 ?_
    cases h
    exact (op_lret dX5_pair_123 rfl ⟨rfl, rfl⟩)
  replace h := am_ie c1_3 h
  by_cases c1_4 : x0 = 47
  · replace h := am_ip c1_4 h
    refine op_tableIn (tgt := 128) dX5_pair_1 (by rw [c1_4]; decide) (by rw [c1_4]; decide) (off := 127) (by rw [c1_4]; rfl) (by decide) ?_
    refine op_lload_n (k := 2) dX5_pair_128 rfl rfl ?_
    refine op_lconst (v := 0) dX5_pair_129 (by decide) ?_
    refine op_lcmp dX5_pair_130 ?_
    refine op_if_ne (tgt := 138) dX5_pair_131 (by decide) (fun c4 => ?_) (fun c4 => ?_)
    · replace h := am_ie c4 h
      refine op_lload_n (k := 1) dX5_pair_138 rfl rfl ?_
      refine op_lload_n (k := 2) dX5_pair_139 rfl rfl ?_
      obtain ⟨g5, h⟩ := am_gd h
      refine op_ldiv dX5_pair_140 g5 ?_
      cases h
      exact (op_lret dX5_pair_141 rfl ⟨rfl, rfl⟩)
    · replace h := am_ip c4 h
      refine op_lconst (v := 0) dX5_pair_134 (by decide) ?_
      refine op_goto (tgt := 141) dX5_pair_135 (by decide) ?_
      cases h
      exact (op_lret dX5_pair_141 rfl ⟨rfl, rfl⟩)
  replace h := am_ie c1_4 h
  by_cases c1_5 : x0 = 60
  · replace h := am_ip c1_5 h
    refine op_tableIn (tgt := 154) dX5_pair_1 (by rw [c1_5]; decide) (by rw [c1_5]; decide) (off := 153) (by rw [c1_5]; rfl) (by decide) ?_
    refine op_lload_n (k := 1) dX5_pair_154 rfl rfl ?_
    refine op_lload_n (k := 2) dX5_pair_155 rfl rfl ?_
    refine op_lcmp dX5_pair_156 ?_
    refine op_if_ge (tgt := 164) dX5_pair_157 (by decide) (fun c6 => ?_) (fun c6 => ?_)
    · replace h := am_ip c6 h
      refine op_lconst (v := 0) dX5_pair_164 (by decide) ?_
      cases h
      exact (op_lret dX5_pair_165 rfl ⟨rfl, rfl⟩)
    · replace h := am_ie c6 h
      refine op_lconst (v := 1) dX5_pair_160 (by decide) ?_
      refine op_goto (tgt := 165) dX5_pair_161 (by decide) ?_
      cases h
      exact (op_lret dX5_pair_165 rfl ⟨rfl, rfl⟩)
  replace h := am_ie c1_5 h
  by_cases c1_6 : x0 = 61
  · replace h := am_ip c1_6 h
    refine op_tableIn (tgt := 142) dX5_pair_1 (by rw [c1_6]; decide) (by rw [c1_6]; decide) (off := 141) (by rw [c1_6]; rfl) (by decide) ?_
    refine op_lload_n (k := 1) dX5_pair_142 rfl rfl ?_
    refine op_lload_n (k := 2) dX5_pair_143 rfl rfl ?_
    refine op_lcmp dX5_pair_144 ?_
    refine op_if_ne (tgt := 152) dX5_pair_145 (by decide) (fun c7 => ?_) (fun c7 => ?_)
    · replace h := am_ie c7 h
      refine op_lconst (v := 0) dX5_pair_152 (by decide) ?_
      cases h
      exact (op_lret dX5_pair_153 rfl ⟨rfl, rfl⟩)
    · replace h := am_ip c7 h
      refine op_lconst (v := 1) dX5_pair_148 (by decide) ?_
      refine op_goto (tgt := 153) dX5_pair_149 (by decide) ?_
      cases h
      exact (op_lret dX5_pair_153 rfl ⟨rfl, rfl⟩)
  replace h := am_ie c1_6 h
  by_cases c1_7 : x0 = 62
  · replace h := am_ip c1_7 h
    refine op_tableIn (tgt := 166) dX5_pair_1 (by rw [c1_7]; decide) (by rw [c1_7]; decide) (off := 165) (by rw [c1_7]; rfl) (by decide) ?_
    refine op_lload_n (k := 1) dX5_pair_166 rfl rfl ?_
    refine op_lload_n (k := 2) dX5_pair_167 rfl rfl ?_
    refine op_lcmp dX5_pair_168 ?_
    refine op_if_le (tgt := 176) dX5_pair_169 (by decide) (fun c8 => ?_) (fun c8 => ?_)
    · replace h := am_ip c8 h
      refine op_lconst (v := 0) dX5_pair_176 (by decide) ?_
      cases h
      exact (op_lret dX5_pair_177 rfl ⟨rfl, rfl⟩)
    · replace h := am_ie c8 h
      refine op_lconst (v := 1) dX5_pair_172 (by decide) ?_
      refine op_goto (tgt := 177) dX5_pair_173 (by decide) ?_
      cases h
      exact (op_lret dX5_pair_177 rfl ⟨rfl, rfl⟩)
  replace h := am_ie c1_7 h
  have c1_d : x0.toInt = 39 ∨ x0.toInt = 40 ∨ x0.toInt = 41 ∨ x0.toInt = 44 ∨ x0.toInt = 46 ∨ x0.toInt = 48 ∨ x0.toInt = 49 ∨ x0.toInt = 50 ∨ x0.toInt = 51 ∨ x0.toInt = 52 ∨ x0.toInt = 53 ∨ x0.toInt = 54 ∨ x0.toInt = 55 ∨ x0.toInt = 56 ∨ x0.toInt = 57 ∨ x0.toInt = 58 ∨ x0.toInt = 59 ∨ (x0.toInt < 38 ∨ 62 < x0.toInt) := by have z0 : x0.toInt ≠ 38 := fun z => c1_0 (Int32.toInt_inj.mp z); have z1 : x0.toInt ≠ 42 := fun z => c1_1 (Int32.toInt_inj.mp z); have z2 : x0.toInt ≠ 43 := fun z => c1_2 (Int32.toInt_inj.mp z); have z3 : x0.toInt ≠ 45 := fun z => c1_3 (Int32.toInt_inj.mp z); have z4 : x0.toInt ≠ 47 := fun z => c1_4 (Int32.toInt_inj.mp z); have z5 : x0.toInt ≠ 60 := fun z => c1_5 (Int32.toInt_inj.mp z); have z6 : x0.toInt ≠ 61 := fun z => c1_6 (Int32.toInt_inj.mp z); have z7 : x0.toInt ≠ 62 := fun z => c1_7 (Int32.toInt_inj.mp z); omega
  have c1_k : AW l ρ d M_X5_pair 196 [(0, .int x0), (1, .long y1), (3, .long y3)] [] (am_KD, gc, gs) (I, J, am_RT T) (am_KD, gc, gs) (fun v H' => v = [.long q] ∧ H' = (I, J, am_RT T)) := by
    refine op_lload_n (k := 1) dX5_pair_196 rfl rfl ?_
    refine op_lconst (v := 1) dX5_pair_197 (by decide) ?_
    refine op_lcmp dX5_pair_198 ?_
    refine op_if_eq (tgt := 208) dX5_pair_199 (by decide) (fun c9 => ?_) (fun c9 => ?_)
    · replace h := am_ip c9 h
      refine AW.perm [] rfl ?_
      exact t_X5_pair_208 hd  h
    · replace h := am_ie c9 h
      refine op_lload_n (k := 2) dX5_pair_202 rfl rfl ?_
      refine op_lconst (v := 1) dX5_pair_203 (by decide) ?_
      refine op_lcmp dX5_pair_204 ?_
      refine op_if_ne (tgt := 212) dX5_pair_205 (by decide) (fun c10 => ?_) (fun c10 => ?_)
      · replace h := am_ie c10 h
        refine op_lconst (v := 0) dX5_pair_212 (by decide) ?_
        cases h
        exact (op_lret dX5_pair_213 rfl ⟨rfl, rfl⟩)
      · replace h := am_ip c10 h
        refine AW.perm [] rfl ?_
        exact t_X5_pair_208 hd  h
  rcases c1_d with hz | hz | hz | hz | hz | hz | hz | hz | hz | hz | hz | hz | hz | hz | hz | hz | hz | hz
  · exact op_tableIn (tgt := 196) dX5_pair_1 (by rw [hz]; decide) (by rw [hz]; decide) (off := 195) (by rw [hz]; rfl) (by decide) c1_k
  · exact op_tableIn (tgt := 196) dX5_pair_1 (by rw [hz]; decide) (by rw [hz]; decide) (off := 195) (by rw [hz]; rfl) (by decide) c1_k
  · exact op_tableIn (tgt := 196) dX5_pair_1 (by rw [hz]; decide) (by rw [hz]; decide) (off := 195) (by rw [hz]; rfl) (by decide) c1_k
  · exact op_tableIn (tgt := 196) dX5_pair_1 (by rw [hz]; decide) (by rw [hz]; decide) (off := 195) (by rw [hz]; rfl) (by decide) c1_k
  · exact op_tableIn (tgt := 196) dX5_pair_1 (by rw [hz]; decide) (by rw [hz]; decide) (off := 195) (by rw [hz]; rfl) (by decide) c1_k
  · exact op_tableIn (tgt := 196) dX5_pair_1 (by rw [hz]; decide) (by rw [hz]; decide) (off := 195) (by rw [hz]; rfl) (by decide) c1_k
  · exact op_tableIn (tgt := 196) dX5_pair_1 (by rw [hz]; decide) (by rw [hz]; decide) (off := 195) (by rw [hz]; rfl) (by decide) c1_k
  · exact op_tableIn (tgt := 196) dX5_pair_1 (by rw [hz]; decide) (by rw [hz]; decide) (off := 195) (by rw [hz]; rfl) (by decide) c1_k
  · exact op_tableIn (tgt := 196) dX5_pair_1 (by rw [hz]; decide) (by rw [hz]; decide) (off := 195) (by rw [hz]; rfl) (by decide) c1_k
  · exact op_tableIn (tgt := 196) dX5_pair_1 (by rw [hz]; decide) (by rw [hz]; decide) (off := 195) (by rw [hz]; rfl) (by decide) c1_k
  · exact op_tableIn (tgt := 196) dX5_pair_1 (by rw [hz]; decide) (by rw [hz]; decide) (off := 195) (by rw [hz]; rfl) (by decide) c1_k
  · exact op_tableIn (tgt := 196) dX5_pair_1 (by rw [hz]; decide) (by rw [hz]; decide) (off := 195) (by rw [hz]; rfl) (by decide) c1_k
  · exact op_tableIn (tgt := 196) dX5_pair_1 (by rw [hz]; decide) (by rw [hz]; decide) (off := 195) (by rw [hz]; rfl) (by decide) c1_k
  · exact op_tableIn (tgt := 196) dX5_pair_1 (by rw [hz]; decide) (by rw [hz]; decide) (off := 195) (by rw [hz]; rfl) (by decide) c1_k
  · exact op_tableIn (tgt := 196) dX5_pair_1 (by rw [hz]; decide) (by rw [hz]; decide) (off := 195) (by rw [hz]; rfl) (by decide) c1_k
  · exact op_tableIn (tgt := 196) dX5_pair_1 (by rw [hz]; decide) (by rw [hz]; decide) (off := 195) (by rw [hz]; rfl) (by decide) c1_k
  · exact op_tableIn (tgt := 196) dX5_pair_1 (by rw [hz]; decide) (by rw [hz]; decide) (off := 195) (by rw [hz]; rfl) (by decide) c1_k
  · exact op_tableOut (tgt := 196) dX5_pair_1 hz (by decide) c1_k
theorem t_X5_pair {l : Launch} {ρ : am_R} {n d gc gs : Nat} {I : Nat → Nat → Int32} {J : Nat → Nat → Int64} {T : Nat} {x0 : Int32} {y1 : Int64} {y3 : Int64} {q : Int64} (hd : 0 * n + 0 ≤ d) (h : f_X5_pair n I J T x0 y1 y3 = some q) : AW l ρ d M_X5_pair 0 [(0, .int x0), (1, .long y1), (3, .long y3)] [] (am_KD, gc, gs) (I, J, am_RT T) (am_KD, gc, gs) (fun v H' => v = [.long q] ∧ H' = (I, J, am_RT T)) := t_X5_pair_0 hd h
def f_X5_pushNumberOrPair (n : Nat) (I : Nat → Nat → Int32) (J : Nat → Nat → Int64) (T : Nat) (x1 : Int32) : Option ((Nat → Nat → Int32)) :=
  if 10000 ≤ x1 then
   (f_X5_pop n I J T).bind fun w2 =>
   (f_X5_pop n w2.2 J T).bind fun w3 =>
   (f_X5_pair n w3.2 J T (x1 - 10000) w3.1.toInt64 w2.1.toInt64).bind fun w4 =>
   (f_X5_push n w3.2 J T ((am_maxL ((-1000000)) (am_minL 1000000 w4)).toInt32)).bind fun w5 =>
   some (w5)
  else
   (f_X5_push n I J T x1).bind fun w6 =>
   some (w6)
set_option maxRecDepth 100000 in
set_option maxHeartbeats 4000000 in
theorem t_X5_pushNumberOrPair_0 {l : Launch} {ρ : am_R} {n d gc gs : Nat} {I : Nat → Nat → Int32} {J : Nat → Nat → Int64} {T : Nat} {x1 : Int32} {q : (Nat → Nat → Int32)} (hd : 0 * n + 1 ≤ (d + 1))
    (h : f_X5_pushNumberOrPair n  I J T x1 = some q) : AW l ρ (d + 1) M_X5_pushNumberOrPair 0 [(0, .ref 19), (1, .int x1)] [] (am_KD, gc, gs) (I, J, am_RT T) (am_KD, gc, gs) (fun v H' => v = [] ∧ H' = (q, J, am_RT T)) := by
  unfold f_X5_pushNumberOrPair at h
  refine op_iload_n (k := 1) dX5_pushNumberOrPair_0 rfl rfl ?_
  refine op_sipush (v := 10000) dX5_pushNumberOrPair_1 (by decide) ?_
  refine op_icmp_ge (tgt := 15) dX5_pushNumberOrPair_4 (by decide) (fun c1 => ?_) (fun c1 => ?_)
  · replace h := am_ip c1 h
    refine op_aload_n (k := 0) dX5_pushNumberOrPair_15 rfl rfl ?_
    obtain ⟨w2, ew2, h⟩ := am_bd h
    refine op_callV (M' := M_X5_pop) [] (S0 := []) dX5_pushNumberOrPair_16 tw_817 ok_X5_pop tw_819 tw_30 kd_19 cls_5 rfl rfl rfl (Nat.le_of_ble_eq_true rfl) (Nat.le_of_ble_eq_true rfl) (t_X5_pop (by omega) ew2) (am_le_rf _) ?_
    rintro _ _ ⟨rfl, rfl⟩
    refine op_i2l dX5_pushNumberOrPair_19 ?_
    refine op_lstore_n (L' := [(2, .long w2.1.toInt64), (0, .ref 19), (1, .int x1)]) dX5_pushNumberOrPair_20 rfl (by decide) rfl ?_
    refine op_aload_n (k := 1) dX5_pushNumberOrPair_21 rfl rfl ?_
    obtain ⟨w3, ew3, h⟩ := am_bd h
    refine op_callV (M' := M_X5_pop) [] (S0 := []) dX5_pushNumberOrPair_22 tw_817 ok_X5_pop tw_819 tw_30 kd_19 cls_5 rfl rfl rfl (Nat.le_of_ble_eq_true rfl) (Nat.le_of_ble_eq_true rfl) (t_X5_pop (by omega) ew3) (am_le_rf _) ?_
    rintro _ _ ⟨rfl, rfl⟩
    refine op_i2l dX5_pushNumberOrPair_25 ?_
    refine op_lstore (L' := [(4, .long w3.1.toInt64), (2, .long w2.1.toInt64), (0, .ref 19), (1, .int x1)]) dX5_pushNumberOrPair_26 (by decide) rfl ?_
    refine op_aload_n (k := 2) dX5_pushNumberOrPair_28 rfl rfl ?_
    refine op_ldc2 dX5_pushNumberOrPair_29 tw_838 ?_
    refine op_ldc2 dX5_pushNumberOrPair_32 tw_839 ?_
    refine op_iload_n (k := 3) dX5_pushNumberOrPair_35 rfl rfl ?_
    refine op_sipush (v := 10000) dX5_pushNumberOrPair_36 (by decide) ?_
    refine op_isub dX5_pushNumberOrPair_39 ?_
    refine op_lload (k := 0) dX5_pushNumberOrPair_40 rfl ?_
    refine op_lload_n (k := 1) dX5_pushNumberOrPair_42 rfl rfl ?_
    obtain ⟨w4, ew4, h⟩ := am_bd h
    refine op_callS (M' := M_X5_pair) [.int (x1 - 10000), .long w3.1.toInt64, .long w2.1.toInt64] (S0 := [.long 1000000, .long ((-1000000)), .ref 19]) dX5_pushNumberOrPair_43 tw_840 ok_X5_pair tw_841 rfl rfl (Nat.le_of_ble_eq_true rfl) (Nat.le_of_ble_eq_true rfl) (t_X5_pair (by omega) ew4) (am_le_rf _) ?_
    rintro _ _ ⟨rfl, rfl⟩
    refine op_mminL dX5_pushNumberOrPair_46 tw_843 tw_844 tw_119 twl_845 (by simp [Value.category]) ⟨Nat.le_refl _, Nat.le_refl _⟩ ?_
    refine op_mmaxL dX5_pushNumberOrPair_49 tw_846 tw_847 tw_119 twl_848 (by simp [Value.category]) ⟨Nat.le_refl _, Nat.le_refl _⟩ ?_
    refine op_l2i dX5_pushNumberOrPair_52 ?_
    obtain ⟨w5, ew5, h⟩ := am_bd h
    refine op_callV (M' := M_X5_push) [.int ((am_maxL ((-1000000)) (am_minL 1000000 w4)).toInt32)] (S0 := []) dX5_pushNumberOrPair_53 tw_830 ok_X5_push tw_832 tw_33 kd_19 cls_5 rfl rfl rfl (Nat.le_of_ble_eq_true rfl) (Nat.le_of_ble_eq_true rfl) (t_X5_push (by omega) ew5) (am_le_rf _) ?_
    rintro _ _ ⟨rfl, rfl⟩
    cases h
    exact (op_vret dX5_pushNumberOrPair_56 rfl ⟨rfl, rfl⟩)
  · replace h := am_ie c1 h
    refine op_aload_n (k := 0) dX5_pushNumberOrPair_7 rfl rfl ?_
    refine op_iload_n (k := 1) dX5_pushNumberOrPair_8 rfl rfl ?_
    obtain ⟨w6, ew6, h⟩ := am_bd h
    refine op_callV (M' := M_X5_push) [.int x1] (S0 := []) dX5_pushNumberOrPair_9 tw_830 ok_X5_push tw_832 tw_33 kd_19 cls_5 rfl rfl rfl (Nat.le_of_ble_eq_true rfl) (Nat.le_of_ble_eq_true rfl) (t_X5_push (by omega) ew6) (am_le_rf _) ?_
    rintro _ _ ⟨rfl, rfl⟩
    refine op_goto (tgt := 56) dX5_pushNumberOrPair_12 (by decide) ?_
    cases h
    exact (op_vret dX5_pushNumberOrPair_56 rfl ⟨rfl, rfl⟩)
theorem t_X5_pushNumberOrPair {l : Launch} {ρ : am_R} {n d gc gs : Nat} {I : Nat → Nat → Int32} {J : Nat → Nat → Int64} {T : Nat} {x1 : Int32} {q : (Nat → Nat → Int32)} (hd : 0 * n + 1 ≤ d) (h : f_X5_pushNumberOrPair n I J T x1 = some q) : AW l ρ d M_X5_pushNumberOrPair 0 [(0, .ref 19), (1, .int x1)] [] (am_KD, gc, gs) (I, J, am_RT T) (am_KD, gc, gs) (fun v H' => v = [] ∧ H' = (q, J, am_RT T)) := by
  obtain ⟨d, rfl⟩ : ∃ e, d = e + 1 := ⟨d - 1, by omega⟩
  exact t_X5_pushNumberOrPair_0 hd h
def f_X5_reckon (n : Nat) (I : Nat → Nat → Int32) (J : Nat → Nat → Int64) (T : Nat) (x1 : Int32) (x3 : Int32) (x4 : Int32) : Option ((Nat → Nat → Int32)) :=
  if (x1 - 10000) = 33 then
   (f_X5_pop n I J T).bind fun w2 =>
   (f_X5_push n w2.2 J T (1 - w2.1)).bind fun w3 =>
   some (w3)
  else
  if (x1 - 10000) = 107 then
   (f_X5_push n I J T x3).bind fun w4 =>
   some (w4)
  else
  if (x1 - 10000) = 109 then
   (f_X2_milesFor n I J T (1 <<< (x3 &&& 31))).bind fun w5 =>
   (f_X5_push n I J T w5).bind fun w6 =>
   some (w6)
  else
  if (x1 - 10000) = 110 then
   (f_X5_push n I J T x4).bind fun w7 =>
   some (w7)
  else
  if (x1 - 10000) = 112 then
   (f_X5_push n I J T (I 3 3)).bind fun w8 =>
   some (w8)
  else
  if (x1 - 10000) = 115 then
   if ok_ix x3 6 then
    (f_X5_push n I J T (I 8 x3.toNatClampNeg)).bind fun w10 =>
    some (w10)
   else none
  else
  if (x1 - 10000) = 119 then
   if ok_ix x3 6 then
    (f_X5_push n I J T (I 7 x3.toNatClampNeg)).bind fun w12 =>
    some (w12)
   else none
  else
  (f_X5_pushNumberOrPair n I J T x1).bind fun w13 =>
  some (w13)
set_option maxRecDepth 100000 in
set_option maxHeartbeats 4000000 in
theorem t_X5_reckon_0 {l : Launch} {ρ : am_R} {n d gc gs : Nat} {I : Nat → Nat → Int32} {J : Nat → Nat → Int64} {T : Nat} {x1 : Int32} {x3 : Int32} {x4 : Int32} {q : (Nat → Nat → Int32)} (hd : 0 * n + 2 ≤ (d + 1))
    (h : f_X5_reckon n  I J T x1 x3 x4 = some q) : AW l ρ (d + 1) M_X5_reckon 0 [(0, .ref 19), (1, .int x1), (2, .ref 3), (3, .int x3), (4, .int x4)] [] (am_KD, gc, gs) (I, J, am_RT T) (am_KD, gc, gs) (fun v H' => v = [] ∧ H' = (q, J, am_RT T)) := by
  unfold f_X5_reckon at h
  refine op_iload_n (k := 1) dX5_reckon_0 rfl rfl ?_
  refine op_sipush (v := 10000) dX5_reckon_1 (by decide) ?_
  refine op_isub dX5_reckon_4 ?_
  by_cases c1_0 : (x1 - 10000) = 33
  · replace h := am_ip c1_0 h
    refine op_lookup (tgt := 140) dX5_reckon_5 (by decide) (off := 135) (by rw [c1_0]; rfl) (by decide) ?_
    refine op_aload_n (k := 0) dX5_reckon_140 rfl rfl ?_
    refine op_iconst (v := 1) dX5_reckon_141 (by decide) ?_
    refine op_aload_n (k := 0) dX5_reckon_142 rfl rfl ?_
    obtain ⟨w2, ew2, h⟩ := am_bd h
    refine op_callV (M' := M_X5_pop) [] (S0 := [.int 1, .ref 19]) dX5_reckon_143 tw_817 ok_X5_pop tw_819 tw_30 kd_19 cls_5 rfl rfl rfl (Nat.le_of_ble_eq_true rfl) (Nat.le_of_ble_eq_true rfl) (t_X5_pop (by omega) ew2) (am_le_rf _) ?_
    rintro _ _ ⟨rfl, rfl⟩
    refine op_isub dX5_reckon_146 ?_
    obtain ⟨w3, ew3, h⟩ := am_bd h
    refine op_callV (M' := M_X5_push) [.int (1 - w2.1)] (S0 := []) dX5_reckon_147 tw_830 ok_X5_push tw_832 tw_33 kd_19 cls_5 rfl rfl rfl (Nat.le_of_ble_eq_true rfl) (Nat.le_of_ble_eq_true rfl) (t_X5_push (by omega) ew3) (am_le_rf _) ?_
    rintro _ _ ⟨rfl, rfl⟩
    refine op_goto (tgt := 158) dX5_reckon_150 (by decide) ?_
    cases h
    exact (op_vret dX5_reckon_158 rfl ⟨rfl, rfl⟩)
  replace h := am_ie c1_0 h
  by_cases c1_1 : (x1 - 10000) = 107
  · replace h := am_ip c1_1 h
    refine op_lookup (tgt := 132) dX5_reckon_5 (by decide) (off := 127) (by rw [c1_1]; rfl) (by decide) ?_
    refine op_aload_n (k := 0) dX5_reckon_132 rfl rfl ?_
    refine op_iload_n (k := 3) dX5_reckon_133 rfl rfl ?_
    obtain ⟨w4, ew4, h⟩ := am_bd h
    refine op_callV (M' := M_X5_push) [.int x3] (S0 := []) dX5_reckon_134 tw_830 ok_X5_push tw_832 tw_33 kd_19 cls_5 rfl rfl rfl (Nat.le_of_ble_eq_true rfl) (Nat.le_of_ble_eq_true rfl) (t_X5_push (by omega) ew4) (am_le_rf _) ?_
    rintro _ _ ⟨rfl, rfl⟩
    refine op_goto (tgt := 158) dX5_reckon_137 (by decide) ?_
    cases h
    exact (op_vret dX5_reckon_158 rfl ⟨rfl, rfl⟩)
  replace h := am_ie c1_1 h
  by_cases c1_2 : (x1 - 10000) = 109
  · replace h := am_ip c1_2 h
    refine op_lookup (tgt := 72) dX5_reckon_5 (by decide) (off := 67) (by rw [c1_2]; rfl) (by decide) ?_
    refine op_aload_n (k := 0) dX5_reckon_72 rfl rfl ?_
    refine op_aload_n (k := 2) dX5_reckon_73 rfl rfl ?_
    refine op_iconst (v := 1) dX5_reckon_74 (by decide) ?_
    refine op_iload_n (k := 3) dX5_reckon_75 rfl rfl ?_
    refine op_ishl dX5_reckon_76 ?_
    obtain ⟨w5, ew5, h⟩ := am_bd h
    refine op_callV (M' := M_X2_milesFor) [.int (1 <<< (x3 &&& 31))] (S0 := [.ref 19]) dX5_reckon_77 tw_829 ok_X2_milesFor tw_767 tw_768 kd_3 cls_2 rfl rfl rfl (Nat.le_of_ble_eq_true rfl) (Nat.le_of_ble_eq_true rfl) (t_X2_milesFor (by omega) ew5) (am_le_rf _) ?_
    rintro _ _ ⟨rfl, rfl⟩
    obtain ⟨w6, ew6, h⟩ := am_bd h
    refine op_callV (M' := M_X5_push) [.int w5] (S0 := []) dX5_reckon_80 tw_830 ok_X5_push tw_832 tw_33 kd_19 cls_5 rfl rfl rfl (Nat.le_of_ble_eq_true rfl) (Nat.le_of_ble_eq_true rfl) (t_X5_push (by omega) ew6) (am_le_rf _) ?_
    rintro _ _ ⟨rfl, rfl⟩
    refine op_goto (tgt := 158) dX5_reckon_83 (by decide) ?_
    cases h
    exact (op_vret dX5_reckon_158 rfl ⟨rfl, rfl⟩)
  replace h := am_ie c1_2 h
  by_cases c1_3 : (x1 - 10000) = 110
  · replace h := am_ip c1_3 h
    refine op_lookup (tgt := 112) dX5_reckon_5 (by decide) (off := 107) (by rw [c1_3]; rfl) (by decide) ?_
    refine op_aload_n (k := 0) dX5_reckon_112 rfl rfl ?_
    refine op_iload (k := 4) dX5_reckon_113 rfl ?_
    obtain ⟨w7, ew7, h⟩ := am_bd h
    refine op_callV (M' := M_X5_push) [.int x4] (S0 := []) dX5_reckon_115 tw_830 ok_X5_push tw_832 tw_33 kd_19 cls_5 rfl rfl rfl (Nat.le_of_ble_eq_true rfl) (Nat.le_of_ble_eq_true rfl) (t_X5_push (by omega) ew7) (am_le_rf _) ?_
    rintro _ _ ⟨rfl, rfl⟩
    refine op_goto (tgt := 158) dX5_reckon_118 (by decide) ?_
    cases h
    exact (op_vret dX5_reckon_158 rfl ⟨rfl, rfl⟩)
  replace h := am_ie c1_3 h
  by_cases c1_4 : (x1 - 10000) = 112
  · replace h := am_ip c1_4 h
    refine op_lookup (tgt := 121) dX5_reckon_5 (by decide) (off := 116) (by rw [c1_4]; rfl) (by decide) ?_
    refine op_aload_n (k := 0) dX5_reckon_121 rfl rfl ?_
    refine op_aload_n (k := 2) dX5_reckon_122 rfl rfl ?_
    refine st_getI (v := I 3 3) dX5_reckon_123 fl_X5_72 kd_3 (by decide) rfl rfl ?_
    obtain ⟨w8, ew8, h⟩ := am_bd h
    refine op_callV (M' := M_X5_push) [.int (I 3 3)] (S0 := []) dX5_reckon_126 tw_830 ok_X5_push tw_832 tw_33 kd_19 cls_5 rfl rfl rfl (Nat.le_of_ble_eq_true rfl) (Nat.le_of_ble_eq_true rfl) (t_X5_push (by omega) ew8) (am_le_rf _) ?_
    rintro _ _ ⟨rfl, rfl⟩
    refine op_goto (tgt := 158) dX5_reckon_129 (by decide) ?_
    cases h
    exact (op_vret dX5_reckon_158 rfl ⟨rfl, rfl⟩)
  replace h := am_ie c1_4 h
  by_cases c1_5 : (x1 - 10000) = 115
  · replace h := am_ip c1_5 h
    refine op_lookup (tgt := 86) dX5_reckon_5 (by decide) (off := 81) (by rw [c1_5]; rfl) (by decide) ?_
    refine op_aload_n (k := 0) dX5_reckon_86 rfl rfl ?_
    refine op_aload_n (k := 2) dX5_reckon_87 rfl rfl ?_
    refine st_getR (z := 8) dX5_reckon_88 fl_X5_66 kd_3 (by decide) rfl rr_3_9 ?_
    refine op_iload_n (k := 3) dX5_reckon_91 rfl rfl ?_
    obtain ⟨g9, h⟩ := am_gd h
    refine st_iald (k := x3.toNatClampNeg) (v := I 8 x3.toNatClampNeg) dX5_reckon_92 kd_8 g9 rfl rfl ?_
    obtain ⟨w10, ew10, h⟩ := am_bd h
    refine op_callV (M' := M_X5_push) [.int (I 8 x3.toNatClampNeg)] (S0 := []) dX5_reckon_93 tw_830 ok_X5_push tw_832 tw_33 kd_19 cls_5 rfl rfl rfl (Nat.le_of_ble_eq_true rfl) (Nat.le_of_ble_eq_true rfl) (t_X5_push (by omega) ew10) (am_le_rf _) ?_
    rintro _ _ ⟨rfl, rfl⟩
    refine op_goto (tgt := 158) dX5_reckon_96 (by decide) ?_
    cases h
    exact (op_vret dX5_reckon_158 rfl ⟨rfl, rfl⟩)
  replace h := am_ie c1_5 h
  by_cases c1_6 : (x1 - 10000) = 119
  · replace h := am_ip c1_6 h
    refine op_lookup (tgt := 99) dX5_reckon_5 (by decide) (off := 94) (by rw [c1_6]; rfl) (by decide) ?_
    refine op_aload_n (k := 0) dX5_reckon_99 rfl rfl ?_
    refine op_aload_n (k := 2) dX5_reckon_100 rfl rfl ?_
    refine st_getR (z := 7) dX5_reckon_101 fl_X5_69 kd_3 (by decide) rfl rr_3_8 ?_
    refine op_iload_n (k := 3) dX5_reckon_104 rfl rfl ?_
    obtain ⟨g11, h⟩ := am_gd h
    refine st_iald (k := x3.toNatClampNeg) (v := I 7 x3.toNatClampNeg) dX5_reckon_105 kd_7 g11 rfl rfl ?_
    obtain ⟨w12, ew12, h⟩ := am_bd h
    refine op_callV (M' := M_X5_push) [.int (I 7 x3.toNatClampNeg)] (S0 := []) dX5_reckon_106 tw_830 ok_X5_push tw_832 tw_33 kd_19 cls_5 rfl rfl rfl (Nat.le_of_ble_eq_true rfl) (Nat.le_of_ble_eq_true rfl) (t_X5_push (by omega) ew12) (am_le_rf _) ?_
    rintro _ _ ⟨rfl, rfl⟩
    refine op_goto (tgt := 158) dX5_reckon_109 (by decide) ?_
    cases h
    exact (op_vret dX5_reckon_158 rfl ⟨rfl, rfl⟩)
  replace h := am_ie c1_6 h
  refine op_lookup (tgt := 153) dX5_reckon_5 (by decide) (off := 148) (by show Op.lookupswitch.offset _ _ _ = _; rw [lv_osw (k := 33) c1_0 (by decide)]; rw [lv_osw (k := 107) c1_1 (by decide)]; rw [lv_osw (k := 109) c1_2 (by decide)]; rw [lv_osw (k := 110) c1_3 (by decide)]; rw [lv_osw (k := 112) c1_4 (by decide)]; rw [lv_osw (k := 115) c1_5 (by decide)]; rw [lv_osw (k := 119) c1_6 (by decide)]; rfl) (by decide) ?_
  refine op_aload_n (k := 0) dX5_reckon_153 rfl rfl ?_
  refine op_iload_n (k := 1) dX5_reckon_154 rfl rfl ?_
  obtain ⟨w13, ew13, h⟩ := am_bd h
  refine op_callV (M' := M_X5_pushNumberOrPair) [.int x1] (S0 := []) dX5_reckon_155 tw_834 ok_X5_pushNumberOrPair tw_836 tw_34 kd_19 cls_5 rfl rfl rfl (Nat.le_of_ble_eq_true rfl) (Nat.le_of_ble_eq_true rfl) (t_X5_pushNumberOrPair (by omega) ew13) (am_le_rf _) ?_
  rintro _ _ ⟨rfl, rfl⟩
  cases h
  exact (op_vret dX5_reckon_158 rfl ⟨rfl, rfl⟩)
theorem t_X5_reckon {l : Launch} {ρ : am_R} {n d gc gs : Nat} {I : Nat → Nat → Int32} {J : Nat → Nat → Int64} {T : Nat} {x1 : Int32} {x3 : Int32} {x4 : Int32} {q : (Nat → Nat → Int32)} (hd : 0 * n + 2 ≤ d) (h : f_X5_reckon n I J T x1 x3 x4 = some q) : AW l ρ d M_X5_reckon 0 [(0, .ref 19), (1, .int x1), (2, .ref 3), (3, .int x3), (4, .int x4)] [] (am_KD, gc, gs) (I, J, am_RT T) (am_KD, gc, gs) (fun v H' => v = [] ∧ H' = (q, J, am_RT T)) := by
  obtain ⟨d, rfl⟩ : ∃ e, d = e + 1 := ⟨d - 1, by omega⟩
  exact t_X5_reckon_0 hd h
def f_X5_clauseEnd_2 (n : Nat) : Nat → (Nat → Nat → Int32) → (Nat → Nat → Int64) → Nat → Int32 → Int32 → Option (Int32)
  | 0, _, _, _, _, _ => none
  | m + 1, I, J, T, x1, x3 =>
    if ok_ix x1 4 then
     if (I 25 x1.toNatClampNeg) ≤ x3 then
      some (x3)
     else
      if ok_ix x1 4 then
       if x1.toNatClampNeg < 4 then
        if ok_ix x3 160 then
         if (I (21 + x1.toNatClampNeg) x3.toNatClampNeg) = 10059 then
          some (x3)
         else
          f_X5_clauseEnd_2 n  m I J T x1 (x3 + 1)
        else none
       else none
      else none
    else none
def f_X5_clauseEnd (n : Nat) (I : Nat → Nat → Int32) (J : Nat → Nat → Int64) (T : Nat) (x1 : Int32) (x2 : Int32) : Option (Int32) :=
  f_X5_clauseEnd_2 n  n I J T x1 x2
set_option maxRecDepth 100000 in
set_option maxHeartbeats 4000000 in
theorem t_X5_clauseEnd_2 {l : Launch} {ρ : am_R} {n d gc gs : Nat} {q : Int32} (hd : 0 * n + 0 ≤ d)
    : ∀ (m : Nat) (I : Nat → Nat → Int32) (J : Nat → Nat → Int64) (T : Nat) (x1 : Int32) (x3 : Int32), f_X5_clauseEnd_2 n  m I J T x1 x3 = some q → AW l ρ d M_X5_clauseEnd 2 [(0, .ref 19), (1, .int x1), (3, .int x3)] [] (am_KD, gc, gs) (I, J, am_RT T) (am_KD, gc, gs) (fun v H' => v = [.int q] ∧ H' = (I, J, am_RT T)) := by
  intro m
  induction m with
  | zero =>
    intro I J T x1 x3 h
    rw [f_X5_clauseEnd_2] at h
    cases h
  | succ m ih =>
    intro I J T x1 x3 h
    rw [f_X5_clauseEnd_2] at h
    refine op_iload_n (k := 2) dX5_clauseEnd_2 rfl rfl ?_
    refine op_aload_n (k := 0) dX5_clauseEnd_3 rfl rfl ?_
    refine st_getR (z := 25) dX5_clauseEnd_4 fl_X5_16 kd_19 (by decide) rfl rr_19_1 ?_
    refine op_iload_n (k := 1) dX5_clauseEnd_7 rfl rfl ?_
    obtain ⟨g1, h⟩ := am_gd h
    refine st_iald (k := x1.toNatClampNeg) (v := I 25 x1.toNatClampNeg) dX5_clauseEnd_8 kd_25 g1 rfl rfl ?_
    refine op_icmp_ge (tgt := 32) dX5_clauseEnd_9 (by decide) (fun c2 => ?_) (fun c2 => ?_)
    · replace h := am_ip c2 h
      refine op_iload_n (k := 2) dX5_clauseEnd_32 rfl rfl ?_
      cases h
      exact (op_iret dX5_clauseEnd_33 rfl rfl ⟨rfl, rfl⟩)
    · replace h := am_ie c2 h
      refine op_aload_n (k := 0) dX5_clauseEnd_12 rfl rfl ?_
      refine st_getR (z := 20) dX5_clauseEnd_13 fl_X5_13 kd_19 (by decide) rfl rr_19_0 ?_
      refine op_iload_n (k := 1) dX5_clauseEnd_16 rfl rfl ?_
      obtain ⟨g3, h⟩ := am_gd h
      refine st_aald dX5_clauseEnd_17 g3 ?_
      refine op_iload_n (k := 2) dX5_clauseEnd_18 rfl rfl ?_
      obtain ⟨g5, h⟩ := am_gd h
      obtain ⟨g4, h⟩ := am_gd h
      refine st_iald (k := x3.toNatClampNeg) (v := I (21 + x1.toNatClampNeg) x3.toNatClampNeg) dX5_clauseEnd_19 (kd_row g5) g4 rfl rfl ?_
      refine op_sipush (v := 10059) dX5_clauseEnd_20 (by decide) ?_
      refine op_icmp_eq (tgt := 32) dX5_clauseEnd_23 (by decide) (fun c6 => ?_) (fun c6 => ?_)
      · replace h := am_ip c6 h
        refine op_iload_n (k := 2) dX5_clauseEnd_32 rfl rfl ?_
        cases h
        exact (op_iret dX5_clauseEnd_33 rfl rfl ⟨rfl, rfl⟩)
      · replace h := am_ie c6 h
        refine op_iinc (k := 2) (v := x3 + 1) (L' := [(3, .int (x3 + 1)), (0, .ref 19), (1, .int x1)]) dX5_clauseEnd_26 rfl rfl (by decide) rfl ?_
        refine op_goto (tgt := 2) dX5_clauseEnd_29 (by decide) ?_
        refine AW.perm [1, 2, 0] rfl ?_
        exact ih _ _ _ _ _ h
set_option maxRecDepth 100000 in
set_option maxHeartbeats 4000000 in
theorem t_X5_clauseEnd_0 {l : Launch} {ρ : am_R} {n d gc gs : Nat} {I : Nat → Nat → Int32} {J : Nat → Nat → Int64} {T : Nat} {x1 : Int32} {x2 : Int32} {q : Int32} (hd : 0 * n + 0 ≤ d)
    (h : f_X5_clauseEnd n  I J T x1 x2 = some q) : AW l ρ d M_X5_clauseEnd 0 [(0, .ref 19), (1, .int x1), (2, .int x2)] [] (am_KD, gc, gs) (I, J, am_RT T) (am_KD, gc, gs) (fun v H' => v = [.int q] ∧ H' = (I, J, am_RT T)) := by
  unfold f_X5_clauseEnd at h
  refine op_iload_n (k := 2) dX5_clauseEnd_0 rfl rfl ?_
  refine op_istore_n (L' := [(3, .int x2), (0, .ref 19), (1, .int x1), (2, .int x2)]) dX5_clauseEnd_1 rfl (by decide) rfl ?_
  refine AW.perm [1, 2, 0] rfl ?_
  exact t_X5_clauseEnd_2 hd  n _ _ _ _ _ h
theorem t_X5_clauseEnd {l : Launch} {ρ : am_R} {n d gc gs : Nat} {I : Nat → Nat → Int32} {J : Nat → Nat → Int64} {T : Nat} {x1 : Int32} {x2 : Int32} {q : Int32} (hd : 0 * n + 0 ≤ d) (h : f_X5_clauseEnd n I J T x1 x2 = some q) : AW l ρ d M_X5_clauseEnd 0 [(0, .ref 19), (1, .int x1), (2, .int x2)] [] (am_KD, gc, gs) (I, J, am_RT T) (am_KD, gc, gs) (fun v H' => v = [.int q] ∧ H' = (I, J, am_RT T)) := t_X5_clauseEnd_0 hd h
def f_X5_worth_106 (n : Nat) (I : Nat → Nat → Int32) (J : Nat → Nat → Int64) (T : Nat) : Option (Int32 × (Nat → Nat → Int32)) :=
  (f_X5_pop n I J T).bind fun w1 =>
  some (am_max 0 (am_min 1000 w1.1), w1.2)
def f_X5_worth_100 (n : Nat) (k30 : (Nat → Nat → Int32) → (Nat → Nat → Int64) → Nat → Int32 → Int32 → Int32 → Nat → Int32 → Option (Int32 × (Nat → Nat → Int32))) (I : Nat → Nat → Int32) (J : Nat → Nat → Int64) (T : Nat) (x1 : Int32) (x3 : Int32) (x4 : Int32) (r5 : Nat) (x6 : Int32) : Option (Int32 × (Nat → Nat → Int32)) :=
  k30 I J T x1 x3 x4 r5 (x6 + 1)
def f_X5_worth_82 (n : Nat) (k30 : (Nat → Nat → Int32) → (Nat → Nat → Int64) → Nat → Int32 → Int32 → Int32 → Nat → Int32 → Option (Int32 × (Nat → Nat → Int32))) (I : Nat → Nat → Int32) (J : Nat → Nat → Int64) (T : Nat) (x1 : Int32) (x3 : Int32) (x4 : Int32) (r5 : Nat) (s0 : Int32) : Option (Int32 × (Nat → Nat → Int32)) :=
  f_X5_worth_100 n k30 I J T x1 x3 x4 r5 s0
def f_X5_worth_30 (n : Nat) : Nat → (Nat → Nat → Int32) → (Nat → Nat → Int64) → Nat → Int32 → Int32 → Int32 → Nat → Int32 → Option (Int32 × (Nat → Nat → Int32))
  | 0, _, _, _, _, _, _, _, _ => none
  | m + 1, I, J, T, x1, x3, x4, r5, x6 =>
    if ok_ix x1 4 then
     if (I 25 x1.toNatClampNeg) ≤ x6 then
      f_X5_worth_106 n  I J T
     else
      if r5 < 4 then
       if ok_ix x6 160 then
        if (I (21 + r5) x6.toNatClampNeg) = 10059 then
         f_X5_worth_106 n  I J T
        else
         if r5 < 4 then
          if ok_ix x6 160 then
           if (I (21 + r5) x6.toNatClampNeg) = 10063 then
            (f_X5_pop n I J T).bind fun w12 =>
            if w12.1 = 0 then
             (f_X5_clauseEnd n w12.2 J T x1 x6).bind fun w14 =>
             f_X5_worth_82 n (f_X5_worth_30 n m) w12.2 J T x1 x3 x4 r5 w14
            else
             f_X5_worth_82 n (f_X5_worth_30 n m) w12.2 J T x1 x3 x4 r5 x6
           else
            if r5 < 4 then
             if ok_ix x6 160 then
              (f_X5_reckon n I J T (I (21 + r5) x6.toNatClampNeg) x3 x4).bind fun w11 =>
              f_X5_worth_100 n (f_X5_worth_30 n m) w11 J T x1 x3 x4 r5 x6
             else none
            else none
          else none
         else none
       else none
      else none
    else none
def f_X5_worth (n : Nat) (I : Nat → Nat → Int32) (J : Nat → Nat → Int64) (T : Nat) (x1 : Int32) (x3 : Int32) (x4 : Int32) : Option (Int32 × (Nat → Nat → Int32)) :=
  if x1 < 0 then
   some (0, I)
  else
   if x1 < (I 19 4) then
    if ok_ix x1 4 then
     f_X5_worth_30 n  n ((am_u I 19 3 0)) J T x1 x3 x4 x1.toNatClampNeg 0
    else none
   else
    some (0, I)
set_option maxRecDepth 100000 in
set_option maxHeartbeats 4000000 in
theorem t_X5_worth_106 {l : Launch} {ρ : am_R} {n d gc gs : Nat} {I : Nat → Nat → Int32} {J : Nat → Nat → Int64} {T : Nat} {q : Int32 × (Nat → Nat → Int32)} (hd : 0 * n + 3 ≤ (d + 1))
    (h : f_X5_worth_106 n  I J T  = some q) : AW l ρ (d + 1) M_X5_worth 106 [(0, .ref 19)] [] (am_KD, gc, gs) (I, J, am_RT T) (am_KD, gc, gs) (fun v H' => v = [.int q.1] ∧ H' = (q.2, J, am_RT T)) := by
  unfold f_X5_worth_106 at h
  refine op_iconst (v := 0) dX5_worth_106 (by decide) ?_
  refine op_sipush (v := 1000) dX5_worth_107 (by decide) ?_
  refine op_aload_n (k := 0) dX5_worth_110 rfl rfl ?_
  obtain ⟨w1, ew1, h⟩ := am_bd h
  refine op_callV (M' := M_X5_pop) [] (S0 := [.int 1000, .int 0]) dX5_worth_111 tw_817 ok_X5_pop tw_819 tw_30 kd_19 cls_5 rfl rfl rfl (Nat.le_of_ble_eq_true rfl) (Nat.le_of_ble_eq_true rfl) (t_X5_pop (by omega) ew1) (am_le_rf _) ?_
  rintro _ _ ⟨rfl, rfl⟩
  refine op_mmin dX5_worth_114 tw_849 tw_850 tw_119 twl_851 (by simp [Value.category]) ⟨Nat.le_refl _, Nat.le_refl _⟩ ?_
  refine op_mmax dX5_worth_117 tw_852 tw_853 tw_119 twl_854 (by simp [Value.category]) ⟨Nat.le_refl _, Nat.le_refl _⟩ ?_
  cases h
  exact (op_iret dX5_worth_120 rfl rfl ⟨rfl, rfl⟩)
set_option maxRecDepth 100000 in
set_option maxHeartbeats 4000000 in
theorem t_X5_worth_100 {l : Launch} {ρ : am_R} {n d gc gs : Nat} {k30 : (Nat → Nat → Int32) → (Nat → Nat → Int64) → Nat → Int32 → Int32 → Int32 → Nat → Int32 → Option (Int32 × (Nat → Nat → Int32))} {I : Nat → Nat → Int32} {J : Nat → Nat → Int64} {T : Nat} {x1 : Int32} {x3 : Int32} {x4 : Int32} {r5 : Nat} {x6 : Int32} {q : Int32 × (Nat → Nat → Int32)} (hd : 0 * n + 3 ≤ (d + 1))
    (hk30 : ∀ (I : Nat → Nat → Int32) (J : Nat → Nat → Int64) (T : Nat) (x1 : Int32) (x3 : Int32) (x4 : Int32) (r5 : Nat) (x6 : Int32), k30 I J T x1 x3 x4 r5 x6 = some q → AW l ρ (d + 1) M_X5_worth 30 [(0, .ref 19), (1, .int x1), (2, .ref 3), (3, .int x3), (4, .int x4), (5, .ref (21 + r5)), (6, .int x6)] [] (am_KD, gc, gs) (I, J, am_RT T) (am_KD, gc, gs) (fun v H' => v = [.int q.1] ∧ H' = (q.2, J, am_RT T)))
    (h : f_X5_worth_100 n k30 I J T x1 x3 x4 r5 x6 = some q) : AW l ρ (d + 1) M_X5_worth 100 [(0, .ref 19), (1, .int x1), (2, .ref 3), (3, .int x3), (4, .int x4), (5, .ref (21 + r5)), (6, .int x6)] [] (am_KD, gc, gs) (I, J, am_RT T) (am_KD, gc, gs) (fun v H' => v = [.int q.1] ∧ H' = (q.2, J, am_RT T)) := by
  unfold f_X5_worth_100 at h
  refine op_iinc (k := 6) (v := x6 + 1) (L' := [(6, .int (x6 + 1)), (0, .ref 19), (1, .int x1), (2, .ref 3), (3, .int x3), (4, .int x4), (5, .ref (21 + r5))]) dX5_worth_100 rfl rfl (by decide) rfl ?_
  refine op_goto (tgt := 30) dX5_worth_103 (by decide) ?_
  refine AW.perm [1, 2, 3, 4, 5, 6, 0] rfl ?_
  exact hk30 _ _ _ _ _ _ _ _ h
set_option maxRecDepth 100000 in
set_option maxHeartbeats 4000000 in
theorem t_X5_worth_82 {l : Launch} {ρ : am_R} {n d gc gs : Nat} {k30 : (Nat → Nat → Int32) → (Nat → Nat → Int64) → Nat → Int32 → Int32 → Int32 → Nat → Int32 → Option (Int32 × (Nat → Nat → Int32))} {I : Nat → Nat → Int32} {J : Nat → Nat → Int64} {T : Nat} {x1 : Int32} {x3 : Int32} {x4 : Int32} {r5 : Nat} {s0 : Int32} {q : Int32 × (Nat → Nat → Int32)} (hd : 0 * n + 3 ≤ (d + 1))
    (hk30 : ∀ (I : Nat → Nat → Int32) (J : Nat → Nat → Int64) (T : Nat) (x1 : Int32) (x3 : Int32) (x4 : Int32) (r5 : Nat) (x6 : Int32), k30 I J T x1 x3 x4 r5 x6 = some q → AW l ρ (d + 1) M_X5_worth 30 [(0, .ref 19), (1, .int x1), (2, .ref 3), (3, .int x3), (4, .int x4), (5, .ref (21 + r5)), (6, .int x6)] [] (am_KD, gc, gs) (I, J, am_RT T) (am_KD, gc, gs) (fun v H' => v = [.int q.1] ∧ H' = (q.2, J, am_RT T)))
    (h : f_X5_worth_82 n k30 I J T x1 x3 x4 r5 s0 = some q) : AW l ρ (d + 1) M_X5_worth 82 [(0, .ref 19), (1, .int x1), (2, .ref 3), (3, .int x3), (4, .int x4), (5, .ref (21 + r5))] [.int s0] (am_KD, gc, gs) (I, J, am_RT T) (am_KD, gc, gs) (fun v H' => v = [.int q.1] ∧ H' = (q.2, J, am_RT T)) := by
  unfold f_X5_worth_82 at h
  refine op_istore (L' := [(6, .int s0), (0, .ref 19), (1, .int x1), (2, .ref 3), (3, .int x3), (4, .int x4), (5, .ref (21 + r5))]) dX5_worth_82 (by decide) rfl ?_
  refine op_goto (tgt := 100) dX5_worth_84 (by decide) ?_
  refine AW.perm [1, 2, 3, 4, 5, 6, 0] rfl ?_
  exact t_X5_worth_100 hd hk30 h
set_option maxRecDepth 100000 in
set_option maxHeartbeats 4000000 in
theorem t_X5_worth_30 {l : Launch} {ρ : am_R} {n d gc gs : Nat} {q : Int32 × (Nat → Nat → Int32)} (hd : 0 * n + 3 ≤ (d + 1))
    : ∀ (m : Nat) (I : Nat → Nat → Int32) (J : Nat → Nat → Int64) (T : Nat) (x1 : Int32) (x3 : Int32) (x4 : Int32) (r5 : Nat) (x6 : Int32), f_X5_worth_30 n  m I J T x1 x3 x4 r5 x6 = some q → AW l ρ (d + 1) M_X5_worth 30 [(0, .ref 19), (1, .int x1), (2, .ref 3), (3, .int x3), (4, .int x4), (5, .ref (21 + r5)), (6, .int x6)] [] (am_KD, gc, gs) (I, J, am_RT T) (am_KD, gc, gs) (fun v H' => v = [.int q.1] ∧ H' = (q.2, J, am_RT T)) := by
  intro m
  induction m with
  | zero =>
    intro I J T x1 x3 x4 r5 x6 h
    rw [f_X5_worth_30] at h
    cases h
  | succ m ih =>
    intro I J T x1 x3 x4 r5 x6 h
    rw [f_X5_worth_30] at h
    refine op_iload (k := 6) dX5_worth_30 rfl ?_
    refine op_aload_n (k := 0) dX5_worth_32 rfl rfl ?_
    refine st_getR (z := 25) dX5_worth_33 fl_X5_16 kd_19 (by decide) rfl rr_19_1 ?_
    refine op_iload_n (k := 1) dX5_worth_36 rfl rfl ?_
    obtain ⟨g1, h⟩ := am_gd h
    refine st_iald (k := x1.toNatClampNeg) (v := I 25 x1.toNatClampNeg) dX5_worth_37 kd_25 g1 rfl rfl ?_
    refine op_icmp_ge (tgt := 106) dX5_worth_38 (by decide) (fun c2 => ?_) (fun c2 => ?_)
    · replace h := am_ip c2 h
      refine AW.perm [0] rfl ?_
      exact t_X5_worth_106 hd  h
    · replace h := am_ie c2 h
      refine op_aload (k := 5) dX5_worth_41 rfl ?_
      refine op_iload (k := 6) dX5_worth_43 rfl ?_
      obtain ⟨g4, h⟩ := am_gd h
      obtain ⟨g3, h⟩ := am_gd h
      refine st_iald (k := x6.toNatClampNeg) (v := I (21 + r5) x6.toNatClampNeg) dX5_worth_45 (kd_row g4) g3 rfl rfl ?_
      refine op_sipush (v := 10059) dX5_worth_46 (by decide) ?_
      refine op_icmp_eq (tgt := 106) dX5_worth_49 (by decide) (fun c5 => ?_) (fun c5 => ?_)
      · replace h := am_ip c5 h
        refine AW.perm [0] rfl ?_
        exact t_X5_worth_106 hd  h
      · replace h := am_ie c5 h
        refine op_aload (k := 5) dX5_worth_52 rfl ?_
        refine op_iload (k := 6) dX5_worth_54 rfl ?_
        obtain ⟨g7, h⟩ := am_gd h
        obtain ⟨g6, h⟩ := am_gd h
        refine st_iald (k := x6.toNatClampNeg) (v := I (21 + r5) x6.toNatClampNeg) dX5_worth_56 (kd_row g7) g6 rfl rfl ?_
        refine op_sipush (v := 10063) dX5_worth_57 (by decide) ?_
        refine op_icmp_ne (tgt := 87) dX5_worth_60 (by decide) (fun c8 => ?_) (fun c8 => ?_)
        · replace h := am_ie c8 h
          refine op_aload_n (k := 0) dX5_worth_87 rfl rfl ?_
          refine op_aload (k := 5) dX5_worth_88 rfl ?_
          refine op_iload (k := 6) dX5_worth_90 rfl ?_
          obtain ⟨g10, h⟩ := am_gd h
          obtain ⟨g9, h⟩ := am_gd h
          refine st_iald (k := x6.toNatClampNeg) (v := I (21 + r5) x6.toNatClampNeg) dX5_worth_92 (kd_row g10) g9 rfl rfl ?_
          refine op_aload_n (k := 2) dX5_worth_93 rfl rfl ?_
          refine op_iload_n (k := 3) dX5_worth_94 rfl rfl ?_
          refine op_iload (k := 4) dX5_worth_95 rfl ?_
          obtain ⟨w11, ew11, h⟩ := am_bd h
          refine op_callV (M' := M_X5_reckon) [.int (I (21 + r5) x6.toNatClampNeg), .ref 3, .int x3, .int x4] (S0 := []) dX5_worth_97 tw_825 ok_X5_reckon tw_827 tw_32 kd_19 cls_5 rfl rfl rfl (Nat.le_of_ble_eq_true rfl) (Nat.le_of_ble_eq_true rfl) (t_X5_reckon (by omega) ew11) (am_le_rf _) ?_
          rintro _ _ ⟨rfl, rfl⟩
          exact t_X5_worth_100 hd ih h
        · replace h := am_ip c8 h
          refine op_aload_n (k := 0) dX5_worth_63 rfl rfl ?_
          obtain ⟨w12, ew12, h⟩ := am_bd h
          refine op_callV (M' := M_X5_pop) [] (S0 := []) dX5_worth_64 tw_817 ok_X5_pop tw_819 tw_30 kd_19 cls_5 rfl rfl rfl (Nat.le_of_ble_eq_true rfl) (Nat.le_of_ble_eq_true rfl) (t_X5_pop (by omega) ew12) (am_le_rf _) ?_
          rintro _ _ ⟨rfl, rfl⟩
          refine op_if_ne (tgt := 80) dX5_worth_67 (by decide) (fun c13 => ?_) (fun c13 => ?_)
          · replace h := am_ie c13 h
            refine op_iload (k := 6) dX5_worth_80 rfl ?_
            refine AW.perm [0, 1, 2, 3, 4, 5] rfl ?_
            exact t_X5_worth_82 hd ih h
          · replace h := am_ip c13 h
            refine op_aload_n (k := 0) dX5_worth_70 rfl rfl ?_
            refine op_iload_n (k := 1) dX5_worth_71 rfl rfl ?_
            refine op_iload (k := 6) dX5_worth_72 rfl ?_
            obtain ⟨w14, ew14, h⟩ := am_bd h
            refine op_callV (M' := M_X5_clauseEnd) [.int x1, .int x6] (S0 := []) dX5_worth_74 tw_821 ok_X5_clauseEnd tw_823 tw_31 kd_19 cls_5 rfl rfl rfl (Nat.le_of_ble_eq_true rfl) (Nat.le_of_ble_eq_true rfl) (t_X5_clauseEnd (by omega) ew14) (am_le_rf _) ?_
            rintro _ _ ⟨rfl, rfl⟩
            refine op_goto (tgt := 82) dX5_worth_77 (by decide) ?_
            refine AW.perm [0, 1, 2, 3, 4, 5] rfl ?_
            exact t_X5_worth_82 hd ih h
set_option maxRecDepth 100000 in
set_option maxHeartbeats 4000000 in
theorem t_X5_worth_0 {l : Launch} {ρ : am_R} {n d gc gs : Nat} {I : Nat → Nat → Int32} {J : Nat → Nat → Int64} {T : Nat} {x1 : Int32} {x3 : Int32} {x4 : Int32} {q : Int32 × (Nat → Nat → Int32)} (hd : 0 * n + 3 ≤ (d + 1))
    (h : f_X5_worth n  I J T x1 x3 x4 = some q) : AW l ρ (d + 1) M_X5_worth 0 [(0, .ref 19), (1, .int x1), (2, .ref 3), (3, .int x3), (4, .int x4)] [] (am_KD, gc, gs) (I, J, am_RT T) (am_KD, gc, gs) (fun v H' => v = [.int q.1] ∧ H' = (q.2, J, am_RT T)) := by
  unfold f_X5_worth at h
  refine op_iload_n (k := 1) dX5_worth_0 rfl rfl ?_
  refine op_if_lt (tgt := 12) dX5_worth_1 (by decide) (fun c1 => ?_) (fun c1 => ?_)
  · replace h := am_ip c1 h
    refine op_iconst (v := 0) dX5_worth_12 (by decide) ?_
    cases h
    exact (op_iret dX5_worth_13 rfl rfl ⟨rfl, rfl⟩)
  · replace h := am_ie c1 h
    refine op_iload_n (k := 1) dX5_worth_4 rfl rfl ?_
    refine op_aload_n (k := 0) dX5_worth_5 rfl rfl ?_
    refine st_getI (v := I 19 4) dX5_worth_6 fl_X5_23 kd_19 (by decide) rfl rfl ?_
    refine op_icmp_lt (tgt := 14) dX5_worth_9 (by decide) (fun c2 => ?_) (fun c2 => ?_)
    · replace h := am_ip c2 h
      refine op_aload_n (k := 0) dX5_worth_14 rfl rfl ?_
      refine op_iconst (v := 0) dX5_worth_15 (by decide) ?_
      refine st_putI dX5_worth_16 fl_X5_33 kd_19 (by decide) rfl ?_
      refine op_aload_n (k := 0) dX5_worth_19 rfl rfl ?_
      refine st_getR (z := 20) dX5_worth_20 fl_X5_13 kd_19 (by decide) rfl rr_19_0 ?_
      refine op_iload_n (k := 1) dX5_worth_23 rfl rfl ?_
      obtain ⟨g3, h⟩ := am_gd h
      refine st_aald dX5_worth_24 g3 ?_
      refine op_astore (L' := [(5, .ref (21 + x1.toNatClampNeg)), (0, .ref 19), (1, .int x1), (2, .ref 3), (3, .int x3), (4, .int x4)]) dX5_worth_25 (by decide) rfl ?_
      refine op_iconst (v := 0) dX5_worth_27 (by decide) ?_
      refine op_istore (L' := [(6, .int 0), (5, .ref (21 + x1.toNatClampNeg)), (0, .ref 19), (1, .int x1), (2, .ref 3), (3, .int x3), (4, .int x4)]) dX5_worth_28 (by decide) rfl ?_
      refine AW.perm [2, 3, 4, 5, 6, 1, 0] rfl ?_
      exact t_X5_worth_30 hd  n _ _ _ _ _ _ _ _ h
    · replace h := am_ie c2 h
      refine op_iconst (v := 0) dX5_worth_12 (by decide) ?_
      cases h
      exact (op_iret dX5_worth_13 rfl rfl ⟨rfl, rfl⟩)
theorem t_X5_worth {l : Launch} {ρ : am_R} {n d gc gs : Nat} {I : Nat → Nat → Int32} {J : Nat → Nat → Int64} {T : Nat} {x1 : Int32} {x3 : Int32} {x4 : Int32} {q : Int32 × (Nat → Nat → Int32)} (hd : 0 * n + 3 ≤ d) (h : f_X5_worth n I J T x1 x3 x4 = some q) : AW l ρ d M_X5_worth 0 [(0, .ref 19), (1, .int x1), (2, .ref 3), (3, .int x3), (4, .int x4)] [] (am_KD, gc, gs) (I, J, am_RT T) (am_KD, gc, gs) (fun v H' => v = [.int q.1] ∧ H' = (q.2, J, am_RT T)) := by
  obtain ⟨d, rfl⟩ : ∃ e, d = e + 1 := ⟨d - 1, by omega⟩
  exact t_X5_worth_0 hd h
def f_X7_weightOf (n : Nat) (I : Nat → Nat → Int32) (J : Nat → Nat → Int64) (T : Nat) (x1 : Int32) (x2 : Int32) : Option (Int32 × (Nat → Nat → Int32)) :=
  if (I 27 2) < 3 then
   if (I 27 2) = 2 then
    (f_X7_costOf n I J T (1 <<< (x1 &&& 31))).bind fun w3 =>
    some (w3.1, w3.2)
   else
    some (0, I)
  else
   (f_X5_worth n I J T ((I 27 2) - 3) x1 x2).bind fun w4 =>
   some (w4.1, w4.2)
set_option maxRecDepth 100000 in
set_option maxHeartbeats 4000000 in
theorem t_X7_weightOf_0 {l : Launch} {ρ : am_R} {n d gc gs : Nat} {I : Nat → Nat → Int32} {J : Nat → Nat → Int64} {T : Nat} {x1 : Int32} {x2 : Int32} {q : Int32 × (Nat → Nat → Int32)} (hd : 0 * n + 4 ≤ (d + 1))
    (h : f_X7_weightOf n  I J T x1 x2 = some q) : AW l ρ (d + 1) M_X7_weightOf 0 [(0, .ref 27), (1, .int x1), (2, .int x2)] [] (am_KD, gc, gs) (I, J, am_RT T) (am_KD, gc, gs) (fun v H' => v = [.int q.1] ∧ H' = (q.2, J, am_RT T)) := by
  unfold f_X7_weightOf at h
  refine op_aload_n (k := 0) dX7_weightOf_0 rfl rfl ?_
  refine st_getI (v := I 27 2) dX7_weightOf_1 fl_X7_26 kd_27 (by decide) rfl rfl ?_
  refine op_iconst (v := 3) dX7_weightOf_4 (by decide) ?_
  refine op_icmp_lt (tgt := 28) dX7_weightOf_5 (by decide) (fun c1 => ?_) (fun c1 => ?_)
  · replace h := am_ip c1 h
    refine op_aload_n (k := 0) dX7_weightOf_28 rfl rfl ?_
    refine st_getI (v := I 27 2) dX7_weightOf_29 fl_X7_26 kd_27 (by decide) rfl rfl ?_
    refine op_iconst (v := 2) dX7_weightOf_32 (by decide) ?_
    refine op_icmp_ne (tgt := 46) dX7_weightOf_33 (by decide) (fun c2 => ?_) (fun c2 => ?_)
    · replace h := am_ie c2 h
      refine op_iconst (v := 0) dX7_weightOf_46 (by decide) ?_
      cases h
      exact (op_iret dX7_weightOf_47 rfl rfl ⟨rfl, rfl⟩)
    · replace h := am_ip c2 h
      refine op_aload_n (k := 0) dX7_weightOf_36 rfl rfl ?_
      refine op_iconst (v := 1) dX7_weightOf_37 (by decide) ?_
      refine op_iload_n (k := 1) dX7_weightOf_38 rfl rfl ?_
      refine op_ishl dX7_weightOf_39 ?_
      obtain ⟨w3, ew3, h⟩ := am_bd h
      refine op_callV (M' := M_X7_costOf) [.int (1 <<< (x1 &&& 31))] (S0 := []) dX7_weightOf_40 tw_855 ok_X7_costOf tw_856 tw_857 kd_27 cls_7 rfl rfl rfl (Nat.le_of_ble_eq_true rfl) (Nat.le_of_ble_eq_true rfl) (t_X7_costOf (by omega) ew3) (am_le_rf _) ?_
      rintro _ _ ⟨rfl, rfl⟩
      refine op_goto (tgt := 47) dX7_weightOf_43 (by decide) ?_
      cases h
      exact (op_iret dX7_weightOf_47 rfl rfl ⟨rfl, rfl⟩)
  · replace h := am_ie c1 h
    refine op_aload_n (k := 0) dX7_weightOf_8 rfl rfl ?_
    refine st_getR (z := 19) dX7_weightOf_9 fl_X7_22 kd_27 (by decide) rfl rr_27_1 ?_
    refine op_aload_n (k := 0) dX7_weightOf_12 rfl rfl ?_
    refine st_getI (v := I 27 2) dX7_weightOf_13 fl_X7_26 kd_27 (by decide) rfl rfl ?_
    refine op_iconst (v := 3) dX7_weightOf_16 (by decide) ?_
    refine op_isub dX7_weightOf_17 ?_
    refine op_aload_n (k := 0) dX7_weightOf_18 rfl rfl ?_
    refine st_getR (z := 3) dX7_weightOf_19 fl_X7_18 kd_27 (by decide) rfl rr_27_0 ?_
    refine op_iload_n (k := 1) dX7_weightOf_22 rfl rfl ?_
    refine op_iload_n (k := 2) dX7_weightOf_23 rfl rfl ?_
    obtain ⟨w4, ew4, h⟩ := am_bd h
    refine op_callV (M' := M_X5_worth) [.int ((I 27 2) - 3), .ref 3, .int x1, .int x2] (S0 := []) dX7_weightOf_24 tw_813 ok_X5_worth tw_814 tw_815 kd_19 cls_5 rfl rfl rfl (Nat.le_of_ble_eq_true rfl) (Nat.le_of_ble_eq_true rfl) (t_X5_worth (by omega) ew4) (am_le_rf _) ?_
    rintro _ _ ⟨rfl, rfl⟩
    cases h
    exact (op_iret dX7_weightOf_27 rfl rfl ⟨rfl, rfl⟩)
theorem t_X7_weightOf {l : Launch} {ρ : am_R} {n d gc gs : Nat} {I : Nat → Nat → Int32} {J : Nat → Nat → Int64} {T : Nat} {x1 : Int32} {x2 : Int32} {q : Int32 × (Nat → Nat → Int32)} (hd : 0 * n + 4 ≤ d) (h : f_X7_weightOf n I J T x1 x2 = some q) : AW l ρ d M_X7_weightOf 0 [(0, .ref 27), (1, .int x1), (2, .int x2)] [] (am_KD, gc, gs) (I, J, am_RT T) (am_KD, gc, gs) (fun v H' => v = [.int q.1] ∧ H' = (q.2, J, am_RT T)) := by
  obtain ⟨d, rfl⟩ : ∃ e, d = e + 1 := ⟨d - 1, by omega⟩
  exact t_X7_weightOf_0 hd h
def f_X7_weigh_29 (n : Nat) (k15 : (Nat → Nat → Int32) → (Nat → Nat → Int64) → Nat → Int32 → Option ((Nat → Nat → Int32))) : Nat → (Nat → Nat → Int32) → (Nat → Nat → Int64) → Nat → Int32 → Int32 → Option ((Nat → Nat → Int32))
  | 0, _, _, _, _, _ => none
  | m + 1, I, J, T, x3, x4 =>
    if (I 3 1) ≤ x4 then
     k15 I J T (x3 + 1)
    else
     (f_X7_weightOf n I J T x4 x3).bind fun w2 =>
     if ok_ix ((x3 * 6) + x4) 42 then
      f_X7_weigh_29 n k15 m ((am_u w2.2 29 (((x3 * 6) + x4).toNatClampNeg) w2.1)) J T x3 (x4 + 1)
     else none
def f_X7_weigh_15 (n : Nat) : Nat → (Nat → Nat → Int32) → (Nat → Nat → Int64) → Nat → Int32 → Option ((Nat → Nat → Int32))
  | 0, _, _, _, _ => none
  | m + 1, I, J, T, x3 =>
    if (I 3 1) < x3 then
     some (I)
    else
     f_X7_weigh_29 n (f_X7_weigh_15 n m) n I J T x3 0
def f_X7_weigh (n : Nat) (I : Nat → Nat → Int32) (J : Nat → Nat → Int64) (T : Nat) (x1 : Int32) (x2 : Int32) : Option ((Nat → Nat → Int32)) :=
  (f_J7_fill_53178 n ((am_u I 27 2 x1)) J T ((-1))).bind fun w1 =>
  f_X7_weigh_15 n  n w1 J T x2
set_option maxRecDepth 100000 in
set_option maxHeartbeats 4000000 in
theorem t_X7_weigh_29 {l : Launch} {ρ : am_R} {n d gc gs : Nat} {k15 : (Nat → Nat → Int32) → (Nat → Nat → Int64) → Nat → Int32 → Option ((Nat → Nat → Int32))} {q : (Nat → Nat → Int32)} (hd : 0 * n + 5 ≤ (d + 1))
    (hk15 : ∀ (I : Nat → Nat → Int32) (J : Nat → Nat → Int64) (T : Nat) (x3 : Int32), k15 I J T x3 = some q → AW l ρ (d + 1) M_X7_weigh 15 [(0, .ref 27), (3, .int x3)] [] (am_KD, gc, gs) (I, J, am_RT T) (am_KD, gc, gs) (fun v H' => v = [] ∧ H' = (q, J, am_RT T)))
    : ∀ (m : Nat) (I : Nat → Nat → Int32) (J : Nat → Nat → Int64) (T : Nat) (x3 : Int32) (x4 : Int32), f_X7_weigh_29 n k15 m I J T x3 x4 = some q → AW l ρ (d + 1) M_X7_weigh 29 [(0, .ref 27), (3, .int x3), (4, .int x4)] [] (am_KD, gc, gs) (I, J, am_RT T) (am_KD, gc, gs) (fun v H' => v = [] ∧ H' = (q, J, am_RT T)) := by
  intro m
  induction m with
  | zero =>
    intro I J T x3 x4 h
    rw [f_X7_weigh_29] at h
    cases h
  | succ m ih =>
    intro I J T x3 x4 h
    rw [f_X7_weigh_29] at h
    refine op_iload (k := 2) dX7_weigh_29 rfl ?_
    refine op_aload_n (k := 0) dX7_weigh_31 rfl rfl ?_
    refine st_getR (z := 3) dX7_weigh_32 fl_X7_18 kd_27 (by decide) rfl rr_27_0 ?_
    refine st_getI (v := I 3 1) dX7_weigh_35 fl_X7_36 kd_3 (by decide) rfl rfl ?_
    refine op_icmp_ge (tgt := 66) dX7_weigh_38 (by decide) (fun c1 => ?_) (fun c1 => ?_)
    · replace h := am_ip c1 h
      refine op_iinc (k := 1) (v := x3 + 1) (L' := [(3, .int (x3 + 1)), (0, .ref 27), (4, .int x4)]) dX7_weigh_66 rfl rfl (by decide) rfl ?_
      refine op_goto (tgt := 15) dX7_weigh_69 (by decide) ?_
      refine AW.perm [1, 0] rfl ?_
      exact hk15 _ _ _ _ h
    · replace h := am_ie c1 h
      refine op_aload_n (k := 0) dX7_weigh_41 rfl rfl ?_
      refine st_getR (z := 29) dX7_weigh_42 fl_X7_15 kd_27 (by decide) rfl rr_27_4 ?_
      refine op_iload_n (k := 1) dX7_weigh_45 rfl rfl ?_
      refine op_bipush (v := 6) dX7_weigh_46 (by decide) ?_
      refine op_imul dX7_weigh_48 ?_
      refine op_iload (k := 2) dX7_weigh_49 rfl ?_
      refine op_iadd dX7_weigh_51 ?_
      refine op_aload_n (k := 0) dX7_weigh_52 rfl rfl ?_
      refine op_iload (k := 2) dX7_weigh_53 rfl ?_
      refine op_iload_n (k := 1) dX7_weigh_55 rfl rfl ?_
      obtain ⟨w2, ew2, h⟩ := am_bd h
      refine op_callV (M' := M_X7_weightOf) [.int x4, .int x3] (S0 := [.int ((x3 * 6) + x4), .ref 29]) dX7_weigh_56 tw_809 ok_X7_weightOf tw_811 tw_29 kd_27 cls_7 rfl rfl rfl (Nat.le_of_ble_eq_true rfl) (Nat.le_of_ble_eq_true rfl) (t_X7_weightOf (by omega) ew2) (am_le_rf _) ?_
      rintro _ _ ⟨rfl, rfl⟩
      obtain ⟨g3, h⟩ := am_gd h
      refine st_iast (k := ((x3 * 6) + x4).toNatClampNeg) dX7_weigh_59 kd_29 g3 rfl ?_
      refine op_iinc (k := 2) (v := x4 + 1) (L' := [(4, .int (x4 + 1)), (0, .ref 27), (3, .int x3)]) dX7_weigh_60 rfl rfl (by decide) rfl ?_
      refine op_goto (tgt := 29) dX7_weigh_63 (by decide) ?_
      refine AW.perm [1, 2, 0] rfl ?_
      exact ih _ _ _ _ _ h
set_option maxRecDepth 100000 in
set_option maxHeartbeats 4000000 in
theorem t_X7_weigh_15 {l : Launch} {ρ : am_R} {n d gc gs : Nat} {q : (Nat → Nat → Int32)} (hd : 0 * n + 5 ≤ (d + 1))
    : ∀ (m : Nat) (I : Nat → Nat → Int32) (J : Nat → Nat → Int64) (T : Nat) (x3 : Int32), f_X7_weigh_15 n  m I J T x3 = some q → AW l ρ (d + 1) M_X7_weigh 15 [(0, .ref 27), (3, .int x3)] [] (am_KD, gc, gs) (I, J, am_RT T) (am_KD, gc, gs) (fun v H' => v = [] ∧ H' = (q, J, am_RT T)) := by
  intro m
  induction m with
  | zero =>
    intro I J T x3 h
    rw [f_X7_weigh_15] at h
    cases h
  | succ m ih =>
    intro I J T x3 h
    rw [f_X7_weigh_15] at h
    refine op_iload_n (k := 1) dX7_weigh_15 rfl rfl ?_
    refine op_aload_n (k := 0) dX7_weigh_16 rfl rfl ?_
    refine st_getR (z := 3) dX7_weigh_17 fl_X7_18 kd_27 (by decide) rfl rr_27_0 ?_
    refine st_getI (v := I 3 1) dX7_weigh_20 fl_X7_36 kd_3 (by decide) rfl rfl ?_
    refine op_icmp_gt (tgt := 72) dX7_weigh_23 (by decide) (fun c1 => ?_) (fun c1 => ?_)
    · replace h := am_ip c1 h
      cases h
      exact (op_vret dX7_weigh_72 rfl ⟨rfl, rfl⟩)
    · replace h := am_ie c1 h
      refine op_iconst (v := 0) dX7_weigh_26 (by decide) ?_
      refine op_istore (L' := [(4, .int 0), (0, .ref 27), (3, .int x3)]) dX7_weigh_27 (by decide) rfl ?_
      refine AW.perm [1, 2, 0] rfl ?_
      exact t_X7_weigh_29 hd ih n _ _ _ _ _ h
set_option maxRecDepth 100000 in
set_option maxHeartbeats 4000000 in
theorem t_X7_weigh_0 {l : Launch} {ρ : am_R} {n d gc gs : Nat} {I : Nat → Nat → Int32} {J : Nat → Nat → Int64} {T : Nat} {x1 : Int32} {x2 : Int32} {q : (Nat → Nat → Int32)} (hd : 0 * n + 5 ≤ (d + 1))
    (h : f_X7_weigh n  I J T x1 x2 = some q) : AW l ρ (d + 1) M_X7_weigh 0 [(0, .ref 27), (1, .int x1), (2, .int x2)] [] (am_KD, gc, gs) (I, J, am_RT T) (am_KD, gc, gs) (fun v H' => v = [] ∧ H' = (q, J, am_RT T)) := by
  unfold f_X7_weigh at h
  refine op_aload_n (k := 0) dX7_weigh_0 rfl rfl ?_
  refine op_iload_n (k := 1) dX7_weigh_1 rfl rfl ?_
  refine st_putI dX7_weigh_2 fl_X7_26 kd_27 (by decide) rfl ?_
  refine op_aload_n (k := 0) dX7_weigh_5 rfl rfl ?_
  refine st_getR (z := 28) dX7_weigh_6 fl_X7_9 kd_27 (by decide) rfl rr_27_3 ?_
  refine op_iconst (v := (-1)) dX7_weigh_9 (by decide) ?_
  obtain ⟨w1, ew1, h⟩ := am_bd h
  refine op_callS (M' := M_J7_fill_53178) [.ref 28, .int ((-1))] (S0 := []) dX7_weigh_10 tw_806 ok_J7_fill_53178 tw_807 rfl rfl (Nat.le_of_ble_eq_true rfl) (Nat.le_of_ble_eq_true rfl) (t_J7_fill_53178 (by omega) ew1) (am_le_rf _) ?_
  rintro _ _ ⟨rfl, rfl⟩
  refine op_iload_n (k := 2) dX7_weigh_13 rfl rfl ?_
  refine op_istore_n (L' := [(3, .int x2), (0, .ref 27), (1, .int x1), (2, .int x2)]) dX7_weigh_14 rfl (by decide) rfl ?_
  refine AW.perm [1, 0] rfl ?_
  exact t_X7_weigh_15 hd  n _ _ _ _ h
theorem t_X7_weigh {l : Launch} {ρ : am_R} {n d gc gs : Nat} {I : Nat → Nat → Int32} {J : Nat → Nat → Int64} {T : Nat} {x1 : Int32} {x2 : Int32} {q : (Nat → Nat → Int32)} (hd : 0 * n + 5 ≤ d) (h : f_X7_weigh n I J T x1 x2 = some q) : AW l ρ d M_X7_weigh 0 [(0, .ref 27), (1, .int x1), (2, .int x2)] [] (am_KD, gc, gs) (I, J, am_RT T) (am_KD, gc, gs) (fun v H' => v = [] ∧ H' = (q, J, am_RT T)) := by
  obtain ⟨d, rfl⟩ : ∃ e, d = e + 1 := ⟨d - 1, by omega⟩
  exact t_X7_weigh_0 hd h
def f_J6_bitCount_0f7a4 (n : Nat) (I : Nat → Nat → Int32) (J : Nat → Nat → Int64) (T : Nat) (x0 : Int32) : Option (Int32) :=
  (some (((x0 - ((am_ush x0 1) &&& 1431655765)) &&& 858993459) + ((am_ush (x0 - ((am_ush x0 1) &&& 1431655765)) 2) &&& 858993459) : Int32)).bind fun u1 =>
  (some (((u1 + (am_ush u1 4)) &&& 252645135) + (am_ush ((u1 + (am_ush u1 4)) &&& 252645135) 8) : Int32)).bind fun u2 =>
  some ((u2 + (am_ush u2 16)) &&& 63)
set_option maxRecDepth 100000 in
set_option maxHeartbeats 4000000 in
theorem t_J6_bitCount_0f7a4_0 {l : Launch} {ρ : am_R} {n d gc gs : Nat} {I : Nat → Nat → Int32} {J : Nat → Nat → Int64} {T : Nat} {x0 : Int32} {q : Int32} (hd : 0 * n + 0 ≤ d)
    (h : f_J6_bitCount_0f7a4 n  I J T x0 = some q) : AW l ρ d M_J6_bitCount_0f7a4 0 [(0, .int x0)] [] (am_KD, gc, gs) (I, J, am_RT T) (am_KD, gc, gs) (fun v H' => v = [.int q] ∧ H' = (I, J, am_RT T)) := by
  unfold f_J6_bitCount_0f7a4 at h
  refine op_iload_n (k := 0) dJ6_bitCount_0f7a4_0 rfl rfl ?_
  refine op_iload_n (k := 0) dJ6_bitCount_0f7a4_1 rfl rfl ?_
  refine op_iconst (v := 1) dJ6_bitCount_0f7a4_2 (by decide) ?_
  refine op_iushr (v := am_ush x0 1) dJ6_bitCount_0f7a4_3 rfl ?_
  refine op_ldcw dJ6_bitCount_0f7a4_4 tw_799 ?_
  refine op_iand dJ6_bitCount_0f7a4_7 ?_
  refine op_isub dJ6_bitCount_0f7a4_8 ?_
  refine op_istore_n (L' := [(0, .int (x0 - ((am_ush x0 1) &&& 1431655765)))]) dJ6_bitCount_0f7a4_9 rfl (by decide) rfl ?_
  refine op_iload_n (k := 0) dJ6_bitCount_0f7a4_10 rfl rfl ?_
  refine op_ldcw dJ6_bitCount_0f7a4_11 tw_800 ?_
  refine op_iand dJ6_bitCount_0f7a4_14 ?_
  refine op_iload_n (k := 0) dJ6_bitCount_0f7a4_15 rfl rfl ?_
  refine op_iconst (v := 2) dJ6_bitCount_0f7a4_16 (by decide) ?_
  refine op_iushr (v := am_ush (x0 - ((am_ush x0 1) &&& 1431655765)) 2) dJ6_bitCount_0f7a4_17 rfl ?_
  refine op_ldcw dJ6_bitCount_0f7a4_18 tw_800 ?_
  refine op_iand dJ6_bitCount_0f7a4_21 ?_
  refine op_iadd dJ6_bitCount_0f7a4_22 ?_
  obtain ⟨u1, eu1, h⟩ := am_bd h
  replace eu1 := Option.some.inj eu1
  refine op_nmI eu1 ?_
  refine op_istore_n (L' := [(0, .int u1)]) dJ6_bitCount_0f7a4_23 rfl (by decide) rfl ?_
  refine op_iload_n (k := 0) dJ6_bitCount_0f7a4_24 rfl rfl ?_
  refine op_iload_n (k := 0) dJ6_bitCount_0f7a4_25 rfl rfl ?_
  refine op_iconst (v := 4) dJ6_bitCount_0f7a4_26 (by decide) ?_
  refine op_iushr (v := am_ush u1 4) dJ6_bitCount_0f7a4_27 rfl ?_
  refine op_iadd dJ6_bitCount_0f7a4_28 ?_
  refine op_ldcw dJ6_bitCount_0f7a4_29 tw_801 ?_
  refine op_iand dJ6_bitCount_0f7a4_32 ?_
  refine op_istore_n (L' := [(0, .int ((u1 + (am_ush u1 4)) &&& 252645135))]) dJ6_bitCount_0f7a4_33 rfl (by decide) rfl ?_
  refine op_iload_n (k := 0) dJ6_bitCount_0f7a4_34 rfl rfl ?_
  refine op_iload_n (k := 0) dJ6_bitCount_0f7a4_35 rfl rfl ?_
  refine op_bipush (v := 8) dJ6_bitCount_0f7a4_36 (by decide) ?_
  refine op_iushr (v := am_ush ((u1 + (am_ush u1 4)) &&& 252645135) 8) dJ6_bitCount_0f7a4_38 rfl ?_
  refine op_iadd dJ6_bitCount_0f7a4_39 ?_
  obtain ⟨u2, eu2, h⟩ := am_bd h
  replace eu2 := Option.some.inj eu2
  refine op_nmI eu2 ?_
  refine op_istore_n (L' := [(0, .int u2)]) dJ6_bitCount_0f7a4_40 rfl (by decide) rfl ?_
  refine op_iload_n (k := 0) dJ6_bitCount_0f7a4_41 rfl rfl ?_
  refine op_iload_n (k := 0) dJ6_bitCount_0f7a4_42 rfl rfl ?_
  refine op_bipush (v := 16) dJ6_bitCount_0f7a4_43 (by decide) ?_
  refine op_iushr (v := am_ush u2 16) dJ6_bitCount_0f7a4_45 rfl ?_
  refine op_iadd dJ6_bitCount_0f7a4_46 ?_
  refine op_istore_n (L' := [(0, .int (u2 + (am_ush u2 16)))]) dJ6_bitCount_0f7a4_47 rfl (by decide) rfl ?_
  refine op_iload_n (k := 0) dJ6_bitCount_0f7a4_48 rfl rfl ?_
  refine op_bipush (v := 63) dJ6_bitCount_0f7a4_49 (by decide) ?_
  refine op_iand dJ6_bitCount_0f7a4_51 ?_
  cases h
  exact (op_iret dJ6_bitCount_0f7a4_52 rfl rfl ⟨rfl, rfl⟩)
theorem t_J6_bitCount_0f7a4 {l : Launch} {ρ : am_R} {n d gc gs : Nat} {I : Nat → Nat → Int32} {J : Nat → Nat → Int64} {T : Nat} {x0 : Int32} {q : Int32} (hd : 0 * n + 0 ≤ d) (h : f_J6_bitCount_0f7a4 n I J T x0 = some q) : AW l ρ d M_J6_bitCount_0f7a4 0 [(0, .int x0)] [] (am_KD, gc, gs) (I, J, am_RT T) (am_KD, gc, gs) (fun v H' => v = [.int q] ∧ H' = (I, J, am_RT T)) := t_J6_bitCount_0f7a4_0 hd h
def f_X7_weightsOf_46 (n : Nat) (k10 : (Nat → Nat → Int32) → (Nat → Nat → Int64) → Nat → Int32 → Int32 → Int32 → Int32 → Option (Int32)) (I : Nat → Nat → Int32) (J : Nat → Nat → Int64) (T : Nat) (x1 : Int32) (x2 : Int32) (x3 : Int32) (x4 : Int32) : Option (Int32) :=
  k10 I J T x1 x2 x3 (x4 + 1)
def f_X7_weightsOf_10 (n : Nat) : Nat → (Nat → Nat → Int32) → (Nat → Nat → Int64) → Nat → Int32 → Int32 → Int32 → Int32 → Option (Int32)
  | 0, _, _, _, _, _, _, _ => none
  | m + 1, I, J, T, x1, x2, x3, x4 =>
    if (I 3 1) ≤ x4 then
     some (x3)
    else
     (f_X11_isIn n I J T x4 x1).bind fun w2 =>
     if w2 = 0 then
      f_X7_weightsOf_46 n (f_X7_weightsOf_10 n m) I J T x1 x2 x3 x4
     else
      if ok_ix ((x2 * 6) + x4) 42 then
       f_X7_weightsOf_46 n (f_X7_weightsOf_10 n m) I J T x1 x2 (x3 + (I 29 (((x2 * 6) + x4).toNatClampNeg))) x4
      else none
def f_X7_weightsOf (n : Nat) (I : Nat → Nat → Int32) (J : Nat → Nat → Int64) (T : Nat) (x1 : Int32) : Option (Int32) :=
  (f_J6_bitCount_0f7a4 n I J T x1).bind fun w1 =>
  f_X7_weightsOf_10 n  n I J T x1 w1 0 0
set_option maxRecDepth 100000 in
set_option maxHeartbeats 4000000 in
theorem t_X7_weightsOf_46 {l : Launch} {ρ : am_R} {n d gc gs : Nat} {k10 : (Nat → Nat → Int32) → (Nat → Nat → Int64) → Nat → Int32 → Int32 → Int32 → Int32 → Option (Int32)} {I : Nat → Nat → Int32} {J : Nat → Nat → Int64} {T : Nat} {x1 : Int32} {x2 : Int32} {x3 : Int32} {x4 : Int32} {q : Int32} (hd : 0 * n + 1 ≤ (d + 1))
    (hk10 : ∀ (I : Nat → Nat → Int32) (J : Nat → Nat → Int64) (T : Nat) (x1 : Int32) (x2 : Int32) (x3 : Int32) (x4 : Int32), k10 I J T x1 x2 x3 x4 = some q → AW l ρ (d + 1) M_X7_weightsOf 10 [(0, .ref 27), (1, .int x1), (2, .int x2), (3, .int x3), (4, .int x4)] [] (am_KD, gc, gs) (I, J, am_RT T) (am_KD, gc, gs) (fun v H' => v = [.int q] ∧ H' = (I, J, am_RT T)))
    (h : f_X7_weightsOf_46 n k10 I J T x1 x2 x3 x4 = some q) : AW l ρ (d + 1) M_X7_weightsOf 46 [(0, .ref 27), (1, .int x1), (2, .int x2), (3, .int x3), (4, .int x4)] [] (am_KD, gc, gs) (I, J, am_RT T) (am_KD, gc, gs) (fun v H' => v = [.int q] ∧ H' = (I, J, am_RT T)) := by
  unfold f_X7_weightsOf_46 at h
  refine op_iinc (k := 4) (v := x4 + 1) (L' := [(4, .int (x4 + 1)), (0, .ref 27), (1, .int x1), (2, .int x2), (3, .int x3)]) dX7_weightsOf_46 rfl rfl (by decide) rfl ?_
  refine op_goto (tgt := 10) dX7_weightsOf_49 (by decide) ?_
  refine AW.perm [1, 2, 3, 4, 0] rfl ?_
  exact hk10 _ _ _ _ _ _ _ h
set_option maxRecDepth 100000 in
set_option maxHeartbeats 4000000 in
theorem t_X7_weightsOf_10 {l : Launch} {ρ : am_R} {n d gc gs : Nat} {q : Int32} (hd : 0 * n + 1 ≤ (d + 1))
    : ∀ (m : Nat) (I : Nat → Nat → Int32) (J : Nat → Nat → Int64) (T : Nat) (x1 : Int32) (x2 : Int32) (x3 : Int32) (x4 : Int32), f_X7_weightsOf_10 n  m I J T x1 x2 x3 x4 = some q → AW l ρ (d + 1) M_X7_weightsOf 10 [(0, .ref 27), (1, .int x1), (2, .int x2), (3, .int x3), (4, .int x4)] [] (am_KD, gc, gs) (I, J, am_RT T) (am_KD, gc, gs) (fun v H' => v = [.int q] ∧ H' = (I, J, am_RT T)) := by
  intro m
  induction m with
  | zero =>
    intro I J T x1 x2 x3 x4 h
    rw [f_X7_weightsOf_10] at h
    cases h
  | succ m ih =>
    intro I J T x1 x2 x3 x4 h
    rw [f_X7_weightsOf_10] at h
    refine op_iload (k := 4) dX7_weightsOf_10 rfl ?_
    refine op_aload_n (k := 0) dX7_weightsOf_12 rfl rfl ?_
    refine st_getR (z := 3) dX7_weightsOf_13 fl_X7_18 kd_27 (by decide) rfl rr_27_0 ?_
    refine st_getI (v := I 3 1) dX7_weightsOf_16 fl_X7_36 kd_3 (by decide) rfl rfl ?_
    refine op_icmp_ge (tgt := 52) dX7_weightsOf_19 (by decide) (fun c1 => ?_) (fun c1 => ?_)
    · replace h := am_ip c1 h
      refine op_iload_n (k := 3) dX7_weightsOf_52 rfl rfl ?_
      cases h
      exact (op_iret dX7_weightsOf_53 rfl rfl ⟨rfl, rfl⟩)
    · replace h := am_ie c1 h
      refine op_iload (k := 4) dX7_weightsOf_22 rfl ?_
      refine op_iload_n (k := 1) dX7_weightsOf_24 rfl rfl ?_
      obtain ⟨w2, ew2, h⟩ := am_bd h
      refine op_callSN (M' := M_X11_isIn) [.int x4, .int x1] (S0 := []) dX7_weightsOf_25 tn_888 ok_X11_isIn tw_771 rfl rfl (Nat.le_of_ble_eq_true rfl) (Nat.le_of_ble_eq_true rfl) (t_X11_isIn (by omega) ew2) (am_le_rf _) ?_
      rintro _ _ ⟨rfl, rfl⟩
      refine op_if_eq (tgt := 46) dX7_weightsOf_28 (by decide) (fun c3 => ?_) (fun c3 => ?_)
      · replace h := am_ip c3 h
        exact t_X7_weightsOf_46 hd ih h
      · replace h := am_ie c3 h
        refine op_iload_n (k := 3) dX7_weightsOf_31 rfl rfl ?_
        refine op_aload_n (k := 0) dX7_weightsOf_32 rfl rfl ?_
        refine st_getR (z := 29) dX7_weightsOf_33 fl_X7_15 kd_27 (by decide) rfl rr_27_4 ?_
        refine op_iload_n (k := 2) dX7_weightsOf_36 rfl rfl ?_
        refine op_bipush (v := 6) dX7_weightsOf_37 (by decide) ?_
        refine op_imul dX7_weightsOf_39 ?_
        refine op_iload (k := 4) dX7_weightsOf_40 rfl ?_
        refine op_iadd dX7_weightsOf_42 ?_
        obtain ⟨g4, h⟩ := am_gd h
        refine st_iald (k := ((x2 * 6) + x4).toNatClampNeg) (v := I 29 (((x2 * 6) + x4).toNatClampNeg)) dX7_weightsOf_43 kd_29 g4 rfl rfl ?_
        refine op_iadd dX7_weightsOf_44 ?_
        refine op_istore_n (L' := [(3, .int (x3 + (I 29 (((x2 * 6) + x4).toNatClampNeg)))), (0, .ref 27), (1, .int x1), (2, .int x2), (4, .int x4)]) dX7_weightsOf_45 rfl (by decide) rfl ?_
        refine AW.perm [1, 2, 3, 0, 4] rfl ?_
        exact t_X7_weightsOf_46 hd ih h
set_option maxRecDepth 100000 in
set_option maxHeartbeats 4000000 in
theorem t_X7_weightsOf_0 {l : Launch} {ρ : am_R} {n d gc gs : Nat} {I : Nat → Nat → Int32} {J : Nat → Nat → Int64} {T : Nat} {x1 : Int32} {q : Int32} (hd : 0 * n + 1 ≤ (d + 1))
    (h : f_X7_weightsOf n  I J T x1 = some q) : AW l ρ (d + 1) M_X7_weightsOf 0 [(0, .ref 27), (1, .int x1)] [] (am_KD, gc, gs) (I, J, am_RT T) (am_KD, gc, gs) (fun v H' => v = [.int q] ∧ H' = (I, J, am_RT T)) := by
  unfold f_X7_weightsOf at h
  refine op_iload_n (k := 1) dX7_weightsOf_0 rfl rfl ?_
  obtain ⟨w1, ew1, h⟩ := am_bd h
  refine op_callS (M' := M_J6_bitCount_0f7a4) [.int x1] (S0 := []) dX7_weightsOf_1 tw_868 ok_J6_bitCount_0f7a4 tw_797 rfl rfl (Nat.le_of_ble_eq_true rfl) (Nat.le_of_ble_eq_true rfl) (t_J6_bitCount_0f7a4 (by omega) ew1) (am_le_rf _) ?_
  rintro _ _ ⟨rfl, rfl⟩
  refine op_istore_n (L' := [(2, .int w1), (0, .ref 27), (1, .int x1)]) dX7_weightsOf_4 rfl (by decide) rfl ?_
  refine op_iconst (v := 0) dX7_weightsOf_5 (by decide) ?_
  refine op_istore_n (L' := [(3, .int 0), (2, .int w1), (0, .ref 27), (1, .int x1)]) dX7_weightsOf_6 rfl (by decide) rfl ?_
  refine op_iconst (v := 0) dX7_weightsOf_7 (by decide) ?_
  refine op_istore (L' := [(4, .int 0), (3, .int 0), (2, .int w1), (0, .ref 27), (1, .int x1)]) dX7_weightsOf_8 (by decide) rfl ?_
  refine AW.perm [3, 4, 2, 1, 0] rfl ?_
  exact t_X7_weightsOf_10 hd  n _ _ _ _ _ _ _ h
theorem t_X7_weightsOf {l : Launch} {ρ : am_R} {n d gc gs : Nat} {I : Nat → Nat → Int32} {J : Nat → Nat → Int64} {T : Nat} {x1 : Int32} {q : Int32} (hd : 0 * n + 1 ≤ d) (h : f_X7_weightsOf n I J T x1 = some q) : AW l ρ d M_X7_weightsOf 0 [(0, .ref 27), (1, .int x1)] [] (am_KD, gc, gs) (I, J, am_RT T) (am_KD, gc, gs) (fun v H' => v = [.int q] ∧ H' = (I, J, am_RT T)) := by
  obtain ⟨d, rfl⟩ : ∃ e, d = e + 1 := ⟨d - 1, by omega⟩
  exact t_X7_weightsOf_0 hd h
def f_X7_below (n : Nat) (I : Nat → Nat → Int32) (J : Nat → Nat → Int64) (T : Nat) (x1 : Int32) : Option (Int64) :=
  if (I 27 2) = 0 then
   some (60)
  else
   if (I 27 2) = 1 then
    some (720)
   else
    (f_X7_weightsOf n I J T x1).bind fun w3 =>
    if w3 ≤ 0 then
     (f_J6_bitCount_0f7a4 n I J T x1).bind fun w5 =>
     some (w5.toInt64)
    else
     some (w3.toInt64)
set_option maxRecDepth 100000 in
set_option maxHeartbeats 4000000 in
theorem t_X7_below_0 {l : Launch} {ρ : am_R} {n d gc gs : Nat} {I : Nat → Nat → Int32} {J : Nat → Nat → Int64} {T : Nat} {x1 : Int32} {q : Int64} (hd : 0 * n + 2 ≤ (d + 1))
    (h : f_X7_below n  I J T x1 = some q) : AW l ρ (d + 1) M_X7_below 0 [(0, .ref 27), (1, .int x1)] [] (am_KD, gc, gs) (I, J, am_RT T) (am_KD, gc, gs) (fun v H' => v = [.long q] ∧ H' = (I, J, am_RT T)) := by
  unfold f_X7_below at h
  refine op_aload_n (k := 0) dX7_below_0 rfl rfl ?_
  refine st_getI (v := I 27 2) dX7_below_1 fl_X7_26 kd_27 (by decide) rfl rfl ?_
  refine op_if_ne (tgt := 11) dX7_below_4 (by decide) (fun c1 => ?_) (fun c1 => ?_)
  · replace h := am_ie c1 h
    refine op_aload_n (k := 0) dX7_below_11 rfl rfl ?_
    refine st_getI (v := I 27 2) dX7_below_12 fl_X7_26 kd_27 (by decide) rfl rfl ?_
    refine op_iconst (v := 1) dX7_below_15 (by decide) ?_
    refine op_icmp_ne (tgt := 23) dX7_below_16 (by decide) (fun c2 => ?_) (fun c2 => ?_)
    · replace h := am_ie c2 h
      refine op_aload_n (k := 0) dX7_below_23 rfl rfl ?_
      refine op_iload_n (k := 1) dX7_below_24 rfl rfl ?_
      obtain ⟨w3, ew3, h⟩ := am_bd h
      refine op_callV (M' := M_X7_weightsOf) [.int x1] (S0 := []) dX7_below_25 tw_884 ok_X7_weightsOf tw_886 tw_37 kd_27 cls_7 rfl rfl rfl (Nat.le_of_ble_eq_true rfl) (Nat.le_of_ble_eq_true rfl) (t_X7_weightsOf (by omega) ew3) (am_le_rf _) ?_
      rintro _ _ ⟨rfl, rfl⟩
      refine op_istore_n (L' := [(2, .int w3), (0, .ref 27), (1, .int x1)]) dX7_below_28 rfl (by decide) rfl ?_
      refine op_iload_n (k := 0) dX7_below_29 rfl rfl ?_
      refine op_if_le (tgt := 38) dX7_below_30 (by decide) (fun c4 => ?_) (fun c4 => ?_)
      · replace h := am_ip c4 h
        refine op_iload_n (k := 2) dX7_below_38 rfl rfl ?_
        obtain ⟨w5, ew5, h⟩ := am_bd h
        refine op_callS (M' := M_J6_bitCount_0f7a4) [.int x1] (S0 := []) dX7_below_39 tw_868 ok_J6_bitCount_0f7a4 tw_797 rfl rfl (Nat.le_of_ble_eq_true rfl) (Nat.le_of_ble_eq_true rfl) (t_J6_bitCount_0f7a4 (by omega) ew5) (am_le_rf _) ?_
        rintro _ _ ⟨rfl, rfl⟩
        refine op_i2l dX7_below_42 ?_
        cases h
        exact (op_lret dX7_below_43 rfl ⟨rfl, rfl⟩)
      · replace h := am_ie c4 h
        refine op_iload_n (k := 0) dX7_below_33 rfl rfl ?_
        refine op_i2l dX7_below_34 ?_
        refine op_goto (tgt := 43) dX7_below_35 (by decide) ?_
        cases h
        exact (op_lret dX7_below_43 rfl ⟨rfl, rfl⟩)
    · replace h := am_ip c2 h
      refine op_ldc2 dX7_below_19 tw_894 ?_
      cases h
      exact (op_lret dX7_below_22 rfl ⟨rfl, rfl⟩)
  · replace h := am_ip c1 h
    refine op_ldc2 dX7_below_7 tw_893 ?_
    cases h
    exact (op_lret dX7_below_10 rfl ⟨rfl, rfl⟩)
theorem t_X7_below {l : Launch} {ρ : am_R} {n d gc gs : Nat} {I : Nat → Nat → Int32} {J : Nat → Nat → Int64} {T : Nat} {x1 : Int32} {q : Int64} (hd : 0 * n + 2 ≤ d) (h : f_X7_below n I J T x1 = some q) : AW l ρ d M_X7_below 0 [(0, .ref 27), (1, .int x1)] [] (am_KD, gc, gs) (I, J, am_RT T) (am_KD, gc, gs) (fun v H' => v = [.long q] ∧ H' = (I, J, am_RT T)) := by
  obtain ⟨d, rfl⟩ : ∃ e, d = e + 1 := ⟨d - 1, by omega⟩
  exact t_X7_below_0 hd h
def f_X7_orderParts_87 (n : Nat) (k20 : (Nat → Nat → Int32) → (Nat → Nat → Int64) → Nat → Int32 → Int32 → Int32 → Int64 → Int32 → Option (Int64 × (Nat → Nat → Int32))) (I : Nat → Nat → Int32) (J : Nat → Nat → Int64) (T : Nat) (x1 : Int32) (x3 : Int32) (x4 : Int32) (y5 : Int64) (x7 : Int32) : Option (Int64 × (Nat → Nat → Int32)) :=
  k20 I J T x1 x3 x4 y5 (x7 + 1)
def f_X7_orderParts_20 (n : Nat) : Nat → (Nat → Nat → Int32) → (Nat → Nat → Int64) → Nat → Int32 → Int32 → Int32 → Int64 → Int32 → Option (Int64 × (Nat → Nat → Int32))
  | 0, _, _, _, _, _, _, _, _ => none
  | m + 1, I, J, T, x1, x3, x4, y5, x7 =>
    if x3 < x7 then
     if ok_ix (x4 + 1) 7 then
      if ¬ (am_FACTORIALS (x4 + 1)) = 0 then
       some (y5 * ((720 / (am_FACTORIALS (x4 + 1))).toInt64), I)
      else none
     else none
    else
     if (x7 &&& (x3 ^^^ ((-1)))) = 0 then
      (f_J6_bitCount_0f7a4 n I J T x7).bind fun w5 =>
      if ok_ix w5 7 then
       if ok_ix (x4 - w5) 7 then
        (f_X7_costOf n I J T (x7 ||| (1 <<< (x1 &&& 31)))).bind fun w8 =>
        (f_X7_costOf n w8.2 J T x7).bind fun w9 =>
        (some (y5 + ((((am_FACTORIALS w5) * (am_FACTORIALS (x4 - w5))).toInt64) * ((w8.1 - w9.1).toInt64)) : Int64)).bind fun u10 =>
        f_X7_orderParts_87 n (f_X7_orderParts_20 n m) w9.2 J T x1 x3 x4 u10 x7
       else none
      else none
     else
      f_X7_orderParts_87 n (f_X7_orderParts_20 n m) I J T x1 x3 x4 y5 x7
def f_X7_orderParts (n : Nat) (I : Nat → Nat → Int32) (J : Nat → Nat → Int64) (T : Nat) (x1 : Int32) (x2 : Int32) : Option (Int64 × (Nat → Nat → Int32)) :=
  (f_J6_bitCount_0f7a4 n I J T (x2 &&& ((1 <<< (x1 &&& 31)) ^^^ ((-1))))).bind fun w1 =>
  f_X7_orderParts_20 n  n I J T x1 (x2 &&& ((1 <<< (x1 &&& 31)) ^^^ ((-1)))) w1 0 0
set_option maxRecDepth 100000 in
set_option maxHeartbeats 4000000 in
theorem t_X7_orderParts_87 {l : Launch} {ρ : am_R} {n d gc gs : Nat} {k20 : (Nat → Nat → Int32) → (Nat → Nat → Int64) → Nat → Int32 → Int32 → Int32 → Int64 → Int32 → Option (Int64 × (Nat → Nat → Int32))} {I : Nat → Nat → Int32} {J : Nat → Nat → Int64} {T : Nat} {x1 : Int32} {x3 : Int32} {x4 : Int32} {y5 : Int64} {x7 : Int32} {q : Int64 × (Nat → Nat → Int32)} (hd : 0 * n + 4 ≤ (d + 1))
    (hk20 : ∀ (I : Nat → Nat → Int32) (J : Nat → Nat → Int64) (T : Nat) (x1 : Int32) (x3 : Int32) (x4 : Int32) (y5 : Int64) (x7 : Int32), k20 I J T x1 x3 x4 y5 x7 = some q → AW l ρ (d + 1) M_X7_orderParts 20 [(0, .ref 27), (1, .int x1), (3, .int x3), (4, .int x4), (5, .long y5), (7, .int x7)] [] (am_KD, gc, gs) (I, J, am_RT T) (am_KD, gc, gs) (fun v H' => v = [.long q.1] ∧ H' = (q.2, J, am_RT T)))
    (h : f_X7_orderParts_87 n k20 I J T x1 x3 x4 y5 x7 = some q) : AW l ρ (d + 1) M_X7_orderParts 87 [(0, .ref 27), (1, .int x1), (3, .int x3), (4, .int x4), (5, .long y5), (7, .int x7)] [] (am_KD, gc, gs) (I, J, am_RT T) (am_KD, gc, gs) (fun v H' => v = [.long q.1] ∧ H' = (q.2, J, am_RT T)) := by
  unfold f_X7_orderParts_87 at h
  refine op_iinc (k := 5) (v := x7 + 1) (L' := [(7, .int (x7 + 1)), (0, .ref 27), (1, .int x1), (3, .int x3), (4, .int x4), (5, .long y5)]) dX7_orderParts_87 rfl rfl (by decide) rfl ?_
  refine op_goto (tgt := 20) dX7_orderParts_90 (by decide) ?_
  refine AW.perm [1, 2, 3, 4, 5, 0] rfl ?_
  exact hk20 _ _ _ _ _ _ _ _ h
set_option maxRecDepth 100000 in
set_option maxHeartbeats 4000000 in
theorem t_X7_orderParts_20 {l : Launch} {ρ : am_R} {n d gc gs : Nat} {q : Int64 × (Nat → Nat → Int32)} (hd : 0 * n + 4 ≤ (d + 1))
    : ∀ (m : Nat) (I : Nat → Nat → Int32) (J : Nat → Nat → Int64) (T : Nat) (x1 : Int32) (x3 : Int32) (x4 : Int32) (y5 : Int64) (x7 : Int32), f_X7_orderParts_20 n  m I J T x1 x3 x4 y5 x7 = some q → AW l ρ (d + 1) M_X7_orderParts 20 [(0, .ref 27), (1, .int x1), (3, .int x3), (4, .int x4), (5, .long y5), (7, .int x7)] [] (am_KD, gc, gs) (I, J, am_RT T) (am_KD, gc, gs) (fun v H' => v = [.long q.1] ∧ H' = (q.2, J, am_RT T)) := by
  intro m
  induction m with
  | zero =>
    intro I J T x1 x3 x4 y5 x7 h
    rw [f_X7_orderParts_20] at h
    cases h
  | succ m ih =>
    intro I J T x1 x3 x4 y5 x7 h
    rw [f_X7_orderParts_20] at h
    refine op_iload (k := 5) dX7_orderParts_20 rfl ?_
    refine op_iload_n (k := 2) dX7_orderParts_22 rfl rfl ?_
    refine op_icmp_gt (tgt := 93) dX7_orderParts_23 (by decide) (fun c1 => ?_) (fun c1 => ?_)
    · replace h := am_ip c1 h
      refine op_lload (k := 4) dX7_orderParts_93 rfl ?_
      refine op_sipush (v := 720) dX7_orderParts_95 (by decide) ?_
      refine op_gets (j := 4) dX7_orderParts_98 rfl tw_882 ?_
      refine op_iload (k := 3) dX7_orderParts_101 rfl ?_
      refine op_iconst (v := 1) dX7_orderParts_103 (by decide) ?_
      refine op_iadd dX7_orderParts_104 ?_
      obtain ⟨g2, h⟩ := am_gd h
      refine op_tald (j := 4) (v := am_FACTORIALS (x4 + 1)) dX7_orderParts_105 rfl g2 rfl ?_
      obtain ⟨g3, h⟩ := am_gd h
      refine op_idiv dX7_orderParts_106 g3 ?_
      refine op_i2l dX7_orderParts_107 ?_
      refine op_lmul dX7_orderParts_108 ?_
      cases h
      exact (op_lret dX7_orderParts_109 rfl ⟨rfl, rfl⟩)
    · replace h := am_ie c1 h
      refine op_iload (k := 5) dX7_orderParts_26 rfl ?_
      refine op_iload_n (k := 2) dX7_orderParts_28 rfl rfl ?_
      refine op_iconst (v := (-1)) dX7_orderParts_29 (by decide) ?_
      refine op_ixor dX7_orderParts_30 ?_
      refine op_iand dX7_orderParts_31 ?_
      refine op_if_ne (tgt := 87) dX7_orderParts_32 (by decide) (fun c4 => ?_) (fun c4 => ?_)
      · replace h := am_ie c4 h
        exact t_X7_orderParts_87 hd ih h
      · replace h := am_ip c4 h
        refine op_iload (k := 5) dX7_orderParts_35 rfl ?_
        obtain ⟨w5, ew5, h⟩ := am_bd h
        refine op_callS (M' := M_J6_bitCount_0f7a4) [.int x7] (S0 := []) dX7_orderParts_37 tw_868 ok_J6_bitCount_0f7a4 tw_797 rfl rfl (Nat.le_of_ble_eq_true rfl) (Nat.le_of_ble_eq_true rfl) (t_J6_bitCount_0f7a4 (by omega) ew5) (am_le_rf _) ?_
        rintro _ _ ⟨rfl, rfl⟩
        refine op_istore (L' := [(8, .int w5), (0, .ref 27), (1, .int x1), (3, .int x3), (4, .int x4), (5, .long y5), (7, .int x7)]) dX7_orderParts_40 (by decide) rfl ?_
        refine op_gets (j := 4) dX7_orderParts_42 rfl tw_882 ?_
        refine op_iload (k := 0) dX7_orderParts_45 rfl ?_
        obtain ⟨g6, h⟩ := am_gd h
        refine op_tald (j := 4) (v := am_FACTORIALS w5) dX7_orderParts_47 rfl g6 rfl ?_
        refine op_gets (j := 4) dX7_orderParts_48 rfl tw_882 ?_
        refine op_iload (k := 4) dX7_orderParts_51 rfl ?_
        refine op_iload (k := 0) dX7_orderParts_53 rfl ?_
        refine op_isub dX7_orderParts_55 ?_
        obtain ⟨g7, h⟩ := am_gd h
        refine op_tald (j := 4) (v := am_FACTORIALS (x4 - w5)) dX7_orderParts_56 rfl g7 rfl ?_
        refine op_imul dX7_orderParts_57 ?_
        refine op_i2l dX7_orderParts_58 ?_
        refine op_lstore (L' := [(9, .long (((am_FACTORIALS w5) * (am_FACTORIALS (x4 - w5))).toInt64)), (8, .int w5), (0, .ref 27), (1, .int x1), (3, .int x3), (4, .int x4), (5, .long y5), (7, .int x7)]) dX7_orderParts_59 (by decide) rfl ?_
        refine op_lload (k := 6) dX7_orderParts_61 rfl ?_
        refine op_lload (k := 0) dX7_orderParts_63 rfl ?_
        refine op_aload_n (k := 2) dX7_orderParts_65 rfl rfl ?_
        refine op_iload (k := 7) dX7_orderParts_66 rfl ?_
        refine op_iconst (v := 1) dX7_orderParts_68 (by decide) ?_
        refine op_iload_n (k := 3) dX7_orderParts_69 rfl rfl ?_
        refine op_ishl dX7_orderParts_70 ?_
        refine op_ior dX7_orderParts_71 ?_
        obtain ⟨w8, ew8, h⟩ := am_bd h
        refine op_callV (M' := M_X7_costOf) [.int (x7 ||| (1 <<< (x1 &&& 31)))] (S0 := [.long (((am_FACTORIALS w5) * (am_FACTORIALS (x4 - w5))).toInt64), .long y5]) dX7_orderParts_72 tw_855 ok_X7_costOf tw_856 tw_857 kd_27 cls_7 rfl rfl rfl (Nat.le_of_ble_eq_true rfl) (Nat.le_of_ble_eq_true rfl) (t_X7_costOf (by omega) ew8) (am_le_rf _) ?_
        rintro _ _ ⟨rfl, rfl⟩
        refine op_aload_n (k := 2) dX7_orderParts_75 rfl rfl ?_
        refine op_iload (k := 7) dX7_orderParts_76 rfl ?_
        obtain ⟨w9, ew9, h⟩ := am_bd h
        refine op_callV (M' := M_X7_costOf) [.int x7] (S0 := [.int w8.1, .long (((am_FACTORIALS w5) * (am_FACTORIALS (x4 - w5))).toInt64), .long y5]) dX7_orderParts_78 tw_855 ok_X7_costOf tw_856 tw_857 kd_27 cls_7 rfl rfl rfl (Nat.le_of_ble_eq_true rfl) (Nat.le_of_ble_eq_true rfl) (t_X7_costOf (by omega) ew9) (am_le_rf _) ?_
        rintro _ _ ⟨rfl, rfl⟩
        refine op_isub dX7_orderParts_81 ?_
        refine op_i2l dX7_orderParts_82 ?_
        refine op_lmul dX7_orderParts_83 ?_
        refine op_ladd dX7_orderParts_84 ?_
        obtain ⟨u10, eu10, h⟩ := am_bd h
        replace eu10 := Option.some.inj eu10
        refine op_nmL eu10 ?_
        refine op_lstore (L' := [(5, .long u10), (9, .long (((am_FACTORIALS w5) * (am_FACTORIALS (x4 - w5))).toInt64)), (8, .int w5), (0, .ref 27), (1, .int x1), (3, .int x3), (4, .int x4), (7, .int x7)]) dX7_orderParts_85 (by decide) rfl ?_
        refine AW.perm [3, 4, 5, 6, 0, 7] rfl ?_
        exact t_X7_orderParts_87 hd ih h
set_option maxRecDepth 100000 in
set_option maxHeartbeats 4000000 in
theorem t_X7_orderParts_0 {l : Launch} {ρ : am_R} {n d gc gs : Nat} {I : Nat → Nat → Int32} {J : Nat → Nat → Int64} {T : Nat} {x1 : Int32} {x2 : Int32} {q : Int64 × (Nat → Nat → Int32)} (hd : 0 * n + 4 ≤ (d + 1))
    (h : f_X7_orderParts n  I J T x1 x2 = some q) : AW l ρ (d + 1) M_X7_orderParts 0 [(0, .ref 27), (1, .int x1), (2, .int x2)] [] (am_KD, gc, gs) (I, J, am_RT T) (am_KD, gc, gs) (fun v H' => v = [.long q.1] ∧ H' = (q.2, J, am_RT T)) := by
  unfold f_X7_orderParts at h
  refine op_iload_n (k := 2) dX7_orderParts_0 rfl rfl ?_
  refine op_iconst (v := 1) dX7_orderParts_1 (by decide) ?_
  refine op_iload_n (k := 1) dX7_orderParts_2 rfl rfl ?_
  refine op_ishl dX7_orderParts_3 ?_
  refine op_iconst (v := (-1)) dX7_orderParts_4 (by decide) ?_
  refine op_ixor dX7_orderParts_5 ?_
  refine op_iand dX7_orderParts_6 ?_
  refine op_istore_n (L' := [(3, .int (x2 &&& ((1 <<< (x1 &&& 31)) ^^^ ((-1))))), (0, .ref 27), (1, .int x1), (2, .int x2)]) dX7_orderParts_7 rfl (by decide) rfl ?_
  refine op_iload_n (k := 0) dX7_orderParts_8 rfl rfl ?_
  obtain ⟨w1, ew1, h⟩ := am_bd h
  refine op_callS (M' := M_J6_bitCount_0f7a4) [.int (x2 &&& ((1 <<< (x1 &&& 31)) ^^^ ((-1))))] (S0 := []) dX7_orderParts_9 tw_868 ok_J6_bitCount_0f7a4 tw_797 rfl rfl (Nat.le_of_ble_eq_true rfl) (Nat.le_of_ble_eq_true rfl) (t_J6_bitCount_0f7a4 (by omega) ew1) (am_le_rf _) ?_
  rintro _ _ ⟨rfl, rfl⟩
  refine op_istore (L' := [(4, .int w1), (3, .int (x2 &&& ((1 <<< (x1 &&& 31)) ^^^ ((-1))))), (0, .ref 27), (1, .int x1), (2, .int x2)]) dX7_orderParts_12 (by decide) rfl ?_
  refine op_lconst (v := 0) dX7_orderParts_14 (by decide) ?_
  refine op_lstore (L' := [(5, .long 0), (4, .int w1), (3, .int (x2 &&& ((1 <<< (x1 &&& 31)) ^^^ ((-1))))), (0, .ref 27), (1, .int x1), (2, .int x2)]) dX7_orderParts_15 (by decide) rfl ?_
  refine op_iconst (v := 0) dX7_orderParts_17 (by decide) ?_
  refine op_istore (L' := [(7, .int 0), (5, .long 0), (4, .int w1), (3, .int (x2 &&& ((1 <<< (x1 &&& 31)) ^^^ ((-1))))), (0, .ref 27), (1, .int x1), (2, .int x2)]) dX7_orderParts_18 (by decide) rfl ?_
  refine AW.perm [4, 5, 3, 2, 1, 0] rfl ?_
  exact t_X7_orderParts_20 hd  n _ _ _ _ _ _ _ _ h
theorem t_X7_orderParts {l : Launch} {ρ : am_R} {n d gc gs : Nat} {I : Nat → Nat → Int32} {J : Nat → Nat → Int64} {T : Nat} {x1 : Int32} {x2 : Int32} {q : Int64 × (Nat → Nat → Int32)} (hd : 0 * n + 4 ≤ d) (h : f_X7_orderParts n I J T x1 x2 = some q) : AW l ρ d M_X7_orderParts 0 [(0, .ref 27), (1, .int x1), (2, .int x2)] [] (am_KD, gc, gs) (I, J, am_RT T) (am_KD, gc, gs) (fun v H' => v = [.long q.1] ∧ H' = (q.2, J, am_RT T)) := by
  obtain ⟨d, rfl⟩ : ∃ e, d = e + 1 := ⟨d - 1, by omega⟩
  exact t_X7_orderParts_0 hd h
def f_X2_nightCostFor (n : Nat) (I : Nat → Nat → Int32) (J : Nat → Nat → Int64) (T : Nat) (x1 : Int32) : Option (Int32) :=
  (f_X2_milesFor n I J T x1).bind fun w1 =>
  (f_X2_nightMiles n I J T w1).bind fun w2 =>
  some ((I 3 3) * w2)
set_option maxRecDepth 100000 in
set_option maxHeartbeats 4000000 in
theorem t_X2_nightCostFor_0 {l : Launch} {ρ : am_R} {n d gc gs : Nat} {I : Nat → Nat → Int32} {J : Nat → Nat → Int64} {T : Nat} {x1 : Int32} {q : Int32} (hd : 0 * n + 2 ≤ (d + 1))
    (h : f_X2_nightCostFor n  I J T x1 = some q) : AW l ρ (d + 1) M_X2_nightCostFor 0 [(0, .ref 3), (1, .int x1)] [] (am_KD, gc, gs) (I, J, am_RT T) (am_KD, gc, gs) (fun v H' => v = [.int q] ∧ H' = (I, J, am_RT T)) := by
  unfold f_X2_nightCostFor at h
  refine op_aload_n (k := 0) dX2_nightCostFor_0 rfl rfl ?_
  refine st_getI (v := I 3 3) dX2_nightCostFor_1 fl_X2_37 kd_3 (by decide) rfl rfl ?_
  refine op_aload_n (k := 0) dX2_nightCostFor_4 rfl rfl ?_
  refine op_aload_n (k := 0) dX2_nightCostFor_5 rfl rfl ?_
  refine op_iload_n (k := 1) dX2_nightCostFor_6 rfl rfl ?_
  obtain ⟨w1, ew1, h⟩ := am_bd h
  refine op_callV (M' := M_X2_milesFor) [.int x1] (S0 := [.ref 3, .int (I 3 3)]) dX2_nightCostFor_7 tw_777 ok_X2_milesFor tw_767 tw_768 kd_3 cls_2 rfl rfl rfl (Nat.le_of_ble_eq_true rfl) (Nat.le_of_ble_eq_true rfl) (t_X2_milesFor (by omega) ew1) (am_le_rf _) ?_
  rintro _ _ ⟨rfl, rfl⟩
  obtain ⟨w2, ew2, h⟩ := am_bd h
  refine op_callV (M' := M_X2_nightMiles) [.int w1] (S0 := [.int (I 3 3)]) dX2_nightCostFor_10 tw_778 ok_X2_nightMiles tw_780 tw_27 kd_3 cls_2 rfl rfl rfl (Nat.le_of_ble_eq_true rfl) (Nat.le_of_ble_eq_true rfl) (t_X2_nightMiles (by omega) ew2) (am_le_rf _) ?_
  rintro _ _ ⟨rfl, rfl⟩
  refine op_imul dX2_nightCostFor_13 ?_
  cases h
  exact (op_iret dX2_nightCostFor_14 rfl rfl ⟨rfl, rfl⟩)
theorem t_X2_nightCostFor {l : Launch} {ρ : am_R} {n d gc gs : Nat} {I : Nat → Nat → Int32} {J : Nat → Nat → Int64} {T : Nat} {x1 : Int32} {q : Int32} (hd : 0 * n + 2 ≤ d) (h : f_X2_nightCostFor n I J T x1 = some q) : AW l ρ d M_X2_nightCostFor 0 [(0, .ref 3), (1, .int x1)] [] (am_KD, gc, gs) (I, J, am_RT T) (am_KD, gc, gs) (fun v H' => v = [.int q] ∧ H' = (I, J, am_RT T)) := by
  obtain ⟨d, rfl⟩ : ∃ e, d = e + 1 := ⟨d - 1, by omega⟩
  exact t_X2_nightCostFor_0 hd h
def f_X2_comersOn_45 (n : Nat) (k5 : (Nat → Nat → Int32) → (Nat → Nat → Int64) → Nat → Int32 → Int32 → Int32 → Int32 → Option (Int32)) (I : Nat → Nat → Int32) (J : Nat → Nat → Int64) (T : Nat) (x1 : Int32) (x2 : Int32) (x3 : Int32) (x4 : Int32) : Option (Int32) :=
  k5 I J T x1 x2 x3 (x4 + 1)
def f_X2_comersOn_5 (n : Nat) : Nat → (Nat → Nat → Int32) → (Nat → Nat → Int64) → Nat → Int32 → Int32 → Int32 → Int32 → Option (Int32)
  | 0, _, _, _, _, _, _, _ => none
  | m + 1, I, J, T, x1, x2, x3, x4 =>
    if (I 3 1) ≤ x4 then
     some (x3)
    else
     (f_X11_isIn n I J T x4 x2).bind fun w2 =>
     if w2 = 0 then
      f_X2_comersOn_45 n (f_X2_comersOn_5 n m) I J T x1 x2 x3 x4
     else
      if ok_ix x4 6 then
       (f_X2_path n I J T (I 6 x4.toNatClampNeg)).bind fun w5 =>
       if ((w5 >>> (x1 &&& 31)) &&& 1) = 1 then
        f_X2_comersOn_45 n (f_X2_comersOn_5 n m) I J T x1 x2 (x3 + 1) x4
       else
        f_X2_comersOn_45 n (f_X2_comersOn_5 n m) I J T x1 x2 x3 x4
      else none
def f_X2_comersOn (n : Nat) (I : Nat → Nat → Int32) (J : Nat → Nat → Int64) (T : Nat) (x1 : Int32) (x2 : Int32) : Option (Int32) :=
  f_X2_comersOn_5 n  n I J T x1 x2 0 0
set_option maxRecDepth 100000 in
set_option maxHeartbeats 4000000 in
theorem t_X2_comersOn_45 {l : Launch} {ρ : am_R} {n d gc gs : Nat} {k5 : (Nat → Nat → Int32) → (Nat → Nat → Int64) → Nat → Int32 → Int32 → Int32 → Int32 → Option (Int32)} {I : Nat → Nat → Int32} {J : Nat → Nat → Int64} {T : Nat} {x1 : Int32} {x2 : Int32} {x3 : Int32} {x4 : Int32} {q : Int32} (hd : 0 * n + 1 ≤ (d + 1))
    (hk5 : ∀ (I : Nat → Nat → Int32) (J : Nat → Nat → Int64) (T : Nat) (x1 : Int32) (x2 : Int32) (x3 : Int32) (x4 : Int32), k5 I J T x1 x2 x3 x4 = some q → AW l ρ (d + 1) M_X2_comersOn 5 [(0, .ref 3), (1, .int x1), (2, .int x2), (3, .int x3), (4, .int x4)] [] (am_KD, gc, gs) (I, J, am_RT T) (am_KD, gc, gs) (fun v H' => v = [.int q] ∧ H' = (I, J, am_RT T)))
    (h : f_X2_comersOn_45 n k5 I J T x1 x2 x3 x4 = some q) : AW l ρ (d + 1) M_X2_comersOn 45 [(0, .ref 3), (1, .int x1), (2, .int x2), (3, .int x3), (4, .int x4)] [] (am_KD, gc, gs) (I, J, am_RT T) (am_KD, gc, gs) (fun v H' => v = [.int q] ∧ H' = (I, J, am_RT T)) := by
  unfold f_X2_comersOn_45 at h
  refine op_iinc (k := 4) (v := x4 + 1) (L' := [(4, .int (x4 + 1)), (0, .ref 3), (1, .int x1), (2, .int x2), (3, .int x3)]) dX2_comersOn_45 rfl rfl (by decide) rfl ?_
  refine op_goto (tgt := 5) dX2_comersOn_48 (by decide) ?_
  refine AW.perm [1, 2, 3, 4, 0] rfl ?_
  exact hk5 _ _ _ _ _ _ _ h
set_option maxRecDepth 100000 in
set_option maxHeartbeats 4000000 in
theorem t_X2_comersOn_5 {l : Launch} {ρ : am_R} {n d gc gs : Nat} {q : Int32} (hd : 0 * n + 1 ≤ (d + 1))
    : ∀ (m : Nat) (I : Nat → Nat → Int32) (J : Nat → Nat → Int64) (T : Nat) (x1 : Int32) (x2 : Int32) (x3 : Int32) (x4 : Int32), f_X2_comersOn_5 n  m I J T x1 x2 x3 x4 = some q → AW l ρ (d + 1) M_X2_comersOn 5 [(0, .ref 3), (1, .int x1), (2, .int x2), (3, .int x3), (4, .int x4)] [] (am_KD, gc, gs) (I, J, am_RT T) (am_KD, gc, gs) (fun v H' => v = [.int q] ∧ H' = (I, J, am_RT T)) := by
  intro m
  induction m with
  | zero =>
    intro I J T x1 x2 x3 x4 h
    rw [f_X2_comersOn_5] at h
    cases h
  | succ m ih =>
    intro I J T x1 x2 x3 x4 h
    rw [f_X2_comersOn_5] at h
    refine op_iload (k := 4) dX2_comersOn_5 rfl ?_
    refine op_aload_n (k := 0) dX2_comersOn_7 rfl rfl ?_
    refine st_getI (v := I 3 1) dX2_comersOn_8 fl_X2_31 kd_3 (by decide) rfl rfl ?_
    refine op_icmp_ge (tgt := 51) dX2_comersOn_11 (by decide) (fun c1 => ?_) (fun c1 => ?_)
    · replace h := am_ip c1 h
      refine op_iload_n (k := 3) dX2_comersOn_51 rfl rfl ?_
      cases h
      exact (op_iret dX2_comersOn_52 rfl rfl ⟨rfl, rfl⟩)
    · replace h := am_ie c1 h
      refine op_iload (k := 4) dX2_comersOn_14 rfl ?_
      refine op_iload_n (k := 2) dX2_comersOn_16 rfl rfl ?_
      obtain ⟨w2, ew2, h⟩ := am_bd h
      refine op_callSN (M' := M_X11_isIn) [.int x4, .int x2] (S0 := []) dX2_comersOn_17 tn_770 ok_X11_isIn tw_771 rfl rfl (Nat.le_of_ble_eq_true rfl) (Nat.le_of_ble_eq_true rfl) (t_X11_isIn (by omega) ew2) (am_le_rf _) ?_
      rintro _ _ ⟨rfl, rfl⟩
      refine op_if_eq (tgt := 45) dX2_comersOn_20 (by decide) (fun c3 => ?_) (fun c3 => ?_)
      · replace h := am_ip c3 h
        exact t_X2_comersOn_45 hd ih h
      · replace h := am_ie c3 h
        refine op_aload_n (k := 0) dX2_comersOn_23 rfl rfl ?_
        refine op_aload_n (k := 0) dX2_comersOn_24 rfl rfl ?_
        refine st_getR (z := 6) dX2_comersOn_25 fl_X2_18 kd_3 (by decide) rfl rr_3_7 ?_
        refine op_iload (k := 4) dX2_comersOn_28 rfl ?_
        obtain ⟨g4, h⟩ := am_gd h
        refine st_iald (k := x4.toNatClampNeg) (v := I 6 x4.toNatClampNeg) dX2_comersOn_30 kd_6 g4 rfl rfl ?_
        obtain ⟨w5, ew5, h⟩ := am_bd h
        refine op_callV (M' := M_X2_path) [.int (I 6 x4.toNatClampNeg)] (S0 := []) dX2_comersOn_31 tw_730 ok_X2_path tw_731 tw_732 kd_3 cls_2 rfl rfl rfl (Nat.le_of_ble_eq_true rfl) (Nat.le_of_ble_eq_true rfl) (t_X2_path (by omega) ew5) (am_le_rf _) ?_
        rintro _ _ ⟨rfl, rfl⟩
        refine op_iload_n (k := 1) dX2_comersOn_34 rfl rfl ?_
        refine op_ishr dX2_comersOn_35 ?_
        refine op_iconst (v := 1) dX2_comersOn_36 (by decide) ?_
        refine op_iand dX2_comersOn_37 ?_
        refine op_iconst (v := 1) dX2_comersOn_38 (by decide) ?_
        refine op_icmp_ne (tgt := 45) dX2_comersOn_39 (by decide) (fun c6 => ?_) (fun c6 => ?_)
        · replace h := am_ie c6 h
          exact t_X2_comersOn_45 hd ih h
        · replace h := am_ip c6 h
          refine op_iinc (k := 3) (v := x3 + 1) (L' := [(3, .int (x3 + 1)), (0, .ref 3), (1, .int x1), (2, .int x2), (4, .int x4)]) dX2_comersOn_42 rfl rfl (by decide) rfl ?_
          refine AW.perm [1, 2, 3, 0, 4] rfl ?_
          exact t_X2_comersOn_45 hd ih h
set_option maxRecDepth 100000 in
set_option maxHeartbeats 4000000 in
theorem t_X2_comersOn_0 {l : Launch} {ρ : am_R} {n d gc gs : Nat} {I : Nat → Nat → Int32} {J : Nat → Nat → Int64} {T : Nat} {x1 : Int32} {x2 : Int32} {q : Int32} (hd : 0 * n + 1 ≤ (d + 1))
    (h : f_X2_comersOn n  I J T x1 x2 = some q) : AW l ρ (d + 1) M_X2_comersOn 0 [(0, .ref 3), (1, .int x1), (2, .int x2)] [] (am_KD, gc, gs) (I, J, am_RT T) (am_KD, gc, gs) (fun v H' => v = [.int q] ∧ H' = (I, J, am_RT T)) := by
  unfold f_X2_comersOn at h
  refine op_iconst (v := 0) dX2_comersOn_0 (by decide) ?_
  refine op_istore_n (L' := [(3, .int 0), (0, .ref 3), (1, .int x1), (2, .int x2)]) dX2_comersOn_1 rfl (by decide) rfl ?_
  refine op_iconst (v := 0) dX2_comersOn_2 (by decide) ?_
  refine op_istore (L' := [(4, .int 0), (3, .int 0), (0, .ref 3), (1, .int x1), (2, .int x2)]) dX2_comersOn_3 (by decide) rfl ?_
  refine AW.perm [2, 3, 4, 1, 0] rfl ?_
  exact t_X2_comersOn_5 hd  n _ _ _ _ _ _ _ h
theorem t_X2_comersOn {l : Launch} {ρ : am_R} {n d gc gs : Nat} {I : Nat → Nat → Int32} {J : Nat → Nat → Int64} {T : Nat} {x1 : Int32} {x2 : Int32} {q : Int32} (hd : 0 * n + 1 ≤ d) (h : f_X2_comersOn n I J T x1 x2 = some q) : AW l ρ d M_X2_comersOn 0 [(0, .ref 3), (1, .int x1), (2, .int x2)] [] (am_KD, gc, gs) (I, J, am_RT T) (am_KD, gc, gs) (fun v H' => v = [.int q] ∧ H' = (I, J, am_RT T)) := by
  obtain ⟨d, rfl⟩ : ∃ e, d = e + 1 := ⟨d - 1, by omega⟩
  exact t_X2_comersOn_0 hd h
