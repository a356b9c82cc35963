/-! ===== the constructors' run ===== -/
def am_I0 : Nat → Nat → Int32 := fun _ _ => 0
def am_J0 : Nat → Nat → Int64 := fun _ _ => 0
def am_I1 : Nat → Nat → Int32 := am_u am_I0 0 15 3
def am_I2 : Nat → Nat → Int32 := am_u am_I1 53 31 3
theorem fl9_0 : ∀ k, k < 4 → am_ty 0 k ≠ .float ∧ am_ty 0 k ≠ .double := by decide +kernel
theorem fl9_1 : ∀ k, k < 7 → am_ty 1 k ≠ .float ∧ am_ty 1 k ≠ .double := by decide +kernel
theorem fl9_2 : ∀ k, k < 10 → am_ty 2 k ≠ .float ∧ am_ty 2 k ≠ .double := by decide +kernel
theorem fl9_3 : ∀ k, k < 4 → am_ty 3 k ≠ .float ∧ am_ty 3 k ≠ .double := by decide +kernel
theorem fl9_4 : ∀ k, k < 3 → am_ty 4 k ≠ .float ∧ am_ty 4 k ≠ .double := by decide +kernel
theorem fl9_5 : ∀ k, k < 5 → am_ty 5 k ≠ .float ∧ am_ty 5 k ≠ .double := by decide +kernel
theorem fl9_6 : ∀ k, k < 12 → am_ty 6 k ≠ .float ∧ am_ty 6 k ≠ .double := by decide +kernel
theorem fl9_7 : ∀ k, k < 5 → am_ty 7 k ≠ .float ∧ am_ty 7 k ≠ .double := by decide +kernel
theorem fl9_8 : ∀ k, k < 6 → am_ty 8 k ≠ .float ∧ am_ty 8 k ≠ .double := by decide +kernel
theorem fl9_9 : ∀ k, k < 4 → am_ty 9 k ≠ .float ∧ am_ty 9 k ≠ .double := by decide +kernel
theorem fl9_10 : ∀ k, k < 4 → am_ty 10 k ≠ .float ∧ am_ty 10 k ≠ .double := by decide +kernel
theorem fl9_11 : ∀ k, k < 16 → am_ty 11 k ≠ .float ∧ am_ty 11 k ≠ .double := by decide +kernel
theorem fl9_12 : ∀ k, k < 60 → am_ty 12 k ≠ .float ∧ am_ty 12 k ≠ .double := by decide +kernel
theorem mna_cl : Cond.classLink RX5 11 ("[" ++ (FieldType.array .int).toString) ∈ am_T := by
  rw [show "[" ++ (FieldType.array .int).toString = "[[I" by decide +kernel]
  exact tw_279
set_option maxHeartbeats 4000000 in
theorem kc_1 {l : Launch} {ρ : am_R} {d : Nat} : AW l ρ (d + 1) M_X10_init 0 [(0, .ref 1)] [] (am_g 2) (am_I0, am_J0, am_lr []) (am_g 3) (fun v H' => v = [] ∧ H' = (am_I0, am_J0, am_lr [((1, 0), 2)])) := by
  refine op_aload_n (k := 0) dX10_init_0 rfl rfl ?_
  refine op_objInit dX10_init_1 tw_140 tw_133 twl_134 (Nat.le_of_ble_eq_true rfl) ?_
  refine op_aload_n (k := 0) dX10_init_4 rfl rfl ?_
  refine op_sipush (v := 160) dX10_init_5 (by decide +kernel) ?_
  refine k_newb (n := 2) (N := 160) (idx := 0) dX10_init_8 tw_160 (by decide +kernel) (by decide +kernel) kd_2 (by decide +kernel) (fun _ => rfl) (fun _ => rfl) (by decide +kernel) ⟨(by decide +kernel), (by decide +kernel)⟩ ?_
  refine k_putR dX10_init_10 fl_X10_11 (fun _ => ⟨rfl, _, rfl, rfl⟩) kd_1 (by decide +kernel) (by decide +kernel) (Or.inr ⟨_, rfl⟩) ?_
  exact op_vret dX10_init_13 rfl ⟨rfl, rfl⟩
set_option maxHeartbeats 4000000 in
theorem kc_3 {l : Launch} {ρ : am_R} {d : Nat} : AW l ρ (d + 1) M_X2_init 0 [(0, .ref 3)] [] (am_g 4) (am_I0, am_J0, am_lr [((0, 0), 1), ((1, 0), 2)]) (am_g 9) (fun v H' => v = [] ∧ H' = (am_I0, am_J0, am_lr [((3, 9), 8), ((3, 8), 7), ((3, 7), 6), ((3, 6), 5), ((3, 5), 4), ((0, 0), 1), ((1, 0), 2)])) := by
  refine op_aload_n (k := 0) dX2_init_0 rfl rfl ?_
  refine op_objInit dX2_init_1 tw_166 tw_133 twl_134 (Nat.le_of_ble_eq_true rfl) ?_
  refine op_aload_n (k := 0) dX2_init_4 rfl rfl ?_
  refine op_bipush (v := 10) dX2_init_5 (by decide +kernel) ?_
  refine k_newi (n := 4) (N := 10) (idx := 0) dX2_init_7 tw_235 (by decide +kernel) (by decide +kernel) kd_4 (by decide +kernel) (fun _ => rfl) (fun _ => rfl) (by decide +kernel) ⟨(by decide +kernel), (by decide +kernel)⟩ ?_
  refine k_putR dX2_init_9 fl_X2_9 (fun _ => ⟨rfl, _, rfl, rfl⟩) kd_3 (by decide +kernel) (by decide +kernel) (Or.inr ⟨_, rfl⟩) ?_
  refine op_aload_n (k := 0) dX2_init_12 rfl rfl ?_
  refine op_bipush (v := 10) dX2_init_13 (by decide +kernel) ?_
  refine k_newi (n := 5) (N := 10) (idx := 0) dX2_init_15 tw_235 (by decide +kernel) (by decide +kernel) kd_5 (by decide +kernel) (fun _ => rfl) (fun _ => rfl) (by decide +kernel) ⟨(by decide +kernel), (by decide +kernel)⟩ ?_
  refine k_putR dX2_init_17 fl_X2_15 (fun _ => ⟨rfl, _, rfl, rfl⟩) kd_3 (by decide +kernel) (by decide +kernel) (Or.inr ⟨_, rfl⟩) ?_
  refine op_aload_n (k := 0) dX2_init_20 rfl rfl ?_
  refine op_bipush (v := 6) dX2_init_21 (by decide +kernel) ?_
  refine k_newi (n := 6) (N := 6) (idx := 0) dX2_init_23 tw_235 (by decide +kernel) (by decide +kernel) kd_6 (by decide +kernel) (fun _ => rfl) (fun _ => rfl) (by decide +kernel) ⟨(by decide +kernel), (by decide +kernel)⟩ ?_
  refine k_putR dX2_init_25 fl_X2_18 (fun _ => ⟨rfl, _, rfl, rfl⟩) kd_3 (by decide +kernel) (by decide +kernel) (Or.inr ⟨_, rfl⟩) ?_
  refine op_aload_n (k := 0) dX2_init_28 rfl rfl ?_
  refine op_bipush (v := 6) dX2_init_29 (by decide +kernel) ?_
  refine k_newi (n := 7) (N := 6) (idx := 0) dX2_init_31 tw_235 (by decide +kernel) (by decide +kernel) kd_7 (by decide +kernel) (fun _ => rfl) (fun _ => rfl) (by decide +kernel) ⟨(by decide +kernel), (by decide +kernel)⟩ ?_
  refine k_putR dX2_init_33 fl_X2_21 (fun _ => ⟨rfl, _, rfl, rfl⟩) kd_3 (by decide +kernel) (by decide +kernel) (Or.inr ⟨_, rfl⟩) ?_
  refine op_aload_n (k := 0) dX2_init_36 rfl rfl ?_
  refine op_bipush (v := 6) dX2_init_37 (by decide +kernel) ?_
  refine k_newi (n := 8) (N := 6) (idx := 0) dX2_init_39 tw_235 (by decide +kernel) (by decide +kernel) kd_8 (by decide +kernel) (fun _ => rfl) (fun _ => rfl) (by decide +kernel) ⟨(by decide +kernel), (by decide +kernel)⟩ ?_
  refine k_putR dX2_init_41 fl_X2_24 (fun _ => ⟨rfl, _, rfl, rfl⟩) kd_3 (by decide +kernel) (by decide +kernel) (Or.inr ⟨_, rfl⟩) ?_
  exact op_vret dX2_init_44 rfl ⟨rfl, rfl⟩
set_option maxHeartbeats 4000000 in
theorem kc_9 {l : Launch} {ρ : am_R} {d : Nat} : AW l ρ (d + 1) M_X2_init 0 [(0, .ref 9)] [] (am_g 10) (am_I0, am_J0, am_lr [((0, 1), 3), ((3, 9), 8), ((3, 8), 7), ((3, 7), 6), ((3, 6), 5), ((3, 5), 4), ((0, 0), 1), ((1, 0), 2)]) (am_g 15) (fun v H' => v = [] ∧ H' = (am_I0, am_J0, am_lr [((9, 9), 14), ((9, 8), 13), ((9, 7), 12), ((9, 6), 11), ((9, 5), 10), ((0, 1), 3), ((3, 9), 8), ((3, 8), 7), ((3, 7), 6), ((3, 6), 5), ((3, 5), 4), ((0, 0), 1), ((1, 0), 2)])) := by
  refine op_aload_n (k := 0) dX2_init_0 rfl rfl ?_
  refine op_objInit dX2_init_1 tw_166 tw_133 twl_134 (Nat.le_of_ble_eq_true rfl) ?_
  refine op_aload_n (k := 0) dX2_init_4 rfl rfl ?_
  refine op_bipush (v := 10) dX2_init_5 (by decide +kernel) ?_
  refine k_newi (n := 10) (N := 10) (idx := 0) dX2_init_7 tw_235 (by decide +kernel) (by decide +kernel) kd_10 (by decide +kernel) (fun _ => rfl) (fun _ => rfl) (by decide +kernel) ⟨(by decide +kernel), (by decide +kernel)⟩ ?_
  refine k_putR dX2_init_9 fl_X2_9 (fun _ => ⟨rfl, _, rfl, rfl⟩) kd_9 (by decide +kernel) (by decide +kernel) (Or.inr ⟨_, rfl⟩) ?_
  refine op_aload_n (k := 0) dX2_init_12 rfl rfl ?_
  refine op_bipush (v := 10) dX2_init_13 (by decide +kernel) ?_
  refine k_newi (n := 11) (N := 10) (idx := 0) dX2_init_15 tw_235 (by decide +kernel) (by decide +kernel) kd_11 (by decide +kernel) (fun _ => rfl) (fun _ => rfl) (by decide +kernel) ⟨(by decide +kernel), (by decide +kernel)⟩ ?_
  refine k_putR dX2_init_17 fl_X2_15 (fun _ => ⟨rfl, _, rfl, rfl⟩) kd_9 (by decide +kernel) (by decide +kernel) (Or.inr ⟨_, rfl⟩) ?_
  refine op_aload_n (k := 0) dX2_init_20 rfl rfl ?_
  refine op_bipush (v := 6) dX2_init_21 (by decide +kernel) ?_
  refine k_newi (n := 12) (N := 6) (idx := 0) dX2_init_23 tw_235 (by decide +kernel) (by decide +kernel) kd_12 (by decide +kernel) (fun _ => rfl) (fun _ => rfl) (by decide +kernel) ⟨(by decide +kernel), (by decide +kernel)⟩ ?_
  refine k_putR dX2_init_25 fl_X2_18 (fun _ => ⟨rfl, _, rfl, rfl⟩) kd_9 (by decide +kernel) (by decide +kernel) (Or.inr ⟨_, rfl⟩) ?_
  refine op_aload_n (k := 0) dX2_init_28 rfl rfl ?_
  refine op_bipush (v := 6) dX2_init_29 (by decide +kernel) ?_
  refine k_newi (n := 13) (N := 6) (idx := 0) dX2_init_31 tw_235 (by decide +kernel) (by decide +kernel) kd_13 (by decide +kernel) (fun _ => rfl) (fun _ => rfl) (by decide +kernel) ⟨(by decide +kernel), (by decide +kernel)⟩ ?_
  refine k_putR dX2_init_33 fl_X2_21 (fun _ => ⟨rfl, _, rfl, rfl⟩) kd_9 (by decide +kernel) (by decide +kernel) (Or.inr ⟨_, rfl⟩) ?_
  refine op_aload_n (k := 0) dX2_init_36 rfl rfl ?_
  refine op_bipush (v := 6) dX2_init_37 (by decide +kernel) ?_
  refine k_newi (n := 14) (N := 6) (idx := 0) dX2_init_39 tw_235 (by decide +kernel) (by decide +kernel) kd_14 (by decide +kernel) (fun _ => rfl) (fun _ => rfl) (by decide +kernel) ⟨(by decide +kernel), (by decide +kernel)⟩ ?_
  refine k_putR dX2_init_41 fl_X2_24 (fun _ => ⟨rfl, _, rfl, rfl⟩) kd_9 (by decide +kernel) (by decide +kernel) (Or.inr ⟨_, rfl⟩) ?_
  exact op_vret dX2_init_44 rfl ⟨rfl, rfl⟩
set_option maxHeartbeats 4000000 in
theorem kc_15 {l : Launch} {ρ : am_R} {d : Nat} : AW l ρ (d + 1) M_X3_init 0 [(0, .ref 15), (1, .ref 1), (2, .ref 9)] [] (am_g 16) (am_I0, am_J0, am_lr [((0, 2), 9), ((9, 9), 14), ((9, 8), 13), ((9, 7), 12), ((9, 6), 11), ((9, 5), 10), ((0, 1), 3), ((3, 9), 8), ((3, 8), 7), ((3, 7), 6), ((3, 6), 5), ((3, 5), 4), ((0, 0), 1), ((1, 0), 2)]) (am_g 17) (fun v H' => v = [] ∧ H' = (am_I0, am_J0, am_lr [((15, 1), 9), ((15, 0), 1), ((15, 2), 16), ((0, 2), 9), ((9, 9), 14), ((9, 8), 13), ((9, 7), 12), ((9, 6), 11), ((9, 5), 10), ((0, 1), 3), ((3, 9), 8), ((3, 8), 7), ((3, 7), 6), ((3, 6), 5), ((3, 5), 4), ((0, 0), 1), ((1, 0), 2)])) := by
  refine op_aload_n (k := 0) dX3_init_0 rfl rfl ?_
  refine op_objInit dX3_init_1 tw_241 tw_133 twl_134 (Nat.le_of_ble_eq_true rfl) ?_
  refine op_aload_n (k := 0) dX3_init_4 rfl rfl ?_
  refine op_iconst (v := 3) dX3_init_5 (by decide +kernel) ?_
  refine k_newi (n := 16) (N := 3) (idx := 0) dX3_init_6 tw_235 (by decide +kernel) (by decide +kernel) kd_16 (by decide +kernel) (fun _ => rfl) (fun _ => rfl) (by decide +kernel) ⟨(by decide +kernel), (by decide +kernel)⟩ ?_
  refine k_putR dX3_init_8 fl_X3_11 (fun _ => ⟨rfl, _, rfl, rfl⟩) kd_15 (by decide +kernel) (by decide +kernel) (Or.inr ⟨_, rfl⟩) ?_
  refine op_aload_n (k := 0) dX3_init_11 rfl rfl ?_
  refine op_aload_n (k := 1) dX3_init_12 rfl rfl ?_
  refine k_putR dX3_init_13 fl_X3_15 (fun _ => ⟨rfl, _, rfl, rfl⟩) kd_15 (by decide +kernel) (by decide +kernel) (Or.inl ⟨_, rfl⟩) ?_
  refine op_aload_n (k := 0) dX3_init_16 rfl rfl ?_
  refine op_aload_n (k := 2) dX3_init_17 rfl rfl ?_
  refine k_putR dX3_init_18 fl_X3_19 (fun _ => ⟨rfl, _, rfl, rfl⟩) kd_15 (by decide +kernel) (by decide +kernel) (Or.inl ⟨_, rfl⟩) ?_
  exact op_vret dX3_init_21 rfl ⟨rfl, rfl⟩
set_option maxHeartbeats 4000000 in
theorem kc_17 {l : Launch} {ρ : am_R} {d : Nat} : AW l ρ (d + 1) M_X4_init 0 [(0, .ref 17), (1, .ref 1)] [] (am_g 18) (am_I0, am_J0, am_lr [((0, 3), 15), ((15, 1), 9), ((15, 0), 1), ((15, 2), 16), ((0, 2), 9), ((9, 9), 14), ((9, 8), 13), ((9, 7), 12), ((9, 6), 11), ((9, 5), 10), ((0, 1), 3), ((3, 9), 8), ((3, 8), 7), ((3, 7), 6), ((3, 6), 5), ((3, 5), 4), ((0, 0), 1), ((1, 0), 2)]) (am_g 19) (fun v H' => v = [] ∧ H' = (am_I0, am_J0, am_lr [((17, 0), 1), ((17, 1), 18), ((0, 3), 15), ((15, 1), 9), ((15, 0), 1), ((15, 2), 16), ((0, 2), 9), ((9, 9), 14), ((9, 8), 13), ((9, 7), 12), ((9, 6), 11), ((9, 5), 10), ((0, 1), 3), ((3, 9), 8), ((3, 8), 7), ((3, 7), 6), ((3, 6), 5), ((3, 5), 4), ((0, 0), 1), ((1, 0), 2)])) := by
  refine op_aload_n (k := 0) dX4_init_0 rfl rfl ?_
  refine op_objInit dX4_init_1 tw_260 tw_133 twl_134 (Nat.le_of_ble_eq_true rfl) ?_
  refine op_aload_n (k := 0) dX4_init_4 rfl rfl ?_
  refine op_sipush (v := 160) dX4_init_5 (by decide +kernel) ?_
  refine k_newi (n := 18) (N := 160) (idx := 0) dX4_init_8 tw_235 (by decide +kernel) (by decide +kernel) kd_18 (by decide +kernel) (fun _ => rfl) (fun _ => rfl) (by decide +kernel) ⟨(by decide +kernel), (by decide +kernel)⟩ ?_
  refine k_putR dX4_init_10 fl_X4_9 (fun _ => ⟨rfl, _, rfl, rfl⟩) kd_17 (by decide +kernel) (by decide +kernel) (Or.inr ⟨_, rfl⟩) ?_
  refine op_aload_n (k := 0) dX4_init_13 rfl rfl ?_
  refine op_aload_n (k := 1) dX4_init_14 rfl rfl ?_
  refine k_putR dX4_init_15 fl_X4_15 (fun _ => ⟨rfl, _, rfl, rfl⟩) kd_17 (by decide +kernel) (by decide +kernel) (Or.inl ⟨_, rfl⟩) ?_
  exact op_vret dX4_init_18 rfl ⟨rfl, rfl⟩
set_option maxHeartbeats 4000000 in
theorem kc_19 {l : Launch} {ρ : am_R} {d : Nat} : AW l ρ (d + 1) M_X5_init 0 [(0, .ref 19)] [] (am_g 20) (am_I0, am_J0, am_lr [((0, 4), 17), ((17, 0), 1), ((17, 1), 18), ((0, 3), 15), ((15, 1), 9), ((15, 0), 1), ((15, 2), 16), ((0, 2), 9), ((9, 9), 14), ((9, 8), 13), ((9, 7), 12), ((9, 6), 11), ((9, 5), 10), ((0, 1), 3), ((3, 9), 8), ((3, 8), 7), ((3, 7), 6), ((3, 6), 5), ((3, 5), 4), ((0, 0), 1), ((1, 0), 2)]) (am_g 27) (fun v H' => v = [] ∧ H' = (am_I0, am_J0, am_lr [((19, 2), 26), ((19, 1), 25), ((19, 0), 20), ((20, 3), 24), ((20, 2), 23), ((20, 1), 22), ((20, 0), 21), ((0, 4), 17), ((17, 0), 1), ((17, 1), 18), ((0, 3), 15), ((15, 1), 9), ((15, 0), 1), ((15, 2), 16), ((0, 2), 9), ((9, 9), 14), ((9, 8), 13), ((9, 7), 12), ((9, 6), 11), ((9, 5), 10), ((0, 1), 3), ((3, 9), 8), ((3, 8), 7), ((3, 7), 6), ((3, 6), 5), ((3, 5), 4), ((0, 0), 1), ((1, 0), 2)])) := by
  refine op_aload_n (k := 0) dX5_init_0 rfl rfl ?_
  refine op_objInit dX5_init_1 tw_278 tw_133 twl_134 (Nat.le_of_ble_eq_true rfl) ?_
  refine op_aload_n (k := 0) dX5_init_4 rfl rfl ?_
  refine op_iconst (v := 4) dX5_init_5 (by decide +kernel) ?_
  refine op_sipush (v := 160) dX5_init_6 (by decide +kernel) ?_
  refine k_mna dX5_init_9 mna_cl tw_235 (by decide +kernel) (by decide +kernel) (by decide +kernel) (by decide +kernel) (fun _ _ _ => rfl) (by decide +kernel) ⟨(by decide +kernel), (by decide +kernel)⟩ ?_
  refine k_putR dX5_init_13 fl_X5_13 (fun _ => ⟨rfl, _, rfl, rfl⟩) kd_19 (by decide +kernel) (by decide +kernel) (Or.inr ⟨_, rfl⟩) ?_
  refine op_aload_n (k := 0) dX5_init_16 rfl rfl ?_
  refine op_iconst (v := 4) dX5_init_17 (by decide +kernel) ?_
  refine k_newi (n := 25) (N := 4) (idx := 0) dX5_init_18 tw_235 (by decide +kernel) (by decide +kernel) kd_25 (by decide +kernel) (fun _ => rfl) (fun _ => rfl) (by decide +kernel) ⟨(by decide +kernel), (by decide +kernel)⟩ ?_
  refine k_putR dX5_init_20 fl_X5_16 (fun _ => ⟨rfl, _, rfl, rfl⟩) kd_19 (by decide +kernel) (by decide +kernel) (Or.inr ⟨_, rfl⟩) ?_
  refine op_aload_n (k := 0) dX5_init_23 rfl rfl ?_
  refine op_sipush (v := 160) dX5_init_24 (by decide +kernel) ?_
  refine k_newi (n := 26) (N := 160) (idx := 0) dX5_init_27 tw_235 (by decide +kernel) (by decide +kernel) kd_26 (by decide +kernel) (fun _ => rfl) (fun _ => rfl) (by decide +kernel) ⟨(by decide +kernel), (by decide +kernel)⟩ ?_
  refine k_putR dX5_init_29 fl_X5_20 (fun _ => ⟨rfl, _, rfl, rfl⟩) kd_19 (by decide +kernel) (by decide +kernel) (Or.inr ⟨_, rfl⟩) ?_
  exact op_vret dX5_init_32 rfl ⟨rfl, rfl⟩
set_option maxHeartbeats 4000000 in
theorem kc_27 {l : Launch} {ρ : am_R} {d : Nat} : AW l ρ (d + 1) M_X7_init 0 [(0, .ref 27), (1, .ref 3), (2, .ref 19)] [] (am_g 28) (am_I0, am_J0, am_lr [((0, 5), 19), ((19, 2), 26), ((19, 1), 25), ((19, 0), 20), ((20, 3), 24), ((20, 2), 23), ((20, 1), 22), ((20, 0), 21), ((0, 4), 17), ((17, 0), 1), ((17, 1), 18), ((0, 3), 15), ((15, 1), 9), ((15, 0), 1), ((15, 2), 16), ((0, 2), 9), ((9, 9), 14), ((9, 8), 13), ((9, 7), 12), ((9, 6), 11), ((9, 5), 10), ((0, 1), 3), ((3, 9), 8), ((3, 8), 7), ((3, 7), 6), ((3, 6), 5), ((3, 5), 4), ((0, 0), 1), ((1, 0), 2)]) (am_g 30) (fun v H' => v = [] ∧ H' = (am_I0, am_J0, am_lr [((27, 1), 19), ((27, 0), 3), ((27, 4), 29), ((27, 3), 28), ((0, 5), 19), ((19, 2), 26), ((19, 1), 25), ((19, 0), 20), ((20, 3), 24), ((20, 2), 23), ((20, 1), 22), ((20, 0), 21), ((0, 4), 17), ((17, 0), 1), ((17, 1), 18), ((0, 3), 15), ((15, 1), 9), ((15, 0), 1), ((15, 2), 16), ((0, 2), 9), ((9, 9), 14), ((9, 8), 13), ((9, 7), 12), ((9, 6), 11), ((9, 5), 10), ((0, 1), 3), ((3, 9), 8), ((3, 8), 7), ((3, 7), 6), ((3, 6), 5), ((3, 5), 4), ((0, 0), 1), ((1, 0), 2)])) := by
  refine op_aload_n (k := 0) dX7_init_0 rfl rfl ?_
  refine op_objInit dX7_init_1 tw_303 tw_133 twl_134 (Nat.le_of_ble_eq_true rfl) ?_
  refine op_aload_n (k := 0) dX7_init_4 rfl rfl ?_
  refine op_bipush (v := 64) dX7_init_5 (by decide +kernel) ?_
  refine k_newi (n := 28) (N := 64) (idx := 0) dX7_init_7 tw_235 (by decide +kernel) (by decide +kernel) kd_28 (by decide +kernel) (fun _ => rfl) (fun _ => rfl) (by decide +kernel) ⟨(by decide +kernel), (by decide +kernel)⟩ ?_
  refine k_putR dX7_init_9 fl_X7_9 (fun _ => ⟨rfl, _, rfl, rfl⟩) kd_27 (by decide +kernel) (by decide +kernel) (Or.inr ⟨_, rfl⟩) ?_
  refine op_aload_n (k := 0) dX7_init_12 rfl rfl ?_
  refine op_bipush (v := 42) dX7_init_13 (by decide +kernel) ?_
  refine k_newi (n := 29) (N := 42) (idx := 0) dX7_init_15 tw_235 (by decide +kernel) (by decide +kernel) kd_29 (by decide +kernel) (fun _ => rfl) (fun _ => rfl) (by decide +kernel) ⟨(by decide +kernel), (by decide +kernel)⟩ ?_
  refine k_putR dX7_init_17 fl_X7_15 (fun _ => ⟨rfl, _, rfl, rfl⟩) kd_27 (by decide +kernel) (by decide +kernel) (Or.inr ⟨_, rfl⟩) ?_
  refine op_aload_n (k := 0) dX7_init_20 rfl rfl ?_
  refine op_aload_n (k := 1) dX7_init_21 rfl rfl ?_
  refine k_putR dX7_init_22 fl_X7_18 (fun _ => ⟨rfl, _, rfl, rfl⟩) kd_27 (by decide +kernel) (by decide +kernel) (Or.inl ⟨_, rfl⟩) ?_
  refine op_aload_n (k := 0) dX7_init_25 rfl rfl ?_
  refine op_aload_n (k := 2) dX7_init_26 rfl rfl ?_
  refine k_putR dX7_init_27 fl_X7_22 (fun _ => ⟨rfl, _, rfl, rfl⟩) kd_27 (by decide +kernel) (by decide +kernel) (Or.inl ⟨_, rfl⟩) ?_
  exact op_vret dX7_init_30 rfl ⟨rfl, rfl⟩
set_option maxHeartbeats 4000000 in
theorem kc_30 {l : Launch} {ρ : am_R} {d : Nat} : AW l ρ (d + 1) M_X9_init 0 [(0, .ref 30), (1, .ref 3)] [] (am_g 31) (am_I0, am_J0, am_lr [((0, 6), 27), ((27, 1), 19), ((27, 0), 3), ((27, 4), 29), ((27, 3), 28), ((0, 5), 19), ((19, 2), 26), ((19, 1), 25), ((19, 0), 20), ((20, 3), 24), ((20, 2), 23), ((20, 1), 22), ((20, 0), 21), ((0, 4), 17), ((17, 0), 1), ((17, 1), 18), ((0, 3), 15), ((15, 1), 9), ((15, 0), 1), ((15, 2), 16), ((0, 2), 9), ((9, 9), 14), ((9, 8), 13), ((9, 7), 12), ((9, 6), 11), ((9, 5), 10), ((0, 1), 3), ((3, 9), 8), ((3, 8), 7), ((3, 7), 6), ((3, 6), 5), ((3, 5), 4), ((0, 0), 1), ((1, 0), 2)]) (am_g 31) (fun v H' => v = [] ∧ H' = (am_I0, am_J0, am_lr [((30, 0), 3), ((0, 6), 27), ((27, 1), 19), ((27, 0), 3), ((27, 4), 29), ((27, 3), 28), ((0, 5), 19), ((19, 2), 26), ((19, 1), 25), ((19, 0), 20), ((20, 3), 24), ((20, 2), 23), ((20, 1), 22), ((20, 0), 21), ((0, 4), 17), ((17, 0), 1), ((17, 1), 18), ((0, 3), 15), ((15, 1), 9), ((15, 0), 1), ((15, 2), 16), ((0, 2), 9), ((9, 9), 14), ((9, 8), 13), ((9, 7), 12), ((9, 6), 11), ((9, 5), 10), ((0, 1), 3), ((3, 9), 8), ((3, 8), 7), ((3, 7), 6), ((3, 6), 5), ((3, 5), 4), ((0, 0), 1), ((1, 0), 2)])) := by
  refine op_aload_n (k := 0) dX9_init_0 rfl rfl ?_
  refine op_objInit dX9_init_1 tw_325 tw_133 twl_134 (Nat.le_of_ble_eq_true rfl) ?_
  refine op_aload_n (k := 0) dX9_init_4 rfl rfl ?_
  refine op_aload_n (k := 1) dX9_init_5 rfl rfl ?_
  refine k_putR dX9_init_6 fl_X9_9 (fun _ => ⟨rfl, _, rfl, rfl⟩) kd_30 (by decide +kernel) (by decide +kernel) (Or.inl ⟨_, rfl⟩) ?_
  exact op_vret dX9_init_9 rfl ⟨rfl, rfl⟩
set_option maxHeartbeats 4000000 in
theorem kc_31 {l : Launch} {ρ : am_R} {d : Nat} : AW l ρ (d + 1) M_X6_init 0 [(0, .ref 31), (1, .ref 3), (2, .ref 27)] [] (am_g 32) (am_I0, am_J0, am_lr [((0, 7), 30), ((30, 0), 3), ((0, 6), 27), ((27, 1), 19), ((27, 0), 3), ((27, 4), 29), ((27, 3), 28), ((0, 5), 19), ((19, 2), 26), ((19, 1), 25), ((19, 0), 20), ((20, 3), 24), ((20, 2), 23), ((20, 1), 22), ((20, 0), 21), ((0, 4), 17), ((17, 0), 1), ((17, 1), 18), ((0, 3), 15), ((15, 1), 9), ((15, 0), 1), ((15, 2), 16), ((0, 2), 9), ((9, 9), 14), ((9, 8), 13), ((9, 7), 12), ((9, 6), 11), ((9, 5), 10), ((0, 1), 3), ((3, 9), 8), ((3, 8), 7), ((3, 7), 6), ((3, 6), 5), ((3, 5), 4), ((0, 0), 1), ((1, 0), 2)]) (am_g 36) (fun v H' => v = [] ∧ H' = (am_I0, am_J0, am_lr [((31, 1), 27), ((31, 0), 3), ((31, 5), 35), ((31, 4), 34), ((31, 3), 33), ((31, 2), 32), ((0, 7), 30), ((30, 0), 3), ((0, 6), 27), ((27, 1), 19), ((27, 0), 3), ((27, 4), 29), ((27, 3), 28), ((0, 5), 19), ((19, 2), 26), ((19, 1), 25), ((19, 0), 20), ((20, 3), 24), ((20, 2), 23), ((20, 1), 22), ((20, 0), 21), ((0, 4), 17), ((17, 0), 1), ((17, 1), 18), ((0, 3), 15), ((15, 1), 9), ((15, 0), 1), ((15, 2), 16), ((0, 2), 9), ((9, 9), 14), ((9, 8), 13), ((9, 7), 12), ((9, 6), 11), ((9, 5), 10), ((0, 1), 3), ((3, 9), 8), ((3, 8), 7), ((3, 7), 6), ((3, 6), 5), ((3, 5), 4), ((0, 0), 1), ((1, 0), 2)])) := by
  refine op_aload_n (k := 0) dX6_init_0 rfl rfl ?_
  refine op_objInit dX6_init_1 tw_346 tw_133 twl_134 (Nat.le_of_ble_eq_true rfl) ?_
  refine op_aload_n (k := 0) dX6_init_4 rfl rfl ?_
  refine op_bipush (v := 7) dX6_init_5 (by decide +kernel) ?_
  refine k_newi (n := 32) (N := 7) (idx := 0) dX6_init_7 tw_235 (by decide +kernel) (by decide +kernel) kd_32 (by decide +kernel) (fun _ => rfl) (fun _ => rfl) (by decide +kernel) ⟨(by decide +kernel), (by decide +kernel)⟩ ?_
  refine k_putR dX6_init_9 fl_X6_9 (fun _ => ⟨rfl, _, rfl, rfl⟩) kd_31 (by decide +kernel) (by decide +kernel) (Or.inr ⟨_, rfl⟩) ?_
  refine op_aload_n (k := 0) dX6_init_12 rfl rfl ?_
  refine op_bipush (v := 7) dX6_init_13 (by decide +kernel) ?_
  refine k_newi (n := 33) (N := 7) (idx := 0) dX6_init_15 tw_235 (by decide +kernel) (by decide +kernel) kd_33 (by decide +kernel) (fun _ => rfl) (fun _ => rfl) (by decide +kernel) ⟨(by decide +kernel), (by decide +kernel)⟩ ?_
  refine k_putR dX6_init_17 fl_X6_15 (fun _ => ⟨rfl, _, rfl, rfl⟩) kd_31 (by decide +kernel) (by decide +kernel) (Or.inr ⟨_, rfl⟩) ?_
  refine op_aload_n (k := 0) dX6_init_20 rfl rfl ?_
  refine op_sipush (v := 384) dX6_init_21 (by decide +kernel) ?_
  refine k_newl (n := 34) (N := 384) (idx := 0) dX6_init_24 tw_388 (by decide +kernel) (by decide +kernel) kd_34 (by decide +kernel) (fun _ => rfl) (fun _ => rfl) (by decide +kernel) ⟨(by decide +kernel), (by decide +kernel)⟩ ?_
  refine k_putR dX6_init_26 fl_X6_18 (fun _ => ⟨rfl, _, rfl, rfl⟩) kd_31 (by decide +kernel) (by decide +kernel) (Or.inr ⟨_, rfl⟩) ?_
  refine op_aload_n (k := 0) dX6_init_29 rfl rfl ?_
  refine op_bipush (v := 64) dX6_init_30 (by decide +kernel) ?_
  refine k_newl (n := 35) (N := 64) (idx := 0) dX6_init_32 tw_388 (by decide +kernel) (by decide +kernel) kd_35 (by decide +kernel) (fun _ => rfl) (fun _ => rfl) (by decide +kernel) ⟨(by decide +kernel), (by decide +kernel)⟩ ?_
  refine k_putR dX6_init_34 fl_X6_22 (fun _ => ⟨rfl, _, rfl, rfl⟩) kd_31 (by decide +kernel) (by decide +kernel) (Or.inr ⟨_, rfl⟩) ?_
  refine op_aload_n (k := 0) dX6_init_37 rfl rfl ?_
  refine op_aload_n (k := 1) dX6_init_38 rfl rfl ?_
  refine k_putR dX6_init_39 fl_X6_25 (fun _ => ⟨rfl, _, rfl, rfl⟩) kd_31 (by decide +kernel) (by decide +kernel) (Or.inl ⟨_, rfl⟩) ?_
  refine op_aload_n (k := 0) dX6_init_42 rfl rfl ?_
  refine op_aload_n (k := 2) dX6_init_43 rfl rfl ?_
  refine k_putR dX6_init_44 fl_X6_29 (fun _ => ⟨rfl, _, rfl, rfl⟩) kd_31 (by decide +kernel) (by decide +kernel) (Or.inl ⟨_, rfl⟩) ?_
  exact op_vret dX6_init_47 rfl ⟨rfl, rfl⟩
set_option maxHeartbeats 4000000 in
theorem kc_36 {l : Launch} {ρ : am_R} {d : Nat} : AW l ρ (d + 1) M_X1_init 0 [(0, .ref 36), (1, .ref 3), (2, .ref 27)] [] (am_g 37) (am_I0, am_J0, am_lr [((0, 8), 31), ((31, 1), 27), ((31, 0), 3), ((31, 5), 35), ((31, 4), 34), ((31, 3), 33), ((31, 2), 32), ((0, 7), 30), ((30, 0), 3), ((0, 6), 27), ((27, 1), 19), ((27, 0), 3), ((27, 4), 29), ((27, 3), 28), ((0, 5), 19), ((19, 2), 26), ((19, 1), 25), ((19, 0), 20), ((20, 3), 24), ((20, 2), 23), ((20, 1), 22), ((20, 0), 21), ((0, 4), 17), ((17, 0), 1), ((17, 1), 18), ((0, 3), 15), ((15, 1), 9), ((15, 0), 1), ((15, 2), 16), ((0, 2), 9), ((9, 9), 14), ((9, 8), 13), ((9, 7), 12), ((9, 6), 11), ((9, 5), 10), ((0, 1), 3), ((3, 9), 8), ((3, 8), 7), ((3, 7), 6), ((3, 6), 5), ((3, 5), 4), ((0, 0), 1), ((1, 0), 2)]) (am_g 37) (fun v H' => v = [] ∧ H' = (am_I0, am_J0, am_lr [((36, 1), 27), ((36, 0), 3), ((0, 8), 31), ((31, 1), 27), ((31, 0), 3), ((31, 5), 35), ((31, 4), 34), ((31, 3), 33), ((31, 2), 32), ((0, 7), 30), ((30, 0), 3), ((0, 6), 27), ((27, 1), 19), ((27, 0), 3), ((27, 4), 29), ((27, 3), 28), ((0, 5), 19), ((19, 2), 26), ((19, 1), 25), ((19, 0), 20), ((20, 3), 24), ((20, 2), 23), ((20, 1), 22), ((20, 0), 21), ((0, 4), 17), ((17, 0), 1), ((17, 1), 18), ((0, 3), 15), ((15, 1), 9), ((15, 0), 1), ((15, 2), 16), ((0, 2), 9), ((9, 9), 14), ((9, 8), 13), ((9, 7), 12), ((9, 6), 11), ((9, 5), 10), ((0, 1), 3), ((3, 9), 8), ((3, 8), 7), ((3, 7), 6), ((3, 6), 5), ((3, 5), 4), ((0, 0), 1), ((1, 0), 2)])) := by
  refine op_aload_n (k := 0) dX1_init_0 rfl rfl ?_
  refine op_objInit dX1_init_1 tw_394 tw_133 twl_134 (Nat.le_of_ble_eq_true rfl) ?_
  refine op_aload_n (k := 0) dX1_init_4 rfl rfl ?_
  refine op_aload_n (k := 1) dX1_init_5 rfl rfl ?_
  refine k_putR dX1_init_6 fl_X1_7 (fun _ => ⟨rfl, _, rfl, rfl⟩) kd_36 (by decide +kernel) (by decide +kernel) (Or.inl ⟨_, rfl⟩) ?_
  refine op_aload_n (k := 0) dX1_init_9 rfl rfl ?_
  refine op_aload_n (k := 2) dX1_init_10 rfl rfl ?_
  refine k_putR dX1_init_11 fl_X1_13 (fun _ => ⟨rfl, _, rfl, rfl⟩) kd_36 (by decide +kernel) (by decide +kernel) (Or.inl ⟨_, rfl⟩) ?_
  exact op_vret dX1_init_14 rfl ⟨rfl, rfl⟩
set_option maxHeartbeats 4000000 in
theorem kc_37 {l : Launch} {ρ : am_R} {d : Nat} : AW l ρ (d + 1) M_X8_init 0 [(0, .ref 37), (1, .ref 3), (2, .ref 27)] [] (am_g 38) (am_I0, am_J0, am_lr [((0, 9), 36), ((36, 1), 27), ((36, 0), 3), ((0, 8), 31), ((31, 1), 27), ((31, 0), 3), ((31, 5), 35), ((31, 4), 34), ((31, 3), 33), ((31, 2), 32), ((0, 7), 30), ((30, 0), 3), ((0, 6), 27), ((27, 1), 19), ((27, 0), 3), ((27, 4), 29), ((27, 3), 28), ((0, 5), 19), ((19, 2), 26), ((19, 1), 25), ((19, 0), 20), ((20, 3), 24), ((20, 2), 23), ((20, 1), 22), ((20, 0), 21), ((0, 4), 17), ((17, 0), 1), ((17, 1), 18), ((0, 3), 15), ((15, 1), 9), ((15, 0), 1), ((15, 2), 16), ((0, 2), 9), ((9, 9), 14), ((9, 8), 13), ((9, 7), 12), ((9, 6), 11), ((9, 5), 10), ((0, 1), 3), ((3, 9), 8), ((3, 8), 7), ((3, 7), 6), ((3, 6), 5), ((3, 5), 4), ((0, 0), 1), ((1, 0), 2)]) (am_g 41) (fun v H' => v = [] ∧ H' = (am_I0, am_J0, am_lr [((37, 1), 27), ((37, 0), 3), ((37, 4), 40), ((37, 3), 39), ((37, 2), 38), ((0, 9), 36), ((36, 1), 27), ((36, 0), 3), ((0, 8), 31), ((31, 1), 27), ((31, 0), 3), ((31, 5), 35), ((31, 4), 34), ((31, 3), 33), ((31, 2), 32), ((0, 7), 30), ((30, 0), 3), ((0, 6), 27), ((27, 1), 19), ((27, 0), 3), ((27, 4), 29), ((27, 3), 28), ((0, 5), 19), ((19, 2), 26), ((19, 1), 25), ((19, 0), 20), ((20, 3), 24), ((20, 2), 23), ((20, 1), 22), ((20, 0), 21), ((0, 4), 17), ((17, 0), 1), ((17, 1), 18), ((0, 3), 15), ((15, 1), 9), ((15, 0), 1), ((15, 2), 16), ((0, 2), 9), ((9, 9), 14), ((9, 8), 13), ((9, 7), 12), ((9, 6), 11), ((9, 5), 10), ((0, 1), 3), ((3, 9), 8), ((3, 8), 7), ((3, 7), 6), ((3, 6), 5), ((3, 5), 4), ((0, 0), 1), ((1, 0), 2)])) := by
  refine op_aload_n (k := 0) dX8_init_0 rfl rfl ?_
  refine op_objInit dX8_init_1 tw_423 tw_133 twl_134 (Nat.le_of_ble_eq_true rfl) ?_
  refine op_aload_n (k := 0) dX8_init_4 rfl rfl ?_
  refine op_bipush (v := 10) dX8_init_5 (by decide +kernel) ?_
  refine k_newi (n := 38) (N := 10) (idx := 0) dX8_init_7 tw_235 (by decide +kernel) (by decide +kernel) kd_38 (by decide +kernel) (fun _ => rfl) (fun _ => rfl) (by decide +kernel) ⟨(by decide +kernel), (by decide +kernel)⟩ ?_
  refine k_putR dX8_init_9 fl_X8_11 (fun _ => ⟨rfl, _, rfl, rfl⟩) kd_37 (by decide +kernel) (by decide +kernel) (Or.inr ⟨_, rfl⟩) ?_
  refine op_aload_n (k := 0) dX8_init_12 rfl rfl ?_
  refine op_bipush (v := 10) dX8_init_13 (by decide +kernel) ?_
  refine k_newi (n := 39) (N := 10) (idx := 0) dX8_init_15 tw_235 (by decide +kernel) (by decide +kernel) kd_39 (by decide +kernel) (fun _ => rfl) (fun _ => rfl) (by decide +kernel) ⟨(by decide +kernel), (by decide +kernel)⟩ ?_
  refine k_putR dX8_init_17 fl_X8_15 (fun _ => ⟨rfl, _, rfl, rfl⟩) kd_37 (by decide +kernel) (by decide +kernel) (Or.inr ⟨_, rfl⟩) ?_
  refine op_aload_n (k := 0) dX8_init_20 rfl rfl ?_
  refine op_bipush (v := 10) dX8_init_21 (by decide +kernel) ?_
  refine k_newi (n := 40) (N := 10) (idx := 0) dX8_init_23 tw_235 (by decide +kernel) (by decide +kernel) kd_40 (by decide +kernel) (fun _ => rfl) (fun _ => rfl) (by decide +kernel) ⟨(by decide +kernel), (by decide +kernel)⟩ ?_
  refine k_putR dX8_init_25 fl_X8_18 (fun _ => ⟨rfl, _, rfl, rfl⟩) kd_37 (by decide +kernel) (by decide +kernel) (Or.inr ⟨_, rfl⟩) ?_
  refine op_aload_n (k := 0) dX8_init_28 rfl rfl ?_
  refine op_aload_n (k := 1) dX8_init_29 rfl rfl ?_
  refine k_putR dX8_init_30 fl_X8_21 (fun _ => ⟨rfl, _, rfl, rfl⟩) kd_37 (by decide +kernel) (by decide +kernel) (Or.inl ⟨_, rfl⟩) ?_
  refine op_aload_n (k := 0) dX8_init_33 rfl rfl ?_
  refine op_aload_n (k := 2) dX8_init_34 rfl rfl ?_
  refine k_putR dX8_init_35 fl_X8_25 (fun _ => ⟨rfl, _, rfl, rfl⟩) kd_37 (by decide +kernel) (by decide +kernel) (Or.inl ⟨_, rfl⟩) ?_
  exact op_vret dX8_init_38 rfl ⟨rfl, rfl⟩
set_option maxHeartbeats 4000000 in
theorem kc_41 {l : Launch} {ρ : am_R} {d : Nat} : AW l ρ (d + 1) M_X0_init 0 [(0, .ref 41)] [] (am_g 42) (am_I0, am_J0, am_lr [((0, 10), 37), ((37, 1), 27), ((37, 0), 3), ((37, 4), 40), ((37, 3), 39), ((37, 2), 38), ((0, 9), 36), ((36, 1), 27), ((36, 0), 3), ((0, 8), 31), ((31, 1), 27), ((31, 0), 3), ((31, 5), 35), ((31, 4), 34), ((31, 3), 33), ((31, 2), 32), ((0, 7), 30), ((30, 0), 3), ((0, 6), 27), ((27, 1), 19), ((27, 0), 3), ((27, 4), 29), ((27, 3), 28), ((0, 5), 19), ((19, 2), 26), ((19, 1), 25), ((19, 0), 20), ((20, 3), 24), ((20, 2), 23), ((20, 1), 22), ((20, 0), 21), ((0, 4), 17), ((17, 0), 1), ((17, 1), 18), ((0, 3), 15), ((15, 1), 9), ((15, 0), 1), ((15, 2), 16), ((0, 2), 9), ((9, 9), 14), ((9, 8), 13), ((9, 7), 12), ((9, 6), 11), ((9, 5), 10), ((0, 1), 3), ((3, 9), 8), ((3, 8), 7), ((3, 7), 6), ((3, 6), 5), ((3, 5), 4), ((0, 0), 1), ((1, 0), 2)]) (am_g 44) (fun v H' => v = [] ∧ H' = (am_I0, am_J0, am_lr [((41, 1), 43), ((41, 0), 42), ((0, 10), 37), ((37, 1), 27), ((37, 0), 3), ((37, 4), 40), ((37, 3), 39), ((37, 2), 38), ((0, 9), 36), ((36, 1), 27), ((36, 0), 3), ((0, 8), 31), ((31, 1), 27), ((31, 0), 3), ((31, 5), 35), ((31, 4), 34), ((31, 3), 33), ((31, 2), 32), ((0, 7), 30), ((30, 0), 3), ((0, 6), 27), ((27, 1), 19), ((27, 0), 3), ((27, 4), 29), ((27, 3), 28), ((0, 5), 19), ((19, 2), 26), ((19, 1), 25), ((19, 0), 20), ((20, 3), 24), ((20, 2), 23), ((20, 1), 22), ((20, 0), 21), ((0, 4), 17), ((17, 0), 1), ((17, 1), 18), ((0, 3), 15), ((15, 1), 9), ((15, 0), 1), ((15, 2), 16), ((0, 2), 9), ((9, 9), 14), ((9, 8), 13), ((9, 7), 12), ((9, 6), 11), ((9, 5), 10), ((0, 1), 3), ((3, 9), 8), ((3, 8), 7), ((3, 7), 6), ((3, 6), 5), ((3, 5), 4), ((0, 0), 1), ((1, 0), 2)])) := by
  refine op_aload_n (k := 0) dX0_init_0 rfl rfl ?_
  refine op_objInit dX0_init_1 tw_449 tw_133 twl_134 (Nat.le_of_ble_eq_true rfl) ?_
  refine op_aload_n (k := 0) dX0_init_4 rfl rfl ?_
  refine op_bipush (v := 6) dX0_init_5 (by decide +kernel) ?_
  refine k_newl (n := 42) (N := 6) (idx := 0) dX0_init_7 tw_388 (by decide +kernel) (by decide +kernel) kd_42 (by decide +kernel) (fun _ => rfl) (fun _ => rfl) (by decide +kernel) ⟨(by decide +kernel), (by decide +kernel)⟩ ?_
  refine k_putR dX0_init_9 fl_X0_9 (fun _ => ⟨rfl, _, rfl, rfl⟩) kd_41 (by decide +kernel) (by decide +kernel) (Or.inr ⟨_, rfl⟩) ?_
  refine op_aload_n (k := 0) dX0_init_12 rfl rfl ?_
  refine op_sipush (v := 240) dX0_init_13 (by decide +kernel) ?_
  refine k_newl (n := 43) (N := 240) (idx := 0) dX0_init_16 tw_388 (by decide +kernel) (by decide +kernel) kd_43 (by decide +kernel) (fun _ => rfl) (fun _ => rfl) (by decide +kernel) ⟨(by decide +kernel), (by decide +kernel)⟩ ?_
  refine k_putR dX0_init_18 fl_X0_15 (fun _ => ⟨rfl, _, rfl, rfl⟩) kd_41 (by decide +kernel) (by decide +kernel) (Or.inr ⟨_, rfl⟩) ?_
  exact op_vret dX0_init_21 rfl ⟨rfl, rfl⟩
set_option maxHeartbeats 4000000 in
theorem kc_44 {l : Launch} {ρ : am_R} {d : Nat} : AW l ρ (d + 1) M_X2_init 0 [(0, .ref 44)] [] (am_g 45) (am_I0, am_J0, am_lr [((0, 11), 41), ((41, 1), 43), ((41, 0), 42), ((0, 10), 37), ((37, 1), 27), ((37, 0), 3), ((37, 4), 40), ((37, 3), 39), ((37, 2), 38), ((0, 9), 36), ((36, 1), 27), ((36, 0), 3), ((0, 8), 31), ((31, 1), 27), ((31, 0), 3), ((31, 5), 35), ((31, 4), 34), ((31, 3), 33), ((31, 2), 32), ((0, 7), 30), ((30, 0), 3), ((0, 6), 27), ((27, 1), 19), ((27, 0), 3), ((27, 4), 29), ((27, 3), 28), ((0, 5), 19), ((19, 2), 26), ((19, 1), 25), ((19, 0), 20), ((20, 3), 24), ((20, 2), 23), ((20, 1), 22), ((20, 0), 21), ((0, 4), 17), ((17, 0), 1), ((17, 1), 18), ((0, 3), 15), ((15, 1), 9), ((15, 0), 1), ((15, 2), 16), ((0, 2), 9), ((9, 9), 14), ((9, 8), 13), ((9, 7), 12), ((9, 6), 11), ((9, 5), 10), ((0, 1), 3), ((3, 9), 8), ((3, 8), 7), ((3, 7), 6), ((3, 6), 5), ((3, 5), 4), ((0, 0), 1), ((1, 0), 2)]) (am_g 50) (fun v H' => v = [] ∧ H' = (am_I0, am_J0, am_lr [((44, 9), 49), ((44, 8), 48), ((44, 7), 47), ((44, 6), 46), ((44, 5), 45), ((0, 11), 41), ((41, 1), 43), ((41, 0), 42), ((0, 10), 37), ((37, 1), 27), ((37, 0), 3), ((37, 4), 40), ((37, 3), 39), ((37, 2), 38), ((0, 9), 36), ((36, 1), 27), ((36, 0), 3), ((0, 8), 31), ((31, 1), 27), ((31, 0), 3), ((31, 5), 35), ((31, 4), 34), ((31, 3), 33), ((31, 2), 32), ((0, 7), 30), ((30, 0), 3), ((0, 6), 27), ((27, 1), 19), ((27, 0), 3), ((27, 4), 29), ((27, 3), 28), ((0, 5), 19), ((19, 2), 26), ((19, 1), 25), ((19, 0), 20), ((20, 3), 24), ((20, 2), 23), ((20, 1), 22), ((20, 0), 21), ((0, 4), 17), ((17, 0), 1), ((17, 1), 18), ((0, 3), 15), ((15, 1), 9), ((15, 0), 1), ((15, 2), 16), ((0, 2), 9), ((9, 9), 14), ((9, 8), 13), ((9, 7), 12), ((9, 6), 11), ((9, 5), 10), ((0, 1), 3), ((3, 9), 8), ((3, 8), 7), ((3, 7), 6), ((3, 6), 5), ((3, 5), 4), ((0, 0), 1), ((1, 0), 2)])) := by
  refine op_aload_n (k := 0) dX2_init_0 rfl rfl ?_
  refine op_objInit dX2_init_1 tw_166 tw_133 twl_134 (Nat.le_of_ble_eq_true rfl) ?_
  refine op_aload_n (k := 0) dX2_init_4 rfl rfl ?_
  refine op_bipush (v := 10) dX2_init_5 (by decide +kernel) ?_
  refine k_newi (n := 45) (N := 10) (idx := 0) dX2_init_7 tw_235 (by decide +kernel) (by decide +kernel) kd_45 (by decide +kernel) (fun _ => rfl) (fun _ => rfl) (by decide +kernel) ⟨(by decide +kernel), (by decide +kernel)⟩ ?_
  refine k_putR dX2_init_9 fl_X2_9 (fun _ => ⟨rfl, _, rfl, rfl⟩) kd_44 (by decide +kernel) (by decide +kernel) (Or.inr ⟨_, rfl⟩) ?_
  refine op_aload_n (k := 0) dX2_init_12 rfl rfl ?_
  refine op_bipush (v := 10) dX2_init_13 (by decide +kernel) ?_
  refine k_newi (n := 46) (N := 10) (idx := 0) dX2_init_15 tw_235 (by decide +kernel) (by decide +kernel) kd_46 (by decide +kernel) (fun _ => rfl) (fun _ => rfl) (by decide +kernel) ⟨(by decide +kernel), (by decide +kernel)⟩ ?_
  refine k_putR dX2_init_17 fl_X2_15 (fun _ => ⟨rfl, _, rfl, rfl⟩) kd_44 (by decide +kernel) (by decide +kernel) (Or.inr ⟨_, rfl⟩) ?_
  refine op_aload_n (k := 0) dX2_init_20 rfl rfl ?_
  refine op_bipush (v := 6) dX2_init_21 (by decide +kernel) ?_
  refine k_newi (n := 47) (N := 6) (idx := 0) dX2_init_23 tw_235 (by decide +kernel) (by decide +kernel) kd_47 (by decide +kernel) (fun _ => rfl) (fun _ => rfl) (by decide +kernel) ⟨(by decide +kernel), (by decide +kernel)⟩ ?_
  refine k_putR dX2_init_25 fl_X2_18 (fun _ => ⟨rfl, _, rfl, rfl⟩) kd_44 (by decide +kernel) (by decide +kernel) (Or.inr ⟨_, rfl⟩) ?_
  refine op_aload_n (k := 0) dX2_init_28 rfl rfl ?_
  refine op_bipush (v := 6) dX2_init_29 (by decide +kernel) ?_
  refine k_newi (n := 48) (N := 6) (idx := 0) dX2_init_31 tw_235 (by decide +kernel) (by decide +kernel) kd_48 (by decide +kernel) (fun _ => rfl) (fun _ => rfl) (by decide +kernel) ⟨(by decide +kernel), (by decide +kernel)⟩ ?_
  refine k_putR dX2_init_33 fl_X2_21 (fun _ => ⟨rfl, _, rfl, rfl⟩) kd_44 (by decide +kernel) (by decide +kernel) (Or.inr ⟨_, rfl⟩) ?_
  refine op_aload_n (k := 0) dX2_init_36 rfl rfl ?_
  refine op_bipush (v := 6) dX2_init_37 (by decide +kernel) ?_
  refine k_newi (n := 49) (N := 6) (idx := 0) dX2_init_39 tw_235 (by decide +kernel) (by decide +kernel) kd_49 (by decide +kernel) (fun _ => rfl) (fun _ => rfl) (by decide +kernel) ⟨(by decide +kernel), (by decide +kernel)⟩ ?_
  refine k_putR dX2_init_41 fl_X2_24 (fun _ => ⟨rfl, _, rfl, rfl⟩) kd_44 (by decide +kernel) (by decide +kernel) (Or.inr ⟨_, rfl⟩) ?_
  exact op_vret dX2_init_44 rfl ⟨rfl, rfl⟩
set_option maxHeartbeats 4000000 in
theorem kc_50 {l : Launch} {ρ : am_R} {d : Nat} : AW l ρ (d + 1) M_X0_init 0 [(0, .ref 50)] [] (am_g 51) (am_I0, am_J0, am_lr [((0, 12), 44), ((44, 9), 49), ((44, 8), 48), ((44, 7), 47), ((44, 6), 46), ((44, 5), 45), ((0, 11), 41), ((41, 1), 43), ((41, 0), 42), ((0, 10), 37), ((37, 1), 27), ((37, 0), 3), ((37, 4), 40), ((37, 3), 39), ((37, 2), 38), ((0, 9), 36), ((36, 1), 27), ((36, 0), 3), ((0, 8), 31), ((31, 1), 27), ((31, 0), 3), ((31, 5), 35), ((31, 4), 34), ((31, 3), 33), ((31, 2), 32), ((0, 7), 30), ((30, 0), 3), ((0, 6), 27), ((27, 1), 19), ((27, 0), 3), ((27, 4), 29), ((27, 3), 28), ((0, 5), 19), ((19, 2), 26), ((19, 1), 25), ((19, 0), 20), ((20, 3), 24), ((20, 2), 23), ((20, 1), 22), ((20, 0), 21), ((0, 4), 17), ((17, 0), 1), ((17, 1), 18), ((0, 3), 15), ((15, 1), 9), ((15, 0), 1), ((15, 2), 16), ((0, 2), 9), ((9, 9), 14), ((9, 8), 13), ((9, 7), 12), ((9, 6), 11), ((9, 5), 10), ((0, 1), 3), ((3, 9), 8), ((3, 8), 7), ((3, 7), 6), ((3, 6), 5), ((3, 5), 4), ((0, 0), 1), ((1, 0), 2)]) (am_g 53) (fun v H' => v = [] ∧ H' = (am_I0, am_J0, am_lr [((50, 1), 52), ((50, 0), 51), ((0, 12), 44), ((44, 9), 49), ((44, 8), 48), ((44, 7), 47), ((44, 6), 46), ((44, 5), 45), ((0, 11), 41), ((41, 1), 43), ((41, 0), 42), ((0, 10), 37), ((37, 1), 27), ((37, 0), 3), ((37, 4), 40), ((37, 3), 39), ((37, 2), 38), ((0, 9), 36), ((36, 1), 27), ((36, 0), 3), ((0, 8), 31), ((31, 1), 27), ((31, 0), 3), ((31, 5), 35), ((31, 4), 34), ((31, 3), 33), ((31, 2), 32), ((0, 7), 30), ((30, 0), 3), ((0, 6), 27), ((27, 1), 19), ((27, 0), 3), ((27, 4), 29), ((27, 3), 28), ((0, 5), 19), ((19, 2), 26), ((19, 1), 25), ((19, 0), 20), ((20, 3), 24), ((20, 2), 23), ((20, 1), 22), ((20, 0), 21), ((0, 4), 17), ((17, 0), 1), ((17, 1), 18), ((0, 3), 15), ((15, 1), 9), ((15, 0), 1), ((15, 2), 16), ((0, 2), 9), ((9, 9), 14), ((9, 8), 13), ((9, 7), 12), ((9, 6), 11), ((9, 5), 10), ((0, 1), 3), ((3, 9), 8), ((3, 8), 7), ((3, 7), 6), ((3, 6), 5), ((3, 5), 4), ((0, 0), 1), ((1, 0), 2)])) := by
  refine op_aload_n (k := 0) dX0_init_0 rfl rfl ?_
  refine op_objInit dX0_init_1 tw_449 tw_133 twl_134 (Nat.le_of_ble_eq_true rfl) ?_
  refine op_aload_n (k := 0) dX0_init_4 rfl rfl ?_
  refine op_bipush (v := 6) dX0_init_5 (by decide +kernel) ?_
  refine k_newl (n := 51) (N := 6) (idx := 0) dX0_init_7 tw_388 (by decide +kernel) (by decide +kernel) kd_51 (by decide +kernel) (fun _ => rfl) (fun _ => rfl) (by decide +kernel) ⟨(by decide +kernel), (by decide +kernel)⟩ ?_
  refine k_putR dX0_init_9 fl_X0_9 (fun _ => ⟨rfl, _, rfl, rfl⟩) kd_50 (by decide +kernel) (by decide +kernel) (Or.inr ⟨_, rfl⟩) ?_
  refine op_aload_n (k := 0) dX0_init_12 rfl rfl ?_
  refine op_sipush (v := 240) dX0_init_13 (by decide +kernel) ?_
  refine k_newl (n := 52) (N := 240) (idx := 0) dX0_init_16 tw_388 (by decide +kernel) (by decide +kernel) kd_52 (by decide +kernel) (fun _ => rfl) (fun _ => rfl) (by decide +kernel) ⟨(by decide +kernel), (by decide +kernel)⟩ ?_
  refine k_putR dX0_init_18 fl_X0_15 (fun _ => ⟨rfl, _, rfl, rfl⟩) kd_50 (by decide +kernel) (by decide +kernel) (Or.inr ⟨_, rfl⟩) ?_
  exact op_vret dX0_init_21 rfl ⟨rfl, rfl⟩
set_option maxHeartbeats 4000000 in
theorem kc_0 {l : Launch} {ρ : am_R} {d : Nat} : AW l ρ (d + 2) M_X11_init 0 [(0, .ref 0)] [] (am_g 1) (am_I0, am_J0, am_lr []) (am_g 53) (fun v H' => v = [] ∧ H' = (am_I1, am_J0, am_lr [((0, 13), 50), ((50, 1), 52), ((50, 0), 51), ((0, 12), 44), ((44, 9), 49), ((44, 8), 48), ((44, 7), 47), ((44, 6), 46), ((44, 5), 45), ((0, 11), 41), ((41, 1), 43), ((41, 0), 42), ((0, 10), 37), ((37, 1), 27), ((37, 0), 3), ((37, 4), 40), ((37, 3), 39), ((37, 2), 38), ((0, 9), 36), ((36, 1), 27), ((36, 0), 3), ((0, 8), 31), ((31, 1), 27), ((31, 0), 3), ((31, 5), 35), ((31, 4), 34), ((31, 3), 33), ((31, 2), 32), ((0, 7), 30), ((30, 0), 3), ((0, 6), 27), ((27, 1), 19), ((27, 0), 3), ((27, 4), 29), ((27, 3), 28), ((0, 5), 19), ((19, 2), 26), ((19, 1), 25), ((19, 0), 20), ((20, 3), 24), ((20, 2), 23), ((20, 1), 22), ((20, 0), 21), ((0, 4), 17), ((17, 0), 1), ((17, 1), 18), ((0, 3), 15), ((15, 1), 9), ((15, 0), 1), ((15, 2), 16), ((0, 2), 9), ((9, 9), 14), ((9, 8), 13), ((9, 7), 12), ((9, 6), 11), ((9, 5), 10), ((0, 1), 3), ((3, 9), 8), ((3, 8), 7), ((3, 7), 6), ((3, 6), 5), ((3, 5), 4), ((0, 0), 1), ((1, 0), 2)])) := by
  refine op_aload_n (k := 0) dX11_init_0 rfl rfl ?_
  refine op_objInit dX11_init_1 tw_132 tw_133 twl_134 (Nat.le_of_ble_eq_true rfl) ?_
  refine op_aload_n (k := 0) dX11_init_4 rfl rfl ?_
  refine k_new (n := 1) dX11_init_5 cls_10 tw_135 tw_136 tw_103 fl9_10 rfl kd_1 (fun _ => rfl) (fun _ => rfl) (by decide +kernel) ⟨(by decide +kernel), (by decide +kernel)⟩ ?_
  refine op_dup dX11_init_8 rfl ?_
  refine op_callIN (M' := M_X10_init) [] (S0 := [.ref 1, .ref 0]) dX11_init_9 tn_137 ok_X10_init tw_138 rfl rfl rfl rfl (Nat.le_of_ble_eq_true rfl) (Nat.le_of_ble_eq_true rfl) kc_1 ⟨(by decide +kernel), (by decide +kernel), (by decide +kernel), (by decide +kernel), fun _ => am_g_len (by decide)⟩ ?_
  rintro _ _ ⟨rfl, rfl⟩
  refine k_putR dX11_init_12 fl_X11_10 (fun _ => ⟨rfl, _, rfl, rfl⟩) kd_0 (by decide +kernel) (by decide +kernel) (Or.inl ⟨_, rfl⟩) ?_
  refine op_aload_n (k := 0) dX11_init_15 rfl rfl ?_
  refine k_new (n := 3) dX11_init_16 cls_2 tw_161 tw_162 tw_104 fl9_2 rfl kd_3 (fun _ => rfl) (fun _ => rfl) (by decide +kernel) ⟨(by decide +kernel), (by decide +kernel)⟩ ?_
  refine op_dup dX11_init_19 rfl ?_
  refine op_callIN (M' := M_X2_init) [] (S0 := [.ref 3, .ref 0]) dX11_init_20 tn_163 ok_X2_init tw_164 rfl rfl rfl rfl (Nat.le_of_ble_eq_true rfl) (Nat.le_of_ble_eq_true rfl) kc_3 ⟨(by decide +kernel), (by decide +kernel), (by decide +kernel), (by decide +kernel), fun _ => am_g_len (by decide)⟩ ?_
  rintro _ _ ⟨rfl, rfl⟩
  refine k_putR dX11_init_23 fl_X11_19 (fun _ => ⟨rfl, _, rfl, rfl⟩) kd_0 (by decide +kernel) (by decide +kernel) (Or.inl ⟨_, rfl⟩) ?_
  refine op_aload_n (k := 0) dX11_init_26 rfl rfl ?_
  refine k_new (n := 9) dX11_init_27 cls_2 tw_161 tw_162 tw_104 fl9_2 rfl kd_9 (fun _ => rfl) (fun _ => rfl) (by decide +kernel) ⟨(by decide +kernel), (by decide +kernel)⟩ ?_
  refine op_dup dX11_init_30 rfl ?_
  refine op_callIN (M' := M_X2_init) [] (S0 := [.ref 9, .ref 0]) dX11_init_31 tn_163 ok_X2_init tw_164 rfl rfl rfl rfl (Nat.le_of_ble_eq_true rfl) (Nat.le_of_ble_eq_true rfl) kc_9 ⟨(by decide +kernel), (by decide +kernel), (by decide +kernel), (by decide +kernel), fun _ => am_g_len (by decide)⟩ ?_
  rintro _ _ ⟨rfl, rfl⟩
  refine k_putR dX11_init_34 fl_X11_23 (fun _ => ⟨rfl, _, rfl, rfl⟩) kd_0 (by decide +kernel) (by decide +kernel) (Or.inl ⟨_, rfl⟩) ?_
  refine op_aload_n (k := 0) dX11_init_37 rfl rfl ?_
  refine k_new (n := 15) dX11_init_38 cls_3 tw_236 tw_237 tw_105 fl9_3 rfl kd_15 (fun _ => rfl) (fun _ => rfl) (by decide +kernel) ⟨(by decide +kernel), (by decide +kernel)⟩ ?_
  refine op_dup dX11_init_41 rfl ?_
  refine op_aload_n (k := 0) dX11_init_42 rfl rfl ?_
  refine k_getR (z := 1) dX11_init_43 fl_X11_10 kd_0 (by decide +kernel) (by decide +kernel) (Or.inl ⟨_, rfl⟩) (by decide +kernel) ?_
  refine op_aload_n (k := 0) dX11_init_46 rfl rfl ?_
  refine k_getR (z := 9) dX11_init_47 fl_X11_23 kd_0 (by decide +kernel) (by decide +kernel) (Or.inl ⟨_, rfl⟩) (by decide +kernel) ?_
  refine op_callI (M' := M_X3_init) [.ref 1, .ref 9] (S0 := [.ref 15, .ref 0]) dX11_init_50 tw_238 ok_X3_init tw_239 rfl rfl rfl rfl (Nat.le_of_ble_eq_true rfl) (Nat.le_of_ble_eq_true rfl) kc_15 ⟨(by decide +kernel), (by decide +kernel), (by decide +kernel), (by decide +kernel), fun _ => am_g_len (by decide)⟩ ?_
  rintro _ _ ⟨rfl, rfl⟩
  refine k_putR dX11_init_53 fl_X11_31 (fun _ => ⟨rfl, _, rfl, rfl⟩) kd_0 (by decide +kernel) (by decide +kernel) (Or.inl ⟨_, rfl⟩) ?_
  refine op_aload_n (k := 0) dX11_init_56 rfl rfl ?_
  refine k_new (n := 17) dX11_init_57 cls_4 tw_255 tw_256 tw_106 fl9_4 rfl kd_17 (fun _ => rfl) (fun _ => rfl) (by decide +kernel) ⟨(by decide +kernel), (by decide +kernel)⟩ ?_
  refine op_dup dX11_init_60 rfl ?_
  refine op_aload_n (k := 0) dX11_init_61 rfl rfl ?_
  refine k_getR (z := 1) dX11_init_62 fl_X11_10 kd_0 (by decide +kernel) (by decide +kernel) (Or.inl ⟨_, rfl⟩) (by decide +kernel) ?_
  refine op_callI (M' := M_X4_init) [.ref 1] (S0 := [.ref 17, .ref 0]) dX11_init_65 tw_257 ok_X4_init tw_258 rfl rfl rfl rfl (Nat.le_of_ble_eq_true rfl) (Nat.le_of_ble_eq_true rfl) kc_17 ⟨(by decide +kernel), (by decide +kernel), (by decide +kernel), (by decide +kernel), fun _ => am_g_len (by decide)⟩ ?_
  rintro _ _ ⟨rfl, rfl⟩
  refine k_putR dX11_init_68 fl_X11_40 (fun _ => ⟨rfl, _, rfl, rfl⟩) kd_0 (by decide +kernel) (by decide +kernel) (Or.inl ⟨_, rfl⟩) ?_
  refine op_aload_n (k := 0) dX11_init_71 rfl rfl ?_
  refine k_new (n := 19) dX11_init_72 cls_5 tw_273 tw_274 tw_107 fl9_5 rfl kd_19 (fun _ => rfl) (fun _ => rfl) (by decide +kernel) ⟨(by decide +kernel), (by decide +kernel)⟩ ?_
  refine op_dup dX11_init_75 rfl ?_
  refine op_callIN (M' := M_X5_init) [] (S0 := [.ref 19, .ref 0]) dX11_init_76 tn_275 ok_X5_init tw_276 rfl rfl rfl rfl (Nat.le_of_ble_eq_true rfl) (Nat.le_of_ble_eq_true rfl) kc_19 ⟨(by decide +kernel), (by decide +kernel), (by decide +kernel), (by decide +kernel), fun _ => am_g_len (by decide)⟩ ?_
  rintro _ _ ⟨rfl, rfl⟩
  refine k_putR dX11_init_79 fl_X11_47 (fun _ => ⟨rfl, _, rfl, rfl⟩) kd_0 (by decide +kernel) (by decide +kernel) (Or.inl ⟨_, rfl⟩) ?_
  refine op_aload_n (k := 0) dX11_init_82 rfl rfl ?_
  refine k_new (n := 27) dX11_init_83 cls_7 tw_298 tw_299 tw_108 fl9_7 rfl kd_27 (fun _ => rfl) (fun _ => rfl) (by decide +kernel) ⟨(by decide +kernel), (by decide +kernel)⟩ ?_
  refine op_dup dX11_init_86 rfl ?_
  refine op_aload_n (k := 0) dX11_init_87 rfl rfl ?_
  refine k_getR (z := 3) dX11_init_88 fl_X11_19 kd_0 (by decide +kernel) (by decide +kernel) (Or.inl ⟨_, rfl⟩) (by decide +kernel) ?_
  refine op_aload_n (k := 0) dX11_init_91 rfl rfl ?_
  refine k_getR (z := 19) dX11_init_92 fl_X11_47 kd_0 (by decide +kernel) (by decide +kernel) (Or.inl ⟨_, rfl⟩) (by decide +kernel) ?_
  refine op_callI (M' := M_X7_init) [.ref 3, .ref 19] (S0 := [.ref 27, .ref 0]) dX11_init_95 tw_300 ok_X7_init tw_301 rfl rfl rfl rfl (Nat.le_of_ble_eq_true rfl) (Nat.le_of_ble_eq_true rfl) kc_27 ⟨(by decide +kernel), (by decide +kernel), (by decide +kernel), (by decide +kernel), fun _ => am_g_len (by decide)⟩ ?_
  rintro _ _ ⟨rfl, rfl⟩
  refine k_putR dX11_init_98 fl_X11_56 (fun _ => ⟨rfl, _, rfl, rfl⟩) kd_0 (by decide +kernel) (by decide +kernel) (Or.inl ⟨_, rfl⟩) ?_
  refine op_aload_n (k := 0) dX11_init_101 rfl rfl ?_
  refine k_new (n := 30) dX11_init_102 cls_9 tw_320 tw_321 tw_109 fl9_9 rfl kd_30 (fun _ => rfl) (fun _ => rfl) (by decide +kernel) ⟨(by decide +kernel), (by decide +kernel)⟩ ?_
  refine op_dup dX11_init_105 rfl ?_
  refine op_aload_n (k := 0) dX11_init_106 rfl rfl ?_
  refine k_getR (z := 3) dX11_init_107 fl_X11_19 kd_0 (by decide +kernel) (by decide +kernel) (Or.inl ⟨_, rfl⟩) (by decide +kernel) ?_
  refine op_callI (M' := M_X9_init) [.ref 3] (S0 := [.ref 30, .ref 0]) dX11_init_110 tw_322 ok_X9_init tw_323 rfl rfl rfl rfl (Nat.le_of_ble_eq_true rfl) (Nat.le_of_ble_eq_true rfl) kc_30 ⟨(by decide +kernel), (by decide +kernel), (by decide +kernel), (by decide +kernel), fun _ => am_g_len (by decide)⟩ ?_
  rintro _ _ ⟨rfl, rfl⟩
  refine k_putR dX11_init_113 fl_X11_65 (fun _ => ⟨rfl, _, rfl, rfl⟩) kd_0 (by decide +kernel) (by decide +kernel) (Or.inl ⟨_, rfl⟩) ?_
  refine op_aload_n (k := 0) dX11_init_116 rfl rfl ?_
  refine k_new (n := 31) dX11_init_117 cls_6 tw_341 tw_342 tw_110 fl9_6 rfl kd_31 (fun _ => rfl) (fun _ => rfl) (by decide +kernel) ⟨(by decide +kernel), (by decide +kernel)⟩ ?_
  refine op_dup dX11_init_120 rfl ?_
  refine op_aload_n (k := 0) dX11_init_121 rfl rfl ?_
  refine k_getR (z := 3) dX11_init_122 fl_X11_19 kd_0 (by decide +kernel) (by decide +kernel) (Or.inl ⟨_, rfl⟩) (by decide +kernel) ?_
  refine op_aload_n (k := 0) dX11_init_125 rfl rfl ?_
  refine k_getR (z := 27) dX11_init_126 fl_X11_56 kd_0 (by decide +kernel) (by decide +kernel) (Or.inl ⟨_, rfl⟩) (by decide +kernel) ?_
  refine op_callI (M' := M_X6_init) [.ref 3, .ref 27] (S0 := [.ref 31, .ref 0]) dX11_init_129 tw_343 ok_X6_init tw_344 rfl rfl rfl rfl (Nat.le_of_ble_eq_true rfl) (Nat.le_of_ble_eq_true rfl) kc_31 ⟨(by decide +kernel), (by decide +kernel), (by decide +kernel), (by decide +kernel), fun _ => am_g_len (by decide)⟩ ?_
  rintro _ _ ⟨rfl, rfl⟩
  refine k_putR dX11_init_132 fl_X11_74 (fun _ => ⟨rfl, _, rfl, rfl⟩) kd_0 (by decide +kernel) (by decide +kernel) (Or.inl ⟨_, rfl⟩) ?_
  refine op_aload_n (k := 0) dX11_init_135 rfl rfl ?_
  refine k_new (n := 36) dX11_init_136 cls_1 tw_389 tw_390 tw_111 fl9_1 rfl kd_36 (fun _ => rfl) (fun _ => rfl) (by decide +kernel) ⟨(by decide +kernel), (by decide +kernel)⟩ ?_
  refine op_dup dX11_init_139 rfl ?_
  refine op_aload_n (k := 0) dX11_init_140 rfl rfl ?_
  refine k_getR (z := 3) dX11_init_141 fl_X11_19 kd_0 (by decide +kernel) (by decide +kernel) (Or.inl ⟨_, rfl⟩) (by decide +kernel) ?_
  refine op_aload_n (k := 0) dX11_init_144 rfl rfl ?_
  refine k_getR (z := 27) dX11_init_145 fl_X11_56 kd_0 (by decide +kernel) (by decide +kernel) (Or.inl ⟨_, rfl⟩) (by decide +kernel) ?_
  refine op_callI (M' := M_X1_init) [.ref 3, .ref 27] (S0 := [.ref 36, .ref 0]) dX11_init_148 tw_391 ok_X1_init tw_392 rfl rfl rfl rfl (Nat.le_of_ble_eq_true rfl) (Nat.le_of_ble_eq_true rfl) kc_36 ⟨(by decide +kernel), (by decide +kernel), (by decide +kernel), (by decide +kernel), fun _ => am_g_len (by decide)⟩ ?_
  rintro _ _ ⟨rfl, rfl⟩
  refine k_putR dX11_init_151 fl_X11_81 (fun _ => ⟨rfl, _, rfl, rfl⟩) kd_0 (by decide +kernel) (by decide +kernel) (Or.inl ⟨_, rfl⟩) ?_
  refine op_aload_n (k := 0) dX11_init_154 rfl rfl ?_
  refine k_new (n := 37) dX11_init_155 cls_8 tw_418 tw_419 tw_112 fl9_8 rfl kd_37 (fun _ => rfl) (fun _ => rfl) (by decide +kernel) ⟨(by decide +kernel), (by decide +kernel)⟩ ?_
  refine op_dup dX11_init_158 rfl ?_
  refine op_aload_n (k := 0) dX11_init_159 rfl rfl ?_
  refine k_getR (z := 3) dX11_init_160 fl_X11_19 kd_0 (by decide +kernel) (by decide +kernel) (Or.inl ⟨_, rfl⟩) (by decide +kernel) ?_
  refine op_aload_n (k := 0) dX11_init_163 rfl rfl ?_
  refine k_getR (z := 27) dX11_init_164 fl_X11_56 kd_0 (by decide +kernel) (by decide +kernel) (Or.inl ⟨_, rfl⟩) (by decide +kernel) ?_
  refine op_callI (M' := M_X8_init) [.ref 3, .ref 27] (S0 := [.ref 37, .ref 0]) dX11_init_167 tw_420 ok_X8_init tw_421 rfl rfl rfl rfl (Nat.le_of_ble_eq_true rfl) (Nat.le_of_ble_eq_true rfl) kc_37 ⟨(by decide +kernel), (by decide +kernel), (by decide +kernel), (by decide +kernel), fun _ => am_g_len (by decide)⟩ ?_
  rintro _ _ ⟨rfl, rfl⟩
  refine k_putR dX11_init_170 fl_X11_88 (fun _ => ⟨rfl, _, rfl, rfl⟩) kd_0 (by decide +kernel) (by decide +kernel) (Or.inl ⟨_, rfl⟩) ?_
  refine op_aload_n (k := 0) dX11_init_173 rfl rfl ?_
  refine k_new (n := 41) dX11_init_174 cls_0 tw_444 tw_445 tw_113 fl9_0 rfl kd_41 (fun _ => rfl) (fun _ => rfl) (by decide +kernel) ⟨(by decide +kernel), (by decide +kernel)⟩ ?_
  refine op_dup dX11_init_177 rfl ?_
  refine op_callIN (M' := M_X0_init) [] (S0 := [.ref 41, .ref 0]) dX11_init_178 tn_446 ok_X0_init tw_447 rfl rfl rfl rfl (Nat.le_of_ble_eq_true rfl) (Nat.le_of_ble_eq_true rfl) kc_41 ⟨(by decide +kernel), (by decide +kernel), (by decide +kernel), (by decide +kernel), fun _ => am_g_len (by decide)⟩ ?_
  rintro _ _ ⟨rfl, rfl⟩
  refine k_putR dX11_init_181 fl_X11_95 (fun _ => ⟨rfl, _, rfl, rfl⟩) kd_0 (by decide +kernel) (by decide +kernel) (Or.inl ⟨_, rfl⟩) ?_
  refine op_aload_n (k := 0) dX11_init_184 rfl rfl ?_
  refine k_new (n := 44) dX11_init_185 cls_2 tw_161 tw_162 tw_104 fl9_2 rfl kd_44 (fun _ => rfl) (fun _ => rfl) (by decide +kernel) ⟨(by decide +kernel), (by decide +kernel)⟩ ?_
  refine op_dup dX11_init_188 rfl ?_
  refine op_callIN (M' := M_X2_init) [] (S0 := [.ref 44, .ref 0]) dX11_init_189 tn_163 ok_X2_init tw_164 rfl rfl rfl rfl (Nat.le_of_ble_eq_true rfl) (Nat.le_of_ble_eq_true rfl) kc_44 ⟨(by decide +kernel), (by decide +kernel), (by decide +kernel), (by decide +kernel), fun _ => am_g_len (by decide)⟩ ?_
  rintro _ _ ⟨rfl, rfl⟩
  refine k_putR dX11_init_192 fl_X11_99 (fun _ => ⟨rfl, _, rfl, rfl⟩) kd_0 (by decide +kernel) (by decide +kernel) (Or.inl ⟨_, rfl⟩) ?_
  refine op_aload_n (k := 0) dX11_init_195 rfl rfl ?_
  refine k_new (n := 50) dX11_init_196 cls_0 tw_444 tw_445 tw_113 fl9_0 rfl kd_50 (fun _ => rfl) (fun _ => rfl) (by decide +kernel) ⟨(by decide +kernel), (by decide +kernel)⟩ ?_
  refine op_dup dX11_init_199 rfl ?_
  refine op_callIN (M' := M_X0_init) [] (S0 := [.ref 50, .ref 0]) dX11_init_200 tn_446 ok_X0_init tw_447 rfl rfl rfl rfl (Nat.le_of_ble_eq_true rfl) (Nat.le_of_ble_eq_true rfl) kc_50 ⟨(by decide +kernel), (by decide +kernel), (by decide +kernel), (by decide +kernel), fun _ => am_g_len (by decide)⟩ ?_
  rintro _ _ ⟨rfl, rfl⟩
  refine k_putR dX11_init_203 fl_X11_102 (fun _ => ⟨rfl, _, rfl, rfl⟩) kd_0 (by decide +kernel) (by decide +kernel) (Or.inl ⟨_, rfl⟩) ?_
  refine op_aload_n (k := 0) dX11_init_206 rfl rfl ?_
  refine op_iconst (v := 0) dX11_init_207 (by decide +kernel) ?_
  refine op_putZ dX11_init_208 fl_X11_105 (am_g_at (by decide +kernel) kd_0) (by decide +kernel) rfl (Or.inl rfl) ?_
  rw [am_u_id (f := am_I0) (i := 0) (k := 14) (x := 0) rfl]
  refine op_aload_n (k := 0) dX11_init_211 rfl rfl ?_
  refine op_iconst (v := 3) dX11_init_212 (by decide +kernel) ?_
  refine op_putI dX11_init_213 fl_X11_109 (am_g_at (by decide +kernel) kd_0) (by decide +kernel) rfl ?_
  change AW _ _ _ _ _ _ _ _ (am_I1, _, _) _ _
  exact op_vret dX11_init_216 rfl ⟨rfl, rfl⟩
set_option maxHeartbeats 4000000 in
theorem kc_53 {l : Launch} {ρ : am_R} {d : Nat} : AW l ρ (d + 1) M_X12_init 0 [(0, .ref 53)] [] (am_g 54) (am_I1, am_J0, am_lr [((0, 13), 50), ((50, 1), 52), ((50, 0), 51), ((0, 12), 44), ((44, 9), 49), ((44, 8), 48), ((44, 7), 47), ((44, 6), 46), ((44, 5), 45), ((0, 11), 41), ((41, 1), 43), ((41, 0), 42), ((0, 10), 37), ((37, 1), 27), ((37, 0), 3), ((37, 4), 40), ((37, 3), 39), ((37, 2), 38), ((0, 9), 36), ((36, 1), 27), ((36, 0), 3), ((0, 8), 31), ((31, 1), 27), ((31, 0), 3), ((31, 5), 35), ((31, 4), 34), ((31, 3), 33), ((31, 2), 32), ((0, 7), 30), ((30, 0), 3), ((0, 6), 27), ((27, 1), 19), ((27, 0), 3), ((27, 4), 29), ((27, 3), 28), ((0, 5), 19), ((19, 2), 26), ((19, 1), 25), ((19, 0), 20), ((20, 3), 24), ((20, 2), 23), ((20, 1), 22), ((20, 0), 21), ((0, 4), 17), ((17, 0), 1), ((17, 1), 18), ((0, 3), 15), ((15, 1), 9), ((15, 0), 1), ((15, 2), 16), ((0, 2), 9), ((9, 9), 14), ((9, 8), 13), ((9, 7), 12), ((9, 6), 11), ((9, 5), 10), ((0, 1), 3), ((3, 9), 8), ((3, 8), 7), ((3, 7), 6), ((3, 6), 5), ((3, 5), 4), ((0, 0), 1), ((1, 0), 2)]) (am_g 80) (fun v H' => v = [] ∧ H' = (am_I2, am_J0, am_lr [((53, 56), 79), ((53, 55), 78), ((53, 54), 77), ((53, 53), 76), ((53, 50), 75), ((53, 49), 74), ((53, 47), 73), ((53, 46), 72), ((53, 45), 71), ((53, 40), 70), ((53, 39), 69), ((53, 35), 68), ((53, 34), 67), ((53, 32), 66), ((53, 25), 65), ((53, 24), 64), ((53, 23), 63), ((53, 22), 62), ((53, 21), 61), ((53, 20), 60), ((53, 19), 59), ((53, 18), 58), ((53, 16), 1011), ((53, 15), 1010), ((53, 5), 54), ((53, 4), 57), ((53, 3), 56), ((53, 2), 55), ((53, 1), 54), ((0, 13), 50), ((50, 1), 52), ((50, 0), 51), ((0, 12), 44), ((44, 9), 49), ((44, 8), 48), ((44, 7), 47), ((44, 6), 46), ((44, 5), 45), ((0, 11), 41), ((41, 1), 43), ((41, 0), 42), ((0, 10), 37), ((37, 1), 27), ((37, 0), 3), ((37, 4), 40), ((37, 3), 39), ((37, 2), 38), ((0, 9), 36), ((36, 1), 27), ((36, 0), 3), ((0, 8), 31), ((31, 1), 27), ((31, 0), 3), ((31, 5), 35), ((31, 4), 34), ((31, 3), 33), ((31, 2), 32), ((0, 7), 30), ((30, 0), 3), ((0, 6), 27), ((27, 1), 19), ((27, 0), 3), ((27, 4), 29), ((27, 3), 28), ((0, 5), 19), ((19, 2), 26), ((19, 1), 25), ((19, 0), 20), ((20, 3), 24), ((20, 2), 23), ((20, 1), 22), ((20, 0), 21), ((0, 4), 17), ((17, 0), 1), ((17, 1), 18), ((0, 3), 15), ((15, 1), 9), ((15, 0), 1), ((15, 2), 16), ((0, 2), 9), ((9, 9), 14), ((9, 8), 13), ((9, 7), 12), ((9, 6), 11), ((9, 5), 10), ((0, 1), 3), ((3, 9), 8), ((3, 8), 7), ((3, 7), 6), ((3, 6), 5), ((3, 5), 4), ((0, 0), 1), ((1, 0), 2)])) := by
  refine op_aload_n (k := 0) dX12_init_0 rfl rfl ?_
  refine op_objInit dX12_init_1 tw_1183 tw_133 twl_134 (Nat.le_of_ble_eq_true rfl) ?_
  refine op_aload_n (k := 0) dX12_init_4 rfl rfl ?_
  refine op_sipush (v := 160) dX12_init_5 (by decide +kernel) ?_
  refine k_newb (n := 54) (N := 160) (idx := 0) dX12_init_8 tw_160 (by decide +kernel) (by decide +kernel) kd_54 (by decide +kernel) (fun k => by simp [am_I1, am_I2, am_I0, am_u]) (fun _ => rfl) (by decide +kernel) ⟨(by decide +kernel), (by decide +kernel)⟩ ?_
  refine k_putR dX12_init_10 fl_X12_9 (fun _ => ⟨rfl, _, rfl, rfl⟩) kd_53 (by decide +kernel) (by decide +kernel) (Or.inr ⟨_, rfl⟩) ?_
  refine op_aload_n (k := 0) dX12_init_13 rfl rfl ?_
  refine op_sipush (v := 640) dX12_init_14 (by decide +kernel) ?_
  refine k_newb (n := 55) (N := 640) (idx := 0) dX12_init_17 tw_160 (by decide +kernel) (by decide +kernel) kd_55 (by decide +kernel) (fun k => by simp [am_I1, am_I2, am_I0, am_u]) (fun _ => rfl) (by decide +kernel) ⟨(by decide +kernel), (by decide +kernel)⟩ ?_
  refine k_putR dX12_init_19 fl_X12_13 (fun _ => ⟨rfl, _, rfl, rfl⟩) kd_53 (by decide +kernel) (by decide +kernel) (Or.inr ⟨_, rfl⟩) ?_
  refine op_aload_n (k := 0) dX12_init_22 rfl rfl ?_
  refine op_iconst (v := 4) dX12_init_23 (by decide +kernel) ?_
  refine k_newi (n := 56) (N := 4) (idx := 0) dX12_init_24 tw_235 (by decide +kernel) (by decide +kernel) kd_56 (by decide +kernel) (fun k => by simp [am_I1, am_I2, am_I0, am_u]) (fun _ => rfl) (by decide +kernel) ⟨(by decide +kernel), (by decide +kernel)⟩ ?_
  refine k_putR dX12_init_26 fl_X12_16 (fun _ => ⟨rfl, _, rfl, rfl⟩) kd_53 (by decide +kernel) (by decide +kernel) (Or.inr ⟨_, rfl⟩) ?_
  refine op_aload_n (k := 0) dX12_init_29 rfl rfl ?_
  refine op_sipush (v := 128) dX12_init_30 (by decide +kernel) ?_
  refine k_newi (n := 57) (N := 128) (idx := 0) dX12_init_33 tw_235 (by decide +kernel) (by decide +kernel) kd_57 (by decide +kernel) (fun k => by simp [am_I1, am_I2, am_I0, am_u]) (fun _ => rfl) (by decide +kernel) ⟨(by decide +kernel), (by decide +kernel)⟩ ?_
  refine k_putR dX12_init_35 fl_X12_20 (fun _ => ⟨rfl, _, rfl, rfl⟩) kd_53 (by decide +kernel) (by decide +kernel) (Or.inr ⟨_, rfl⟩) ?_
  refine op_aload_n (k := 0) dX12_init_38 rfl rfl ?_
  refine op_aload_n (k := 0) dX12_init_39 rfl rfl ?_
  refine k_getR (z := 54) dX12_init_40 fl_X12_9 kd_53 (by decide +kernel) (by decide +kernel) (Or.inr ⟨_, rfl⟩) (by decide +kernel) ?_
  refine k_putR dX12_init_43 fl_X12_23 (fun z => by cases z) kd_53 (by decide +kernel) (by decide +kernel) (Or.inr ⟨_, rfl⟩) ?_
  refine op_aload_n (k := 0) dX12_init_46 rfl rfl ?_
  refine op_ldcS (i := 0) dX12_init_47 rfl rfl rfl ?_
  refine k_putR dX12_init_49 fl_X12_28 (fun _ => ⟨rfl, _, rfl, rfl⟩) kd_53 (by decide +kernel) (by decide +kernel) (Or.inl ⟨_, rfl⟩) ?_
  refine op_aload_n (k := 0) dX12_init_52 rfl rfl ?_
  refine op_ldcS (i := 1) dX12_init_53 rfl rfl rfl ?_
  refine k_putR dX12_init_55 fl_X12_34 (fun _ => ⟨rfl, _, rfl, rfl⟩) kd_53 (by decide +kernel) (by decide +kernel) (Or.inl ⟨_, rfl⟩) ?_
  refine op_aload_n (k := 0) dX12_init_58 rfl rfl ?_
  refine op_bipush (v := 10) dX12_init_59 (by decide +kernel) ?_
  refine k_newi (n := 58) (N := 10) (idx := 0) dX12_init_61 tw_235 (by decide +kernel) (by decide +kernel) kd_58 (by decide +kernel) (fun k => by simp [am_I1, am_I2, am_I0, am_u]) (fun _ => rfl) (by decide +kernel) ⟨(by decide +kernel), (by decide +kernel)⟩ ?_
  refine k_putR dX12_init_63 fl_X12_37 (fun _ => ⟨rfl, _, rfl, rfl⟩) kd_53 (by decide +kernel) (by decide +kernel) (Or.inr ⟨_, rfl⟩) ?_
  refine op_aload_n (k := 0) dX12_init_66 rfl rfl ?_
  refine op_bipush (v := 10) dX12_init_67 (by decide +kernel) ?_
  refine k_newi (n := 59) (N := 10) (idx := 0) dX12_init_69 tw_235 (by decide +kernel) (by decide +kernel) kd_59 (by decide +kernel) (fun k => by simp [am_I1, am_I2, am_I0, am_u]) (fun _ => rfl) (by decide +kernel) ⟨(by decide +kernel), (by decide +kernel)⟩ ?_
  refine k_putR dX12_init_71 fl_X12_40 (fun _ => ⟨rfl, _, rfl, rfl⟩) kd_53 (by decide +kernel) (by decide +kernel) (Or.inr ⟨_, rfl⟩) ?_
  refine op_aload_n (k := 0) dX12_init_74 rfl rfl ?_
  refine op_bipush (v := 18) dX12_init_75 (by decide +kernel) ?_
  refine k_newi (n := 60) (N := 18) (idx := 0) dX12_init_77 tw_235 (by decide +kernel) (by decide +kernel) kd_60 (by decide +kernel) (fun k => by simp [am_I1, am_I2, am_I0, am_u]) (fun _ => rfl) (by decide +kernel) ⟨(by decide +kernel), (by decide +kernel)⟩ ?_
  refine k_putR dX12_init_79 fl_X12_43 (fun _ => ⟨rfl, _, rfl, rfl⟩) kd_53 (by decide +kernel) (by decide +kernel) (Or.inr ⟨_, rfl⟩) ?_
  refine op_aload_n (k := 0) dX12_init_82 rfl rfl ?_
  refine op_iconst (v := 3) dX12_init_83 (by decide +kernel) ?_
  refine k_newi (n := 61) (N := 3) (idx := 0) dX12_init_84 tw_235 (by decide +kernel) (by decide +kernel) kd_61 (by decide +kernel) (fun k => by simp [am_I1, am_I2, am_I0, am_u]) (fun _ => rfl) (by decide +kernel) ⟨(by decide +kernel), (by decide +kernel)⟩ ?_
  refine k_putR dX12_init_86 fl_X12_46 (fun _ => ⟨rfl, _, rfl, rfl⟩) kd_53 (by decide +kernel) (by decide +kernel) (Or.inr ⟨_, rfl⟩) ?_
  refine op_aload_n (k := 0) dX12_init_89 rfl rfl ?_
  refine op_bipush (v := 10) dX12_init_90 (by decide +kernel) ?_
  refine k_newi (n := 62) (N := 10) (idx := 0) dX12_init_92 tw_235 (by decide +kernel) (by decide +kernel) kd_62 (by decide +kernel) (fun k => by simp [am_I1, am_I2, am_I0, am_u]) (fun _ => rfl) (by decide +kernel) ⟨(by decide +kernel), (by decide +kernel)⟩ ?_
  refine k_putR dX12_init_94 fl_X12_49 (fun _ => ⟨rfl, _, rfl, rfl⟩) kd_53 (by decide +kernel) (by decide +kernel) (Or.inr ⟨_, rfl⟩) ?_
  refine op_aload_n (k := 0) dX12_init_97 rfl rfl ?_
  refine op_bipush (v := 10) dX12_init_98 (by decide +kernel) ?_
  refine k_newi (n := 63) (N := 10) (idx := 0) dX12_init_100 tw_235 (by decide +kernel) (by decide +kernel) kd_63 (by decide +kernel) (fun k => by simp [am_I1, am_I2, am_I0, am_u]) (fun _ => rfl) (by decide +kernel) ⟨(by decide +kernel), (by decide +kernel)⟩ ?_
  refine k_putR dX12_init_102 fl_X12_52 (fun _ => ⟨rfl, _, rfl, rfl⟩) kd_53 (by decide +kernel) (by decide +kernel) (Or.inr ⟨_, rfl⟩) ?_
  refine op_aload_n (k := 0) dX12_init_105 rfl rfl ?_
  refine op_bipush (v := 18) dX12_init_106 (by decide +kernel) ?_
  refine k_newi (n := 64) (N := 18) (idx := 0) dX12_init_108 tw_235 (by decide +kernel) (by decide +kernel) kd_64 (by decide +kernel) (fun k => by simp [am_I1, am_I2, am_I0, am_u]) (fun _ => rfl) (by decide +kernel) ⟨(by decide +kernel), (by decide +kernel)⟩ ?_
  refine k_putR dX12_init_110 fl_X12_55 (fun _ => ⟨rfl, _, rfl, rfl⟩) kd_53 (by decide +kernel) (by decide +kernel) (Or.inr ⟨_, rfl⟩) ?_
  refine op_aload_n (k := 0) dX12_init_113 rfl rfl ?_
  refine op_iconst (v := 3) dX12_init_114 (by decide +kernel) ?_
  refine k_newi (n := 65) (N := 3) (idx := 0) dX12_init_115 tw_235 (by decide +kernel) (by decide +kernel) kd_65 (by decide +kernel) (fun k => by simp [am_I1, am_I2, am_I0, am_u]) (fun _ => rfl) (by decide +kernel) ⟨(by decide +kernel), (by decide +kernel)⟩ ?_
  refine k_putR dX12_init_117 fl_X12_58 (fun _ => ⟨rfl, _, rfl, rfl⟩) kd_53 (by decide +kernel) (by decide +kernel) (Or.inr ⟨_, rfl⟩) ?_
  refine op_aload_n (k := 0) dX12_init_120 rfl rfl ?_
  refine op_iconst (v := 3) dX12_init_121 (by decide +kernel) ?_
  refine op_putI dX12_init_122 fl_X12_61 (am_g_at (by decide +kernel) kd_53) (by decide +kernel) rfl ?_
  change AW _ _ _ _ _ _ _ _ (am_I2, _, _) _ _
  refine op_aload_n (k := 0) dX12_init_125 rfl rfl ?_
  refine op_bipush (v := 6) dX12_init_126 (by decide +kernel) ?_
  refine k_newl (n := 66) (N := 6) (idx := 0) dX12_init_128 tw_388 (by decide +kernel) (by decide +kernel) kd_66 (by decide +kernel) (fun k => by simp [am_I1, am_I2, am_I0, am_u]) (fun _ => rfl) (by decide +kernel) ⟨(by decide +kernel), (by decide +kernel)⟩ ?_
  refine k_putR dX12_init_130 fl_X12_65 (fun _ => ⟨rfl, _, rfl, rfl⟩) kd_53 (by decide +kernel) (by decide +kernel) (Or.inr ⟨_, rfl⟩) ?_
  refine op_aload_n (k := 0) dX12_init_133 rfl rfl ?_
  refine op_bipush (v := 6) dX12_init_134 (by decide +kernel) ?_
  refine k_newi (n := 67) (N := 6) (idx := 0) dX12_init_136 tw_235 (by decide +kernel) (by decide +kernel) kd_67 (by decide +kernel) (fun k => by simp [am_I1, am_I2, am_I0, am_u]) (fun _ => rfl) (by decide +kernel) ⟨(by decide +kernel), (by decide +kernel)⟩ ?_
  refine k_putR dX12_init_138 fl_X12_69 (fun _ => ⟨rfl, _, rfl, rfl⟩) kd_53 (by decide +kernel) (by decide +kernel) (Or.inr ⟨_, rfl⟩) ?_
  refine op_aload_n (k := 0) dX12_init_141 rfl rfl ?_
  refine op_bipush (v := 6) dX12_init_142 (by decide +kernel) ?_
  refine k_newi (n := 68) (N := 6) (idx := 0) dX12_init_144 tw_235 (by decide +kernel) (by decide +kernel) kd_68 (by decide +kernel) (fun k => by simp [am_I1, am_I2, am_I0, am_u]) (fun _ => rfl) (by decide +kernel) ⟨(by decide +kernel), (by decide +kernel)⟩ ?_
  refine k_putR dX12_init_146 fl_X12_72 (fun _ => ⟨rfl, _, rfl, rfl⟩) kd_53 (by decide +kernel) (by decide +kernel) (Or.inr ⟨_, rfl⟩) ?_
  refine op_aload_n (k := 0) dX12_init_149 rfl rfl ?_
  refine op_bipush (v := 6) dX12_init_150 (by decide +kernel) ?_
  refine k_newi (n := 69) (N := 6) (idx := 0) dX12_init_152 tw_235 (by decide +kernel) (by decide +kernel) kd_69 (by decide +kernel) (fun k => by simp [am_I1, am_I2, am_I0, am_u]) (fun _ => rfl) (by decide +kernel) ⟨(by decide +kernel), (by decide +kernel)⟩ ?_
  refine k_putR dX12_init_154 fl_X12_75 (fun _ => ⟨rfl, _, rfl, rfl⟩) kd_53 (by decide +kernel) (by decide +kernel) (Or.inr ⟨_, rfl⟩) ?_
  refine op_aload_n (k := 0) dX12_init_157 rfl rfl ?_
  refine op_bipush (v := 7) dX12_init_158 (by decide +kernel) ?_
  refine k_newi (n := 70) (N := 7) (idx := 0) dX12_init_160 tw_235 (by decide +kernel) (by decide +kernel) kd_70 (by decide +kernel) (fun k => by simp [am_I1, am_I2, am_I0, am_u]) (fun _ => rfl) (by decide +kernel) ⟨(by decide +kernel), (by decide +kernel)⟩ ?_
  refine k_putR dX12_init_162 fl_X12_78 (fun _ => ⟨rfl, _, rfl, rfl⟩) kd_53 (by decide +kernel) (by decide +kernel) (Or.inr ⟨_, rfl⟩) ?_
  refine op_aload_n (k := 0) dX12_init_165 rfl rfl ?_
  refine op_bipush (v := 10) dX12_init_166 (by decide +kernel) ?_
  refine k_newi (n := 71) (N := 10) (idx := 0) dX12_init_168 tw_235 (by decide +kernel) (by decide +kernel) kd_71 (by decide +kernel) (fun k => by simp [am_I1, am_I2, am_I0, am_u]) (fun _ => rfl) (by decide +kernel) ⟨(by decide +kernel), (by decide +kernel)⟩ ?_
  refine k_putR dX12_init_170 fl_X12_81 (fun _ => ⟨rfl, _, rfl, rfl⟩) kd_53 (by decide +kernel) (by decide +kernel) (Or.inr ⟨_, rfl⟩) ?_
  refine op_aload_n (k := 0) dX12_init_173 rfl rfl ?_
  refine op_bipush (v := 10) dX12_init_174 (by decide +kernel) ?_
  refine k_newi (n := 72) (N := 10) (idx := 0) dX12_init_176 tw_235 (by decide +kernel) (by decide +kernel) kd_72 (by decide +kernel) (fun k => by simp [am_I1, am_I2, am_I0, am_u]) (fun _ => rfl) (by decide +kernel) ⟨(by decide +kernel), (by decide +kernel)⟩ ?_
  refine k_putR dX12_init_178 fl_X12_84 (fun _ => ⟨rfl, _, rfl, rfl⟩) kd_53 (by decide +kernel) (by decide +kernel) (Or.inr ⟨_, rfl⟩) ?_
  refine op_aload_n (k := 0) dX12_init_181 rfl rfl ?_
  refine op_bipush (v := 10) dX12_init_182 (by decide +kernel) ?_
  refine k_newi (n := 73) (N := 10) (idx := 0) dX12_init_184 tw_235 (by decide +kernel) (by decide +kernel) kd_73 (by decide +kernel) (fun k => by simp [am_I1, am_I2, am_I0, am_u]) (fun _ => rfl) (by decide +kernel) ⟨(by decide +kernel), (by decide +kernel)⟩ ?_
  refine k_putR dX12_init_186 fl_X12_87 (fun _ => ⟨rfl, _, rfl, rfl⟩) kd_53 (by decide +kernel) (by decide +kernel) (Or.inr ⟨_, rfl⟩) ?_
  refine op_aload_n (k := 0) dX12_init_189 rfl rfl ?_
  refine op_bipush (v := 6) dX12_init_190 (by decide +kernel) ?_
  refine k_newl (n := 74) (N := 6) (idx := 0) dX12_init_192 tw_388 (by decide +kernel) (by decide +kernel) kd_74 (by decide +kernel) (fun k => by simp [am_I1, am_I2, am_I0, am_u]) (fun _ => rfl) (by decide +kernel) ⟨(by decide +kernel), (by decide +kernel)⟩ ?_
  refine k_putR dX12_init_194 fl_X12_90 (fun _ => ⟨rfl, _, rfl, rfl⟩) kd_53 (by decide +kernel) (by decide +kernel) (Or.inr ⟨_, rfl⟩) ?_
  refine op_aload_n (k := 0) dX12_init_197 rfl rfl ?_
  refine op_sipush (v := 240) dX12_init_198 (by decide +kernel) ?_
  refine k_newl (n := 75) (N := 240) (idx := 0) dX12_init_201 tw_388 (by decide +kernel) (by decide +kernel) kd_75 (by decide +kernel) (fun k => by simp [am_I1, am_I2, am_I0, am_u]) (fun _ => rfl) (by decide +kernel) ⟨(by decide +kernel), (by decide +kernel)⟩ ?_
  refine k_putR dX12_init_203 fl_X12_93 (fun _ => ⟨rfl, _, rfl, rfl⟩) kd_53 (by decide +kernel) (by decide +kernel) (Or.inr ⟨_, rfl⟩) ?_
  refine op_aload_n (k := 0) dX12_init_206 rfl rfl ?_
  refine op_bipush (v := 6) dX12_init_207 (by decide +kernel) ?_
  refine k_newi (n := 76) (N := 6) (idx := 0) dX12_init_209 tw_235 (by decide +kernel) (by decide +kernel) kd_76 (by decide +kernel) (fun k => by simp [am_I1, am_I2, am_I0, am_u]) (fun _ => rfl) (by decide +kernel) ⟨(by decide +kernel), (by decide +kernel)⟩ ?_
  refine k_putR dX12_init_211 fl_X12_96 (fun _ => ⟨rfl, _, rfl, rfl⟩) kd_53 (by decide +kernel) (by decide +kernel) (Or.inr ⟨_, rfl⟩) ?_
  refine op_aload_n (k := 0) dX12_init_214 rfl rfl ?_
  refine op_bipush (v := 10) dX12_init_215 (by decide +kernel) ?_
  refine k_newi (n := 77) (N := 10) (idx := 0) dX12_init_217 tw_235 (by decide +kernel) (by decide +kernel) kd_77 (by decide +kernel) (fun k => by simp [am_I1, am_I2, am_I0, am_u]) (fun _ => rfl) (by decide +kernel) ⟨(by decide +kernel), (by decide +kernel)⟩ ?_
  refine k_putR dX12_init_219 fl_X12_99 (fun _ => ⟨rfl, _, rfl, rfl⟩) kd_53 (by decide +kernel) (by decide +kernel) (Or.inr ⟨_, rfl⟩) ?_
  refine op_aload_n (k := 0) dX12_init_222 rfl rfl ?_
  refine op_bipush (v := 6) dX12_init_223 (by decide +kernel) ?_
  refine k_newl (n := 78) (N := 6) (idx := 0) dX12_init_225 tw_388 (by decide +kernel) (by decide +kernel) kd_78 (by decide +kernel) (fun k => by simp [am_I1, am_I2, am_I0, am_u]) (fun _ => rfl) (by decide +kernel) ⟨(by decide +kernel), (by decide +kernel)⟩ ?_
  refine k_putR dX12_init_227 fl_X12_102 (fun _ => ⟨rfl, _, rfl, rfl⟩) kd_53 (by decide +kernel) (by decide +kernel) (Or.inr ⟨_, rfl⟩) ?_
  refine op_aload_n (k := 0) dX12_init_230 rfl rfl ?_
  refine op_sipush (v := 240) dX12_init_231 (by decide +kernel) ?_
  refine k_newl (n := 79) (N := 240) (idx := 0) dX12_init_234 tw_388 (by decide +kernel) (by decide +kernel) kd_79 (by decide +kernel) (fun k => by simp [am_I1, am_I2, am_I0, am_u]) (fun _ => rfl) (by decide +kernel) ⟨(by decide +kernel), (by decide +kernel)⟩ ?_
  refine k_putR dX12_init_236 fl_X12_105 (fun _ => ⟨rfl, _, rfl, rfl⟩) kd_53 (by decide +kernel) (by decide +kernel) (Or.inr ⟨_, rfl⟩) ?_
  exact op_vret dX12_init_239 rfl ⟨rfl, rfl⟩
def am_le0 : List ((Nat × Nat) × Nat) := [((53, 56), 79), ((53, 55), 78), ((53, 54), 77), ((53, 53), 76), ((53, 50), 75), ((53, 49), 74), ((53, 47), 73), ((53, 46), 72), ((53, 45), 71), ((53, 40), 70), ((53, 39), 69), ((53, 35), 68), ((53, 34), 67), ((53, 32), 66), ((53, 25), 65), ((53, 24), 64), ((53, 23), 63), ((53, 22), 62), ((53, 21), 61), ((53, 20), 60), ((53, 19), 59), ((53, 18), 58), ((53, 16), 1011), ((53, 15), 1010), ((53, 5), 54), ((53, 4), 57), ((53, 3), 56), ((53, 2), 55), ((53, 1), 54), ((0, 13), 50), ((50, 1), 52), ((50, 0), 51), ((0, 12), 44), ((44, 9), 49), ((44, 8), 48), ((44, 7), 47), ((44, 6), 46), ((44, 5), 45), ((0, 11), 41), ((41, 1), 43), ((41, 0), 42), ((0, 10), 37), ((37, 1), 27), ((37, 0), 3), ((37, 4), 40), ((37, 3), 39), ((37, 2), 38), ((0, 9), 36), ((36, 1), 27), ((36, 0), 3), ((0, 8), 31), ((31, 1), 27), ((31, 0), 3), ((31, 5), 35), ((31, 4), 34), ((31, 3), 33), ((31, 2), 32), ((0, 7), 30), ((30, 0), 3), ((0, 6), 27), ((27, 1), 19), ((27, 0), 3), ((27, 4), 29), ((27, 3), 28), ((0, 5), 19), ((19, 2), 26), ((19, 1), 25), ((19, 0), 20), ((20, 3), 24), ((20, 2), 23), ((20, 1), 22), ((20, 0), 21), ((0, 4), 17), ((17, 0), 1), ((17, 1), 18), ((0, 3), 15), ((15, 1), 9), ((15, 0), 1), ((15, 2), 16), ((0, 2), 9), ((9, 9), 14), ((9, 8), 13), ((9, 7), 12), ((9, 6), 11), ((9, 5), 10), ((0, 1), 3), ((3, 9), 8), ((3, 8), 7), ((3, 7), 6), ((3, 6), 5), ((3, 5), 4), ((0, 0), 1), ((1, 0), 2)]
/-- what has been put is what the rows over the made cells take for granted -/
theorem am_lr_sub {l : List ((Nat × Nat) × Nat)} {f : Nat → Nat → Option Nat} (h : ∀ q ∈ l, f q.1.1 q.1.2 = some q.2) {i k z : Nat} (hz : am_lr l i k = some z) : f i k = some z := by
  unfold am_lr at hz
  obtain ⟨q, hq, rfl⟩ := Option.map_eq_some_iff.mp hz
  have h1 := List.find?_some hq
  simp only [Bool.and_eq_true, beq_iff_eq] at h1
  rw [← h1.1, ← h1.2]
  exact h q (List.mem_of_find?_eq_some hq)
theorem am_lr_a : ∀ q ∈ am_le0, am_RT 54 q.1.1 q.1.2 = some q.2 := by decide +kernel
theorem am_lr_b : ∀ q ∈ am_rl, am_lr am_le0 q.1.1 q.1.2 = some q.2 ∨ (q.1.1 = 53 ∧ q.1.2 = 5) := by decide +kernel
theorem am_lr_c : am_lr am_le0 53 5 = some 54 := by decide +kernel
theorem am_lr_RT : am_lr am_le0 = am_RT 54 := by
  funext i k
  cases h : am_lr am_le0 i k with
  | some z => exact (am_lr_sub am_lr_a h).symm
  | none =>
    cases h2 : am_RT 54 i k with
    | none => rfl
    | some z =>
      exfalso
      unfold am_RT at h2
      by_cases e : i = 53 ∧ k = 5
      · rw [e.1, e.2, am_lr_c] at h
        cases h
      · rw [if_neg e] at h2
        obtain ⟨q, hq, -⟩ := Option.map_eq_some_iff.mp (show (am_rl.find? (fun q => q.1.1 == i && q.1.2 == k)).map (fun q => q.2) = some z from h2)
        have h1 := List.find?_some hq
        simp only [Bool.and_eq_true, beq_iff_eq] at h1
        rcases am_lr_b q (List.mem_of_find?_eq_some hq) with q1 | q1
        · rw [h1.1, h1.2, h] at q1
          cases q1
        · exact e ⟨h1.1.symm.trans q1.1, h1.2.symm.trans q1.2⟩
theorem am_g81 : am_g 81 = (am_KD, 81, am_sz 81) := rfl
