theorem dJ0_length_8abf5_0 : decode cJ0_length_8abf5 0 = .ok (.aload_n 0, 1) := by decide +kernel
theorem dJ0_length_8abf5_1 : decode cJ0_length_8abf5 1 = .ok (.getfield 9, 3) := by decide +kernel
theorem dJ0_length_8abf5_4 : decode cJ0_length_8abf5 4 = .ok (.arraylength, 1) := by decide +kernel
theorem dJ0_length_8abf5_5 : decode cJ0_length_8abf5 5 = .ok (.aload_n 0, 1) := by decide +kernel
theorem dJ0_length_8abf5_6 : decode cJ0_length_8abf5 6 = .ok (.invokevirtual 335, 3) := by decide +kernel
theorem dJ0_length_8abf5_9 : decode cJ0_length_8abf5 9 = .ok (.ishr, 1) := by decide +kernel
theorem dJ0_length_8abf5_10 : decode cJ0_length_8abf5 10 = .ok (.ireturn, 1) := by decide +kernel
theorem dJ0_charAt_5068e_0 : decode cJ0_charAt_5068e 0 = .ok (.aload_n 0, 1) := by decide +kernel
theorem dJ0_charAt_5068e_1 : decode cJ0_charAt_5068e 1 = .ok (.invokevirtual 492, 3) := by decide +kernel
theorem dJ0_charAt_5068e_4 : decode cJ0_charAt_5068e 4 = .ok (.ifCond .eq 12, 3) := by decide +kernel
theorem dJ0_charAt_5068e_7 : decode cJ0_charAt_5068e 7 = .ok (.aload_n 0, 1) := by decide +kernel
theorem dJ0_charAt_5068e_8 : decode cJ0_charAt_5068e 8 = .ok (.getfield 9, 3) := by decide +kernel
theorem dJ0_charAt_5068e_11 : decode cJ0_charAt_5068e 11 = .ok (.iload_n 1, 1) := by decide +kernel
theorem dJ0_charAt_5068e_12 : decode cJ0_charAt_5068e 12 = .ok (.invokestatic 495, 3) := by decide +kernel
theorem dJ0_charAt_5068e_15 : decode cJ0_charAt_5068e 15 = .ok (.ireturn, 1) := by decide +kernel
theorem dJ0_charAt_5068e_16 : decode cJ0_charAt_5068e 16 = .ok (.aload_n 0, 1) := by decide +kernel
theorem dJ0_charAt_5068e_17 : decode cJ0_charAt_5068e 17 = .ok (.getfield 9, 3) := by decide +kernel
theorem dJ0_charAt_5068e_20 : decode cJ0_charAt_5068e 20 = .ok (.iload_n 1, 1) := by decide +kernel
theorem dJ0_charAt_5068e_21 : decode cJ0_charAt_5068e 21 = .ok (.invokestatic 498, 3) := by decide +kernel
theorem dJ0_charAt_5068e_24 : decode cJ0_charAt_5068e 24 = .ok (.ireturn, 1) := by decide +kernel
theorem dJ0_coder_7d493_0 : decode cJ0_coder_7d493 0 = .ok (.getstatic 38, 3) := by decide +kernel
theorem dJ0_coder_7d493_3 : decode cJ0_coder_7d493 3 = .ok (.ifCond .eq 10, 3) := by decide +kernel
theorem dJ0_coder_7d493_6 : decode cJ0_coder_7d493 6 = .ok (.aload_n 0, 1) := by decide +kernel
theorem dJ0_coder_7d493_7 : decode cJ0_coder_7d493 7 = .ok (.getfield 15, 3) := by decide +kernel
theorem dJ0_coder_7d493_10 : decode cJ0_coder_7d493 10 = .ok (.goto 4, 3) := by decide +kernel
theorem dJ0_coder_7d493_13 : decode cJ0_coder_7d493 13 = .ok (.iconst 1, 1) := by decide +kernel
theorem dJ0_coder_7d493_14 : decode cJ0_coder_7d493 14 = .ok (.ireturn, 1) := by decide +kernel
theorem dJ0_isLatin1_aae02_0 : decode cJ0_isLatin1_aae02 0 = .ok (.getstatic 38, 3) := by decide +kernel
theorem dJ0_isLatin1_aae02_3 : decode cJ0_isLatin1_aae02 3 = .ok (.ifCond .eq 14, 3) := by decide +kernel
theorem dJ0_isLatin1_aae02_6 : decode cJ0_isLatin1_aae02 6 = .ok (.aload_n 0, 1) := by decide +kernel
theorem dJ0_isLatin1_aae02_7 : decode cJ0_isLatin1_aae02 7 = .ok (.getfield 15, 3) := by decide +kernel
theorem dJ0_isLatin1_aae02_10 : decode cJ0_isLatin1_aae02 10 = .ok (.ifCond .ne 7, 3) := by decide +kernel
theorem dJ0_isLatin1_aae02_13 : decode cJ0_isLatin1_aae02 13 = .ok (.iconst 1, 1) := by decide +kernel
theorem dJ0_isLatin1_aae02_14 : decode cJ0_isLatin1_aae02 14 = .ok (.goto 4, 3) := by decide +kernel
theorem dJ0_isLatin1_aae02_17 : decode cJ0_isLatin1_aae02 17 = .ok (.iconst 0, 1) := by decide +kernel
theorem dJ0_isLatin1_aae02_18 : decode cJ0_isLatin1_aae02 18 = .ok (.ireturn, 1) := by decide +kernel
theorem dJ0_checkIndex_df160_0 : decode cJ0_checkIndex_df160 0 = .ok (.iload_n 0, 1) := by decide +kernel
theorem dJ0_checkIndex_df160_1 : decode cJ0_checkIndex_df160 1 = .ok (.iload_n 1, 1) := by decide +kernel
theorem dJ0_checkIndex_df160_2 : decode cJ0_checkIndex_df160 2 = .ok (.getstatic 1053, 3) := by decide +kernel
theorem dJ0_checkIndex_df160_5 : decode cJ0_checkIndex_df160 5 = .ok (.invokestatic 1059, 3) := by decide +kernel
theorem dJ0_checkIndex_df160_8 : decode cJ0_checkIndex_df160 8 = .ok (.pop, 1) := by decide +kernel
theorem dJ0_checkIndex_df160_9 : decode cJ0_checkIndex_df160 9 = .ok (.return_, 1) := by decide +kernel
theorem dJ1_charAt_3b067_0 : decode cJ1_charAt_3b067 0 = .ok (.iload_n 1, 1) := by decide +kernel
theorem dJ1_charAt_3b067_1 : decode cJ1_charAt_3b067 1 = .ok (.aload_n 0, 1) := by decide +kernel
theorem dJ1_charAt_3b067_2 : decode cJ1_charAt_3b067 2 = .ok (.arraylength, 1) := by decide +kernel
theorem dJ1_charAt_3b067_3 : decode cJ1_charAt_3b067 3 = .ok (.invokestatic 9, 3) := by decide +kernel
theorem dJ1_charAt_3b067_6 : decode cJ1_charAt_3b067 6 = .ok (.aload_n 0, 1) := by decide +kernel
theorem dJ1_charAt_3b067_7 : decode cJ1_charAt_3b067 7 = .ok (.iload_n 1, 1) := by decide +kernel
theorem dJ1_charAt_3b067_8 : decode cJ1_charAt_3b067 8 = .ok (.baload, 1) := by decide +kernel
theorem dJ1_charAt_3b067_9 : decode cJ1_charAt_3b067 9 = .ok (.sipush 255, 3) := by decide +kernel
theorem dJ1_charAt_3b067_12 : decode cJ1_charAt_3b067 12 = .ok (.iand, 1) := by decide +kernel
theorem dJ1_charAt_3b067_13 : decode cJ1_charAt_3b067 13 = .ok (.i2c, 1) := by decide +kernel
theorem dJ1_charAt_3b067_14 : decode cJ1_charAt_3b067 14 = .ok (.ireturn, 1) := by decide +kernel
theorem dJ3_checkIndex_8e157_0 : decode cJ3_checkIndex_8e157 0 = .ok (.iload_n 0, 1) := by decide +kernel
theorem dJ3_checkIndex_8e157_1 : decode cJ3_checkIndex_8e157 1 = .ok (.ifCond .lt 8, 3) := by decide +kernel
theorem dJ3_checkIndex_8e157_4 : decode cJ3_checkIndex_8e157 4 = .ok (.iload_n 0, 1) := by decide +kernel
theorem dJ3_checkIndex_8e157_5 : decode cJ3_checkIndex_8e157 5 = .ok (.iload_n 1, 1) := by decide +kernel
theorem dJ3_checkIndex_8e157_6 : decode cJ3_checkIndex_8e157 6 = .ok (.if_icmp .lt 10, 3) := by decide +kernel
theorem dJ3_checkIndex_8e157_9 : decode cJ3_checkIndex_8e157 9 = .ok (.aload_n 2, 1) := by decide +kernel
theorem dJ3_checkIndex_8e157_10 : decode cJ3_checkIndex_8e157 10 = .ok (.iload_n 0, 1) := by decide +kernel
theorem dJ3_checkIndex_8e157_11 : decode cJ3_checkIndex_8e157 11 = .ok (.iload_n 1, 1) := by decide +kernel
theorem dJ3_checkIndex_8e157_12 : decode cJ3_checkIndex_8e157 12 = .ok (.invokestatic 95, 3) := by decide +kernel
theorem dJ3_checkIndex_8e157_15 : decode cJ3_checkIndex_8e157 15 = .ok (.athrow, 1) := by decide +kernel
theorem dJ3_checkIndex_8e157_16 : decode cJ3_checkIndex_8e157 16 = .ok (.iload_n 0, 1) := by decide +kernel
theorem dJ3_checkIndex_8e157_17 : decode cJ3_checkIndex_8e157 17 = .ok (.ireturn, 1) := by decide +kernel

def f_X2_become (n : Nat) (I : Nat → Nat → Int32) (J : Nat → Nat → Int64) (T : Nat) : Option ((Nat → Nat → Int32)) :=
  some ((am_row (am_row (am_row (am_row (am_row (am_u (am_u (am_u (am_u (am_u I 3 0 (I 44 0)) 3 1 (I 44 1)) 3 2 (I 44 2)) 3 3 (I 44 3)) 3 4 (I 44 4)) 4 ((fun a => if a < 10 then (am_u (am_u (am_u (am_u (am_u I 3 0 (I 44 0)) 3 1 (I 44 1)) 3 2 (I 44 2)) 3 3 (I 44 3)) 3 4 (I 44 4)) 45 a else (am_u (am_u (am_u (am_u (am_u I 3 0 (I 44 0)) 3 1 (I 44 1)) 3 2 (I 44 2)) 3 3 (I 44 3)) 3 4 (I 44 4)) 4 a))) 5 ((fun a => if a < 10 then (am_row (am_u (am_u (am_u (am_u (am_u I 3 0 (I 44 0)) 3 1 (I 44 1)) 3 2 (I 44 2)) 3 3 (I 44 3)) 3 4 (I 44 4)) 4 ((fun a => if a < 10 then (am_u (am_u (am_u (am_u (am_u I 3 0 (I 44 0)) 3 1 (I 44 1)) 3 2 (I 44 2)) 3 3 (I 44 3)) 3 4 (I 44 4)) 45 a else (am_u (am_u (am_u (am_u (am_u I 3 0 (I 44 0)) 3 1 (I 44 1)) 3 2 (I 44 2)) 3 3 (I 44 3)) 3 4 (I 44 4)) 4 a))) 46 a else (am_row (am_u (am_u (am_u (am_u (am_u I 3 0 (I 44 0)) 3 1 (I 44 1)) 3 2 (I 44 2)) 3 3 (I 44 3)) 3 4 (I 44 4)) 4 ((fun a => if a < 10 then (am_u (am_u (am_u (am_u (am_u I 3 0 (I 44 0)) 3 1 (I 44 1)) 3 2 (I 44 2)) 3 3 (I 44 3)) 3 4 (I 44 4)) 45 a else (am_u (am_u (am_u (am_u (am_u I 3 0 (I 44 0)) 3 1 (I 44 1)) 3 2 (I 44 2)) 3 3 (I 44 3)) 3 4 (I 44 4)) 4 a))) 5 a))) 6 ((fun a => if a < 6 then (am_row (am_row (am_u (am_u (am_u (am_u (am_u I 3 0 (I 44 0)) 3 1 (I 44 1)) 3 2 (I 44 2)) 3 3 (I 44 3)) 3 4 (I 44 4)) 4 ((fun a => if a < 10 then (am_u (am_u (am_u (am_u (am_u I 3 0 (I 44 0)) 3 1 (I 44 1)) 3 2 (I 44 2)) 3 3 (I 44 3)) 3 4 (I 44 4)) 45 a else (am_u (am_u (am_u (am_u (am_u I 3 0 (I 44 0)) 3 1 (I 44 1)) 3 2 (I 44 2)) 3 3 (I 44 3)) 3 4 (I 44 4)) 4 a))) 5 ((fun a => if a < 10 then (am_row (am_u (am_u (am_u (am_u (am_u I 3 0 (I 44 0)) 3 1 (I 44 1)) 3 2 (I 44 2)) 3 3 (I 44 3)) 3 4 (I 44 4)) 4 ((fun a => if a < 10 then (am_u (am_u (am_u (am_u (am_u I 3 0 (I 44 0)) 3 1 (I 44 1)) 3 2 (I 44 2)) 3 3 (I 44 3)) 3 4 (I 44 4)) 45 a else (am_u (am_u (am_u (am_u (am_u I 3 0 (I 44 0)) 3 1 (I 44 1)) 3 2 (I 44 2)) 3 3 (I 44 3)) 3 4 (I 44 4)) 4 a))) 46 a else (am_row (am_u (am_u (am_u (am_u (am_u I 3 0 (I 44 0)) 3 1 (I 44 1)) 3 2 (I 44 2)) 3 3 (I 44 3)) 3 4 (I 44 4)) 4 ((fun a => if a < 10 then (am_u (am_u (am_u (am_u (am_u I 3 0 (I 44 0)) 3 1 (I 44 1)) 3 2 (I 44 2)) 3 3 (I 44 3)) 3 4 (I 44 4)) 45 a else (am_u (am_u (am_u (am_u (am_u I 3 0 (I 44 0)) 3 1 (I 44 1)) 3 2 (I 44 2)) 3 3 (I 44 3)) 3 4 (I 44 4)) 4 a))) 5 a))) 47 a else (am_row (am_row (am_u (am_u (am_u (am_u (am_u I 3 0 (I 44 0)) 3 1 (I 44 1)) 3 2 (I 44 2)) 3 3 (I 44 3)) 3 4 (I 44 4)) 4 ((fun a => if a < 10 then (am_u (am_u (am_u (am_u (am_u I 3 0 (I 44 0)) 3 1 (I 44 1)) 3 2 (I 44 2)) 3 3 (I 44 3)) 3 4 (I 44 4)) 45 a else (am_u (am_u (am_u (am_u (am_u I 3 0 (I 44 0)) 3 1 (I 44 1)) 3 2 (I 44 2)) 3 3 (I 44 3)) 3 4 (I 44 4)) 4 a))) 5 ((fun a => if a < 10 then (am_row (am_u (am_u (am_u (am_u (am_u I 3 0 (I 44 0)) 3 1 (I 44 1)) 3 2 (I 44 2)) 3 3 (I 44 3)) 3 4 (I 44 4)) 4 ((fun a => if a < 10 then (am_u (am_u (am_u (am_u (am_u I 3 0 (I 44 0)) 3 1 (I 44 1)) 3 2 (I 44 2)) 3 3 (I 44 3)) 3 4 (I 44 4)) 45 a else (am_u (am_u (am_u (am_u (am_u I 3 0 (I 44 0)) 3 1 (I 44 1)) 3 2 (I 44 2)) 3 3 (I 44 3)) 3 4 (I 44 4)) 4 a))) 46 a else (am_row (am_u (am_u (am_u (am_u (am_u I 3 0 (I 44 0)) 3 1 (I 44 1)) 3 2 (I 44 2)) 3 3 (I 44 3)) 3 4 (I 44 4)) 4 ((fun a => if a < 10 then (am_u (am_u (am_u (am_u (am_u I 3 0 (I 44 0)) 3 1 (I 44 1)) 3 2 (I 44 2)) 3 3 (I 44 3)) 3 4 (I 44 4)) 45 a else (am_u (am_u (am_u (am_u (am_u I 3 0 (I 44 0)) 3 1 (I 44 1)) 3 2 (I 44 2)) 3 3 (I 44 3)) 3 4 (I 44 4)) 4 a))) 5 a))) 6 a))) 7 ((fun a => if a < 6 then (am_row (am_row (am_row (am_u (am_u (am_u (am_u (am_u I 3 0 (I 44 0)) 3 1 (I 44 1)) 3 2 (I 44 2)) 3 3 (I 44 3)) 3 4 (I 44 4)) 4 ((fun a => if a < 10 then (am_u (am_u (am_u (am_u (am_u I 3 0 (I 44 0)) 3 1 (I 44 1)) 3 2 (I 44 2)) 3 3 (I 44 3)) 3 4 (I 44 4)) 45 a else (am_u (am_u (am_u (am_u (am_u I 3 0 (I 44 0)) 3 1 (I 44 1)) 3 2 (I 44 2)) 3 3 (I 44 3)) 3 4 (I 44 4)) 4 a))) 5 ((fun a => if a < 10 then (am_row (am_u (am_u (am_u (am_u (am_u I 3 0 (I 44 0)) 3 1 (I 44 1)) 3 2 (I 44 2)) 3 3 (I 44 3)) 3 4 (I 44 4)) 4 ((fun a => if a < 10 then (am_u (am_u (am_u (am_u (am_u I 3 0 (I 44 0)) 3 1 (I 44 1)) 3 2 (I 44 2)) 3 3 (I 44 3)) 3 4 (I 44 4)) 45 a else (am_u (am_u (am_u (am_u (am_u I 3 0 (I 44 0)) 3 1 (I 44 1)) 3 2 (I 44 2)) 3 3 (I 44 3)) 3 4 (I 44 4)) 4 a))) 46 a else (am_row (am_u (am_u (am_u (am_u (am_u I 3 0 (I 44 0)) 3 1 (I 44 1)) 3 2 (I 44 2)) 3 3 (I 44 3)) 3 4 (I 44 4)) 4 ((fun a => if a < 10 then (am_u (am_u (am_u (am_u (am_u I 3 0 (I 44 0)) 3 1 (I 44 1)) 3 2 (I 44 2)) 3 3 (I 44 3)) 3 4 (I 44 4)) 45 a else (am_u (am_u (am_u (am_u (am_u I 3 0 (I 44 0)) 3 1 (I 44 1)) 3 2 (I 44 2)) 3 3 (I 44 3)) 3 4 (I 44 4)) 4 a))) 5 a))) 6 ((fun a => if a < 6 then (am_row (am_row (am_u (am_u (am_u (am_u (am_u I 3 0 (I 44 0)) 3 1 (I 44 1)) 3 2 (I 44 2)) 3 3 (I 44 3)) 3 4 (I 44 4)) 4 ((fun a => if a < 10 then (am_u (am_u (am_u (am_u (am_u I 3 0 (I 44 0)) 3 1 (I 44 1)) 3 2 (I 44 2)) 3 3 (I 44 3)) 3 4 (I 44 4)) 45 a else (am_u (am_u (am_u (am_u (am_u I 3 0 (I 44 0)) 3 1 (I 44 1)) 3 2 (I 44 2)) 3 3 (I 44 3)) 3 4 (I 44 4)) 4 a))) 5 ((fun a => if a < 10 then (am_row (am_u (am_u (am_u (am_u (am_u I 3 0 (I 44 0)) 3 1 (I 44 1)) 3 2 (I 44 2)) 3 3 (I 44 3)) 3 4 (I 44 4)) 4 ((fun a => if a < 10 then (am_u (am_u (am_u (am_u (am_u I 3 0 (I 44 0)) 3 1 (I 44 1)) 3 2 (I 44 2)) 3 3 (I 44 3)) 3 4 (I 44 4)) 45 a else (am_u (am_u (am_u (am_u (am_u I 3 0 (I 44 0)) 3 1 (I 44 1)) 3 2 (I 44 2)) 3 3 (I 44 3)) 3 4 (I 44 4)) 4 a))) 46 a else (am_row (am_u (am_u (am_u (am_u (am_u I 3 0 (I 44 0)) 3 1 (I 44 1)) 3 2 (I 44 2)) 3 3 (I 44 3)) 3 4 (I 44 4)) 4 ((fun a => if a < 10 then (am_u (am_u (am_u (am_u (am_u I 3 0 (I 44 0)) 3 1 (I 44 1)) 3 2 (I 44 2)) 3 3 (I 44 3)) 3 4 (I 44 4)) 45 a else (am_u (am_u (am_u (am_u (am_u I 3 0 (I 44 0)) 3 1 (I 44 1)) 3 2 (I 44 2)) 3 3 (I 44 3)) 3 4 (I 44 4)) 4 a))) 5 a))) 47 a else (am_row (am_row (am_u (am_u (am_u (am_u (am_u I 3 0 (I 44 0)) 3 1 (I 44 1)) 3 2 (I 44 2)) 3 3 (I 44 3)) 3 4 (I 44 4)) 4 ((fun a => if a < 10 then (am_u (am_u (am_u (am_u (am_u I 3 0 (I 44 0)) 3 1 (I 44 1)) 3 2 (I 44 2)) 3 3 (I 44 3)) 3 4 (I 44 4)) 45 a else (am_u (am_u (am_u (am_u (am_u I 3 0 (I 44 0)) 3 1 (I 44 1)) 3 2 (I 44 2)) 3 3 (I 44 3)) 3 4 (I 44 4)) 4 a))) 5 ((fun a => if a < 10 then (am_row (am_u (am_u (am_u (am_u (am_u I 3 0 (I 44 0)) 3 1 (I 44 1)) 3 2 (I 44 2)) 3 3 (I 44 3)) 3 4 (I 44 4)) 4 ((fun a => if a < 10 then (am_u (am_u (am_u (am_u (am_u I 3 0 (I 44 0)) 3 1 (I 44 1)) 3 2 (I 44 2)) 3 3 (I 44 3)) 3 4 (I 44 4)) 45 a else (am_u (am_u (am_u (am_u (am_u I 3 0 (I 44 0)) 3 1 (I 44 1)) 3 2 (I 44 2)) 3 3 (I 44 3)) 3 4 (I 44 4)) 4 a))) 46 a else (am_row (am_u (am_u (am_u (am_u (am_u I 3 0 (I 44 0)) 3 1 (I 44 1)) 3 2 (I 44 2)) 3 3 (I 44 3)) 3 4 (I 44 4)) 4 ((fun a => if a < 10 then (am_u (am_u (am_u (am_u (am_u I 3 0 (I 44 0)) 3 1 (I 44 1)) 3 2 (I 44 2)) 3 3 (I 44 3)) 3 4 (I 44 4)) 45 a else (am_u (am_u (am_u (am_u (am_u I 3 0 (I 44 0)) 3 1 (I 44 1)) 3 2 (I 44 2)) 3 3 (I 44 3)) 3 4 (I 44 4)) 4 a))) 5 a))) 6 a))) 48 a else (am_row (am_row (am_row (am_u (am_u (am_u (am_u (am_u I 3 0 (I 44 0)) 3 1 (I 44 1)) 3 2 (I 44 2)) 3 3 (I 44 3)) 3 4 (I 44 4)) 4 ((fun a => if a < 10 then (am_u (am_u (am_u (am_u (am_u I 3 0 (I 44 0)) 3 1 (I 44 1)) 3 2 (I 44 2)) 3 3 (I 44 3)) 3 4 (I 44 4)) 45 a else (am_u (am_u (am_u (am_u (am_u I 3 0 (I 44 0)) 3 1 (I 44 1)) 3 2 (I 44 2)) 3 3 (I 44 3)) 3 4 (I 44 4)) 4 a))) 5 ((fun a => if a < 10 then (am_row (am_u (am_u (am_u (am_u (am_u I 3 0 (I 44 0)) 3 1 (I 44 1)) 3 2 (I 44 2)) 3 3 (I 44 3)) 3 4 (I 44 4)) 4 ((fun a => if a < 10 then (am_u (am_u (am_u (am_u (am_u I 3 0 (I 44 0)) 3 1 (I 44 1)) 3 2 (I 44 2)) 3 3 (I 44 3)) 3 4 (I 44 4)) 45 a else (am_u (am_u (am_u (am_u (am_u I 3 0 (I 44 0)) 3 1 (I 44 1)) 3 2 (I 44 2)) 3 3 (I 44 3)) 3 4 (I 44 4)) 4 a))) 46 a else (am_row (am_u (am_u (am_u (am_u (am_u I 3 0 (I 44 0)) 3 1 (I 44 1)) 3 2 (I 44 2)) 3 3 (I 44 3)) 3 4 (I 44 4)) 4 ((fun a => if a < 10 then (am_u (am_u (am_u (am_u (am_u I 3 0 (I 44 0)) 3 1 (I 44 1)) 3 2 (I 44 2)) 3 3 (I 44 3)) 3 4 (I 44 4)) 45 a else (am_u (am_u (am_u (am_u (am_u I 3 0 (I 44 0)) 3 1 (I 44 1)) 3 2 (I 44 2)) 3 3 (I 44 3)) 3 4 (I 44 4)) 4 a))) 5 a))) 6 ((fun a => if a < 6 then (am_row (am_row (am_u (am_u (am_u (am_u (am_u I 3 0 (I 44 0)) 3 1 (I 44 1)) 3 2 (I 44 2)) 3 3 (I 44 3)) 3 4 (I 44 4)) 4 ((fun a => if a < 10 then (am_u (am_u (am_u (am_u (am_u I 3 0 (I 44 0)) 3 1 (I 44 1)) 3 2 (I 44 2)) 3 3 (I 44 3)) 3 4 (I 44 4)) 45 a else (am_u (am_u (am_u (am_u (am_u I 3 0 (I 44 0)) 3 1 (I 44 1)) 3 2 (I 44 2)) 3 3 (I 44 3)) 3 4 (I 44 4)) 4 a))) 5 ((fun a => if a < 10 then (am_row (am_u (am_u (am_u (am_u (am_u I 3 0 (I 44 0)) 3 1 (I 44 1)) 3 2 (I 44 2)) 3 3 (I 44 3)) 3 4 (I 44 4)) 4 ((fun a => if a < 10 then (am_u (am_u (am_u (am_u (am_u I 3 0 (I 44 0)) 3 1 (I 44 1)) 3 2 (I 44 2)) 3 3 (I 44 3)) 3 4 (I 44 4)) 45 a else (am_u (am_u (am_u (am_u (am_u I 3 0 (I 44 0)) 3 1 (I 44 1)) 3 2 (I 44 2)) 3 3 (I 44 3)) 3 4 (I 44 4)) 4 a))) 46 a else (am_row (am_u (am_u (am_u (am_u (am_u I 3 0 (I 44 0)) 3 1 (I 44 1)) 3 2 (I 44 2)) 3 3 (I 44 3)) 3 4 (I 44 4)) 4 ((fun a => if a < 10 then (am_u (am_u (am_u (am_u (am_u I 3 0 (I 44 0)) 3 1 (I 44 1)) 3 2 (I 44 2)) 3 3 (I 44 3)) 3 4 (I 44 4)) 45 a else (am_u (am_u (am_u (am_u (am_u I 3 0 (I 44 0)) 3 1 (I 44 1)) 3 2 (I 44 2)) 3 3 (I 44 3)) 3 4 (I 44 4)) 4 a))) 5 a))) 47 a else (am_row (am_row (am_u (am_u (am_u (am_u (am_u I 3 0 (I 44 0)) 3 1 (I 44 1)) 3 2 (I 44 2)) 3 3 (I 44 3)) 3 4 (I 44 4)) 4 ((fun a => if a < 10 then (am_u (am_u (am_u (am_u (am_u I 3 0 (I 44 0)) 3 1 (I 44 1)) 3 2 (I 44 2)) 3 3 (I 44 3)) 3 4 (I 44 4)) 45 a else (am_u (am_u (am_u (am_u (am_u I 3 0 (I 44 0)) 3 1 (I 44 1)) 3 2 (I 44 2)) 3 3 (I 44 3)) 3 4 (I 44 4)) 4 a))) 5 ((fun a => if a < 10 then (am_row (am_u (am_u (am_u (am_u (am_u I 3 0 (I 44 0)) 3 1 (I 44 1)) 3 2 (I 44 2)) 3 3 (I 44 3)) 3 4 (I 44 4)) 4 ((fun a => if a < 10 then (am_u (am_u (am_u (am_u (am_u I 3 0 (I 44 0)) 3 1 (I 44 1)) 3 2 (I 44 2)) 3 3 (I 44 3)) 3 4 (I 44 4)) 45 a else (am_u (am_u (am_u (am_u (am_u I 3 0 (I 44 0)) 3 1 (I 44 1)) 3 2 (I 44 2)) 3 3 (I 44 3)) 3 4 (I 44 4)) 4 a))) 46 a else (am_row (am_u (am_u (am_u (am_u (am_u I 3 0 (I 44 0)) 3 1 (I 44 1)) 3 2 (I 44 2)) 3 3 (I 44 3)) 3 4 (I 44 4)) 4 ((fun a => if a < 10 then (am_u (am_u (am_u (am_u (am_u I 3 0 (I 44 0)) 3 1 (I 44 1)) 3 2 (I 44 2)) 3 3 (I 44 3)) 3 4 (I 44 4)) 45 a else (am_u (am_u (am_u (am_u (am_u I 3 0 (I 44 0)) 3 1 (I 44 1)) 3 2 (I 44 2)) 3 3 (I 44 3)) 3 4 (I 44 4)) 4 a))) 5 a))) 6 a))) 7 a))) 8 ((fun a => if a < 6 then (am_row (am_row (am_row (am_row (am_u (am_u (am_u (am_u (am_u I 3 0 (I 44 0)) 3 1 (I 44 1)) 3 2 (I 44 2)) 3 3 (I 44 3)) 3 4 (I 44 4)) 4 ((fun a => if a < 10 then (am_u (am_u (am_u (am_u (am_u I 3 0 (I 44 0)) 3 1 (I 44 1)) 3 2 (I 44 2)) 3 3 (I 44 3)) 3 4 (I 44 4)) 45 a else (am_u (am_u (am_u (am_u (am_u I 3 0 (I 44 0)) 3 1 (I 44 1)) 3 2 (I 44 2)) 3 3 (I 44 3)) 3 4 (I 44 4)) 4 a))) 5 ((fun a => if a < 10 then (am_row (am_u (am_u (am_u (am_u (am_u I 3 0 (I 44 0)) 3 1 (I 44 1)) 3 2 (I 44 2)) 3 3 (I 44 3)) 3 4 (I 44 4)) 4 ((fun a => if a < 10 then (am_u (am_u (am_u (am_u (am_u I 3 0 (I 44 0)) 3 1 (I 44 1)) 3 2 (I 44 2)) 3 3 (I 44 3)) 3 4 (I 44 4)) 45 a else (am_u (am_u (am_u (am_u (am_u I 3 0 (I 44 0)) 3 1 (I 44 1)) 3 2 (I 44 2)) 3 3 (I 44 3)) 3 4 (I 44 4)) 4 a))) 46 a else (am_row (am_u (am_u (am_u (am_u (am_u I 3 0 (I 44 0)) 3 1 (I 44 1)) 3 2 (I 44 2)) 3 3 (I 44 3)) 3 4 (I 44 4)) 4 ((fun a => if a < 10 then (am_u (am_u (am_u (am_u (am_u I 3 0 (I 44 0)) 3 1 (I 44 1)) 3 2 (I 44 2)) 3 3 (I 44 3)) 3 4 (I 44 4)) 45 a else (am_u (am_u (am_u (am_u (am_u I 3 0 (I 44 0)) 3 1 (I 44 1)) 3 2 (I 44 2)) 3 3 (I 44 3)) 3 4 (I 44 4)) 4 a))) 5 a))) 6 ((fun a => if a < 6 then (am_row (am_row (am_u (am_u (am_u (am_u (am_u I 3 0 (I 44 0)) 3 1 (I 44 1)) 3 2 (I 44 2)) 3 3 (I 44 3)) 3 4 (I 44 4)) 4 ((fun a => if a < 10 then (am_u (am_u (am_u (am_u (am_u I 3 0 (I 44 0)) 3 1 (I 44 1)) 3 2 (I 44 2)) 3 3 (I 44 3)) 3 4 (I 44 4)) 45 a else (am_u (am_u (am_u (am_u (am_u I 3 0 (I 44 0)) 3 1 (I 44 1)) 3 2 (I 44 2)) 3 3 (I 44 3)) 3 4 (I 44 4)) 4 a))) 5 ((fun a => if a < 10 then (am_row (am_u (am_u (am_u (am_u (am_u I 3 0 (I 44 0)) 3 1 (I 44 1)) 3 2 (I 44 2)) 3 3 (I 44 3)) 3 4 (I 44 4)) 4 ((fun a => if a < 10 then (am_u (am_u (am_u (am_u (am_u I 3 0 (I 44 0)) 3 1 (I 44 1)) 3 2 (I 44 2)) 3 3 (I 44 3)) 3 4 (I 44 4)) 45 a else (am_u (am_u (am_u (am_u (am_u I 3 0 (I 44 0)) 3 1 (I 44 1)) 3 2 (I 44 2)) 3 3 (I 44 3)) 3 4 (I 44 4)) 4 a))) 46 a else (am_row (am_u (am_u (am_u (am_u (am_u I 3 0 (I 44 0)) 3 1 (I 44 1)) 3 2 (I 44 2)) 3 3 (I 44 3)) 3 4 (I 44 4)) 4 ((fun a => if a < 10 then (am_u (am_u (am_u (am_u (am_u I 3 0 (I 44 0)) 3 1 (I 44 1)) 3 2 (I 44 2)) 3 3 (I 44 3)) 3 4 (I 44 4)) 45 a else (am_u (am_u (am_u (am_u (am_u I 3 0 (I 44 0)) 3 1 (I 44 1)) 3 2 (I 44 2)) 3 3 (I 44 3)) 3 4 (I 44 4)) 4 a))) 5 a))) 47 a else (am_row (am_row (am_u (am_u (am_u (am_u (am_u I 3 0 (I 44 0)) 3 1 (I 44 1)) 3 2 (I 44 2)) 3 3 (I 44 3)) 3 4 (I 44 4)) 4 ((fun a => if a < 10 then (am_u (am_u (am_u (am_u (am_u I 3 0 (I 44 0)) 3 1 (I 44 1)) 3 2 (I 44 2)) 3 3 (I 44 3)) 3 4 (I 44 4)) 45 a else (am_u (am_u (am_u (am_u (am_u I 3 0 (I 44 0)) 3 1 (I 44 1)) 3 2 (I 44 2)) 3 3 (I 44 3)) 3 4 (I 44 4)) 4 a))) 5 ((fun a => if a < 10 then (am_row (am_u (am_u (am_u (am_u (am_u I 3 0 (I 44 0)) 3 1 (I 44 1)) 3 2 (I 44 2)) 3 3 (I 44 3)) 3 4 (I 44 4)) 4 ((fun a => if a < 10 then (am_u (am_u (am_u (am_u (am_u I 3 0 (I 44 0)) 3 1 (I 44 1)) 3 2 (I 44 2)) 3 3 (I 44 3)) 3 4 (I 44 4)) 45 a else (am_u (am_u (am_u (am_u (am_u I 3 0 (I 44 0)) 3 1 (I 44 1)) 3 2 (I 44 2)) 3 3 (I 44 3)) 3 4 (I 44 4)) 4 a))) 46 a else (am_row (am_u (am_u (am_u (am_u (am_u I 3 0 (I 44 0)) 3 1 (I 44 1)) 3 2 (I 44 2)) 3 3 (I 44 3)) 3 4 (I 44 4)) 4 ((fun a => if a < 10 then (am_u (am_u (am_u (am_u (am_u I 3 0 (I 44 0)) 3 1 (I 44 1)) 3 2 (I 44 2)) 3 3 (I 44 3)) 3 4 (I 44 4)) 45 a else (am_u (am_u (am_u (am_u (am_u I 3 0 (I 44 0)) 3 1 (I 44 1)) 3 2 (I 44 2)) 3 3 (I 44 3)) 3 4 (I 44 4)) 4 a))) 5 a))) 6 a))) 7 ((fun a => if a < 6 then (am_row (am_row (am_row (am_u (am_u (am_u (am_u (am_u I 3 0 (I 44 0)) 3 1 (I 44 1)) 3 2 (I 44 2)) 3 3 (I 44 3)) 3 4 (I 44 4)) 4 ((fun a => if a < 10 then (am_u (am_u (am_u (am_u (am_u I 3 0 (I 44 0)) 3 1 (I 44 1)) 3 2 (I 44 2)) 3 3 (I 44 3)) 3 4 (I 44 4)) 45 a else (am_u (am_u (am_u (am_u (am_u I 3 0 (I 44 0)) 3 1 (I 44 1)) 3 2 (I 44 2)) 3 3 (I 44 3)) 3 4 (I 44 4)) 4 a))) 5 ((fun a => if a < 10 then (am_row (am_u (am_u (am_u (am_u (am_u I 3 0 (I 44 0)) 3 1 (I 44 1)) 3 2 (I 44 2)) 3 3 (I 44 3)) 3 4 (I 44 4)) 4 ((fun a => if a < 10 then (am_u (am_u (am_u (am_u (am_u I 3 0 (I 44 0)) 3 1 (I 44 1)) 3 2 (I 44 2)) 3 3 (I 44 3)) 3 4 (I 44 4)) 45 a else (am_u (am_u (am_u (am_u (am_u I 3 0 (I 44 0)) 3 1 (I 44 1)) 3 2 (I 44 2)) 3 3 (I 44 3)) 3 4 (I 44 4)) 4 a))) 46 a else (am_row (am_u (am_u (am_u (am_u (am_u I 3 0 (I 44 0)) 3 1 (I 44 1)) 3 2 (I 44 2)) 3 3 (I 44 3)) 3 4 (I 44 4)) 4 ((fun a => if a < 10 then (am_u (am_u (am_u (am_u (am_u I 3 0 (I 44 0)) 3 1 (I 44 1)) 3 2 (I 44 2)) 3 3 (I 44 3)) 3 4 (I 44 4)) 45 a else (am_u (am_u (am_u (am_u (am_u I 3 0 (I 44 0)) 3 1 (I 44 1)) 3 2 (I 44 2)) 3 3 (I 44 3)) 3 4 (I 44 4)) 4 a))) 5 a))) 6 ((fun a => if a < 6 then (am_row (am_row (am_u (am_u (am_u (am_u (am_u I 3 0 (I 44 0)) 3 1 (I 44 1)) 3 2 (I 44 2)) 3 3 (I 44 3)) 3 4 (I 44 4)) 4 ((fun a => if a < 10 then (am_u (am_u (am_u (am_u (am_u I 3 0 (I 44 0)) 3 1 (I 44 1)) 3 2 (I 44 2)) 3 3 (I 44 3)) 3 4 (I 44 4)) 45 a else (am_u (am_u (am_u (am_u (am_u I 3 0 (I 44 0)) 3 1 (I 44 1)) 3 2 (I 44 2)) 3 3 (I 44 3)) 3 4 (I 44 4)) 4 a))) 5 ((fun a => if a < 10 then (am_row (am_u (am_u (am_u (am_u (am_u I 3 0 (I 44 0)) 3 1 (I 44 1)) 3 2 (I 44 2)) 3 3 (I 44 3)) 3 4 (I 44 4)) 4 ((fun a => if a < 10 then (am_u (am_u (am_u (am_u (am_u I 3 0 (I 44 0)) 3 1 (I 44 1)) 3 2 (I 44 2)) 3 3 (I 44 3)) 3 4 (I 44 4)) 45 a else (am_u (am_u (am_u (am_u (am_u I 3 0 (I 44 0)) 3 1 (I 44 1)) 3 2 (I 44 2)) 3 3 (I 44 3)) 3 4 (I 44 4)) 4 a))) 46 a else (am_row (am_u (am_u (am_u (am_u (am_u I 3 0 (I 44 0)) 3 1 (I 44 1)) 3 2 (I 44 2)) 3 3 (I 44 3)) 3 4 (I 44 4)) 4 ((fun a => if a < 10 then (am_u (am_u (am_u (am_u (am_u I 3 0 (I 44 0)) 3 1 (I 44 1)) 3 2 (I 44 2)) 3 3 (I 44 3)) 3 4 (I 44 4)) 45 a else (am_u (am_u (am_u (am_u (am_u I 3 0 (I 44 0)) 3 1 (I 44 1)) 3 2 (I 44 2)) 3 3 (I 44 3)) 3 4 (I 44 4)) 4 a))) 5 a))) 47 a else (am_row (am_row (am_u (am_u (am_u (am_u (am_u I 3 0 (I 44 0)) 3 1 (I 44 1)) 3 2 (I 44 2)) 3 3 (I 44 3)) 3 4 (I 44 4)) 4 ((fun a => if a < 10 then (am_u (am_u (am_u (am_u (am_u I 3 0 (I 44 0)) 3 1 (I 44 1)) 3 2 (I 44 2)) 3 3 (I 44 3)) 3 4 (I 44 4)) 45 a else (am_u (am_u (am_u (am_u (am_u I 3 0 (I 44 0)) 3 1 (I 44 1)) 3 2 (I 44 2)) 3 3 (I 44 3)) 3 4 (I 44 4)) 4 a))) 5 ((fun a => if a < 10 then (am_row (am_u (am_u (am_u (am_u (am_u I 3 0 (I 44 0)) 3 1 (I 44 1)) 3 2 (I 44 2)) 3 3 (I 44 3)) 3 4 (I 44 4)) 4 ((fun a => if a < 10 then (am_u (am_u (am_u (am_u (am_u I 3 0 (I 44 0)) 3 1 (I 44 1)) 3 2 (I 44 2)) 3 3 (I 44 3)) 3 4 (I 44 4)) 45 a else (am_u (am_u (am_u (am_u (am_u I 3 0 (I 44 0)) 3 1 (I 44 1)) 3 2 (I 44 2)) 3 3 (I 44 3)) 3 4 (I 44 4)) 4 a))) 46 a else (am_row (am_u (am_u (am_u (am_u (am_u I 3 0 (I 44 0)) 3 1 (I 44 1)) 3 2 (I 44 2)) 3 3 (I 44 3)) 3 4 (I 44 4)) 4 ((fun a => if a < 10 then (am_u (am_u (am_u (am_u (am_u I 3 0 (I 44 0)) 3 1 (I 44 1)) 3 2 (I 44 2)) 3 3 (I 44 3)) 3 4 (I 44 4)) 45 a else (am_u (am_u (am_u (am_u (am_u I 3 0 (I 44 0)) 3 1 (I 44 1)) 3 2 (I 44 2)) 3 3 (I 44 3)) 3 4 (I 44 4)) 4 a))) 5 a))) 6 a))) 48 a else (am_row (am_row (am_row (am_u (am_u (am_u (am_u (am_u I 3 0 (I 44 0)) 3 1 (I 44 1)) 3 2 (I 44 2)) 3 3 (I 44 3)) 3 4 (I 44 4)) 4 ((fun a => if a < 10 then (am_u (am_u (am_u (am_u (am_u I 3 0 (I 44 0)) 3 1 (I 44 1)) 3 2 (I 44 2)) 3 3 (I 44 3)) 3 4 (I 44 4)) 45 a else (am_u (am_u (am_u (am_u (am_u I 3 0 (I 44 0)) 3 1 (I 44 1)) 3 2 (I 44 2)) 3 3 (I 44 3)) 3 4 (I 44 4)) 4 a))) 5 ((fun a => if a < 10 then (am_row (am_u (am_u (am_u (am_u (am_u I 3 0 (I 44 0)) 3 1 (I 44 1)) 3 2 (I 44 2)) 3 3 (I 44 3)) 3 4 (I 44 4)) 4 ((fun a => if a < 10 then (am_u (am_u (am_u (am_u (am_u I 3 0 (I 44 0)) 3 1 (I 44 1)) 3 2 (I 44 2)) 3 3 (I 44 3)) 3 4 (I 44 4)) 45 a else (am_u (am_u (am_u (am_u (am_u I 3 0 (I 44 0)) 3 1 (I 44 1)) 3 2 (I 44 2)) 3 3 (I 44 3)) 3 4 (I 44 4)) 4 a))) 46 a else (am_row (am_u (am_u (am_u (am_u (am_u I 3 0 (I 44 0)) 3 1 (I 44 1)) 3 2 (I 44 2)) 3 3 (I 44 3)) 3 4 (I 44 4)) 4 ((fun a => if a < 10 then (am_u (am_u (am_u (am_u (am_u I 3 0 (I 44 0)) 3 1 (I 44 1)) 3 2 (I 44 2)) 3 3 (I 44 3)) 3 4 (I 44 4)) 45 a else (am_u (am_u (am_u (am_u (am_u I 3 0 (I 44 0)) 3 1 (I 44 1)) 3 2 (I 44 2)) 3 3 (I 44 3)) 3 4 (I 44 4)) 4 a))) 5 a))) 6 ((fun a => if a < 6 then (am_row (am_row (am_u (am_u (am_u (am_u (am_u I 3 0 (I 44 0)) 3 1 (I 44 1)) 3 2 (I 44 2)) 3 3 (I 44 3)) 3 4 (I 44 4)) 4 ((fun a => if a < 10 then (am_u (am_u (am_u (am_u (am_u I 3 0 (I 44 0)) 3 1 (I 44 1)) 3 2 (I 44 2)) 3 3 (I 44 3)) 3 4 (I 44 4)) 45 a else (am_u (am_u (am_u (am_u (am_u I 3 0 (I 44 0)) 3 1 (I 44 1)) 3 2 (I 44 2)) 3 3 (I 44 3)) 3 4 (I 44 4)) 4 a))) 5 ((fun a => if a < 10 then (am_row (am_u (am_u (am_u (am_u (am_u I 3 0 (I 44 0)) 3 1 (I 44 1)) 3 2 (I 44 2)) 3 3 (I 44 3)) 3 4 (I 44 4)) 4 ((fun a => if a < 10 then (am_u (am_u (am_u (am_u (am_u I 3 0 (I 44 0)) 3 1 (I 44 1)) 3 2 (I 44 2)) 3 3 (I 44 3)) 3 4 (I 44 4)) 45 a else (am_u (am_u (am_u (am_u (am_u I 3 0 (I 44 0)) 3 1 (I 44 1)) 3 2 (I 44 2)) 3 3 (I 44 3)) 3 4 (I 44 4)) 4 a))) 46 a else (am_row (am_u (am_u (am_u (am_u (am_u I 3 0 (I 44 0)) 3 1 (I 44 1)) 3 2 (I 44 2)) 3 3 (I 44 3)) 3 4 (I 44 4)) 4 ((fun a => if a < 10 then (am_u (am_u (am_u (am_u (am_u I 3 0 (I 44 0)) 3 1 (I 44 1)) 3 2 (I 44 2)) 3 3 (I 44 3)) 3 4 (I 44 4)) 45 a else (am_u (am_u (am_u (am_u (am_u I 3 0 (I 44 0)) 3 1 (I 44 1)) 3 2 (I 44 2)) 3 3 (I 44 3)) 3 4 (I 44 4)) 4 a))) 5 a))) 47 a else (am_row (am_row (am_u (am_u (am_u (am_u (am_u I 3 0 (I 44 0)) 3 1 (I 44 1)) 3 2 (I 44 2)) 3 3 (I 44 3)) 3 4 (I 44 4)) 4 ((fun a => if a < 10 then (am_u (am_u (am_u (am_u (am_u I 3 0 (I 44 0)) 3 1 (I 44 1)) 3 2 (I 44 2)) 3 3 (I 44 3)) 3 4 (I 44 4)) 45 a else (am_u (am_u (am_u (am_u (am_u I 3 0 (I 44 0)) 3 1 (I 44 1)) 3 2 (I 44 2)) 3 3 (I 44 3)) 3 4 (I 44 4)) 4 a))) 5 ((fun a => if a < 10 then (am_row (am_u (am_u (am_u (am_u (am_u I 3 0 (I 44 0)) 3 1 (I 44 1)) 3 2 (I 44 2)) 3 3 (I 44 3)) 3 4 (I 44 4)) 4 ((fun a => if a < 10 then (am_u (am_u (am_u (am_u (am_u I 3 0 (I 44 0)) 3 1 (I 44 1)) 3 2 (I 44 2)) 3 3 (I 44 3)) 3 4 (I 44 4)) 45 a else (am_u (am_u (am_u (am_u (am_u I 3 0 (I 44 0)) 3 1 (I 44 1)) 3 2 (I 44 2)) 3 3 (I 44 3)) 3 4 (I 44 4)) 4 a))) 46 a else (am_row (am_u (am_u (am_u (am_u (am_u I 3 0 (I 44 0)) 3 1 (I 44 1)) 3 2 (I 44 2)) 3 3 (I 44 3)) 3 4 (I 44 4)) 4 ((fun a => if a < 10 then (am_u (am_u (am_u (am_u (am_u I 3 0 (I 44 0)) 3 1 (I 44 1)) 3 2 (I 44 2)) 3 3 (I 44 3)) 3 4 (I 44 4)) 45 a else (am_u (am_u (am_u (am_u (am_u I 3 0 (I 44 0)) 3 1 (I 44 1)) 3 2 (I 44 2)) 3 3 (I 44 3)) 3 4 (I 44 4)) 4 a))) 5 a))) 6 a))) 7 a))) 49 a else (am_row (am_row (am_row (am_row (am_u (am_u (am_u (am_u (am_u I 3 0 (I 44 0)) 3 1 (I 44 1)) 3 2 (I 44 2)) 3 3 (I 44 3)) 3 4 (I 44 4)) 4 ((fun a => if a < 10 then (am_u (am_u (am_u (am_u (am_u I 3 0 (I 44 0)) 3 1 (I 44 1)) 3 2 (I 44 2)) 3 3 (I 44 3)) 3 4 (I 44 4)) 45 a else (am_u (am_u (am_u (am_u (am_u I 3 0 (I 44 0)) 3 1 (I 44 1)) 3 2 (I 44 2)) 3 3 (I 44 3)) 3 4 (I 44 4)) 4 a))) 5 ((fun a => if a < 10 then (am_row (am_u (am_u (am_u (am_u (am_u I 3 0 (I 44 0)) 3 1 (I 44 1)) 3 2 (I 44 2)) 3 3 (I 44 3)) 3 4 (I 44 4)) 4 ((fun a => if a < 10 then (am_u (am_u (am_u (am_u (am_u I 3 0 (I 44 0)) 3 1 (I 44 1)) 3 2 (I 44 2)) 3 3 (I 44 3)) 3 4 (I 44 4)) 45 a else (am_u (am_u (am_u (am_u (am_u I 3 0 (I 44 0)) 3 1 (I 44 1)) 3 2 (I 44 2)) 3 3 (I 44 3)) 3 4 (I 44 4)) 4 a))) 46 a else (am_row (am_u (am_u (am_u (am_u (am_u I 3 0 (I 44 0)) 3 1 (I 44 1)) 3 2 (I 44 2)) 3 3 (I 44 3)) 3 4 (I 44 4)) 4 ((fun a => if a < 10 then (am_u (am_u (am_u (am_u (am_u I 3 0 (I 44 0)) 3 1 (I 44 1)) 3 2 (I 44 2)) 3 3 (I 44 3)) 3 4 (I 44 4)) 45 a else (am_u (am_u (am_u (am_u (am_u I 3 0 (I 44 0)) 3 1 (I 44 1)) 3 2 (I 44 2)) 3 3 (I 44 3)) 3 4 (I 44 4)) 4 a))) 5 a))) 6 ((fun a => if a < 6 then (am_row (am_row (am_u (am_u (am_u (am_u (am_u I 3 0 (I 44 0)) 3 1 (I 44 1)) 3 2 (I 44 2)) 3 3 (I 44 3)) 3 4 (I 44 4)) 4 ((fun a => if a < 10 then (am_u (am_u (am_u (am_u (am_u I 3 0 (I 44 0)) 3 1 (I 44 1)) 3 2 (I 44 2)) 3 3 (I 44 3)) 3 4 (I 44 4)) 45 a else (am_u (am_u (am_u (am_u (am_u I 3 0 (I 44 0)) 3 1 (I 44 1)) 3 2 (I 44 2)) 3 3 (I 44 3)) 3 4 (I 44 4)) 4 a))) 5 ((fun a => if a < 10 then (am_row (am_u (am_u (am_u (am_u (am_u I 3 0 (I 44 0)) 3 1 (I 44 1)) 3 2 (I 44 2)) 3 3 (I 44 3)) 3 4 (I 44 4)) 4 ((fun a => if a < 10 then (am_u (am_u (am_u (am_u (am_u I 3 0 (I 44 0)) 3 1 (I 44 1)) 3 2 (I 44 2)) 3 3 (I 44 3)) 3 4 (I 44 4)) 45 a else (am_u (am_u (am_u (am_u (am_u I 3 0 (I 44 0)) 3 1 (I 44 1)) 3 2 (I 44 2)) 3 3 (I 44 3)) 3 4 (I 44 4)) 4 a))) 46 a else (am_row (am_u (am_u (am_u (am_u (am_u I 3 0 (I 44 0)) 3 1 (I 44 1)) 3 2 (I 44 2)) 3 3 (I 44 3)) 3 4 (I 44 4)) 4 ((fun a => if a < 10 then (am_u (am_u (am_u (am_u (am_u I 3 0 (I 44 0)) 3 1 (I 44 1)) 3 2 (I 44 2)) 3 3 (I 44 3)) 3 4 (I 44 4)) 45 a else (am_u (am_u (am_u (am_u (am_u I 3 0 (I 44 0)) 3 1 (I 44 1)) 3 2 (I 44 2)) 3 3 (I 44 3)) 3 4 (I 44 4)) 4 a))) 5 a))) 47 a else (am_row (am_row (am_u (am_u (am_u (am_u (am_u I 3 0 (I 44 0)) 3 1 (I 44 1)) 3 2 (I 44 2)) 3 3 (I 44 3)) 3 4 (I 44 4)) 4 ((fun a => if a < 10 then (am_u (am_u (am_u (am_u (am_u I 3 0 (I 44 0)) 3 1 (I 44 1)) 3 2 (I 44 2)) 3 3 (I 44 3)) 3 4 (I 44 4)) 45 a else (am_u (am_u (am_u (am_u (am_u I 3 0 (I 44 0)) 3 1 (I 44 1)) 3 2 (I 44 2)) 3 3 (I 44 3)) 3 4 (I 44 4)) 4 a))) 5 ((fun a => if a < 10 then (am_row (am_u (am_u (am_u (am_u (am_u I 3 0 (I 44 0)) 3 1 (I 44 1)) 3 2 (I 44 2)) 3 3 (I 44 3)) 3 4 (I 44 4)) 4 ((fun a => if a < 10 then (am_u (am_u (am_u (am_u (am_u I 3 0 (I 44 0)) 3 1 (I 44 1)) 3 2 (I 44 2)) 3 3 (I 44 3)) 3 4 (I 44 4)) 45 a else (am_u (am_u (am_u (am_u (am_u I 3 0 (I 44 0)) 3 1 (I 44 1)) 3 2 (I 44 2)) 3 3 (I 44 3)) 3 4 (I 44 4)) 4 a))) 46 a else (am_row (am_u (am_u (am_u (am_u (am_u I 3 0 (I 44 0)) 3 1 (I 44 1)) 3 2 (I 44 2)) 3 3 (I 44 3)) 3 4 (I 44 4)) 4 ((fun a => if a < 10 then (am_u (am_u (am_u (am_u (am_u I 3 0 (I 44 0)) 3 1 (I 44 1)) 3 2 (I 44 2)) 3 3 (I 44 3)) 3 4 (I 44 4)) 45 a else (am_u (am_u (am_u (am_u (am_u I 3 0 (I 44 0)) 3 1 (I 44 1)) 3 2 (I 44 2)) 3 3 (I 44 3)) 3 4 (I 44 4)) 4 a))) 5 a))) 6 a))) 7 ((fun a => if a < 6 then (am_row (am_row (am_row (am_u (am_u (am_u (am_u (am_u I 3 0 (I 44 0)) 3 1 (I 44 1)) 3 2 (I 44 2)) 3 3 (I 44 3)) 3 4 (I 44 4)) 4 ((fun a => if a < 10 then (am_u (am_u (am_u (am_u (am_u I 3 0 (I 44 0)) 3 1 (I 44 1)) 3 2 (I 44 2)) 3 3 (I 44 3)) 3 4 (I 44 4)) 45 a else (am_u (am_u (am_u (am_u (am_u I 3 0 (I 44 0)) 3 1 (I 44 1)) 3 2 (I 44 2)) 3 3 (I 44 3)) 3 4 (I 44 4)) 4 a))) 5 ((fun a => if a < 10 then (am_row (am_u (am_u (am_u (am_u (am_u I 3 0 (I 44 0)) 3 1 (I 44 1)) 3 2 (I 44 2)) 3 3 (I 44 3)) 3 4 (I 44 4)) 4 ((fun a => if a < 10 then (am_u (am_u (am_u (am_u (am_u I 3 0 (I 44 0)) 3 1 (I 44 1)) 3 2 (I 44 2)) 3 3 (I 44 3)) 3 4 (I 44 4)) 45 a else (am_u (am_u (am_u (am_u (am_u I 3 0 (I 44 0)) 3 1 (I 44 1)) 3 2 (I 44 2)) 3 3 (I 44 3)) 3 4 (I 44 4)) 4 a))) 46 a else (am_row (am_u (am_u (am_u (am_u (am_u I 3 0 (I 44 0)) 3 1 (I 44 1)) 3 2 (I 44 2)) 3 3 (I 44 3)) 3 4 (I 44 4)) 4 ((fun a => if a < 10 then (am_u (am_u (am_u (am_u (am_u I 3 0 (I 44 0)) 3 1 (I 44 1)) 3 2 (I 44 2)) 3 3 (I 44 3)) 3 4 (I 44 4)) 45 a else (am_u (am_u (am_u (am_u (am_u I 3 0 (I 44 0)) 3 1 (I 44 1)) 3 2 (I 44 2)) 3 3 (I 44 3)) 3 4 (I 44 4)) 4 a))) 5 a))) 6 ((fun a => if a < 6 then (am_row (am_row (am_u (am_u (am_u (am_u (am_u I 3 0 (I 44 0)) 3 1 (I 44 1)) 3 2 (I 44 2)) 3 3 (I 44 3)) 3 4 (I 44 4)) 4 ((fun a => if a < 10 then (am_u (am_u (am_u (am_u (am_u I 3 0 (I 44 0)) 3 1 (I 44 1)) 3 2 (I 44 2)) 3 3 (I 44 3)) 3 4 (I 44 4)) 45 a else (am_u (am_u (am_u (am_u (am_u I 3 0 (I 44 0)) 3 1 (I 44 1)) 3 2 (I 44 2)) 3 3 (I 44 3)) 3 4 (I 44 4)) 4 a))) 5 ((fun a => if a < 10 then (am_row (am_u (am_u (am_u (am_u (am_u I 3 0 (I 44 0)) 3 1 (I 44 1)) 3 2 (I 44 2)) 3 3 (I 44 3)) 3 4 (I 44 4)) 4 ((fun a => if a < 10 then (am_u (am_u (am_u (am_u (am_u I 3 0 (I 44 0)) 3 1 (I 44 1)) 3 2 (I 44 2)) 3 3 (I 44 3)) 3 4 (I 44 4)) 45 a else (am_u (am_u (am_u (am_u (am_u I 3 0 (I 44 0)) 3 1 (I 44 1)) 3 2 (I 44 2)) 3 3 (I 44 3)) 3 4 (I 44 4)) 4 a))) 46 a else (am_row (am_u (am_u (am_u (am_u (am_u I 3 0 (I 44 0)) 3 1 (I 44 1)) 3 2 (I 44 2)) 3 3 (I 44 3)) 3 4 (I 44 4)) 4 ((fun a => if a < 10 then (am_u (am_u (am_u (am_u (am_u I 3 0 (I 44 0)) 3 1 (I 44 1)) 3 2 (I 44 2)) 3 3 (I 44 3)) 3 4 (I 44 4)) 45 a else (am_u (am_u (am_u (am_u (am_u I 3 0 (I 44 0)) 3 1 (I 44 1)) 3 2 (I 44 2)) 3 3 (I 44 3)) 3 4 (I 44 4)) 4 a))) 5 a))) 47 a else (am_row (am_row (am_u (am_u (am_u (am_u (am_u I 3 0 (I 44 0)) 3 1 (I 44 1)) 3 2 (I 44 2)) 3 3 (I 44 3)) 3 4 (I 44 4)) 4 ((fun a => if a < 10 then (am_u (am_u (am_u (am_u (am_u I 3 0 (I 44 0)) 3 1 (I 44 1)) 3 2 (I 44 2)) 3 3 (I 44 3)) 3 4 (I 44 4)) 45 a else (am_u (am_u (am_u (am_u (am_u I 3 0 (I 44 0)) 3 1 (I 44 1)) 3 2 (I 44 2)) 3 3 (I 44 3)) 3 4 (I 44 4)) 4 a))) 5 ((fun a => if a < 10 then (am_row (am_u (am_u (am_u (am_u (am_u I 3 0 (I 44 0)) 3 1 (I 44 1)) 3 2 (I 44 2)) 3 3 (I 44 3)) 3 4 (I 44 4)) 4 ((fun a => if a < 10 then (am_u (am_u (am_u (am_u (am_u I 3 0 (I 44 0)) 3 1 (I 44 1)) 3 2 (I 44 2)) 3 3 (I 44 3)) 3 4 (I 44 4)) 45 a else (am_u (am_u (am_u (am_u (am_u I 3 0 (I 44 0)) 3 1 (I 44 1)) 3 2 (I 44 2)) 3 3 (I 44 3)) 3 4 (I 44 4)) 4 a))) 46 a else (am_row (am_u (am_u (am_u (am_u (am_u I 3 0 (I 44 0)) 3 1 (I 44 1)) 3 2 (I 44 2)) 3 3 (I 44 3)) 3 4 (I 44 4)) 4 ((fun a => if a < 10 then (am_u (am_u (am_u (am_u (am_u I 3 0 (I 44 0)) 3 1 (I 44 1)) 3 2 (I 44 2)) 3 3 (I 44 3)) 3 4 (I 44 4)) 45 a else (am_u (am_u (am_u (am_u (am_u I 3 0 (I 44 0)) 3 1 (I 44 1)) 3 2 (I 44 2)) 3 3 (I 44 3)) 3 4 (I 44 4)) 4 a))) 5 a))) 6 a))) 48 a else (am_row (am_row (am_row (am_u (am_u (am_u (am_u (am_u I 3 0 (I 44 0)) 3 1 (I 44 1)) 3 2 (I 44 2)) 3 3 (I 44 3)) 3 4 (I 44 4)) 4 ((fun a => if a < 10 then (am_u (am_u (am_u (am_u (am_u I 3 0 (I 44 0)) 3 1 (I 44 1)) 3 2 (I 44 2)) 3 3 (I 44 3)) 3 4 (I 44 4)) 45 a else (am_u (am_u (am_u (am_u (am_u I 3 0 (I 44 0)) 3 1 (I 44 1)) 3 2 (I 44 2)) 3 3 (I 44 3)) 3 4 (I 44 4)) 4 a))) 5 ((fun a => if a < 10 then (am_row (am_u (am_u (am_u (am_u (am_u I 3 0 (I 44 0)) 3 1 (I 44 1)) 3 2 (I 44 2)) 3 3 (I 44 3)) 3 4 (I 44 4)) 4 ((fun a => if a < 10 then (am_u (am_u (am_u (am_u (am_u I 3 0 (I 44 0)) 3 1 (I 44 1)) 3 2 (I 44 2)) 3 3 (I 44 3)) 3 4 (I 44 4)) 45 a else (am_u (am_u (am_u (am_u (am_u I 3 0 (I 44 0)) 3 1 (I 44 1)) 3 2 (I 44 2)) 3 3 (I 44 3)) 3 4 (I 44 4)) 4 a))) 46 a else (am_row (am_u (am_u (am_u (am_u (am_u I 3 0 (I 44 0)) 3 1 (I 44 1)) 3 2 (I 44 2)) 3 3 (I 44 3)) 3 4 (I 44 4)) 4 ((fun a => if a < 10 then (am_u (am_u (am_u (am_u (am_u I 3 0 (I 44 0)) 3 1 (I 44 1)) 3 2 (I 44 2)) 3 3 (I 44 3)) 3 4 (I 44 4)) 45 a else (am_u (am_u (am_u (am_u (am_u I 3 0 (I 44 0)) 3 1 (I 44 1)) 3 2 (I 44 2)) 3 3 (I 44 3)) 3 4 (I 44 4)) 4 a))) 5 a))) 6 ((fun a => if a < 6 then (am_row (am_row (am_u (am_u (am_u (am_u (am_u I 3 0 (I 44 0)) 3 1 (I 44 1)) 3 2 (I 44 2)) 3 3 (I 44 3)) 3 4 (I 44 4)) 4 ((fun a => if a < 10 then (am_u (am_u (am_u (am_u (am_u I 3 0 (I 44 0)) 3 1 (I 44 1)) 3 2 (I 44 2)) 3 3 (I 44 3)) 3 4 (I 44 4)) 45 a else (am_u (am_u (am_u (am_u (am_u I 3 0 (I 44 0)) 3 1 (I 44 1)) 3 2 (I 44 2)) 3 3 (I 44 3)) 3 4 (I 44 4)) 4 a))) 5 ((fun a => if a < 10 then (am_row (am_u (am_u (am_u (am_u (am_u I 3 0 (I 44 0)) 3 1 (I 44 1)) 3 2 (I 44 2)) 3 3 (I 44 3)) 3 4 (I 44 4)) 4 ((fun a => if a < 10 then (am_u (am_u (am_u (am_u (am_u I 3 0 (I 44 0)) 3 1 (I 44 1)) 3 2 (I 44 2)) 3 3 (I 44 3)) 3 4 (I 44 4)) 45 a else (am_u (am_u (am_u (am_u (am_u I 3 0 (I 44 0)) 3 1 (I 44 1)) 3 2 (I 44 2)) 3 3 (I 44 3)) 3 4 (I 44 4)) 4 a))) 46 a else (am_row (am_u (am_u (am_u (am_u (am_u I 3 0 (I 44 0)) 3 1 (I 44 1)) 3 2 (I 44 2)) 3 3 (I 44 3)) 3 4 (I 44 4)) 4 ((fun a => if a < 10 then (am_u (am_u (am_u (am_u (am_u I 3 0 (I 44 0)) 3 1 (I 44 1)) 3 2 (I 44 2)) 3 3 (I 44 3)) 3 4 (I 44 4)) 45 a else (am_u (am_u (am_u (am_u (am_u I 3 0 (I 44 0)) 3 1 (I 44 1)) 3 2 (I 44 2)) 3 3 (I 44 3)) 3 4 (I 44 4)) 4 a))) 5 a))) 47 a else (am_row (am_row (am_u (am_u (am_u (am_u (am_u I 3 0 (I 44 0)) 3 1 (I 44 1)) 3 2 (I 44 2)) 3 3 (I 44 3)) 3 4 (I 44 4)) 4 ((fun a => if a < 10 then (am_u (am_u (am_u (am_u (am_u I 3 0 (I 44 0)) 3 1 (I 44 1)) 3 2 (I 44 2)) 3 3 (I 44 3)) 3 4 (I 44 4)) 45 a else (am_u (am_u (am_u (am_u (am_u I 3 0 (I 44 0)) 3 1 (I 44 1)) 3 2 (I 44 2)) 3 3 (I 44 3)) 3 4 (I 44 4)) 4 a))) 5 ((fun a => if a < 10 then (am_row (am_u (am_u (am_u (am_u (am_u I 3 0 (I 44 0)) 3 1 (I 44 1)) 3 2 (I 44 2)) 3 3 (I 44 3)) 3 4 (I 44 4)) 4 ((fun a => if a < 10 then (am_u (am_u (am_u (am_u (am_u I 3 0 (I 44 0)) 3 1 (I 44 1)) 3 2 (I 44 2)) 3 3 (I 44 3)) 3 4 (I 44 4)) 45 a else (am_u (am_u (am_u (am_u (am_u I 3 0 (I 44 0)) 3 1 (I 44 1)) 3 2 (I 44 2)) 3 3 (I 44 3)) 3 4 (I 44 4)) 4 a))) 46 a else (am_row (am_u (am_u (am_u (am_u (am_u I 3 0 (I 44 0)) 3 1 (I 44 1)) 3 2 (I 44 2)) 3 3 (I 44 3)) 3 4 (I 44 4)) 4 ((fun a => if a < 10 then (am_u (am_u (am_u (am_u (am_u I 3 0 (I 44 0)) 3 1 (I 44 1)) 3 2 (I 44 2)) 3 3 (I 44 3)) 3 4 (I 44 4)) 45 a else (am_u (am_u (am_u (am_u (am_u I 3 0 (I 44 0)) 3 1 (I 44 1)) 3 2 (I 44 2)) 3 3 (I 44 3)) 3 4 (I 44 4)) 4 a))) 5 a))) 6 a))) 7 a))) 8 a))))
set_option maxRecDepth 100000 in
set_option maxHeartbeats 4000000 in
theorem t_X2_become_0 {l : Launch} {ρ : am_R} {n d gc gs : Nat} {I : Nat → Nat → Int32} {J : Nat → Nat → Int64} {T : Nat} {q : (Nat → Nat → Int32)} (hd : 0 * n + 1 ≤ (d + 1))
    (h : f_X2_become n  I J T  = some q) : AW l ρ (d + 1) M_X2_become 0 [(0, .ref 3), (1, .ref 44)] [] (am_KD, gc, gs) (I, J, am_RT T) (am_KD, gc, gs) (fun v H' => v = [] ∧ H' = (q, J, am_RT T)) := by
  unfold f_X2_become at h
  refine op_aload_n (k := 0) dX2_become_0 rfl rfl ?_
  refine op_aload_n (k := 1) dX2_become_1 rfl rfl ?_
  refine st_getI (v := I 44 0) dX2_become_2 fl_X2_27 kd_44 (by decide) rfl rfl ?_
  refine st_putI dX2_become_5 fl_X2_27 kd_3 (by decide) rfl ?_
  refine op_aload_n (k := 0) dX2_become_8 rfl rfl ?_
  refine op_aload_n (k := 1) dX2_become_9 rfl rfl ?_
  refine st_getI (v := I 44 1) dX2_become_10 fl_X2_31 kd_44 (by decide) rfl rfl ?_
  refine st_putI dX2_become_13 fl_X2_31 kd_3 (by decide) rfl ?_
  refine op_aload_n (k := 0) dX2_become_16 rfl rfl ?_
  refine op_aload_n (k := 1) dX2_become_17 rfl rfl ?_
  refine st_getI (v := I 44 2) dX2_become_18 fl_X2_34 kd_44 (by decide) rfl rfl ?_
  refine st_putI dX2_become_21 fl_X2_34 kd_3 (by decide) rfl ?_
  refine op_aload_n (k := 0) dX2_become_24 rfl rfl ?_
  refine op_aload_n (k := 1) dX2_become_25 rfl rfl ?_
  refine st_getI (v := I 44 3) dX2_become_26 fl_X2_37 kd_44 (by decide) rfl rfl ?_
  refine st_putI dX2_become_29 fl_X2_37 kd_3 (by decide) rfl ?_
  refine op_aload_n (k := 0) dX2_become_32 rfl rfl ?_
  refine op_aload_n (k := 1) dX2_become_33 rfl rfl ?_
  refine st_getI (v := I 44 4) dX2_become_34 fl_X2_40 kd_44 (by decide) rfl rfl ?_
  refine st_putI dX2_become_37 fl_X2_40 kd_3 (by decide) rfl ?_
  refine op_aload_n (k := 1) dX2_become_40 rfl rfl ?_
  refine st_getR (z := 45) dX2_become_41 fl_X2_9 kd_44 (by decide) rfl rr_44_5 ?_
  refine op_iconst (v := 0) dX2_become_44 (by decide) ?_
  refine op_aload_n (k := 0) dX2_become_45 rfl rfl ?_
  refine st_getR (z := 4) dX2_become_46 fl_X2_9 kd_3 (by decide) rfl rr_3_5 ?_
  refine op_iconst (v := 0) dX2_become_49 (by decide) ?_
  refine op_aload_n (k := 0) dX2_become_50 rfl rfl ?_
  refine st_getR (z := 4) dX2_become_51 fl_X2_9 kd_3 (by decide) rfl rr_3_5 ?_
  refine op_alen50 dX2_become_54 kd_4 ?_
  refine st_copyi (k := 10) dX2_become_55 tw_686 tw_688 tw_687 tw_120 kd_45 kd_4 (by decide) (by decide) (by decide) ?_
  refine op_aload_n (k := 1) dX2_become_58 rfl rfl ?_
  refine st_getR (z := 46) dX2_become_59 fl_X2_15 kd_44 (by decide) rfl rr_44_6 ?_
  refine op_iconst (v := 0) dX2_become_62 (by decide) ?_
  refine op_aload_n (k := 0) dX2_become_63 rfl rfl ?_
  refine st_getR (z := 5) dX2_become_64 fl_X2_15 kd_3 (by decide) rfl rr_3_6 ?_
  refine op_iconst (v := 0) dX2_become_67 (by decide) ?_
  refine op_aload_n (k := 0) dX2_become_68 rfl rfl ?_
  refine st_getR (z := 5) dX2_become_69 fl_X2_15 kd_3 (by decide) rfl rr_3_6 ?_
  refine op_alen50 dX2_become_72 kd_5 ?_
  refine st_copyi (k := 10) dX2_become_73 tw_686 tw_688 tw_687 tw_120 kd_46 kd_5 (by decide) (by decide) (by decide) ?_
  refine op_aload_n (k := 1) dX2_become_76 rfl rfl ?_
  refine st_getR (z := 47) dX2_become_77 fl_X2_18 kd_44 (by decide) rfl rr_44_7 ?_
  refine op_iconst (v := 0) dX2_become_80 (by decide) ?_
  refine op_aload_n (k := 0) dX2_become_81 rfl rfl ?_
  refine st_getR (z := 6) dX2_become_82 fl_X2_18 kd_3 (by decide) rfl rr_3_7 ?_
  refine op_iconst (v := 0) dX2_become_85 (by decide) ?_
  refine op_aload_n (k := 0) dX2_become_86 rfl rfl ?_
  refine st_getR (z := 6) dX2_become_87 fl_X2_18 kd_3 (by decide) rfl rr_3_7 ?_
  refine op_alen50 dX2_become_90 kd_6 ?_
  refine st_copyi (k := 6) dX2_become_91 tw_686 tw_688 tw_687 tw_120 kd_47 kd_6 (by decide) (by decide) (by decide) ?_
  refine op_aload_n (k := 1) dX2_become_94 rfl rfl ?_
  refine st_getR (z := 48) dX2_become_95 fl_X2_21 kd_44 (by decide) rfl rr_44_8 ?_
  refine op_iconst (v := 0) dX2_become_98 (by decide) ?_
  refine op_aload_n (k := 0) dX2_become_99 rfl rfl ?_
  refine st_getR (z := 7) dX2_become_100 fl_X2_21 kd_3 (by decide) rfl rr_3_8 ?_
  refine op_iconst (v := 0) dX2_become_103 (by decide) ?_
  refine op_aload_n (k := 0) dX2_become_104 rfl rfl ?_
  refine st_getR (z := 7) dX2_become_105 fl_X2_21 kd_3 (by decide) rfl rr_3_8 ?_
  refine op_alen50 dX2_become_108 kd_7 ?_
  refine st_copyi (k := 6) dX2_become_109 tw_686 tw_688 tw_687 tw_120 kd_48 kd_7 (by decide) (by decide) (by decide) ?_
  refine op_aload_n (k := 1) dX2_become_112 rfl rfl ?_
  refine st_getR (z := 49) dX2_become_113 fl_X2_24 kd_44 (by decide) rfl rr_44_9 ?_
  refine op_iconst (v := 0) dX2_become_116 (by decide) ?_
  refine op_aload_n (k := 0) dX2_become_117 rfl rfl ?_
  refine st_getR (z := 8) dX2_become_118 fl_X2_24 kd_3 (by decide) rfl rr_3_9 ?_
  refine op_iconst (v := 0) dX2_become_121 (by decide) ?_
  refine op_aload_n (k := 0) dX2_become_122 rfl rfl ?_
  refine st_getR (z := 8) dX2_become_123 fl_X2_24 kd_3 (by decide) rfl rr_3_9 ?_
  refine op_alen50 dX2_become_126 kd_8 ?_
  refine st_copyi (k := 6) dX2_become_127 tw_686 tw_688 tw_687 tw_120 kd_49 kd_8 (by decide) (by decide) (by decide) ?_
  cases h
  exact (op_vret dX2_become_130 rfl ⟨rfl, rfl⟩)
theorem t_X2_become {l : Launch} {ρ : am_R} {n d gc gs : Nat} {I : Nat → Nat → Int32} {J : Nat → Nat → Int64} {T : Nat} {q : (Nat → Nat → Int32)} (hd : 0 * n + 1 ≤ d) (h : f_X2_become n I J T  = some q) : AW l ρ d M_X2_become 0 [(0, .ref 3), (1, .ref 44)] [] (am_KD, gc, gs) (I, J, am_RT T) (am_KD, gc, gs) (fun v H' => v = [] ∧ H' = (q, J, am_RT T)) := by
  obtain ⟨d, rfl⟩ : ∃ e, d = e + 1 := ⟨d - 1, by omega⟩
  exact t_X2_become_0 hd h
def f_X0_become (n : Nat) (I : Nat → Nat → Int32) (J : Nat → Nat → Int64) (T : Nat) : Option ((Nat → Nat → Int32) × (Nat → Nat → Int64)) :=
  some ((am_u (am_u I 41 2 (I 50 2)) 41 3 (I 50 3)), (am_row (am_row J 42 ((fun a => if a < 6 then J 51 a else J 42 a))) 43 ((fun a => if a < 240 then (am_row J 42 ((fun a => if a < 6 then J 51 a else J 42 a))) 52 a else (am_row J 42 ((fun a => if a < 6 then J 51 a else J 42 a))) 43 a))))
set_option maxRecDepth 100000 in
set_option maxHeartbeats 4000000 in
theorem t_X0_become_0 {l : Launch} {ρ : am_R} {n d gc gs : Nat} {I : Nat → Nat → Int32} {J : Nat → Nat → Int64} {T : Nat} {q : (Nat → Nat → Int32) × (Nat → Nat → Int64)} (hd : 0 * n + 1 ≤ (d + 1))
    (h : f_X0_become n  I J T  = some q) : AW l ρ (d + 1) M_X0_become 0 [(0, .ref 41), (1, .ref 50)] [] (am_KD, gc, gs) (I, J, am_RT T) (am_KD, gc, gs) (fun v H' => v = [] ∧ H' = (q.1, q.2, am_RT T)) := by
  unfold f_X0_become at h
  refine op_aload_n (k := 0) dX0_become_0 rfl rfl ?_
  refine op_aload_n (k := 1) dX0_become_1 rfl rfl ?_
  refine st_getI (v := I 50 2) dX0_become_2 fl_X0_24 kd_50 (by decide) rfl rfl ?_
  refine st_putI dX0_become_5 fl_X0_24 kd_41 (by decide) rfl ?_
  refine op_aload_n (k := 0) dX0_become_8 rfl rfl ?_
  refine op_aload_n (k := 1) dX0_become_9 rfl rfl ?_
  refine st_getI (v := I 50 3) dX0_become_10 fl_X0_28 kd_50 (by decide) rfl rfl ?_
  refine st_putI dX0_become_13 fl_X0_28 kd_41 (by decide) rfl ?_
  refine op_aload_n (k := 1) dX0_become_16 rfl rfl ?_
  refine st_getR (z := 51) dX0_become_17 fl_X0_9 kd_50 (by decide) rfl rr_50_0 ?_
  refine op_iconst (v := 0) dX0_become_20 (by decide) ?_
  refine op_aload_n (k := 0) dX0_become_21 rfl rfl ?_
  refine st_getR (z := 42) dX0_become_22 fl_X0_9 kd_41 (by decide) rfl rr_41_0 ?_
  refine op_iconst (v := 0) dX0_become_25 (by decide) ?_
  refine op_aload_n (k := 0) dX0_become_26 rfl rfl ?_
  refine st_getR (z := 42) dX0_become_27 fl_X0_9 kd_41 (by decide) rfl rr_41_0 ?_
  refine op_alen51 dX0_become_30 kd_42 ?_
  refine st_copyl (k := 6) dX0_become_31 tw_1099 tw_688 tw_687 tw_120 kd_51 kd_42 (by decide) (by decide) (by decide) ?_
  refine op_aload_n (k := 1) dX0_become_34 rfl rfl ?_
  refine st_getR (z := 52) dX0_become_35 fl_X0_15 kd_50 (by decide) rfl rr_50_1 ?_
  refine op_iconst (v := 0) dX0_become_38 (by decide) ?_
  refine op_aload_n (k := 0) dX0_become_39 rfl rfl ?_
  refine st_getR (z := 43) dX0_become_40 fl_X0_15 kd_41 (by decide) rfl rr_41_1 ?_
  refine op_iconst (v := 0) dX0_become_43 (by decide) ?_
  refine op_aload_n (k := 0) dX0_become_44 rfl rfl ?_
  refine st_getR (z := 43) dX0_become_45 fl_X0_15 kd_41 (by decide) rfl rr_41_1 ?_
  refine op_alen51 dX0_become_48 kd_43 ?_
  refine st_copyl (k := 240) dX0_become_49 tw_1099 tw_688 tw_687 tw_120 kd_52 kd_43 (by decide) (by decide) (by decide) ?_
  cases h
  exact (op_vret dX0_become_52 rfl ⟨rfl, rfl⟩)
theorem t_X0_become {l : Launch} {ρ : am_R} {n d gc gs : Nat} {I : Nat → Nat → Int32} {J : Nat → Nat → Int64} {T : Nat} {q : (Nat → Nat → Int32) × (Nat → Nat → Int64)} (hd : 0 * n + 1 ≤ d) (h : f_X0_become n I J T  = some q) : AW l ρ d M_X0_become 0 [(0, .ref 41), (1, .ref 50)] [] (am_KD, gc, gs) (I, J, am_RT T) (am_KD, gc, gs) (fun v H' => v = [] ∧ H' = (q.1, q.2, am_RT T)) := by
  obtain ⟨d, rfl⟩ : ∃ e, d = e + 1 := ⟨d - 1, by omega⟩
  exact t_X0_become_0 hd h
def f_X11_back (n : Nat) (I : Nat → Nat → Int32) (J : Nat → Nat → Int64) (T : Nat) : Option (Int32 × (Nat → Nat → Int32) × (Nat → Nat → Int64)) :=
  if (I 0 14) = 0 then
   some ((-1), I, J)
  else
   (f_X2_become n I J T).bind fun w2 =>
   (f_X0_become n w2 J T).bind fun w3 =>
   some (w3.1 41 2, w3.1, w3.2)
set_option maxRecDepth 100000 in
set_option maxHeartbeats 4000000 in
theorem t_X11_back_0 {l : Launch} {ρ : am_R} {n d gc gs : Nat} {I : Nat → Nat → Int32} {J : Nat → Nat → Int64} {T : Nat} {q : Int32 × (Nat → Nat → Int32) × (Nat → Nat → Int64)} (hd : 0 * n + 2 ≤ (d + 1))
    (h : f_X11_back n  I J T  = some q) : AW l ρ (d + 1) M_X11_back 0 [(0, .ref 0)] [] (am_KD, gc, gs) (I, J, am_RT T) (am_KD, gc, gs) (fun v H' => v = [.int q.1] ∧ H' = (q.2.1, q.2.2, am_RT T)) := by
  unfold f_X11_back at h
  refine op_aload_n (k := 0) dX11_back_0 rfl rfl ?_
  refine st_getI (v := I 0 14) dX11_back_1 fl_X11_105 kd_0 (by decide) rfl rfl ?_
  refine op_if_ne (tgt := 9) dX11_back_4 (by decide) (fun c1 => ?_) (fun c1 => ?_)
  · replace h := am_ie c1 h
    refine op_aload_n (k := 0) dX11_back_9 rfl rfl ?_
    refine st_getR (z := 3) dX11_back_10 fl_X11_19 kd_0 (by decide) rfl rr_0_1 ?_
    refine op_aload_n (k := 0) dX11_back_13 rfl rfl ?_
    refine st_getR (z := 44) dX11_back_14 fl_X11_99 kd_0 (by decide) rfl rr_0_12 ?_
    obtain ⟨w2, ew2, h⟩ := am_bd h
    refine op_callV (M' := M_X2_become) [.ref 44] (S0 := []) dX11_back_17 tw_682 ok_X2_become tw_683 tw_684 kd_3 cls_2 rfl rfl rfl (Nat.le_of_ble_eq_true rfl) (Nat.le_of_ble_eq_true rfl) (t_X2_become (by omega) ew2) (am_le_rf _) ?_
    rintro _ _ ⟨rfl, rfl⟩
    refine op_aload_n (k := 0) dX11_back_20 rfl rfl ?_
    refine st_getR (z := 41) dX11_back_21 fl_X11_95 kd_0 (by decide) rfl rr_0_11 ?_
    refine op_aload_n (k := 0) dX11_back_24 rfl rfl ?_
    refine st_getR (z := 50) dX11_back_25 fl_X11_102 kd_0 (by decide) rfl rr_0_13 ?_
    obtain ⟨w3, ew3, h⟩ := am_bd h
    refine op_callV (M' := M_X0_become) [.ref 50] (S0 := []) dX11_back_28 tw_1095 ok_X0_become tw_1096 tw_1097 kd_41 cls_0 rfl rfl rfl (Nat.le_of_ble_eq_true rfl) (Nat.le_of_ble_eq_true rfl) (t_X0_become (by omega) ew3) (am_le_rf _) ?_
    rintro _ _ ⟨rfl, rfl⟩
    refine op_aload_n (k := 0) dX11_back_31 rfl rfl ?_
    refine st_getR (z := 41) dX11_back_32 fl_X11_95 kd_0 (by decide) rfl rr_0_11 ?_
    refine st_getI (v := w3.1 41 2) dX11_back_35 fl_X11_308 kd_41 (by decide) rfl rfl ?_
    cases h
    exact (op_iret dX11_back_38 rfl rfl ⟨rfl, rfl⟩)
  · replace h := am_ip c1 h
    refine op_iconst (v := (-1)) dX11_back_7 (by decide) ?_
    cases h
    exact (op_iret dX11_back_8 rfl rfl ⟨rfl, rfl⟩)
theorem t_X11_back {l : Launch} {ρ : am_R} {n d gc gs : Nat} {I : Nat → Nat → Int32} {J : Nat → Nat → Int64} {T : Nat} {q : Int32 × (Nat → Nat → Int32) × (Nat → Nat → Int64)} (hd : 0 * n + 2 ≤ d) (h : f_X11_back n I J T  = some q) : AW l ρ d M_X11_back 0 [(0, .ref 0)] [] (am_KD, gc, gs) (I, J, am_RT T) (am_KD, gc, gs) (fun v H' => v = [.int q.1] ∧ H' = (q.2.1, q.2.2, am_RT T)) := by
  obtain ⟨d, rfl⟩ : ∃ e, d = e + 1 := ⟨d - 1, by omega⟩
  exact t_X11_back_0 hd h
def f_X11_isHome (n : Nat) (I : Nat → Nat → Int32) (J : Nat → Nat → Int64) (T : Nat) (x1 : Int32) : Option (Int32) :=
  if x1 < 1 then
   some (0)
  else
   if (I 3 0) < x1 then
    some (0)
   else
    some (1)
set_option maxRecDepth 100000 in
set_option maxHeartbeats 4000000 in
theorem t_X11_isHome_0 {l : Launch} {ρ : am_R} {n d gc gs : Nat} {I : Nat → Nat → Int32} {J : Nat → Nat → Int64} {T : Nat} {x1 : Int32} {q : Int32} (hd : 0 * n + 0 ≤ d)
    (h : f_X11_isHome n  I J T x1 = some q) : AW l ρ d M_X11_isHome 0 [(0, .ref 0), (1, .int x1)] [] (am_KD, gc, gs) (I, J, am_RT T) (am_KD, gc, gs) (fun v H' => v = [.int q] ∧ H' = (I, J, am_RT T)) := by
  unfold f_X11_isHome at h
  refine op_iload_n (k := 1) dX11_isHome_0 rfl rfl ?_
  refine op_iconst (v := 1) dX11_isHome_1 (by decide) ?_
  refine op_icmp_lt (tgt := 20) dX11_isHome_2 (by decide) (fun c1 => ?_) (fun c1 => ?_)
  · replace h := am_ip c1 h
    refine op_iconst (v := 0) dX11_isHome_20 (by decide) ?_
    cases h
    exact (op_iret dX11_isHome_21 rfl (by decide) ⟨rfl, rfl⟩)
  · replace h := am_ie c1 h
    refine op_iload_n (k := 1) dX11_isHome_5 rfl rfl ?_
    refine op_aload_n (k := 0) dX11_isHome_6 rfl rfl ?_
    refine st_getR (z := 3) dX11_isHome_7 fl_X11_19 kd_0 (by decide) rfl rr_0_1 ?_
    refine st_getI (v := I 3 0) dX11_isHome_10 fl_X11_295 kd_3 (by decide) rfl rfl ?_
    refine op_icmp_gt (tgt := 20) dX11_isHome_13 (by decide) (fun c2 => ?_) (fun c2 => ?_)
    · replace h := am_ip c2 h
      refine op_iconst (v := 0) dX11_isHome_20 (by decide) ?_
      cases h
      exact (op_iret dX11_isHome_21 rfl (by decide) ⟨rfl, rfl⟩)
    · replace h := am_ie c2 h
      refine op_iconst (v := 1) dX11_isHome_16 (by decide) ?_
      refine op_goto (tgt := 21) dX11_isHome_17 (by decide) ?_
      cases h
      exact (op_iret dX11_isHome_21 rfl (by decide) ⟨rfl, rfl⟩)
theorem t_X11_isHome {l : Launch} {ρ : am_R} {n d gc gs : Nat} {I : Nat → Nat → Int32} {J : Nat → Nat → Int64} {T : Nat} {x1 : Int32} {q : Int32} (hd : 0 * n + 0 ≤ d) (h : f_X11_isHome n I J T x1 = some q) : AW l ρ d M_X11_isHome 0 [(0, .ref 0), (1, .int x1)] [] (am_KD, gc, gs) (I, J, am_RT T) (am_KD, gc, gs) (fun v H' => v = [.int q] ∧ H' = (I, J, am_RT T)) := t_X11_isHome_0 hd h
def f_X11_isRoadless (n : Nat) (I : Nat → Nat → Int32) (J : Nat → Nat → Int64) (T : Nat) : Option (Int32) :=
  if (I 3 0) = 0 then
   some (1)
  else
   some (0)
set_option maxRecDepth 100000 in
set_option maxHeartbeats 4000000 in
theorem t_X11_isRoadless_0 {l : Launch} {ρ : am_R} {n d gc gs : Nat} {I : Nat → Nat → Int32} {J : Nat → Nat → Int64} {T : Nat} {q : Int32} (hd : 0 * n + 0 ≤ d)
    (h : f_X11_isRoadless n  I J T  = some q) : AW l ρ d M_X11_isRoadless 0 [(0, .ref 0)] [] (am_KD, gc, gs) (I, J, am_RT T) (am_KD, gc, gs) (fun v H' => v = [.int q] ∧ H' = (I, J, am_RT T)) := by
  unfold f_X11_isRoadless at h
  refine op_aload_n (k := 0) dX11_isRoadless_0 rfl rfl ?_
  refine st_getR (z := 3) dX11_isRoadless_1 fl_X11_19 kd_0 (by decide) rfl rr_0_1 ?_
  refine st_getI (v := I 3 0) dX11_isRoadless_4 fl_X11_295 kd_3 (by decide) rfl rfl ?_
  refine op_if_ne (tgt := 14) dX11_isRoadless_7 (by decide) (fun c1 => ?_) (fun c1 => ?_)
  · replace h := am_ie c1 h
    refine op_iconst (v := 0) dX11_isRoadless_14 (by decide) ?_
    cases h
    exact (op_iret dX11_isRoadless_15 rfl (by decide) ⟨rfl, rfl⟩)
  · replace h := am_ip c1 h
    refine op_iconst (v := 1) dX11_isRoadless_10 (by decide) ?_
    refine op_goto (tgt := 15) dX11_isRoadless_11 (by decide) ?_
    cases h
    exact (op_iret dX11_isRoadless_15 rfl (by decide) ⟨rfl, rfl⟩)
theorem t_X11_isRoadless {l : Launch} {ρ : am_R} {n d gc gs : Nat} {I : Nat → Nat → Int32} {J : Nat → Nat → Int64} {T : Nat} {q : Int32} (hd : 0 * n + 0 ≤ d) (h : f_X11_isRoadless n I J T  = some q) : AW l ρ d M_X11_isRoadless 0 [(0, .ref 0)] [] (am_KD, gc, gs) (I, J, am_RT T) (am_KD, gc, gs) (fun v H' => v = [.int q] ∧ H' = (I, J, am_RT T)) := t_X11_isRoadless_0 hd h
def f_X11_isPlace (n : Nat) (I : Nat → Nat → Int32) (J : Nat → Nat → Int64) (T : Nat) (x1 : Int32) : Option (Int32) :=
  if x1 = 0 then
   (f_X11_isRoadless n I J T).bind fun w4 =>
   if w4 = 0 then
    some (1)
   else
    some (0)
  else
   (f_X11_isHome n I J T x1).bind fun w2 =>
   if w2 = 0 ∨ w2 = 1 then
    some (w2)
   else none
set_option maxRecDepth 100000 in
set_option maxHeartbeats 4000000 in
theorem t_X11_isPlace_0 {l : Launch} {ρ : am_R} {n d gc gs : Nat} {I : Nat → Nat → Int32} {J : Nat → Nat → Int64} {T : Nat} {x1 : Int32} {q : Int32} (hd : 0 * n + 1 ≤ (d + 1))
    (h : f_X11_isPlace n  I J T x1 = some q) : AW l ρ (d + 1) M_X11_isPlace 0 [(0, .ref 0), (1, .int x1)] [] (am_KD, gc, gs) (I, J, am_RT T) (am_KD, gc, gs) (fun v H' => v = [.int q] ∧ H' = (I, J, am_RT T)) := by
  unfold f_X11_isPlace at h
  refine op_iload_n (k := 1) dX11_isPlace_0 rfl rfl ?_
  refine op_if_ne (tgt := 19) dX11_isPlace_1 (by decide) (fun c1 => ?_) (fun c1 => ?_)
  · replace h := am_ie c1 h
    refine op_aload_n (k := 0) dX11_isPlace_19 rfl rfl ?_
    refine op_iload_n (k := 1) dX11_isPlace_20 rfl rfl ?_
    obtain ⟨w2, ew2, h⟩ := am_bd h
    refine op_callV (M' := M_X11_isHome) [.int x1] (S0 := []) dX11_isPlace_21 tw_709 ok_X11_isHome tw_711 tw_21 kd_0 cls_11 rfl rfl rfl (Nat.le_of_ble_eq_true rfl) (Nat.le_of_ble_eq_true rfl) (t_X11_isHome (by omega) ew2) (am_le_rf _) ?_
    rintro _ _ ⟨rfl, rfl⟩
    obtain ⟨g3, h⟩ := am_gd h
    cases h
    exact (op_iret dX11_isPlace_24 rfl (am_zo g3) ⟨rfl, rfl⟩)
  · replace h := am_ip c1 h
    refine op_aload_n (k := 0) dX11_isPlace_4 rfl rfl ?_
    obtain ⟨w4, ew4, h⟩ := am_bd h
    refine op_callV (M' := M_X11_isRoadless) [] (S0 := []) dX11_isPlace_5 tw_722 ok_X11_isRoadless tw_724 tw_23 kd_0 cls_11 rfl rfl rfl (Nat.le_of_ble_eq_true rfl) (Nat.le_of_ble_eq_true rfl) (t_X11_isRoadless (by omega) ew4) (am_le_rf _) ?_
    rintro _ _ ⟨rfl, rfl⟩
    refine op_if_ne (tgt := 15) dX11_isPlace_8 (by decide) (fun c5 => ?_) (fun c5 => ?_)
    · replace h := am_ie c5 h
      refine op_iconst (v := 0) dX11_isPlace_15 (by decide) ?_
      refine op_goto (tgt := 24) dX11_isPlace_16 (by decide) ?_
      cases h
      exact (op_iret dX11_isPlace_24 rfl (by decide) ⟨rfl, rfl⟩)
    · replace h := am_ip c5 h
      refine op_iconst (v := 1) dX11_isPlace_11 (by decide) ?_
      refine op_goto (tgt := 24) dX11_isPlace_12 (by decide) ?_
      cases h
      exact (op_iret dX11_isPlace_24 rfl (by decide) ⟨rfl, rfl⟩)
theorem t_X11_isPlace {l : Launch} {ρ : am_R} {n d gc gs : Nat} {I : Nat → Nat → Int32} {J : Nat → Nat → Int64} {T : Nat} {x1 : Int32} {q : Int32} (hd : 0 * n + 1 ≤ d) (h : f_X11_isPlace n I J T x1 = some q) : AW l ρ d M_X11_isPlace 0 [(0, .ref 0), (1, .int x1)] [] (am_KD, gc, gs) (I, J, am_RT T) (am_KD, gc, gs) (fun v H' => v = [.int q] ∧ H' = (I, J, am_RT T)) := by
  obtain ⟨d, rfl⟩ : ∃ e, d = e + 1 := ⟨d - 1, by omega⟩
  exact t_X11_isPlace_0 hd h
def f_X2_path_7 (n : Nat) : Nat → (Nat → Nat → Int32) → (Nat → Nat → Int64) → Nat → Int32 → Int32 → Int32 → Option (Int32)
  | 0, _, _, _, _, _, _ => none
  | m + 1, I, J, T, x2, x3, x4 =>
    if 9 ≤ x4 then
     some (x2)
    else
     if x3 ≤ 0 then
      some (x2)
     else
      if ok_ix x3 10 then
       f_X2_path_7 n  m I J T (x2 ||| (1 <<< (x3 &&& 31))) (I 4 x3.toNatClampNeg) (x4 + 1)
      else none
def f_X2_path (n : Nat) (I : Nat → Nat → Int32) (J : Nat → Nat → Int64) (T : Nat) (x1 : Int32) : Option (Int32) :=
  f_X2_path_7 n  n I J T 0 x1 0
set_option maxRecDepth 100000 in
set_option maxHeartbeats 4000000 in
theorem t_X2_path_7 {l : Launch} {ρ : am_R} {n d gc gs : Nat} {q : Int32} (hd : 0 * n + 0 ≤ d)
    : ∀ (m : Nat) (I : Nat → Nat → Int32) (J : Nat → Nat → Int64) (T : Nat) (x2 : Int32) (x3 : Int32) (x4 : Int32), f_X2_path_7 n  m I J T x2 x3 x4 = some q → AW l ρ d M_X2_path 7 [(0, .ref 3), (2, .int x2), (3, .int x3), (4, .int x4)] [] (am_KD, gc, gs) (I, J, am_RT T) (am_KD, gc, gs) (fun v H' => v = [.int q] ∧ H' = (I, J, am_RT T)) := by
  intro m
  induction m with
  | zero =>
    intro I J T x2 x3 x4 h
    rw [f_X2_path_7] at h
    cases h
  | succ m ih =>
    intro I J T x2 x3 x4 h
    rw [f_X2_path_7] at h
    refine op_iload (k := 3) dX2_path_7 rfl ?_
    refine op_bipush (v := 9) dX2_path_9 (by decide) ?_
    refine op_icmp_ge (tgt := 37) dX2_path_11 (by decide) (fun c1 => ?_) (fun c1 => ?_)
    · replace h := am_ip c1 h
      refine op_iload_n (k := 1) dX2_path_37 rfl rfl ?_
      cases h
      exact (op_iret dX2_path_38 rfl rfl ⟨rfl, rfl⟩)
    · replace h := am_ie c1 h
      refine op_iload_n (k := 2) dX2_path_14 rfl rfl ?_
      refine op_if_le (tgt := 37) dX2_path_15 (by decide) (fun c2 => ?_) (fun c2 => ?_)
      · replace h := am_ip c2 h
        refine op_iload_n (k := 1) dX2_path_37 rfl rfl ?_
        cases h
        exact (op_iret dX2_path_38 rfl rfl ⟨rfl, rfl⟩)
      · replace h := am_ie c2 h
        refine op_iload_n (k := 1) dX2_path_18 rfl rfl ?_
        refine op_iconst (v := 1) dX2_path_19 (by decide) ?_
        refine op_iload_n (k := 2) dX2_path_20 rfl rfl ?_
        refine op_ishl dX2_path_21 ?_
        refine op_ior dX2_path_22 ?_
        refine op_istore_n (L' := [(2, .int (x2 ||| (1 <<< (x3 &&& 31)))), (0, .ref 3), (3, .int x3), (4, .int x4)]) dX2_path_23 rfl (by decide) rfl ?_
        refine op_aload_n (k := 1) dX2_path_24 rfl rfl ?_
        refine st_getR (z := 4) dX2_path_25 fl_X2_9 kd_3 (by decide) rfl rr_3_5 ?_
        refine op_iload_n (k := 2) dX2_path_28 rfl rfl ?_
        obtain ⟨g3, h⟩ := am_gd h
        refine st_iald (k := x3.toNatClampNeg) (v := I 4 x3.toNatClampNeg) dX2_path_29 kd_4 g3 rfl rfl ?_
        refine op_istore_n (L' := [(3, .int (I 4 x3.toNatClampNeg)), (2, .int (x2 ||| (1 <<< (x3 &&& 31)))), (0, .ref 3), (4, .int x4)]) dX2_path_30 rfl (by decide) rfl ?_
        refine op_iinc (k := 3) (v := x4 + 1) (L' := [(4, .int (x4 + 1)), (3, .int (I 4 x3.toNatClampNeg)), (2, .int (x2 ||| (1 <<< (x3 &&& 31)))), (0, .ref 3)]) dX2_path_31 rfl rfl (by decide) rfl ?_
        refine op_goto (tgt := 7) dX2_path_34 (by decide) ?_
        refine AW.perm [3, 2, 1, 0] rfl ?_
        exact ih _ _ _ _ _ _ h
set_option maxRecDepth 100000 in
set_option maxHeartbeats 4000000 in
theorem t_X2_path_0 {l : Launch} {ρ : am_R} {n d gc gs : Nat} {I : Nat → Nat → Int32} {J : Nat → Nat → Int64} {T : Nat} {x1 : Int32} {q : Int32} (hd : 0 * n + 0 ≤ d)
    (h : f_X2_path n  I J T x1 = some q) : AW l ρ d M_X2_path 0 [(0, .ref 3), (1, .int x1)] [] (am_KD, gc, gs) (I, J, am_RT T) (am_KD, gc, gs) (fun v H' => v = [.int q] ∧ H' = (I, J, am_RT T)) := by
  unfold f_X2_path at h
  refine op_iconst (v := 0) dX2_path_0 (by decide) ?_
  refine op_istore_n (L' := [(2, .int 0), (0, .ref 3), (1, .int x1)]) dX2_path_1 rfl (by decide) rfl ?_
  refine op_iload_n (k := 2) dX2_path_2 rfl rfl ?_
  refine op_istore_n (L' := [(3, .int x1), (2, .int 0), (0, .ref 3), (1, .int x1)]) dX2_path_3 rfl (by decide) rfl ?_
  refine op_iconst (v := 0) dX2_path_4 (by decide) ?_
  refine op_istore (L' := [(4, .int 0), (3, .int x1), (2, .int 0), (0, .ref 3), (1, .int x1)]) dX2_path_5 (by decide) rfl ?_
  refine AW.perm [3, 2, 1, 0] rfl ?_
  exact t_X2_path_7 hd  n _ _ _ _ _ _ h
theorem t_X2_path {l : Launch} {ρ : am_R} {n d gc gs : Nat} {I : Nat → Nat → Int32} {J : Nat → Nat → Int64} {T : Nat} {x1 : Int32} {q : Int32} (hd : 0 * n + 0 ≤ d) (h : f_X2_path n I J T x1 = some q) : AW l ρ d M_X2_path 0 [(0, .ref 3), (1, .int x1)] [] (am_KD, gc, gs) (I, J, am_RT T) (am_KD, gc, gs) (fun v H' => v = [.int q] ∧ H' = (I, J, am_RT T)) := t_X2_path_0 hd h
def f_X2_milesOf_30 (n : Nat) (k4 : (Nat → Nat → Int32) → (Nat → Nat → Int64) → Nat → Int32 → Int32 → Int32 → Option (Int32)) (I : Nat → Nat → Int32) (J : Nat → Nat → Int64) (T : Nat) (x1 : Int32) (x2 : Int32) (x3 : Int32) : Option (Int32) :=
  k4 I J T x1 x2 (x3 + 1)
def f_X2_milesOf_4 (n : Nat) : Nat → (Nat → Nat → Int32) → (Nat → Nat → Int64) → Nat → Int32 → Int32 → Int32 → Option (Int32)
  | 0, _, _, _, _, _, _ => none
  | m + 1, I, J, T, x1, x2, x3 =>
    if (I 3 0) < x3 then
     some (x2)
    else
     if ((x1 >>> (x3 &&& 31)) &&& 1) = 1 then
      if ok_ix x3 10 then
       f_X2_milesOf_30 n (f_X2_milesOf_4 n m) I J T x1 (x2 + (I 5 x3.toNatClampNeg)) x3
      else none
     else
      f_X2_milesOf_30 n (f_X2_milesOf_4 n m) I J T x1 x2 x3
def f_X2_milesOf (n : Nat) (I : Nat → Nat → Int32) (J : Nat → Nat → Int64) (T : Nat) (x1 : Int32) : Option (Int32) :=
  f_X2_milesOf_4 n  n I J T x1 0 1
set_option maxRecDepth 100000 in
set_option maxHeartbeats 4000000 in
theorem t_X2_milesOf_30 {l : Launch} {ρ : am_R} {n d gc gs : Nat} {k4 : (Nat → Nat → Int32) → (Nat → Nat → Int64) → Nat → Int32 → Int32 → Int32 → Option (Int32)} {I : Nat → Nat → Int32} {J : Nat → Nat → Int64} {T : Nat} {x1 : Int32} {x2 : Int32} {x3 : Int32} {q : Int32} (hd : 0 * n + 0 ≤ d)
    (hk4 : ∀ (I : Nat → Nat → Int32) (J : Nat → Nat → Int64) (T : Nat) (x1 : Int32) (x2 : Int32) (x3 : Int32), k4 I J T x1 x2 x3 = some q → AW l ρ d M_X2_milesOf 4 [(0, .ref 3), (1, .int x1), (2, .int x2), (3, .int x3)] [] (am_KD, gc, gs) (I, J, am_RT T) (am_KD, gc, gs) (fun v H' => v = [.int q] ∧ H' = (I, J, am_RT T)))
    (h : f_X2_milesOf_30 n k4 I J T x1 x2 x3 = some q) : AW l ρ d M_X2_milesOf 30 [(0, .ref 3), (1, .int x1), (2, .int x2), (3, .int x3)] [] (am_KD, gc, gs) (I, J, am_RT T) (am_KD, gc, gs) (fun v H' => v = [.int q] ∧ H' = (I, J, am_RT T)) := by
  unfold f_X2_milesOf_30 at h
  refine op_iinc (k := 3) (v := x3 + 1) (L' := [(3, .int (x3 + 1)), (0, .ref 3), (1, .int x1), (2, .int x2)]) dX2_milesOf_30 rfl rfl (by decide) rfl ?_
  refine op_goto (tgt := 4) dX2_milesOf_33 (by decide) ?_
  refine AW.perm [1, 2, 3, 0] rfl ?_
  exact hk4 _ _ _ _ _ _ h
set_option maxRecDepth 100000 in
set_option maxHeartbeats 4000000 in
theorem t_X2_milesOf_4 {l : Launch} {ρ : am_R} {n d gc gs : Nat} {q : Int32} (hd : 0 * n + 0 ≤ d)
    : ∀ (m : Nat) (I : Nat → Nat → Int32) (J : Nat → Nat → Int64) (T : Nat) (x1 : Int32) (x2 : Int32) (x3 : Int32), f_X2_milesOf_4 n  m I J T x1 x2 x3 = some q → AW l ρ d M_X2_milesOf 4 [(0, .ref 3), (1, .int x1), (2, .int x2), (3, .int x3)] [] (am_KD, gc, gs) (I, J, am_RT T) (am_KD, gc, gs) (fun v H' => v = [.int q] ∧ H' = (I, J, am_RT T)) := by
  intro m
  induction m with
  | zero =>
    intro I J T x1 x2 x3 h
    rw [f_X2_milesOf_4] at h
    cases h
  | succ m ih =>
    intro I J T x1 x2 x3 h
    rw [f_X2_milesOf_4] at h
    refine op_iload_n (k := 3) dX2_milesOf_4 rfl rfl ?_
    refine op_aload_n (k := 0) dX2_milesOf_5 rfl rfl ?_
    refine st_getI (v := I 3 0) dX2_milesOf_6 fl_X2_27 kd_3 (by decide) rfl rfl ?_
    refine op_icmp_gt (tgt := 36) dX2_milesOf_9 (by decide) (fun c1 => ?_) (fun c1 => ?_)
    · replace h := am_ip c1 h
      refine op_iload_n (k := 2) dX2_milesOf_36 rfl rfl ?_
      cases h
      exact (op_iret dX2_milesOf_37 rfl rfl ⟨rfl, rfl⟩)
    · replace h := am_ie c1 h
      refine op_iload_n (k := 1) dX2_milesOf_12 rfl rfl ?_
      refine op_iload_n (k := 3) dX2_milesOf_13 rfl rfl ?_
      refine op_ishr dX2_milesOf_14 ?_
      refine op_iconst (v := 1) dX2_milesOf_15 (by decide) ?_
      refine op_iand dX2_milesOf_16 ?_
      refine op_iconst (v := 1) dX2_milesOf_17 (by decide) ?_
      refine op_icmp_ne (tgt := 30) dX2_milesOf_18 (by decide) (fun c2 => ?_) (fun c2 => ?_)
      · replace h := am_ie c2 h
        exact t_X2_milesOf_30 hd ih h
      · replace h := am_ip c2 h
        refine op_iload_n (k := 2) dX2_milesOf_21 rfl rfl ?_
        refine op_aload_n (k := 0) dX2_milesOf_22 rfl rfl ?_
        refine st_getR (z := 5) dX2_milesOf_23 fl_X2_15 kd_3 (by decide) rfl rr_3_6 ?_
        refine op_iload_n (k := 3) dX2_milesOf_26 rfl rfl ?_
        obtain ⟨g3, h⟩ := am_gd h
        refine st_iald (k := x3.toNatClampNeg) (v := I 5 x3.toNatClampNeg) dX2_milesOf_27 kd_5 g3 rfl rfl ?_
        refine op_iadd dX2_milesOf_28 ?_
        refine op_istore_n (L' := [(2, .int (x2 + (I 5 x3.toNatClampNeg))), (0, .ref 3), (1, .int x1), (3, .int x3)]) dX2_milesOf_29 rfl (by decide) rfl ?_
        refine AW.perm [1, 2, 0, 3] rfl ?_
        exact t_X2_milesOf_30 hd ih h
set_option maxRecDepth 100000 in
set_option maxHeartbeats 4000000 in
theorem t_X2_milesOf_0 {l : Launch} {ρ : am_R} {n d gc gs : Nat} {I : Nat → Nat → Int32} {J : Nat → Nat → Int64} {T : Nat} {x1 : Int32} {q : Int32} (hd : 0 * n + 0 ≤ d)
    (h : f_X2_milesOf n  I J T x1 = some q) : AW l ρ d M_X2_milesOf 0 [(0, .ref 3), (1, .int x1)] [] (am_KD, gc, gs) (I, J, am_RT T) (am_KD, gc, gs) (fun v H' => v = [.int q] ∧ H' = (I, J, am_RT T)) := by
  unfold f_X2_milesOf at h
  refine op_iconst (v := 0) dX2_milesOf_0 (by decide) ?_
  refine op_istore_n (L' := [(2, .int 0), (0, .ref 3), (1, .int x1)]) dX2_milesOf_1 rfl (by decide) rfl ?_
  refine op_iconst (v := 1) dX2_milesOf_2 (by decide) ?_
  refine op_istore_n (L' := [(3, .int 1), (2, .int 0), (0, .ref 3), (1, .int x1)]) dX2_milesOf_3 rfl (by decide) rfl ?_
  refine AW.perm [2, 3, 1, 0] rfl ?_
  exact t_X2_milesOf_4 hd  n _ _ _ _ _ _ h
theorem t_X2_milesOf {l : Launch} {ρ : am_R} {n d gc gs : Nat} {I : Nat → Nat → Int32} {J : Nat → Nat → Int64} {T : Nat} {x1 : Int32} {q : Int32} (hd : 0 * n + 0 ≤ d) (h : f_X2_milesOf n I J T x1 = some q) : AW l ρ d M_X2_milesOf 0 [(0, .ref 3), (1, .int x1)] [] (am_KD, gc, gs) (I, J, am_RT T) (am_KD, gc, gs) (fun v H' => v = [.int q] ∧ H' = (I, J, am_RT T)) := t_X2_milesOf_0 hd h
def f_X2_apart (n : Nat) (I : Nat → Nat → Int32) (J : Nat → Nat → Int64) (T : Nat) (x1 : Int32) (x2 : Int32) : Option (Int32) :=
  (f_X2_path n I J T x1).bind fun w1 =>
  (f_X2_path n I J T x2).bind fun w2 =>
  (f_X2_milesOf n I J T (w1 ^^^ w2)).bind fun w3 =>
  some (w3)
set_option maxRecDepth 100000 in
set_option maxHeartbeats 4000000 in
theorem t_X2_apart_0 {l : Launch} {ρ : am_R} {n d gc gs : Nat} {I : Nat → Nat → Int32} {J : Nat → Nat → Int64} {T : Nat} {x1 : Int32} {x2 : Int32} {q : Int32} (hd : 0 * n + 1 ≤ (d + 1))
    (h : f_X2_apart n  I J T x1 x2 = some q) : AW l ρ (d + 1) M_X2_apart 0 [(0, .ref 3), (1, .int x1), (2, .int x2)] [] (am_KD, gc, gs) (I, J, am_RT T) (am_KD, gc, gs) (fun v H' => v = [.int q] ∧ H' = (I, J, am_RT T)) := by
  unfold f_X2_apart at h
  refine op_aload_n (k := 0) dX2_apart_0 rfl rfl ?_
  refine op_aload_n (k := 0) dX2_apart_1 rfl rfl ?_
  refine op_iload_n (k := 1) dX2_apart_2 rfl rfl ?_
  obtain ⟨w1, ew1, h⟩ := am_bd h
  refine op_callV (M' := M_X2_path) [.int x1] (S0 := [.ref 3]) dX2_apart_3 tw_730 ok_X2_path tw_731 tw_732 kd_3 cls_2 rfl rfl rfl (Nat.le_of_ble_eq_true rfl) (Nat.le_of_ble_eq_true rfl) (t_X2_path (by omega) ew1) (am_le_rf _) ?_
  rintro _ _ ⟨rfl, rfl⟩
  refine op_aload_n (k := 0) dX2_apart_6 rfl rfl ?_
  refine op_iload_n (k := 2) dX2_apart_7 rfl rfl ?_
  obtain ⟨w2, ew2, h⟩ := am_bd h
  refine op_callV (M' := M_X2_path) [.int x2] (S0 := [.int w1, .ref 3]) dX2_apart_8 tw_730 ok_X2_path tw_731 tw_732 kd_3 cls_2 rfl rfl rfl (Nat.le_of_ble_eq_true rfl) (Nat.le_of_ble_eq_true rfl) (t_X2_path (by omega) ew2) (am_le_rf _) ?_
  rintro _ _ ⟨rfl, rfl⟩
  refine op_ixor dX2_apart_11 ?_
  obtain ⟨w3, ew3, h⟩ := am_bd h
  refine op_callV (M' := M_X2_milesOf) [.int (w1 ^^^ w2)] (S0 := []) dX2_apart_12 tw_734 ok_X2_milesOf tw_736 tw_24 kd_3 cls_2 rfl rfl rfl (Nat.le_of_ble_eq_true rfl) (Nat.le_of_ble_eq_true rfl) (t_X2_milesOf (by omega) ew3) (am_le_rf _) ?_
  rintro _ _ ⟨rfl, rfl⟩
  cases h
  exact (op_iret dX2_apart_15 rfl rfl ⟨rfl, rfl⟩)
theorem t_X2_apart {l : Launch} {ρ : am_R} {n d gc gs : Nat} {I : Nat → Nat → Int32} {J : Nat → Nat → Int64} {T : Nat} {x1 : Int32} {x2 : Int32} {q : Int32} (hd : 0 * n + 1 ≤ d) (h : f_X2_apart n I J T x1 x2 = some q) : AW l ρ d M_X2_apart 0 [(0, .ref 3), (1, .int x1), (2, .int x2)] [] (am_KD, gc, gs) (I, J, am_RT T) (am_KD, gc, gs) (fun v H' => v = [.int q] ∧ H' = (I, J, am_RT T)) := by
  obtain ⟨d, rfl⟩ : ∃ e, d = e + 1 := ⟨d - 1, by omega⟩
  exact t_X2_apart_0 hd h
def f_X11_between (n : Nat) (I : Nat → Nat → Int32) (J : Nat → Nat → Int64) (T : Nat) (x1 : Int32) (x2 : Int32) : Option (Int32) :=
  (f_X11_isPlace n I J T x1).bind fun w1 =>
  if w1 = 0 then
   some ((-1))
  else
   (f_X11_isPlace n I J T x2).bind fun w3 =>
   if w3 = 0 then
    some ((-1))
   else
    (f_X2_apart n I J T x1 x2).bind fun w5 =>
    some (w5)
set_option maxRecDepth 100000 in
set_option maxHeartbeats 4000000 in
theorem t_X11_between_0 {l : Launch} {ρ : am_R} {n d gc gs : Nat} {I : Nat → Nat → Int32} {J : Nat → Nat → Int64} {T : Nat} {x1 : Int32} {x2 : Int32} {q : Int32} (hd : 0 * n + 2 ≤ (d + 1))
    (h : f_X11_between n  I J T x1 x2 = some q) : AW l ρ (d + 1) M_X11_between 0 [(0, .ref 0), (1, .int x1), (2, .int x2)] [] (am_KD, gc, gs) (I, J, am_RT T) (am_KD, gc, gs) (fun v H' => v = [.int q] ∧ H' = (I, J, am_RT T)) := by
  unfold f_X11_between at h
  refine op_aload_n (k := 0) dX11_between_0 rfl rfl ?_
  refine op_iload_n (k := 1) dX11_between_1 rfl rfl ?_
  obtain ⟨w1, ew1, h⟩ := am_bd h
  refine op_callV (M' := M_X11_isPlace) [.int x1] (S0 := []) dX11_between_2 tw_718 ok_X11_isPlace tw_720 tw_22 kd_0 cls_11 rfl rfl rfl (Nat.le_of_ble_eq_true rfl) (Nat.le_of_ble_eq_true rfl) (t_X11_isPlace (by omega) ew1) (am_le_rf _) ?_
  rintro _ _ ⟨rfl, rfl⟩
  refine op_if_eq (tgt := 16) dX11_between_5 (by decide) (fun c2 => ?_) (fun c2 => ?_)
  · replace h := am_ip c2 h
    refine op_iconst (v := (-1)) dX11_between_16 (by decide) ?_
    cases h
    exact (op_iret dX11_between_17 rfl rfl ⟨rfl, rfl⟩)
  · replace h := am_ie c2 h
    refine op_aload_n (k := 0) dX11_between_8 rfl rfl ?_
    refine op_iload_n (k := 2) dX11_between_9 rfl rfl ?_
    obtain ⟨w3, ew3, h⟩ := am_bd h
    refine op_callV (M' := M_X11_isPlace) [.int x2] (S0 := []) dX11_between_10 tw_718 ok_X11_isPlace tw_720 tw_22 kd_0 cls_11 rfl rfl rfl (Nat.le_of_ble_eq_true rfl) (Nat.le_of_ble_eq_true rfl) (t_X11_isPlace (by omega) ew3) (am_le_rf _) ?_
    rintro _ _ ⟨rfl, rfl⟩
    refine op_if_ne (tgt := 18) dX11_between_13 (by decide) (fun c4 => ?_) (fun c4 => ?_)
    · replace h := am_ie c4 h
      refine op_aload_n (k := 0) dX11_between_18 rfl rfl ?_
      refine st_getR (z := 3) dX11_between_19 fl_X11_19 kd_0 (by decide) rfl rr_0_1 ?_
      refine op_iload_n (k := 1) dX11_between_22 rfl rfl ?_
      refine op_iload_n (k := 2) dX11_between_23 rfl rfl ?_
      obtain ⟨w5, ew5, h⟩ := am_bd h
      refine op_callV (M' := M_X2_apart) [.int x1, .int x2] (S0 := []) dX11_between_24 tw_726 ok_X2_apart tw_727 tw_728 kd_3 cls_2 rfl rfl rfl (Nat.le_of_ble_eq_true rfl) (Nat.le_of_ble_eq_true rfl) (t_X2_apart (by omega) ew5) (am_le_rf _) ?_
      rintro _ _ ⟨rfl, rfl⟩
      cases h
      exact (op_iret dX11_between_27 rfl rfl ⟨rfl, rfl⟩)
    · replace h := am_ip c4 h
      refine op_iconst (v := (-1)) dX11_between_16 (by decide) ?_
      cases h
      exact (op_iret dX11_between_17 rfl rfl ⟨rfl, rfl⟩)
theorem t_X11_between {l : Launch} {ρ : am_R} {n d gc gs : Nat} {I : Nat → Nat → Int32} {J : Nat → Nat → Int64} {T : Nat} {x1 : Int32} {x2 : Int32} {q : Int32} (hd : 0 * n + 2 ≤ d) (h : f_X11_between n I J T x1 x2 = some q) : AW l ρ d M_X11_between 0 [(0, .ref 0), (1, .int x1), (2, .int x2)] [] (am_KD, gc, gs) (I, J, am_RT T) (am_KD, gc, gs) (fun v H' => v = [.int q] ∧ H' = (I, J, am_RT T)) := by
  obtain ⟨d, rfl⟩ : ∃ e, d = e + 1 := ⟨d - 1, by omega⟩
  exact t_X11_between_0 hd h
def f_X11_isWithin (n : Nat) (I : Nat → Nat → Int32) (J : Nat → Nat → Int64) (T : Nat) (x0 : Int32) (x1 : Int32) (x2 : Int32) : Option (Int32) :=
  if x0 < x1 then
   some (0)
  else
   if x2 < x0 then
    some (0)
   else
    some (1)
set_option maxRecDepth 100000 in
set_option maxHeartbeats 4000000 in
theorem t_X11_isWithin_0 {l : Launch} {ρ : am_R} {n d gc gs : Nat} {I : Nat → Nat → Int32} {J : Nat → Nat → Int64} {T : Nat} {x0 : Int32} {x1 : Int32} {x2 : Int32} {q : Int32} (hd : 0 * n + 0 ≤ d)
    (h : f_X11_isWithin n  I J T x0 x1 x2 = some q) : AW l ρ d M_X11_isWithin 0 [(0, .int x0), (1, .int x1), (2, .int x2)] [] (am_KD, gc, gs) (I, J, am_RT T) (am_KD, gc, gs) (fun v H' => v = [.int q] ∧ H' = (I, J, am_RT T)) := by
  unfold f_X11_isWithin at h
  refine op_iload_n (k := 0) dX11_isWithin_0 rfl rfl ?_
  refine op_iload_n (k := 1) dX11_isWithin_1 rfl rfl ?_
  refine op_icmp_lt (tgt := 14) dX11_isWithin_2 (by decide) (fun c1 => ?_) (fun c1 => ?_)
  · replace h := am_ip c1 h
    refine op_iconst (v := 0) dX11_isWithin_14 (by decide) ?_
    cases h
    exact (op_iret dX11_isWithin_15 rfl (by decide) ⟨rfl, rfl⟩)
  · replace h := am_ie c1 h
    refine op_iload_n (k := 0) dX11_isWithin_5 rfl rfl ?_
    refine op_iload_n (k := 2) dX11_isWithin_6 rfl rfl ?_
    refine op_icmp_gt (tgt := 14) dX11_isWithin_7 (by decide) (fun c2 => ?_) (fun c2 => ?_)
    · replace h := am_ip c2 h
      refine op_iconst (v := 0) dX11_isWithin_14 (by decide) ?_
      cases h
      exact (op_iret dX11_isWithin_15 rfl (by decide) ⟨rfl, rfl⟩)
    · replace h := am_ie c2 h
      refine op_iconst (v := 1) dX11_isWithin_10 (by decide) ?_
      refine op_goto (tgt := 15) dX11_isWithin_11 (by decide) ?_
      cases h
      exact (op_iret dX11_isWithin_15 rfl (by decide) ⟨rfl, rfl⟩)
theorem t_X11_isWithin {l : Launch} {ρ : am_R} {n d gc gs : Nat} {I : Nat → Nat → Int32} {J : Nat → Nat → Int64} {T : Nat} {x0 : Int32} {x1 : Int32} {x2 : Int32} {q : Int32} (hd : 0 * n + 0 ≤ d) (h : f_X11_isWithin n I J T x0 x1 x2 = some q) : AW l ρ d M_X11_isWithin 0 [(0, .int x0), (1, .int x1), (2, .int x2)] [] (am_KD, gc, gs) (I, J, am_RT T) (am_KD, gc, gs) (fun v H' => v = [.int q] ∧ H' = (I, J, am_RT T)) := t_X11_isWithin_0 hd h
def f_X2_everyone (n : Nat) (I : Nat → Nat → Int32) (J : Nat → Nat → Int64) (T : Nat) : Option (Int32) :=
  some ((1 <<< ((I 3 1) &&& 31)) - 1)
set_option maxRecDepth 100000 in
set_option maxHeartbeats 4000000 in
theorem t_X2_everyone_0 {l : Launch} {ρ : am_R} {n d gc gs : Nat} {I : Nat → Nat → Int32} {J : Nat → Nat → Int64} {T : Nat} {q : Int32} (hd : 0 * n + 0 ≤ d)
    (h : f_X2_everyone n  I J T  = some q) : AW l ρ d M_X2_everyone 0 [(0, .ref 3)] [] (am_KD, gc, gs) (I, J, am_RT T) (am_KD, gc, gs) (fun v H' => v = [.int q] ∧ H' = (I, J, am_RT T)) := by
  unfold f_X2_everyone at h
  refine op_iconst (v := 1) dX2_everyone_0 (by decide) ?_
  refine op_aload_n (k := 0) dX2_everyone_1 rfl rfl ?_
  refine st_getI (v := I 3 1) dX2_everyone_2 fl_X2_31 kd_3 (by decide) rfl rfl ?_
  refine op_ishl dX2_everyone_5 ?_
  refine op_iconst (v := 1) dX2_everyone_6 (by decide) ?_
  refine op_isub dX2_everyone_7 ?_
  cases h
  exact (op_iret dX2_everyone_8 rfl rfl ⟨rfl, rfl⟩)
theorem t_X2_everyone {l : Launch} {ρ : am_R} {n d gc gs : Nat} {I : Nat → Nat → Int32} {J : Nat → Nat → Int64} {T : Nat} {q : Int32} (hd : 0 * n + 0 ≤ d) (h : f_X2_everyone n I J T  = some q) : AW l ρ d M_X2_everyone 0 [(0, .ref 3)] [] (am_KD, gc, gs) (I, J, am_RT T) (am_KD, gc, gs) (fun v H' => v = [.int q] ∧ H' = (I, J, am_RT T)) := t_X2_everyone_0 hd h
def f_X11_isIn (n : Nat) (I : Nat → Nat → Int32) (J : Nat → Nat → Int64) (T : Nat) (x0 : Int32) (x1 : Int32) : Option (Int32) :=
  if ((x1 >>> (x0 &&& 31)) &&& 1) = 1 then
   some (1)
  else
   some (0)
set_option maxRecDepth 100000 in
set_option maxHeartbeats 4000000 in
theorem t_X11_isIn_0 {l : Launch} {ρ : am_R} {n d gc gs : Nat} {I : Nat → Nat → Int32} {J : Nat → Nat → Int64} {T : Nat} {x0 : Int32} {x1 : Int32} {q : Int32} (hd : 0 * n + 0 ≤ d)
    (h : f_X11_isIn n  I J T x0 x1 = some q) : AW l ρ d M_X11_isIn 0 [(0, .int x0), (1, .int x1)] [] (am_KD, gc, gs) (I, J, am_RT T) (am_KD, gc, gs) (fun v H' => v = [.int q] ∧ H' = (I, J, am_RT T)) := by
  unfold f_X11_isIn at h
  refine op_iload_n (k := 1) dX11_isIn_0 rfl rfl ?_
  refine op_iload_n (k := 0) dX11_isIn_1 rfl rfl ?_
  refine op_ishr dX11_isIn_2 ?_
  refine op_iconst (v := 1) dX11_isIn_3 (by decide) ?_
  refine op_iand dX11_isIn_4 ?_
  refine op_iconst (v := 1) dX11_isIn_5 (by decide) ?_
  refine op_icmp_ne (tgt := 13) dX11_isIn_6 (by decide) (fun c1 => ?_) (fun c1 => ?_)
  · replace h := am_ie c1 h
    refine op_iconst (v := 0) dX11_isIn_13 (by decide) ?_
    cases h
    exact (op_iret dX11_isIn_14 rfl (by decide) ⟨rfl, rfl⟩)
  · replace h := am_ip c1 h
    refine op_iconst (v := 1) dX11_isIn_9 (by decide) ?_
    refine op_goto (tgt := 14) dX11_isIn_10 (by decide) ?_
    cases h
    exact (op_iret dX11_isIn_14 rfl (by decide) ⟨rfl, rfl⟩)
theorem t_X11_isIn {l : Launch} {ρ : am_R} {n d gc gs : Nat} {I : Nat → Nat → Int32} {J : Nat → Nat → Int64} {T : Nat} {x0 : Int32} {x1 : Int32} {q : Int32} (hd : 0 * n + 0 ≤ d) (h : f_X11_isIn n I J T x0 x1 = some q) : AW l ρ d M_X11_isIn 0 [(0, .int x0), (1, .int x1)] [] (am_KD, gc, gs) (I, J, am_RT T) (am_KD, gc, gs) (fun v H' => v = [.int q] ∧ H' = (I, J, am_RT T)) := t_X11_isIn_0 hd h
def f_X2_milesFor_33 (n : Nat) (k4 : (Nat → Nat → Int32) → (Nat → Nat → Int64) → Nat → Int32 → Int32 → Int32 → Option (Int32)) (I : Nat → Nat → Int32) (J : Nat → Nat → Int64) (T : Nat) (x1 : Int32) (x2 : Int32) (x3 : Int32) : Option (Int32) :=
  k4 I J T x1 x2 (x3 + 1)
def f_X2_milesFor_4 (n : Nat) : Nat → (Nat → Nat → Int32) → (Nat → Nat → Int64) → Nat → Int32 → Int32 → Int32 → Option (Int32)
  | 0, _, _, _, _, _, _ => none
  | m + 1, I, J, T, x1, x2, x3 =>
    if (I 3 1) ≤ x3 then
     (f_X2_milesOf n I J T x2).bind fun w2 =>
     some (w2)
    else
     (f_X11_isIn n I J T x3 x1).bind fun w3 =>
     if w3 = 0 then
      f_X2_milesFor_33 n (f_X2_milesFor_4 n m) I J T x1 x2 x3
     else
      if ok_ix x3 6 then
       (f_X2_path n I J T (I 6 x3.toNatClampNeg)).bind fun w6 =>
       f_X2_milesFor_33 n (f_X2_milesFor_4 n m) I J T x1 (x2 ||| w6) x3
      else none
def f_X2_milesFor (n : Nat) (I : Nat → Nat → Int32) (J : Nat → Nat → Int64) (T : Nat) (x1 : Int32) : Option (Int32) :=
  f_X2_milesFor_4 n  n I J T x1 0 0
set_option maxRecDepth 100000 in
set_option maxHeartbeats 4000000 in
theorem t_X2_milesFor_33 {l : Launch} {ρ : am_R} {n d gc gs : Nat} {k4 : (Nat → Nat → Int32) → (Nat → Nat → Int64) → Nat → Int32 → Int32 → Int32 → Option (Int32)} {I : Nat → Nat → Int32} {J : Nat → Nat → Int64} {T : Nat} {x1 : Int32} {x2 : Int32} {x3 : Int32} {q : Int32} (hd : 0 * n + 1 ≤ (d + 1))
    (hk4 : ∀ (I : Nat → Nat → Int32) (J : Nat → Nat → Int64) (T : Nat) (x1 : Int32) (x2 : Int32) (x3 : Int32), k4 I J T x1 x2 x3 = some q → AW l ρ (d + 1) M_X2_milesFor 4 [(0, .ref 3), (1, .int x1), (2, .int x2), (3, .int x3)] [] (am_KD, gc, gs) (I, J, am_RT T) (am_KD, gc, gs) (fun v H' => v = [.int q] ∧ H' = (I, J, am_RT T)))
    (h : f_X2_milesFor_33 n k4 I J T x1 x2 x3 = some q) : AW l ρ (d + 1) M_X2_milesFor 33 [(0, .ref 3), (1, .int x1), (2, .int x2), (3, .int x3)] [] (am_KD, gc, gs) (I, J, am_RT T) (am_KD, gc, gs) (fun v H' => v = [.int q] ∧ H' = (I, J, am_RT T)) := by
  unfold f_X2_milesFor_33 at h
  refine op_iinc (k := 3) (v := x3 + 1) (L' := [(3, .int (x3 + 1)), (0, .ref 3), (1, .int x1), (2, .int x2)]) dX2_milesFor_33 rfl rfl (by decide) rfl ?_
  refine op_goto (tgt := 4) dX2_milesFor_36 (by decide) ?_
  refine AW.perm [1, 2, 3, 0] rfl ?_
  exact hk4 _ _ _ _ _ _ h
set_option maxRecDepth 100000 in
set_option maxHeartbeats 4000000 in
theorem t_X2_milesFor_4 {l : Launch} {ρ : am_R} {n d gc gs : Nat} {q : Int32} (hd : 0 * n + 1 ≤ (d + 1))
    : ∀ (m : Nat) (I : Nat → Nat → Int32) (J : Nat → Nat → Int64) (T : Nat) (x1 : Int32) (x2 : Int32) (x3 : Int32), f_X2_milesFor_4 n  m I J T x1 x2 x3 = some q → AW l ρ (d + 1) M_X2_milesFor 4 [(0, .ref 3), (1, .int x1), (2, .int x2), (3, .int x3)] [] (am_KD, gc, gs) (I, J, am_RT T) (am_KD, gc, gs) (fun v H' => v = [.int q] ∧ H' = (I, J, am_RT T)) := by
  intro m
  induction m with
  | zero =>
    intro I J T x1 x2 x3 h
    rw [f_X2_milesFor_4] at h
    cases h
  | succ m ih =>
    intro I J T x1 x2 x3 h
    rw [f_X2_milesFor_4] at h
    refine op_iload_n (k := 3) dX2_milesFor_4 rfl rfl ?_
    refine op_aload_n (k := 0) dX2_milesFor_5 rfl rfl ?_
    refine st_getI (v := I 3 1) dX2_milesFor_6 fl_X2_31 kd_3 (by decide) rfl rfl ?_
    refine op_icmp_ge (tgt := 39) dX2_milesFor_9 (by decide) (fun c1 => ?_) (fun c1 => ?_)
    · replace h := am_ip c1 h
      refine op_aload_n (k := 0) dX2_milesFor_39 rfl rfl ?_
      refine op_iload_n (k := 2) dX2_milesFor_40 rfl rfl ?_
      obtain ⟨w2, ew2, h⟩ := am_bd h
      refine op_callV (M' := M_X2_milesOf) [.int x2] (S0 := []) dX2_milesFor_41 tw_734 ok_X2_milesOf tw_736 tw_24 kd_3 cls_2 rfl rfl rfl (Nat.le_of_ble_eq_true rfl) (Nat.le_of_ble_eq_true rfl) (t_X2_milesOf (by omega) ew2) (am_le_rf _) ?_
      rintro _ _ ⟨rfl, rfl⟩
      cases h
      exact (op_iret dX2_milesFor_44 rfl rfl ⟨rfl, rfl⟩)
    · replace h := am_ie c1 h
      refine op_iload_n (k := 3) dX2_milesFor_12 rfl rfl ?_
      refine op_iload_n (k := 1) dX2_milesFor_13 rfl rfl ?_
      obtain ⟨w3, ew3, h⟩ := am_bd h
      refine op_callSN (M' := M_X11_isIn) [.int x3, .int x1] (S0 := []) dX2_milesFor_14 tn_770 ok_X11_isIn tw_771 rfl rfl (Nat.le_of_ble_eq_true rfl) (Nat.le_of_ble_eq_true rfl) (t_X11_isIn (by omega) ew3) (am_le_rf _) ?_
      rintro _ _ ⟨rfl, rfl⟩
      refine op_if_eq (tgt := 33) dX2_milesFor_17 (by decide) (fun c4 => ?_) (fun c4 => ?_)
      · replace h := am_ip c4 h
        exact t_X2_milesFor_33 hd ih h
      · replace h := am_ie c4 h
        refine op_iload_n (k := 2) dX2_milesFor_20 rfl rfl ?_
        refine op_aload_n (k := 0) dX2_milesFor_21 rfl rfl ?_
        refine op_aload_n (k := 0) dX2_milesFor_22 rfl rfl ?_
        refine st_getR (z := 6) dX2_milesFor_23 fl_X2_18 kd_3 (by decide) rfl rr_3_7 ?_
        refine op_iload_n (k := 3) dX2_milesFor_26 rfl rfl ?_
        obtain ⟨g5, h⟩ := am_gd h
        refine st_iald (k := x3.toNatClampNeg) (v := I 6 x3.toNatClampNeg) dX2_milesFor_27 kd_6 g5 rfl rfl ?_
        obtain ⟨w6, ew6, h⟩ := am_bd h
        refine op_callV (M' := M_X2_path) [.int (I 6 x3.toNatClampNeg)] (S0 := [.int x2]) dX2_milesFor_28 tw_730 ok_X2_path tw_731 tw_732 kd_3 cls_2 rfl rfl rfl (Nat.le_of_ble_eq_true rfl) (Nat.le_of_ble_eq_true rfl) (t_X2_path (by omega) ew6) (am_le_rf _) ?_
        rintro _ _ ⟨rfl, rfl⟩
        refine op_ior dX2_milesFor_31 ?_
        refine op_istore_n (L' := [(2, .int (x2 ||| w6)), (0, .ref 3), (1, .int x1), (3, .int x3)]) dX2_milesFor_32 rfl (by decide) rfl ?_
        refine AW.perm [1, 2, 0, 3] rfl ?_
        exact t_X2_milesFor_33 hd ih h
set_option maxRecDepth 100000 in
set_option maxHeartbeats 4000000 in
theorem t_X2_milesFor_0 {l : Launch} {ρ : am_R} {n d gc gs : Nat} {I : Nat → Nat → Int32} {J : Nat → Nat → Int64} {T : Nat} {x1 : Int32} {q : Int32} (hd : 0 * n + 1 ≤ (d + 1))
    (h : f_X2_milesFor n  I J T x1 = some q) : AW l ρ (d + 1) M_X2_milesFor 0 [(0, .ref 3), (1, .int x1)] [] (am_KD, gc, gs) (I, J, am_RT T) (am_KD, gc, gs) (fun v H' => v = [.int q] ∧ H' = (I, J, am_RT T)) := by
  unfold f_X2_milesFor at h
  refine op_iconst (v := 0) dX2_milesFor_0 (by decide) ?_
  refine op_istore_n (L' := [(2, .int 0), (0, .ref 3), (1, .int x1)]) dX2_milesFor_1 rfl (by decide) rfl ?_
  refine op_iconst (v := 0) dX2_milesFor_2 (by decide) ?_
  refine op_istore_n (L' := [(3, .int 0), (2, .int 0), (0, .ref 3), (1, .int x1)]) dX2_milesFor_3 rfl (by decide) rfl ?_
  refine AW.perm [2, 3, 1, 0] rfl ?_
  exact t_X2_milesFor_4 hd  n _ _ _ _ _ _ h
theorem t_X2_milesFor {l : Launch} {ρ : am_R} {n d gc gs : Nat} {I : Nat → Nat → Int32} {J : Nat → Nat → Int64} {T : Nat} {x1 : Int32} {q : Int32} (hd : 0 * n + 1 ≤ d) (h : f_X2_milesFor n I J T x1 = some q) : AW l ρ d M_X2_milesFor 0 [(0, .ref 3), (1, .int x1)] [] (am_KD, gc, gs) (I, J, am_RT T) (am_KD, gc, gs) (fun v H' => v = [.int q] ∧ H' = (I, J, am_RT T)) := by
  obtain ⟨d, rfl⟩ : ∃ e, d = e + 1 := ⟨d - 1, by omega⟩
  exact t_X2_milesFor_0 hd h
def f_X2_nightMiles (n : Nat) (I : Nat → Nat → Int32) (J : Nat → Nat → Int64) (T : Nat) (x1 : Int32) : Option (Int32) :=
  if (I 3 4) ≤ 0 then
   some (0)
  else
   if x1 ≤ (I 3 4) then
    some (0)
   else
    some (x1 - (I 3 4))
set_option maxRecDepth 100000 in
set_option maxHeartbeats 4000000 in
theorem t_X2_nightMiles_0 {l : Launch} {ρ : am_R} {n d gc gs : Nat} {I : Nat → Nat → Int32} {J : Nat → Nat → Int64} {T : Nat} {x1 : Int32} {q : Int32} (hd : 0 * n + 0 ≤ d)
    (h : f_X2_nightMiles n  I J T x1 = some q) : AW l ρ d M_X2_nightMiles 0 [(0, .ref 3), (1, .int x1)] [] (am_KD, gc, gs) (I, J, am_RT T) (am_KD, gc, gs) (fun v H' => v = [.int q] ∧ H' = (I, J, am_RT T)) := by
  unfold f_X2_nightMiles at h
  refine op_aload_n (k := 0) dX2_nightMiles_0 rfl rfl ?_
  refine st_getI (v := I 3 4) dX2_nightMiles_1 fl_X2_40 kd_3 (by decide) rfl rfl ?_
  refine op_if_le (tgt := 24) dX2_nightMiles_4 (by decide) (fun c1 => ?_) (fun c1 => ?_)
  · replace h := am_ip c1 h
    refine op_iconst (v := 0) dX2_nightMiles_24 (by decide) ?_
    cases h
    exact (op_iret dX2_nightMiles_25 rfl rfl ⟨rfl, rfl⟩)
  · replace h := am_ie c1 h
    refine op_iload_n (k := 1) dX2_nightMiles_7 rfl rfl ?_
    refine op_aload_n (k := 0) dX2_nightMiles_8 rfl rfl ?_
    refine st_getI (v := I 3 4) dX2_nightMiles_9 fl_X2_40 kd_3 (by decide) rfl rfl ?_
    refine op_icmp_le (tgt := 24) dX2_nightMiles_12 (by decide) (fun c2 => ?_) (fun c2 => ?_)
    · replace h := am_ip c2 h
      refine op_iconst (v := 0) dX2_nightMiles_24 (by decide) ?_
      cases h
      exact (op_iret dX2_nightMiles_25 rfl rfl ⟨rfl, rfl⟩)
    · replace h := am_ie c2 h
      refine op_iload_n (k := 1) dX2_nightMiles_15 rfl rfl ?_
      refine op_aload_n (k := 0) dX2_nightMiles_16 rfl rfl ?_
      refine st_getI (v := I 3 4) dX2_nightMiles_17 fl_X2_40 kd_3 (by decide) rfl rfl ?_
      refine op_isub dX2_nightMiles_20 ?_
      refine op_goto (tgt := 25) dX2_nightMiles_21 (by decide) ?_
      cases h
      exact (op_iret dX2_nightMiles_25 rfl rfl ⟨rfl, rfl⟩)
theorem t_X2_nightMiles {l : Launch} {ρ : am_R} {n d gc gs : Nat} {I : Nat → Nat → Int32} {J : Nat → Nat → Int64} {T : Nat} {x1 : Int32} {q : Int32} (hd : 0 * n + 0 ≤ d) (h : f_X2_nightMiles n I J T x1 = some q) : AW l ρ d M_X2_nightMiles 0 [(0, .ref 3), (1, .int x1)] [] (am_KD, gc, gs) (I, J, am_RT T) (am_KD, gc, gs) (fun v H' => v = [.int q] ∧ H' = (I, J, am_RT T)) := t_X2_nightMiles_0 hd h
def f_X2_costFor (n : Nat) (I : Nat → Nat → Int32) (J : Nat → Nat → Int64) (T : Nat) (x1 : Int32) : Option (Int32) :=
  (f_X2_milesFor n I J T x1).bind fun w1 =>
  (f_X2_nightMiles n I J T w1).bind fun w2 =>
  some ((I 3 3) * (w1 + w2))
set_option maxRecDepth 100000 in
set_option maxHeartbeats 4000000 in
theorem t_X2_costFor_0 {l : Launch} {ρ : am_R} {n d gc gs : Nat} {I : Nat → Nat → Int32} {J : Nat → Nat → Int64} {T : Nat} {x1 : Int32} {q : Int32} (hd : 0 * n + 2 ≤ (d + 1))
    (h : f_X2_costFor n  I J T x1 = some q) : AW l ρ (d + 1) M_X2_costFor 0 [(0, .ref 3), (1, .int x1)] [] (am_KD, gc, gs) (I, J, am_RT T) (am_KD, gc, gs) (fun v H' => v = [.int q] ∧ H' = (I, J, am_RT T)) := by
  unfold f_X2_costFor at h
  refine op_aload_n (k := 0) dX2_costFor_0 rfl rfl ?_
  refine op_iload_n (k := 1) dX2_costFor_1 rfl rfl ?_
  obtain ⟨w1, ew1, h⟩ := am_bd h
  refine op_callV (M' := M_X2_milesFor) [.int x1] (S0 := []) dX2_costFor_2 tw_777 ok_X2_milesFor tw_767 tw_768 kd_3 cls_2 rfl rfl rfl (Nat.le_of_ble_eq_true rfl) (Nat.le_of_ble_eq_true rfl) (t_X2_milesFor (by omega) ew1) (am_le_rf _) ?_
  rintro _ _ ⟨rfl, rfl⟩
  refine op_istore_n (L' := [(2, .int w1), (0, .ref 3), (1, .int x1)]) dX2_costFor_5 rfl (by decide) rfl ?_
  refine op_aload_n (k := 1) dX2_costFor_6 rfl rfl ?_
  refine st_getI (v := I 3 3) dX2_costFor_7 fl_X2_37 kd_3 (by decide) rfl rfl ?_
  refine op_iload_n (k := 0) dX2_costFor_10 rfl rfl ?_
  refine op_aload_n (k := 1) dX2_costFor_11 rfl rfl ?_
  refine op_iload_n (k := 0) dX2_costFor_12 rfl rfl ?_
  obtain ⟨w2, ew2, h⟩ := am_bd h
  refine op_callV (M' := M_X2_nightMiles) [.int w1] (S0 := [.int w1, .int (I 3 3)]) dX2_costFor_13 tw_778 ok_X2_nightMiles tw_780 tw_27 kd_3 cls_2 rfl rfl rfl (Nat.le_of_ble_eq_true rfl) (Nat.le_of_ble_eq_true rfl) (t_X2_nightMiles (by omega) ew2) (am_le_rf _) ?_
  rintro _ _ ⟨rfl, rfl⟩
  refine op_iadd dX2_costFor_16 ?_
  refine op_imul dX2_costFor_17 ?_
  cases h
  exact (op_iret dX2_costFor_18 rfl rfl ⟨rfl, rfl⟩)
theorem t_X2_costFor {l : Launch} {ρ : am_R} {n d gc gs : Nat} {I : Nat → Nat → Int32} {J : Nat → Nat → Int64} {T : Nat} {x1 : Int32} {q : Int32} (hd : 0 * n + 2 ≤ d) (h : f_X2_costFor n I J T x1 = some q) : AW l ρ d M_X2_costFor 0 [(0, .ref 3), (1, .int x1)] [] (am_KD, gc, gs) (I, J, am_RT T) (am_KD, gc, gs) (fun v H' => v = [.int q] ∧ H' = (I, J, am_RT T)) := by
  obtain ⟨d, rfl⟩ : ∃ e, d = e + 1 := ⟨d - 1, by omega⟩
  exact t_X2_costFor_0 hd h
def f_X11_costIfBridged (n : Nat) (I : Nat → Nat → Int32) (J : Nat → Nat → Int64) (T : Nat) (x1 : Int32) : Option (Int32 × (Nat → Nat → Int32)) :=
  if ok_ix x1 10 then
   if ok_ix x1 10 then
    (f_X2_everyone n ((am_u I 5 x1.toNatClampNeg 1)) J T).bind fun w3 =>
    (f_X2_costFor n ((am_u I 5 x1.toNatClampNeg 1)) J T w3).bind fun w4 =>
    if ok_ix x1 10 then
     some (w4, (am_u (am_u I 5 x1.toNatClampNeg 1) 5 x1.toNatClampNeg (I 5 x1.toNatClampNeg)))
    else none
   else none
  else none
set_option maxRecDepth 100000 in
set_option maxHeartbeats 4000000 in
theorem t_X11_costIfBridged_0 {l : Launch} {ρ : am_R} {n d gc gs : Nat} {I : Nat → Nat → Int32} {J : Nat → Nat → Int64} {T : Nat} {x1 : Int32} {q : Int32 × (Nat → Nat → Int32)} (hd : 0 * n + 3 ≤ (d + 1))
    (h : f_X11_costIfBridged n  I J T x1 = some q) : AW l ρ (d + 1) M_X11_costIfBridged 0 [(0, .ref 0), (1, .int x1)] [] (am_KD, gc, gs) (I, J, am_RT T) (am_KD, gc, gs) (fun v H' => v = [.int q.1] ∧ H' = (q.2, J, am_RT T)) := by
  unfold f_X11_costIfBridged at h
  refine op_aload_n (k := 0) dX11_costIfBridged_0 rfl rfl ?_
  refine st_getR (z := 3) dX11_costIfBridged_1 fl_X11_19 kd_0 (by decide) rfl rr_0_1 ?_
  refine st_getR (z := 5) dX11_costIfBridged_4 fl_X11_186 kd_3 (by decide) rfl rr_3_6 ?_
  refine op_iload_n (k := 1) dX11_costIfBridged_7 rfl rfl ?_
  obtain ⟨g1, h⟩ := am_gd h
  refine st_iald (k := x1.toNatClampNeg) (v := I 5 x1.toNatClampNeg) dX11_costIfBridged_8 kd_5 g1 rfl rfl ?_
  refine op_istore_n (L' := [(2, .int (I 5 x1.toNatClampNeg)), (0, .ref 0), (1, .int x1)]) dX11_costIfBridged_9 rfl (by decide) rfl ?_
  refine op_aload_n (k := 1) dX11_costIfBridged_10 rfl rfl ?_
  refine st_getR (z := 3) dX11_costIfBridged_11 fl_X11_19 kd_0 (by decide) rfl rr_0_1 ?_
  refine st_getR (z := 5) dX11_costIfBridged_14 fl_X11_186 kd_3 (by decide) rfl rr_3_6 ?_
  refine op_iload_n (k := 2) dX11_costIfBridged_17 rfl rfl ?_
  refine op_iconst (v := 1) dX11_costIfBridged_18 (by decide) ?_
  obtain ⟨g2, h⟩ := am_gd h
  refine st_iast (k := x1.toNatClampNeg) dX11_costIfBridged_19 kd_5 g2 rfl ?_
  refine op_aload_n (k := 1) dX11_costIfBridged_20 rfl rfl ?_
  refine st_getR (z := 3) dX11_costIfBridged_21 fl_X11_19 kd_0 (by decide) rfl rr_0_1 ?_
  refine op_aload_n (k := 1) dX11_costIfBridged_24 rfl rfl ?_
  refine st_getR (z := 3) dX11_costIfBridged_25 fl_X11_19 kd_0 (by decide) rfl rr_0_1 ?_
  obtain ⟨w3, ew3, h⟩ := am_bd h
  refine op_callV (M' := M_X2_everyone) [] (S0 := [.ref 3]) dX11_costIfBridged_28 tw_762 ok_X2_everyone tw_763 tw_764 kd_3 cls_2 rfl rfl rfl (Nat.le_of_ble_eq_true rfl) (Nat.le_of_ble_eq_true rfl) (t_X2_everyone (by omega) ew3) (am_le_rf _) ?_
  rintro _ _ ⟨rfl, rfl⟩
  obtain ⟨w4, ew4, h⟩ := am_bd h
  refine op_callV (M' := M_X2_costFor) [.int w3] (S0 := []) dX11_costIfBridged_31 tw_773 ok_X2_costFor tw_774 tw_775 kd_3 cls_2 rfl rfl rfl (Nat.le_of_ble_eq_true rfl) (Nat.le_of_ble_eq_true rfl) (t_X2_costFor (by omega) ew4) (am_le_rf _) ?_
  rintro _ _ ⟨rfl, rfl⟩
  refine op_istore_n (L' := [(3, .int w4), (2, .int (I 5 x1.toNatClampNeg)), (0, .ref 0), (1, .int x1)]) dX11_costIfBridged_34 rfl (by decide) rfl ?_
  refine op_aload_n (k := 2) dX11_costIfBridged_35 rfl rfl ?_
  refine st_getR (z := 3) dX11_costIfBridged_36 fl_X11_19 kd_0 (by decide) rfl rr_0_1 ?_
  refine st_getR (z := 5) dX11_costIfBridged_39 fl_X11_186 kd_3 (by decide) rfl rr_3_6 ?_
  refine op_iload_n (k := 3) dX11_costIfBridged_42 rfl rfl ?_
  refine op_iload_n (k := 1) dX11_costIfBridged_43 rfl rfl ?_
  obtain ⟨g5, h⟩ := am_gd h
  refine st_iast (k := x1.toNatClampNeg) dX11_costIfBridged_44 kd_5 g5 rfl ?_
  refine op_iload_n (k := 0) dX11_costIfBridged_45 rfl rfl ?_
  cases h
  exact (op_iret dX11_costIfBridged_46 rfl rfl ⟨rfl, rfl⟩)
theorem t_X11_costIfBridged {l : Launch} {ρ : am_R} {n d gc gs : Nat} {I : Nat → Nat → Int32} {J : Nat → Nat → Int64} {T : Nat} {x1 : Int32} {q : Int32 × (Nat → Nat → Int32)} (hd : 0 * n + 3 ≤ d) (h : f_X11_costIfBridged n I J T x1 = some q) : AW l ρ d M_X11_costIfBridged 0 [(0, .ref 0), (1, .int x1)] [] (am_KD, gc, gs) (I, J, am_RT T) (am_KD, gc, gs) (fun v H' => v = [.int q.1] ∧ H' = (q.2, J, am_RT T)) := by
  obtain ⟨d, rfl⟩ : ∃ e, d = e + 1 := ⟨d - 1, by omega⟩
  exact t_X11_costIfBridged_0 hd h
def f_X11_bridge_61 (n : Nat) (k29 : (Nat → Nat → Int32) → (Nat → Nat → Int64) → Nat → Int32 → Int32 → Int32 → Int32 → Option (Int32 × (Nat → Nat → Int32))) (I : Nat → Nat → Int32) (J : Nat → Nat → Int64) (T : Nat) (x1 : Int32) (x2 : Int32) (x3 : Int32) (x4 : Int32) : Option (Int32 × (Nat → Nat → Int32)) :=
  k29 I J T x1 x2 x3 (x4 + 1)
def f_X11_bridge_29 (n : Nat) : Nat → (Nat → Nat → Int32) → (Nat → Nat → Int64) → Nat → Int32 → Int32 → Int32 → Int32 → Option (Int32 × (Nat → Nat → Int32))
  | 0, _, _, _, _, _, _, _ => none
  | m + 1, I, J, T, x1, x2, x3, x4 =>
    if (I 3 0) < x4 then
     if x1 = 0 then
      some (x2, I)
     else
      some (x3, I)
    else
     (f_X11_costIfBridged n I J T x4).bind fun w3 =>
     if x3 ≤ w3.1 then
      f_X11_bridge_61 n (f_X11_bridge_29 n m) w3.2 J T x1 x2 x3 x4
     else
      f_X11_bridge_61 n (f_X11_bridge_29 n m) w3.2 J T x1 x4 w3.1 x4
def f_X11_bridge (n : Nat) (I : Nat → Nat → Int32) (J : Nat → Nat → Int64) (T : Nat) (x1 : Int32) : Option (Int32 × (Nat → Nat → Int32)) :=
  (f_X11_isRoadless n I J T).bind fun w1 =>
  if w1 = 0 then
   (f_X11_isWithin n I J T x1 0 1).bind fun w3 =>
   if w3 = 0 then
    some ((-1), I)
   else
    (f_X11_costIfBridged n I J T 1).bind fun w5 =>
    f_X11_bridge_29 n  n w5.2 J T x1 1 w5.1 2
  else
   some ((-1), I)
set_option maxRecDepth 100000 in
set_option maxHeartbeats 4000000 in
theorem t_X11_bridge_61 {l : Launch} {ρ : am_R} {n d gc gs : Nat} {k29 : (Nat → Nat → Int32) → (Nat → Nat → Int64) → Nat → Int32 → Int32 → Int32 → Int32 → Option (Int32 × (Nat → Nat → Int32))} {I : Nat → Nat → Int32} {J : Nat → Nat → Int64} {T : Nat} {x1 : Int32} {x2 : Int32} {x3 : Int32} {x4 : Int32} {q : Int32 × (Nat → Nat → Int32)} (hd : 0 * n + 4 ≤ (d + 1))
    (hk29 : ∀ (I : Nat → Nat → Int32) (J : Nat → Nat → Int64) (T : Nat) (x1 : Int32) (x2 : Int32) (x3 : Int32) (x4 : Int32), k29 I J T x1 x2 x3 x4 = some q → AW l ρ (d + 1) M_X11_bridge 29 [(0, .ref 0), (1, .int x1), (2, .int x2), (3, .int x3), (4, .int x4)] [] (am_KD, gc, gs) (I, J, am_RT T) (am_KD, gc, gs) (fun v H' => v = [.int q.1] ∧ H' = (q.2, J, am_RT T)))
    (h : f_X11_bridge_61 n k29 I J T x1 x2 x3 x4 = some q) : AW l ρ (d + 1) M_X11_bridge 61 [(0, .ref 0), (1, .int x1), (2, .int x2), (3, .int x3), (4, .int x4)] [] (am_KD, gc, gs) (I, J, am_RT T) (am_KD, gc, gs) (fun v H' => v = [.int q.1] ∧ H' = (q.2, J, am_RT T)) := by
  unfold f_X11_bridge_61 at h
  refine op_iinc (k := 4) (v := x4 + 1) (L' := [(4, .int (x4 + 1)), (0, .ref 0), (1, .int x1), (2, .int x2), (3, .int x3)]) dX11_bridge_61 rfl rfl (by decide) rfl ?_
  refine op_goto (tgt := 29) dX11_bridge_64 (by decide) ?_
  refine AW.perm [1, 2, 3, 4, 0] rfl ?_
  exact hk29 _ _ _ _ _ _ _ h
set_option maxRecDepth 100000 in
set_option maxHeartbeats 4000000 in
theorem t_X11_bridge_29 {l : Launch} {ρ : am_R} {n d gc gs : Nat} {q : Int32 × (Nat → Nat → Int32)} (hd : 0 * n + 4 ≤ (d + 1))
    : ∀ (m : Nat) (I : Nat → Nat → Int32) (J : Nat → Nat → Int64) (T : Nat) (x1 : Int32) (x2 : Int32) (x3 : Int32) (x4 : Int32), f_X11_bridge_29 n  m I J T x1 x2 x3 x4 = some q → AW l ρ (d + 1) M_X11_bridge 29 [(0, .ref 0), (1, .int x1), (2, .int x2), (3, .int x3), (4, .int x4)] [] (am_KD, gc, gs) (I, J, am_RT T) (am_KD, gc, gs) (fun v H' => v = [.int q.1] ∧ H' = (q.2, J, am_RT T)) := by
  intro m
  induction m with
  | zero =>
    intro I J T x1 x2 x3 x4 h
    rw [f_X11_bridge_29] at h
    cases h
  | succ m ih =>
    intro I J T x1 x2 x3 x4 h
    rw [f_X11_bridge_29] at h
    refine op_iload (k := 4) dX11_bridge_29 rfl ?_
    refine op_aload_n (k := 0) dX11_bridge_31 rfl rfl ?_
    refine st_getR (z := 3) dX11_bridge_32 fl_X11_19 kd_0 (by decide) rfl rr_0_1 ?_
    refine st_getI (v := I 3 0) dX11_bridge_35 fl_X11_295 kd_3 (by decide) rfl rfl ?_
    refine op_icmp_gt (tgt := 67) dX11_bridge_38 (by decide) (fun c1 => ?_) (fun c1 => ?_)
    · replace h := am_ip c1 h
      refine op_iload_n (k := 1) dX11_bridge_67 rfl rfl ?_
      refine op_if_ne (tgt := 75) dX11_bridge_68 (by decide) (fun c2 => ?_) (fun c2 => ?_)
      · replace h := am_ie c2 h
        refine op_iload_n (k := 3) dX11_bridge_75 rfl rfl ?_
        cases h
        exact (op_iret dX11_bridge_76 rfl rfl ⟨rfl, rfl⟩)
      · replace h := am_ip c2 h
        refine op_iload_n (k := 2) dX11_bridge_71 rfl rfl ?_
        refine op_goto (tgt := 76) dX11_bridge_72 (by decide) ?_
        cases h
        exact (op_iret dX11_bridge_76 rfl rfl ⟨rfl, rfl⟩)
    · replace h := am_ie c1 h
      refine op_aload_n (k := 0) dX11_bridge_41 rfl rfl ?_
      refine op_iload (k := 4) dX11_bridge_42 rfl ?_
      obtain ⟨w3, ew3, h⟩ := am_bd h
      refine op_callV (M' := M_X11_costIfBridged) [.int x4] (S0 := []) dX11_bridge_44 tw_1030 ok_X11_costIfBridged tw_1032 tw_48 kd_0 cls_11 rfl rfl rfl (Nat.le_of_ble_eq_true rfl) (Nat.le_of_ble_eq_true rfl) (t_X11_costIfBridged (by omega) ew3) (am_le_rf _) ?_
      rintro _ _ ⟨rfl, rfl⟩
      refine op_istore (L' := [(5, .int w3.1), (0, .ref 0), (1, .int x1), (2, .int x2), (3, .int x3), (4, .int x4)]) dX11_bridge_47 (by decide) rfl ?_
      refine op_iload (k := 0) dX11_bridge_49 rfl ?_
      refine op_iload_n (k := 4) dX11_bridge_51 rfl rfl ?_
      refine op_icmp_ge (tgt := 61) dX11_bridge_52 (by decide) (fun c4 => ?_) (fun c4 => ?_)
      · replace h := am_ip c4 h
        refine AW.perm [1, 2, 3, 4, 5] rfl ?_
        exact t_X11_bridge_61 hd ih h
      · replace h := am_ie c4 h
        refine op_iload (k := 5) dX11_bridge_55 rfl ?_
        refine op_istore_n (L' := [(2, .int x4), (5, .int w3.1), (0, .ref 0), (1, .int x1), (3, .int x3), (4, .int x4)]) dX11_bridge_57 rfl (by decide) rfl ?_
        refine op_iload (k := 1) dX11_bridge_58 rfl ?_
        refine op_istore_n (L' := [(3, .int w3.1), (2, .int x4), (5, .int w3.1), (0, .ref 0), (1, .int x1), (4, .int x4)]) dX11_bridge_60 rfl (by decide) rfl ?_
        refine AW.perm [3, 4, 1, 0, 5] rfl ?_
        exact t_X11_bridge_61 hd ih h
set_option maxRecDepth 100000 in
set_option maxHeartbeats 4000000 in
theorem t_X11_bridge_0 {l : Launch} {ρ : am_R} {n d gc gs : Nat} {I : Nat → Nat → Int32} {J : Nat → Nat → Int64} {T : Nat} {x1 : Int32} {q : Int32 × (Nat → Nat → Int32)} (hd : 0 * n + 4 ≤ (d + 1))
    (h : f_X11_bridge n  I J T x1 = some q) : AW l ρ (d + 1) M_X11_bridge 0 [(0, .ref 0), (1, .int x1)] [] (am_KD, gc, gs) (I, J, am_RT T) (am_KD, gc, gs) (fun v H' => v = [.int q.1] ∧ H' = (q.2, J, am_RT T)) := by
  unfold f_X11_bridge at h
  refine op_aload_n (k := 0) dX11_bridge_0 rfl rfl ?_
  obtain ⟨w1, ew1, h⟩ := am_bd h
  refine op_callV (M' := M_X11_isRoadless) [] (S0 := []) dX11_bridge_1 tw_722 ok_X11_isRoadless tw_724 tw_23 kd_0 cls_11 rfl rfl rfl (Nat.le_of_ble_eq_true rfl) (Nat.le_of_ble_eq_true rfl) (t_X11_isRoadless (by omega) ew1) (am_le_rf _) ?_
  rintro _ _ ⟨rfl, rfl⟩
  refine op_if_ne (tgt := 16) dX11_bridge_4 (by decide) (fun c2 => ?_) (fun c2 => ?_)
  · replace h := am_ie c2 h
    refine op_iconst (v := (-1)) dX11_bridge_16 (by decide) ?_
    cases h
    exact (op_iret dX11_bridge_17 rfl rfl ⟨rfl, rfl⟩)
  · replace h := am_ip c2 h
    refine op_iload_n (k := 1) dX11_bridge_7 rfl rfl ?_
    refine op_iconst (v := 0) dX11_bridge_8 (by decide) ?_
    refine op_iconst (v := 1) dX11_bridge_9 (by decide) ?_
    obtain ⟨w3, ew3, h⟩ := am_bd h
    refine op_callS (M' := M_X11_isWithin) [.int x1, .int 0, .int 1] (S0 := []) dX11_bridge_10 tw_713 ok_X11_isWithin tw_595 rfl rfl (Nat.le_of_ble_eq_true rfl) (Nat.le_of_ble_eq_true rfl) (t_X11_isWithin (by omega) ew3) (am_le_rf _) ?_
    rintro _ _ ⟨rfl, rfl⟩
    refine op_if_ne (tgt := 18) dX11_bridge_13 (by decide) (fun c4 => ?_) (fun c4 => ?_)
    · replace h := am_ie c4 h
      refine op_iconst (v := 1) dX11_bridge_18 (by decide) ?_
      refine op_istore_n (L' := [(2, .int 1), (0, .ref 0), (1, .int x1)]) dX11_bridge_19 rfl (by decide) rfl ?_
      refine op_aload_n (k := 1) dX11_bridge_20 rfl rfl ?_
      refine op_iconst (v := 1) dX11_bridge_21 (by decide) ?_
      obtain ⟨w5, ew5, h⟩ := am_bd h
      refine op_callV (M' := M_X11_costIfBridged) [.int 1] (S0 := []) dX11_bridge_22 tw_1030 ok_X11_costIfBridged tw_1032 tw_48 kd_0 cls_11 rfl rfl rfl (Nat.le_of_ble_eq_true rfl) (Nat.le_of_ble_eq_true rfl) (t_X11_costIfBridged (by omega) ew5) (am_le_rf _) ?_
      rintro _ _ ⟨rfl, rfl⟩
      refine op_istore_n (L' := [(3, .int w5.1), (2, .int 1), (0, .ref 0), (1, .int x1)]) dX11_bridge_25 rfl (by decide) rfl ?_
      refine op_iconst (v := 2) dX11_bridge_26 (by decide) ?_
      refine op_istore (L' := [(4, .int 2), (3, .int w5.1), (2, .int 1), (0, .ref 0), (1, .int x1)]) dX11_bridge_27 (by decide) rfl ?_
      refine AW.perm [3, 4, 2, 1, 0] rfl ?_
      exact t_X11_bridge_29 hd  n _ _ _ _ _ _ _ h
    · replace h := am_ip c4 h
      refine op_iconst (v := (-1)) dX11_bridge_16 (by decide) ?_
      cases h
      exact (op_iret dX11_bridge_17 rfl rfl ⟨rfl, rfl⟩)
theorem t_X11_bridge {l : Launch} {ρ : am_R} {n d gc gs : Nat} {I : Nat → Nat → Int32} {J : Nat → Nat → Int64} {T : Nat} {x1 : Int32} {q : Int32 × (Nat → Nat → Int32)} (hd : 0 * n + 4 ≤ d) (h : f_X11_bridge n I J T x1 = some q) : AW l ρ d M_X11_bridge 0 [(0, .ref 0), (1, .int x1)] [] (am_KD, gc, gs) (I, J, am_RT T) (am_KD, gc, gs) (fun v H' => v = [.int q.1] ∧ H' = (q.2, J, am_RT T)) := by
  obtain ⟨d, rfl⟩ : ∃ e, d = e + 1 := ⟨d - 1, by omega⟩
  exact t_X11_bridge_0 hd h
def f_X6_hasRoom (n : Nat) (I : Nat → Nat → Int32) (J : Nat → Nat → Int64) (T : Nat) (x1 : Int32) (x2 : Int32) : Option (Int32) :=
  if ok_ix x1 7 then
   if ok_ix x2 6 then
    if (I 3 2) < ((I 33 x1.toNatClampNeg) + (I 8 x2.toNatClampNeg)) then
     some (0)
    else
     some (1)
   else none
  else none
set_option maxRecDepth 100000 in
set_option maxHeartbeats 4000000 in
theorem t_X6_hasRoom_0 {l : Launch} {ρ : am_R} {n d gc gs : Nat} {I : Nat → Nat → Int32} {J : Nat → Nat → Int64} {T : Nat} {x1 : Int32} {x2 : Int32} {q : Int32} (hd : 0 * n + 0 ≤ d)
    (h : f_X6_hasRoom n  I J T x1 x2 = some q) : AW l ρ d M_X6_hasRoom 0 [(0, .ref 31), (1, .int x1), (2, .int x2)] [] (am_KD, gc, gs) (I, J, am_RT T) (am_KD, gc, gs) (fun v H' => v = [.int q] ∧ H' = (I, J, am_RT T)) := by
  unfold f_X6_hasRoom at h
  refine op_aload_n (k := 0) dX6_hasRoom_0 rfl rfl ?_
  refine st_getR (z := 33) dX6_hasRoom_1 fl_X6_15 kd_31 (by decide) rfl rr_31_3 ?_
  refine op_iload_n (k := 1) dX6_hasRoom_4 rfl rfl ?_
  obtain ⟨g1, h⟩ := am_gd h
  refine st_iald (k := x1.toNatClampNeg) (v := I 33 x1.toNatClampNeg) dX6_hasRoom_5 kd_33 g1 rfl rfl ?_
  refine op_aload_n (k := 0) dX6_hasRoom_6 rfl rfl ?_
  refine st_getR (z := 3) dX6_hasRoom_7 fl_X6_25 kd_31 (by decide) rfl rr_31_0 ?_
  refine st_getR (z := 8) dX6_hasRoom_10 fl_X6_87 kd_3 (by decide) rfl rr_3_9 ?_
  refine op_iload_n (k := 2) dX6_hasRoom_13 rfl rfl ?_
  obtain ⟨g2, h⟩ := am_gd h
  refine st_iald (k := x2.toNatClampNeg) (v := I 8 x2.toNatClampNeg) dX6_hasRoom_14 kd_8 g2 rfl rfl ?_
  refine op_iadd dX6_hasRoom_15 ?_
  refine op_aload_n (k := 0) dX6_hasRoom_16 rfl rfl ?_
  refine st_getR (z := 3) dX6_hasRoom_17 fl_X6_25 kd_31 (by decide) rfl rr_31_0 ?_
  refine st_getI (v := I 3 2) dX6_hasRoom_20 fl_X6_90 kd_3 (by decide) rfl rfl ?_
  refine op_icmp_gt (tgt := 30) dX6_hasRoom_23 (by decide) (fun c3 => ?_) (fun c3 => ?_)
  · replace h := am_ip c3 h
    refine op_iconst (v := 0) dX6_hasRoom_30 (by decide) ?_
    cases h
    exact (op_iret dX6_hasRoom_31 rfl (by decide) ⟨rfl, rfl⟩)
  · replace h := am_ie c3 h
    refine op_iconst (v := 1) dX6_hasRoom_26 (by decide) ?_
    refine op_goto (tgt := 31) dX6_hasRoom_27 (by decide) ?_
    cases h
    exact (op_iret dX6_hasRoom_31 rfl (by decide) ⟨rfl, rfl⟩)
theorem t_X6_hasRoom {l : Launch} {ρ : am_R} {n d gc gs : Nat} {I : Nat → Nat → Int32} {J : Nat → Nat → Int64} {T : Nat} {x1 : Int32} {x2 : Int32} {q : Int32} (hd : 0 * n + 0 ≤ d) (h : f_X6_hasRoom n I J T x1 x2 = some q) : AW l ρ d M_X6_hasRoom 0 [(0, .ref 31), (1, .int x1), (2, .int x2)] [] (am_KD, gc, gs) (I, J, am_RT T) (am_KD, gc, gs) (fun v H' => v = [.int q] ∧ H' = (I, J, am_RT T)) := t_X6_hasRoom_0 hd h
def f_X6_isLower (n : Nat) (I : Nat → Nat → Int32) (J : Nat → Nat → Int64) (T : Nat) (x1 : Int32) (x2 : Int32) (x3 : Int32) : Option (Int32) :=
  if ok_ix ((x2 * 6) + x1) 384 then
   if ok_ix x3 64 then
    if ok_ix ((x3 * 6) + x1) 384 then
     if ok_ix x2 64 then
      if 0 ≤ (lg_cmp ((J 34 (((x2 * 6) + x1).toNatClampNeg)) * (J 35 x3.toNatClampNeg)) ((J 34 (((x3 * 6) + x1).toNatClampNeg)) * (J 35 x2.toNatClampNeg))) then
       some (0)
      else
       some (1)
     else none
    else none
   else none
  else none
set_option maxRecDepth 100000 in
set_option maxHeartbeats 4000000 in
theorem t_X6_isLower_0 {l : Launch} {ρ : am_R} {n d gc gs : Nat} {I : Nat → Nat → Int32} {J : Nat → Nat → Int64} {T : Nat} {x1 : Int32} {x2 : Int32} {x3 : Int32} {q : Int32} (hd : 0 * n + 0 ≤ d)
    (h : f_X6_isLower n  I J T x1 x2 x3 = some q) : AW l ρ d M_X6_isLower 0 [(0, .ref 31), (1, .int x1), (2, .int x2), (3, .int x3)] [] (am_KD, gc, gs) (I, J, am_RT T) (am_KD, gc, gs) (fun v H' => v = [.int q] ∧ H' = (I, J, am_RT T)) := by
  unfold f_X6_isLower at h
  refine op_aload_n (k := 0) dX6_isLower_0 rfl rfl ?_
  refine st_getR (z := 34) dX6_isLower_1 fl_X6_18 kd_31 (by decide) rfl rr_31_4 ?_
  refine op_iload_n (k := 2) dX6_isLower_4 rfl rfl ?_
  refine op_bipush (v := 6) dX6_isLower_5 (by decide) ?_
  refine op_imul dX6_isLower_7 ?_
  refine op_iload_n (k := 1) dX6_isLower_8 rfl rfl ?_
  refine op_iadd dX6_isLower_9 ?_
  obtain ⟨g1, h⟩ := am_gd h
  refine st_lald (k := ((x2 * 6) + x1).toNatClampNeg) (v := J 34 (((x2 * 6) + x1).toNatClampNeg)) dX6_isLower_10 kd_34 g1 rfl rfl ?_
  refine op_aload_n (k := 0) dX6_isLower_11 rfl rfl ?_
  refine st_getR (z := 35) dX6_isLower_12 fl_X6_22 kd_31 (by decide) rfl rr_31_5 ?_
  refine op_iload_n (k := 3) dX6_isLower_15 rfl rfl ?_
  obtain ⟨g2, h⟩ := am_gd h
  refine st_lald (k := x3.toNatClampNeg) (v := J 35 x3.toNatClampNeg) dX6_isLower_16 kd_35 g2 rfl rfl ?_
  refine op_lmul dX6_isLower_17 ?_
  refine op_aload_n (k := 0) dX6_isLower_18 rfl rfl ?_
  refine st_getR (z := 34) dX6_isLower_19 fl_X6_18 kd_31 (by decide) rfl rr_31_4 ?_
  refine op_iload_n (k := 3) dX6_isLower_22 rfl rfl ?_
  refine op_bipush (v := 6) dX6_isLower_23 (by decide) ?_
  refine op_imul dX6_isLower_25 ?_
  refine op_iload_n (k := 1) dX6_isLower_26 rfl rfl ?_
  refine op_iadd dX6_isLower_27 ?_
  obtain ⟨g3, h⟩ := am_gd h
  refine st_lald (k := ((x3 * 6) + x1).toNatClampNeg) (v := J 34 (((x3 * 6) + x1).toNatClampNeg)) dX6_isLower_28 kd_34 g3 rfl rfl ?_
  refine op_aload_n (k := 0) dX6_isLower_29 rfl rfl ?_
  refine st_getR (z := 35) dX6_isLower_30 fl_X6_22 kd_31 (by decide) rfl rr_31_5 ?_
  refine op_iload_n (k := 2) dX6_isLower_33 rfl rfl ?_
  obtain ⟨g4, h⟩ := am_gd h
  refine st_lald (k := x2.toNatClampNeg) (v := J 35 x2.toNatClampNeg) dX6_isLower_34 kd_35 g4 rfl rfl ?_
  refine op_lmul dX6_isLower_35 ?_
  refine op_lcmp dX6_isLower_36 ?_
  refine op_if_ge (tgt := 44) dX6_isLower_37 (by decide) (fun c5 => ?_) (fun c5 => ?_)
  · replace h := am_ip c5 h
    refine op_iconst (v := 0) dX6_isLower_44 (by decide) ?_
    cases h
    exact (op_iret dX6_isLower_45 rfl (by decide) ⟨rfl, rfl⟩)
  · replace h := am_ie c5 h
    refine op_iconst (v := 1) dX6_isLower_40 (by decide) ?_
    refine op_goto (tgt := 45) dX6_isLower_41 (by decide) ?_
    cases h
    exact (op_iret dX6_isLower_45 rfl (by decide) ⟨rfl, rfl⟩)
theorem t_X6_isLower {l : Launch} {ρ : am_R} {n d gc gs : Nat} {I : Nat → Nat → Int32} {J : Nat → Nat → Int64} {T : Nat} {x1 : Int32} {x2 : Int32} {x3 : Int32} {q : Int32} (hd : 0 * n + 0 ≤ d) (h : f_X6_isLower n I J T x1 x2 x3 = some q) : AW l ρ d M_X6_isLower 0 [(0, .ref 31), (1, .int x1), (2, .int x2), (3, .int x3)] [] (am_KD, gc, gs) (I, J, am_RT T) (am_KD, gc, gs) (fun v H' => v = [.int q] ∧ H' = (I, J, am_RT T)) := t_X6_isLower_0 hd h
def f_X6_stays_67 (n : Nat) (k3 : (Nat → Nat → Int32) → (Nat → Nat → Int64) → Nat → Int32 → Int32 → Int32 → Int32 → Option (Int32)) (I : Nat → Nat → Int32) (J : Nat → Nat → Int64) (T : Nat) (x1 : Int32) (x2 : Int32) (x3 : Int32) (x4 : Int32) : Option (Int32) :=
  k3 I J T x1 x2 x3 (x4 + 1)
def f_X6_stays_28 (n : Nat) (k3 : (Nat → Nat → Int32) → (Nat → Nat → Int64) → Nat → Int32 → Int32 → Int32 → Int32 → Option (Int32)) (I : Nat → Nat → Int32) (J : Nat → Nat → Int64) (T : Nat) (x1 : Int32) (x2 : Int32) (x3 : Int32) (x4 : Int32) (s0 : Int32) : Option (Int32) :=
  if s0 = 0 then
   f_X6_stays_67 n k3 I J T x1 x2 x3 x4
  else
   (f_X6_hasRoom n I J T x4 x1).bind fun w2 =>
   if w2 = 0 then
    f_X6_stays_67 n k3 I J T x1 x2 x3 x4
   else
    if ok_ix x4 7 then
     (f_X6_isLower n I J T x1 ((I 32 x4.toNatClampNeg) ||| (1 <<< (x1 &&& 31))) x2).bind fun w5 =>
     if w5 = 0 then
      f_X6_stays_67 n k3 I J T x1 x2 x3 x4
     else
      some (0)
    else none
def f_X6_stays_3 (n : Nat) : Nat → (Nat → Nat → Int32) → (Nat → Nat → Int64) → Nat → Int32 → Int32 → Int32 → Int32 → Option (Int32)
  | 0, _, _, _, _, _, _, _ => none
  | m + 1, I, J, T, x1, x2, x3, x4 =>
    if x3 < x4 then
     some (1)
    else
     if ok_ix x4 7 then
      (f_X11_isIn n I J T x1 (I 32 x4.toNatClampNeg)).bind fun w3 =>
      if w3 = 0 then
       f_X6_stays_28 n (f_X6_stays_3 n m) I J T x1 x2 x3 x4 1
      else
       f_X6_stays_28 n (f_X6_stays_3 n m) I J T x1 x2 x3 x4 0
     else none
def f_X6_stays (n : Nat) (I : Nat → Nat → Int32) (J : Nat → Nat → Int64) (T : Nat) (x1 : Int32) (x2 : Int32) (x3 : Int32) : Option (Int32) :=
  f_X6_stays_3 n  n I J T x1 x2 x3 0
set_option maxRecDepth 100000 in
set_option maxHeartbeats 4000000 in
theorem t_X6_stays_67 {l : Launch} {ρ : am_R} {n d gc gs : Nat} {k3 : (Nat → Nat → Int32) → (Nat → Nat → Int64) → Nat → Int32 → Int32 → Int32 → Int32 → Option (Int32)} {I : Nat → Nat → Int32} {J : Nat → Nat → Int64} {T : Nat} {x1 : Int32} {x2 : Int32} {x3 : Int32} {x4 : Int32} {q : Int32} (hd : 0 * n + 1 ≤ (d + 1))
    (hk3 : ∀ (I : Nat → Nat → Int32) (J : Nat → Nat → Int64) (T : Nat) (x1 : Int32) (x2 : Int32) (x3 : Int32) (x4 : Int32), k3 I J T x1 x2 x3 x4 = some q → AW l ρ (d + 1) M_X6_stays 3 [(0, .ref 31), (1, .int x1), (2, .int x2), (3, .int x3), (4, .int x4)] [] (am_KD, gc, gs) (I, J, am_RT T) (am_KD, gc, gs) (fun v H' => v = [.int q] ∧ H' = (I, J, am_RT T)))
    (h : f_X6_stays_67 n k3 I J T x1 x2 x3 x4 = some q) : AW l ρ (d + 1) M_X6_stays 67 [(0, .ref 31), (1, .int x1), (2, .int x2), (3, .int x3), (4, .int x4)] [] (am_KD, gc, gs) (I, J, am_RT T) (am_KD, gc, gs) (fun v H' => v = [.int q] ∧ H' = (I, J, am_RT T)) := by
  unfold f_X6_stays_67 at h
  refine op_iinc (k := 4) (v := x4 + 1) (L' := [(4, .int (x4 + 1)), (0, .ref 31), (1, .int x1), (2, .int x2), (3, .int x3)]) dX6_stays_67 rfl rfl (by decide) rfl ?_
  refine op_goto (tgt := 3) dX6_stays_70 (by decide) ?_
  refine AW.perm [1, 2, 3, 4, 0] rfl ?_
  exact hk3 _ _ _ _ _ _ _ h
set_option maxRecDepth 100000 in
set_option maxHeartbeats 4000000 in
theorem t_X6_stays_28 {l : Launch} {ρ : am_R} {n d gc gs : Nat} {k3 : (Nat → Nat → Int32) → (Nat → Nat → Int64) → Nat → Int32 → Int32 → Int32 → Int32 → Option (Int32)} {I : Nat → Nat → Int32} {J : Nat → Nat → Int64} {T : Nat} {x1 : Int32} {x2 : Int32} {x3 : Int32} {x4 : Int32} {s0 : Int32} {q : Int32} (hd : 0 * n + 1 ≤ (d + 1))
    (hk3 : ∀ (I : Nat → Nat → Int32) (J : Nat → Nat → Int64) (T : Nat) (x1 : Int32) (x2 : Int32) (x3 : Int32) (x4 : Int32), k3 I J T x1 x2 x3 x4 = some q → AW l ρ (d + 1) M_X6_stays 3 [(0, .ref 31), (1, .int x1), (2, .int x2), (3, .int x3), (4, .int x4)] [] (am_KD, gc, gs) (I, J, am_RT T) (am_KD, gc, gs) (fun v H' => v = [.int q] ∧ H' = (I, J, am_RT T)))
    (h : f_X6_stays_28 n k3 I J T x1 x2 x3 x4 s0 = some q) : AW l ρ (d + 1) M_X6_stays 28 [(0, .ref 31), (1, .int x1), (2, .int x2), (3, .int x3), (4, .int x4)] [.int s0] (am_KD, gc, gs) (I, J, am_RT T) (am_KD, gc, gs) (fun v H' => v = [.int q] ∧ H' = (I, J, am_RT T)) := by
  unfold f_X6_stays_28 at h
  refine op_istore (L' := [(5, .int s0), (0, .ref 31), (1, .int x1), (2, .int x2), (3, .int x3), (4, .int x4)]) dX6_stays_28 (by decide) rfl ?_
  refine op_iload (k := 0) dX6_stays_30 rfl ?_
  refine op_if_eq (tgt := 67) dX6_stays_32 (by decide) (fun c1 => ?_) (fun c1 => ?_)
  · replace h := am_ip c1 h
    refine AW.perm [1, 2, 3, 4, 5] rfl ?_
    exact t_X6_stays_67 hd hk3 h
  · replace h := am_ie c1 h
    refine op_aload_n (k := 1) dX6_stays_35 rfl rfl ?_
    refine op_iload (k := 5) dX6_stays_36 rfl ?_
    refine op_iload_n (k := 2) dX6_stays_38 rfl rfl ?_
    obtain ⟨w2, ew2, h⟩ := am_bd h
    refine op_callV (M' := M_X6_hasRoom) [.int x4, .int x1] (S0 := []) dX6_stays_39 tw_969 ok_X6_hasRoom tw_971 tw_44 kd_31 cls_6 rfl rfl rfl (Nat.le_of_ble_eq_true rfl) (Nat.le_of_ble_eq_true rfl) (t_X6_hasRoom (by omega) ew2) (am_le_rf _) ?_
    rintro _ _ ⟨rfl, rfl⟩
    refine op_if_eq (tgt := 67) dX6_stays_42 (by decide) (fun c3 => ?_) (fun c3 => ?_)
    · replace h := am_ip c3 h
      refine AW.perm [1, 2, 3, 4, 5] rfl ?_
      exact t_X6_stays_67 hd hk3 h
    · replace h := am_ie c3 h
      refine op_aload_n (k := 1) dX6_stays_45 rfl rfl ?_
      refine op_iload_n (k := 2) dX6_stays_46 rfl rfl ?_
      refine op_aload_n (k := 1) dX6_stays_47 rfl rfl ?_
      refine st_getR (z := 32) dX6_stays_48 fl_X6_9 kd_31 (by decide) rfl rr_31_2 ?_
      refine op_iload (k := 5) dX6_stays_51 rfl ?_
      obtain ⟨g4, h⟩ := am_gd h
      refine st_iald (k := x4.toNatClampNeg) (v := I 32 x4.toNatClampNeg) dX6_stays_53 kd_32 g4 rfl rfl ?_
      refine op_iconst (v := 1) dX6_stays_54 (by decide) ?_
      refine op_iload_n (k := 2) dX6_stays_55 rfl rfl ?_
      refine op_ishl dX6_stays_56 ?_
      refine op_ior dX6_stays_57 ?_
      refine op_iload_n (k := 3) dX6_stays_58 rfl rfl ?_
      obtain ⟨w5, ew5, h⟩ := am_bd h
      refine op_callV (M' := M_X6_isLower) [.int x1, .int ((I 32 x4.toNatClampNeg) ||| (1 <<< (x1 &&& 31))), .int x2] (S0 := []) dX6_stays_59 tw_973 ok_X6_isLower tw_975 tw_45 kd_31 cls_6 rfl rfl rfl (Nat.le_of_ble_eq_true rfl) (Nat.le_of_ble_eq_true rfl) (t_X6_isLower (by omega) ew5) (am_le_rf _) ?_
      rintro _ _ ⟨rfl, rfl⟩
      refine op_if_eq (tgt := 67) dX6_stays_62 (by decide) (fun c6 => ?_) (fun c6 => ?_)
      · replace h := am_ip c6 h
        refine AW.perm [1, 2, 3, 4, 5] rfl ?_
        exact t_X6_stays_67 hd hk3 h
      · replace h := am_ie c6 h
        refine op_iconst (v := 0) dX6_stays_65 (by decide) ?_
        cases h
        exact (op_iret dX6_stays_66 rfl (by decide) ⟨rfl, rfl⟩)
set_option maxRecDepth 100000 in
set_option maxHeartbeats 4000000 in
theorem t_X6_stays_3 {l : Launch} {ρ : am_R} {n d gc gs : Nat} {q : Int32} (hd : 0 * n + 1 ≤ (d + 1))
    : ∀ (m : Nat) (I : Nat → Nat → Int32) (J : Nat → Nat → Int64) (T : Nat) (x1 : Int32) (x2 : Int32) (x3 : Int32) (x4 : Int32), f_X6_stays_3 n  m I J T x1 x2 x3 x4 = some q → AW l ρ (d + 1) M_X6_stays 3 [(0, .ref 31), (1, .int x1), (2, .int x2), (3, .int x3), (4, .int x4)] [] (am_KD, gc, gs) (I, J, am_RT T) (am_KD, gc, gs) (fun v H' => v = [.int q] ∧ H' = (I, J, am_RT T)) := by
  intro m
  induction m with
  | zero =>
    intro I J T x1 x2 x3 x4 h
    rw [f_X6_stays_3] at h
    cases h
  | succ m ih =>
    intro I J T x1 x2 x3 x4 h
    rw [f_X6_stays_3] at h
    refine op_iload (k := 4) dX6_stays_3 rfl ?_
    refine op_iload_n (k := 3) dX6_stays_5 rfl rfl ?_
    refine op_icmp_gt (tgt := 73) dX6_stays_6 (by decide) (fun c1 => ?_) (fun c1 => ?_)
    · replace h := am_ip c1 h
      refine op_iconst (v := 1) dX6_stays_73 (by decide) ?_
      cases h
      exact (op_iret dX6_stays_74 rfl (by decide) ⟨rfl, rfl⟩)
    · replace h := am_ie c1 h
      refine op_iload_n (k := 1) dX6_stays_9 rfl rfl ?_
      refine op_aload_n (k := 0) dX6_stays_10 rfl rfl ?_
      refine st_getR (z := 32) dX6_stays_11 fl_X6_9 kd_31 (by decide) rfl rr_31_2 ?_
      refine op_iload (k := 4) dX6_stays_14 rfl ?_
      obtain ⟨g2, h⟩ := am_gd h
      refine st_iald (k := x4.toNatClampNeg) (v := I 32 x4.toNatClampNeg) dX6_stays_16 kd_32 g2 rfl rfl ?_
      obtain ⟨w3, ew3, h⟩ := am_bd h
      refine op_callSN (M' := M_X11_isIn) [.int x1, .int (I 32 x4.toNatClampNeg)] (S0 := []) dX6_stays_17 tn_964 ok_X11_isIn tw_771 rfl rfl (Nat.le_of_ble_eq_true rfl) (Nat.le_of_ble_eq_true rfl) (t_X11_isIn (by omega) ew3) (am_le_rf _) ?_
      rintro _ _ ⟨rfl, rfl⟩
      refine op_if_ne (tgt := 27) dX6_stays_20 (by decide) (fun c4 => ?_) (fun c4 => ?_)
      · replace h := am_ie c4 h
        refine op_iconst (v := 0) dX6_stays_27 (by decide) ?_
        exact t_X6_stays_28 hd ih h
      · replace h := am_ip c4 h
        refine op_iconst (v := 1) dX6_stays_23 (by decide) ?_
        refine op_goto (tgt := 28) dX6_stays_24 (by decide) ?_
        exact t_X6_stays_28 hd ih h
set_option maxRecDepth 100000 in
set_option maxHeartbeats 4000000 in
theorem t_X6_stays_0 {l : Launch} {ρ : am_R} {n d gc gs : Nat} {I : Nat → Nat → Int32} {J : Nat → Nat → Int64} {T : Nat} {x1 : Int32} {x2 : Int32} {x3 : Int32} {q : Int32} (hd : 0 * n + 1 ≤ (d + 1))
    (h : f_X6_stays n  I J T x1 x2 x3 = some q) : AW l ρ (d + 1) M_X6_stays 0 [(0, .ref 31), (1, .int x1), (2, .int x2), (3, .int x3)] [] (am_KD, gc, gs) (I, J, am_RT T) (am_KD, gc, gs) (fun v H' => v = [.int q] ∧ H' = (I, J, am_RT T)) := by
  unfold f_X6_stays at h
  refine op_iconst (v := 0) dX6_stays_0 (by decide) ?_
  refine op_istore (L' := [(4, .int 0), (0, .ref 31), (1, .int x1), (2, .int x2), (3, .int x3)]) dX6_stays_1 (by decide) rfl ?_
  refine AW.perm [1, 2, 3, 4, 0] rfl ?_
  exact t_X6_stays_3 hd  n _ _ _ _ _ _ _ h
theorem t_X6_stays {l : Launch} {ρ : am_R} {n d gc gs : Nat} {I : Nat → Nat → Int32} {J : Nat → Nat → Int64} {T : Nat} {x1 : Int32} {x2 : Int32} {x3 : Int32} {q : Int32} (hd : 0 * n + 1 ≤ d) (h : f_X6_stays n I J T x1 x2 x3 = some q) : AW l ρ d M_X6_stays 0 [(0, .ref 31), (1, .int x1), (2, .int x2), (3, .int x3)] [] (am_KD, gc, gs) (I, J, am_RT T) (am_KD, gc, gs) (fun v H' => v = [.int q] ∧ H' = (I, J, am_RT T)) := by
  obtain ⟨d, rfl⟩ : ∃ e, d = e + 1 := ⟨d - 1, by omega⟩
  exact t_X6_stays_0 hd h
def f_X6_isSteady_64 (n : Nat) (k4 : (Nat → Nat → Int32) → (Nat → Nat → Int64) → Nat → Int32 → Int32 → Int32 → Option (Int32)) (k12 : (Nat → Nat → Int32) → (Nat → Nat → Int64) → Nat → Int32 → Int32 → Int32 → Int32 → Option (Int32)) (I : Nat → Nat → Int32) (J : Nat → Nat → Int64) (T : Nat) (x1 : Int32) (x2 : Int32) (x3 : Int32) (x4 : Int32) : Option (Int32) :=
  k12 I J T x1 x2 x3 (x4 + 1)
def f_X6_isSteady_63 (n : Nat) (k4 : (Nat → Nat → Int32) → (Nat → Nat → Int64) → Nat → Int32 → Int32 → Int32 → Option (Int32)) (k12 : (Nat → Nat → Int32) → (Nat → Nat → Int64) → Nat → Int32 → Int32 → Int32 → Int32 → Option (Int32)) (I : Nat → Nat → Int32) (J : Nat → Nat → Int64) (T : Nat) (x1 : Int32) (x3 : Int32) (x4 : Int32) (s0 : Int32) : Option (Int32) :=
  f_X6_isSteady_64 n k4 k12 I J T x1 s0 x3 x4
def f_X6_isSteady_62 (n : Nat) (k4 : (Nat → Nat → Int32) → (Nat → Nat → Int64) → Nat → Int32 → Int32 → Int32 → Option (Int32)) (k12 : (Nat → Nat → Int32) → (Nat → Nat → Int64) → Nat → Int32 → Int32 → Int32 → Int32 → Option (Int32)) (I : Nat → Nat → Int32) (J : Nat → Nat → Int64) (T : Nat) (x1 : Int32) (x3 : Int32) (x4 : Int32) : Option (Int32) :=
  f_X6_isSteady_63 n k4 k12 I J T x1 x3 x4 0
def f_X6_isSteady_12 (n : Nat) (k4 : (Nat → Nat → Int32) → (Nat → Nat → Int64) → Nat → Int32 → Int32 → Int32 → Option (Int32)) : Nat → (Nat → Nat → Int32) → (Nat → Nat → Int64) → Nat → Int32 → Int32 → Int32 → Int32 → Option (Int32)
  | 0, _, _, _, _, _, _, _ => none
  | m + 1, I, J, T, x1, x2, x3, x4 =>
    if (I 3 1) ≤ x4 then
     k4 I J T x1 x2 (x3 + 1)
    else
     if ok_ix x3 7 then
      (f_X11_isIn n I J T x4 (I 32 x3.toNatClampNeg)).bind fun w3 =>
      if w3 = 0 then
       f_X6_isSteady_64 n k4 (f_X6_isSteady_12 n k4 m) I J T x1 x2 x3 x4
      else
       if x2 = 0 then
        f_X6_isSteady_62 n k4 (f_X6_isSteady_12 n k4 m) I J T x1 x3 x4
       else
        if ok_ix x3 7 then
         (f_X6_stays n I J T x4 (I 32 x3.toNatClampNeg) x1).bind fun w7 =>
         if w7 = 0 then
          f_X6_isSteady_62 n k4 (f_X6_isSteady_12 n k4 m) I J T x1 x3 x4
         else
          f_X6_isSteady_63 n k4 (f_X6_isSteady_12 n k4 m) I J T x1 x3 x4 1
        else none
     else none
def f_X6_isSteady_4 (n : Nat) : Nat → (Nat → Nat → Int32) → (Nat → Nat → Int64) → Nat → Int32 → Int32 → Int32 → Option (Int32)
  | 0, _, _, _, _, _, _ => none
  | m + 1, I, J, T, x1, x2, x3 =>
    if x1 ≤ x3 then
     if x2 = 0 ∨ x2 = 1 then
      some (x2)
     else none
    else
     f_X6_isSteady_12 n (f_X6_isSteady_4 n m) n I J T x1 x2 x3 0
def f_X6_isSteady (n : Nat) (I : Nat → Nat → Int32) (J : Nat → Nat → Int64) (T : Nat) (x1 : Int32) : Option (Int32) :=
  f_X6_isSteady_4 n  n I J T x1 1 0
set_option maxRecDepth 100000 in
set_option maxHeartbeats 4000000 in
theorem t_X6_isSteady_64 {l : Launch} {ρ : am_R} {n d gc gs : Nat} {k4 : (Nat → Nat → Int32) → (Nat → Nat → Int64) → Nat → Int32 → Int32 → Int32 → Option (Int32)} {k12 : (Nat → Nat → Int32) → (Nat → Nat → Int64) → Nat → Int32 → Int32 → Int32 → Int32 → Option (Int32)} {I : Nat → Nat → Int32} {J : Nat → Nat → Int64} {T : Nat} {x1 : Int32} {x2 : Int32} {x3 : Int32} {x4 : Int32} {q : Int32} (hd : 0 * n + 2 ≤ (d + 1))
    (hk4 : ∀ (I : Nat → Nat → Int32) (J : Nat → Nat → Int64) (T : Nat) (x1 : Int32) (x2 : Int32) (x3 : Int32), k4 I J T x1 x2 x3 = some q → AW l ρ (d + 1) M_X6_isSteady 4 [(0, .ref 31), (1, .int x1), (2, .int x2), (3, .int x3)] [] (am_KD, gc, gs) (I, J, am_RT T) (am_KD, gc, gs) (fun v H' => v = [.int q] ∧ H' = (I, J, am_RT T)))
    (hk12 : ∀ (I : Nat → Nat → Int32) (J : Nat → Nat → Int64) (T : Nat) (x1 : Int32) (x2 : Int32) (x3 : Int32) (x4 : Int32), k12 I J T x1 x2 x3 x4 = some q → AW l ρ (d + 1) M_X6_isSteady 12 [(0, .ref 31), (1, .int x1), (2, .int x2), (3, .int x3), (4, .int x4)] [] (am_KD, gc, gs) (I, J, am_RT T) (am_KD, gc, gs) (fun v H' => v = [.int q] ∧ H' = (I, J, am_RT T)))
    (h : f_X6_isSteady_64 n k4 k12 I J T x1 x2 x3 x4 = some q) : AW l ρ (d + 1) M_X6_isSteady 64 [(0, .ref 31), (1, .int x1), (2, .int x2), (3, .int x3), (4, .int x4)] [] (am_KD, gc, gs) (I, J, am_RT T) (am_KD, gc, gs) (fun v H' => v = [.int q] ∧ H' = (I, J, am_RT T)) := by
  unfold f_X6_isSteady_64 at h
  refine op_iinc (k := 4) (v := x4 + 1) (L' := [(4, .int (x4 + 1)), (0, .ref 31), (1, .int x1), (2, .int x2), (3, .int x3)]) dX6_isSteady_64 rfl rfl (by decide) rfl ?_
  refine op_goto (tgt := 12) dX6_isSteady_67 (by decide) ?_
  refine AW.perm [1, 2, 3, 4, 0] rfl ?_
  exact hk12 _ _ _ _ _ _ _ h
set_option maxRecDepth 100000 in
set_option maxHeartbeats 4000000 in
theorem t_X6_isSteady_63 {l : Launch} {ρ : am_R} {n d gc gs : Nat} {k4 : (Nat → Nat → Int32) → (Nat → Nat → Int64) → Nat → Int32 → Int32 → Int32 → Option (Int32)} {k12 : (Nat → Nat → Int32) → (Nat → Nat → Int64) → Nat → Int32 → Int32 → Int32 → Int32 → Option (Int32)} {I : Nat → Nat → Int32} {J : Nat → Nat → Int64} {T : Nat} {x1 : Int32} {x3 : Int32} {x4 : Int32} {s0 : Int32} {q : Int32} (hd : 0 * n + 2 ≤ (d + 1))
    (hk4 : ∀ (I : Nat → Nat → Int32) (J : Nat → Nat → Int64) (T : Nat) (x1 : Int32) (x2 : Int32) (x3 : Int32), k4 I J T x1 x2 x3 = some q → AW l ρ (d + 1) M_X6_isSteady 4 [(0, .ref 31), (1, .int x1), (2, .int x2), (3, .int x3)] [] (am_KD, gc, gs) (I, J, am_RT T) (am_KD, gc, gs) (fun v H' => v = [.int q] ∧ H' = (I, J, am_RT T)))
    (hk12 : ∀ (I : Nat → Nat → Int32) (J : Nat → Nat → Int64) (T : Nat) (x1 : Int32) (x2 : Int32) (x3 : Int32) (x4 : Int32), k12 I J T x1 x2 x3 x4 = some q → AW l ρ (d + 1) M_X6_isSteady 12 [(0, .ref 31), (1, .int x1), (2, .int x2), (3, .int x3), (4, .int x4)] [] (am_KD, gc, gs) (I, J, am_RT T) (am_KD, gc, gs) (fun v H' => v = [.int q] ∧ H' = (I, J, am_RT T)))
    (h : f_X6_isSteady_63 n k4 k12 I J T x1 x3 x4 s0 = some q) : AW l ρ (d + 1) M_X6_isSteady 63 [(0, .ref 31), (1, .int x1), (3, .int x3), (4, .int x4)] [.int s0] (am_KD, gc, gs) (I, J, am_RT T) (am_KD, gc, gs) (fun v H' => v = [.int q] ∧ H' = (I, J, am_RT T)) := by
  unfold f_X6_isSteady_63 at h
  refine op_istore_n (L' := [(2, .int s0), (0, .ref 31), (1, .int x1), (3, .int x3), (4, .int x4)]) dX6_isSteady_63 rfl (by decide) rfl ?_
  refine AW.perm [1, 2, 0, 3, 4] rfl ?_
  exact t_X6_isSteady_64 hd hk4 hk12 h
set_option maxRecDepth 100000 in
set_option maxHeartbeats 4000000 in
theorem t_X6_isSteady_62 {l : Launch} {ρ : am_R} {n d gc gs : Nat} {k4 : (Nat → Nat → Int32) → (Nat → Nat → Int64) → Nat → Int32 → Int32 → Int32 → Option (Int32)} {k12 : (Nat → Nat → Int32) → (Nat → Nat → Int64) → Nat → Int32 → Int32 → Int32 → Int32 → Option (Int32)} {I : Nat → Nat → Int32} {J : Nat → Nat → Int64} {T : Nat} {x1 : Int32} {x3 : Int32} {x4 : Int32} {q : Int32} (hd : 0 * n + 2 ≤ (d + 1))
    (hk4 : ∀ (I : Nat → Nat → Int32) (J : Nat → Nat → Int64) (T : Nat) (x1 : Int32) (x2 : Int32) (x3 : Int32), k4 I J T x1 x2 x3 = some q → AW l ρ (d + 1) M_X6_isSteady 4 [(0, .ref 31), (1, .int x1), (2, .int x2), (3, .int x3)] [] (am_KD, gc, gs) (I, J, am_RT T) (am_KD, gc, gs) (fun v H' => v = [.int q] ∧ H' = (I, J, am_RT T)))
    (hk12 : ∀ (I : Nat → Nat → Int32) (J : Nat → Nat → Int64) (T : Nat) (x1 : Int32) (x2 : Int32) (x3 : Int32) (x4 : Int32), k12 I J T x1 x2 x3 x4 = some q → AW l ρ (d + 1) M_X6_isSteady 12 [(0, .ref 31), (1, .int x1), (2, .int x2), (3, .int x3), (4, .int x4)] [] (am_KD, gc, gs) (I, J, am_RT T) (am_KD, gc, gs) (fun v H' => v = [.int q] ∧ H' = (I, J, am_RT T)))
    (h : f_X6_isSteady_62 n k4 k12 I J T x1 x3 x4 = some q) : AW l ρ (d + 1) M_X6_isSteady 62 [(0, .ref 31), (1, .int x1), (3, .int x3), (4, .int x4)] [] (am_KD, gc, gs) (I, J, am_RT T) (am_KD, gc, gs) (fun v H' => v = [.int q] ∧ H' = (I, J, am_RT T)) := by
  unfold f_X6_isSteady_62 at h
  refine op_iconst (v := 0) dX6_isSteady_62 (by decide) ?_
  exact t_X6_isSteady_63 hd hk4 hk12 h
set_option maxRecDepth 100000 in
set_option maxHeartbeats 4000000 in
theorem t_X6_isSteady_12 {l : Launch} {ρ : am_R} {n d gc gs : Nat} {k4 : (Nat → Nat → Int32) → (Nat → Nat → Int64) → Nat → Int32 → Int32 → Int32 → Option (Int32)} {q : Int32} (hd : 0 * n + 2 ≤ (d + 1))
    (hk4 : ∀ (I : Nat → Nat → Int32) (J : Nat → Nat → Int64) (T : Nat) (x1 : Int32) (x2 : Int32) (x3 : Int32), k4 I J T x1 x2 x3 = some q → AW l ρ (d + 1) M_X6_isSteady 4 [(0, .ref 31), (1, .int x1), (2, .int x2), (3, .int x3)] [] (am_KD, gc, gs) (I, J, am_RT T) (am_KD, gc, gs) (fun v H' => v = [.int q] ∧ H' = (I, J, am_RT T)))
    : ∀ (m : Nat) (I : Nat → Nat → Int32) (J : Nat → Nat → Int64) (T : Nat) (x1 : Int32) (x2 : Int32) (x3 : Int32) (x4 : Int32), f_X6_isSteady_12 n k4 m I J T x1 x2 x3 x4 = some q → AW l ρ (d + 1) M_X6_isSteady 12 [(0, .ref 31), (1, .int x1), (2, .int x2), (3, .int x3), (4, .int x4)] [] (am_KD, gc, gs) (I, J, am_RT T) (am_KD, gc, gs) (fun v H' => v = [.int q] ∧ H' = (I, J, am_RT T)) := by
  intro m
  induction m with
  | zero =>
    intro I J T x1 x2 x3 x4 h
    rw [f_X6_isSteady_12] at h
    cases h
  | succ m ih =>
    intro I J T x1 x2 x3 x4 h
    rw [f_X6_isSteady_12] at h
    refine op_iload (k := 4) dX6_isSteady_12 rfl ?_
    refine op_aload_n (k := 0) dX6_isSteady_14 rfl rfl ?_
    refine st_getR (z := 3) dX6_isSteady_15 fl_X6_25 kd_31 (by decide) rfl rr_31_0 ?_
    refine st_getI (v := I 3 1) dX6_isSteady_18 fl_X6_60 kd_3 (by decide) rfl rfl ?_
    refine op_icmp_ge (tgt := 70) dX6_isSteady_21 (by decide) (fun c1 => ?_) (fun c1 => ?_)
    · replace h := am_ip c1 h
      refine op_iinc (k := 3) (v := x3 + 1) (L' := [(3, .int (x3 + 1)), (0, .ref 31), (1, .int x1), (2, .int x2), (4, .int x4)]) dX6_isSteady_70 rfl rfl (by decide) rfl ?_
      refine op_goto (tgt := 4) dX6_isSteady_73 (by decide) ?_
      refine AW.perm [1, 2, 3, 0] rfl ?_
      exact hk4 _ _ _ _ _ _ h
    · replace h := am_ie c1 h
      refine op_iload (k := 4) dX6_isSteady_24 rfl ?_
      refine op_aload_n (k := 0) dX6_isSteady_26 rfl rfl ?_
      refine st_getR (z := 32) dX6_isSteady_27 fl_X6_9 kd_31 (by decide) rfl rr_31_2 ?_
      refine op_iload_n (k := 3) dX6_isSteady_30 rfl rfl ?_
      obtain ⟨g2, h⟩ := am_gd h
      refine st_iald (k := x3.toNatClampNeg) (v := I 32 x3.toNatClampNeg) dX6_isSteady_31 kd_32 g2 rfl rfl ?_
      obtain ⟨w3, ew3, h⟩ := am_bd h
      refine op_callSN (M' := M_X11_isIn) [.int x4, .int (I 32 x3.toNatClampNeg)] (S0 := []) dX6_isSteady_32 tn_964 ok_X11_isIn tw_771 rfl rfl (Nat.le_of_ble_eq_true rfl) (Nat.le_of_ble_eq_true rfl) (t_X11_isIn (by omega) ew3) (am_le_rf _) ?_
      rintro _ _ ⟨rfl, rfl⟩
      refine op_if_eq (tgt := 64) dX6_isSteady_35 (by decide) (fun c4 => ?_) (fun c4 => ?_)
      · replace h := am_ip c4 h
        exact t_X6_isSteady_64 hd hk4 ih h
      · replace h := am_ie c4 h
        refine op_iload_n (k := 2) dX6_isSteady_38 rfl rfl ?_
        refine op_if_eq (tgt := 62) dX6_isSteady_39 (by decide) (fun c5 => ?_) (fun c5 => ?_)
        · replace h := am_ip c5 h
          refine AW.perm [0, 1, 3, 4] rfl ?_
          exact t_X6_isSteady_62 hd hk4 ih h
        · replace h := am_ie c5 h
          refine op_aload_n (k := 0) dX6_isSteady_42 rfl rfl ?_
          refine op_iload (k := 4) dX6_isSteady_43 rfl ?_
          refine op_aload_n (k := 0) dX6_isSteady_45 rfl rfl ?_
          refine st_getR (z := 32) dX6_isSteady_46 fl_X6_9 kd_31 (by decide) rfl rr_31_2 ?_
          refine op_iload_n (k := 3) dX6_isSteady_49 rfl rfl ?_
          obtain ⟨g6, h⟩ := am_gd h
          refine st_iald (k := x3.toNatClampNeg) (v := I 32 x3.toNatClampNeg) dX6_isSteady_50 kd_32 g6 rfl rfl ?_
          refine op_iload_n (k := 1) dX6_isSteady_51 rfl rfl ?_
          obtain ⟨w7, ew7, h⟩ := am_bd h
          refine op_callV (M' := M_X6_stays) [.int x4, .int (I 32 x3.toNatClampNeg), .int x1] (S0 := []) dX6_isSteady_52 tw_965 ok_X6_stays tw_967 tw_43 kd_31 cls_6 rfl rfl rfl (Nat.le_of_ble_eq_true rfl) (Nat.le_of_ble_eq_true rfl) (t_X6_stays (by omega) ew7) (am_le_rf _) ?_
          rintro _ _ ⟨rfl, rfl⟩
          refine op_if_eq (tgt := 62) dX6_isSteady_55 (by decide) (fun c8 => ?_) (fun c8 => ?_)
          · replace h := am_ip c8 h
            refine AW.perm [0, 1, 3, 4] rfl ?_
            exact t_X6_isSteady_62 hd hk4 ih h
          · replace h := am_ie c8 h
            refine op_iconst (v := 1) dX6_isSteady_58 (by decide) ?_
            refine op_goto (tgt := 63) dX6_isSteady_59 (by decide) ?_
            refine AW.perm [0, 1, 3, 4] rfl ?_
            exact t_X6_isSteady_63 hd hk4 ih h
set_option maxRecDepth 100000 in
set_option maxHeartbeats 4000000 in
theorem t_X6_isSteady_4 {l : Launch} {ρ : am_R} {n d gc gs : Nat} {q : Int32} (hd : 0 * n + 2 ≤ (d + 1))
    : ∀ (m : Nat) (I : Nat → Nat → Int32) (J : Nat → Nat → Int64) (T : Nat) (x1 : Int32) (x2 : Int32) (x3 : Int32), f_X6_isSteady_4 n  m I J T x1 x2 x3 = some q → AW l ρ (d + 1) M_X6_isSteady 4 [(0, .ref 31), (1, .int x1), (2, .int x2), (3, .int x3)] [] (am_KD, gc, gs) (I, J, am_RT T) (am_KD, gc, gs) (fun v H' => v = [.int q] ∧ H' = (I, J, am_RT T)) := by
  intro m
  induction m with
  | zero =>
    intro I J T x1 x2 x3 h
    rw [f_X6_isSteady_4] at h
    cases h
  | succ m ih =>
    intro I J T x1 x2 x3 h
    rw [f_X6_isSteady_4] at h
    refine op_iload_n (k := 3) dX6_isSteady_4 rfl rfl ?_
    refine op_iload_n (k := 1) dX6_isSteady_5 rfl rfl ?_
    refine op_icmp_ge (tgt := 76) dX6_isSteady_6 (by decide) (fun c1 => ?_) (fun c1 => ?_)
    · replace h := am_ip c1 h
      refine op_iload_n (k := 2) dX6_isSteady_76 rfl rfl ?_
      obtain ⟨g2, h⟩ := am_gd h
      cases h
      exact (op_iret dX6_isSteady_77 rfl (am_zo g2) ⟨rfl, rfl⟩)
    · replace h := am_ie c1 h
      refine op_iconst (v := 0) dX6_isSteady_9 (by decide) ?_
      refine op_istore (L' := [(4, .int 0), (0, .ref 31), (1, .int x1), (2, .int x2), (3, .int x3)]) dX6_isSteady_10 (by decide) rfl ?_
      refine AW.perm [1, 2, 3, 4, 0] rfl ?_
      exact t_X6_isSteady_12 hd ih n _ _ _ _ _ _ _ h
set_option maxRecDepth 100000 in
set_option maxHeartbeats 4000000 in
theorem t_X6_isSteady_0 {l : Launch} {ρ : am_R} {n d gc gs : Nat} {I : Nat → Nat → Int32} {J : Nat → Nat → Int64} {T : Nat} {x1 : Int32} {q : Int32} (hd : 0 * n + 2 ≤ (d + 1))
    (h : f_X6_isSteady n  I J T x1 = some q) : AW l ρ (d + 1) M_X6_isSteady 0 [(0, .ref 31), (1, .int x1)] [] (am_KD, gc, gs) (I, J, am_RT T) (am_KD, gc, gs) (fun v H' => v = [.int q] ∧ H' = (I, J, am_RT T)) := by
  unfold f_X6_isSteady at h
  refine op_iconst (v := 1) dX6_isSteady_0 (by decide) ?_
  refine op_istore_n (L' := [(2, .int 1), (0, .ref 31), (1, .int x1)]) dX6_isSteady_1 rfl (by decide) rfl ?_
  refine op_iconst (v := 0) dX6_isSteady_2 (by decide) ?_
  refine op_istore_n (L' := [(3, .int 0), (2, .int 1), (0, .ref 31), (1, .int x1)]) dX6_isSteady_3 rfl (by decide) rfl ?_
  refine AW.perm [2, 3, 1, 0] rfl ?_
  exact t_X6_isSteady_4 hd  n _ _ _ _ _ _ h
theorem t_X6_isSteady {l : Launch} {ρ : am_R} {n d gc gs : Nat} {I : Nat → Nat → Int32} {J : Nat → Nat → Int64} {T : Nat} {x1 : Int32} {q : Int32} (hd : 0 * n + 2 ≤ d) (h : f_X6_isSteady n I J T x1 = some q) : AW l ρ d M_X6_isSteady 0 [(0, .ref 31), (1, .int x1)] [] (am_KD, gc, gs) (I, J, am_RT T) (am_KD, gc, gs) (fun v H' => v = [.int q] ∧ H' = (I, J, am_RT T)) := by
  obtain ⟨d, rfl⟩ : ∃ e, d = e + 1 := ⟨d - 1, by omega⟩
  exact t_X6_isSteady_0 hd h
def f_X6_judge_99 (n : Nat) (I : Nat → Nat → Int32) (J : Nat → Nat → Int64) (T : Nat) (x2 : Int32) (x3 : Int32) : Option ((Nat → Nat → Int32)) :=
  some ((am_u (am_u I 31 8 x2) 31 9 x3))
def f_X6_judge_54 (n : Nat) : Nat → (Nat → Nat → Int32) → (Nat → Nat → Int64) → Nat → Int32 → Int32 → Int32 → Int32 → Option ((Nat → Nat → Int32))
  | 0, _, _, _, _, _, _, _ => none
  | m + 1, I, J, T, x1, x2, x3, x4 =>
    if x1 ≤ x4 then
     if (I 31 8) = ((-1)) then
      f_X6_judge_99 n  I J T x2 x3
     else
      if (I 31 9) ≤ x3 then
       some (I)
      else
       f_X6_judge_99 n  I J T x2 x3
    else
     if ok_ix x4 7 then
      (f_X2_costFor n I J T (I 32 x4.toNatClampNeg)).bind fun w5 =>
      f_X6_judge_54 n  m I J T x1 x2 (x3 + w5) (x4 + 1)
     else none
def f_X6_judge_35 (n : Nat) (I : Nat → Nat → Int32) (J : Nat → Nat → Int64) (T : Nat) (s1 : Int32) : Option ((Nat → Nat → Int32)) :=
  some ((am_u (am_u I 31 11 s1) 31 10 ((I 31 10) + 1)))
def f_X6_judge (n : Nat) (I : Nat → Nat → Int32) (J : Nat → Nat → Int64) (T : Nat) (x1 : Int32) (x2 : Int32) : Option ((Nat → Nat → Int32)) :=
  if (I 31 6) = 0 then
   f_X6_judge_54 n  n I J T x1 x2 0 0
  else
   (f_X6_isSteady n I J T x1).bind fun w2 =>
   if w2 = 0 then
    some (I)
   else
    if (I 31 10) = (I 31 7) then
     f_X6_judge_35 n  I J T x2
    else
     f_X6_judge_35 n  I J T (I 31 11)
set_option maxRecDepth 100000 in
set_option maxHeartbeats 4000000 in
theorem t_X6_judge_99 {l : Launch} {ρ : am_R} {n d gc gs : Nat} {I : Nat → Nat → Int32} {J : Nat → Nat → Int64} {T : Nat} {x2 : Int32} {x3 : Int32} {q : (Nat → Nat → Int32)} (hd : 0 * n + 3 ≤ (d + 1))
    (h : f_X6_judge_99 n  I J T x2 x3 = some q) : AW l ρ (d + 1) M_X6_judge 99 [(0, .ref 31), (2, .int x2), (3, .int x3)] [] (am_KD, gc, gs) (I, J, am_RT T) (am_KD, gc, gs) (fun v H' => v = [] ∧ H' = (q, J, am_RT T)) := by
  unfold f_X6_judge_99 at h
  refine op_aload_n (k := 0) dX6_judge_99 rfl rfl ?_
  refine op_iload_n (k := 1) dX6_judge_100 rfl rfl ?_
  refine st_putI dX6_judge_101 fl_X6_33 kd_31 (by decide) rfl ?_
  refine op_aload_n (k := 0) dX6_judge_104 rfl rfl ?_
  refine op_iload_n (k := 2) dX6_judge_105 rfl rfl ?_
  refine st_putI dX6_judge_106 fl_X6_37 kd_31 (by decide) rfl ?_
  cases h
  exact (op_vret dX6_judge_109 rfl ⟨rfl, rfl⟩)
set_option maxRecDepth 100000 in
set_option maxHeartbeats 4000000 in
theorem t_X6_judge_54 {l : Launch} {ρ : am_R} {n d gc gs : Nat} {q : (Nat → Nat → Int32)} (hd : 0 * n + 3 ≤ (d + 1))
    : ∀ (m : Nat) (I : Nat → Nat → Int32) (J : Nat → Nat → Int64) (T : Nat) (x1 : Int32) (x2 : Int32) (x3 : Int32) (x4 : Int32), f_X6_judge_54 n  m I J T x1 x2 x3 x4 = some q → AW l ρ (d + 1) M_X6_judge 54 [(0, .ref 31), (1, .int x1), (2, .int x2), (3, .int x3), (4, .int x4)] [] (am_KD, gc, gs) (I, J, am_RT T) (am_KD, gc, gs) (fun v H' => v = [] ∧ H' = (q, J, am_RT T)) := by
  intro m
  induction m with
  | zero =>
    intro I J T x1 x2 x3 x4 h
    rw [f_X6_judge_54] at h
    cases h
  | succ m ih =>
    intro I J T x1 x2 x3 x4 h
    rw [f_X6_judge_54] at h
    refine op_iload (k := 4) dX6_judge_54 rfl ?_
    refine op_iload_n (k := 1) dX6_judge_56 rfl rfl ?_
    refine op_icmp_ge (tgt := 83) dX6_judge_57 (by decide) (fun c1 => ?_) (fun c1 => ?_)
    · replace h := am_ip c1 h
      refine op_aload_n (k := 0) dX6_judge_83 rfl rfl ?_
      refine st_getI (v := I 31 8) dX6_judge_84 fl_X6_33 kd_31 (by decide) rfl rfl ?_
      refine op_iconst (v := (-1)) dX6_judge_87 (by decide) ?_
      refine op_icmp_eq (tgt := 99) dX6_judge_88 (by decide) (fun c2 => ?_) (fun c2 => ?_)
      · replace h := am_ip c2 h
        refine AW.perm [0, 2, 3] rfl ?_
        exact t_X6_judge_99 hd  h
      · replace h := am_ie c2 h
        refine op_iload_n (k := 3) dX6_judge_91 rfl rfl ?_
        refine op_aload_n (k := 0) dX6_judge_92 rfl rfl ?_
        refine st_getI (v := I 31 9) dX6_judge_93 fl_X6_37 kd_31 (by decide) rfl rfl ?_
        refine op_icmp_ge (tgt := 109) dX6_judge_96 (by decide) (fun c3 => ?_) (fun c3 => ?_)
        · replace h := am_ip c3 h
          cases h
          exact (op_vret dX6_judge_109 rfl ⟨rfl, rfl⟩)
        · replace h := am_ie c3 h
          refine AW.perm [0, 2, 3] rfl ?_
          exact t_X6_judge_99 hd  h
    · replace h := am_ie c1 h
      refine op_iload_n (k := 3) dX6_judge_60 rfl rfl ?_
      refine op_aload_n (k := 0) dX6_judge_61 rfl rfl ?_
      refine st_getR (z := 3) dX6_judge_62 fl_X6_25 kd_31 (by decide) rfl rr_31_0 ?_
      refine op_aload_n (k := 0) dX6_judge_65 rfl rfl ?_
      refine st_getR (z := 32) dX6_judge_66 fl_X6_9 kd_31 (by decide) rfl rr_31_2 ?_
      refine op_iload (k := 4) dX6_judge_69 rfl ?_
      obtain ⟨g4, h⟩ := am_gd h
      refine st_iald (k := x4.toNatClampNeg) (v := I 32 x4.toNatClampNeg) dX6_judge_71 kd_32 g4 rfl rfl ?_
      obtain ⟨w5, ew5, h⟩ := am_bd h
      refine op_callV (M' := M_X2_costFor) [.int (I 32 x4.toNatClampNeg)] (S0 := [.int x3]) dX6_judge_72 tw_977 ok_X2_costFor tw_774 tw_775 kd_3 cls_2 rfl rfl rfl (Nat.le_of_ble_eq_true rfl) (Nat.le_of_ble_eq_true rfl) (t_X2_costFor (by omega) ew5) (am_le_rf _) ?_
      rintro _ _ ⟨rfl, rfl⟩
      refine op_iadd dX6_judge_75 ?_
      refine op_istore_n (L' := [(3, .int (x3 + w5)), (0, .ref 31), (1, .int x1), (2, .int x2), (4, .int x4)]) dX6_judge_76 rfl (by decide) rfl ?_
      refine op_iinc (k := 4) (v := x4 + 1) (L' := [(4, .int (x4 + 1)), (3, .int (x3 + w5)), (0, .ref 31), (1, .int x1), (2, .int x2)]) dX6_judge_77 rfl rfl (by decide) rfl ?_
      refine op_goto (tgt := 54) dX6_judge_80 (by decide) ?_
      refine AW.perm [2, 3, 4, 1, 0] rfl ?_
      exact ih _ _ _ _ _ _ _ h
set_option maxRecDepth 100000 in
set_option maxHeartbeats 4000000 in
theorem t_X6_judge_35 {l : Launch} {ρ : am_R} {n d gc gs : Nat} {I : Nat → Nat → Int32} {J : Nat → Nat → Int64} {T : Nat} {s1 : Int32} {q : (Nat → Nat → Int32)} (hd : 0 * n + 3 ≤ (d + 1))
    (h : f_X6_judge_35 n  I J T s1 = some q) : AW l ρ (d + 1) M_X6_judge 35 [(0, .ref 31)] [.int s1, .ref 31] (am_KD, gc, gs) (I, J, am_RT T) (am_KD, gc, gs) (fun v H' => v = [] ∧ H' = (q, J, am_RT T)) := by
  unfold f_X6_judge_35 at h
  refine st_putI dX6_judge_35 fl_X6_77 kd_31 (by decide) rfl ?_
  refine op_aload_n (k := 0) dX6_judge_38 rfl rfl ?_
  refine op_dup dX6_judge_39 rfl ?_
  refine st_getI (v := I 31 10) dX6_judge_40 fl_X6_74 kd_31 (by decide) rfl rfl ?_
  refine op_iconst (v := 1) dX6_judge_43 (by decide) ?_
  refine op_iadd dX6_judge_44 ?_
  refine st_putI dX6_judge_45 fl_X6_74 kd_31 (by decide) rfl ?_
  cases h
  exact (op_vret dX6_judge_48 rfl ⟨rfl, rfl⟩)
set_option maxRecDepth 100000 in
set_option maxHeartbeats 4000000 in
theorem t_X6_judge_0 {l : Launch} {ρ : am_R} {n d gc gs : Nat} {I : Nat → Nat → Int32} {J : Nat → Nat → Int64} {T : Nat} {x1 : Int32} {x2 : Int32} {q : (Nat → Nat → Int32)} (hd : 0 * n + 3 ≤ (d + 1))
    (h : f_X6_judge n  I J T x1 x2 = some q) : AW l ρ (d + 1) M_X6_judge 0 [(0, .ref 31), (1, .int x1), (2, .int x2)] [] (am_KD, gc, gs) (I, J, am_RT T) (am_KD, gc, gs) (fun v H' => v = [] ∧ H' = (q, J, am_RT T)) := by
  unfold f_X6_judge at h
  refine op_aload_n (k := 0) dX6_judge_0 rfl rfl ?_
  refine st_getI (v := I 31 6) dX6_judge_1 fl_X6_40 kd_31 (by decide) rfl rfl ?_
  refine op_if_eq (tgt := 49) dX6_judge_4 (by decide) (fun c1 => ?_) (fun c1 => ?_)
  · replace h := am_ip c1 h
    refine op_iconst (v := 0) dX6_judge_49 (by decide) ?_
    refine op_istore_n (L' := [(3, .int 0), (0, .ref 31), (1, .int x1), (2, .int x2)]) dX6_judge_50 rfl (by decide) rfl ?_
    refine op_iconst (v := 0) dX6_judge_51 (by decide) ?_
    refine op_istore (L' := [(4, .int 0), (3, .int 0), (0, .ref 31), (1, .int x1), (2, .int x2)]) dX6_judge_52 (by decide) rfl ?_
    refine AW.perm [2, 3, 4, 1, 0] rfl ?_
    exact t_X6_judge_54 hd  n _ _ _ _ _ _ _ h
  · replace h := am_ie c1 h
    refine op_aload_n (k := 0) dX6_judge_7 rfl rfl ?_
    refine op_iload_n (k := 1) dX6_judge_8 rfl rfl ?_
    obtain ⟨w2, ew2, h⟩ := am_bd h
    refine op_callV (M' := M_X6_isSteady) [.int x1] (S0 := []) dX6_judge_9 tw_960 ok_X6_isSteady tw_962 tw_42 kd_31 cls_6 rfl rfl rfl (Nat.le_of_ble_eq_true rfl) (Nat.le_of_ble_eq_true rfl) (t_X6_isSteady (by omega) ew2) (am_le_rf _) ?_
    rintro _ _ ⟨rfl, rfl⟩
    refine op_if_eq (tgt := 48) dX6_judge_12 (by decide) (fun c3 => ?_) (fun c3 => ?_)
    · replace h := am_ip c3 h
      cases h
      exact (op_vret dX6_judge_48 rfl ⟨rfl, rfl⟩)
    · replace h := am_ie c3 h
      refine op_aload_n (k := 0) dX6_judge_15 rfl rfl ?_
      refine op_aload_n (k := 0) dX6_judge_16 rfl rfl ?_
      refine st_getI (v := I 31 10) dX6_judge_17 fl_X6_74 kd_31 (by decide) rfl rfl ?_
      refine op_aload_n (k := 0) dX6_judge_20 rfl rfl ?_
      refine st_getI (v := I 31 7) dX6_judge_21 fl_X6_71 kd_31 (by decide) rfl rfl ?_
      refine op_icmp_ne (tgt := 31) dX6_judge_24 (by decide) (fun c4 => ?_) (fun c4 => ?_)
      · replace h := am_ie c4 h
        refine op_aload_n (k := 0) dX6_judge_31 rfl rfl ?_
        refine st_getI (v := I 31 11) dX6_judge_32 fl_X6_77 kd_31 (by decide) rfl rfl ?_
        refine AW.perm [0] rfl ?_
        exact t_X6_judge_35 hd  h
      · replace h := am_ip c4 h
        refine op_iload_n (k := 2) dX6_judge_27 rfl rfl ?_
        refine op_goto (tgt := 35) dX6_judge_28 (by decide) ?_
        refine AW.perm [0] rfl ?_
        exact t_X6_judge_35 hd  h
theorem t_X6_judge {l : Launch} {ρ : am_R} {n d gc gs : Nat} {I : Nat → Nat → Int32} {J : Nat → Nat → Int64} {T : Nat} {x1 : Int32} {x2 : Int32} {q : (Nat → Nat → Int32)} (hd : 0 * n + 3 ≤ d) (h : f_X6_judge n I J T x1 x2 = some q) : AW l ρ d M_X6_judge 0 [(0, .ref 31), (1, .int x1), (2, .int x2)] [] (am_KD, gc, gs) (I, J, am_RT T) (am_KD, gc, gs) (fun v H' => v = [] ∧ H' = (q, J, am_RT T)) := by
  obtain ⟨d, rfl⟩ : ∃ e, d = e + 1 := ⟨d - 1, by omega⟩
  exact t_X6_judge_0 hd h
