/-! ===== the cells that the constructors make; rows over them ===== -/
def am_KD : List (Nat × Nat) := [(11, 16), (10, 4), (52, 160), (2, 10), (50, 10), (50, 10), (50, 6), (50, 6), (50, 6), (2, 10), (50, 10), (50, 10), (50, 6), (50, 6), (50, 6), (3, 4), (50, 3), (4, 3), (50, 160), (5, 5), (53, 4), (50, 160), (50, 160), (50, 160), (50, 160), (50, 4), (50, 160), (7, 5), (50, 64), (50, 42), (9, 4), (6, 12), (50, 7), (50, 7), (51, 384), (51, 64), (1, 7), (8, 6), (50, 10), (50, 10), (50, 10), (0, 4), (51, 6), (51, 240), (2, 10), (50, 10), (50, 10), (50, 6), (50, 6), (50, 6), (0, 4), (51, 6), (51, 240), (12, 60), (52, 160), (52, 640), (50, 4), (50, 128), (50, 10), (50, 10), (50, 18), (50, 3), (50, 10), (50, 10), (50, 18), (50, 3), (51, 6), (50, 6), (50, 6), (50, 6), (50, 7), (50, 10), (50, 10), (50, 10), (51, 6), (51, 240), (50, 6), (50, 10), (51, 6), (51, 240), (51, 1)]
def am_rl : List ((Nat × Nat) × Nat) := [((0, 0), 1), ((0, 1), 3), ((0, 2), 9), ((0, 3), 15), ((0, 4), 17), ((0, 5), 19), ((0, 6), 27), ((0, 7), 30), ((0, 8), 31), ((0, 9), 36), ((0, 10), 37), ((0, 11), 41), ((0, 12), 44), ((0, 13), 50), ((1, 0), 2), ((3, 5), 4), ((3, 6), 5), ((3, 7), 6), ((3, 8), 7), ((3, 9), 8), ((9, 5), 10), ((9, 6), 11), ((9, 7), 12), ((9, 8), 13), ((9, 9), 14), ((15, 0), 1), ((15, 1), 9), ((15, 2), 16), ((17, 0), 1), ((17, 1), 18), ((19, 0), 20), ((19, 1), 25), ((19, 2), 26), ((20, 0), 21), ((20, 1), 22), ((20, 2), 23), ((20, 3), 24), ((27, 0), 3), ((27, 1), 19), ((27, 3), 28), ((27, 4), 29), ((30, 0), 3), ((31, 0), 3), ((31, 1), 27), ((31, 2), 32), ((31, 3), 33), ((31, 4), 34), ((31, 5), 35), ((36, 0), 3), ((36, 1), 27), ((37, 0), 3), ((37, 1), 27), ((37, 2), 38), ((37, 3), 39), ((37, 4), 40), ((41, 0), 42), ((41, 1), 43), ((44, 5), 45), ((44, 6), 46), ((44, 7), 47), ((44, 8), 48), ((44, 9), 49), ((50, 0), 51), ((50, 1), 52), ((53, 1), 54), ((53, 2), 55), ((53, 3), 56), ((53, 4), 57), ((53, 15), 1010), ((53, 16), 1011), ((53, 18), 58), ((53, 19), 59), ((53, 20), 60), ((53, 21), 61), ((53, 22), 62), ((53, 23), 63), ((53, 24), 64), ((53, 25), 65), ((53, 32), 66), ((53, 34), 67), ((53, 35), 68), ((53, 39), 69), ((53, 40), 70), ((53, 45), 71), ((53, 46), 72), ((53, 47), 73), ((53, 49), 74), ((53, 50), 75), ((53, 53), 76), ((53, 54), 77), ((53, 55), 78), ((53, 56), 79)]
def am_RR (i k : Nat) : Option Nat := (am_rl.find? (fun q => q.1.1 == i && q.1.2 == k)).map (fun q => q.2)
def am_RT (T : Nat) (i k : Nat) : Option Nat := if i = 53 ∧ k = 5 then some T else am_RR i k
theorem am_RT_u (T z : Nat) : am_u (am_RT T) 53 5 (some z) = am_RT z := by
  funext a b
  unfold am_u am_RT
  split <;> rfl
theorem kd_0 : am_KD[0]? = some (11, 16) := rfl
theorem kd_1 : am_KD[1]? = some (10, 4) := rfl
theorem kd_2 : am_KD[2]? = some (52, 160) := rfl
theorem kd_3 : am_KD[3]? = some (2, 10) := rfl
theorem kd_4 : am_KD[4]? = some (50, 10) := rfl
theorem kd_5 : am_KD[5]? = some (50, 10) := rfl
theorem kd_6 : am_KD[6]? = some (50, 6) := rfl
theorem kd_7 : am_KD[7]? = some (50, 6) := rfl
theorem kd_8 : am_KD[8]? = some (50, 6) := rfl
theorem kd_9 : am_KD[9]? = some (2, 10) := rfl
theorem kd_10 : am_KD[10]? = some (50, 10) := rfl
theorem kd_11 : am_KD[11]? = some (50, 10) := rfl
theorem kd_12 : am_KD[12]? = some (50, 6) := rfl
theorem kd_13 : am_KD[13]? = some (50, 6) := rfl
theorem kd_14 : am_KD[14]? = some (50, 6) := rfl
theorem kd_15 : am_KD[15]? = some (3, 4) := rfl
theorem kd_16 : am_KD[16]? = some (50, 3) := rfl
theorem kd_17 : am_KD[17]? = some (4, 3) := rfl
theorem kd_18 : am_KD[18]? = some (50, 160) := rfl
theorem kd_19 : am_KD[19]? = some (5, 5) := rfl
theorem kd_20 : am_KD[20]? = some (53, 4) := rfl
theorem kd_21 : am_KD[21]? = some (50, 160) := rfl
theorem kd_22 : am_KD[22]? = some (50, 160) := rfl
theorem kd_23 : am_KD[23]? = some (50, 160) := rfl
theorem kd_24 : am_KD[24]? = some (50, 160) := rfl
theorem kd_25 : am_KD[25]? = some (50, 4) := rfl
theorem kd_26 : am_KD[26]? = some (50, 160) := rfl
theorem kd_27 : am_KD[27]? = some (7, 5) := rfl
theorem kd_28 : am_KD[28]? = some (50, 64) := rfl
theorem kd_29 : am_KD[29]? = some (50, 42) := rfl
theorem kd_30 : am_KD[30]? = some (9, 4) := rfl
theorem kd_31 : am_KD[31]? = some (6, 12) := rfl
theorem kd_32 : am_KD[32]? = some (50, 7) := rfl
theorem kd_33 : am_KD[33]? = some (50, 7) := rfl
theorem kd_34 : am_KD[34]? = some (51, 384) := rfl
theorem kd_35 : am_KD[35]? = some (51, 64) := rfl
theorem kd_36 : am_KD[36]? = some (1, 7) := rfl
theorem kd_37 : am_KD[37]? = some (8, 6) := rfl
theorem kd_38 : am_KD[38]? = some (50, 10) := rfl
theorem kd_39 : am_KD[39]? = some (50, 10) := rfl
theorem kd_40 : am_KD[40]? = some (50, 10) := rfl
theorem kd_41 : am_KD[41]? = some (0, 4) := rfl
theorem kd_42 : am_KD[42]? = some (51, 6) := rfl
theorem kd_43 : am_KD[43]? = some (51, 240) := rfl
theorem kd_44 : am_KD[44]? = some (2, 10) := rfl
theorem kd_45 : am_KD[45]? = some (50, 10) := rfl
theorem kd_46 : am_KD[46]? = some (50, 10) := rfl
theorem kd_47 : am_KD[47]? = some (50, 6) := rfl
theorem kd_48 : am_KD[48]? = some (50, 6) := rfl
theorem kd_49 : am_KD[49]? = some (50, 6) := rfl
theorem kd_50 : am_KD[50]? = some (0, 4) := rfl
theorem kd_51 : am_KD[51]? = some (51, 6) := rfl
theorem kd_52 : am_KD[52]? = some (51, 240) := rfl
theorem kd_53 : am_KD[53]? = some (12, 60) := rfl
theorem kd_54 : am_KD[54]? = some (52, 160) := rfl
theorem kd_55 : am_KD[55]? = some (52, 640) := rfl
theorem kd_56 : am_KD[56]? = some (50, 4) := rfl
theorem kd_57 : am_KD[57]? = some (50, 128) := rfl
theorem kd_58 : am_KD[58]? = some (50, 10) := rfl
theorem kd_59 : am_KD[59]? = some (50, 10) := rfl
theorem kd_60 : am_KD[60]? = some (50, 18) := rfl
theorem kd_61 : am_KD[61]? = some (50, 3) := rfl
theorem kd_62 : am_KD[62]? = some (50, 10) := rfl
theorem kd_63 : am_KD[63]? = some (50, 10) := rfl
theorem kd_64 : am_KD[64]? = some (50, 18) := rfl
theorem kd_65 : am_KD[65]? = some (50, 3) := rfl
theorem kd_66 : am_KD[66]? = some (51, 6) := rfl
theorem kd_67 : am_KD[67]? = some (50, 6) := rfl
theorem kd_68 : am_KD[68]? = some (50, 6) := rfl
theorem kd_69 : am_KD[69]? = some (50, 6) := rfl
theorem kd_70 : am_KD[70]? = some (50, 7) := rfl
theorem kd_71 : am_KD[71]? = some (50, 10) := rfl
theorem kd_72 : am_KD[72]? = some (50, 10) := rfl
theorem kd_73 : am_KD[73]? = some (50, 10) := rfl
theorem kd_74 : am_KD[74]? = some (51, 6) := rfl
theorem kd_75 : am_KD[75]? = some (51, 240) := rfl
theorem kd_76 : am_KD[76]? = some (50, 6) := rfl
theorem kd_77 : am_KD[77]? = some (50, 10) := rfl
theorem kd_78 : am_KD[78]? = some (51, 6) := rfl
theorem kd_79 : am_KD[79]? = some (51, 240) := rfl
theorem kd_80 : am_KD[80]? = some (51, 1) := rfl
theorem kd_row {j : Nat} (h : j < 4) : am_KD[21 + j]? = some (50, 160) := by
  match j, h with
  | 0, _ => rfl
  | 1, _ => rfl
  | 2, _ => rfl
  | 3, _ => rfl
theorem rr_0_0 {T : Nat} : am_RT T 0 0 = some 1 := rfl
theorem rr_0_1 {T : Nat} : am_RT T 0 1 = some 3 := rfl
theorem rr_0_2 {T : Nat} : am_RT T 0 2 = some 9 := rfl
theorem rr_0_3 {T : Nat} : am_RT T 0 3 = some 15 := rfl
theorem rr_0_4 {T : Nat} : am_RT T 0 4 = some 17 := rfl
theorem rr_0_5 {T : Nat} : am_RT T 0 5 = some 19 := rfl
theorem rr_0_6 {T : Nat} : am_RT T 0 6 = some 27 := rfl
theorem rr_0_7 {T : Nat} : am_RT T 0 7 = some 30 := rfl
theorem rr_0_8 {T : Nat} : am_RT T 0 8 = some 31 := rfl
theorem rr_0_9 {T : Nat} : am_RT T 0 9 = some 36 := rfl
theorem rr_0_10 {T : Nat} : am_RT T 0 10 = some 37 := rfl
theorem rr_0_11 {T : Nat} : am_RT T 0 11 = some 41 := rfl
theorem rr_0_12 {T : Nat} : am_RT T 0 12 = some 44 := rfl
theorem rr_0_13 {T : Nat} : am_RT T 0 13 = some 50 := rfl
theorem rr_1_0 {T : Nat} : am_RT T 1 0 = some 2 := rfl
theorem rr_3_5 {T : Nat} : am_RT T 3 5 = some 4 := rfl
theorem rr_3_6 {T : Nat} : am_RT T 3 6 = some 5 := rfl
theorem rr_3_7 {T : Nat} : am_RT T 3 7 = some 6 := rfl
theorem rr_3_8 {T : Nat} : am_RT T 3 8 = some 7 := rfl
theorem rr_3_9 {T : Nat} : am_RT T 3 9 = some 8 := rfl
theorem rr_9_5 {T : Nat} : am_RT T 9 5 = some 10 := rfl
theorem rr_9_6 {T : Nat} : am_RT T 9 6 = some 11 := rfl
theorem rr_9_7 {T : Nat} : am_RT T 9 7 = some 12 := rfl
theorem rr_9_8 {T : Nat} : am_RT T 9 8 = some 13 := rfl
theorem rr_9_9 {T : Nat} : am_RT T 9 9 = some 14 := rfl
theorem rr_15_0 {T : Nat} : am_RT T 15 0 = some 1 := rfl
theorem rr_15_1 {T : Nat} : am_RT T 15 1 = some 9 := rfl
theorem rr_15_2 {T : Nat} : am_RT T 15 2 = some 16 := rfl
theorem rr_17_0 {T : Nat} : am_RT T 17 0 = some 1 := rfl
theorem rr_17_1 {T : Nat} : am_RT T 17 1 = some 18 := rfl
theorem rr_19_0 {T : Nat} : am_RT T 19 0 = some 20 := rfl
theorem rr_19_1 {T : Nat} : am_RT T 19 1 = some 25 := rfl
theorem rr_19_2 {T : Nat} : am_RT T 19 2 = some 26 := rfl
theorem rr_20_0 {T : Nat} : am_RT T 20 0 = some 21 := rfl
theorem rr_20_1 {T : Nat} : am_RT T 20 1 = some 22 := rfl
theorem rr_20_2 {T : Nat} : am_RT T 20 2 = some 23 := rfl
theorem rr_20_3 {T : Nat} : am_RT T 20 3 = some 24 := rfl
theorem rr_27_0 {T : Nat} : am_RT T 27 0 = some 3 := rfl
theorem rr_27_1 {T : Nat} : am_RT T 27 1 = some 19 := rfl
theorem rr_27_3 {T : Nat} : am_RT T 27 3 = some 28 := rfl
theorem rr_27_4 {T : Nat} : am_RT T 27 4 = some 29 := rfl
theorem rr_30_0 {T : Nat} : am_RT T 30 0 = some 3 := rfl
theorem rr_31_0 {T : Nat} : am_RT T 31 0 = some 3 := rfl
theorem rr_31_1 {T : Nat} : am_RT T 31 1 = some 27 := rfl
theorem rr_31_2 {T : Nat} : am_RT T 31 2 = some 32 := rfl
theorem rr_31_3 {T : Nat} : am_RT T 31 3 = some 33 := rfl
theorem rr_31_4 {T : Nat} : am_RT T 31 4 = some 34 := rfl
theorem rr_31_5 {T : Nat} : am_RT T 31 5 = some 35 := rfl
theorem rr_36_0 {T : Nat} : am_RT T 36 0 = some 3 := rfl
theorem rr_36_1 {T : Nat} : am_RT T 36 1 = some 27 := rfl
theorem rr_37_0 {T : Nat} : am_RT T 37 0 = some 3 := rfl
theorem rr_37_1 {T : Nat} : am_RT T 37 1 = some 27 := rfl
theorem rr_37_2 {T : Nat} : am_RT T 37 2 = some 38 := rfl
theorem rr_37_3 {T : Nat} : am_RT T 37 3 = some 39 := rfl
theorem rr_37_4 {T : Nat} : am_RT T 37 4 = some 40 := rfl
theorem rr_41_0 {T : Nat} : am_RT T 41 0 = some 42 := rfl
theorem rr_41_1 {T : Nat} : am_RT T 41 1 = some 43 := rfl
theorem rr_44_5 {T : Nat} : am_RT T 44 5 = some 45 := rfl
theorem rr_44_6 {T : Nat} : am_RT T 44 6 = some 46 := rfl
theorem rr_44_7 {T : Nat} : am_RT T 44 7 = some 47 := rfl
theorem rr_44_8 {T : Nat} : am_RT T 44 8 = some 48 := rfl
theorem rr_44_9 {T : Nat} : am_RT T 44 9 = some 49 := rfl
theorem rr_50_0 {T : Nat} : am_RT T 50 0 = some 51 := rfl
theorem rr_50_1 {T : Nat} : am_RT T 50 1 = some 52 := rfl
theorem rr_53_1 {T : Nat} : am_RT T 53 1 = some 54 := rfl
theorem rr_53_2 {T : Nat} : am_RT T 53 2 = some 55 := rfl
theorem rr_53_3 {T : Nat} : am_RT T 53 3 = some 56 := rfl
theorem rr_53_4 {T : Nat} : am_RT T 53 4 = some 57 := rfl
theorem rr_53_15 {T : Nat} : am_RT T 53 15 = some 1010 := rfl
theorem rr_53_16 {T : Nat} : am_RT T 53 16 = some 1011 := rfl
theorem rr_53_18 {T : Nat} : am_RT T 53 18 = some 58 := rfl
theorem rr_53_19 {T : Nat} : am_RT T 53 19 = some 59 := rfl
theorem rr_53_20 {T : Nat} : am_RT T 53 20 = some 60 := rfl
theorem rr_53_21 {T : Nat} : am_RT T 53 21 = some 61 := rfl
theorem rr_53_22 {T : Nat} : am_RT T 53 22 = some 62 := rfl
theorem rr_53_23 {T : Nat} : am_RT T 53 23 = some 63 := rfl
theorem rr_53_24 {T : Nat} : am_RT T 53 24 = some 64 := rfl
theorem rr_53_25 {T : Nat} : am_RT T 53 25 = some 65 := rfl
theorem rr_53_32 {T : Nat} : am_RT T 53 32 = some 66 := rfl
theorem rr_53_34 {T : Nat} : am_RT T 53 34 = some 67 := rfl
theorem rr_53_35 {T : Nat} : am_RT T 53 35 = some 68 := rfl
theorem rr_53_39 {T : Nat} : am_RT T 53 39 = some 69 := rfl
theorem rr_53_40 {T : Nat} : am_RT T 53 40 = some 70 := rfl
theorem rr_53_45 {T : Nat} : am_RT T 53 45 = some 71 := rfl
theorem rr_53_46 {T : Nat} : am_RT T 53 46 = some 72 := rfl
theorem rr_53_47 {T : Nat} : am_RT T 53 47 = some 73 := rfl
theorem rr_53_49 {T : Nat} : am_RT T 53 49 = some 74 := rfl
theorem rr_53_50 {T : Nat} : am_RT T 53 50 = some 75 := rfl
theorem rr_53_53 {T : Nat} : am_RT T 53 53 = some 76 := rfl
theorem rr_53_54 {T : Nat} : am_RT T 53 54 = some 77 := rfl
theorem rr_53_55 {T : Nat} : am_RT T 53 55 = some 78 := rfl
theorem rr_53_56 {T : Nat} : am_RT T 53 56 = some 79 := rfl
theorem rr_row {T j : Nat} (h : j < 4) : am_RT T 20 j = some (21 + j) := by
  match j, h with
  | 0, _ => rfl
  | 1, _ => rfl
  | 2, _ => rfl
  | 3, _ => rfl
abbrev ok_ix (x : Int32) (n : Nat) : Prop := ¬ (x < 0 ∨ n ≤ x.toNatClampNeg)
def am_ush (x y : Int32) : Int32 := (x.toUInt32 >>> (y.toUInt32 &&& Int32.toUInt32 31)).toInt32
def am_lsh (x : Int64) (y : Int32) : Int64 := (x.toUInt64 >>> (y.toInt64.toUInt64 &&& Int64.toUInt64 63)).toInt64
def am_max (x y : Int32) : Int32 := if x < y then y else x
def am_min (x y : Int32) : Int32 := if y < x then y else x
def am_maxL (x y : Int64) : Int64 := if y < x then x else y
def am_minL (x y : Int64) : Int64 := if y < x then y else x
def am_absL (x : Int64) : Int64 := if 0 < x then x else -x
def am_LETTERS (x : Int32) : Int32 := am_tab [102, 109, 0, 116, 119, 115, 115, 112, 110] x.toNatClampNeg
def am_LEAST (x : Int32) : Int32 := am_tab [0, 1, 0, 1, 0, 1, 1, 1, 0] x.toNatClampNeg
def am_MOST (x : Int32) : Int32 := am_tab [8, 20, 0, 9, 99, 3, 9, 20, 99] x.toNatClampNeg
def am_WITHOUT (x : Int32) : Int32 := am_tab [0, 1, 0, 1, 99, 1, 4, 1, 99] x.toNatClampNeg
def am_FACTORIALS (x : Int32) : Int32 := am_tab [1, 1, 2, 6, 24, 120, 720] x.toNatClampNeg
theorem am_ip {c : Prop} [Decidable c] {α : Type} {a b r : α} (hc : c) (h : (if c then a else b) = r) : a = r := by rw [if_pos hc] at h; exact h
theorem am_ie {c : Prop} [Decidable c] {α : Type} {a b r : α} (hc : ¬ c) (h : (if c then a else b) = r) : b = r := by rw [if_neg hc] at h; exact h
theorem am_gd {c : Prop} [Decidable c] {α : Type} {a : Option α} {r : α} (h : (if c then a else none) = some r) : c ∧ a = some r := by
  by_cases hc : c
  · rw [if_pos hc] at h; exact ⟨hc, h⟩
  · rw [if_neg hc] at h; cases h
theorem am_bd {α β : Type} {o : Option α} {f : α → Option β} {b : β} (h : o.bind f = some b) : ∃ a, o = some a ∧ f a = some b := Option.bind_eq_some_iff.mp h
theorem am_zo {x : Int32} (h : x = 0 ∨ x = 1) : narrow .boolean (.int x) = .int x := by rcases h with rfl | rfl <;> rfl
theorem am_cpy0 {α : Type} (f g : Nat → α) (n : Nat) : va_cpy f g 0 0 n = fun a => if a < n then f a else g a := by
  funext a
  simp [va_cpy]
section AMS
variable {l : Launch} {ρ : am_R} {d : Nat} {M : am_M} {pc : Nat} {L : List (Nat × Value)} {S : List Value} {E : am_G} {Q : List Value → am_H → Prop} {I : Nat → Nat → Int32} {J : Nat → Nat → Int64} {T : Nat} {gc gs : Nat}
theorem op_nmI {x y : Int32} {g : am_G} {H : am_H} (e : x = y) (h : AW l ρ d M pc L (.int y :: S) g H E Q) : AW l ρ d M pc L (.int x :: S) g H E Q := by subst e; exact h
theorem op_nmL {x y : Int64} {g : am_G} {H : am_H} (e : x = y) (h : AW l ρ d M pc L (.long y :: S) g H E Q) : AW l ρ d M pc L (.long x :: S) g H E Q := by subst e; exact h
theorem st_rf {x : Int32} {e c : Nat} {g : am_G} {H : am_H} (he : e = c) (h : AW l ρ d M pc L (.int x :: .ref c :: S) g H E Q) : AW l ρ d M pc L (.int x :: .ref e :: S) g H E Q := by subst he; exact h
theorem st_getI {idx t k n i : Nat} {fin : Bool} {v : Int32} (hd : decode M.2.1 pc = .ok (.getfield idx, 3)) (hf : am_fl M.1.cls idx t k fin) (hg : am_KD[i]? = some (t, n)) (hk : k < n) (ht : am_gv (I, J, am_RT T) (am_ty t k) i k = .int (I i k)) (hv : I i k = v) (h : AW l ρ d M (pc + 3) L (.int v :: S) (am_KD, gc, gs) (I, J, am_RT T) E Q) : AW l ρ d M pc L (.ref i :: S) (am_KD, gc, gs) (I, J, am_RT T) E Q :=
  op_getI hd hf hg hk ht (by show AW l ρ d M (pc + 3) L (.int (I i k) :: S) _ _ E Q; rw [hv]; exact h)
theorem st_getL {idx t k n i : Nat} {fin : Bool} {v : Int64} (hd : decode M.2.1 pc = .ok (.getfield idx, 3)) (hf : am_fl M.1.cls idx t k fin) (hg : am_KD[i]? = some (t, n)) (hk : k < n) (ht : am_gv (I, J, am_RT T) (am_ty t k) i k = .long (J i k)) (hv : J i k = v) (h : AW l ρ d M (pc + 3) L (.long v :: S) (am_KD, gc, gs) (I, J, am_RT T) E Q) : AW l ρ d M pc L (.ref i :: S) (am_KD, gc, gs) (I, J, am_RT T) E Q :=
  op_getL hd hf hg hk ht (by show AW l ρ d M (pc + 3) L (.long (J i k) :: S) _ _ E Q; rw [hv]; exact h)
theorem st_getR {idx t k n i z : Nat} {fin : Bool} (hd : decode M.2.1 pc = .ok (.getfield idx, 3)) (hf : am_fl M.1.cls idx t k fin) (hg : am_KD[i]? = some (t, n)) (hk : k < n) (ht : am_gv (I, J, am_RT T) (am_ty t k) i k = va_rf (am_RT T i k)) (hz : am_RT T i k = some z) (h : AW l ρ d M (pc + 3) L (.ref z :: S) (am_KD, gc, gs) (I, J, am_RT T) E Q) : AW l ρ d M pc L (.ref i :: S) (am_KD, gc, gs) (I, J, am_RT T) E Q :=
  op_getR (z := z) hd hf hg hk ht hz h
theorem st_getT {idx : Nat} {fin : Bool} (hd : decode M.2.1 pc = .ok (.getfield idx, 3)) (hf : am_fl M.1.cls idx 12 5 fin) (h : AW l ρ d M (pc + 3) L (.ref T :: S) (am_KD, gc, gs) (I, J, am_RT T) E Q) : AW l ρ d M pc L (.ref 53 :: S) (am_KD, gc, gs) (I, J, am_RT T) E Q :=
  op_getR (z := T) hd hf kd_53 (by decide) rfl rfl h
theorem st_putI {idx t k n i : Nat} {x : Int32} (hd : decode M.2.1 pc = .ok (.putfield idx, 3)) (hf : am_fl M.1.cls idx t k false) (hg : am_KD[i]? = some (t, n)) (hk : k < n) (ht : am_ty t k = .int) (h : AW l ρ d M (pc + 3) L S (am_KD, gc, gs) (am_u I i k x, J, am_RT T) E Q) : AW l ρ d M pc L (.int x :: .ref i :: S) (am_KD, gc, gs) (I, J, am_RT T) E Q := op_putI hd hf hg hk ht h
theorem st_putZ {idx t k n i : Nat} {x : Int32} (hd : decode M.2.1 pc = .ok (.putfield idx, 3)) (hf : am_fl M.1.cls idx t k false) (hg : am_KD[i]? = some (t, n)) (hk : k < n) (ht : am_ty t k = .boolean) (hx : x = 0 ∨ x = 1) (h : AW l ρ d M (pc + 3) L S (am_KD, gc, gs) (am_u I i k x, J, am_RT T) E Q) : AW l ρ d M pc L (.int x :: .ref i :: S) (am_KD, gc, gs) (I, J, am_RT T) E Q := op_putZ hd hf hg hk ht hx h
theorem st_putL {idx t k n i : Nat} {x : Int64} (hd : decode M.2.1 pc = .ok (.putfield idx, 3)) (hf : am_fl M.1.cls idx t k false) (hg : am_KD[i]? = some (t, n)) (hk : k < n) (ht : am_ty t k = .long) (h : AW l ρ d M (pc + 3) L S (am_KD, gc, gs) (I, am_u J i k x, am_RT T) E Q) : AW l ρ d M pc L (.long x :: .ref i :: S) (am_KD, gc, gs) (I, J, am_RT T) E Q := op_putL hd hf hg hk ht h
theorem st_putT {idx z : Nat} (hd : decode M.2.1 pc = .ok (.putfield idx, 3)) (hf : am_fl M.1.cls idx 12 5 false) (h : AW l ρ d M (pc + 3) L S (am_KD, gc, gs) (I, J, am_RT z) E Q) : AW l ρ d M pc L (.ref z :: .ref 53 :: S) (am_KD, gc, gs) (I, J, am_RT T) E Q := by
  refine op_putR hd hf (fun z => by cases z) kd_53 (by decide) (Or.inr ⟨_, rfl⟩) ?_
  show AW l ρ d M (pc + 3) L S (am_KD, gc, gs) (I, J, am_u (am_RT T) 53 5 (some z)) E Q
  rw [am_RT_u]
  exact h
theorem st_iald {n i k : Nat} {x v : Int32} (hd : decode M.2.1 pc = .ok (.iaload, 1)) (hg : am_KD[i]? = some (50, n)) (hx : ok_ix x n) (hk : x.toNatClampNeg = k) (hv : I i k = v) (h : AW l ρ d M (pc + 1) L (.int v :: S) (am_KD, gc, gs) (I, J, am_RT T) E Q) : AW l ρ d M pc L (.int x :: .ref i :: S) (am_KD, gc, gs) (I, J, am_RT T) E Q := by
  subst hk; subst hv; exact op_iald hd hg hx h
theorem st_bald {n i k : Nat} {x v : Int32} (hd : decode M.2.1 pc = .ok (.baload, 1)) (hg : am_KD[i]? = some (52, n)) (hx : ok_ix x n) (hk : x.toNatClampNeg = k) (hv : I i k = v) (h : AW l ρ d M (pc + 1) L (.int v :: S) (am_KD, gc, gs) (I, J, am_RT T) E Q) : AW l ρ d M pc L (.int x :: .ref i :: S) (am_KD, gc, gs) (I, J, am_RT T) E Q := by
  subst hk; subst hv; exact op_bald hd hg hx h
theorem st_lald {n i k : Nat} {x : Int32} {v : Int64} (hd : decode M.2.1 pc = .ok (.laload, 1)) (hg : am_KD[i]? = some (51, n)) (hx : ok_ix x n) (hk : x.toNatClampNeg = k) (hv : J i k = v) (h : AW l ρ d M (pc + 1) L (.long v :: S) (am_KD, gc, gs) (I, J, am_RT T) E Q) : AW l ρ d M pc L (.int x :: .ref i :: S) (am_KD, gc, gs) (I, J, am_RT T) E Q := by
  subst hk; subst hv; exact op_lald hd hg hx h
theorem st_aald {x : Int32} (hd : decode M.2.1 pc = .ok (.aaload, 1)) (hx : ok_ix x 4) (h : AW l ρ d M (pc + 1) L (.ref (21 + x.toNatClampNeg) :: S) (am_KD, gc, gs) (I, J, am_RT T) E Q) : AW l ρ d M pc L (.int x :: .ref 20 :: S) (am_KD, gc, gs) (I, J, am_RT T) E Q :=
  op_aald hd kd_20 hx (rr_row (T := T) (Nat.not_le.mp fun q => hx (Or.inr q))) h
theorem st_iast {n i k : Nat} {x y : Int32} (hd : decode M.2.1 pc = .ok (.iastore, 1)) (hg : am_KD[i]? = some (50, n)) (hx : ok_ix x n) (hk : x.toNatClampNeg = k) (h : AW l ρ d M (pc + 1) L S (am_KD, gc, gs) (am_u I i k y, J, am_RT T) E Q) : AW l ρ d M pc L (.int y :: .int x :: .ref i :: S) (am_KD, gc, gs) (I, J, am_RT T) E Q := by
  subst hk; exact op_iast hd hg hx h
theorem st_bast {n i k : Nat} {x y : Int32} (hd : decode M.2.1 pc = .ok (.bastore, 1)) (hg : am_KD[i]? = some (52, n)) (hx : ok_ix x n) (hk : x.toNatClampNeg = k) (h : AW l ρ d M (pc + 1) L S (am_KD, gc, gs) (am_u I i k y.toInt8.toInt32, J, am_RT T) E Q) : AW l ρ d M pc L (.int y :: .int x :: .ref i :: S) (am_KD, gc, gs) (I, J, am_RT T) E Q := by
  subst hk; exact op_bast hd hg hx h
theorem st_last {n i k : Nat} {x : Int32} {y : Int64} (hd : decode M.2.1 pc = .ok (.lastore, 1)) (hg : am_KD[i]? = some (51, n)) (hx : ok_ix x n) (hk : x.toNatClampNeg = k) (h : AW l ρ d M (pc + 1) L S (am_KD, gc, gs) (I, am_u J i k y, am_RT T) E Q) : AW l ρ d M pc L (.long y :: .int x :: .ref i :: S) (am_KD, gc, gs) (I, J, am_RT T) E Q := by
  subst hk; exact op_last hd hg hx h
theorem st_copyi {idx i j k n0 n1 : Nat} {n : Int32} (hd : decode M.2.1 pc = .ok (.invokestatic idx, 3)) (hlink : Cond.methodLink M.1.cls idx arraycopyName ∈ am_T) (hnat : Cond.native arraycopyName ∈ am_T) (hs : Cond.static arraycopyName ∈ am_T) (hi : Cond.initialized "java/lang/System" ∈ am_T) (hg0 : am_KD[i]? = some (50, n0)) (hg1 : am_KD[j]? = some (50, n1)) (hx : 0 ≤ n ∧ k ≤ n0 ∧ k ≤ n1) (hk : n.toNatClampNeg = k) (hrest : (S.map fun v => v.category).sum ≤ 8)
    (h : AW l ρ (d + 1) M (pc + 3) L S (am_KD, gc, gs) (am_row I j (fun a => if a < k then I i a else I j a), J, am_RT T) E Q) : AW l ρ (d + 1) M pc L (.int n :: .int 0 :: .ref j :: .int 0 :: .ref i :: S) (am_KD, gc, gs) (I, J, am_RT T) E Q := by
  subst hk
  refine op_copyi hd hlink hnat hs hi hg0 hg1 (by decide) (by decide) (Int32.not_lt.mpr hx.1) (by rw [show (0 : Int32).toNatClampNeg = 0 by decide]; omega) (by rw [show (0 : Int32).toNatClampNeg = 0 by decide]; omega) hrest ?_
  rw [show (0 : Int32).toNatClampNeg = 0 by decide, am_cpy0]
  exact h
theorem st_copyl {idx i j k n0 n1 : Nat} {n : Int32} (hd : decode M.2.1 pc = .ok (.invokestatic idx, 3)) (hlink : Cond.methodLink M.1.cls idx arraycopyName ∈ am_T) (hnat : Cond.native arraycopyName ∈ am_T) (hs : Cond.static arraycopyName ∈ am_T) (hi : Cond.initialized "java/lang/System" ∈ am_T) (hg0 : am_KD[i]? = some (51, n0)) (hg1 : am_KD[j]? = some (51, n1)) (hx : 0 ≤ n ∧ k ≤ n0 ∧ k ≤ n1) (hk : n.toNatClampNeg = k) (hrest : (S.map fun v => v.category).sum ≤ 8)
    (h : AW l ρ (d + 1) M (pc + 3) L S (am_KD, gc, gs) (I, am_row J j (fun a => if a < k then J i a else J j a), am_RT T) E Q) : AW l ρ (d + 1) M pc L (.int n :: .int 0 :: .ref j :: .int 0 :: .ref i :: S) (am_KD, gc, gs) (I, J, am_RT T) E Q := by
  subst hk
  refine op_copyl hd hlink hnat hs hi hg0 hg1 (by decide) (by decide) (Int32.not_lt.mpr hx.1) (by rw [show (0 : Int32).toNatClampNeg = 0 by decide]; omega) (by rw [show (0 : Int32).toNatClampNeg = 0 by decide]; omega) hrest ?_
  rw [show (0 : Int32).toNatClampNeg = 0 by decide, am_cpy0]
  exact h
end AMS
