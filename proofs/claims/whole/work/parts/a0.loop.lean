/-! ===== the law's loop; the law from its entry ===== -/
theorem la_sub {L : Nat} (h : L ≤ 3072) : (Int32.ofNat L - 6).toInt = (L : Int) - 6 := by
  have e : (Int32.ofNat L).toInt = (L : Int) := nI_toInt (by omega)
  rw [Int32.toInt_sub, e, show (6 : Int32).toInt = 6 from by decide +kernel]
  apply Int.bmod_eq_of_le <;> omega
theorem la_nin {k L c : Nat} {x : Int32} (hx : x = nI c) (h : k + c < L) (hL : L ≤ 3072) : vp_in (nI k + x) L := by
  subst hx
  rw [nI_add]
  exact nI_in h (by omega)
theorem am_sz81 : am_sz 81 ≤ 100000 := by decide +kernel
theorem la_get {α : Type} {a : Array α} {k : Nat} {x : α} (h : a.toList[k]? = some x) : a[k]? = some x := by
  rw [← Array.getElem?_toList]
  exact h
section LAW2
variable {l : Launch} {ρ : am_R} {gc gs B : Nat} {i x1 x2 x3 x4 x5 : Int32} {I : Nat → Nat → Int32} {J : Nat → Nat → Int64} {T : Nat} {E : am_G} {Q : List Value → am_H → Prop}
set_option maxHeartbeats 1000000 in
theorem la_all (hfl : l.stackTraces = false) (hB : B < 2 ^ 18) (hi : la_in ρ i x1 x2 x3 x4 x5) (hne : 81 < gc) (hE : gc + 1 ≤ E.2.1 ∧ gs + 6 ≤ E.2.2) (hk : la_K l ρ i gc gs B E Q) (h : q_IV B I J T) {v : Int32} (hv : ∃ c, c < 2 ^ 5 ∧ v = nI c) : AW l ρ 1001 M_L_law 40 (la_L i) [.int v] (am_KD, gc, gs) (I, J, am_RT T) E Q := by
  have hle : am_le (am_KD, gc, gs) (am_KD, gc, gs) E := ⟨Nat.le_refl _, Nat.le_refl _, Nat.le_of_succ_le hE.1, Nat.le_trans (Nat.le_add_right _ _) hE.2, fun z => z⟩
  obtain ⟨c, hc, rfl⟩ := hv
  match c, hc with
  | 0, _ => exact op_tableIn (tgt := 176) dL_law_40 (by decide +kernel) (by decide +kernel) (off := 136) (la_get (by decide +kernel)) (by decide) (la_feed hB hi hne hle hk h)
  | 1, _ => exact op_tableIn (tgt := 249) dL_law_40 (by decide +kernel) (by decide +kernel) (off := 209) (la_get (by decide +kernel)) (by decide) (la_end hB hi hne hle hk h)
  | 2, _ => exact op_tableIn (tgt := 274) dL_law_40 (by decide +kernel) (by decide +kernel) (off := 234) (la_get (by decide +kernel)) (by decide) (la_fault hB hi hne hle hk h)
  | 3, _ => exact op_tableIn (tgt := 299) dL_law_40 (by decide +kernel) (by decide +kernel) (off := 259) (la_get (by decide +kernel)) (by decide) (la_text hB hi hne hle hk h)
  | 4, _ => exact op_tableIn (tgt := 324) dL_law_40 (by decide +kernel) (by decide +kernel) (off := 284) (la_get (by decide +kernel)) (by decide) (la_rider hfl hi hne hE hk h)
  | 5, _ => exact op_tableIn (tgt := 392) dL_law_40 (by decide +kernel) (by decide +kernel) (off := 352) (la_get (by decide +kernel)) (by decide) (la_way hB hi hne hle hk h)
  | 6, _ => exact op_tableIn (tgt := 429) dL_law_40 (by decide +kernel) (by decide +kernel) (off := 389) (la_get (by decide +kernel)) (by decide) (la_between hB hi hne hle hk h)
  | 7, _ => exact op_tableIn (tgt := 466) dL_law_40 (by decide +kernel) (by decide +kernel) (off := 426) (la_get (by decide +kernel)) (by decide) (la_move hB hi hne hle hk h)
  | 8, _ => exact op_tableIn (tgt := 503) dL_law_40 (by decide +kernel) (by decide +kernel) (off := 463) (la_get (by decide +kernel)) (by decide) (la_dig hB hi hne hle hk h)
  | 9, _ => exact op_tableIn (tgt := 540) dL_law_40 (by decide +kernel) (by decide +kernel) (off := 500) (la_get (by decide +kernel)) (by decide) (la_feet hB hi hne hle hk h)
  | 10, _ => exact op_tableIn (tgt := 565) dL_law_40 (by decide +kernel) (by decide +kernel) (off := 525) (la_get (by decide +kernel)) (by decide) (la_cost hB hi hne hle hk h)
  | 11, _ => exact op_tableIn (tgt := 602) dL_law_40 (by decide +kernel) (by decide +kernel) (off := 562) (la_get (by decide +kernel)) (by decide) (la_share hB hi hne hle hk h)
  | 12, _ => exact op_tableIn (tgt := 664) dL_law_40 (by decide +kernel) (by decide +kernel) (off := 624) (la_get (by decide +kernel)) (by decide) (la_worse hB hi hne hle hk h)
  | 13, _ => exact op_tableIn (tgt := 701) dL_law_40 (by decide +kernel) (by decide +kernel) (off := 661) (la_get (by decide +kernel)) (by decide) (la_complaint hB hi hne hle hk h)
  | 14, _ => exact op_tableIn (tgt := 739) dL_law_40 (by decide +kernel) (by decide +kernel) (off := 699) (la_get (by decide +kernel)) (by decide) (la_order hB hi hne hle hk h)
  | 15, _ => exact op_tableIn (tgt := 788) dL_law_40 (by decide +kernel) (by decide +kernel) (off := 748) (la_get (by decide +kernel)) (by decide) (la_ride hB hi hne hle hk h)
  | 16, _ => exact op_tableIn (tgt := 837) dL_law_40 (by decide +kernel) (by decide +kernel) (off := 797) (la_get (by decide +kernel)) (by decide) (la_coaches hB hi hne hle hk h)
  | 17, _ => exact op_tableIn (tgt := 862) dL_law_40 (by decide +kernel) (by decide +kernel) (off := 822) (la_get (by decide +kernel)) (by decide) (la_steady hB hi hne hle hk h)
  | 18, _ => exact op_tableIn (tgt := 899) dL_law_40 (by decide +kernel) (by decide +kernel) (off := 859) (la_get (by decide +kernel)) (by decide) (la_left hB hi hne hle hk h)
  | 19, _ => exact op_tableIn (tgt := 924) dL_law_40 (by decide +kernel) (by decide +kernel) (off := 884) (la_get (by decide +kernel)) (by decide) (la_lie hB hi hne hle hk h)
  | 20, _ => exact op_tableIn (tgt := 974) dL_law_40 (by decide +kernel) (by decide +kernel) (off := 934) (la_get (by decide +kernel)) (by decide) (la_bridge hB hi hne hle hk h)
  | 21, _ => exact op_tableIn (tgt := 999) dL_law_40 (by decide +kernel) (by decide +kernel) (off := 959) (la_get (by decide +kernel)) (by decide) (la_see hB hi hne hle hk h)
  | 22, _ => exact op_tableIn (tgt := 1048) dL_law_40 (by decide +kernel) (by decide +kernel) (off := 1008) (la_get (by decide +kernel)) (by decide) (la_fits hB hi hne hle hk h)
  | 23, _ => exact op_tableIn (tgt := 1073) dL_law_40 (by decide +kernel) (by decide +kernel) (off := 1033) (la_get (by decide +kernel)) (by decide) (la_night hB hi hne hle hk h)
  | 24, _ => exact op_tableIn (tgt := 1110) dL_law_40 (by decide +kernel) (by decide +kernel) (off := 1070) (la_get (by decide +kernel)) (by decide) (la_drawn hB hi hne hle hk h)
  | 25, _ => exact op_tableIn (tgt := 1191) dL_law_40 (by decide +kernel) (by decide +kernel) (off := 1151) (la_get (by decide +kernel)) (by decide) (la_paid hB hi hne hle hk h)
  | 26, _ => exact op_tableIn (tgt := 1217) dL_law_40 (by decide +kernel) (by decide +kernel) (off := 1177) (la_get (by decide +kernel)) (by decide) (la_undo hB hi hne hle hk h)
  | 27, _ => exact op_tableIn (tgt := 1230) dL_law_40 (by decide +kernel) (by decide +kernel) (off := 1190) (la_get (by decide +kernel)) (by decide) (la_image hB hi hne hle hk h)
  | 28, _ => exact op_tableIn (tgt := 1243) dL_law_40 (by decide +kernel) (by decide +kernel) (off := 1203) (la_get (by decide +kernel)) (by decide) (la_back hB hi hne hle hk h)
  | 29, _ => exact op_tableIn (tgt := 1256) dL_law_40 (by decide +kernel) (by decide +kernel) (off := 1216) (la_get (by decide +kernel)) (by decide) (la_count hB hi hne hle hk h)
  | 30, _ => exact op_tableOut dL_law_40 (by decide +kernel) (by decide) (hk.one hne _ _ _ h.up)
  | 31, _ => exact op_tableOut dL_law_40 (by decide +kernel) (by decide) (hk.one hne _ _ _ h.up)
  | c + 32, hc => exact absurd hc (by omega)
theorem la_exit {c k : Nat} {L : List (Nat × Value)} {H : am_H} (h1 : c ≤ 601024) (h2 : k ≤ 7293034) : AW l ρ 1001 M_L_law 1287 L [] (am_KD, c, k) H (am_KD, 601024, 7293034) (fun v _ => v = [.int 1]) := by
  refine AW.widen (c := 601024) (k := 7293034) h1 h2 (show ¬ 81 = 601024 by decide) ?_
  refine op_iconst (v := 1) dL_law_1287 (by decide +kernel) ?_
  exact op_iret dL_law_1288 rfl narrow_b1 rfl
set_option maxHeartbeats 1000000 in
theorem la_loop (hfl : l.stackTraces = false) (hL : ρ.2.2.2.1 ≤ 3072) : ∀ (k j : Nat), j + k = 513 → ∀ (I : Nat → Nat → Int32) (J : Nat → Nat → Int64) (T : Nat), q_IV (40 * j) I J T → AW l ρ 1001 M_L_law 23 (la_L (nI (6 * j))) [] (am_KD, 82 + j, am_sz 81 + 6 * j) (I, J, am_RT T) (am_KD, 601024, 7293034) (fun v _ => v = [.int 1]) := by
  have hz := am_sz81
  intro k
  induction k with
  | zero =>
    intro j hj I J T h
    refine op_iload (k := 4) dL_law_23 rfl ?_
    refine op_aload_n (k := 0) dL_law_25 rfl rfl ?_
    refine op_slen dL_law_26 ?_
    refine op_bipush (v := 6) dL_law_27 (by decide +kernel) ?_
    refine op_isub dL_law_29 ?_
    refine op_icmp_gt (tgt := 1287) dL_law_30 (by decide) (fun _ => la_exit (by omega) (by omega)) (fun hc => ?_)
    rw [Int32.lt_iff_toInt_lt, la_sub hL, nI_toInt (by omega)] at hc
    exfalso
    omega
  | succ k ih =>
    intro j hj I J T h
    refine op_iload (k := 4) dL_law_23 rfl ?_
    refine op_aload_n (k := 0) dL_law_25 rfl rfl ?_
    refine op_slen dL_law_26 ?_
    refine op_bipush (v := 6) dL_law_27 (by decide +kernel) ?_
    refine op_isub dL_law_29 ?_
    refine op_icmp_gt (tgt := 1287) dL_law_30 (by decide) (fun _ => la_exit (by omega) (by omega)) (fun hc => ?_)
    rw [Int32.lt_iff_toInt_lt, la_sub hL, nI_toInt (by omega)] at hc
    have h6 : 6 * j + 6 ≤ ρ.2.2.2.1 := by omega
    refine op_aload_n (k := 0) dL_law_33 rfl rfl ?_
    refine op_iload (k := 4) dL_law_34 rfl ?_
    refine op_sald dL_law_36 (nI_in (by omega) (by omega)) ?_
    refine op_bipush (v := 31) dL_law_37 (by decide +kernel) ?_
    refine op_iand dL_law_39 ?_
    have hi : la_in ρ (nI (6 * j)) _ _ _ _ _ := ⟨⟨la_nin (c := 1) rfl (by omega) hL, la_nin (c := 2) rfl (by omega) hL, la_nin (c := 3) rfl (by omega) hL, la_nin (c := 4) rfl (by omega) hL, la_nin (c := 5) rfl (by omega) hL⟩, rfl, rfl, rfl, rfl, rfl⟩
    refine la_all hfl (B := 40 * j) (by omega) hi (by omega) ⟨by show 82 + j + 1 ≤ 601024; omega, by show am_sz 81 + 6 * j + 6 ≤ 7293034; omega⟩ ?_ h (pk_andE _ 5 (by decide +kernel))
    intro I J T h
    have e1 : nI (6 * j) + Int32.ofInt 6 = nI (6 * (j + 1)) := by
      show nI (6 * j) + nI 6 = _
      rw [nI_add]
      exact congrArg nI (by omega)
    refine op_iinc (k := 4) (v := nI (6 * (j + 1))) (L' := [(4, .int (nI (6 * (j + 1)))), (0, .ref 1006), (1, .ref 0), (2, .ref 53), (3, .ref 80)]) dL_law_1281 rfl e1 (by decide) rfl ?_
    refine op_goto (tgt := 23) dL_law_1284 (by decide) ?_
    refine AW.perm (L' := la_L (nI (6 * (j + 1)))) [1, 2, 3, 4, 0] rfl ?_
    have h9 := ih (j + 1) (by omega) I J T (by rw [show 40 * (j + 1) = 40 * j + 40 by omega]; exact h)
    rw [show 82 + (j + 1) = 82 + j + 1 by omega, show am_sz 81 + 6 * (j + 1) = am_sz 81 + 6 * j + 6 by omega] at h9
    exact h9
theorem q_IV1 : q_IV 0 am_I2 am_J0 54 := by
  refine q_IV0 (Or.inl rfl) (fun k _ => ?_) ?_ ?_ ⟨?_, ?_⟩ ?_ ⟨?_, ?_⟩ (fun k _ => ⟨?_, ?_⟩) (fun k hk => ?_) ?_ (fun k _ => ?_)
  all_goals first | rfl | simp [am_I2, am_I1, am_I0, am_u]
  omega
set_option maxHeartbeats 1000000 in
theorem la_law (hfl : l.stackTraces = false) (hL : ρ.2.2.2.1 ≤ 3072) : AW l ρ 1001 M_L_law 0 [(0, .ref 1006)] [] (am_g 0) (am_I0, am_J0, am_lr []) (am_KD, 601024, 7293034) (fun v _ => v = [.int 1]) := by
  refine k_new (n := 0) dL_law_0 cls_11 tw_127 tw_128 tw_102 fl9_11 rfl kd_0 (fun _ => rfl) (fun _ => rfl) (by decide +kernel) ⟨(by decide +kernel), (by decide +kernel)⟩ ?_
  refine op_dup dL_law_3 rfl ?_
  refine op_callI (M' := M_X11_init) [] (S0 := [.ref 0]) dL_law_4 tw_129 ok_X11_init tw_130 rfl rfl rfl rfl (Nat.le_of_ble_eq_true rfl) (Nat.le_of_ble_eq_true rfl) (kc_0 (d := 998)) ⟨(by decide +kernel), (by decide +kernel), (by decide +kernel), (by decide +kernel), fun _ => am_g_len (by decide)⟩ ?_
  rintro _ _ ⟨rfl, rfl⟩
  refine op_astore_n (L' := [(1, .ref 0), (0, .ref 1006)]) dL_law_7 rfl (by decide) rfl ?_
  refine k_new (n := 53) dL_law_8 cls_12 tw_1178 tw_1179 tw_114 fl9_12 rfl kd_53 (fun k => by simp [am_I1, am_I0, am_u]) (fun _ => rfl) (by decide +kernel) ⟨(by decide +kernel), (by decide +kernel)⟩ ?_
  refine op_dup dL_law_11 rfl ?_
  refine op_callI (M' := M_X12_init) [] (S0 := [.ref 53]) dL_law_12 tw_1180 ok_X12_init tw_1181 rfl rfl rfl rfl (Nat.le_of_ble_eq_true rfl) (Nat.le_of_ble_eq_true rfl) (kc_53 (d := 999)) ⟨(by decide +kernel), (by decide +kernel), (by decide +kernel), (by decide +kernel), fun _ => am_g_len (by decide)⟩ ?_
  rintro _ _ ⟨rfl, rfl⟩
  refine op_astore_n (L' := [(2, .ref 53), (1, .ref 0), (0, .ref 1006)]) dL_law_15 rfl (by decide) rfl ?_
  refine op_iconst (v := 1) dL_law_16 (by decide +kernel) ?_
  refine k_newl (n := 80) (N := 1) (idx := 0) dL_law_17 tw_388 (by decide +kernel) (by decide +kernel) kd_80 (by decide +kernel) (fun k => by simp [am_I2, am_I1, am_I0, am_u]) (fun _ => rfl) (by decide +kernel) ⟨(by decide +kernel), (by decide +kernel)⟩ ?_
  refine op_astore_n (L' := [(3, .ref 80), (2, .ref 53), (1, .ref 0), (0, .ref 1006)]) dL_law_19 rfl (by decide) rfl ?_
  refine op_iconst (v := 0) dL_law_20 (by decide +kernel) ?_
  refine op_istore (L' := [(4, .int 0), (3, .ref 80), (2, .ref 53), (1, .ref 0), (0, .ref 1006)]) dL_law_21 (by decide) rfl ?_
  change AW _ _ _ _ _ _ _ (am_KD, 81, am_sz 81) (am_I2, am_J0, am_lr am_le0) _ _
  rw [am_lr_RT]
  refine AW.perm (L' := la_L 0) [4, 3, 2, 1, 0] rfl ?_
  refine AW.widen (c := 82) (k := am_sz 81) (show 81 ≤ 82 by decide) (Nat.le_refl _) (show ¬ 81 = 82 by decide) ?_
  have h9 := la_loop (l := l) (ρ := ρ) hfl hL 513 0 rfl am_I2 am_J0 54 q_IV1
  rw [show 6 * 0 = 0 from rfl, nI_0] at h9
  exact h9
end LAW2
