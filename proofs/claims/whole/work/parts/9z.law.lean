/-! ===== the law: one arm for each call, its loop ===== -/
theorem lg_self (x : Int64) : lg_cmp x x = 0 := by
  unfold lg_cmp
  rw [if_neg (by simp), if_pos rfl]
theorem op_saldv {l : Launch} {ρ : am_R} {d : Nat} {M : am_M} {pc : Nat} {L : List (Nat × Value)} {S : List Value} {g E : am_G} {H : am_H} {Q : List Value → am_H → Prop} {x v : Int32} (hd : decode M.2.1 pc = .ok (.iaload, 1)) (hx : vp_in x ρ.2.2.2.1) (hv : ρ.2.2.2.2 x.toNatClampNeg = v) (h : AW l ρ d M (pc + 1) L (.int v :: S) g H E Q) : AW l ρ d M pc L (.int x :: .ref 1006 :: S) g H E Q := by
  subst hv
  exact op_sald hd hx h
abbrev la_L (i : Int32) : List (Nat × Value) := [(0, .ref 1006), (1, .ref 0), (2, .ref 53), (3, .ref 80), (4, .int i)]
def la_y (a b : Int32) : Int64 := (a.toInt64 <<< ((32 : Int32).toInt64 &&& 63)) ||| (b.toInt64 &&& 4294967295)
/-- the script's five ints behind i -/
def la_in (ρ : am_R) (i x1 x2 x3 x4 x5 : Int32) : Prop := (vp_in (i + 1) ρ.2.2.2.1 ∧ vp_in (i + 2) ρ.2.2.2.1 ∧ vp_in (i + 3) ρ.2.2.2.1 ∧ vp_in (i + 4) ρ.2.2.2.1 ∧ vp_in (i + 5) ρ.2.2.2.1) ∧ ρ.2.2.2.2 (i + 1).toNatClampNeg = x1 ∧ ρ.2.2.2.2 (i + 2).toNatClampNeg = x2 ∧ ρ.2.2.2.2 (i + 3).toNatClampNeg = x3 ∧ ρ.2.2.2.2 (i + 4).toNatClampNeg = x4 ∧ ρ.2.2.2.2 (i + 5).toNatClampNeg = x5
theorem q_rthrow {n : Nat} {I : Nat → Nat → Int32} {J : Nat → Nat → Int64} {T : Nat} {x y r : Int32} (h : f_X11_isRider n I J T x = some 0 ∨ (f_X11_isRider n I J T x = some 1 ∧ f_X11_isWithin n I J T y 0 4 = some 0)) : ¬ f_X11_rider n I J T x y = some r := by
  intro z
  unfold f_X11_rider at z
  rcases h with h | ⟨h, h2⟩
  · simp [h] at z
  · simp [h, h2] at z
section LAW
variable {l : Launch} {ρ : am_R} {gc gs B : Nat} {i x1 x2 x3 x4 x5 : Int32} {I : Nat → Nat → Int32} {J : Nat → Nat → Int64} {T : Nat} {E : am_G} {Q : List Value → am_H → Prop}
/-- what stands behind an arm -/
def la_K (l : Launch) (ρ : am_R) (i : Int32) (gc gs B : Nat) (E : am_G) (Q : List Value → am_H → Prop) : Prop := ∀ I J T, q_IV (B + 40) I J T → AW l ρ 1001 M_L_law 1281 (la_L i) [] (am_KD, gc + 1, gs + 6) (I, J, am_RT T) E Q
theorem la_K.one (hne : 81 < gc) (hk : la_K l ρ i gc gs B E Q) (I J T) (h : q_IV (B + 40) I J T) : AW l ρ 1001 M_L_law 1281 (la_L i) [] (am_KD, gc, gs) (I, J, am_RT T) E Q := by
  have hne2 : ¬ (am_KD, gc, gs).1.length = gc + 1 := by
    show ¬ 81 = gc + 1
    omega
  exact AW.widen (g := (am_KD, gc, gs)) (c := gc + 1) (k := gs + 6) (Nat.le_succ gc) (Nat.le_add_right gs 6) hne2 (hk I J T h)
set_option maxHeartbeats 1000000 in
theorem la_feed (hB : B < 2 ^ 18) (hi : la_in ρ i x1 x2 x3 x4 x5) (hne : 81 < gc) (hle : am_le (am_KD, gc, gs) (am_KD, gc, gs) E) (hk : la_K l ρ i gc gs B E Q) (h : q_IV B I J T) : AW l ρ 1001 M_L_law 176 (la_L i) [] (am_KD, gc, gs) (I, J, am_RT T) E Q := by
  obtain ⟨⟨h1, h2, h3, h4, h5⟩, e1, e2, e3, e4, e5⟩ := hi
  obtain ⟨w_r, w_Ip, w_I2p, ha, hb, iv⟩ := c_feed (n := 300) (by decide) x1 x2 x3 x4 x5 h
  refine op_aload_n (k := 1) dL_law_176 rfl rfl ?_
  refine op_aload_n (k := 0) dL_law_177 rfl rfl ?_
  refine op_iload (k := 4) dL_law_178 rfl ?_
  refine op_iconst (v := 1) dL_law_180 (by decide +kernel) ?_
  refine op_iadd dL_law_181 ?_
  refine op_saldv dL_law_182 h1 e1 ?_
  refine op_aload_n (k := 0) dL_law_183 rfl rfl ?_
  refine op_iload (k := 4) dL_law_184 rfl ?_
  refine op_iconst (v := 2) dL_law_186 (by decide +kernel) ?_
  refine op_iadd dL_law_187 ?_
  refine op_saldv dL_law_188 h2 e2 ?_
  refine op_aload_n (k := 0) dL_law_189 rfl rfl ?_
  refine op_iload (k := 4) dL_law_190 rfl ?_
  refine op_iconst (v := 3) dL_law_192 (by decide +kernel) ?_
  refine op_iadd dL_law_193 ?_
  refine op_saldv dL_law_194 h3 e3 ?_
  refine op_aload_n (k := 0) dL_law_195 rfl rfl ?_
  refine op_iload (k := 4) dL_law_196 rfl ?_
  refine op_iconst (v := 4) dL_law_198 (by decide +kernel) ?_
  refine op_iadd dL_law_199 ?_
  refine op_saldv dL_law_200 h4 e4 ?_
  refine op_aload_n (k := 0) dL_law_201 rfl rfl ?_
  refine op_iload (k := 4) dL_law_202 rfl ?_
  refine op_iconst (v := 5) dL_law_204 (by decide +kernel) ?_
  refine op_iadd dL_law_205 ?_
  refine op_saldv dL_law_206 h5 e5 ?_
  refine op_callV (M' := M_X11_feed) [.int x1, .int x2, .int x3, .int x4, .int x5] (S0 := []) dL_law_207 tw_515 ok_X11_feed tw_516 tw_517 kd_0 cls_11 rfl rfl rfl (Nat.le_of_ble_eq_true rfl) (Nat.le_of_ble_eq_true rfl) (t_X11_feed (d := 1000) (by decide) ha) hle ?_
  rintro _ _ ⟨rfl, rfl⟩
  refine op_aload_n (k := 2) dL_law_210 rfl rfl ?_
  refine op_aload_n (k := 0) dL_law_211 rfl rfl ?_
  refine op_iload (k := 4) dL_law_212 rfl ?_
  refine op_iconst (v := 1) dL_law_214 (by decide +kernel) ?_
  refine op_iadd dL_law_215 ?_
  refine op_saldv dL_law_216 h1 e1 ?_
  refine op_aload_n (k := 0) dL_law_217 rfl rfl ?_
  refine op_iload (k := 4) dL_law_218 rfl ?_
  refine op_iconst (v := 2) dL_law_220 (by decide +kernel) ?_
  refine op_iadd dL_law_221 ?_
  refine op_saldv dL_law_222 h2 e2 ?_
  refine op_aload_n (k := 0) dL_law_223 rfl rfl ?_
  refine op_iload (k := 4) dL_law_224 rfl ?_
  refine op_iconst (v := 3) dL_law_226 (by decide +kernel) ?_
  refine op_iadd dL_law_227 ?_
  refine op_saldv dL_law_228 h3 e3 ?_
  refine op_aload_n (k := 0) dL_law_229 rfl rfl ?_
  refine op_iload (k := 4) dL_law_230 rfl ?_
  refine op_iconst (v := 4) dL_law_232 (by decide +kernel) ?_
  refine op_iadd dL_law_233 ?_
  refine op_saldv dL_law_234 h4 e4 ?_
  refine op_aload_n (k := 0) dL_law_235 rfl rfl ?_
  refine op_iload (k := 4) dL_law_236 rfl ?_
  refine op_iconst (v := 5) dL_law_238 (by decide +kernel) ?_
  refine op_iadd dL_law_239 ?_
  refine op_saldv dL_law_240 h5 e5 ?_
  refine op_callV (M' := M_X12_feed) [.int x1, .int x2, .int x3, .int x4, .int x5] (S0 := [.int w_r]) dL_law_241 tw_1371 ok_X12_feed tw_1372 tw_1373 kd_53 cls_12 rfl rfl rfl (Nat.le_of_ble_eq_true rfl) (Nat.le_of_ble_eq_true rfl) (t_X12_feed (d := 1000) (by decide) hb) hle ?_
  rintro _ _ ⟨rfl, rfl⟩
  refine op_icmp_eq (tgt := 1281) dL_law_244 (by decide) (fun _ => hk.one hne _ _ _ iv.up) (fun z => absurd rfl z)
set_option maxHeartbeats 1000000 in
theorem la_end (hB : B < 2 ^ 18) (hi : la_in ρ i x1 x2 x3 x4 x5) (hne : 81 < gc) (hle : am_le (am_KD, gc, gs) (am_KD, gc, gs) E) (hk : la_K l ρ i gc gs B E Q) (h : q_IV B I J T) : AW l ρ 1001 M_L_law 249 (la_L i) [] (am_KD, gc, gs) (I, J, am_RT T) E Q := by
  obtain ⟨⟨h1, h2, h3, h4, h5⟩, e1, e2, e3, e4, e5⟩ := hi
  obtain ⟨w_r, w_Ip, w_I2p, ha, hb, iv⟩ := c_end (n := 300) (by decide) x1 h
  refine op_aload_n (k := 1) dL_law_249 rfl rfl ?_
  refine op_aload_n (k := 0) dL_law_250 rfl rfl ?_
  refine op_iload (k := 4) dL_law_251 rfl ?_
  refine op_iconst (v := 1) dL_law_253 (by decide +kernel) ?_
  refine op_iadd dL_law_254 ?_
  refine op_saldv dL_law_255 h1 e1 ?_
  refine op_callV (M' := M_X11_end) [.int x1] (S0 := []) dL_law_256 tw_526 ok_X11_end tw_527 tw_528 kd_0 cls_11 rfl rfl rfl (Nat.le_of_ble_eq_true rfl) (Nat.le_of_ble_eq_true rfl) (t_X11_end (d := 1000) (by decide) ha) hle ?_
  rintro _ _ ⟨rfl, rfl⟩
  refine op_aload_n (k := 2) dL_law_259 rfl rfl ?_
  refine op_aload_n (k := 0) dL_law_260 rfl rfl ?_
  refine op_iload (k := 4) dL_law_261 rfl ?_
  refine op_iconst (v := 1) dL_law_263 (by decide +kernel) ?_
  refine op_iadd dL_law_264 ?_
  refine op_saldv dL_law_265 h1 e1 ?_
  refine op_callV (M' := M_X12_end) [.int x1] (S0 := [.int w_r]) dL_law_266 tw_1382 ok_X12_end tw_1383 tw_1384 kd_53 cls_12 rfl rfl rfl (Nat.le_of_ble_eq_true rfl) (Nat.le_of_ble_eq_true rfl) (t_X12_end (d := 1000) (by decide) hb) hle ?_
  rintro _ _ ⟨rfl, rfl⟩
  refine op_icmp_eq (tgt := 1281) dL_law_269 (by decide) (fun _ => hk.one hne _ _ _ iv.up) (fun z => absurd rfl z)
set_option maxHeartbeats 1000000 in
theorem la_fault (hB : B < 2 ^ 18) (hi : la_in ρ i x1 x2 x3 x4 x5) (hne : 81 < gc) (hle : am_le (am_KD, gc, gs) (am_KD, gc, gs) E) (hk : la_K l ρ i gc gs B E Q) (h : q_IV B I J T) : AW l ρ 1001 M_L_law 274 (la_L i) [] (am_KD, gc, gs) (I, J, am_RT T) E Q := by
  obtain ⟨⟨h1, h2, h3, h4, h5⟩, e1, e2, e3, e4, e5⟩ := hi
  obtain ⟨w_r, w_Ip, w_I2p, w_Tp, ha, hb, iv⟩ := c_fault (n := 300) (by decide) x1 h
  refine op_aload_n (k := 1) dL_law_274 rfl rfl ?_
  refine op_aload_n (k := 0) dL_law_275 rfl rfl ?_
  refine op_iload (k := 4) dL_law_276 rfl ?_
  refine op_iconst (v := 1) dL_law_278 (by decide +kernel) ?_
  refine op_iadd dL_law_279 ?_
  refine op_saldv dL_law_280 h1 e1 ?_
  refine op_callV (M' := M_X11_fault) [.int x1] (S0 := []) dL_law_281 tw_530 ok_X11_fault tw_531 tw_532 kd_0 cls_11 rfl rfl rfl (Nat.le_of_ble_eq_true rfl) (Nat.le_of_ble_eq_true rfl) (t_X11_fault (d := 1000) (by decide) ha) hle ?_
  rintro _ _ ⟨rfl, rfl⟩
  refine op_aload_n (k := 2) dL_law_284 rfl rfl ?_
  refine op_aload_n (k := 0) dL_law_285 rfl rfl ?_
  refine op_iload (k := 4) dL_law_286 rfl ?_
  refine op_iconst (v := 1) dL_law_288 (by decide +kernel) ?_
  refine op_iadd dL_law_289 ?_
  refine op_saldv dL_law_290 h1 e1 ?_
  refine op_callV (M' := M_X12_fault) [.int x1] (S0 := [.int w_r]) dL_law_291 tw_1386 ok_X12_fault tw_1387 tw_1388 kd_53 cls_12 rfl rfl rfl (Nat.le_of_ble_eq_true rfl) (Nat.le_of_ble_eq_true rfl) (t_X12_fault (d := 1000) (by decide) hb) hle ?_
  rintro _ _ ⟨rfl, rfl⟩
  refine op_icmp_eq (tgt := 1281) dL_law_294 (by decide) (fun _ => hk.one hne _ _ _ iv.up) (fun z => absurd rfl z)
set_option maxHeartbeats 1000000 in
theorem la_text (hB : B < 2 ^ 18) (hi : la_in ρ i x1 x2 x3 x4 x5) (hne : 81 < gc) (hle : am_le (am_KD, gc, gs) (am_KD, gc, gs) E) (hk : la_K l ρ i gc gs B E Q) (h : q_IV B I J T) : AW l ρ 1001 M_L_law 299 (la_L i) [] (am_KD, gc, gs) (I, J, am_RT T) E Q := by
  obtain ⟨⟨h1, h2, h3, h4, h5⟩, e1, e2, e3, e4, e5⟩ := hi
  obtain ⟨w_r, w_Ip, w_Jp, w_I2p, w_J2p, w_Tp, ha, hb, iv⟩ := c_text (n := 300) (by decide) x1 h
  refine op_aload_n (k := 1) dL_law_299 rfl rfl ?_
  refine op_aload_n (k := 0) dL_law_300 rfl rfl ?_
  refine op_iload (k := 4) dL_law_301 rfl ?_
  refine op_iconst (v := 1) dL_law_303 (by decide +kernel) ?_
  refine op_iadd dL_law_304 ?_
  refine op_saldv dL_law_305 h1 e1 ?_
  refine op_callV (M' := M_X11_text) [.int x1] (S0 := []) dL_law_306 tw_674 ok_X11_text tw_675 tw_676 kd_0 cls_11 rfl rfl rfl (Nat.le_of_ble_eq_true rfl) (Nat.le_of_ble_eq_true rfl) (t_X11_text (d := 1000) (by decide) ha) hle ?_
  rintro _ _ ⟨rfl, rfl⟩
  refine op_aload_n (k := 2) dL_law_309 rfl rfl ?_
  refine op_aload_n (k := 0) dL_law_310 rfl rfl ?_
  refine op_iload (k := 4) dL_law_311 rfl ?_
  refine op_iconst (v := 1) dL_law_313 (by decide +kernel) ?_
  refine op_iadd dL_law_314 ?_
  refine op_saldv dL_law_315 h1 e1 ?_
  refine op_callV (M' := M_X12_text) [.int x1] (S0 := [.int w_r]) dL_law_316 tw_1555 ok_X12_text tw_1556 tw_1557 kd_53 cls_12 rfl rfl rfl (Nat.le_of_ble_eq_true rfl) (Nat.le_of_ble_eq_true rfl) (t_X12_text (d := 1000) (by decide) hb) hle ?_
  rintro _ _ ⟨rfl, rfl⟩
  refine op_icmp_eq (tgt := 1281) dL_law_319 (by decide) (fun _ => hk.one hne _ _ _ iv.up) (fun z => absurd rfl z)
set_option maxHeartbeats 1000000 in
theorem la_way (hB : B < 2 ^ 18) (hi : la_in ρ i x1 x2 x3 x4 x5) (hne : 81 < gc) (hle : am_le (am_KD, gc, gs) (am_KD, gc, gs) E) (hk : la_K l ρ i gc gs B E Q) (h : q_IV B I J T) : AW l ρ 1001 M_L_law 392 (la_L i) [] (am_KD, gc, gs) (I, J, am_RT T) E Q := by
  obtain ⟨⟨h1, h2, h3, h4, h5⟩, e1, e2, e3, e4, e5⟩ := hi
  obtain ⟨w_r, ha, hb, iv⟩ := c_way (n := 300) (by decide) x1 x2 h
  refine op_aload_n (k := 1) dL_law_392 rfl rfl ?_
  refine op_aload_n (k := 0) dL_law_393 rfl rfl ?_
  refine op_iload (k := 4) dL_law_394 rfl ?_
  refine op_iconst (v := 1) dL_law_396 (by decide +kernel) ?_
  refine op_iadd dL_law_397 ?_
  refine op_saldv dL_law_398 h1 e1 ?_
  refine op_aload_n (k := 0) dL_law_399 rfl rfl ?_
  refine op_iload (k := 4) dL_law_400 rfl ?_
  refine op_iconst (v := 2) dL_law_402 (by decide +kernel) ?_
  refine op_iadd dL_law_403 ?_
  refine op_saldv dL_law_404 h2 e2 ?_
  refine op_callV (M' := M_X11_way) [.int x1, .int x2] (S0 := []) dL_law_405 tw_705 ok_X11_way tw_706 tw_707 kd_0 cls_11 rfl rfl rfl (Nat.le_of_ble_eq_true rfl) (Nat.le_of_ble_eq_true rfl) (t_X11_way (d := 1000) (by decide) ha) hle ?_
  rintro _ _ ⟨rfl, rfl⟩
  refine op_aload_n (k := 2) dL_law_408 rfl rfl ?_
  refine op_aload_n (k := 0) dL_law_409 rfl rfl ?_
  refine op_iload (k := 4) dL_law_410 rfl ?_
  refine op_iconst (v := 1) dL_law_412 (by decide +kernel) ?_
  refine op_iadd dL_law_413 ?_
  refine op_saldv dL_law_414 h1 e1 ?_
  refine op_aload_n (k := 0) dL_law_415 rfl rfl ?_
  refine op_iload (k := 4) dL_law_416 rfl ?_
  refine op_iconst (v := 2) dL_law_418 (by decide +kernel) ?_
  refine op_iadd dL_law_419 ?_
  refine op_saldv dL_law_420 h2 e2 ?_
  refine op_callV (M' := M_X12_way) [.int x1, .int x2] (S0 := [.int w_r]) dL_law_421 tw_1582 ok_X12_way tw_1583 tw_1584 kd_53 cls_12 rfl rfl rfl (Nat.le_of_ble_eq_true rfl) (Nat.le_of_ble_eq_true rfl) (t_X12_way (d := 1000) (by decide) hb) hle ?_
  rintro _ _ ⟨rfl, rfl⟩
  refine op_icmp_eq (tgt := 1281) dL_law_424 (by decide) (fun _ => hk.one hne _ _ _ iv.up) (fun z => absurd rfl z)
set_option maxHeartbeats 1000000 in
theorem la_between (hB : B < 2 ^ 18) (hi : la_in ρ i x1 x2 x3 x4 x5) (hne : 81 < gc) (hle : am_le (am_KD, gc, gs) (am_KD, gc, gs) E) (hk : la_K l ρ i gc gs B E Q) (h : q_IV B I J T) : AW l ρ 1001 M_L_law 429 (la_L i) [] (am_KD, gc, gs) (I, J, am_RT T) E Q := by
  obtain ⟨⟨h1, h2, h3, h4, h5⟩, e1, e2, e3, e4, e5⟩ := hi
  obtain ⟨w_r, ha, hb, iv⟩ := c_between (n := 300) (by decide) x1 x2 h
  refine op_aload_n (k := 1) dL_law_429 rfl rfl ?_
  refine op_aload_n (k := 0) dL_law_430 rfl rfl ?_
  refine op_iload (k := 4) dL_law_431 rfl ?_
  refine op_iconst (v := 1) dL_law_433 (by decide +kernel) ?_
  refine op_iadd dL_law_434 ?_
  refine op_saldv dL_law_435 h1 e1 ?_
  refine op_aload_n (k := 0) dL_law_436 rfl rfl ?_
  refine op_iload (k := 4) dL_law_437 rfl ?_
  refine op_iconst (v := 2) dL_law_439 (by decide +kernel) ?_
  refine op_iadd dL_law_440 ?_
  refine op_saldv dL_law_441 h2 e2 ?_
  refine op_callV (M' := M_X11_between) [.int x1, .int x2] (S0 := []) dL_law_442 tw_714 ok_X11_between tw_715 tw_716 kd_0 cls_11 rfl rfl rfl (Nat.le_of_ble_eq_true rfl) (Nat.le_of_ble_eq_true rfl) (t_X11_between (d := 1000) (by decide) ha) hle ?_
  rintro _ _ ⟨rfl, rfl⟩
  refine op_aload_n (k := 2) dL_law_445 rfl rfl ?_
  refine op_aload_n (k := 0) dL_law_446 rfl rfl ?_
  refine op_iload (k := 4) dL_law_447 rfl ?_
  refine op_iconst (v := 1) dL_law_449 (by decide +kernel) ?_
  refine op_iadd dL_law_450 ?_
  refine op_saldv dL_law_451 h1 e1 ?_
  refine op_aload_n (k := 0) dL_law_452 rfl rfl ?_
  refine op_iload (k := 4) dL_law_453 rfl ?_
  refine op_iconst (v := 2) dL_law_455 (by decide +kernel) ?_
  refine op_iadd dL_law_456 ?_
  refine op_saldv dL_law_457 h2 e2 ?_
  refine op_callV (M' := M_X12_between) [.int x1, .int x2] (S0 := [.int w_r]) dL_law_458 tw_1590 ok_X12_between tw_1591 tw_1592 kd_53 cls_12 rfl rfl rfl (Nat.le_of_ble_eq_true rfl) (Nat.le_of_ble_eq_true rfl) (t_X12_between (d := 1000) (by decide) hb) hle ?_
  rintro _ _ ⟨rfl, rfl⟩
  refine op_icmp_eq (tgt := 1281) dL_law_461 (by decide) (fun _ => hk.one hne _ _ _ iv.up) (fun z => absurd rfl z)
set_option maxHeartbeats 1000000 in
theorem la_move (hB : B < 2 ^ 18) (hi : la_in ρ i x1 x2 x3 x4 x5) (hne : 81 < gc) (hle : am_le (am_KD, gc, gs) (am_KD, gc, gs) E) (hk : la_K l ρ i gc gs B E Q) (h : q_IV B I J T) : AW l ρ 1001 M_L_law 466 (la_L i) [] (am_KD, gc, gs) (I, J, am_RT T) E Q := by
  obtain ⟨⟨h1, h2, h3, h4, h5⟩, e1, e2, e3, e4, e5⟩ := hi
  obtain ⟨w_r, w_Ip, w_I2p, ha, hb, iv⟩ := c_move (n := 300) (by decide) x1 x2 h
  refine op_aload_n (k := 1) dL_law_466 rfl rfl ?_
  refine op_aload_n (k := 0) dL_law_467 rfl rfl ?_
  refine op_iload (k := 4) dL_law_468 rfl ?_
  refine op_iconst (v := 1) dL_law_470 (by decide +kernel) ?_
  refine op_iadd dL_law_471 ?_
  refine op_saldv dL_law_472 h1 e1 ?_
  refine op_aload_n (k := 0) dL_law_473 rfl rfl ?_
  refine op_iload (k := 4) dL_law_474 rfl ?_
  refine op_iconst (v := 2) dL_law_476 (by decide +kernel) ?_
  refine op_iadd dL_law_477 ?_
  refine op_saldv dL_law_478 h2 e2 ?_
  refine op_callV (M' := M_X11_move) [.int x1, .int x2] (S0 := []) dL_law_479 tw_738 ok_X11_move tw_739 tw_740 kd_0 cls_11 rfl rfl rfl (Nat.le_of_ble_eq_true rfl) (Nat.le_of_ble_eq_true rfl) (t_X11_move (d := 1000) (by decide) ha) hle ?_
  rintro _ _ ⟨rfl, rfl⟩
  refine op_aload_n (k := 2) dL_law_482 rfl rfl ?_
  refine op_aload_n (k := 0) dL_law_483 rfl rfl ?_
  refine op_iload (k := 4) dL_law_484 rfl ?_
  refine op_iconst (v := 1) dL_law_486 (by decide +kernel) ?_
  refine op_iadd dL_law_487 ?_
  refine op_saldv dL_law_488 h1 e1 ?_
  refine op_aload_n (k := 0) dL_law_489 rfl rfl ?_
  refine op_iload (k := 4) dL_law_490 rfl ?_
  refine op_iconst (v := 2) dL_law_492 (by decide +kernel) ?_
  refine op_iadd dL_law_493 ?_
  refine op_saldv dL_law_494 h2 e2 ?_
  refine op_callV (M' := M_X12_move) [.int x1, .int x2] (S0 := [.int w_r]) dL_law_495 tw_1598 ok_X12_move tw_1599 tw_1600 kd_53 cls_12 rfl rfl rfl (Nat.le_of_ble_eq_true rfl) (Nat.le_of_ble_eq_true rfl) (t_X12_move (d := 1000) (by decide) hb) hle ?_
  rintro _ _ ⟨rfl, rfl⟩
  refine op_icmp_eq (tgt := 1281) dL_law_498 (by decide) (fun _ => hk.one hne _ _ _ iv.up) (fun z => absurd rfl z)
set_option maxHeartbeats 1000000 in
theorem la_dig (hB : B < 2 ^ 18) (hi : la_in ρ i x1 x2 x3 x4 x5) (hne : 81 < gc) (hle : am_le (am_KD, gc, gs) (am_KD, gc, gs) E) (hk : la_K l ρ i gc gs B E Q) (h : q_IV B I J T) : AW l ρ 1001 M_L_law 503 (la_L i) [] (am_KD, gc, gs) (I, J, am_RT T) E Q := by
  obtain ⟨⟨h1, h2, h3, h4, h5⟩, e1, e2, e3, e4, e5⟩ := hi
  obtain ⟨w_r, w_Ip, w_I2p, ha, hb, iv⟩ := c_dig (n := 300) (by decide) x1 x2 h
  refine op_aload_n (k := 1) dL_law_503 rfl rfl ?_
  refine op_aload_n (k := 0) dL_law_504 rfl rfl ?_
  refine op_iload (k := 4) dL_law_505 rfl ?_
  refine op_iconst (v := 1) dL_law_507 (by decide +kernel) ?_
  refine op_iadd dL_law_508 ?_
  refine op_saldv dL_law_509 h1 e1 ?_
  refine op_aload_n (k := 0) dL_law_510 rfl rfl ?_
  refine op_iload (k := 4) dL_law_511 rfl ?_
  refine op_iconst (v := 2) dL_law_513 (by decide +kernel) ?_
  refine op_iadd dL_law_514 ?_
  refine op_saldv dL_law_515 h2 e2 ?_
  refine op_callV (M' := M_X11_dig) [.int x1, .int x2] (S0 := []) dL_law_516 tw_746 ok_X11_dig tw_747 tw_748 kd_0 cls_11 rfl rfl rfl (Nat.le_of_ble_eq_true rfl) (Nat.le_of_ble_eq_true rfl) (t_X11_dig (d := 1000) (by decide) ha) hle ?_
  rintro _ _ ⟨rfl, rfl⟩
  refine op_aload_n (k := 2) dL_law_519 rfl rfl ?_
  refine op_aload_n (k := 0) dL_law_520 rfl rfl ?_
  refine op_iload (k := 4) dL_law_521 rfl ?_
  refine op_iconst (v := 1) dL_law_523 (by decide +kernel) ?_
  refine op_iadd dL_law_524 ?_
  refine op_saldv dL_law_525 h1 e1 ?_
  refine op_aload_n (k := 0) dL_law_526 rfl rfl ?_
  refine op_iload (k := 4) dL_law_527 rfl ?_
  refine op_iconst (v := 2) dL_law_529 (by decide +kernel) ?_
  refine op_iadd dL_law_530 ?_
  refine op_saldv dL_law_531 h2 e2 ?_
  refine op_callV (M' := M_X12_dig) [.int x1, .int x2] (S0 := [.int w_r]) dL_law_532 tw_1602 ok_X12_dig tw_1603 tw_1604 kd_53 cls_12 rfl rfl rfl (Nat.le_of_ble_eq_true rfl) (Nat.le_of_ble_eq_true rfl) (t_X12_dig (d := 1000) (by decide) hb) hle ?_
  rintro _ _ ⟨rfl, rfl⟩
  refine op_icmp_eq (tgt := 1281) dL_law_535 (by decide) (fun _ => hk.one hne _ _ _ iv.up) (fun z => absurd rfl z)
set_option maxHeartbeats 1000000 in
theorem la_feet (hB : B < 2 ^ 18) (hi : la_in ρ i x1 x2 x3 x4 x5) (hne : 81 < gc) (hle : am_le (am_KD, gc, gs) (am_KD, gc, gs) E) (hk : la_K l ρ i gc gs B E Q) (h : q_IV B I J T) : AW l ρ 1001 M_L_law 540 (la_L i) [] (am_KD, gc, gs) (I, J, am_RT T) E Q := by
  obtain ⟨⟨h1, h2, h3, h4, h5⟩, e1, e2, e3, e4, e5⟩ := hi
  obtain ⟨w_r, w_Ip, w_I2p, ha, hb, iv⟩ := c_feet (n := 300) (by decide) x1 h
  refine op_aload_n (k := 1) dL_law_540 rfl rfl ?_
  refine op_aload_n (k := 0) dL_law_541 rfl rfl ?_
  refine op_iload (k := 4) dL_law_542 rfl ?_
  refine op_iconst (v := 1) dL_law_544 (by decide +kernel) ?_
  refine op_iadd dL_law_545 ?_
  refine op_saldv dL_law_546 h1 e1 ?_
  refine op_callV (M' := M_X11_feet) [.int x1] (S0 := []) dL_law_547 tw_750 ok_X11_feet tw_751 tw_752 kd_0 cls_11 rfl rfl rfl (Nat.le_of_ble_eq_true rfl) (Nat.le_of_ble_eq_true rfl) (t_X11_feet (d := 1000) (by decide) ha) hle ?_
  rintro _ _ ⟨rfl, rfl⟩
  refine op_aload_n (k := 2) dL_law_550 rfl rfl ?_
  refine op_aload_n (k := 0) dL_law_551 rfl rfl ?_
  refine op_iload (k := 4) dL_law_552 rfl ?_
  refine op_iconst (v := 1) dL_law_554 (by decide +kernel) ?_
  refine op_iadd dL_law_555 ?_
  refine op_saldv dL_law_556 h1 e1 ?_
  refine op_callV (M' := M_X12_feet) [.int x1] (S0 := [.int w_r]) dL_law_557 tw_1607 ok_X12_feet tw_1608 tw_1609 kd_53 cls_12 rfl rfl rfl (Nat.le_of_ble_eq_true rfl) (Nat.le_of_ble_eq_true rfl) (t_X12_feet (d := 1000) (by decide) hb) hle ?_
  rintro _ _ ⟨rfl, rfl⟩
  refine op_icmp_eq (tgt := 1281) dL_law_560 (by decide) (fun _ => hk.one hne _ _ _ iv.up) (fun z => absurd rfl z)
set_option maxHeartbeats 1000000 in
theorem la_cost (hB : B < 2 ^ 18) (hi : la_in ρ i x1 x2 x3 x4 x5) (hne : 81 < gc) (hle : am_le (am_KD, gc, gs) (am_KD, gc, gs) E) (hk : la_K l ρ i gc gs B E Q) (h : q_IV B I J T) : AW l ρ 1001 M_L_law 565 (la_L i) [] (am_KD, gc, gs) (I, J, am_RT T) E Q := by
  obtain ⟨⟨h1, h2, h3, h4, h5⟩, e1, e2, e3, e4, e5⟩ := hi
  obtain ⟨w_r, ha, hb, iv⟩ := c_cost (n := 300) (by decide) x1 x2 h
  refine op_aload_n (k := 1) dL_law_565 rfl rfl ?_
  refine op_aload_n (k := 0) dL_law_566 rfl rfl ?_
  refine op_iload (k := 4) dL_law_567 rfl ?_
  refine op_iconst (v := 1) dL_law_569 (by decide +kernel) ?_
  refine op_iadd dL_law_570 ?_
  refine op_saldv dL_law_571 h1 e1 ?_
  refine op_aload_n (k := 0) dL_law_572 rfl rfl ?_
  refine op_iload (k := 4) dL_law_573 rfl ?_
  refine op_iconst (v := 2) dL_law_575 (by decide +kernel) ?_
  refine op_iadd dL_law_576 ?_
  refine op_saldv dL_law_577 h2 e2 ?_
  refine op_callV (M' := M_X11_cost) [.int x1, .int x2] (S0 := []) dL_law_578 tw_754 ok_X11_cost tw_755 tw_756 kd_0 cls_11 rfl rfl rfl (Nat.le_of_ble_eq_true rfl) (Nat.le_of_ble_eq_true rfl) (t_X11_cost (d := 1000) (by decide) ha) hle ?_
  rintro _ _ ⟨rfl, rfl⟩
  refine op_aload_n (k := 2) dL_law_581 rfl rfl ?_
  refine op_aload_n (k := 0) dL_law_582 rfl rfl ?_
  refine op_iload (k := 4) dL_law_583 rfl ?_
  refine op_iconst (v := 1) dL_law_585 (by decide +kernel) ?_
  refine op_iadd dL_law_586 ?_
  refine op_saldv dL_law_587 h1 e1 ?_
  refine op_aload_n (k := 0) dL_law_588 rfl rfl ?_
  refine op_iload (k := 4) dL_law_589 rfl ?_
  refine op_iconst (v := 2) dL_law_591 (by decide +kernel) ?_
  refine op_iadd dL_law_592 ?_
  refine op_saldv dL_law_593 h2 e2 ?_
  refine op_callV (M' := M_X12_cost) [.int x1, .int x2] (S0 := [.int w_r]) dL_law_594 tw_1611 ok_X12_cost tw_1612 tw_1613 kd_53 cls_12 rfl rfl rfl (Nat.le_of_ble_eq_true rfl) (Nat.le_of_ble_eq_true rfl) (t_X12_cost (d := 1000) (by decide) hb) hle ?_
  rintro _ _ ⟨rfl, rfl⟩
  refine op_icmp_eq (tgt := 1281) dL_law_597 (by decide) (fun _ => hk.one hne _ _ _ iv.up) (fun z => absurd rfl z)
set_option maxHeartbeats 1000000 in
theorem la_share (hB : B < 2 ^ 18) (hi : la_in ρ i x1 x2 x3 x4 x5) (hne : 81 < gc) (hle : am_le (am_KD, gc, gs) (am_KD, gc, gs) E) (hk : la_K l ρ i gc gs B E Q) (h : q_IV B I J T) : AW l ρ 1001 M_L_law 602 (la_L i) [] (am_KD, gc, gs) (I, J, am_RT T) E Q := by
  obtain ⟨⟨h1, h2, h3, h4, h5⟩, e1, e2, e3, e4, e5⟩ := hi
  obtain ⟨w_r, w_Ip, w_I2p, w_J2p, w_Tp, ha, hb, iv⟩ := c_share (n := 300) (by decide) x1 x2 x3 x4 h
  refine op_aload_n (k := 1) dL_law_602 rfl rfl ?_
  refine op_aload_n (k := 0) dL_law_603 rfl rfl ?_
  refine op_iload (k := 4) dL_law_604 rfl ?_
  refine op_iconst (v := 1) dL_law_606 (by decide +kernel) ?_
  refine op_iadd dL_law_607 ?_
  refine op_saldv dL_law_608 h1 e1 ?_
  refine op_aload_n (k := 0) dL_law_609 rfl rfl ?_
  refine op_iload (k := 4) dL_law_610 rfl ?_
  refine op_iconst (v := 2) dL_law_612 (by decide +kernel) ?_
  refine op_iadd dL_law_613 ?_
  refine op_saldv dL_law_614 h2 e2 ?_
  refine op_aload_n (k := 0) dL_law_615 rfl rfl ?_
  refine op_iload (k := 4) dL_law_616 rfl ?_
  refine op_iconst (v := 3) dL_law_618 (by decide +kernel) ?_
  refine op_iadd dL_law_619 ?_
  refine op_saldv dL_law_620 h3 e3 ?_
  refine op_aload_n (k := 0) dL_law_621 rfl rfl ?_
  refine op_iload (k := 4) dL_law_622 rfl ?_
  refine op_iconst (v := 4) dL_law_624 (by decide +kernel) ?_
  refine op_iadd dL_law_625 ?_
  refine op_saldv dL_law_626 h4 e4 ?_
  refine op_callV (M' := M_X11_share) [.int x1, .int x2, .int x3, .int x4] (S0 := []) dL_law_627 tw_786 ok_X11_share tw_787 tw_788 kd_0 cls_11 rfl rfl rfl (Nat.le_of_ble_eq_true rfl) (Nat.le_of_ble_eq_true rfl) (t_X11_share (d := 1000) (by decide) ha) hle ?_
  rintro _ _ ⟨rfl, rfl⟩
  refine op_aload_n (k := 2) dL_law_630 rfl rfl ?_
  refine op_aload_n (k := 0) dL_law_631 rfl rfl ?_
  refine op_iload (k := 4) dL_law_632 rfl ?_
  refine op_iconst (v := 1) dL_law_634 (by decide +kernel) ?_
  refine op_iadd dL_law_635 ?_
  refine op_saldv dL_law_636 h1 e1 ?_
  refine op_aload_n (k := 0) dL_law_637 rfl rfl ?_
  refine op_iload (k := 4) dL_law_638 rfl ?_
  refine op_iconst (v := 2) dL_law_640 (by decide +kernel) ?_
  refine op_iadd dL_law_641 ?_
  refine op_saldv dL_law_642 h2 e2 ?_
  refine op_aload_n (k := 0) dL_law_643 rfl rfl ?_
  refine op_iload (k := 4) dL_law_644 rfl ?_
  refine op_iconst (v := 3) dL_law_646 (by decide +kernel) ?_
  refine op_iadd dL_law_647 ?_
  refine op_saldv dL_law_648 h3 e3 ?_
  refine op_aload_n (k := 0) dL_law_649 rfl rfl ?_
  refine op_iload (k := 4) dL_law_650 rfl ?_
  refine op_iconst (v := 4) dL_law_652 (by decide +kernel) ?_
  refine op_iadd dL_law_653 ?_
  refine op_saldv dL_law_654 h4 e4 ?_
  refine op_callV (M' := M_X12_share) [.int x1, .int x2, .int x3, .int x4] (S0 := [.long w_r]) dL_law_655 tw_1624 ok_X12_share tw_1625 tw_1626 kd_53 cls_12 rfl rfl rfl (Nat.le_of_ble_eq_true rfl) (Nat.le_of_ble_eq_true rfl) (t_X12_share (d := 1000) (by decide) hb) hle ?_
  rintro _ _ ⟨rfl, rfl⟩
  refine op_lcmp dL_law_658 ?_
  refine op_if_eq (tgt := 1281) dL_law_659 (by decide) (fun _ => hk.one hne _ _ _ iv.up) (fun z => absurd (lg_self _) z)
set_option maxHeartbeats 1000000 in
theorem la_worse (hB : B < 2 ^ 18) (hi : la_in ρ i x1 x2 x3 x4 x5) (hne : 81 < gc) (hle : am_le (am_KD, gc, gs) (am_KD, gc, gs) E) (hk : la_K l ρ i gc gs B E Q) (h : q_IV B I J T) : AW l ρ 1001 M_L_law 664 (la_L i) [] (am_KD, gc, gs) (I, J, am_RT T) E Q := by
  obtain ⟨⟨h1, h2, h3, h4, h5⟩, e1, e2, e3, e4, e5⟩ := hi
  obtain ⟨w_r, w_Ip, w_I2p, w_J2p, w_Tp, ha, hb, iv⟩ := c_worse (n := 300) (by decide) x1 x2 h
  refine op_aload_n (k := 1) dL_law_664 rfl rfl ?_
  refine op_aload_n (k := 0) dL_law_665 rfl rfl ?_
  refine op_iload (k := 4) dL_law_666 rfl ?_
  refine op_iconst (v := 1) dL_law_668 (by decide +kernel) ?_
  refine op_iadd dL_law_669 ?_
  refine op_saldv dL_law_670 h1 e1 ?_
  refine op_aload_n (k := 0) dL_law_671 rfl rfl ?_
  refine op_iload (k := 4) dL_law_672 rfl ?_
  refine op_iconst (v := 2) dL_law_674 (by decide +kernel) ?_
  refine op_iadd dL_law_675 ?_
  refine op_saldv dL_law_676 h2 e2 ?_
  refine op_callV (M' := M_X11_worse) [.int x1, .int x2] (S0 := []) dL_law_677 tw_901 ok_X11_worse tw_902 tw_903 kd_0 cls_11 rfl rfl rfl (Nat.le_of_ble_eq_true rfl) (Nat.le_of_ble_eq_true rfl) (t_X11_worse (d := 1000) (by decide) ha) hle ?_
  rintro _ _ ⟨rfl, rfl⟩
  refine op_aload_n (k := 2) dL_law_680 rfl rfl ?_
  refine op_aload_n (k := 0) dL_law_681 rfl rfl ?_
  refine op_iload (k := 4) dL_law_682 rfl ?_
  refine op_iconst (v := 1) dL_law_684 (by decide +kernel) ?_
  refine op_iadd dL_law_685 ?_
  refine op_saldv dL_law_686 h1 e1 ?_
  refine op_aload_n (k := 0) dL_law_687 rfl rfl ?_
  refine op_iload (k := 4) dL_law_688 rfl ?_
  refine op_iconst (v := 2) dL_law_690 (by decide +kernel) ?_
  refine op_iadd dL_law_691 ?_
  refine op_saldv dL_law_692 h2 e2 ?_
  refine op_callV (M' := M_X12_worse) [.int x1, .int x2] (S0 := [.int w_r]) dL_law_693 tw_1666 ok_X12_worse tw_1667 tw_1668 kd_53 cls_12 rfl rfl rfl (Nat.le_of_ble_eq_true rfl) (Nat.le_of_ble_eq_true rfl) (t_X12_worse (d := 1000) (by decide) hb) hle ?_
  rintro _ _ ⟨rfl, rfl⟩
  refine op_icmp_eq (tgt := 1281) dL_law_696 (by decide) (fun _ => hk.one hne _ _ _ iv.up) (fun z => absurd rfl z)
set_option maxHeartbeats 1000000 in
theorem la_complaint (hB : B < 2 ^ 18) (hi : la_in ρ i x1 x2 x3 x4 x5) (hne : 81 < gc) (hle : am_le (am_KD, gc, gs) (am_KD, gc, gs) E) (hk : la_K l ρ i gc gs B E Q) (h : q_IV B I J T) : AW l ρ 1001 M_L_law 701 (la_L i) [] (am_KD, gc, gs) (I, J, am_RT T) E Q := by
  obtain ⟨⟨h1, h2, h3, h4, h5⟩, e1, e2, e3, e4, e5⟩ := hi
  obtain ⟨w_r, w_Ip, w_I2p, w_J2p, w_Tp, ha, hb, iv⟩ := c_complaint (n := 300) (by decide) x1 x2 h
  refine op_aload_n (k := 1) dL_law_701 rfl rfl ?_
  refine op_aload_n (k := 0) dL_law_702 rfl rfl ?_
  refine op_iload (k := 4) dL_law_703 rfl ?_
  refine op_iconst (v := 1) dL_law_705 (by decide +kernel) ?_
  refine op_iadd dL_law_706 ?_
  refine op_saldv dL_law_707 h1 e1 ?_
  refine op_aload_n (k := 0) dL_law_708 rfl rfl ?_
  refine op_iload (k := 4) dL_law_709 rfl ?_
  refine op_iconst (v := 2) dL_law_711 (by decide +kernel) ?_
  refine op_iadd dL_law_712 ?_
  refine op_saldv dL_law_713 h2 e2 ?_
  refine op_callV (M' := M_X11_complaint) [.int x1, .int x2] (S0 := []) dL_law_714 tw_912 ok_X11_complaint tw_913 tw_914 kd_0 cls_11 rfl rfl rfl (Nat.le_of_ble_eq_true rfl) (Nat.le_of_ble_eq_true rfl) (t_X11_complaint (d := 1000) (by decide) ha) hle ?_
  rintro _ _ ⟨rfl, rfl⟩
  refine op_aload_n (k := 2) dL_law_717 rfl rfl ?_
  refine op_aload_n (k := 0) dL_law_718 rfl rfl ?_
  refine op_iload (k := 4) dL_law_719 rfl ?_
  refine op_iconst (v := 1) dL_law_721 (by decide +kernel) ?_
  refine op_iadd dL_law_722 ?_
  refine op_saldv dL_law_723 h1 e1 ?_
  refine op_aload_n (k := 0) dL_law_724 rfl rfl ?_
  refine op_iload (k := 4) dL_law_725 rfl ?_
  refine op_iconst (v := 2) dL_law_727 (by decide +kernel) ?_
  refine op_iadd dL_law_728 ?_
  refine op_saldv dL_law_729 h2 e2 ?_
  refine op_callV (M' := M_X12_complaint) [.int x1, .int x2] (S0 := [.long w_r]) dL_law_730 tw_1678 ok_X12_complaint tw_1679 tw_1680 kd_53 cls_12 rfl rfl rfl (Nat.le_of_ble_eq_true rfl) (Nat.le_of_ble_eq_true rfl) (t_X12_complaint (d := 1000) (by decide) hb) hle ?_
  rintro _ _ ⟨rfl, rfl⟩
  refine op_lcmp dL_law_733 ?_
  refine op_if_eq (tgt := 1281) dL_law_734 (by decide) (fun _ => hk.one hne _ _ _ iv.up) (fun z => absurd (lg_self _) z)
set_option maxHeartbeats 1000000 in
theorem la_order (hB : B < 2 ^ 18) (hi : la_in ρ i x1 x2 x3 x4 x5) (hne : 81 < gc) (hle : am_le (am_KD, gc, gs) (am_KD, gc, gs) E) (hk : la_K l ρ i gc gs B E Q) (h : q_IV B I J T) : AW l ρ 1001 M_L_law 739 (la_L i) [] (am_KD, gc, gs) (I, J, am_RT T) E Q := by
  obtain ⟨⟨h1, h2, h3, h4, h5⟩, e1, e2, e3, e4, e5⟩ := hi
  obtain ⟨w_r, w_Ip, w_I2p, ha, hb, iv⟩ := c_order (n := 300) (by decide) x1 x2 x3 h
  refine op_aload_n (k := 1) dL_law_739 rfl rfl ?_
  refine op_aload_n (k := 0) dL_law_740 rfl rfl ?_
  refine op_iload (k := 4) dL_law_741 rfl ?_
  refine op_iconst (v := 1) dL_law_743 (by decide +kernel) ?_
  refine op_iadd dL_law_744 ?_
  refine op_saldv dL_law_745 h1 e1 ?_
  refine op_aload_n (k := 0) dL_law_746 rfl rfl ?_
  refine op_iload (k := 4) dL_law_747 rfl ?_
  refine op_iconst (v := 2) dL_law_749 (by decide +kernel) ?_
  refine op_iadd dL_law_750 ?_
  refine op_saldv dL_law_751 h2 e2 ?_
  refine op_aload_n (k := 0) dL_law_752 rfl rfl ?_
  refine op_iload (k := 4) dL_law_753 rfl ?_
  refine op_iconst (v := 3) dL_law_755 (by decide +kernel) ?_
  refine op_iadd dL_law_756 ?_
  refine op_saldv dL_law_757 h3 e3 ?_
  refine op_callV (M' := M_X11_order) [.int x1, .int x2, .int x3] (S0 := []) dL_law_758 tw_916 ok_X11_order tw_917 tw_918 kd_0 cls_11 rfl rfl rfl (Nat.le_of_ble_eq_true rfl) (Nat.le_of_ble_eq_true rfl) (t_X11_order (d := 1000) (by decide) ha) hle ?_
  rintro _ _ ⟨rfl, rfl⟩
  refine op_aload_n (k := 2) dL_law_761 rfl rfl ?_
  refine op_aload_n (k := 0) dL_law_762 rfl rfl ?_
  refine op_iload (k := 4) dL_law_763 rfl ?_
  refine op_iconst (v := 1) dL_law_765 (by decide +kernel) ?_
  refine op_iadd dL_law_766 ?_
  refine op_saldv dL_law_767 h1 e1 ?_
  refine op_aload_n (k := 0) dL_law_768 rfl rfl ?_
  refine op_iload (k := 4) dL_law_769 rfl ?_
  refine op_iconst (v := 2) dL_law_771 (by decide +kernel) ?_
  refine op_iadd dL_law_772 ?_
  refine op_saldv dL_law_773 h2 e2 ?_
  refine op_aload_n (k := 0) dL_law_774 rfl rfl ?_
  refine op_iload (k := 4) dL_law_775 rfl ?_
  refine op_iconst (v := 3) dL_law_777 (by decide +kernel) ?_
  refine op_iadd dL_law_778 ?_
  refine op_saldv dL_law_779 h3 e3 ?_
  refine op_callV (M' := M_X12_order) [.int x1, .int x2, .int x3] (S0 := [.int w_r]) dL_law_780 tw_1682 ok_X12_order tw_1683 tw_1684 kd_53 cls_12 rfl rfl rfl (Nat.le_of_ble_eq_true rfl) (Nat.le_of_ble_eq_true rfl) (t_X12_order (d := 1000) (by decide) hb) hle ?_
  rintro _ _ ⟨rfl, rfl⟩
  refine op_icmp_eq (tgt := 1281) dL_law_783 (by decide) (fun _ => hk.one hne _ _ _ iv.up) (fun z => absurd rfl z)
set_option maxHeartbeats 1000000 in
theorem la_ride (hB : B < 2 ^ 18) (hi : la_in ρ i x1 x2 x3 x4 x5) (hne : 81 < gc) (hle : am_le (am_KD, gc, gs) (am_KD, gc, gs) E) (hk : la_K l ρ i gc gs B E Q) (h : q_IV B I J T) : AW l ρ 1001 M_L_law 788 (la_L i) [] (am_KD, gc, gs) (I, J, am_RT T) E Q := by
  obtain ⟨⟨h1, h2, h3, h4, h5⟩, e1, e2, e3, e4, e5⟩ := hi
  obtain ⟨w_r, w_I2p, ha, hb, iv⟩ := c_ride (n := 300) (by decide) x1 x2 x3 h
  refine op_aload_n (k := 1) dL_law_788 rfl rfl ?_
  refine op_aload_n (k := 0) dL_law_789 rfl rfl ?_
  refine op_iload (k := 4) dL_law_790 rfl ?_
  refine op_iconst (v := 1) dL_law_792 (by decide +kernel) ?_
  refine op_iadd dL_law_793 ?_
  refine op_saldv dL_law_794 h1 e1 ?_
  refine op_aload_n (k := 0) dL_law_795 rfl rfl ?_
  refine op_iload (k := 4) dL_law_796 rfl ?_
  refine op_iconst (v := 2) dL_law_798 (by decide +kernel) ?_
  refine op_iadd dL_law_799 ?_
  refine op_saldv dL_law_800 h2 e2 ?_
  refine op_aload_n (k := 0) dL_law_801 rfl rfl ?_
  refine op_iload (k := 4) dL_law_802 rfl ?_
  refine op_iconst (v := 3) dL_law_804 (by decide +kernel) ?_
  refine op_iadd dL_law_805 ?_
  refine op_saldv dL_law_806 h3 e3 ?_
  refine op_callV (M' := M_X11_ride) [.int x1, .int x2, .int x3] (S0 := []) dL_law_807 tw_935 ok_X11_ride tw_936 tw_937 kd_0 cls_11 rfl rfl rfl (Nat.le_of_ble_eq_true rfl) (Nat.le_of_ble_eq_true rfl) (t_X11_ride (d := 1000) (by decide) ha) hle ?_
  rintro _ _ ⟨rfl, rfl⟩
  refine op_aload_n (k := 2) dL_law_810 rfl rfl ?_
  refine op_aload_n (k := 0) dL_law_811 rfl rfl ?_
  refine op_iload (k := 4) dL_law_812 rfl ?_
  refine op_iconst (v := 1) dL_law_814 (by decide +kernel) ?_
  refine op_iadd dL_law_815 ?_
  refine op_saldv dL_law_816 h1 e1 ?_
  refine op_aload_n (k := 0) dL_law_817 rfl rfl ?_
  refine op_iload (k := 4) dL_law_818 rfl ?_
  refine op_iconst (v := 2) dL_law_820 (by decide +kernel) ?_
  refine op_iadd dL_law_821 ?_
  refine op_saldv dL_law_822 h2 e2 ?_
  refine op_aload_n (k := 0) dL_law_823 rfl rfl ?_
  refine op_iload (k := 4) dL_law_824 rfl ?_
  refine op_iconst (v := 3) dL_law_826 (by decide +kernel) ?_
  refine op_iadd dL_law_827 ?_
  refine op_saldv dL_law_828 h3 e3 ?_
  refine op_callV (M' := M_X12_ride) [.int x1, .int x2, .int x3] (S0 := [.int w_r]) dL_law_829 tw_1694 ok_X12_ride tw_1695 tw_1696 kd_53 cls_12 rfl rfl rfl (Nat.le_of_ble_eq_true rfl) (Nat.le_of_ble_eq_true rfl) (t_X12_ride (d := 1000) (by decide) hb) hle ?_
  rintro _ _ ⟨rfl, rfl⟩
  refine op_icmp_eq (tgt := 1281) dL_law_832 (by decide) (fun _ => hk.one hne _ _ _ iv.up) (fun z => absurd rfl z)
set_option maxHeartbeats 1000000 in
theorem la_coaches (hB : B < 2 ^ 18) (hi : la_in ρ i x1 x2 x3 x4 x5) (hne : 81 < gc) (hle : am_le (am_KD, gc, gs) (am_KD, gc, gs) E) (hk : la_K l ρ i gc gs B E Q) (h : q_IV B I J T) : AW l ρ 1001 M_L_law 837 (la_L i) [] (am_KD, gc, gs) (I, J, am_RT T) E Q := by
  obtain ⟨⟨h1, h2, h3, h4, h5⟩, e1, e2, e3, e4, e5⟩ := hi
  obtain ⟨w_r, w_Ip, w_I2p, w_J2p, w_Tp, ha, hb, iv⟩ := c_coaches (n := 300) (by decide) x1 h
  refine op_aload_n (k := 1) dL_law_837 rfl rfl ?_
  refine op_aload_n (k := 0) dL_law_838 rfl rfl ?_
  refine op_iload (k := 4) dL_law_839 rfl ?_
  refine op_iconst (v := 1) dL_law_841 (by decide +kernel) ?_
  refine op_iadd dL_law_842 ?_
  refine op_saldv dL_law_843 h1 e1 ?_
  refine op_callV (M' := M_X11_coaches) [.int x1] (S0 := []) dL_law_844 tw_944 ok_X11_coaches tw_945 tw_946 kd_0 cls_11 rfl rfl rfl (Nat.le_of_ble_eq_true rfl) (Nat.le_of_ble_eq_true rfl) (t_X11_coaches (d := 1000) (by decide) ha) hle ?_
  rintro _ _ ⟨rfl, rfl⟩
  refine op_aload_n (k := 2) dL_law_847 rfl rfl ?_
  refine op_aload_n (k := 0) dL_law_848 rfl rfl ?_
  refine op_iload (k := 4) dL_law_849 rfl ?_
  refine op_iconst (v := 1) dL_law_851 (by decide +kernel) ?_
  refine op_iadd dL_law_852 ?_
  refine op_saldv dL_law_853 h1 e1 ?_
  refine op_callV (M' := M_X12_coaches) [.int x1] (S0 := [.int w_r]) dL_law_854 tw_1698 ok_X12_coaches tw_1699 tw_1700 kd_53 cls_12 rfl rfl rfl (Nat.le_of_ble_eq_true rfl) (Nat.le_of_ble_eq_true rfl) (t_X12_coaches (d := 1000) (by decide) hb) hle ?_
  rintro _ _ ⟨rfl, rfl⟩
  refine op_icmp_eq (tgt := 1281) dL_law_857 (by decide) (fun _ => hk.one hne _ _ _ iv.up) (fun z => absurd rfl z)
set_option maxHeartbeats 1000000 in
theorem la_steady (hB : B < 2 ^ 18) (hi : la_in ρ i x1 x2 x3 x4 x5) (hne : 81 < gc) (hle : am_le (am_KD, gc, gs) (am_KD, gc, gs) E) (hk : la_K l ρ i gc gs B E Q) (h : q_IV B I J T) : AW l ρ 1001 M_L_law 862 (la_L i) [] (am_KD, gc, gs) (I, J, am_RT T) E Q := by
  obtain ⟨⟨h1, h2, h3, h4, h5⟩, e1, e2, e3, e4, e5⟩ := hi
  obtain ⟨w_r, w_Ip, w_Jp, w_I2p, w_J2p, w_Tp, ha, hb, iv⟩ := c_steady (n := 300) (by decide) x1 x2 h
  refine op_aload_n (k := 1) dL_law_862 rfl rfl ?_
  refine op_aload_n (k := 0) dL_law_863 rfl rfl ?_
  refine op_iload (k := 4) dL_law_864 rfl ?_
  refine op_iconst (v := 1) dL_law_866 (by decide +kernel) ?_
  refine op_iadd dL_law_867 ?_
  refine op_saldv dL_law_868 h1 e1 ?_
  refine op_aload_n (k := 0) dL_law_869 rfl rfl ?_
  refine op_iload (k := 4) dL_law_870 rfl ?_
  refine op_iconst (v := 2) dL_law_872 (by decide +kernel) ?_
  refine op_iadd dL_law_873 ?_
  refine op_saldv dL_law_874 h2 e2 ?_
  refine op_callV (M' := M_X11_steady) [.int x1, .int x2] (S0 := []) dL_law_875 tw_978 ok_X11_steady tw_979 tw_980 kd_0 cls_11 rfl rfl rfl (Nat.le_of_ble_eq_true rfl) (Nat.le_of_ble_eq_true rfl) (t_X11_steady (d := 1000) (by decide) ha) hle ?_
  rintro _ _ ⟨rfl, rfl⟩
  refine op_aload_n (k := 2) dL_law_878 rfl rfl ?_
  refine op_aload_n (k := 0) dL_law_879 rfl rfl ?_
  refine op_iload (k := 4) dL_law_880 rfl ?_
  refine op_iconst (v := 1) dL_law_882 (by decide +kernel) ?_
  refine op_iadd dL_law_883 ?_
  refine op_saldv dL_law_884 h1 e1 ?_
  refine op_aload_n (k := 0) dL_law_885 rfl rfl ?_
  refine op_iload (k := 4) dL_law_886 rfl ?_
  refine op_iconst (v := 2) dL_law_888 (by decide +kernel) ?_
  refine op_iadd dL_law_889 ?_
  refine op_saldv dL_law_890 h2 e2 ?_
  refine op_callV (M' := M_X12_steady) [.int x1, .int x2] (S0 := [.int w_r]) dL_law_891 tw_1730 ok_X12_steady tw_1731 tw_1732 kd_53 cls_12 rfl rfl rfl (Nat.le_of_ble_eq_true rfl) (Nat.le_of_ble_eq_true rfl) (t_X12_steady (d := 1000) (by decide) hb) hle ?_
  rintro _ _ ⟨rfl, rfl⟩
  refine op_icmp_eq (tgt := 1281) dL_law_894 (by decide) (fun _ => hk.one hne _ _ _ iv.up) (fun z => absurd rfl z)
set_option maxHeartbeats 1000000 in
theorem la_left (hB : B < 2 ^ 18) (hi : la_in ρ i x1 x2 x3 x4 x5) (hne : 81 < gc) (hle : am_le (am_KD, gc, gs) (am_KD, gc, gs) E) (hk : la_K l ρ i gc gs B E Q) (h : q_IV B I J T) : AW l ρ 1001 M_L_law 899 (la_L i) [] (am_KD, gc, gs) (I, J, am_RT T) E Q := by
  obtain ⟨⟨h1, h2, h3, h4, h5⟩, e1, e2, e3, e4, e5⟩ := hi
  obtain ⟨w_r, w_Ip, w_I2p, w_J2p, w_Tp, ha, hb, iv⟩ := c_left (n := 300) (by decide) x1 h
  refine op_aload_n (k := 1) dL_law_899 rfl rfl ?_
  refine op_aload_n (k := 0) dL_law_900 rfl rfl ?_
  refine op_iload (k := 4) dL_law_901 rfl ?_
  refine op_iconst (v := 1) dL_law_903 (by decide +kernel) ?_
  refine op_iadd dL_law_904 ?_
  refine op_saldv dL_law_905 h1 e1 ?_
  refine op_callV (M' := M_X11_left) [.int x1] (S0 := []) dL_law_906 tw_993 ok_X11_left tw_994 tw_995 kd_0 cls_11 rfl rfl rfl (Nat.le_of_ble_eq_true rfl) (Nat.le_of_ble_eq_true rfl) (t_X11_left (d := 1000) (by decide) ha) hle ?_
  rintro _ _ ⟨rfl, rfl⟩
  refine op_aload_n (k := 2) dL_law_909 rfl rfl ?_
  refine op_aload_n (k := 0) dL_law_910 rfl rfl ?_
  refine op_iload (k := 4) dL_law_911 rfl ?_
  refine op_iconst (v := 1) dL_law_913 (by decide +kernel) ?_
  refine op_iadd dL_law_914 ?_
  refine op_saldv dL_law_915 h1 e1 ?_
  refine op_callV (M' := M_X12_left) [.int x1] (S0 := [.int w_r]) dL_law_916 tw_1734 ok_X12_left tw_1735 tw_1736 kd_53 cls_12 rfl rfl rfl (Nat.le_of_ble_eq_true rfl) (Nat.le_of_ble_eq_true rfl) (t_X12_left (d := 1000) (by decide) hb) hle ?_
  rintro _ _ ⟨rfl, rfl⟩
  refine op_icmp_eq (tgt := 1281) dL_law_919 (by decide) (fun _ => hk.one hne _ _ _ iv.up) (fun z => absurd rfl z)
set_option maxHeartbeats 1000000 in
theorem la_lie (hB : B < 2 ^ 18) (hi : la_in ρ i x1 x2 x3 x4 x5) (hne : 81 < gc) (hle : am_le (am_KD, gc, gs) (am_KD, gc, gs) E) (hk : la_K l ρ i gc gs B E Q) (h : q_IV B I J T) : AW l ρ 1001 M_L_law 924 (la_L i) [] (am_KD, gc, gs) (I, J, am_RT T) E Q := by
  obtain ⟨⟨h1, h2, h3, h4, h5⟩, e1, e2, e3, e4, e5⟩ := hi
  obtain ⟨w_r, w_Ip, w_Jp, w_I2p, w_J2p, w_Tp, ha, hb, iv⟩ := c_lie (n := 300) (by decide) x1 x2 x3 h
  refine op_aload_n (k := 1) dL_law_924 rfl rfl ?_
  refine op_aload_n (k := 0) dL_law_925 rfl rfl ?_
  refine op_iload (k := 4) dL_law_926 rfl ?_
  refine op_iconst (v := 1) dL_law_928 (by decide +kernel) ?_
  refine op_iadd dL_law_929 ?_
  refine op_saldv dL_law_930 h1 e1 ?_
  refine op_aload_n (k := 0) dL_law_931 rfl rfl ?_
  refine op_iload (k := 4) dL_law_932 rfl ?_
  refine op_iconst (v := 2) dL_law_934 (by decide +kernel) ?_
  refine op_iadd dL_law_935 ?_
  refine op_saldv dL_law_936 h2 e2 ?_
  refine op_aload_n (k := 0) dL_law_937 rfl rfl ?_
  refine op_iload (k := 4) dL_law_938 rfl ?_
  refine op_iconst (v := 3) dL_law_940 (by decide +kernel) ?_
  refine op_iadd dL_law_941 ?_
  refine op_saldv dL_law_942 h3 e3 ?_
  refine op_callV (M' := M_X11_lie) [.int x1, .int x2, .int x3] (S0 := []) dL_law_943 tw_1001 ok_X11_lie tw_1002 tw_1003 kd_0 cls_11 rfl rfl rfl (Nat.le_of_ble_eq_true rfl) (Nat.le_of_ble_eq_true rfl) (t_X11_lie (d := 1000) (by decide) ha) hle ?_
  rintro _ _ ⟨rfl, rfl⟩
  refine op_aload_n (k := 2) dL_law_946 rfl rfl ?_
  refine op_aload_n (k := 0) dL_law_947 rfl rfl ?_
  refine op_iload (k := 4) dL_law_948 rfl ?_
  refine op_iconst (v := 1) dL_law_950 (by decide +kernel) ?_
  refine op_iadd dL_law_951 ?_
  refine op_saldv dL_law_952 h1 e1 ?_
  refine op_aload_n (k := 0) dL_law_953 rfl rfl ?_
  refine op_iload (k := 4) dL_law_954 rfl ?_
  refine op_iconst (v := 2) dL_law_956 (by decide +kernel) ?_
  refine op_iadd dL_law_957 ?_
  refine op_saldv dL_law_958 h2 e2 ?_
  refine op_aload_n (k := 0) dL_law_959 rfl rfl ?_
  refine op_iload (k := 4) dL_law_960 rfl ?_
  refine op_iconst (v := 3) dL_law_962 (by decide +kernel) ?_
  refine op_iadd dL_law_963 ?_
  refine op_saldv dL_law_964 h3 e3 ?_
  refine op_callV (M' := M_X12_lie) [.int x1, .int x2, .int x3] (S0 := [.long w_r]) dL_law_965 tw_1738 ok_X12_lie tw_1739 tw_1740 kd_53 cls_12 rfl rfl rfl (Nat.le_of_ble_eq_true rfl) (Nat.le_of_ble_eq_true rfl) (t_X12_lie (d := 1000) (by decide) hb) hle ?_
  rintro _ _ ⟨rfl, rfl⟩
  refine op_lcmp dL_law_968 ?_
  refine op_if_eq (tgt := 1281) dL_law_969 (by decide) (fun _ => hk.one hne _ _ _ iv.up) (fun z => absurd (lg_self _) z)
set_option maxHeartbeats 1000000 in
theorem la_bridge (hB : B < 2 ^ 18) (hi : la_in ρ i x1 x2 x3 x4 x5) (hne : 81 < gc) (hle : am_le (am_KD, gc, gs) (am_KD, gc, gs) E) (hk : la_K l ρ i gc gs B E Q) (h : q_IV B I J T) : AW l ρ 1001 M_L_law 974 (la_L i) [] (am_KD, gc, gs) (I, J, am_RT T) E Q := by
  obtain ⟨⟨h1, h2, h3, h4, h5⟩, e1, e2, e3, e4, e5⟩ := hi
  obtain ⟨w_r, ha, hb, iv⟩ := c_bridge (n := 300) (by decide) x1 h
  refine op_aload_n (k := 1) dL_law_974 rfl rfl ?_
  refine op_aload_n (k := 0) dL_law_975 rfl rfl ?_
  refine op_iload (k := 4) dL_law_976 rfl ?_
  refine op_iconst (v := 1) dL_law_978 (by decide +kernel) ?_
  refine op_iadd dL_law_979 ?_
  refine op_saldv dL_law_980 h1 e1 ?_
  refine op_callV (M' := M_X11_bridge) [.int x1] (S0 := []) dL_law_981 tw_1026 ok_X11_bridge tw_1027 tw_1028 kd_0 cls_11 rfl rfl rfl (Nat.le_of_ble_eq_true rfl) (Nat.le_of_ble_eq_true rfl) (t_X11_bridge (d := 1000) (by decide) ha) hle ?_
  rintro _ _ ⟨rfl, rfl⟩
  refine op_aload_n (k := 2) dL_law_984 rfl rfl ?_
  refine op_aload_n (k := 0) dL_law_985 rfl rfl ?_
  refine op_iload (k := 4) dL_law_986 rfl ?_
  refine op_iconst (v := 1) dL_law_988 (by decide +kernel) ?_
  refine op_iadd dL_law_989 ?_
  refine op_saldv dL_law_990 h1 e1 ?_
  refine op_callV (M' := M_X12_bridge) [.int x1] (S0 := [.int w_r]) dL_law_991 tw_1742 ok_X12_bridge tw_1743 tw_1744 kd_53 cls_12 rfl rfl rfl (Nat.le_of_ble_eq_true rfl) (Nat.le_of_ble_eq_true rfl) (t_X12_bridge (d := 1000) (by decide) hb) hle ?_
  rintro _ _ ⟨rfl, rfl⟩
  refine op_icmp_eq (tgt := 1281) dL_law_994 (by decide) (fun _ => hk.one hne _ _ _ iv.up) (fun z => absurd rfl z)
set_option maxHeartbeats 1000000 in
theorem la_see (hB : B < 2 ^ 18) (hi : la_in ρ i x1 x2 x3 x4 x5) (hne : 81 < gc) (hle : am_le (am_KD, gc, gs) (am_KD, gc, gs) E) (hk : la_K l ρ i gc gs B E Q) (h : q_IV B I J T) : AW l ρ 1001 M_L_law 999 (la_L i) [] (am_KD, gc, gs) (I, J, am_RT T) E Q := by
  obtain ⟨⟨h1, h2, h3, h4, h5⟩, e1, e2, e3, e4, e5⟩ := hi
  obtain ⟨w_r, w_Ip, w_I2p, ha, hb, iv⟩ := c_see (n := 300) (by decide) x1 x2 x3 h
  refine op_aload_n (k := 1) dL_law_999 rfl rfl ?_
  refine op_aload_n (k := 0) dL_law_1000 rfl rfl ?_
  refine op_iload (k := 4) dL_law_1001 rfl ?_
  refine op_iconst (v := 1) dL_law_1003 (by decide +kernel) ?_
  refine op_iadd dL_law_1004 ?_
  refine op_saldv dL_law_1005 h1 e1 ?_
  refine op_aload_n (k := 0) dL_law_1006 rfl rfl ?_
  refine op_iload (k := 4) dL_law_1007 rfl ?_
  refine op_iconst (v := 2) dL_law_1009 (by decide +kernel) ?_
  refine op_iadd dL_law_1010 ?_
  refine op_saldv dL_law_1011 h2 e2 ?_
  refine op_aload_n (k := 0) dL_law_1012 rfl rfl ?_
  refine op_iload (k := 4) dL_law_1013 rfl ?_
  refine op_iconst (v := 3) dL_law_1015 (by decide +kernel) ?_
  refine op_iadd dL_law_1016 ?_
  refine op_saldv dL_law_1017 h3 e3 ?_
  refine op_callV (M' := M_X11_see) [.int x1, .int x2, .int x3] (S0 := []) dL_law_1018 tw_1034 ok_X11_see tw_1035 tw_1036 kd_0 cls_11 rfl rfl rfl (Nat.le_of_ble_eq_true rfl) (Nat.le_of_ble_eq_true rfl) (t_X11_see (d := 1000) (by decide) ha) hle ?_
  rintro _ _ ⟨rfl, rfl⟩
  refine op_aload_n (k := 2) dL_law_1021 rfl rfl ?_
  refine op_aload_n (k := 0) dL_law_1022 rfl rfl ?_
  refine op_iload (k := 4) dL_law_1023 rfl ?_
  refine op_iconst (v := 1) dL_law_1025 (by decide +kernel) ?_
  refine op_iadd dL_law_1026 ?_
  refine op_saldv dL_law_1027 h1 e1 ?_
  refine op_aload_n (k := 0) dL_law_1028 rfl rfl ?_
  refine op_iload (k := 4) dL_law_1029 rfl ?_
  refine op_iconst (v := 2) dL_law_1031 (by decide +kernel) ?_
  refine op_iadd dL_law_1032 ?_
  refine op_saldv dL_law_1033 h2 e2 ?_
  refine op_aload_n (k := 0) dL_law_1034 rfl rfl ?_
  refine op_iload (k := 4) dL_law_1035 rfl ?_
  refine op_iconst (v := 3) dL_law_1037 (by decide +kernel) ?_
  refine op_iadd dL_law_1038 ?_
  refine op_saldv dL_law_1039 h3 e3 ?_
  refine op_callV (M' := M_X12_see) [.int x1, .int x2, .int x3] (S0 := [.int w_r]) dL_law_1040 tw_1746 ok_X12_see tw_1747 tw_1748 kd_53 cls_12 rfl rfl rfl (Nat.le_of_ble_eq_true rfl) (Nat.le_of_ble_eq_true rfl) (t_X12_see (d := 1000) (by decide) hb) hle ?_
  rintro _ _ ⟨rfl, rfl⟩
  refine op_icmp_eq (tgt := 1281) dL_law_1043 (by decide) (fun _ => hk.one hne _ _ _ iv.up) (fun z => absurd rfl z)
set_option maxHeartbeats 1000000 in
theorem la_fits (hB : B < 2 ^ 18) (hi : la_in ρ i x1 x2 x3 x4 x5) (hne : 81 < gc) (hle : am_le (am_KD, gc, gs) (am_KD, gc, gs) E) (hk : la_K l ρ i gc gs B E Q) (h : q_IV B I J T) : AW l ρ 1001 M_L_law 1048 (la_L i) [] (am_KD, gc, gs) (I, J, am_RT T) E Q := by
  obtain ⟨⟨h1, h2, h3, h4, h5⟩, e1, e2, e3, e4, e5⟩ := hi
  obtain ⟨w_r, w_Ip, w_I2p, w_J2p, w_Tp, ha, hb, iv⟩ := c_fits (n := 300) (by decide) x1 h
  refine op_aload_n (k := 1) dL_law_1048 rfl rfl ?_
  refine op_aload_n (k := 0) dL_law_1049 rfl rfl ?_
  refine op_iload (k := 4) dL_law_1050 rfl ?_
  refine op_iconst (v := 1) dL_law_1052 (by decide +kernel) ?_
  refine op_iadd dL_law_1053 ?_
  refine op_saldv dL_law_1054 h1 e1 ?_
  refine op_callV (M' := M_X11_fits) [.int x1] (S0 := []) dL_law_1055 tw_1043 ok_X11_fits tw_1044 tw_1045 kd_0 cls_11 rfl rfl rfl (Nat.le_of_ble_eq_true rfl) (Nat.le_of_ble_eq_true rfl) (t_X11_fits (d := 1000) (by decide) ha) hle ?_
  rintro _ _ ⟨rfl, rfl⟩
  refine op_aload_n (k := 2) dL_law_1058 rfl rfl ?_
  refine op_aload_n (k := 0) dL_law_1059 rfl rfl ?_
  refine op_iload (k := 4) dL_law_1060 rfl ?_
  refine op_iconst (v := 1) dL_law_1062 (by decide +kernel) ?_
  refine op_iadd dL_law_1063 ?_
  refine op_saldv dL_law_1064 h1 e1 ?_
  refine op_callV (M' := M_X12_fits) [.int x1] (S0 := [.int w_r]) dL_law_1065 tw_1752 ok_X12_fits tw_1753 tw_1754 kd_53 cls_12 rfl rfl rfl (Nat.le_of_ble_eq_true rfl) (Nat.le_of_ble_eq_true rfl) (t_X12_fits (d := 1000) (by decide) hb) hle ?_
  rintro _ _ ⟨rfl, rfl⟩
  refine op_icmp_eq (tgt := 1281) dL_law_1068 (by decide) (fun _ => hk.one hne _ _ _ iv.up) (fun z => absurd rfl z)
set_option maxHeartbeats 1000000 in
theorem la_night (hB : B < 2 ^ 18) (hi : la_in ρ i x1 x2 x3 x4 x5) (hne : 81 < gc) (hle : am_le (am_KD, gc, gs) (am_KD, gc, gs) E) (hk : la_K l ρ i gc gs B E Q) (h : q_IV B I J T) : AW l ρ 1001 M_L_law 1073 (la_L i) [] (am_KD, gc, gs) (I, J, am_RT T) E Q := by
  obtain ⟨⟨h1, h2, h3, h4, h5⟩, e1, e2, e3, e4, e5⟩ := hi
  obtain ⟨w_r, w_Ip, w_Jp, w_I2p, w_J2p, w_Tp, ha, hb, iv⟩ := c_night (n := 300) (by decide) hB x1 x2 h
  refine op_aload_n (k := 1) dL_law_1073 rfl rfl ?_
  refine op_aload_n (k := 0) dL_law_1074 rfl rfl ?_
  refine op_iload (k := 4) dL_law_1075 rfl ?_
  refine op_iconst (v := 1) dL_law_1077 (by decide +kernel) ?_
  refine op_iadd dL_law_1078 ?_
  refine op_saldv dL_law_1079 h1 e1 ?_
  refine op_aload_n (k := 0) dL_law_1080 rfl rfl ?_
  refine op_iload (k := 4) dL_law_1081 rfl ?_
  refine op_iconst (v := 2) dL_law_1083 (by decide +kernel) ?_
  refine op_iadd dL_law_1084 ?_
  refine op_saldv dL_law_1085 h2 e2 ?_
  refine op_callV (M' := M_X11_night) [.int x1, .int x2] (S0 := []) dL_law_1086 tw_1055 ok_X11_night tw_1056 tw_1057 kd_0 cls_11 rfl rfl rfl (Nat.le_of_ble_eq_true rfl) (Nat.le_of_ble_eq_true rfl) (t_X11_night (d := 1000) (by decide) ha) hle ?_
  rintro _ _ ⟨rfl, rfl⟩
  refine op_aload_n (k := 2) dL_law_1089 rfl rfl ?_
  refine op_aload_n (k := 0) dL_law_1090 rfl rfl ?_
  refine op_iload (k := 4) dL_law_1091 rfl ?_
  refine op_iconst (v := 1) dL_law_1093 (by decide +kernel) ?_
  refine op_iadd dL_law_1094 ?_
  refine op_saldv dL_law_1095 h1 e1 ?_
  refine op_aload_n (k := 0) dL_law_1096 rfl rfl ?_
  refine op_iload (k := 4) dL_law_1097 rfl ?_
  refine op_iconst (v := 2) dL_law_1099 (by decide +kernel) ?_
  refine op_iadd dL_law_1100 ?_
  refine op_saldv dL_law_1101 h2 e2 ?_
  refine op_callV (M' := M_X12_night) [.int x1, .int x2] (S0 := [.int w_r]) dL_law_1102 tw_1756 ok_X12_night tw_1757 tw_1758 kd_53 cls_12 rfl rfl rfl (Nat.le_of_ble_eq_true rfl) (Nat.le_of_ble_eq_true rfl) (t_X12_night (d := 1000) (by decide) hb) hle ?_
  rintro _ _ ⟨rfl, rfl⟩
  refine op_icmp_eq (tgt := 1281) dL_law_1105 (by decide) (fun _ => hk.one hne _ _ _ iv) (fun z => absurd rfl z)
set_option maxHeartbeats 1000000 in
theorem la_drawn (hB : B < 2 ^ 18) (hi : la_in ρ i x1 x2 x3 x4 x5) (hne : 81 < gc) (hle : am_le (am_KD, gc, gs) (am_KD, gc, gs) E) (hk : la_K l ρ i gc gs B E Q) (h : q_IV B I J T) : AW l ρ 1001 M_L_law 1110 (la_L i) [] (am_KD, gc, gs) (I, J, am_RT T) E Q := by
  obtain ⟨⟨h1, h2, h3, h4, h5⟩, e1, e2, e3, e4, e5⟩ := hi
  obtain ⟨w_r, w_Ip, w_Jp, w_I2p, w_J2p, w_Tp, ha, hb, iv⟩ := c_drawn (n := 300) (by decide) hB x1 x2 (la_y x3 x4) h
  refine op_aload_n (k := 1) dL_law_1110 rfl rfl ?_
  refine op_aload_n (k := 0) dL_law_1111 rfl rfl ?_
  refine op_iload (k := 4) dL_law_1112 rfl ?_
  refine op_iconst (v := 1) dL_law_1114 (by decide +kernel) ?_
  refine op_iadd dL_law_1115 ?_
  refine op_saldv dL_law_1116 h1 e1 ?_
  refine op_aload_n (k := 0) dL_law_1117 rfl rfl ?_
  refine op_iload (k := 4) dL_law_1118 rfl ?_
  refine op_iconst (v := 2) dL_law_1120 (by decide +kernel) ?_
  refine op_iadd dL_law_1121 ?_
  refine op_saldv dL_law_1122 h2 e2 ?_
  refine op_aload_n (k := 0) dL_law_1123 rfl rfl ?_
  refine op_iload (k := 4) dL_law_1124 rfl ?_
  refine op_iconst (v := 3) dL_law_1126 (by decide +kernel) ?_
  refine op_iadd dL_law_1127 ?_
  refine op_saldv dL_law_1128 h3 e3 ?_
  refine op_i2l dL_law_1129 ?_
  refine op_bipush (v := 32) dL_law_1130 (by decide +kernel) ?_
  refine op_lshl (v := x3.toInt64 <<< ((32 : Int32).toInt64 &&& 63)) dL_law_1132 rfl ?_
  refine op_aload_n (k := 0) dL_law_1133 rfl rfl ?_
  refine op_iload (k := 4) dL_law_1134 rfl ?_
  refine op_iconst (v := 4) dL_law_1136 (by decide +kernel) ?_
  refine op_iadd dL_law_1137 ?_
  refine op_saldv dL_law_1138 h4 e4 ?_
  refine op_i2l dL_law_1139 ?_
  refine op_ldc2 dL_law_1140 tw_1793 ?_
  refine op_land dL_law_1143 ?_
  refine op_lor dL_law_1144 ?_
  refine op_callV (M' := M_X11_drawn) [.int x1, .int x2, .long (la_y x3 x4)] (S0 := []) dL_law_1145 tw_1072 ok_X11_drawn tw_1073 tw_1074 kd_0 cls_11 rfl rfl rfl (Nat.le_of_ble_eq_true rfl) (Nat.le_of_ble_eq_true rfl) (t_X11_drawn (d := 1000) (by decide) ha) hle ?_
  rintro _ _ ⟨rfl, rfl⟩
  refine op_aload_n (k := 2) dL_law_1148 rfl rfl ?_
  refine op_aload_n (k := 0) dL_law_1149 rfl rfl ?_
  refine op_iload (k := 4) dL_law_1150 rfl ?_
  refine op_iconst (v := 1) dL_law_1152 (by decide +kernel) ?_
  refine op_iadd dL_law_1153 ?_
  refine op_saldv dL_law_1154 h1 e1 ?_
  refine op_aload_n (k := 0) dL_law_1155 rfl rfl ?_
  refine op_iload (k := 4) dL_law_1156 rfl ?_
  refine op_iconst (v := 2) dL_law_1158 (by decide +kernel) ?_
  refine op_iadd dL_law_1159 ?_
  refine op_saldv dL_law_1160 h2 e2 ?_
  refine op_aload_n (k := 0) dL_law_1161 rfl rfl ?_
  refine op_iload (k := 4) dL_law_1162 rfl ?_
  refine op_iconst (v := 3) dL_law_1164 (by decide +kernel) ?_
  refine op_iadd dL_law_1165 ?_
  refine op_saldv dL_law_1166 h3 e3 ?_
  refine op_i2l dL_law_1167 ?_
  refine op_bipush (v := 32) dL_law_1168 (by decide +kernel) ?_
  refine op_lshl (v := x3.toInt64 <<< ((32 : Int32).toInt64 &&& 63)) dL_law_1170 rfl ?_
  refine op_aload_n (k := 0) dL_law_1171 rfl rfl ?_
  refine op_iload (k := 4) dL_law_1172 rfl ?_
  refine op_iconst (v := 4) dL_law_1174 (by decide +kernel) ?_
  refine op_iadd dL_law_1175 ?_
  refine op_saldv dL_law_1176 h4 e4 ?_
  refine op_i2l dL_law_1177 ?_
  refine op_ldc2 dL_law_1178 tw_1793 ?_
  refine op_land dL_law_1181 ?_
  refine op_lor dL_law_1182 ?_
  refine op_callV (M' := M_X12_drawn) [.int x1, .int x2, .long (la_y x3 x4)] (S0 := [.int w_r]) dL_law_1183 tw_1765 ok_X12_drawn tw_1766 tw_1767 kd_53 cls_12 rfl rfl rfl (Nat.le_of_ble_eq_true rfl) (Nat.le_of_ble_eq_true rfl) (t_X12_drawn (d := 1000) (by decide) hb) hle ?_
  rintro _ _ ⟨rfl, rfl⟩
  refine op_icmp_eq (tgt := 1281) dL_law_1186 (by decide) (fun _ => hk.one hne _ _ _ iv) (fun z => absurd rfl z)
set_option maxHeartbeats 1000000 in
theorem la_paid (hB : B < 2 ^ 18) (hi : la_in ρ i x1 x2 x3 x4 x5) (hne : 81 < gc) (hle : am_le (am_KD, gc, gs) (am_KD, gc, gs) E) (hk : la_K l ρ i gc gs B E Q) (h : q_IV B I J T) : AW l ρ 1001 M_L_law 1191 (la_L i) [] (am_KD, gc, gs) (I, J, am_RT T) E Q := by
  obtain ⟨⟨h1, h2, h3, h4, h5⟩, e1, e2, e3, e4, e5⟩ := hi
  obtain ⟨w_r, ha, hb, iv⟩ := c_paid (n := 300) (by decide) x1 h
  refine op_aload_n (k := 1) dL_law_1191 rfl rfl ?_
  refine op_aload_n (k := 0) dL_law_1192 rfl rfl ?_
  refine op_iload (k := 4) dL_law_1193 rfl ?_
  refine op_iconst (v := 1) dL_law_1195 (by decide +kernel) ?_
  refine op_iadd dL_law_1196 ?_
  refine op_saldv dL_law_1197 h1 e1 ?_
  refine op_callV (M' := M_X11_paid) [.int x1] (S0 := []) dL_law_1198 tw_1079 ok_X11_paid tw_1080 tw_1081 kd_0 cls_11 rfl rfl rfl (Nat.le_of_ble_eq_true rfl) (Nat.le_of_ble_eq_true rfl) (t_X11_paid (d := 1000) (by decide) ha) hle ?_
  rintro _ _ ⟨rfl, rfl⟩
  refine op_aload_n (k := 2) dL_law_1201 rfl rfl ?_
  refine op_aload_n (k := 0) dL_law_1202 rfl rfl ?_
  refine op_iload (k := 4) dL_law_1203 rfl ?_
  refine op_iconst (v := 1) dL_law_1205 (by decide +kernel) ?_
  refine op_iadd dL_law_1206 ?_
  refine op_saldv dL_law_1207 h1 e1 ?_
  refine op_callV (M' := M_X12_paid) [.int x1] (S0 := [.long w_r]) dL_law_1208 tw_1772 ok_X12_paid tw_1773 tw_1774 kd_53 cls_12 rfl rfl rfl (Nat.le_of_ble_eq_true rfl) (Nat.le_of_ble_eq_true rfl) (t_X12_paid (d := 1000) (by decide) hb) hle ?_
  rintro _ _ ⟨rfl, rfl⟩
  refine op_lcmp dL_law_1211 ?_
  refine op_if_eq (tgt := 1281) dL_law_1212 (by decide) (fun _ => hk.one hne _ _ _ iv.up) (fun z => absurd (lg_self _) z)
set_option maxHeartbeats 1000000 in
theorem la_undo (hB : B < 2 ^ 18) (hi : la_in ρ i x1 x2 x3 x4 x5) (hne : 81 < gc) (hle : am_le (am_KD, gc, gs) (am_KD, gc, gs) E) (hk : la_K l ρ i gc gs B E Q) (h : q_IV B I J T) : AW l ρ 1001 M_L_law 1217 (la_L i) [] (am_KD, gc, gs) (I, J, am_RT T) E Q := by
  obtain ⟨⟨h1, h2, h3, h4, h5⟩, e1, e2, e3, e4, e5⟩ := hi
  obtain ⟨w_r, w_Ip, w_Jp, w_I2p, w_J2p, ha, hb, iv⟩ := c_undo (n := 300) (by decide) (Nat.lt_of_lt_of_le hB (by decide)) h
  refine op_aload_n (k := 1) dL_law_1217 rfl rfl ?_
  refine op_callV (M' := M_X11_undo) [] (S0 := []) dL_law_1218 tw_1083 ok_X11_undo tw_1084 tw_1085 kd_0 cls_11 rfl rfl rfl (Nat.le_of_ble_eq_true rfl) (Nat.le_of_ble_eq_true rfl) (t_X11_undo (d := 1000) (by decide) ha) hle ?_
  rintro _ _ ⟨rfl, rfl⟩
  refine op_aload_n (k := 2) dL_law_1221 rfl rfl ?_
  refine op_callV (M' := M_X12_undo) [] (S0 := [.int w_r]) dL_law_1222 tw_1776 ok_X12_undo tw_1777 tw_1778 kd_53 cls_12 rfl rfl rfl (Nat.le_of_ble_eq_true rfl) (Nat.le_of_ble_eq_true rfl) (t_X12_undo (d := 1000) (by decide) hb) hle ?_
  rintro _ _ ⟨rfl, rfl⟩
  refine op_icmp_eq (tgt := 1281) dL_law_1225 (by decide) (fun _ => hk.one hne _ _ _ iv.up) (fun z => absurd rfl z)
set_option maxHeartbeats 1000000 in
theorem la_image (hB : B < 2 ^ 18) (hi : la_in ρ i x1 x2 x3 x4 x5) (hne : 81 < gc) (hle : am_le (am_KD, gc, gs) (am_KD, gc, gs) E) (hk : la_K l ρ i gc gs B E Q) (h : q_IV B I J T) : AW l ρ 1001 M_L_law 1230 (la_L i) [] (am_KD, gc, gs) (I, J, am_RT T) E Q := by
  obtain ⟨⟨h1, h2, h3, h4, h5⟩, e1, e2, e3, e4, e5⟩ := hi
  obtain ⟨w_r, w_Ip, w_Jp, w_I2p, w_J2p, ha, hb, iv⟩ := c_image (n := 300) (by decide) h
  refine op_aload_n (k := 1) dL_law_1230 rfl rfl ?_
  refine op_callV (M' := M_X11_image) [] (S0 := []) dL_law_1231 tw_1091 ok_X11_image tw_1092 tw_1093 kd_0 cls_11 rfl rfl rfl (Nat.le_of_ble_eq_true rfl) (Nat.le_of_ble_eq_true rfl) (t_X11_image (d := 1000) (by decide) ha) hle ?_
  rintro _ _ ⟨rfl, rfl⟩
  refine op_aload_n (k := 2) dL_law_1234 rfl rfl ?_
  refine op_callV (M' := M_X12_image) [] (S0 := [.int w_r]) dL_law_1235 tw_1780 ok_X12_image tw_1781 tw_1782 kd_53 cls_12 rfl rfl rfl (Nat.le_of_ble_eq_true rfl) (Nat.le_of_ble_eq_true rfl) (t_X12_image (d := 1000) (by decide) hb) hle ?_
  rintro _ _ ⟨rfl, rfl⟩
  refine op_icmp_eq (tgt := 1281) dL_law_1238 (by decide) (fun _ => hk.one hne _ _ _ iv.up) (fun z => absurd rfl z)
set_option maxHeartbeats 1000000 in
theorem la_back (hB : B < 2 ^ 18) (hi : la_in ρ i x1 x2 x3 x4 x5) (hne : 81 < gc) (hle : am_le (am_KD, gc, gs) (am_KD, gc, gs) E) (hk : la_K l ρ i gc gs B E Q) (h : q_IV B I J T) : AW l ρ 1001 M_L_law 1243 (la_L i) [] (am_KD, gc, gs) (I, J, am_RT T) E Q := by
  obtain ⟨⟨h1, h2, h3, h4, h5⟩, e1, e2, e3, e4, e5⟩ := hi
  obtain ⟨w_r, w_Ip, w_Jp, w_I2p, w_J2p, ha, hb, iv⟩ := c_back (n := 300) (by decide) h
  refine op_aload_n (k := 1) dL_law_1243 rfl rfl ?_
  refine op_callV (M' := M_X11_back) [] (S0 := []) dL_law_1244 tw_1100 ok_X11_back tw_1101 tw_1102 kd_0 cls_11 rfl rfl rfl (Nat.le_of_ble_eq_true rfl) (Nat.le_of_ble_eq_true rfl) (t_X11_back (d := 1000) (by decide) ha) hle ?_
  rintro _ _ ⟨rfl, rfl⟩
  refine op_aload_n (k := 2) dL_law_1247 rfl rfl ?_
  refine op_callV (M' := M_X12_back) [] (S0 := [.int w_r]) dL_law_1248 tw_1784 ok_X12_back tw_1785 tw_1786 kd_53 cls_12 rfl rfl rfl (Nat.le_of_ble_eq_true rfl) (Nat.le_of_ble_eq_true rfl) (t_X12_back (d := 1000) (by decide) hb) hle ?_
  rintro _ _ ⟨rfl, rfl⟩
  refine op_icmp_eq (tgt := 1281) dL_law_1251 (by decide) (fun _ => hk.one hne _ _ _ iv.up) (fun z => absurd rfl z)
set_option maxHeartbeats 1000000 in
theorem la_count (hB : B < 2 ^ 18) (hi : la_in ρ i x1 x2 x3 x4 x5) (hne : 81 < gc) (hle : am_le (am_KD, gc, gs) (am_KD, gc, gs) E) (hk : la_K l ρ i gc gs B E Q) (h : q_IV B I J T) : AW l ρ 1001 M_L_law 1256 (la_L i) [] (am_KD, gc, gs) (I, J, am_RT T) E Q := by
  obtain ⟨⟨h1, h2, h3, h4, h5⟩, e1, e2, e3, e4, e5⟩ := hi
  obtain ⟨w_r, ha, hb, iv⟩ := c_count (n := 300) (by decide) x1 h
  refine op_aload_n (k := 1) dL_law_1256 rfl rfl ?_
  refine op_aload_n (k := 0) dL_law_1257 rfl rfl ?_
  refine op_iload (k := 4) dL_law_1258 rfl ?_
  refine op_iconst (v := 1) dL_law_1260 (by decide +kernel) ?_
  refine op_iadd dL_law_1261 ?_
  refine op_saldv dL_law_1262 h1 e1 ?_
  refine op_callV (M' := M_X11_count) [.int x1] (S0 := []) dL_law_1263 tw_1104 ok_X11_count tw_1105 tw_1106 kd_0 cls_11 rfl rfl rfl (Nat.le_of_ble_eq_true rfl) (Nat.le_of_ble_eq_true rfl) (t_X11_count (d := 1000) (by decide) ha) hle ?_
  rintro _ _ ⟨rfl, rfl⟩
  refine op_aload_n (k := 2) dL_law_1266 rfl rfl ?_
  refine op_aload_n (k := 0) dL_law_1267 rfl rfl ?_
  refine op_iload (k := 4) dL_law_1268 rfl ?_
  refine op_iconst (v := 1) dL_law_1270 (by decide +kernel) ?_
  refine op_iadd dL_law_1271 ?_
  refine op_saldv dL_law_1272 h1 e1 ?_
  refine op_callV (M' := M_X12_count) [.int x1] (S0 := [.int w_r]) dL_law_1273 tw_1788 ok_X12_count tw_1789 tw_1790 kd_53 cls_12 rfl rfl rfl (Nat.le_of_ble_eq_true rfl) (Nat.le_of_ble_eq_true rfl) (t_X12_count (d := 1000) (by decide) hb) hle ?_
  rintro _ _ ⟨rfl, rfl⟩
  refine op_icmp_eq (tgt := 1281) dL_law_1276 (by decide) (fun _ => hk.one hne _ _ _ iv.up) (fun z => absurd rfl z)
/-- the class's rider, where it throws -/
theorem aw_rthrow {n d : Nat} {x y : Int32} (hd : 3 ≤ d) (h : f_X11_isRider n I J T x = some 0 ∨ (f_X11_isRider n I J T x = some 1 ∧ f_X11_isWithin n I J T y 0 4 = some 0)) : AW l ρ d M_X11_rider 0 [(0, .ref 0), (1, .int x), (2, .int y)] [] (am_KD, gc, gs) (I, J, am_RT T) (am_KD, gc, gs) (fun v H' => v = am_Ro none ∧ H' = (I, J, am_RT T)) := by
  obtain ⟨d, rfl⟩ : ∃ d', d = d' + 1 := ⟨d - 1, by omega⟩
  refine op_aload_n (k := 0) dX11_rider_0 rfl rfl ?_
  refine op_iload_n (k := 1) dX11_rider_1 rfl rfl ?_
  obtain ⟨w, ew⟩ : ∃ w, f_X11_isRider n I J T x = some w := by
    rcases h with h | h
    · exact ⟨_, h⟩
    · exact ⟨_, h.1⟩
  refine op_callV (M' := M_X11_isRider) [.int x] (S0 := []) dX11_rider_2 tw_742 ok_X11_isRider tw_744 tw_25 kd_0 cls_11 rfl rfl rfl (Nat.le_of_ble_eq_true rfl) (Nat.le_of_ble_eq_true rfl) (t_X11_isRider (by omega) ew) (am_le_rf _) ?_
  rintro _ _ ⟨rfl, rfl⟩
  refine op_if_eq (tgt := 17) dX11_rider_5 (by decide) (fun c2 => op_rider17 ⟨rfl, rfl⟩) (fun c2 => ?_)
  rcases h with h | h
  · exact absurd (Option.some.inj (ew.symm.trans h)) c2
  · refine op_iload_n (k := 2) dX11_rider_8 rfl rfl ?_
    refine op_iconst (v := 0) dX11_rider_9 (by decide) ?_
    refine op_iconst (v := 4) dX11_rider_10 (by decide) ?_
    refine op_callS (M' := M_X11_isWithin) [.int y, .int 0, .int 4] (S0 := []) dX11_rider_11 tw_713 ok_X11_isWithin tw_595 rfl rfl (Nat.le_of_ble_eq_true rfl) (Nat.le_of_ble_eq_true rfl) (t_X11_isWithin (by omega) h.2) (am_le_rf _) ?_
    rintro _ _ ⟨rfl, rfl⟩
    exact op_if_ne (tgt := 25) dX11_rider_14 (by decide) (fun c4 => absurd rfl c4) (fun c4 => op_rider17 ⟨rfl, rfl⟩)
/-- rider's two outcomes, whatever the law writes down in between -/
theorem c_rider2 (x y : Int32) (h : q_IV B I J T) : ∃ o : Option Int32, AW l ρ 999 M_X11_rider 0 [(0, .ref 0), (1, .int x), (2, .int y)] [] (am_KD, gc, gs) (I, J, am_RT T) (am_KD, gc, gs) (fun v H' => v = am_Ro o ∧ H' = (I, J, am_RT T)) ∧ ∃ r : Int32, (∀ r', o = some r' → r = r') ∧ f_X12_rider 300 I (am_Jo o J) T x y = some (r, am_u I 53 0 (am_ko o)) ∧ q_IV B (am_u I 53 0 (am_ko o)) (am_Jo o J) T := by
  obtain ⟨s, hs, hX, hM, hT⟩ := h
  have hX2 : ∀ o, q_HX q_Vr I (am_Jo o J) s := fun o => hX.of hs.2.2.1 (fun _ _ _ => rfl) (fun _ _ _ => rfl) (fun a k ha => by
    cases o with
    | none => rfl
    | some r =>
      have ha' : a ≠ 80 := by omega
      simp [am_Jo, am_u, ha'])
  have hM2 : ∀ o, q_HM I (am_Jo o J) s := fun o => hM.of (fun _ _ => rfl) (fun _ _ _ => rfl) (fun a k ha => by
    cases o with
    | none => rfl
    | some r =>
      have ha' : a ≠ 80 := by omega
      simp [am_Jo, am_u, ha'])
  have iv : ∀ o v, q_IV B (am_u I 53 0 v) (am_Jo o J) T := fun o v => ⟨s, hs, (hX2 o).fM hs.2.2.1 (q_fM.th I (am_Jo o J) v), (hM2 o).th v, hT⟩
  rcases i_rider (n := 300) (T := T) (by decide) hs hX hM x y with ⟨r, a, b⟩ | ⟨a, b⟩
  · refine ⟨some r, t_X11_rider (n := 300) (by decide) a, r, fun r' e => Option.some.inj e, ?_, iv _ _⟩
    rcases i_rider (n := 300) (T := T) (by decide) hs hX (hM2 (some r)) x y with ⟨r2, a2, b2⟩ | ⟨a2, b2⟩
    · have e : r = r2 := Option.some.inj (a.symm.trans a2)
      rw [e] at b2 ⊢
      exact b2
    · rcases i_rider (n := 300) (T := T) (by decide) hs hX (hM2 (some r)) x y with ⟨r2, a3, b3⟩ | ⟨a3, b3⟩
      · have e : r = r2 := Option.some.inj (a.symm.trans a3)
        rw [e] at b3 ⊢
        exact b3
      · exact absurd a (q_rthrow a3)
  · rcases i_rider (n := 300) (T := T) (by decide) hs hX (hM2 none) x y with ⟨r2, a2, b2⟩ | ⟨a2, b2⟩
    · exact absurd a2 (q_rthrow a)
    · exact ⟨none, aw_rthrow (by decide) a, 0, (fun r' e => by cases e), b2, iv _ _⟩
set_option maxHeartbeats 1000000 in
theorem la_rider (hfl : l.stackTraces = false) (hi : la_in ρ i x1 x2 x3 x4 x5) (hne : 81 < gc) (hle : gc + 1 ≤ E.2.1 ∧ gs + 6 ≤ E.2.2) (hk : la_K l ρ i gc gs B E Q) (h : q_IV B I J T) : AW l ρ 1001 M_L_law 324 (la_L i) [] (am_KD, gc, gs) (I, J, am_RT T) E Q := by
  obtain ⟨⟨h1, h2, h3, h4, h5⟩, e1, e2, e3, e4, e5⟩ := hi
  obtain ⟨o, ha, r, hr, hb, iv⟩ := c_rider2 (l := l) (ρ := ρ) (gc := gc) (gs := gs) x1 x2 h
  have hle2 : am_le (am_KD, gc + 1, gs + 6) (am_KD, gc + 1, gs + 6) E := ⟨Nat.le_refl _, Nat.le_refl _, hle.1, hle.2, fun z => z⟩
  refine op_aload_n (k := 1) dL_law_324 rfl rfl ?_
  refine op_aload_n (k := 0) dL_law_325 rfl rfl ?_
  refine op_iload (k := 4) dL_law_326 rfl ?_
  refine op_iconst (v := 1) dL_law_328 (by decide +kernel) ?_
  refine op_iadd dL_law_329 ?_
  refine op_saldv dL_law_330 h1 e1 ?_
  refine op_aload_n (k := 0) dL_law_331 rfl rfl ?_
  refine op_iload (k := 4) dL_law_332 rfl ?_
  refine op_iconst (v := 2) dL_law_334 (by decide +kernel) ?_
  refine op_iadd dL_law_335 ?_
  refine op_saldv dL_law_336 h2 e2 ?_
  refine op_aload_n (k := 3) dL_law_337 rfl rfl ?_
  refine op_rider (d := 999) (S0 := []) o hfl (by decide) hne hle (Nat.le_of_ble_eq_true rfl) ha ?_
  refine op_istore (L' := [(5, .int (am_ko o)), (0, .ref 1006), (1, .ref 0), (2, .ref 53), (3, .ref 80), (4, .int i)]) dL_law_341 (by decide) rfl ?_
  refine op_aload_n (k := 3) dL_law_343 rfl rfl ?_
  refine op_aload_n (k := 1) dL_law_344 rfl rfl ?_
  refine op_iload (k := 5) dL_law_345 rfl ?_
  refine op_iconst (v := 1) dL_law_347 (by decide +kernel) ?_
  refine op_iadd dL_law_348 ?_
  refine op_saldv dL_law_349 h1 e1 ?_
  refine op_aload_n (k := 1) dL_law_350 rfl rfl ?_
  refine op_iload (k := 5) dL_law_351 rfl ?_
  refine op_iconst (v := 2) dL_law_353 (by decide +kernel) ?_
  refine op_iadd dL_law_354 ?_
  refine op_saldv dL_law_355 h2 e2 ?_
  refine op_callV (M' := M_X12_rider) [.int x1, .int x2] (S0 := []) dL_law_356 tw_1560 ok_X12_rider tw_1561 tw_1562 kd_53 cls_12 rfl rfl rfl (Nat.le_of_ble_eq_true rfl) (Nat.le_of_ble_eq_true rfl) (t_X12_rider (d := 1000) (by decide) hb) hle2 ?_
  rintro _ _ ⟨rfl, rfl⟩
  refine op_istore (L' := [(6, .int r), (5, .int (am_ko o)), (0, .ref 1006), (1, .ref 0), (2, .ref 53), (3, .ref 80), (4, .int i)]) dL_law_359 (by decide) rfl ?_
  refine op_aload_n (k := 4) dL_law_361 rfl rfl ?_
  refine op_callV (M' := M_X12_thrown) [] (S0 := []) dL_law_362 tw_1367 ok_X12_thrown tw_1368 tw_1369 kd_53 cls_12 rfl rfl rfl (Nat.le_of_ble_eq_true rfl) (Nat.le_of_ble_eq_true rfl) (t_X12_thrown (n := 300) (d := 1000) (q := am_ko o) (by decide) (by show some (am_u I 53 0 (am_ko o) 53 0) = _; simp [am_u])) hle2 ?_
  rintro _ _ ⟨rfl, rfl⟩
  refine op_iload (k := 1) dL_law_365 rfl ?_
  refine op_icmp_eq (tgt := 372) dL_law_367 (by decide) (fun _ => ?_) (fun z => absurd rfl z)
  refine op_iload (k := 1) dL_law_372 rfl ?_
  have fin : AW l ρ 1001 M_L_law 389 [(6, .int r), (5, .int (am_ko o)), (0, .ref 1006), (1, .ref 0), (2, .ref 53), (3, .ref 80), (4, .int i)] [] (am_KD, gc + 1, gs + 6) (am_u I 53 0 (am_ko o), am_Jo o J, am_RT T) E Q := by
    refine op_goto (tgt := 1281) dL_law_389 (by decide) ?_
    refine AW.perm (L' := la_L i) [2, 3, 4, 5, 6] rfl ?_
    exact hk _ _ _ iv.up
  cases o with
  | none => exact op_if_ne (tgt := 389) dL_law_374 (by decide) (fun _ => fin) (fun z => absurd z (show ¬ (1 : Int32) = 0 by decide))
  | some r' =>
    have er : r = r' := hr r' rfl
    subst er
    refine op_if_ne (tgt := 389) dL_law_374 (by decide) (fun z => absurd rfl z) (fun _ => ?_)
    refine op_aload_n (k := 5) dL_law_377 rfl rfl ?_
    refine op_iconst (v := 0) dL_law_378 (by decide +kernel) ?_
    refine op_lald (n := 1) dL_law_379 kd_80 (show ¬ ((0 : Int32) < 0 ∨ 1 ≤ (0 : Int32).toNatClampNeg) by decide +kernel) ?_
    refine op_iload (k := 0) dL_law_380 rfl ?_
    refine op_i2l dL_law_382 ?_
    refine op_lcmp dL_law_383 ?_
    refine op_if_eq (tgt := 389) dL_law_384 (by decide) (fun _ => fin) (fun z => absurd ?_ z)
    have e0 : am_Jo (some r) J 80 (0 : Int32).toNatClampNeg = r.toInt64 := by
      rw [show (0 : Int32).toNatClampNeg = 0 by decide +kernel]
      simp [am_Jo, am_u]
    show lg_cmp (am_Jo (some r) J 80 (0 : Int32).toNatClampNeg) r.toInt64 = 0
    rw [e0]
    exact lg_self _
end LAW
