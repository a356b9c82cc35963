/-! ===== rider's throw, and the law's own rider that catches it ===== -/
def am_NEn : List String := ["java/lang/RuntimeException", "java/lang/Exception"]
abbrev M_L_rider : am_M := (yL_rider, cL_rider, 5, some .int)
theorem am_xgood : ∀ w ∈ (Cond.classLink RX11 162 am_NE :: Cond.initialized am_NE :: vx_at0 RX11 164 am_NE am_NEn), vx_ot w = true := by decide +kernel
theorem am_xgw : ∀ w ∈ (vx_at0 RX11 164 am_NE am_NEn).filter goodWord, w ∈ am_T := fun w h => List.mem_filter.mpr ⟨(show ∀ w ∈ (vx_at0 RX11 164 am_NE am_NEn).filter goodWord, w ∈ lw_tbl by decide +kernel) w h, (List.mem_filter.mp h).2⟩
theorem am_xbw : ∀ w ∈ (vx_at0 RX11 164 am_NE am_NEn).filter (fun w => !goodWord w), w ∈ [Cond.castable am_NE am_NE, Cond.declares (Bundle.init0 "java/lang/RuntimeException"), Cond.declares (Bundle.init0 "java/lang/Exception"), Cond.declares (Bundle.init0 Bundle.tN)] := by decide +kernel
theorem am_xat {ρ : am_R} {A : Nat → Prop} {s : State} {args : Array Value} (hAt : am_At ρ A s) (hts : ∀ w ∈ am_T, w.before args s = true) : ∀ w ∈ vx_at0 RX11 164 am_NE am_NEn, w.before args s = true := by
  obtain ⟨-, -, -, -, -, -, -, -, -, -, -, -, h15, h16⟩ := hAt
  exact vx_hat (fun w h => hts w (am_xgw w h)) am_xbw (vx_c (va_Nw.use rfl h15) (vx_c (va_Nw.use rfl (h16 _ (by simp [am_NEi]))) (vx_c (va_Nw.use rfl (h16 _ (by simp [am_NEi]))) (vx_c (va_Nw.use rfl (h16 _ (by simp [am_NEi]))) vx_n))))
def am_XC (ρ : am_R) (g : am_G) (H : am_H) (Q : List Value → am_H → Prop) (sz : Nat) : String → State → State → Prop := fun E st t => E = am_NE ∧ Q [] H ∧ va_P ρ.2.2.1 vwCl (am_ws ρ g.1 H) t.heap ∧ va_F (va_A (am_ws ρ g.1 H) sz) st t
set_option maxHeartbeats 1000000 in
theorem am_metR {l : Launch} {ρ : am_R} {d : Nat} {As : List Value} {g : am_G} {H : am_H} {Q : List Value → am_H → Prop} (sz : Nat) (hfl : l.stackTraces = false) (h6 : 6 ≤ d) (hne : g.1.length < g.2.1) (hlen : (lg_sl As).length ≤ 3) (hQ : ∀ H', Q [] H' → H' = H)
    (h : AW l ρ d M_X11_rider 0 (lv_args 0 As) [] g H g Q) :
    vx_Met l yX11_rider (am_wd M_X11_rider) { frames := d, cells := 1, slots := 6, locals := 64 * d } (am_Pc ρ As g H sz) (am_Qc ρ g H (g.1, g.2.1 + 1, g.2.2 + 6) (fun v H' => Q v H' ∧ v ≠ []) sz) (am_XC ρ g H Q sz) 1 6 (va_A (am_ws ρ g.1 H) sz) := by
  refine vx_ofW (cc := cX11_rider) (maxL := 3) (ret := some .int) (by decide) rfl ?_
  intro p e s m args below meth c s₁ B hml hout hv
  obtain ⟨rfl, hsz, hAt, hP, hD0, hT, hZ⟩ := hv
  subst hsz
  have hlocks := B.notSynchronized
  have hr := B.returns
  have hl := lv_entry (As.map (am_v ρ.1)) (n := 3) (by rw [am_lgsl]; exact hlen)
  rw [lg_entry_eq]
  generalize (lg_sl (As.map (am_v ρ.1)) ++ List.replicate (3 - (lg_sl (As.map (am_v ρ.1))).length) Slot.unset).toArray = ls at hl ⊢
  rw [am_args] at hl
  have hts : ∀ w ∈ am_T, w.before (As.map (am_v ρ.1)).toArray s = true := atoms_spec (ws := am_wd M_X11_rider) B.pre |> fun z w hw => z w (List.mem_cons_of_mem _ hw)
  have hown : s.vm.findClass RX11 = some m.cls := findClass_of_methodNamed B.named
  have hC : am_Cx l ρ d M_X11_rider g g.2.1 g.2.2 p e { frames := d, cells := 1, slots := 6, locals := 64 * d } s m (As.map (am_v ρ.1)).toArray below meth c (va_A (am_ws ρ g.1 H) s.heap.size) :=
    ⟨B.exec, B.bytes, hml, hown, hts, fun z => (name_of_methodNamed B.named B.method).1.trans z, hAt, fun q hq => Or.inr hq, ⟨Nat.le_refl _, Nat.le_refl _⟩, by show g.2.1 - g.2.1 ≤ 1; omega, by show g.2.2 - g.2.2 ≤ 6; omega⟩
  have key := h p e _ s m _ below meth c _ (vx_MQ below (am_Qc ρ g H (g.1, g.2.1 + 1, g.2.2 + 6) (fun v H' => Q v H' ∧ v ≠ []) s.heap.size) (am_XC ρ g H Q s.heap.size) (As.map (am_v ρ.1)).toArray s 1 6 (va_A (am_ws ρ g.1 H) s.heap.size)) g.2.1 g.2.2 hC ?_ s.heap [] ls ⟨hP, hD0.self, va_S.rf, fun z => absurd z (by omega), hZ⟩ hl (Nat.le_refl _) (Nat.le_refl _)
  · rw [Nat.sub_self, Nat.sub_self] at key
    exact key
  · intro Hc locs ls' pcr v H' hrt hq hR
    rw [Nat.sub_self, Nat.sub_self]
    match v, hrt, hq with
    | [], hrt, hq =>
      rcases hrt with hrt | hrt
      · exact absurd hrt.2 (by simp)
      · have e17 : pcr = 17 := hrt.2
        subst e17
        have eH : H' = H := hQ H' hq.1
        subst eH
        have hls : ls'.size = 3 := hq.2
        refine vx_throw0 (own := RX11) (cls := am_NE) (names := am_NEn) (ik := 162) (ic := 164) (A := va_A (am_ws ρ g.1 H') s.heap.size) B.exec B.bytes hfl hown (by decide +kernel) (by decide +kernel) (hts _ (am_in 1117 (by decide +kernel) (by decide +kernel))) (hts _ (am_in 125 (by decide +kernel) (by decide +kernel))) (am_xat hAt hts) am_xgood hAt.2.2.2.2.2.2.2.2.2.1 hAt.2.2.2.2.2.2.2.2.2.2.1 hR.2.2.1 (hls.trans hml.symm) dX11_rider_17 dX11_rider_20 dX11_rider_21 dX11_rider_24 (fun x hx => (hout x hx).elim) ?_ ?_ ?_ ?_ hlocks (fun t hal hle hk => ?_) hR.2.2.1.2.2 (by omega) (by omega)
        · show 2 + 3 < d
          omega
        · show 0 + (13 * (2 + 1) + 42) ≤ 64 * d
          omega
        · show 0 + 1 ≤ 1
          omega
        · show 0 + 6 ≤ 6
          omega
        · exact ⟨rfl, hq.1, hR.1.kept (fun k x hx => hk x.1 ((hR.1 k x hx).lt)), Nat.le_trans hR.2.2.1.1 hle, fun q q1 q2 => (hk q (Nat.lt_of_lt_of_le q1 hR.2.2.1.1)).trans (hR.2.2.1.2.1 q q1 q2)⟩
    | [.int x], hrt, hq =>
      obtain ⟨a1, ty, a2, a3⟩ := hrt
      refine W.widen (k := 1) (n := 6) (by omega) (by omega) (vx_ret (W.zret B.exec B.bytes (hr.trans a2) a3 (fun t ht hW => ?_) hR.2.2.1.2.2 a1))
      exact ⟨⟨[.int x], H', rfl, by simp, rfl, ⟨hq.1, by simp⟩, by rw [ht]; exact hR.1, hR.2.1, fun z => absurd z (by show ¬ g.1.length = g.2.1 + 1; omega), hR.2.2.2.2⟩, hR.2.2.1.F ht⟩
    | [.long x], hrt, hq => exact absurd hrt.2 (by simp)
/-- from rider's test on, the throw -/
theorem op_rider17 {l : Launch} {ρ : am_R} {d : Nat} {L : List (Nat × Value)} {g : am_G} {H : am_H} {Q : List Value → am_H → Prop} (hq : Q [] H) : AW l ρ d M_X11_rider 17 L [] g H g Q := by
  intro p e R s m args below meth c A QQ n0 k0 hC hE Hc locs ls hR hl h1 h2
  exact hE Hc locs ls 17 [] H (Or.inr ⟨⟨rfl, rfl⟩, rfl⟩) ⟨hq, hl.1⟩ hR
def am_wl : List Cond := Cond.codeWith yL_rider cL_rider 5 (some .int) [(0, 10, 13, 13)] :: am_T
theorem tw_lr : Cond.codeWith yL_rider cL_rider 5 (some .int) [(0, 10, 13, 13)] ∈ am_T := am_in 1111 (by decide +kernel) (by decide +kernel)
def am_Jo (o : Option Int32) (J : Nat → Nat → Int64) : Nat → Nat → Int64 := match o with
  | none => J
  | some r => am_u J 80 0 r.toInt64
def am_Ro (o : Option Int32) : List Value := match o with
  | none => []
  | some r => [.int r]
def am_ko (o : Option Int32) : Int32 := match o with
  | none => 1
  | some _ => 0
theorem aw_lr8 {l : Launch} {ρ : am_R} {d gc gs : Nat} {I : Nat → Nat → Int32} {J : Nat → Nat → Int64} {T : Nat} {r : Int32} {L : List (Nat × Value)} : AW l ρ d M_L_rider 8 L [.int r, .int 0, .ref 80] (am_KD, gc, gs) (I, J, am_RT T) (am_KD, gc, gs) (fun v H' => v = [.int 0] ∧ H' = (I, am_u J 80 0 r.toInt64, am_RT T)) := by
  refine op_i2l dL_rider_8 ?_
  refine op_last (n := 1) dL_rider_9 kd_80 (show ¬ ((0 : Int32) < 0 ∨ 1 ≤ (0 : Int32).toNatClampNeg) by decide +kernel) ?_
  refine op_goto (tgt := 17) dL_rider_10 (by decide) ?_
  refine op_iconst (v := 0) dL_rider_17 (by decide +kernel) ?_
  exact op_iret dL_rider_18 rfl rfl ⟨rfl, rfl⟩
theorem aw_lr15 {l : Launch} {ρ : am_R} {d gc gs : Nat} {I : Nat → Nat → Int32} {J : Nat → Nat → Int64} {T : Nat} {L : List (Nat × Value)} : AW l ρ d M_L_rider 15 L [] (am_KD, gc, gs) (I, J, am_RT T) (am_KD, gc, gs) (fun v H' => v = [.int 1] ∧ H' = (I, J, am_RT T)) := by
  refine op_iconst (v := 1) dL_rider_15 (by decide +kernel) ?_
  exact op_iret dL_rider_16 rfl rfl ⟨rfl, rfl⟩
/-- what the law's rider hands back -/
abbrev am_QL (o : Option Int32) (I : Nat → Nat → Int32) (J : Nat → Nat → Int64) (T : Nat) : List Value → am_H → Prop := fun v H' => v = [.int (am_ko o)] ∧ H' = (I, am_Jo o J, am_RT T)
set_option maxHeartbeats 2000000 in
theorem am_metL {l : Launch} {ρ : am_R} {d gc gs : Nat} {I : Nat → Nat → Int32} {J : Nat → Nat → Int64} {T : Nat} {x y : Int32} (o : Option Int32) (sz : Nat) (hfl : l.stackTraces = false) (h6 : 6 ≤ d) (hne : 81 < gc)
    (h : AW l ρ d M_X11_rider 0 [(0, .ref 0), (1, .int x), (2, .int y)] [] (am_KD, gc, gs) (I, J, am_RT T) (am_KD, gc, gs) (fun v H' => v = am_Ro o ∧ H' = (I, J, am_RT T))) :
    Met l yL_rider am_wl { frames := d + 1, cells := 1, slots := 6, locals := 64 * (d + 1) } (am_Pc ρ [.ref 0, .int x, .int y, .ref 80] (am_KD, gc, gs) (I, J, am_RT T) sz) (am_Qc ρ (am_KD, gc, gs) (I, J, am_RT T) (am_KD, gc + 1, gs + 6) (am_QL o I J T) sz) 1 6 (va_A (am_ws ρ am_KD (I, J, am_RT T)) sz) := by
  refine va_MetW (hh := [(0, 10, 13, 13)]) (cc := cL_rider) (maxL := 5) (ret := some .int) (by decide) rfl ?_
  intro p e s m args below meth c s₁ B hml hv
  obtain ⟨rfl, hsz, hAt, hP, hD0, hT, hZ⟩ := hv
  subst hsz
  have hpre := atoms_spec (ws := am_wl) B.pre
  have htab := vx_table (x := yL_rider) (y := yL_rider) (bytes := cL_rider) (maxL' := 5) (ret' := some .int) (hh := [(0, 10, 13, 13)]) B (hpre _ List.mem_cons_self)
  have hts := fun w (hw : w ∈ am_T) => hpre w (List.mem_cons_of_mem _ hw)
  have hown : s.vm.findClass RL = some m.cls := findClass_of_methodNamed B.named
  have hlocks := B.notSynchronized
  have hr := B.returns
  have hl := lv_entry ([Value.ref (ρ.1 0), .int x, .int y, .ref (ρ.1 80)]) (n := 5) (Nat.le_of_ble_eq_true rfl)
  show W p l e _ s m _ below meth c s.heap [] 0 0 _ (entryFrame m ([Value.ref (ρ.1 0), .int x, .int y, .ref (ρ.1 80)] : List Value).toArray 5)
  rw [lg_entry_eq]
  generalize (lg_sl ([Value.ref (ρ.1 0), .int x, .int y, .ref (ρ.1 80)]) ++ List.replicate (5 - (lg_sl ([Value.ref (ρ.1 0), .int x, .int y, .ref (ρ.1 80)])).length) Slot.unset).toArray = ls at hl ⊢
  have hl : lv_has ls 5 [(0, .ref (ρ.1 0)), (1, .int x), (2, .int y), (3, .ref (ρ.1 80))] := hl
  obtain ⟨A, hAe⟩ : ∃ A, A = va_A (am_ws ρ am_KD (I, J, am_RT T)) s.heap.size := ⟨_, rfl⟩
  have hD1 : va_D A (am_ws ρ am_KD (I, J, am_RT T)) := by rw [hAe]; exact hD0.self
  have hAt1 : am_At ρ A s := by rw [hAe]; exact hAt
  have hA1 : ∀ q, s.heap.size ≤ q → A q := fun q hq => by rw [hAe]; exact Or.inr hq
  refine lv_aload_n B.exec B.bytes dL_rider_0 rfl (lv_at hl 3 rfl) ?_
  refine lv_iconst (v := 0) B.exec B.bytes dL_rider_1 (by decide +kernel) ?_
  refine lv_aload_n B.exec B.bytes dL_rider_2 rfl (lv_at hl 0 rfl) ?_
  refine lv_iload_n B.exec B.bytes dL_rider_3 rfl (lv_at hl 1 rfl) ?_
  refine lv_iload_n B.exec B.bytes dL_rider_4 rfl (lv_at hl 2 rfl) ?_
  have hM := am_metR (As := [.ref 0, .int x, .int y]) s.heap.size hfl h6 (show (am_KD, gc, gs).1.length < (am_KD, gc, gs).2.1 from hne) (Nat.le_of_ble_eq_true rfl) (fun H' q => q.2) h
  have hC : am_Cx l ρ (d + 1) M_L_rider (am_KD, gc + 1, gs + 6) gc gs p e { frames := d + 1, cells := 1, slots := 6, locals := 64 * (d + 1) } s m ([Value.ref (ρ.1 0), .int x, .int y, .ref (ρ.1 80)] : List Value).toArray below meth c A :=
    ⟨B.exec, B.bytes, hml, hown, hts, fun z => absurd z (by decide), hAt1, hA1, ⟨Nat.le_refl _, Nat.le_refl _⟩, by show gc + 1 - gc ≤ 1; omega, by show gs + 6 - gs ≤ 6; omega⟩
  have hQE : ∀ (Hc : Heap) (locs : List Loc) (ls : Array Slot) (pcr : Nat) (v : List Value) (H' : am_H), am_Rt M_L_rider pcr v → am_QL o I J T v H' ∧ ls.size = M_L_rider.2.2.1 → am_Rel ρ A s gc (am_KD, gc + 1, gs + 6) H' Hc locs → W p l e { frames := d + 1, cells := 1, slots := 6, locals := 64 * (d + 1) } s m ([Value.ref (ρ.1 0), .int x, .int y, .ref (ρ.1 80)] : List Value).toArray below meth c Hc locs (gc + 1 - gc) (gs + 6 - gs) (MQ below (am_Qc ρ (am_KD, gc, gs) (I, J, am_RT T) (am_KD, gc + 1, gs + 6) (am_QL o I J T) s.heap.size) ([Value.ref (ρ.1 0), .int x, .int y, .ref (ρ.1 80)] : List Value).toArray s 1 6 (va_A (am_ws ρ am_KD (I, J, am_RT T)) s.heap.size)) (F0 m pcr ls v) := by
    intro Hc locs ls pcr v H' hrt hq hR
    obtain ⟨⟨rfl, rfl⟩, -⟩ := hq
    obtain ⟨a1, ty, a2, a3⟩ := hrt
    rw [Nat.add_sub_cancel_left, Nat.add_sub_cancel_left]
    rw [← hAe]
    refine W.zret B.exec B.bytes (hr.trans a2) a3 (fun t ht hW => ?_) hR.2.2.1.2.2 a1
    refine ⟨⟨[.int (am_ko o)], _, rfl, by simp, rfl, ⟨rfl, rfl⟩, by rw [ht]; exact hR.1, ?_, fun z => absurd z (by show ¬ 81 = gc + 1; omega), hR.2.2.2.2⟩, ?_⟩
    · rw [← hAe]; exact hR.2.1
    · rw [← hAe]; exact hR.2.2.1.F ht
  have hw0 := am_ws_get (ρ := ρ) (H := (I, J, am_RT T)) kd_0
  rw [am_cell_o (by decide : (11 : Nat) < 50)] at hw0
  have hrun := vx_runV (p := p) (l := l) (e := e) (R := { frames := d + 1, cells := 1, slots := 6, locals := 64 * (d + 1) }) (s := s) (m := m) (args := ([Value.ref (ρ.1 0), .int x, .int y, .ref (ρ.1 80)] : List Value).toArray) (below := below) (meth := meth) (c := c) (H := s.heap) (locs := []) (cells := 0) (slots := 0) (C := RX11) (own := RL) (index := 7) (n := 2) (bytes := cX11_rider) (maxL := 3) (ret := some .int) (Ts := am_T) (nL := 5) (cc := cL_rider) (As := [.int x, .int y]) (b := ρ.1 0) (rest := [.int 0, .ref (ρ.1 80)]) (g := F0 m 5 ls [.int y, .int x, .ref (ρ.1 0), .int 0, .ref (ρ.1 80)])
    ⟨B.exec, B.bytes, hml, hown, hts⟩ hM ⟨⟨rfl, rfl, Nat.le_refl _, by show 8 + (3 + 11) + 64 * d ≤ 64 * (d + 1); omega, pay_in hts (am_good tw_1116), List.mem_cons_self, hts _ tw_1116, hts _ tw_102, ⟨by decide, by decide⟩, fun sig hsig => by
      have e9 : (parseMethodDescriptor yX11_rider.desc).map (fun d => d.parameters.length) = some 2 := by decide +kernel
      rw [hsig] at e9
      exact (Option.some.inj e9).symm, hts _ tw_1113⟩, hts _ tw_1114, hts _ tw_1115⟩
    ⟨am_blind, va_recv hAt1.1 hP (ci := 11) (q0 := 0) rfl hw0, fun U hU hW => ⟨rfl, by rw [hU], by
      refine am_At.moved hAt hW (by rw [hU]; exact Nat.le_refl _) (fun a q1 q2 => by rw [hU]) (fun _ q => q), by rw [hU]; exact hP, hD0, hT, hZ⟩⟩ rfl rfl hl.1 rfl (lv_room (Nat.le_of_ble_eq_true rfl)) dL_rider_5 ⟨Nat.le_of_ble_eq_true rfl, Nat.le_of_ble_eq_true rfl⟩
  intro T0 hT0 X
  rcases hrun T0 hT0 X with ⟨v, st₀, t, T', Lc, h0, X', hL, e1, e2, ⟨⟨v', H', hv, hv1, hv2, ⟨⟨hq1, hq2⟩, hq3⟩, hP', hD', hT', hZ'⟩, hz, hk⟩, stp⟩ | ⟨q, st₀, t, T', Lc, E, ce, h0, X', hL, e1, e2, ⟨hE, ⟨hq1, -⟩, hP', hz, hk⟩, hce, hcv, hcl, stp⟩
  · subst hq2
    match o, hq1, hq3 with
    | none, hq1, hq3 => exact absurd hq1 hq3
    | some r, hq1, hq3 =>
      have hv3 : v = v'.head? := by injection hv
      subst hq1
      have hrel : am_Rel ρ A s gc (am_KD, gc + 1, gs + 6) (I, J, am_RT T) T'.heap ([] ++ Lc) := by
        refine ⟨by rw [e1]; exact hP', by rw [hAe]; exact hD', ?_, fun z => absurd z (by show ¬ 81 = gc + 1; omega), hZ'⟩
        rw [h0] at hz hk
        rw [hAe]
        exact ⟨by rw [e1]; exact hz, fun q q1 q2 => by rw [e1]; exact hk q q1 q2, fun q hq => hL q hq⟩
      have tail := aw_lr8 (l := l) (ρ := ρ) (d := d + 1) (gc := gc + 1) (gs := gs + 6) (I := I) (J := J) (T := T) (r := r) (L := []) p e _ s m _ below meth c A _ gc gs hC hQE T'.heap ([] ++ Lc) ls hrel ⟨hl.1, hl.2.1, fun q hq => by cases hq⟩ (Nat.le_succ _) (Nat.le_add_right _ _)
      rw [Nat.add_sub_cancel_left, Nat.add_sub_cancel_left] at tail
      obtain ⟨t2, a1, b1⟩ := tail T' rfl X'
      refine ⟨t2, stp t2 ?_, b1⟩
      rw [hv3]
      exact a1
  · subst hE
    match o, hq1 with
    | some r, hq1 => cases hq1
    | none, hq1 =>
      have hrel : am_Rel ρ A s gc (am_KD, gc + 1, gs + 6) (I, J, am_RT T) T'.heap ([] ++ Lc) := by
        refine ⟨by rw [e1]; exact hP', hD1, ?_, fun z => absurd z (by show ¬ 81 = gc + 1; omega), hZ⟩
        rw [h0] at hz hk
        rw [hAe]
        exact ⟨by rw [e1]; exact hz, fun q q1 q2 => by rw [e1]; exact hk q q1 q2, fun q hq => hL q hq⟩
      have hcat := vx_catch (p := p) (l := l) (e := e) (R := { frames := d + 1, cells := 1, slots := 6, locals := 64 * (d + 1) }) (s := s) (m := m) (args := ([Value.ref (ρ.1 0), .int x, .int y, .ref (ρ.1 80)] : List Value).toArray) (below := below) (meth := meth) (c := c) (H := T'.heap) (locs := [] ++ Lc) (cells := 0 + 1) (slots := 0 + 6) (Q := (MQ below (am_Qc ρ (am_KD, gc, gs) (I, J, am_RT T) (am_KD, gc + 1, gs + 6) (am_QL none I J T) s.heap.size) ([Value.ref (ρ.1 0), .int x, .int y, .ref (ρ.1 80)] : List Value).toArray s 1 6 (va_A (am_ws ρ am_KD (I, J, am_RT T)) s.heap.size))) (pc := 5) (ls := ls) (rest := [.int 0, .ref (ρ.1 80)]) (q := q) (ce := ce) (E := am_NE) (own := RL) (name := am_NE) hown [] ⟨0, 10, 13, 13⟩ [] (htab.trans rfl) (fun z hz9 => by cases hz9) rfl (by decide) (hts _ tw_1112) (va_Nw.use rfl hAt1.2.2.2.2.2.2.2.2.2.2.2.2.1) (by rw [e1]; exact hce) hcv hcl ?_
      · obtain ⟨t2, a1, b1⟩ := hcat T' rfl X'
        exact ⟨t2, stp.trans a1, b1⟩
      · refine lv_astore (lv' := [(4, .ref q), (0, .ref (ρ.1 0)), (1, .int x), (2, .int y), (3, .ref (ρ.1 80))]) B.exec B.bytes dL_rider_13 hl (by decide) rfl (fun ls2 hl2 => ?_)
        have tail := aw_lr15 (l := l) (ρ := ρ) (d := d + 1) (gc := gc + 1) (gs := gs + 6) (I := I) (J := J) (T := T) (L := []) p e _ s m _ below meth c A _ gc gs hC hQE T'.heap ([] ++ Lc) ls2 hrel ⟨hl2.1, hl2.2.1, fun q hq => by cases hq⟩ (Nat.le_succ _) (Nat.le_add_right _ _)
        rw [Nat.add_sub_cancel_left, Nat.add_sub_cancel_left] at tail
        exact tail
abbrev M_L_law : am_M := (yL_law, cL_law, 7, some .boolean)
theorem op_rider {l : Launch} {ρ : am_R} {d gc gs : Nat} {I : Nat → Nat → Int32} {J : Nat → Nat → Int64} {T : Nat} {x y : Int32} {L : List (Nat × Value)} {S0 : List Value} {E : am_G} {Q : List Value → am_H → Prop} (o : Option Int32) (hfl : l.stackTraces = false) (h6 : 6 ≤ d) (hne : 81 < gc) (hle : gc + 1 ≤ E.2.1 ∧ gs + 6 ≤ E.2.2) (hrest : (S0.map fun v => v.category).sum ≤ 8)
    (h : AW l ρ d M_X11_rider 0 [(0, .ref 0), (1, .int x), (2, .int y)] [] (am_KD, gc, gs) (I, J, am_RT T) (am_KD, gc, gs) (fun v H' => v = am_Ro o ∧ H' = (I, J, am_RT T)))
    (hb : AW l ρ (d + 2) M_L_law 341 L (.int (am_ko o) :: S0) (am_KD, gc + 1, gs + 6) (I, am_Jo o J, am_RT T) E Q) : AW l ρ (d + 2) M_L_law 338 L (.ref 80 :: .int y :: .int x :: .ref 0 :: S0) (am_KD, gc, gs) (I, J, am_RT T) E Q := by
  intro p e R s m args below meth c A QQ n0 k0 hC hE Hc locs ls hR hl h1 h2
  have hleg : am_le (am_KD, gc, gs) (am_KD, gc + 1, gs + 6) E := ⟨Nat.le_succ _, Nat.le_add_right _ _, hle.1, hle.2, fun z => absurd z (by show ¬ 81 = gc + 1; omega)⟩
  have hsz : (am_KD, gc, gs).1.length = (am_KD, gc, gs).2.1 → Hc.size = ρ.1 (am_KD, gc, gs).1.length := fun z => absurd z (by show ¬ 81 = gc; omega)
  have hM := am_metL (ρ := ρ) o Hc.size hfl h6 hne h
  have h1' : n0 ≤ gc := h1
  have h2' : k0 ≤ gs := h2
  have hf : gc - n0 + 1 ≤ R.cells ∧ gs - k0 + 6 ≤ R.slots := by
    have z1 := hC.2.2.2.2.2.2.2.2.2.1
    have z2 := hC.2.2.2.2.2.2.2.2.2.2
    obtain ⟨y1, y2⟩ := hle
    exact ⟨by omega, by omega⟩
  have c1 : gc + 1 - gc = 1 := by omega
  have c2 : gs + 6 - gs = 6 := by omega
  have hts := hC.2.2.2.2.1
  obtain ⟨r1, r2⟩ := hC.2.2.2.2.2.2.2.2.1
  have hgood : GoodIn am_T am_wl := by
    intro w hw
    rcases List.mem_cons.mp hw with e9 | hw
    · subst e9
      exact ⟨tw_lr, Or.inl rfl⟩
    · exact ⟨hw, good_of_word (List.mem_filter.mp hw).2⟩
  have hrun : ∀ mc ms, mc = 1 → ms = 6 → va_Run p l e R s m args below meth c Hc locs (gc - n0) (gs - k0) mc ms (F0 m 338 ls ((Value.ref 80 :: .int y :: .int x :: .ref 0 :: S0).map (am_v ρ.1))) (S0.map (am_v ρ.1)) (am_Qc ρ (am_KD, gc, gs) (I, J, am_RT T) (am_KD, gc + 1, gs + 6) (am_QL o I J T) Hc.size ([Value.ref 0, .int x, .int y, .ref 80].map (am_v ρ.1)).toArray) (va_A (am_ws ρ am_KD (I, J, am_RT T)) Hc.size) := by
    rintro _ _ rfl rfl
    exact vx_runSW (hh := [(0, 10, 13, 13)]) (bytes := cL_rider) (maxL := 5) (ret := some .int) (n := 4) (own := RL) (index := 38) (As := [Value.ref 0, .int x, .int y, .ref 80].map (am_v ρ.1)) ⟨hC.1, hC.2.1, hC.2.2.1, hC.2.2.2.1, hts⟩ hM
      ⟨⟨rfl, rfl, by show d + 1 + 1 ≤ R.frames; omega, by show 8 + (5 + 11) + 64 * (d + 1) ≤ R.locals; omega, pay_in hts hgood, List.mem_cons_self⟩, hts _ tw_lr, hts _ (am_in 101 (by decide +kernel) (by decide +kernel)), ⟨by decide, by decide⟩, fun sig hsig => by
        have e9 : (parseMethodDescriptor yL_rider.desc).map (fun d => d.parameters.length) = some 4 := by decide +kernel
        rw [hsig] at e9
        exact (Option.some.inj e9).symm, hts _ tw_1109, hts _ (am_in 1110 (by decide +kernel) (by decide +kernel))⟩
      ⟨am_blind, am_start hC hR hsz⟩ rfl rfl hl.1 rfl (lv_room (by rw [am_sum]; exact hrest)) dL_law_338 hf
  refine am_back (g := (am_KD, gc, gs)) (g1 := (am_KD, gc + 1, gs + 6)) (Q1 := am_QL o I J T) (S0 := S0) hC hR h1 h2 hleg (hrun _ _ c1 c2) (fun v H1 Hc1 locs1 q1 q2 => ?_)
  obtain ⟨rfl, rfl⟩ := q1
  exact hb p e R s m args below meth c A QQ n0 k0 hC hE Hc1 locs1 ls q2 hl (Nat.le_succ_of_le h1) (Nat.le_trans h2 (Nat.le_add_right _ _))
