/-! ===== calls ===== -/
def am_Pc (ρ : am_R) (As : List Value) (g : am_G) (H : am_H) (sz : Nat) : Array Value → State → Prop :=
  va_Pc (As.map (am_v ρ.1)) (fun U => U.heap.size = sz ∧ am_At ρ (va_A (am_ws ρ g.1 H) sz) U ∧ va_P ρ.2.2.1 vwCl (am_ws ρ g.1 H) U.heap ∧ va_D (fun _ => True) (am_ws ρ g.1 H) ∧ (g.1.length = g.2.1 → sz = ρ.1 g.1.length) ∧ g.1.length ≤ 900)
def am_Qc (ρ : am_R) (g : am_G) (H : am_H) (E : am_G) (Q : List Value → am_H → Prop) (sz : Nat) : Array Value → State → Outcome → State → Prop := fun _ st oc t =>
  (∃ (v : List Value) (H' : am_H), oc = .returned v.head? ∧ v.length ≤ 1 ∧ v.map (am_v ρ.1) = v ∧ Q v H' ∧ va_P ρ.2.2.1 vwCl (am_ws ρ E.1 H') t.heap ∧ va_D (va_A (am_ws ρ g.1 H) sz) (am_ws ρ E.1 H') ∧ (E.1.length = E.2.1 → sz + (E.2.1 - g.2.1) = ρ.1 E.1.length) ∧ E.1.length ≤ 900) ∧ va_F (va_A (am_ws ρ g.1 H) sz) st t
theorem am_lgsl (α : Nat → Nat) : ∀ vs : List Value, (lg_sl (vs.map (am_v α))).length = (lg_sl vs).length
  | [] => rfl
  | v :: vs => by
    have h := am_lgsl α vs
    have e1 : lg_sl (v :: vs) = (if v.category = 2 then [Slot.val v, .second] else [Slot.val v]) ++ lg_sl vs := by simp [lg_sl]
    have e2 : lg_sl ((v :: vs).map (am_v α)) = (if (am_v α v).category = 2 then [Slot.val (am_v α v), .second] else [Slot.val (am_v α v)]) ++ lg_sl (vs.map (am_v α)) := by simp [lg_sl]
    rw [e1, e2, List.length_append, List.length_append, h, am_cat]
    split <;> rfl
theorem am_met {l : Launch} {ρ : am_R} {d : Nat} {M : am_M} {As : List Value} {g E : am_G} {H : am_H} {Q : List Value → am_H → Prop} (sz : Nat) (hp : plainName M.1.cls = true) (hnr : ¬ (M.1.cls = RX11 ∧ M.1.name = "rider")) (hlen : (lg_sl As).length ≤ M.2.2.1)
    (h : AW l ρ d M 0 (lv_args 0 As) [] g H E Q) :
    Met l M.1 (am_wd M) { frames := d, cells := E.2.1 - g.2.1, slots := E.2.2 - g.2.2, locals := 64 * d } (am_Pc ρ As g H sz) (am_Qc ρ g H E Q sz) (E.2.1 - g.2.1) (E.2.2 - g.2.2) (va_A (am_ws ρ g.1 H) sz) := by
  refine Met.ofW (cc := M.2.1) (maxL := M.2.2.1) (ret := M.2.2.2) hp rfl ?_
  intro p e s m args below meth c s₁ B hml hv
  obtain ⟨rfl, hsz, hAt, hP, hD0, hT, hZ⟩ := hv
  subst hsz
  have hlocks := B.notSynchronized
  have hr := B.returns
  have hl := lv_entry (As.map (am_v ρ.1)) (n := M.2.2.1) (by rw [am_lgsl]; exact hlen)
  rw [lg_entry_eq]
  generalize (lg_sl (As.map (am_v ρ.1)) ++ List.replicate (M.2.2.1 - (lg_sl (As.map (am_v ρ.1))).length) Slot.unset).toArray = ls at hl ⊢
  rw [am_args] at hl
  have hC : am_Cx l ρ d M E g.2.1 g.2.2 p e { frames := d, cells := E.2.1 - g.2.1, slots := E.2.2 - g.2.2, locals := 64 * d } s m (As.map (am_v ρ.1)).toArray below meth c (va_A (am_ws ρ g.1 H) s.heap.size) :=
    ⟨B.exec, B.bytes, hml, findClass_of_methodNamed B.named, atoms_spec (ws := am_wd M) B.pre |> fun z w hw => z w (List.mem_cons_of_mem _ hw), fun z => (name_of_methodNamed B.named B.method).1.trans z, hAt, fun q hq => Or.inr hq, ⟨Nat.le_refl _, Nat.le_refl _⟩, Nat.le_refl _, Nat.le_refl _⟩
  have key := h p e _ s m _ below meth c _ (MQ below (am_Qc ρ g H E Q s.heap.size) (As.map (am_v ρ.1)).toArray s (E.2.1 - g.2.1) (E.2.2 - g.2.2) (va_A (am_ws ρ g.1 H) s.heap.size)) g.2.1 g.2.2 hC ?_ s.heap [] ls ⟨hP, hD0.self, va_S.rf, fun z => by rw [Nat.sub_self]; exact hT z, hZ⟩ hl (Nat.le_refl _) (Nat.le_refl _)
  · rw [Nat.sub_self, Nat.sub_self] at key
    exact key
  · intro Hc locs ls' pcr v H' hrt hq hR
    have hfin : ∀ (v : List Value), v.length ≤ 1 → v.map (am_v ρ.1) = v → Q v H' → ∀ t : State, t.heap = Hc → s.WarmedH t.vm → am_Qc ρ g H E Q s.heap.size (As.map (am_v ρ.1)).toArray s (.returned v.head?) t := by
      intro v hv1 hv2 hv t ht hW
      refine ⟨⟨v, H', rfl, hv1, hv2, hv, by rw [ht]; exact hR.1, hR.2.1, hR.2.2.2.1, hR.2.2.2.2⟩, hR.2.2.1.F ht⟩
    match v, hrt, hq with
    | [], hrt, hq =>
      rcases hrt with hrt | hrt
      · exact W.vret B.exec B.bytes (hr.trans hrt.2) (hfin [] (by simp) rfl hq.1) hR.2.2.1.2.2 hrt.1
      · exact absurd hrt.1 hnr
    | [.int x], hrt, hq =>
      obtain ⟨a1, ty, a2, a3⟩ := hrt
      exact W.zret B.exec B.bytes (hr.trans a2) a3 (hfin [.int x] (by simp) rfl hq.1) hR.2.2.1.2.2 a1
    | [.long x], hrt, hq => exact W.lret B.exec B.bytes (hr.trans hrt.2) (hfin [.long x] (by simp) rfl hq.1) hR.2.2.1.2.2 hrt.1
/-- a method that can be called: its words -/
def am_ok (M : am_M) (n : Nat) : Prop := plainName M.1.cls = true ∧ Cond.code M.1 M.2.1 M.2.2.1 M.2.2.2 ∈ am_T ∧ Cond.initialized M.1.cls ∈ am_T ∧ (M.1.cls ≠ "java/lang/invoke/MethodHandle" ∧ M.1.cls ≠ "java/lang/invoke/VarHandle" ∧ (parseMethodDescriptor M.1.desc).map (fun d => d.parameters.length) = some n) ∧ M.2.2.1 ≤ 45 ∧ ¬ (M.1.cls = RX11 ∧ M.1.name = "rider")
/-- the counters of a callee's end fit -/
def am_le (g g1 E : am_G) : Prop := g.2.1 ≤ g1.2.1 ∧ g.2.2 ≤ g1.2.2 ∧ g1.2.1 ≤ E.2.1 ∧ g1.2.2 ≤ E.2.2 ∧ (g1.1.length = g1.2.1 → g.1.length = g.2.1)
theorem am_le_rf (g : am_G) : am_le g g g := ⟨Nat.le_refl _, Nat.le_refl _, Nat.le_refl _, Nat.le_refl _, fun h => h⟩
theorem am_blind {ρ : am_R} {As : List Value} {g : am_G} {H : am_H} {sz : Nat} : FrameBlind (am_Pc ρ As g H sz) := by
  intro a U gf mk q
  obtain ⟨q1, q2, q3, q4⟩ := q
  exact ⟨q1, q2, am_At.moved q3 (State.WarmedH.refl U) (Nat.le_refl _) (fun _ _ _ => rfl) (fun _ h => h), q4⟩
section AMC
variable {l : Launch} {ρ : am_R} {d : Nat} {M : am_M} {pc : Nat} {L : List (Nat × Value)} {S : List Value} {g E : am_G} {H : am_H} {Q : List Value → am_H → Prop}
variable {p : Program} {e : Env} {R : Room} {s : State} {m : MethodId} {args : Array Value} {below : List Frame} {meth : Method} {c : Code} {A : Nat → Prop} {QQ : State → Prop} {n0 k0 : Nat} {Hc : Heap} {locs : List Loc} {ls : Array Slot}
theorem am_start {As : List Value} (hC : am_Cx l ρ d M E n0 k0 p e R s m args below meth c A) (hR : am_Rel ρ A s n0 g H Hc locs) (ht : g.1.length = g.2.1 → Hc.size = ρ.1 g.1.length) : ∀ U : State, U.heap = Hc → s.WarmedH U.vm → am_Pc ρ As g H Hc.size (As.map (am_v ρ.1)).toArray U := by
  intro U hU hW
  have hA := va_free (wc := am_ws ρ g.1 H) hR.2.1 hR.2.2.1 hC.2.2.2.2.2.2.2.1 (List.range g.1.length) (by
    apply List.ext_getElem?
    intro j
    rw [List.getElem?_map, List.getElem?_map]
    by_cases hj : j < g.1.length
    · rw [List.getElem?_range hj]
      have hj' : g.1[j]? = some g.1[j] := List.getElem?_eq_getElem hj
      simp [am_ws_get hj']
    · rw [List.getElem?_eq_none (by simpa using hj), List.getElem?_eq_none (by rw [am_ws_len]; omega)]; rfl)
  exact ⟨rfl, by rw [hU], hC.2.2.2.2.2.2.1.moved hW (by rw [hU]; exact hR.2.2.1.1) (fun a h1 h2 => by rw [hU]; exact hR.2.2.1.2.1 a h1 h2) hA, by rw [hU]; exact hR.1, hR.2.1.weaken (fun _ _ _ _ => trivial), ht, hR.2.2.2.2⟩
theorem am_back {g1 : am_G} {Q1 : List Value → am_H → Prop} {S0 : List Value} {a : Array Value} (hC : am_Cx l ρ d M E n0 k0 p e R s m args below meth c A) (hR : am_Rel ρ A s n0 g H Hc locs) (h1 : n0 ≤ g.2.1) (h2 : k0 ≤ g.2.2) (hle : am_le g g1 E) {st : List Value}
    (hr : va_Run p l e R s m args below meth c Hc locs (g.2.1 - n0) (g.2.2 - k0) (g1.2.1 - g.2.1) (g1.2.2 - g.2.2) (F0 m pc ls st) (S0.map (am_v ρ.1)) (am_Qc ρ g H g1 Q1 Hc.size a) (va_A (am_ws ρ g.1 H) Hc.size))
    (kk : ∀ (v : List Value) (H1 : am_H) (Hc1 : Heap) (locs1 : List Loc), Q1 v H1 → am_Rel ρ A s n0 g1 H1 Hc1 locs1 → W p l e R s m args below meth c Hc1 locs1 (g1.2.1 - n0) (g1.2.2 - k0) QQ (F0 m (pc + 3) ls ((v ++ S0).map (am_v ρ.1)))) :
    W p l e R s m args below meth c Hc locs (g.2.1 - n0) (g.2.2 - k0) QQ (F0 m pc ls st) := by
  intro T hT X
  obtain ⟨v, st₀, t, T', Lc, h0, X', hL, e1, e2, ⟨⟨v', H', hv, hv1, hv2, hq, hP', hD', hT', hZ'⟩, hz, hk⟩, stp⟩ := hr T hT X
  have hA : ∀ q, va_A (am_ws ρ g.1 H) Hc.size q → A q := va_free (wc := am_ws ρ g.1 H) hR.2.1 hR.2.2.1 hC.2.2.2.2.2.2.2.1 (List.range g.1.length) (by
    apply List.ext_getElem?
    intro j
    rw [List.getElem?_map, List.getElem?_map]
    by_cases hj : j < g.1.length
    · rw [List.getElem?_range hj]
      have hj' : g.1[j]? = some g.1[j] := List.getElem?_eq_getElem hj
      simp [am_ws_get hj']
    · rw [List.getElem?_eq_none (by simpa using hj), List.getElem?_eq_none (by rw [am_ws_len]; omega)]; rfl)
  have hS := hR.2.2.1
  rw [h0] at hz hk
  have hsz : g.1.length = g.2.1 → Hc.size = ρ.1 g.1.length := fun z => am_size hC.2.2.2.2.2.2.1.2.1 hT X hR h1 z
  obtain ⟨l1, l2, l3, l4, l5⟩ := hle
  have c1 : g.2.1 - n0 + (g1.2.1 - g.2.1) = g1.2.1 - n0 := by omega
  have c2 : g.2.2 - k0 + (g1.2.2 - g.2.2) = g1.2.2 - k0 := by omega
  rw [c1, c2] at X'
  have hv3 : v = v'.head? := by injection hv
  have hrel : am_Rel ρ A s n0 g1 H' T'.heap (locs ++ Lc) := by
    refine ⟨by rw [e1]; exact hP', hD'.weaken (fun _ q _ h => hA q.1 h), ⟨Nat.le_trans hS.1 (by rw [e1]; exact hz), fun q h1 h2 => by rw [e1, hk q (Nat.lt_of_lt_of_le h1 hS.1) (fun z => h2 (hA q z))]; exact hS.2.1 q h1 h2, fun q hq => by
      rcases List.mem_append.mp hq with h | h
      · exact hS.2.2 q h
      · exact hA _ (hL q h)⟩, fun z => ?_, hZ'⟩
    have z1 := hT' z
    have z2 := hsz (l5 z)
    have z3 := hR.2.2.2.1 (l5 z)
    omega
  obtain ⟨t2, a1, b1⟩ := kk v' H' T'.heap (locs ++ Lc) hq hrel T' rfl X'
  refine ⟨t2, stp t2 ?_, b1⟩
  have e3 : v.toList ++ S0.map (am_v ρ.1) = (v' ++ S0).map (am_v ρ.1) := by
    rw [hv3, List.map_append, hv2]
    match v', hv1 with
    | [], _ => rfl
    | [x], _ => rfl
  rw [← e3] at a1
  exact a1
theorem am_callB {M' : am_M} {n mc ms d' : Nat} (hm : am_ok M' n) (hts : ∀ w ∈ am_T, w.before args s = true) (hR : d' + 1 ≤ R.frames ∧ 64 * (d' + 1) ≤ R.locals) :
    ({ frames := d', cells := mc, slots := ms, locals := 64 * d' } : Room).cells = mc ∧ ({ frames := d', cells := mc, slots := ms, locals := 64 * d' } : Room).slots = ms ∧ ({ frames := d', cells := mc, slots := ms, locals := 64 * d' } : Room).frames + 1 ≤ R.frames ∧ 8 + (M'.2.2.1 + 11) + ({ frames := d', cells := mc, slots := ms, locals := 64 * d' } : Room).locals ≤ R.locals ∧
    (∀ w ∈ am_wd M', ∀ (a' : Array Value) (U : State), s.WarmedH U.vm → w.before a' U = true) ∧ Cond.code M'.1 M'.2.1 M'.2.2.1 M'.2.2.2 ∈ am_wd M' ∧ (Cond.code M'.1 M'.2.1 M'.2.2.1 M'.2.2.2).before args s = true ∧ (Cond.initialized M'.1.cls).before args s = true ∧ (M'.1.cls ≠ "java/lang/invoke/MethodHandle" ∧ M'.1.cls ≠ "java/lang/invoke/VarHandle") ∧ (∀ sig, parseMethodDescriptor M'.1.desc = some sig → n = sig.parameters.length) := by
  obtain ⟨m1, m2, m3, ⟨m4, m5, m6⟩, m7, -⟩ := hm
  refine ⟨rfl, rfl, hR.1, ?_, pay_in hts (am_good m2), List.mem_cons_self, hts _ m2, hts _ m3, ⟨m4, m5⟩, fun sig hsig => ?_⟩
  · have := hR.2
    show 8 + (M'.2.2.1 + 11) + 64 * d' ≤ R.locals
    omega
  · rw [hsig] at m6
    exact (Option.some.inj m6).symm
theorem op_callV {idx n : Nat} {b : Nat} {t nf : Nat} {r : vw_C} {M' : am_M} (As : List Value) {S0 : List Value} {g1 : am_G} {Q1 : List Value → am_H → Prop} (hd : decode M.2.1 pc = .ok (.invokevirtual idx, 3)) (hlink : Cond.methodLink M.1.cls idx M'.1 ∈ am_T) (hm : am_ok M' n) (hi : Cond.instanceMethod M'.1 ∈ am_T) (hs : Cond.selects M'.1.cls M'.1 M'.1 ∈ am_T) (hg : g.1[b]? = some (t, nf)) (hr : am_cls t r) (hrc : r.1 = M'.1.cls) (hn : As.length = n) (hS : S = As.reverse ++ .ref b :: S0) (hrest : (S0.map fun v => v.category).sum ≤ 8) (hlen : (lg_sl (.ref b :: As)).length ≤ M'.2.2.1)
    (ha : AW l ρ d M' 0 (lv_args 0 (.ref b :: As)) [] g H g1 Q1) (hle : am_le g g1 E) (hb : ∀ (v : List Value) (H1 : am_H), Q1 v H1 → AW l ρ (d + 1) M (pc + 3) L (v ++ S0) g1 H1 E Q) : AW l ρ (d + 1) M pc L S g H E Q := by
  intro p e R s m args below meth c A QQ n0 k0 hC hE Hc locs ls hR hl h1 h2
  subst hS
  refine am_back (a := (Value.ref (ρ.1 b) :: As.map (am_v ρ.1)).toArray) hC hR h1 h2 hle ?_ (fun v H1 Hc1 locs1 q1 q2 => hb v H1 q1 p e R s m args below meth c A QQ n0 k0 hC hE Hc1 locs1 ls q2 hl (Nat.le_trans h1 hle.1) (Nat.le_trans h2 hle.2.1)) 
  intro T hT X
  have hsz : g.1.length = g.2.1 → Hc.size = ρ.1 g.1.length := fun z => am_size hC.2.2.2.2.2.2.1.2.1 hT X hR h1 z
  have hM := am_met (As := .ref b :: As) Hc.size hm.1 hm.2.2.2.2.2 hlen ha
  obtain ⟨b1, b2, b3, b4, b5, b6, b7, b8, b9, b10⟩ := am_callB (mc := g1.2.1 - g.2.1) (ms := g1.2.2 - g.2.2) hm hC.2.2.2.2.1 hC.2.2.2.2.2.2.2.2.1
  have hf : g.2.1 - n0 + (g1.2.1 - g.2.1) ≤ R.cells ∧ g.2.2 - k0 + (g1.2.2 - g.2.2) ≤ R.slots := by
    obtain ⟨l1, l2, l3, l4, l5⟩ := hle
    have z1 := hC.2.2.2.2.2.2.2.2.2.1
    have z2 := hC.2.2.2.2.2.2.2.2.2.2
    exact ⟨by omega, by omega⟩
  have hW : (((S0.map (am_v ρ.1)).map fun v => v.category).sum) ≤ 8 := by
    rw [List.map_map]
    have : ((fun v : Value => v.category) ∘ am_v ρ.1) = fun v => v.category := funext fun v => am_cat ρ.1 v
    rw [this]
    exact hrest
  have hw := am_ws_get (ρ := ρ) (H := H) hg
  rw [am_cell_o hr.2.1] at hw
  exact va_runV (C := M'.1.cls) (As := As.map (am_v ρ.1)) ⟨hC.1, hC.2.1, hC.2.2.1, hC.2.2.2.1, hC.2.2.2.2.1⟩ hM ⟨⟨b1, b2, b3, b4, b5, b6, b7, b8, b9, b10, hC.2.2.2.2.1 _ hlink⟩, hC.2.2.2.2.1 _ hi, hC.2.2.2.2.1 _ hs⟩ ⟨am_blind, by rw [← hrc]; exact va_recv hC.2.2.2.2.2.2.1.1 hR.1 hr.1 hw, am_start hC hR hsz⟩ rfl (by rw [List.length_map]; exact hn) hl.1 (by simp [am_v]) (lv_room hW) hd hf T hT X
theorem op_callS {idx n : Nat} {M' : am_M} (As : List Value) {S0 : List Value} {g1 : am_G} {Q1 : List Value → am_H → Prop} (hd : decode M.2.1 pc = .ok (.invokestatic idx, 3)) (hlink : Cond.methodLink M.1.cls idx M'.1 ∈ am_T) (hm : am_ok M' n) (hi : Cond.static M'.1 ∈ am_T) (hn : As.length = n) (hS : S = As.reverse ++ S0) (hrest : (S0.map fun v => v.category).sum ≤ 8) (hlen : (lg_sl (As)).length ≤ M'.2.2.1)
    (ha : AW l ρ d M' 0 (lv_args 0 (As)) [] g H g1 Q1) (hle : am_le g g1 E) (hb : ∀ (v : List Value) (H1 : am_H), Q1 v H1 → AW l ρ (d + 1) M (pc + 3) L (v ++ S0) g1 H1 E Q) : AW l ρ (d + 1) M pc L S g H E Q := by
  intro p e R s m args below meth c A QQ n0 k0 hC hE Hc locs ls hR hl h1 h2
  subst hS
  refine am_back (a := (As.map (am_v ρ.1)).toArray) hC hR h1 h2 hle ?_ (fun v H1 Hc1 locs1 q1 q2 => hb v H1 q1 p e R s m args below meth c A QQ n0 k0 hC hE Hc1 locs1 ls q2 hl (Nat.le_trans h1 hle.1) (Nat.le_trans h2 hle.2.1)) 
  intro T hT X
  have hsz : g.1.length = g.2.1 → Hc.size = ρ.1 g.1.length := fun z => am_size hC.2.2.2.2.2.2.1.2.1 hT X hR h1 z
  have hM := am_met (As := As) Hc.size hm.1 hm.2.2.2.2.2 hlen ha
  obtain ⟨b1, b2, b3, b4, b5, b6, b7, b8, b9, b10⟩ := am_callB (mc := g1.2.1 - g.2.1) (ms := g1.2.2 - g.2.2) hm hC.2.2.2.2.1 hC.2.2.2.2.2.2.2.2.1
  have hf : g.2.1 - n0 + (g1.2.1 - g.2.1) ≤ R.cells ∧ g.2.2 - k0 + (g1.2.2 - g.2.2) ≤ R.slots := by
    obtain ⟨l1, l2, l3, l4, l5⟩ := hle
    have z1 := hC.2.2.2.2.2.2.2.2.2.1
    have z2 := hC.2.2.2.2.2.2.2.2.2.2
    exact ⟨by omega, by omega⟩
  have hW : (((S0.map (am_v ρ.1)).map fun v => v.category).sum) ≤ 8 := by
    rw [List.map_map]
    have : ((fun v : Value => v.category) ∘ am_v ρ.1) = fun v => v.category := funext fun v => am_cat ρ.1 v
    rw [this]
    exact hrest
  exact va_runS (As := As.map (am_v ρ.1)) ⟨hC.1, hC.2.1, hC.2.2.1, hC.2.2.2.1, hC.2.2.2.2.1⟩ hM ⟨⟨b1, b2, b3, b4, b5, b6, b7, b8, b9, b10, hC.2.2.2.2.1 _ hlink⟩, hC.2.2.2.2.1 _ hi⟩ ⟨am_blind, am_start hC hR hsz⟩ rfl (by rw [List.length_map]; exact hn) hl.1 (by simp) (lv_room hW) hd hf T hT X
theorem op_callSN {idx n : Nat} {host : String} {M' : am_M} (As : List Value) {S0 : List Value} {g1 : am_G} {Q1 : List Value → am_H → Prop} (hd : decode M.2.1 pc = .ok (.invokestatic idx, 3)) (hlink : (M.1.cls, idx, M'.1, host) ∈ am_nest) (hm : am_ok M' n) (hi : Cond.static M'.1 ∈ am_T) (hn : As.length = n) (hS : S = As.reverse ++ S0) (hrest : (S0.map fun v => v.category).sum ≤ 8) (hlen : (lg_sl (As)).length ≤ M'.2.2.1)
    (ha : AW l ρ d M' 0 (lv_args 0 (As)) [] g H g1 Q1) (hle : am_le g g1 E) (hb : ∀ (v : List Value) (H1 : am_H), Q1 v H1 → AW l ρ (d + 1) M (pc + 3) L (v ++ S0) g1 H1 E Q) : AW l ρ (d + 1) M pc L S g H E Q := by
  intro p e R s m args below meth c A QQ n0 k0 hC hE Hc locs ls hR hl h1 h2
  subst hS
  refine am_back (a := (As.map (am_v ρ.1)).toArray) hC hR h1 h2 hle ?_ (fun v H1 Hc1 locs1 q1 q2 => hb v H1 q1 p e R s m args below meth c A QQ n0 k0 hC hE Hc1 locs1 ls q2 hl (Nat.le_trans h1 hle.1) (Nat.le_trans h2 hle.2.1)) 
  intro T hT X
  have hsz : g.1.length = g.2.1 → Hc.size = ρ.1 g.1.length := fun z => am_size hC.2.2.2.2.2.2.1.2.1 hT X hR h1 z
  have hM := am_met (As := As) Hc.size hm.1 hm.2.2.2.2.2 hlen ha
  obtain ⟨b1, b2, b3, b4, b5, b6, b7, b8, b9, b10⟩ := am_callB (mc := g1.2.1 - g.2.1) (ms := g1.2.2 - g.2.2) hm hC.2.2.2.2.1 hC.2.2.2.2.2.2.2.2.1
  have hf : g.2.1 - n0 + (g1.2.1 - g.2.1) ≤ R.cells ∧ g.2.2 - k0 + (g1.2.2 - g.2.2) ≤ R.slots := by
    obtain ⟨l1, l2, l3, l4, l5⟩ := hle
    have z1 := hC.2.2.2.2.2.2.2.2.2.1
    have z2 := hC.2.2.2.2.2.2.2.2.2.2
    exact ⟨by omega, by omega⟩
  have hW : (((S0.map (am_v ρ.1)).map fun v => v.category).sum) ≤ 8 := by
    rw [List.map_map]
    have : ((fun v : Value => v.category) ∘ am_v ρ.1) = fun v => v.category := funext fun v => am_cat ρ.1 v
    rw [this]
    exact hrest
  exact va_runSN (As := As.map (am_v ρ.1)) ⟨hC.1, hC.2.1, hC.2.2.1, hC.2.2.2.1, hC.2.2.2.2.1⟩ hM ⟨⟨⟨b1, b2, b3, b4, b5, b6⟩, b7, b8, b9, b10, va_Nw.use rfl (hC.2.2.2.2.2.2.1.2.2.2.2.2.2.2.2.1 _ hlink)⟩, hC.2.2.2.2.1 _ hi, trivial⟩ ⟨am_blind, am_start hC hR hsz⟩ rfl (by rw [List.length_map]; exact hn) hl.1 (by simp) (lv_room hW) hd hf T hT X
theorem op_callI {idx n : Nat} {b : Nat} {M' : am_M} (As : List Value) {S0 : List Value} {g1 : am_G} {Q1 : List Value → am_H → Prop} (hd : decode M.2.1 pc = .ok (.invokespecial idx, 3)) (hlink : Cond.methodLink M.1.cls idx M'.1 ∈ am_T) (hm : am_ok M' n) (hi : Cond.instanceMethod M'.1 ∈ am_T) (hy : M'.1.name = "<init>") (hrt : M'.2.2.2 = none) (hn : As.length = n) (hS : S = As.reverse ++ .ref b :: S0) (hrest : (S0.map fun v => v.category).sum ≤ 8) (hlen : (lg_sl (.ref b :: As)).length ≤ M'.2.2.1)
    (ha : AW l ρ d M' 0 (lv_args 0 (.ref b :: As)) [] g H g1 Q1) (hle : am_le g g1 E) (hb : ∀ (v : List Value) (H1 : am_H), Q1 v H1 → AW l ρ (d + 1) M (pc + 3) L (v ++ S0) g1 H1 E Q) : AW l ρ (d + 1) M pc L S g H E Q := by
  intro p e R s m args below meth c A QQ n0 k0 hC hE Hc locs ls hR hl h1 h2
  subst hS
  refine am_back (a := (Value.ref (ρ.1 b) :: As.map (am_v ρ.1)).toArray) hC hR h1 h2 hle ?_ (fun v H1 Hc1 locs1 q1 q2 => hb v H1 q1 p e R s m args below meth c A QQ n0 k0 hC hE Hc1 locs1 ls q2 hl (Nat.le_trans h1 hle.1) (Nat.le_trans h2 hle.2.1)) 
  intro T hT X
  have hsz : g.1.length = g.2.1 → Hc.size = ρ.1 g.1.length := fun z => am_size hC.2.2.2.2.2.2.1.2.1 hT X hR h1 z
  have hM := am_met (As := .ref b :: As) Hc.size hm.1 hm.2.2.2.2.2 hlen ha
  obtain ⟨b1, b2, b3, b4, b5, b6, b7, b8, b9, b10⟩ := am_callB (mc := g1.2.1 - g.2.1) (ms := g1.2.2 - g.2.2) hm hC.2.2.2.2.1 hC.2.2.2.2.2.2.2.2.1
  have hf : g.2.1 - n0 + (g1.2.1 - g.2.1) ≤ R.cells ∧ g.2.2 - k0 + (g1.2.2 - g.2.2) ≤ R.slots := by
    obtain ⟨l1, l2, l3, l4, l5⟩ := hle
    have z1 := hC.2.2.2.2.2.2.2.2.2.1
    have z2 := hC.2.2.2.2.2.2.2.2.2.2
    exact ⟨by omega, by omega⟩
  have hW : (((S0.map (am_v ρ.1)).map fun v => v.category).sum) ≤ 8 := by
    rw [List.map_map]
    have : ((fun v : Value => v.category) ∘ am_v ρ.1) = fun v => v.category := funext fun v => am_cat ρ.1 v
    rw [this]
    exact hrest
  rw [hrt] at b6 b7
  exact va_runI (As := As.map (am_v ρ.1)) ⟨hC.1, hC.2.1, hC.2.2.1, hC.2.2.2.1, hC.2.2.2.2.1⟩ hM ⟨⟨b1, b2, b3, b4, b5, b6, b7, b8, b9, b10, hC.2.2.2.2.1 _ hlink⟩, hy, hC.2.2.2.2.1 _ hi⟩ ⟨am_blind, am_start hC hR hsz⟩ rfl (by rw [List.length_map]; exact hn) hl.1 (by simp [am_v]) (lv_room hW) hd hf T hT X
theorem op_callIN {idx n : Nat} {b : Nat} {host : String} {M' : am_M} (As : List Value) {S0 : List Value} {g1 : am_G} {Q1 : List Value → am_H → Prop} (hd : decode M.2.1 pc = .ok (.invokespecial idx, 3)) (hlink : (M.1.cls, idx, M'.1, host) ∈ am_nest) (hm : am_ok M' n) (hi : Cond.instanceMethod M'.1 ∈ am_T) (hy : M'.1.name = "<init>") (hrt : M'.2.2.2 = none) (hn : As.length = n) (hS : S = As.reverse ++ .ref b :: S0) (hrest : (S0.map fun v => v.category).sum ≤ 8) (hlen : (lg_sl (.ref b :: As)).length ≤ M'.2.2.1)
    (ha : AW l ρ d M' 0 (lv_args 0 (.ref b :: As)) [] g H g1 Q1) (hle : am_le g g1 E) (hb : ∀ (v : List Value) (H1 : am_H), Q1 v H1 → AW l ρ (d + 1) M (pc + 3) L (v ++ S0) g1 H1 E Q) : AW l ρ (d + 1) M pc L S g H E Q := by
  intro p e R s m args below meth c A QQ n0 k0 hC hE Hc locs ls hR hl h1 h2
  subst hS
  refine am_back (a := (Value.ref (ρ.1 b) :: As.map (am_v ρ.1)).toArray) hC hR h1 h2 hle ?_ (fun v H1 Hc1 locs1 q1 q2 => hb v H1 q1 p e R s m args below meth c A QQ n0 k0 hC hE Hc1 locs1 ls q2 hl (Nat.le_trans h1 hle.1) (Nat.le_trans h2 hle.2.1)) 
  intro T hT X
  have hsz : g.1.length = g.2.1 → Hc.size = ρ.1 g.1.length := fun z => am_size hC.2.2.2.2.2.2.1.2.1 hT X hR h1 z
  have hM := am_met (As := .ref b :: As) Hc.size hm.1 hm.2.2.2.2.2 hlen ha
  obtain ⟨b1, b2, b3, b4, b5, b6, b7, b8, b9, b10⟩ := am_callB (mc := g1.2.1 - g.2.1) (ms := g1.2.2 - g.2.2) hm hC.2.2.2.2.1 hC.2.2.2.2.2.2.2.2.1
  have hf : g.2.1 - n0 + (g1.2.1 - g.2.1) ≤ R.cells ∧ g.2.2 - k0 + (g1.2.2 - g.2.2) ≤ R.slots := by
    obtain ⟨l1, l2, l3, l4, l5⟩ := hle
    have z1 := hC.2.2.2.2.2.2.2.2.2.1
    have z2 := hC.2.2.2.2.2.2.2.2.2.2
    exact ⟨by omega, by omega⟩
  have hW : (((S0.map (am_v ρ.1)).map fun v => v.category).sum) ≤ 8 := by
    rw [List.map_map]
    have : ((fun v : Value => v.category) ∘ am_v ρ.1) = fun v => v.category := funext fun v => am_cat ρ.1 v
    rw [this]
    exact hrest
  rw [hrt] at b6 b7
  exact va_runIN (As := As.map (am_v ρ.1)) ⟨hC.1, hC.2.1, hC.2.2.1, hC.2.2.2.1, hC.2.2.2.2.1⟩ hM ⟨⟨⟨b1, b2, b3, b4, b5, b6⟩, b7, b8, b9, b10, va_Nw.use rfl (hC.2.2.2.2.2.2.1.2.2.2.2.2.2.2.2.1 _ hlink)⟩, hy, hC.2.2.2.2.1 _ hi⟩ ⟨am_blind, am_start hC hR hsz⟩ rfl (by rw [List.length_map]; exact hn) hl.1 (by simp [am_v]) (lv_room hW) hd hf T hT X
end AMC
