/-! ===== members of the JDK; making of cells; string constants ===== -/
theorem am_sum {α : Nat → Nat} (S : List Value) : ((S.map (am_v α)).map fun v => v.category).sum = (S.map fun v => v.category).sum := by
  rw [List.map_map]
  have : ((fun v : Value => v.category) ∘ am_v α) = fun v => v.category := funext fun v => am_cat α v
  rw [this]
section AMB
variable {l : Launch} {ρ : am_R} {d : Nat} {M : am_M} {pc : Nat} {L : List (Nat × Value)} {S : List Value} {g E : am_G} {H : am_H} {Q : List Value → am_H → Prop}
theorem op_objInit {idx i : Nat} (hd : decode M.2.1 pc = .ok (.invokespecial idx, 3)) (hlink : Cond.methodLink M.1.cls idx Lib.objectInit ∈ am_T) (hi : Cond.instanceMethod Lib.objectInit ∈ am_T) (hc : Cond.code Lib.objectInit ⟨#[0xb1]⟩ 1 none ∈ am_T) (hrest : (S.map fun v => v.category).sum ≤ 8) (h : AW l ρ (d + 1) M (pc + 3) L S g H E Q) : AW l ρ (d + 1) M pc L (.ref i :: S) g H E Q := by
  intro p e R s m args below meth c A QQ n0 k0 hC hE Hc locs ls hR hl h1 h2
  obtain ⟨r1, r2⟩ := hC.2.2.2.2.2.2.2.2.1
  refine W.objInit hC.1 hC.2.1 hC.2.2.2.1 (hC.2.2.2.2.1 _ hlink) (hC.2.2.2.2.1 _ hi) (hC.2.2.2.2.1 _ hc) rfl (hl.1.trans hC.2.2.1.symm) rfl hd (by omega) ?_ (h p e R s m args below meth c A QQ n0 k0 hC hE Hc locs ls hR hl h1 h2)
  rw [am_sum]
  show 2 * 0 + _ + 12 ≤ _
  omega
theorem op_mmax {idx : Nat} {x y : Int32} (hd : decode M.2.1 pc = .ok (.invokestatic idx, 3)) (hlink : Cond.methodLink M.1.cls idx Lib.Math.max.name ∈ am_T) (hs : Cond.static Lib.Math.max.name ∈ am_T) (hi : Cond.initialized "java/lang/Math" ∈ am_T) (hc : Cond.code Lib.Math.max.name Lib.Math.max.code 2 (some .int) ∈ am_T) (hrest : (S.map fun v => v.category).sum ≤ 8) (hle : g.2.1 ≤ E.2.1 ∧ g.2.2 ≤ E.2.2) (h : AW l ρ (d + 1) M (pc + 3) L (.int (if x < y then y else x) :: S) g H E Q) : AW l ρ (d + 1) M pc L (.int y :: .int x :: S) g H E Q := by
  intro p e R s m args below meth c A QQ n0 k0 hC hE Hc locs ls hR hl h1 h2
  obtain ⟨⟨r1, r2⟩, r3, r4⟩ := hC.2.2.2.2.2.2.2.2
  refine va_mmax hC.1 hC.2.1 (hC.2.2.1.trans hl.1.symm) hC.2.2.2.1 (hC.2.2.2.2.1 _ hlink) (hC.2.2.2.2.1 _ hs) (hC.2.2.2.2.1 _ hi) (hC.2.2.2.2.1 _ hc) (by omega) (by rw [am_sum]; omega) (by omega) (by omega) hd (h p e R s m args below meth c A QQ n0 k0 hC hE Hc locs ls hR hl h1 h2)
theorem op_mmin {idx : Nat} {x y : Int32} (hd : decode M.2.1 pc = .ok (.invokestatic idx, 3)) (hlink : Cond.methodLink M.1.cls idx Lib.Math.min.name ∈ am_T) (hs : Cond.static Lib.Math.min.name ∈ am_T) (hi : Cond.initialized "java/lang/Math" ∈ am_T) (hc : Cond.code Lib.Math.min.name Lib.Math.min.code 2 (some .int) ∈ am_T) (hrest : (S.map fun v => v.category).sum ≤ 8) (hle : g.2.1 ≤ E.2.1 ∧ g.2.2 ≤ E.2.2) (h : AW l ρ (d + 1) M (pc + 3) L (.int (if y < x then y else x) :: S) g H E Q) : AW l ρ (d + 1) M pc L (.int y :: .int x :: S) g H E Q := by
  intro p e R s m args below meth c A QQ n0 k0 hC hE Hc locs ls hR hl h1 h2
  obtain ⟨⟨r1, r2⟩, r3, r4⟩ := hC.2.2.2.2.2.2.2.2
  refine va_mmin hC.1 hC.2.1 (hC.2.2.1.trans hl.1.symm) hC.2.2.2.1 (hC.2.2.2.2.1 _ hlink) (hC.2.2.2.2.1 _ hs) (hC.2.2.2.2.1 _ hi) (hC.2.2.2.2.1 _ hc) (by omega) (by rw [am_sum]; omega) (by omega) (by omega) hd (h p e R s m args below meth c A QQ n0 k0 hC hE Hc locs ls hR hl h1 h2)
theorem op_mmaxL {idx : Nat} {x y : Int64} (hd : decode M.2.1 pc = .ok (.invokestatic idx, 3)) (hlink : Cond.methodLink M.1.cls idx Lib.MathLoose.max_long.x ∈ am_T) (hs : Cond.static Lib.MathLoose.max_long.x ∈ am_T) (hi : Cond.initialized "java/lang/Math" ∈ am_T) (hc : Cond.code Lib.MathLoose.max_long.x Lib.MathLoose.max_long.code 4 (some .long) ∈ am_T) (hrest : (S.map fun v => v.category).sum ≤ 8) (hle : g.2.1 ≤ E.2.1 ∧ g.2.2 ≤ E.2.2) (h : AW l ρ (d + 1) M (pc + 3) L (.long (if y < x then x else y) :: S) g H E Q) : AW l ρ (d + 1) M pc L (.long y :: .long x :: S) g H E Q := by
  intro p e R s m args below meth c A QQ n0 k0 hC hE Hc locs ls hR hl h1 h2
  obtain ⟨⟨r1, r2⟩, r3, r4⟩ := hC.2.2.2.2.2.2.2.2
  refine va_mmax_long hC.1 hC.2.1 (hC.2.2.1.trans hl.1.symm) hC.2.2.2.1 (hC.2.2.2.2.1 _ hlink) (hC.2.2.2.2.1 _ hs) (hC.2.2.2.2.1 _ hi) (hC.2.2.2.2.1 _ hc) (by omega) (by rw [am_sum]; omega) (by omega) (by omega) hd (h p e R s m args below meth c A QQ n0 k0 hC hE Hc locs ls hR hl h1 h2)
theorem op_mminL {idx : Nat} {x y : Int64} (hd : decode M.2.1 pc = .ok (.invokestatic idx, 3)) (hlink : Cond.methodLink M.1.cls idx Lib.MathLoose.min_long.x ∈ am_T) (hs : Cond.static Lib.MathLoose.min_long.x ∈ am_T) (hi : Cond.initialized "java/lang/Math" ∈ am_T) (hc : Cond.code Lib.MathLoose.min_long.x Lib.MathLoose.min_long.code 4 (some .long) ∈ am_T) (hrest : (S.map fun v => v.category).sum ≤ 8) (hle : g.2.1 ≤ E.2.1 ∧ g.2.2 ≤ E.2.2) (h : AW l ρ (d + 1) M (pc + 3) L (.long (if y < x then y else x) :: S) g H E Q) : AW l ρ (d + 1) M pc L (.long y :: .long x :: S) g H E Q := by
  intro p e R s m args below meth c A QQ n0 k0 hC hE Hc locs ls hR hl h1 h2
  obtain ⟨⟨r1, r2⟩, r3, r4⟩ := hC.2.2.2.2.2.2.2.2
  refine va_mmin_long hC.1 hC.2.1 (hC.2.2.1.trans hl.1.symm) hC.2.2.2.1 (hC.2.2.2.2.1 _ hlink) (hC.2.2.2.2.1 _ hs) (hC.2.2.2.2.1 _ hi) (hC.2.2.2.2.1 _ hc) (by omega) (by rw [am_sum]; omega) (by omega) (by omega) hd (h p e R s m args below meth c A QQ n0 k0 hC hE Hc locs ls hR hl h1 h2)
theorem op_mabsL {idx : Nat} {x : Int64} (hd : decode M.2.1 pc = .ok (.invokestatic idx, 3)) (hlink : Cond.methodLink M.1.cls idx Lib.MathLoose.abs_long.x ∈ am_T) (hs : Cond.static Lib.MathLoose.abs_long.x ∈ am_T) (hi : Cond.initialized "java/lang/Math" ∈ am_T) (hc : Cond.code Lib.MathLoose.abs_long.x Lib.MathLoose.abs_long.code 2 (some .long) ∈ am_T) (hrest : (S.map fun v => v.category).sum ≤ 8) (hle : g.2.1 ≤ E.2.1 ∧ g.2.2 ≤ E.2.2) (h : AW l ρ (d + 1) M (pc + 3) L (.long (if 0 < x then x else -x) :: S) g H E Q) : AW l ρ (d + 1) M pc L (.long x :: S) g H E Q := by
  intro p e R s m args below meth c A QQ n0 k0 hC hE Hc locs ls hR hl h1 h2
  obtain ⟨⟨r1, r2⟩, r3, r4⟩ := hC.2.2.2.2.2.2.2.2
  refine va_mabs_long hC.1 hC.2.1 (hC.2.2.1.trans hl.1.symm) hC.2.2.2.1 (hC.2.2.2.2.1 _ hlink) (hC.2.2.2.2.1 _ hs) (hC.2.2.2.2.1 _ hi) (hC.2.2.2.2.1 _ hc) (by omega) (by rw [am_sum]; omega) (by omega) (by omega) hd (h p e R s m args below meth c A QQ n0 k0 hC hE Hc locs ls hR hl h1 h2)
theorem op_copyi {idx i j n0' n1 : Nat} {sp dp n : Int32} (hd : decode M.2.1 pc = .ok (.invokestatic idx, 3)) (hlink : Cond.methodLink M.1.cls idx arraycopyName ∈ am_T) (hnat : Cond.native arraycopyName ∈ am_T) (hs : Cond.static arraycopyName ∈ am_T) (hi : Cond.initialized "java/lang/System" ∈ am_T) (hg0 : g.1[i]? = some (50, n0')) (hg1 : g.1[j]? = some (50, n1)) (q1 : ¬ sp < 0) (q2 : ¬ dp < 0) (q3 : ¬ n < 0) (q4 : sp.toNatClampNeg + n.toNatClampNeg ≤ n0') (q5 : dp.toNatClampNeg + n.toNatClampNeg ≤ n1) (hrest : (S.map fun v => v.category).sum ≤ 8) (h : AW l ρ (d + 1) M (pc + 3) L S g (am_row H.1 j (va_cpy (H.1 i) (H.1 j) sp.toNatClampNeg dp.toNatClampNeg n.toNatClampNeg), H.2) E Q) : AW l ρ (d + 1) M pc L (.int n :: .int dp :: .ref j :: .int sp :: .ref i :: S) g H E Q := by
  intro p e R s m args below meth c A QQ n0 k0 hC hE Hc locs ls hR hl h1 h2
  obtain ⟨⟨r1, r2⟩, r3, r4⟩ := hC.2.2.2.2.2.2.2.2
  obtain ⟨hP, hD, hS, hT, hZ⟩ := hR
  have hw0 := am_ws_get (ρ := ρ) (H := H) hg0
  have hw1 := am_ws_get (ρ := ρ) (H := H) hg1
  have hset := am_ws_set (ρ := ρ) (H := H) (H' := (am_row H.1 j (va_cpy (H.1 i) (H.1 j) sp.toNatClampNeg dp.toNatClampNeg n.toNatClampNeg), H.2)) hg1 (fun a r ha => am_cell_eq (fun k => by simp [am_row, ha]) (fun k => by simp [am_row, ha]) (fun k => by simp [am_row, ha]) r)
  have e1 : am_cell ρ (am_row H.1 j (va_cpy (H.1 i) (H.1 j) sp.toNatClampNeg dp.toNatClampNeg n.toNatClampNeg), H.2) j (50, n1) = .inl (ρ.2.1 0, n1, .inl (va_cpy (H.1 i) (H.1 j) sp.toNatClampNeg dp.toNatClampNeg n.toNatClampNeg)) := by
    rw [am_cell_i]
    congr
    funext a
    simp [am_row]
  rw [am_cell_i] at hw0 hw1
  rw [e1] at hset
  have hnf : nativeFrameWords "java/lang/System" "arraycopy" 5 = 7 := by decide +kernel
  refine va_copyi hC.1 hC.2.1 (hC.2.2.1.trans hl.1.symm) hC.2.2.2.1 (hC.2.2.2.2.1 _ hlink) (hC.2.2.2.2.1 _ hnat) (hC.2.2.2.2.1 _ hs) (hC.2.2.2.2.1 _ hi) hC.2.2.2.2.2.2.1.1 hP hD hS i j 0 0 hw0 hw1 rfl rfl rfl q1 q2 q3 q4 q5 (fun _ _ => rfl) (by omega) (by rw [am_sum, hnf]; omega) hd ?_
  rw [hset]
  exact fun H1 locs1 a1 a2 a3 => h p e R s m args below meth c A QQ n0 k0 hC hE H1 locs1 ls ⟨a1, a2, a3, hT, hZ⟩ hl h1 h2
theorem op_copyl {idx i j n0' n1 : Nat} {sp dp n : Int32} (hd : decode M.2.1 pc = .ok (.invokestatic idx, 3)) (hlink : Cond.methodLink M.1.cls idx arraycopyName ∈ am_T) (hnat : Cond.native arraycopyName ∈ am_T) (hs : Cond.static arraycopyName ∈ am_T) (hi : Cond.initialized "java/lang/System" ∈ am_T) (hg0 : g.1[i]? = some (51, n0')) (hg1 : g.1[j]? = some (51, n1)) (q1 : ¬ sp < 0) (q2 : ¬ dp < 0) (q3 : ¬ n < 0) (q4 : sp.toNatClampNeg + n.toNatClampNeg ≤ n0') (q5 : dp.toNatClampNeg + n.toNatClampNeg ≤ n1) (hrest : (S.map fun v => v.category).sum ≤ 8) (h : AW l ρ (d + 1) M (pc + 3) L S g (H.1, am_row H.2.1 j (va_cpy (H.2.1 i) (H.2.1 j) sp.toNatClampNeg dp.toNatClampNeg n.toNatClampNeg), H.2.2) E Q) : AW l ρ (d + 1) M pc L (.int n :: .int dp :: .ref j :: .int sp :: .ref i :: S) g H E Q := by
  intro p e R s m args below meth c A QQ n0 k0 hC hE Hc locs ls hR hl h1 h2
  obtain ⟨⟨r1, r2⟩, r3, r4⟩ := hC.2.2.2.2.2.2.2.2
  obtain ⟨hP, hD, hS, hT, hZ⟩ := hR
  have hw0 := am_ws_get (ρ := ρ) (H := H) hg0
  have hw1 := am_ws_get (ρ := ρ) (H := H) hg1
  have hset := am_ws_set (ρ := ρ) (H := H) (H' := (H.1, am_row H.2.1 j (va_cpy (H.2.1 i) (H.2.1 j) sp.toNatClampNeg dp.toNatClampNeg n.toNatClampNeg), H.2.2)) hg1 (fun a r ha => am_cell_eq (fun k => by simp [am_row, ha]) (fun k => by simp [am_row, ha]) (fun k => by simp [am_row, ha]) r)
  have e1 : am_cell ρ (H.1, am_row H.2.1 j (va_cpy (H.2.1 i) (H.2.1 j) sp.toNatClampNeg dp.toNatClampNeg n.toNatClampNeg), H.2.2) j (51, n1) = .inl (ρ.2.1 1, n1, .inr (.inl (va_cpy (H.2.1 i) (H.2.1 j) sp.toNatClampNeg dp.toNatClampNeg n.toNatClampNeg))) := by
    rw [am_cell_l]
    congr
    funext a
    simp [am_row]
  rw [am_cell_l] at hw0 hw1
  rw [e1] at hset
  have hnf : nativeFrameWords "java/lang/System" "arraycopy" 5 = 7 := by decide +kernel
  refine va_copyl hC.1 hC.2.1 (hC.2.2.1.trans hl.1.symm) hC.2.2.2.1 (hC.2.2.2.2.1 _ hlink) (hC.2.2.2.2.1 _ hnat) (hC.2.2.2.2.1 _ hs) (hC.2.2.2.2.1 _ hi) hC.2.2.2.2.2.2.1.1 hP hD hS i j 1 1 hw0 hw1 rfl rfl rfl q1 q2 q3 q4 q5 (fun _ _ => rfl) (by omega) (by rw [am_sum, hnf]; omega) hd ?_
  rw [hset]
  exact fun H1 locs1 a1 a2 a3 => h p e R s m args below meth c A QQ n0 k0 hC hE H1 locs1 ls ⟨a1, a2, a3, hT, hZ⟩ hl h1 h2
/-- what a heap is with a new cell -/
def am_new (H : am_H) (n : Nat) : am_H := (am_row H.1 n (fun _ => 0), am_row H.2.1 n (fun _ => 0), am_row H.2.2 n (fun _ => none))
theorem am_new_o {H : am_H} {n j : Nat} (h : j ≠ n) (r : Nat × Nat) : am_cell ρ (am_new H n) j r = am_cell ρ H j r := am_cell_eq (fun k => by simp [am_new, am_row, h]) (fun k => by simp [am_new, am_row, h]) (fun k => by simp [am_new, am_row, h]) r
theorem am_new_v (H : am_H) (n k : Nat) (ty : FieldType) (h : ty ≠ .float ∧ ty ≠ .double) : am_fv ρ.1 (am_new H n) ty n k = defaultValue ty := by
  cases ty <;> first | (exfalso; exact h.1 rfl) | (exfalso; exact h.2 rfl) | simp [am_fv, am_new, am_row, defaultValue, va_rf]
theorem op_new {idx t : Nat} {r : vw_C} (hd : decode M.2.1 pc = .ok (.new idx, 3)) (hr : am_cls t r) (hcl : Cond.classLink M.1.cls idx r.1 ∈ am_T) (hinst : Cond.instantiable r.1 r.2.2 ∈ am_T) (hini : Cond.initialized r.1 ∈ am_T) (hfl : ∀ k, k < r.2.2 → am_ty t k ≠ .float ∧ am_ty t k ≠ .double) (ht : g.1.length = g.2.1) (hlt : g.1.length < 900) (hle : g.2.1 + 1 ≤ E.2.1 ∧ g.2.2 + r.2.2 ≤ E.2.2)
    (h : AW l ρ d M (pc + 3) L (.ref g.1.length :: S) (g.1 ++ [(t, r.2.2)], g.2.1 + 1, g.2.2 + r.2.2) (am_new H g.1.length) E Q) : AW l ρ d M pc L S g H E Q := by
  intro p e R s m args below meth c A QQ n0 k0 hC hE Hc locs ls hR hl h1 h2
  intro T hT X
  have hsz : Hc.size = ρ.1 g.1.length := am_size hC.2.2.2.2.2.2.1.2.1 hT X hR h1 ht
  obtain ⟨⟨r1, r2⟩, r3, r4⟩ := hC.2.2.2.2.2.2.2.2
  obtain ⟨c1, c2, c3, c4, c5⟩ := hr
  have hts := hC.2.2.2.2.1
  have hK := hC.2.2.2.2.2.2.1.1
  have hKn := hK.1 t _ c1
  obtain ⟨hP, hD, hS, hTt, hZ⟩ := hR
  suffices key : W p l e R s m args below meth c Hc locs (g.2.1 - n0) (g.2.2 - k0) QQ (F0 m pc ls (S.map (am_v ρ.1))) from key T hT X
  refine W.newcK hC.1 hC.2.1 hC.2.2.2.1 (hts _ hcl) (hts _ hinst) (hts _ hini) rfl hd (by omega) (by omega) hKn.2.1 rfl (fun H1 kC hkC e1 z1 o1 => ?_)
  have hk : ∀ (k : Nat) (x : Nat × va_E), (am_ws ρ g.1 H)[k]? = some x → H1[x.1]? = Hc[x.1]? := fun k x hx => o1 x.1 ((hP k x hx).lt)
  have hpush := am_ws_push (ρ := ρ) (kd := g.1) (H := H) (H' := am_new H g.1.length) (q := (t, r.2.2)) (fun j q hj => am_new_o (by omega) q)
  have hP1 : va_P ρ.2.2.1 vwCl (am_ws ρ (g.1 ++ [(t, r.2.2)]) (am_new H g.1.length)) H1 := by
    rw [← hpush]
    refine (hP.kept hk).app (fun k x hx => ?_)
    have hz : k < 1 := (List.getElem?_eq_some_iff.mp hx).1
    rw [show k = 0 by omega] at hx
    cases hx
    rw [am_cell_o c2, ← hsz]
    refine ⟨_, c1, (u_born (am_ty t) hts c3 hKn hkC e1 c4).to (fun j hj => ?_)⟩
    simp [vp_V, List.getD_eq_getElem?_getD, List.getElem?_map, List.getElem?_range hj, am_new_v H g.1.length j _ (hfl j hj)]
  have hD1 : va_D A (am_ws ρ (g.1 ++ [(t, r.2.2)]) (am_new H g.1.length)) := by
    rw [← hpush]
    exact hD.push hP hsz.symm (hC.2.2.2.2.2.2.2.1 _ (by rw [← hsz]; exact hS.1))
  have hS1 : va_S A s.heap H1 locs := ⟨Nat.le_trans hS.1 (by omega), fun x h1 h2 => (o1 x (Nat.lt_of_lt_of_le h1 hS.1)).trans (hS.2.1 x h1 h2), hS.2.2⟩
  have c6 : g.2.1 - n0 + 1 = g.2.1 + 1 - n0 := by omega
  have c7 : g.2.2 - k0 + r.2.2 = g.2.2 + r.2.2 - k0 := by omega
  rw [c6, c7]
  have h9 := h p e R s m args below meth c A QQ n0 k0 hC hE H1 locs ls ⟨hP1, hD1, hS1, fun z => ?_, by simp; omega⟩ hl (Nat.le_succ_of_le h1) (Nat.le_trans h2 (Nat.le_add_right _ _))
  · rw [List.map_cons] at h9
    rw [hsz]
    exact h9
  · have z1 := hTt ht
    have z2 := hC.2.2.2.2.2.2.1.2.1 g.1.length (by omega)
    show s.heap.size + (g.2.1 + 1 - n0) = ρ.1 (g.1 ++ [(t, r.2.2)]).length
    rw [List.length_append, List.length_singleton, z2]
    omega
theorem op_newi {n : Int32} {N : Nat} (hd : decode M.2.1 pc = .ok (.newarray .int, 2)) (harr : Cond.arrayClass .int ∈ am_T) (hn : ¬ n < 0) (hN : n.toNatClampNeg = N) (hbytes : N * 8 ≤ 536870912) (ht : g.1.length = g.2.1) (hlt : g.1.length < 900) (hle : g.2.1 + 1 ≤ E.2.1 ∧ g.2.2 + N ≤ E.2.2)
    (h : AW l ρ d M (pc + 2) L (.ref g.1.length :: S) (g.1 ++ [(50, N)], g.2.1 + 1, g.2.2 + N) (am_new H g.1.length) E Q) : AW l ρ d M pc L (.int n :: S) g H E Q := by
  intro p e R s m args below meth c A QQ n0 k0 hC hE Hc locs ls hR hl h1 h2
  intro T hT X
  have hsz : Hc.size = ρ.1 g.1.length := am_size hC.2.2.2.2.2.2.1.2.1 hT X hR h1 ht
  obtain ⟨⟨r1, r2⟩, r3, r4⟩ := hC.2.2.2.2.2.2.2.2
  have hts := hC.2.2.2.2.1
  have hK := hC.2.2.2.2.2.2.1.1
  obtain ⟨hP, hD, hS, hTt, hZ⟩ := hR
  suffices key : W p l e R s m args below meth c Hc locs (g.2.1 - n0) (g.2.2 - k0) QQ (F0 m pc ls ((Value.int n :: S).map (am_v ρ.1))) from key T hT X
  refine va_newaK (atype := .int) (N := N) hC.1 hC.2.1 (hts _ harr) rfl hd rfl hn hN (by show N * componentBytes .int ≤ _; simp [componentBytes]; omega) (by omega) (by omega) rfl (fun H1 cA e1 z1 o1 hAr hNm => ?_)
  have hcA : cA = ρ.2.1 0 := by
    have q := (hK.2 0 _ rfl).2
    exact Option.some.inj (hNm.symm.trans q)
  subst hcA
  have hk : ∀ (k : Nat) (x : Nat × va_E), (am_ws ρ g.1 H)[k]? = some x → H1[x.1]? = Hc[x.1]? := fun k x hx => o1 x.1 ((hP k x hx).lt)
  have hpush := am_ws_push (ρ := ρ) (kd := g.1) (H := H) (H' := am_new H g.1.length) (q := (50, N)) (fun j q hj => am_new_o (by omega) q)
  have hP1 : va_P ρ.2.2.1 vwCl (am_ws ρ (g.1 ++ [(50, N)]) (am_new H g.1.length)) H1 := by
    rw [← hpush]
    refine (hP.kept hk).app (fun k x hx => ?_)
    have hz : k < 1 := (List.getElem?_eq_some_iff.mp hx).1
    rw [show k = 0 by omega] at hx
    cases hx
    rw [am_cell_i, ← hsz]
    show H1[Hc.size]? = some (vp_cell _ _)
    rw [e1]
    simp [vp_cell, am_new, am_row, defaultValue, newarray.typeOf]
  have hD1 : va_D A (am_ws ρ (g.1 ++ [(50, N)]) (am_new H g.1.length)) := by
    rw [← hpush]
    exact hD.push hP hsz.symm (hC.2.2.2.2.2.2.2.1 _ (by rw [← hsz]; exact hS.1))
  have hS1 : va_S A s.heap H1 locs := ⟨Nat.le_trans hS.1 (by omega), fun x h1 h2 => (o1 x (Nat.lt_of_lt_of_le h1 hS.1)).trans (hS.2.1 x h1 h2), hS.2.2⟩
  have c6 : g.2.1 - n0 + 1 = g.2.1 + 1 - n0 := by omega
  have c7 : g.2.2 - k0 + N = g.2.2 + N - k0 := by omega
  rw [c6, c7]
  have h9 := h p e R s m args below meth c A QQ n0 k0 hC hE H1 locs ls ⟨hP1, hD1, hS1, fun z => ?_, by simp; omega⟩ hl (Nat.le_succ_of_le h1) (Nat.le_trans h2 (Nat.le_add_right _ _))
  · rw [List.map_cons] at h9
    rw [hsz]
    exact h9
  · have z1 := hTt ht
    have z2 := hC.2.2.2.2.2.2.1.2.1 g.1.length (by omega)
    show s.heap.size + (g.2.1 + 1 - n0) = ρ.1 (g.1 ++ [(50, N)]).length
    rw [List.length_append, List.length_singleton, z2]
    omega
theorem op_newl {n : Int32} {N : Nat} (hd : decode M.2.1 pc = .ok (.newarray .long, 2)) (harr : Cond.arrayClass .long ∈ am_T) (hn : ¬ n < 0) (hN : n.toNatClampNeg = N) (hbytes : N * 8 ≤ 536870912) (ht : g.1.length = g.2.1) (hlt : g.1.length < 900) (hle : g.2.1 + 1 ≤ E.2.1 ∧ g.2.2 + N ≤ E.2.2)
    (h : AW l ρ d M (pc + 2) L (.ref g.1.length :: S) (g.1 ++ [(51, N)], g.2.1 + 1, g.2.2 + N) (am_new H g.1.length) E Q) : AW l ρ d M pc L (.int n :: S) g H E Q := by
  intro p e R s m args below meth c A QQ n0 k0 hC hE Hc locs ls hR hl h1 h2
  intro T hT X
  have hsz : Hc.size = ρ.1 g.1.length := am_size hC.2.2.2.2.2.2.1.2.1 hT X hR h1 ht
  obtain ⟨⟨r1, r2⟩, r3, r4⟩ := hC.2.2.2.2.2.2.2.2
  have hts := hC.2.2.2.2.1
  have hK := hC.2.2.2.2.2.2.1.1
  obtain ⟨hP, hD, hS, hTt, hZ⟩ := hR
  suffices key : W p l e R s m args below meth c Hc locs (g.2.1 - n0) (g.2.2 - k0) QQ (F0 m pc ls ((Value.int n :: S).map (am_v ρ.1))) from key T hT X
  refine va_newaK (atype := .long) (N := N) hC.1 hC.2.1 (hts _ harr) rfl hd rfl hn hN (by show N * componentBytes .long ≤ _; simp [componentBytes]; omega) (by omega) (by omega) rfl (fun H1 cA e1 z1 o1 hAr hNm => ?_)
  have hcA : cA = ρ.2.1 1 := by
    have q := (hK.2 1 _ rfl).2
    exact Option.some.inj (hNm.symm.trans q)
  subst hcA
  have hk : ∀ (k : Nat) (x : Nat × va_E), (am_ws ρ g.1 H)[k]? = some x → H1[x.1]? = Hc[x.1]? := fun k x hx => o1 x.1 ((hP k x hx).lt)
  have hpush := am_ws_push (ρ := ρ) (kd := g.1) (H := H) (H' := am_new H g.1.length) (q := (51, N)) (fun j q hj => am_new_o (by omega) q)
  have hP1 : va_P ρ.2.2.1 vwCl (am_ws ρ (g.1 ++ [(51, N)]) (am_new H g.1.length)) H1 := by
    rw [← hpush]
    refine (hP.kept hk).app (fun k x hx => ?_)
    have hz : k < 1 := (List.getElem?_eq_some_iff.mp hx).1
    rw [show k = 0 by omega] at hx
    cases hx
    rw [am_cell_l, ← hsz]
    show H1[Hc.size]? = some (vp_cell _ _)
    rw [e1]
    simp [vp_cell, am_new, am_row, defaultValue, newarray.typeOf]
  have hD1 : va_D A (am_ws ρ (g.1 ++ [(51, N)]) (am_new H g.1.length)) := by
    rw [← hpush]
    exact hD.push hP hsz.symm (hC.2.2.2.2.2.2.2.1 _ (by rw [← hsz]; exact hS.1))
  have hS1 : va_S A s.heap H1 locs := ⟨Nat.le_trans hS.1 (by omega), fun x h1 h2 => (o1 x (Nat.lt_of_lt_of_le h1 hS.1)).trans (hS.2.1 x h1 h2), hS.2.2⟩
  have c6 : g.2.1 - n0 + 1 = g.2.1 + 1 - n0 := by omega
  have c7 : g.2.2 - k0 + N = g.2.2 + N - k0 := by omega
  rw [c6, c7]
  have h9 := h p e R s m args below meth c A QQ n0 k0 hC hE H1 locs ls ⟨hP1, hD1, hS1, fun z => ?_, by simp; omega⟩ hl (Nat.le_succ_of_le h1) (Nat.le_trans h2 (Nat.le_add_right _ _))
  · rw [List.map_cons] at h9
    rw [hsz]
    exact h9
  · have z1 := hTt ht
    have z2 := hC.2.2.2.2.2.2.1.2.1 g.1.length (by omega)
    show s.heap.size + (g.2.1 + 1 - n0) = ρ.1 (g.1 ++ [(51, N)]).length
    rw [List.length_append, List.length_singleton, z2]
    omega
theorem op_newb {n : Int32} {N : Nat} (hd : decode M.2.1 pc = .ok (.newarray .byte, 2)) (harr : Cond.arrayClass .byte ∈ am_T) (hn : ¬ n < 0) (hN : n.toNatClampNeg = N) (hbytes : N * 8 ≤ 536870912) (ht : g.1.length = g.2.1) (hlt : g.1.length < 900) (hle : g.2.1 + 1 ≤ E.2.1 ∧ g.2.2 + N ≤ E.2.2)
    (h : AW l ρ d M (pc + 2) L (.ref g.1.length :: S) (g.1 ++ [(52, N)], g.2.1 + 1, g.2.2 + N) (am_new H g.1.length) E Q) : AW l ρ d M pc L (.int n :: S) g H E Q := by
  intro p e R s m args below meth c A QQ n0 k0 hC hE Hc locs ls hR hl h1 h2
  intro T hT X
  have hsz : Hc.size = ρ.1 g.1.length := am_size hC.2.2.2.2.2.2.1.2.1 hT X hR h1 ht
  obtain ⟨⟨r1, r2⟩, r3, r4⟩ := hC.2.2.2.2.2.2.2.2
  have hts := hC.2.2.2.2.1
  have hK := hC.2.2.2.2.2.2.1.1
  obtain ⟨hP, hD, hS, hTt, hZ⟩ := hR
  suffices key : W p l e R s m args below meth c Hc locs (g.2.1 - n0) (g.2.2 - k0) QQ (F0 m pc ls ((Value.int n :: S).map (am_v ρ.1))) from key T hT X
  refine va_newaK (atype := .byte) (N := N) hC.1 hC.2.1 (hts _ harr) rfl hd rfl hn hN (by show N * componentBytes .byte ≤ _; simp [componentBytes]; omega) (by omega) (by omega) rfl (fun H1 cA e1 z1 o1 hAr hNm => ?_)
  have hcA : cA = ρ.2.1 2 := by
    have q := (hK.2 2 _ rfl).2
    exact Option.some.inj (hNm.symm.trans q)
  subst hcA
  have hk : ∀ (k : Nat) (x : Nat × va_E), (am_ws ρ g.1 H)[k]? = some x → H1[x.1]? = Hc[x.1]? := fun k x hx => o1 x.1 ((hP k x hx).lt)
  have hpush := am_ws_push (ρ := ρ) (kd := g.1) (H := H) (H' := am_new H g.1.length) (q := (52, N)) (fun j q hj => am_new_o (by omega) q)
  have hP1 : va_P ρ.2.2.1 vwCl (am_ws ρ (g.1 ++ [(52, N)]) (am_new H g.1.length)) H1 := by
    rw [← hpush]
    refine (hP.kept hk).app (fun k x hx => ?_)
    have hz : k < 1 := (List.getElem?_eq_some_iff.mp hx).1
    rw [show k = 0 by omega] at hx
    cases hx
    rw [am_cell_b, ← hsz]
    show H1[Hc.size]? = some (vp_cell _ _)
    rw [e1]
    simp [vp_cell, am_new, am_row, defaultValue, newarray.typeOf]
  have hD1 : va_D A (am_ws ρ (g.1 ++ [(52, N)]) (am_new H g.1.length)) := by
    rw [← hpush]
    exact hD.push hP hsz.symm (hC.2.2.2.2.2.2.2.1 _ (by rw [← hsz]; exact hS.1))
  have hS1 : va_S A s.heap H1 locs := ⟨Nat.le_trans hS.1 (by omega), fun x h1 h2 => (o1 x (Nat.lt_of_lt_of_le h1 hS.1)).trans (hS.2.1 x h1 h2), hS.2.2⟩
  have c6 : g.2.1 - n0 + 1 = g.2.1 + 1 - n0 := by omega
  have c7 : g.2.2 - k0 + N = g.2.2 + N - k0 := by omega
  rw [c6, c7]
  have h9 := h p e R s m args below meth c A QQ n0 k0 hC hE H1 locs ls ⟨hP1, hD1, hS1, fun z => ?_, by simp; omega⟩ hl (Nat.le_succ_of_le h1) (Nat.le_trans h2 (Nat.le_add_right _ _))
  · rw [List.map_cons] at h9
    rw [hsz]
    exact h9
  · have z1 := hTt ht
    have z2 := hC.2.2.2.2.2.2.1.2.1 g.1.length (by omega)
    show s.heap.size + (g.2.1 + 1 - n0) = ρ.1 (g.1 ++ [(52, N)]).length
    rw [List.length_append, List.length_singleton, z2]
    omega
theorem op_i2c {x : Int32} (hd : decode M.2.1 pc = .ok (.i2c, 1)) (h : AW l ρ d M (pc + 1) L (.int (x.toUInt32 % 65536).toInt32 :: S) g H E Q) : AW l ρ d M pc L (.int x :: S) g H E Q := by
  intro p e R s m args below meth c A QQ n0 k0 hC hE Hc locs ls hR hl h1 h2
  exact lv_i2c hC.1 hC.2.1 hd rfl (h p e R s m args below meth c A QQ n0 k0 hC hE Hc locs ls hR hl h1 h2)
/-- string constants -/
theorem op_ldcS {idx i : Nat} {q : Nat × String × List Int32} (hd : decode M.2.1 pc = .ok (.ldc idx, 2)) (hi : am_str[i]? = some q) (hq : q.1 = idx) (hM : M.1.cls = "WaySharesModel") (h : AW l ρ d M (pc + 2) L (.ref (1010 + i) :: S) g H E Q) : AW l ρ d M pc L S g H E Q := by
  intro p e R s m args below meth c A QQ n0 k0 hC hE Hc locs ls hR hl h1 h2
  subst hq
  have hr := hC.2.2.2.2.2.2.1.2.2.2.2.2.1 i q hi
  rw [← hM] at hr
  exact va_ldcS hC.1 hC.2.1 hC.2.2.2.1 hr hd (h p e R s m args below meth c A QQ n0 k0 hC hE Hc locs ls hR hl h1 h2)
theorem op_ldcSW {idx i : Nat} {q : Nat × String × List Int32} (hd : decode M.2.1 pc = .ok (.ldc_w idx, 3)) (hi : am_str[i]? = some q) (hq : q.1 = idx) (hM : M.1.cls = "WaySharesModel") (h : AW l ρ d M (pc + 3) L (.ref (1010 + i) :: S) g H E Q) : AW l ρ d M pc L S g H E Q := by
  intro p e R s m args below meth c A QQ n0 k0 hC hE Hc locs ls hR hl h1 h2
  subst hq
  have hr := hC.2.2.2.2.2.2.1.2.2.2.2.2.1 i q hi
  rw [← hM] at hr
  intro T hT X
  obtain ⟨t, a1, b1⟩ := h p e R s m args below meth c A QQ n0 k0 hC hE Hc locs ls hR hl h1 h2 T hT X
  exact ⟨t, X.ldcStringW hC.1 hC.2.2.2.1 (text := q.2.1) (a := ρ.1 (1010 + i)) hr.1 hr.2 (g := F0 m pc ls (S.map (am_v ρ.1))) rfl (by rw [hC.2.1]; exact hd) t a1, b1⟩
theorem op_strV {idx i : Nat} (hd : decode M.2.1 pc = .ok (.getfield idx, 3)) (hi : i < 5) (hw : Cond.fieldLink M.1.cls idx "java/lang/String" "value" "[B" ∈ am_T) (h : AW l ρ d M (pc + 3) L (.ref (1020 + i) :: S) g H E Q) : AW l ρ d M pc L (.ref (1010 + i) :: S) g H E Q := by
  intro p e R s m args below meth c A QQ n0 k0 hC hE Hc locs ls hR hl h1 h2
  exact vk_getf hC.1 hC.2.1 (hC.2.2.2.2.2.2.1.2.2.2.2.1.1 i hi).2.2.1 hR.2.2.1 hC.2.2.2.1 (hC.2.2.2.2.1 _ hw) (fun _ hx => hx) hd (h p e R s m args below meth c A QQ n0 k0 hC hE Hc locs ls hR hl h1 h2)
theorem op_strC {idx i : Nat} (hd : decode M.2.1 pc = .ok (.getfield idx, 3)) (hi : i < 5) (hw : Cond.fieldLink M.1.cls idx "java/lang/String" "coder" "B" ∈ am_T) (h : AW l ρ d M (pc + 3) L (.int 0 :: S) g H E Q) : AW l ρ d M pc L (.ref (1010 + i) :: S) g H E Q := by
  intro p e R s m args below meth c A QQ n0 k0 hC hE Hc locs ls hR hl h1 h2
  exact vk_getf hC.1 hC.2.1 (hC.2.2.2.2.2.2.1.2.2.2.2.1.1 i hi).2.1 hR.2.2.1 hC.2.2.2.1 (hC.2.2.2.2.1 _ hw) (fun _ hx => hx) hd (h p e R s m args below meth c A QQ n0 k0 hC hE Hc locs ls hR hl h1 h2)
theorem op_strL {i : Nat} {v : Int32} (hd : decode M.2.1 pc = .ok (.arraylength, 1)) (hi : i < 5) (hv : Int32.ofNat (am_sl.getD i 0) = v) (h : AW l ρ d M (pc + 1) L (.int v :: S) g H E Q) : AW l ρ d M pc L (.ref (1020 + i) :: S) g H E Q := by
  intro p e R s m args below meth c A QQ n0 k0 hC hE Hc locs ls hR hl h1 h2
  exact va_tlen hC.1 hC.2.1 (hC.2.2.2.2.2.2.1.2.2.2.2.1.1 i hi).2.2.2 hR.2.2.1 hv hd (h p e R s m args below meth c A QQ n0 k0 hC hE Hc locs ls hR hl h1 h2)
theorem op_strB {i : Nat} {x v : Int32} (hd : decode M.2.1 pc = .ok (.baload, 1)) (hi : i < 5) (hx : vp_in x (am_sl.getD i 0)) (hv : (am_sb.getD i []).getD x.toNatClampNeg 0 = v) (h : AW l ρ d M (pc + 1) L (.int v :: S) g H E Q) : AW l ρ d M pc L (.int x :: .ref (1020 + i) :: S) g H E Q := by
  intro p e R s m args below meth c A QQ n0 k0 hC hE Hc locs ls hR hl h1 h2
  exact va_tb hC.1 hC.2.1 (hC.2.2.2.2.2.2.1.2.2.2.2.1.1 i hi).2.2.2 hR.2.2.1 hx (by subst hv; rfl) hd (h p e R s m args below meth c A QQ n0 k0 hC hE Hc locs ls hR hl h1 h2)
theorem op_getsC {idx : Nat} (hd : decode M.2.1 pc = .ok (.getstatic idx, 3)) (hw : Cond.fieldLink M.1.cls idx "java/lang/String" "COMPACT_STRINGS" "Z" ∈ am_T) (h : AW l ρ d M (pc + 3) L (.int 1 :: S) g H E Q) : AW l ρ d M pc L S g H E Q := by
  intro p e R s m args below meth c A QQ n0 k0 hC hE Hc locs ls hR hl h1 h2
  exact va_gets hC.1 hC.2.1 hC.2.2.2.2.2.2.1.2.2.2.2.2.2.1 hR.2.2.1 hC.2.2.2.1 (hC.2.2.2.2.1 _ hw) (fun _ hx => hx) hd (h p e R s m args below meth c A QQ n0 k0 hC hE Hc locs ls hR hl h1 h2)
theorem op_getsF {idx : Nat} (hd : decode M.2.1 pc = .ok (.getstatic idx, 3)) (hw : Cond.fieldLink M.1.cls idx "jdk/internal/util/Preconditions" "SIOOBE_FORMATTER" "Ljava/util/function/BiFunction;" ∈ am_T) (h : ∀ v : Value, (v = .null ∨ v = .ref 1030) → AW l ρ d M (pc + 3) L (v :: S) g H E Q) : AW l ρ d M pc L S g H E Q := by
  intro p e R s m args below meth c A QQ n0 k0 hC hE Hc locs ls hR hl h1 h2
  rcases hC.2.2.2.2.2.2.1.2.2.2.2.2.2.2.1 with z | z
  · exact va_gets hC.1 hC.2.1 z hR.2.2.1 hC.2.2.2.1 (hC.2.2.2.2.1 _ hw) (fun _ hx => hx) hd (h .null (Or.inl rfl) p e R s m args below meth c A QQ n0 k0 hC hE Hc locs ls hR hl h1 h2)
  · exact va_gets hC.1 hC.2.1 z hR.2.2.1 hC.2.2.2.1 (hC.2.2.2.2.1 _ hw) (fun _ hx => hx) hd (h (.ref 1030) (Or.inr rfl) p e R s m args below meth c A QQ n0 k0 hC hE Hc locs ls hR hl h1 h2)
theorem op_callStr {idx n : Nat} {b : Nat} {M' : am_M} (As : List Value) {S0 : List Value} {g1 : am_G} {Q1 : List Value → am_H → Prop} (hd : decode M.2.1 pc = .ok (.invokevirtual idx, 3)) (hlink : Cond.methodLink M.1.cls idx M'.1 ∈ am_T) (hm : am_ok M' n) (hi : Cond.instanceMethod M'.1 ∈ am_T) (hs : Cond.selects M'.1.cls M'.1 M'.1 ∈ am_T) (hb5 : b < 5) (hrc : M'.1.cls = "java/lang/String") (hn : As.length = n) (hS : S = As.reverse ++ .ref (1010 + b) :: S0) (hrest : (S0.map fun v => v.category).sum ≤ 8) (hlen : (lg_sl (.ref (1010 + b) :: As)).length ≤ M'.2.2.1)
    (ha : AW l ρ d M' 0 (lv_args 0 (.ref (1010 + b) :: As)) [] g H g1 Q1) (hle : am_le g g1 E) (hb : ∀ (v : List Value) (H1 : am_H), Q1 v H1 → AW l ρ (d + 1) M (pc + 3) L (v ++ S0) g1 H1 E Q) : AW l ρ (d + 1) M pc L S g H E Q := by
  intro p e R s m args below meth c A QQ n0 k0 hC hE Hc locs ls hR hl h1 h2
  subst hS
  refine am_back (a := (Value.ref (ρ.1 (1010 + b)) :: As.map (am_v ρ.1)).toArray) hC hR h1 h2 hle ?_ (fun v H1 Hc1 locs1 q1 q2 => hb v H1 q1 p e R s m args below meth c A QQ n0 k0 hC hE Hc1 locs1 ls q2 hl (Nat.le_trans h1 hle.1) (Nat.le_trans h2 hle.2.1)) 
  intro T hT X
  have hsz : g.1.length = g.2.1 → Hc.size = ρ.1 g.1.length := fun z => am_size hC.2.2.2.2.2.2.1.2.1 hT X hR h1 z
  have hM := am_met (As := .ref (1010 + b) :: As) Hc.size hm.1 hm.2.2.2.2.2 hlen ha
  obtain ⟨b1, b2, b3, b4, b5, b6, b7, b8, b9, b10⟩ := am_callB (mc := g1.2.1 - g.2.1) (ms := g1.2.2 - g.2.2) hm hC.2.2.2.2.1 hC.2.2.2.2.2.2.2.2.1
  have hf : g.2.1 - n0 + (g1.2.1 - g.2.1) ≤ R.cells ∧ g.2.2 - k0 + (g1.2.2 - g.2.2) ≤ R.slots := by
    obtain ⟨l1, l2, l3, l4, l5⟩ := hle
    have z1 := hC.2.2.2.2.2.2.2.2.2.1
    have z2 := hC.2.2.2.2.2.2.2.2.2.2
    exact ⟨by omega, by omega⟩
  have hW : (((S0.map (am_v ρ.1)).map fun v => v.category).sum) ≤ 8 := by
    rw [List.map_map]
    have : ((fun v : Value => v.category) ∘ am_v ρ.1) = fun v => v.category := funext fun v => am_cat ρ.1 v
    rw [this]
    exact hrest
  exact va_runV (C := M'.1.cls) (As := As.map (am_v ρ.1)) ⟨hC.1, hC.2.1, hC.2.2.1, hC.2.2.2.1, hC.2.2.2.2.1⟩ hM ⟨⟨b1, b2, b3, b4, b5, b6, b7, b8, b9, b10, hC.2.2.2.2.1 _ hlink⟩, hC.2.2.2.2.1 _ hi, hC.2.2.2.2.1 _ hs⟩ ⟨am_blind, by rw [hrc]; exact vk_recv (i := b) hC.2.2.2.2.2.2.1.2.2.2.2.1 hb5 hR.2.2.1, am_start hC hR hsz⟩ rfl (by rw [List.length_map]; exact hn) hl.1 (by simp [am_v]) (lv_room hW) hd hf T hT X
end AMB
