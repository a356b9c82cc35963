/-! ===== more counters; an array of arrays; the cells that the constructors have made so far ===== -/
theorem AW.widen {l : Launch} {ρ : am_R} {d : Nat} {M : am_M} {pc : Nat} {L : List (Nat × Value)} {S : List Value} {g E : am_G} {H : am_H} {Q : List Value → am_H → Prop} {c k : Nat} (h1 : g.2.1 ≤ c) (h2 : g.2.2 ≤ k) (hne : g.1.length ≠ c) (h : AW l ρ d M pc L S (g.1, c, k) H E Q) : AW l ρ d M pc L S g H E Q := by
  intro p e R s m args below meth cc A QQ n0 k0 hC hE Hc locs ls hR hl i1 i2
  have h9 := h p e R s m args below meth cc A QQ n0 k0 hC hE Hc locs ls ⟨hR.1, hR.2.1, hR.2.2.1, fun z => absurd z hne, hR.2.2.2.2⟩ hl (Nat.le_trans i1 h1) (Nat.le_trans i2 h2)
  exact W.widen (k := c - n0) (n := k - k0) (by omega) (by omega) h9
theorem am_ws_of {ρ : am_R} {kd : List (Nat × Nat)} {H : am_H} {k : Nat} {q : Nat × va_E} (h : (am_ws ρ kd H)[k]? = some q) : ∃ r, kd[k]? = some r ∧ q = (ρ.1 k, am_cell ρ H k r) := by
  have hk := (List.getElem?_eq_some_iff.mp h).1
  rw [am_ws_len] at hk
  have hr : kd[k]? = some kd[k] := List.getElem?_eq_getElem hk
  rw [am_ws_get hr] at h
  exact ⟨_, hr, (Option.some.inj h).symm⟩
def am_k5 : List (Nat × Nat) := [(53, 4), (50, 160), (50, 160), (50, 160), (50, 160)]
theorem am_k5_r : ∀ (i : Nat) (r : Nat × Nat), am_k5[i + 1]? = some r → r = (50, 160) ∧ i < 4
  | 0, r, h => ⟨(Option.some.inj h).symm, by decide⟩
  | 1, r, h => ⟨(Option.some.inj h).symm, by decide⟩
  | 2, r, h => ⟨(Option.some.inj h).symm, by decide⟩
  | 3, r, h => ⟨(Option.some.inj h).symm, by decide⟩
  | i + 4, r, h => by
    rw [List.getElem?_eq_none (show am_k5.length ≤ i + 4 + 1 by show 5 ≤ _; omega)] at h
    cases h
set_option maxHeartbeats 1000000 in
theorem op_mna {l : Launch} {ρ : am_R} {d : Nat} {M : am_M} {pc : Nat} {L : List (Nat × Value)} {S : List Value} {g E : am_G} {H H' : am_H} {Q : List Value → am_H → Prop} {idx : Nat} {n k : Int32} (hd : decode M.2.1 pc = .ok (.multianewarray idx 2, 4)) (hcl : Cond.classLink M.1.cls idx ("[" ++ (FieldType.array .int).toString) ∈ am_T) (harr : Cond.arrayClass .int ∈ am_T)
    (hn : ¬ n < 0) (hk : ¬ k < 0) (hN : n.toNatClampNeg = 4) (hM : k.toNatClampNeg = 160) (ht : g.1.length = g.2.1) (hlt : g.1.length < 800) (hle : g.2.1 + 5 ≤ E.2.1 ∧ g.2.2 + 644 ≤ E.2.2)
    (ho : ∀ j r, j < g.1.length → am_cell ρ H' j r = am_cell ρ H j r) (hr : ∀ j, H'.2.2 g.1.length j = if j < 4 then some (g.1.length + 1 + j) else none) (hi : ∀ i j, i < 4 → H'.1 (g.1.length + (i + 1)) j = 0)
    (h : AW l ρ d M (pc + 4) L (.ref g.1.length :: S) (g.1 ++ am_k5, g.2.1 + 5, g.2.2 + 644) H' E Q) : AW l ρ d M pc L (.int k :: .int n :: S) g H E Q := by
  intro p e R s m args below meth c A QQ n0 k0 hC hE Hc locs ls hR hl h1 h2
  intro T hT X
  have hsz : Hc.size = ρ.1 g.1.length := am_size hC.2.2.2.2.2.2.1.2.1 hT X hR h1 ht
  obtain ⟨⟨r1, r2⟩, r3, r4⟩ := hC.2.2.2.2.2.2.2.2
  have hts := hC.2.2.2.2.1
  have hAt := hC.2.2.2.2.2.2.1
  have hK := hAt.1
  have hα := hAt.2.1
  have hA := hC.2.2.2.2.2.2.2.1
  have hover : va_AOA .int s := hAt.2.2.2.2.2.2.2.2.2.2.2.1
  obtain ⟨hP, hD, hS, hTt, hZ⟩ := hR
  have hc0 : s.vm.findClass (FieldType.array .int).toString = some (ρ.2.1 0) := (hK.2 0 _ rfl).2
  have hc3 : s.vm.findClass ("[" ++ (FieldType.array .int).toString) = some (ρ.2.1 3) := (hK.2 3 _ rfl).2
  obtain ⟨vm₁, cA, comp, -, fA, fC, -, -, X', step⟩ := X.multianewarray2F hC.1 hC.2.2.2.1 (hts _ hcl) (va_AOA.use hover) (hts _ harr) (g := F0 m pc ls (.int k :: .int n :: S.map (am_v ρ.1))) rfl (by rw [hC.2.1]; exact hd) rfl hn hk (by rw [hN]; decide) (by rw [hM]; decide) (by rw [hM]; decide) rfl rfl (by rw [hN]; omega) (by rw [hN, hM]; omega)
  obtain rfl : ρ.2.1 0 = comp := Option.some.inj (hc0.symm.trans fC)
  obtain rfl : ρ.2.1 3 = cA := Option.some.inj (hc3.symm.trans fA)
  generalize hF : Jvm.Free.Multi.fill (T.setVm vm₁) (ρ.2.1 3) (ρ.2.1 0) n.toNatClampNeg k.toNatClampNeg (defaultValue .int) n.toNatClampNeg = F at X' step
  have hTh : (T.setVm vm₁).heap = Hc := hT
  obtain ⟨f1, f2, -, -⟩ := Jvm.Free.Multi.fill_facts (T.setVm vm₁) (ρ.2.1 3) (ρ.2.1 0) n.toNatClampNeg k.toNatClampNeg (defaultValue .int) n.toNatClampNeg
  rw [hF, hTh] at f1 f2
  have hold : ∀ x : Nat, x < Hc.size → F.heap[x]? = Hc[x]? := fun x hx => by
    have := Jvm.Free.Multi.fill_old (T.setVm vm₁) (ρ.2.1 3) (ρ.2.1 0) n.toNatClampNeg k.toNatClampNeg (defaultValue .int) (a := x) (by rw [hTh]; exact hx) n.toNatClampNeg
    rw [hF, hTh] at this
    exact this
  have hrow : ∀ j : Nat, j < 4 → F.heap[Hc.size + 1 + j]? = some (arrV (ρ.2.1 0) 160 (fun _ => .int 0)) := fun j hj => by
    have := Jvm.Free.Multi.fill_inner (T.setVm vm₁) (ρ.2.1 3) (ρ.2.1 0) n.toNatClampNeg k.toNatClampNeg (defaultValue .int) n.toNatClampNeg j (by rw [hN]; exact hj)
    rw [hF, hTh, hM] at this
    rw [this, ← arrV_new]
    rfl
  have hout : F.heap[Hc.size]? = some (arrV (ρ.2.1 3) 4 (fun j => va_rf (if j < 4 then some (Hc.size + 1 + j) else none))) := by
    rw [f2, hN]
    exact congrArg some (vr_outer (ρ.2.1 3) 4 Hc.size 4)
  have ha : ∀ i : Nat, i < 100 → ρ.1 (g.1.length + i) = Hc.size + i := fun i hi9 => by
    have q1 := am_a0 hα (g.1.length + i) (by omega)
    have q2 := am_a0 hα g.1.length (by omega)
    omega
  have hP0 : va_P ρ.2.2.1 vwCl (am_ws ρ g.1 H) F.heap := hP.kept (fun k9 x hx => hold x.1 ((hP k9 x hx).lt))
  have hP1 : va_P ρ.2.2.1 vwCl (am_ws ρ (g.1 ++ am_k5) H') F.heap := by
    intro k9 q hq
    obtain ⟨r, hr9, rfl⟩ := am_ws_of hq
    by_cases hk9 : k9 < g.1.length
    · rw [List.getElem?_append_left hk9] at hr9
      rw [ho k9 r hk9]
      exact hP0 k9 _ (am_ws_get hr9)
    · rw [List.getElem?_append_right (by omega)] at hr9
      obtain ⟨i, rfl⟩ : ∃ i, k9 = g.1.length + i := ⟨k9 - g.1.length, by omega⟩
      rw [Nat.add_sub_cancel_left] at hr9
      match i, hr9 with
      | 0, hr9 =>
        have e : r = (53, 4) := (Option.some.inj hr9).symm
        subst e
        rw [am_cell_g]
        show F.heap[ρ.1 (g.1.length + 0)]? = some (vp_cell _ _)
        rw [ha 0 (by omega), vp_cell_q]
        show F.heap[Hc.size]? = _
        rw [hout]
        refine congrArg some (congrArg (arrV (ρ.2.1 3) 4) (funext fun j => ?_))
        show _ = va_rf ((H'.2.2 g.1.length j).map ρ.1)
        rw [hr j]
        by_cases hj : j < 4
        · rw [if_pos hj, if_pos hj]
          have e9 := ha (1 + j) (by omega)
          show va_rf (some (Hc.size + 1 + j)) = va_rf (some (ρ.1 (g.1.length + 1 + j)))
          rw [Nat.add_assoc g.1.length, e9, Nat.add_assoc]
        · rw [if_neg hj, if_neg hj]
          rfl
      | i + 1, hr9 =>
        obtain ⟨e, hi4⟩ := am_k5_r i r hr9
        subst e
        rw [am_cell_i]
        show F.heap[ρ.1 (g.1.length + (i + 1))]? = some (vp_cell _ _)
        rw [ha (i + 1) (by omega), vp_cell_i]
        have e9 := hrow i hi4
        rw [show Hc.size + (i + 1) = Hc.size + 1 + i by omega, e9]
        refine congrArg some (congrArg (arrV (ρ.2.1 0) 160) (funext fun j => ?_))
        rw [hi i j hi4]
  have hlen : (g.1 ++ am_k5).length = g.1.length + 5 := by rw [List.length_append]; rfl
  have hD1 : va_D A (am_ws ρ (g.1 ++ am_k5) H') := by
    refine ⟨fun i j x y hi9 hj9 hxy => ?_, fun k9 x hx => ?_⟩
    · have l1 := (List.getElem?_eq_some_iff.mp hi9).1
      have l2 := (List.getElem?_eq_some_iff.mp hj9).1
      rw [am_ws_len, hlen] at l1 l2
      obtain ⟨ra, -, rfl⟩ := am_ws_of hi9
      obtain ⟨rb, -, rfl⟩ := am_ws_of hj9
      have q1 := am_a0 hα i (by omega)
      have q2 := am_a0 hα j (by omega)
      have q3 : ρ.1 i = ρ.1 j := hxy
      omega
    · have l1 := (List.getElem?_eq_some_iff.mp hx).1
      rw [am_ws_len, hlen] at l1
      obtain ⟨r, hr9, rfl⟩ := am_ws_of hx
      by_cases hk9 : k9 < g.1.length
      · rw [List.getElem?_append_left hk9] at hr9
        exact (hD.2 k9 _ (am_ws_get (ρ := ρ) (H := H) hr9) : A (ρ.1 k9))
      · have q1 := am_a0 hα k9 (by omega)
        have q2 := am_a0 hα g.1.length (by omega)
        have q3 := hS.1
        exact hA _ (by show s.heap.size ≤ ρ.1 k9; omega)
  have hS1 : va_S A s.heap F.heap locs := ⟨by rw [f1]; have := hS.1; omega, fun x h1 h2 => (hold x (Nat.lt_of_lt_of_le h1 hS.1)).trans (hS.2.1 x h1 h2), hS.2.2⟩
  have c6 : g.2.1 - n0 + 1 + n.toNatClampNeg = g.2.1 + 5 - n0 := by rw [hN]; omega
  have c7 : g.2.2 - k0 + n.toNatClampNeg + n.toNatClampNeg * k.toNatClampNeg = g.2.2 + 644 - k0 := by rw [hN, hM]; omega
  rw [c6, c7] at X'
  have h9 := h p e R s m args below meth c A QQ n0 k0 hC hE F.heap locs ls ⟨hP1, hD1, hS1, fun z => ?_, by rw [hlen]; omega⟩ hl (Nat.le_trans h1 (Nat.le_add_right _ _)) (Nat.le_trans h2 (Nat.le_add_right _ _))
  · obtain ⟨t, a1, b1⟩ := h9 F rfl X'
    refine ⟨t, step t ?_, b1⟩
    have e9 : T.heap.size = ρ.1 g.1.length := by rw [hT]; exact hsz
    rw [e9]
    exact a1
  · have z1 := hTt ht
    show s.heap.size + (g.2.1 + 5 - n0) = ρ.1 (g.1 ++ am_k5).length
    have q1 := am_a0 hα (g.1.length + 5) (by omega)
    have q2 := am_a0 hα g.1.length (by omega)
    rw [hlen]
    omega
/-- the first n cells of the constructors' run, with their counters -/
def am_sz (n : Nat) : Nat := ((am_KD.take n).map (fun q => q.2)).sum
def am_g (n : Nat) : am_G := (am_KD.take n, n, am_sz n)
theorem am_g_len {n : Nat} (h : n ≤ 81) : (am_g n).1.length = n := by
  show (am_KD.take n).length = n
  rw [List.length_take]
  exact Nat.min_eq_left h
theorem am_g_le {n t N : Nat} (h : am_KD[n]? = some (t, N)) : n ≤ 81 := Nat.le_of_lt (List.getElem?_eq_some_iff.mp h).1
theorem am_g_succ {n t N : Nat} (h : am_KD[n]? = some (t, N)) : (((am_g n).1 ++ [(t, N)], (am_g n).2.1 + 1, (am_g n).2.2 + N) : am_G) = am_g (n + 1) := by
  have e : am_KD.take (n + 1) = am_KD.take n ++ [(t, N)] := by rw [List.take_add_one, h]; rfl
  show (am_KD.take n ++ [(t, N)], n + 1, am_sz n + N) = (am_KD.take (n + 1), n + 1, am_sz (n + 1))
  unfold am_sz
  rw [e, List.map_append, List.sum_append]
  rfl
theorem am_g_at {n i : Nat} {q : Nat × Nat} (hi : i < n) (h : am_KD[i]? = some q) : (am_g n).1[i]? = some q := by
  show (am_KD.take n)[i]? = some q
  rw [List.getElem?_take, if_pos hi]
  exact h
/-- the references as they are put, in their order -/
def am_lr (l : List ((Nat × Nat) × Nat)) : Nat → Nat → Option Nat := fun i k => (l.find? (fun q => q.1.1 == i && q.1.2 == k)).map (fun q => q.2)
theorem am_lr_u (l : List ((Nat × Nat) × Nat)) (i k z : Nat) : am_u (am_lr l) i k (some z) = am_lr (((i, k), z) :: l) := by
  funext a b
  unfold am_u am_lr
  by_cases h : a = i ∧ b = k
  · obtain ⟨rfl, rfl⟩ := h
    rw [if_pos ⟨rfl, rfl⟩, List.find?_cons_of_pos (by simp)]
    rfl
  · rw [if_neg h, List.find?_cons_of_neg (by simp only [Bool.and_eq_true, beq_iff_eq]; exact fun q => h ⟨q.1.symm, q.2.symm⟩)]
theorem am_lr_none {l : List ((Nat × Nat) × Nat)} {n : Nat} (h : l.all (fun q => !(q.1.1 == n)) = true) (k : Nat) : am_lr l n k = none := by
  unfold am_lr
  rw [List.find?_eq_none.mpr]
  · rfl
  · intro q hq
    have := List.all_eq_true.mp h q hq
    simp only [Bool.not_eq_true', beq_eq_false_iff_ne, ne_eq] at this
    simp [this]
theorem am_u_id {α : Type} {f : Nat → Nat → α} {i k : Nat} {x : α} (h : f i k = x) : am_u f i k x = f := by
  funext a b
  unfold am_u
  split
  · rename_i e
    rw [e.1, e.2, h]
  · rfl
theorem am_row_id {α : Type} {f : Nat → Nat → α} {i : Nat} {r : Nat → α} (h : ∀ b, f i b = r b) : am_row f i r = f := by
  funext a b
  unfold am_row
  split
  · rename_i e
    rw [e, h]
  · rfl
theorem am_new_id {H : am_H} {n : Nat} (h1 : ∀ k, H.1 n k = 0) (h2 : ∀ k, H.2.1 n k = 0) (h3 : ∀ k, H.2.2 n k = none) : am_new H n = H := by
  unfold am_new
  rw [am_row_id h1, am_row_id h2, am_row_id h3]
section KC
variable {l : Launch} {ρ : am_R} {d : Nat} {M : am_M} {pc : Nat} {L : List (Nat × Value)} {S : List Value} {E : am_G} {Q : List Value → am_H → Prop} {I : Nat → Nat → Int32} {J : Nat → Nat → Int64} {l0 : List ((Nat × Nat) × Nat)}
theorem k_new {n t N idx : Nat} {r : vw_C} (hd : decode M.2.1 pc = .ok (.new idx, 3)) (hr : am_cls t r) (hcl : Cond.classLink M.1.cls idx r.1 ∈ am_T) (hinst : Cond.instantiable r.1 r.2.2 ∈ am_T) (hini : Cond.initialized r.1 ∈ am_T) (hfl : ∀ k, k < r.2.2 → am_ty t k ≠ .float ∧ am_ty t k ≠ .double) (hN : r.2.2 = N) (hk : am_KD[n]? = some (t, N)) (hI : ∀ k, I n k = 0) (hJ : ∀ k, J n k = 0) (hR : l0.all (fun q => !(q.1.1 == n)) = true) (hle : n + 1 ≤ E.2.1 ∧ am_sz n + N ≤ E.2.2)
    (h : AW l ρ d M (pc + 3) L (.ref n :: S) (am_g (n + 1)) (I, J, am_lr l0) E Q) : AW l ρ d M pc L S (am_g n) (I, J, am_lr l0) E Q := by
  subst hN
  have hl := am_g_len (am_g_le hk)
  have hlt := (List.getElem?_eq_some_iff.mp hk).1
  have hlt : n < 81 := hlt
  refine op_new hd hr hcl hinst hini hfl hl (by rw [hl]; omega) hle ?_
  rw [am_g_succ hk, hl, am_new_id hI hJ (am_lr_none hR)]
  exact h
theorem k_newi {n N idx : Nat} {x : Int32} (hd : decode M.2.1 pc = .ok (.newarray .int, 2)) (harr : Cond.arrayClass .int ∈ am_T) (hn : ¬ x < 0) (hN : x.toNatClampNeg = N) (hk : am_KD[n]? = some (50, N)) (hNb : N ≤ 1000) (hI : ∀ k, I n k = 0) (hJ : ∀ k, J n k = 0) (hR : l0.all (fun q => !(q.1.1 == n)) = true) (hle : n + 1 ≤ E.2.1 ∧ am_sz n + N ≤ E.2.2)
    (h : AW l ρ d M (pc + 2) L (.ref n :: S) (am_g (n + 1)) (I, J, am_lr l0) E Q) : AW l ρ d M pc L (.int x :: S) (am_g n) (I, J, am_lr l0) E Q := by
  have hl := am_g_len (am_g_le hk)
  have hlt := (List.getElem?_eq_some_iff.mp hk).1
  have hlt : n < 81 := hlt
  refine op_newi hd harr hn hN (by omega) hl (by rw [hl]; omega) hle ?_
  rw [am_g_succ hk, hl, am_new_id hI hJ (am_lr_none hR)]
  exact h
theorem k_newl {n N idx : Nat} {x : Int32} (hd : decode M.2.1 pc = .ok (.newarray .long, 2)) (harr : Cond.arrayClass .long ∈ am_T) (hn : ¬ x < 0) (hN : x.toNatClampNeg = N) (hk : am_KD[n]? = some (51, N)) (hNb : N ≤ 1000) (hI : ∀ k, I n k = 0) (hJ : ∀ k, J n k = 0) (hR : l0.all (fun q => !(q.1.1 == n)) = true) (hle : n + 1 ≤ E.2.1 ∧ am_sz n + N ≤ E.2.2)
    (h : AW l ρ d M (pc + 2) L (.ref n :: S) (am_g (n + 1)) (I, J, am_lr l0) E Q) : AW l ρ d M pc L (.int x :: S) (am_g n) (I, J, am_lr l0) E Q := by
  have hl := am_g_len (am_g_le hk)
  have hlt := (List.getElem?_eq_some_iff.mp hk).1
  have hlt : n < 81 := hlt
  refine op_newl hd harr hn hN (by omega) hl (by rw [hl]; omega) hle ?_
  rw [am_g_succ hk, hl, am_new_id hI hJ (am_lr_none hR)]
  exact h
theorem k_newb {n N idx : Nat} {x : Int32} (hd : decode M.2.1 pc = .ok (.newarray .byte, 2)) (harr : Cond.arrayClass .byte ∈ am_T) (hn : ¬ x < 0) (hN : x.toNatClampNeg = N) (hk : am_KD[n]? = some (52, N)) (hNb : N ≤ 1000) (hI : ∀ k, I n k = 0) (hJ : ∀ k, J n k = 0) (hR : l0.all (fun q => !(q.1.1 == n)) = true) (hle : n + 1 ≤ E.2.1 ∧ am_sz n + N ≤ E.2.2)
    (h : AW l ρ d M (pc + 2) L (.ref n :: S) (am_g (n + 1)) (I, J, am_lr l0) E Q) : AW l ρ d M pc L (.int x :: S) (am_g n) (I, J, am_lr l0) E Q := by
  have hl := am_g_len (am_g_le hk)
  have hlt := (List.getElem?_eq_some_iff.mp hk).1
  have hlt : n < 81 := hlt
  refine op_newb hd harr hn hN (by omega) hl (by rw [hl]; omega) hle ?_
  rw [am_g_succ hk, hl, am_new_id hI hJ (am_lr_none hR)]
  exact h
/-- the rulebook's four rows -/
theorem k_mna {idx : Nat} {x y : Int32} (hd : decode M.2.1 pc = .ok (.multianewarray idx 2, 4)) (hcl : Cond.classLink M.1.cls idx ("[" ++ (FieldType.array .int).toString) ∈ am_T) (harr : Cond.arrayClass .int ∈ am_T) (hn : ¬ x < 0) (hk : ¬ y < 0) (hN : x.toNatClampNeg = 4) (hM : y.toNatClampNeg = 160) (hI : ∀ i k, i < 5 → I (20 + i) k = 0) (hR : l0.all (fun q => !(q.1.1 == 20)) = true) (hle : 25 ≤ E.2.1 ∧ am_sz 20 + 644 ≤ E.2.2)
    (h : AW l ρ d M (pc + 4) L (.ref 20 :: S) (am_g 25) (I, J, am_lr (((20, 3), 24) :: ((20, 2), 23) :: ((20, 1), 22) :: ((20, 0), 21) :: l0)) E Q) : AW l ρ d M pc L (.int y :: .int x :: S) (am_g 20) (I, J, am_lr l0) E Q := by
  have e25 : (((am_g 20).1 ++ am_k5, (am_g 20).2.1 + 5, (am_g 20).2.2 + 644) : am_G) = am_g 25 := by decide +kernel
  have hl : (am_g 20).1.length = 20 := am_g_len (by decide)
  refine op_mna (H' := (I, J, am_lr (((20, 3), 24) :: ((20, 2), 23) :: ((20, 1), 22) :: ((20, 0), 21) :: l0))) hd hcl harr hn hk hN hM hl (by rw [hl]; decide) hle (fun j r hj => ?_) (fun j => ?_) (fun i j hi => ?_) ?_
  · rw [hl] at hj
    refine am_cell_eq (H := (I, J, am_lr l0)) (H' := (I, J, am_lr (((20, 3), 24) :: ((20, 2), 23) :: ((20, 1), 22) :: ((20, 0), 21) :: l0))) (fun k => rfl) (fun k => rfl) (fun k => ?_) r
    show am_lr (((20, 3), 24) :: ((20, 2), 23) :: ((20, 1), 22) :: ((20, 0), 21) :: l0) j k = am_lr l0 j k
    rw [← am_lr_u, ← am_lr_u, ← am_lr_u, ← am_lr_u]
    have hj' : j ≠ 20 := by omega
    simp [am_u, hj']
  · rw [hl]
    show am_lr _ 20 j = _
    rw [← am_lr_u, ← am_lr_u, ← am_lr_u, ← am_lr_u]
    match j with
    | 0 => rfl
    | 1 => rfl
    | 2 => rfl
    | 3 => rfl
    | j + 4 =>
      rw [if_neg (by omega)]
      have q0 : ¬ j + 4 = 0 := by omega
      have q1 : ¬ j + 4 = 1 := by omega
      have q2 : ¬ j + 4 = 2 := by omega
      have q3 : ¬ j + 4 = 3 := by omega
      simp [am_u, am_lr_none hR]
  · rw [hl]
    exact hI (i + 1) j (by omega)
  · rw [e25, hl]
    exact h
theorem k_putR {n i t k z idx nn : Nat} {fin : Bool} (hd : decode M.2.1 pc = .ok (.putfield idx, 3)) (hf : am_fl M.1.cls idx t k fin) (hfin : fin = true → M.1.name = "<init>" ∧ ∃ r, vwCl[t]? = some r ∧ r.1 = M.1.cls) (hg : am_KD[i]? = some (t, nn)) (hin : i < n) (hk : k < nn) (ht : (∃ C, am_ty t k = .object C) ∨ ∃ y, am_ty t k = .array y)
    (h : AW l ρ d M (pc + 3) L S (am_g n) (I, J, am_lr (((i, k), z) :: l0)) E Q) : AW l ρ d M pc L (.ref z :: .ref i :: S) (am_g n) (I, J, am_lr l0) E Q :=
  op_putR hd hf hfin (am_g_at hin hg) hk ht (by rw [am_lr_u]; exact h)
theorem k_getR {n i t k z idx nn : Nat} {fin : Bool} (hd : decode M.2.1 pc = .ok (.getfield idx, 3)) (hf : am_fl M.1.cls idx t k fin) (hg : am_KD[i]? = some (t, nn)) (hin : i < n) (hk : k < nn) (ht : (∃ C, am_ty t k = .object C) ∨ ∃ y, am_ty t k = .array y) (hz : am_lr l0 i k = some z)
    (h : AW l ρ d M (pc + 3) L (.ref z :: S) (am_g n) (I, J, am_lr l0) E Q) : AW l ρ d M pc L (.ref i :: S) (am_g n) (I, J, am_lr l0) E Q :=
  op_getR hd hf (am_g_at hin hg) hk (by rcases ht with ⟨C, ht⟩ | ⟨y, ht⟩ <;> rw [ht] <;> rfl) hz h
end KC
