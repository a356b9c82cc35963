/-! ===== fields and arrays over the abstract heap ===== -/
def am_cls (t : Nat) (r : vw_C) : Prop := vwCl[t]? = some r ∧ t < 50 ∧ (∀ w ∈ u_ws r.1 r.2.1 r.2.2, w ∈ am_T) ∧ (∀ k, k < r.2.2 → parseFieldDescriptor (r.2.1 k).2.2.1 = some (am_ty t k)) ∧ (∀ a, a < r.2.2 → ∀ b, b < r.2.2 → a ≠ b → (r.2.1 a).2.1 ≠ (r.2.1 b).2.1)
/-- the pool's entry idx of class own is field k of class t -/
def am_fl (own : String) (idx t k : Nat) (fin : Bool) : Prop := ∃ r : vw_C, am_cls t r ∧ k < r.2.2 ∧ (r.2.1 k).1 = r.1 ∧ (r.2.1 k).2.2.2 = fin ∧ Cond.fieldLink own idx r.1 (r.2.1 k).2.1 (r.2.1 k).2.2.1 ∈ am_T
def am_gv (H : am_H) (ty : FieldType) (i k : Nat) : Value := match ty with
  | .long => .long (H.2.1 i k)
  | .object _ => va_rf (H.2.2 i k)
  | .array _ => va_rf (H.2.2 i k)
  | _ => .int (H.1 i k)
theorem am_rf (α : Nat → Nat) (o : Option Nat) : am_v α (va_rf o) = va_rf (o.map α) := by cases o <;> rfl
theorem am_gv_v (α : Nat → Nat) (H : am_H) (ty : FieldType) (i k : Nat) : am_v α (am_gv H ty i k) = am_fv α H ty i k := by
  cases ty <;> first | rfl | exact am_rf _ _
theorem am_cell_o {ρ : am_R} {H : am_H} {i t n : Nat} (h : t < 50) : am_cell ρ H i (t, n) = .inr (t, (List.range n).map (fun k => am_fv ρ.1 H (am_ty t k) i k)) := if_pos h
theorem am_cell_i {ρ : am_R} {H : am_H} {i n : Nat} : am_cell ρ H i (50, n) = .inl (ρ.2.1 0, n, .inl (H.1 i)) := rfl
theorem am_cell_l {ρ : am_R} {H : am_H} {i n : Nat} : am_cell ρ H i (51, n) = .inl (ρ.2.1 1, n, .inr (.inl (H.2.1 i))) := rfl
theorem am_cell_b {ρ : am_R} {H : am_H} {i n : Nat} : am_cell ρ H i (52, n) = .inl (ρ.2.1 2, n, .inl (H.1 i)) := rfl
theorem am_cell_g {ρ : am_R} {H : am_H} {i n : Nat} : am_cell ρ H i (53, n) = .inl (ρ.2.1 3, n, .inr (.inr (.inr (.inr (fun j => (H.2.2 i j).map ρ.1))))) := rfl
section AMF
variable {l : Launch} {ρ : am_R} {d : Nat} {M : am_M} {pc : Nat} {L : List (Nat × Value)} {S : List Value} {g E : am_G} {H : am_H} {Q : List Value → am_H → Prop}
theorem op_get {idx t k n i : Nat} {fin : Bool} (hd : decode M.2.1 pc = .ok (.getfield idx, 3)) (hf : am_fl M.1.cls idx t k fin) (hg : g.1[i]? = some (t, n)) (hk : k < n) (h : AW l ρ d M (pc + 3) L (am_gv H (am_ty t k) i k :: S) g H E Q) : AW l ρ d M pc L (.ref i :: S) g H E Q := by
  intro p e R s m args below meth c A QQ n0 k0 hC hE Hc locs ls hR hl h1 h2
  obtain ⟨r, ⟨c1, c2, c3, c4, c5⟩, f1, f2, f3, f4⟩ := hf
  have hw := am_ws_get (ρ := ρ) (H := H) hg
  rw [am_cell_o c2] at hw
  have hv : ((List.range n).map (fun k => am_fv ρ.1 H (am_ty t k) i k))[k]? = some (am_fv ρ.1 H (am_ty t k) i k) := by rw [List.getElem?_map, List.getElem?_range hk]; rfl
  refine va_get (C := r.1) (T := r.2.1) (N := r.2.2) (ref := r.1) hC.1 hC.2.1 hC.2.2.2.2.1 c3 hC.2.2.2.1 hC.2.2.2.2.2.2.1.1 hR.1 i hw c1 k f1 (hC.2.2.2.2.1 _ f4) (fun x hx => by rw [← f2]; exact hx) hv hd ?_
  have h9 := h p e R s m args below meth c A QQ n0 k0 hC hE Hc locs ls hR hl h1 h2
  rw [List.map_cons, am_gv_v] at h9
  exact h9
theorem op_getI {idx t k n i : Nat} {fin : Bool} (hd : decode M.2.1 pc = .ok (.getfield idx, 3)) (hf : am_fl M.1.cls idx t k fin) (hg : g.1[i]? = some (t, n)) (hk : k < n) (ht : am_gv H (am_ty t k) i k = .int (H.1 i k)) (h : AW l ρ d M (pc + 3) L (.int (H.1 i k) :: S) g H E Q) : AW l ρ d M pc L (.ref i :: S) g H E Q :=
  op_get hd hf hg hk (by rw [ht]; exact h)
theorem op_getL {idx t k n i : Nat} {fin : Bool} (hd : decode M.2.1 pc = .ok (.getfield idx, 3)) (hf : am_fl M.1.cls idx t k fin) (hg : g.1[i]? = some (t, n)) (hk : k < n) (ht : am_gv H (am_ty t k) i k = .long (H.2.1 i k)) (h : AW l ρ d M (pc + 3) L (.long (H.2.1 i k) :: S) g H E Q) : AW l ρ d M pc L (.ref i :: S) g H E Q :=
  op_get hd hf hg hk (by rw [ht]; exact h)
theorem op_getR {idx t k n i z : Nat} {fin : Bool} (hd : decode M.2.1 pc = .ok (.getfield idx, 3)) (hf : am_fl M.1.cls idx t k fin) (hg : g.1[i]? = some (t, n)) (hk : k < n) (ht : am_gv H (am_ty t k) i k = va_rf (H.2.2 i k)) (hz : H.2.2 i k = some z) (h : AW l ρ d M (pc + 3) L (.ref z :: S) g H E Q) : AW l ρ d M pc L (.ref i :: S) g H E Q :=
  op_get hd hf hg hk (by rw [ht, hz]; exact h)
theorem am_put {idx t k n i : Nat} {v : Value} {H' : am_H} {fin : Bool} (hd : decode M.2.1 pc = .ok (.putfield idx, 3)) (hf : am_fl M.1.cls idx t k fin) (hfin : fin = true → M.1.name = "<init>" ∧ ∃ r, vwCl[t]? = some r ∧ r.1 = M.1.cls) (hg : g.1[i]? = some (t, n)) (hk : k < n)
    (hv : am_v ρ.1 v = am_fv ρ.1 H' (am_ty t k) i k) (hn : narrow (am_ty t k) (am_v ρ.1 v) = am_v ρ.1 v) (hfit : fits (am_ty t k) (am_v ρ.1 v) = true) (ho : ∀ j, j ≠ k → am_fv ρ.1 H' (am_ty t j) i j = am_fv ρ.1 H (am_ty t j) i j) (hoc : ∀ j r, j ≠ i → am_cell ρ H' j r = am_cell ρ H j r)
    (h : AW l ρ d M (pc + 3) L S g H' E Q) : AW l ρ d M pc L (v :: .ref i :: S) g H E Q := by
  intro p e R s m args below meth c A QQ n0 k0 hC hE Hc locs ls hR hl h1 h2
  obtain ⟨r, ⟨c1, c2, c3, c4, c5⟩, f1, f2, f3, f4⟩ := hf
  obtain ⟨hP, hD, hS, hT, hZ⟩ := hR
  have hw := am_ws_get (ρ := ρ) (H := H) hg
  have hset := am_ws_set (ρ := ρ) (H := H) (H' := H') hg hoc
  rw [am_cell_o c2] at hw hset
  have hfs := am_fields (ρ := ρ) (H := H) (H' := H') (t := t) (i := i) hk ho
  cases fin with
  | false =>
    refine va_put (C := r.1) (T := r.2.1) (N := r.2.2) (ref := r.1) (ty := am_ty t k) (v := am_v ρ.1 v) hC.1 hC.2.1 hC.2.2.2.2.1 c3 (am_ty t) c4 c5 hC.2.2.2.1 hC.2.2.2.2.2.2.1.1 hP hD hS i hw c1 k f1 (hC.2.2.2.2.1 _ f4) (fun x hx => by rw [← f2]; exact hx) f3 (c4 k f1) hn hfit (by simpa using hk) hd ?_
    rw [hv, hfs, hset]
    exact fun H1 locs1 a1 a2 a3 => h p e R s m args below meth c A QQ n0 k0 hC hE H1 locs1 ls ⟨a1, a2, a3, hT, hZ⟩ hl h1 h2
  | true =>
    obtain ⟨hi1, r', e1, e2⟩ := hfin rfl
    have e3 : r = r' := Option.some.inj (c1.symm.trans e1)
    subst e3
    refine va_putF (C := r.1) (T := r.2.1) (N := r.2.2) (ref := r.1) (ty := am_ty t k) (v := am_v ρ.1 v) hC.1 hC.2.1 hC.2.2.2.2.1 c3 (am_ty t) c4 c5 hC.2.2.2.1 hC.2.2.2.2.2.2.1.1 hP hD hS i hw c1 k f1 (hC.2.2.2.2.1 _ f4) (fun x hx => by rw [← f2]; exact hx) f3 (hC.2.2.2.2.2.1 hi1) (f2.trans e2) (c4 k f1) hn hfit (by simpa using hk) hd ?_
    rw [hv, hfs, hset]
    exact fun H1 locs1 a1 a2 a3 => h p e R s m args below meth c A QQ n0 k0 hC hE H1 locs1 ls ⟨a1, a2, a3, hT, hZ⟩ hl h1 h2
theorem op_putI {idx t k n i : Nat} {x : Int32} (hd : decode M.2.1 pc = .ok (.putfield idx, 3)) (hf : am_fl M.1.cls idx t k false) (hg : g.1[i]? = some (t, n)) (hk : k < n) (ht : am_ty t k = .int)
    (h : AW l ρ d M (pc + 3) L S g (am_u H.1 i k x, H.2) E Q) : AW l ρ d M pc L (.int x :: .ref i :: S) g H E Q := by
  refine am_put hd hf (fun z => by cases z) hg hk (by rw [ht]; show Value.int x = .int (am_u H.1 i k x i k); simp [am_u]) (by rw [ht]; rfl) (by rw [ht]; rfl) (fun j hj => ?_) (fun j r hj => am_cell_1 hj r) h
  unfold am_fv; split <;> simp [am_u, hj]
theorem op_putZ {idx t k n i : Nat} {x : Int32} (hd : decode M.2.1 pc = .ok (.putfield idx, 3)) (hf : am_fl M.1.cls idx t k false) (hg : g.1[i]? = some (t, n)) (hk : k < n) (ht : am_ty t k = .boolean) (hx : x = 0 ∨ x = 1)
    (h : AW l ρ d M (pc + 3) L S g (am_u H.1 i k x, H.2) E Q) : AW l ρ d M pc L (.int x :: .ref i :: S) g H E Q := by
  refine am_put hd hf (fun z => by cases z) hg hk (by rw [ht]; show Value.int x = .int (am_u H.1 i k x i k); simp [am_u]) (by rw [ht]; rcases hx with rfl | rfl <;> rfl) (by rw [ht]; rcases hx with rfl | rfl <;> rfl) (fun j hj => ?_) (fun j r hj => am_cell_1 hj r) h
  unfold am_fv; split <;> simp [am_u, hj]
theorem op_putL {idx t k n i : Nat} {x : Int64} (hd : decode M.2.1 pc = .ok (.putfield idx, 3)) (hf : am_fl M.1.cls idx t k false) (hg : g.1[i]? = some (t, n)) (hk : k < n) (ht : am_ty t k = .long)
    (h : AW l ρ d M (pc + 3) L S g (H.1, am_u H.2.1 i k x, H.2.2) E Q) : AW l ρ d M pc L (.long x :: .ref i :: S) g H E Q := by
  refine am_put hd hf (fun z => by cases z) hg hk (by rw [ht]; show Value.long x = .long (am_u H.2.1 i k x i k); simp [am_u]) (by rw [ht]; rfl) (by rw [ht]; rfl) (fun j hj => ?_) (fun j r hj => am_cell_2 hj r) h
  unfold am_fv; split <;> simp [am_u, hj]
/-- a reference; final too, in the class's own constructor -/
theorem op_putR {idx t k n i z : Nat} {fin : Bool} (hd : decode M.2.1 pc = .ok (.putfield idx, 3)) (hf : am_fl M.1.cls idx t k fin) (hfin : fin = true → M.1.name = "<init>" ∧ ∃ r, vwCl[t]? = some r ∧ r.1 = M.1.cls) (hg : g.1[i]? = some (t, n)) (hk : k < n) (ht : (∃ C, am_ty t k = .object C) ∨ ∃ y, am_ty t k = .array y)
    (h : AW l ρ d M (pc + 3) L S g (H.1, H.2.1, am_u H.2.2 i k (some z)) E Q) : AW l ρ d M pc L (.ref z :: .ref i :: S) g H E Q := by
  refine am_put hd hf hfin hg hk ?_ ?_ ?_ (fun j hj => ?_) (fun j r hj => am_cell_3 hj r) h
  · rcases ht with ⟨C, ht⟩ | ⟨y, ht⟩ <;> rw [ht] <;> show Value.ref (ρ.1 z) = va_rf (Option.map ρ.1 (am_u H.2.2 i k (some z) i k)) <;> simp [am_u, va_rf]
  · rcases ht with ⟨C, ht⟩ | ⟨y, ht⟩ <;> rw [ht] <;> rfl
  · rcases ht with ⟨C, ht⟩ | ⟨y, ht⟩ <;> rw [ht] <;> rfl
  · unfold am_fv; split <;> simp [am_u, hj]
theorem op_iald {n i : Nat} {x : Int32} (hd : decode M.2.1 pc = .ok (.iaload, 1)) (hg : g.1[i]? = some (50, n)) (hx : vp_in x n) (h : AW l ρ d M (pc + 1) L (.int (H.1 i x.toNatClampNeg) :: S) g H E Q) : AW l ρ d M pc L (.int x :: .ref i :: S) g H E Q := by
  intro p e R s m args below meth c A QQ n0 k0 hC hE Hc locs ls hR hl h1 h2
  have hw := am_ws_get (ρ := ρ) (H := H) hg
  rw [am_cell_i] at hw
  exact va_iald hC.1 hC.2.1 hC.2.2.2.2.2.2.1.1 hR.1 i 0 hw rfl hx hd (h p e R s m args below meth c A QQ n0 k0 hC hE Hc locs ls hR hl h1 h2)
theorem op_lald {n i : Nat} {x : Int32} (hd : decode M.2.1 pc = .ok (.laload, 1)) (hg : g.1[i]? = some (51, n)) (hx : vp_in x n) (h : AW l ρ d M (pc + 1) L (.long (H.2.1 i x.toNatClampNeg) :: S) g H E Q) : AW l ρ d M pc L (.int x :: .ref i :: S) g H E Q := by
  intro p e R s m args below meth c A QQ n0 k0 hC hE Hc locs ls hR hl h1 h2
  have hw := am_ws_get (ρ := ρ) (H := H) hg
  rw [am_cell_l] at hw
  exact va_lald hC.1 hC.2.1 hC.2.2.2.2.2.2.1.1 hR.1 i 1 hw rfl hx hd (h p e R s m args below meth c A QQ n0 k0 hC hE Hc locs ls hR hl h1 h2)
theorem op_bald {n i : Nat} {x : Int32} (hd : decode M.2.1 pc = .ok (.baload, 1)) (hg : g.1[i]? = some (52, n)) (hx : vp_in x n) (h : AW l ρ d M (pc + 1) L (.int (H.1 i x.toNatClampNeg) :: S) g H E Q) : AW l ρ d M pc L (.int x :: .ref i :: S) g H E Q := by
  intro p e R s m args below meth c A QQ n0 k0 hC hE Hc locs ls hR hl h1 h2
  have hw := am_ws_get (ρ := ρ) (H := H) hg
  rw [am_cell_b] at hw
  exact va_bald hC.1 hC.2.1 hC.2.2.2.2.2.2.1.1 hR.1 i 2 hw rfl hx hd (h p e R s m args below meth c A QQ n0 k0 hC hE Hc locs ls hR hl h1 h2)
theorem op_iast {n i : Nat} {x : Int32} {y : Int32} (hd : decode M.2.1 pc = .ok (.iastore, 1)) (hg : g.1[i]? = some (50, n)) (hx : vp_in x n) (h : AW l ρ d M (pc + 1) L S g (am_u H.1 i x.toNatClampNeg y, H.2) E Q) : AW l ρ d M pc L (.int y :: .int x :: .ref i :: S) g H E Q := by
  intro p e R s m args below meth c A QQ n0 k0 hC hE Hc locs ls hR hl h1 h2
  obtain ⟨hP, hD, hS, hT, hZ⟩ := hR
  have hw := am_ws_get (ρ := ρ) (H := H) hg
  rw [am_cell_i] at hw
  have e1 : am_cell ρ (am_u H.1 i x.toNatClampNeg y, H.2) i (50, n) = .inl (ρ.2.1 0, n, .inl (upd (H.1 i) x.toNatClampNeg y)) := by
    rw [am_cell_i]
    congr
    funext j
    simp [am_u, upd, vp_updL, vp_nar_byte]
  have hset := am_ws_set (ρ := ρ) (H := H) (H' := (am_u H.1 i x.toNatClampNeg y, H.2)) hg (fun j r hj => am_cell_1 hj r)
  rw [e1] at hset
  refine va_iast hC.1 hC.2.1 hC.2.2.2.2.2.2.1.1 hP hD hS i 0 hw rfl hx hd ?_
  rw [hset]
  exact fun H1 locs1 a1 a2 a3 => h p e R s m args below meth c A QQ n0 k0 hC hE H1 locs1 ls ⟨a1, a2, a3, hT, hZ⟩ hl h1 h2
theorem op_last {n i : Nat} {x : Int32} {y : Int64} (hd : decode M.2.1 pc = .ok (.lastore, 1)) (hg : g.1[i]? = some (51, n)) (hx : vp_in x n) (h : AW l ρ d M (pc + 1) L S g (H.1, am_u H.2.1 i x.toNatClampNeg y, H.2.2) E Q) : AW l ρ d M pc L (.long y :: .int x :: .ref i :: S) g H E Q := by
  intro p e R s m args below meth c A QQ n0 k0 hC hE Hc locs ls hR hl h1 h2
  obtain ⟨hP, hD, hS, hT, hZ⟩ := hR
  have hw := am_ws_get (ρ := ρ) (H := H) hg
  rw [am_cell_l] at hw
  have e1 : am_cell ρ (H.1, am_u H.2.1 i x.toNatClampNeg y, H.2.2) i (51, n) = .inl (ρ.2.1 1, n, .inr (.inl (vp_updL (H.2.1 i) x.toNatClampNeg y))) := by
    rw [am_cell_l]
    congr
    funext j
    simp [am_u, upd, vp_updL, vp_nar_byte]
  have hset := am_ws_set (ρ := ρ) (H := H) (H' := (H.1, am_u H.2.1 i x.toNatClampNeg y, H.2.2)) hg (fun j r hj => am_cell_2 hj r)
  rw [e1] at hset
  refine va_last hC.1 hC.2.1 hC.2.2.2.2.2.2.1.1 hP hD hS i 1 hw rfl hx hd ?_
  rw [hset]
  exact fun H1 locs1 a1 a2 a3 => h p e R s m args below meth c A QQ n0 k0 hC hE H1 locs1 ls ⟨a1, a2, a3, hT, hZ⟩ hl h1 h2
theorem op_bast {n i : Nat} {x : Int32} {y : Int32} (hd : decode M.2.1 pc = .ok (.bastore, 1)) (hg : g.1[i]? = some (52, n)) (hx : vp_in x n) (h : AW l ρ d M (pc + 1) L S g (am_u H.1 i x.toNatClampNeg y.toInt8.toInt32, H.2) E Q) : AW l ρ d M pc L (.int y :: .int x :: .ref i :: S) g H E Q := by
  intro p e R s m args below meth c A QQ n0 k0 hC hE Hc locs ls hR hl h1 h2
  obtain ⟨hP, hD, hS, hT, hZ⟩ := hR
  have hw := am_ws_get (ρ := ρ) (H := H) hg
  rw [am_cell_b] at hw
  have e1 : am_cell ρ (am_u H.1 i x.toNatClampNeg y.toInt8.toInt32, H.2) i (52, n) = .inl (ρ.2.1 2, n, .inl (upd (H.1 i) x.toNatClampNeg (vp_nar .byte y))) := by
    rw [am_cell_b]
    congr
    funext j
    simp [am_u, upd, vp_updL, vp_nar_byte]
  have hset := am_ws_set (ρ := ρ) (H := H) (H' := (am_u H.1 i x.toNatClampNeg y.toInt8.toInt32, H.2)) hg (fun j r hj => am_cell_1 hj r)
  rw [e1] at hset
  refine va_bast hC.1 hC.2.1 hC.2.2.2.2.2.2.1.1 hP hD hS i 2 hw rfl hx hd ?_
  rw [hset]
  exact fun H1 locs1 a1 a2 a3 => h p e R s m args below meth c A QQ n0 k0 hC hE H1 locs1 ls ⟨a1, a2, a3, hT, hZ⟩ hl h1 h2
theorem op_aald {n i z : Nat} {x : Int32} (hd : decode M.2.1 pc = .ok (.aaload, 1)) (hg : g.1[i]? = some (53, n)) (hx : vp_in x n) (hz : H.2.2 i x.toNatClampNeg = some z) (h : AW l ρ d M (pc + 1) L (.ref z :: S) g H E Q) : AW l ρ d M pc L (.int x :: .ref i :: S) g H E Q := by
  intro p e R s m args below meth c A QQ n0 k0 hC hE Hc locs ls hR hl h1 h2
  have hw := am_ws_get (ρ := ρ) (H := H) hg
  rw [am_cell_g] at hw
  have hlt : x.toNatClampNeg < n := Nat.not_le.mp fun q => hx (Or.inr q)
  have hat := hR.1 i _ hw
  exact W.aald (v := .ref (ρ.1 z)) (ty := .array .int) hC.1 hC.2.1 hat ((hC.2.2.2.2.2.2.1.1.2 3 _ rfl).1 n (fun j => va_rf ((H.2.2 i j).map ρ.1))) rfl (fun q => by cases q) (by show ¬ (x < 0 ∨ (arrV _ _ _).slots.size ≤ _); rw [arrV_size]; exact hx) (by show (arrV _ _ _).slots[_]? = _; rw [arrV_read _ _ hlt]; show some (va_rf (Option.map ρ.1 (H.2.2 i x.toNatClampNeg))) = _; rw [hz]; rfl) rfl rfl hd (h p e R s m args below meth c A QQ n0 k0 hC hE Hc locs ls hR hl h1 h2)
theorem op_alen50 {n i : Nat} (hd : decode M.2.1 pc = .ok (.arraylength, 1)) (hg : g.1[i]? = some (50, n)) (h : AW l ρ d M (pc + 1) L (.int (Int32.ofNat n) :: S) g H E Q) : AW l ρ d M pc L (.ref i :: S) g H E Q := by
  intro p e R s m args below meth c A QQ n0 k0 hC hE Hc locs ls hR hl h1 h2
  have hw := am_ws_get (ρ := ρ) (H := H) hg
  rw [am_cell_i] at hw
  exact va_alen hC.1 hC.2.1 hC.2.2.2.2.2.2.1.1 hR.1 i 0 hw rfl rfl hd (h p e R s m args below meth c A QQ n0 k0 hC hE Hc locs ls hR hl h1 h2)
theorem op_alen51 {n i : Nat} (hd : decode M.2.1 pc = .ok (.arraylength, 1)) (hg : g.1[i]? = some (51, n)) (h : AW l ρ d M (pc + 1) L (.int (Int32.ofNat n) :: S) g H E Q) : AW l ρ d M pc L (.ref i :: S) g H E Q := by
  intro p e R s m args below meth c A QQ n0 k0 hC hE Hc locs ls hR hl h1 h2
  have hw := am_ws_get (ρ := ρ) (H := H) hg
  rw [am_cell_l] at hw
  exact va_alen hC.1 hC.2.1 hC.2.2.2.2.2.2.1.1 hR.1 i 1 hw rfl rfl hd (h p e R s m args below meth c A QQ n0 k0 hC hE Hc locs ls hR hl h1 h2)
theorem op_alen52 {n i : Nat} (hd : decode M.2.1 pc = .ok (.arraylength, 1)) (hg : g.1[i]? = some (52, n)) (h : AW l ρ d M (pc + 1) L (.int (Int32.ofNat n) :: S) g H E Q) : AW l ρ d M pc L (.ref i :: S) g H E Q := by
  intro p e R s m args below meth c A QQ n0 k0 hC hE Hc locs ls hR hl h1 h2
  have hw := am_ws_get (ρ := ρ) (H := H) hg
  rw [am_cell_b] at hw
  exact va_alen hC.1 hC.2.1 hC.2.2.2.2.2.2.1.1 hR.1 i 2 hw rfl rfl hd (h p e R s m args below meth c A QQ n0 k0 hC hE Hc locs ls hR hl h1 h2)
/-- a static array: its reference, its ints -/
theorem op_gets {idx j : Nat} {q : String × String × Nat × List Int32} (hd : decode M.2.1 pc = .ok (.getstatic idx, 3)) (hj : am_sta[j]? = some q) (hw : Cond.fieldLink M.1.cls idx q.1 q.2.1 "[I" ∈ am_T) (h : AW l ρ d M (pc + 3) L (.ref (1001 + j) :: S) g H E Q) : AW l ρ d M pc L S g H E Q := by
  intro p e R s m args below meth c A QQ n0 k0 hC hE Hc locs ls hR hl h1 h2
  exact va_gets hC.1 hC.2.1 (hC.2.2.2.2.2.2.1.2.2.1 j q hj).1 hR.2.2.1 hC.2.2.2.1 (hC.2.2.2.2.1 _ hw) (fun _ hx => hx) hd (h p e R s m args below meth c A QQ n0 k0 hC hE Hc locs ls hR hl h1 h2)
theorem op_tald {j : Nat} {q : String × String × Nat × List Int32} {x v : Int32} (hd : decode M.2.1 pc = .ok (.iaload, 1)) (hj : am_sta[j]? = some q) (hx : vp_in x q.2.2.1) (hv : am_tab q.2.2.2 x.toNatClampNeg = v) (h : AW l ρ d M (pc + 1) L (.int v :: S) g H E Q) : AW l ρ d M pc L (.int x :: .ref (1001 + j) :: S) g H E Q := by
  intro p e R s m args below meth c A QQ n0 k0 hC hE Hc locs ls hR hl h1 h2
  exact va_ti hC.1 hC.2.1 (hC.2.2.2.2.2.2.1.2.2.1 j q hj).2 hR.2.2.1 hx (by subst hv; rfl) hd (h p e R s m args below meth c A QQ n0 k0 hC hE Hc locs ls hR hl h1 h2)
/-- the script -/
theorem op_sald {x : Int32} (hd : decode M.2.1 pc = .ok (.iaload, 1)) (hx : vp_in x ρ.2.2.2.1) (h : AW l ρ d M (pc + 1) L (.int (ρ.2.2.2.2 x.toNatClampNeg) :: S) g H E Q) : AW l ρ d M pc L (.int x :: .ref 1006 :: S) g H E Q := by
  intro p e R s m args below meth c A QQ n0 k0 hC hE Hc locs ls hR hl h1 h2
  exact va_sld hC.1 hC.2.1 hC.2.2.2.2.2.2.1.2.2.2.1.1 hC.2.2.2.2.2.2.1.2.2.2.1.2.1 hC.2.2.2.2.2.2.1.2.2.2.1.2.2 hR.2.2.1 hx hd (h p e R s m args below meth c A QQ n0 k0 hC hE Hc locs ls hR hl h1 h2)
theorem op_slen (hd : decode M.2.1 pc = .ok (.arraylength, 1)) (h : AW l ρ d M (pc + 1) L (.int (Int32.ofNat ρ.2.2.2.1) :: S) g H E Q) : AW l ρ d M pc L (.ref 1006 :: S) g H E Q := by
  intro p e R s m args below meth c A QQ n0 k0 hC hE Hc locs ls hR hl h1 h2
  exact va_slen hC.1 hC.2.1 hC.2.2.2.2.2.2.1.2.2.2.1.1 hC.2.2.2.2.2.2.1.2.2.2.1.2.1 hC.2.2.2.2.2.2.1.2.2.2.1.2.2 hR.2.2.1 hd (h p e R s m args below meth c A QQ n0 k0 hC hE Hc locs ls hR hl h1 h2)
end AMF
