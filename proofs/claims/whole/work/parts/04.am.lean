/-! ===== the abstract machine: one heap as functions of two numbers, objects numbered as they are made ===== -/
abbrev am_M : Type := MethodName × ByteArray × Nat × Option FieldType
abbrev am_H : Type := (Nat → Nat → Int32) × (Nat → Nat → Int64) × (Nat → Nat → Option Nat)
/-- kinds of the cells (below 50: a class; 50 int[], 51 long[], 52 byte[], 53 int[][]) with their sizes; cells made; slots made -/
abbrev am_G : Type := List (Nat × Nat) × Nat × Nat
/-- addresses; the array classes; the kit's numbers of classes and fields; the script's length and ints -/
abbrev am_R : Type := (Nat → Nat) × (Nat → ClassId) × va_G × Nat × (Nat → Int32)
def am_u {α : Type} (f : Nat → Nat → α) (i k : Nat) (x : α) : Nat → Nat → α := fun a b => if a = i ∧ b = k then x else f a b
def am_row {α : Type} (f : Nat → Nat → α) (i : Nat) (r : Nat → α) : Nat → Nat → α := fun a b => if a = i then r b else f a b
def am_ty (t k : Nat) : FieldType := match t with
  | 0 => tyX0 k
  | 1 => tyX1 k
  | 2 => tyX2 k
  | 3 => tyX3 k
  | 4 => tyX4 k
  | 5 => tyX5 k
  | 6 => tyX6 k
  | 7 => tyX7 k
  | 8 => tyX8 k
  | 9 => tyX9 k
  | 10 => tyX10 k
  | 11 => tyX11 k
  | _ => tyX12 k
def am_fv (α : Nat → Nat) (H : am_H) (ty : FieldType) (i k : Nat) : Value := match ty with
  | .long => .long (H.2.1 i k)
  | .object _ => va_rf ((H.2.2 i k).map α)
  | .array _ => va_rf ((H.2.2 i k).map α)
  | _ => .int (H.1 i k)
def am_v (α : Nat → Nat) (v : Value) : Value := match v with
  | .ref i => .ref (α i)
  | w => w
def am_q (α : Nat → Nat) (q : Nat × Value) : Nat × Value := (q.1, am_v α q.2)
theorem am_cat (α : Nat → Nat) (v : Value) : (am_v α v).category = v.category := by cases v <;> rfl
def am_cell (ρ : am_R) (H : am_H) (i : Nat) (q : Nat × Nat) : va_E :=
  if q.1 < 50 then .inr (q.1, (List.range q.2).map (fun k => am_fv ρ.1 H (am_ty q.1 k) i k))
  else if q.1 = 50 then .inl (ρ.2.1 0, q.2, .inl (H.1 i))
  else if q.1 = 51 then .inl (ρ.2.1 1, q.2, .inr (.inl (H.2.1 i)))
  else if q.1 = 52 then .inl (ρ.2.1 2, q.2, .inl (H.1 i))
  else .inl (ρ.2.1 3, q.2, .inr (.inr (.inr (.inr (fun j => (H.2.2 i j).map ρ.1)))))
def am_ws (ρ : am_R) (kd : List (Nat × Nat)) (H : am_H) : va_W := (List.range kd.length).map (fun i => (ρ.1 i, am_cell ρ H i (kd.getD i (0, 0))))
theorem am_ws_get {ρ : am_R} {kd : List (Nat × Nat)} {H : am_H} {i : Nat} {q : Nat × Nat} (h : kd[i]? = some q) : (am_ws ρ kd H)[i]? = some (ρ.1 i, am_cell ρ H i q) := by
  have hi := (List.getElem?_eq_some_iff.mp h).1
  unfold am_ws
  rw [List.getElem?_map, List.getElem?_range hi]
  simp [List.getD_eq_getElem?_getD, h]
theorem am_ws_len {ρ : am_R} {kd : List (Nat × Nat)} {H : am_H} : (am_ws ρ kd H).length = kd.length := by simp [am_ws]
theorem am_ws_set {ρ : am_R} {kd : List (Nat × Nat)} {H H' : am_H} {i : Nat} {q : Nat × Nat} (h : kd[i]? = some q) (ho : ∀ j r, j ≠ i → am_cell ρ H' j r = am_cell ρ H j r) :
    (am_ws ρ kd H).set i (ρ.1 i, am_cell ρ H' i q) = am_ws ρ kd H' := by
  have hi := (List.getElem?_eq_some_iff.mp h).1
  apply List.ext_getElem?
  intro j
  by_cases hj : j < kd.length
  · have hj' : kd[j]? = some kd[j] := List.getElem?_eq_getElem hj
    by_cases e : j = i
    · subst e
      rw [List.getElem?_set_self (by rw [am_ws_len]; exact hj), am_ws_get h]
    · rw [List.getElem?_set_ne (Ne.symm e), am_ws_get hj', am_ws_get hj', ho j _ e]
  · rw [List.getElem?_eq_none (by rw [List.length_set, am_ws_len]; omega), List.getElem?_eq_none (by rw [am_ws_len]; omega)]
theorem am_ws_push {ρ : am_R} {kd : List (Nat × Nat)} {H H' : am_H} {q : Nat × Nat} (ho : ∀ j r, j < kd.length → am_cell ρ H' j r = am_cell ρ H j r) :
    am_ws ρ kd H ++ [(ρ.1 kd.length, am_cell ρ H' kd.length q)] = am_ws ρ (kd ++ [q]) H' := by
  apply List.ext_getElem?
  intro j
  rcases Nat.lt_trichotomy j kd.length with h | h | h
  · rw [List.getElem?_append_left (by rw [am_ws_len]; exact h)]
    have hj' : kd[j]? = some kd[j] := List.getElem?_eq_getElem h
    have hj2 : (kd ++ [q])[j]? = some kd[j] := by rw [List.getElem?_append_left h]; exact hj'
    rw [am_ws_get hj', am_ws_get hj2, ho j _ h]
  · subst h
    have hj2 : (kd ++ [q])[kd.length]? = some q := by simp
    rw [am_ws_get hj2, List.getElem?_append_right (by rw [am_ws_len]; exact Nat.le_refl _), am_ws_len]
    simp
  · rw [List.getElem?_eq_none (by simp [am_ws_len]; omega), List.getElem?_eq_none (by simp [am_ws_len]; omega)]
/-- what a cell is doesn't hang on other cells' contents -/
theorem am_cell_eq {ρ : am_R} {H H' : am_H} {j : Nat} (h1 : ∀ k, H'.1 j k = H.1 j k) (h2 : ∀ k, H'.2.1 j k = H.2.1 j k) (h3 : ∀ k, H'.2.2 j k = H.2.2 j k) (r : Nat × Nat) : am_cell ρ H' j r = am_cell ρ H j r := by
  have e1 : H'.1 j = H.1 j := funext h1
  have e2 : H'.2.1 j = H.2.1 j := funext h2
  have e3 : H'.2.2 j = H.2.2 j := funext h3
  unfold am_cell am_fv
  simp only [e1, e2, e3]
theorem am_cell_1 {ρ : am_R} {H : am_H} {i k j : Nat} {x : Int32} (h : j ≠ i) (r : Nat × Nat) : am_cell ρ (am_u H.1 i k x, H.2) j r = am_cell ρ H j r := am_cell_eq (H := H) (H' := (am_u H.1 i k x, H.2)) (fun k => by simp [am_u, h]) (fun _ => rfl) (fun _ => rfl) r
theorem am_cell_2 {ρ : am_R} {H : am_H} {i k j : Nat} {x : Int64} (h : j ≠ i) (r : Nat × Nat) : am_cell ρ (H.1, am_u H.2.1 i k x, H.2.2) j r = am_cell ρ H j r := am_cell_eq (H := H) (H' := (H.1, am_u H.2.1 i k x, H.2.2)) (fun _ => rfl) (fun k => by simp [am_u, h]) (fun _ => rfl) r
theorem am_cell_3 {ρ : am_R} {H : am_H} {i k j : Nat} {x : Option Nat} (h : j ≠ i) (r : Nat × Nat) : am_cell ρ (H.1, H.2.1, am_u H.2.2 i k x) j r = am_cell ρ H j r := am_cell_eq (H := H) (H' := (H.1, H.2.1, am_u H.2.2 i k x)) (fun _ => rfl) (fun _ => rfl) (fun k => by simp [am_u, h]) r
/-- an object's fields with one set -/
theorem am_fields {ρ : am_R} {H H' : am_H} {t n i k : Nat} (hk : k < n) (ho : ∀ j, j ≠ k → am_fv ρ.1 H' (am_ty t j) i j = am_fv ρ.1 H (am_ty t j) i j) :
    ((List.range n).map (fun j => am_fv ρ.1 H (am_ty t j) i j)).set k (am_fv ρ.1 H' (am_ty t k) i k) = (List.range n).map (fun j => am_fv ρ.1 H' (am_ty t j) i j) := by
  apply List.ext_getElem?
  intro j
  by_cases hj : j < n
  · by_cases e : j = k
    · subst e
      rw [List.getElem?_set_self (by simpa using hj), List.getElem?_map, List.getElem?_range hj]; rfl
    · rw [List.getElem?_set_ne (Ne.symm e), List.getElem?_map, List.getElem?_map, List.getElem?_range hj]
      exact congrArg some (ho j e).symm
  · rw [List.getElem?_eq_none (by simpa using hj), List.getElem?_eq_none (by simpa using hj)]
/-! the tables' words that a method may ask -/
def am_T : List Cond := lw_tbl.filter goodWord
theorem am_in {w : Cond} (i : Nat) (h : lw_tbl[i]? = some w) (hg : goodWord w = true) : w ∈ am_T := List.mem_filter.mpr ⟨List.mem_of_getElem? h, hg⟩
theorem am_T_of {args : Array Value} {s : State} (h : ∀ w ∈ lw_tbl, w.before args s = true) : ∀ w ∈ am_T, w.before args s = true := fun w hw => h w (List.mem_filter.mp hw).1
def am_wd (M : am_M) : List Cond := Cond.code M.1 M.2.1 M.2.2.1 M.2.2.2 :: am_T
theorem am_good {M : am_M} (h : Cond.code M.1 M.2.1 M.2.2.1 M.2.2.2 ∈ am_T) : GoodIn am_T (am_wd M) := by
  intro w hw
  rcases List.mem_cons.mp hw with e | hw
  · subst e
    exact ⟨h, Or.inl rfl⟩
  · exact ⟨hw, good_of_word (List.mem_filter.mp hw).2⟩
/-! static arrays, string constants, the script: cells that nobody writes -/
def am_tab (l : List Int32) (j : Nat) : Int32 := l.getD j 0
/-- class, name, length, ints; the reference is 1001 and on -/
def am_sta : List (String × String × Nat × List Int32) := [
  ("WayShares$RoadReader", "LETTERS", 9, [102, 109, 0, 116, 119, 115, 115, 112, 110]),
  ("WayShares$RoadReader", "LEAST", 9, [0, 1, 0, 1, 0, 1, 1, 1, 0]),
  ("WayShares$RoadReader", "MOST", 9, [8, 20, 0, 9, 99, 3, 9, 20, 99]),
  ("WayShares$RoadReader", "WITHOUT", 9, [0, 1, 0, 1, 99, 1, 4, 1, 99]),
  ("WayShares$Shares", "FACTORIALS", 7, [1, 1, 2, 6, 24, 120, 720])]
/-- the string constants: place in the pool, text, bytes; the reference is 1010 and on, its bytes' 1020 and on -/
def am_str : List (Nat × String × List Int32) := [
  (26, "y", [121]), (32, "mswnpk", [109, 115, 119, 110, 112, 107]), (253, "fm", [102, 109]), (255, "tws", [116, 119, 115]), (257, "spn", [115, 112, 110])]
def am_sl : List Nat := am_str.map (fun q => q.2.2.length)
def am_sb : List (List Int32) := am_str.map (fun q => q.2.2)
/-- private methods of nest mates that are called: class, place, method, host -/
def am_nest : List (String × Nat × MethodName × String) := [(RX11, 9, yX10_init, "WayShares"), (RX11, 18, yX2_init, "WayShares"), (RX11, 46, yX5_init, "WayShares"), (RX11, 94, yX0_init, "WayShares"), (RX3, 108, yX11_isWithin, "WayShares"), (RX4, 84, yX11_isWithin, "WayShares"), (RX2, 56, yX11_isIn, "WayShares"), (RX7, 101, yX11_isIn, "WayShares"), (RX9, 34, yX11_isIn, "WayShares"), (RX6, 63, yX11_isIn, "WayShares"), (RX0, 47, yX11_isIn, "WayShares")]
def am_tys (ρ : am_R) : List (ClassId × FieldType) := [(ρ.2.1 0, .int), (ρ.2.1 1, .long), (ρ.2.1 2, .byte), (ρ.2.1 3, .array .int)]
/-- the exception that rider throws; the constructors above its own -/
def am_NE : String := "java/util/NoSuchElementException"
def am_NEi : List MethodName := [Bundle.init0 "java/lang/RuntimeException", Bundle.init0 "java/lang/Exception", Bundle.init0 Bundle.tN]
theorem am_AOA {t : FieldType} {s U : State} (hW : s.WarmedH U.vm) (h : va_AOA t s) : va_AOA t U := over_moved hW.alike h
def am_At (ρ : am_R) (A : Nat → Prop) (s : State) : Prop :=
  va_K ρ.2.2.1 vwCl (am_tys ρ) s ∧ (∀ i : Nat, i < 1000 → ρ.1 (i + 1) = ρ.1 i + 1) ∧
  (∀ (j : Nat) (q : String × String × Nat × List Int32), am_sta[j]? = some q → va_Z q.1 q.2.1 "[I" (.ref (ρ.1 (1001 + j))) A s s.heap ∧ va_T .int (ρ.1 (1001 + j)) q.2.2.1 (fun i => .int (am_tab q.2.2.2 i)) A s s.heap) ∧
  (va_X (ρ.1 1006) ρ.2.2.2.1 ρ.2.2.2.2 s s.heap ∧ ρ.1 1006 < s.heap.size ∧ ¬ A (ρ.1 1006)) ∧
  vk_S 5 am_sl am_sb (fun i => ρ.1 (1010 + i)) (fun i => ρ.1 (1020 + i)) A s s.heap ∧
  (∀ (i : Nat) (q : Nat × String × List Int32), am_str[i]? = some q → vk_R "WaySharesModel" q.1 q.2.1 (ρ.1 (1010 + i)) s) ∧
  va_Z "java/lang/String" "COMPACT_STRINGS" "Z" (.int 1) A s s.heap ∧ (va_Z "jdk/internal/util/Preconditions" "SIOOBE_FORMATTER" "Ljava/util/function/BiFunction;" .null A s s.heap ∨ va_Z "jdk/internal/util/Preconditions" "SIOOBE_FORMATTER" "Ljava/util/function/BiFunction;" (.ref (ρ.1 1030)) A s s.heap) ∧
  (∀ q ∈ am_nest, va_Nw (Cond.methodLinkNest q.1 q.2.1 q.2.2.1 q.2.2.2) s) ∧
  vx_Zq Bundle.tN "UNASSIGNED_STACK" Bundle.steD A s s.heap ∧ vx_Zq Bundle.tN "SUPPRESSED_SENTINEL" Bundle.listD A s s.heap ∧
  (va_AOA .int s ∧ va_Nw (Cond.castable am_NE am_NE) s ∧ ∀ y ∈ am_NEi, va_Nw (Cond.declares y) s)
theorem am_At.moved {ρ : am_R} {A A' : Nat → Prop} {s U : State} (h : am_At ρ A s) (hW : s.WarmedH U.vm) (hz : s.heap.size ≤ U.heap.size) (hk : ∀ a : Nat, a < s.heap.size → ¬ A a → U.heap[a]? = s.heap[a]?) (hA : ∀ q, A' q → A q) : am_At ρ A' U := by
  obtain ⟨h1, h2, h3, ⟨h4, h5, h6⟩, h7, h8, h9, h10, h11, h12, h13, h14, h15, h16⟩ := h
  exact ⟨va_K.moved hW.alike h1, h2, fun j q hj => ⟨(((h3 j q hj).1.moved hW.alike).kept hk).narrow hA, (((h3 j q hj).2.moved hW.alike).kept hk).narrow hA⟩,
    ⟨(h4.moved hW.alike).kept (hk _ h5 h6), Nat.lt_of_lt_of_le h5 hz, fun z => h6 (hA _ z)⟩, ((h7.moved hW.alike).kept hk).narrow hA, fun i q hi => (h8 i q hi).warm hW, ((h9.moved hW.alike).kept hk).narrow hA, h10.imp (fun z => ((z.moved hW.alike).kept hk).narrow hA) (fun z => ((z.moved hW.alike).kept hk).narrow hA), fun q hq => (h11 q hq).warmM hW, ((vx_Zq.moved hW.alike h12).kept hk).narrow hA, ((vx_Zq.moved hW.alike h13).kept hk).narrow hA, am_AOA hW h14, h15.warmC hW, fun y hy => (h16 y hy).warmD hW⟩
def am_Rel (ρ : am_R) (A : Nat → Prop) (s : State) (n0 : Nat) (g : am_G) (H : am_H) (Hc : Heap) (locs : List Loc) : Prop :=
  va_P ρ.2.2.1 vwCl (am_ws ρ g.1 H) Hc ∧ va_D A (am_ws ρ g.1 H) ∧ va_S A s.heap Hc locs ∧ (g.1.length = g.2.1 → s.heap.size + (g.2.1 - n0) = ρ.1 g.1.length) ∧ g.1.length ≤ 900
def am_Cx (l : Launch) (ρ : am_R) (d : Nat) (M : am_M) (E : am_G) (n0 k0 : Nat) (p : Program) (e : Env) (R : Room) (s : State) (m : MethodId) (args : Array Value) (below : List Frame) (meth : Method) (c : Code) (A : Nat → Prop) : Prop :=
  p.tables.exec = Jvm.exec ∧ c.code = M.2.1 ∧ c.maxLocals = M.2.2.1 ∧ s.vm.findClass M.1.cls = some m.cls ∧ (∀ w ∈ am_T, w.before args s = true) ∧ (M.1.name = "<init>" → meth.name = "<init>") ∧ am_At ρ A s ∧ (∀ q, s.heap.size ≤ q → A q) ∧ (d ≤ R.frames ∧ 64 * d ≤ R.locals) ∧ E.2.1 - n0 ≤ R.cells ∧ E.2.2 - k0 ≤ R.slots
def am_Rt (M : am_M) (pc : Nat) (v : List Value) : Prop := match v with
  | [] => (decode M.2.1 pc = .ok (.return_, 1) ∧ M.2.2.2 = none) ∨ ((M.1.cls = RX11 ∧ M.1.name = "rider") ∧ pc = 17)
  | [.int x] => decode M.2.1 pc = .ok (.ireturn, 1) ∧ ∃ ty, M.2.2.2 = some ty ∧ narrow ty (.int x) = .int x
  | [.long _] => decode M.2.1 pc = .ok (.lreturn, 1) ∧ M.2.2.2 = some .long
  | _ => False
/-- from this place on, method M (d levels of calls left) comes to a return with Q, the cells made being those of E then -/
def AW (l : Launch) (ρ : am_R) (d : Nat) (M : am_M) (pc : Nat) (L : List (Nat × Value)) (S : List Value) (g : am_G) (H : am_H) (E : am_G) (Q : List Value → am_H → Prop) : Prop :=
  ∀ (p : Program) (e : Env) (R : Room) (s : State) (m : MethodId) (args : Array Value) (below : List Frame) (meth : Method) (c : Code) (A : Nat → Prop) (QQ : State → Prop) (n0 k0 : Nat),
    am_Cx l ρ d M E n0 k0 p e R s m args below meth c A →
    (∀ (Hc : Heap) (locs : List Loc) (ls : Array Slot) (pcr : Nat) (v : List Value) (H' : am_H), am_Rt M pcr v → Q v H' ∧ ls.size = M.2.2.1 → am_Rel ρ A s n0 E H' Hc locs → W p l e R s m args below meth c Hc locs (E.2.1 - n0) (E.2.2 - k0) QQ (F0 m pcr ls v)) →
    ∀ (Hc : Heap) (locs : List Loc) (ls : Array Slot), am_Rel ρ A s n0 g H Hc locs → lv_has ls M.2.2.1 (L.map (am_q ρ.1)) → n0 ≤ g.2.1 → k0 ≤ g.2.2 →
      W p l e R s m args below meth c Hc locs (g.2.1 - n0) (g.2.2 - k0) QQ (F0 m pc ls (S.map (am_v ρ.1)))
/-! locals -/
def am_st (L : List (Nat × Value)) (i : Nat) (v : Value) : List (Nat × Value) := (i, v) :: L.filter (fun q => !(q.1 == i) && !(q.1 + 1 == i && q.2.category == 2))
def am_st2 (L : List (Nat × Value)) (i : Nat) (v : Value) : List (Nat × Value) := (i, v) :: L.filter (fun q => !(q.1 == i) && (!(q.1 == i + 1) && !(q.1 + 1 == i && q.2.category == 2)))
theorem am_st_map {α : Nat → Nat} {L : List (Nat × Value)} {i : Nat} {v : Value} : (am_st L i v).map (am_q α) = (i, am_v α v) :: (L.map (am_q α)).filter (fun q => !(q.1 == i) && !(q.1 + 1 == i && q.2.category == 2)) := by
  unfold am_st
  rw [List.map_cons, List.filter_map]
  refine congrArg (List.cons _) (congrArg (List.map (am_q α)) (List.filter_congr fun q _ => ?_))
  show _ = (!(q.1 == i) && !(q.1 + 1 == i && (am_v α q.2).category == 2))
  rw [am_cat]
theorem am_st2_map {α : Nat → Nat} {L : List (Nat × Value)} {i : Nat} {v : Value} : (am_st2 L i v).map (am_q α) = (i, am_v α v) :: (L.map (am_q α)).filter (fun q => !(q.1 == i) && (!(q.1 == i + 1) && !(q.1 + 1 == i && q.2.category == 2))) := by
  unfold am_st2
  rw [List.map_cons, List.filter_map]
  refine congrArg (List.cons _) (congrArg (List.map (am_q α)) (List.filter_congr fun q _ => ?_))
  show _ = (!(q.1 == i) && (!(q.1 == i + 1) && !(q.1 + 1 == i && (am_v α q.2).category == 2)))
  rw [am_cat]
theorem am_at {α : Nat → Nat} {L : List (Nat × Value)} {ls : Array Slot} {nL k i : Nat} {v : Value} (h : lv_has ls nL (L.map (am_q α))) (hk : L[k]? = some (i, v)) : ls[i]? = some (.val (am_v α v)) :=
  lv_at h k (by rw [List.getElem?_map, hk]; rfl)
theorem am_args (α : Nat → Nat) : ∀ (vs : List Value) (i : Nat), lv_args i (vs.map (am_v α)) = (lv_args i vs).map (am_q α)
  | [], _ => rfl
  | v :: vs, i => by
    show (i, am_v α v) :: lv_args (if (am_v α v).category = 2 then i + 2 else i + 1) (vs.map (am_v α)) = (i, am_v α v) :: (lv_args (if v.category = 2 then i + 2 else i + 1) vs).map (am_q α)
    rw [am_cat, am_args α vs]
theorem AW.perm {l : Launch} {ρ : am_R} {d : Nat} {M : am_M} {pc : Nat} {L L' : List (Nat × Value)} {S : List Value} {g E : am_G} {H : am_H} {Q : List Value → am_H → Prop} (ks : List Nat) (hL : ks.filterMap (fun k => L[k]?) = L') (h : AW l ρ d M pc L' S g H E Q) : AW l ρ d M pc L S g H E Q := by
  intro p e R s m args below meth c A QQ n0 k0 hC hE Hc locs ls hR hl h1 h2
  refine h p e R s m args below meth c A QQ n0 k0 hC hE Hc locs ls hR ⟨hl.1, hl.2.1, fun q hq => ?_⟩ h1 h2
  subst hL
  obtain ⟨q0, hq0, rfl⟩ := List.mem_map.mp hq
  obtain ⟨k, -, hk⟩ := List.mem_filterMap.mp hq0
  exact hl.2.2 _ (List.mem_map.mpr ⟨q0, List.mem_of_getElem? hk, rfl⟩)
theorem AW.mono {l : Launch} {ρ : am_R} {d : Nat} {M : am_M} {pc : Nat} {L : List (Nat × Value)} {S : List Value} {g E : am_G} {H : am_H} {Q Q' : List Value → am_H → Prop} (hQ : ∀ v H', Q v H' → Q' v H') (h : AW l ρ d M pc L S g H E Q) : AW l ρ d M pc L S g H E Q' := by
  intro p e R s m args below meth c A QQ n0 k0 hC hE
  exact h p e R s m args below meth c A QQ n0 k0 hC (fun Hc locs ls pcr v H' a b => hE Hc locs ls pcr v H' a ⟨hQ _ _ b.1, b.2⟩)
theorem AW.deep {l : Launch} {ρ : am_R} {d d' : Nat} {M : am_M} {pc : Nat} {L : List (Nat × Value)} {S : List Value} {g E : am_G} {H : am_H} {Q : List Value → am_H → Prop} (hd : d ≤ d') (h : AW l ρ d M pc L S g H E Q) : AW l ρ d' M pc L S g H E Q := by
  intro p e R s m args below meth c A QQ n0 k0 hC hE
  obtain ⟨a1, a2, a3, a4, a5, a6, a7, a8, ⟨a9, a10⟩, a11⟩ := hC
  exact h p e R s m args below meth c A QQ n0 k0 ⟨a1, a2, a3, a4, a5, a6, a7, a8, ⟨by omega, by omega⟩, a11⟩ hE
theorem am_a0 {ρ : am_R} (h : ∀ i : Nat, i < 1000 → ρ.1 (i + 1) = ρ.1 i + 1) : ∀ i : Nat, i ≤ 1000 → ρ.1 i = ρ.1 0 + i
  | 0, _ => rfl
  | i + 1, hi => by
    have h1 := am_a0 h i (by omega)
    have h2 := h i (by omega)
    omega
theorem am_size {p : Program} {l : Launch} {e : Env} {R : Room} {s : State} {m : MethodId} {args : Array Value} {below : List Frame} {meth : Method} {c : Code} {T : State} {ρ : am_R} {A : Nat → Prop} {n0 slots : Nat} {g : am_G} {H : am_H} {Hc : Heap} {locs : List Loc} (hα : ∀ i : Nat, i < 1000 → ρ.1 (i + 1) = ρ.1 i + 1) (hT : T.heap = Hc)
    (X : Stand p l e R s m args below meth c T locs (g.2.1 - n0) slots) (hR : am_Rel ρ A s n0 g H Hc locs) (hn : n0 ≤ g.2.1) (ht : g.1.length = g.2.1) : Hc.size = ρ.1 g.1.length := by
  obtain ⟨hP, -, hS, hA, hZ⟩ := hR
  have h1 := X.heapSize
  rw [hT, hA ht] at h1
  rcases Nat.eq_zero_or_pos g.1.length with h0 | h0
  · have h2 := hS.1
    have h3 := hA ht
    have h4 : g.2.1 - n0 = 0 := by omega
    rw [h4] at h3
    omega
  · have hj : g.1[g.1.length - 1]? = some g.1[g.1.length - 1] := List.getElem?_eq_getElem (by omega)
    have h2 := (hP _ _ (am_ws_get hj)).lt
    have h3 := am_a0 hα (g.1.length - 1) (by omega)
    have h4 := am_a0 hα g.1.length (by omega)
    have h5 : ρ.1 (g.1.length - 1) < Hc.size := h2
    omega
