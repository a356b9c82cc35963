/-! ===== what the Statement gives at the law's entry, as the abstract machine wants it ===== -/
def R_law : String := "WaySharesLaw"
def lw_P (b : Addr) (xs : List Int32) (args : Array Value) (s : State) : Prop := args = #[.ref b] ∧ s.IntsAt b xs ∧ xs.length ≤ 3072 ∧ (Jvm.Cond.and given_1 narrow_1).before args s = true
def lw_Q (_ : Array Value) (s : State) (o : Outcome) (t : State) : Prop := o = .returned (some (.int 1)) ∧ Framed s o t [] 601024 7293034
def lw_Z (below : List Frame) (a : Array Value) (s : State) : State → Prop := fun t => ∃ o, t.status = .running ∧ Ended t below o ∧ lw_Q a s o t
/-- what holds at the law's entry: the machine, the code, the tables' words, the script of L ints xs at the cell b, what the Statement gives of the start -/
def lw_At (p : Program) (s : State) (m : MethodId) (meth : Method) (c : Code) (b L : Nat) (xs : Nat → Int32) : Prop :=
  p.tables.exec = Jvm.exec ∧ c.code = code ∧ meth.sig.returnType = ret ∧ c.maxLocals = 7 ∧ s.vm.findClass R_law = some m.cls ∧ (∀ w ∈ lw_tbl, w.before #[Value.ref b] s = true) ∧ va_X b L xs s s.heap ∧ b < s.heap.size ∧ meth.locks = false ∧ (Jvm.Cond.and given_1 narrow_1).before #[Value.ref b] s = true
/-- the law's own end, with 1 on the stack, nothing written that was there before, its room as the claim has it -/
theorem lw_ret {p : Program} {l : Launch} {e : Env} {s : State} {m : MethodId} {below : List Frame} {meth : Method} {c : Code} {b : Nat} (hx : p.tables.exec = Jvm.exec) (hb : c.code = code) (hr : meth.sig.returnType = ret) (hlocks : meth.locks = false) {pc : Nat} {H : Heap} {ls : Array Slot} (hdg : decode code pc = .ok (.ireturn, 1)) : W p l e room_1 s m #[Value.ref b] below meth c H [] 601024 7293034 (lw_Z below #[Value.ref b] s) (F0 m pc ls [.int 1]) := by
  intro T hT X
  obtain ⟨fs, hret, hrun, hended, hW, hframe⟩ := X.leave (v := some (.int 1)) (hlocks := hlocks) (fun h => by rw [hr] at h; cases h)
  have hmeth' : T.vm.method? m = some meth := X.method'
  refine ⟨T.setFrames fs, ?_, .returned (some (.int 1)), hrun, hended, rfl, ⟨_, rfl⟩, hW, hframe⟩
  jvm_step X.here [X.here.top, hx, hb, hdg, hmeth', hr, ret, narrow_b1]
  (try refine ⟨rfl, ?_⟩); (try refine ⟨rfl, ?_⟩)
  first | (intro acts; rw [hret _ acts rfl rfl rfl]) | rw [hret _ _ rfl rfl rfl]
  exact Steps.refl _
def am_GF : List Cond := flatC (Jvm.Cond.and given_1 narrow_1)
def am_tm (i : Nat) : Term := Term.string "WaySharesModel" (am_str.getD i (0, "", [])).1
theorem e_sta : ∀ q ∈ am_sta, q.2.2.1 < 2 ^ 31 ∧ Cond.laysStatic q.1 q.2.1 "[I" ∈ lw_tbl ∧ Cond.initialized q.1 ∈ lw_tbl ∧ Cond.arrayOf (.static q.1 q.2.1 "[I") .int ∈ am_GF ∧ Cond.eq (.length (.static q.1 q.2.1 "[I")) (.int (Int32.ofNat q.2.2.1)) ∈ am_GF ∧ ∀ j, j < q.2.2.1 → Cond.eq (.elem (.static q.1 q.2.1 "[I") (.int (Int32.ofNat j))) (.int (am_tab q.2.2.2 j)) ∈ am_GF := by decide +kernel
theorem e_str1 : ∀ i, i < 5 → am_sl.getD i 0 < 2 ^ 31 ∧ Cond.exactly (am_tm i) "java/lang/String" ∈ am_GF ∧ Cond.eq (.field (am_tm i) "java/lang/String" "coder" "B") (.int 0) ∈ am_GF ∧ Cond.arrayOf (.field (am_tm i) "java/lang/String" "value" "[B") .byte ∈ am_GF ∧ Cond.eq (.length (.field (am_tm i) "java/lang/String" "value" "[B")) (.int (Int32.ofNat (am_sl.getD i 0))) ∈ am_GF ∧ (∀ j, j < am_sl.getD i 0 → Cond.eq (.elem (.field (am_tm i) "java/lang/String" "value" "[B") (.int (Int32.ofNat j))) (.int ((am_sb.getD i []).getD j 0)) ∈ am_GF) := by decide +kernel
theorem e_str2 : ∀ i, i < 5 → ∀ j, j < 5 → i ≠ j → Cond.not (Cond.eq (am_tm i) (am_tm j)) ∈ am_GF ∨ Cond.not (Cond.eq (am_tm j) (am_tm i)) ∈ am_GF := by decide +kernel
theorem e_str3 : ∀ q ∈ am_str, Cond.stringRef "WaySharesModel" q.1 q.2.1 ∈ lw_tbl := by decide +kernel
theorem e_nest : ∀ q ∈ am_nest, Cond.methodLinkNest q.1 q.2.1 q.2.2.1 q.2.2.2 ∈ lw_tbl := by decide +kernel
theorem e_decl : ∀ y ∈ am_NEi, Cond.declares y ∈ lw_tbl := by decide +kernel
theorem e_cast : Cond.castable am_NE am_NE ∈ lw_tbl := by decide +kernel
theorem e_over : Cond.arrayOver (.array .int) ∈ lw_tbl := by decide +kernel
theorem e_cs : Cond.laysStatic "java/lang/String" "COMPACT_STRINGS" "Z" ∈ lw_tbl ∧ Cond.initialized "java/lang/String" ∈ lw_tbl ∧ Cond.eq (.static "java/lang/String" "COMPACT_STRINGS" "Z") (.int 1) ∈ am_GF := by decide +kernel
theorem e_si : Cond.laysStatic "jdk/internal/util/Preconditions" "SIOOBE_FORMATTER" "Ljava/util/function/BiFunction;" ∈ lw_tbl ∧ Cond.initialized "jdk/internal/util/Preconditions" ∈ lw_tbl ∧ Cond.isRef (.static "jdk/internal/util/Preconditions" "SIOOBE_FORMATTER" "Ljava/util/function/BiFunction;") ∈ am_GF := by decide +kernel
theorem e_us : Cond.laysStatic Bundle.tN "UNASSIGNED_STACK" Bundle.steD ∈ lw_tbl ∧ Cond.initialized Bundle.tN ∈ lw_tbl ∧ Cond.isRef (.static Bundle.tN "UNASSIGNED_STACK" Bundle.steD) ∈ am_GF := by decide +kernel
theorem e_ss : Cond.laysStatic Bundle.tN "SUPPRESSED_SENTINEL" Bundle.listD ∈ lw_tbl ∧ Cond.isRef (.static Bundle.tN "SUPPRESSED_SENTINEL" Bundle.listD) ∈ am_GF := by decide +kernel
/-- the classes, as the tables know them -/
theorem e_cls {args : Array Value} {s : State} (hts : ∀ w ∈ am_T, w.before args s = true) : ∃ D : va_G, ∀ (c : Nat) (q : vw_C), vwCl[c]? = some q → u_Kn s q.1 q.2.1 q.2.2 (D.1 c) (D.2 c) := by
  have h : ∀ c : Nat, ∃ x : ClassId × (Nat → Nat), ∀ q : vw_C, vwCl[c]? = some q → u_Kn s q.1 q.2.1 q.2.2 x.1 x.2 := by
    intro c
    have mk : ∀ (C : String) (T : u_T) (N : Nat), vwCl[c]? = some (C, T, N) → (∀ w ∈ u_ws C T N, w ∈ am_T) → Cond.instantiable C N ∈ am_T → ∃ x : ClassId × (Nat → Nat), ∀ q : vw_C, vwCl[c]? = some q → u_Kn s q.1 q.2.1 q.2.2 x.1 x.2 := by
      intro C T N hc hin hi
      obtain ⟨cC, iS, hk⟩ := u_known hts hin (hts _ hi)
      refine ⟨(cC, iS), fun q hq => ?_⟩
      have e := Option.some.inj (hc.symm.trans hq)
      subst e
      exact hk
    match c with
    | 0 => exact mk RX0 TX0 4 rfl in_0 tw_445
    | 1 => exact mk RX1 TX1 7 rfl in_1 tw_390
    | 2 => exact mk RX2 TX2 10 rfl in_2 tw_162
    | 3 => exact mk RX3 TX3 4 rfl in_3 tw_237
    | 4 => exact mk RX4 TX4 3 rfl in_4 tw_256
    | 5 => exact mk RX5 TX5 5 rfl in_5 tw_274
    | 6 => exact mk RX6 TX6 12 rfl in_6 tw_342
    | 7 => exact mk RX7 TX7 5 rfl in_7 tw_299
    | 8 => exact mk RX8 TX8 6 rfl in_8 tw_419
    | 9 => exact mk RX9 TX9 4 rfl in_9 tw_321
    | 10 => exact mk RX10 TX10 4 rfl in_10 tw_136
    | 11 => exact mk RX11 TX11 16 rfl in_11 tw_128
    | 12 => exact mk RX12 TX12 60 rfl in_12 tw_1179
    | c + 13 =>
      refine ⟨(0, fun _ => 0), fun q hq => ?_⟩
      rw [List.getElem?_eq_none (show vwCl.length ≤ c + 13 by show 13 ≤ _; omega)] at hq
      cases hq
  obtain ⟨D, hD⟩ := Classical.axiomOfChoice h
  exact ⟨(fun c => (D c).1, fun c => (D c).2), fun c q hq => hD c q hq⟩
theorem e_arr {args : Array Value} {s : State} {ty : FieldType} (h : (Cond.arrayClass ty).before args s = true) : ∃ c : ClassId, ArrOfT s c ty ∧ s.vm.findClass ("[" ++ ty.toString) = some c := by
  obtain ⟨c, k, comp, h1, h2, h3⟩ := Cond.arrayClass_spec h
  exact ⟨c, fun n z => ⟨fun q hq => (by cases hq), k, h2, comp, h3⟩, h1⟩
theorem e_arrA {args : Array Value} {s : State} {ty : FieldType} (h : (Cond.arrayOver (.array ty)).before args s = true) : ∃ c : ClassId, ArrOfT s c (.array ty) ∧ s.vm.findClass ("[" ++ (FieldType.array ty).toString) = some c := by
  obtain ⟨comp, c, k, h0, h2, h3, h1⟩ := Cond.arrayOver_specA h
  exact ⟨c, fun n z => ⟨fun q hq => (by cases hq), k, h2, comp, h3⟩, h1⟩
/-- one of the static arrays -/
theorem e_stat {s : State} {b : Nat} (hts : ∀ w ∈ lw_tbl, w.before #[Value.ref b] s = true) (hg : ∀ w ∈ am_GF, w.before #[Value.ref b] s = true) (A : Nat → Prop) (hA : ∀ a : Nat, a < s.heap.size → ¬ A a) : ∃ t : Nat → Nat, ∀ (j : Nat) (q : String × String × Nat × List Int32), am_sta[j]? = some q → va_Z q.1 q.2.1 "[I" (.ref (t j)) A s s.heap ∧ va_T .int (t j) q.2.2.1 (fun i => .int (am_tab q.2.2.2 i)) A s s.heap := by
  have h : ∀ j : Nat, ∃ t : Nat, ∀ q : String × String × Nat × List Int32, am_sta[j]? = some q → va_Z q.1 q.2.1 "[I" (.ref t) A s s.heap ∧ va_T .int t q.2.2.1 (fun i => .int (am_tab q.2.2.2 i)) A s s.heap := by
    intro j
    cases hj : am_sta[j]? with
    | none => exact ⟨0, fun q hq => by cases hq⟩
    | some q =>
      obtain ⟨k0, k1, k2, k3, k4, k5⟩ := e_sta q (List.mem_of_getElem? hj)
      obtain ⟨t, ht, hT⟩ := va_Tof (f := fun i => .int (am_tab q.2.2.2 i)) (A := A) k0 (hg _ k3) (va_eqt (hg _ k4)) (fun j hj => va_eqt (hg _ (k5 j hj))) hA
      refine ⟨t, fun q' hq' => ?_⟩
      have e := Option.some.inj hq'
      subst e
      exact ⟨va_Zof (hts _ k1) (hts _ k2) ht hA, hT⟩
  exact Classical.axiomOfChoice h
def e_adr (z b f : Nat) (t adK adV : Nat → Nat) : Nat → Nat := fun a => if a ≤ 1000 then z + a else if a < 1006 then t (a - 1001) else if a = 1006 then b else if a < 1020 then adK (a - 1010) else if a < 1030 then adV (a - 1020) else f
theorem e_adr0 {z b f : Nat} {t adK adV : Nat → Nat} {a : Nat} (h : a ≤ 1000) : e_adr z b f t adK adV a = z + a := if_pos h
theorem e_adr1 {z b f : Nat} {t adK adV : Nat → Nat} {j : Nat} (h : j < 5) : e_adr z b f t adK adV (1001 + j) = t j := by
  unfold e_adr
  rw [if_neg (by omega), if_pos (by omega), Nat.add_sub_cancel_left]
theorem e_adr2 {z b f : Nat} {t adK adV : Nat → Nat} : e_adr z b f t adK adV 1006 = b := rfl
theorem e_adr3 {z b f : Nat} {t adK adV : Nat → Nat} {j : Nat} (h : j < 5) : e_adr z b f t adK adV (1010 + j) = adK j := by
  unfold e_adr
  rw [if_neg (by omega), if_neg (by omega), if_neg (by omega), if_pos (by omega), Nat.add_sub_cancel_left]
theorem e_adr4 {z b f : Nat} {t adK adV : Nat → Nat} {j : Nat} (h : j < 5) : e_adr z b f t adK adV (1020 + j) = adV j := by
  unfold e_adr
  rw [if_neg (by omega), if_neg (by omega), if_neg (by omega), if_neg (by omega), if_pos (by omega), Nat.add_sub_cancel_left]
theorem e_adr5 {z b f : Nat} {t adK adV : Nat → Nat} : e_adr z b f t adK adV 1030 = f := rfl
set_option maxHeartbeats 1000000 in
theorem am_begin {p : Program} {s : State} {m : MethodId} {meth : Method} {c : Code} {b L : Nat} {xs : Nat → Int32} (C0 : lw_At p s m meth c b L xs) : ∃ ρ : am_R, ρ.1 0 = s.heap.size ∧ ρ.1 1006 = b ∧ ρ.2.2.2.1 = L ∧ am_At ρ (fun q => s.heap.size ≤ q) s := by
  obtain ⟨hx, hb, hr, hml, hown, hts, hX, hbl, hlocks, hgv⟩ := C0
  have hg : ∀ w ∈ am_GF, w.before #[Value.ref b] s = true := flat_of_before _ hgv
  have htT := am_T_of hts
  have hA : ∀ a : Nat, a < s.heap.size → ¬ (fun q : Nat => s.heap.size ≤ q) a := fun a h => Nat.not_le.mpr h
  obtain ⟨D, hD⟩ := e_cls htT
  obtain ⟨c0, a0, n0⟩ := e_arr (htT _ tw_235)
  obtain ⟨c1, a1, n1⟩ := e_arr (htT _ tw_388)
  obtain ⟨c2, a2, n2⟩ := e_arr (htT _ tw_160)
  obtain ⟨c3, a3, n3⟩ := e_arrA (hts _ e_over)
  obtain ⟨t, ht⟩ := e_stat hts hg _ hA
  obtain ⟨adK, adV, hS, hSe⟩ := vk_Sof (tm := am_tm) (N := 5) (len := am_sl) (byt := am_sb) (A := fun q : Nat => s.heap.size ≤ q) (args := #[Value.ref b]) (s := s) (fun i hi => (e_str1 i hi).1) (fun i hi => hg _ (e_str1 i hi).2.1) (fun i hi => hg _ (e_str1 i hi).2.2.1) (fun i hi => hg _ (e_str1 i hi).2.2.2.1) (fun i hi => hg _ (e_str1 i hi).2.2.2.2.1) (fun i hi j hj => hg _ ((e_str1 i hi).2.2.2.2.2 j hj)) (fun i j hi hj hij => (e_str2 i hi j hj hij).imp (hg _) (hg _)) hA
  obtain ⟨f, hf⟩ : ∃ f : Nat, va_Z "jdk/internal/util/Preconditions" "SIOOBE_FORMATTER" "Ljava/util/function/BiFunction;" .null (fun q : Nat => s.heap.size ≤ q) s s.heap ∨ va_Z "jdk/internal/util/Preconditions" "SIOOBE_FORMATTER" "Ljava/util/function/BiFunction;" (.ref f) (fun q : Nat => s.heap.size ≤ q) s s.heap := by
    rcases va_Zqof (hts _ e_si.1) (hts _ e_si.2.1) (hg _ e_si.2.2) hA with h | ⟨f, h⟩
    · exact ⟨0, Or.inl h⟩
    · exact ⟨f, Or.inr h⟩
  refine ⟨(e_adr s.heap.size b f t adK adV, fun k => if k = 0 then c0 else if k = 1 then c1 else if k = 2 then c2 else c3, D, L, xs), rfl, rfl, rfl, ?_⟩
  refine ⟨⟨hD, fun k q hk => ?_⟩, fun i hi => ?_, fun j q hj => ?_, ⟨hX, hbl, hA b hbl⟩, ?_, fun i q hi => ?_, va_Zof (hts _ e_cs.1) (hts _ e_cs.2.1) (va_eqi (hg _ e_cs.2.2)) hA, hf, fun q hq => va_Nw.of rfl (hts _ (e_nest q hq)), vx_Zqof (hts _ e_us.1) (hts _ e_us.2.1) (hg _ e_us.2.2) hA, vx_Zqof (hts _ e_ss.1) (hts _ e_us.2.1) (hg _ e_ss.2) hA, hts _ e_over, va_Nw.of rfl (hts _ e_cast), fun y hy => va_Nw.of rfl (hts _ (e_decl y hy))⟩
  · match k, hk with
    | 0, hk => cases hk; exact ⟨a0, n0⟩
    | 1, hk => cases hk; exact ⟨a1, n1⟩
    | 2, hk => cases hk; exact ⟨a2, n2⟩
    | 3, hk => cases hk; exact ⟨a3, n3⟩
    | k + 4, hk => simp [am_tys] at hk
  · show e_adr _ _ _ _ _ _ (i + 1) = e_adr _ _ _ _ _ _ i + 1
    rw [e_adr0 (by omega), e_adr0 (by omega)]
    omega
  · have hj5 : j < 5 := (List.getElem?_eq_some_iff.mp hj).1
    show va_Z q.1 q.2.1 "[I" (.ref (e_adr _ _ _ _ _ _ (1001 + j))) _ s s.heap ∧ va_T .int (e_adr _ _ _ _ _ _ (1001 + j)) _ _ _ s s.heap
    rw [e_adr1 hj5]
    exact ht j q hj
  · refine ⟨fun i hi => ?_, fun i j hi hj e => ?_⟩
    · show va_O _ (e_adr _ _ _ _ _ _ (1010 + i)) _ s s.heap ∧ va_OF _ _ _ _ (e_adr _ _ _ _ _ _ (1010 + i)) _ s s.heap ∧ va_OF _ _ _ (.ref (e_adr _ _ _ _ _ _ (1020 + i))) (e_adr _ _ _ _ _ _ (1010 + i)) _ s s.heap ∧ va_T .byte (e_adr _ _ _ _ _ _ (1020 + i)) _ _ _ s s.heap
      rw [e_adr3 hi, e_adr4 hi]
      exact hS.1 i hi
    · have e' : e_adr s.heap.size b f t adK adV (1010 + i) = e_adr s.heap.size b f t adK adV (1010 + j) := e
      rw [e_adr3 hi, e_adr3 hj] at e'
      exact hS.2 i j hi hj e'
  · have hi5 : i < 5 := (List.getElem?_eq_some_iff.mp hi).1
    show vk_R "WaySharesModel" q.1 q.2.1 (e_adr _ _ _ _ _ _ (1010 + i)) s
    rw [e_adr3 hi5]
    have e9 : am_tm i = Term.string "WaySharesModel" q.1 := by
      unfold am_tm
      rw [List.getD_eq_getElem?_getD, hi]
      rfl
    have h9 := hSe i hi5
    rw [e9] at h9
    exact vk_R.of (A := #[Value.ref b]) (hts _ (e_str3 q (List.mem_of_getElem? hi))) h9
