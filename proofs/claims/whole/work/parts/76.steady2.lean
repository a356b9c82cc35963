/-! ===== steady: both judges ===== -/
def q_std (D : q_Rd) (w : Nat → Nat → Nat) (k : Nat) (c : Nat → Nat) (u : Nat) : Bool := (List.range (q_R D)).all (fun l => q_sy D w k c l (u + 1) 0)
theorem q_std_iff {D : q_Rd} {w : Nat → Nat → Nat} {k : Nat} {c : Nat → Nat} {u : Nat} : q_std D w k c u = true ↔ ∀ l, l < q_R D → q_sy D w k c l (u + 1) 0 = true := by
  unfold q_std
  rw [List.all_eq_true]
  exact ⟨fun h l hl => h l (List.mem_range.mpr hl), fun h l hl => h l (List.mem_range.mp hl)⟩
def q_lfs (D : q_Rd) (w : Nat → Nat → Nat) (k : Nat) (wish : Int32) (c : Nat → Nat) (u : Nat) (st : Int32 × Int32) : Int32 × Int32 := if q_std D w k c u = true then (st.1 + 1, if st.1 = wish then nI (q_dgt c (q_R D)) else st.2) else st
def q_P3 (st : Int32 × Int32) (_o _v o3 o4 : Int32) : Prop := o3 = st.1 ∧ o4 = st.2
section QW
variable {n : Nat} {D : q_Rd} {w : Nat → Nat → Nat}
theorem x_st_in {I : Nat → Nat → Int32} {J : Nat → Nat → Int64} {T k u j : Nat} {c : Nat → Nat} (hn : 300 ≤ n) (hD : q_ok D) (hwo : q_wok (q_R D) w) (hu : u ≤ q_R D) (hj : j < u) (hx : q_RX I D) (hc : q_CX I D c (q_R D)) (ht : ∀ S, 0 < S → S < 2 ^ q_R D → q_TB D w k J S) {k4 : (Nat → Nat → Int32) → (Nat → Nat → Int64) → Nat → Int32 → Int32 → Int32 → Option Int32} : ∀ (m i : Nat) (b : Bool), i ≤ q_R D → q_R D - i < m → ∃ b' : Bool, f_X6_isSteady_12 n k4 m I J T (nI u) (if b = true then 1 else 0) (nI j) (nI i) = k4 I J T (nI u) (if b' = true then 1 else 0) (nI (j + 1)) ∧ (b' = true ↔ (b = true ∧ ∀ l, i ≤ l → l < q_R D → c l = j → q_sy D w k c l (u + 1) 0 = true)) := by
  have hR := hD.1.2.1
  have hp := (q_pow2 (q_R D) hR).2
  intro m
  induction m with
  | zero => intro i b _ h; omega
  | succ m ih =>
    intro i b hi hm
    rw [f_X6_isSteady_12, hx.1.2.1]
    by_cases e : i = q_R D
    · subst e
      rw [if_pos (Int32.le_refl _), nI_1]
      exact ⟨b, rfl, fun z => ⟨z, fun l a b => by omega⟩, fun z => z.1⟩
    · have hix : ok_ix (nI j) 7 := q_ix (by omega) (by omega)
      have hcl : (nI j).toNatClampNeg = j := q_cl (by omega)
      have hsl := q_cst_lt c j (q_R D)
      have hbit := q_cst_bit c j i (q_R D)
      rw [if_neg (nI_ge (by omega) (by omega))]
      simp only [if_pos hix, hcl, (hc j (by omega)).1]
      rw [x_isIn (by omega) (by omega), Option.bind_some]
      unfold f_X6_isSteady_62 f_X6_isSteady_63 f_X6_isSteady_64
      rw [nI_1]
      by_cases hci : c i = j
      · rw [if_pos (hbit.mpr ⟨by omega, hci⟩), if_neg (by exact q_10)]
        cases b with
        | false =>
          rw [if_pos (show (if false = true then (1 : Int32) else 0) = 0 by rfl)]
          obtain ⟨b', f1, f2⟩ := ih (i + 1) false (by omega) (by omega)
          rw [if_neg (by decide)] at f1
          refine ⟨b', f1, ?_⟩
          rw [f2]
          exact ⟨fun z => (by cases z.1), fun z => (by cases z.1)⟩
        | true =>
          have hst := x_stays (n := n) (I := I) (J := J) (T := T) (k := k) (r := i) (u := u) (c := c) hn hD hwo (by omega) hu hx hc ht n (u + 1) 0 rfl (by omega)
          rw [hci] at hst
          have hst' : f_X6_stays n I J T (nI i) (nI (q_cst c j (q_R D))) (nI u) = some (if q_sy D w k c i (u + 1) 0 = true then 1 else 0) := hst
          rw [if_pos rfl, if_neg (by exact q_10), hst', Option.bind_some]
          by_cases hs : q_sy D w k c i (u + 1) 0 = true
          · rw [if_pos hs, if_neg (by exact q_10)]
            obtain ⟨b', f1, f2⟩ := ih (i + 1) true (by omega) (by omega)
            rw [if_pos rfl] at f1
            refine ⟨b', f1, ?_⟩
            rw [f2]
            refine ⟨fun z => ⟨rfl, fun l a b h => ?_⟩, fun z => ⟨rfl, fun l a b h => z.2 l (by omega) b h⟩⟩
            by_cases el : l = i
            · rw [el]; exact hs
            · exact z.2 l (by omega) b h
          · rw [if_neg hs, if_pos rfl]
            obtain ⟨b', f1, f2⟩ := ih (i + 1) false (by omega) (by omega)
            rw [if_neg (by decide)] at f1
            refine ⟨b', f1, ?_⟩
            rw [f2]
            exact ⟨fun z => (by cases z.1), fun z => absurd (z.2 i (Nat.le_refl _) (by omega) hci) hs⟩
      · rw [if_neg (fun z => hci (hbit.mp z).2), if_pos rfl]
        obtain ⟨b', f1, f2⟩ := ih (i + 1) b (by omega) (by omega)
        refine ⟨b', f1, ?_⟩
        rw [f2]
        refine ⟨fun z => ⟨z.1, fun l a b h => ?_⟩, fun z => ⟨z.1, fun l a b h => z.2 l (by omega) b h⟩⟩
        by_cases el : l = i
        · rw [el] at h; exact absurd h hci
        · exact z.2 l (by omega) b h
theorem x_st_out {I : Nat → Nat → Int32} {J : Nat → Nat → Int64} {T k u : Nat} {c : Nat → Nat} (hn : 300 ≤ n) (hD : q_ok D) (hwo : q_wok (q_R D) w) (hu : u ≤ q_R D) (hcu : ∀ i, i < q_R D → c i < u) (hx : q_RX I D) (hc : q_CX I D c (q_R D)) (ht : ∀ S, 0 < S → S < 2 ^ q_R D → q_TB D w k J S) : ∀ (m j : Nat) (b : Bool), j ≤ u → u - j < m → ∃ b' : Bool, f_X6_isSteady_4 n m I J T (nI u) (if b = true then 1 else 0) (nI j) = some (if b' = true then 1 else 0) ∧ (b' = true ↔ (b = true ∧ ∀ l, l < q_R D → j ≤ c l → q_sy D w k c l (u + 1) 0 = true)) := by
  have hR := hD.1.2.1
  intro m
  induction m with
  | zero => intro j b _ h; omega
  | succ m ih =>
    intro j b hj hm
    rw [f_X6_isSteady_4]
    by_cases e : j = u
    · subst e
      rw [if_pos (Int32.le_refl _)]
      refine ⟨b, ?_, fun z => ⟨z, fun l a b => by have := hcu l a; omega⟩, fun z => z.1⟩
      cases b <;> rfl
    · rw [if_neg (nI_ge (by omega) (by omega))]
      obtain ⟨b1, f1, f2⟩ := x_st_in (n := n) (I := I) (J := J) (T := T) (k := k) (u := u) (j := j) (c := c) hn hD hwo hu (by omega) hx hc ht (k4 := f_X6_isSteady_4 n m) n 0 b (Nat.zero_le _) (by omega)
      have f1' : f_X6_isSteady_12 n (f_X6_isSteady_4 n m) n I J T (nI u) (if b = true then 1 else 0) (nI j) 0 = _ := f1
      obtain ⟨b', g1, g2⟩ := ih (j + 1) b1 (by omega) (by omega)
      rw [f1', g1]
      refine ⟨b', rfl, ?_⟩
      rw [g2, f2]
      constructor
      · rintro ⟨⟨z1, z2⟩, z3⟩
        refine ⟨z1, fun l hl hj => ?_⟩
        by_cases ej : c l = j
        · exact z2 l (Nat.zero_le _) hl ej
        · exact z3 l hl (by omega)
      · rintro ⟨z1, z2⟩
        exact ⟨⟨z1, fun l _ hl h => z2 l hl (by omega)⟩, fun l hl h => z2 l hl (by omega)⟩
theorem x_judge_s {J : Nat → Nat → Int64} {T k : Nat} {wish : Int32} (hn : 300 ≤ n) (hD : q_ok D) (hwo : q_wok (q_R D) w) (ht : ∀ S, 0 < S → S < 2 ^ q_R D → q_TB D w k J S) (c : Nat → Nat) (u : Nat) (I : Nat → Nat → Int32) (st : Int32 × Int32) (hu : u ≤ q_R D) (hcu : ∀ i, i < q_R D → c i < u) (hx : q_RX I D) (hc : q_CX I D c (q_R D)) (hz : I 31 6 = 1 ∧ I 31 7 = wish) (hP : q_P3 st (I 31 8) (I 31 9) (I 31 10) (I 31 11)) : ∃ I', f_X6_judge n I J T (nI u) (nI (q_dgt c (q_R D))) = some I' ∧ q_P3 (q_lfs D w k wish c u st) (I' 31 8) (I' 31 9) (I' 31 10) (I' 31 11) ∧ ∀ a b, ¬ (a = 31 ∧ 8 ≤ b) → I' a b = I a b := by
  have hR := hD.1.2.1
  obtain ⟨b', f1, f2⟩ := x_st_out (n := n) (I := I) (J := J) (T := T) (k := k) (u := u) (c := c) hn hD hwo hu hcu hx hc ht n 0 true (Nat.zero_le _) (by omega)
  have f1' : f_X6_isSteady n I J T (nI u) = some (if b' = true then 1 else 0) := f1
  have hb : b' = q_std D w k c u := by
    rw [Bool.eq_iff_iff, f2, q_std_iff]
    exact ⟨fun z l hl => z.2 l hl (Nat.zero_le _), fun z => ⟨rfl, fun l hl _ => z l hl⟩⟩
  obtain ⟨p1, p2⟩ := hP
  unfold f_X6_judge
  rw [hz.1, if_neg (by exact q_10), f1', Option.bind_some, hb]
  unfold q_lfs
  by_cases hs : q_std D w k c u = true
  · rw [if_pos hs, if_neg (by exact q_10), if_pos hs, p1, p2, hz.2]
    unfold f_X6_judge_35
    by_cases hw : st.1 = wish
    · rw [if_pos hw, if_pos hw, p1]
      refine ⟨_, rfl, ⟨?_, ?_⟩, fun a b h => ?_⟩
      · simp [am_u]
      · simp [am_u]
      · unfold am_u
        rw [if_neg (by omega), if_neg (by omega)]
    · rw [if_neg hw, if_neg hw, p1]
      refine ⟨_, rfl, ⟨?_, ?_⟩, fun a b h => ?_⟩
      · simp [am_u]
      · simp [am_u]
      · unfold am_u
        rw [if_neg (by omega), if_neg (by omega)]
  · rw [if_neg hs, if_pos rfl, if_neg hs]
    exact ⟨I, rfl, ⟨p1, p2⟩, fun _ _ _ => rfl⟩
end QW
section QS
variable {n B : Nat} {s : q_Sg} {w : Nat → Nat → Nat}
theorem m_paysLess (hn : 300 ≤ n) (hs : q_sok B s) (hwo : q_wok (q_R (q_sD s)) w) {k : Nat} (hk : k < 100) (hcm : ∀ I0 J0, q_HM I0 J0 s → 2 ≤ k → q_mc n (q_sD s) w k I0) {r S1 S0 : Nat} (hr : r < q_R (q_sD s)) (h1 : S1 < 2 ^ q_R (q_sD s)) (b1 : S1.testBit r = true) (h0 : S0 < 2 ^ q_R (q_sD s)) (b0 : S0.testBit r = true) {I : Nat → Nat → Int32} {J : Nat → Nat → Int64} {T : Nat} (hM : q_HM I J s) (hl : I 53 41 = nI k) (hT : T = 54 ∨ T = 55) : ∃ I' J' T', f_X12_paysLess n I J T (nI r) (nI S0) (nI S1) = some (if q_lw (q_sD s) w k r S1 S0 = true then 1 else 0, I', J', T') ∧ q_vf I I' ∧ (T' = 54 ∨ T' = 55) ∧ ∀ a c, a ≠ 66 → ¬ (a = 53 ∧ c = 33) → J' a c = J a c := by
  have hD := hs.1.1
  have hR := hD.1.2.1
  have hp := (q_pow2 (q_R (q_sD s)) hR).2
  have z1 : S1 ≠ 0 := fun z => by rw [z, Nat.zero_testBit] at b1; cases b1
  have z0 : S0 ≠ 0 := fun z => by rw [z, Nat.zero_testBit] at b0; cases b0
  have hix : ok_ix (nI r) 6 := q_ix (by omega) (by omega)
  have hcl : (nI r).toNatClampNeg = r := q_cl (by omega)
  obtain ⟨I1, J1, T1, e1, e2, e3, e4, e5, e6⟩ := m_layShares (n := n) hn hD hM.1 hk (hcm I J hM) hwo h0 (by omega) (J := J) (T := T) (q_vf_r _) hT
  have hM1 : q_HM I1 J1 s := hM.vf e2 e6
  have hl1 : I1 53 41 = nI k := by rw [e2 53 41 (by omega)]; exact hl
  obtain ⟨I2, J2, T2, f1, f2, f3, f4, f5, f6⟩ := m_layShares (n := n) hn hD hM1.1 hk (hcm I1 J1 hM1) hwo h1 (by omega) (J := J1) (T := T1) (q_vf_r _) e3
  have A1 := q_A_30 hD hwo k (S := S1) (by omega) hr b1
  have A0 := q_A_30 hD hwo k (S := S0) (by omega) hr b0
  obtain ⟨B1, B1', -⟩ := q_KB_16 hD hwo k (S := S1) (by omega) (by omega)
  obtain ⟨B0, B0', -⟩ := q_KB_16 hD hwo k (S := S0) (by omega) (by omega)
  have v1 := q_vp (c := 0) (d := 0) (show (q_A (q_sD s) w k S1 r).natAbs ≤ 2 ^ 40 by omega) B0'
  have v0 := q_vp (c := 0) (d := 0) (show (q_A (q_sD s) w k S0 r).natAbs ≤ 2 ^ 40 by omega) B1'
  have hiff : (0 ≤ lg_cmp (zL (q_A (q_sD s) w k S1 r) * zL (q_B (q_sD s) w k S0 : Nat)) (zL (q_A (q_sD s) w k S0 r) * zL (q_B (q_sD s) w k S1 : Nat))) ↔ ¬ q_lw (q_sD s) w k r S1 S0 = true := by
    rw [lg_cmp_ge, zL_mul, zL_mul, zL_le (by omega) (by omega) (by omega) (by omega)]
    unfold q_lw
    rw [decide_eq_true_eq]
    omega
  unfold f_X12_paysLess
  rw [hl, e1, Option.bind_some, if_pos hix]
  simp only [hl1, f1, Option.bind_some, if_pos hix, hcl, f4 r hr b1, e4 r hr b0, f5, e5]
  have hvf : q_vf I I2 := fun a c h => by rw [f2 a c h]; exact e2 a c h
  have hj : ∀ a c, a ≠ 66 → ¬ (a = 53 ∧ c = 33) → J2 a c = J a c := fun a c h h' => by rw [f6 a c h h']; exact e6 a c h h'
  by_cases hlw : q_lw (q_sD s) w k r S1 S0 = true
  · rw [if_neg (fun z => hiff.mp z hlw), if_pos hlw]
    exact ⟨I2, J2, T2, rfl, hvf, f3, hj⟩
  · rw [if_pos (hiff.mpr hlw), if_neg hlw]
    exact ⟨I2, J2, T2, rfl, hvf, f3, hj⟩
theorem m_js_in (hn : 300 ≤ n) (hs : q_sok B s) (hwo : q_wok (q_R (q_sD s)) w) {k : Nat} (hk : k < 100) (hcm : ∀ I0 J0, q_HM I0 J0 s → 2 ≤ k → q_mc n (q_sD s) w k I0) {r u : Nat} {c : Nat → Nat} (hr : r < q_R (q_sD s)) (hu : u ≤ q_R (q_sD s)) (hcu : ∀ i, i < q_R (q_sD s) → c i < u) {k2 : (Nat → Nat → Int32) → (Nat → Nat → Int64) → Nat → Int32 → Int32 → Option ((Nat → Nat → Int32) × (Nat → Nat → Int64) × Nat)} : ∀ (m g j : Nat) (I : Nat → Nat → Int32) (J : Nat → Nat → Int64) (T : Nat), g + j = u + 1 → g < m → q_HM I J s → q_CM I c (q_R (q_sD s)) → I 53 41 = nI k → (T = 54 ∨ T = 55) → ∃ I' J' T', q_vf I I' ∧ (T' = 54 ∨ T' = 55) ∧ (∀ a c, a ≠ 66 → ¬ (a = 53 ∧ c = 33) → J' a c = J a c) ∧ ((q_sy (q_sD s) w k c r g j = true ∧ f_X12_judgeSteady_25 n k2 m I J T (nI u) (nI r) (nI (q_cst c (c r) (q_R (q_sD s)))) (nI j) = k2 I' J' T' (nI u) (nI (r + 1))) ∨ (¬ q_sy (q_sD s) w k c r g j = true ∧ f_X12_judgeSteady_25 n k2 m I J T (nI u) (nI r) (nI (q_cst c (c r) (q_R (q_sD s)))) (nI j) = some (I', J', T'))) := by
  have hD := hs.1.1
  have hR := hD.1.2.1
  have hcs := hD.1.2.2.1
  have hp := (q_pow2 (q_R (q_sD s)) hR).2
  intro m
  induction m with
  | zero => intro g j I J T _ h; omega
  | succ m ih =>
    intro g j I J T h1 h2 hM hc hl hT
    rw [f_X12_judgeSteady_25]
    cases g with
    | zero =>
      rw [if_pos (nI_lt (by omega) (by omega)), nI_1]
      exact ⟨I, J, T, q_vf_r _, hT, fun _ _ _ _ => rfl, Or.inl ⟨rfl, rfl⟩⟩
    | succ g =>
      have hix : ok_ix (nI j) 7 := q_ix (by omega) (by omega)
      have hcl : (nI j).toNatClampNeg = j := q_cl (by omega)
      have hix2 : ok_ix (nI r) 6 := q_ix (by omega) (by omega)
      have hcl2 : (nI r).toNatClampNeg = r := q_cl (by omega)
      have hsl := q_cst_lt c j (q_R (q_sD s))
      have hso := q_cst_lt c (c r) (q_R (q_sD s))
      have hbit := q_cst_bit c j r (q_R (q_sD s))
      have hown : (q_cst c (c r) (q_R (q_sD s))).testBit r = true := (q_cst_bit c (c r) r (q_R (q_sD s))).mpr ⟨hr, rfl⟩
      obtain ⟨s1, s2⟩ := q_shl6 r (by omega)
      have h2r : 2 ^ r < 2 ^ q_R (q_sD s) := Nat.pow_lt_pow_right (by omega) hr
      have horl : q_cst c j (q_R (q_sD s)) ||| 2 ^ r < 2 ^ q_R (q_sD s) := Nat.or_lt_two_pow hsl h2r
      have hob : (q_cst c j (q_R (q_sD s)) ||| 2 ^ r).testBit r = true := by
        rw [Nat.testBit_or, Nat.testBit_two_pow_self, Bool.or_true]
      have eu : q_sy (q_sD s) w k c r (g + 1) j = (!(!decide (c r = j) && (q_room (q_sD s) (q_cst c j (q_R (q_sD s))) r && q_lw (q_sD s) w k r (q_cst c j (q_R (q_sD s)) ||| 2 ^ r) (q_cst c (c r) (q_R (q_sD s))))) && q_sy (q_sD s) w k c r g (j + 1)) := rfl
      have hcr := hcu r hr
      have h69 : I 69 r = nI (c r) := hc.2 r hr
      -- whichever way the set is told, it is the same
      have step : ∃ I' J' T', q_vf I I' ∧ (T' = 54 ∨ T' = 55) ∧ (∀ a c, a ≠ 66 → ¬ (a = 53 ∧ c = 33) → J' a c = J a c) ∧ ((q_sy (q_sD s) w k c r (g + 1) j = true ∧ f_X12_judgeSteady_54 n k2 (f_X12_judgeSteady_25 n k2 m) I J T (nI u) (nI r) (nI (q_cst c (c r) (q_R (q_sD s)))) (nI j) (nI (q_cst c j (q_R (q_sD s)) ||| 2 ^ r)) = k2 I' J' T' (nI u) (nI (r + 1))) ∨ (¬ q_sy (q_sD s) w k c r (g + 1) j = true ∧ f_X12_judgeSteady_54 n k2 (f_X12_judgeSteady_25 n k2 m) I J T (nI u) (nI r) (nI (q_cst c (c r) (q_R (q_sD s)))) (nI j) (nI (q_cst c j (q_R (q_sD s)) ||| 2 ^ r)) = some (I', J', T'))) := by
        unfold f_X12_judgeSteady_54 f_X12_judgeSteady_97
        rw [nI_1]
        simp only [if_pos hix2, hcl2, h69]
        rw [eu]
        by_cases hj : c r = j
        · rw [if_pos (show nI j = nI (c r) by rw [hj]), decide_eq_true hj]
          exact ih g (j + 1) I J T (by omega) (by omega) hM hc hl hT
        · have hnb : ¬ (q_cst c j (q_R (q_sD s))).testBit r = true := fun z => hj (hbit.mp z).2
          have hso2 := q_sts_or (q_sD s) hnb (q_R (q_sD s))
          rw [if_pos hr] at hso2
          have hse := (hD.2.2 r hr).2.2.2.2
          have hsl2 := q_sts_le hD (q_cst c j (q_R (q_sD s))) (q_R (q_sD s)) (Nat.le_refl _)
          rw [if_neg (fun z => hj ((nI_eq (by omega) (by omega)).mp z).symm), m_seatsOf hn hD hM.1 (by omega), Option.bind_some, hso2, hM.1.1.2.2.1, decide_eq_false hj, Bool.not_false, Bool.true_and]
          by_cases hrm : q_room (q_sD s) (q_cst c j (q_R (q_sD s))) r = true
          · have hle : q_sts (q_sD s) (q_cst c j (q_R (q_sD s))) (q_R (q_sD s)) + q_se (q_sD s) r ≤ q_cs (q_sD s) := by
              unfold q_room at hrm
              rw [decide_eq_true_eq] at hrm
              exact hrm
            obtain ⟨I1, J1, T1, p1, p2, p3, p4⟩ := m_paysLess (n := n) hn hs hwo hk hcm hr horl hob hso hown hM hl hT
            rw [if_pos (nI_le hle (by omega)), p1, Option.bind_some, hrm, Bool.true_and]
            by_cases hlw : q_lw (q_sD s) w k r (q_cst c j (q_R (q_sD s)) ||| 2 ^ r) (q_cst c (c r) (q_R (q_sD s))) = true
            · rw [hlw]
              refine ⟨I1, J1, T1, p2, p3, p4, Or.inr ⟨?_, ?_⟩⟩
              · exact fun z => by cases z
              · rw [if_neg (show ¬ (if true = true then (1 : Int32) else 0) = 0 by exact q_10)]
            · have hlw' : q_lw (q_sD s) w k r (q_cst c j (q_R (q_sD s)) ||| 2 ^ r) (q_cst c (c r) (q_R (q_sD s))) = false := by simpa using hlw
              rw [hlw', if_pos (show (if false = true then (1 : Int32) else 0) = 0 by rfl)]
              obtain ⟨I', J', T', f1, f2, f3, f4⟩ := ih g (j + 1) I1 J1 T1 (by omega) (by omega) (hM.vf p2 p4) ⟨fun i hi => by rw [p2 70 i (by omega)]; exact hc.1 i hi, fun i hi => by rw [p2 69 i (by omega)]; exact hc.2 i hi⟩ (by rw [p2 53 41 (by omega)]; exact hl) p3
              exact ⟨I', J', T', fun a b h => by rw [f1 a b h]; exact p2 a b h, f2, fun a b h h' => by rw [f3 a b h h']; exact p4 a b h h', f4⟩
          · have hle : ¬ q_sts (q_sD s) (q_cst c j (q_R (q_sD s))) (q_R (q_sD s)) + q_se (q_sD s) r ≤ q_cs (q_sD s) := fun z => hrm (by unfold q_room; rw [decide_eq_true_eq]; exact z)
            have hrm' : q_room (q_sD s) (q_cst c j (q_R (q_sD s))) r = false := by simpa using hrm
            rw [if_neg (nI_ge (by omega) (by omega)), hrm']
            exact ih g (j + 1) I J T (by omega) (by omega) hM hc hl hT
      rw [if_neg (nI_nlt (by omega) (by omega))]
      by_cases hju : j = u
      · have hz : q_cst c j (q_R (q_sD s)) = 0 := by rw [hju]; exact q_cst_0 _ hcu
        rw [hz, Nat.zero_or] at step
        rw [if_pos (show nI j = nI u by rw [hju]), s1]
        exact step
      · rw [if_neg (fun z => hju ((nI_eq (by omega) (by omega)).mp z))]
        simp only [if_pos hix, hcl, hc.1 j (by omega)]
        rw [s1, q_or]
        exact step
end QS
