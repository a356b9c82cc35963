/-! ===== shares by weights, the class; the shares of all laws ===== -/
theorem q_bc_le : ∀ R, R ≤ 6 → ∀ S, S < 64 → (!decide (S < 2 ^ R) || decide (q_bc S ≤ R)) = true := by decide +kernel
theorem q_bc_R {R S : Nat} (hR : R ≤ 6) (h : S < 2 ^ R) : q_bc S ≤ R := by
  have h2 := (q_pow2 R hR).2
  have h1 := q_bc_le R hR S (by omega)
  simpa [h] using h1
/-- weights of those that come -/
def q_sw (w : Nat → Nat → Nat) (m S : Nat) : Nat → Nat
  | 0 => 0
  | r + 1 => q_sw w m S r + (if S.testBit r then w r m else 0)
def q_wok (R : Nat) (w : Nat → Nat → Nat) : Prop := ∀ r m, r < R → w r m ≤ 7200
theorem q_sw_le {R : Nat} {w : Nat → Nat → Nat} (hw : q_wok R w) (m S : Nat) : ∀ r, r ≤ R → q_sw w m S r ≤ 7200 * r := by
  intro r
  induction r with
  | zero => intro _; exact Nat.le_refl _
  | succ r ih =>
    intro h
    have := ih (by omega)
    have := hw r m (by omega)
    unfold q_sw
    split <;> omega
/-- the class's weights, of so many that come at the least -/
def q_WX (I : Nat → Nat → Int32) (R f : Nat) (w : Nat → Nat → Nat) : Prop := ∀ m, f ≤ m → m ≤ R → ∀ r, r < R → I 29 (m * 6 + r) = nI (w r m)
/-- the reference's parts: what a rider pays over, and below -/
def q_A (D : q_Rd) (w : Nat → Nat → Nat) (k S r : Nat) : Int :=
  if k = 0 then (q_sec D S r (q_W D) : Nat) else if k = 1 then q_ord D S r else ((if 0 < q_sw w (q_bc S) S (q_R D) then w r (q_bc S) else 1) * q_cost D S : Nat)
def q_B (D : q_Rd) (w : Nat → Nat → Nat) (k S : Nat) : Nat :=
  if k = 0 then 60 else if k = 1 then q_fac (q_bc S) else if 0 < q_sw w (q_bc S) S (q_R D) then q_sw w (q_bc S) S (q_R D) else q_bc S
/-- the class's are so many times those -/
def q_K (k S : Nat) : Nat := if k = 1 then 720 / q_fac (q_bc S) else 1
section QW
variable {n : Nat} {J : Nat → Nat → Int64} {T : Nat} {D : q_Rd} {w : Nat → Nat → Nat} {f : Nat}
theorem x_weightsOf_loop {I : Nat → Nat → Int32} (hD : q_ok D) (h : q_RX I D) (hw : q_WX I (q_R D) f w) {S : Nat} (hS : S < 64) (h1 : f ≤ q_bc S) (h2 : q_bc S ≤ q_R D) : ∀ (m r : Nat), r ≤ q_R D → q_R D - r < m → f_X7_weightsOf_10 n m I J T (nI S) (nI (q_bc S)) (nI (q_sw w (q_bc S) S r)) (nI r) = some (nI (q_sw w (q_bc S) S (q_R D))) := by
  have hR := hD.1.2.1
  intro m
  induction m with
  | zero => intro r _ h; omega
  | succ m ih =>
    intro r hr hm
    rw [f_X7_weightsOf_10, h.1.2.1]
    by_cases e : r = q_R D
    · subst e
      rw [if_pos (Int32.le_refl _)]
    · rw [if_neg (nI_ge (by omega) (by omega)), x_isIn (by omega) (by omega)]
      by_cases hb : S.testBit r = true
      · have e6 : nI (q_bc S) * 6 + nI r = nI (q_bc S * 6 + r) := by
          rw [show (6 : Int32) = nI 6 from rfl, pk_mul, nI_add]
        rw [if_pos hb, Option.bind_some, if_neg q_10, e6, if_pos (q_ix (by omega) (by omega)), q_cl (by omega), hw _ h1 h2 r (by omega)]
        unfold f_X7_weightsOf_46
        rw [nI_1, nI_add, ← ih (r + 1) (by omega) (by omega)]
        simp [q_sw, hb]
      · rw [if_neg hb, Option.bind_some, if_pos rfl]
        unfold f_X7_weightsOf_46
        rw [nI_1, ← ih (r + 1) (by omega) (by omega)]
        simp [q_sw, hb]
theorem x_weightsOf {I : Nat → Nat → Int32} (hn : 300 ≤ n) (hD : q_ok D) (h : q_RX I D) (hw : q_WX I (q_R D) f w) {S : Nat} (hS : S < 2 ^ q_R D) (h1 : f ≤ q_bc S) : f_X7_weightsOf n I J T (nI S) = some (nI (q_sw w (q_bc S) S (q_R D))) := by
  have hR := hD.1.2.1
  have hp := (q_pow2 (q_R D) hR).2
  unfold f_X7_weightsOf
  rw [j_bitCount (by omega), Option.bind_some]
  exact x_weightsOf_loop hD h hw (by omega) h1 (q_bc_R hR hS) n 0 (Nat.zero_le _) (by omega)
theorem x_below {I : Nat → Nat → Int32} (hn : 300 ≤ n) (hD : q_ok D) (h : q_RX I D) (hw : q_WX I (q_R D) f w) (hwo : q_wok (q_R D) w) {k : Nat} (hk : k < 100) (hl : I 27 2 = nI k) {S : Nat} (hS : S < 2 ^ q_R D) (h1 : f ≤ q_bc S) : f_X7_below n I J T (nI S) = some (zL ((q_K k S * q_B D w k S : Nat) : Int)) := by
  have hR := hD.1.2.1
  have hp := (q_pow2 (q_R D) hR).2
  have hbs := q_bcx_eq S (by omega)
  obtain ⟨f1, f2, f3, f4⟩ := q_fac_F (q_bc S) (by omega)
  unfold f_X7_below
  rw [hl]
  by_cases k0 : k = 0
  · subst k0
    rw [if_pos nI_0]
    rfl
  · rw [if_neg (nI_ne0 (by omega) (by omega))]
    by_cases k1 : k = 1
    · subst k1
      rw [if_pos (show nI 1 = 1 from rfl)]
      unfold q_K q_B
      rw [if_pos rfl, if_neg (by decide), if_pos rfl, Nat.div_mul_cancel f4]
      rfl
    · have e1 : ¬ nI k = 1 := fun z => k1 ((nI_eq (b := 1) (by omega) (by omega)).mp z)
      have hsl := q_sw_le hwo (q_bc S) S (q_R D) (Nat.le_refl _)
      rw [if_neg e1, x_weightsOf hn hD h hw hS h1, Option.bind_some]
      unfold q_K q_B
      rw [if_neg k1, if_neg k0, if_neg k1, Nat.one_mul]
      by_cases hs : 0 < q_sw w (q_bc S) S (q_R D)
      · rw [if_neg (nI_nle hs (by omega)), if_pos hs, nI_l (by omega)]
        rfl
      · have e0 : q_sw w (q_bc S) S (q_R D) = 0 := by omega
        rw [if_neg hs, e0, if_pos (by decide +kernel), j_bitCount (by omega), Option.bind_some, nI_l (by omega)]
        rfl
theorem x_above {I : Nat → Nat → Int32} (hn : 300 ≤ n) (hD : q_ok D) (h : q_RX I D) (hc : q_cc I D) (hw : q_WX I (q_R D) f w) (hwo : q_wok (q_R D) w) {k : Nat} (hk : k < 100) (hl : I 27 2 = nI k) {S r : Nat} (hS : S < 2 ^ q_R D) (h1 : f ≤ q_bc S) (hr : r < q_R D) (hb : S.testBit r = true) : ∃ I', f_X7_above n I J T (nI r) (nI S) = some (zL (q_K k S * q_A D w k S r), I') ∧ q_cc I' D ∧ q_RX I' D ∧ ∀ a c, a ≠ 28 → I' a c = I a c := by
  have hR := hD.1.2.1
  have hp := (q_pow2 (q_R D) hR).2
  have hbs := q_bcx_eq S (by omega)
  have hS0 : 0 < S := Nat.pos_of_ne_zero fun z => by rw [z, Nat.zero_testBit] at hb; cases hb
  obtain ⟨w1, w2, w3, w4⟩ := q_wo_f S (by omega) r (by omega)
  unfold f_X7_above
  rw [hl]
  by_cases k0 : k = 0
  · subst k0
    rw [if_pos nI_0, x_sectionParts hn hD h (by omega) hS0 hr, Option.bind_some]
    refine ⟨I, ?_, hc, h, fun _ _ _ => rfl⟩
    unfold q_K q_A
    rw [if_neg (by decide), if_pos rfl, zL_n]
    congr 2
    congr 1
    omega
  · rw [if_neg (nI_ne0 (by omega) (by omega))]
    by_cases k1 : k = 1
    · subst k1
      obtain ⟨I', e1, e2, e3, e4⟩ := x_orderParts (n := n) (J := J) (T := T) hn hD h hc (by omega) (by omega) hb
      rw [if_pos (show nI 1 = 1 from rfl), e1, Option.bind_some]
      refine ⟨I', ?_, e2, e3, e4⟩
      unfold q_K q_A q_ord
      have e5 : q_bc (q_wo S r) = q_bc S - 1 := by have := w4 hb; omega
      rw [if_pos rfl, if_neg (by decide), if_pos rfl, e5, Int.mul_comm]
    · have e1 : ¬ nI k = 1 := fun z => k1 ((nI_eq (b := 1) (by omega) (by omega)).mp z)
      have hsl := q_sw_le hwo (q_bc S) S (q_R D) (Nat.le_refl _)
      have hcl := q_cost_le hD S
      have hwl := hwo r (q_bc S) hr
      obtain ⟨I', e2, e3, e4, e5⟩ := x_costOf (n := n) (J := J) (T := T) hn hD h hc (S := S) (by omega)
      rw [if_neg e1, x_weightsOf hn hD h hw hS h1, Option.bind_some]
      unfold q_K q_A f_X7_above_55
      rw [if_neg k1, if_neg k0, if_neg k1, e2, Option.bind_some]
      by_cases hs : 0 < q_sw w (q_bc S) S (q_R D)
      · have e6 : nI (q_bc S) * 6 + nI r = nI (q_bc S * 6 + r) := by
          rw [show (6 : Int32) = nI 6 from rfl, pk_mul, nI_add]
        rw [if_neg (nI_nle hs (by omega)), if_pos hs, j_bitCount (by omega), Option.bind_some, e6, if_pos (q_ix (by omega) (by omega)), q_cl (by omega), hw _ h1 (q_bc_R hR hS) r hr]
        simp only [Option.bind_some]
        rw [nI_l (by omega), nI_l (by omega), lN_mul, zL_n]
        refine ⟨I', ?_, e3, e4, e5⟩
        congr 3
        rw [Nat.mul_comm]
        omega
      · have e0 : q_sw w (q_bc S) S (q_R D) = 0 := by omega
        rw [if_neg hs, e0, if_pos (by decide +kernel), show (1 : Int32) = nI 1 from rfl]
        simp only [Option.bind_some]
        rw [nI_l (by omega), nI_l (by omega), lN_mul, zL_n]
        refine ⟨I', ?_, e3, e4, e5⟩
        congr 3
        omega
end QW
