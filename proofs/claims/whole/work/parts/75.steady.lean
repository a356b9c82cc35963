/-! ===== steady: the class ===== -/
def q_lw (D : q_Rd) (w : Nat → Nat → Nat) (k r S1 S0 : Nat) : Bool := decide (q_A D w k S1 r * q_B D w k S0 < q_A D w k S0 r * q_B D w k S1)
/-- rider r would be better off in none of the coaches j .. -/
def q_sy (D : q_Rd) (w : Nat → Nat → Nat) (k : Nat) (c : Nat → Nat) (r : Nat) : Nat → Nat → Bool
  | 0, _ => true
  | g + 1, j => !(!decide (c r = j) && (q_room D (q_cst c j (q_R D)) r && q_lw D w k r (q_cst c j (q_R D) ||| 2 ^ r) (q_cst c (c r) (q_R D)))) && q_sy D w k c r g (j + 1)
def q_TB (D : q_Rd) (w : Nat → Nat → Nat) (k : Nat) (J : Nat → Nat → Int64) (S : Nat) : Prop := J 35 S = zL ((q_K k S * q_B D w k S : Nat) : Int) ∧ ∀ r, r < q_R D → S.testBit r = true → J 34 (S * 6 + r) = zL (q_K k S * q_A D w k S r)
section QW
variable {n : Nat} {D : q_Rd} {w : Nat → Nat → Nat}
theorem x_reckon_in {T k S : Nat} (hn : 300 ≤ n) (hD : q_ok D) (hwo : q_wok (q_R D) w) (hk : k < 100) (hS : S < 2 ^ q_R D) (hS0 : 0 < S) {k2 : (Nat → Nat → Int32) → (Nat → Nat → Int64) → Nat → Int32 → Option ((Nat → Nat → Int32) × (Nat → Nat → Int64))} : ∀ (m r : Nat) (I : Nat → Nat → Int32) (J : Nat → Nat → Int64), r ≤ q_R D → q_R D - r < m → q_RX I D → q_cc I D → q_WX I (q_R D) 1 w → I 27 2 = nI k → ∃ I' J', f_X6_reckonShares_29 n k2 m I J T (nI S) (nI r) = k2 I' J' T (nI (S + 1)) ∧ q_RX I' D ∧ q_cc I' D ∧ (∀ a b, a ≠ 28 → I' a b = I a b) ∧ (∀ i, r ≤ i → i < q_R D → S.testBit i = true → J' 34 (S * 6 + i) = zL (q_K k S * q_A D w k S i)) ∧ ∀ a b, ¬ (a = 34 ∧ S * 6 + r ≤ b ∧ b < S * 6 + 6) → J' a b = J a b := by
  have hR := hD.1.2.1
  have hp := (q_pow2 (q_R D) hR).2
  have hbs := q_bcx_eq S (by omega)
  intro m
  induction m with
  | zero => intro r I J _ h; omega
  | succ m ih =>
    intro r I J hr hm hx hc hw hl
    rw [f_X6_reckonShares_29, hx.1.2.1]
    by_cases e : r = q_R D
    · subst e
      rw [if_pos (Int32.le_refl _), nI_1]
      exact ⟨I, J, rfl, hx, hc, fun _ _ _ => rfl, fun i a b => by omega, fun _ _ _ => rfl⟩
    · have e6 : nI S * 6 + nI r = nI (S * 6 + r) := by
        rw [show nI S * 6 = nI (S * 6) from pk_mul S 6, nI_add]
      have hix : ok_ix (nI (S * 6 + r)) 384 := q_ix (by omega) (by omega)
      have hcl : (nI (S * 6 + r)).toNatClampNeg = S * 6 + r := q_cl (by omega)
      have step : ∀ (I1 : Nat → Nat → Int32) (z : Int64), (S.testBit r = true → z = zL (q_K k S * q_A D w k S r)) → q_RX I1 D → q_cc I1 D → (∀ a b, a ≠ 28 → I1 a b = I a b) → ∃ I' J', f_X6_reckonShares_71 n k2 (f_X6_reckonShares_29 n k2 m) I1 J T (nI S) (nI r) (nI S * 6 + nI r) z = k2 I' J' T (nI (S + 1)) ∧ q_RX I' D ∧ q_cc I' D ∧ (∀ a b, a ≠ 28 → I' a b = I a b) ∧ (∀ i, r ≤ i → i < q_R D → S.testBit i = true → J' 34 (S * 6 + i) = zL (q_K k S * q_A D w k S i)) ∧ ∀ a b, ¬ (a = 34 ∧ S * 6 + r ≤ b ∧ b < S * 6 + 6) → J' a b = J a b := by
        intro I1 z hz hx1 hc1 hI1
        obtain ⟨I', J', f1, f2, f3, f4, f5, f6⟩ := ih (r + 1) I1 (am_u J 34 (S * 6 + r) z) (by omega) (by omega) hx1 hc1 (fun p p1 p2 i hi => by rw [hI1 29 _ (by omega)]; exact hw p p1 p2 i hi) (by rw [hI1 27 _ (by omega)]; exact hl)
        unfold f_X6_reckonShares_71
        rw [e6, if_pos hix, hcl, nI_1]
        refine ⟨I', J', f1, f2, f3, fun a b h => by rw [f4 a b h]; exact hI1 a b h, fun i i1 i2 i3 => ?_, fun a b h => ?_⟩
        · by_cases ei : i = r
          · rw [ei, f6 34 (S * 6 + r) (by omega), ← hz (by rw [← ei]; exact i3)]
            simp [am_u]
          · exact f5 i (by omega) i2 i3
        · rw [f6 a b (by omega)]
          unfold am_u
          rw [if_neg (by omega)]
      rw [if_neg (nI_ge (by omega) (by omega)), x_isIn (by omega) (by omega), Option.bind_some]
      by_cases hb : S.testBit r = true
      · obtain ⟨I1, d1, d2, d3, d4⟩ := x_above (n := n) (J := J) (T := T) hn hD hx hc hw hwo hk hl hS (hbs.2.2 hS0) (r := r) (by omega) hb
        rw [if_pos hb, if_neg (by exact q_10), d1, Option.bind_some]
        exact step I1 _ (fun _ => rfl) d3 d2 d4
      · rw [if_neg hb, if_pos rfl]
        exact step I 0 (fun z => absurd z hb) hx hc (fun _ _ _ => rfl)
theorem x_reckon_out {T k : Nat} (hn : 300 ≤ n) (hD : q_ok D) (hwo : q_wok (q_R D) w) (hk : k < 100) : ∀ (m S : Nat) (I : Nat → Nat → Int32) (J : Nat → Nat → Int64), 0 < S → S ≤ 2 ^ q_R D → 2 ^ q_R D - S < m → q_RX I D → q_cc I D → q_WX I (q_R D) 1 w → I 27 2 = nI k → ∃ I' J', f_X6_reckonShares_2 n m I J T (nI S) = some (I', J') ∧ (∀ a b, a ≠ 28 → I' a b = I a b) ∧ (∀ S', S ≤ S' → S' < 2 ^ q_R D → q_TB D w k J' S') ∧ (∀ S', S' < S → J' 35 S' = J 35 S') ∧ (∀ b, b < S * 6 → J' 34 b = J 34 b) ∧ ∀ a b, a ≠ 34 → a ≠ 35 → J' a b = J a b := by
  have hR := hD.1.2.1
  have hp := (q_pow2 (q_R D) hR).2
  have hp0 := Nat.two_pow_pos (q_R D)
  intro m
  induction m with
  | zero => intro S I J _ _ h; omega
  | succ m ih =>
    intro S I J h0 h1 hm hx hc hw hl
    rw [f_X6_reckonShares_2, x_everyone hD hx, Option.bind_some]
    by_cases e : S = 2 ^ q_R D
    · rw [if_pos (nI_lt (by omega) (by omega))]
      exact ⟨I, J, rfl, fun _ _ _ => rfl, fun S' a b => by omega, fun _ _ => rfl, fun _ _ => rfl, fun _ _ _ _ => rfl⟩
    · have hSl : S < 2 ^ q_R D := by omega
      have hbs := q_bcx_eq S (by omega)
      have hix : ok_ix (nI S) 64 := q_ix (by omega) (by omega)
      have hcl : (nI S).toNatClampNeg = S := q_cl (by omega)
      rw [if_neg (nI_nlt (by omega) (by omega)), x_below hn hD hx hw hwo hk hl hSl (hbs.2.2 h0), Option.bind_some, if_pos hix, hcl]
      obtain ⟨I1, J1, c1, c2, c3, c4, c5, c6⟩ := x_reckon_in (n := n) (T := T) hn hD hwo hk hSl h0 (k2 := f_X6_reckonShares_2 n m) n 0 I (am_u J 35 S (zL ((q_K k S * q_B D w k S : Nat) : Int))) (Nat.zero_le _) (by omega) hx hc hw hl
      have c1' : f_X6_reckonShares_29 n (f_X6_reckonShares_2 n m) n I (am_u J 35 S (zL ((q_K k S * q_B D w k S : Nat) : Int))) T (nI S) 0 = _ := c1
      rw [c1']
      obtain ⟨I', J', f1, f2, f3, f4, f5, f6⟩ := ih (S + 1) I1 J1 (by omega) (by omega) (by omega) c2 c3 (fun p p1 p2 i hi => by rw [c4 29 _ (by omega)]; exact hw p p1 p2 i hi) (by rw [c4 27 _ (by omega)]; exact hl)
      refine ⟨I', J', f1, fun a b h => by rw [f2 a b h]; exact c4 a b h, fun S' a b => ?_, fun S' a => ?_, fun b hb => ?_, fun a b h h' => ?_⟩
      · by_cases es : S' = S
        · subst es
          refine ⟨?_, fun r hr hbt => ?_⟩
          · rw [f4 S' (by omega), c6 35 S' (by omega)]
            simp [am_u]
          · rw [f5 (S' * 6 + r) (by omega)]
            exact c5 r (Nat.zero_le _) hr hbt
        · exact f3 S' (by omega) b
      · rw [f4 S' (by omega), c6 35 S' (by omega)]
        unfold am_u
        rw [if_neg (by omega)]
      · rw [f5 b (by omega), c6 34 b (by omega)]
        unfold am_u
        rw [if_neg (by omega)]
      · rw [f6 a b h h', c6 a b (by omega)]
        unfold am_u
        rw [if_neg (by omega)]
theorem x_isLower {I : Nat → Nat → Int32} {J : Nat → Nat → Int64} {T k r S1 S0 : Nat} (hD : q_ok D) (hwo : q_wok (q_R D) w) (hr : r < q_R D) (h1 : S1 < 2 ^ q_R D) (b1 : S1.testBit r = true) (h0 : S0 < 2 ^ q_R D) (b0 : S0.testBit r = true) (t1 : q_TB D w k J S1) (t0 : q_TB D w k J S0) : f_X6_isLower n I J T (nI r) (nI S1) (nI S0) = some (if q_lw D w k r S1 S0 = true then 1 else 0) := by
  have hR := hD.1.2.1
  have hp := (q_pow2 (q_R D) hR).2
  have e1 : nI S1 * 6 + nI r = nI (S1 * 6 + r) := by rw [show nI S1 * 6 = nI (S1 * 6) from pk_mul S1 6, nI_add]
  have e0 : nI S0 * 6 + nI r = nI (S0 * 6 + r) := by rw [show nI S0 * 6 = nI (S0 * 6) from pk_mul S0 6, nI_add]
  have i1 : ok_ix (nI (S1 * 6 + r)) 384 := q_ix (by omega) (by omega)
  have i0 : ok_ix (nI (S0 * 6 + r)) 384 := q_ix (by omega) (by omega)
  have j1 : ok_ix (nI S1) 64 := q_ix (by omega) (by omega)
  have j0 : ok_ix (nI S0) 64 := q_ix (by omega) (by omega)
  have c1 : (nI (S1 * 6 + r)).toNatClampNeg = S1 * 6 + r := q_cl (by omega)
  have c0 : (nI (S0 * 6 + r)).toNatClampNeg = S0 * 6 + r := q_cl (by omega)
  have d1 : (nI S1).toNatClampNeg = S1 := q_cl (by omega)
  have d0 : (nI S0).toNatClampNeg = S0 := q_cl (by omega)
  have z1 : S1 ≠ 0 := fun z => by rw [z, Nat.zero_testBit] at b1; cases b1
  have z0 : S0 ≠ 0 := fun z => by rw [z, Nat.zero_testBit] at b0; cases b0
  have A1 := q_A_30 hD hwo k (S := S1) (by omega) hr b1
  have A0 := q_A_30 hD hwo k (S := S0) (by omega) hr b0
  obtain ⟨B1, -, B1'⟩ := q_KB_16 hD hwo k (S := S1) (by omega) (by omega)
  obtain ⟨B0, -, B0'⟩ := q_KB_16 hD hwo k (S := S0) (by omega) (by omega)
  have K1 := q_K_le k (S := S1) (by omega)
  have K0 := q_K_le k (S := S0) (by omega)
  have m1 : (q_K k S1 * q_A D w k S1 r : Int).natAbs ≤ 720 * 2 ^ 29 := by rw [Int.natAbs_mul, Int.natAbs_natCast]; exact Nat.mul_le_mul K1.2 A1
  have m0 : (q_K k S0 * q_A D w k S0 r : Int).natAbs ≤ 720 * 2 ^ 29 := by rw [Int.natAbs_mul, Int.natAbs_natCast]; exact Nat.mul_le_mul K0.2 A0
  have v1 := q_vp (c := 0) (d := 0) (show (q_K k S1 * q_A D w k S1 r : Int).natAbs ≤ 2 ^ 40 by omega) B0'
  have v0 := q_vp (c := 0) (d := 0) (show (q_K k S0 * q_A D w k S0 r : Int).natAbs ≤ 2 ^ 40 by omega) B1'
  have hkk : ∀ a b c d : Int, (q_K k S1 : Int) * a * ((q_K k S0 : Int) * b) < (q_K k S0 : Int) * c * ((q_K k S1 : Int) * d) ↔ a * b < c * d := fun a b c d => by
    have e : (q_K k S1 : Int) * a * ((q_K k S0 : Int) * b) = ((q_K k S1 : Int) * (q_K k S0 : Int)) * (a * b) := by rw [Int.mul_assoc, Int.mul_left_comm a _ b, ← Int.mul_assoc]
    have e' : (q_K k S0 : Int) * c * ((q_K k S1 : Int) * d) = ((q_K k S1 : Int) * (q_K k S0 : Int)) * (c * d) := by rw [Int.mul_assoc, Int.mul_left_comm c _ d, ← Int.mul_assoc, Int.mul_comm (q_K k S0 : Int) (q_K k S1 : Int)]
    rw [e, e', Int.mul_lt_mul_left (Int.mul_pos (show (0 : Int) < q_K k S1 by omega) (show (0 : Int) < q_K k S0 by omega))]
  unfold f_X6_isLower
  rw [e1, e0, if_pos i1, if_pos j0, if_pos i0, if_pos j1, c1, c0, d1, d0, t1.2 r hr b1, t0.2 r hr b0, t1.1, t0.1, zL_mul, zL_mul]
  have hiff : (0 ≤ lg_cmp (zL (q_K k S1 * q_A D w k S1 r * ((q_K k S0 * q_B D w k S0 : Nat) : Int))) (zL (q_K k S0 * q_A D w k S0 r * ((q_K k S1 * q_B D w k S1 : Nat) : Int)))) ↔ ¬ q_lw D w k r S1 S0 = true := by
    rw [lg_cmp_ge, zL_le (by omega) (by omega) (by omega) (by omega)]
    unfold q_lw
    rw [decide_eq_true_eq, Int.natCast_mul, Int.natCast_mul, ← hkk]
    omega
  by_cases hl : q_lw D w k r S1 S0 = true
  · rw [if_neg (fun z => hiff.mp z hl), if_pos hl]
  · rw [if_pos (hiff.mpr hl), if_neg hl]
theorem x_stays {I : Nat → Nat → Int32} {J : Nat → Nat → Int64} {T k r u : Nat} {c : Nat → Nat} (hn : 300 ≤ n) (hD : q_ok D) (hwo : q_wok (q_R D) w) (hr : r < q_R D) (hu : u ≤ q_R D) (hx : q_RX I D) (hc : q_CX I D c (q_R D)) (ht : ∀ S, 0 < S → S < 2 ^ q_R D → q_TB D w k J S) : ∀ (m g j : Nat), g + j = u + 1 → g < m → f_X6_stays_3 n m I J T (nI r) (nI (q_cst c (c r) (q_R D))) (nI u) (nI j) = some (if q_sy D w k c r g j = true then 1 else 0) := by
  have hR := hD.1.2.1
  have hp := (q_pow2 (q_R D) hR).2
  intro m
  induction m with
  | zero => intro g j _ h; omega
  | succ m ih =>
    intro g j h1 h2
    rw [f_X6_stays_3]
    cases g with
    | zero =>
      rw [if_pos (nI_lt (by omega) (by omega))]
      unfold q_sy
      rw [if_pos rfl]
    | succ g =>
      have hix : ok_ix (nI j) 7 := q_ix (by omega) (by omega)
      have hcl : (nI j).toNatClampNeg = j := q_cl (by omega)
      have hsl := q_cst_lt c j (q_R D)
      have hso := q_cst_lt c (c r) (q_R D)
      have hbit := q_cst_bit c j r (q_R D)
      have hown : (q_cst c (c r) (q_R D)).testBit r = true := (q_cst_bit c (c r) r (q_R D)).mpr ⟨hr, rfl⟩
      have hz0 : q_cst c (c r) (q_R D) ≠ 0 := fun z => by rw [z, Nat.zero_testBit] at hown; cases hown
      obtain ⟨s1, s2⟩ := q_shl6 r (by omega)
      have h2r : 2 ^ r < 2 ^ q_R D := Nat.pow_lt_pow_right (by omega) hr
      have horl : q_cst c j (q_R D) ||| 2 ^ r < 2 ^ q_R D := Nat.or_lt_two_pow hsl h2r
      have hob : (q_cst c j (q_R D) ||| 2 ^ r).testBit r = true := by
        rw [Nat.testBit_or, Nat.testBit_two_pow_self, Bool.or_true]
      have hoz : q_cst c j (q_R D) ||| 2 ^ r ≠ 0 := fun z => by rw [z, Nat.zero_testBit] at hob; cases hob
      have eu : q_sy D w k c r (g + 1) j = (!(!decide (c r = j) && (q_room D (q_cst c j (q_R D)) r && q_lw D w k r (q_cst c j (q_R D) ||| 2 ^ r) (q_cst c (c r) (q_R D)))) && q_sy D w k c r g (j + 1)) := rfl
      have g0 := ih g (j + 1) (by omega) (by omega)
      rw [if_neg (nI_nlt (by omega) (by omega))]
      simp only [if_pos hix, hcl, (hc j (by omega)).1]
      rw [x_isIn (by omega) (by omega), Option.bind_some, eu]
      unfold f_X6_stays_28 f_X6_stays_67
      rw [nI_1]
      by_cases hj : c r = j
      · rw [if_pos (hbit.mpr ⟨hr, hj⟩), if_neg (by exact q_10), if_pos rfl, g0, decide_eq_true hj]
        rfl
      · rw [if_neg (fun z => hj (hbit.mp z).2), if_pos rfl, if_neg (by exact q_10), x_hasRoom hD hx (by omega) hr (hc j (by omega)).2, Option.bind_some, decide_eq_false hj, Bool.not_false, Bool.true_and]
        by_cases hrm : q_room D (q_cst c j (q_R D)) r = true
        · rw [if_pos hrm, if_neg (by exact q_10)]
          simp only [if_pos hix, hcl, (hc j (by omega)).1]
          rw [s1, q_or, x_isLower hD hwo hr horl hob hso hown (ht _ (by omega) horl) (ht _ (by omega) hso), Option.bind_some, hrm, Bool.true_and]
          by_cases hl : q_lw D w k r (q_cst c j (q_R D) ||| 2 ^ r) (q_cst c (c r) (q_R D)) = true
          · rw [if_pos hl, if_neg (by exact q_10), hl]
            rfl
          · have hl' : q_lw D w k r (q_cst c j (q_R D) ||| 2 ^ r) (q_cst c (c r) (q_R D)) = false := by simpa using hl
            rw [if_neg hl, if_pos rfl, g0, hl']
            rfl
        · have hrm' : q_room D (q_cst c j (q_R D)) r = false := by simpa using hrm
          rw [if_neg hrm, if_pos rfl, g0, hrm']
          rfl
end QW
