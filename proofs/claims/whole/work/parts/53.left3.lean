/-! ===== left, both sides ===== -/
section QW
variable {n : Nat} {D : q_Rd} {w : Nat → Nat → Nat}
/-- who stays, of the set S, among the first r -/
def q_sl (D : q_Rd) (w : Nat → Nat → Nat) (k S : Nat) : Nat → Nat
  | 0 => 0
  | r + 1 => if S.testBit r = true ∧ ¬ (q_wa D r : Int) * q_B D w k S < q_A D w k S r then q_sl D w k S r ||| 2 ^ r else q_sl D w k S r
def q_sv (D : q_Rd) (w : Nat → Nat → Nat) (k S : Nat) : Nat := S &&& (63 ^^^ q_wk D w k S (q_R D))
def q_it (D : q_Rd) (w : Nat → Nat → Nat) (k : Nat) : Nat → Nat → Nat
  | 0, S => S
  | j + 1, S => q_it D w k j (q_sv D w k S)
theorem q_or0 (a : Nat) : nI a ||| 0 = nI a := by
  show nI a ||| nI 0 = nI a
  rw [q_or, Nat.or_zero]
theorem q_wk_bit (k S : Nat) (i : Nat) : ∀ r, (q_wk D w k S r).testBit i = true ↔ (i < r ∧ S.testBit i = true ∧ (q_wa D i : Int) * q_B D w k S < q_A D w k S i) := by
  intro r
  induction r with
  | zero =>
    unfold q_wk
    rw [Nat.zero_testBit]
    exact ⟨fun h => (by cases h), fun h => absurd h.1 (Nat.not_lt_zero _)⟩
  | succ r ih =>
    unfold q_wk
    by_cases h : S.testBit r = true ∧ (q_wa D r : Int) * q_B D w k S < q_A D w k S r
    · rw [if_pos h, Nat.testBit_or, Nat.testBit_two_pow, Bool.or_eq_true, ih, decide_eq_true_eq]
      constructor
      · rintro (z | z)
        · exact ⟨by omega, z.2⟩
        · subst z; exact ⟨Nat.lt_succ_self _, h⟩
      · intro z
        by_cases e : r = i
        · exact Or.inr e
        · exact Or.inl ⟨by omega, z.2⟩
    · rw [if_neg h, ih]
      constructor
      · intro z; exact ⟨by omega, z.2⟩
      · intro z
        refine ⟨?_, z.2⟩
        by_cases e : r = i
        · subst e; exact absurd z.2 h
        · omega
theorem q_sl_bit (k S : Nat) (i : Nat) : ∀ r, (q_sl D w k S r).testBit i = true ↔ (i < r ∧ S.testBit i = true ∧ ¬ (q_wa D i : Int) * q_B D w k S < q_A D w k S i) := by
  intro r
  induction r with
  | zero =>
    unfold q_sl
    rw [Nat.zero_testBit]
    exact ⟨fun h => (by cases h), fun h => absurd h.1 (Nat.not_lt_zero _)⟩
  | succ r ih =>
    unfold q_sl
    by_cases h : S.testBit r = true ∧ ¬ (q_wa D r : Int) * q_B D w k S < q_A D w k S r
    · rw [if_pos h, Nat.testBit_or, Nat.testBit_two_pow, Bool.or_eq_true, ih, decide_eq_true_eq]
      constructor
      · rintro (z | z)
        · exact ⟨by omega, z.2⟩
        · subst z; exact ⟨Nat.lt_succ_self _, h⟩
      · intro z
        by_cases e : r = i
        · exact Or.inr e
        · exact Or.inl ⟨by omega, z.2⟩
    · rw [if_neg h, ih]
      constructor
      · intro z; exact ⟨by omega, z.2⟩
      · intro z
        refine ⟨?_, z.2⟩
        by_cases e : r = i
        · subst e; exact absurd z.2 h
        · omega
theorem q_sl_sv (hR : q_R D ≤ 6) (k : Nat) {S : Nat} (hS : S < 2 ^ q_R D) : q_sl D w k S (q_R D) = q_sv D w k S := by
  have h63 : (63 : Nat) = 2 ^ 6 - 1 := rfl
  apply Nat.eq_of_testBit_eq
  intro i
  unfold q_sv
  rw [Nat.testBit_and, Nat.testBit_xor, h63, Nat.testBit_two_pow_sub_one]
  rw [Bool.eq_iff_iff, q_sl_bit]
  by_cases hb : S.testBit i = true
  · have hi : i < q_R D := by
      rcases Nat.lt_or_ge i (q_R D) with z | z
      · exact z
      · rw [Nat.testBit_lt_two_pow (Nat.lt_of_lt_of_le hS (Nat.pow_le_pow_right (by omega) z))] at hb
        cases hb
    have h := q_wk_bit (D := D) (w := w) k S i (q_R D)
    rw [hb, Bool.true_and, decide_eq_true (show i < 6 by omega)]
    cases hw : (q_wk D w k S (q_R D)).testBit i with
    | false =>
      rw [hw] at h
      constructor
      · intro _; rfl
      · intro _
        exact ⟨hi, rfl, fun z => by have := h.mpr ⟨hi, hb, z⟩; cases this⟩
    | true =>
      have h2 := h.mp hw
      constructor
      · intro z; exact absurd h2.2.2 z.2.2
      · intro z; cases z
  · have hb' : S.testBit i = false := by simpa using hb
    rw [hb', Bool.false_and]
    exact ⟨fun z => (by cases z.2.1), fun z => (by cases z)⟩
theorem q_wk_lt (k S : Nat) : ∀ r, r ≤ 6 → q_wk D w k S r < 64 := by
  intro r
  induction r with
  | zero => intro _; unfold q_wk; omega
  | succ r ih =>
    intro h
    have h1 := ih (by omega)
    unfold q_wk
    split
    · exact Nat.or_lt_two_pow (n := 6) h1 (Nat.pow_lt_pow_right (by omega) (by omega))
    · exact h1
theorem q_and_le : ∀ S, S < 64 → ∀ x, x < 64 → S &&& x ≤ S := by decide +kernel
theorem q_sv_lt (k : Nat) {S R : Nat} (hS : S < 2 ^ R) : q_sv D w k S < 2 ^ R := Nat.lt_of_le_of_lt Nat.and_le_left hS
theorem q_anx : ∀ S, S < 64 → ∀ W, W < 64 → nI S &&& (nI W ^^^ (-1)) = nI (S &&& (63 ^^^ W)) := by decide +kernel
theorem q_bc_sub : ∀ S, S < 64 → ∀ x, x < 64 → S &&& x = S ∨ q_bc (S &&& x) < q_bc S := by decide +kernel
theorem q_it_fix (k : Nat) {S : Nat} (h : q_sv D w k S = S) : ∀ j, q_it D w k j S = S := by
  intro j
  induction j with
  | zero => rfl
  | succ j ih =>
    unfold q_it
    rw [h]
    exact ih
theorem q_sv_0 (k : Nat) : q_sv D w k 0 = 0 := Nat.zero_and _
theorem x_left_loop {J : Nat → Nat → Int64} {T k : Nat} (hn : 300 ≤ n) (hD : q_ok D) (hwo : q_wok (q_R D) w) (hk : k < 100) : ∀ (m j x S : Nat) (I : Nat → Nat → Int32), x + j = 6 → j < m → S < 2 ^ q_R D → q_RX I D → q_cc I D → q_WX I (q_R D) 1 w → I 27 2 = nI k → ∃ I', f_X11_left_29 n m I J T (nI S) (nI x) = some (nI (q_it D w k j S), I') ∧ ∀ y z, y ≠ 28 → I' y z = I y z := by
  have hR := hD.1.2.1
  have hp := (q_pow2 (q_R D) hR).2
  intro m
  induction m with
  | zero => intro j x S I _ h; omega
  | succ m ih =>
    intro j x S I h1 h2 hS hx hc hw hl
    rw [f_X11_left_29]
    cases j with
    | zero =>
      have e : x = 6 := by omega
      subst e
      rw [if_pos (show (6 : Int32) ≤ nI 6 by decide +kernel)]
      exact ⟨I, rfl, fun _ _ _ => rfl⟩
    | succ j =>
      obtain ⟨I1, e1, e2, e3, e4⟩ := x_walk (n := n) (J := J) (T := T) hn hD hwo hk hS hx hc hw hl
      rw [if_neg (show ¬ (6 : Int32) ≤ nI x from nI_ge (b := 6) (by omega) (by omega)), e1, Option.bind_some]
      show ∃ I', f_X11_left_29 n m I1 J T (nI S &&& (nI (q_wk D w k S (q_R D)) ^^^ (-1))) (nI x + 1) = _ ∧ _
      rw [q_anx S (by omega) _ (q_wk_lt k S _ hR), nI_1]
      obtain ⟨I', f1, f2⟩ := ih j (x + 1) (q_sv D w k S) I1 (by omega) (by omega) (q_sv_lt k hS) e2 e3 (fun p p1 p2 i hi => by rw [e4 29 _ (by omega)]; exact hw p p1 p2 i hi) (by rw [e4 27 _ (by omega)]; exact hl)
      exact ⟨I', f1, fun y z h => by rw [f2 y z h, e4 y z h]⟩
theorem m_left_in {I : Nat → Nat → Int32} {J : Nat → Nat → Int64} {T k S : Nat} (hD : q_ok D) (hwo : q_wok (q_R D) w) (hS : S < 2 ^ q_R D) (hS0 : 0 < S) (h : q_RM I D) (hv : ∀ r, r < q_R D → S.testBit r = true → J 66 r = zL (q_A D w k S r)) (hb : J 53 33 = zL (q_B D w k S : Nat)) {k22 : (Nat → Nat → Int32) → (Nat → Nat → Int64) → Nat → Int32 → Int32 → Int32 → Option (Int32 × (Nat → Nat → Int32) × (Nat → Nat → Int64) × Nat)} (x : Int32) : ∀ (m r : Nat), r ≤ q_R D → q_R D - r < m → f_X12_left_42 n k22 m I J T x (nI S) (nI (q_sl D w k S r)) (nI r) = k22 I J T x (nI (q_sl D w k S (q_R D))) (if nI (q_sl D w k S (q_R D)) = nI S then 0 else 1) := by
  have hR := hD.1.2.1
  have hp := (q_pow2 (q_R D) hR).2
  have hB := q_B_le hD hwo k (S := S) (by omega) hS0
  intro m
  induction m with
  | zero => intro r _ h; omega
  | succ m ih =>
    intro r hr hm
    rw [f_X12_left_42, h.1.2.1]
    by_cases e : r = q_R D
    · subst e
      rw [if_pos (Int32.le_refl _)]
      unfold f_X12_left_118
      by_cases he : nI (q_sl D w k S (q_R D)) = nI S
      · rw [if_pos he, if_pos he]
      · rw [if_neg he, if_neg he]
    · rw [if_neg (nI_ge (by omega) (by omega)), m_has (by omega) (by omega)]
      have es : q_sl D w k S (r + 1) = (if S.testBit r = true ∧ ¬ (q_wa D r : Int) * q_B D w k S < q_A D w k S r then q_sl D w k S r ||| 2 ^ r else q_sl D w k S r) := rfl
      by_cases hbt : S.testBit r = true
      · have hwa := (hD.2.2 r (by omega)).2.2.1
        have hA := q_A_le hD hwo k (S := S) (r := r) (by omega) (by omega) hbt
        have hwb := Nat.mul_le_mul hwa hB.2
        obtain ⟨z1, z2⟩ := q_shl6 r (by omega)
        have hcl : (nI r).toNatClampNeg = r := q_cl (by omega)
        have e3 : (3 : Int32) * nI r + 1 = nI (3 * r + 1) := by rw [show (3 : Int32) * nI r = nI (3 * r) from pk_mul 3 r, nI_1]
        have hcl2 : (nI (3 * r + 1)).toNatClampNeg = 3 * r + 1 := q_cl (by omega)
        have hix : ok_ix (nI r) 6 := q_ix (by omega) (by omega)
        have hix2 : ok_ix (nI (3 * r + 1)) 18 := q_ix (by omega) (by omega)
        have e6 := (h.2.2 r (by omega)).2.1
        have en : ((q_wa D r : Int) * (q_B D w k S : Int)) = ((q_wa D r * q_B D w k S : Nat) : Int) := (Int.natCast_mul _ _).symm
        have hiff : (0 < lg_cmp (zL (q_A D w k S r)) (zL ((q_wa D r : Int) * (q_B D w k S : Int)))) ↔ (q_wa D r : Int) * q_B D w k S < q_A D w k S r := by
          rw [lg_cmp_gt, en, zL_lt (by omega) (by omega) (by omega) (by omega)]
        rw [if_pos hbt, Option.bind_some, if_neg q_10]
        simp only [e3, if_pos hix, if_pos hix2, hcl, hcl2, e6, hv r (by omega) hbt, hb, nI_l (show q_wa D r < 2 ^ 31 by omega), zL_n, zL_mul]
        unfold f_X12_left_97 f_X12_left_98
        by_cases hlt : (q_wa D r : Int) * q_B D w k S < q_A D w k S r
        · rw [if_neg (fun z => z.2 hlt)] at es
          rw [if_pos (hiff.mpr hlt), q_or0, nI_1, ← es]
          exact ih (r + 1) (by omega) (by omega)
        · rw [if_pos ⟨hbt, hlt⟩] at es
          rw [if_neg (fun z => hlt (hiff.mp z)), z1, q_or, nI_1, ← es]
          exact ih (r + 1) (by omega) (by omega)
      · rw [if_neg (fun z => hbt z.1)] at es
        rw [if_neg hbt, Option.bind_some, if_pos rfl]
        unfold f_X12_left_97 f_X12_left_98
        rw [q_or0, nI_1, ← es]
        exact ih (r + 1) (by omega) (by omega)
end QW
