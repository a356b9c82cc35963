/-! ===== ride, the class ===== -/
def q_t (m o i : Nat) : Nat := o / 10 ^ (m - 1 - i) % 10
section QW
variable {n : Nat} {D : q_Rd} {I : Nat → Nat → Int32} {J : Nat → Nat → Int64} {T : Nat}
def q_okA (D : q_Rd) (S m o j : Nat) : Prop := q_t m o j < q_R D ∧ S.testBit (q_t m o j) = true ∧ ∀ l, l < j → q_t m o l ≠ q_t m o j
theorem q_u10 {m i : Nat} (h : i < m) : 10 ^ (m - i) = 10 ^ (m - 1 - i) * 10 ∧ 10 ^ (m - i) / 10 = 10 ^ (m - 1 - i) ∧ 10 ^ (m - 1 - i) / 10 = 10 ^ (m - (i + 1)) / 10 := by
  have e : m - i = (m - 1 - i) + 1 := by omega
  have e2 : m - (i + 1) = m - 1 - i := by omega
  rw [e, e2, Nat.pow_succ]
  exact ⟨rfl, Nat.mul_div_cancel _ (by omega), rfl⟩
theorem q_bit_rm {W r x : Nat} (hr : r < 6) (hx : x < 6) : (W &&& (63 ^^^ 2 ^ r)).testBit x = (W.testBit x && !decide (r = x)) := by
  rw [Nat.testBit_and, Nat.testBit_xor, show (63 : Nat) = 2 ^ 6 - 1 from rfl, Nat.testBit_two_pow_sub_one, Nat.testBit_two_pow, decide_eq_true hx, Bool.true_xor]
theorem x_ride43 (hn : 300 ≤ n) (hD : q_ok D) (hx : q_RX I D) {S m o r : Nat} (hm : m ≤ 6) (ho : o < 10 ^ m) (hr : r < q_R D) (hSr : S.testBit r = true) : ∀ (k i wt : Nat) (ans : Int32), i ≤ m → m - i < k → wt < 64 → q_bc wt + i = m → (∀ x, x < 6 → (wt.testBit x = true ↔ (S.testBit x = true ∧ ∀ j, j < i → q_t m o j ≠ x))) → (q_ft D (q_t m o) i).1 ≤ q_W D → (∀ j, j < i → q_t m o j = r → ans = nI (q_ft D (q_t m o) (j + 1)).2.1) → (∃ v, f_X9_ridden_43 n k I J T (nI r) (nI (10 ^ (m - i) / 10)) (nI wt) (nI (o % 10 ^ (m - i))) (nI (q_ft D (q_t m o) i).1) (nI (q_ft D (q_t m o) i).2.1) ans = some v ∧ (∀ j, j < m → q_t m o j = r → v = nI (q_ft D (q_t m o) (j + 1)).2.1) ∧ (∃ j, j < m ∧ q_t m o j = r) ∧ ∀ j, i ≤ j → j < m → q_okA D S m o j) ∨ (f_X9_ridden_43 n k I J T (nI r) (nI (10 ^ (m - i) / 10)) (nI wt) (nI (o % 10 ^ (m - i))) (nI (q_ft D (q_t m o) i).1) (nI (q_ft D (q_t m o) i).2.1) ans = some (-1) ∧ ∃ j, j < m ∧ ¬ q_okA D S m o j) := by
  have hR := hD.1.2.1
  intro k
  induction k with
  | zero => intro i wt ans _ h; omega
  | succ k ih =>
    intro i wt ans hi hk hwt hbc hbits hat hans
    by_cases e : i = m
    · subst e
      left
      have hz : wt = 0 := (q_bc_0 hwt).mp (by omega)
      rw [f_X9_ridden_43, Nat.sub_self, if_pos (show nI (10 ^ 0 / 10) ≤ 0 by decide +kernel)]
      refine ⟨ans, rfl, hans, ?_, fun j a b => by omega⟩
      have h1 := hbits r (by omega)
      rw [hz, Nat.zero_testBit] at h1
      apply Classical.byContradiction
      intro hno
      have := h1.mpr ⟨hSr, fun j hj he => hno ⟨j, hj, he⟩⟩
      cases this
    · obtain ⟨u1, u2, u3⟩ := q_u10 (m := m) (i := i) (by omega)
      have hu0 : 0 < 10 ^ (m - 1 - i) := Nat.pow_pos (by omega)
      have hu5 : 10 ^ (m - 1 - i) ≤ 10 ^ 5 := Nat.pow_le_pow_right (by omega) (by omega)
      have hrest : o % 10 ^ (m - i) < 10 ^ (m - i) := Nat.mod_lt _ (by rw [u1]; omega)
      have hnext : o % 10 ^ (m - i) / 10 ^ (m - 1 - i) = q_t m o i := by
        unfold q_t
        rw [u1, Nat.mod_mul_right_div_self]
      have hdiv : nI (o % 10 ^ (m - i)) / nI (10 ^ (m - 1 - i)) = nI (q_t m o i) := by
        rw [pk_div (by omega) (by omega) (by omega), hnext]
      have ht10 : q_t m o i < 10 := Nat.mod_lt _ (by omega)
      rw [f_X9_ridden_43, u2, if_neg (nI_nle hu0 (by omega)), if_pos (nI_ne0 hu0 (by omega)), hdiv, if_neg (show ¬ nI (q_t m o i) < 0 from nI_nlt (b := 0) (by omega) (by omega)), hx.1.2.1]
      by_cases hlt : q_t m o i < q_R D
      · rw [if_neg (nI_ge hlt (by omega)), x_isIn (by omega) (by omega), Option.bind_some]
        by_cases hb : wt.testBit (q_t m o i) = true
        · have hok : q_okA D S m o i := ⟨hlt, (hbits _ (by omega)).mp hb⟩
          have hix : ok_ix (nI (q_t m o i)) 6 := q_ix (by omega) (by omega)
          have hcl : (nI (q_t m o i)).toNatClampNeg = q_t m o i := q_cl (by omega)
          have ho := (hx.2.2 _ hlt).1
          have hho := hD.2.2 _ hlt
          have ea : f_X2_apart n I J T (nI (q_ft D (q_t m o) i).1) (nI (q_ho D (q_t m o i))) = some (nI (q_ap D (q_ft D (q_t m o) i).1 (q_ho D (q_t m o i)))) := x_apart hn hD hx hat hho.2.1
          have es : q_ft D (q_t m o) (i + 1) = q_fs D (q_ft D (q_t m o) i) (q_t m o i) := rfl
          have hsub : nI (o % 10 ^ (m - i)) - nI (q_t m o i) * nI (10 ^ (m - 1 - i)) = nI (o % 10 ^ (m - (i + 1))) := by
            have e1 : o % 10 ^ (m - i) = o % 10 ^ (m - 1 - i) + 10 ^ (m - 1 - i) * q_t m o i := by
              rw [u1, Nat.mod_mul]
              rfl
            rw [pk_mul, pk_sub (by rw [e1, Nat.mul_comm]; omega), e1, Nat.mul_comm, Nat.add_sub_cancel, show m - (i + 1) = m - 1 - i by omega]
          have hdiv10 : nI (10 ^ (m - 1 - i)) / 10 = nI (10 ^ (m - (i + 1)) / 10) := by
            rw [show (10 : Int32) = nI 10 from rfl, pk_div (by omega) (by omega) (by omega), u3]
          have step : ∀ ans' : Int32, (∀ j, j < i + 1 → q_t m o j = r → ans' = nI (q_ft D (q_t m o) (j + 1)).2.1) → (∃ v, f_X9_ridden_43 n k I J T (nI r) (nI (10 ^ (m - (i + 1)) / 10)) (nI (wt &&& (63 ^^^ 2 ^ q_t m o i))) (nI (o % 10 ^ (m - (i + 1)))) (nI (q_ho D (q_t m o i))) (nI ((q_ft D (q_t m o) i).2.1 + q_ap D (q_ft D (q_t m o) i).1 (q_ho D (q_t m o i)))) ans' = some v ∧ (∀ j, j < m → q_t m o j = r → v = nI (q_ft D (q_t m o) (j + 1)).2.1) ∧ (∃ j, j < m ∧ q_t m o j = r) ∧ ∀ j, i ≤ j → j < m → q_okA D S m o j) ∨ (f_X9_ridden_43 n k I J T (nI r) (nI (10 ^ (m - (i + 1)) / 10)) (nI (wt &&& (63 ^^^ 2 ^ q_t m o i))) (nI (o % 10 ^ (m - (i + 1)))) (nI (q_ho D (q_t m o i))) (nI ((q_ft D (q_t m o) i).2.1 + q_ap D (q_ft D (q_t m o) i).1 (q_ho D (q_t m o i)))) ans' = some (-1) ∧ ∃ j, j < m ∧ ¬ q_okA D S m o j) := by
            intro ans' ha
            have hbc' : q_bc (wt &&& (63 ^^^ 2 ^ q_t m o i)) + (i + 1) = m := by
              obtain ⟨f, hf⟩ : ∃ f, q_bc wt = f + 1 := ⟨q_bc wt - 1, by omega⟩
              rw [q_bcm hwt (by omega) hb hf]
              omega
            have hbits' : ∀ x, x < 6 → ((wt &&& (63 ^^^ 2 ^ q_t m o i)).testBit x = true ↔ (S.testBit x = true ∧ ∀ j, j < i + 1 → q_t m o j ≠ x)) := by
              intro x hx6
              rw [q_bit_rm (by omega) hx6, Bool.and_eq_true, hbits x hx6, Bool.not_eq_true', decide_eq_false_iff_not]
              constructor
              · rintro ⟨⟨z1, z2⟩, z3⟩
                refine ⟨z1, fun j hj => ?_⟩
                by_cases ej : j = i
                · rw [ej]; exact z3
                · exact z2 j (by omega)
              · rintro ⟨z1, z2⟩
                exact ⟨⟨z1, fun j hj => z2 j (by omega)⟩, z2 i (by omega)⟩
            have g := ih (i + 1) (wt &&& (63 ^^^ 2 ^ q_t m o i)) ans' (by omega) (by omega) (Nat.lt_of_le_of_lt Nat.and_le_left hwt) hbc' hbits' (by rw [es]; exact hho.2.1) ha
            rw [es] at g
            rcases g with ⟨v, g1, g2, g3, g4⟩ | g
            · refine Or.inl ⟨v, g1, g2, g3, fun j a b => ?_⟩
              by_cases ej : j = i
              · rw [ej]; exact hok
              · exact g4 j (by omega) b
            · exact Or.inr g
          unfold f_X9_ridden_121
          rw [if_pos hb, if_neg (by exact q_10)]
          simp only [if_pos hix, hcl, ho, ea, Option.bind_some]
          rw [hdiv10, q_anr hwt (by omega), hsub, nI_add]
          by_cases hr2 : q_t m o i = r
          · rw [if_pos (by rw [hr2])]
            exact step _ (fun j hj he => by
              by_cases ej : j = i
              · rw [ej, es]; rfl
              · exact absurd (he.trans hr2.symm) (hok.2.2 j (by omega)))
          · rw [if_neg (fun z => hr2 ((nI_eq (by omega) (by omega)).mp z))]
            exact step _ (fun j hj he => by
              by_cases ej : j = i
              · rw [ej] at he; exact absurd he hr2
              · exact hans j (by omega) he)
        · rw [if_neg hb, if_pos rfl]
          exact Or.inr ⟨rfl, i, by omega, fun z => hb ((hbits _ (by omega)).mpr z.2)⟩
      · rw [if_pos (nI_le (by omega) (by omega))]
        exact Or.inr ⟨rfl, i, by omega, fun z => hlt z.1⟩
end QW
