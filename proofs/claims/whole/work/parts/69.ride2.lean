/-! ===== ride: the reference, and the call ===== -/
theorem q_negdiv {z : Int32} (hz : z < 0) {u : Nat} (h0 : 0 < u) (hu : u < 2 ^ 31) : z / nI u < 0 ∨ (z / nI u = 0 ∧ u ≠ 1) := by
  have h1 : z.toInt < 0 := Int32.lt_iff_toInt_lt.mp hz
  have h2 := Int32.le_toInt z
  obtain ⟨a, ha⟩ : ∃ a : Nat, z.toInt = -(a : Int) := ⟨z.toInt.natAbs, by omega⟩
  obtain ⟨q, hq⟩ : ∃ q, q = a / u := ⟨_, rfl⟩
  have hle : q ≤ a := by rw [hq]; exact Nat.div_le_self a u
  have e : (z / nI u).toInt = -(q : Int) := by
    rw [Int32.toInt_div, nI_toInt hu, ha, Int.neg_tdiv, ← Int.ofNat_tdiv, ← hq]
    apply Int.bmod_eq_of_le <;> omega
  by_cases hq0 : q = 0
  · right
    refine ⟨Int32.toInt_inj.mp (by rw [e, hq0]; rfl), fun z1 => ?_⟩
    subst z1
    rw [Nat.div_one] at hq
    omega
  · left
    apply Int32.lt_iff_toInt_lt.mpr
    rw [e]
    show _ < (0 : Int)
    omega
section QW
variable {n : Nat} {D : q_Rd} {J : Nat → Nat → Int64} {T : Nat}
theorem x_unit {I : Nat → Nat → Int32} {S : Nat} (hS : S < 64) (x2 x3 : Int32) : ∀ (k c : Nat), 1 ≤ c → c ≤ q_bc S → q_bc S - c < k → f_X9_ridden_6 n k I J T (nI S) x2 x3 (nI (10 ^ (c - 1))) (nI c) = f_X9_ridden_43 n n I J T x3 (nI (10 ^ (q_bc S - 0) / 10)) (nI S) x2 0 0 (-1) := by
  have hb := (q_bcx_eq S hS).2.1
  intro k
  induction k with
  | zero => intro c _ _ h; omega
  | succ k ih =>
    intro c c1 c2 h
    rw [f_X9_ridden_6, j_bitCount hS, Option.bind_some]
    by_cases e : c = q_bc S
    · rw [if_pos (by rw [e]; exact Int32.le_refl _), (q_u10 (m := q_bc S) (i := 0) (by omega)).2.1, e]
      rfl
    · have e10 : nI (10 ^ (c - 1)) * 10 = nI (10 ^ (c + 1 - 1)) := by
        rw [show (10 : Int32) = nI 10 from rfl, pk_mul, ← Nat.pow_succ]
        congr 2
        omega
      rw [if_neg (nI_ge (by omega) (by omega)), e10, nI_1]
      exact ih (c + 1) (by omega) (by omega) (by omega)
theorem x_ride_neg (hn : 300 ≤ n) (hD : q_ok D) (hR0 : 0 < q_R D) {I : Nat → Nat → Int32} (hx : q_RX I D) {m : Nat} (hm : m ≤ 6) {z : Int32} (hz : z < 0) (r ans : Int32) : ∀ (k i wt at' : Nat) (g : Int32), i < m → m - i < k → wt < 64 → at' ≤ q_W D → f_X9_ridden_43 n k I J T r (nI (10 ^ (m - i) / 10)) (nI wt) z (nI at') g ans = some (-1) ∨ ∃ a, f_X9_ridden_43 n k I J T r (nI (10 ^ (m - i) / 10)) (nI wt) z (nI at') g ans = a ∧ a = some (-1) := by
  intro k i wt at' g a b c d
  left
  have hR := hD.1.2.1
  induction k generalizing i wt at' g ans with
  | zero => omega
  | succ k ih =>
    obtain ⟨u1, u2, u3⟩ := q_u10 (m := m) (i := i) a
    have hu0 : 0 < 10 ^ (m - 1 - i) := Nat.pow_pos (by omega)
    have hu5 : 10 ^ (m - 1 - i) ≤ 10 ^ 5 := Nat.pow_le_pow_right (by omega) (by omega)
    rw [f_X9_ridden_43, u2, if_neg (nI_nle hu0 (by omega)), if_pos (nI_ne0 hu0 (by omega))]
    rcases q_negdiv hz hu0 (by omega) with h | ⟨h, h1⟩
    · rw [if_pos h]
    · have hi : i + 1 < m := by
        apply Classical.byContradiction
        intro hc
        exact h1 (by rw [show m - 1 - i = 0 by omega])
      rw [h, if_neg (show ¬ (0 : Int32) < 0 by decide), hx.1.2.1, if_neg (show ¬ nI (q_R D) ≤ 0 from nI_nle hR0 (by omega)), show f_X11_isIn n I J T 0 (nI wt) = some (if wt.testBit 0 then 1 else 0) from x_isIn (r := 0) (by omega) (by omega), Option.bind_some]
      by_cases hb : wt.testBit 0 = true
      · have hix : ok_ix (0 : Int32) 6 := by decide +kernel
        have hcl : (0 : Int32).toNatClampNeg = 0 := by decide +kernel
        have ho := (hx.2.2 0 hR0).1
        have hho := hD.2.2 0 hR0
        have ea : f_X2_apart n I J T (nI at') (nI (q_ho D 0)) = some (nI (q_ap D at' (q_ho D 0))) := x_apart hn hD hx d hho.2.1
        have hdiv10 : nI (10 ^ (m - 1 - i)) / 10 = nI (10 ^ (m - (i + 1)) / 10) := by
          rw [show (10 : Int32) = nI 10 from rfl, pk_div (by omega) (by omega) (by omega), u3]
        have hrm : nI wt &&& ((1 <<< ((0 : Int32) &&& 31)) ^^^ (-1)) = nI (wt &&& (63 ^^^ 2 ^ 0)) := q_anr (r := 0) c (by omega)
        have hz0 : z - 0 * nI (10 ^ (m - 1 - i)) = z := by rw [Int32.zero_mul, Int32.sub_zero]
        unfold f_X9_ridden_121
        rw [if_pos hb, if_neg (by exact q_10)]
        simp only [if_pos hix, hcl, ho, ea, Option.bind_some]
        rw [hdiv10, hrm, hz0]
        by_cases hr : 0 = r
        · rw [if_pos hr]
          exact ih _ (i + 1) _ _ _ hi (by omega) (Nat.lt_of_le_of_lt Nat.and_le_left c) hho.2.1
        · rw [if_neg hr]
          exact ih _ (i + 1) _ _ _ hi (by omega) (Nat.lt_of_le_of_lt Nat.and_le_left c) hho.2.1
      · rw [if_neg hb, if_pos rfl]
theorem m_isRider {I : Nat → Nat → Int32} (hR : q_R D ≤ 6) (h : q_RM I D) {d : Nat} (hd : d < 2 ^ 31) : f_X12_isRider n I J T (nI d) = some (if d < q_R D then 1 else 0) := by
  unfold f_X12_isRider
  rw [if_neg (show ¬ nI d < 0 from nI_nlt (b := 0) (by omega) (by omega)), h.1.2.1]
  by_cases e : d < q_R D
  · rw [if_neg (nI_ge (by omega) (by omega)), if_pos e]
  · rw [if_pos (nI_le (by omega) (by omega)), if_neg e]
def q_okB (D : q_Rd) (S m o j : Nat) : Prop := q_t m o j < q_R D ∧ S.testBit (q_t m o j) = true ∧ ∀ l, j < l → l < m → q_t m o l ≠ q_t m o j
theorem m_ride57 (hn : 300 ≤ n) (hD : q_ok D) {S m o r : Nat} (hm : m ≤ 6) (ho : o < 2 ^ 31) (hr : r < q_R D) : ∀ (k c left : Nat) (I : Nat → Nat → Int32), c ≤ m → c < k → left < 64 → (∀ x, x < 6 → (left.testBit x = true ↔ (S.testBit x = true ∧ ∀ j, c ≤ j → j < m → q_t m o j ≠ x))) → q_RM I D → I 53 36 = nI m → (∀ j, c ≤ j → j < m → I 67 j = nI (q_t m o j)) → (∀ j, c ≤ j → j < m → q_okB D S m o j) → ∃ v I', f_X12_ride_57 n k I J T (nI r) (nI (o / 10 ^ (m - c))) (nI left) (nI c + (-1)) = some (v, I') ∧ (∀ a c, a ≠ 67 → a ≠ 68 → I' a c = I a c) ∧ ((v = -1 ∧ (10 ^ m ≤ o ∨ ∃ j, j < m ∧ ¬ q_okB D S m o j)) ∨ (o < 10 ^ m ∧ (∀ j, j < m → q_okB D S m o j) ∧ ∀ j, j < m → q_t m o j = r → v = nI (q_ft D (q_t m o) (j + 1)).2.1)) := by
  have hR := hD.1.2.1
  intro k
  induction k with
  | zero => intro c left I _ h; omega
  | succ k ih =>
    intro c left I hc hk hl hbits hx h36 h67 hok
    rw [f_X12_ride_57]
    cases c with
    | zero =>
      rw [if_pos (show nI 0 + (-1) < 0 by decide +kernel), Nat.sub_zero]
      have hp : 0 < 10 ^ m := Nat.pow_pos (by omega)
      by_cases hv : o < 10 ^ m
      · have h0 : o / 10 ^ m = 0 := Nat.div_eq_of_lt hv
        obtain ⟨I', e1, e2, e3⟩ := m_ride (n := n) (J := J) (T := T) hn hD hm (t := q_t m o) (fun j hj => (hok j (Nat.zero_le _) hj).1) 0 hx h36 (fun j hj => h67 j (Nat.zero_le _) hj)
        have hix : ok_ix (nI r) 6 := q_ix (by omega) (by omega)
        have hcl : (nI r).toNatClampNeg = r := q_cl (by omega)
        rw [h0, if_pos nI_0, e1, Option.bind_some, if_pos hix, hcl]
        exact ⟨I' 68 r, I', rfl, fun a c _ h => e2 a c h, Or.inr ⟨hv, fun j hj => hok j (Nat.zero_le _) hj, fun j hj he => by rw [← he]; exact e3 j hj (hok j (Nat.zero_le _) hj).2.2⟩⟩
      · have h0 : 0 < o / 10 ^ m := Nat.div_pos (by omega) hp
        have h1 := Nat.div_le_self o (10 ^ m)
        rw [if_neg (nI_ne0 h0 (by omega))]
        exact ⟨_, I, rfl, fun _ _ _ _ => rfl, Or.inl ⟨rfl, Or.inl (by omega)⟩⟩
    | succ c =>
      have hix : ok_ix (nI c) 6 := q_ix (by omega) (by omega)
      have hcl : (nI c).toNatClampNeg = c := q_cl (by omega)
      have hle := Nat.div_le_self o (10 ^ (m - (c + 1)))
      have ht : o / 10 ^ (m - (c + 1)) % 10 = q_t m o c := by
        unfold q_t
        rw [show m - 1 - c = m - (c + 1) by omega]
      have ht10 : q_t m o c < 10 := Nat.mod_lt _ (by omega)
      have hrem : nI (o / 10 ^ (m - (c + 1))) - nI (o / 10 ^ (m - (c + 1))) / 10 * 10 = nI (q_t m o c) := by
        rw [show (10 : Int32) = nI 10 from rfl, pk_rem (by omega) (by omega) (by omega), ht]
      have hdiv : nI (o / 10 ^ (m - (c + 1))) / 10 = nI (o / 10 ^ (m - c)) := by
        rw [show (10 : Int32) = nI 10 from rfl, pk_div (by omega) (by omega) (by omega), Nat.div_div_eq_div_mul, ← Nat.pow_succ, show (m - (c + 1)).succ = m - c by omega]
      obtain ⟨I1, hI1⟩ : ∃ z, z = am_u I 67 c (nI (q_t m o c)) := ⟨_, rfl⟩
      have hI1f : ∀ a y, ¬ (a = 67 ∧ y = c) → I1 a y = I a y := fun a y h => by
        rw [hI1]
        unfold am_u
        rw [if_neg h]
      have hx1 : q_RM I1 D := hx.of (hI1f 53 26 (by omega)) (hI1f 53 27 (by omega)) (fun a c h => hI1f a c (by omega))
      rw [pk_m1, if_neg (show ¬ nI c < 0 from nI_nlt (b := 0) (by omega) (by omega))]
      simp only [if_pos hix, hrem, hcl]
      rw [← hI1, m_isRider hR hx1 (by omega), Option.bind_some]
      by_cases hlt : q_t m o c < q_R D
      · rw [if_pos hlt, if_neg (by exact q_10), m_has (by omega) (by omega), Option.bind_some]
        by_cases hb : left.testBit (q_t m o c) = true
        · have hb2 := (hbits _ (by omega)).mp hb
          have hokc : q_okB D S m o c := ⟨hlt, hb2.1, fun l a b => hb2.2 l (by omega) b⟩
          rw [if_pos hb, if_neg (by exact q_10), hdiv, q_anr hl (by omega)]
          obtain ⟨v, I', f1, f2, f3⟩ := ih c (left &&& (63 ^^^ 2 ^ q_t m o c)) I1 (by omega) (by omega) (Nat.lt_of_le_of_lt Nat.and_le_left hl) (by
            intro x hx6
            rw [q_bit_rm (by omega) hx6, Bool.and_eq_true, hbits x hx6, Bool.not_eq_true', decide_eq_false_iff_not]
            constructor
            · rintro ⟨⟨z1, z2⟩, z3⟩
              refine ⟨z1, fun j a b => ?_⟩
              by_cases ej : j = c
              · rw [ej]; exact z3
              · exact z2 j (by omega) b
            · rintro ⟨z1, z2⟩
              exact ⟨⟨z1, fun j a b => z2 j (by omega) b⟩, z2 c (Nat.le_refl _) (by omega)⟩) hx1 (by rw [hI1f 53 36 (by omega)]; exact h36) (fun j a b => by
              by_cases ej : j = c
              · rw [hI1, ej]; simp [am_u]
              · rw [hI1f 67 j (by omega)]; exact h67 j (by omega) b) (fun j a b => by
              by_cases ej : j = c
              · rw [ej]; exact hokc
              · exact hok j (by omega) b)
          exact ⟨v, I', f1, fun a y a1 a2 => by rw [f2 a y a1 a2]; exact hI1f a y (by omega), f3⟩
        · rw [if_neg hb, if_pos rfl]
          exact ⟨_, I1, rfl, fun a y a1 a2 => hI1f a y (by omega), Or.inl ⟨rfl, Or.inr ⟨c, by omega, fun z => hb ((hbits _ (by omega)).mpr ⟨z.2.1, fun j a b => z.2.2 j (by omega) b⟩)⟩⟩⟩
      · rw [if_neg hlt, if_pos rfl]
        exact ⟨_, I1, rfl, fun a y a1 a2 => hI1f a y (by omega), Or.inl ⟨rfl, Or.inr ⟨c, by omega, fun z => hlt z.1⟩⟩⟩
end QW
