/-! ===== ride: the call ===== -/
section QS
variable {V : (Nat → Int32) → Int32 → Nat → (Nat → Nat) → Prop} {n B : Nat} {I I2 : Nat → Nat → Int32} {J J2 : Nat → Nat → Int64} {T : Nat} {s : q_Sg}
theorem x_ride_big (hn : 300 ≤ n) {D : q_Rd} (hR : q_R D ≤ 6) (hx : q_RX I D) {m o : Nat} (hm0 : 0 < m) (hm : m ≤ 6) (h1 : 10 ^ m ≤ o) (h2 : o < 2 ^ 31) (r wt a g ans : Int32) : f_X9_ridden_43 n n I J T r (nI (10 ^ (m - 0) / 10)) wt (nI o) a g ans = some (-1) := by
  obtain ⟨k, hk⟩ : ∃ k, n = k + 1 := ⟨n - 1, by omega⟩
  obtain ⟨u1, u2, u3⟩ := q_u10 (m := m) (i := 0) (by omega)
  have hu0 : 0 < 10 ^ (m - 1 - 0) := Nat.pow_pos (by omega)
  have hu5 : 10 ^ (m - 1 - 0) ≤ 10 ^ 5 := Nat.pow_le_pow_right (by omega) (by omega)
  have e1 : f_X9_ridden_43 n n I J T r (nI (10 ^ (m - 0) / 10)) wt (nI o) a g ans = f_X9_ridden_43 n (k + 1) I J T r (nI (10 ^ (m - 0) / 10)) wt (nI o) a g ans := by rw [← hk]
  have hle := Nat.div_le_self o (10 ^ (m - 1 - 0))
  have h10 : 10 ≤ o / 10 ^ (m - 1 - 0) := by
    rw [Nat.le_div_iff_mul_le hu0, Nat.mul_comm, ← u1]
    exact h1
  rw [e1, f_X9_ridden_43, u2, if_neg (nI_nle hu0 (by omega)), if_pos (nI_ne0 hu0 (by omega)), pk_div h2 hu0 (by omega), if_neg (show ¬ nI (o / 10 ^ (m - 1 - 0)) < 0 from nI_nlt (b := 0) (by omega) (by omega)), hx.1.2.1, if_pos (nI_le (by omega) (by omega))]
theorem i_ride (hn : 300 ≤ n) (hs : q_sok B s) (hX : q_HX V I J s) (hM : q_HM I2 J2 s) (x1 x2 x3 : Int32) : ∃ r I2', f_X11_ride n I J T x1 x2 x3 = some r ∧ f_X12_ride n I2 J2 T x1 x2 x3 = some (r, I2') ∧ q_HM I2' J2 s ∧ q_fM I2 I2' J2 J2 := by
  have hD := hs.1.1
  have hR := hD.1.2.1
  have hM0 := (hM.th 0).1
  unfold f_X11_ride f_X12_ride
  rcases g_set (n := n) (J := J) (J2 := J2) (T := T) hs.1 hX.1 hM0 x1 with ⟨S, h1, h2, h3, h4, h5, h6⟩ | ⟨h5, h6, h7⟩
  · rw [h5, h6, Option.bind_some, Option.bind_some, if_neg q_10, h4]
    rcases g_rider (n := n) (J := J) (J2 := J2) (T := T) (by omega) hX.1.1.2.1 hM0.1.2.1 x3 with ⟨r, r1, r2, r3, r4⟩ | ⟨r3, r4⟩
    · rw [r3, r4, Option.bind_some, if_neg q_10, r2, x_isIn (by omega) (by omega), Option.bind_some]
      by_cases hb : S.testBit r = true
      · have hS0 : ¬ S = 0 := fun z => by rw [z, Nat.zero_testBit] at hb; cases hb
        have hbs := q_bcx_eq S (by omega)
        have hm0 := hbs.2.2 (by omega)
        have hm6 := hbs.2.1
        rw [if_pos hb, if_neg q_10, if_neg hS0, if_neg q_10, Option.bind_some, if_neg q_10, m_has (by omega) (by omega), if_pos hb, Option.bind_some, if_neg q_10, j_bitCount (by omega), Option.bind_some]
        have hun := x_unit (n := n) (J := J) (T := T) (I := I) (S := S) (by omega) x2 (nI r) n 1 (Nat.le_refl _) hm0 (by omega)
        have hun' : f_X9_ridden n I J T (nI S) x2 (nI r) = f_X9_ridden_43 n n I J T (nI r) (nI (10 ^ (q_bc S - 0) / 10)) (nI S) x2 0 0 (-1) := hun
        rw [hun']
        by_cases hx2 : 0 ≤ x2
        · obtain ⟨o, ho, hxo⟩ := q_nn hx2
          subst hxo
          rw [if_pos hx2]
          obtain ⟨I4, hI4⟩ : ∃ z, z = am_u (am_u I2 53 0 0) 53 36 (nI (q_bc S)) := ⟨_, rfl⟩
          have hI4f : ∀ a c, ¬ (a = 53 ∧ (c = 0 ∨ c = 36)) → I4 a c = I2 a c := fun a c h => by
            rw [hI4]
            unfold am_u
            rw [if_neg (by omega), if_neg (by omega)]
          have hM4 : q_HM I4 J2 s := hM.of (fun c h => hI4f 53 c (by omega)) (fun a c h => hI4f a c (by omega)) (fun _ _ _ => rfl)
          obtain ⟨v, I5, g1, g2, g3⟩ := m_ride57 (n := n) (J := J2) (T := T) hn hD (S := S) (m := q_bc S) (o := o) (r := r) hm6 ho r1 n (q_bc S) S I4 (Nat.le_refl _) (by omega) (by omega) (fun x _ => ⟨fun z => ⟨z, fun j a b => by omega⟩, fun z => z.1⟩) hM4.1 (by rw [hI4]; simp [am_u]) (fun j a b => by omega) (fun j a b => by omega)
          rw [Nat.sub_self, Nat.pow_zero, Nat.div_one] at g1
          have hm1 : nI (q_bc S) - 1 = nI (q_bc S) + (-1) := by
            obtain ⟨c, hc⟩ : ∃ c, q_bc S = c + 1 := ⟨q_bc S - 1, by omega⟩
            rw [hc, pk_m1, show (1 : Int32) = nI 1 from rfl, pk_sub (by omega), Nat.add_sub_cancel]
          have hM' : q_HM I5 J2 s := hM4.of (fun c h => g2 53 c (by omega) (by omega)) (fun a c h => g2 a c (by omega) (by omega)) (fun _ _ _ => rfl)
          have hfM : q_fM I2 I5 J2 J2 := ⟨fun a c h => by rw [g2 a c (by omega) (by omega)]; exact hI4f a c (by omega), fun _ _ _ => rfl⟩
          rw [hm1, ← hI4, g1]
          have hAB : (∀ j, j < q_bc S → q_okA (q_sD s) S (q_bc S) o j) ↔ ∀ j, j < q_bc S → q_okB (q_sD s) S (q_bc S) o j := by
            constructor
            · intro h j hj
              exact ⟨(h j hj).1, (h j hj).2.1, fun l a b e => (h l b).2.2 j a e.symm⟩
            · intro h j hj
              exact ⟨(h j hj).1, (h j hj).2.1, fun l a e => (h l (by omega)).2.2 j a hj e.symm⟩
          by_cases hbig : 10 ^ q_bc S ≤ o
          · have hv : v = -1 := by
              rcases g3 with g3 | g3
              · exact g3.1
              · exact absurd g3.1 (by omega)
            rw [x_ride_big hn hR hX.1 hm0 hm6 hbig ho, Option.bind_some, hv]
            exact ⟨-1, I5, rfl, rfl, hM', hfM⟩
          · have hmod : o % 10 ^ (q_bc S - 0) = o := Nat.mod_eq_of_lt (by rw [Nat.sub_zero]; omega)
            have hc := x_ride43 (n := n) (J := J) (T := T) hn hD hX.1 (S := S) (m := q_bc S) (o := o) (r := r) hm6 (by omega) r1 hb n 0 S (-1) (Nat.zero_le _) (by omega) (by omega) rfl (fun x _ => ⟨fun z => ⟨z, fun j a => by omega⟩, fun z => z.1⟩) (Nat.zero_le _) (fun j a => by omega)
            rw [hmod] at hc
            rcases hc with ⟨v', c1, c2, ⟨j, j1, j2⟩, c4⟩ | ⟨c1, j, j1, j2⟩
            · have c1' : f_X9_ridden_43 n n I J T (nI r) (nI (10 ^ (q_bc S - 0) / 10)) (nI S) (nI o) 0 0 (-1) = some v' := c1
              have hall := hAB.mp (fun j hj => c4 j (Nat.zero_le _) hj)
              rcases g3 with ⟨-, g3 | ⟨l, l1, l2⟩⟩ | ⟨g3, g4, g5⟩
              · exact absurd g3 hbig
              · exact absurd (hall l l1) l2
              · rw [c1', Option.bind_some, c2 j j1 j2, g5 j j1 j2]
                exact ⟨_, I5, rfl, rfl, hM', hfM⟩
            · have c1' : f_X9_ridden_43 n n I J T (nI r) (nI (10 ^ (q_bc S - 0) / 10)) (nI S) (nI o) 0 0 (-1) = some (-1) := c1
              have hv : v = -1 := by
                rcases g3 with g3 | g3
                · exact g3.1
                · exact absurd (hAB.mpr g3.2.1 j j1) j2
              rw [c1', Option.bind_some, hv]
              exact ⟨-1, I5, rfl, rfl, hM', hfM⟩
        · rw [if_neg hx2]
          have hz : x2 < 0 := Int32.not_le.mp hx2
          have hc := x_ride_neg (n := n) (J := J) (T := T) hn hD (by omega) hX.1 (m := q_bc S) hm6 hz (nI r) (-1) n 0 S 0 0 (by omega) (by omega) (by omega) (Nat.zero_le _)
          have hc' : f_X9_ridden_43 n n I J T (nI r) (nI (10 ^ (q_bc S - 0) / 10)) (nI S) x2 0 0 (-1) = some (-1) := by
            rcases hc with hc | ⟨a, hc, ha⟩
            · exact hc
            · rw [← ha]; exact hc
          rw [hc', Option.bind_some]
          exact ⟨-1, _, rfl, rfl, hM.th _, q_fM.th _ _ _⟩
      · rw [if_neg hb, if_pos rfl]
        by_cases hS0 : S = 0
        · rw [if_pos hS0, if_pos rfl]
          exact ⟨-1, _, rfl, rfl, hM.th _, q_fM.th _ _ _⟩
        · rw [if_neg hS0, if_neg q_10, Option.bind_some, if_neg q_10, m_has (by omega) (by omega), if_neg hb, Option.bind_some, if_pos rfl]
          exact ⟨-1, _, rfl, rfl, hM.th _, q_fM.th _ _ _⟩
    · rw [r3, r4, Option.bind_some, if_pos rfl]
      by_cases hS0 : S = 0
      · rw [if_pos hS0, if_pos rfl]
        exact ⟨-1, _, rfl, rfl, hM.th _, q_fM.th _ _ _⟩
      · rw [if_neg hS0, if_neg q_10, Option.bind_some, if_pos rfl]
        exact ⟨-1, _, rfl, rfl, hM.th _, q_fM.th _ _ _⟩
  · rw [h5, h6, Option.bind_some, Option.bind_some, if_pos rfl, if_pos rfl]
    exact ⟨-1, _, rfl, rfl, hM.th _, q_fM.th _ _ _⟩
end QS
