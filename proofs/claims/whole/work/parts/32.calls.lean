/-! ===== calls that only ask, both sides at once ===== -/
theorem q_shl6 : ∀ r, r < 6 → (1 : Int32) <<< (nI r &&& 31) = nI (2 ^ r) ∧ 2 ^ r < 64 := by decide +kernel
section QT
variable {V : (Nat → Int32) → Int32 → Nat → (Nat → Nat) → Prop} {n B : Nat} {I I2 : Nat → Nat → Int32} {J J2 : Nat → Nat → Int64} {T : Nat} {s : q_Sg}
theorem i_paid (hs : q_sok B s) (hX : q_HX V I J s) (hM : q_HM I2 J2 s) (x : Int32) : ∃ r, f_X11_paid n I J T x = some r ∧ f_X12_paid n I2 J2 T x = some (r, am_u I2 53 0 0) := by
  have hR := hs.1.1.1.2.1
  unfold f_X11_paid f_X12_paid
  rcases g_rider (n := n) (J := J) (J2 := J2) (T := T) (by omega) hX.1.1.2.1 (hM.th 0).1.1.2.1 x with ⟨r, r1, r2, r3, r4⟩ | ⟨r3, r4⟩
  · have hcl : x.toNatClampNeg = r := by rw [r2]; exact q_cl (by omega)
    have hix : ok_ix x 6 := by rw [r2]; exact q_ix (by omega) (by omega)
    rw [r3, r4, Option.bind_some, Option.bind_some, if_neg q_10, if_neg q_10]
    simp only [if_pos hix, hcl]
    rw [hX.2.2.2.2.2.1.2.2.1 r r1, hM.2.2.2.2.2.1.2.2.1 r r1]
    exact ⟨_, rfl, rfl⟩
  · rw [r3, r4, Option.bind_some, Option.bind_some, if_pos rfl, if_pos rfl]
    exact ⟨_, rfl, rfl⟩
theorem i_way (hs : q_sok B s) (hX : q_HX V I J s) (hM : q_HM I2 J2 s) (x y : Int32) : ∃ r, f_X11_way n I J T x y = some r ∧ f_X12_way n I2 J2 T x y = some (r, am_u I2 53 0 0) := by
  have hW := hs.1.1.1.1
  have hR := hs.1.1.1.2.1
  have hM0 := (hM.th 0).1.1
  unfold f_X11_way f_X12_way
  rcases g_home (n := n) (J := J) (J2 := J2) (T := T) (by omega) (by omega) hs.1.2.1 hX.1.1.1 hM0.1 hM0.2.1 x with ⟨p, p1, p2, p3, p4, p5, p6⟩ | ⟨p5, p6⟩
  · rw [p5, p6, Option.bind_some, Option.bind_some, if_neg q_10, if_neg q_10, if_neg p4]
    rcases g_on y 0 1 (A := 0) (B := 1) (A' := 0) (B' := 1) rfl rfl rfl rfl (by omega) (by omega) with ⟨k, h1, h2, h3, h4, h5⟩ | ⟨h4, h5⟩
    · have hcl : x.toNatClampNeg = p := by rw [p3]; exact q_cl (by omega)
      have hix : ok_ix x 10 := by rw [p3]; exact q_ix (by omega) (by omega)
      rw [h4, h5, Option.bind_some, Option.bind_some, if_neg q_10, if_neg q_10]
      simp only [if_pos hix, hcl]
      rw [(hX.1.2.1 p p1 p2).1, (hX.1.2.1 p p1 p2).2, (hM.1.2.1 p p1 p2).1, (hM.1.2.1 p p1 p2).2]
      by_cases hy : y = 0
      · rw [if_pos hy, if_pos hy]
        exact ⟨_, rfl, rfl⟩
      · rw [if_neg hy, if_neg hy]
        exact ⟨_, rfl, rfl⟩
    · rw [h4, h5, Option.bind_some, Option.bind_some, if_pos rfl, if_pos rfl]
      exact ⟨_, rfl, rfl⟩
  · rw [p5, Option.bind_some, if_pos rfl]
    rcases p6 with p6 | ⟨p6, p7⟩
    · rw [p6, Option.bind_some, if_pos rfl]
      exact ⟨_, rfl, rfl⟩
    · rw [p6, Option.bind_some, if_neg q_10, if_pos p7]
      exact ⟨_, rfl, rfl⟩
/-- the class throws just where the reference says so -/
theorem i_rider (hn : 300 ≤ n) (hs : q_sok B s) (hX : q_HX V I J s) (hM : q_HM I2 J2 s) (x y : Int32) : (∃ r, f_X11_rider n I J T x y = some r ∧ f_X12_rider n I2 J2 T x y = some (r, am_u I2 53 0 0)) ∨ ((f_X11_isRider n I J T x = some 0 ∨ (f_X11_isRider n I J T x = some 1 ∧ f_X11_isWithin n I J T y 0 4 = some 0)) ∧ f_X12_rider n I2 J2 T x y = some (0, am_u I2 53 0 1)) := by
  have hW := hs.1.1.1.1
  have hR := hs.1.1.1.2.1
  have hD := hs.1.1
  have hv : ∀ v : Int32, q_RM (am_u I2 53 0 v) (q_sD s) := fun v => (hM.th v).1
  unfold f_X12_rider
  rcases g_rider (n := n) (J := J) (J2 := J2) (T := T) (by omega) hX.1.1.2.1 hM.1.1.2.1 x with ⟨r, r1, r2, r3, r4⟩ | ⟨r3, r4⟩
  · rw [r3, r4, Option.bind_some, if_neg q_10]
    rcases g_on y 0 4 (A := 0) (B := 4) (A' := 0) (B' := 4) rfl rfl rfl rfl (by omega) (by omega) with ⟨k, h1, h2, h3, h4, h5⟩ | ⟨h4, h5⟩
    · rw [h5, Option.bind_some, if_neg q_10]
      left
      unfold f_X11_rider
      rw [r3, h4, Option.bind_some, if_neg q_10, Option.bind_some, if_neg q_10]
      unfold f_X12_rider_26
      rw [if_pos (Int32.le_refl _)]
      have hcl : x.toNatClampNeg = r := by rw [r2]; exact q_cl (by omega)
      have hix : ok_ix x 6 := by rw [r2]; exact q_ix (by omega) (by omega)
      obtain ⟨w1, w2⟩ := q_shl6 r (by omega)
      have hsh : (1 : Int32) <<< (x &&& 31) = nI (2 ^ r) := by rw [r2]; exact w1
      have hx3 : (3 : Int32) * x = nI (3 * r) := by rw [r2]; exact pk_mul 3 r
      obtain ⟨c1, c2, c3⟩ := hX.1.2.2 r r1
      obtain ⟨d1, d2, d3⟩ := (hv 0).2.2 r r1
      have hk : k = 0 ∨ k = 1 ∨ k = 2 ∨ k = 3 ∨ k = 4 := by omega
      rcases hk with rfl | rfl | rfl | rfl | rfl <;> subst h3
      · have e1 : ¬ (3 : Int32) ≤ nI 0 := by decide +kernel
        have e2 : nI (3 * r) + nI 0 = nI (3 * r) := nI_add _ 0
        rw [if_pos nI_0, if_neg e1, hx3, e2, if_pos (q_ix (by omega) (by omega)), q_cl (by omega)]
        simp only [if_pos hix, hcl]
        rw [c1]
        exact ⟨_, rfl, congrArg (fun z => some (z, am_u I2 53 0 0)) d1⟩
      · have e1 : ¬ (3 : Int32) ≤ nI 1 := by decide +kernel
        have e2 : nI (3 * r) + nI 1 = nI (3 * r + 1) := nI_add _ 1
        rw [if_neg (show ¬ nI 1 = 0 by decide +kernel), if_pos (show nI 1 = 1 by decide +kernel), if_neg e1, hx3, e2, if_pos (q_ix (by omega) (by omega)), q_cl (by omega)]
        simp only [if_pos hix, hcl]
        rw [c2]
        exact ⟨_, rfl, congrArg (fun z => some (z, am_u I2 53 0 0)) d2⟩
      · have e1 : ¬ (3 : Int32) ≤ nI 2 := by decide +kernel
        have e2 : nI (3 * r) + nI 2 = nI (3 * r + 2) := nI_add _ 2
        rw [if_neg (show ¬ nI 2 = 0 by decide +kernel), if_neg (show ¬ nI 2 = 1 by decide +kernel), if_pos (show nI 2 = 2 by decide +kernel), if_neg e1, hx3, e2, if_pos (q_ix (by omega) (by omega)), q_cl (by omega)]
        simp only [if_pos hix, hcl]
        rw [c3]
        exact ⟨_, rfl, congrArg (fun z => some (z, am_u I2 53 0 0)) d3⟩
      · rw [if_neg (show ¬ nI 3 = 0 by decide +kernel), if_neg (show ¬ nI 3 = 1 by decide +kernel), if_neg (show ¬ nI 3 = 2 by decide +kernel), if_pos (show nI 3 = 3 by decide +kernel), if_pos (show (3 : Int32) ≤ nI 3 by decide +kernel), if_pos (show nI 3 = 3 by decide +kernel), hsh, x_milesFor hn hD hX.1 (by omega), m_milesOf hn hD (hv 0) (by omega)]
        exact ⟨_, rfl, rfl⟩
      · rw [if_neg (show ¬ nI 4 = 0 by decide +kernel), if_neg (show ¬ nI 4 = 1 by decide +kernel), if_neg (show ¬ nI 4 = 2 by decide +kernel), if_neg (show ¬ nI 4 = 3 by decide +kernel), if_pos (show (3 : Int32) ≤ nI 4 by decide +kernel), if_neg (show ¬ nI 4 = 3 by decide +kernel), hsh, x_costFor hn hD hX.1 (by omega), m_costOf hn hD (hv 0) (by omega)]
        exact ⟨_, rfl, rfl⟩
    · rw [h5, Option.bind_some, if_pos rfl]
      exact Or.inr ⟨Or.inr ⟨rfl, h4 n I J T⟩, rfl⟩
  · rw [r4, Option.bind_some, if_pos rfl]
    exact Or.inr ⟨Or.inl r3, rfl⟩
theorem i_between (hn : 300 ≤ n) (hs : q_sok B s) (hX : q_HX V I J s) (hM : q_HM I2 J2 s) (x y : Int32) : ∃ r, f_X11_between n I J T x y = some r ∧ f_X12_between n I2 J2 T x y = some (r, am_u I2 53 0 0) := by
  have hW := hs.1.1.1.1
  have hR := hs.1.1.1.2.1
  have hD := hs.1.1
  have hM0 := (hM.th 0).1
  have g : ∀ z : Int32, (∃ p, p ≤ q_W (q_sD s) ∧ z = nI p ∧ f_X11_isPlace n I J T z = some 1 ∧ f_X12_isPlace n (am_u I2 53 0 0) J2 T z = some 1) ∨ (f_X11_isPlace n I J T z = some 0 ∧ f_X12_isPlace n (am_u I2 53 0 0) J2 T z = some 0) := by
    intro z
    rcases g_home (n := n) (J := J) (J2 := J2) (T := T) (by omega) (by omega) hs.1.2.1 hX.1.1.1 hM0.1.1 hM0.1.2.1 z with ⟨p, p1, p2, p3, p4, p5, p6⟩ | ⟨p5, p6⟩
    · refine Or.inl ⟨p, p2, p3, ?_, p6⟩
      unfold f_X11_isPlace
      rw [if_neg p4, p5, Option.bind_some, if_pos (Or.inr rfl)]
    · by_cases hz : z = 0
      · subst hz
        unfold f_X11_isPlace f_X11_isRoadless f_X12_isPlace
        rw [if_pos rfl, hX.1.1.1, hM0.1.2.1, hM0.1.1]
        by_cases hR0 : q_R (q_sD s) = 0
        · rw [hs.1.2.1.mp hR0, hR0, if_pos nI_0, Option.bind_some, if_neg q_10, if_pos (by decide +kernel)]
          exact Or.inr ⟨rfl, rfl⟩
        · have hW0 : ¬ q_W (q_sD s) = 0 := fun z => hR0 (hs.1.2.1.mpr z)
          rw [if_neg (nI_ne0 (by omega) (by omega)), Option.bind_some, if_pos rfl, if_neg (nI_nle (by omega) (by omega)), if_neg (by decide), if_neg (nI_pos (by omega))]
          exact Or.inl ⟨0, Nat.zero_le _, rfl, rfl, rfl⟩
      · rcases p6 with p6 | ⟨_, p7⟩
        · refine Or.inr ⟨?_, p6⟩
          unfold f_X11_isPlace
          rw [if_neg hz, p5, Option.bind_some, if_pos (Or.inl rfl)]
        · exact absurd p7 hz
  unfold f_X11_between f_X12_between
  rcases g x with ⟨p, p1, p2, p3, p4⟩ | ⟨p3, p4⟩
  · rw [p3, p4, Option.bind_some, Option.bind_some, if_neg q_10, if_neg q_10]
    rcases g y with ⟨q, q1, q2, q3, q4⟩ | ⟨q3, q4⟩
    · rw [q3, q4, Option.bind_some, Option.bind_some, if_neg q_10, if_neg q_10, p2, q2, x_apart hn hD hX.1 p1 q1, m_apart hn hD hM0 p1 q1]
      exact ⟨_, rfl, rfl⟩
    · rw [q3, q4, Option.bind_some, Option.bind_some, if_pos rfl, if_pos rfl]
      exact ⟨_, rfl, rfl⟩
  · rw [p3, p4, Option.bind_some, Option.bind_some, if_pos rfl, if_pos rfl]
    exact ⟨_, rfl, rfl⟩
theorem i_cost (hn : 300 ≤ n) (hs : q_sok B s) (hX : q_HX V I J s) (hM : q_HM I2 J2 s) (x y : Int32) : ∃ r, f_X11_cost n I J T x y = some r ∧ f_X12_cost n I2 J2 T x y = some (r, am_u I2 53 0 0) := by
  have hW := hs.1.1.1.1
  have hR := hs.1.1.1.2.1
  have hD := hs.1.1
  have hM0 := (hM.th 0).1
  unfold f_X11_cost f_X12_cost
  rw [hM.1.1.2.1]
  rcases g_set (n := n) (J := J) (J2 := J2) (T := T) hs.1 hX.1 hM0 x with ⟨S, h1, h2, h3, h4, h5, h6⟩ | ⟨h5, h6, h7⟩
  · have hin : ∃ r, (if (1 : Int32) = 0 then some (-1) else (f_X11_isWithin n I J T y 0 2).bind fun w3 => if w3 = 0 then some (-1) else if y = 0 then (f_X2_milesFor n I J T (nI S)).bind fun w9 => some w9 else if y = 1 then (f_X2_costFor n I J T (nI S)).bind fun w8 => some w8 else (f_X2_seatsFor n I J T (nI S)).bind fun w7 => some w7) = some r ∧ f_X12_cost_24 n (am_u I2 53 0 0) J2 T (nI S) y = some (r, am_u I2 53 0 0) := by
      unfold f_X12_cost_24
      rw [if_neg q_10]
      rcases g_on y 0 2 (A := 0) (B := 2) (A' := 0) (B' := 2) rfl rfl rfl rfl (by omega) (by omega) with ⟨k, k1, k2, k3, k4, k5⟩ | ⟨k4, k5⟩
      · rw [k4, k5, Option.bind_some, Option.bind_some, if_neg q_10, if_neg q_10, x_milesFor hn hD hX.1 (by omega), x_costFor hn hD hX.1 (by omega), x_seat hn hD hX.1 (by omega), m_milesOf hn hD hM0 (by omega), m_costOf hn hD hM0 (by omega), m_seat hn hD hM0 (by omega)]
        by_cases y0 : y = 0
        · rw [if_pos y0, if_pos y0]
          exact ⟨_, rfl, rfl⟩
        · rw [if_neg y0, if_neg y0]
          by_cases y1 : y = 1
          · rw [if_pos y1, if_pos y1]
            exact ⟨_, rfl, rfl⟩
          · rw [if_neg y1, if_neg y1]
            exact ⟨_, rfl, rfl⟩
      · rw [k4, k5, Option.bind_some, Option.bind_some, if_pos rfl, if_pos rfl]
        exact ⟨_, rfl, rfl⟩
    rw [h5, Option.bind_some, h6, if_neg (nI_ne0 h3 (by omega)), Option.bind_some, h4]
    by_cases hS0 : S = 0
    · subst hS0
      rw [if_pos nI_0]
      exact hin
    · rw [if_neg (nI_ne0 (by omega) (by omega)), if_neg hS0, if_neg q_10]
      rw [if_neg q_10] at hin
      rw [if_neg q_10]
      exact hin
  · rw [h5, Option.bind_some, if_pos rfl, h6]
    rcases h7 with h7 | h7
    · rw [h7, if_pos nI_0]
      exact ⟨_, rfl, rfl⟩
    · by_cases hR0 : nI (q_R (q_sD s)) = 0
      · rw [if_pos hR0]
        exact ⟨_, rfl, rfl⟩
      · rw [if_neg hR0, if_neg h7, Option.bind_some, if_pos rfl]
        exact ⟨_, rfl, rfl⟩
end QT
