/-! ===== text: a rule ===== -/
section QS
variable {n B : Nat} {I I2 : Nat → Nat → Int32} {J J2 : Nat → Nat → Int64} {T : Nat} {s : q_Sg}
theorem x_text1 (hn : 300 ≤ n) (hs : q_sok B s) (hX : q_HX q_Vr I J s) : ∃ r I', f_X11_text n I J T 1 = some (r, I', J) ∧ q_fX I I' J J ∧ if (q_sU s).1 = 4 then r = -1 ∧ q_HX q_Vr I' J s else match q_rule (q_sT s) with
    | .inl _ => r = -1 ∧ q_HX q_Vr I' J s
    | .inr _ => r = nI (q_sU s).1 ∧ q_HX q_Vr I' J (q_tr s) := by
  have h160 := hs.2.1.1
  have hu4 := hs.2.2.1.1
  have h19 : I 19 4 = nI (q_sU s).1 := hX.2.2.1.1
  have n10 : ¬ (1 : Int32) = 0 := by exact q_10
  unfold f_X11_text f_X11_text_20
  rw [if_neg n10, if_pos rfl, h19]
  by_cases h4 : (q_sU s).1 = 4
  · rw [if_pos (show (4 : Int32) ≤ nI (q_sU s).1 by rw [h4]; decide)]
    simp only [if_pos h4]
    exact ⟨-1, I, rfl, q_fX.r I J, rfl, hX⟩
  · obtain ⟨v, I1, f1, f2, f3, f4⟩ := x_rule_HX (n := n) (T := T) hn hs hX
    rw [if_neg (show ¬ (4 : Int32) ≤ nI (q_sU s).1 from nI_ge (b := 4) (by omega) (by omega)), f1, Option.bind_some]
    simp only [if_neg h4]
    cases hq : q_rule (q_sT s) with
    | inl f =>
      rw [hq] at f4
      have hne : ¬ v = -1 := by rw [f4.1]; exact q_nIm1 (by omega)
      simp only []
      rw [if_neg hne]
      exact ⟨-1, I1, rfl, ⟨fun a k h => f2 a k (by omega) (by omega) (by omega), fun _ _ _ => rfl⟩, rfl, f3⟩
    | inr r =>
      rw [hq] at f4
      obtain ⟨f41, f42, f43, f44⟩ := f4
      have h191 : I1 19 4 = nI (q_sU s).1 := f3.2.2.1.1
      have hix : ok_ix (nI (q_sU s).1) 4 := q_ix (by omega) (by omega)
      have hcl : (nI (q_sU s).1).toNatClampNeg = (q_sU s).1 := q_cl (by omega)
      have hcz : (nI r.1.length).toNatClampNeg = r.1.length := q_cl (by omega)
      have hzn : (0 : Int32) ≤ nI r.1.length := nI_le (a := 0) (by omega) (by omega)
      obtain ⟨I2, hI2⟩ : ∃ z, z = am_u (am_u (am_u (am_row I1 (21 + (q_sU s).1) (fun a => if a < r.1.length then I1 18 a else I1 (21 + (q_sU s).1) a)) 25 (q_sU s).1 (nI r.1.length)) 19 4 (nI ((q_sU s).1 + 1))) 1 1 0 := ⟨_, rfl⟩
      have htake : f_X11_takeRule n I1 J T = some (nI (q_sU s).1, I2) := by
        unfold f_X11_takeRule f_X5_append
        rw [f42, h191, if_neg (show ¬ (4 : Int32) ≤ nI (q_sU s).1 from nI_ge (b := 4) (by omega) (by omega)), if_neg (show ¬ (160 : Int32) < nI r.1.length from nI_nlt (a := 160) (by omega) (by omega))]
        simp only [if_pos hix, hcl, hcz]
        rw [if_pos (show (q_sU s).1 < 4 by omega), if_pos ⟨hzn, f43, f43⟩, nI_1, Option.bind_some, hI2]
      have hfr : ∀ a k, ¬ (a = 21 + (q_sU s).1) → ¬ (a = 25 ∧ k = (q_sU s).1) → ¬ (a = 19 ∧ k = 4) → ¬ (a = 1 ∧ k = 1) → I2 a k = I1 a k := fun a k z1 z2 z3 z4 => by
        rw [hI2]
        unfold am_u am_row
        rw [if_neg z4, if_neg z3, if_neg z2, if_neg z1]
      simp only []
      rw [if_pos f41, htake, Option.bind_some]
      obtain ⟨a, b, c, d, i, l, k, m, w⟩ := f3
      have hall : ∀ a k, a ≠ 1 → ¬ (19 ≤ a ∧ a ≤ 25) → I2 a k = I1 a k := fun a k z1 z2 => hfr a k (by omega) (by omega) (by omega) (by omega)
      have ofR : ∀ {I I' : Nat → Nat → Int32} {D : q_Rd}, q_RX I D → (∀ a k, 3 ≤ a → a ≤ 8 → I' a k = I a k) → q_RX I' D := by
        intro I I' D h e
        obtain ⟨⟨a1, a2, a3, a4, a5⟩, b, c⟩ := h
        exact ⟨⟨by rw [e 3 _ (by omega) (by omega)]; exact a1, by rw [e 3 _ (by omega) (by omega)]; exact a2, by rw [e 3 _ (by omega) (by omega)]; exact a3, by rw [e 3 _ (by omega) (by omega)]; exact a4, by rw [e 3 _ (by omega) (by omega)]; exact a5⟩, fun p x y => ⟨by rw [e 4 _ (by omega) (by omega)]; exact (b p x y).1, by rw [e 5 _ (by omega) (by omega)]; exact (b p x y).2⟩, fun r x => ⟨by rw [e 6 _ (by omega) (by omega)]; exact (c r x).1, by rw [e 7 _ (by omega) (by omega)]; exact (c r x).2.1, by rw [e 8 _ (by omega) (by omega)]; exact (c r x).2.2⟩⟩
      refine ⟨_, I2, rfl, ⟨fun a k h => by rw [hall a k (by omega) (by omega)]; exact f2 a k (by omega) (by omega) (by omega), fun _ _ _ => rfl⟩, rfl, ⟨ofR a (fun x y z w => hall x y (by omega) (by omega)), ⟨?_, fun k hk => absurd hk (Nat.not_lt_zero _)⟩, ⟨?_, fun k hk => ?_⟩, by rw [hall 0 15 (by omega) (by omega)]; exact d, i.of (hall 37 5 (by omega) (by omega)) (fun x y z => hall x y (by omega) (by omega)), l.of (hall 41 2 (by omega) (by omega)) (hall 41 3 (by omega) (by omega)) (fun _ => rfl) (fun _ => rfl), by rw [hall 0 14 (by omega) (by omega)]; exact k, fun z => ?_, fun j hj => ?_⟩⟩
      · show I2 1 1 = nI 0
        rw [hI2]; simp [am_u]; rfl
      · show I2 19 4 = nI ((q_sU s).1 + 1)
        rw [hI2]
        unfold am_u
        rw [if_neg (by omega), if_pos ⟨rfl, rfl⟩]
      · have hk' : k < (q_sU s).1 + 1 := hk
        show q_Vr (I2 (21 + k)) (I2 25 k) (q_tu (q_sU s).2.1 (q_sU s).1 (q_sT s).1 k) (if k = (q_sU s).1 then (q_sT s).2 else (q_sU s).2.2 k)
        unfold q_tu
        by_cases ek : k = (q_sU s).1
        · rw [if_pos ek, if_pos ek]
          refine ⟨r, hq, f43, ?_, fun i hi => ?_⟩
          · rw [hI2]
            unfold am_u
            rw [if_neg (by omega), if_neg (by omega), if_pos ⟨rfl, ek⟩]
          · rw [hI2, ← f44 i hi]
            unfold am_u am_row
            rw [if_neg (by omega), if_neg (by omega), if_neg (by omega), if_pos (by rw [ek])]
            exact if_pos hi
        · rw [if_neg ek, if_neg ek]
          have e1 : I2 (21 + k) = I1 (21 + k) := funext fun j => hfr _ j (by omega) (by omega) (by omega) (by omega)
          rw [e1, hfr 25 k (by omega) (by omega) (by omega) (by omega)]
          exact c.2 k (by omega)
      · obtain ⟨m1, m2⟩ := m z
        exact ⟨ofR m1 (fun x y z w => hall (x + 41) y (by omega) (by omega)), m2.of (hall 50 2 (by omega) (by omega)) (hall 50 3 (by omega) (by omega)) (fun _ => rfl) (fun _ => rfl)⟩
      · rw [hall 32 j (by omega) (by omega), hall 33 j (by omega) (by omega)]
        exact w j hj
theorem m_text1 (hn : 300 ≤ n) (hs : q_sok B s) (hM : q_HM I2 J2 s) : ∃ r I' T', f_X12_text n I2 J2 T 1 = some (r, I', J2, T') ∧ (T' = T ∨ T' = 54) ∧ q_fM I2 I' J2 J2 ∧ if (q_sU s).1 = 4 then r = -1 ∧ q_HM I' J2 s else match q_rule (q_sT s) with
    | .inl _ => r = -1 ∧ q_HM I' J2 s
    | .inr _ => r = nI (q_sU s).1 ∧ q_HM I' J2 (q_tr s) := by
  have h160 := hs.2.1.1
  have hu4 := hs.2.2.1.1
  have hin : f_X12_isIn n (am_u I2 53 0 0) J2 T (1 : Int32).toInt64 0 1 = some 1 := by
    unfold f_X12_isIn
    rw [if_neg (by decide), if_neg (by decide)]
  have e7 : am_u I2 53 0 0 53 7 = nI (q_sU s).1 := by
    unfold am_u
    rw [if_neg (by omega)]
    exact hM.2.2.1.1
  have e7' : I2 53 7 = nI (q_sU s).1 := hM.2.2.1.1
  unfold f_X12_text
  rw [hin, Option.bind_some, if_neg q_10, if_pos rfl, e7']
  by_cases h4 : (q_sU s).1 = 4
  · rw [if_pos (show nI (q_sU s).1 = 4 by rw [h4]; rfl)]
    simp only [if_pos h4]
    exact ⟨-1, _, T, rfl, Or.inl rfl, q_fM.th I2 J2 0, rfl, hM.th 0⟩
  · have n4 : ¬ nI (q_sU s).1 = 4 := fun z => h4 ((nI_eq (a := (q_sU s).1) (b := 4) (by omega) (by omega)).mp z)
    obtain ⟨I1, g1, g2, g3, g4⟩ := m_fault1 (n := n) (T := T) hn hs (hM.th 0)
    have hfr1 : ∀ a k, a ≠ 53 → I1 a k = I2 a k := fun a k h => by rw [g2 a k h]; unfold am_u; rw [if_neg (by omega)]
    unfold f_X12_text_28
    rw [if_neg n4, g1, Option.bind_some]
    simp only [if_neg h4]
    cases hq : q_rule (q_sT s) with
    | inl f =>
      rw [hq] at g4
      have hne : ¬ I1 53 11 = -1 := by rw [g4.1]; exact q_nIm1 (by omega)
      rw [if_neg hne]
      exact ⟨-1, I1, 54, rfl, Or.inr rfl, ⟨fun a k h => hfr1 a k (by omega), fun _ _ _ => rfl⟩, rfl, g3⟩
    | inr r =>
      rw [hq] at g4
      have h11 : I1 53 11 = -1 := g4
      obtain ⟨a, b, c, d, i, l, k, m⟩ := g3
      have h6 : I1 53 6 = nI (q_sT s).1 := b.1
      obtain ⟨Ia, hIa⟩ : ∃ z, z = am_u I1 53 6 0 := ⟨_, rfl⟩
      have hIaf : ∀ x y, ¬ (x = 53 ∧ y = 6) → Ia x y = I1 x y := fun x y z => by
        rw [hIa]
        unfold am_u
        rw [if_neg z]
      obtain ⟨I', p1, p2, p3, p4⟩ := m_cp55 (n := n) (J := J2) (T := 54) (u := (q_sU s).1) (N := (q_sT s).1) (by omega) h160 n 0 Ia (Nat.zero_le _) (by omega) (by rw [hIaf 53 7 (by omega)]; exact c.1)
      have p1' : f_X12_text_56 n n Ia J2 54 (nI (q_sT s).1) 0 = _ := p1
      rw [if_pos h11, if_pos trivial, h6, ← hIa, p1']
      obtain ⟨Ie, hIe⟩ : ∃ z, z = am_u (am_u I' 56 (q_sU s).1 (nI (q_sT s).1)) 53 7 (nI ((q_sU s).1 + 1)) := ⟨_, rfl⟩
      have hIef : ∀ x y, ¬ (x = 56 ∧ y = (q_sU s).1) → ¬ (x = 53 ∧ y = 7) → Ie x y = I' x y := fun x y z1 z2 => by
        rw [hIe]
        unfold am_u
        rw [if_neg z2, if_neg z1]
      have hall : ∀ x y, x ≠ 55 → ¬ (x = 56 ∧ y = (q_sU s).1) → ¬ (x = 53 ∧ (y = 6 ∨ y = 7)) → Ie x y = I1 x y := fun x y z1 z2 z3 => by
        rw [hIef x y z2 (by omega), p4 x y z1, hIaf x y (by omega)]
      rw [← hIe]
      refine ⟨_, Ie, 54, rfl, Or.inr rfl, ⟨fun x y h => by rw [hall x y (by omega) (by omega) (by omega)]; exact hfr1 x y (by omega), fun _ _ _ => rfl⟩, rfl, ⟨a.of (hall 53 26 (by omega) (by omega) (by omega)) (hall 53 27 (by omega) (by omega) (by omega)) (fun x y z => hall x y (by omega) (by omega) (by omega)), ⟨?_, fun k hk => absurd hk (Nat.not_lt_zero _)⟩, ⟨?_, fun k hk => ?_⟩, by rw [hall 53 31 (by omega) (by omega) (by omega)]; exact d, i.of (hall 53 48 (by omega) (by omega) (by omega)) (fun x y z => hall x y (by omega) (by omega) (by omega)), l.of (hall 53 51 (by omega) (by omega) (by omega)) (hall 53 52 (by omega) (by omega) (by omega)) (fun _ => rfl) (fun _ => rfl), by rw [hall 53 59 (by omega) (by omega) (by omega)]; exact k, fun z => ?_⟩⟩
      · show Ie 53 6 = nI 0
        rw [hIef 53 6 (by omega) (by omega), p4 53 6 (by omega), hIa]; simp [am_u]; rfl
      · show Ie 53 7 = nI ((q_sU s).1 + 1)
        rw [hIe]; simp [am_u]
      · have hk' : k < (q_sU s).1 + 1 := hk
        show Ie 56 k = nI (q_tu (q_sU s).2.1 (q_sU s).1 (q_sT s).1 k) ∧ ∀ i, i < q_tu (q_sU s).2.1 (q_sU s).1 (q_sT s).1 k → Ie 55 (160 * k + i) = q_by ((if k = (q_sU s).1 then (q_sT s).2 else (q_sU s).2.2 k) i)
        unfold q_tu
        by_cases ek : k = (q_sU s).1
        · rw [if_pos ek, if_pos ek]
          refine ⟨?_, fun i hi => ?_⟩
          · rw [hIe, ek]; simp [am_u]
          · rw [hIef 55 _ (by omega) (by omega), ek, p2 i (Nat.zero_le _) hi, hIaf 54 i (by omega), b.2 i hi]
            exact q_by_by _ (hs.2.1.2 i hi).2
        · have hkl : k < (q_sU s).1 := by omega
          have hlen := (hs.2.2.1.2 k hkl).1
          rw [if_neg ek, if_neg ek]
          refine ⟨?_, fun i hi => ?_⟩
          · rw [hIef 56 k (by omega) (by omega), p4 56 k (by omega), hIaf 56 k (by omega)]
            exact (c.2 k hkl).1
          · have hlen' : (q_sU s).2.1 k ≤ 160 := hlen
            rw [hIef 55 _ (by omega) (by omega), p3 _ (by omega), hIaf 55 _ (by omega)]
            exact (c.2 k hkl).2 i hi
      · obtain ⟨m1, m2, m3⟩ := m z
        exact ⟨fun r x => by rw [hall 76 r (by omega) (by omega) (by omega)]; exact m1 r x, fun p x y => by rw [hall 77 p (by omega) (by omega) (by omega)]; exact m2 p x y, m3.of (hall 53 57 (by omega) (by omega) (by omega)) (hall 53 58 (by omega) (by omega) (by omega)) (fun _ => rfl) (fun _ => rfl)⟩
/-- text: a rule -/
theorem i_text1 (hn : 300 ≤ n) (hs : q_sok B s) (hX : q_HX q_Vr I J s) (hM : q_HM I2 J2 s) : ∃ r I' I2' T' s', f_X11_text n I J T 1 = some (r, I', J) ∧ f_X12_text n I2 J2 T 1 = some (r, I2', J2, T') ∧ (T' = T ∨ T' = 54) ∧ q_HX q_Vr I' J s' ∧ q_HM I2' J2 s' ∧ q_sok B s' ∧ q_fX I I' J J ∧ q_fM I2 I2' J2 J2 := by
  obtain ⟨r, I', a1, a2, a3⟩ := x_text1 (n := n) (T := T) hn hs hX
  obtain ⟨r2, I2', T', b1, b2, b3, b4⟩ := m_text1 (n := n) (T := T) hn hs hM
  by_cases h4 : (q_sU s).1 = 4
  · rw [if_pos h4] at a3 b4
    rw [a3.1] at a1
    rw [b4.1] at b1
    exact ⟨_, I', I2', T', s, a1, b1, b2, a3.2, b4.2, hs, a2, b3⟩
  · rw [if_neg h4] at a3 b4
    cases hq : q_rule (q_sT s) with
    | inl f =>
      rw [hq] at a3 b4
      rw [a3.1] at a1
      rw [b4.1] at b1
      exact ⟨_, I', I2', T', s, a1, b1, b2, a3.2, b4.2, hs, a2, b3⟩
    | inr z =>
      rw [hq] at a3 b4
      rw [a3.1] at a1
      rw [b4.1] at b1
      exact ⟨_, I', I2', T', q_tr s, a1, b1, b2, a3.2, b4.2, hs.tr (by have := hs.2.2.1.1; omega), a2, b3⟩
end QS
