/-! ===== text: a road ===== -/
section QS
variable {V : (Nat → Int32) → Int32 → Nat → (Nat → Nat) → Prop} {n B : Nat} {I I2 : Nat → Nat → Int32} {J J2 : Nat → Nat → Int64} {T : Nat} {s : q_Sg}
theorem x_text0 (hn : 300 ≤ n) (hs : q_sok B s) (hX : q_HX V I J s) : ∃ r I' J', f_X11_text n I J T 0 = some (r, I', J') ∧ q_fX I I' J J' ∧ match q_rd (q_sT s) with
    | .inl _ => r = -1 ∧ q_HX V I' J' s
    | .inr D => r = nI (q_R D) ∧ q_HX V I' J' (q_tk s D) ∧ q_sok B (q_tk s D) := by
  obtain ⟨v, I1, f1, f2, f3, f4⟩ := x_read (n := n) (J := J) (T := T) hn hs.2.1 hX.2.1.1 hX.2.1.2
  have h160 := hs.2.1.1
  have hX1 : q_HX V I1 J s := hX.of hs.2.2.1 (fun a k h => by
    by_cases e : a = 1
    · rcases h with h | h | h | h | h | h
      · omega
      · rw [h.1, h.2, f3]; exact hX.2.1.1.symm
      · omega
      · omega
      · omega
      · omega
    · exact f2 a k e (by omega)) (fun a k h => f2 a k (by omega) (by omega)) (fun _ _ _ => rfl)
  unfold f_X11_text
  rw [if_pos rfl, f1, Option.bind_some]
  cases hq : q_rd (q_sT s) with
  | inl f =>
    rw [hq] at f4
    have hne : ¬ v = -1 := by rw [f4.1]; exact q_nIm1 (by omega)
    have n01 : ¬ (0 : Int32) = 1 := by decide
    rw [if_neg hne]
    unfold f_X11_text_20
    rw [if_neg n01]
    exact ⟨-1, I1, J, rfl, ⟨fun a k h => f2 a k (by omega) (by omega), fun _ _ _ => rfl⟩, rfl, hX1⟩
  | inr D =>
    rw [hq] at f4
    obtain ⟨v1, v2, v3, v4⟩ := f4
    have hD := q_dok.of_read v3 v4
    obtain ⟨I3, b1, b2, b3, b4, b5⟩ := x_X2_become_v3_r (n := n) (I := I1) (J := J) (T := T)
    obtain ⟨J3, c1, c2, c3⟩ := x_fill42 (n := n) (I := I3) (J := J) (T := T) hn
    obtain ⟨I4, hI4⟩ : ∃ z, z = am_u (am_u (am_u (am_u (am_u I3 41 2 0) 41 3 0) 37 5 0) 0 14 0) 1 1 0 := ⟨_, rfl⟩
    have hI4f : ∀ a k, ¬ (a = 41 ∧ (k = 2 ∨ k = 3)) → ¬ (a = 37 ∧ k = 5) → ¬ (a = 0 ∧ k = 14) → ¬ (a = 1 ∧ k = 1) → I4 a k = I3 a k := fun a k z1 z2 z3 z4 => by
      rw [hI4]
      unfold am_u
      rw [if_neg z4, if_neg z3, if_neg z2, if_neg (by omega), if_neg (by omega)]
    have hfr : ∀ a k, a ≠ 0 → a ≠ 1 → ¬ (3 ≤ a ∧ a ≤ 16) → a ≠ 37 → a ≠ 41 → I4 a k = I a k := fun a k z0 z1 z2 z3 z4 => by
      rw [hI4f a k (by omega) (by omega) (by omega) (by omega), b5 a k (by omega)]
      exact f2 a k z1 (by omega)
    have hroad : q_RX I4 D := by
      have hW := v3.1.1
      have hR := v3.1.2.1
      refine ⟨⟨?_, ?_, ?_, ?_, ?_⟩, fun p p1 p2 => ⟨?_, ?_⟩, fun r hr => ⟨?_, ?_, ?_⟩⟩
      · rw [hI4f 3 0 (by omega) (by omega) (by omega) (by omega), b2 0 (by omega)]; exact v2.1.1
      · rw [hI4f 3 1 (by omega) (by omega) (by omega) (by omega), b2 1 (by omega)]; exact v2.1.2.1
      · rw [hI4f 3 2 (by omega) (by omega) (by omega) (by omega), b2 2 (by omega)]; exact v2.1.2.2.1
      · rw [hI4f 3 3 (by omega) (by omega) (by omega) (by omega), b2 3 (by omega)]; exact v2.1.2.2.2.1
      · rw [hI4f 3 4 (by omega) (by omega) (by omega) (by omega), b2 4 (by omega)]; exact v2.1.2.2.2.2
      · rw [hI4f 4 p (by omega) (by omega) (by omega) (by omega), (b3 p (by omega)).1]; exact (v2.2.1 p p1 p2).1
      · rw [hI4f 5 p (by omega) (by omega) (by omega) (by omega), (b3 p (by omega)).2]; exact (v2.2.1 p p1 p2).2
      · rw [hI4f 6 r (by omega) (by omega) (by omega) (by omega), (b4 r (by omega)).1]; exact (v2.2.2 r hr).1
      · rw [hI4f 7 r (by omega) (by omega) (by omega) (by omega), (b4 r (by omega)).2.1]; exact (v2.2.2 r hr).2.1
      · rw [hI4f 8 r (by omega) (by omega) (by omega) (by omega), (b4 r (by omega)).2.2]; exact (v2.2.2 r hr).2.2
    have htake : f_X11_takeRoad n I1 J T = some (nI (q_R D), I4, J3) := by
      have h31 : (am_u (am_u I3 41 2 0) 41 3 0) 3 1 = nI (q_R D) := by
        unfold am_u
        rw [if_neg (by omega), if_neg (by omega), b2 1 (by omega)]
        exact v2.1.2.1
      unfold f_X11_takeRoad f_X0_clear
      rw [b1, Option.bind_some, c1, Option.bind_some, Option.bind_some]
      show some ((am_u (am_u I3 41 2 0) 41 3 0) 3 1, am_u (am_u (am_u (am_u (am_u I3 41 2 0) 41 3 0) 37 5 0) 0 14 0) 1 1 0, J3) = _
      rw [h31, ← hI4]
    obtain ⟨a, b, c, d, i, l, k, m, w⟩ := hX
    rw [if_pos v1, htake, Option.bind_some]
    refine ⟨nI (q_R D), I4, J3, rfl, ⟨fun a k h => hfr a k (by omega) (by omega) (by omega) (by omega) (by omega), fun a k h => c3 a k (by omega)⟩, rfl, ⟨hroad, ⟨?_, fun k hk => absurd hk (Nat.not_lt_zero _)⟩, c.of hs.2.2.1.1 (hfr 19 4 (by omega) (by omega) (by omega) (by omega) (by omega)) (fun x y z1 z2 => hfr x y (by omega) (by omega) (by omega) (by omega) (by omega)), ?_, ⟨?_, fun k hk => absurd hk (Nat.not_lt_zero _)⟩, ⟨?_, ?_, fun r hr => ?_, fun j j1 j2 => absurd j2 (Nat.not_lt_zero _)⟩, ?_, fun z => (by cases z), fun j hj => ?_⟩, hs.tk hD⟩
    · show I4 1 1 = nI 0
      rw [hI4]; simp [am_u]; rfl
    · show I4 0 15 = nI (q_sF s)
      rw [hI4f 0 15 (by omega) (by omega) (by omega) (by omega), b5 0 15 (by omega), f2 0 15 (by omega) (by omega)]
      exact d
    · show I4 37 5 = nI 0
      rw [hI4]; simp [am_u]; rfl
    · show I4 41 2 = nI 0
      rw [hI4]; simp [am_u]; rfl
    · show I4 41 3 = nI 0
      rw [hI4]; simp [am_u]; rfl
    · have hr' : r < q_R D := hr
      have hR := v3.1.2.1
      show J3 42 r = 0
      exact c2 r (by omega)
    · show I4 0 14 = 0
      rw [hI4]; simp [am_u]
    · rw [hfr 32 j (by omega) (by omega) (by omega) (by omega) (by omega), hfr 33 j (by omega) (by omega) (by omega) (by omega) (by omega)]
      exact w j hj
theorem m_text0 (hn : 300 ≤ n) (hs : q_sok B s) (hM : q_HM I2 J2 s) : ∃ r I' J', f_X12_text n I2 J2 T 0 = some (r, I', J', 54) ∧ q_fM I2 I' J2 J' ∧ match q_rd (q_sT s) with
    | .inl _ => r = -1 ∧ q_HM I' J' s
    | .inr D => r = nI (q_R D) ∧ q_HM I' J' (q_tk s D) := by
  have h160 := hs.2.1.1
  have hM0 : q_HM (am_u (am_u I2 53 0 0) 53 0 0) J2 s := (hM.th 0).th 0
  obtain ⟨I1, g1, g2, g3⟩ := m_readRoad (n := n) (J := J2) (T := T) hn hs.2.1 hM0.2.1
  have hfr1 : ∀ a k, a ≠ 53 → ¬ (62 ≤ a ∧ a ≤ 65) → I1 a k = I2 a k := fun a k z1 z2 => by
    rw [g2 a k (by omega) z2]
    unfold am_u
    rw [if_neg (by omega), if_neg (by omega)]
  have hM1 : q_HM I1 J2 s := hM0.of (fun k h => g2 53 k (by omega) (by omega)) (fun a k h => g2 a k (by omega) (by omega)) (fun _ _ _ => rfl)
  have hin : ∀ I : Nat → Nat → Int32, f_X12_isIn n I J2 T (0 : Int32).toInt64 0 1 = some 1 := fun I => by
    unfold f_X12_isIn
    rw [if_neg (by decide), if_neg (by decide)]
  have n01 : ¬ (0 : Int32) = 1 := by decide
  have hfault : f_X12_fault n (am_u I2 53 0 0) J2 T 0 = some (I1 53 11, I1, 54) := by
    unfold f_X12_fault f_X12_fault_42
    rw [hin, Option.bind_some, if_neg q_10, if_pos rfl, g1, Option.bind_some]
  unfold f_X12_text f_X12_text_28
  rw [hin, Option.bind_some, if_neg q_10, if_neg n01, hfault, Option.bind_some]
  simp only []
  cases hq : q_rd (q_sT s) with
  | inl f =>
    rw [hq] at g3
    have hf : f ≤ (q_sT s).1 := by
      obtain ⟨v, Iz, z1, z2, z3, z4⟩ := x_read (n := n) (J := J2) (T := T) (I := fun a k => if a = 1 then nI (q_sT s).1 else q_by ((q_sT s).2 k)) hn hs.2.1 (by simp) (fun i hi => by simp)
      rw [hq] at z4
      exact z4.2
    have g3' : I1 53 11 = nI f := g3
    have hne : ¬ I1 53 11 = -1 := by rw [g3']; exact q_nIm1 (by omega)
    rw [if_neg hne]
    exact ⟨-1, I1, J2, rfl, ⟨fun a k h => hfr1 a k (by omega) (by omega), fun _ _ _ => rfl⟩, rfl, hM1⟩
  | inr D =>
    rw [hq] at g3
    obtain ⟨h11, told, hT⟩ := g3
    have hDp : q_pok D := by
      obtain ⟨v, Iz, z1, z2, z3, z4⟩ := x_read (n := n) (J := J2) (T := T) (I := fun a k => if a = 1 then nI (q_sT s).1 else q_by ((q_sT s).2 k)) hn hs.2.1 (by simp) (fun i hi => by simp)
      rw [hq] at z4
      exact z4.2.2.1
    have hW := hDp.1.1
    have hR := hDp.1.2.1
    obtain ⟨⟨⟨t1, t2⟩, t3, t4, t5⟩, tw, tr, -⟩ := hT
    obtain ⟨Ia, hIa⟩ : ∃ z, z = am_u (am_u (am_u I1 53 6 0) 53 26 (I1 53 28)) 53 27 (I1 53 29) := ⟨_, rfl⟩
    have hIaf : ∀ a k, ¬ (a = 53 ∧ (k = 6 ∨ k = 26 ∨ k = 27)) → Ia a k = I1 a k := fun a k z => by
      rw [hIa]
      unfold am_u
      rw [if_neg (by omega), if_neg (by omega), if_neg (by omega)]
    obtain ⟨Ib, p1, p2, p3, p4⟩ := m_cp58 (n := n) (J := J2) (T := 54) n 0 Ia (by omega) (by omega)
    obtain ⟨Ic, r1, r2, r3, r4⟩ := m_cp60 (n := n) (J := J2) (T := 54) n 0 Ib (by omega) (by omega)
    obtain ⟨Id, u1, u2, u3, u4⟩ := m_cp61 (n := n) (J := J2) (T := 54) n 0 Ic (by omega) (by omega)
    obtain ⟨Jd, w1, w2, w3, w4⟩ := m_cp74 (n := n) (I := Id) (T := 54) hn n 0 J2 (by omega) (by omega)
    have p1' : f_X12_text_133 n n Ia J2 54 0 = _ := p1
    have r1' : f_X12_text_171 n n Ib J2 54 0 = _ := r1
    have u1' : f_X12_text_197 n n Ic J2 54 0 = _ := u1
    have w1' : f_X12_text_222 n n Id J2 54 0 = _ := w1
    obtain ⟨Ie, hIe⟩ : ∃ z, z = am_u (am_u (am_u (am_u Id 53 48 0) 53 51 0) 53 52 0) 53 59 0 := ⟨_, rfl⟩
    have hIef : ∀ a k, ¬ (a = 53 ∧ (k = 48 ∨ k = 51 ∨ k = 52 ∨ k = 59)) → Ie a k = Id a k := fun a k z => by
      rw [hIe]
      unfold am_u
      rw [if_neg (by omega), if_neg (by omega), if_neg (by omega), if_neg (by omega)]
    have hda : ∀ a k, a ≠ 58 → a ≠ 59 → a ≠ 60 → a ≠ 61 → Id a k = Ia a k := fun a k z1 z2 z3 z4 => by rw [u4 a k z4, r4 a k z3, p4 a k z1 z2]
    have hall : ∀ a k, ¬ (a = 53) → ¬ (58 ≤ a ∧ a ≤ 65) → Ie a k = I2 a k := fun a k z1 z2 => by
      rw [hIef a k (by omega), hda a k (by omega) (by omega) (by omega) (by omega), hIaf a k (by omega)]
      exact hfr1 a k z1 (by omega)
    have hd27 : Id 53 27 = nI (q_R D) := by
      rw [hda 53 27 (by omega) (by omega) (by omega) (by omega), hIa, ← t2]
      simp [am_u]
    rw [if_pos h11, if_neg n01, ← hIa, p1', r1', u1', w1', ← hIe, hd27]
    obtain ⟨a', b', c', d', i', l', k', m'⟩ := hM1
    have hie53 : ∀ k, ¬ (k = 6 ∨ k = 26 ∨ k = 27 ∨ k = 48 ∨ k = 51 ∨ k = 52 ∨ k = 59) → Ie 53 k = I1 53 k := fun k z => by
      rw [hIef 53 k (by omega), hda 53 k (by omega) (by omega) (by omega) (by omega), hIaf 53 k (by omega)]
    refine ⟨nI (q_R D), Ie, Jd, rfl, ⟨fun a k h => hall a k (by omega) (by omega), fun a k h => w4 a k (by omega)⟩, rfl, ⟨⟨?_, ?_, ?_, ?_, ?_⟩, fun p p1 p2' => ⟨?_, ?_⟩, fun r hr => ⟨?_, ?_, ?_⟩⟩, ⟨?_, fun k hk => absurd hk (Nat.not_lt_zero _)⟩, c'.of (hie53 7 (by omega)) (fun x y z => by rw [hall x y (by omega) (by omega), hfr1 x y (by omega) (by omega)]), ?_, ⟨?_, fun k hk => absurd hk (Nat.not_lt_zero _)⟩, ⟨?_, ?_, fun r hr => ?_, fun j j1 j2 => absurd j2 (Nat.not_lt_zero _)⟩, ?_, fun z => by cases z⟩
    · show Ie 53 26 = nI (q_W D)
      rw [hIef 53 26 (by omega), hda 53 26 (by omega) (by omega) (by omega) (by omega), hIa, ← t1]
      simp [am_u]
    · show Ie 53 27 = nI (q_R D)
      rw [hIef 53 27 (by omega)]; exact hd27
    · show Ie 61 0 = nI (q_cs D)
      rw [hIef 61 0 (by omega), u2 0 (Nat.zero_le _) (by omega), r4 65 0 (by omega), p4 65 0 (by omega) (by omega), hIaf 65 0 (by omega)]; exact t3
    · show Ie 61 1 = nI (q_pr D)
      rw [hIef 61 1 (by omega), u2 1 (Nat.zero_le _) (by omega), r4 65 1 (by omega), p4 65 1 (by omega) (by omega), hIaf 65 1 (by omega)]; exact t4
    · show Ie 61 2 = nI (q_ni D)
      rw [hIef 61 2 (by omega), u2 2 (Nat.zero_le _) (by omega), r4 65 2 (by omega), p4 65 2 (by omega) (by omega), hIaf 65 2 (by omega)]; exact t5
    · have p2'' : p ≤ q_W D := p2'
      show Ie 58 p = nI (q_fr D p)
      rw [hIef 58 p (by omega), u4 58 p (by omega), r4 58 p (by omega), (p2 p (Nat.zero_le _) (by omega)).1, hIaf 62 p (by omega)]
      exact (tw p p1 p2'').1
    · have p2'' : p ≤ q_W D := p2'
      show Ie 59 p = nI (q_mi D p)
      rw [hIef 59 p (by omega), u4 59 p (by omega), r4 59 p (by omega), (p2 p (Nat.zero_le _) (by omega)).2, hIaf 63 p (by omega)]
      exact (tw p p1 p2'').2
    · have hr' : r < q_R D := hr
      show Ie 60 (3 * r) = nI (q_ho D r)
      rw [hIef 60 _ (by omega), u4 60 _ (by omega), r2 (3 * r) (Nat.zero_le _) (by omega), p4 64 _ (by omega) (by omega), hIaf 64 _ (by omega)]
      exact (tr r hr').1
    · have hr' : r < q_R D := hr
      show Ie 60 (3 * r + 1) = nI (q_wa D r)
      rw [hIef 60 _ (by omega), u4 60 _ (by omega), r2 (3 * r + 1) (Nat.zero_le _) (by omega), p4 64 _ (by omega) (by omega), hIaf 64 _ (by omega)]
      exact (tr r hr').2.1
    · have hr' : r < q_R D := hr
      show Ie 60 (3 * r + 2) = nI (q_se D r)
      rw [hIef 60 _ (by omega), u4 60 _ (by omega), r2 (3 * r + 2) (Nat.zero_le _) (by omega), p4 64 _ (by omega) (by omega), hIaf 64 _ (by omega)]
      exact (tr r hr').2.2
    · show Ie 53 6 = nI 0
      rw [hIef 53 6 (by omega), hda 53 6 (by omega) (by omega) (by omega) (by omega), hIa]
      simp [am_u]
      rfl
    · show Ie 53 31 = nI (q_sF s)
      rw [hie53 31 (by omega)]; exact d'
    · show Ie 53 48 = nI 0
      rw [hIe]; simp [am_u]; rfl
    · show Ie 53 51 = nI 0
      rw [hIe]; simp [am_u]; rfl
    · show Ie 53 52 = nI 0
      rw [hIe]; simp [am_u]; rfl
    · have hr' : r < q_R D := hr
      show Jd 74 r = 0
      exact w2 r (Nat.zero_le _) (by omega)
    · show Ie 53 59 = 0
      rw [hIe]; simp [am_u]
theorem i_text0 (hn : 300 ≤ n) (hs : q_sok B s) (hX : q_HX V I J s) (hM : q_HM I2 J2 s) : ∃ r I' J' I2' J2' s', f_X11_text n I J T 0 = some (r, I', J') ∧ f_X12_text n I2 J2 T 0 = some (r, I2', J2', 54) ∧ q_HX V I' J' s' ∧ q_HM I2' J2' s' ∧ q_sok B s' ∧ q_fX I I' J J' ∧ q_fM I2 I2' J2 J2' := by
  obtain ⟨r, I', J', a1, a2, a3⟩ := x_text0 (n := n) (T := T) hn hs hX
  obtain ⟨r2, I4, J4, b1, b2, b3⟩ := m_text0 (n := n) (T := T) hn hs hM
  cases hq : q_rd (q_sT s) with
  | inl f =>
    rw [hq] at a3 b3
    exact ⟨r, I', J', I4, J4, s, a1, by rw [b1, a3.1, b3.1], a3.2, b3.2, hs, a2, b2⟩
  | inr D =>
    rw [hq] at a3 b3
    exact ⟨r, I', J', I4, J4, q_tk s D, a1, by rw [b1, a3.1, b3.1], a3.2.1, b3.2, a3.2.2, a2, b2⟩
end QS
