/-! ===== image ===== -/
section QS
variable {V : (Nat → Int32) → Int32 → Nat → (Nat → Nat) → Prop} {n B : Nat} {I I2 : Nat → Nat → Int32} {J J2 : Nat → Nat → Int64} {T : Nat} {s : q_Sg}
theorem x_image (hs : q_sok B s) (hX : q_HX V I J s) (hR0 : 0 < q_R (q_sD s)) : ∃ I' J', f_X11_image n I J T = some (nI (q_lN (q_sL s)), I', J') ∧ q_HX V I' J' (q_sD s, q_sT s, q_sU s, q_sF s, q_sS s, q_sL s, true, q_sD s, q_sL s) ∧ q_fX I I' J J' := by
  obtain ⟨⟨hd, hz, hz0⟩, s2, s3, s4, s5, s6, s7⟩ := hs
  obtain ⟨a, b, c, d, i, l, m, t, w⟩ := hX
  have hW := hd.1.1
  have hR := hd.1.2.1
  have hW0 : ¬ q_W (q_sD s) = 0 := fun z => by have := hz.mpr z; omega
  obtain ⟨I1, e1, c1, c2, c3, c4⟩ := x_X2_become_v2_r (n := n) (I := I) (J := J) (T := T)
  obtain ⟨I3, J3, e2, d1, d2, d3, d4, d5, d6⟩ := x_X0_become_v2_r (n := n) (I := I1) (J := J) (T := T)
  have hfr : ∀ a k, (a < 44 ∨ 50 < a) → ¬ (a = 0 ∧ k = 14) → am_u I3 0 14 1 a k = I a k := by
    intro a k h1 h2
    unfold am_u
    rw [if_neg h2, d5 a k (by omega), c4 a k (by omega)]
  have hcp : ∀ a k, 44 ≤ a → a ≤ 49 → am_u I3 0 14 1 a k = I1 a k := by
    intro a k h1 h2
    unfold am_u
    rw [if_neg (by omega), d5 a k (by omega)]
  unfold f_X11_image f_X11_isRoadless
  rw [a.1.1, if_neg (nI_ne0 (by omega) (by omega)), Option.bind_some, if_pos rfl, e1, Option.bind_some, e2, Option.bind_some]
  refine ⟨am_u I3 0 14 1, J3, ?_, ⟨a.of3 (fun x y z w => hfr x y (by omega) (by omega)), b.of (hfr 1 1 (by omega) (by omega)) (fun y => hfr 2 y (by omega) (by omega)), c.of s3.1 (hfr 19 4 (by omega) (by omega)) (fun x y z w => hfr x y (by omega) (by omega)), ?_, i.of (hfr 37 5 (by omega) (by omega)) (fun x y z => hfr x y (by omega) (by omega)), l.of (hfr 41 2 (by omega) (by omega)) (hfr 41 3 (by omega) (by omega)) (fun k => d6 42 k (by omega)) (fun k => d6 43 k (by omega)), ?_, fun _ => ⟨?_, ?_⟩, fun j hj => ⟨?_, ?_⟩⟩, ⟨fun a k h => ?_, fun a k h => d6 a k (by omega)⟩⟩
  · show some (I3 41 2, _, _) = _
    rw [d5 41 2 (by omega), c4 41 2 (by omega), l.1]
  · rw [hfr 0 15 (by omega) (by omega)]
    exact d
  · show am_u I3 0 14 1 0 14 = 1
    simp [am_u]
  · have g : ∀ k, k < 5 → am_u I3 0 14 1 (3 + 41) k = I 3 k := fun k hk => by rw [hcp _ _ (by omega) (by omega)]; exact c1 k hk
    have g1 : ∀ k, k < 10 → am_u I3 0 14 1 (4 + 41) k = I 4 k := fun k hk => by rw [hcp _ _ (by omega) (by omega)]; exact (c2 k hk).1
    have g2 : ∀ k, k < 10 → am_u I3 0 14 1 (5 + 41) k = I 5 k := fun k hk => by rw [hcp _ _ (by omega) (by omega)]; exact (c2 k hk).2
    have g3 : ∀ k, k < 6 → am_u I3 0 14 1 (6 + 41) k = I 6 k := fun k hk => by rw [hcp _ _ (by omega) (by omega)]; exact (c3 k hk).1
    have g4 : ∀ k, k < 6 → am_u I3 0 14 1 (7 + 41) k = I 7 k := fun k hk => by rw [hcp _ _ (by omega) (by omega)]; exact (c3 k hk).2.1
    have g5 : ∀ k, k < 6 → am_u I3 0 14 1 (8 + 41) k = I 8 k := fun k hk => by rw [hcp _ _ (by omega) (by omega)]; exact (c3 k hk).2.2
    exact ⟨⟨(g 0 (by omega)).trans a.1.1, (g 1 (by omega)).trans a.1.2.1, (g 2 (by omega)).trans a.1.2.2.1, (g 3 (by omega)).trans a.1.2.2.2.1, (g 4 (by omega)).trans a.1.2.2.2.2⟩, fun p x y => ⟨(g1 p (by have : p ≤ q_W (q_sD s) := y; omega)).trans (a.2.1 p x y).1, (g2 p (by have : p ≤ q_W (q_sD s) := y; omega)).trans (a.2.1 p x y).2⟩, fun r x => ⟨(g3 r (by have : r < q_R (q_sD s) := x; omega)).trans (a.2.2 r x).1, (g4 r (by have : r < q_R (q_sD s) := x; omega)).trans (a.2.2 r x).2.1, (g5 r (by have : r < q_R (q_sD s) := x; omega)).trans (a.2.2 r x).2.2⟩⟩
  · refine ⟨?_, ?_, fun r x => ?_, fun j x y r z => ?_⟩
    · show I3 50 2 = _
      rw [d1, c4 41 2 (by omega)]
      exact l.1
    · show I3 50 3 = _
      rw [d2, c4 41 3 (by omega)]
      exact l.2.1
    · have : r < q_R (q_sD s) := x
      rw [d3 r (by omega)]
      exact l.2.2.1 r x
    · have : r < q_R (q_sD s) := z
      rw [d4 _ (by omega)]
      exact l.2.2.2 j x y r z
  · rw [hfr 32 j (by omega) (by omega)]
    exact (w j hj).1
  · rw [hfr 33 j (by omega) (by omega)]
    exact (w j hj).2
  · exact hfr a k (by omega) (by omega)
theorem m_img1 : ∀ (m k : Nat) (I : Nat → Nat → Int32) (J : Nat → Nat → Int64), k ≤ 6 → 6 - k < m → ∃ I' J', f_X12_image_16 n m I J T (nI k) = f_X12_image_56 n n I' J' T 0 ∧ (∀ j, k ≤ j → j < 6 → I' 76 j = I 60 (3 * j) ∧ J' 78 j = J 74 j) ∧ (∀ j, j < k → I' 76 j = I 76 j ∧ J' 78 j = J 78 j) ∧ (∀ a j, a ≠ 76 → I' a j = I a j) ∧ ∀ a j, a ≠ 78 → J' a j = J a j := by
  intro m
  induction m with
  | zero => intro k I J _ h; omega
  | succ m ih =>
    intro k I J hk hm
    rw [f_X12_image_16]
    by_cases e : k = 6
    · subst e
      rw [if_pos (show (6 : Int32) ≤ nI 6 by decide +kernel)]
      exact ⟨I, J, rfl, fun j a b => by omega, fun _ _ => ⟨rfl, rfl⟩, fun _ _ _ => rfl, fun _ _ _ => rfl⟩
    · have e1 : ¬ (6 : Int32) ≤ nI k := nI_ge (b := 6) (by omega) (by omega)
      have e3 : (3 : Int32) * nI k = nI (3 * k) := pk_mul 3 k
      have hix : ok_ix (nI k) 6 := q_ix (by omega) (by omega)
      have hix2 : ok_ix (nI (3 * k)) 18 := q_ix (by omega) (by omega)
      have hcl : (nI k).toNatClampNeg = k := q_cl (by omega)
      have hcl2 : (nI (3 * k)).toNatClampNeg = 3 * k := q_cl (by omega)
      rw [if_neg e1, e3, nI_1]
      simp only [if_pos hix, if_pos hix2, hcl, hcl2]
      obtain ⟨I', J', f1, f2, f3, f4, f5⟩ := ih (k + 1) (am_u I 76 k (I 60 (3 * k))) (am_u J 78 k (J 74 k)) (by omega) (by omega)
      refine ⟨I', J', f1, fun r r1 r2 => ?_, fun r r1 => ?_, fun a r ha => ?_, fun a r ha => ?_⟩
      · by_cases hr : r = k
        · subst hr
          rw [(f3 r (by omega)).1, (f3 r (by omega)).2]
          simp [am_u]
        · rw [(f2 r (by omega) r2).1, (f2 r (by omega) r2).2]
          simp [am_u, hr]
      · rw [(f3 r (by omega)).1, (f3 r (by omega)).2]
        unfold am_u
        rw [if_neg (by omega), if_neg (by omega)]
        exact ⟨rfl, rfl⟩
      · rw [f4 a r ha]
        unfold am_u
        rw [if_neg (by omega)]
      · rw [f5 a r ha]
        unfold am_u
        rw [if_neg (by omega)]
theorem m_img2 : ∀ (m k : Nat) (I : Nat → Nat → Int32), k ≤ 10 → 10 - k < m → ∃ I', f_X12_image_56 n m I J T (nI k) = f_X12_image_82 n n I' J T 0 ∧ (∀ j, k ≤ j → j < 10 → I' 77 j = I 59 j) ∧ (∀ j, j < k → I' 77 j = I 77 j) ∧ ∀ a j, a ≠ 77 → I' a j = I a j := by
  intro m
  induction m with
  | zero => intro k I _ h; omega
  | succ m ih =>
    intro k I hk hm
    rw [f_X12_image_56]
    by_cases e : k = 10
    · subst e
      rw [if_pos (show (10 : Int32) ≤ nI 10 by decide +kernel)]
      exact ⟨I, rfl, fun j a b => by omega, fun _ _ => rfl, fun _ _ _ => rfl⟩
    · have e1 : ¬ (10 : Int32) ≤ nI k := nI_ge (b := 10) (by omega) (by omega)
      have hix : ok_ix (nI k) 10 := q_ix (by omega) (by omega)
      have hcl : (nI k).toNatClampNeg = k := q_cl (by omega)
      rw [if_neg e1, nI_1]
      simp only [if_pos hix, hcl]
      obtain ⟨I', f1, f2, f3, f4⟩ := ih (k + 1) (am_u I 77 k (I 59 k)) (by omega) (by omega)
      refine ⟨I', f1, fun r r1 r2 => ?_, fun r r1 => ?_, fun a r ha => ?_⟩
      · by_cases hr : r = k
        · subst hr
          rw [f3 r (by omega)]
          simp [am_u]
        · rw [f2 r (by omega) r2]
          simp [am_u, hr]
      · rw [f3 r (by omega)]
        unfold am_u
        rw [if_neg (by omega)]
      · rw [f4 a r ha]
        unfold am_u
        rw [if_neg (by omega)]
theorem m_img3 : ∀ (m k : Nat) (J : Nat → Nat → Int64), k ≤ 240 → 240 - k < m → ∃ J', f_X12_image_82 n m I J T (nI k) = some (I 53 51, am_u (am_u (am_u I 53 57 (I 53 51)) 53 58 (I 53 52)) 53 59 1, J') ∧ (∀ j, k ≤ j → j < 240 → J' 79 j = J 75 j) ∧ (∀ j, j < k → J' 79 j = J 79 j) ∧ ∀ a j, a ≠ 79 → J' a j = J a j := by
  intro m
  induction m with
  | zero => intro k J _ h; omega
  | succ m ih =>
    intro k J hk hm
    rw [f_X12_image_82]
    by_cases e : k = 240
    · subst e
      rw [if_pos (show (240 : Int32) ≤ nI 240 by decide +kernel)]
      exact ⟨J, rfl, fun j a b => by omega, fun _ _ => rfl, fun _ _ _ => rfl⟩
    · have e1 : ¬ (240 : Int32) ≤ nI k := nI_ge (b := 240) (by omega) (by omega)
      have hix : ok_ix (nI k) 240 := q_ix (by omega) (by omega)
      have hcl : (nI k).toNatClampNeg = k := q_cl (by omega)
      rw [if_neg e1, nI_1]
      simp only [if_pos hix, hcl]
      obtain ⟨J', f1, f2, f3, f4⟩ := ih (k + 1) (am_u J 79 k (J 75 k)) (by omega) (by omega)
      refine ⟨J', f1, fun r r1 r2 => ?_, fun r r1 => ?_, fun a r ha => ?_⟩
      · by_cases hr : r = k
        · subst hr
          rw [f3 r (by omega)]
          simp [am_u]
        · rw [f2 r (by omega) r2]
          simp [am_u, hr]
      · rw [f3 r (by omega)]
        unfold am_u
        rw [if_neg (by omega)]
      · rw [f4 a r ha]
        unfold am_u
        rw [if_neg (by omega)]
theorem m_image (hn : 300 ≤ n) (hs : q_sok B s) (hM : q_HM I J s) (hR0 : 0 < q_R (q_sD s)) : ∃ I' J', f_X12_image n I J T = some (nI (q_lN (q_sL s)), I', J') ∧ q_HM I' J' (q_sD s, q_sT s, q_sU s, q_sF s, q_sS s, q_sL s, true, q_sD s, q_sL s) ∧ q_fM I I' J J' := by
  have hW := hs.1.1.1.1
  have hR := hs.1.1.1.2.1
  obtain ⟨u1, u2, u3⟩ := hs.2.2.2.2.2.1
  obtain ⟨a, b, c, d, i, l, m, t⟩ := hM
  obtain ⟨I1, J1, e1, p1, p2, p3, p4⟩ := m_img1 (n := n) (T := T) n 0 (am_u I 53 0 0) J (by omega) (by omega)
  obtain ⟨I2, e2, q1, q2, q3⟩ := m_img2 (n := n) (T := T) (J := J1) n 0 I1 (by omega) (by omega)
  obtain ⟨J2, e3, w1, w2, w3⟩ := m_img3 (n := n) (T := T) (I := I2) n 0 J1 (by omega) (by omega)
  have f1 : ∀ a j, a ≠ 76 → a ≠ 77 → ¬ (a = 53 ∧ j = 0) → I2 a j = I a j := by
    intro a j h1 h2 h3
    rw [q3 a j h2, p3 a j h1]
    unfold am_u
    rw [if_neg h3]
  have e1' : f_X12_image_16 n n (am_u I 53 0 0) J T 0 = f_X12_image_56 n n I1 J1 T 0 := e1
  have e2' : f_X12_image_56 n n I1 J1 T 0 = f_X12_image_82 n n I2 J1 T 0 := e2
  have e3' : f_X12_image_82 n n I2 J1 T 0 = _ := e3
  have g : ∀ a j, a ≠ 76 → a ≠ 77 → ¬ (a = 53 ∧ (j = 0 ∨ j = 57 ∨ j = 58 ∨ j = 59)) → am_u (am_u (am_u I2 53 57 (I2 53 51)) 53 58 (I2 53 52)) 53 59 1 a j = I a j := by
    intro a j h1 h2 h3
    rw [← f1 a j h1 h2 (by omega)]
    unfold am_u
    rw [if_neg (by omega), if_neg (by omega), if_neg (by omega)]
  have gJ : ∀ a j, a ≠ 78 → a ≠ 79 → J2 a j = J a j := fun a j h1 h2 => by rw [w3 a j h2, p4 a j h1]
  unfold f_X12_image
  rw [a.1.2.1, if_neg (nI_ne0 hR0 (by omega)), e1', e2', e3']
  refine ⟨_, J2, by rw [f1 53 51 (by omega) (by omega) (by omega), l.1], ⟨a.of (g 53 26 (by omega) (by omega) (by omega)) (g 53 27 (by omega) (by omega) (by omega)) (fun x y z => g x y (by omega) (by omega) (by omega)), b.of (g 53 6 (by omega) (by omega) (by omega)) (fun y => g 54 y (by omega) (by omega) (by omega)), c.of (g 53 7 (by omega) (by omega) (by omega)) (fun x y z => g x y (by omega) (by omega) (by omega)), (g 53 31 (by omega) (by omega) (by omega)).trans d, i.of (g 53 48 (by omega) (by omega) (by omega)) (fun x y z => g x y (by omega) (by omega) (by omega)), l.of (g 53 51 (by omega) (by omega) (by omega)) (g 53 52 (by omega) (by omega) (by omega)) (fun k => gJ 74 k (by omega) (by omega)) (fun k => gJ 75 k (by omega) (by omega)), rfl, fun _ => ⟨fun r x => ?_, fun p x y => ?_, ?_, ?_, fun r x => ?_, fun j x y r z => ?_⟩⟩, ⟨fun x y z => ?_, fun x y z => gJ x y (by omega) (by omega)⟩⟩
  · show I2 76 r = nI (q_ho (q_sD s) r)
    have : r < q_R (q_sD s) := x
    rw [q3 76 r (by omega), (p1 r (by omega) (by omega)).1]
    exact (a.2.2 r x).1
  · show I2 77 p = nI (q_mi (q_sD s) p)
    have : p ≤ q_W (q_sD s) := y
    rw [q1 p (by omega) (by omega), p3 59 p (by omega)]
    exact (a.2.1 p x y).2
  · show I2 53 51 = _
    rw [f1 53 51 (by omega) (by omega) (by omega)]
    exact l.1
  · show I2 53 52 = _
    rw [f1 53 52 (by omega) (by omega) (by omega)]
    exact l.2.1
  · have : r < q_R (q_sD s) := x
    rw [w3 78 r (by omega), (p1 r (by omega) (by omega)).2]
    exact l.2.2.1 r x
  · have : r < q_R (q_sD s) := z
    have y' : j < q_lN (q_sL s) := y
    have hlt : 6 * (j + q_lU (q_sL s) - q_lN (q_sL s)) + r < 240 := by omega
    show J2 79 (6 * (j + q_lU (q_sL s) - q_lN (q_sL s)) + r) = _
    rw [w1 _ (by omega) hlt, p4 75 _ (by omega)]
    exact l.2.2.2 j x y r z
  · exact g x y (by omega) (by omega) (by omega)
theorem i_image (hn : 300 ≤ n) (hs : q_sok B s) (hX : q_HX V I J s) (hM : q_HM I2 J2 s) : ∃ r I' J' I2' J2' s', f_X11_image n I J T = some (r, I', J') ∧ f_X12_image n I2 J2 T = some (r, I2', J2') ∧ q_HX V I' J' s' ∧ q_HM I2' J2' s' ∧ q_sok B s' ∧ q_fX I I' J J' ∧ q_fM I2 I2' J2 J2' := by
  by_cases hR0 : q_R (q_sD s) = 0
  · unfold f_X11_image f_X11_isRoadless f_X12_image
    rw [hX.1.1.1, hM.1.1.2.1, hR0, hs.1.2.1.mp hR0, if_pos nI_0, if_pos nI_0, Option.bind_some, if_neg q_10]
    exact ⟨_, _, _, _, _, s, rfl, rfl, hX, hM.th _, hs, q_fX.r _ _, q_fM.th _ _ _⟩
  · obtain ⟨I', J', e1, e2, e3⟩ := x_image (n := n) (T := T) hs hX (by omega)
    obtain ⟨I2', J2', e4, e5, e6⟩ := m_image (n := n) (T := T) hn hs hM (by omega)
    exact ⟨_, _, _, _, _, _, e1, e4, e2, e5, ⟨hs.1, hs.2.1, hs.2.2.1, hs.2.2.2.1, hs.2.2.2.2.1, hs.2.2.2.2.2.1, fun _ => ⟨by show 0 < q_R (q_sD s); omega, hs.1.1, ⟨rfl, rfl, rfl, rfl⟩, hs.2.2.2.2.2.1⟩⟩, e3, e6⟩
end QS
