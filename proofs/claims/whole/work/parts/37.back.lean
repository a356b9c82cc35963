/-! ===== back ===== -/
section QS
variable {V : (Nat → Int32) → Int32 → Nat → (Nat → Nat) → Prop} {n B : Nat} {I I2 : Nat → Nat → Int32} {J J2 : Nat → Nat → Int64} {T : Nat} {s : q_Sg}
theorem q_likeR {D E : q_Rd} (h : q_like D E) : q_R E = q_R D ∧ q_W E = q_W D ∧ q_cs E = q_cs D ∧ q_pr E = q_pr D ∧ q_ni E = q_ni D := by
  have e := h.1
  unfold q_R q_W q_cs q_pr q_ni
  rw [e]
  exact ⟨rfl, rfl, rfl, rfl, rfl⟩
/-- the state that the image brings back -/
def q_bk (s : q_Sg) : q_Sg := (q_sE s, q_sT s, q_sU s, q_sF s, q_sS s, q_sM s, s.2.2.2.2.2.2)
theorem q_bk_ok (hs : q_sok B s) (hk : q_sK s = true) : q_sok B (q_bk s) := by
  obtain ⟨⟨hd, hz, hz0⟩, s2, s3, s4, s5, s6, s7⟩ := hs
  obtain ⟨k1, k2, k3, k4⟩ := s7 hk
  obtain ⟨r1, r2, r3, r4, r5⟩ := q_likeR k3
  refine ⟨⟨k2, ?_, ?_⟩, s2, s3, s4, ?_, k4, fun _ => ⟨?_, k2, ⟨rfl, rfl, rfl, rfl⟩, k4⟩⟩
  · show q_R (q_sE s) = 0 ↔ q_W (q_sE s) = 0
    rw [r1, r2]
    exact hz
  · show q_R (q_sE s) = 0 → q_cs (q_sE s) = 0 ∧ q_pr (q_sE s) = 0 ∧ q_ni (q_sE s) = 0
    rw [r1, r3, r4, r5]
    exact hz0
  · show q_sek (q_R (q_sE s)) (q_sS s)
    rw [r1]
    exact s5
  · show 0 < q_R (q_sE s)
    rw [r1]
    exact k1
theorem x_back (hs : q_sok B s) (hX : q_HX V I J s) (hk : q_sK s = true) : ∃ I' J', f_X11_back n I J T = some (nI (q_lN (q_sM s)), I', J') ∧ q_HX V I' J' (q_bk s) ∧ q_fX I I' J J' := by
  obtain ⟨⟨hd, hz, hz0⟩, s2, s3, s4, s5, s6, s7⟩ := hs
  obtain ⟨a, b, c, d, i, l, m, t, w⟩ := hX
  obtain ⟨k1, k2, k3, k4⟩ := s7 hk
  obtain ⟨r1, r2, r3, r4, r5⟩ := q_likeR k3
  obtain ⟨t1, t2⟩ := t hk
  have hW := hd.1.1
  have hR := hd.1.2.1
  obtain ⟨I1, e1, c1, c2, c3, c4⟩ := x_X2_become_r (n := n) (I := I) (J := J) (T := T)
  obtain ⟨I3, J3, e2, d1, d2, d3, d4, d5, d6⟩ := x_X0_become_r (n := n) (I := I1) (J := J) (T := T)
  have hfr : ∀ a k, (a < 3 ∨ 8 < a) → a ≠ 41 → I3 a k = I a k := by
    intro a k h1 h2
    rw [d5 a k h2, c4 a k h1]
  unfold f_X11_back
  rw [m, hk, if_neg (by decide), e1, Option.bind_some, e2, Option.bind_some]
  refine ⟨I3, J3, ?_, ⟨?_, b.of (hfr 1 1 (by omega) (by omega)) (fun y => hfr 2 y (by omega) (by omega)), c.of s3.1 (hfr 19 4 (by omega) (by omega)) (fun x y z w => hfr x y (by omega) (by omega)), ?_, i.of (hfr 37 5 (by omega) (by omega)) (fun x y z => hfr x y (by omega) (by omega)), ?_, ?_, fun _ => ⟨t1.of3 (fun x y z w => hfr _ _ (by omega) (by omega)), ?_⟩, fun j hj => ⟨?_, ?_⟩⟩, ⟨fun a k h => hfr a k (by omega) (by omega), fun a k h => d6 a k (by omega)⟩⟩
  · show some (I3 41 2, _, _) = _
    rw [d1, c4 50 2 (by omega), t2.1]
  · have g : ∀ k, k < 5 → I3 3 k = I 44 k := fun k hk => by rw [d5 3 k (by omega)]; exact c1 k hk
    have g1 : ∀ k, k < 10 → I3 4 k = I 45 k := fun k hk => by rw [d5 4 k (by omega)]; exact (c2 k hk).1
    have g2 : ∀ k, k < 10 → I3 5 k = I 46 k := fun k hk => by rw [d5 5 k (by omega)]; exact (c2 k hk).2
    have g3 : ∀ k, k < 6 → I3 6 k = I 47 k := fun k hk => by rw [d5 6 k (by omega)]; exact (c3 k hk).1
    have g4 : ∀ k, k < 6 → I3 7 k = I 48 k := fun k hk => by rw [d5 7 k (by omega)]; exact (c3 k hk).2.1
    have g5 : ∀ k, k < 6 → I3 8 k = I 49 k := fun k hk => by rw [d5 8 k (by omega)]; exact (c3 k hk).2.2
    exact ⟨⟨(g 0 (by omega)).trans t1.1.1, (g 1 (by omega)).trans t1.1.2.1, (g 2 (by omega)).trans t1.1.2.2.1, (g 3 (by omega)).trans t1.1.2.2.2.1, (g 4 (by omega)).trans t1.1.2.2.2.2⟩, fun p x y => ⟨(g1 p (by have : p ≤ q_W (q_sE s) := y; omega)).trans (t1.2.1 p x y).1, (g2 p (by have : p ≤ q_W (q_sE s) := y; omega)).trans (t1.2.1 p x y).2⟩, fun r x => ⟨(g3 r (by have : r < q_R (q_sE s) := x; omega)).trans (t1.2.2 r x).1, (g4 r (by have : r < q_R (q_sE s) := x; omega)).trans (t1.2.2 r x).2.1, (g5 r (by have : r < q_R (q_sE s) := x; omega)).trans (t1.2.2 r x).2.2⟩⟩
  · rw [hfr 0 15 (by omega) (by omega)]
    exact d
  · refine ⟨?_, ?_, fun r x => ?_, fun j x y r z => ?_⟩
    · rw [d1, c4 50 2 (by omega)]
      exact t2.1
    · rw [d2, c4 50 3 (by omega)]
      exact t2.2.1
    · have x' : r < q_R (q_sE s) := x
      rw [d3 r (by omega)]
      exact t2.2.2.1 r (by omega)
    · have z' : r < q_R (q_sE s) := z
      rw [d4 _ (by omega)]
      exact t2.2.2.2 j x y r (by omega)
  · rw [hfr 0 14 (by omega) (by omega)]
    exact m
  · show q_LX 50 51 52 I3 J3 (q_R (q_sE s)) (q_sM s)
    rw [r1]
    exact t2.of (hfr 50 2 (by omega) (by omega)) (hfr 50 3 (by omega) (by omega)) (fun k => d6 51 k (by omega)) (fun k => d6 52 k (by omega))
  · rw [hfr 32 j (by omega) (by omega)]
    exact (w j hj).1
  · rw [hfr 33 j (by omega) (by omega)]
    exact (w j hj).2
theorem m_bak1 : ∀ (m k : Nat) (I : Nat → Nat → Int32) (J : Nat → Nat → Int64), k ≤ 6 → 6 - k < m → ∃ I' J', f_X12_back_16 n m I J T (nI k) = f_X12_back_56 n n I' J' T 0 ∧ (∀ j, k ≤ j → j < 6 → I' 60 (3 * j) = I 76 j ∧ J' 74 j = J 78 j) ∧ (∀ j, j < k → I' 60 (3 * j) = I 60 (3 * j) ∧ J' 74 j = J 74 j) ∧ (∀ a j, (a = 60 → j % 3 ≠ 0) → I' a j = I a j) ∧ ∀ a j, a ≠ 74 → J' a j = J a j := by
  intro m
  induction m with
  | zero => intro k I J _ h; omega
  | succ m ih =>
    intro k I J hk hm
    rw [f_X12_back_16]
    by_cases e : k = 6
    · subst e
      rw [if_pos (show (6 : Int32) ≤ nI 6 by decide +kernel)]
      exact ⟨I, J, rfl, fun j a b => by omega, fun _ _ => ⟨rfl, rfl⟩, fun _ _ _ => rfl, fun _ _ _ => rfl⟩
    · have e1 : ¬ (6 : Int32) ≤ nI k := nI_ge (b := 6) (by omega) (by omega)
      have e3 : (3 : Int32) * nI k = nI (3 * k) := pk_mul 3 k
      have hix : ok_ix (nI k) 6 := q_ix (by omega) (by omega)
      have hix2 : ok_ix (nI (3 * k)) 18 := q_ix (by omega) (by omega)
      have hcl : (nI k).toNatClampNeg = k := q_cl (by omega)
      have hcl2 : (nI (3 * k)).toNatClampNeg = 3 * k := q_cl (by omega)
      rw [if_neg e1, e3, nI_1]
      simp only [if_pos hix, if_pos hix2, hcl, hcl2]
      obtain ⟨I', J', f1, f2, f3, f4, f5⟩ := ih (k + 1) (am_u I 60 (3 * k) (I 76 k)) (am_u J 74 k (J 78 k)) (by omega) (by omega)
      refine ⟨I', J', f1, fun r r1 r2 => ?_, fun r r1 => ?_, fun a r ha => ?_, fun a r ha => ?_⟩
      · by_cases hr : r = k
        · subst hr
          rw [(f3 r (by omega)).1, (f3 r (by omega)).2]
          simp [am_u]
        · rw [(f2 r (by omega) r2).1, (f2 r (by omega) r2).2]
          simp [am_u, hr]
      · rw [(f3 r (by omega)).1, (f3 r (by omega)).2]
        unfold am_u
        rw [if_neg (by omega), if_neg (by omega)]
        exact ⟨rfl, rfl⟩
      · rw [f4 a r ha]
        unfold am_u
        rw [if_neg (fun z => by have := ha z.1; omega)]
      · rw [f5 a r ha]
        unfold am_u
        rw [if_neg (by omega)]
theorem m_bak2 : ∀ (m k : Nat) (I : Nat → Nat → Int32), k ≤ 10 → 10 - k < m → ∃ I', f_X12_back_56 n m I J T (nI k) = f_X12_back_82 n n I' J T 0 ∧ (∀ j, k ≤ j → j < 10 → I' 59 j = I 77 j) ∧ (∀ j, j < k → I' 59 j = I 59 j) ∧ ∀ a j, a ≠ 59 → I' a j = I a j := by
  intro m
  induction m with
  | zero => intro k I _ h; omega
  | succ m ih =>
    intro k I hk hm
    rw [f_X12_back_56]
    by_cases e : k = 10
    · subst e
      rw [if_pos (show (10 : Int32) ≤ nI 10 by decide +kernel)]
      exact ⟨I, rfl, fun j a b => by omega, fun _ _ => rfl, fun _ _ _ => rfl⟩
    · have e1 : ¬ (10 : Int32) ≤ nI k := nI_ge (b := 10) (by omega) (by omega)
      have hix : ok_ix (nI k) 10 := q_ix (by omega) (by omega)
      have hcl : (nI k).toNatClampNeg = k := q_cl (by omega)
      rw [if_neg e1, nI_1]
      simp only [if_pos hix, hcl]
      obtain ⟨I', f1, f2, f3, f4⟩ := ih (k + 1) (am_u I 59 k (I 77 k)) (by omega) (by omega)
      refine ⟨I', f1, fun r r1 r2 => ?_, fun r r1 => ?_, fun a r ha => ?_⟩
      · by_cases hr : r = k
        · subst hr
          rw [f3 r (by omega)]
          simp [am_u]
        · rw [f2 r (by omega) r2]
          simp [am_u, hr]
      · rw [f3 r (by omega)]
        unfold am_u
        rw [if_neg (by omega)]
      · rw [f4 a r ha]
        unfold am_u
        rw [if_neg (by omega)]
theorem m_bak3 : ∀ (m k : Nat) (J : Nat → Nat → Int64), k ≤ 240 → 240 - k < m → ∃ J', f_X12_back_82 n m I J T (nI k) = some (I 53 57, am_u (am_u I 53 51 (I 53 57)) 53 52 (I 53 58), J') ∧ (∀ j, k ≤ j → j < 240 → J' 75 j = J 79 j) ∧ (∀ j, j < k → J' 75 j = J 75 j) ∧ ∀ a j, a ≠ 75 → J' a j = J a j := by
  intro m
  induction m with
  | zero => intro k J _ h; omega
  | succ m ih =>
    intro k J hk hm
    rw [f_X12_back_82]
    by_cases e : k = 240
    · subst e
      rw [if_pos (show (240 : Int32) ≤ nI 240 by decide +kernel)]
      exact ⟨J, rfl, fun j a b => by omega, fun _ _ => rfl, fun _ _ _ => rfl⟩
    · have e1 : ¬ (240 : Int32) ≤ nI k := nI_ge (b := 240) (by omega) (by omega)
      have hix : ok_ix (nI k) 240 := q_ix (by omega) (by omega)
      have hcl : (nI k).toNatClampNeg = k := q_cl (by omega)
      rw [if_neg e1, nI_1]
      simp only [if_pos hix, hcl]
      obtain ⟨J', f1, f2, f3, f4⟩ := ih (k + 1) (am_u J 75 k (J 79 k)) (by omega) (by omega)
      refine ⟨J', f1, fun r r1 r2 => ?_, fun r r1 => ?_, fun a r ha => ?_⟩
      · by_cases hr : r = k
        · subst hr
          rw [f3 r (by omega)]
          simp [am_u]
        · rw [f2 r (by omega) r2]
          simp [am_u, hr]
      · rw [f3 r (by omega)]
        unfold am_u
        rw [if_neg (by omega)]
      · rw [f4 a r ha]
        unfold am_u
        rw [if_neg (by omega)]
theorem m_back (hn : 300 ≤ n) (hs : q_sok B s) (hM : q_HM I J s) (hk : q_sK s = true) : ∃ I' J', f_X12_back n I J T = some (nI (q_lN (q_sM s)), I', J') ∧ q_HM I' J' (q_bk s) ∧ q_fM I I' J J' := by
  obtain ⟨⟨hd, hz, hz0⟩, s2, s3, s4, s5, s6, s7⟩ := hs
  obtain ⟨a, b, c, d, i, l, m, t⟩ := hM
  obtain ⟨k1, k2, k3, k4⟩ := s7 hk
  obtain ⟨r1, r2, r3, r4, r5⟩ := q_likeR k3
  obtain ⟨t1, t2, t3⟩ := t hk
  obtain ⟨u1, u2, u3⟩ := k4
  have hW := hd.1.1
  have hR := hd.1.2.1
  obtain ⟨I1, J1, e1, p1, p2, p3, p4⟩ := m_bak1 (n := n) (T := T) n 0 (am_u I 53 0 0) J (by omega) (by omega)
  obtain ⟨I2, e2, q1, q2, q3⟩ := m_bak2 (n := n) (T := T) (J := J1) n 0 I1 (by omega) (by omega)
  obtain ⟨J2, e3, w1, w2, w3⟩ := m_bak3 (n := n) (T := T) (I := I2) n 0 J1 (by omega) (by omega)
  have f1 : ∀ a j, (a = 60 → j % 3 ≠ 0) → a ≠ 59 → ¬ (a = 53 ∧ j = 0) → I2 a j = I a j := by
    intro a j h1 h2 h3
    rw [q3 a j h2, p3 a j h1]
    unfold am_u
    rw [if_neg h3]
  have e1' : f_X12_back_16 n n (am_u I 53 0 0) J T 0 = f_X12_back_56 n n I1 J1 T 0 := e1
  have e2' : f_X12_back_56 n n I1 J1 T 0 = f_X12_back_82 n n I2 J1 T 0 := e2
  have e3' : f_X12_back_82 n n I2 J1 T 0 = _ := e3
  have g : ∀ a j, (a = 60 → j % 3 ≠ 0) → a ≠ 59 → ¬ (a = 53 ∧ (j = 0 ∨ j = 51 ∨ j = 52)) → am_u (am_u I2 53 51 (I2 53 57)) 53 52 (I2 53 58) a j = I a j := by
    intro a j h1 h2 h3
    rw [← f1 a j h1 h2 (by omega)]
    unfold am_u
    rw [if_neg (by omega), if_neg (by omega)]
  have g60 : ∀ j, j < 6 → am_u (am_u I2 53 51 (I2 53 57)) 53 52 (I2 53 58) 60 (3 * j) = I 76 j := by
    intro j hj
    show I2 60 (3 * j) = I 76 j
    rw [q3 60 _ (by omega), (p1 j (by omega) hj).1]
    rfl
  have g59 : ∀ j, j < 10 → am_u (am_u I2 53 51 (I2 53 57)) 53 52 (I2 53 58) 59 j = I 77 j := by
    intro j hj
    show I2 59 j = I 77 j
    rw [q1 j (by omega) hj, p3 77 j (by omega)]
    rfl
  have gJ : ∀ a j, a ≠ 74 → a ≠ 75 → J2 a j = J a j := fun a j h1 h2 => by rw [w3 a j h2, p4 a j h1]
  unfold f_X12_back
  rw [m, hk, if_neg (by decide), e1', e2', e3']
  obtain ⟨y1, y2, y3, y4⟩ := k3
  refine ⟨am_u (am_u I2 53 51 (I2 53 57)) 53 52 (I2 53 58), J2, by rw [f1 53 57 (by omega) (by omega) (by omega), t3.1], ⟨⟨?_, fun p x y => ⟨?_, ?_⟩, fun r x => ⟨?_, ?_, ?_⟩⟩, b.of (g 53 6 (by omega) (by omega) (by omega)) (fun y => g 54 y (by omega) (by omega) (by omega)), c.of (g 53 7 (by omega) (by omega) (by omega)) (fun x y z => g x y (by omega) (by omega) (by omega)), (g 53 31 (by omega) (by omega) (by omega)).trans d, i.of (g 53 48 (by omega) (by omega) (by omega)) (fun x y z => g x y (by omega) (by omega) (by omega)), ⟨?_, ?_, fun r x => ?_, fun j x y r z => ?_⟩, ?_, fun _ => ⟨fun r x => ?_, fun p x y => ?_, ?_⟩⟩, ⟨fun x y z => g x y (by omega) (by omega) (by omega), fun x y z => gJ x y (by omega) (by omega)⟩⟩
  · show _ = nI (q_W (q_sE s)) ∧ _ = nI (q_R (q_sE s)) ∧ _ = nI (q_cs (q_sE s)) ∧ _ = nI (q_pr (q_sE s)) ∧ _ = nI (q_ni (q_sE s))
    rw [r1, r2, r3, r4, r5]
    exact ⟨(g 53 26 (by omega) (by omega) (by omega)).trans a.1.1, (g 53 27 (by omega) (by omega) (by omega)).trans a.1.2.1, (g 61 0 (by omega) (by omega) (by omega)).trans a.1.2.2.1, (g 61 1 (by omega) (by omega) (by omega)).trans a.1.2.2.2.1, (g 61 2 (by omega) (by omega) (by omega)).trans a.1.2.2.2.2⟩
  · have y' : p ≤ q_W (q_sE s) := y
    show _ = nI (q_fr (q_sE s) p)
    rw [g 58 p (by omega) (by omega) (by omega), ← y2]
    exact (a.2.1 p x (by omega)).1
  · have y' : p ≤ q_W (q_sE s) := y
    show _ = nI (q_mi (q_sE s) p)
    rw [g59 p (by omega)]
    exact t2 p x (by omega)
  · have x' : r < q_R (q_sE s) := x
    show _ = nI (q_ho (q_sE s) r)
    rw [g60 r (by omega)]
    exact t1 r (by omega)
  · have x' : r < q_R (q_sE s) := x
    show _ = nI (q_wa (q_sE s) r)
    rw [g 60 (3 * r + 1) (by omega) (by omega) (by omega), ← y3]
    exact (a.2.2 r (by omega)).2.1
  · have x' : r < q_R (q_sE s) := x
    show _ = nI (q_se (q_sE s) r)
    rw [g 60 (3 * r + 2) (by omega) (by omega) (by omega), ← y4]
    exact (a.2.2 r (by omega)).2.2
  · show I2 53 57 = _
    rw [f1 53 57 (by omega) (by omega) (by omega)]
    exact t3.1
  · show I2 53 58 = _
    rw [f1 53 58 (by omega) (by omega) (by omega)]
    exact t3.2.1
  · have x' : r < q_R (q_sE s) := x
    rw [w3 74 r (by omega), (p1 r (by omega) (by omega)).2]
    exact t3.2.2.1 r (by omega)
  · have z' : r < q_R (q_sE s) := z
    have y' : j < q_lN (q_sM s) := y
    have hlt : 6 * (j + q_lU (q_sM s) - q_lN (q_sM s)) + r < 240 := by omega
    show J2 75 (6 * (j + q_lU (q_sM s) - q_lN (q_sM s)) + r) = _
    rw [w1 _ (by omega) hlt, p4 79 _ (by omega)]
    exact t3.2.2.2 j x y r (by omega)
  · exact (g 53 59 (by omega) (by omega) (by omega)).trans m
  · have x' : r < q_R (q_sE s) := x
    exact (g 76 r (by omega) (by omega) (by omega)).trans (t1 r (by omega))
  · have y' : p ≤ q_W (q_sE s) := y
    exact (g 77 p (by omega) (by omega) (by omega)).trans (t2 p x (by omega))
  · show q_LM 57 58 78 79 _ J2 (q_R (q_sE s)) (q_sM s)
    rw [r1]
    exact t3.of (g 53 57 (by omega) (by omega) (by omega)) (g 53 58 (by omega) (by omega) (by omega)) (fun k => gJ 78 k (by omega) (by omega)) (fun k => gJ 79 k (by omega) (by omega))
theorem i_back (hn : 300 ≤ n) (hs : q_sok B s) (hX : q_HX V I J s) (hM : q_HM I2 J2 s) : ∃ r I' J' I2' J2' s', f_X11_back n I J T = some (r, I', J') ∧ f_X12_back n I2 J2 T = some (r, I2', J2') ∧ q_HX V I' J' s' ∧ q_HM I2' J2' s' ∧ q_sok B s' ∧ q_fX I I' J J' ∧ q_fM I2 I2' J2 J2' := by
  by_cases hk : q_sK s = true
  · obtain ⟨I', J', e1, e2, e3⟩ := x_back (n := n) (T := T) hs hX hk
    obtain ⟨I2', J2', e4, e5, e6⟩ := m_back (n := n) (T := T) hn hs hM hk
    exact ⟨_, _, _, _, _, _, e1, e4, e2, e5, q_bk_ok hs hk, e3, e6⟩
  · have h1 := hX.2.2.2.2.2.2.1
    have h2 := hM.2.2.2.2.2.2.1
    rw [if_neg hk] at h1 h2
    unfold f_X11_back f_X12_back
    rw [h1, h2, if_pos rfl, if_pos rfl]
    exact ⟨_, _, _, _, _, s, rfl, rfl, hX, hM.th _, hs, q_fX.r _ _, q_fM.th _ _ _⟩
end QS
