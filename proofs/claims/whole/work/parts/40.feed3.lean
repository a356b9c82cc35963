/-! ===== feed, both sides ===== -/
section QS
variable {V : (Nat → Int32) → Int32 → Nat → (Nat → Nat) → Prop} {n B : Nat} {I I2 : Nat → Nat → Int32} {J J2 : Nat → Nat → Int64} {T : Nat} {s : q_Sg}
theorem x_signs4 (hn : 300 ≤ n) (x : Int32) : f_X10_signsOf n I J T x = some (nI (q_cnt x 4)) := by
  have h := x_signs (n := n) (J := J) (T := T) (I := I) x 4 (by omega) n 0 (by omega)
  rw [Nat.zero_add] at h
  have e : q_sh 4 = 24 := by decide +kernel
  rw [e] at h
  exact h
theorem m_signs4 (hn : 300 ≤ n) (x : Int32) : f_X12_bytesIn n I J T x = some (nI (q_cnt x 4)) := by
  have h := m_signs (n := n) (J := J) (T := T) (I := I) x 4 (by omega) n 0 (by omega)
  rw [Nat.zero_add] at h
  have e : q_sh 4 = 24 := by decide +kernel
  rw [e] at h
  exact h
theorem x_put4 (hn : 300 ≤ n) (x : Int32) (t : Nat × (Nat → Nat)) (h1 : q_TX I t) (h2 : t.1 + q_cnt x 4 ≤ 160) : ∃ I', f_X10_append n I J T x = some I' ∧ q_TX I' (q_pu x 4 t) ∧ ∀ a k, ¬ (a = 1 ∧ k = 1) → a ≠ 2 → I' a k = I a k := by
  have h := x_put (n := n) (J := J) (T := T) x 4 (by omega) n I t (by omega) h1 h2
  have e : q_sh 4 = 24 := by decide +kernel
  rw [e] at h
  exact h
theorem m_put4 (hn : 300 ≤ n) (x : Int32) (t : Nat × (Nat → Nat)) (h1 : q_TM I t) (h2 : t.1 + q_cnt x 4 ≤ 160) : ∃ I', f_X12_put n I J T x = some I' ∧ q_TM I' (q_pu x 4 t) ∧ ∀ a k, ¬ (a = 53 ∧ k = 6) → a ≠ 54 → I' a k = I a k := by
  have h := m_put (n := n) (J := J) (T := T) x 4 (by omega) n I t (by omega) h1 h2
  have e : q_sh 4 = 24 := by decide +kernel
  rw [e] at h
  exact h
theorem i_feed (hn : 300 ≤ n) (hs : q_sok B s) (hX : q_HX V I J s) (hM : q_HM I2 J2 s) (x1 x2 x3 x4 x5 : Int32) : ∃ r I' I2' s', f_X11_feed n I J T x1 x2 x3 x4 x5 = some (r, I') ∧ f_X12_feed n I2 J2 T x1 x2 x3 x4 x5 = some (r, I2') ∧ q_HX V I' J s' ∧ q_HM I2' J2 s' ∧ q_sok B s' ∧ q_fX I I' J J ∧ q_fM I2 I2' J2 J2 := by
  have hT := hs.2.1.1
  have k1 := q_cnt_le x1 4
  have k2 := q_cnt_le x2 4
  have k3 := q_cnt_le x3 4
  have k4 := q_cnt_le x4 4
  have k5 := q_cnt_le x5 4
  unfold f_X11_feed f_X12_feed
  simp only [x_signs4 hn, m_signs4 hn, Option.bind_some, hX.2.1.1, hM.2.1.1, nI_add]
  by_cases hc : (q_sT s).1 + (q_cnt x1 4 + q_cnt x2 4 + q_cnt x3 4 + q_cnt x4 4 + q_cnt x5 4) ≤ 160
  · have c1 : nI ((q_sT s).1 + (q_cnt x1 4 + q_cnt x2 4 + q_cnt x3 4 + q_cnt x4 4 + q_cnt x5 4)) ≤ 160 := nI_le (b := 160) hc (by omega)
    have c2 : nI ((q_sT s).1 + q_cnt x1 4 + q_cnt x2 4 + q_cnt x3 4 + q_cnt x4 4 + q_cnt x5 4) ≤ 160 := nI_le (b := 160) (by omega) (by omega)
    rw [if_pos c1, if_pos c2]
    have z1 := q_pu_1 x1 4 (q_sT s)
    have z2 := q_pu_1 x2 4 (q_pu x1 4 (q_sT s))
    have z3 := q_pu_1 x3 4 (q_pu x2 4 (q_pu x1 4 (q_sT s)))
    have z4 := q_pu_1 x4 4 (q_pu x3 4 (q_pu x2 4 (q_pu x1 4 (q_sT s))))
    have z5 := q_pu_1 x5 4 (q_pu x4 4 (q_pu x3 4 (q_pu x2 4 (q_pu x1 4 (q_sT s)))))
    obtain ⟨A1, e1, f1, g1⟩ := x_put4 (n := n) (I := I) (J := J) (T := T) hn x1 (q_sT s) hX.2.1 (by omega)
    obtain ⟨A2, e2, f2, g2⟩ := x_put4 (n := n) (I := A1) (J := J) (T := T) hn x2 _ f1 (by omega)
    obtain ⟨A3, e3, f3, g3⟩ := x_put4 (n := n) (I := A2) (J := J) (T := T) hn x3 _ f2 (by omega)
    obtain ⟨A4, e4, f4, g4⟩ := x_put4 (n := n) (I := A3) (J := J) (T := T) hn x4 _ f3 (by omega)
    obtain ⟨A5, e5, f5, g5⟩ := x_put4 (n := n) (I := A4) (J := J) (T := T) hn x5 _ f4 (by omega)
    obtain ⟨C1, p1, q1, r1⟩ := m_put4 (n := n) (I := am_u I2 53 0 0) (J := J2) (T := T) hn x1 (q_sT s) (hM.th 0).2.1 (by omega)
    obtain ⟨C2, p2, q2, r2⟩ := m_put4 (n := n) (I := C1) (J := J2) (T := T) hn x2 _ q1 (by omega)
    obtain ⟨C3, p3, q3, r3⟩ := m_put4 (n := n) (I := C2) (J := J2) (T := T) hn x3 _ q2 (by omega)
    obtain ⟨C4, p4, q4, r4⟩ := m_put4 (n := n) (I := C3) (J := J2) (T := T) hn x4 _ q3 (by omega)
    obtain ⟨C5, p5, q5, r5⟩ := m_put4 (n := n) (I := C4) (J := J2) (T := T) hn x5 _ q4 (by omega)
    rw [e1, Option.bind_some, e2, Option.bind_some, e3, Option.bind_some, e4, Option.bind_some, e5, Option.bind_some, p1, Option.bind_some, p2, Option.bind_some, p3, Option.bind_some, p4, Option.bind_some, p5, Option.bind_some, f5.1, q5.1]
    have o1 : q_tok (q_pu x1 4 (q_sT s)) := q_pu_ok x1 4 _ (by omega) hs.2.1
    have o2 := q_pu_ok x2 4 _ (by omega) o1
    have o3 := q_pu_ok x3 4 _ (by omega) o2
    have o4 := q_pu_ok x4 4 _ (by omega) o3
    have o5 := q_pu_ok x5 4 _ (by omega) o4
    have hx : ∀ a k, ¬ (a = 1 ∧ k = 1) → a ≠ 2 → A5 a k = I a k := fun a k u v => by rw [g5 a k u v, g4 a k u v, g3 a k u v, g2 a k u v, g1 a k u v]
    have hm : ∀ a k, ¬ (a = 53 ∧ k = 6) → a ≠ 54 → C5 a k = am_u I2 53 0 0 a k := fun a k u v => by rw [r5 a k u v, r4 a k u v, r3 a k u v, r2 a k u v, r1 a k u v]
    obtain ⟨a, b, c, d, i, l, m, t, w⟩ := hX
    obtain ⟨a', b', c', d', i', l', m', t'⟩ := hM.th 0
    obtain ⟨s1, s2, s3, s4, s5, s6, s7⟩ := hs
    refine ⟨_, A5, C5, (q_sD s, q_pu x5 4 (q_pu x4 4 (q_pu x3 4 (q_pu x2 4 (q_pu x1 4 (q_sT s))))), s.2.2), rfl, rfl, ⟨a.of3 (fun x y z w => hx x y (by omega) (by omega)), f5, c.of s3.1 (hx 19 4 (by omega) (by omega)) (fun x y z w => hx x y (by omega) (by omega)), (hx 0 15 (by omega) (by omega)).trans d, i.of (hx 37 5 (by omega) (by omega)) (fun x y z => hx x y (by omega) (by omega)), l.of (hx 41 2 (by omega) (by omega)) (hx 41 3 (by omega) (by omega)) (fun _ => rfl) (fun _ => rfl), (hx 0 14 (by omega) (by omega)).trans m, fun z => ⟨(t z).1.of3 (fun x y z w => hx _ _ (by omega) (by omega)), (t z).2.of (hx 50 2 (by omega) (by omega)) (hx 50 3 (by omega) (by omega)) (fun _ => rfl) (fun _ => rfl)⟩, fun j hj => ⟨(hx 32 j (by omega) (by omega)).trans (w j hj).1, (hx 33 j (by omega) (by omega)).trans (w j hj).2⟩⟩, ⟨a'.of (hm 53 26 (by omega) (by omega)) (hm 53 27 (by omega) (by omega)) (fun x y z => hm x y (by omega) (by omega)), q5, c'.of (hm 53 7 (by omega) (by omega)) (fun x y z => hm x y (by omega) (by omega)), (hm 53 31 (by omega) (by omega)).trans d', i'.of (hm 53 48 (by omega) (by omega)) (fun x y z => hm x y (by omega) (by omega)), l'.of (hm 53 51 (by omega) (by omega)) (hm 53 52 (by omega) (by omega)) (fun _ => rfl) (fun _ => rfl), (hm 53 59 (by omega) (by omega)).trans m', fun z => ⟨fun r hr => (hm 76 r (by omega) (by omega)).trans ((t' z).1 r hr), fun p h1 h2 => (hm 77 p (by omega) (by omega)).trans ((t' z).2.1 p h1 h2), (t' z).2.2.of (hm 53 57 (by omega) (by omega)) (hm 53 58 (by omega) (by omega)) (fun _ => rfl) (fun _ => rfl)⟩⟩, ⟨s1, o5, s3, s4, s5, s6, s7⟩, ⟨fun x y z => hx x y (by omega) (by omega), fun _ _ _ => rfl⟩, ⟨fun x y z => by rw [hm x y (by omega) (by omega)]; unfold am_u; rw [if_neg (by omega)], fun _ _ _ => rfl⟩⟩
  · have c1 : ¬ nI ((q_sT s).1 + (q_cnt x1 4 + q_cnt x2 4 + q_cnt x3 4 + q_cnt x4 4 + q_cnt x5 4)) ≤ 160 := nI_ge (a := 160) (by omega) (by omega)
    have c2 : ¬ nI ((q_sT s).1 + q_cnt x1 4 + q_cnt x2 4 + q_cnt x3 4 + q_cnt x4 4 + q_cnt x5 4) ≤ 160 := nI_ge (a := 160) (by omega) (by omega)
    rw [if_neg c1, if_neg c2]
    exact ⟨_, _, _, s, rfl, rfl, hX, hM.th _, hs, q_fX.r _ _, q_fM.th _ _ _⟩
end QS
