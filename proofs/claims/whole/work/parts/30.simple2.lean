/-! ===== the calls that change one thing, both sides at once ===== -/
section QS
variable {V : (Nat → Int32) → Int32 → Nat → (Nat → Nat) → Prop} {n B : Nat} {I I2 : Nat → Nat → Int32} {J J2 : Nat → Nat → Int64} {T : Nat} {s : q_Sg}
theorem i_end (hs : q_sok B s) (hX : q_HX V I J s) (hM : q_HM I2 J2 s) (x : Int32) : ∃ r I' I2' s', f_X11_end n I J T x = some (r, I') ∧ f_X12_end n I2 J2 T x = some (r, I2') ∧ q_HX V I' J s' ∧ q_HM I2' J2 s' ∧ q_sok B s' ∧ q_fX I I' J J ∧ q_fM I2 I2' J2 J2 := by
  unfold f_X11_end f_X12_end
  have hT := hs.2.1.1
  have e1 := hX.2.1.1
  have e2 := hM.2.1.1
  by_cases h0 : x < 0
  · rw [if_pos h0, if_pos h0]
    exact ⟨_, _, _, s, rfl, rfl, hX, hM.th _, hs, q_fX.r _ _, q_fM.th _ _ _⟩
  · rw [if_neg h0, if_neg h0, e1, e2]
    obtain ⟨k, hk, rfl⟩ := nI_of h0
    by_cases h : k ≤ (q_sT s).1
    · rw [if_pos (nI_le h (by omega)), if_pos (nI_le h (by omega))]
      obtain ⟨a, b, c, d, i, l, m, t, w⟩ := hX
      obtain ⟨s1, s2, s3, s4, s5, s6, s7⟩ := hs
      obtain ⟨a', b', c', d', i', l', m', t'⟩ := hM.th 0
      refine ⟨_, _, _, (q_sD s, (k, (q_sT s).2), s.2.2), rfl, rfl, ⟨a.of3 (fun x y z w => (by unfold am_u; rw [if_neg (by omega)])), ⟨rfl, fun j hj => b.2 j (Nat.lt_of_lt_of_le hj h)⟩, c.of s3.1 rfl (fun x y z w => (by unfold am_u; rw [if_neg (by omega)])), d, i.of rfl (fun x y z => (by unfold am_u; rw [if_neg (by omega)])), l.of rfl rfl (fun _ => rfl) (fun _ => rfl), m, fun z => ⟨(t z).1.of3 (fun x y z w => (by unfold am_u; rw [if_neg (by omega)])), (t z).2.of rfl rfl (fun _ => rfl) (fun _ => rfl)⟩, fun j hj => w j hj⟩, ⟨a'.of rfl rfl (fun x y z => (by unfold am_u; rw [if_neg (by omega)])), ⟨rfl, fun j hj => b'.2 j (Nat.lt_of_lt_of_le hj h)⟩, c'.of rfl (fun x y z => (by unfold am_u; rw [if_neg (by omega)])), d', i'.of rfl (fun x y z => (by unfold am_u; rw [if_neg (by omega)])), l'.of rfl rfl (fun _ => rfl) (fun _ => rfl), m', fun z => ⟨(t' z).1, (t' z).2.1, (t' z).2.2.of rfl rfl (fun _ => rfl) (fun _ => rfl)⟩⟩, ⟨s1, ⟨by show k ≤ 160; omega, fun j hj => s2.2 j (Nat.lt_of_lt_of_le hj h)⟩, s3, s4, s5, s6, s7⟩, ⟨fun x y z => (by unfold am_u; rw [if_neg (by omega)]), fun _ _ _ => rfl⟩, ⟨fun x y z => (by unfold am_u; rw [if_neg (by omega), if_neg (by omega)]), fun _ _ _ => rfl⟩⟩
    · rw [if_neg (nI_ge (by omega) (by omega)), if_neg (nI_ge (by omega) (by omega))]
      exact ⟨_, _, _, s, rfl, rfl, hX, hM.th _, hs, q_fX.r _ _, q_fM.th _ _ _⟩
theorem i_dig (hs : q_sok B s) (hX : q_HX V I J s) (hM : q_HM I2 J2 s) (x y : Int32) : ∃ r I' I2' s', f_X11_dig n I J T x y = some (r, I') ∧ f_X12_dig n I2 J2 T x y = some (r, I2') ∧ q_HX V I' J s' ∧ q_HM I2' J2 s' ∧ q_sok B s' ∧ q_fX I I' J J ∧ q_fM I2 I2' J2 J2 := by
  have hW := hs.1.1.1.1
  have hR := hs.1.1.1.2.1
  have hM0 := (hM.th 0).1.1
  unfold f_X11_dig f_X12_dig
  rcases g_home (n := n) (J := J) (J2 := J2) (T := T) (by omega) (by omega) hs.1.2.1 hX.1.1.1 hM0.1 hM0.2.1 x with ⟨p, p1, p2, p3, p4, p5, p6⟩ | ⟨p5, p6⟩
  · rw [p5, p6, Option.bind_some, Option.bind_some, if_neg q_10, if_neg q_10, if_neg p4]
    rcases g_on y 1 20 (A := 1) (B := 20) (A' := 1) (B' := 20) rfl rfl rfl rfl (by omega) (by omega) with ⟨k, h1, h2, h3, h4, h5⟩ | ⟨h4, h5⟩
    · rw [h4, h5, Option.bind_some, Option.bind_some, if_neg q_10, if_neg q_10]
      have hcl : x.toNatClampNeg = p := by rw [p3]; exact q_cl (by omega)
      have hix : ok_ix x 10 := by rw [p3]; exact q_ix (by omega) (by omega)
      rw [if_pos hix, if_pos hix, hcl]
      obtain ⟨a, b, c, d, i, l, m, t, w⟩ := hX
      obtain ⟨s1, s2, s3, s4, s5, s6, s7⟩ := hs
      obtain ⟨a', b', c', d', i', l', m', t'⟩ := hM.th 0
      refine ⟨_, _, _, (((q_sD s).1, q_fr (q_sD s), (fun j => if j = p then k else q_mi (q_sD s) j), q_ho (q_sD s), q_wa (q_sD s), q_se (q_sD s)), s.2), rfl, rfl, ⟨⟨a.1, fun j j1 j2 => ⟨(a.2.1 j j1 j2).1, ?_⟩, a.2.2⟩, b.of rfl (fun _ => rfl), c.of s3.1 rfl (fun x y z w => (by unfold am_u; rw [if_neg (by omega)])), d, i.of rfl (fun x y z => (by unfold am_u; rw [if_neg (by omega)])), l.of rfl rfl (fun _ => rfl) (fun _ => rfl), m, fun z => ⟨(t z).1.of3 (fun x y z w => (by unfold am_u; rw [if_neg (by omega)])), (t z).2.of rfl rfl (fun _ => rfl) (fun _ => rfl)⟩, fun j hj => w j hj⟩, ⟨⟨a'.1, fun j j1 j2 => ⟨(a'.2.1 j j1 j2).1, ?_⟩, a'.2.2⟩, b'.of rfl (fun _ => rfl), c'.of rfl (fun x y z => (by unfold am_u; rw [if_neg (by omega)])), d', i'.of rfl (fun x y z => (by unfold am_u; rw [if_neg (by omega)])), l'.of rfl rfl (fun _ => rfl) (fun _ => rfl), m', fun z => ⟨(t' z).1, (t' z).2.1, (t' z).2.2.of rfl rfl (fun _ => rfl) (fun _ => rfl)⟩⟩, ⟨⟨⟨s1.1.1, fun j j1 j2 => ⟨(s1.1.2.1 j j1 j2).1, ?_⟩, s1.1.2.2⟩, s1.2⟩, s2, s3, s4, s5, s6, s7⟩, ⟨fun x y z => (by unfold am_u; rw [if_neg (by omega)]), fun _ _ _ => rfl⟩, ⟨fun x y z => (by unfold am_u; rw [if_neg (by omega), if_neg (by omega)]), fun _ _ _ => rfl⟩⟩
      · show am_u I 5 p y 5 j = nI (if j = p then k else q_mi (q_sD s) j)
        by_cases e : j = p
        · rw [if_pos e, e, h3]
          simp [am_u]
        · rw [if_neg e, ← (a.2.1 j j1 j2).2]
          unfold am_u
          rw [if_neg (by omega)]
      · show am_u (am_u I2 53 0 0) 59 p y 59 j = nI (if j = p then k else q_mi (q_sD s) j)
        by_cases e : j = p
        · rw [if_pos e, e, h3]
          simp [am_u]
        · rw [if_neg e, ← (a'.2.1 j j1 j2).2]
          unfold am_u
          rw [if_neg (by omega)]
      · show 1 ≤ (if j = p then k else q_mi (q_sD s) j) ∧ (if j = p then k else q_mi (q_sD s) j) ≤ 20
        by_cases e : j = p
        · rw [if_pos e]
          exact ⟨h1, h2⟩
        · rw [if_neg e]
          exact (s1.1.2.1 j j1 j2).2
    · rw [h4, h5, Option.bind_some, Option.bind_some, if_pos rfl, if_pos rfl]
      exact ⟨_, _, _, s, rfl, rfl, hX, hM.th _, hs, q_fX.r _ _, q_fM.th _ _ _⟩
  · rw [p5, Option.bind_some, if_pos rfl]
    rcases p6 with p6 | ⟨p6, p7⟩
    · rw [p6, Option.bind_some, if_pos rfl]
      exact ⟨_, _, _, s, rfl, rfl, hX, hM.th _, hs, q_fX.r _ _, q_fM.th _ _ _⟩
    · rw [p6, Option.bind_some, if_neg q_10, if_pos p7]
      exact ⟨_, _, _, s, rfl, rfl, hX, hM.th _, hs, q_fX.r _ _, q_fM.th _ _ _⟩
theorem i_move (hs : q_sok B s) (hX : q_HX V I J s) (hM : q_HM I2 J2 s) (x y : Int32) : ∃ r I' I2' s', f_X11_move n I J T x y = some (r, I') ∧ f_X12_move n I2 J2 T x y = some (r, I2') ∧ q_HX V I' J s' ∧ q_HM I2' J2 s' ∧ q_sok B s' ∧ q_fX I I' J J ∧ q_fM I2 I2' J2 J2 := by
  have hW := hs.1.1.1.1
  have hR := hs.1.1.1.2.1
  have hM0 := (hM.th 0).1.1
  unfold f_X11_move f_X12_move
  rcases g_rider (n := n) (J := J) (J2 := J2) (T := T) (by omega) hX.1.1.2.1 hM0.2.1 x with ⟨r, r1, r2, r3, r4⟩ | ⟨r3, r4⟩
  · rw [r3, r4, Option.bind_some, Option.bind_some, if_neg q_10, if_neg q_10]
    rcases g_home (n := n) (J := J) (J2 := J2) (T := T) (by omega) (by omega) hs.1.2.1 hX.1.1.1 hM0.1 hM0.2.1 y with ⟨p, p1, p2, p3, p4, p5, p6⟩ | ⟨p5, p6⟩
    · rw [p5, p6, Option.bind_some, Option.bind_some, if_neg q_10, if_neg q_10, if_neg p4]
      have hcl : x.toNatClampNeg = r := by rw [r2]; exact q_cl (by omega)
      have hix : ok_ix x 6 := by rw [r2]; exact q_ix (by omega) (by omega)
      have hx3 : (3 : Int32) * x = nI (3 * r) := by rw [r2]; exact pk_mul 3 r
      have hcl2 : (nI (3 * r)).toNatClampNeg = 3 * r := q_cl (by omega)
      have hix2 : ok_ix (nI (3 * r)) 18 := q_ix (by omega) (by omega)
      have h1 : I 6 r = nI (q_ho (q_sD s) r) := (hX.1.2.2 r r1).1
      have h2 : am_u I2 53 0 0 60 (3 * r) = nI (q_ho (q_sD s) r) := ((hM.th 0).1.2.2 r r1).1
      have h2' : I2 60 (3 * r) = nI (q_ho (q_sD s) r) := (hM.1.2.2 r r1).1
      simp only [if_pos hix, hcl, hx3, if_pos hix2, hcl2, h1, h2']
      by_cases h : nI (q_ho (q_sD s) r) = y
      · rw [if_pos h, if_pos h]
        exact ⟨_, _, _, s, rfl, rfl, hX, hM.th _, hs, q_fX.r _ _, q_fM.th _ _ _⟩
      · rw [if_neg h, if_neg h]
        obtain ⟨a, b, c, d, i, l, m, t, w⟩ := hX
        obtain ⟨s1, s2, s3, s4, s5, s6, s7⟩ := hs
        obtain ⟨a', b', c', d', i', l', m', t'⟩ := hM.th 0
        refine ⟨_, _, _, (((q_sD s).1, q_fr (q_sD s), q_mi (q_sD s), (fun j => if j = r then p else q_ho (q_sD s) j), q_wa (q_sD s), q_se (q_sD s)), s.2), rfl, rfl, ⟨⟨a.1, a.2.1, fun j j1 => ⟨?_, (a.2.2 j j1).2⟩⟩, b.of rfl (fun _ => rfl), c.of s3.1 rfl (fun x y z w => (by unfold am_u; rw [if_neg (by omega)])), d, i.of rfl (fun x y z => (by unfold am_u; rw [if_neg (by omega)])), l.of rfl rfl (fun _ => rfl) (fun _ => rfl), m, fun z => ⟨(t z).1.of3 (fun x y z w => (by unfold am_u; rw [if_neg (by omega)])), (t z).2.of rfl rfl (fun _ => rfl) (fun _ => rfl)⟩, fun j hj => w j hj⟩, ⟨⟨a'.1, a'.2.1, fun j j1 => ⟨?_, ?_, ?_⟩⟩, b'.of rfl (fun _ => rfl), c'.of rfl (fun x y z => (by unfold am_u; rw [if_neg (by omega)])), d', i'.of rfl (fun x y z => (by unfold am_u; rw [if_neg (by omega)])), l'.of rfl rfl (fun _ => rfl) (fun _ => rfl), m', fun z => ⟨(t' z).1, (t' z).2.1, (t' z).2.2.of rfl rfl (fun _ => rfl) (fun _ => rfl)⟩⟩, ⟨⟨⟨s1.1.1, s1.1.2.1, fun j j1 => ?_⟩, s1.2⟩, s2, s3, s4, s5, s6, s7⟩, ⟨fun x y z => (by unfold am_u; rw [if_neg (by omega)]), fun _ _ _ => rfl⟩, ⟨fun x y z => (by unfold am_u; rw [if_neg (by omega), if_neg (by omega)]), fun _ _ _ => rfl⟩⟩
        · show am_u I 6 r y 6 j = nI (if j = r then p else q_ho (q_sD s) j)
          by_cases e : j = r
          · rw [if_pos e, e, p3]
            simp [am_u]
          · rw [if_neg e, ← (a.2.2 j j1).1]
            unfold am_u
            rw [if_neg (by omega)]
        · show am_u (am_u I2 53 0 0) 60 (3 * r) y 60 (3 * j) = nI (if j = r then p else q_ho (q_sD s) j)
          by_cases e : j = r
          · rw [if_pos e, e, p3]
            simp [am_u]
          · rw [if_neg e, ← (a'.2.2 j j1).1]
            unfold am_u
            rw [if_neg (by omega)]
        · rw [← (a'.2.2 j j1).2.1]
          unfold am_u
          rw [if_neg (by omega)]
        · rw [← (a'.2.2 j j1).2.2]
          unfold am_u
          rw [if_neg (by omega)]
        · obtain ⟨z1, z2, z3⟩ := s1.1.2.2 j j1
          show 1 ≤ (if j = r then p else q_ho (q_sD s) j) ∧ (if j = r then p else q_ho (q_sD s) j) ≤ _ ∧ _
          by_cases e : j = r
          · rw [if_pos e]
            exact ⟨p1, p2, z3⟩
          · rw [if_neg e]
            exact ⟨z1, z2, z3⟩
    · rw [p5, Option.bind_some, if_pos rfl]
      rcases p6 with p6 | ⟨p6, p7⟩
      · rw [p6, Option.bind_some, if_pos rfl]
        exact ⟨_, _, _, s, rfl, rfl, hX, hM.th _, hs, q_fX.r _ _, q_fM.th _ _ _⟩
      · rw [p6, Option.bind_some, if_neg q_10, if_pos p7]
        exact ⟨_, _, _, s, rfl, rfl, hX, hM.th _, hs, q_fX.r _ _, q_fM.th _ _ _⟩
  · rw [r3, r4, Option.bind_some, Option.bind_some, if_pos rfl, if_pos rfl]
    exact ⟨_, _, _, s, rfl, rfl, hX, hM.th _, hs, q_fX.r _ _, q_fM.th _ _ _⟩
end QS
