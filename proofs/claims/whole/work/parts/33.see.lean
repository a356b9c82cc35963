/-! ===== see, bridge ===== -/
section QS
variable {V : (Nat → Int32) → Int32 → Nat → (Nat → Nat) → Prop} {n B : Nat} {I I2 : Nat → Nat → Int32} {J J2 : Nat → Nat → Int64} {T : Nat} {s : q_Sg}
theorem i_see (hs : q_sok B s) (hX : q_HX V I J s) (hM : q_HM I2 J2 s) (x y z : Int32) : ∃ r I' I2' s', f_X11_see n I J T x y z = some (r, I') ∧ f_X12_see n I2 J2 T x y z = some (r, I2') ∧ q_HX V I' J s' ∧ q_HM I2' J2 s' ∧ q_sok B s' ∧ q_fX I I' J J ∧ q_fM I2 I2' J2 J2 := by
  have hW := hs.1.1.1.1
  have hR := hs.1.1.1.2.1
  have hS := hs.2.2.2.2.1
  have hS1 : (q_sS s).1 ≤ 10 := hS.1
  have hM0 := (hM.th 0).1.1
  unfold f_X11_see f_X12_see
  rcases g_rider (n := n) (J := J) (J2 := J2) (T := T) (by omega) hX.1.1.2.1 hM0.2.1 x with ⟨r, r1, r2, r3, r4⟩ | ⟨r3, r4⟩
  · rw [r3, r4, Option.bind_some, Option.bind_some, if_neg q_10, if_neg q_10]
    rcases g_on y 0 99999 (A := 0) (B := 99999) (A' := 0) (B' := 99999) rfl rfl rfl rfl (by omega) (by omega) with ⟨k, h1, h2, h3, h4, h5⟩ | ⟨h4, h5⟩
    · rw [h4, h5, Option.bind_some, Option.bind_some, if_neg q_10, if_neg q_10]
      rcases g_on z 1 999 (A := 1) (B := 999) (A' := 1) (B' := 999) rfl rfl rfl rfl (by omega) (by omega) with ⟨v, v1, v2, v3, v4, v5⟩ | ⟨v4, v5⟩
      · rw [v4, v5, Option.bind_some, Option.bind_some, if_neg q_10, if_neg q_10]
        unfold f_X8_append
        have n1 := hX.2.2.2.2.1.1
        have n2 := hM.2.2.2.2.1.1
        simp only [n1, n2]
        by_cases hn : (q_sS s).1 = 10
        · have e1 : ¬ nI (q_sS s).1 < 10 := by rw [hn]; decide +kernel
          have e2 : nI (q_sS s).1 = 10 := by rw [hn]; rfl
          rw [if_neg e1, Option.bind_some, if_pos rfl, if_pos e2]
          exact ⟨_, _, _, s, rfl, rfl, hX, hM.th _, hs, q_fX.r _ _, q_fM.th _ _ _⟩
        · have hn2 : (q_sS s).1 < 10 := by omega
          have e1 : nI (q_sS s).1 < 10 := nI_lt (b := 10) hn2 (by omega)
          have e2 : ¬ nI (q_sS s).1 = 10 := fun z => hn ((nI_eq (b := 10) (by omega) (by omega)).mp z)
          rw [if_pos e1, if_neg e2]
          simp only [if_pos (q_ix hn2 (by omega) : ok_ix (nI (q_sS s).1) 10)]
          rw [Option.bind_some, if_neg q_10]
          have hcl : (nI (q_sS s).1).toNatClampNeg = (q_sS s).1 := q_cl (by omega)
          simp only [hcl]
          obtain ⟨a, b, c, d, i, l, m, t, w⟩ := hX
          obtain ⟨s1, s2, s3, s4, s5, s6, s7⟩ := hs
          obtain ⟨a', b', c', d', i', l', m', t'⟩ := hM.th 0
          subst r2 h3 v3
          refine ⟨_, _, _, (q_sD s, q_sT s, q_sU s, q_sF s, ((q_sS s).1 + 1, (fun j => if j = (q_sS s).1 then r else (q_sS s).2.1 j), (fun j => if j = (q_sS s).1 then k else (q_sS s).2.2.1 j), (fun j => if j = (q_sS s).1 then v else (q_sS s).2.2.2 j)), s.2.2.2.2.2), rfl, rfl, ⟨a.of3 (fun x y z w => (by unfold am_u; rw [if_neg (by omega), if_neg (by omega), if_neg (by omega), if_neg (by omega)])), b.of rfl (fun _ => rfl), c.of s3.1 rfl (fun x y z w => (by unfold am_u; rw [if_neg (by omega), if_neg (by omega), if_neg (by omega), if_neg (by omega)])), d, ⟨nI_1 _, fun j hj => ⟨?_, ?_, ?_⟩⟩, l.of rfl rfl (fun _ => rfl) (fun _ => rfl), m, fun z => ⟨(t z).1.of3 (fun x y z w => (by unfold am_u; rw [if_neg (by omega), if_neg (by omega), if_neg (by omega), if_neg (by omega)])), (t z).2.of rfl rfl (fun _ => rfl) (fun _ => rfl)⟩, fun j hj => w j hj⟩, ⟨a'.of rfl rfl (fun x y z => (by unfold am_u; rw [if_neg (by omega), if_neg (by omega), if_neg (by omega), if_neg (by omega)])), b'.of rfl (fun _ => rfl), c'.of rfl (fun x y z => (by unfold am_u; rw [if_neg (by omega), if_neg (by omega), if_neg (by omega), if_neg (by omega)])), d', ⟨nI_1 _, fun j hj => ⟨?_, ?_, ?_⟩⟩, l'.of rfl rfl (fun _ => rfl) (fun _ => rfl), m', fun z => ⟨(t' z).1, (t' z).2.1, (t' z).2.2.of rfl rfl (fun _ => rfl) (fun _ => rfl)⟩⟩, ⟨s1, s2, s3, s4, ⟨hn2, fun j hj => ⟨?_, ?_, ?_⟩⟩, s6, s7⟩, ⟨fun x y z => (by unfold am_u; rw [if_neg (by omega), if_neg (by omega), if_neg (by omega), if_neg (by omega)]), fun _ _ _ => rfl⟩, ⟨fun x y z => (by unfold am_u; rw [if_neg (by omega), if_neg (by omega), if_neg (by omega), if_neg (by omega), if_neg (by omega)]), fun _ _ _ => rfl⟩⟩
          · have hj' : j < (q_sS s).1 + 1 := hj
            show _ = nI (if j = (q_sS s).1 then r else (q_sS s).2.1 j)
            by_cases e : j = (q_sS s).1
            · rw [if_pos e, e]; simp [am_u]
            · rw [if_neg e, ← (i.2 j (by omega)).1]; simp [am_u, e]
          · have hj' : j < (q_sS s).1 + 1 := hj
            show _ = nI (if j = (q_sS s).1 then k else (q_sS s).2.2.1 j)
            by_cases e : j = (q_sS s).1
            · rw [if_pos e, e]; simp [am_u]
            · rw [if_neg e, ← (i.2 j (by omega)).2.1]; simp [am_u, e]
          · have hj' : j < (q_sS s).1 + 1 := hj
            show _ = nI (if j = (q_sS s).1 then v else (q_sS s).2.2.2 j)
            by_cases e : j = (q_sS s).1
            · rw [if_pos e, e]; simp [am_u]
            · rw [if_neg e, ← (i.2 j (by omega)).2.2]; simp [am_u, e]
          · have hj' : j < (q_sS s).1 + 1 := hj
            show _ = nI (if j = (q_sS s).1 then r else (q_sS s).2.1 j)
            by_cases e : j = (q_sS s).1
            · rw [if_pos e, e]; simp [am_u]
            · rw [if_neg e, ← (i'.2 j (by omega)).1]; simp [am_u, e]
          · have hj' : j < (q_sS s).1 + 1 := hj
            show _ = nI (if j = (q_sS s).1 then k else (q_sS s).2.2.1 j)
            by_cases e : j = (q_sS s).1
            · rw [if_pos e, e]; simp [am_u]
            · rw [if_neg e, ← (i'.2 j (by omega)).2.1]; simp [am_u, e]
          · have hj' : j < (q_sS s).1 + 1 := hj
            show _ = nI (if j = (q_sS s).1 then v else (q_sS s).2.2.2 j)
            by_cases e : j = (q_sS s).1
            · rw [if_pos e, e]; simp [am_u]
            · rw [if_neg e, ← (i'.2 j (by omega)).2.2]; simp [am_u, e]
          · have hj' : j < (q_sS s).1 + 1 := hj
            show (if j = (q_sS s).1 then r else (q_sS s).2.1 j) < _
            by_cases e : j = (q_sS s).1
            · rw [if_pos e]; exact r1
            · rw [if_neg e]; exact (s5.2 j (by omega)).1
          · have hj' : j < (q_sS s).1 + 1 := hj
            show (if j = (q_sS s).1 then k else (q_sS s).2.2.1 j) ≤ _
            by_cases e : j = (q_sS s).1
            · rw [if_pos e]; exact h2
            · rw [if_neg e]; exact (s5.2 j (by omega)).2.1
          · have hj' : j < (q_sS s).1 + 1 := hj
            show 1 ≤ (if j = (q_sS s).1 then v else (q_sS s).2.2.2 j) ∧ (if j = (q_sS s).1 then v else (q_sS s).2.2.2 j) ≤ 999
            by_cases e : j = (q_sS s).1
            · rw [if_pos e]; exact ⟨v1, v2⟩
            · rw [if_neg e]; exact (s5.2 j (by omega)).2.2
      · rw [v4, v5, Option.bind_some, Option.bind_some, if_pos rfl, if_pos rfl]
        exact ⟨_, _, _, s, rfl, rfl, hX, hM.th _, hs, q_fX.r _ _, q_fM.th _ _ _⟩
    · rw [h4, h5, Option.bind_some, Option.bind_some, if_pos rfl, if_pos rfl]
      exact ⟨_, _, _, s, rfl, rfl, hX, hM.th _, hs, q_fX.r _ _, q_fM.th _ _ _⟩
  · rw [r3, r4, Option.bind_some, Option.bind_some, if_pos rfl, if_pos rfl]
    exact ⟨_, _, _, s, rfl, rfl, hX, hM.th _, hs, q_fX.r _ _, q_fM.th _ _ _⟩
/-- a road with one way of a mile -/
def q_br (D : q_Rd) (p : Nat) : q_Rd := (D.1, q_fr D, (fun j => if j = p then 1 else q_mi D j), q_ho D, q_wa D, q_se D)
theorem q_br_ok {D : q_Rd} (hD : q_ok D) (p : Nat) : q_ok (q_br D p) := by
  refine ⟨hD.1, fun j j1 j2 => ⟨(hD.2.1 j j1 j2).1, ?_⟩, hD.2.2⟩
  show 1 ≤ (if j = p then 1 else q_mi D j) ∧ (if j = p then 1 else q_mi D j) ≤ 20
  by_cases e : j = p
  · rw [if_pos e]; omega
  · rw [if_neg e]; exact (hD.2.1 j j1 j2).2
theorem am_uu (I : Nat → Nat → Int32) (a k : Nat) (v : Int32) : am_u (am_u I a k v) a k (I a k) = I := by
  funext x y
  unfold am_u
  by_cases h : x = a ∧ y = k
  · rw [if_pos h, h.1, h.2]
  · rw [if_neg h, if_neg h]
theorem x_bridged {D : q_Rd} (hn : 300 ≤ n) (hD : q_ok D) (h : q_RX I D) {p : Nat} (h1 : 1 ≤ p) (hp : p ≤ q_W D) : f_X11_costIfBridged n I J T (nI p) = some (nI (q_cost (q_br D p) (2 ^ q_R D - 1)), I) := by
  have hW := hD.1.1
  have hR := hD.1.2.1
  have hix : ok_ix (nI p) 10 := q_ix (by omega) (by omega)
  have hcl : (nI p).toNatClampNeg = p := q_cl (by omega)
  obtain ⟨e1, e2⟩ := q_pow2 (q_R D) hR
  have hx : q_RX (am_u I 5 p 1) (q_br D p) := by
    refine ⟨h.1, fun j j1 j2 => ⟨(h.2.1 j j1 j2).1, ?_⟩, h.2.2⟩
    show am_u I 5 p 1 5 j = nI (if j = p then 1 else q_mi D j)
    by_cases e : j = p
    · rw [if_pos e, e]
      simp [am_u]
      rfl
    · rw [if_neg e, ← (h.2.1 j j1 j2).2]
      simp [am_u, e]
  have e3 := x_everyone (n := n) (J := J) (T := T) (q_br_ok hD p) hx
  have e4 : q_R (q_br D p) = q_R D := rfl
  rw [e4] at e3
  have e5 := x_costFor (n := n) (J := J) (T := T) hn (q_br_ok hD p) hx (S := 2 ^ q_R D - 1) (by omega)
  unfold f_X11_costIfBridged
  simp only [if_pos hix, hcl, e3, e5, Option.bind_some, am_uu]
/-- the cheapest of the rest -/
def q_bs (C : Nat → Nat) : Nat → Nat → Nat × Nat → Nat × Nat
  | 0, _, bc => bc
  | k + 1, p, bc => q_bs C k (p + 1) (if C p < bc.2 then (p, C p) else bc)
theorem x_bridge_loop {D : q_Rd} (hn : 300 ≤ n) (hD : q_ok D) (h : q_RX I D) (x : Int32) : ∀ (m k p b c : Nat), 1 ≤ p → k + p = q_W D + 1 → k < m → c ≤ 7200 → f_X11_bridge_29 n m I J T x (nI b) (nI c) (nI p) = some (if x = 0 then nI (q_bs (fun p => q_cost (q_br D p) (2 ^ q_R D - 1)) k p (b, c)).1 else nI (q_bs (fun p => q_cost (q_br D p) (2 ^ q_R D - 1)) k p (b, c)).2, I) := by
  have hW := hD.1.1
  intro m
  induction m with
  | zero => intro k p b c _ _ h; omega
  | succ m ih =>
    intro k p b c h1 h2 h3 h4
    rw [f_X11_bridge_29, h.1.1]
    cases k with
    | zero =>
      rw [if_pos (nI_lt (by omega) (by omega))]
      by_cases hx : x = 0
      · rw [if_pos hx, if_pos hx]; rfl
      · rw [if_neg hx, if_neg hx]; rfl
    | succ k =>
      have hc := q_cost_le (q_br_ok hD p) (2 ^ q_R D - 1)
      rw [if_neg (nI_nlt (by omega) (by omega)), x_bridged hn hD h h1 (by omega), Option.bind_some]
      unfold f_X11_bridge_61
      by_cases hb : c ≤ q_cost (q_br D p) (2 ^ q_R D - 1)
      · rw [if_pos (nI_le hb (by omega)), nI_1, ih k (p + 1) b c (by omega) (by omega) (by omega) h4]
        have e : q_bs (fun p => q_cost (q_br D p) (2 ^ q_R D - 1)) (k + 1) p (b, c) = q_bs (fun p => q_cost (q_br D p) (2 ^ q_R D - 1)) k (p + 1) (b, c) := by
          show q_bs _ k (p + 1) (if q_cost (q_br D p) (2 ^ q_R D - 1) < c then _ else _) = _
          rw [if_neg (by omega)]
        rw [e]
      · rw [if_neg (nI_ge (by omega) (by omega)), nI_1, ih k (p + 1) p _ (by omega) (by omega) (by omega) hc]
        have e : q_bs (fun p => q_cost (q_br D p) (2 ^ q_R D - 1)) (k + 1) p (b, c) = q_bs (fun p => q_cost (q_br D p) (2 ^ q_R D - 1)) k (p + 1) (p, q_cost (q_br D p) (2 ^ q_R D - 1)) := by
          show q_bs _ k (p + 1) (if q_cost (q_br D p) (2 ^ q_R D - 1) < c then _ else _) = _
          rw [if_pos (by omega)]
        rw [e]
theorem m_bridged {D : q_Rd} (h : q_RM I D) (p : Nat) : q_RM (am_u I 59 p 1) (q_br D p) := by
  refine ⟨h.1, fun j j1 j2 => ⟨(h.2.1 j j1 j2).1, ?_⟩, h.2.2⟩
  show am_u I 59 p 1 59 j = nI (if j = p then 1 else q_mi D j)
  by_cases e : j = p
  · rw [if_pos e, e]
    simp [am_u]
    rfl
  · rw [if_neg e, ← (h.2.1 j j1 j2).2]
    simp [am_u, e]
theorem m_bridge_loop {D : q_Rd} (hn : 300 ≤ n) (hD : q_ok D) (h : q_RM I D) (x : Int32) : ∀ (m k p b c : Nat), 1 ≤ p → k + p = q_W D + 1 → k < m → c ≤ 7200 → b < 100 → f_X12_bridge_31 n m I J T x (nI b) (nI c) (nI p) = some (if x = 0 then nI (q_bs (fun p => q_cost (q_br D p) (2 ^ q_R D - 1)) k p (b, c)).1 else nI (q_bs (fun p => q_cost (q_br D p) (2 ^ q_R D - 1)) k p (b, c)).2, I) := by
  have hW := hD.1.1
  have hR := hD.1.2.1
  obtain ⟨p1, p2⟩ := q_pow2 (q_R D) hR
  intro m
  induction m with
  | zero => intro k p b c _ _ h; omega
  | succ m ih =>
    intro k p b c h1 h2 h3 h4 h5
    rw [f_X12_bridge_31, h.1.1]
    cases k with
    | zero =>
      rw [if_pos (nI_lt (by omega) (by omega))]
      by_cases hx : x = 0
      · rw [if_pos hx, if_pos hx]; rfl
      · rw [if_neg hx, if_neg hx]; rfl
    | succ k =>
      have hc := q_cost_le (q_br_ok hD p) (2 ^ q_R D - 1)
      have hix : ok_ix (nI p) 10 := q_ix (by omega) (by omega)
      have hcl : (nI p).toNatClampNeg = p := q_cl (by omega)
      have e3 := m_everybody (n := n) (J := J) (T := T) (q_br_ok hD p) (m_bridged h p)
      have e4 : q_R (q_br D p) = q_R D := rfl
      rw [e4] at e3
      have e5 := m_costOf (n := n) (J := J) (T := T) hn (q_br_ok hD p) (m_bridged h p) (S := 2 ^ q_R D - 1) (by omega)
      have e6 : ¬ nI b = -1 := fun z => by
        have := congrArg Int32.toInt z
        rw [nI_toInt (by omega), show (-1 : Int32).toInt = -1 by decide] at this
        omega
      rw [if_neg (nI_nlt (by omega) (by omega))]
      simp only [if_pos hix, hcl, e3, e5, Option.bind_some, am_uu, if_neg e6]
      unfold f_X12_bridge_90 f_X12_bridge_96
      by_cases hb : q_cost (q_br D p) (2 ^ q_R D - 1) < c
      · rw [if_pos (nI_lt hb (by omega)), nI_1, ih k (p + 1) p _ (by omega) (by omega) (by omega) hc (by omega)]
        have e : q_bs (fun p => q_cost (q_br D p) (2 ^ q_R D - 1)) (k + 1) p (b, c) = q_bs (fun p => q_cost (q_br D p) (2 ^ q_R D - 1)) k (p + 1) (p, q_cost (q_br D p) (2 ^ q_R D - 1)) := by
          show q_bs _ k (p + 1) (if q_cost (q_br D p) (2 ^ q_R D - 1) < c then _ else _) = _
          rw [if_pos (by omega)]
        rw [e]
      · rw [if_neg (nI_nlt (by omega) (by omega)), nI_1, ih k (p + 1) b c (by omega) (by omega) (by omega) h4 h5]
        have e : q_bs (fun p => q_cost (q_br D p) (2 ^ q_R D - 1)) (k + 1) p (b, c) = q_bs (fun p => q_cost (q_br D p) (2 ^ q_R D - 1)) k (p + 1) (b, c) := by
          show q_bs _ k (p + 1) (if q_cost (q_br D p) (2 ^ q_R D - 1) < c then _ else _) = _
          rw [if_neg (by omega)]
        rw [e]
theorem i_bridge (hn : 300 ≤ n) (hs : q_sok B s) (hX : q_HX V I J s) (hM : q_HM I2 J2 s) (x : Int32) : ∃ r, f_X11_bridge n I J T x = some (r, I) ∧ f_X12_bridge n I2 J2 T x = some (r, am_u I2 53 0 0) := by
  obtain ⟨hd, hz, hz0⟩ := hs.1
  have hW := hd.1.1
  have hR := hd.1.2.1
  have hM0 := (hM.th 0).1
  unfold f_X11_bridge f_X12_bridge f_X11_isRoadless
  rw [hX.1.1.1, hM.1.1.2.1]
  by_cases hR0 : q_R (q_sD s) = 0
  · rw [hR0, hz.mp hR0, if_pos nI_0, if_pos nI_0, Option.bind_some, if_neg q_10]
    exact ⟨_, rfl, rfl⟩
  · have hW0 : ¬ q_W (q_sD s) = 0 := fun z => hR0 (hz.mpr z)
    rw [if_neg (nI_ne0 (by omega) (by omega)), if_neg (nI_ne0 (by omega) (by omega)), Option.bind_some, if_pos rfl]
    rcases g_on x 0 1 (A := 0) (B := 1) (A' := 0) (B' := 1) rfl rfl rfl rfl (by omega) (by omega) with ⟨k, h1, h2, h3, h4, h5⟩ | ⟨h4, h5⟩
    · have hc := q_cost_le (q_br_ok hd 1) (2 ^ q_R (q_sD s) - 1)
      have b1 := x_bridged (n := n) (J := J) (T := T) hn hd hX.1 (p := 1) (by omega) (by omega)
      have b2 := x_bridge_loop (n := n) (J := J) (T := T) hn hd hX.1 x n (q_W (q_sD s) - 1) 2 1 _ (by omega) (by omega) (by omega) hc
      have b3 := m_bridge_loop (n := n) (J := J2) (T := T) hn hd hM0 x (n - 1) (q_W (q_sD s) - 1) 2 1 _ (by omega) (by omega) (by omega) hc (by omega)
      have hn1 : n = (n - 1) + 1 := by omega
      rw [h4, h5, Option.bind_some, Option.bind_some, if_neg q_10, if_neg q_10, show (1 : Int32) = nI 1 from rfl, b1, Option.bind_some, show (2 : Int32) = nI 2 from rfl, b2]
      refine ⟨_, rfl, ?_⟩
      rw [← b3]
      have e0 : f_X12_bridge_31 n n (am_u I2 53 0 0) J2 T x (-nI 1) 0 (nI 1) = f_X12_bridge_31 n ((n - 1) + 1) (am_u I2 53 0 0) J2 T x (-nI 1) 0 (nI 1) := by rw [← hn1]
      rw [e0, f_X12_bridge_31, hM0.1.1, if_neg (nI_nlt (by omega) (by omega))]
      have hix : ok_ix (nI 1) 10 := q_ix (by omega) (by omega)
      have hcl : (nI 1).toNatClampNeg = 1 := q_cl (by omega)
      obtain ⟨p1, p2⟩ := q_pow2 (q_R (q_sD s)) hR
      have e3 := m_everybody (n := n) (J := J2) (T := T) (q_br_ok hd 1) (m_bridged hM0 1)
      have e4 : q_R (q_br (q_sD s) 1) = q_R (q_sD s) := rfl
      rw [e4] at e3
      have e5 := m_costOf (n := n) (J := J2) (T := T) hn (q_br_ok hd 1) (m_bridged hM0 1) (S := 2 ^ q_R (q_sD s) - 1) (by omega)
      simp only [if_pos hix, hcl, e3, e5, Option.bind_some, am_uu]
      rw [if_pos (show -nI 1 = (-1 : Int32) by decide +kernel)]
      unfold f_X12_bridge_90 f_X12_bridge_96
      rw [nI_1]
    · rw [h4, h5, Option.bind_some, Option.bind_some, if_pos rfl, if_pos rfl]
      exact ⟨_, rfl, rfl⟩
end QS
