/-! ===== call after call: those that weigh nothing ===== -/
section QS
variable {n B : Nat} {I : Nat → Nat → Int32} {J : Nat → Nat → Int64} {T : Nat}
theorem c_count (hn : 300 ≤ n) (x1 : Int32) (h : q_IV B I J T) : ∃ r, f_X11_count n I J T x1 = some r ∧ f_X12_count n I J T x1 = some (r, am_u I 53 0 0) ∧ q_IV B (am_u I 53 0 0) J T := by
  obtain ⟨s, hs, hX, hM, hT⟩ := h
  obtain ⟨r, a, b⟩ := i_count (n := n) (T := T) hs hX hM x1
  exact ⟨r, a, b, s, hs, hX.fM hs.2.2.1 (q_fM.th I J 0), hM.th 0, hT⟩
theorem c_paid (hn : 300 ≤ n) (x1 : Int32) (h : q_IV B I J T) : ∃ r, f_X11_paid n I J T x1 = some r ∧ f_X12_paid n I J T x1 = some (r, am_u I 53 0 0) ∧ q_IV B (am_u I 53 0 0) J T := by
  obtain ⟨s, hs, hX, hM, hT⟩ := h
  obtain ⟨r, a, b⟩ := i_paid (n := n) (T := T) hs hX hM x1
  exact ⟨r, a, b, s, hs, hX.fM hs.2.2.1 (q_fM.th I J 0), hM.th 0, hT⟩
theorem c_way (hn : 300 ≤ n) (x1 x2 : Int32) (h : q_IV B I J T) : ∃ r, f_X11_way n I J T x1 x2 = some r ∧ f_X12_way n I J T x1 x2 = some (r, am_u I 53 0 0) ∧ q_IV B (am_u I 53 0 0) J T := by
  obtain ⟨s, hs, hX, hM, hT⟩ := h
  obtain ⟨r, a, b⟩ := i_way (n := n) (T := T) hs hX hM x1 x2
  exact ⟨r, a, b, s, hs, hX.fM hs.2.2.1 (q_fM.th I J 0), hM.th 0, hT⟩
theorem c_between (hn : 300 ≤ n) (x1 x2 : Int32) (h : q_IV B I J T) : ∃ r, f_X11_between n I J T x1 x2 = some r ∧ f_X12_between n I J T x1 x2 = some (r, am_u I 53 0 0) ∧ q_IV B (am_u I 53 0 0) J T := by
  obtain ⟨s, hs, hX, hM, hT⟩ := h
  obtain ⟨r, a, b⟩ := i_between (n := n) (T := T) hn hs hX hM x1 x2
  exact ⟨r, a, b, s, hs, hX.fM hs.2.2.1 (q_fM.th I J 0), hM.th 0, hT⟩
theorem c_cost (hn : 300 ≤ n) (x1 x2 : Int32) (h : q_IV B I J T) : ∃ r, f_X11_cost n I J T x1 x2 = some r ∧ f_X12_cost n I J T x1 x2 = some (r, am_u I 53 0 0) ∧ q_IV B (am_u I 53 0 0) J T := by
  obtain ⟨s, hs, hX, hM, hT⟩ := h
  obtain ⟨r, a, b⟩ := i_cost (n := n) (T := T) hn hs hX hM x1 x2
  exact ⟨r, a, b, s, hs, hX.fM hs.2.2.1 (q_fM.th I J 0), hM.th 0, hT⟩
theorem c_bridge (hn : 300 ≤ n) (x1 : Int32) (h : q_IV B I J T) : ∃ r, f_X11_bridge n I J T x1 = some (r, I) ∧ f_X12_bridge n I J T x1 = some (r, am_u I 53 0 0) ∧ q_IV B (am_u I 53 0 0) J T := by
  obtain ⟨s, hs, hX, hM, hT⟩ := h
  obtain ⟨r, a, b⟩ := i_bridge (n := n) (T := T) hn hs hX hM x1
  exact ⟨r, a, b, s, hs, hX.fM hs.2.2.1 (q_fM.th I J 0), hM.th 0, hT⟩
theorem c_feet (hn : 300 ≤ n) (x1 : Int32) (h : q_IV B I J T) : ∃ r I' I2', f_X11_feet n I J T x1 = some (r, I') ∧ f_X12_feet n I' J T x1 = some (r, I2') ∧ q_IV B I2' J T := by
  obtain ⟨s, hs, hX, hM, hT⟩ := h
  obtain ⟨r, I', J', I2', J2', T', a, c, iv⟩ := q_two (s := s) (B' := B) (I := I) (J := J) (A := fun r I' J' => f_X11_feet n I J T x1 = some (r, I') ∧ J' = J) (fun r1 I1 J1 r2 I2 J2 h1 h2 => by
    have e' := Prod.mk.inj (Option.some.inj (h1.1.symm.trans h2.1))
    exact ⟨e'.1, e'.2, h1.2.trans h2.2.symm⟩) (C := fun I2 J2 r I2' J2' T' => f_X12_feet n I2 J2 T x1 = some (r, I2') ∧ J2' = J2 ∧ T' = T) (fun I2 J2 hM2 => by
    obtain ⟨r, I', I2', s', a, b, c, d, e, f, g⟩ := i_feet (n := n) (T := T) hs hX hM2 x1
    exact ⟨r, I', J, I2', J2, T, s', ⟨a, rfl⟩, ⟨b, rfl, rfl⟩, hT, c, d, e, f, g⟩) hM
  obtain ⟨a1, a2⟩ := a
  obtain ⟨c1, c2, c3⟩ := c
  subst a2
  subst c2
  subst c3
  exact ⟨r, I', I2', a1, c1, iv⟩
theorem c_end (hn : 300 ≤ n) (x1 : Int32) (h : q_IV B I J T) : ∃ r I' I2', f_X11_end n I J T x1 = some (r, I') ∧ f_X12_end n I' J T x1 = some (r, I2') ∧ q_IV B I2' J T := by
  obtain ⟨s, hs, hX, hM, hT⟩ := h
  obtain ⟨r, I', J', I2', J2', T', a, c, iv⟩ := q_two (s := s) (B' := B) (I := I) (J := J) (A := fun r I' J' => f_X11_end n I J T x1 = some (r, I') ∧ J' = J) (fun r1 I1 J1 r2 I2 J2 h1 h2 => by
    have e' := Prod.mk.inj (Option.some.inj (h1.1.symm.trans h2.1))
    exact ⟨e'.1, e'.2, h1.2.trans h2.2.symm⟩) (C := fun I2 J2 r I2' J2' T' => f_X12_end n I2 J2 T x1 = some (r, I2') ∧ J2' = J2 ∧ T' = T) (fun I2 J2 hM2 => by
    obtain ⟨r, I', I2', s', a, b, c, d, e, f, g⟩ := i_end (n := n) (T := T) hs hX hM2 x1
    exact ⟨r, I', J, I2', J2, T, s', ⟨a, rfl⟩, ⟨b, rfl, rfl⟩, hT, c, d, e, f, g⟩) hM
  obtain ⟨a1, a2⟩ := a
  obtain ⟨c1, c2, c3⟩ := c
  subst a2
  subst c2
  subst c3
  exact ⟨r, I', I2', a1, c1, iv⟩
theorem c_dig (hn : 300 ≤ n) (x1 x2 : Int32) (h : q_IV B I J T) : ∃ r I' I2', f_X11_dig n I J T x1 x2 = some (r, I') ∧ f_X12_dig n I' J T x1 x2 = some (r, I2') ∧ q_IV B I2' J T := by
  obtain ⟨s, hs, hX, hM, hT⟩ := h
  obtain ⟨r, I', J', I2', J2', T', a, c, iv⟩ := q_two (s := s) (B' := B) (I := I) (J := J) (A := fun r I' J' => f_X11_dig n I J T x1 x2 = some (r, I') ∧ J' = J) (fun r1 I1 J1 r2 I2 J2 h1 h2 => by
    have e' := Prod.mk.inj (Option.some.inj (h1.1.symm.trans h2.1))
    exact ⟨e'.1, e'.2, h1.2.trans h2.2.symm⟩) (C := fun I2 J2 r I2' J2' T' => f_X12_dig n I2 J2 T x1 x2 = some (r, I2') ∧ J2' = J2 ∧ T' = T) (fun I2 J2 hM2 => by
    obtain ⟨r, I', I2', s', a, b, c, d, e, f, g⟩ := i_dig (n := n) (T := T) hs hX hM2 x1 x2
    exact ⟨r, I', J, I2', J2, T, s', ⟨a, rfl⟩, ⟨b, rfl, rfl⟩, hT, c, d, e, f, g⟩) hM
  obtain ⟨a1, a2⟩ := a
  obtain ⟨c1, c2, c3⟩ := c
  subst a2
  subst c2
  subst c3
  exact ⟨r, I', I2', a1, c1, iv⟩
theorem c_move (hn : 300 ≤ n) (x1 x2 : Int32) (h : q_IV B I J T) : ∃ r I' I2', f_X11_move n I J T x1 x2 = some (r, I') ∧ f_X12_move n I' J T x1 x2 = some (r, I2') ∧ q_IV B I2' J T := by
  obtain ⟨s, hs, hX, hM, hT⟩ := h
  obtain ⟨r, I', J', I2', J2', T', a, c, iv⟩ := q_two (s := s) (B' := B) (I := I) (J := J) (A := fun r I' J' => f_X11_move n I J T x1 x2 = some (r, I') ∧ J' = J) (fun r1 I1 J1 r2 I2 J2 h1 h2 => by
    have e' := Prod.mk.inj (Option.some.inj (h1.1.symm.trans h2.1))
    exact ⟨e'.1, e'.2, h1.2.trans h2.2.symm⟩) (C := fun I2 J2 r I2' J2' T' => f_X12_move n I2 J2 T x1 x2 = some (r, I2') ∧ J2' = J2 ∧ T' = T) (fun I2 J2 hM2 => by
    obtain ⟨r, I', I2', s', a, b, c, d, e, f, g⟩ := i_move (n := n) (T := T) hs hX hM2 x1 x2
    exact ⟨r, I', J, I2', J2, T, s', ⟨a, rfl⟩, ⟨b, rfl, rfl⟩, hT, c, d, e, f, g⟩) hM
  obtain ⟨a1, a2⟩ := a
  obtain ⟨c1, c2, c3⟩ := c
  subst a2
  subst c2
  subst c3
  exact ⟨r, I', I2', a1, c1, iv⟩
theorem c_see (hn : 300 ≤ n) (x1 x2 x3 : Int32) (h : q_IV B I J T) : ∃ r I' I2', f_X11_see n I J T x1 x2 x3 = some (r, I') ∧ f_X12_see n I' J T x1 x2 x3 = some (r, I2') ∧ q_IV B I2' J T := by
  obtain ⟨s, hs, hX, hM, hT⟩ := h
  obtain ⟨r, I', J', I2', J2', T', a, c, iv⟩ := q_two (s := s) (B' := B) (I := I) (J := J) (A := fun r I' J' => f_X11_see n I J T x1 x2 x3 = some (r, I') ∧ J' = J) (fun r1 I1 J1 r2 I2 J2 h1 h2 => by
    have e' := Prod.mk.inj (Option.some.inj (h1.1.symm.trans h2.1))
    exact ⟨e'.1, e'.2, h1.2.trans h2.2.symm⟩) (C := fun I2 J2 r I2' J2' T' => f_X12_see n I2 J2 T x1 x2 x3 = some (r, I2') ∧ J2' = J2 ∧ T' = T) (fun I2 J2 hM2 => by
    obtain ⟨r, I', I2', s', a, b, c, d, e, f, g⟩ := i_see (n := n) (T := T) hs hX hM2 x1 x2 x3
    exact ⟨r, I', J, I2', J2, T, s', ⟨a, rfl⟩, ⟨b, rfl, rfl⟩, hT, c, d, e, f, g⟩) hM
  obtain ⟨a1, a2⟩ := a
  obtain ⟨c1, c2, c3⟩ := c
  subst a2
  subst c2
  subst c3
  exact ⟨r, I', I2', a1, c1, iv⟩
theorem c_feed (hn : 300 ≤ n) (x1 x2 x3 x4 x5 : Int32) (h : q_IV B I J T) : ∃ r I' I2', f_X11_feed n I J T x1 x2 x3 x4 x5 = some (r, I') ∧ f_X12_feed n I' J T x1 x2 x3 x4 x5 = some (r, I2') ∧ q_IV B I2' J T := by
  obtain ⟨s, hs, hX, hM, hT⟩ := h
  obtain ⟨r, I', J', I2', J2', T', a, c, iv⟩ := q_two (s := s) (B' := B) (I := I) (J := J) (A := fun r I' J' => f_X11_feed n I J T x1 x2 x3 x4 x5 = some (r, I') ∧ J' = J) (fun r1 I1 J1 r2 I2 J2 h1 h2 => by
    have e' := Prod.mk.inj (Option.some.inj (h1.1.symm.trans h2.1))
    exact ⟨e'.1, e'.2, h1.2.trans h2.2.symm⟩) (C := fun I2 J2 r I2' J2' T' => f_X12_feed n I2 J2 T x1 x2 x3 x4 x5 = some (r, I2') ∧ J2' = J2 ∧ T' = T) (fun I2 J2 hM2 => by
    obtain ⟨r, I', I2', s', a, b, c, d, e, f, g⟩ := i_feed (n := n) (T := T) hn hs hX hM2 x1 x2 x3 x4 x5
    exact ⟨r, I', J, I2', J2, T, s', ⟨a, rfl⟩, ⟨b, rfl, rfl⟩, hT, c, d, e, f, g⟩) hM
  obtain ⟨a1, a2⟩ := a
  obtain ⟨c1, c2, c3⟩ := c
  subst a2
  subst c2
  subst c3
  exact ⟨r, I', I2', a1, c1, iv⟩
theorem c_undo (hn : 300 ≤ n) (hB : B < 2 ^ 20) (h : q_IV B I J T) : ∃ r I' J' I2' J2', f_X11_undo n I J T = some (r, I', J') ∧ f_X12_undo n I' J' T = some (r, I2', J2') ∧ q_IV B I2' J2' T := by
  obtain ⟨s, hs, hX, hM, hT⟩ := h
  obtain ⟨r, I', J', I2', J2', T', a, c, iv⟩ := q_two (s := s) (B' := B) (I := I) (J := J) (A := fun r I' J' => f_X11_undo n I J T = some (r, I', J')) (fun r1 I1 J1 r2 I2 J2 h1 h2 => by
    have e' := Prod.mk.inj (Option.some.inj (h1.symm.trans h2))
    exact ⟨e'.1, Prod.mk.inj e'.2⟩) (C := fun I2 J2 r I2' J2' T' => f_X12_undo n I2 J2 T = some (r, I2', J2') ∧ T' = T) (fun I2 J2 hM2 => by
    obtain ⟨r, I', J', I2', J2', s', a, b, c, d, e, f, g⟩ := i_undo (n := n) (T := T) hn hB hs hX hM2
    exact ⟨r, I', J', I2', J2', T, s', a, ⟨b, rfl⟩, hT, c, d, e, f, g⟩) hM
  obtain ⟨c1, c3⟩ := c
  subst c3
  exact ⟨r, I', J', I2', J2', a, c1, iv⟩
theorem c_image (hn : 300 ≤ n) (h : q_IV B I J T) : ∃ r I' J' I2' J2', f_X11_image n I J T = some (r, I', J') ∧ f_X12_image n I' J' T = some (r, I2', J2') ∧ q_IV B I2' J2' T := by
  obtain ⟨s, hs, hX, hM, hT⟩ := h
  obtain ⟨r, I', J', I2', J2', T', a, c, iv⟩ := q_two (s := s) (B' := B) (I := I) (J := J) (A := fun r I' J' => f_X11_image n I J T = some (r, I', J')) (fun r1 I1 J1 r2 I2 J2 h1 h2 => by
    have e' := Prod.mk.inj (Option.some.inj (h1.symm.trans h2))
    exact ⟨e'.1, Prod.mk.inj e'.2⟩) (C := fun I2 J2 r I2' J2' T' => f_X12_image n I2 J2 T = some (r, I2', J2') ∧ T' = T) (fun I2 J2 hM2 => by
    obtain ⟨r, I', J', I2', J2', s', a, b, c, d, e, f, g⟩ := i_image (n := n) (T := T) hn hs hX hM2
    exact ⟨r, I', J', I2', J2', T, s', a, ⟨b, rfl⟩, hT, c, d, e, f, g⟩) hM
  obtain ⟨c1, c3⟩ := c
  subst c3
  exact ⟨r, I', J', I2', J2', a, c1, iv⟩
theorem c_back (hn : 300 ≤ n) (h : q_IV B I J T) : ∃ r I' J' I2' J2', f_X11_back n I J T = some (r, I', J') ∧ f_X12_back n I' J' T = some (r, I2', J2') ∧ q_IV B I2' J2' T := by
  obtain ⟨s, hs, hX, hM, hT⟩ := h
  obtain ⟨r, I', J', I2', J2', T', a, c, iv⟩ := q_two (s := s) (B' := B) (I := I) (J := J) (A := fun r I' J' => f_X11_back n I J T = some (r, I', J')) (fun r1 I1 J1 r2 I2 J2 h1 h2 => by
    have e' := Prod.mk.inj (Option.some.inj (h1.symm.trans h2))
    exact ⟨e'.1, Prod.mk.inj e'.2⟩) (C := fun I2 J2 r I2' J2' T' => f_X12_back n I2 J2 T = some (r, I2', J2') ∧ T' = T) (fun I2 J2 hM2 => by
    obtain ⟨r, I', J', I2', J2', s', a, b, c, d, e, f, g⟩ := i_back (n := n) (T := T) hn hs hX hM2
    exact ⟨r, I', J', I2', J2', T, s', a, ⟨b, rfl⟩, hT, c, d, e, f, g⟩) hM
  obtain ⟨c1, c3⟩ := c
  subst c3
  exact ⟨r, I', J', I2', J2', a, c1, iv⟩
end QS
