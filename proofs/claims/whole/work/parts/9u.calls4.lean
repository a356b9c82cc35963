/-! ===== call after call: order, ride, rider, fault ===== -/
section QS
variable {n B : Nat} {I : Nat → Nat → Int32} {J : Nat → Nat → Int64} {T : Nat}
theorem c_order (hn : 300 ≤ n) (x1 x2 x3 : Int32) (h : q_IV B I J T) : ∃ r I' I2', f_X11_order n I J T x1 x2 x3 = some (r, I') ∧ f_X12_order n I' J T x1 x2 x3 = some (r, I2') ∧ q_IV B I2' J T := by
  obtain ⟨s, hs, hX, hM, hT⟩ := h
  obtain ⟨r, I', J', I2', J2', T', a, c, iv⟩ := q_two (s := s) (B' := B) (I := I) (J := J) (A := fun r I' J' => f_X11_order n I J T x1 x2 x3 = some (r, I') ∧ J' = J) (fun r1 I1 J1 r2 I2 J2 h1 h2 => by
    have e' := Prod.mk.inj (Option.some.inj (h1.1.symm.trans h2.1))
    exact ⟨e'.1, e'.2, h1.2.trans h2.2.symm⟩) (C := fun I2 J2 r I2' J2' T' => f_X12_order n I2 J2 T x1 x2 x3 = some (r, I2') ∧ J2' = J2 ∧ T' = T) (fun I2 J2 hM2 => by
    obtain ⟨r, I', I2', a, b, c, d, f, g⟩ := i_order (n := n) (T := T) hn hs hX hM2 x1 x2 x3
    exact ⟨r, I', J, I2', J2, T, s, ⟨a, rfl⟩, ⟨b, rfl, rfl⟩, hT, c, d, hs, f, g⟩) hM
  obtain ⟨a1, a2⟩ := a
  obtain ⟨c1, c2, c3⟩ := c
  subst a2
  subst c2
  subst c3
  exact ⟨r, I', I2', a1, c1, iv⟩
theorem c_ride (hn : 300 ≤ n) (x1 x2 x3 : Int32) (h : q_IV B I J T) : ∃ r I2', f_X11_ride n I J T x1 x2 x3 = some r ∧ f_X12_ride n I J T x1 x2 x3 = some (r, I2') ∧ q_IV B I2' J T := by
  obtain ⟨s, hs, hX, hM, hT⟩ := h
  obtain ⟨r, I2', a, b, c, d⟩ := i_ride (n := n) (T := T) hn hs hX hM x1 x2 x3
  exact ⟨r, I2', a, b, s, hs, hX.fM hs.2.2.1 d, c, hT⟩
theorem c_fault (hn : 300 ≤ n) (x1 : Int32) (h : q_IV B I J T) : ∃ r I' I2' T', f_X11_fault n I J T x1 = some (r, I') ∧ f_X12_fault n I' J T x1 = some (r, I2', T') ∧ q_IV B I2' J T' := by
  obtain ⟨s, hs, hX, hM, hT⟩ := h
  obtain ⟨r, I', J', I2', J2', T', a, c, iv⟩ := q_two (s := s) (B' := B) (I := I) (J := J) (A := fun r I' J' => f_X11_fault n I J T x1 = some (r, I') ∧ J' = J) (fun r1 I1 J1 r2 I2 J2 h1 h2 => by
    have e' := Prod.mk.inj (Option.some.inj (h1.1.symm.trans h2.1))
    exact ⟨e'.1, e'.2, h1.2.trans h2.2.symm⟩) (C := fun I2 J2 r I2' J2' T' => f_X12_fault n I2 J2 T x1 = some (r, I2', T') ∧ J2' = J2) (fun I2 J2 hM2 => by
    obtain ⟨r, I', I2', T', a, b, t, c, d, f, g⟩ := i_fault (n := n) (T := T) hn x1 hs hX hM2
    exact ⟨r, I', J, I2', J2, T', s, ⟨a, rfl⟩, ⟨b, rfl⟩, q_T54 t hT, c, d, hs, f, g⟩) hM
  obtain ⟨a1, a2⟩ := a
  obtain ⟨c1, c2⟩ := c
  subst a2
  subst c2
  exact ⟨r, I', I2', T', a1, c1, iv⟩
/-- either it answers, or it throws where the reference lays that it would -/
theorem c_rider (hn : 300 ≤ n) (x y : Int32) (h : q_IV B I J T) : (∃ r, f_X11_rider n I J T x y = some r ∧ f_X12_rider n I J T x y = some (r, am_u I 53 0 0) ∧ q_IV B (am_u I 53 0 0) J T) ∨ ((f_X11_isRider n I J T x = some 0 ∨ (f_X11_isRider n I J T x = some 1 ∧ f_X11_isWithin n I J T y 0 4 = some 0)) ∧ f_X12_rider n I J T x y = some (0, am_u I 53 0 1) ∧ q_IV B (am_u I 53 0 1) J T) := by
  obtain ⟨s, hs, hX, hM, hT⟩ := h
  have iv : ∀ v, q_IV B (am_u I 53 0 v) J T := fun v => ⟨s, hs, hX.fM hs.2.2.1 (q_fM.th I J v), hM.th v, hT⟩
  rcases i_rider (n := n) (T := T) hn hs hX hM x y with ⟨r, a, b⟩ | ⟨a, b⟩
  · exact Or.inl ⟨r, a, b, iv 0⟩
  · exact Or.inr ⟨a, b, iv 1⟩
theorem q_IV.up (h : q_IV B I J T) : q_IV (B + 40) I J T := by
  obtain ⟨s, ⟨s1, s2, s3, s4, s5, s6, s7⟩, hX, hM, hT⟩ := h
  have up : ∀ L, q_lok B L → q_lok (B + 40) L := fun L hl => ⟨hl.1, hl.2.1, by have := hl.2.2; omega⟩
  exact ⟨s, ⟨s1, s2, s3, s4, s5, up _ s6, fun z => by
    obtain ⟨a, b, c, d⟩ := s7 z
    exact ⟨a, b, c, up _ d⟩⟩, hX, hM, hT⟩
end QS
