/-! ===== call after call: share, worse, left, complaint ===== -/
section QS
variable {n B : Nat} {I : Nat → Nat → Int32} {J : Nat → Nat → Int64} {T : Nat}
theorem c_share (hn : 300 ≤ n) (x1 x2 x3 x4 : Int32) (h : q_IV B I J T) : ∃ r I' I2' J2' T', f_X11_share n I J T x1 x2 x3 x4 = some (r, I') ∧ f_X12_share n I' J T x1 x2 x3 x4 = some (r, I2', J2', T') ∧ q_IV B I2' J2' T' := by
  obtain ⟨s, hs, hX, hM, hT⟩ := h
  obtain ⟨r, I', J', I2', J2', T', a, c, iv⟩ := q_two (s := s) (B' := B) (I := I) (J := J) (A := fun r I' J' => f_X11_share n I J T x1 x2 x3 x4 = some (r, I') ∧ J' = J) (fun r1 I1 J1 r2 I2 J2 h1 h2 => by
    have e' := Prod.mk.inj (Option.some.inj (h1.1.symm.trans h2.1))
    exact ⟨e'.1, e'.2, h1.2.trans h2.2.symm⟩) (C := fun I2 J2 r I2' J2' T' => f_X12_share n I2 J2 T x1 x2 x3 x4 = some (r, I2', J2', T')) (fun I2 J2 hM2 => by
    obtain ⟨r, I', I2', J2', T', a, b, c, d, e, f, g⟩ := i_share (n := n) (T := T) (w := fun k => q_wt (q_sU s) (q_sD s) k) hn hs hX hM2 hT (x_wtX hn hs hX) (m_wtM0 hn hs hX.2.2.1.prs hM2) (fun k _ => q_wt_ok hs.1.1 k) x1 x2 x3 x4
    exact ⟨r, I', J, I2', J2', T', s, ⟨a, rfl⟩, b, e, c, d, hs, f, g⟩) hM
  obtain ⟨a1, a2⟩ := a
  subst a2
  exact ⟨r, I', I2', J2', T', a1, c, iv⟩
theorem c_worse (hn : 300 ≤ n) (x1 x2 : Int32) (h : q_IV B I J T) : ∃ r I' I2' J2' T', f_X11_worse n I J T x1 x2 = some (r, I') ∧ f_X12_worse n I' J T x1 x2 = some (r, I2', J2', T') ∧ q_IV B I2' J2' T' := by
  obtain ⟨s, hs, hX, hM, hT⟩ := h
  obtain ⟨r, I', J', I2', J2', T', a, c, iv⟩ := q_two (s := s) (B' := B) (I := I) (J := J) (A := fun r I' J' => f_X11_worse n I J T x1 x2 = some (r, I') ∧ J' = J) (fun r1 I1 J1 r2 I2 J2 h1 h2 => by
    have e' := Prod.mk.inj (Option.some.inj (h1.1.symm.trans h2.1))
    exact ⟨e'.1, e'.2, h1.2.trans h2.2.symm⟩) (C := fun I2 J2 r I2' J2' T' => f_X12_worse n I2 J2 T x1 x2 = some (r, I2', J2', T')) (fun I2 J2 hM2 => by
    obtain ⟨r, I', I2', J2', T', a, b, c, d, e, f, g⟩ := i_worse (n := n) (T := T) (w := fun k => q_wt (q_sU s) (q_sD s) k) hn hs hX hM2 hT (x_wtX hn hs hX) (m_wtM0 hn hs hX.2.2.1.prs hM2) (fun k _ => q_wt_ok hs.1.1 k) x1 x2
    exact ⟨r, I', J, I2', J2', T', s, ⟨a, rfl⟩, b, e, c, d, hs, f, g⟩) hM
  obtain ⟨a1, a2⟩ := a
  subst a2
  exact ⟨r, I', I2', J2', T', a1, c, iv⟩
theorem c_left (hn : 300 ≤ n) (x1 : Int32) (h : q_IV B I J T) : ∃ r I' I2' J2' T', f_X11_left n I J T x1 = some (r, I') ∧ f_X12_left n I' J T x1 = some (r, I2', J2', T') ∧ q_IV B I2' J2' T' := by
  obtain ⟨s, hs, hX, hM, hT⟩ := h
  obtain ⟨r, I', J', I2', J2', T', a, c, iv⟩ := q_two (s := s) (B' := B) (I := I) (J := J) (A := fun r I' J' => f_X11_left n I J T x1 = some (r, I') ∧ J' = J) (fun r1 I1 J1 r2 I2 J2 h1 h2 => by
    have e' := Prod.mk.inj (Option.some.inj (h1.1.symm.trans h2.1))
    exact ⟨e'.1, e'.2, h1.2.trans h2.2.symm⟩) (C := fun I2 J2 r I2' J2' T' => f_X12_left n I2 J2 T x1 = some (r, I2', J2', T')) (fun I2 J2 hM2 => by
    obtain ⟨r, I', I2', J2', T', a, b, c, d, e, f, g⟩ := i_left (n := n) (T := T) (w := fun k => q_wt (q_sU s) (q_sD s) k) hn hs hX hM2 hT (x_wtX hn hs hX) (m_wtM0 hn hs hX.2.2.1.prs hM2) (fun k _ => q_wt_ok hs.1.1 k) x1
    exact ⟨r, I', J, I2', J2', T', s, ⟨a, rfl⟩, b, e, c, d, hs, f, g⟩) hM
  obtain ⟨a1, a2⟩ := a
  subst a2
  exact ⟨r, I', I2', J2', T', a1, c, iv⟩
theorem c_complaint (hn : 300 ≤ n) (x1 x2 : Int32) (h : q_IV B I J T) : ∃ r I' I2' J2' T', f_X11_complaint n I J T x1 x2 = some (r, I') ∧ f_X12_complaint n I' J T x1 x2 = some (r, I2', J2', T') ∧ q_IV B I2' J2' T' := by
  obtain ⟨s, hs, hX, hM, hT⟩ := h
  obtain ⟨r, I', J', I2', J2', T', a, c, iv⟩ := q_two (s := s) (B' := B) (I := I) (J := J) (A := fun r I' J' => f_X11_complaint n I J T x1 x2 = some (r, I') ∧ J' = J) (fun r1 I1 J1 r2 I2 J2 h1 h2 => by
    have e' := Prod.mk.inj (Option.some.inj (h1.1.symm.trans h2.1))
    exact ⟨e'.1, e'.2, h1.2.trans h2.2.symm⟩) (C := fun I2 J2 r I2' J2' T' => f_X12_complaint n I2 J2 T x1 x2 = some (r, I2', J2', T')) (fun I2 J2 hM2 => by
    obtain ⟨r, I', I2', J2', T', a, b, c, d, e, f, g⟩ := i_complaint (n := n) (T := T) (w := fun k => q_wt (q_sU s) (q_sD s) k) hn hs hX hM2 hT (x_wtX hn hs hX) (m_wtM0 hn hs hX.2.2.1.prs hM2) (fun k _ => q_wt_ok hs.1.1 k) x1 x2
    exact ⟨r, I', J, I2', J2', T', s, ⟨a, rfl⟩, b, e, c, d, hs, f, g⟩) hM
  obtain ⟨a1, a2⟩ := a
  subst a2
  exact ⟨r, I', I2', J2', T', a1, c, iv⟩
end QS
