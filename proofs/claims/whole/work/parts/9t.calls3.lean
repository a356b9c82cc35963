/-! ===== call after call: the others ===== -/
section QS
variable {n B : Nat} {I : Nat → Nat → Int32} {J : Nat → Nat → Int64} {T : Nat}
theorem q_T54 {T T' : Nat} (h : T' = T ∨ T' = 54) (hT : T = 54 ∨ T = 55) : T' = 54 ∨ T' = 55 := by omega
theorem c_fits (hn : 300 ≤ n) (x1 : Int32) (h : q_IV B I J T) : ∃ r I' I2' J2' T', f_X11_fits n I J T x1 = some (r, I') ∧ f_X12_fits n I' J T x1 = some (r, I2', J2', T') ∧ q_IV B I2' J2' T' := by
  obtain ⟨s, hs, hX, hM, hT⟩ := h
  obtain ⟨r, I', J', I2', J2', T', a, c, iv⟩ := q_two (s := s) (B' := B) (I := I) (J := J) (A := fun r I' J' => f_X11_fits n I J T x1 = some (r, I') ∧ J' = J) (fun r1 I1 J1 r2 I2 J2 h1 h2 => by
    have e' := Prod.mk.inj (Option.some.inj (h1.1.symm.trans h2.1))
    exact ⟨e'.1, e'.2, h1.2.trans h2.2.symm⟩) (C := fun I2 J2 r I2' J2' T' => f_X12_fits n I2 J2 T x1 = some (r, I2', J2', T')) (fun I2 J2 hM2 => by
    obtain ⟨r, I', I2', J2', T', a, b, c, d, e, f, g⟩ := i_fits (n := n) (T := T) hn hs hX hM2 hT x1
    exact ⟨r, I', J, I2', J2', T', s, ⟨a, rfl⟩, b, e, c, d, hs, f, g⟩) hM
  obtain ⟨a1, a2⟩ := a
  subst a2
  exact ⟨r, I', I2', J2', T', a1, c, iv⟩
theorem c_coaches (hn : 300 ≤ n) (x1 : Int32) (h : q_IV B I J T) : ∃ r I' I2' J2' T', f_X11_coaches n I J T x1 = some (r, I') ∧ f_X12_coaches n I' J T x1 = some (r, I2', J2', T') ∧ q_IV B I2' J2' T' := by
  obtain ⟨s, hs, hX, hM, hT⟩ := h
  obtain ⟨r, I', J', I2', J2', T', a, c, iv⟩ := q_two (s := s) (B' := B) (I := I) (J := J) (A := fun r I' J' => f_X11_coaches n I J T x1 = some (r, I') ∧ J' = J) (fun r1 I1 J1 r2 I2 J2 h1 h2 => by
    have e' := Prod.mk.inj (Option.some.inj (h1.1.symm.trans h2.1))
    exact ⟨e'.1, e'.2, h1.2.trans h2.2.symm⟩) (C := fun I2 J2 r I2' J2' T' => f_X12_coaches n I2 J2 T x1 = some (r, I2', J2', T')) (fun I2 J2 hM2 => by
    obtain ⟨r, I', I2', J2', T', a, b, c, d, e, f, g⟩ := i_coaches (n := n) (T := T) hn hs hX hM2 hT x1
    exact ⟨r, I', J, I2', J2', T', s, ⟨a, rfl⟩, b, e, c, d, hs, f, g⟩) hM
  obtain ⟨a1, a2⟩ := a
  subst a2
  exact ⟨r, I', I2', J2', T', a1, c, iv⟩
theorem c_text (hn : 300 ≤ n) (x1 : Int32) (h : q_IV B I J T) : ∃ r I' J' I2' J2' T', f_X11_text n I J T x1 = some (r, I', J') ∧ f_X12_text n I' J' T x1 = some (r, I2', J2', T') ∧ q_IV (B) I2' J2' T' := by
  obtain ⟨s, hs, hX, hM, hT⟩ := h
  exact q_two (s := s) (B' := B) (I := I) (J := J) (A := fun r I' J' => f_X11_text n I J T x1 = some (r, I', J')) (fun r1 I1 J1 r2 I2 J2 h1 h2 => by
    have e' := Prod.mk.inj (Option.some.inj (h1.symm.trans h2))
    exact ⟨e'.1, Prod.mk.inj e'.2⟩) (C := fun I2 J2 r I2' J2' T' => f_X12_text n I2 J2 T x1 = some (r, I2', J2', T')) (fun I2 J2 hM2 => by
    obtain ⟨r, I', J', I2', J2', T', s', a, b, t, c, d, e, f, g⟩ := i_text (n := n) (T := T) hn x1 hs hX hM2
    exact ⟨r, I', J', I2', J2', T', s', a, b, q_T54 t hT, c, d, e, f, g⟩) hM
theorem c_steady (hn : 300 ≤ n) (x1 x2 : Int32) (h : q_IV B I J T) : ∃ r I' J' I2' J2' T', f_X11_steady n I J T x1 x2 = some (r, I', J') ∧ f_X12_steady n I' J' T x1 x2 = some (r, I2', J2', T') ∧ q_IV (B) I2' J2' T' := by
  obtain ⟨s, hs, hX, hM, hT⟩ := h
  exact q_two (s := s) (B' := B) (I := I) (J := J) (A := fun r I' J' => f_X11_steady n I J T x1 x2 = some (r, I', J')) (fun r1 I1 J1 r2 I2 J2 h1 h2 => by
    have e' := Prod.mk.inj (Option.some.inj (h1.symm.trans h2))
    exact ⟨e'.1, Prod.mk.inj e'.2⟩) (C := fun I2 J2 r I2' J2' T' => f_X12_steady n I2 J2 T x1 x2 = some (r, I2', J2', T')) (fun I2 J2 hM2 => by
    obtain ⟨r, I', J', I2', J2', T', a, b, c, d, e, f, g⟩ := i_steady (n := n) (T := T) (w := fun k => q_wt (q_sU s) (q_sD s) k) hn hs hX hM2 hT (x_wtX hn hs hX) (fun k hk I0 J0 hI h2 => m_wtM (n := n) hn hs hX.2.2.1.prs k hk s I0 J0 rfl rfl hI h2) (fun k _ => q_wt_ok hs.1.1 k) x1 x2
    exact ⟨r, I', J', I2', J2', T', s, a, b, e, c, d, hs, f, g⟩) hM
theorem c_lie (hn : 300 ≤ n) (x1 x2 x3 : Int32) (h : q_IV B I J T) : ∃ r I' J' I2' J2' T', f_X11_lie n I J T x1 x2 x3 = some (r, I', J') ∧ f_X12_lie n I' J' T x1 x2 x3 = some (r, I2', J2', T') ∧ q_IV (B) I2' J2' T' := by
  obtain ⟨s, hs, hX, hM, hT⟩ := h
  exact q_two (s := s) (B' := B) (I := I) (J := J) (A := fun r I' J' => f_X11_lie n I J T x1 x2 x3 = some (r, I', J')) (fun r1 I1 J1 r2 I2 J2 h1 h2 => by
    have e' := Prod.mk.inj (Option.some.inj (h1.symm.trans h2))
    exact ⟨e'.1, Prod.mk.inj e'.2⟩) (C := fun I2 J2 r I2' J2' T' => f_X12_lie n I2 J2 T x1 x2 x3 = some (r, I2', J2', T')) (fun I2 J2 hM2 => by
    obtain ⟨r, I', J', I2', J2', T', a, b, c, d, e, f, g⟩ := i_lie (n := n) (T := T) (w := fun D k => q_wt (q_sU s) D k) hn hs hX hM2 hT (x_wtL hn hs) (m_wtL hn hs hX.2.2.1.prs) (fun k _ D' hD' _ => q_wt_ok hD' k) x1 x2 x3
    exact ⟨r, I', J', I2', J2', T', s, a, b, e, c, d, hs, f, g⟩) hM
theorem c_night (hn : 300 ≤ n) (hB : B < 2 ^ 18) (x1 x2 : Int32) (h : q_IV B I J T) : ∃ r I' J' I2' J2' T', f_X11_night n I J T x1 x2 = some (r, I', J') ∧ f_X12_night n I' J' T x1 x2 = some (r, I2', J2', T') ∧ q_IV (B + 40) I2' J2' T' := by
  obtain ⟨s, hs, hX, hM, hT⟩ := h
  exact q_two (s := s) (B' := B + 40) (I := I) (J := J) (A := fun r I' J' => f_X11_night n I J T x1 x2 = some (r, I', J')) (fun r1 I1 J1 r2 I2 J2 h1 h2 => by
    have e' := Prod.mk.inj (Option.some.inj (h1.symm.trans h2))
    exact ⟨e'.1, Prod.mk.inj e'.2⟩) (C := fun I2 J2 r I2' J2' T' => f_X12_night n I2 J2 T x1 x2 = some (r, I2', J2', T')) (fun I2 J2 hM2 => by
    obtain ⟨r, I', J', I2', J2', T', s', a, b, c, d, k, e, f, g⟩ := i_night (n := n) (T := T) (w := fun k => q_wt (q_sU s) (q_sD s) k) hn hs (by omega) hX hM2 hT (x_wtX hn hs hX) (m_wtM hn hs hX.2.2.1.prs) (fun k _ => q_wt_ok hs.1.1 k) x1 x2
    exact ⟨r, I', J', I2', J2', T', s', a, b, e, c, d, k, f, g⟩) hM
theorem c_drawn (hn : 300 ≤ n) (hB : B < 2 ^ 18) (x1 x2 : Int32) (y : Int64) (h : q_IV B I J T) : ∃ r I' J' I2' J2' T', f_X11_drawn n I J T x1 x2 y = some (r, I', J') ∧ f_X12_drawn n I' J' T x1 x2 y = some (r, I2', J2', T') ∧ q_IV (B + 40) I2' J2' T' := by
  obtain ⟨s, hs, hX, hM, hT⟩ := h
  exact q_two (s := s) (B' := B + 40) (I := I) (J := J) (A := fun r I' J' => f_X11_drawn n I J T x1 x2 y = some (r, I', J')) (fun r1 I1 J1 r2 I2 J2 h1 h2 => by
    have e' := Prod.mk.inj (Option.some.inj (h1.symm.trans h2))
    exact ⟨e'.1, Prod.mk.inj e'.2⟩) (C := fun I2 J2 r I2' J2' T' => f_X12_drawn n I2 J2 T x1 x2 y = some (r, I2', J2', T')) (fun I2 J2 hM2 => by
    obtain ⟨r, I', J', I2', J2', T', s', a, b, c, d, k, e, f, g⟩ := i_drawn (n := n) (T := T) (w := fun k => q_wt (q_sU s) (q_sD s) k) hn hs hB hX hM2 hT (x_wtX hn hs hX) (m_wtM hn hs hX.2.2.1.prs) (fun k _ => q_wt_ok hs.1.1 k) x1 x2 y
    exact ⟨r, I', J', I2', J2', T', s', a, b, e, c, d, k, f, g⟩) hM
end QS
