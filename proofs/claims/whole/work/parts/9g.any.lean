/-! ===== fault and text, for any number ===== -/
section QS
variable {n B : Nat} {I I2 : Nat → Nat → Int32} {J J2 : Nat → Nat → Int64} {T : Nat} {s : q_Sg}
theorem m_in01 {x : Int32} (h0 : x ≠ 0) (h1 : x ≠ 1) : f_X12_isIn n I J T x.toInt64 0 1 = some 0 := by
  unfold f_X12_isIn
  have c1 : (lg_cmp x.toInt64 0 < 0) ↔ x.toInt < 0 := by
    rw [lg_cmp_lt, Int64.lt_iff_toInt_lt, Int32.toInt_toInt64]
    rfl
  have c2 : (0 < lg_cmp x.toInt64 1) ↔ 1 < x.toInt := by
    rw [lg_cmp_gt, Int64.lt_iff_toInt_lt, Int32.toInt_toInt64]
    rfl
  by_cases z : x.toInt < 0
  · rw [if_pos (c1.mpr z)]
  · rw [if_neg (fun y => z (c1.mp y))]
    have n0 : x.toInt ≠ 0 := fun y => h0 (Int32.toInt_inj.mp (by rw [y]; rfl))
    have n1 : x.toInt ≠ 1 := fun y => h1 (Int32.toInt_inj.mp (by rw [y]; rfl))
    rw [if_pos (c2.mpr (by omega))]
theorem i_fault (hn : 300 ≤ n) (x : Int32) (hs : q_sok B s) (hX : q_HX q_Vr I J s) (hM : q_HM I2 J2 s) : ∃ r I' I2' T', f_X11_fault n I J T x = some (r, I') ∧ f_X12_fault n I2 J2 T x = some (r, I2', T') ∧ (T' = T ∨ T' = 54) ∧ q_HX q_Vr I' J s ∧ q_HM I2' J2 s ∧ q_fX I I' J J ∧ q_fM I2 I2' J2 J2 := by
  by_cases h0 : x = 0
  · obtain ⟨r, I', I2', a, b, c, d, e, f⟩ := i_fault0 (n := n) (T := T) hn hs hX hM
    rw [h0]
    exact ⟨r, I', I2', 54, a, b, Or.inr rfl, c, d, e, f⟩
  · by_cases h1 : x = 1
    · obtain ⟨r, I', I2', a, b, c, d, e, f⟩ := i_fault1 (n := n) (T := T) hn hs hX hM
      rw [h1]
      exact ⟨r, I', I2', 54, a, b, Or.inr rfl, c, d, e, f⟩
    · unfold f_X11_fault f_X12_fault
      rw [if_neg h0, if_neg h1, m_in01 h0 h1, Option.bind_some, if_pos rfl]
      exact ⟨_, I, _, T, rfl, rfl, Or.inl rfl, hX, hM.th 0, q_fX.r I J, q_fM.th I2 J2 0⟩
theorem i_text (hn : 300 ≤ n) (x : Int32) (hs : q_sok B s) (hX : q_HX q_Vr I J s) (hM : q_HM I2 J2 s) : ∃ r I' J' I2' J2' T' s', f_X11_text n I J T x = some (r, I', J') ∧ f_X12_text n I2 J2 T x = some (r, I2', J2', T') ∧ (T' = T ∨ T' = 54) ∧ q_HX q_Vr I' J' s' ∧ q_HM I2' J2' s' ∧ q_sok B s' ∧ q_fX I I' J J' ∧ q_fM I2 I2' J2 J2' := by
  by_cases h0 : x = 0
  · obtain ⟨r, I', J', I2', J2', s', a, b, c, d, e, f, g⟩ := i_text0 (n := n) (T := T) hn hs hX hM
    rw [h0]
    exact ⟨r, I', J', I2', J2', 54, s', a, b, Or.inr rfl, c, d, e, f, g⟩
  · by_cases h1 : x = 1
    · obtain ⟨r, I', I2', T', s', a, b, c, d, e, f, g, h⟩ := i_text1 (n := n) (T := T) hn hs hX hM
      rw [h1]
      exact ⟨r, I', J, I2', J2, T', s', a, b, c, d, e, f, g, h⟩
    · unfold f_X11_text f_X11_text_20 f_X12_text
      rw [if_neg h0, if_neg h1, m_in01 h0 h1, Option.bind_some, if_pos rfl]
      exact ⟨_, I, J, _, J2, T, s, rfl, rfl, Or.inl rfl, hX, hM.th 0, hs, q_fX.r I J, q_fM.th I2 J2 0⟩
end QS
