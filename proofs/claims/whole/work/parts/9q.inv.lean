/-! ===== what holds between calls; one call after another ===== -/
def q_IV (B : Nat) (I : Nat → Nat → Int32) (J : Nat → Nat → Int64) (T : Nat) : Prop := ∃ s, q_sok B s ∧ q_HX q_Vr I J s ∧ q_HM I J s ∧ (T = 54 ∨ T = 55)
/-- A: what the class's call gives; C: what the reference's gives, of the heap it is called in -/
theorem q_two {β : Type} {B' : Nat} {s : q_Sg} {I : Nat → Nat → Int32} {J : Nat → Nat → Int64} {A : β → (Nat → Nat → Int32) → (Nat → Nat → Int64) → Prop} (det : ∀ r1 I1 J1 r2 I2 J2, A r1 I1 J1 → A r2 I2 J2 → r1 = r2 ∧ I1 = I2 ∧ J1 = J2) {C : (Nat → Nat → Int32) → (Nat → Nat → Int64) → β → (Nat → Nat → Int32) → (Nat → Nat → Int64) → Nat → Prop} (h : ∀ I2 J2, q_HM I2 J2 s → ∃ r I' J' I2' J2' T' s', A r I' J' ∧ C I2 J2 r I2' J2' T' ∧ (T' = 54 ∨ T' = 55) ∧ q_HX q_Vr I' J' s' ∧ q_HM I2' J2' s' ∧ q_sok B' s' ∧ q_fX I I' J J' ∧ q_fM I2 I2' J2 J2') (hM : q_HM I J s) : ∃ r I' J' I2' J2' T', A r I' J' ∧ C I' J' r I2' J2' T' ∧ q_IV B' I2' J2' T' := by
  obtain ⟨r1, I1, J1, -, -, -, -, a1, -, -, -, -, -, fx1, -⟩ := h I J hM
  obtain ⟨r2, I2, J2, I3, J3, T3, s3, a2, c2, t2, x2, m2, k2, -, fm2⟩ := h I1 J1 (hM.fX fx1)
  obtain ⟨e1, e2, e3⟩ := det _ _ _ _ _ _ a1 a2
  subst e1
  subst e2
  subst e3
  exact ⟨r1, I1, J1, I3, J3, T3, a1, c2, s3, k2, x2.fM k2.2.2.1 fm2, m2, t2⟩
