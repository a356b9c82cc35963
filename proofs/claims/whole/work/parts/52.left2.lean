/-! ===== who walks, of any set ===== -/
section QW
variable {n : Nat} {D : q_Rd} {w : Nat → Nat → Nat}
theorem q_wk_0 (k : Nat) : ∀ r, q_wk D w k 0 r = 0 := by
  intro r
  induction r with
  | zero => rfl
  | succ r ih =>
    unfold q_wk
    rw [if_neg (fun z => by have := z.1; rw [Nat.zero_testBit] at this; cases this)]
    exact ih
theorem x_walk0_loop {I : Nat → Nat → Int32} {J : Nat → Nat → Int64} {T : Nat} (hD : q_ok D) (hx : q_RX I D) : ∀ (m r : Nat), r ≤ q_R D → q_R D - r < m → f_X11_walkersOf_4 n m I J T (nI 0) (nI 0) (nI r) = some (nI 0, I) := by
  have hR := hD.1.2.1
  intro m
  induction m with
  | zero => intro r _ h; omega
  | succ m ih =>
    intro r hr hm
    rw [f_X11_walkersOf_4, hx.1.2.1]
    by_cases e : r = q_R D
    · subst e
      rw [if_pos (Int32.le_refl _)]
    · rw [if_neg (nI_ge (by omega) (by omega)), x_isIn (by omega) (by omega), Nat.zero_testBit, if_neg (by decide), Option.bind_some, if_pos rfl]
      unfold f_X11_walkersOf_61
      rw [nI_1]
      exact ih (r + 1) (by omega) (by omega)
theorem x_walk {I : Nat → Nat → Int32} {J : Nat → Nat → Int64} {T k : Nat} (hn : 300 ≤ n) (hD : q_ok D) (hwo : q_wok (q_R D) w) (hk : k < 100) {S : Nat} (hS : S < 2 ^ q_R D) (hx : q_RX I D) (hc : q_cc I D) (hw : q_WX I (q_R D) 1 w) (hl : I 27 2 = nI k) : ∃ I', f_X11_walkersOf n I J T (nI S) = some (nI (q_wk D w k S (q_R D)), I') ∧ q_RX I' D ∧ q_cc I' D ∧ ∀ y z, y ≠ 28 → I' y z = I y z := by
  have hR := hD.1.2.1
  have hp := (q_pow2 (q_R D) hR).2
  by_cases hS0 : S = 0
  · subst hS0
    have e := x_walk0_loop (n := n) (J := J) (T := T) hD hx n 0 (Nat.zero_le _) (by omega)
    rw [q_wk_0]
    exact ⟨I, e, hx, hc, fun _ _ _ => rfl⟩
  · have hbs := q_bcx_eq S (by omega)
    exact x_walk_loop (n := n) (J := J) (T := T) hn hD hwo hk hS (by omega) (hbs.2.2 (by omega)) n 0 I (Nat.zero_le _) (by omega) hx hc hw hl
end QW
