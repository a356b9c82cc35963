/-! ===== image, back ===== -/
section QS
variable {V : (Nat → Int32) → Int32 → Nat → (Nat → Nat) → Prop} {n B : Nat} {I I2 : Nat → Nat → Int32} {J J2 : Nat → Nat → Int64} {T : Nat} {s : q_Sg}
theorem x_X2_become_v2_r : ∃ I', f_X2_become_v2 n I J T = some I' ∧ (∀ k, k < 5 → I' 44 k = I 3 k) ∧ (∀ k, k < 10 → I' 45 k = I 4 k ∧ I' 46 k = I 5 k) ∧ (∀ k, k < 6 → I' 47 k = I 6 k ∧ I' 48 k = I 7 k ∧ I' 49 k = I 8 k) ∧ ∀ a k, (a < 44 ∨ 49 < a) → I' a k = I a k := by
  refine ⟨_, rfl, fun k hk => ?_, fun k hk => ⟨?_, ?_⟩, fun k hk => ⟨?_, ?_, ?_⟩, fun a k ha => ?_⟩
  · have h : k = 0 ∨ k = 1 ∨ k = 2 ∨ k = 3 ∨ k = 4 := by omega
    rcases h with rfl | rfl | rfl | rfl | rfl <;> rfl
  · show (if k < 10 then I 4 k else I 45 k) = I 4 k
    rw [if_pos hk]
  · show (if k < 10 then I 5 k else I 46 k) = I 5 k
    rw [if_pos hk]
  · show (if k < 6 then I 6 k else I 47 k) = I 6 k
    rw [if_pos hk]
  · show (if k < 6 then I 7 k else I 48 k) = I 7 k
    rw [if_pos hk]
  · show (if k < 6 then I 8 k else I 49 k) = I 8 k
    rw [if_pos hk]
  · unfold am_row am_u
    simp only [if_neg (show ¬ a = 45 by omega), if_neg (show ¬ a = 46 by omega), if_neg (show ¬ a = 47 by omega), if_neg (show ¬ a = 48 by omega), if_neg (show ¬ a = 49 by omega), show ¬ a = 44 from by omega, false_and, if_false]
theorem x_X2_become_r : ∃ I', f_X2_become n I J T = some I' ∧ (∀ k, k < 5 → I' 3 k = I 44 k) ∧ (∀ k, k < 10 → I' 4 k = I 45 k ∧ I' 5 k = I 46 k) ∧ (∀ k, k < 6 → I' 6 k = I 47 k ∧ I' 7 k = I 48 k ∧ I' 8 k = I 49 k) ∧ ∀ a k, (a < 3 ∨ 8 < a) → I' a k = I a k := by
  refine ⟨_, rfl, fun k hk => ?_, fun k hk => ⟨?_, ?_⟩, fun k hk => ⟨?_, ?_, ?_⟩, fun a k ha => ?_⟩
  · have h : k = 0 ∨ k = 1 ∨ k = 2 ∨ k = 3 ∨ k = 4 := by omega
    rcases h with rfl | rfl | rfl | rfl | rfl <;> rfl
  · show (if k < 10 then I 45 k else I 4 k) = I 45 k
    rw [if_pos hk]
  · show (if k < 10 then I 46 k else I 5 k) = I 46 k
    rw [if_pos hk]
  · show (if k < 6 then I 47 k else I 6 k) = I 47 k
    rw [if_pos hk]
  · show (if k < 6 then I 48 k else I 7 k) = I 48 k
    rw [if_pos hk]
  · show (if k < 6 then I 49 k else I 8 k) = I 49 k
    rw [if_pos hk]
  · unfold am_row am_u
    simp only [if_neg (show ¬ a = 4 by omega), if_neg (show ¬ a = 5 by omega), if_neg (show ¬ a = 6 by omega), if_neg (show ¬ a = 7 by omega), if_neg (show ¬ a = 8 by omega), show ¬ a = 3 from by omega, false_and, if_false]
theorem x_X0_become_v2_r : ∃ I' J', f_X0_become_v2 n I J T = some (I', J') ∧ I' 50 2 = I 41 2 ∧ I' 50 3 = I 41 3 ∧ (∀ k, k < 6 → J' 51 k = J 42 k) ∧ (∀ k, k < 240 → J' 52 k = J 43 k) ∧ (∀ a k, ¬ a = 50 → I' a k = I a k) ∧ ∀ a k, (a < 51 ∨ 52 < a) → J' a k = J a k := by
  refine ⟨_, _, rfl, rfl, rfl, fun k hk => ?_, fun k hk => ?_, fun a k ha => ?_, fun a k ha => ?_⟩
  · show (if k < 6 then J 42 k else J 51 k) = J 42 k
    rw [if_pos hk]
  · show (if k < 240 then J 43 k else J 52 k) = J 43 k
    rw [if_pos hk]
  · unfold am_u
    rw [if_neg (by omega), if_neg (by omega)]
  · unfold am_row
    simp only [if_neg (show ¬ a = 51 by omega), if_neg (show ¬ a = 52 by omega)]
theorem x_X0_become_r : ∃ I' J', f_X0_become n I J T = some (I', J') ∧ I' 41 2 = I 50 2 ∧ I' 41 3 = I 50 3 ∧ (∀ k, k < 6 → J' 42 k = J 51 k) ∧ (∀ k, k < 240 → J' 43 k = J 52 k) ∧ (∀ a k, ¬ a = 41 → I' a k = I a k) ∧ ∀ a k, (a < 42 ∨ 43 < a) → J' a k = J a k := by
  refine ⟨_, _, rfl, rfl, rfl, fun k hk => ?_, fun k hk => ?_, fun a k ha => ?_, fun a k ha => ?_⟩
  · show (if k < 6 then J 51 k else J 42 k) = J 51 k
    rw [if_pos hk]
  · show (if k < 240 then J 52 k else J 43 k) = J 52 k
    rw [if_pos hk]
  · unfold am_u
    rw [if_neg (by omega), if_neg (by omega)]
  · unfold am_row
    simp only [if_neg (show ¬ a = 42 by omega), if_neg (show ¬ a = 43 by omega)]
end QS
