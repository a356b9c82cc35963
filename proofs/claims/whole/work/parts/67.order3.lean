/-! ===== order ===== -/
theorem q_vl_some {b : Nat → Bool} {F : Nat → q_Best → q_Best} : ∀ (g r : Nat) (st : q_Best), (∀ i st, r ≤ i → i < r + g → b i = true → F i st ≠ none) → (st ≠ none ∨ ∃ i, r ≤ i ∧ i < r + g ∧ b i = true) → q_vl b F g r st ≠ none := by
  intro g
  induction g with
  | zero =>
    intro r st _ h
    rcases h with h | ⟨i, h1, h2, -⟩
    · exact h
    · omega
  | succ g ih =>
    intro r st hF h
    unfold q_vl
    refine ih (r + 1) _ (fun i st a c => hF i st (by omega) (by omega)) ?_
    by_cases hb : b r = true
    · rw [if_pos hb]
      exact Or.inl (hF r st (Nat.le_refl _) (by omega) hb)
    · rw [if_neg hb]
      rcases h with h | ⟨i, h1, h2, h3⟩
      · exact Or.inl h
      · refine Or.inr ⟨i, ?_, by omega, h3⟩
        by_cases e : i = r
        · subst e; exact absurd h3 hb
        · omega
theorem q_bit_ex : ∀ W, W < 64 → (decide (W = 0) || (List.range 6).any (fun i => W.testBit i)) = true := by decide +kernel
theorem q_vs_some {D : q_Rd} {wish : Int32} (hR : q_R D ≤ 6) : ∀ (f wt : Nat) (t : Nat → Nat) (K dg : Nat) (st : q_Best), q_bc wt = f → wt < 2 ^ q_R D → q_vs D wish f wt t K dg st ≠ none := by
  have hp := (q_pow2 (q_R D) hR).2
  intro f
  induction f with
  | zero =>
    intro wt t K dg st _ _
    unfold q_vs q_take
    cases st with
    | none => exact fun z => by cases z
    | some b =>
      simp only
      split <;> exact fun z => by cases z
  | succ f ih =>
    intro wt t K dg st hf hwt
    unfold q_vs
    refine q_vl_some (q_R D) 0 st (fun i st a c hb => ih _ _ _ _ _ (q_bcm (by omega) (by omega) hb hf) (Nat.lt_of_le_of_lt Nat.and_le_left hwt)) (Or.inr ?_)
    have h0 : ¬ wt = 0 := fun z => by have := (q_bc_0 (W := wt) (by omega)).mpr z; omega
    have h1 := q_bit_ex wt (by omega)
    rw [decide_eq_false h0, Bool.false_or, List.any_eq_true] at h1
    obtain ⟨i, i1, i2⟩ := h1
    refine ⟨i, Nat.zero_le _, ?_, i2⟩
    rcases Nat.lt_or_ge i (q_R D) with z | z
    · omega
    · rw [Nat.testBit_lt_two_pow (Nat.lt_of_lt_of_le hwt (Nat.pow_le_pow_right (by omega) z))] at i2
      cases i2
section QS
variable {V : (Nat → Int32) → Int32 → Nat → (Nat → Nat) → Prop} {n B : Nat} {I I2 : Nat → Nat → Int32} {J J2 : Nat → Nat → Int64} {T : Nat} {s : q_Sg}
theorem i_order (hn : 300 ≤ n) (hs : q_sok B s) (hX : q_HX V I J s) (hM : q_HM I2 J2 s) (x1 x2 x3 : Int32) : ∃ r I' I2', f_X11_order n I J T x1 x2 x3 = some (r, I') ∧ f_X12_order n I2 J2 T x1 x2 x3 = some (r, I2') ∧ q_HX V I' J s ∧ q_HM I2' J2 s ∧ q_fX I I' J J ∧ q_fM I2 I2' J2 J2 := by
  have hD := hs.1.1
  have hR := hD.1.2.1
  have hM0 := (hM.th 0).1
  unfold f_X11_order f_X12_order
  rcases g_set (n := n) (J := J) (J2 := J2) (T := T) hs.1 hX.1 hM0 x1 with ⟨S, h1, h2, h3, h4, h5, h6⟩ | ⟨h5, h6, h7⟩
  · rw [h5, h6, Option.bind_some, Option.bind_some, if_neg q_10]
    by_cases hS0 : S = 0
    · rw [if_pos hS0, if_pos rfl, h4, hS0, if_pos nI_0]
      exact ⟨_, _, _, rfl, rfl, hX, hM.th _, q_fX.r _ _, q_fM.th _ _ _⟩
    · rw [if_neg hS0, if_neg q_10, h4, if_neg (nI_ne0 (by omega) (by omega))]
      rcases g_on x2 0 2 (A := 0) (B := 2) (A' := 0) (B' := 2) rfl rfl rfl rfl (by omega) (by omega) with ⟨v, v1, v2, v3, v4, v5⟩ | ⟨v4, v5⟩
      · rw [v4, v5, Option.bind_some, Option.bind_some, if_neg q_10, if_neg q_10]
        rcases g_on x3 0 1 (A := 0) (B := 1) (A' := 0) (B' := 1) rfl rfl rfl rfl (by omega) (by omega) with ⟨u, u1, u2, u3, u4, u5⟩ | ⟨u4, u5⟩
        · rw [u4, u5, Option.bind_some, Option.bind_some, if_neg q_10, if_neg q_10]
          have hb2 := q_bc_R hR h1
          obtain ⟨I0, hI0⟩ : ∃ z, z = am_u (am_u (am_u I 30 1 x2) 30 2 (-1)) 30 3 (-1) := ⟨_, rfl⟩
          have hI0f : ∀ a c, a ≠ 30 → I0 a c = I a c := fun a c h => by
            rw [hI0]
            unfold am_u
            rw [if_neg (by omega), if_neg (by omega), if_neg (by omega)]
          have hx0 : q_RX I0 (q_sD s) := hX.1.of3 (fun a c _ _ => hI0f a c (by omega))
          obtain ⟨I', f1, f2, f3⟩ := x_visit (n := n) (J := J) (T := T) hn hD (wish := x2) (q_bc S) n S (fun _ => 0) 0 0 I0 none rfl (by omega) (by omega) h1 (by decide) (Nat.zero_le _) (by rw [hI0]; simp [am_u]) hx0 (show I0 30 2 = -1 by rw [hI0]; simp [am_u])
          have hsel : q_sel x2 (q_ft (q_sD s) (fun _ => 0) 0) = 0 := by
            unfold q_sel
            split
            · rfl
            · split <;> rfl
          rw [hsel] at f1
          have f1' : f_X9_visit n I0 J T 0 (nI S) 0 0 0 0 = some I' := f1
          obtain ⟨I4, hI4⟩ : ∃ z, z = am_u (am_u (am_u I2 53 0 0) 53 36 0) 53 37 (-1) := ⟨_, rfl⟩
          have hI4f : ∀ a c, ¬ (a = 53 ∧ (c = 0 ∨ c = 36 ∨ c = 37)) → I4 a c = I2 a c := fun a c h => by
            rw [hI4]
            unfold am_u
            rw [if_neg (by omega), if_neg (by omega), if_neg (by omega)]
          have hM4 : q_HM I4 J2 s := hM.of (fun c h => hI4f 53 c (by omega)) (fun a c h => hI4f a c (by omega)) (fun _ _ _ => rfl)
          obtain ⟨I5, g1, g2, g3, g4, g5⟩ := m_go (n := n) (J := J2) (T := T) hn hD (wish := x2) (q_bc S) n S (fun _ => 0) 0 0 I4 none rfl (by omega) (by omega) h1 (by decide) (fun j hj => by omega) (by rw [hI4]; simp [am_u]; rfl) (fun j hj => by omega) hM4.1 (show I4 53 37 = -1 by rw [hI4]; simp [am_u])
          have g1' : f_X12_goOrders n I4 J2 T (nI S) 0 x2 = some I5 := g1
          have hne := q_vs_some (D := q_sD s) (wish := x2) hR (q_bc S) S (fun _ => 0) 0 0 none rfl h1
          generalize q_vs (q_sD s) x2 (q_bc S) S (fun _ => 0) 0 0 none = st at f2 g2 hne
          cases st with
          | none => exact absurd rfl hne
          | some b =>
            obtain ⟨a1, a2, -⟩ := f2
            obtain ⟨b1, b2, -⟩ := g2
            have hX' : q_HX V I' J s := hX.of hs.2.2.1 (fun a c h => by rw [f3 a c (by omega)]; exact hI0f a c (by omega)) (fun a c h => by rw [f3 a c (by omega)]; exact hI0f a c (by omega)) (fun _ _ _ => rfl)
            have hM' : q_HM I5 J2 s := hM4.of (fun c h => g5 53 c (by omega) (by omega) (by omega)) (fun a c h => g5 a c (by omega) (by omega) (by omega)) (fun _ _ _ => rfl)
            have hfX : q_fX I I' J J := ⟨fun a c h => by rw [f3 a c (by omega)]; exact hI0f a c (by omega), fun _ _ _ => rfl⟩
            have hfM : q_fM I2 I5 J2 J2 := ⟨fun a c h => by rw [g5 a c (by omega) (by omega) (by omega)]; exact hI4f a c (by omega), fun _ _ _ => rfl⟩
            unfold f_X9_search
            rw [← hI0, f1', Option.bind_some, Option.bind_some, ← hI4, g1', Option.bind_some, a1, a2, b1, b2]
            by_cases h0 : x3 = 0
            · rw [if_pos h0, if_pos h0]
              exact ⟨_, I', I5, rfl, rfl, hX', hM', hfX, hfM⟩
            · rw [if_neg h0, if_neg h0]
              exact ⟨_, I', I5, rfl, rfl, hX', hM', hfX, hfM⟩
        · rw [u4, u5, Option.bind_some, Option.bind_some, if_pos rfl, if_pos rfl]
          exact ⟨_, _, _, rfl, rfl, hX, hM.th _, q_fX.r _ _, q_fM.th _ _ _⟩
      · rw [v4, v5, Option.bind_some, Option.bind_some, if_pos rfl, if_pos rfl]
        exact ⟨_, _, _, rfl, rfl, hX, hM.th _, q_fX.r _ _, q_fM.th _ _ _⟩
  · rw [h5, h6, Option.bind_some, Option.bind_some, if_pos rfl, if_pos rfl]
    exact ⟨_, _, _, rfl, rfl, hX, hM.th _, q_fX.r _ _, q_fM.th _ _ _⟩
end QS
