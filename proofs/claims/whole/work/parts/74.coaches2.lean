/-! ===== coaches: the call ===== -/
section QW
variable {n : Nat} {D : q_Rd} {J : Nat → Nat → Int64} {T : Nat}
theorem m_begin_loop : ∀ (m j : Nat) (I : Nat → Nat → Int32), j ≤ 7 → 7 - j < m → ∃ I', f_X12_beginCoaches_2 n m I J T (nI j) = some I' ∧ (∀ i, j ≤ i → i < 7 → I' 70 i = 0) ∧ (∀ i, i < j → I' 70 i = I 70 i) ∧ ∀ a b, a ≠ 70 → I' a b = I a b := by
  intro m
  induction m with
  | zero => intro j I _ h; omega
  | succ m ih =>
    intro j I hj hm
    rw [f_X12_beginCoaches_2]
    by_cases e : j = 7
    · subst e
      rw [if_pos (show (6 : Int32) < nI 7 by decide +kernel)]
      exact ⟨I, rfl, fun i a b => by omega, fun _ _ => rfl, fun _ _ _ => rfl⟩
    · have hix : ok_ix (nI j) 7 := q_ix (by omega) (by omega)
      have hcl : (nI j).toNatClampNeg = j := q_cl (by omega)
      rw [if_neg (show ¬ (6 : Int32) < nI j from nI_nlt (a := 6) (by omega) (by omega)), if_pos hix, hcl, nI_1]
      obtain ⟨I', f1, f2, f3, f4⟩ := ih (j + 1) (am_u I 70 j 0) (by omega) (by omega)
      refine ⟨I', f1, fun i a b => ?_, fun i a => ?_, fun a b h => ?_⟩
      · by_cases ei : i = j
        · rw [ei, f3 j (by omega)]
          simp [am_u]
        · exact f2 i (by omega) b
      · rw [f3 i (by omega)]
        unfold am_u
        rw [if_neg (by omega)]
      · rw [f4 a b h]
        unfold am_u
        rw [if_neg (by omega)]
theorem m_begin (hn : 300 ≤ n) (I : Nat → Nat → Int32) : ∃ I', f_X12_beginCoaches n I J T = some I' ∧ (∀ i, i < 7 → I' 70 i = 0) ∧ ∀ a b, a ≠ 70 → I' a b = I a b := by
  obtain ⟨I', f1, f2, f3, f4⟩ := m_begin_loop (n := n) (J := J) (T := T) n 0 I (by omega) (by omega)
  exact ⟨I', f1, fun i hi => f2 i (Nat.zero_le _) hi, f4⟩
theorem m_alone {I : Nat → Nat → Int32} (hn : 300 ≤ n) (hD : q_ok D) (hx : q_RM I D) {r : Nat} (hr : r < q_R D) : f_X12_hasRoom n I J T (nI r) = some (if q_se D r ≤ q_cs D then 1 else 0) := by
  have hR := hD.1.2.1
  have hcs := hD.1.2.2.1
  have hse := (hD.2.2 r hr).2.2.2.2
  obtain ⟨s1, s2⟩ := q_shl6 r (by omega)
  have h0 := q_sts_or D (S := 0) (r := r) (by rw [Nat.zero_testBit]; decide) (q_R D)
  rw [Nat.zero_or, q_sts_0, if_pos hr, Nat.zero_add] at h0
  unfold f_X12_hasRoom
  rw [s1, m_seatsOf hn hD hx (by omega), Option.bind_some, h0, hx.1.2.2.1]
  by_cases h : q_se D r ≤ q_cs D
  · rw [if_neg (nI_nlt h (by omega)), if_pos h]
  · rw [if_pos (nI_lt (by omega) (by omega)), if_neg h]
theorem m_fit_loop {I : Nat → Nat → Int32} (hn : 300 ≤ n) (hD : q_ok D) (hx : q_RM I D) (x1 : Int32) : ∀ (m r : Nat), r ≤ q_R D → q_R D - r < m → (f_X12_coaches_26 n m I J T x1 (nI r) = some (-1, I, J, T) ∧ ∃ i, i < q_R D ∧ q_cs D < q_se D i) ∨ ((∀ i, r ≤ i → i < q_R D → q_se D i ≤ q_cs D) ∧ f_X12_coaches_26 n m I J T x1 (nI r) = (f_X12_beginCoaches n I J T).bind fun w2 => (f_X12_goCoaches n (am_u w2 53 37 (-1)) J T 0 0 0).bind fun w3 => if x1 = 0 then some (w3.1 53 37, w3.1, w3.2.1, w3.2.2) else some (w3.1 53 38, w3.1, w3.2.1, w3.2.2)) := by
  have hR := hD.1.2.1
  intro m
  induction m with
  | zero => intro r _ h; omega
  | succ m ih =>
    intro r hr hm
    rw [f_X12_coaches_26, hx.1.2.1]
    by_cases e : r = q_R D
    · subst e
      rw [if_pos (Int32.le_refl _)]
      exact Or.inr ⟨fun i a b => by omega, rfl⟩
    · rw [if_neg (nI_ge (by omega) (by omega)), m_alone hn hD hx (by omega), Option.bind_some]
      by_cases h : q_se D r ≤ q_cs D
      · rw [if_pos h, if_neg (by exact q_10), nI_1]
        rcases ih (r + 1) (by omega) (by omega) with g | ⟨g1, g2⟩
        · exact Or.inl g
        · refine Or.inr ⟨fun i a b => ?_, g2⟩
          by_cases ei : i = r
          · rw [ei]; exact h
          · exact g1 i (by omega) b
      · rw [if_neg h, if_pos rfl]
        exact Or.inl ⟨rfl, r, by omega, by omega⟩
end QW
section QS
variable {V : (Nat → Int32) → Int32 → Nat → (Nat → Nat) → Prop} {n B : Nat} {I I2 : Nat → Nat → Int32} {J J2 : Nat → Nat → Int64} {T : Nat} {s : q_Sg}
theorem q_CX_0 (hX : q_HX V I J s) {I' : Nat → Nat → Int32} (h : ∀ a b, a ≠ 31 → I' a b = I a b) (c : Nat → Nat) : q_CX I' (q_sD s) c 0 := fun j hj => by
  have hz := hX.2.2.2.2.2.2.2.2 j hj
  refine ⟨?_, ?_⟩
  · rw [h 32 j (by omega), hz.1]
    rfl
  · rw [h 33 j (by omega), hz.2]
    show (0 : Int32) = nI (q_sts (q_sD s) 0 (q_R (q_sD s)))
    rw [q_sts_0]
    rfl
theorem i_coaches (hn : 300 ≤ n) (hs : q_sok B s) (hX : q_HX V I J s) (hM : q_HM I2 J2 s) (hT : T = 54 ∨ T = 55) (x1 : Int32) : ∃ r I' I2' J2' T', f_X11_coaches n I J T x1 = some (r, I') ∧ f_X12_coaches n I2 J2 T x1 = some (r, I2', J2', T') ∧ q_HX V I' J s ∧ q_HM I2' J2' s ∧ (T' = 54 ∨ T' = 55) ∧ q_fX I I' J J ∧ q_fM I2 I2' J2 J2' := by
  have hD := hs.1.1
  have hW := hD.1.1
  have hR := hD.1.2.1
  have hM0 := (hM.th 0).1
  have hx0 : I 3 0 = nI (q_W (q_sD s)) := hX.1.1.1
  have hr0 : I2 53 27 = nI (q_R (q_sD s)) := hM.1.1.2.1
  have hzero := hs.1.2.1
  unfold f_X11_coaches f_X12_coaches f_X11_isRoadless
  rw [hx0, hr0]
  by_cases hR0 : q_R (q_sD s) = 0
  · have hW0 := hzero.mp hR0
    rw [hR0, hW0, if_pos nI_0, if_pos nI_0, Option.bind_some, if_neg q_10]
    exact ⟨_, _, _, _, _, rfl, rfl, hX, hM.th _, hT, q_fX.r _ _, q_fM.th _ _ _⟩
  · have hW0 : ¬ q_W (q_sD s) = 0 := fun z => hR0 (hzero.mpr z)
    rw [if_neg (nI_ne0 (by omega) (by omega)), if_neg (nI_ne0 (by omega) (by omega)), Option.bind_some, if_pos rfl]
    rcases g_on x1 0 1 (A := 0) (B := 1) (A' := 0) (B' := 1) rfl rfl rfl rfl (by omega) (by omega) with ⟨v, v1, v2, v3, v4, v5⟩ | ⟨v4, v5⟩
    · obtain ⟨I0, hI0⟩ : ∃ z, z = am_u (am_u (am_u I 31 8 (-1)) 31 9 (-1)) 31 6 0 := ⟨_, rfl⟩
      have hI0f : ∀ a b, a ≠ 31 → I0 a b = I a b := fun a b h => by
        rw [hI0]
        unfold am_u
        rw [if_neg (by omega), if_neg (by omega), if_neg (by omega)]
      have hx1 : q_RX I0 (q_sD s) := hX.1.of3 (fun a b _ _ => hI0f a b (by omega))
      obtain ⟨I', f1, f2, f3⟩ := x_seatw (n := n) (J := J) (T := T) hn hD (q_lfc (q_sD s)) q_P1 (fun I => I 31 6 = 0) (fun I I' h f => by rw [f 31 6 (by omega) (by omega) (by omega)]; exact h) (fun c u I st a1 a2 a3 a4 a5 a6 => x_judge_c hn hD c u I st a1 a2 a3 a4 a5 a6) (q_R (q_sD s)) n 0 (fun _ => 0) 0 I0 none (by omega) (by omega) (Nat.le_refl _) (fun i hi => by omega) hx1 (q_CX_0 hX hI0f _) (by rw [hI0]; simp [am_u]) ⟨show I0 31 8 = -1 by rw [hI0]; simp [am_u], fun _ => by rw [hI0]; simp [am_u]⟩
      have f1' : f_X6_seat n I0 J T 0 0 0 = some I' := f1
      have hX' : q_HX V I' J s := hX.of hs.2.2.1 (fun a c h => by rw [f3 a c (by omega)]; exact hI0f a c (by omega)) (fun a c h => by rw [f3 a c (by omega)]; exact hI0f a c (by omega)) (fun _ _ _ => rfl)
      have hfX : q_fX I I' J J := ⟨fun a c h => by rw [f3 a c (by omega)]; exact hI0f a c (by omega), fun _ _ _ => rfl⟩
      unfold f_X6_searchBest
      rw [v4, v5, Option.bind_some, Option.bind_some, if_neg q_10, if_neg q_10, ← hI0, f1', Option.bind_some, Option.bind_some]
      rcases m_fit_loop (n := n) (I := am_u I2 53 0 0) (J := J2) (T := T) hn hD hM0 x1 n 0 (Nat.zero_le _) (by omega) with ⟨g1, i, i1, i2⟩ | ⟨g1, g2⟩
      · have g1' : f_X12_coaches_26 n n (am_u I2 53 0 0) J2 T x1 0 = some (-1, am_u I2 53 0 0, J2, T) := g1
        rw [q_en_none _ _ _ _ _ ⟨i, Nat.zero_le _, by omega, i2⟩] at f2
        have z8 : I' 31 8 = -1 := f2.1
        have z9 : I' 31 9 = -1 := f2.2 rfl
        rw [g1', z8, z9]
        refine ⟨-1, I', am_u I2 53 0 0, J2, T, ?_, rfl, hX', hM.th _, hT, hfX, q_fM.th _ _ _⟩
        by_cases h0 : x1 = 0
        · rw [if_pos h0]
        · rw [if_neg h0]
      · have g2' : f_X12_coaches_26 n n (am_u I2 53 0 0) J2 T x1 0 = _ := g2
        obtain ⟨I3, b1, b2, b3⟩ := m_begin (n := n) (J := J2) (T := T) hn (am_u I2 53 0 0)
        obtain ⟨I4, hI4⟩ : ∃ z, z = am_u I3 53 37 (-1) := ⟨_, rfl⟩
        have hI4f : ∀ a b, a ≠ 70 → ¬ (a = 53 ∧ (b = 0 ∨ b = 37)) → I4 a b = I2 a b := fun a b h h' => by
          rw [hI4]
          unfold am_u
          rw [if_neg (by omega), b3 a b h]
          unfold am_u
          rw [if_neg (by omega)]
        have hM4 : q_HM I4 J2 s := hM.of (fun c h => hI4f 53 c (by omega) (by omega)) (fun a c h => hI4f a c (by omega) (by omega)) (fun _ _ _ => rfl)
        obtain ⟨I5, J5, T5, h1, h2, h3, h4, h5, h6⟩ := m_goC (n := n) hn hs (q_lfc (q_sD s)) q_P2 (fun _ => True) 0 (fun _ _ _ _ => trivial) (fun c u I J T st a1 a2 a3 a4 _ a6 a7 => by
          obtain ⟨I', c1, c2, c3⟩ := m_judge_c (n := n) (J := J) (T := T) hn hD c u I st a1 a2 a3.1 a4 a7
          refine ⟨I', J, T, ?_, c2, a6, c3, fun _ _ _ _ => rfl⟩
          rw [if_pos rfl, c1, Option.bind_some]) (q_R (q_sD s)) n 0 (fun _ => 0) 0 I4 J2 T none (by omega) (by omega) (Nat.le_refl _) (fun i hi => by omega) hM4 ⟨fun j hj => by
            have : I4 70 j = 0 := by
              rw [hI4]
              unfold am_u
              rw [if_neg (by omega)]
              exact b2 j hj
            rw [this]
            rfl, fun i hi => by omega⟩ trivial hT (show I4 53 37 = -1 by rw [hI4]; simp [am_u])
        have h1' : f_X12_goCoaches n I4 J2 T 0 0 0 = some (I5, J5, T5) := h1
        have hne := q_en_some (D := q_sD s) (fun i hi => g1 i (Nat.zero_le _) hi) (q_R (q_sD s)) 0 (fun _ => 0) 0 none (by omega) (fun i hi => by omega)
        have hM5 : q_HM I5 J5 s := hM4.of (fun c h => h4 53 c (by omega) (fun z => by unfold q_jx at z; omega)) (fun a c h => h4 a c (by omega) (fun z => by unfold q_jx at z; omega)) (fun a c h => h6 a c (by omega) (by omega))
        have hfM : q_fM I2 I5 J2 J5 := ⟨fun a c h => by rw [h4 a c (by omega) (fun z => by unfold q_jx at z; omega)]; exact hI4f a c (by omega) (by omega), fun a c h => h6 a c (by omega) (by omega)⟩
        rw [g2', b1, Option.bind_some, ← hI4, h1', Option.bind_some]
        generalize q_en (q_sD s) (q_lfc (q_sD s)) (q_R (q_sD s)) 0 (fun _ => 0) 0 none = st at f2 h2 hne
        cases st with
        | none => exact absurd rfl hne
        | some b =>
          obtain ⟨⟨a1, a2, -⟩, -⟩ := f2
          obtain ⟨c1, c2, -⟩ := h2
          rw [a1, a2]
          simp only [c1, c2]
          by_cases h0 : x1 = 0
          · rw [if_pos h0, if_pos h0]
            exact ⟨_, I', I5, J5, T5, rfl, rfl, hX', hM5, h3, hfX, hfM⟩
          · rw [if_neg h0, if_neg h0]
            exact ⟨_, I', I5, J5, T5, rfl, rfl, hX', hM5, h3, hfX, hfM⟩
    · rw [v4, v5, Option.bind_some, Option.bind_some, if_pos rfl, if_pos rfl]
      exact ⟨_, _, _, _, _, rfl, rfl, hX, hM.th _, hT, q_fX.r _ _, q_fM.th _ _ _⟩
end QS
