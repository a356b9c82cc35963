/-! ===== the reference lays the shares ===== -/
section QM
variable {n : Nat} {D : q_Rd} {w : Nat → Nat → Nat} {I0 : Nat → Nat → Int32}
theorem m_byWeights (hn : 300 ≤ n) (hD : q_ok D) (h0 : q_RM I0 D) {k : Nat} (hk : 2 ≤ k) (hc : q_mc n D w k I0) (hwo : q_wok (q_R D) w) {S : Nat} (hS : S < 2 ^ q_R D) (hS0 : 0 < S) {I : Nat → Nat → Int32} {J : Nat → Nat → Int64} {T : Nat} (hf : q_vf I0 I) (hT : T = 54 ∨ T = 55) : ∃ I' J' T', f_X12_byWeights n I J T (nI S) (nI (q_bc S)) (nI k) = some (I', J', T') ∧ q_vf I0 I' ∧ (T' = 54 ∨ T' = 55) ∧ (∀ r, r < q_R D → S.testBit r = true → J' 66 r = zL (q_A D w k S r)) ∧ J' 53 33 = zL (q_B D w k S : Nat) ∧ ∀ a c, a ≠ 66 → ¬ (a = 53 ∧ c = 33) → J' a c = J a c := by
  have hR := hD.1.2.1
  have hp := (q_pow2 (q_R D) hR).2
  have hbs := q_bcx_eq S (by omega)
  have hb2 := q_bc_R hR hS
  have hcl := q_cost_le hD S
  obtain ⟨I1, J1, T1, e1, e2, e3, e4, e5⟩ := m_bw1 (n := n) hn hD h0 hc hwo (S := S) (by omega) (hbs.2.2 hS0) hb2 (am_u J 53 33 0) n 0 I (am_u J 53 33 0) T (Nat.zero_le _) (by omega) hf hT ⟨fun i hi => by omega, fun _ _ => rfl, fun _ _ _ _ => rfl⟩ (by simp [am_u, q_sw]; rfl)
  have e1' : f_X12_byWeights n I J T (nI S) (nI (q_bc S)) (nI k) = _ := e1
  have hx := e2.R h0
  have hr1 : ∀ a c, a ≠ 66 → ¬ (a = 53 ∧ c = 33) → J1 a c = J a c := fun a c h1 h2 => by
    rw [e4.2.2 a c h1 h2]
    unfold am_u
    rw [if_neg h2]
  rw [e1']
  unfold f_X12_byWeights_81 f_X12_byWeights_102
  rw [m_costOf hn hD hx (by omega), Option.bind_some, Option.bind_some, nI_l (by omega), zL_n]
  have hk0 : ¬ k = 0 := by omega
  have hk1 : ¬ k = 1 := by omega
  by_cases hz : q_sw w (q_bc S) S (q_R D) = 0
  · rw [if_pos hz, if_neg q_10, nI_l (by omega), zL_n]
    obtain ⟨J2, f1, f2, f3⟩ := m_bw2 (n := n) (I := I1) (T := T1) hn hD hx (S := S) (c := q_cost D S) (by omega) true (am_u J1 53 33 (zL (q_bc S : Nat))) (fun i => w i (q_bc S)) (fun i hi hb => e4.1 i hi hb) n 0 (am_u J1 53 33 (zL (q_bc S : Nat))) (Nat.zero_le _) (by omega) ⟨fun i hi => by omega, fun _ _ => rfl, fun _ _ _ _ => rfl⟩ rfl
    refine ⟨I1, J2, T1, f1, e2, e3, fun r hr hb => ?_, ?_, fun a c h1 h2 => ?_⟩
    · rw [f2.1 r hr hb]
      unfold q_A
      rw [if_neg hk0, if_neg hk1, if_neg (by omega)]
      rfl
    · rw [f3]
      unfold q_B
      rw [if_neg hk0, if_neg hk1, if_neg (by omega)]
      simp [am_u]
    · rw [f2.2.2 a c h1 h2, ← hr1 a c h1 h2]
      unfold am_u
      rw [if_neg h2]
  · rw [if_neg hz, if_pos rfl]
    obtain ⟨J2, f1, f2, f3⟩ := m_bw2 (n := n) (I := I1) (T := T1) hn hD hx (S := S) (c := q_cost D S) (by omega) false J1 (fun i => w i (q_bc S)) (fun i hi hb => e4.1 i hi hb) n 0 J1 (Nat.zero_le _) (by omega) ⟨fun i hi => by omega, fun _ _ => rfl, fun _ _ _ _ => rfl⟩ rfl
    refine ⟨I1, J2, T1, f1, e2, e3, fun r hr hb => ?_, ?_, fun a c h1 h2 => ?_⟩
    · rw [f2.1 r hr hb]
      unfold q_A
      rw [if_neg hk0, if_neg hk1, if_pos (by omega)]
      rfl
    · rw [f3, e5]
      unfold q_B
      rw [if_neg hk0, if_neg hk1, if_pos (by omega)]
    · rw [f2.2.2 a c h1 h2, hr1 a c h1 h2]
theorem m_zero_loop {I : Nat → Nat → Int32} {T : Nat} (x1 x2 x3 : Int32) : ∀ (m i : Nat) (J : Nat → Nat → Int64), i ≤ 6 → 6 - i < m → ∃ J', f_X12_layShares_8 n m I J T x1 x2 x3 (nI i) = (if x2 = 0 then (f_X12_bySections n I J' T x1 x3).bind fun w3 => f_X12_layShares_39 n I w3 T x1 x2 x3 else f_X12_layShares_39 n I J' T x1 x2 x3) ∧ (∀ j, i ≤ j → j < 6 → J' 66 j = 0) ∧ (∀ j, j < i → J' 66 j = J 66 j) ∧ ∀ a j, a ≠ 66 → J' a j = J a j := by
  intro m
  induction m with
  | zero => intro i J _ h; omega
  | succ m ih =>
    intro i J hi hm
    rw [f_X12_layShares_8]
    by_cases e : i = 6
    · subst e
      rw [if_pos (show (6 : Int32) ≤ nI 6 by decide +kernel)]
      exact ⟨J, rfl, fun j a b => by omega, fun _ _ => rfl, fun _ _ _ => rfl⟩
    · have e1 : ¬ (6 : Int32) ≤ nI i := nI_ge (b := 6) (by omega) (by omega)
      rw [if_neg e1, if_pos (q_ix (by omega) (by omega)), q_cl (by omega), nI_1]
      obtain ⟨J', f1, f2, f3, f4⟩ := ih (i + 1) (am_u J 66 i 0) (by omega) (by omega)
      refine ⟨J', f1, fun j j1 j2 => ?_, fun j j1 => ?_, fun a j ha => ?_⟩
      · by_cases hj : j = i
        · subst hj
          rw [f3 j (by omega)]
          simp [am_u]
        · exact f2 j (by omega) j2
      · rw [f3 j (by omega)]
        unfold am_u
        rw [if_neg (by omega)]
      · rw [f4 a j ha]
        unfold am_u
        rw [if_neg (by omega)]
theorem m_layShares (hn : 300 ≤ n) (hD : q_ok D) (h0 : q_RM I0 D) {k : Nat} (hk : k < 100) (hc : 2 ≤ k → q_mc n D w k I0) (hwo : q_wok (q_R D) w) {S : Nat} (hS : S < 2 ^ q_R D) (hS0 : 0 < S) {I : Nat → Nat → Int32} {J : Nat → Nat → Int64} {T : Nat} (hf : q_vf I0 I) (hT : T = 54 ∨ T = 55) : ∃ I' J' T', f_X12_layShares n I J T (nI S) (nI k) = some (I', J', T') ∧ q_vf I0 I' ∧ (T' = 54 ∨ T' = 55) ∧ (∀ r, r < q_R D → S.testBit r = true → J' 66 r = zL (q_A D w k S r)) ∧ J' 53 33 = zL (q_B D w k S : Nat) ∧ ∀ a c, a ≠ 66 → ¬ (a = 53 ∧ c = 33) → J' a c = J a c := by
  have hR := hD.1.2.1
  have hp := (q_pow2 (q_R D) hR).2
  have hx := hf.R h0
  obtain ⟨J1, e1, e2, e3, e4⟩ := m_zero_loop (n := n) (I := I) (T := T) (nI S) (nI k) (nI (q_bc S)) n 0 J (by omega) (by omega)
  have e1' : f_X12_layShares_8 n n I J T (nI S) (nI k) (nI (q_bc S)) 0 = _ := e1
  unfold f_X12_layShares
  rw [j_bitCount (by omega), Option.bind_some, e1']
  by_cases k0 : k = 0
  · subst k0
    obtain ⟨J2, f1, f2, f3, f4⟩ := m_bySections (n := n) (T := T) hn hD hx (S := S) (by omega) hS0 J1
    rw [if_pos nI_0, f1, Option.bind_some]
    unfold f_X12_layShares_39 f_X12_layShares_50
    rw [if_neg (show ¬ nI 0 = 1 by decide +kernel), if_pos (show nI 0 ≤ 1 by decide +kernel)]
    refine ⟨I, J2, T, rfl, hf, hT, fun r hr hb => ?_, ?_, fun a c h1 h2 => ?_⟩
    · rw [f2 r hr hb, zL_n]
      rfl
    · rw [f4 53 33 (by omega)]
      simp [am_u]
      rfl
    · rw [f4 a c h1, ← e4 a c h1]
      unfold am_u
      rw [if_neg h2]
  · rw [if_neg (nI_ne0 (by omega) (by omega))]
    unfold f_X12_layShares_39
    by_cases k1 : k = 1
    · subst k1
      obtain ⟨J2, f1, f2, f3, f4⟩ := m_byOrders (n := n) (T := T) hn hD hx hS hS0 J1 (fun i hi => e2 i (Nat.zero_le _) hi)
      rw [if_pos (show nI 1 = 1 from rfl), f1, Option.bind_some]
      unfold f_X12_layShares_50
      rw [if_pos (show nI 1 ≤ 1 by decide +kernel)]
      refine ⟨I, J2, T, rfl, hf, hT, fun r hr hb => ?_, ?_, fun a c h1 h2 => ?_⟩
      · rw [f2 r hr hb]
        rfl
      · rw [f4 53 33 (by omega)]
        simp [am_u]
        rfl
      · rw [f4 a c h1, ← e4 a c h1]
        unfold am_u
        rw [if_neg h2]
    · have e5 : ¬ nI k = 1 := fun z => k1 ((nI_eq (b := 1) (by omega) (by omega)).mp z)
      have e6 : ¬ nI k ≤ 1 := nI_ge (a := 1) (by omega) (by omega)
      obtain ⟨I', J2, T2, f1, f2, f3, f4, f5, f6⟩ := m_byWeights (n := n) hn hD h0 (by omega) (hc (by omega)) hwo hS hS0 (J := J1) hf hT
      rw [if_neg e5]
      unfold f_X12_layShares_50
      rw [if_neg e6, f1, Option.bind_some]
      exact ⟨I', J2, T2, rfl, f2, f3, f4, f5, fun a c h1 h2 => by rw [f6 a c h1 h2, e4 a c h1]⟩
end QM
