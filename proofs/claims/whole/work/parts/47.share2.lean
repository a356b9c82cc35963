/-! ===== share, both sides ===== -/
section QS
variable {V : (Nat → Int32) → Int32 → Nat → (Nat → Nat) → Prop} {n B : Nat} {I I2 : Nat → Nat → Int32} {J J2 : Nat → Nat → Int64} {T : Nat} {s : q_Sg} {w : Nat → Nat → Nat → Nat}
theorem i_share (hn : 300 ≤ n) (hs : q_sok B s) (hX : q_HX V I J s) (hM : q_HM I2 J2 s) (hT : T = 54 ∨ T = 55) (hcx : ∀ k, k < 3 + (q_sU s).1 → q_wc n J T (q_sD s) (w k) (am_u I 27 2 (nI k))) (hcm : ∀ k, 2 ≤ k → k < 3 + (q_sU s).1 → q_mc n (q_sD s) (w k) k (am_u I2 53 0 0)) (hwo : ∀ k, k < 3 + (q_sU s).1 → q_wok (q_R (q_sD s)) (w k)) (x1 x2 x3 x4 : Int32) : ∃ r I' I2' J2' T', f_X11_share n I J T x1 x2 x3 x4 = some (r, I') ∧ f_X12_share n I2 J2 T x1 x2 x3 x4 = some (r, I2', J2', T') ∧ q_HX V I' J s ∧ q_HM I2' J2' s ∧ (T' = 54 ∨ T' = 55) ∧ q_fX I I' J J ∧ q_fM I2 I2' J2 J2' := by
  have hD := hs.1.1
  have hW := hD.1.1
  have hR := hD.1.2.1
  have hM0 := (hM.th 0).1
  unfold f_X11_share f_X12_share
  rcases g_rider (n := n) (J := J) (J2 := J2) (T := T) (by omega) hX.1.1.2.1 hM0.1.2.1 x1 with ⟨r, r1, r2, r3, r4⟩ | ⟨r3, r4⟩
  · rw [r3, r4, Option.bind_some, Option.bind_some, if_neg q_10, if_neg q_10]
    rcases g_set (n := n) (J := J) (J2 := J2) (T := T) hs.1 hX.1 hM0 x2 with ⟨S, h1, h2, h3, h4, h5, h6⟩ | ⟨h5, h6, h7⟩
    · rw [h5, h6, Option.bind_some, Option.bind_some, if_neg q_10, r2, h4, x_isIn (by omega) (by omega), m_has (by omega) (by omega)]
      by_cases hb : S.testBit r = true
      · have hS0 : 0 < S := Nat.pos_of_ne_zero fun z => by rw [z, Nat.zero_testBit] at hb; cases hb
        rw [if_pos hb, if_neg (show ¬ S = 0 by omega), Option.bind_some, Option.bind_some, if_neg q_10, if_neg q_10, if_neg q_10]
        have hu1 := hs.2.2.1.1
        rcases g_law (n := n) (J := J) (J2 := J2) (T := T) hs.1 hX.1 hM0 hu1 hX.2.2.1.1 (hM.th 0).2.2.1.1 x3 with ⟨k, l1, l2, l3, l4, l5⟩ | ⟨l4, l5⟩
        · rw [l4, l5, Option.bind_some, Option.bind_some, if_neg q_10, if_neg q_10]
          rcases g_on x4 0 1 (A := 0) (B := 1) (A' := 0) (B' := 1) rfl rfl rfl rfl (by omega) (by omega) with ⟨v, v1, v2, v3, v4, v5⟩ | ⟨v4, v5⟩
          · rw [v4, v5, Option.bind_some, Option.bind_some, if_neg q_10, if_neg q_10, j_bitCount (by omega), Option.bind_some, l3]
            have hw := hwo k l1
            obtain ⟨I1, I', e1, e2, e3, e4, e5⟩ := x_shares (n := n) (T := T) hn hs hX (k := k) (by omega) (hcx k l1) hw h1 r1 hb
            obtain ⟨I3, J3, T3, f1, f2, f3, f4, f5, f6⟩ := m_layShares (n := n) hn hD hM0 (k := k) (by omega) (fun h => hcm k h l1) hw h1 hS0 (J := J2) (T := T) (q_vf_r _) hT
            have a1 := q_A_le hD hw k (S := S) (by omega) r1 hb
            have a2 := q_KA_le hD hw k (S := S) (by omega) r1 hb
            have a3 := q_B_le hD hw k (S := S) (by omega) hS0
            have a4 := q_K_le k (S := S) (by omega)
            have a5 := Nat.mul_le_mul a4.2 a3.2
            have a6 := Nat.mul_pos a4.1 a3.1
            have hpt : ∀ b, q_pt (q_K k S * q_A (q_sD s) (w k) k S r) ((q_K k S * q_B (q_sD s) (w k) k S : Nat) : Int) b = q_pt (q_A (q_sD s) (w k) k S r) (q_B (q_sD s) (w k) k S : Nat) b := fun b => by
              rw [Int.natCast_mul]
              exact q_pt_mul (by omega) _ _ b
            have p1 : ∀ x : Int32, f_X11_plain n I' J T (zL (q_K k S * q_A (q_sD s) (w k) k S r)) (zL ((q_K k S * q_B (q_sD s) (w k) k S : Nat) : Int)) x = some (zL (q_pt (q_A (q_sD s) (w k) k S r) (q_B (q_sD s) (w k) k S : Nat) (decide (¬ x = 0)))) := fun x => by
              rw [x_plain hn (by omega) (by omega) (by omega) x, hpt]
            have p2 := m_partOf (n := n) (I := I3) (J := J3) (T := T3) hn (a := q_A (q_sD s) (w k) k S r) (b := (q_B (q_sD s) (w k) k S : Nat)) (by omega) (by omega) (by omega) x4
            have hix : ok_ix (nI r) 6 := q_ix (by omega) (by omega)
            have hcl : (nI r).toNatClampNeg = r := q_cl (by omega)
            have hfin : q_HM I3 J3 s := (hM.th 0).vf f2 f6
            have hfr : q_fM I2 I3 J2 J3 := ⟨fun a c h => by rw [f2 a c (by omega)]; unfold am_u; rw [if_neg (by omega)], fun a c h => f6 a c (by omega) (by omega)⟩
            rw [e1, Option.bind_some, e2, Option.bind_some]
            simp only [e3, Option.bind_some, f1, if_pos hix, hcl, f4 r r1 hb, f5, p2]
            unfold f_X11_share_85
            rw [p1, p1, Option.bind_some, Option.bind_some]
            by_cases hx4 : x4 = 0
            · rw [if_pos hx4, decide_eq_true hx4]
              exact ⟨_, I', I3, J3, T3, rfl, rfl, e4, hfin, f3, e5, hfr⟩
            · rw [if_neg hx4, decide_eq_false hx4]
              exact ⟨_, I', I3, J3, T3, rfl, rfl, e4, hfin, f3, e5, hfr⟩
          · rw [v4, v5, Option.bind_some, Option.bind_some, if_pos rfl, if_pos rfl]
            exact ⟨_, _, _, _, _, rfl, rfl, hX, hM.th _, hT, q_fX.r _ _, q_fM.th _ _ _⟩
        · rw [l4, l5, Option.bind_some, Option.bind_some, if_pos rfl, if_pos rfl]
          exact ⟨_, _, _, _, _, rfl, rfl, hX, hM.th _, hT, q_fX.r _ _, q_fM.th _ _ _⟩
      · rw [if_neg hb, Option.bind_some, Option.bind_some, if_pos rfl]
        by_cases hS0 : S = 0
        · rw [if_pos hS0, if_pos rfl]
          exact ⟨_, _, _, _, _, rfl, rfl, hX, hM.th _, hT, q_fX.r _ _, q_fM.th _ _ _⟩
        · rw [if_neg hS0, if_neg q_10, if_pos rfl]
          exact ⟨_, _, _, _, _, rfl, rfl, hX, hM.th _, hT, q_fX.r _ _, q_fM.th _ _ _⟩
    · rw [h5, h6, Option.bind_some, Option.bind_some, if_pos rfl, if_pos rfl]
      exact ⟨_, _, _, _, _, rfl, rfl, hX, hM.th _, hT, q_fX.r _ _, q_fM.th _ _ _⟩
  · rw [r3, r4, Option.bind_some, Option.bind_some, if_pos rfl, if_pos rfl]
    exact ⟨_, _, _, _, _, rfl, rfl, hX, hM.th _, hT, q_fX.r _ _, q_fM.th _ _ _⟩
end QS
