/-! ===== lie: the reference, and the call ===== -/
section QS
variable {V : (Nat → Int32) → Int32 → Nat → (Nat → Nat) → Prop} {n B : Nat} {s : q_Sg} {w : q_Rd → Nat → Nat → Nat → Nat}
/-- what lie answers, the best stop being b -/
def q_lr (x : Int32) (b : Nat) (a0 a1 : Int) (b0 b1 : Nat) : Int64 := if x = 0 then (nI b).toInt64 else zL (q_pt (a0 * b1 - a1 * b0) (b0 * b1 : Nat) (decide (x = 1)))
theorem m_lie_loop (hn : 300 ≤ n) (hs : q_sok B s) {k F r : Nat} (hk : k < 100) (hF : q_sF s = F) (hr : r < q_R (q_sD s)) (hcm : ∀ D' I0 J0, q_dok D' → q_HM I0 J0 (D', s.2) → 2 ≤ k → q_mc n D' (w D' k) k I0) (hwo : ∀ D', q_ok D' → q_R D' = q_R (q_sD s) → q_wok (q_R D') (w D' k)) {x : Int32} (hx : x = 0 ∨ x = 1 ∨ x = 2) {a0 : Int} {b0 : Nat} (ha0 : a0.natAbs ≤ 2 ^ 30) (hb0 : 0 < b0) (hb1 : b0 ≤ 43200) : ∀ (m g b p pc : Nat) (I : Nat → Nat → Int32) (J : Nat → Nat → Int64) (T : Nat), g + p = q_W (q_sD s) + 1 → g < m → 1 ≤ p → 1 ≤ b → b ≤ q_W (q_sD s) → q_HM I J (q_mv s r pc) → (T = 54 ∨ T = 55) → ∃ I' J' T', f_X12_lie_85 n m I J T (nI r) (nI k) x (nI (q_ho (q_sD s) r)) (zL a0) (zL (b0 : Nat)) (nI b) (zL (q_va (q_sD s) w k F r b)) (zL (q_vb (q_sD s) w k r b : Nat)) (nI p) = some (q_lr x (q_lb (q_va (q_sD s) w k F r) (q_vb (q_sD s) w k r) g b p) a0 (q_va (q_sD s) w k F r (q_lb (q_va (q_sD s) w k F r) (q_vb (q_sD s) w k r) g b p)) b0 (q_vb (q_sD s) w k r (q_lb (q_va (q_sD s) w k F r) (q_vb (q_sD s) w k r) g b p)), I', J', T') ∧ q_HM I' J' s ∧ (T' = 54 ∨ T' = 55) ∧ q_fM I I' J J' := by
  have hD := hs.1.1
  have hW := hD.1.1
  have hR := hD.1.2.1
  have hF20 : F ≤ 20 := by rw [← hF]; exact hs.2.2.2.1
  have hp := (q_pow2 _ hR).2
  have h2p : 2 ^ 1 ≤ 2 ^ q_R (q_sD s) := Nat.pow_le_pow_right (by omega) (by omega)
  have hix : ok_ix (nI r) 6 := q_ix (by omega) (by omega)
  have hcl : (nI r).toNatClampNeg = r := q_cl (by omega)
  have hx3 : (3 : Int32) * nI r = nI (3 * r) := pk_mul 3 r
  have hix2 : ok_ix (nI (3 * r)) 18 := q_ix (by omega) (by omega)
  have hcl2 : (nI (3 * r)).toNatClampNeg = 3 * r := q_cl (by omega)
  have hho := hD.2.2 r hr
  intro m
  induction m with
  | zero => intro g b p pc I J T _ h; omega
  | succ m ih =>
    intro g b p pc I J T h1 h2 p1 b1 b2 hM hT
    have hx0 : I 53 26 = nI (q_W (q_sD s)) := hM.1.1.1
    obtain ⟨t1, t2, t3, t4, t5, t6⟩ := q_v_le (D := q_sD s) (w := w) hD hwo hF20 hr b1 b2
    rw [f_X12_lie_85, hx0]
    cases g with
    | zero =>
      have hM1 := hM.mv r (q_ho (q_sD s) r)
      rw [q_mv_mv, q_mv_self] at hM1
      have hfr : q_fM I (am_u I 60 (3 * r) (nI (q_ho (q_sD s) r))) J J := ⟨fun a c h => by unfold am_u; rw [if_neg (by omega)], fun _ _ _ => rfl⟩
      rw [if_pos (nI_lt (by omega) (by omega)), hx3, if_pos hix2, hcl2]
      unfold q_lb q_lr
      by_cases hx0' : x = 0
      · rw [if_pos hx0', if_pos hx0']
        exact ⟨_, J, T, rfl, hM1, hT, hfr⟩
      · have hdx : decide (x - 1 = 0) = decide (x = 1) := by
          rcases hx with rfl | rfl | rfl
          · exact absurd rfl hx0'
          · decide +kernel
          · decide +kernel
        have m1 := Nat.mul_le_mul ha0 t4
        have m2 := Nat.mul_le_mul t1 hb1
        have m3 := Nat.mul_le_mul hb1 t4
        have m4 := Nat.mul_pos hb0 t3
        have n1 : (a0 * (q_vb (q_sD s) w k r b : Int) - q_va (q_sD s) w k F r b * (b0 : Int)).natAbs < 2 ^ 62 := by
          have q1 : (a0 * (q_vb (q_sD s) w k r b : Int)).natAbs = a0.natAbs * q_vb (q_sD s) w k r b := by rw [Int.natAbs_mul, Int.natAbs_natCast]
          have q2 : (q_va (q_sD s) w k F r b * (b0 : Int)).natAbs = (q_va (q_sD s) w k F r b).natAbs * b0 := by rw [Int.natAbs_mul, Int.natAbs_natCast]
          omega
        have hin : zL a0 * zL (q_vb (q_sD s) w k r b : Nat) - zL (q_va (q_sD s) w k F r b) * zL (b0 : Nat) = zL (a0 * (q_vb (q_sD s) w k r b : Int) - q_va (q_sD s) w k F r b * (b0 : Int)) := by
          rw [zL_mul, zL_mul, zL_sub]
        have hbo : zL (b0 : Nat) * zL (q_vb (q_sD s) w k r b : Nat) = zL ((b0 * q_vb (q_sD s) w k r b : Nat) : Int) := by
          rw [zL_mul, Int.natCast_mul]
        rw [if_neg hx0', if_neg hx0', hin, hbo, m_partOf hn n1 (by omega) (by omega), Option.bind_some, hdx]
        exact ⟨_, J, T, rfl, hM1, hT, hfr⟩
    | succ g =>
      have p2 : p ≤ q_W (q_sD s) := by omega
      have hM1 := hM.mv r p
      rw [q_mv_mv] at hM1
      have hD1 : q_ok (q_mh (q_sD s) r p) := hD.mh p1 p2
      have hw1 : q_wok (q_R (q_sD s)) (w (q_mh (q_sD s) r p) k) := hwo _ hD1 rfl
      obtain ⟨I1, J1, T1, e1, e2, e3, e4, e5, e6⟩ := m_layShares (n := n) hn hD1 hM1.1 hk (hcm _ _ _ (hs.1.mh p1 p2) hM1) hw1 (S := 2 ^ q_R (q_sD s) - 1) (Nat.sub_lt (by omega) (by omega)) (by omega) (J := J) (T := T) (q_vf_r _) hT
      have hM2 : q_HM I1 J1 (q_mv s r p) := hM1.vf e2 e6
      have c2 : f_X12_apart n I1 J1 T1 (nI p) (nI (q_ho (q_sD s) r)) = some (nI (q_ap (q_sD s) p (q_ho (q_sD s) r))) := m_apart hn hD1 hM2.1 p2 hho.2.1
      obtain ⟨u1, u2, u3, u4, u5, u6⟩ := q_v_le (D := q_sD s) (w := w) hD hwo hF20 hr p1 p2
      have hap := q_ap_le hD p (q_ho (q_sD s) r)
      have hff : I1 53 31 = nI F := by rw [← hF]; exact hM2.2.2.2.1
      have hA : J1 66 r = zL (q_A (q_mh (q_sD s) r p) (w (q_mh (q_sD s) r p) k) k (2 ^ q_R (q_sD s) - 1) r) := e4 r hr (q_all hr)
      have hval : zL (q_A (q_mh (q_sD s) r p) (w (q_mh (q_sD s) r p) k) k (2 ^ q_R (q_sD s) - 1) r) + ((nI F).toInt64 * (nI (q_ap (q_sD s) p (q_ho (q_sD s) r))).toInt64) * zL ((q_B (q_mh (q_sD s) r p) (w (q_mh (q_sD s) r p) k) k (2 ^ q_R (q_sD s) - 1) : Nat) : Int) = zL (q_va (q_sD s) w k F r p) := by
        rw [nI_l (by omega), nI_l (by omega), zL_n, zL_n, zL_mul, zL_mul, zL_add]
        unfold q_va
        rw [Int.natCast_mul F]
      have hbel : J1 53 33 = zL (q_vb (q_sD s) w k r p : Nat) := e5
      have hbb : zL ((q_B (q_mh (q_sD s) r p) (w (q_mh (q_sD s) r p) k) k (2 ^ q_R (q_sD s) - 1) : Nat) : Int) = zL (q_vb (q_sD s) w k r p : Nat) := rfl
      rw [hbb] at hval
      have v1 := q_vp (c := 0) (d := 0) (show (q_va (q_sD s) w k F r p).natAbs ≤ 2 ^ 40 by omega) t4
      have v2 := q_vp (c := 0) (d := 0) (show (q_va (q_sD s) w k F r b).natAbs ≤ 2 ^ 40 by omega) u4
      have hiff : (lg_cmp (zL (q_va (q_sD s) w k F r p) * zL (q_vb (q_sD s) w k r b : Nat)) (zL (q_va (q_sD s) w k F r b) * zL (q_vb (q_sD s) w k r p : Nat)) < 0) ↔ q_va (q_sD s) w k F r p * q_vb (q_sD s) w k r b < q_va (q_sD s) w k F r b * q_vb (q_sD s) w k r p := by
        rw [lg_cmp_lt, zL_mul, zL_mul, zL_lt (by omega) (by omega) (by omega) (by omega)]
      have hfr : ∀ a c, a < 53 → I1 a c = I a c := fun a c h => by
        rw [e2 a c (by omega)]
        unfold am_u
        rw [if_neg (by omega)]
      have hfrJ : ∀ a c, a < 53 → J1 a c = J a c := fun a c h => e6 a c (by omega) (by omega)
      rw [if_neg (nI_nlt (by omega) (by omega)), hx3, if_pos hix2, hcl2]
      rw [show f_X12_everybody n (am_u I 60 (3 * r) (nI p)) J T = some (nI (2 ^ q_R (q_sD s) - 1)) from m_everybody (D := q_mh (q_sD s) r p) hD1 hM1.1, Option.bind_some, e1, Option.bind_some, if_pos hix]
      simp only [c2, Option.bind_some, hcl, hff, hA, hbel, hval]
      unfold f_X12_lie_175 q_lb
      rw [nI_1]
      by_cases hlt : q_va (q_sD s) w k F r p * q_vb (q_sD s) w k r b < q_va (q_sD s) w k F r b * q_vb (q_sD s) w k r p
      · rw [if_pos (hiff.mpr hlt), if_pos hlt]
        obtain ⟨I', J', T', f1, f2, f3, f4⟩ := ih g p (p + 1) p I1 J1 T1 (by omega) (by omega) (by omega) p1 p2 hM2 e3
        exact ⟨I', J', T', f1, f2, f3, ⟨fun a c h => by rw [f4.1 a c h]; exact hfr a c h, fun a c h => by rw [f4.2 a c h]; exact hfrJ a c h⟩⟩
      · rw [if_neg (fun z => hlt (hiff.mp z)), if_neg hlt]
        obtain ⟨I', J', T', f1, f2, f3, f4⟩ := ih g b (p + 1) p I1 J1 T1 (by omega) (by omega) (by omega) b1 b2 hM2 e3
        exact ⟨I', J', T', f1, f2, f3, ⟨fun a c h => by rw [f4.1 a c h]; exact hfr a c h, fun a c h => by rw [f4.2 a c h]; exact hfrJ a c h⟩⟩
variable {I I2 : Nat → Nat → Int32} {J J2 : Nat → Nat → Int64} {T : Nat}
theorem i_lie (hn : 300 ≤ n) (hs : q_sok B s) (hX : q_HX V I J s) (hM : q_HM I2 J2 s) (hT : T = 54 ∨ T = 55) (hcx : ∀ k, k < 3 + (q_sU s).1 → ∀ D' I0 J0, q_dok D' → q_HX V I0 J0 (D', s.2) → q_wc n J0 T D' (w D' k) (am_u I0 27 2 (nI k))) (hcm : ∀ k, k < 3 + (q_sU s).1 → ∀ D' I0 J0, q_dok D' → q_HM I0 J0 (D', s.2) → 2 ≤ k → q_mc n D' (w D' k) k I0) (hwo : ∀ k, k < 3 + (q_sU s).1 → ∀ D', q_ok D' → q_R D' = q_R (q_sD s) → q_wok (q_R D') (w D' k)) (x1 x2 x3 : Int32) : ∃ r I' J' I2' J2' T', f_X11_lie n I J T x1 x2 x3 = some (r, I', J') ∧ f_X12_lie n I2 J2 T x1 x2 x3 = some (r, I2', J2', T') ∧ q_HX V I' J' s ∧ q_HM I2' J2' s ∧ (T' = 54 ∨ T' = 55) ∧ q_fX I I' J J' ∧ q_fM I2 I2' J2 J2' := by
  have hD := hs.1.1
  have hW := hD.1.1
  have hR := hD.1.2.1
  have hM0 := (hM.th 0).1
  have hp := (q_pow2 _ hR).2
  have hu1 := hs.2.2.1.1
  have hbc := q_bc_all _ hR
  unfold f_X11_lie f_X12_lie
  rcases g_rider (n := n) (J := J) (J2 := J2) (T := T) (by omega) hX.1.1.2.1 hM0.1.2.1 x1 with ⟨r, r1, r2, r3, r4⟩ | ⟨r3, r4⟩
  · rw [r3, r4, Option.bind_some, Option.bind_some, if_neg q_10, if_neg q_10]
    rcases g_law (n := n) (J := J) (J2 := J2) (T := T) hs.1 hX.1 hM0 hu1 hX.2.2.1.1 (hM.th 0).2.2.1.1 x2 with ⟨k, l1, l2, l3, l4, l5⟩ | ⟨l4, l5⟩
    · rw [l4, l5, Option.bind_some, Option.bind_some, if_neg q_10, if_neg q_10]
      rcases g_on x3 0 2 (A := 0) (B := 2) (A' := 0) (B' := 2) rfl rfl rfl rfl (by omega) (by omega) with ⟨v, v1, v2, v3, v4, v5⟩ | ⟨v4, v5⟩
      · rw [v4, v5, Option.bind_some, Option.bind_some, if_neg q_10, if_neg q_10]
        have hx : x3 = 0 ∨ x3 = 1 ∨ x3 = 2 := by
          rw [v3]
          rcases (show v = 0 ∨ v = 1 ∨ v = 2 by omega) with rfl | rfl | rfl
          · exact Or.inl rfl
          · exact Or.inr (Or.inl rfl)
          · exact Or.inr (Or.inr rfl)
        have h2p : 2 ^ 1 ≤ 2 ^ q_R (q_sD s) := Nat.pow_le_pow_right (by omega) l2
        have hw := hwo k l1 _ hD rfl
        have hho := hD.2.2 r r1
        obtain ⟨t1, t2, t3, t4, t5, t6⟩ := q_v_le (D := q_sD s) (w := w) (F := q_sF s) hD (hwo k l1) hs.2.2.2.1 r1 hho.1 hho.2.1
        obtain ⟨L1, L2⟩ := q_lb_in (q_va (q_sD s) w k (q_sF s) r) (q_vb (q_sD s) w k r) (W := q_W (q_sD s)) (q_W (q_sD s)) (q_ho (q_sD s) r) 1 (by omega) (Nat.le_refl _) hho.1 hho.2.1
        obtain ⟨z1, z2, z3, z4, z5, z6⟩ := q_v_le (D := q_sD s) (w := w) (F := q_sF s) hD (hwo k l1) hs.2.2.2.1 r1 L1 L2
        have hva : q_A (q_sD s) (w (q_sD s) k) k (2 ^ q_R (q_sD s) - 1) r = q_va (q_sD s) w k (q_sF s) r (q_ho (q_sD s) r) := by
          unfold q_va
          rw [q_mh_self, q_ap_0, Nat.mul_zero]
          show _ = _ + 0 * _
          rw [Int.zero_mul, Int.add_zero]
        have hvb : q_B (q_sD s) (w (q_sD s) k) k (2 ^ q_R (q_sD s) - 1) = q_vb (q_sD s) w k r (q_ho (q_sD s) r) := by
          unfold q_vb
          rw [q_mh_self]
        have hix : ok_ix (nI r) 6 := q_ix (by omega) (by omega)
        have hcl : (nI r).toNatClampNeg = r := q_cl (by omega)
        have hx3 : (3 : Int32) * nI r = nI (3 * r) := pk_mul 3 r
        have hix2 : ok_ix (nI (3 * r)) 18 := q_ix (by omega) (by omega)
        have hcl2 : (nI (3 * r)).toNatClampNeg = 3 * r := q_cl (by omega)
        have ho1 : I 6 r = nI (q_ho (q_sD s) r) := (hX.1.2.2 r r1).1
        have ho2 : I2 60 (3 * r) = nI (q_ho (q_sD s) r) := (hM.1.2.2 r r1).1
        -- the class
        obtain ⟨I1, e1, e2, e3, e4, e5, e6⟩ := x_weigh (n := n) (J := J) (T := T) hn hD hX.1 (hcx k l1 _ _ _ hs.1 hX) (f := q_R (q_sD s)) l2 (Nat.le_succ _)
        obtain ⟨I3, d1, d2, d3, d4⟩ := x_above (n := n) (J := J) (T := T) hn hD e6 e3 e4 hw (k := k) (by omega) e5 (S := 2 ^ q_R (q_sD s) - 1) (r := r) (by omega) (by omega) r1 (q_all r1)
        rw [hva] at d1
        obtain ⟨JJ, hJJ⟩ : ∃ z, z = am_u J 36 2 (zL (q_K k (2 ^ q_R (q_sD s) - 1) * q_va (q_sD s) w k (q_sF s) r (q_ho (q_sD s) r))) := ⟨_, rfl⟩
        have c1 := x_below (n := n) (J := JJ) (T := T) hn hD d3 (fun p p1 p2 i hi => by rw [d4 29 _ (by omega)]; exact e4 p p1 p2 i hi) hw (k := k) (by omega) (by rw [d4 27 _ (by omega)]; exact e5) (S := 2 ^ q_R (q_sD s) - 1) (by omega) (by omega)
        rw [hvb, Int.natCast_mul] at c1
        have hf3 : ∀ a c, ¬ (a = 28 ∨ a = 26 ∨ a = 29 ∨ (a = 19 ∧ c = 3) ∨ (a = 27 ∧ c = 2)) → I3 a c = I a c := fun a c h => by
          rw [d4 a c (by omega)]
          exact q_wf2 e2 a c h
        have hX3 : q_HX V I3 J s := hX.wf hs.2.2.1 hf3
        obtain ⟨J4, hJ4⟩ : ∃ z, z = am_u (am_u (am_u JJ 36 3 (zL (q_K k (2 ^ q_R (q_sD s) - 1) * (q_vb (q_sD s) w k r (q_ho (q_sD s) r) : Int)))) 36 4 (zL (q_K k (2 ^ q_R (q_sD s) - 1) * q_va (q_sD s) w k (q_sF s) r (q_ho (q_sD s) r)))) 36 5 (zL (q_K k (2 ^ q_R (q_sD s) - 1) * (q_vb (q_sD s) w k r (q_ho (q_sD s) r) : Int))) := ⟨_, rfl⟩
        have hfJ4 : ∀ a c, a ≠ 36 → J4 a c = J a c := fun a c h => by
          rw [hJ4, hJJ]
          unfold am_u
          rw [if_neg (by omega), if_neg (by omega), if_neg (by omega), if_neg (by omega)]
        have hX4 : q_HX V (am_u I3 36 6 (nI (q_ho (q_sD s) r))) J4 s := hX3.of hs.2.2.1 (fun a c h => by unfold am_u; rw [if_neg (by omega)]) (fun a c h => by unfold am_u; rw [if_neg (by omega)]) (fun a c h => hfJ4 a c (by omega))
        have hX4' : q_HX V (am_u I3 36 6 (nI (q_ho (q_sD s) r))) J4 (q_mv s r (q_ho (q_sD s) r)) := by rw [q_mv_self]; exact hX4
        obtain ⟨I', J', f1, f2, f3, f4, f5⟩ := x_lie_loop (V := V) (n := n) (T := T) hn hs (k := k) (F := q_sF s) (r := r) (by omega) hs.2.2.2.1 r1 (hcx k l1) (hwo k l1) (a0 := q_va (q_sD s) w k (q_sF s) r (q_ho (q_sD s) r)) (b0 := (q_vb (q_sD s) w k r (q_ho (q_sD s) r) : Nat)) n (q_W (q_sD s)) (q_ho (q_sD s) r) 1 (q_ho (q_sD s) r) _ J4 (by omega) (by omega) (Nat.le_refl _) hho.1 hho.2.1 hX4' (by simp [am_u]) ⟨by rw [hJ4, hJJ]; simp [am_u], by rw [hJ4]; simp [am_u], by rw [hJ4]; simp [am_u], by rw [hJ4]; simp [am_u]⟩
        have f1' : f_X1_search_79 n n (am_u I3 36 6 (nI (q_ho (q_sD s) r))) J4 T (nI r) (nI k) (nI (q_sF s)) (nI (2 ^ q_R (q_sD s) - 1)) (nI (q_ho (q_sD s) r)) 1 = some (I', J') := f1
        have hsearch : f_X1_search n I J T (nI r) (nI k) (nI (q_sF s)) = some (I', J') := by
          unfold f_X1_search f_X1_take
          rw [x_everyone hD hX.1, Option.bind_some, if_pos hix, hX.1.1.2.1, e1, Option.bind_some, d1, Option.bind_some]
          show (f_X7_below n I3 (am_u J 36 2 (zL (q_K k (2 ^ q_R (q_sD s) - 1) * q_va (q_sD s) w k (q_sF s) r (q_ho (q_sD s) r)))) T (nI (2 ^ q_R (q_sD s) - 1))).bind _ = _
          rw [← hJJ, c1, Option.bind_some]
          simp only [Option.bind_some, hcl, ho1]
          rw [← hJ4]
          exact f1'
        -- the reference
        obtain ⟨I5, J5, T5, p1, p2, p3, p4, p5, p6⟩ := m_layShares (n := n) hn hD hM0 (k := k) (by omega) (hcm k l1 _ _ _ hs.1 (hM.th 0)) hw (S := 2 ^ q_R (q_sD s) - 1) (by omega) (by omega) (J := J2) (T := T) (q_vf_r _) hT
        have hM5 : q_HM I5 J5 s := (hM.th 0).vf p2 p6
        have hM5' : q_HM I5 J5 (q_mv s r (q_ho (q_sD s) r)) := by rw [q_mv_self]; exact hM5
        obtain ⟨I6, J6, T6, g1, g2, g3, g4⟩ := m_lie_loop (n := n) hn hs (k := k) (F := q_sF s) (r := r) (by omega) rfl r1 (hcm k l1) (hwo k l1) hx t1 t3 t4 n (q_W (q_sD s)) (q_ho (q_sD s) r) 1 (q_ho (q_sD s) r) I5 J5 T5 (by omega) (by omega) (Nat.le_refl _) hho.1 hho.2.1 hM5' p3
        have g1' : f_X12_lie_85 n n I5 J5 T5 (nI r) (nI k) x3 (nI (q_ho (q_sD s) r)) (zL (q_va (q_sD s) w k (q_sF s) r (q_ho (q_sD s) r))) (zL (q_vb (q_sD s) w k r (q_ho (q_sD s) r) : Nat)) (nI (q_ho (q_sD s) r)) (zL (q_va (q_sD s) w k (q_sF s) r (q_ho (q_sD s) r))) (zL (q_vb (q_sD s) w k r (q_ho (q_sD s) r) : Nat)) 1 = _ := g1
        have hA5 : J5 66 r = zL (q_va (q_sD s) w k (q_sF s) r (q_ho (q_sD s) r)) := by rw [← hva]; exact p4 r r1 (q_all r1)
        have hB5 : J5 53 33 = zL (q_vb (q_sD s) w k r (q_ho (q_sD s) r) : Nat) := by rw [← hvb]; exact p5
        have hlaw := g1'
        rw [r2, l3, hX.2.2.2.1, hsearch, Option.bind_some, hx3, if_pos hix2, m_everybody hD hM0, Option.bind_some, p1, Option.bind_some, if_pos hix, hcl, hcl2, ho2]
        simp only [hA5, hB5]
        have hR2 : q_fM I2 I6 J2 J6 := ⟨fun a c h => by rw [g4.1 a c h, p2 a c (by omega)]; unfold am_u; rw [if_neg (by omega)], fun a c h => by rw [g4.2 a c h]; exact p6 a c (by omega) (by omega)⟩
        have hRX : q_fX I I' J J' := ⟨fun a c h => by rw [f5.1 a c h]; unfold am_u; rw [if_neg (by omega)]; exact hf3 a c (by omega), fun a c h => by rw [f5.2 a c h]; exact hfJ4 a c (by omega)⟩
        obtain ⟨bb, hbb⟩ : ∃ z, z = q_lb (q_va (q_sD s) w k (q_sF s) r) (q_vb (q_sD s) w k r) (q_W (q_sD s)) (q_ho (q_sD s) r) 1 := ⟨_, rfl⟩
        rw [← hbb] at f3 f4 hlaw z1 z2 z3 z4 z5
        obtain ⟨j1, j2, j3, j4⟩ := f4
        have hres : (if x3 = 0 then some ((I' 36 6).toInt64, I', J') else (f_X1_gainAbove n I' J' T).bind fun w9 => (f_X1_gainBelow n I' J' T).bind fun w10 => if x3 = 1 then f_X11_lie_81 n I' J' T w9 w10 1 else f_X11_lie_81 n I' J' T w9 w10 0) = some (q_lr x3 bb (q_va (q_sD s) w k (q_sF s) r (q_ho (q_sD s) r)) (q_va (q_sD s) w k (q_sF s) r bb) (q_vb (q_sD s) w k r (q_ho (q_sD s) r)) (q_vb (q_sD s) w k r bb), I', J') := by
          unfold q_lr
          by_cases hx0 : x3 = 0
          · rw [if_pos hx0, if_pos hx0, f3]
          · rw [if_neg hx0, if_neg hx0]
            unfold f_X1_gainAbove f_X1_gainBelow f_X11_lie_81
            rw [Option.bind_some, Option.bind_some, j1, j2, j3, j4]
            generalize hK : (q_K k (2 ^ q_R (q_sD s) - 1) : Int) = K at *
            generalize hva0 : q_va (q_sD s) w k (q_sF s) r (q_ho (q_sD s) r) = A0 at *
            generalize hva1 : q_va (q_sD s) w k (q_sF s) r bb = A1 at *
            generalize hvb0 : q_vb (q_sD s) w k r (q_ho (q_sD s) r) = B0 at *
            generalize hvb1 : q_vb (q_sD s) w k r bb = B1 at *
            have hKp : 0 < K := by omega
            have kB0 : (K * (B0 : Int)).natAbs ≤ 43200 := by rw [← hK, Int.natAbs_mul, Int.natAbs_natCast, Int.natAbs_natCast]; exact t5
            have kB1 : (K * (B1 : Int)).natAbs ≤ 43200 := by rw [← hK, Int.natAbs_mul, Int.natAbs_natCast, Int.natAbs_natCast]; exact z5
            have m1 : (K * A0 * (K * (B1 : Int))).natAbs ≤ 2 ^ 40 * 43200 := by rw [Int.natAbs_mul]; exact Nat.mul_le_mul t2 kB1
            have m2 : (K * A1 * (K * (B0 : Int))).natAbs ≤ 2 ^ 40 * 43200 := by rw [Int.natAbs_mul]; exact Nat.mul_le_mul z2 kB0
            have m3 : (K * (B0 : Int) * (K * (B1 : Int))).natAbs ≤ 43200 * 43200 := by rw [Int.natAbs_mul]; exact Nat.mul_le_mul kB0 kB1
            have hpos : 0 < K * (B0 : Int) * (K * (B1 : Int)) := Int.mul_pos (Int.mul_pos hKp (by omega)) (Int.mul_pos hKp (by omega))
            have kk : ∀ x y : Int, K * x * (K * y) = K * K * (x * y) := fun x y => by rw [Int.mul_assoc, Int.mul_left_comm x K y, ← Int.mul_assoc]
            have hq : ∀ y, q_pt (K * A0 * (K * (B1 : Int)) - K * A1 * (K * (B0 : Int))) (K * (B0 : Int) * (K * (B1 : Int))) y = q_pt (A0 * B1 - A1 * B0) (B0 * B1 : Nat) y := fun y => by
              rw [kk, kk, kk, ← Int.mul_sub, Int.natCast_mul]
              exact q_pt_mul (Int.mul_pos hKp hKp) _ _ y
            have hpl : ∀ y : Int32, f_X11_plain n I' J' T (zL (K * A0) * zL (K * (B1 : Int)) - zL (K * A1) * zL (K * (B0 : Int))) (zL (K * (B0 : Int)) * zL (K * (B1 : Int))) y = some (zL (q_pt (A0 * B1 - A1 * B0) (B0 * B1 : Nat) (decide (¬ y = 0)))) := fun y => by
              rw [zL_mul, zL_mul, zL_mul, zL_sub, x_plain hn (by omega) (by omega) hpos y, hq]
            rw [hpl, hpl, Option.bind_some, Option.bind_some]
            by_cases hx1 : x3 = 1
            · rw [if_pos hx1, decide_eq_true hx1]
              rfl
            · rw [if_neg hx1, decide_eq_false hx1]
              rfl
        exact ⟨_, I', J', I6, J6, T6, hres, hlaw, f2, g2, g3, hRX, hR2⟩
      · rw [v4, v5, Option.bind_some, Option.bind_some, if_pos rfl, if_pos rfl]
        exact ⟨_, _, _, _, _, _, rfl, rfl, hX, hM.th _, hT, q_fX.r _ _, q_fM.th _ _ _⟩
    · rw [l4, l5, Option.bind_some, Option.bind_some, if_pos rfl, if_pos rfl]
      exact ⟨_, _, _, _, _, _, rfl, rfl, hX, hM.th _, hT, q_fX.r _ _, q_fM.th _ _ _⟩
  · rw [r3, r4, Option.bind_some, Option.bind_some, if_pos rfl, if_pos rfl]
    exact ⟨_, _, _, _, _, _, rfl, rfl, hX, hM.th _, hT, q_fX.r _ _, q_fM.th _ _ _⟩
end QS
