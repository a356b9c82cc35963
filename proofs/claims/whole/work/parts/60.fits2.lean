/-! ===== fits: the reference, and the call ===== -/
section QS
variable {V : (Nat → Int32) → Int32 → Nat → (Nat → Nat) → Prop} {n B : Nat} {s : q_Sg}
theorem m_fits_in (hs : q_sok B s) (hR0 : 0 < q_R (q_sD s)) {I : Nat → Nat → Int32} {J : Nat → Nat → Int64} {T : Nat} (hM : q_HM I J s) (hv : ∀ r, r < q_R (q_sD s) → J 66 r = zL (q_sec (q_sD s) (2 ^ q_R (q_sD s) - 1) r (q_W (q_sD s)) : Nat)) (hb : J 53 33 = zL (60 : Nat)) {k29 : (Nat → Nat → Int32) → (Nat → Nat → Int64) → Nat → Int32 → Int32 → Int32 → Int32 → Option (Int32 × (Nat → Nat → Int32) × (Nat → Nat → Int64) × Nat)} (x1 x2 : Int32) {a p : Nat} (hp9 : p < 10) : ∀ (m i j : Nat) (b : Bool), i + j = (q_sS s).1 → i < m → f_X12_fits_63 n k29 m I J T x1 x2 (nI a) (nI p) (if b then 1 else 0) (nI j) = k29 I J T x1 x2 (nI (if (b && q_hr (q_sD s) (q_sS s) i j) = true then a ||| 2 ^ p else a)) (nI (p + 1)) := by
  have hD := hs.1.1
  have hW := hD.1.1
  have hR := hD.1.2.1
  intro m
  induction m with
  | zero => intro i j b _ h; omega
  | succ m ih =>
    intro i j b h1 h2
    have hsz := hs.2.2.2.2.1.1
    have h5 : I 53 48 = nI (q_sS s).1 := hM.2.2.2.2.1.1
    rw [f_X12_fits_63, h5]
    cases i with
    | zero =>
      rw [if_pos (nI_le (by omega) (by omega))]
      unfold f_X12_fits_142 q_hr
      rw [nI_1, q_shl10 p hp9, q_or0, q_or, Bool.and_true]
      cases b with
      | false => rfl
      | true => rfl
    | succ i =>
      have eu : q_hr (q_sD s) (q_sS s) (i + 1) j = (q_h1 (q_sD s) (q_sS s) j && q_hr (q_sD s) (q_sS s) i (j + 1)) := rfl
      rw [if_neg (nI_ge (by omega) (by omega)), eu]
      unfold f_X12_fits_119 f_X12_fits_120
      rw [nI_1]
      cases b with
      | false =>
        have g := ih i (j + 1) false (by omega) (by omega)
        rw [Bool.false_and] at g ⊢
        rw [if_pos (by rfl)]
        exact g
      | true =>
        obtain ⟨g1, g2, g3, g4⟩ := hs.2.2.2.2.1.2 j (by omega)
        obtain ⟨v1, v2, v3⟩ := hM.2.2.2.2.1.2 j (by omega)
        have hix : ok_ix (nI j) 10 := q_ix (by omega) (by omega)
        have hcl : (nI j).toNatClampNeg = j := q_cl (by omega)
        have hix2 : ok_ix (nI ((q_sS s).2.1 j)) 6 := q_ix (by omega) (by omega)
        have hcl2 : (nI ((q_sS s).2.1 j)).toNatClampNeg = (q_sS s).2.1 j := q_cl (by omega)
        have hsl := q_sec_le2 hD (2 ^ q_R (q_sD s) - 1) ((q_sS s).2.1 j)
        have m1 := Nat.mul_le_mul hsl g4
        have m2 := Nat.mul_le_mul g2 (Nat.le_refl 60)
        have hiff : (lg_cmp (zL (q_sec (q_sD s) (2 ^ q_R (q_sD s) - 1) ((q_sS s).2.1 j) (q_W (q_sD s)) : Nat) * zL ((q_sS s).2.2.2 j : Nat)) (zL ((q_sS s).2.2.1 j : Nat) * zL (60 : Nat)) = 0) ↔ q_h1 (q_sD s) (q_sS s) j = true := by
          rw [lg_cmp_eq, zL_mul, zL_mul, ← Int.natCast_mul, ← Int.natCast_mul, zL_eq (by omega) (by omega) (by omega) (by omega)]
          unfold q_h1
          rw [decide_eq_true_eq]
          omega
        rw [if_neg (by exact q_10)]
        simp only [if_pos hix, hcl, v1, v2, v3, if_pos hix2, hcl2, hv _ g1, hb]
        rw [nI_l (show (q_sS s).2.2.2 j < 2 ^ 31 by omega), nI_l (show (q_sS s).2.2.1 j < 2 ^ 31 by omega), zL_n, zL_n]
        by_cases hh : q_h1 (q_sD s) (q_sS s) j = true
        · have g := ih i (j + 1) true (by omega) (by omega)
          rw [if_pos (hiff.mpr hh), hh]
          exact g
        · have g := ih i (j + 1) false (by omega) (by omega)
          rw [if_neg (fun z => hh (hiff.mp z)), show q_h1 (q_sD s) (q_sS s) j = false by simpa using hh]
          exact g
theorem m_fits_loop (hn : 300 ≤ n) (hs : q_sok B s) {r : Nat} (hr : r < q_R (q_sD s)) : ∀ (m g a p pc : Nat) (I : Nat → Nat → Int32) (J : Nat → Nat → Int64) (T : Nat), g + p = q_W (q_sD s) + 1 → g < m → 1 ≤ p → q_HM I J (q_mv s r pc) → (T = 54 ∨ T = 55) → ∃ I' J' T', f_X12_fits_29 n m I J T (nI r) (nI (q_ho (q_sD s) r)) (nI a) (nI p) = some (nI (q_fb (q_sD s) (q_sS s) r g a p), I', J', T') ∧ q_HM I' J' s ∧ (T' = 54 ∨ T' = 55) ∧ q_fM I I' J J' := by
  have hD := hs.1.1
  have hW := hD.1.1
  have hR := hD.1.2.1
  have hp := (q_pow2 _ hR).2
  have h2p : 2 ^ 1 ≤ 2 ^ q_R (q_sD s) := Nat.pow_le_pow_right (by omega) (by omega)
  have hx3 : (3 : Int32) * nI r = nI (3 * r) := pk_mul 3 r
  have hix2 : ok_ix (nI (3 * r)) 18 := q_ix (by omega) (by omega)
  have hcl2 : (nI (3 * r)).toNatClampNeg = 3 * r := q_cl (by omega)
  intro m
  induction m with
  | zero => intro g a p pc I J T _ h; omega
  | succ m ih =>
    intro g a p pc I J T h1 h2 p1 hM hT
    have hx0 : I 53 26 = nI (q_W (q_sD s)) := hM.1.1.1
    rw [f_X12_fits_29, hx0, hx3]
    cases g with
    | zero =>
      rw [if_pos (nI_lt (by omega) (by omega)), if_pos hix2, hcl2]
      have hM1 := hM.mv r (q_ho (q_sD s) r)
      rw [q_mv_mv, q_mv_self] at hM1
      exact ⟨_, J, T, rfl, hM1, hT, ⟨fun a c h => by unfold am_u; rw [if_neg (by omega)], fun _ _ _ => rfl⟩⟩
    | succ g =>
      have p2 : p ≤ q_W (q_sD s) := by omega
      have hM1 := hM.mv r p
      rw [q_mv_mv] at hM1
      have hD1 : q_ok (q_mh (q_sD s) r p) := hD.mh p1 p2
      obtain ⟨I1, J1, T1, e1, e2, e3, e4, e5, e6⟩ := m_layShares (n := n) hn hD1 hM1.1 (k := 0) (by omega) (fun h => by omega) (q_w2_ok hD1 0) (S := 2 ^ q_R (q_sD s) - 1) (Nat.sub_lt (by omega) (by omega)) (by omega) (J := J) (T := T) (q_vf_r _) hT
      have e1' : f_X12_layShares n (am_u I 60 (3 * r) (nI p)) J T (nI (2 ^ q_R (q_sD s) - 1)) 0 = _ := e1
      have hM2 : q_HM I1 J1 (q_mv s r p) := hM1.vf e2 e6
      have hv : ∀ i, i < q_R (q_sD s) → J1 66 i = zL (q_sec (q_mh (q_sD s) r p) (2 ^ q_R (q_sD s) - 1) i (q_W (q_sD s)) : Nat) := fun i hi => by
        rw [e4 i hi (q_all hi)]
        unfold q_A
        rw [if_pos rfl]
        rfl
      have hb : J1 53 33 = zL (60 : Nat) := by
        rw [e5]
        unfold q_B
        rw [if_pos rfl]
      have g0 := m_fits_in (n := n) (T := T1) (hs.mv (r := r) p1 p2) (Nat.lt_of_le_of_lt (Nat.zero_le _) hr) hM2 hv hb (k29 := f_X12_fits_29 n m) (nI r) (nI (q_ho (q_sD s) r)) (a := a) (p := p) (by omega) n (q_sS s).1 0 true (Nat.add_zero _) (by have := hs.2.2.2.2.1.1; omega)
      have g0' : f_X12_fits_63 n (f_X12_fits_29 n m) n I1 J1 T1 (nI r) (nI (q_ho (q_sD s) r)) (nI a) (nI p) 1 0 = f_X12_fits_29 n m I1 J1 T1 (nI r) (nI (q_ho (q_sD s) r)) (nI (if q_hr (q_mh (q_sD s) r p) (q_sS s) (q_sS s).1 0 = true then a ||| 2 ^ p else a)) (nI (p + 1)) := g0
      have eu : q_fb (q_sD s) (q_sS s) r (g + 1) a p = q_fb (q_sD s) (q_sS s) r g (if q_hr (q_mh (q_sD s) r p) (q_sS s) (q_sS s).1 0 = true then a ||| 2 ^ p else a) (p + 1) := by
        rw [q_fb]
        split <;> rfl
      rw [if_neg (nI_nlt (by omega) (by omega)), if_pos hix2, hcl2, show f_X12_everybody n (am_u I 60 (3 * r) (nI p)) J T = some (nI (2 ^ q_R (q_sD s) - 1)) from m_everybody (D := q_mh (q_sD s) r p) hD1 hM1.1, Option.bind_some, e1', Option.bind_some, g0', eu]
      obtain ⟨I', J', T', f1, f2, f3, f4⟩ := ih g (if q_hr (q_mh (q_sD s) r p) (q_sS s) (q_sS s).1 0 = true then a ||| 2 ^ p else a) (p + 1) p I1 J1 T1 (by omega) (by omega) (by omega) hM2 e3
      exact ⟨I', J', T', f1, f2, f3, ⟨fun a c h => by rw [f4.1 a c h, e2 a c (by omega)]; unfold am_u; rw [if_neg (by omega)], fun a c h => by rw [f4.2 a c h]; exact e6 a c (by omega) (by omega)⟩⟩
variable {I I2 : Nat → Nat → Int32} {J J2 : Nat → Nat → Int64} {T : Nat}
theorem i_fits (hn : 300 ≤ n) (hs : q_sok B s) (hX : q_HX V I J s) (hM : q_HM I2 J2 s) (hT : T = 54 ∨ T = 55) (x1 : Int32) : ∃ r I' I2' J2' T', f_X11_fits n I J T x1 = some (r, I') ∧ f_X12_fits n I2 J2 T x1 = some (r, I2', J2', T') ∧ q_HX V I' J s ∧ q_HM I2' J2' s ∧ (T' = 54 ∨ T' = 55) ∧ q_fX I I' J J ∧ q_fM I2 I2' J2 J2' := by
  have hD := hs.1.1
  have hW := hD.1.1
  have hR := hD.1.2.1
  have hM0 := (hM.th 0).1
  unfold f_X11_fits f_X12_fits
  rcases g_rider (n := n) (J := J) (J2 := J2) (T := T) (by omega) hX.1.1.2.1 hM0.1.2.1 x1 with ⟨r, r1, r2, r3, r4⟩ | ⟨r3, r4⟩
  · have hix : ok_ix (nI r) 6 := q_ix (by omega) (by omega)
    have hcl : (nI r).toNatClampNeg = r := q_cl (by omega)
    have hx3 : (3 : Int32) * nI r = nI (3 * r) := pk_mul 3 r
    have hix2 : ok_ix (nI (3 * r)) 18 := q_ix (by omega) (by omega)
    have hcl2 : (nI (3 * r)).toNatClampNeg = 3 * r := q_cl (by omega)
    have ho1 : I 6 r = nI (q_ho (q_sD s) r) := (hX.1.2.2 r r1).1
    have ho2 : I2 60 (3 * r) = nI (q_ho (q_sD s) r) := (hM.1.2.2 r r1).1
    obtain ⟨I', f1, f2, f3⟩ := x_fits_loop (V := V) (n := n) (T := T) hn hs r1 n (q_W (q_sD s)) 0 1 (q_ho (q_sD s) r) I (by omega) (by omega) (Nat.le_refl _) (by rw [q_mv_self]; exact hX)
    obtain ⟨I3, J3, T3, g1, g2, g3, g4⟩ := m_fits_loop (n := n) hn hs r1 n (q_W (q_sD s)) 0 1 (q_ho (q_sD s) r) (am_u I2 53 0 0) J2 T (by omega) (by omega) (Nat.le_refl _) (by rw [q_mv_self]; exact hM.th 0) hT
    have f1' : f_X11_fits_25 n n I J T (nI r) (nI (q_ho (q_sD s) r)) 0 1 = _ := f1
    have g1' : f_X12_fits_29 n n (am_u I2 53 0 0) J2 T (nI r) (nI (q_ho (q_sD s) r)) 0 1 = _ := g1
    rw [r3, r4, Option.bind_some, Option.bind_some, if_neg q_10, if_neg q_10, r2, if_pos hix, hx3, if_pos hix2, hcl, hcl2, ho1, ho2, f1', g1']
    exact ⟨_, I', I3, J3, T3, rfl, rfl, f2, g2, g3, ⟨f3, fun _ _ _ => rfl⟩, ⟨fun a c h => by rw [g4.1 a c h]; unfold am_u; rw [if_neg (by omega)], g4.2⟩⟩
  · rw [r3, r4, Option.bind_some, Option.bind_some, if_pos rfl, if_pos rfl]
    exact ⟨_, _, _, _, _, rfl, rfl, hX, hM.th _, hT, q_fX.r _ _, q_fM.th _ _ _⟩
end QS
