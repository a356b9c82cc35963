/-! ===== lie: both loops ===== -/
section QW
variable {D : q_Rd} {w : q_Rd → Nat → Nat → Nat → Nat}
/-- what a rider has at heart, its stop told as p: over, and below -/
def q_va (D : q_Rd) (w : q_Rd → Nat → Nat → Nat → Nat) (k F r p : Nat) : Int := q_A (q_mh D r p) (w (q_mh D r p) k) k (2 ^ q_R D - 1) r + ((F * q_ap D p (q_ho D r) : Nat) : Int) * (q_B (q_mh D r p) (w (q_mh D r p) k) k (2 ^ q_R D - 1) : Nat)
def q_vb (D : q_Rd) (w : q_Rd → Nat → Nat → Nat → Nat) (k r p : Nat) : Nat := q_B (q_mh D r p) (w (q_mh D r p) k) k (2 ^ q_R D - 1)
def q_lb (va : Nat → Int) (vb : Nat → Nat) : Nat → Nat → Nat → Nat
  | 0, b, _ => b
  | g + 1, b, p => if va p * vb b < va b * vb p then q_lb va vb g p (p + 1) else q_lb va vb g b (p + 1)
theorem q_lb_in (va : Nat → Int) (vb : Nat → Nat) {W : Nat} : ∀ g b p, g + p = W + 1 → 1 ≤ p → 1 ≤ b → b ≤ W → 1 ≤ q_lb va vb g b p ∧ q_lb va vb g b p ≤ W := by
  intro g
  induction g with
  | zero => intro b p _ _ h1 h2; exact ⟨h1, h2⟩
  | succ g ih =>
    intro b p h h0 h1 h2
    unfold q_lb
    split
    · exact ih p (p + 1) (by omega) (by omega) h0 (by omega)
    · exact ih b (p + 1) (by omega) (by omega) h1 h2
theorem q_v_le (hD : q_ok D) {k F r p : Nat} (hwo : ∀ D', q_ok D' → q_R D' = q_R D → q_wok (q_R D') (w D' k)) (hF : F ≤ 20) (hr : r < q_R D) (p1 : 1 ≤ p) (p2 : p ≤ q_W D) : (q_va D w k F r p).natAbs ≤ 2 ^ 30 ∧ (q_K k (2 ^ q_R D - 1) * q_va D w k F r p : Int).natAbs ≤ 2 ^ 40 ∧ 0 < q_vb D w k r p ∧ q_vb D w k r p ≤ 43200 ∧ q_K k (2 ^ q_R D - 1) * q_vb D w k r p ≤ 43200 ∧ 0 < q_K k (2 ^ q_R D - 1) := by
  have hR := hD.1.2.1
  have hp := (q_pow2 (q_R D) hR).2
  have h2p : 2 ^ 1 ≤ 2 ^ q_R D := Nat.pow_le_pow_right (by omega) (by omega)
  have hD' : q_ok (q_mh D r p) := hD.mh p1 p2
  have hw : q_wok (q_R (q_mh D r p)) (w (q_mh D r p) k) := hwo _ hD' rfl
  have h1 : (q_A (q_mh D r p) (w (q_mh D r p) k) k (2 ^ q_R D - 1) r).natAbs ≤ 2 ^ 29 := q_A_30 hD' hw k (S := 2 ^ q_R D - 1) (by omega) hr (q_all hr)
  obtain ⟨b1, b2, b3⟩ := q_KB_16 hD' hw k (S := 2 ^ q_R D - 1) (by omega) (by omega)
  have hK := q_K_le k (S := 2 ^ q_R D - 1) (by omega)
  have ha := q_ap_le hD p (q_ho D r)
  have h3 := Nat.mul_le_mul hF ha
  have h4 := Nat.mul_le_mul h3 b2
  have hva : (q_va D w k F r p).natAbs ≤ 2 ^ 30 := by
    unfold q_va
    have e : ((F * q_ap D p (q_ho D r) : Nat) : Int) * ((q_B (q_mh D r p) (w (q_mh D r p) k) k (2 ^ q_R D - 1) : Nat) : Int) = ((F * q_ap D p (q_ho D r) * q_B (q_mh D r p) (w (q_mh D r p) k) k (2 ^ q_R D - 1) : Nat) : Int) := (Int.natCast_mul _ _).symm
    rw [e]
    omega
  have h5 := Nat.mul_le_mul hK.2 hva
  refine ⟨hva, ?_, b1, b2, b3, hK.1⟩
  rw [Int.natAbs_mul, Int.natAbs_natCast]
  omega
theorem q_vp {a c : Int} {b d : Nat} (ha : a.natAbs ≤ 2 ^ 40) (hb : b ≤ 43200) : (a * (b : Int)).natAbs ≤ 2 ^ 56 := by
  rw [Int.natAbs_mul, Int.natAbs_natCast]
  have := Nat.mul_le_mul ha hb
  omega
end QW
section QS
variable {V : (Nat → Int32) → Int32 → Nat → (Nat → Nat) → Prop} {n B : Nat} {T : Nat} {s : q_Sg} {w : q_Rd → Nat → Nat → Nat → Nat}
def q_lJ (J : Nat → Nat → Int64) (K : Int) (a0 : Int) (b0 : Int) (a1 : Int) (b1 : Int) : Prop := J 36 2 = zL (K * a0) ∧ J 36 3 = zL (K * b0) ∧ J 36 4 = zL (K * a1) ∧ J 36 5 = zL (K * b1)
theorem x_lie_loop (hn : 300 ≤ n) (hs : q_sok B s) {k F r : Nat} (hk : k < 100) (hF : F ≤ 20) (hr : r < q_R (q_sD s)) (hcx : ∀ D' I0 J0, q_dok D' → q_HX V I0 J0 (D', s.2) → q_wc n J0 T D' (w D' k) (am_u I0 27 2 (nI k))) (hwo : ∀ D', q_ok D' → q_R D' = q_R (q_sD s) → q_wok (q_R D') (w D' k)) {a0 b0 : Int} : ∀ (m g b p pc : Nat) (I : Nat → Nat → Int32) (J : Nat → Nat → Int64), g + p = q_W (q_sD s) + 1 → g < m → 1 ≤ p → 1 ≤ b → b ≤ q_W (q_sD s) → q_HX V I J (q_mv s r pc) → I 36 6 = nI b → q_lJ J (q_K k (2 ^ q_R (q_sD s) - 1)) a0 b0 (q_va (q_sD s) w k F r b) (q_vb (q_sD s) w k r b) → ∃ I' J', f_X1_search_79 n m I J T (nI r) (nI k) (nI F) (nI (2 ^ q_R (q_sD s) - 1)) (nI (q_ho (q_sD s) r)) (nI p) = some (I', J') ∧ q_HX V I' J' s ∧ I' 36 6 = nI (q_lb (q_va (q_sD s) w k F r) (q_vb (q_sD s) w k r) g b p) ∧ q_lJ J' (q_K k (2 ^ q_R (q_sD s) - 1)) a0 b0 (q_va (q_sD s) w k F r (q_lb (q_va (q_sD s) w k F r) (q_vb (q_sD s) w k r) g b p)) (q_vb (q_sD s) w k r (q_lb (q_va (q_sD s) w k F r) (q_vb (q_sD s) w k r) g b p)) ∧ q_fX I I' J J' := by
  have hD := hs.1.1
  have hW := hD.1.1
  have hR := hD.1.2.1
  have hp := (q_pow2 _ hR).2
  have h2p : 2 ^ 1 ≤ 2 ^ q_R (q_sD s) := Nat.pow_le_pow_right (by omega) (by omega)
  have hix : ok_ix (nI r) 6 := q_ix (by omega) (by omega)
  have hcl : (nI r).toNatClampNeg = r := q_cl (by omega)
  have hho := hD.2.2 r hr
  intro m
  induction m with
  | zero => intro g b p pc I J _ h; omega
  | succ m ih =>
    intro g b p pc I J h1 h2 p1 b1 b2 hX hI hJ
    have hx0 : I 3 0 = nI (q_W (q_sD s)) := hX.1.1.1
    have hr0 : I 3 1 = nI (q_R (q_sD s)) := hX.1.1.2.1
    rw [f_X1_search_79, hx0]
    cases g with
    | zero =>
      rw [if_pos (nI_lt (by omega) (by omega)), if_pos hix, hcl]
      have hX1 := q_HX.mv (s := q_mv s r pc) hs.2.2.1 hX r (q_ho (q_sD s) r)
      rw [q_mv_mv, q_mv_self] at hX1
      unfold q_lb
      refine ⟨_, J, rfl, hX1, ?_, hJ, ⟨fun a c h => by unfold am_u; rw [if_neg (by omega)], fun _ _ _ => rfl⟩⟩
      unfold am_u
      rw [if_neg (by omega)]
      exact hI
    | succ g =>
      have p2 : p ≤ q_W (q_sD s) := by omega
      rw [if_neg (nI_nlt (by omega) (by omega)), if_pos hix, hcl, hr0]
      have hX1 := q_HX.mv (s := q_mv s r pc) hs.2.2.1 hX r p
      rw [q_mv_mv] at hX1
      have hD1 : q_ok (q_mh (q_sD s) r p) := hD.mh p1 p2
      have hw1 : q_wok (q_R (q_sD s)) (w (q_mh (q_sD s) r p) k) := hwo _ hD1 rfl
      obtain ⟨I1, e1, e2, e3, e4, e5, e6⟩ := x_weigh (n := n) (J := J) (T := T) hn hD1 hX1.1 (hcx _ _ _ (hs.1.mh p1 p2) hX1) (f := q_R (q_sD s)) (by omega) (Nat.le_succ _)
      have hbc := q_bc_all _ hR
      have c1 := x_below (n := n) (J := J) (T := T) hn hD1 e6 e4 hw1 hk e5 (S := 2 ^ q_R (q_sD s) - 1) (Nat.sub_lt (by omega) (by omega)) (by omega)
      obtain ⟨I2, d1, d2, d3, d4⟩ := x_above (n := n) (J := J) (T := T) hn hD1 e6 e3 e4 hw1 hk e5 (S := 2 ^ q_R (q_sD s) - 1) (r := r) (Nat.sub_lt (by omega) (by omega)) (by omega) hr (q_all hr)
      have c2 : f_X2_apart n I2 J T (nI p) (nI (q_ho (q_sD s) r)) = some (nI (q_ap (q_sD s) p (q_ho (q_sD s) r))) := x_apart hn hD1 d3 p2 hho.2.1
      obtain ⟨u1, u2, u3, u4, u5, u6⟩ := q_v_le (D := q_sD s) (w := w) hD hwo hF hr p1 p2
      obtain ⟨t1, t2, t3, t4, t5, t6⟩ := q_v_le (D := q_sD s) (w := w) hD hwo hF hr b1 b2
      have hap := q_ap_le hD p (q_ho (q_sD s) r)
      have hfa := Nat.mul_le_mul hF hap
      have hval : zL (q_K k (2 ^ q_R (q_sD s) - 1) * q_A (q_mh (q_sD s) r p) (w (q_mh (q_sD s) r p) k) k (2 ^ q_R (q_sD s) - 1) r) + (nI F * nI (q_ap (q_sD s) p (q_ho (q_sD s) r))).toInt64 * zL ((q_K k (2 ^ q_R (q_sD s) - 1) * q_B (q_mh (q_sD s) r p) (w (q_mh (q_sD s) r p) k) k (2 ^ q_R (q_sD s) - 1) : Nat) : Int) = zL (q_K k (2 ^ q_R (q_sD s) - 1) * q_va (q_sD s) w k F r p) := by
        rw [show nI F * nI (q_ap (q_sD s) p (q_ho (q_sD s) r)) = nI (F * q_ap (q_sD s) p (q_ho (q_sD s) r)) from pk_mul _ _, nI_l (by omega), zL_n, zL_mul, zL_add]
        unfold q_va
        rw [Int.mul_add, Int.natCast_mul (q_K _ _), Int.mul_left_comm]
      have hbel : zL ((q_K k (2 ^ q_R (q_sD s) - 1) * q_B (q_mh (q_sD s) r p) (w (q_mh (q_sD s) r p) k) k (2 ^ q_R (q_sD s) - 1) : Nat) : Int) = zL (q_K k (2 ^ q_R (q_sD s) - 1) * (q_vb (q_sD s) w k r p : Int)) := by
        rw [Int.natCast_mul]
        rfl
      have v1 := q_vp (c := 0) (d := 0) u2 t5
      have v2 := q_vp (c := 0) (d := 0) t2 u5
      rw [Int.natCast_mul] at v1 v2
      have hiff : (0 ≤ lg_cmp (zL (q_K k (2 ^ q_R (q_sD s) - 1) * q_va (q_sD s) w k F r p) * zL (q_K k (2 ^ q_R (q_sD s) - 1) * (q_vb (q_sD s) w k r b : Int))) (zL (q_K k (2 ^ q_R (q_sD s) - 1) * q_va (q_sD s) w k F r b) * zL (q_K k (2 ^ q_R (q_sD s) - 1) * (q_vb (q_sD s) w k r p : Int)))) ↔ ¬ q_va (q_sD s) w k F r p * q_vb (q_sD s) w k r b < q_va (q_sD s) w k F r b * q_vb (q_sD s) w k r p := by
        rw [lg_cmp_ge, zL_mul, zL_mul, zL_le (by omega) (by omega) (by omega) (by omega), ← q_kk (K := q_K k (2 ^ q_R (q_sD s) - 1)) (by omega)]
        omega
      have hf2 : ∀ a c, ¬ (a = 28 ∨ a = 26 ∨ a = 29 ∨ (a = 19 ∧ c = 3) ∨ (a = 27 ∧ c = 2)) → I2 a c = am_u I 6 r (nI p) a c := fun a c h => by
        rw [d4 a c (by omega)]
        exact q_wf2 e2 a c h
      have hX2 : q_HX V I2 J (q_mv s r p) := q_HX.wf (s := q_mv s r p) hs.2.2.1 hX1 hf2
      have hfr : ∀ a c, 53 ≤ a → I2 a c = I a c := fun a c h => by
        rw [hf2 a c (by omega)]
        unfold am_u
        rw [if_neg (by omega)]
      have hI2 : I2 36 6 = nI b := by
        rw [hf2 36 6 (by omega)]
        unfold am_u
        rw [if_neg (by omega)]
        exact hI
      obtain ⟨j1, j2, j3, j4⟩ := hJ
      rw [e1, Option.bind_some, c1, Option.bind_some, d1, Option.bind_some]
      show ∃ I' J', ((f_X2_apart n I2 J T (nI p) (nI (q_ho (q_sD s) r))).bind _) = _ ∧ _
      rw [c2, Option.bind_some]
      simp only [hval]
      rw [hbel, j3, j4]
      unfold f_X1_search_186 q_lb
      rw [nI_1]
      by_cases hlt : q_va (q_sD s) w k F r p * q_vb (q_sD s) w k r b < q_va (q_sD s) w k F r b * q_vb (q_sD s) w k r p
      · rw [if_neg (fun z => hiff.mp z hlt), if_pos hlt]
        unfold f_X1_take
        rw [Option.bind_some]
        have hX3 : q_HX V (am_u I2 36 6 (nI p)) (am_u (am_u J 36 4 (zL (q_K k (2 ^ q_R (q_sD s) - 1) * q_va (q_sD s) w k F r p))) 36 5 (zL (q_K k (2 ^ q_R (q_sD s) - 1) * (q_vb (q_sD s) w k r p : Int)))) (q_mv s r p) := q_HX.of (s := q_mv s r p) hs.2.2.1 hX2 (fun a c h => by unfold am_u; rw [if_neg (by omega)]) (fun a c h => by unfold am_u; rw [if_neg (by omega)]) (fun a c h => by unfold am_u; rw [if_neg (by omega), if_neg (by omega)])
        obtain ⟨I', J', f1, f2, f3, f4, f5⟩ := ih g p (p + 1) p _ _ (by omega) (by omega) (by omega) p1 p2 hX3 (by simp [am_u]) ⟨by simp [am_u]; exact j1, by simp [am_u]; exact j2, by simp [am_u], by simp [am_u]⟩
        exact ⟨I', J', f1, f2, f3, f4, ⟨fun a c h => by rw [f5.1 a c h]; unfold am_u; rw [if_neg (by omega)]; exact hfr a c h, fun a c h => by rw [f5.2 a c h]; unfold am_u; rw [if_neg (by omega), if_neg (by omega)]⟩⟩
      · rw [if_pos (hiff.mpr hlt), if_neg hlt]
        obtain ⟨I', J', f1, f2, f3, f4, f5⟩ := ih g b (p + 1) p _ _ (by omega) (by omega) (by omega) b1 b2 hX2 hI2 ⟨j1, j2, j3, j4⟩
        exact ⟨I', J', f1, f2, f3, f4, ⟨fun a c h => by rw [f5.1 a c h]; exact hfr a c h, f5.2⟩⟩
end QS
