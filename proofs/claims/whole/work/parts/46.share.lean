/-! ===== share ===== -/
theorem q_os_le {D : q_Rd} (hD : q_ok D) {k r o : Nat} (hk : k ≤ 6) (ho : o < 64) (hok : q_bc o ≤ k) : ∀ u : Nat, u ≤ 64 → -(5184000 * (u : Int)) ≤ q_os D k r o u ∧ q_os D k r o u ≤ 5184000 * (u : Int) := by
  intro u
  induction u with
  | zero =>
    intro _
    have e : q_os D k r o 0 = 0 := rfl
    rw [e]
    omega
  | succ u ih =>
    intro h
    have h1 := ih (by omega)
    have e : q_os D k r o (u + 1) = q_os D k r o u + (if u &&& o = u then q_ot D k r u else 0) := rfl
    rw [e]
    by_cases hb : u &&& o = u
    · have h2 := ((q_sub_f u (by omega) o ho).2 hb).2
      have h3 := q_ot_le (D := D) (r := r) (a := u) hD hk (by omega)
      rw [if_pos hb]
      omega
    · rw [if_neg hb]
      omega
theorem q_A_le {D : q_Rd} {w : Nat → Nat → Nat} (hD : q_ok D) (hwo : q_wok (q_R D) w) (k : Nat) {S r : Nat} (hS : S < 64) (hr : r < q_R D) (hb : S.testBit r = true) : (q_A D w k S r).natAbs ≤ 2 ^ 40 := by
  have hR := hD.1.2.1
  have hW := hD.1.1
  have h1 := q_sec_le hD S r (q_W D) (Nat.le_refl _)
  have hbs := q_bcx_eq S hS
  obtain ⟨w1, w2, w3, w4⟩ := q_wo_f S hS r (by omega)
  have w5 := w4 hb
  have h2 := q_os_le (D := D) (r := r) hD (k := q_bc S - 1) (o := q_wo S r) (by omega) (by omega) (by omega) (q_wo S r + 1) (by omega)
  have hcl := q_cost_le hD S
  have hwl := hwo r (q_bc S) hr
  unfold q_A q_ord
  by_cases k0 : k = 0
  · rw [if_pos k0]
    omega
  · rw [if_neg k0]
    by_cases k1 : k = 1
    · rw [if_pos k1]
      omega
    · rw [if_neg k1]
      have h3 : (if 0 < q_sw w (q_bc S) S (q_R D) then w r (q_bc S) else 1) ≤ 7200 := by split <;> omega
      have h4 := Nat.mul_le_mul h3 hcl
      omega
theorem q_B_le {D : q_Rd} {w : Nat → Nat → Nat} (hD : q_ok D) (hwo : q_wok (q_R D) w) (k : Nat) {S : Nat} (hS : S < 64) (hS0 : 0 < S) : 0 < q_B D w k S ∧ q_B D w k S ≤ 2 ^ 20 := by
  have hR := hD.1.2.1
  have hbs := q_bcx_eq S hS
  obtain ⟨f1, f2, f3, f4⟩ := q_fac_F (q_bc S) hbs.2.1
  have hsl := q_sw_le hwo (q_bc S) S (q_R D) (Nat.le_refl _)
  have := hbs.2.2 hS0
  unfold q_B
  split
  · omega
  · split
    · omega
    · split <;> omega
theorem q_K_le (k : Nat) {S : Nat} (hS : S < 64) : 0 < q_K k S ∧ q_K k S ≤ 720 := by
  have hbs := q_bcx_eq S hS
  obtain ⟨f1, f2, f3, f4⟩ := q_fac_F (q_bc S) hbs.2.1
  unfold q_K
  split
  · exact ⟨Nat.div_pos f3 f2, Nat.div_le_self _ _⟩
  · omega
theorem q_KA_le {D : q_Rd} {w : Nat → Nat → Nat} (hD : q_ok D) (hwo : q_wok (q_R D) w) (k : Nat) {S r : Nat} (hS : S < 64) (hr : r < q_R D) (hb : S.testBit r = true) : (q_K k S * q_A D w k S r : Int).natAbs < 2 ^ 52 := by
  have h1 := q_A_le hD hwo k hS hr hb
  have h2 := q_K_le k hS
  rw [Int.natAbs_mul, Int.natAbs_natCast]
  have h3 := Nat.mul_le_mul h2.2 h1
  omega
section QS
variable {V : (Nat → Int32) → Int32 → Nat → (Nat → Nat) → Prop} {n B : Nat} {I I2 : Nat → Nat → Int32} {J J2 : Nat → Nat → Int64} {T : Nat} {s : q_Sg} {w : Nat → Nat → Nat}
theorem q_HX.wf (hu : q_uok (q_sU s)) (h : q_HX V I J s) {I' : Nat → Nat → Int32} (f : ∀ a c, ¬ (a = 28 ∨ a = 26 ∨ a = 29 ∨ (a = 19 ∧ c = 3) ∨ (a = 27 ∧ c = 2)) → I' a c = I a c) : q_HX V I' J s := h.of hu (fun a k _ => f a k (by omega)) (fun a k _ => f a k (by omega)) (fun _ _ _ => rfl)
theorem q_wf2 {k : Nat} {I' : Nat → Nat → Int32} (f : q_wf (am_u I 27 2 (nI k)) I') : ∀ a c, ¬ (a = 28 ∨ a = 26 ∨ a = 29 ∨ (a = 19 ∧ c = 3) ∨ (a = 27 ∧ c = 2)) → I' a c = I a c := fun a c h => by
  rw [f a c (by omega)]
  unfold am_u
  rw [if_neg (by omega)]
/-- the class: weigh, above, below -/
theorem x_shares (hn : 300 ≤ n) (hs : q_sok B s) (hX : q_HX V I J s) {k : Nat} (hk : k < 100) (hc : q_wc n J T (q_sD s) w (am_u I 27 2 (nI k))) (hwo : q_wok (q_R (q_sD s)) w) {S r : Nat} (hS : S < 2 ^ q_R (q_sD s)) (hr : r < q_R (q_sD s)) (hb : S.testBit r = true) : ∃ I1 I', f_X7_weigh n I J T (nI k) (nI (q_bc S)) = some I1 ∧ f_X7_above n I1 J T (nI r) (nI S) = some (zL (q_K k S * q_A (q_sD s) w k S r), I') ∧ f_X7_below n I' J T (nI S) = some (zL ((q_K k S * q_B (q_sD s) w k S : Nat) : Int)) ∧ q_HX V I' J s ∧ q_fX I I' J J := by
  have hD := hs.1.1
  have hR := hD.1.2.1
  have hp := (q_pow2 _ hR).2
  have hS0 : 0 < S := Nat.pos_of_ne_zero fun z => by rw [z, Nat.zero_testBit] at hb; cases hb
  have hbs := q_bcx_eq S (by omega)
  have hb2 := q_bc_R hR hS
  obtain ⟨I1, e1, e2, e3, e4, e5, e6⟩ := x_weigh (n := n) (J := J) (T := T) hn hD hX.1 hc (f := q_bc S) (hbs.2.2 hS0) (by omega)
  obtain ⟨I', f1, f2, f3, f4⟩ := x_above (n := n) (J := J) (T := T) hn hD e6 e3 e4 hwo hk e5 hS (Nat.le_refl _) hr hb
  have g1 : q_WX I' (q_R (q_sD s)) (q_bc S) w := fun m m1 m2 i hi => by rw [f4 29 _ (by omega)]; exact e4 m m1 m2 i hi
  have g2 : I' 27 2 = nI k := by rw [f4 27 2 (by omega)]; exact e5
  have hf : ∀ a c, ¬ (a = 28 ∨ a = 26 ∨ a = 29 ∨ (a = 19 ∧ c = 3) ∨ (a = 27 ∧ c = 2)) → I' a c = I a c := fun a c h => by rw [f4 a c (by omega)]; exact q_wf2 e2 a c h
  exact ⟨I1, I', e1, f1, x_below hn hD f3 g1 hwo hk g2 hS (Nat.le_refl _), hX.wf hs.2.2.1 hf, ⟨fun a c h => hf a c (by omega), fun _ _ _ => rfl⟩⟩
theorem q_vf_r (I : Nat → Nat → Int32) : q_vf I I := fun _ _ _ => rfl
theorem q_HM.vf (h : q_HM I J s) {I' : Nat → Nat → Int32} {J' : Nat → Nat → Int64} (f : q_vf I I') (g : ∀ a c, a ≠ 66 → ¬ (a = 53 ∧ c = 33) → J' a c = J a c) : q_HM I' J' s := h.of (fun k _ => f 53 k (by omega)) (fun a k _ => f a k (by omega)) (fun a k _ => g a k (by omega) (by omega))
end QS
