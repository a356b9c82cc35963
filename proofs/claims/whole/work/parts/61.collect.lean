/-! ===== a night paid, the class ===== -/
def q_nl (s : q_Sg) (L : q_Lg) : q_Sg := (s.1, s.2.1, s.2.2.1, s.2.2.2.1, s.2.2.2.2.1, L, s.2.2.2.2.2.2)
def q_py (D : q_Rd) (w : Nat → Nat → Nat) (k S r : Nat) : Int64 := if S.testBit r = true then zL ((q_A D w k S r * 720).tdiv (q_B D w k S)) else 0
/-- a night more, v paid in it -/
def q_nx (L : q_Lg) (v : Nat → Int64) : q_Lg := (q_lN L + 1, min 40 (q_lU L + 1), (fun r => q_lP L r + v r), fun j r => if j = q_lN L then v r else q_lY L j r)
def q_nt (s : q_Sg) (w : Nat → Nat → Nat) (k S : Nat) : q_Sg := q_nl s (q_nx (q_sL s) (q_py (q_sD s) w k S))
theorem q_lok.nn {B : Nat} {L : q_Lg} (h : q_lok B L) (v : Nat → Int64) : q_lok (B + 1) (q_nx L v) := by
  obtain ⟨h1, h2, h3⟩ := h
  show min 40 (q_lU L + 1) ≤ 40 ∧ min 40 (q_lU L + 1) ≤ q_lN L + 1 ∧ q_lN L + 1 ≤ B + 1
  omega
theorem q_lok.up {B B' : Nat} {L : q_Lg} (h : q_lok B L) (hB : B ≤ B') : q_lok B' L := ⟨h.1, h.2.1, Nat.le_trans h.2.2 hB⟩
theorem q_sok.up {B B' : Nat} {s : q_Sg} (h : q_sok B s) (hB : B ≤ B') : q_sok B' s := by
  obtain ⟨a, b, c, d, e, l, m⟩ := h
  exact ⟨a, b, c, d, e, q_lok.up l hB, fun z => ⟨(m z).1, (m z).2.1, (m z).2.2.1, q_lok.up (m z).2.2.2 hB⟩⟩
theorem q_sok.nt {B : Nat} {s : q_Sg} (h : q_sok B s) (w : Nat → Nat → Nat) (k S : Nat) : q_sok (B + 1) (q_nt s w k S) := by
  obtain ⟨a, b, c, d, e, l, m⟩ := h
  exact ⟨a, b, c, d, e, q_lok.nn l _, fun z => ⟨(m z).1, (m z).2.1, (m z).2.2.1, q_lok.up (m z).2.2.2 (Nat.le_succ _)⟩⟩
theorem q_HX.nl {V : (Nat → Int32) → Int32 → Nat → (Nat → Nat) → Prop} {I I' : Nat → Nat → Int32} {J J' : Nat → Nat → Int64} {s : q_Sg} (hu : q_uok (q_sU s)) (h : q_HX V I J s) (f : ∀ a k, ((a = 0 ∧ (k = 14 ∨ k = 15)) ∨ (a = 1 ∧ k = 1) ∨ (a = 19 ∧ k = 4) ∨ (a = 37 ∧ k = 5) ∨ (a = 50 ∧ (k = 2 ∨ k = 3))) → I' a k = I a k) (e : ∀ a k, ((2 ≤ a ∧ a ≤ 8) ∨ (21 ≤ a ∧ a ≤ 25) ∨ a = 32 ∨ a = 33 ∨ (38 ≤ a ∧ a ≤ 40) ∨ (44 ≤ a ∧ a ≤ 49)) → I' a k = I a k) (g : ∀ a k, (a = 51 ∨ a = 52) → J' a k = J a k) (L : q_Lg) (hl : q_LX 41 42 43 I' J' (q_R (q_sD s)) L) : q_HX V I' J' (q_nl s L) := by
  obtain ⟨a, b, c, d, i, l, k, m, t⟩ := h
  have ofR : ∀ {I I' : Nat → Nat → Int32} {D : q_Rd}, q_RX I D → (∀ a k, 3 ≤ a → a ≤ 8 → I' a k = I a k) → q_RX I' D := by
    intro I I' D h e
    obtain ⟨⟨a1, a2, a3, a4, a5⟩, b, c⟩ := h
    exact ⟨⟨by rw [e 3 _ (by omega) (by omega)]; exact a1, by rw [e 3 _ (by omega) (by omega)]; exact a2, by rw [e 3 _ (by omega) (by omega)]; exact a3, by rw [e 3 _ (by omega) (by omega)]; exact a4, by rw [e 3 _ (by omega) (by omega)]; exact a5⟩, fun p x y => ⟨by rw [e 4 _ (by omega) (by omega)]; exact (b p x y).1, by rw [e 5 _ (by omega) (by omega)]; exact (b p x y).2⟩, fun r x => ⟨by rw [e 6 _ (by omega) (by omega)]; exact (c r x).1, by rw [e 7 _ (by omega) (by omega)]; exact (c r x).2.1, by rw [e 8 _ (by omega) (by omega)]; exact (c r x).2.2⟩⟩
  refine ⟨ofR a (fun x y z w => e x y (by omega)), b.of (f _ _ (by omega)) (fun y => e _ y (by omega)), c.of hu.1 (f _ _ (by omega)) (fun x y z w => e x y (by omega)), by rw [f _ _ (by omega)]; exact d, i.of (f _ _ (by omega)) (fun x y z => e x y (by omega)), hl, by rw [f _ _ (by omega)]; exact k, fun z => ?_, fun k x => ⟨by rw [e 32 _ (by omega)]; exact (t k x).1, by rw [e 33 _ (by omega)]; exact (t k x).2⟩⟩
  obtain ⟨m1, m2⟩ := m z
  exact ⟨ofR m1 (fun x y z w => e (x + 41) y (by omega)), m2.of (f _ _ (by omega)) (f _ _ (by omega)) (fun y => g _ y (by omega)) (fun y => g _ y (by omega))⟩
section QW
variable {n : Nat} {D : q_Rd} {w : Nat → Nat → Nat}
/-- what a payment is, the class's parts and the reference's -/
theorem q_py_x (hD : q_ok D) (hwo : q_wok (q_R D) w) (k : Nat) {S r : Nat} (hS : S < 64) (hr : r < q_R D) (hb : S.testBit r = true) : (zL (q_K k S * q_A D w k S r) * 720) / zL ((q_K k S * q_B D w k S : Nat) : Int) = q_py D w k S r ∧ (zL (q_A D w k S r) * 720) / zL (q_B D w k S : Nat) = q_py D w k S r ∧ 0 < q_K k S * q_B D w k S ∧ q_K k S * q_B D w k S < 2 ^ 62 ∧ 0 < q_B D w k S ∧ q_B D w k S < 2 ^ 62 := by
  have hS0 : 0 < S := Nat.pos_of_ne_zero fun z => by rw [z, Nat.zero_testBit] at hb; cases hb
  have a1 := q_A_30 hD hwo k hS hr hb
  obtain ⟨b1, b2, b3⟩ := q_KB_16 hD hwo k hS hS0
  have hK := q_K_le k hS
  have hp := Nat.mul_pos hK.1 b1
  have e7 : (720 : Int64) = zL 720 := rfl
  have c1 : (q_K k S * q_A D w k S r : Int).natAbs ≤ 720 * 2 ^ 29 := by
    rw [Int.natAbs_mul, Int.natAbs_natCast]
    exact Nat.mul_le_mul hK.2 a1
  refine ⟨?_, ?_, hp, by omega, b1, by omega⟩
  · rw [e7, zL_mul, zL_div (by omega) (by omega)]
    unfold q_py
    rw [if_pos hb, Int.natCast_mul, Int.mul_assoc, Int.mul_tdiv_mul_of_pos _ _ (show (0 : Int) < q_K k S by omega)]
  · rw [e7, zL_mul, zL_div (by omega) (by omega)]
    unfold q_py
    rw [if_pos hb]
theorem x_collect_loop (hn : 300 ≤ n) (hD : q_ok D) (hwo : q_wok (q_R D) w) {k f S rw0 : Nat} (hk : k < 100) (hS : S < 2 ^ q_R D) (hf : S ≠ 0 → f ≤ q_bc S) (hrw : rw0 + 6 ≤ 240) {T : Nat} {y : Int64} (hy : S ≠ 0 → y = zL ((q_K k S * q_B D w k S : Nat) : Int)) : ∀ (m x : Nat) (I : Nat → Nat → Int32) (J : Nat → Nat → Int64), x ≤ 6 → 6 - x < m → q_RX I D → q_cc I D → q_WX I (q_R D) f w → I 27 2 = nI k → ∃ I' J', f_X0_collect_23 n m I J T (nI S) (nI rw0) y (nI x) = some (am_u (am_u I' 41 2 (I' 41 2 + 1)) 41 3 (am_min 40 (I' 41 3 + 1)), J') ∧ q_cc I' D ∧ (∀ a c, a ≠ 28 → I' a c = I a c) ∧ (∀ i, x ≤ i → i < 6 → J' 43 (rw0 + i) = q_py D w k S i ∧ J' 42 i = J 42 i + q_py D w k S i) ∧ (∀ a c, ¬ (a = 43 ∧ rw0 + x ≤ c ∧ c < rw0 + 6) → ¬ (a = 42 ∧ x ≤ c ∧ c < 6) → J' a c = J a c) := by
  have hR := hD.1.2.1
  have hp := (q_pow2 (q_R D) hR).2
  intro m
  induction m with
  | zero => intro x I J _ h; omega
  | succ m ih =>
    intro x I J hx hm hr hc hw hl
    rw [f_X0_collect_23]
    by_cases e : x = 6
    · subst e
      rw [if_pos (show (6 : Int32) ≤ nI 6 by decide +kernel)]
      exact ⟨I, J, rfl, hc, fun _ _ _ => rfl, fun i a b => by omega, fun _ _ _ _ => rfl⟩
    · have e1 : ¬ (6 : Int32) ≤ nI x := nI_ge (b := 6) (by omega) (by omega)
      have hix : ok_ix (nI x) 6 := q_ix (by omega) (by omega)
      have hix2 : ok_ix (nI (rw0 + x)) 240 := q_ix (by omega) (by omega)
      have hcl : (nI x).toNatClampNeg = x := q_cl (by omega)
      have hcl2 : (nI (rw0 + x)).toNatClampNeg = rw0 + x := q_cl (by omega)
      have step : ∀ (I1 : Nat → Nat → Int32) (z0 : Int64), z0 = q_py D w k S x → q_RX I1 D → q_cc I1 D → (∀ a c, a ≠ 28 → I1 a c = I a c) → ∃ I' J', f_X0_collect_64 n (f_X0_collect_23 n m) I1 J T (nI S) (nI rw0) y (nI x) z0 = some (am_u (am_u I' 41 2 (I' 41 2 + 1)) 41 3 (am_min 40 (I' 41 3 + 1)), J') ∧ q_cc I' D ∧ (∀ a c, a ≠ 28 → I' a c = I a c) ∧ (∀ i, x ≤ i → i < 6 → J' 43 (rw0 + i) = q_py D w k S i ∧ J' 42 i = J 42 i + q_py D w k S i) ∧ (∀ a c, ¬ (a = 43 ∧ rw0 + x ≤ c ∧ c < rw0 + 6) → ¬ (a = 42 ∧ x ≤ c ∧ c < 6) → J' a c = J a c) := by
        intro I1 z0 hz hr1 hc1 hI1
        obtain ⟨I', J', f1, f2, f3, f4, f5⟩ := ih (x + 1) I1 (am_u (am_u J 43 (rw0 + x) z0) 42 x (J 42 x + z0)) (by omega) (by omega) hr1 hc1 (fun p p1 p2 i hi => by rw [hI1 29 _ (by omega)]; exact hw p p1 p2 i hi) (by rw [hI1 27 _ (by omega)]; exact hl)
        unfold f_X0_collect_64
        rw [nI_add]
        simp only [if_pos hix, if_pos hix2, hcl, hcl2]
        rw [nI_1]
        refine ⟨I', J', f1, f2, fun a c h => by rw [f3 a c h, hI1 a c h], fun i i1 i2 => ?_, fun a c h1 h2 => ?_⟩
        · by_cases ei : i = x
          · subst ei
            rw [f5 43 (rw0 + i) (by omega) (by omega), f5 42 i (by omega) (by omega), ← hz]
            simp [am_u]
          · obtain ⟨g1, g2⟩ := f4 i (by omega) i2
            rw [g1, g2]
            refine ⟨rfl, ?_⟩
            unfold am_u
            rw [if_neg (by omega), if_neg (by omega)]
        · rw [f5 a c (by omega) (by omega)]
          unfold am_u
          rw [if_neg (by omega), if_neg (by omega)]
      rw [if_neg e1, x_isIn (by omega) (by omega), Option.bind_some]
      by_cases hb : S.testBit x = true
      · have hS0 : S ≠ 0 := fun z => by rw [z, Nat.zero_testBit] at hb; cases hb
        have hxR : x < q_R D := by
          rcases Nat.lt_or_ge x (q_R D) with z | z
          · exact z
          · rw [Nat.testBit_lt_two_pow (Nat.lt_of_lt_of_le hS (Nat.pow_le_pow_right (by omega) z))] at hb
            cases hb
        obtain ⟨p1, p2, p3, p4, p5, p6⟩ := q_py_x hD hwo k (S := S) (r := x) (by omega) hxR hb
        obtain ⟨I1, d1, d2, d3, d4⟩ := x_above (n := n) (J := J) (T := T) hn hD hr hc hw hwo hk hl hS (hf hS0) hxR hb
        have hy0 : ¬ lg_cmp y 0 ≤ 0 := by
          rw [hy hS0, lg_cmp_le, show (0 : Int64) = zL 0 from rfl, zL_le (by omega) (by omega) (by omega) (by omega)]
          omega
        have hy1 : ¬ y = 0 := by
          rw [hy hS0]
          exact zL_ne0 (by omega) (by omega)
        rw [if_pos hb, if_neg (by exact q_10), if_neg hy0, d1, Option.bind_some, if_pos hy1]
        exact step I1 _ (by rw [hy hS0]; exact p1) d3 d2 d4
      · rw [if_neg hb, if_pos rfl]
        unfold f_X0_collect_63
        exact step I 0 (by unfold q_py; rw [if_neg hb]) hr hc (fun _ _ _ => rfl)
end QW
theorem q_min40 : ∀ u, u ≤ 40 → am_min 40 (nI u + 1) = nI (min 40 (u + 1)) := by decide +kernel
section QS
variable {V : (Nat → Int32) → Int32 → Nat → (Nat → Nat) → Prop} {n B : Nat} {s : q_Sg} {w : Nat → Nat → Nat}
theorem x_collect (hn : 300 ≤ n) (hs : q_sok B s) (hB : B < 2 ^ 19) (hwo : q_wok (q_R (q_sD s)) w) {k f S : Nat} (hk : k < 100) (hS : S < 2 ^ q_R (q_sD s)) (hf : S ≠ 0 → f ≤ q_bc S) {I : Nat → Nat → Int32} {J : Nat → Nat → Int64} {T : Nat} (hX : q_HX V I J s) (hc : q_cc I (q_sD s)) (hw : q_WX I (q_R (q_sD s)) f w) (hl : I 27 2 = nI k) : ∃ I' J', f_X0_collect n I J T (nI S) = some (I', J') ∧ q_HX V I' J' (q_nt s w k S) ∧ q_cc I' (q_sD s) ∧ q_WX I' (q_R (q_sD s)) f w ∧ I' 27 2 = nI k ∧ q_fX I I' J J' := by
  have hD := hs.1.1
  have hR := hD.1.2.1
  have hp := (q_pow2 (q_R (q_sD s)) hR).2
  obtain ⟨u1, u2, u3⟩ := hs.2.2.2.2.2.1
  obtain ⟨l1, l2, l3, l4⟩ := hX.2.2.2.2.2.1
  have hN : q_lN (q_sL s) < 2 ^ 20 := by omega
  have hrow := x_row (n := n) (J := J) (T := T) l1 hN
  have main : ∀ y : Int64, (S ≠ 0 → y = zL ((q_K k S * q_B (q_sD s) w k S : Nat) : Int)) → ∃ I' J', f_X0_collect_18 n I J T (nI S) (nI (q_lN (q_sL s) % 40 * 6)) y = some (I', J') ∧ q_HX V I' J' (q_nt s w k S) ∧ q_cc I' (q_sD s) ∧ q_WX I' (q_R (q_sD s)) f w ∧ I' 27 2 = nI k ∧ q_fX I I' J J' := by
    intro y hy
    obtain ⟨I', J', f1, f2, f3, f4, f5⟩ := x_collect_loop (n := n) (T := T) hn hD hwo hk hS hf (rw0 := q_lN (q_sL s) % 40 * 6) (by omega) hy n 0 I J (by omega) (by omega) hX.1 hc hw hl
    have f1' : f_X0_collect_18 n I J T (nI S) (nI (q_lN (q_sL s) % 40 * 6)) y = _ := f1
    rw [f1']
    have hI : ∀ a c, a ≠ 28 → a ≠ 41 → am_u (am_u I' 41 2 (I' 41 2 + 1)) 41 3 (am_min 40 (I' 41 3 + 1)) a c = I a c := fun a c h1 h2 => by
      unfold am_u
      rw [if_neg (by omega), if_neg (by omega)]
      exact f3 a c h1
    refine ⟨_, J', rfl, hX.nl hs.2.2.1 (fun a c h => hI a c (by omega) (by omega)) (fun a c h => ?_) (fun a c h => f5 a c (by omega) (by omega)) _ ⟨?_, ?_, fun r hr => ?_, fun j j1 j2 r hr => ?_⟩, ?_, fun p p1 p2 i hi => by rw [hI 29 _ (by omega) (by omega)]; exact hw p p1 p2 i hi, by rw [hI 27 _ (by omega) (by omega)]; exact hl, ⟨fun a c h => hI a c (by omega) (by omega), fun a c h => f5 a c (by omega) (by omega)⟩⟩
    · exact hI a c (by omega) (by omega)
    · show am_u (am_u I' 41 2 (I' 41 2 + 1)) 41 3 (am_min 40 (I' 41 3 + 1)) 41 2 = nI (q_lN (q_sL s) + 1)
      rw [← nI_1, ← l1, ← f3 41 2 (by omega)]
      simp [am_u]
    · show am_u (am_u I' 41 2 (I' 41 2 + 1)) 41 3 (am_min 40 (I' 41 3 + 1)) 41 3 = nI (min 40 (q_lU (q_sL s) + 1))
      rw [← q_min40 _ u1, ← l2, ← f3 41 3 (by omega)]
      simp [am_u]
    · show J' 42 r = q_lP (q_sL s) r + _
      rw [(f4 r (Nat.zero_le _) (by omega)).2, l3 r hr]
    · have j1' : q_lN (q_sL s) + 1 ≤ j + min 40 (q_lU (q_sL s) + 1) := j1
      have j2' : j < q_lN (q_sL s) + 1 := j2
      show J' 43 (j % 40 * 6 + r) = if j = q_lN (q_sL s) then q_py (q_sD s) w k S r else q_lY (q_sL s) j r
      by_cases ej : j = q_lN (q_sL s)
      · rw [if_pos ej, ej]
        exact (f4 r (Nat.zero_le _) (by omega)).1
      · rw [if_neg ej, f5 43 _ (by omega) (by omega)]
        exact l4 j (by omega) (by omega) r hr
    · intro S' hS'
      have := f2 S' hS'
      unfold am_u
      rw [if_neg (by omega), if_neg (by omega)]
      exact this
  unfold f_X0_collect
  rw [hrow, Option.bind_some]
  by_cases hS0 : S = 0
  · subst hS0
    rw [if_pos nI_0]
    exact main 1 (fun z => absurd rfl z)
  · rw [if_neg (nI_ne0 (by omega) (by omega)), x_below hn hD hX.1 hw hwo hk hl hS (hf hS0), Option.bind_some]
    exact main _ (fun _ => rfl)
end QS
