/-! ===== worse ===== -/
section QW
variable {n : Nat} {D : q_Rd} {w : Nat → Nat → Nat}
theorem q_ss_le {v : Nat → Int} {S R : Nat} {b : Nat} (h : ∀ r, r < R → (v r).natAbs ≤ b) : ∀ r, r ≤ R → (q_ss v S r).natAbs ≤ b * r := by
  intro r
  induction r with
  | zero => intro _; exact Nat.le_refl _
  | succ r ih =>
    intro hr
    have h1 := ih (by omega)
    have h2 := h r (by omega)
    have e : b * (r + 1) = b * r + b := Nat.mul_succ b r
    unfold q_ss
    split <;> omega
theorem q_ex_le (hD : q_ok D) (hwo : q_wok (q_R D) w) (hR0 : 0 < q_R D) (k S : Nat) : (q_ss (q_A D w k (2 ^ q_R D - 1)) S (q_R D)).natAbs ≤ 2 ^ 43 ∧ (q_ex D w k S).natAbs ≤ 2 ^ 44 ∧ q_cost D S * q_B D w k (2 ^ q_R D - 1) ≤ 2 ^ 34 := by
  have hR := hD.1.2.1
  have hp := (q_pow2 (q_R D) hR).2
  have h2 : 2 ^ 1 ≤ 2 ^ q_R D := Nat.pow_le_pow_right (by omega) hR0
  have h1 := q_ss_le (v := q_A D w k (2 ^ q_R D - 1)) (S := S) (R := q_R D) (b := 2 ^ 40) (fun r hr => q_A_le hD hwo k (by omega) hr (q_all hr)) (q_R D) (Nat.le_refl _)
  have h3 := q_B_le hD hwo k (S := 2 ^ q_R D - 1) (by omega) (by omega)
  have h4 := Nat.mul_le_mul (q_cost_le hD S) h3.2
  have h5 : (q_ss (q_A D w k (2 ^ q_R D - 1)) S (q_R D)).natAbs ≤ 2 ^ 43 := by omega
  refine ⟨h5, ?_, by omega⟩
  unfold q_ex
  have e : ((q_cost D S : Int) * (q_B D w k (2 ^ q_R D - 1) : Int)) = ((q_cost D S * q_B D w k (2 ^ q_R D - 1) : Nat) : Int) := (Int.natCast_mul _ _).symm
  rw [e]
  omega
theorem m_sharesOf_loop {I : Nat → Nat → Int32} {J : Nat → Nat → Int64} {T : Nat} (hD : q_ok D) (h : q_RM I D) {S : Nat} (hS : S < 64) {v : Nat → Int} (hv : ∀ r, r < q_R D → J 66 r = zL (v r)) : ∀ (m r : Nat), r ≤ q_R D → q_R D - r < m → f_X12_sharesOf_5 n m I J T (nI S) (zL (q_ss v S r)) (nI r) = some (zL (q_ss v S (q_R D))) := by
  have hR := hD.1.2.1
  intro m
  induction m with
  | zero => intro r _ h; omega
  | succ m ih =>
    intro r hr hm
    rw [f_X12_sharesOf_5, h.1.2.1]
    by_cases e : r = q_R D
    · subst e
      rw [if_pos (Int32.le_refl _)]
    · rw [if_neg (nI_ge (by omega) (by omega)), m_has (by omega) (by omega)]
      have es : q_ss v S (r + 1) = q_ss v S r + (if S.testBit r then v r else 0) := rfl
      by_cases hb : S.testBit r = true
      · rw [if_pos hb] at es
        rw [if_pos hb, Option.bind_some, if_neg q_10, if_pos (q_ix (by omega) (by omega)), q_cl (by omega), hv r (by omega)]
        unfold f_X12_sharesOf_35
        rw [nI_1, zL_add, ← es]
        exact ih (r + 1) (by omega) (by omega)
      · rw [if_neg hb] at es
        rw [if_neg hb, Option.bind_some, if_pos rfl]
        unfold f_X12_sharesOf_35
        have e0 : (0 : Int64) = zL 0 := rfl
        rw [nI_1, e0, zL_add, ← es]
        exact ih (r + 1) (by omega) (by omega)
theorem m_sharesOf {I : Nat → Nat → Int32} {J : Nat → Nat → Int64} {T : Nat} (hn : 300 ≤ n) (hD : q_ok D) (h : q_RM I D) {S : Nat} (hS : S < 64) {v : Nat → Int} (hv : ∀ r, r < q_R D → J 66 r = zL (v r)) : f_X12_sharesOf n I J T (nI S) = some (zL (q_ss v S (q_R D))) :=
  m_sharesOf_loop hD h hS hv n 0 (Nat.zero_le _) (by have := hD.1.2.1; omega)
/-- which set is told, or how many -/
def q_wl (D : q_Rd) (w : Nat → Nat → Nat) (k : Nat) (x : Int32) : Nat → Nat → Nat → Int32
  | 0, c, _ => if x = -1 then nI c else -1
  | g + 1, c, S => if 0 < q_ex D w k S then (if nI c = x then nI S else q_wl D w k x g (c + 1) (S + 1)) else q_wl D w k x g c (S + 1)
theorem x_worse_loop {J : Nat → Nat → Int64} {T k f : Nat} (hn : 300 ≤ n) (hD : q_ok D) (hR0 : 0 < q_R D) (hwo : q_wok (q_R D) w) (hk : k < 100) (hf : f ≤ q_bc (2 ^ q_R D - 1)) (x : Int32) : ∀ (m g c S : Nat) (I : Nat → Nat → Int32), g + S = 2 ^ q_R D → g < m → q_RX I D → q_cc I D → q_WX I (q_R D) f w → I 27 2 = nI k → ∃ I', f_X11_worse_35 n m I J T x (nI c) (nI S) = some (q_wl D w k x g c S, I') ∧ ∀ y z, y ≠ 28 → I' y z = I y z := by
  have hR := hD.1.2.1
  have hp := (q_pow2 (q_R D) hR).2
  have hp0 := Nat.two_pow_pos (q_R D)
  have hE := q_K_le k (S := 2 ^ q_R D - 1) (by omega)
  intro m
  induction m with
  | zero => intro g c S I _ h; omega
  | succ m ih =>
    intro g c S I h1 h2 hx hc hw hl
    rw [f_X11_worse_35, x_everyone hD hx, Option.bind_some]
    cases g with
    | zero =>
      rw [if_pos (nI_lt (by omega) (by omega))]
      refine ⟨I, ?_, fun _ _ _ => rfl⟩
      unfold q_wl
      by_cases hx1 : x = -1
      · rw [if_pos hx1, if_pos hx1]
      · rw [if_neg hx1, if_neg hx1]
    | succ g =>
      obtain ⟨I1, e1, e2, e3, e4⟩ := x_excess (n := n) (J := J) (T := T) hn hD hwo hk (S := S) (by omega) hf hx hc hw hl
      have hw1 : q_WX I1 (q_R D) f w := fun p p1 p2 i hi => by rw [e4 29 _ (by omega)]; exact hw p p1 p2 i hi
      have hl1 : I1 27 2 = nI k := by rw [e4 27 2 (by omega)]; exact hl
      have hb := (q_ex_le hD hwo hR0 k S).2.1
      have hb2 : (q_K k (2 ^ q_R D - 1) * q_ex D w k S : Int).natAbs < 2 ^ 60 := by
        rw [Int.natAbs_mul, Int.natAbs_natCast]
        have := Nat.mul_le_mul hE.2 hb
        omega
      rw [if_neg (nI_nlt (by omega) (by omega)), e1, Option.bind_some]
      unfold f_X11_worse_72
      have e0 : (0 : Int64) = zL 0 := rfl
      have hiff : (lg_cmp (zL (q_K k (2 ^ q_R D - 1) * q_ex D w k S)) 0 ≤ 0) ↔ ¬ 0 < q_ex D w k S := by
        rw [lg_cmp_le, e0, zL_le (by omega) (by omega) (by omega) (by omega)]
        constructor
        · intro z y
          have := Int.mul_pos (show (0 : Int) < q_K k (2 ^ q_R D - 1) by omega) y
          omega
        · intro z
          have := Int.mul_nonpos_of_nonneg_of_nonpos (show (0 : Int) ≤ q_K k (2 ^ q_R D - 1) by omega) (show q_ex D w k S ≤ 0 by omega)
          omega
      unfold q_wl
      by_cases hpos : 0 < q_ex D w k S
      · rw [if_neg (fun z => hiff.mp z hpos), if_pos hpos]
        by_cases hcx : nI c = x
        · rw [if_pos hcx, if_pos hcx]
          exact ⟨I1, rfl, e4⟩
        · rw [if_neg hcx, if_neg hcx, nI_1, nI_1]
          obtain ⟨I', f1, f2⟩ := ih g (c + 1) (S + 1) I1 (by omega) (by omega) e2 e3 hw1 hl1
          exact ⟨I', f1, fun y z h => by rw [f2 y z h, e4 y z h]⟩
      · rw [if_pos (hiff.mpr hpos), if_neg hpos, nI_1]
        obtain ⟨I', f1, f2⟩ := ih g c (S + 1) I1 (by omega) (by omega) e2 e3 hw1 hl1
        exact ⟨I', f1, fun y z h => by rw [f2 y z h, e4 y z h]⟩
end QW
