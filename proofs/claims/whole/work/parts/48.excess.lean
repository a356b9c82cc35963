/-! ===== excess ===== -/
def q_ss (v : Nat → Int) (S : Nat) : Nat → Int
  | 0 => 0
  | r + 1 => q_ss v S r + (if S.testBit r then v r else 0)
theorem q_all {R r : Nat} (h : r < R) : (2 ^ R - 1).testBit r = true := by
  rw [Nat.testBit_two_pow_sub_one]
  exact decide_eq_true h
theorem zL_negn {c : Nat} (h : c < 2 ^ 30) : (-nI c).toInt64 = zL (-(c : Int)) := by
  have e : -nI c = nI 0 - nI c := by rw [nI_0, Int32.zero_sub]
  rw [e, zL_d (by omega) h]
  congr 1
  omega
section QW
variable {n : Nat} {J : Nat → Nat → Int64} {T : Nat} {D : q_Rd} {w : Nat → Nat → Nat} {I0 : Nat → Nat → Int32}
theorem m_wc2 (hn : 300 ≤ n) (hD : q_ok D) (h0 : q_RM I0 D) : q_mc n D (q_w2 D 2) 2 I0 := by
  have hR := hD.1.2.1
  intro I J T hf hT r m hr m1 m2
  obtain ⟨z1, z2⟩ := q_shl6 r (by omega)
  unfold f_X12_weightOf
  rw [if_pos (show nI 2 = 2 from rfl), z1, m_costOf hn hD (hf.R h0) (by omega), Option.bind_some]
  exact ⟨I, T, rfl, hf, hT⟩
theorem q_w2_ok (hD : q_ok D) (k : Nat) : q_wok (q_R D) (q_w2 D k) := by
  intro r m _
  have := q_cost_le hD (2 ^ r)
  unfold q_w2
  split <;> omega
theorem x_excess_loop {k f : Nat} (hn : 300 ≤ n) (hD : q_ok D) (hwo : q_wok (q_R D) w) (hk : k < 100) {S : Nat} (hS : S < 64) (hf : f ≤ q_bc (2 ^ q_R D - 1)) (a : Int) : ∀ (m r : Nat) (I : Nat → Nat → Int32), r ≤ q_R D → q_R D - r < m → q_RX I D → q_cc I D → q_WX I (q_R D) f w → I 27 2 = nI k → ∃ I', f_X7_excess_25 n m I J T (nI S) (nI (2 ^ q_R D - 1)) (zL (a + q_K k (2 ^ q_R D - 1) * q_ss (q_A D w k (2 ^ q_R D - 1)) S r)) (nI r) = some (zL (a + q_K k (2 ^ q_R D - 1) * q_ss (q_A D w k (2 ^ q_R D - 1)) S (q_R D)), I') ∧ q_RX I' D ∧ q_cc I' D ∧ ∀ x c, x ≠ 28 → I' x c = I x c := by
  have hR := hD.1.2.1
  have hp := Nat.two_pow_pos (q_R D)
  intro m
  induction m with
  | zero => intro r I _ h; omega
  | succ m ih =>
    intro r I hr hm hx hc hw hl
    rw [f_X7_excess_25, hx.1.2.1]
    by_cases e : r = q_R D
    · subst e
      rw [if_pos (Int32.le_refl _)]
      exact ⟨I, rfl, hx, hc, fun _ _ _ => rfl⟩
    · rw [if_neg (nI_ge (by omega) (by omega)), x_isIn (by omega) (by omega)]
      by_cases hb : S.testBit r = true
      · obtain ⟨I1, e1, e2, e3, e4⟩ := x_above (n := n) (J := J) (T := T) hn hD hx hc hw hwo hk hl (S := 2 ^ q_R D - 1) (r := r) (by omega) hf (by omega) (q_all (by omega))
        rw [if_pos hb, Option.bind_some, if_neg q_10, e1, Option.bind_some, zL_add]
        unfold f_X7_excess_56
        rw [nI_1]
        obtain ⟨I', f1, f2, f3, f4⟩ := ih (r + 1) I1 (by omega) (by omega) e3 e2 (fun p p1 p2 i hi => by rw [e4 29 _ (by omega)]; exact hw p p1 p2 i hi) (by rw [e4 27 2 (by omega)]; exact hl)
        have es : q_ss (q_A D w k (2 ^ q_R D - 1)) S (r + 1) = q_ss (q_A D w k (2 ^ q_R D - 1)) S r + q_A D w k (2 ^ q_R D - 1) r := by
          show _ + (if S.testBit r then _ else _) = _
          rw [if_pos hb]
        rw [es, Int.mul_add, ← Int.add_assoc] at f1
        exact ⟨I', f1, f2, f3, fun x c h => by rw [f4 x c h, e4 x c h]⟩
      · rw [if_neg hb, Option.bind_some, if_pos rfl]
        unfold f_X7_excess_56
        rw [nI_1]
        have es : q_ss (q_A D w k (2 ^ q_R D - 1)) S (r + 1) = q_ss (q_A D w k (2 ^ q_R D - 1)) S r := by
          show _ + (if S.testBit r then _ else _) = _
          rw [if_neg hb, Int.add_zero]
        rw [← es]
        exact ih (r + 1) I (by omega) (by omega) hx hc hw hl
/-- what a set pays more than its cost, over below -/
def q_ex (D : q_Rd) (w : Nat → Nat → Nat) (k S : Nat) : Int := q_ss (q_A D w k (2 ^ q_R D - 1)) S (q_R D) - q_cost D S * q_B D w k (2 ^ q_R D - 1)
theorem x_excess {I : Nat → Nat → Int32} {k f : Nat} (hn : 300 ≤ n) (hD : q_ok D) (hwo : q_wok (q_R D) w) (hk : k < 100) {S : Nat} (hS : S < 64) (hf : f ≤ q_bc (2 ^ q_R D - 1)) (hx : q_RX I D) (hc : q_cc I D) (hw : q_WX I (q_R D) f w) (hl : I 27 2 = nI k) : ∃ I', f_X7_excess n I J T (nI S) = some (zL (q_K k (2 ^ q_R D - 1) * q_ex D w k S), I') ∧ q_RX I' D ∧ q_cc I' D ∧ ∀ x c, x ≠ 28 → I' x c = I x c := by
  have hR := hD.1.2.1
  have hp := Nat.two_pow_pos (q_R D)
  have hcl := q_cost_le hD S
  obtain ⟨I1, e1, e2, e3, e4⟩ := x_costOf (n := n) (J := J) (T := T) hn hD hx hc hS
  have hw1 : q_WX I1 (q_R D) f w := fun p p1 p2 i hi => by rw [e4 29 _ (by omega)]; exact hw p p1 p2 i hi
  have hl1 : I1 27 2 = nI k := by rw [e4 27 2 (by omega)]; exact hl
  have e5 := x_below (n := n) (J := J) (T := T) hn hD e3 hw1 hwo hk hl1 (S := 2 ^ q_R D - 1) (by omega) hf
  obtain ⟨I', f1, f2, f3, f4⟩ := x_excess_loop (n := n) (J := J) (T := T) hn hD hwo hk hS hf (-(q_cost D S : Int) * ((q_K k (2 ^ q_R D - 1) * q_B D w k (2 ^ q_R D - 1) : Nat) : Int)) n 0 I1 (Nat.zero_le _) (by omega) e3 e2 hw1 hl1
  unfold f_X7_excess
  rw [x_everyone hD hx, Option.bind_some, e1, Option.bind_some]
  simp only [e5, Option.bind_some, zL_negn (show q_cost D S < 2 ^ 30 by omega), zL_mul]
  have g0 : q_ss (q_A D w k (2 ^ q_R D - 1)) S 0 = 0 := rfl
  rw [g0, Int.mul_zero, Int.add_zero] at f1
  have f1' : f_X7_excess_25 n n I1 J T (nI S) (nI (2 ^ q_R D - 1)) (zL (-(q_cost D S : Int) * ((q_K k (2 ^ q_R D - 1) * q_B D w k (2 ^ q_R D - 1) : Nat) : Int))) 0 = _ := f1
  rw [f1']
  refine ⟨I', ?_, f2, f3, fun x c h => by rw [f4 x c h, e4 x c h]⟩
  have eq : -(q_cost D S : Int) * ((q_K k (2 ^ q_R D - 1) * q_B D w k (2 ^ q_R D - 1) : Nat) : Int) + q_K k (2 ^ q_R D - 1) * q_ss (q_A D w k (2 ^ q_R D - 1)) S (q_R D) = q_K k (2 ^ q_R D - 1) * q_ex D w k S := by
    unfold q_ex
    rw [Int.mul_sub, Int.natCast_mul, Int.neg_mul, ← Int.mul_assoc, ← Int.mul_assoc, Int.mul_comm (q_cost D S : Int)]
    omega
  rw [eq]
end QW
