/-! ===== left: who walks, the class ===== -/
section QW
variable {n : Nat} {D : q_Rd} {w : Nat → Nat → Nat}
def q_wk (D : q_Rd) (w : Nat → Nat → Nat) (k S : Nat) : Nat → Nat
  | 0 => 0
  | r + 1 => if S.testBit r = true ∧ (q_wa D r : Int) * q_B D w k S < q_A D w k S r then q_wk D w k S r ||| 2 ^ r else q_wk D w k S r
theorem x_walk_loop {J : Nat → Nat → Int64} {T k f : Nat} (hn : 300 ≤ n) (hD : q_ok D) (hwo : q_wok (q_R D) w) (hk : k < 100) {S : Nat} (hS : S < 2 ^ q_R D) (hS0 : 0 < S) (hf : f ≤ q_bc S) : ∀ (m r : Nat) (I : Nat → Nat → Int32), r ≤ q_R D → q_R D - r < m → q_RX I D → q_cc I D → q_WX I (q_R D) f w → I 27 2 = nI k → ∃ I', f_X11_walkersOf_4 n m I J T (nI S) (nI (q_wk D w k S r)) (nI r) = some (nI (q_wk D w k S (q_R D)), I') ∧ q_RX I' D ∧ q_cc I' D ∧ ∀ y z, y ≠ 28 → I' y z = I y z := by
  have hR := hD.1.2.1
  have hp := (q_pow2 (q_R D) hR).2
  have hK := q_K_le k (S := S) (by omega)
  have hB := q_B_le hD hwo k (S := S) (by omega) hS0
  intro m
  induction m with
  | zero => intro r I _ h; omega
  | succ m ih =>
    intro r I hr hm hx hc hw hl
    rw [f_X11_walkersOf_4, hx.1.2.1]
    by_cases e : r = q_R D
    · subst e
      rw [if_pos (Int32.le_refl _)]
      exact ⟨I, rfl, hx, hc, fun _ _ _ => rfl⟩
    · rw [if_neg (nI_ge (by omega) (by omega)), x_isIn (by omega) (by omega)]
      have es : q_wk D w k S (r + 1) = if S.testBit r = true ∧ (q_wa D r : Int) * q_B D w k S < q_A D w k S r then q_wk D w k S r ||| 2 ^ r else q_wk D w k S r := rfl
      by_cases hb : S.testBit r = true
      · obtain ⟨I1, e1, e2, e3, e4⟩ := x_above (n := n) (J := J) (T := T) hn hD hx hc hw hwo hk hl (S := S) (r := r) hS hf (by omega) hb
        have hw1 : q_WX I1 (q_R D) f w := fun p p1 p2 i hi => by rw [e4 29 _ (by omega)]; exact hw p p1 p2 i hi
        have hl1 : I1 27 2 = nI k := by rw [e4 27 2 (by omega)]; exact hl
        have e5 := x_below (n := n) (J := J) (T := T) hn hD e3 hw1 hwo hk hl1 (S := S) hS hf
        have e6 := (e3.2.2 r (by omega)).2.1
        have hwa := (hD.2.2 r (by omega)).2.2.1
        have hA := q_KA_le hD hwo k (S := S) (r := r) (by omega) (by omega) hb
        obtain ⟨z1, z2⟩ := q_shl6 r (by omega)
        have hcl : (nI r).toNatClampNeg = r := q_cl (by omega)
        have hkb := Nat.mul_le_mul hK.2 hB.2
        have hwb := Nat.mul_le_mul hwa hkb
        have en : ((q_wa D r : Int) * ((q_K k S * q_B D w k S : Nat) : Int)) = ((q_wa D r * (q_K k S * q_B D w k S) : Nat) : Int) := (Int.natCast_mul _ _).symm
        have hiff : (lg_cmp (zL (q_K k S * q_A D w k S r)) (zL ((q_wa D r : Int) * ((q_K k S * q_B D w k S : Nat) : Int))) ≤ 0) ↔ ¬ (q_wa D r : Int) * q_B D w k S < q_A D w k S r := by
          rw [lg_cmp_le, en, zL_le (by omega) (by omega) (by omega) (by omega), ← en, Int.natCast_mul]
          have e7 : (q_wa D r : Int) * ((q_K k S : Int) * q_B D w k S) = (q_K k S : Int) * ((q_wa D r : Int) * q_B D w k S) := by
            rw [← Int.mul_assoc, Int.mul_comm (q_wa D r : Int), Int.mul_assoc]
          rw [e7, Int.mul_le_mul_left (show (0 : Int) < q_K k S by omega)]
          omega
        rw [if_pos hb, Option.bind_some, if_neg q_10, e1, Option.bind_some, if_pos (q_ix (by omega) (by omega))]
        simp only [e5, Option.bind_some, hcl, e6, nI_l (show q_wa D r < 2 ^ 31 by omega), zL_n, zL_mul]
        unfold f_X11_walkersOf_61
        rw [nI_1, z1, q_or]
        by_cases hlt : (q_wa D r : Int) * q_B D w k S < q_A D w k S r
        · rw [if_pos ⟨hb, hlt⟩] at es
          rw [if_neg (fun z => hiff.mp z hlt), ← es]
          obtain ⟨I', f1, f2, f3, f4⟩ := ih (r + 1) I1 (by omega) (by omega) e3 e2 hw1 hl1
          exact ⟨I', f1, f2, f3, fun y z h => by rw [f4 y z h, e4 y z h]⟩
        · rw [if_neg (fun z => hlt z.2)] at es
          rw [if_pos (hiff.mpr hlt), ← es]
          obtain ⟨I', f1, f2, f3, f4⟩ := ih (r + 1) I1 (by omega) (by omega) e3 e2 hw1 hl1
          exact ⟨I', f1, f2, f3, fun y z h => by rw [f4 y z h, e4 y z h]⟩
      · rw [if_neg (fun z => hb z.1)] at es
        rw [if_neg hb, Option.bind_some, if_pos rfl]
        unfold f_X11_walkersOf_61
        rw [nI_1, ← es]
        exact ih (r + 1) I (by omega) (by omega) hx hc hw hl
end QW
