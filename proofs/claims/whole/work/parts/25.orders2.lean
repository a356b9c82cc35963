/-! ===== shares by orders, the class ===== -/
def q_wo (S r : Nat) : Nat := S &&& (63 - 2 ^ r)
theorem q_wo_f : ∀ S, S < 64 → ∀ r, r < 6 → (nI S &&& ((1 <<< (nI r &&& 31)) ^^^ (-1))) = nI (q_wo S r) ∧ q_wo S r ≤ S ∧ (q_wo S r).testBit r = false ∧ (S.testBit r = true → q_bc S = q_bc (q_wo S r) + 1) := by decide +kernel
theorem q_sub_f : ∀ u, u < 64 → ∀ o, o < 64 → (((nI u &&& (nI o ^^^ (-1))) = 0) ↔ u &&& o = u) ∧ (u &&& o = u → u ≤ o ∧ q_bc u ≤ q_bc o) := by decide +kernel
theorem q_or_f : ∀ u, u < 64 → ∀ r, r < 6 → (nI u ||| (1 <<< (nI r &&& 31))) = nI (u ||| 2 ^ r) ∧ u ||| 2 ^ r < 64 := by decide +kernel
/-- the costs that are kept -/
def q_cc (I : Nat → Nat → Int32) (D : q_Rd) : Prop := ∀ S, S < 64 → I 28 S = -1 ∨ I 28 S = nI (q_cost D S)
theorem q_RX.of {I I' : Nat → Nat → Int32} {D : q_Rd} (h : q_RX I D) (e : ∀ a k, a ≤ 8 → I' a k = I a k) : q_RX I' D := by
  obtain ⟨⟨a1, a2, a3, a4, a5⟩, b, c⟩ := h
  refine ⟨⟨by rw [e 3 _ (by omega)]; exact a1, by rw [e 3 _ (by omega)]; exact a2, by rw [e 3 _ (by omega)]; exact a3, by rw [e 3 _ (by omega)]; exact a4, by rw [e 3 _ (by omega)]; exact a5⟩, fun p x y => ⟨by rw [e 4 _ (by omega)]; exact (b p x y).1, by rw [e 5 _ (by omega)]; exact (b p x y).2⟩, fun r x => ⟨by rw [e 6 _ (by omega)]; exact (c r x).1, by rw [e 7 _ (by omega)]; exact (c r x).2.1, by rw [e 8 _ (by omega)]; exact (c r x).2.2⟩⟩
section QU
variable {n : Nat} {J : Nat → Nat → Int64} {T : Nat} {D : q_Rd}
theorem x_costOf {I : Nat → Nat → Int32} (hn : 300 ≤ n) (hD : q_ok D) (h : q_RX I D) (hc : q_cc I D) {S : Nat} (hS : S < 64) : ∃ I', f_X7_costOf n I J T (nI S) = some (nI (q_cost D S), I') ∧ q_cc I' D ∧ q_RX I' D ∧ ∀ a k, a ≠ 28 → I' a k = I a k := by
  have hcl := q_cost_le hD S
  have hcs : (nI S).toNatClampNeg = S := q_cl (by omega)
  unfold f_X7_costOf
  rw [if_pos (q_ix hS (by omega))]
  simp only [hcs]
  by_cases h1 : I 28 S = -1
  · rw [if_pos h1, x_costFor hn hD h (by omega), Option.bind_some, if_pos (q_ix hS (by omega))]
    unfold f_X7_costOf_24
    rw [if_pos (q_ix hS (by omega))]
    simp only [hcs]
    have e : am_u I 28 S (nI (q_cost D S)) 28 S = nI (q_cost D S) := by simp [am_u]
    have e2 : ∀ a k, a ≠ 28 → am_u I 28 S (nI (q_cost D S)) a k = I a k := fun a k ha => by unfold am_u; rw [if_neg (fun z => ha z.1)]
    rw [e]
    refine ⟨_, rfl, fun S' hS' => ?_, h.of (fun a k ha => e2 a k (by omega)), e2⟩
    by_cases hs : S' = S
    · subst hs; exact Or.inr e
    · unfold am_u
      rw [if_neg (fun z => hs z.2)]
      exact hc S' hS'
  · rw [if_neg h1]
    unfold f_X7_costOf_24
    rw [if_pos (q_ix hS (by omega))]
    simp only [hcs]
    rcases hc S hS with z | z
    · exact absurd z h1
    · exact ⟨I, by rw [z], hc, h, fun _ _ _ => rfl⟩
theorem x_ord_loop (hn : 300 ≤ n) (hD : q_ok D) {r o k : Nat} (hr : r < 6) (ho : o < 64) (hk : k = q_bc o) (hk6 : k + 1 ≤ 6) : ∀ (m u : Nat) (I : Nat → Nat → Int32), u ≤ o + 1 → o + 1 - u < m → q_RX I D → q_cc I D →
    ∃ I', f_X7_orderParts_20 n m I J T (nI r) (nI o) (nI k) (zL (q_os D k r o u)) (nI u) = some (zL (q_os D k r o (o + 1) * (720 / q_fac (k + 1) : Nat)), I') ∧ q_cc I' D ∧ q_RX I' D ∧ ∀ a c, a ≠ 28 → I' a c = I a c := by
  intro m
  induction m with
  | zero => intro u I _ h; omega
  | succ m ih =>
    intro u I hu hm h hc
    rw [f_X7_orderParts_20]
    by_cases h1 : u = o + 1
    · subst h1
      obtain ⟨f1, f2, f3, f4⟩ := q_fac_F (k + 1) hk6
      refine ⟨I, ?_, hc, h, fun _ _ _ => rfl⟩
      rw [if_pos (nI_lt (by omega) (by omega)), nI_1, if_pos (q_ix (by omega) (by omega)), f1, if_pos (nI_ne0 f2 (by omega)), show (720 : Int32) = nI 720 from rfl, pk_div (by omega) f2 (by omega), nI_l (by have := Nat.div_le_self 720 (q_fac (k + 1)); omega), zL_n, zL_mul]
    · have hu2 : u < 64 := by omega
      rw [if_neg (nI_nlt (by omega) (by omega))]
      obtain ⟨s1, s2⟩ := q_sub_f u hu2 o ho
      have hos : q_os D k r o (u + 1) = q_os D k r o u + (if u &&& o = u then q_ot D k r u else 0) := rfl
      by_cases hb : u &&& o = u
      · obtain ⟨b1, b2⟩ := s2 hb
        obtain ⟨g1, g2⟩ := q_or_f u hu2 r hr
        obtain ⟨f1, f2, f3, f4⟩ := q_fac_F (q_bc u) (by omega)
        obtain ⟨f5, f6, f7, f8⟩ := q_fac_F (k - q_bc u) (by omega)
        have f9 := q_fac_6 k (by omega) (q_bc u) (by omega)
        have c1 := q_cost_le hD (u ||| 2 ^ r)
        have c2 := q_cost_le hD u
        rw [if_pos (s1.mpr hb), j_bitCount hu2, Option.bind_some, if_pos (q_ix (by omega) (by omega)), pk_sub (by omega), if_pos (q_ix (by omega) (by omega)), g1]
        obtain ⟨I1, d1, d2, d3, d4⟩ := x_costOf (J := J) (T := T) hn hD h hc g2
        rw [d1, Option.bind_some]
        obtain ⟨I2, d5, d6, d7, d8⟩ := x_costOf (J := J) (T := T) hn hD d3 d2 hu2
        rw [d5, Option.bind_some, Option.bind_some, f1, f5, pk_mul, nI_l (by omega), zL_d (by omega) (by omega), zL_n, zL_mul, zL_add]
        unfold f_X7_orderParts_87
        rw [nI_1]
        rw [if_pos hb] at hos
        have e : q_os D k r o u + ((q_fac (q_bc u) * q_fac (k - q_bc u) : Nat) : Int) * ((q_cost D (u ||| 2 ^ r) : Int) - q_cost D u) = q_os D k r o (u + 1) := hos.symm
        rw [e]
        obtain ⟨I3, e1, e2, e3, e4⟩ := ih (u + 1) I2 (by omega) (by omega) d7 d6
        exact ⟨I3, e1, e2, e3, fun a c ha => by rw [e4 a c ha, d8 a c ha, d4 a c ha]⟩
      · rw [if_neg (fun z => hb (s1.mp z))]
        rw [if_neg hb, Int.add_zero] at hos
        unfold f_X7_orderParts_87
        rw [nI_1, ← hos]
        exact ih (u + 1) I (by omega) (by omega) h hc
theorem x_orderParts {I : Nat → Nat → Int32} (hn : 300 ≤ n) (hD : q_ok D) (h : q_RX I D) (hc : q_cc I D) {S r : Nat} (hS : S < 64) (hr : r < 6) (hb : S.testBit r = true) :
    ∃ I', f_X7_orderParts n I J T (nI r) (nI S) = some (zL (q_os D (q_bc (q_wo S r)) r (q_wo S r) (q_wo S r + 1) * (720 / q_fac (q_bc S) : Nat)), I') ∧ q_cc I' D ∧ q_RX I' D ∧ ∀ a c, a ≠ 28 → I' a c = I a c := by
  obtain ⟨w1, w2, w3, w4⟩ := q_wo_f S hS r hr
  have hbs := q_bcx_eq S hS
  unfold f_X7_orderParts
  rw [w1, j_bitCount (by omega), Option.bind_some, w4 hb]
  exact x_ord_loop hn hD hr (by omega) rfl (by have := w4 hb; omega) n 0 I (Nat.zero_le _) (by omega) h hc
end QU
