/-! ===== a step reckoned ===== -/
/-- what the letters stand for -/
def q_Er (D : q_Rd) (r m : Nat) (p : Nat) : Int32 := if p = 107 then nI r else if p = 109 then nI (q_mf D (2 ^ r)) else if p = 110 then nI m else if p = 112 then nI (q_pr D) else if p = 115 then nI (q_se D r) else if p = 119 then nI (q_wa D r) else 0
theorem q_s1_od {E : Nat → Int32} {p : Nat} {st : List Int32} (h : q_opr p = true) : q_s1 E (10000 + nI p) st = q_pr2 p (st.tail.headD 0) (st.headD 0) :: st.tail.tail := by
  obtain ⟨h1, h2, -, -, h5⟩ := q_opr_lt h
  obtain ⟨e1, e2, e3⟩ := q_s1_p h1
  unfold q_s1
  rw [if_neg e2, if_neg (fun z => by
    rw [e1] at z
    have := (nI_eq (a := 10000 + p) (b := 10033) (by omega) (by omega)).mp z
    omega), e3, if_neg h5]
section QW
variable {n : Nat} {I : Nat → Nat → Int32} {J : Nat → Nat → Int64} {T : Nat} {D : q_Rd}
theorem x_nums {st : List Int32} (h : q_St I st) (hl : st.length < 160) {p r m : Nat} (hp : p < 256) (hne : ∀ k, (k = 33 ∨ k = 107 ∨ k = 109 ∨ k = 110 ∨ k = 112 ∨ k = 115 ∨ k = 119) → p ≠ k) (s : Int32) (hs : ∀ k, k < 256 → (s - 10000 = nI k → p = k)) : f_X5_reckon n I J T s (nI r) (nI m) = f_X5_pushNumberOrPair n I J T s := by
  have g : ∀ k, (k = 33 ∨ k = 107 ∨ k = 109 ∨ k = 110 ∨ k = 112 ∨ k = 115 ∨ k = 119) → ¬ (s - 10000 = nI k) := fun k hk z => hne k hk (hs k (by omega) z)
  unfold f_X5_reckon
  rw [if_neg (show ¬ s - 10000 = 33 from g 33 (by omega)), if_neg (show ¬ s - 10000 = 107 from g 107 (by omega)), if_neg (show ¬ s - 10000 = 109 from g 109 (by omega)), if_neg (show ¬ s - 10000 = 110 from g 110 (by omega)), if_neg (show ¬ s - 10000 = 112 from g 112 (by omega)), if_neg (show ¬ s - 10000 = 115 from g 115 (by omega)), if_neg (show ¬ s - 10000 = 119 from g 119 (by omega))]
  cases f_X5_pushNumberOrPair n I J T s <;> rfl
theorem x_reckon (hn : 300 ≤ n) (hD : q_ok D) (hX : q_RX I D) {r m : Nat} (hr : r < q_R D) {st : List Int32} (h : q_St I st) (hl : st.length < 160) {s : Int32} (hs : q_sp s) : ∃ I', f_X5_reckon n I J T s (nI r) (nI m) = some I' ∧ q_fst I I' ∧ q_St I' (q_s1 (q_Er D r m) s st) := by
  have hR6 : q_R D ≤ 6 := hD.1.2.1
  rcases hs with ⟨v, hv, rfl⟩ | rfl | ⟨p, hp, rfl⟩ | ⟨p, hp, rfl⟩
  · obtain ⟨I', e1, e2, e3⟩ := x_push (n := n) (J := J) (T := T) h hl (nI v)
    have hcon : ∀ k, k < 256 → ¬ (nI v - 10000 = nI k) := fun k hk z => by
      have z2 : nI v - 10000 + 10000 = nI k + 10000 := by rw [z]
      rw [Int32.sub_add_cancel, show (10000 : Int32) = nI 10000 from rfl, nI_add] at z2
      have := (nI_eq (a := v) (b := k + 10000) (by omega) (by omega)).mp z2
      omega
    rw [q_s1_n hv, x_nums h hl (p := 0) (by omega) (fun k hk => by omega) (nI v) (fun k hk z => absurd z (hcon k hk))]
    unfold f_X5_pushNumberOrPair
    rw [if_neg (show ¬ (10000 : Int32) ≤ nI v from nI_ge (b := 10000) hv (by omega)), e1, Option.bind_some]
    exact ⟨I', rfl, e2, e3⟩
  · obtain ⟨I1, e1, e2, e3⟩ := x_pop (n := n) (J := J) (T := T) h
    have hl1 : st.tail.length < 160 := by rw [List.length_tail]; omega
    obtain ⟨I2, f1, f2, f3⟩ := x_push (n := n) (J := J) (T := T) e3 hl1 (1 - st.headD 0)
    unfold f_X5_reckon
    rw [if_pos (show (10033 : Int32) - 10000 = 33 by decide), e1, Option.bind_some]
    simp only []
    rw [f1, Option.bind_some]
    exact ⟨I2, rfl, e2.t f2, f3⟩
  · obtain ⟨h1, h2, -, -⟩ := q_ltr_lt hp
    have hsub : (10000 : Int32) + nI p - 10000 = nI p := by
      rw [(q_s1_p h1).1, show (10000 : Int32) = nI 10000 from rfl, pk_sub (by omega), show 10000 + p - 10000 = p by omega]
    have hix : ok_ix (nI r) 6 := q_ix (by omega) (by omega)
    have hcl : (nI r).toNatClampNeg = r := q_cl (by omega)
    rw [q_s1_l hp]
    have hp' := hp
    unfold q_ltr at hp'
    simp only [Bool.or_eq_true, decide_eq_true_eq] at hp'
    unfold f_X5_reckon
    rw [hsub]
    have h2r : 2 ^ r < 1024 := Nat.lt_of_lt_of_le (Nat.pow_lt_pow_right (by omega) (show r < 6 by omega)) (by decide)
    have hmf := x_milesFor (n := n) (J := J) (T := T) (S := 2 ^ r) hn hD hX h2r
    rcases hp' with rfl | rfl | rfl | rfl | rfl | rfl
    · obtain ⟨I', e1, e2, e3⟩ := x_push (n := n) (J := J) (T := T) h hl (nI (q_mf D (2 ^ r)))
      rw [if_neg (by decide), if_neg (by decide), if_pos (by decide), (q_shl6 r (by omega)).1, hmf, Option.bind_some, e1, Option.bind_some]
      exact ⟨I', rfl, e2, e3⟩
    · obtain ⟨I', e1, e2, e3⟩ := x_push (n := n) (J := J) (T := T) h hl (nI (q_se D r))
      rw [if_neg (by decide), if_neg (by decide), if_neg (by decide), if_neg (by decide), if_neg (by decide), if_pos (by decide), if_pos hix, hcl, (hX.2.2 r hr).2.2, e1, Option.bind_some]
      exact ⟨I', rfl, e2, e3⟩
    · obtain ⟨I', e1, e2, e3⟩ := x_push (n := n) (J := J) (T := T) h hl (nI (q_wa D r))
      rw [if_neg (by decide), if_neg (by decide), if_neg (by decide), if_neg (by decide), if_neg (by decide), if_neg (by decide), if_pos (by decide), if_pos hix, hcl, (hX.2.2 r hr).2.1, e1, Option.bind_some]
      exact ⟨I', rfl, e2, e3⟩
    · obtain ⟨I', e1, e2, e3⟩ := x_push (n := n) (J := J) (T := T) h hl (nI m)
      rw [if_neg (by decide), if_neg (by decide), if_neg (by decide), if_pos (by decide), e1, Option.bind_some]
      exact ⟨I', rfl, e2, e3⟩
    · obtain ⟨I', e1, e2, e3⟩ := x_push (n := n) (J := J) (T := T) h hl (nI (q_pr D))
      rw [if_neg (by decide), if_neg (by decide), if_neg (by decide), if_neg (by decide), if_pos (by decide), hX.1.2.2.2.1, e1, Option.bind_some]
      exact ⟨I', rfl, e2, e3⟩
    · obtain ⟨I', e1, e2, e3⟩ := x_push (n := n) (J := J) (T := T) h hl (nI r)
      rw [if_neg (by decide), if_pos (by decide), e1, Option.bind_some]
      exact ⟨I', rfl, e2, e3⟩
  · obtain ⟨h1, h2, -, -, h5⟩ := q_opr_lt hp
    have hsub : (10000 : Int32) + nI p - 10000 = nI p := by
      rw [(q_s1_p h1).1, show (10000 : Int32) = nI 10000 from rfl, pk_sub (by omega), show 10000 + p - 10000 = p by omega]
    obtain ⟨I1, e1, e2, e3⟩ := x_pop (n := n) (J := J) (T := T) h
    obtain ⟨I2, f1, f2, f3⟩ := x_pop (n := n) (J := J) (T := T) e3
    obtain ⟨z, z1, z2⟩ := x_pair (n := n) (I := I2) (J := J) (T := T) hp (st.tail.headD 0) (st.headD 0)
    have hl2 : st.tail.tail.length < 160 := by rw [List.length_tail, List.length_tail]; omega
    obtain ⟨I3, g1, g2, g3⟩ := x_push (n := n) (J := J) (T := T) f3 hl2 (q_pr2 p (st.tail.headD 0) (st.headD 0))
    rw [q_s1_od hp, x_nums h hl (p := p) h1 (fun k hk z => by
      subst z
      unfold q_opr at hp
      simp only [Bool.or_eq_true, decide_eq_true_eq] at hp
      omega) (10000 + nI p) (fun k hk z => by
      rw [hsub] at z
      exact (nI_eq (by omega) (by omega)).mp z)]
    unfold f_X5_pushNumberOrPair
    have hwi : (am_maxL (-1000000) (am_minL 1000000 z)).toInt32 = q_pr2 p (st.tail.headD 0) (st.headD 0) := z2
    rw [if_pos (show (10000 : Int32) ≤ 10000 + nI p by rw [(q_s1_p h1).1]; exact nI_le (a := 10000) (by omega) (by omega)), e1, Option.bind_some]
    simp only []
    rw [f1, Option.bind_some]
    simp only []
    rw [hsub, z1, Option.bind_some, hwi, g1, Option.bind_some]
    exact ⟨I3, rfl, (e2.t f2).t g2, g3⟩
end QW
