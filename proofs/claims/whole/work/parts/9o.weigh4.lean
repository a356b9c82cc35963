/-! ===== the weights of the laws that have a rule, the reference ===== -/
section QW
variable {n : Nat} {D : q_Rd} {I0 : Nat → Nat → Int32} {U : Nat × (Nat → Nat) × (Nat → Nat → Nat)}
theorem m_wc3 (hn : 300 ≤ n) (hD : q_ok D) (h0 : q_RM I0 D) (hU : q_UM I0 U) (hok : q_uok U) {k : Nat} (h3 : 3 ≤ k) (hk : k - 3 < U.1) (hex : ∃ r, q_rule (U.2.1 (k - 3), U.2.2 (k - 3)) = .inr r) : q_mc n D (q_w3 D (q_Lu U (k - 3))) k I0 := by
  have hR := hD.1.2.1
  have hu4 := hok.1
  intro I J T hf hT r m hr m1 m2
  obtain ⟨z1, z2⟩ := q_shl6 r (by omega)
  have hM := hf.R h0
  obtain ⟨u, hu⟩ : ∃ u, u = k - 3 := ⟨_, rfl⟩
  rw [← hu] at hk hex ⊢
  have ht := hok.2 u hk
  obtain ⟨⟨s, l⟩, hq⟩ := hex
  have hL : q_Lu U u = l := by unfold q_Lu; rw [hq]
  have hlen : U.2.1 u ≤ 160 := ht.1
  have n2 : ¬ nI k = 2 := fun z => by have := (nI_eq (a := k) (b := 2) (by omega) (by omega)).mp z; omega
  have ek : nI k - 3 = nI u := by rw [show (3 : Int32) = nI 3 from rfl, pk_sub h3, hu]
  have e2 : (3 : Int32) * nI r + 2 = nI (3 * r + 2) := by rw [show (3 : Int32) * nI r = nI (3 * r) from pk_mul 3 r, show (2 : Int32) = nI 2 from rfl, nI_add]
  have e1 : (3 : Int32) * nI r + 1 = nI (3 * r + 1) := by rw [show (3 : Int32) * nI r = nI (3 * r) from pk_mul 3 r, nI_1]
  have x2 : ok_ix (nI (3 * r + 2)) 18 := q_ix (by omega) (by omega)
  have x1 : ok_ix (nI (3 * r + 1)) 18 := q_ix (by omega) (by omega)
  have x3 : ok_ix (nI u) 4 := q_ix (by omega) (by omega)
  have c2 : (nI (3 * r + 2)).toNatClampNeg = 3 * r + 2 := q_cl (by omega)
  have c1 : (nI (3 * r + 1)).toNatClampNeg = 3 * r + 1 := q_cl (by omega)
  have c3 : (nI u).toNatClampNeg = u := q_cl (by omega)
  have e160 : (160 : Int32) * nI u = nI (160 * u) := pk_mul 160 u
  have h56 : I 56 u = nI (U.2.1 u) := by rw [hf 56 u (by omega)]; exact (hU.2 u hk).1
  obtain ⟨I1, hI1⟩ : ∃ z, z = am_u (am_u (am_u (am_u (am_u (am_u I 57 109 (nI (q_mf D (2 ^ r)))) 57 115 (I 60 (3 * r + 2))) 57 119 (I 60 (3 * r + 1))) 57 110 (nI m)) 57 112 (I 61 1)) 57 107 (nI r) := ⟨_, rfl⟩
  have hf1 : ∀ x y, x ≠ 57 → I1 x y = I x y := fun x y h => by
    rw [hI1]
    unfold am_u
    rw [if_neg (by omega), if_neg (by omega), if_neg (by omega), if_neg (by omega), if_neg (by omega), if_neg (by omega)]
  have hE : ∀ p, q_ltr p = true → I1 57 p = q_Er D r m p := fun p hp => by
    unfold q_ltr at hp
    simp only [Bool.or_eq_true, decide_eq_true_eq] at hp
    have w1 := (hM.2.2 r hr).2.1
    have w2 := (hM.2.2 r hr).2.2
    have w3 : I 61 1 = nI (q_pr D) := hM.1.2.2.2.1
    rw [hI1]
    unfold q_Er am_u
    rcases hp with rfl | rfl | rfl | rfl | rfl | rfl
    · simp
    · simp [w2]
    · simp [w1]
    · simp
    · simp [w3]
    · simp
  obtain ⟨I', g1, g2, g3⟩ := m_gr (n := n) (J := J) (T := T) (t := (U.2.1 u, U.2.2 u)) (o := 160 * u) hn ht (by show 160 * u + U.2.1 u ≤ 640; omega) hE (fun i hi => by
    have hi' : i < U.2.1 u := hi
    rw [hf1 55 _ (by omega), hf 55 _ (by omega)]
    exact (hU.2 u hk).2 i hi')
  rw [hq] at g3
  have g1' : f_X12_goThrough n I1 J T (nI (160 * u)) (nI (U.2.1 u)) = some (I', 55) := g1
  unfold f_X12_weightOf
  rw [if_neg n2, z1, m_milesOf hn hD hM (by omega), Option.bind_some, e2, e1, ek]
  simp only [if_pos x2, if_pos x1, if_pos x3, c2, c1, c3]
  rw [h56, e160, ← hI1, g1', Option.bind_some]
  simp only []
  rw [g3.2, hL, (q_w3_e D l r m).1]
  refine ⟨I', 55, rfl, fun a c h => ?_, Or.inr rfl⟩
  rw [g2 a c (by omega), hf1 a c (by omega)]
  exact hf a c h
end QW
