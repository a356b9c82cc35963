/-! ===== the weights of the laws that have a rule ===== -/
def q_Lu (U : Nat × (Nat → Nat) × (Nat → Nat → Nat)) (u : Nat) : List (q_Vl × q_Vl) := match q_rule (U.2.1 u, U.2.2 u) with
  | .inl _ => []
  | .inr r => r.2
def q_w3 (D : q_Rd) (L : List (q_Vl × q_Vl)) (r m : Nat) : Nat := (am_max 0 (am_min 1000 (q_wth (q_Er D r m) L))).toNatClampNeg
theorem q_mm (z : Int32) : ∃ v, v ≤ 1000 ∧ am_max 0 (am_min 1000 z) = nI v := by
  have e1000 : (1000 : Int32).toInt = 1000 := rfl
  have e0 : (0 : Int32).toInt = 0 := rfl
  have h1 : 0 ≤ (am_max 0 (am_min 1000 z)).toInt ∧ (am_max 0 (am_min 1000 z)).toInt ≤ 1000 := by
    unfold am_max am_min
    by_cases a : z < 1000
    · have a' := Int32.lt_iff_toInt_lt.mp a
      rw [if_pos a]
      by_cases b : 0 < z
      · have b' := Int32.lt_iff_toInt_lt.mp b
        rw [if_pos b]
        omega
      · rw [if_neg b]
        decide
    · rw [if_neg a, if_pos (show (0 : Int32) < 1000 by decide)]
      decide
  refine ⟨(am_max 0 (am_min 1000 z)).toInt.toNat, by omega, ?_⟩
  apply Int32.toInt_inj.mp
  rw [show (nI (am_max 0 (am_min 1000 z)).toInt.toNat).toInt = ((am_max 0 (am_min 1000 z)).toInt.toNat : Int) from nI_toInt (by omega)]
  omega
theorem q_w3_e (D : q_Rd) (L : List (q_Vl × q_Vl)) (r m : Nat) : am_max 0 (am_min 1000 (q_wth (q_Er D r m) L)) = nI (q_w3 D L r m) ∧ q_w3 D L r m ≤ 1000 := by
  obtain ⟨v, h1, h2⟩ := q_mm (q_wth (q_Er D r m) L)
  unfold q_w3
  rw [h2, show (nI v).toNatClampNeg = v from q_cl (by omega)]
  exact ⟨rfl, h1⟩
section QW
variable {n : Nat} {J : Nat → Nat → Int64} {T : Nat} {D : q_Rd} {I0 : Nat → Nat → Int32} {U : Nat × (Nat → Nat) × (Nat → Nat → Nat)}
theorem x_wc3 (hn : 300 ≤ n) (hD : q_ok D) (h0 : q_RX I0 D) (hU : q_UX q_Vr I0 U) (hu4 : U.1 ≤ 4) {k : Nat} (h3 : 3 ≤ k) (hk : k - 3 < U.1) (hl : I0 27 2 = nI k) : q_wc n J T D (q_w3 D (q_Lu U (k - 3))) I0 := by
  intro I hf hcc r m hr m1 m2
  have hx := hf.R h0
  have hl2 : I 27 2 = nI k := by rw [hf 27 2 (by omega)]; exact hl
  obtain ⟨⟨s, l⟩, v1, v2, v3, v4⟩ := hU.2 (k - 3) hk
  have hL : q_Lu U (k - 3) = l := by unfold q_Lu; rw [v1]
  obtain ⟨I', e1, e2⟩ := x_worth (n := n) (J := J) (T := T) (u := k - 3) (m := m) hn hD hk hu4 hr v1 (by rw [hf 19 4 (by omega)]; exact hU.1) v2 (by rw [hf 25 _ (by omega)]; exact v3) (fun i hi => by rw [hf _ _ (by omega)]; exact v4 i hi) hx
  unfold f_X7_weightOf
  rw [hl2, if_neg (show ¬ nI k < (3 : Int32) from nI_nlt (b := 3) h3 (by omega)), show nI k - 3 = nI (k - 3) by rw [show (3 : Int32) = nI 3 from rfl, pk_sub (by omega)], e1, Option.bind_some, hL, ← (q_w3_e D l r m).1]
  refine ⟨I', rfl, fun a c h => by rw [e2 a c (by omega) (by omega)]; exact hf a c h, ?_, fun c => e2 29 c (by omega) (by omega)⟩
  exact fun S hS => by rw [e2 28 S (by omega) (by omega)]; exact hcc S hS
end QW
