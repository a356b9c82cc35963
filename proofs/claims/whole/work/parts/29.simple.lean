/-! ===== the simple calls, both sides at once ===== -/
theorem q_ltl (x y : Int32) : x.toInt64 < y.toInt64 ↔ x < y := by
  rw [Int64.lt_iff_toInt_lt, Int32.lt_iff_toInt_lt, Int32.toInt_toInt64, Int32.toInt_toInt64]
theorem g_in (x : Int32) (a b : Nat) (ha : a < 2 ^ 30) (hb : b < 2 ^ 30) : (∃ k, a ≤ k ∧ k ≤ b ∧ x = nI k ∧ (∀ n I J T, f_X11_isWithin n I J T x (nI a) (nI b) = some 1) ∧ ∀ n I J T, f_X12_isIn n I J T x.toInt64 (lN a) (lN b) = some 1) ∨ ((∀ n I J T, f_X11_isWithin n I J T x (nI a) (nI b) = some 0) ∧ ∀ n I J T, f_X12_isIn n I J T x.toInt64 (lN a) (lN b) = some 0) := by
  have e1 : lN a = (nI a).toInt64 := (nI_l (by omega)).symm
  have e2 : lN b = (nI b).toInt64 := (nI_l (by omega)).symm
  have u2 : ∀ n I J T, f_X12_isIn n I J T x.toInt64 (lN a) (lN b) = if x < nI a then some 0 else if nI b < x then some 0 else some 1 := by
    intro n I J T
    unfold f_X12_isIn
    simp only [lg_cmp_lt, lg_cmp_gt, e1, e2, q_ltl]
  have u1 : ∀ n I J T, f_X11_isWithin n I J T x (nI a) (nI b) = if x < nI a then some 0 else if nI b < x then some 0 else some 1 := fun n I J T => rfl
  by_cases h1 : x < nI a
  · exact Or.inr ⟨fun n I J T => by rw [u1, if_pos h1], fun n I J T => by rw [u2, if_pos h1]⟩
  · by_cases h2 : nI b < x
    · exact Or.inr ⟨fun n I J T => by rw [u1, if_neg h1, if_pos h2], fun n I J T => by rw [u2, if_neg h1, if_pos h2]⟩
    · have h0 : ¬ x < 0 := fun z => by
        rw [Int32.lt_iff_toInt_lt] at h1 z
        rw [nI_toInt (by omega)] at h1
        have h00 : (0 : Int32).toInt = 0 := by decide
        omega
      obtain ⟨k, hk, rfl⟩ := nI_of h0
      rw [nI_ltI hk (by omega)] at h1
      rw [nI_ltI (by omega) hk] at h2
      refine Or.inl ⟨k, by omega, by omega, rfl, fun n I J T => ?_, fun n I J T => ?_⟩
      · rw [u1, if_neg (nI_nlt (by omega) (by omega)), if_neg (nI_nlt (by omega) (by omega))]
      · rw [u2, if_neg (nI_nlt (by omega) (by omega)), if_neg (nI_nlt (by omega) (by omega))]
theorem g_on (x : Int32) (a b : Nat) {A B : Int32} {A' B' : Int64} (hA : A = nI a) (hB : B = nI b) (hA' : A' = lN a) (hB' : B' = lN b) (ha : a < 2 ^ 30) (hb : b < 2 ^ 30) : (∃ k, a ≤ k ∧ k ≤ b ∧ x = nI k ∧ (∀ n I J T, f_X11_isWithin n I J T x A B = some 1) ∧ ∀ n I J T, f_X12_isIn n I J T x.toInt64 A' B' = some 1) ∨ ((∀ n I J T, f_X11_isWithin n I J T x A B = some 0) ∧ ∀ n I J T, f_X12_isIn n I J T x.toInt64 A' B' = some 0) := by
  subst hA hB hA' hB'
  exact g_in x a b ha hb
theorem q_10 : ¬ (1 : Int32) = 0 := by decide
section QS
variable {V : (Nat → Int32) → Int32 → Nat → (Nat → Nat) → Prop} {n B : Nat} {I I2 : Nat → Nat → Int32} {J J2 : Nat → Nat → Int64} {T : Nat} {s : q_Sg}
theorem g_rider {R : Nat} (hR : R < 100) (h1 : I 3 1 = nI R) (h2 : I2 53 27 = nI R) (x : Int32) : (∃ r, r < R ∧ x = nI r ∧ f_X11_isRider n I J T x = some 1 ∧ f_X12_isRider n I2 J2 T x = some 1) ∨ (f_X11_isRider n I J T x = some 0 ∧ f_X12_isRider n I2 J2 T x = some 0) := by
  unfold f_X11_isRider f_X12_isRider
  rw [h1, h2]
  by_cases h0 : x < 0
  · rw [if_pos h0]
    exact Or.inr ⟨rfl, rfl⟩
  · obtain ⟨k, hk, rfl⟩ := nI_of h0
    rw [if_neg h0]
    by_cases h : R ≤ k
    · rw [if_pos (nI_le h hk)]
      exact Or.inr ⟨rfl, rfl⟩
    · rw [if_neg (nI_ge (by omega) (by omega))]
      exact Or.inl ⟨k, by omega, rfl, rfl, rfl⟩
theorem g_home {W R : Nat} (hW : W < 100) (hR : R < 100) (hz : R = 0 ↔ W = 0) (h1 : I 3 0 = nI W) (h2 : I2 53 26 = nI W) (h3 : I2 53 27 = nI R) (x : Int32) : (∃ p, 1 ≤ p ∧ p ≤ W ∧ x = nI p ∧ ¬ x = 0 ∧ f_X11_isHome n I J T x = some 1 ∧ f_X12_isPlace n I2 J2 T x = some 1) ∨ (f_X11_isHome n I J T x = some 0 ∧ (f_X12_isPlace n I2 J2 T x = some 0 ∨ (f_X12_isPlace n I2 J2 T x = some 1 ∧ x = 0))) := by
  unfold f_X11_isHome f_X12_isPlace
  rw [h1, h2, h3]
  by_cases h0 : x < 0
  · have h1 : x < 1 := by
      rw [Int32.lt_iff_toInt_lt] at h0 ⊢
      have h00 : (0 : Int32).toInt = 0 := by decide
      have h01 : (1 : Int32).toInt = 1 := by decide
      omega
    rw [if_pos h1, if_pos h0]
    refine Or.inr ⟨rfl, Or.inl ?_⟩
    split <;> rfl
  · obtain ⟨k, hk, rfl⟩ := nI_of h0
    rw [if_neg h0]
    by_cases hR0 : R = 0
    · have : W = 0 := hz.mp hR0
      subst hR0 this
      have e1 : nI 0 ≤ 0 := by decide +kernel
      rw [if_pos e1]
      refine Or.inr ⟨?_, Or.inl rfl⟩
      by_cases hk0 : nI k < 1
      · rw [if_pos hk0]
      · rw [if_neg hk0, if_pos]
        refine nI_lt ?_ hk
        refine Nat.pos_of_ne_zero fun z => ?_
        subst z
        exact hk0 (by decide +kernel)
    · rw [if_neg (nI_nle (by omega) (by omega))]
      by_cases hk0 : k = 0
      · subst hk0
        have e1 : nI 0 < 1 := by decide +kernel
        rw [if_pos e1, if_neg (nI_nlt (Nat.zero_le _) (by omega))]
        exact Or.inr ⟨rfl, Or.inr ⟨rfl, rfl⟩⟩
      · have e1 : ¬ nI k < 1 := nI_nlt (b := 1) (by omega) hk
        rw [if_neg e1]
        by_cases h : W < k
        · rw [if_pos (nI_lt h hk)]
          exact Or.inr ⟨rfl, Or.inl rfl⟩
        · have e2 : ¬ nI W < nI k := nI_nlt (by omega) (by omega)
          rw [if_neg e2]
          exact Or.inl ⟨k, by omega, by omega, rfl, nI_ne0 (by omega) hk, rfl, rfl⟩
theorem i_count (hs : q_sok B s) (hX : q_HX V I J s) (hM : q_HM I2 J2 s) (x : Int32) : ∃ r, f_X11_count n I J T x = some r ∧ f_X12_count n I2 J2 T x = some (r, am_u I2 53 0 0) := by
  obtain ⟨hd, hz, hz0⟩ := hs.1
  obtain ⟨a1, a2, a3, a4, a5⟩ := hX.1.1
  obtain ⟨b1, b2, b3, b4, b5⟩ := hM.1.1
  have hW := hd.1.1
  have hR := hd.1.2.1
  unfold f_X11_count f_X12_count
  by_cases h0 : x = 0
  · rw [if_pos h0, if_pos h0, a2, b2]
    exact ⟨_, rfl, rfl⟩
  rw [if_neg h0, if_neg h0]
  by_cases h0 : x = 1
  · rw [if_pos h0, if_pos h0]
    unfold f_X11_isRoadless
    rw [a1, b2, b1]
    by_cases hR0 : q_R (q_sD s) = 0
    · rw [hR0, hz.mp hR0, if_pos nI_0, if_pos nI_0]
      exact ⟨_, rfl, rfl⟩
    · have hW0 : ¬ q_W (q_sD s) = 0 := fun z => hR0 (hz.mpr z)
      rw [if_neg (nI_ne0 (by omega) (by omega)), if_neg (nI_ne0 (by omega) (by omega))]
      exact ⟨_, rfl, rfl⟩
  rw [if_neg h0, if_neg h0]
  by_cases h0 : x = 2
  · rw [if_pos h0, if_pos h0, hX.2.2.1.1, hM.2.2.1.1]
    exact ⟨_, rfl, rfl⟩
  rw [if_neg h0, if_neg h0]
  by_cases h0 : x = 3
  · rw [if_pos h0, if_pos h0, hX.2.1.1, hM.2.1.1]
    exact ⟨_, rfl, rfl⟩
  rw [if_neg h0, if_neg h0]
  by_cases h0 : x = 4
  · rw [if_pos h0, if_pos h0, hX.2.2.2.2.2.1.1, hM.2.2.2.2.2.1.1]
    exact ⟨_, rfl, rfl⟩
  rw [if_neg h0, if_neg h0]
  by_cases h0 : x = 5
  · rw [if_pos h0, if_pos h0, hX.2.2.2.2.2.1.2.1, hM.2.2.2.2.2.1.2.1]
    exact ⟨_, rfl, rfl⟩
  rw [if_neg h0, if_neg h0]
  by_cases h0 : x = 6
  · rw [if_pos h0, if_pos h0, hX.2.2.2.2.1.1, hM.2.2.2.2.1.1]
    exact ⟨_, rfl, rfl⟩
  rw [if_neg h0, if_neg h0]
  have e1 : (if I2 53 27 = 0 then some (0, am_u I2 53 0 0) else some (I2 61 0, am_u I2 53 0 0)) = some (nI (q_cs (q_sD s)), am_u I2 53 0 0) := by
    rw [b2, b3]
    by_cases hR0 : q_R (q_sD s) = 0
    · rw [hR0, if_pos nI_0, (hz0 hR0).1, nI_0]
    · rw [if_neg (nI_ne0 (by omega) (by omega))]
  have e2 : (if I2 53 27 = 0 then some (0, am_u I2 53 0 0) else some (I2 61 1, am_u I2 53 0 0)) = some (nI (q_pr (q_sD s)), am_u I2 53 0 0) := by
    rw [b2, b4]
    by_cases hR0 : q_R (q_sD s) = 0
    · rw [hR0, if_pos nI_0, (hz0 hR0).2.1, nI_0]
    · rw [if_neg (nI_ne0 (by omega) (by omega))]
  have e3 : (if I2 53 27 = 0 then some (0, am_u I2 53 0 0) else some (I2 61 2, am_u I2 53 0 0)) = some (nI (q_ni (q_sD s)), am_u I2 53 0 0) := by
    rw [b2, b5]
    by_cases hR0 : q_R (q_sD s) = 0
    · rw [hR0, if_pos nI_0, (hz0 hR0).2.2, nI_0]
    · rw [if_neg (nI_ne0 (by omega) (by omega))]
  rw [e1, e2, e3, a3, a4, a5, hX.2.2.2.1, hM.2.2.2.1]
  by_cases h0 : x = 7
  · rw [if_pos h0, if_pos h0]
    exact ⟨_, rfl, rfl⟩
  rw [if_neg h0, if_neg h0]
  by_cases h0 : x = 8
  · rw [if_pos h0, if_pos h0]
    exact ⟨_, rfl, rfl⟩
  rw [if_neg h0, if_neg h0]
  by_cases h0 : x = 9
  · rw [if_pos h0, if_pos h0]
    exact ⟨_, rfl, rfl⟩
  rw [if_neg h0, if_neg h0]
  by_cases h0 : x = 10
  · rw [if_pos h0, if_pos h0]
    exact ⟨_, rfl, rfl⟩
  rw [if_neg h0, if_neg h0]
  exact ⟨_, rfl, rfl⟩
theorem q_RX.of3 {I I' : Nat → Nat → Int32} {D : q_Rd} (h : q_RX I D) (e : ∀ a k, 3 ≤ a → a ≤ 8 → I' a k = I a k) : q_RX I' D := by
  obtain ⟨⟨a1, a2, a3, a4, a5⟩, b, c⟩ := h
  exact ⟨⟨by rw [e 3 _ (by omega) (by omega)]; exact a1, by rw [e 3 _ (by omega) (by omega)]; exact a2, by rw [e 3 _ (by omega) (by omega)]; exact a3, by rw [e 3 _ (by omega) (by omega)]; exact a4, by rw [e 3 _ (by omega) (by omega)]; exact a5⟩, fun p x y => ⟨by rw [e 4 _ (by omega) (by omega)]; exact (b p x y).1, by rw [e 5 _ (by omega) (by omega)]; exact (b p x y).2⟩, fun r x => ⟨by rw [e 6 _ (by omega) (by omega)]; exact (c r x).1, by rw [e 7 _ (by omega) (by omega)]; exact (c r x).2.1, by rw [e 8 _ (by omega) (by omega)]; exact (c r x).2.2⟩⟩
theorem i_feet (hs : q_sok B s) (hX : q_HX V I J s) (hM : q_HM I2 J2 s) (x : Int32) : ∃ r I' I2' s', f_X11_feet n I J T x = some (r, I') ∧ f_X12_feet n I2 J2 T x = some (r, I2') ∧ q_HX V I' J s' ∧ q_HM I2' J2 s' ∧ q_sok B s' ∧ q_fX I I' J J ∧ q_fM I2 I2' J2 J2 := by
  unfold f_X11_feet f_X12_feet
  rcases g_on x 0 20 (A := 0) (B := 20) (A' := 0) (B' := 20) rfl rfl rfl rfl (by omega) (by omega) with ⟨k, h1, h2, h3, h4, h5⟩ | ⟨h4, h5⟩
  · rw [h4, h5, Option.bind_some, Option.bind_some, if_neg q_10, if_neg q_10]
    obtain ⟨a, b, c, d, i, l, m, t, w⟩ := hX
    obtain ⟨s1, s2, s3, s4, s5, s6, s7⟩ := hs
    have hM' := hM.th 0
    obtain ⟨a', b', c', d', i', l', m', t'⟩ := hM'
    refine ⟨_, _, _, (q_sD s, q_sT s, q_sU s, k, s.2.2.2.2), rfl, rfl, ⟨?_, b.of rfl (fun _ => rfl), c.of s3.1 rfl (fun x y z w => ?_), ?_, i.of rfl (fun x y z => ?_), l.of rfl rfl (fun _ => rfl) (fun _ => rfl), m, fun z => ⟨(t z).1.of3 (fun x y z w => ?_), (t z).2.of rfl rfl (fun _ => rfl) (fun _ => rfl)⟩, fun j hj => w j hj⟩, ⟨a'.of rfl rfl (fun x y z => ?_), b'.of rfl (fun _ => rfl), c'.of rfl (fun x y z => ?_), ?_, i'.of rfl (fun x y z => ?_), l'.of rfl rfl (fun _ => rfl) (fun _ => rfl), m', fun z => ⟨(t' z).1, (t' z).2.1, (t' z).2.2.of rfl rfl (fun _ => rfl) (fun _ => rfl)⟩⟩, ⟨s1, s2, s3, h2, s5, s6, s7⟩, ⟨fun x y z => ?_, fun _ _ _ => rfl⟩, ⟨fun x y z => ?_, fun _ _ _ => rfl⟩⟩
    · exact a.of3 (fun x y z w => by unfold am_u; rw [if_neg (by omega)])
    all_goals first | exact h3 | (unfold am_u; rw [if_neg (by omega), if_neg (by omega)]) | (unfold am_u; rw [if_neg (by omega)]) | skip
  · rw [h4, h5, Option.bind_some, Option.bind_some, if_pos rfl, if_pos rfl]
    exact ⟨_, _, _, s, rfl, rfl, hX, hM.th _, hs, q_fX.r _ _, q_fM.th _ _ _⟩
end QS
