/-! ===== the reference's road ===== -/
/-- is the way to w among those of place p: by climbing -/
theorem q_path_bit {D : q_Rd} (hD : q_ok D) : ∀ (p w : Nat), p ≤ q_W D → 1 ≤ w → (q_path (q_fr D) p).testBit w = (if p < w then false else if p = w then true else (q_path (q_fr D) (q_fr D p)).testBit w) := by
  intro p w hp hw
  by_cases h0 : p = 0
  · subst h0
    rw [q_path_0, if_pos (by omega)]
    simp
  · rw [q_path_s hD.1.1 hD.fr (by omega) hp, Nat.testBit_or, Nat.testBit_two_pow]
    have h1 := hD.fr p (by omega) hp
    have h2 := q_path_lt hD.1.1 hD.fr (q_fr D p) (by omega)
    by_cases h3 : p < w
    · rw [if_pos h3]
      have h4 : (q_path (q_fr D) (q_fr D p)).testBit w = false := Nat.testBit_lt_two_pow (Nat.lt_of_lt_of_le h2 (Nat.pow_le_pow_right (by omega) (by omega)))
      rw [h4]
      simp; omega
    · rw [if_neg h3]
      by_cases h4 : p = w
      · rw [if_pos h4]; simp [h4]
      · rw [if_neg h4]; simp [h4]
/-- how many of the riders 0 .. r-1 of S come on the way to w -/
def q_on (D : q_Rd) (S w : Nat) : Nat → Nat
  | 0 => 0
  | r + 1 => if S.testBit r then q_on D S w r + (if (q_path (q_fr D) (q_ho D r)).testBit w then 1 else 0) else q_on D S w r
theorem q_on_le (D : q_Rd) (S w : Nat) : ∀ r, q_on D S w r ≤ r
  | 0 => Nat.le_refl _
  | r + 1 => by
    have := q_on_le D S w r
    rw [q_on]
    split
    · split <;> omega
    · omega
theorem q_on_pos (D : q_Rd) (S w : Nat) : ∀ r, 0 < q_on D S w r ↔ (q_pp D S r).testBit w = true
  | 0 => by simp [q_on, q_pp]
  | r + 1 => by
    have ih := q_on_pos D S w r
    rw [q_on, q_pp]
    by_cases h : S.testBit r = true
    · rw [if_pos h, if_pos h, Nat.testBit_or]
      by_cases h2 : (q_path (q_fr D) (q_ho D r)).testBit w = true
      · rw [if_pos h2]; simp [h2]
      · rw [if_neg h2]
        simp only [Bool.not_eq_true] at h2
        rw [h2, Bool.or_false, Nat.add_zero]
        exact ih
    · rw [if_neg h, if_neg h]; exact ih
section QM
variable {n : Nat} {I : Nat → Nat → Int32} {J : Nat → Nat → Int64} {T : Nat} {D : q_Rd}
theorem m_climb (hD : q_ok D) (h : q_RM I D) {k : (Nat → Nat → Int32) → (Nat → Nat → Int64) → Nat → Int32 → Int32 → Int32 → Int32 → Option Int32} {x1 x3 x4 : Int32} {w : Nat} (hw : 1 ≤ w) (hw2 : w ≤ 9) : ∀ (m p : Nat), p ≤ q_W D → p < m → f_X12_isOn_37 n k m I J T x1 (nI w) x3 x4 (nI p) = k I J T x1 (nI w) (x3 + (if (q_path (q_fr D) p).testBit w then 1 else 0)) (x4 + 1) := by
  intro m
  induction m with
  | zero => intro p _ h; omega
  | succ m ih =>
    intro p hp hm
    have hW := hD.1.1
    have hb := q_path_bit hD p w hp hw
    rw [f_X12_isOn_37]
    by_cases h1 : p ≤ w
    · rw [if_pos (nI_le h1 (by omega))]
      by_cases h2 : p = w
      · rw [if_neg (by omega), if_pos h2] at hb
        rw [if_pos (by rw [h2]), hb]
        rfl
      · rw [if_pos (by omega)] at hb
        rw [if_neg (fun z => h2 ((nI_eq (by omega) (by omega)).mp z)), hb]
        rfl
    · rw [if_neg (nI_ge (by omega) (by omega)), if_pos (q_ix (by omega) (by omega)), q_cl (by omega), (h.2.1 p (by omega) hp).1]
      have h3 := hD.fr p (by omega) hp
      rw [if_neg (by omega), if_neg (by omega)] at hb
      rw [ih (q_fr D p) (by omega) (by omega), hb]
theorem m_isOn_loop (hn : 300 ≤ n) (hD : q_ok D) (h : q_RM I D) {S w : Nat} (hS : S < 1024) (hw : 1 ≤ w) (hw2 : w ≤ 9) : ∀ (m r : Nat), r ≤ q_R D → q_R D - r < m → f_X12_isOn_5 n m I J T (nI S) (nI w) (nI (q_on D S w r)) (nI r) = some (nI (q_on D S w (q_R D))) := by
  intro m
  induction m with
  | zero => intro r _ h; omega
  | succ m ih =>
    intro r hr hm
    have hR := hD.1.2.1
    rw [f_X12_isOn_5, h.1.2.1]
    by_cases h1 : r = q_R D
    · subst h1
      rw [if_pos (Int32.le_refl _)]
    · rw [if_neg (nI_ge (by omega) (by omega)), m_has hS (by omega)]
      have h2 := hD.2.2 r (by omega)
      have e3 : (3 : Int32) * nI r = nI (3 * r) := pk_mul 3 r
      by_cases hb : S.testBit r = true
      · have h3 : q_on D S w (r + 1) = q_on D S w r + (if (q_path (q_fr D) (q_ho D r)).testBit w then 1 else 0) := if_pos hb
        have hW := hD.1.1
        rw [if_pos hb, Option.bind_some, if_neg (by decide), e3, if_pos (q_ix (by omega) (by omega)), q_cl (by omega), (h.2.2 r (by omega)).1, m_climb hD h hw hw2 n (q_ho D r) h2.2.1 (by omega)]
        have e4 : nI (q_on D S w r) + (if (q_path (q_fr D) (q_ho D r)).testBit w then 1 else 0) = nI (q_on D S w (r + 1)) := by
          rw [h3]; split
          · exact nI_1 _
          · exact nI_add _ 0
        rw [e4, nI_1]
        exact ih (r + 1) (by omega) (by omega)
      · have h3 : q_on D S w (r + 1) = q_on D S w r := if_neg hb
        rw [if_neg hb, Option.bind_some, if_pos rfl]
        unfold f_X12_isOn_69
        rw [nI_1, ← h3]
        exact ih (r + 1) (by omega) (by omega)
theorem m_isOn (hn : 300 ≤ n) (hD : q_ok D) (h : q_RM I D) {S w : Nat} (hS : S < 1024) (hw : 1 ≤ w) (hw2 : w ≤ 9) : f_X12_isOn n I J T (nI S) (nI w) = some (nI (q_on D S w (q_R D))) := by
  unfold f_X12_isOn
  have := hD.1.2.1
  exact m_isOn_loop hn hD h hS hw hw2 n 0 (Nat.zero_le _) (by omega)
theorem m_milesOf_loop (hn : 300 ≤ n) (hD : q_ok D) (h : q_RM I D) {S : Nat} (hS : S < 1024) : ∀ (m w : Nat), w ≤ q_W D → q_W D - w < m → f_X12_milesOf_4 n m I J T (nI S) (nI (q_ms (q_mi D) (q_pp D S (q_R D)) w)) (nI (w + 1)) = some (nI (q_mf D S)) := by
  intro m
  induction m with
  | zero => intro w _ h; omega
  | succ m ih =>
    intro w hw hm
    have hW := hD.1.1
    have hR := hD.1.2.1
    rw [f_X12_milesOf_4, h.1.1]
    by_cases h1 : w = q_W D
    · subst h1
      rw [if_pos (nI_lt (by omega) (by omega))]
      rfl
    · have h2 : w + 1 ≤ q_W D := by omega
      rw [if_neg (nI_nlt (by omega) (by omega)), m_isOn hn hD h hS (by omega) (by omega), Option.bind_some]
      have h3 : q_ms (q_mi D) (q_pp D S (q_R D)) (w + 1) = q_ms (q_mi D) (q_pp D S (q_R D)) w + (if (q_pp D S (q_R D)).testBit (w + 1) then q_mi D (w + 1) else 0) := rfl
      have h4 := q_on_pos D S (w + 1) (q_R D)
      have h5 := q_on_le D S (w + 1) (q_R D)
      by_cases hb : (q_pp D S (q_R D)).testBit (w + 1) = true
      · rw [if_neg (nI_nle (h4.mpr hb) (by omega)), if_pos (q_ix (by omega) (by omega)), q_cl (by omega), (h.2.1 (w + 1) (by omega) h2).2]
        rw [if_pos hb] at h3
        unfold f_X12_milesOf_32
        rw [nI_add, nI_1, ← h3]
        exact ih (w + 1) h2 (by omega)
      · have h6 : q_on D S (w + 1) (q_R D) = 0 := by
          have : ¬ 0 < q_on D S (w + 1) (q_R D) := fun z => hb (h4.mp z)
          omega
        rw [h6, if_pos (by decide)]
        rw [if_neg hb] at h3
        unfold f_X12_milesOf_32
        have e0 : nI (q_ms (q_mi D) (q_pp D S (q_R D)) w) + 0 = nI (q_ms (q_mi D) (q_pp D S (q_R D)) w) := nI_add _ 0
        rw [e0, nI_1, ← Nat.add_zero (q_ms (q_mi D) (q_pp D S (q_R D)) w), ← h3]
        exact ih (w + 1) h2 (by omega)
theorem m_milesOf {S : Nat} (hn : 300 ≤ n) (hD : q_ok D) (h : q_RM I D) (hS : S < 1024) : f_X12_milesOf n I J T (nI S) = some (nI (q_mf D S)) := by
  unfold f_X12_milesOf
  have := hD.1.1
  exact m_milesOf_loop hn hD h hS n 0 (Nat.zero_le _) (by omega)
theorem m_costOf {S : Nat} (hn : 300 ≤ n) (hD : q_ok D) (h : q_RM I D) (hS : S < 1024) : f_X12_costOf n I J T (nI S) = some (nI (q_cost D S)) := by
  unfold f_X12_costOf
  have hm := q_mf_le hD S
  have hni := hD.1.2.2.2.2
  rw [m_milesOf hn hD h hS, Option.bind_some, h.1.2.2.2.2, h.1.2.2.2.1]
  unfold f_X12_costOf_38 q_cost q_nm
  by_cases h0 : q_ni D = 0
  · rw [if_pos (by rw [h0]; rfl), if_neg (by omega)]
    have e0 : nI (q_mf D S) + 0 = nI (q_mf D S) := nI_add _ 0
    rw [e0, pk_mul, Nat.add_zero]
  · rw [if_neg (c := nI (q_ni D) = 0) (fun z => h0 ((nI_eq (a := q_ni D) (b := 0) (by omega) (by omega)).mp z))]
    unfold am_max
    by_cases h1 : q_ni D < q_mf D S
    · rw [pk_sub (by omega), if_pos (show (0 : Int32) < _ from nI_lt (a := 0) (by omega) (by omega)), if_pos ⟨by omega, h1⟩, nI_add, pk_mul]
    · have h2 : ¬ (0 : Int32) < nI (q_mf D S) - nI (q_ni D) := by
        rw [Int32.lt_iff_toInt_lt, pk_sub_toInt (by omega) (by omega)]
        have : (0 : Int32).toInt = 0 := by decide
        omega
      have e0 : nI (q_mf D S) + 0 = nI (q_mf D S) := nI_add _ 0
      rw [if_neg h2, if_neg (by omega), e0, pk_mul, Nat.add_zero]
end QM
