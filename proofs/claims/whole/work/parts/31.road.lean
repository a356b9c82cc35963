/-! ===== miles between two places; seats; which sets and laws there are ===== -/
def q_ap (D : q_Rd) (a b : Nat) : Nat := q_ms (q_mi D) (q_path (q_fr D) a ^^^ q_path (q_fr D) b) (q_W D)
theorem q_ap_c (D : q_Rd) (a b : Nat) : q_ap D a b = q_ap D b a := by
  unfold q_ap
  rw [Nat.xor_comm]
theorem q_ms_0 (t : Nat → Nat) : ∀ w, q_ms t 0 w = 0 := by
  intro w
  induction w with
  | zero => rfl
  | succ w ih => simp [q_ms, ih]
theorem q_ap_0 (D : q_Rd) (a : Nat) : q_ap D a a = 0 := by
  unfold q_ap
  rw [Nat.xor_self]
  exact q_ms_0 _ _
theorem q_xor_top {x y b : Nat} (hx : x < 2 ^ b) (hy : y < 2 ^ b) : x ^^^ (2 ^ b ||| y) = 2 ^ b ||| (x ^^^ y) := by
  apply Nat.eq_of_testBit_eq
  intro i
  rw [Nat.testBit_xor, Nat.testBit_or, Nat.testBit_or, Nat.testBit_xor, Nat.testBit_two_pow]
  by_cases e : b = i
  · subst e
    rw [Nat.testBit_lt_two_pow hx]
    simp
  · simp [e]
theorem q_ap_s {D : q_Rd} (hD : q_ok D) {a b : Nat} (h : a < b) (hb : b ≤ q_W D) : q_ap D a b = q_mi D b + q_ap D a (q_fr D b) := by
  have hf := hD.fr b (by omega) hb
  have h1 := q_path_lt hD.1.1 hD.fr a (by omega)
  have h2 := q_path_lt hD.1.1 hD.fr (q_fr D b) (by omega)
  have e1 : 2 ^ (a + 1) ≤ 2 ^ b := Nat.pow_le_pow_right (by omega) (by omega)
  have e2 : 2 ^ (q_fr D b + 1) ≤ 2 ^ b := Nat.pow_le_pow_right (by omega) (by omega)
  unfold q_ap
  rw [q_path_s hD.1.1 hD.fr (by omega) hb, q_xor_top (Nat.lt_of_lt_of_le h1 e1) (Nat.lt_of_lt_of_le h2 e2), q_ms_top (Nat.xor_lt_two_pow (Nat.lt_of_lt_of_le h1 e1) (Nat.lt_of_lt_of_le h2 e2)) (by omega) _ hb, Nat.add_comm]
theorem q_ap_le {D : q_Rd} (hD : q_ok D) (a b : Nat) : q_ap D a b ≤ 180 := by
  have := q_ms_le (mi := q_mi D) (a := q_path (q_fr D) a ^^^ q_path (q_fr D) b) (W := q_W D) (fun p x y => (hD.2.1 p x y).2.2) (q_W D) (Nat.le_refl _)
  have := hD.1.1
  unfold q_ap
  omega
def q_seat (D : q_Rd) (S : Nat) : Nat → Nat
  | 0 => 0
  | r + 1 => q_seat D S r + (if S.testBit r then q_se D r else 0)
section QT
variable {n : Nat} {I : Nat → Nat → Int32} {J : Nat → Nat → Int64} {T : Nat} {D : q_Rd}
theorem x_apart (hn : 300 ≤ n) (hD : q_ok D) (h : q_RX I D) {a b : Nat} (ha : a ≤ q_W D) (hb : b ≤ q_W D) : f_X2_apart n I J T (nI a) (nI b) = some (nI (q_ap D a b)) := by
  have hW := hD.1.1
  have h1 := q_path_lt hD.1.1 hD.fr a ha
  have h2 := q_path_lt hD.1.1 hD.fr b hb
  have e1 : 2 ^ (a + 1) ≤ 2 ^ 10 := Nat.pow_le_pow_right (by omega) (by omega)
  have e2 : 2 ^ (b + 1) ≤ 2 ^ 10 := Nat.pow_le_pow_right (by omega) (by omega)
  have h3 := Nat.xor_lt_two_pow (Nat.lt_of_lt_of_le h1 e1) (Nat.lt_of_lt_of_le h2 e2)
  unfold f_X2_apart
  rw [x_path hn hD h ha, Option.bind_some, x_path hn hD h hb, Option.bind_some, q_xor, x_milesOf hn hD h h3, Option.bind_some]
  rfl
theorem m_apart_loop (hD : q_ok D) (h : q_RM I D) : ∀ (m a b c : Nat), a ≤ q_W D → b ≤ q_W D → a + b < m → f_X12_apart_8 n m I J T (nI a) (nI b) (nI c) = some (nI (c + q_ap D a b)) := by
  have hW := hD.1.1
  intro m
  induction m with
  | zero => intro a b c _ _ h; omega
  | succ m ih =>
    intro a b c ha hb hm
    rw [f_X12_apart_8]
    by_cases e : a = b
    · subst e
      rw [if_pos rfl, q_ap_0, Nat.add_zero]
    · rw [if_neg (fun z => e ((nI_eq (by omega) (by omega)).mp z))]
      by_cases hab : a < b
      · rw [if_pos (nI_le (by omega) (by omega)), if_pos (q_ix (by omega) (by omega)), if_pos (q_ix (by omega) (by omega)), q_cl (by omega), (h.2.1 b (by omega) hb).1, (h.2.1 b (by omega) hb).2, nI_add, ih a (q_fr D b) _ ha (by have := hD.fr b (by omega) hb; omega) (by have := hD.fr b (by omega) hb; omega), q_ap_s hD hab hb]
        congr 2
        omega
      · have hba : b < a := by omega
        rw [if_neg (nI_ge hba (by omega)), if_pos (q_ix (by omega) (by omega)), if_pos (q_ix (by omega) (by omega)), q_cl (by omega), (h.2.1 a (by omega) ha).1, (h.2.1 a (by omega) ha).2, nI_add, ih (q_fr D a) b _ (by have := hD.fr a (by omega) ha; omega) hb (by have := hD.fr a (by omega) ha; omega), q_ap_c D a b, q_ap_s hD hba ha, q_ap_c D b]
        congr 2
        omega
theorem m_apart (hn : 300 ≤ n) (hD : q_ok D) (h : q_RM I D) {a b : Nat} (ha : a ≤ q_W D) (hb : b ≤ q_W D) : f_X12_apart n I J T (nI a) (nI b) = some (nI (q_ap D a b)) := by
  have hW := hD.1.1
  have e := m_apart_loop (n := n) (J := J) (T := T) hD h n a b 0 ha hb (by omega)
  rw [Nat.zero_add] at e
  exact e
theorem x_seat_loop (hD : q_ok D) (h : q_RX I D) {S : Nat} (hS : S < 1024) : ∀ (m r : Nat), r ≤ q_R D → q_R D - r < m → f_X2_seatsFor_4 n m I J T (nI S) (nI (q_seat D S r)) (nI r) = some (nI (q_seat D S (q_R D))) := by
  have hR := hD.1.2.1
  intro m
  induction m with
  | zero => intro r _ h; omega
  | succ m ih =>
    intro r hr hm
    rw [f_X2_seatsFor_4, h.1.2.1]
    by_cases e : r = q_R D
    · subst e
      rw [if_pos (Int32.le_refl _)]
    · rw [if_neg (nI_ge (by omega) (by omega)), x_isIn hS (by omega)]
      by_cases hb : S.testBit r = true
      · rw [if_pos hb, Option.bind_some, if_neg q_10, if_pos (q_ix (by omega) (by omega)), q_cl (by omega), (h.2.2 r (by omega)).2.2]
        unfold f_X2_seatsFor_29
        rw [nI_1, nI_add, ← ih (r + 1) (by omega) (by omega)]
        simp [q_seat, hb]
      · rw [if_neg hb, Option.bind_some, if_pos rfl]
        unfold f_X2_seatsFor_29
        rw [nI_1, ← ih (r + 1) (by omega) (by omega)]
        simp [q_seat, hb]
theorem x_seat (hn : 300 ≤ n) (hD : q_ok D) (h : q_RX I D) {S : Nat} (hS : S < 1024) : f_X2_seatsFor n I J T (nI S) = some (nI (q_seat D S (q_R D))) :=
  x_seat_loop hD h hS n 0 (Nat.zero_le _) (by have := hD.1.2.1; omega)
theorem m_seat_loop (hD : q_ok D) (h : q_RM I D) {S : Nat} (hS : S < 1024) : ∀ (m r : Nat), r ≤ q_R D → q_R D - r < m → f_X12_seatsOf_4 n m I J T (nI S) (nI (q_seat D S r)) (nI r) = some (nI (q_seat D S (q_R D))) := by
  have hR := hD.1.2.1
  intro m
  induction m with
  | zero => intro r _ h; omega
  | succ m ih =>
    intro r hr hm
    rw [f_X12_seatsOf_4, h.1.2.1]
    by_cases e : r = q_R D
    · subst e
      rw [if_pos (Int32.le_refl _)]
    · rw [if_neg (nI_ge (by omega) (by omega)), m_has hS (by omega)]
      by_cases hb : S.testBit r = true
      · have e3 : (3 : Int32) * nI r + 2 = nI (3 * r + 2) := by
          rw [show (3 : Int32) = nI 3 from rfl, pk_mul 3 r]
          exact nI_add _ 2
        rw [if_pos hb, Option.bind_some, if_neg q_10, e3, if_pos (q_ix (by omega) (by omega)), q_cl (by omega), (h.2.2 r (by omega)).2.2]
        unfold f_X12_seatsOf_35
        rw [nI_1, nI_add, ← ih (r + 1) (by omega) (by omega)]
        simp [q_seat, hb]
      · rw [if_neg hb, Option.bind_some, if_pos rfl]
        unfold f_X12_seatsOf_35
        rw [nI_1, ← nI_0, nI_add, ← ih (r + 1) (by omega) (by omega)]
        simp [q_seat, hb]
theorem m_seat (hn : 300 ≤ n) (hD : q_ok D) (h : q_RM I D) {S : Nat} (hS : S < 1024) : f_X12_seatsOf n I J T (nI S) = some (nI (q_seat D S (q_R D))) :=
  m_seat_loop hD h hS n 0 (Nat.zero_le _) (by have := hD.1.2.1; omega)
theorem g_set {I2 : Nat → Nat → Int32} {J2 : Nat → Nat → Int64} (hD : q_dok D) (h : q_RX I D) (h2 : q_RM I2 D) (x : Int32) : (∃ S, S < 2 ^ q_R D ∧ 2 ^ q_R D ≤ 64 ∧ 0 < q_R D ∧ x = nI S ∧ f_X11_isSet n I J T x = some 1 ∧ f_X12_isSet n I2 J2 T x = some (if S = 0 then 0 else 1)) ∨ (f_X11_isSet n I J T x = some 0 ∧ f_X12_isSet n I2 J2 T x = some 0 ∧ (q_R D = 0 ∨ ¬ x = 0)) := by
  have hR := hD.1.1.2.1
  have hW := hD.1.1.1
  obtain ⟨p1, p2⟩ := q_pow2 (q_R D) hR
  have hp : 0 < 2 ^ q_R D := Nat.two_pow_pos _
  unfold f_X11_isSet f_X12_isSet f_X11_isRoadless
  rw [h.1.1, h2.1.2.1, p1]
  by_cases hR0 : q_R D = 0
  · rw [hD.2.1.mp hR0, hR0, if_pos nI_0, Option.bind_some, if_neg q_10, if_pos (by decide +kernel)]
    exact Or.inr ⟨rfl, rfl, Or.inl rfl⟩
  · have hW0 : ¬ q_W D = 0 := fun z => hR0 (hD.2.1.mpr z)
    rw [if_neg (nI_ne0 (by omega) (by omega)), Option.bind_some, if_pos rfl, if_neg (nI_nle (by omega) (by omega)), x_everyone hD.1 h, Option.bind_some]
    by_cases h0 : x < 0
    · have h1 : x ≤ 0 := by
        rw [Int32.lt_iff_toInt_lt] at h0
        rw [Int32.le_iff_toInt_le]
        omega
      rw [if_pos h0, if_pos h1]
      refine Or.inr ⟨rfl, rfl, Or.inr fun z => ?_⟩
      subst z
      exact absurd h0 (by decide)
    · obtain ⟨S, hS, rfl⟩ := nI_of h0
      rw [if_neg h0]
      by_cases hS0 : S = 0
      · subst hS0
        rw [if_neg (nI_nlt (Nat.zero_le _) (by omega)), if_pos (by decide +kernel)]
        exact Or.inl ⟨0, hp, p2, by omega, rfl, rfl, by rw [if_pos rfl]⟩
      · rw [if_neg (nI_nle (by omega) hS)]
        by_cases hb : 2 ^ q_R D ≤ S
        · rw [if_pos (nI_lt (by omega) hS), if_pos (nI_le hb hS)]
          exact Or.inr ⟨rfl, rfl, Or.inr (nI_ne0 (by omega) hS)⟩
        · rw [if_neg (nI_nlt (by omega) (by omega)), if_neg (nI_ge (by omega) (by omega))]
          exact Or.inl ⟨S, by omega, p2, by omega, rfl, rfl, by rw [if_neg hS0]⟩
theorem g_law {I2 : Nat → Nat → Int32} {J2 : Nat → Nat → Int64} {u : Nat} (hD : q_dok D) (h : q_RX I D) (h2 : q_RM I2 D) (hu : u ≤ 4) (hu1 : I 19 4 = nI u) (hu2 : I2 53 7 = nI u) (x : Int32) : (∃ k, k < 3 + u ∧ 0 < q_R D ∧ x = nI k ∧ f_X11_isLaw n I J T x = some 1 ∧ f_X12_isLaw n I2 J2 T x = some 1) ∨ (f_X11_isLaw n I J T x = some 0 ∧ f_X12_isLaw n I2 J2 T x = some 0) := by
  have hR := hD.1.1.2.1
  have hW := hD.1.1.1
  unfold f_X11_isLaw f_X12_isLaw f_X11_isRoadless
  have e3 : (3 : Int32) + nI u = nI (3 + u) := nI_add 3 u
  have e2 : (2 : Int32) + nI u = nI (2 + u) := nI_add 2 u
  rw [h.1.1, h2.1.2.1, hu1, hu2, e3, e2, nI_l (by omega)]
  by_cases hR0 : q_R D = 0
  · rw [hD.2.1.mp hR0, hR0, if_pos nI_0, Option.bind_some, if_neg q_10, if_pos (by decide +kernel)]
    exact Or.inr ⟨rfl, rfl⟩
  · have hW0 : ¬ q_W D = 0 := fun z => hR0 (hD.2.1.mpr z)
    rw [if_neg (nI_ne0 (by omega) (by omega)), Option.bind_some, if_pos rfl, if_neg (nI_nle (by omega) (by omega))]
    rcases g_on x 0 (2 + u) (A := 0) (B := nI (2 + u)) (A' := 0) (B' := lN (2 + u)) rfl rfl rfl rfl (by omega) (by omega) with ⟨k, h1, h2, h3, h4, h5⟩ | ⟨h4, h5⟩
    · subst h3
      rw [h5, Option.bind_some, if_neg q_10, if_neg (nI_pos (by omega)), if_neg (nI_ge (by omega) (by omega))]
      exact Or.inl ⟨k, by omega, by omega, rfl, rfl, rfl⟩
    · rw [h5, Option.bind_some, if_pos rfl]
      refine Or.inr ⟨?_, rfl⟩
      have h6 := h4 n I J T
      unfold f_X11_isWithin at h6
      by_cases h0 : x < 0
      · rw [if_pos h0]
      · rw [if_neg h0] at h6 ⊢
        obtain ⟨S, hS, rfl⟩ := nI_of h0
        by_cases hb : 3 + u ≤ S
        · rw [if_pos (nI_le hb hS)]
        · rw [if_neg (nI_nlt (by omega) (by omega))] at h6
          cases h6
end QT
