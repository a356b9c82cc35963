/-! ===== fractions made plain ===== -/
theorem zL_div {a b : Int} (ha : a.natAbs < 2 ^ 62) (hb : b.natAbs < 2 ^ 62) : zL a / zL b = zL (a.tdiv b) := by
  have h := Int.natAbs_tdiv_le_natAbs a b
  apply Int64.toInt_inj.mp
  rw [Int64.toInt_div, zL_toInt (by omega) (by omega), zL_toInt (by omega) (by omega), zL_toInt (by omega) (by omega)]
  apply Int.bmod_eq_of_le <;> omega
theorem zL_rem {a b : Int} (ha : a.natAbs < 2 ^ 62) (hb : b.natAbs < 2 ^ 62) : zL a - zL a / zL b * zL b = zL (a.tmod b) := by
  rw [zL_div ha hb, zL_mul, zL_sub, Int.tmod_def]
  congr 1
  rw [Int.mul_comm]
theorem zL_ne0 {b : Int} (h0 : b ≠ 0) (hb : b.natAbs < 2 ^ 62) : ¬ zL b = 0 := fun z => by
  have e : (0 : Int64) = zL 0 := rfl
  rw [e, zL_eq (by omega) (by omega) (by omega) (by omega)] at z
  exact h0 z
theorem zL_abs {a : Int} (ha : a.natAbs < 2 ^ 62) : am_absL (zL a) = lN a.natAbs := by
  unfold am_absL
  have e : (0 : Int64) = zL 0 := rfl
  rw [zL_n]
  by_cases h : 0 < a
  · have h1 : 0 < zL a := by rw [e, zL_lt (by omega) (by omega) (by omega) (by omega)]; exact h
    rw [if_pos h1]
    congr 1
    omega
  · have h1 : ¬ 0 < zL a := by rw [e, zL_lt (by omega) (by omega) (by omega) (by omega)]; exact h
    rw [if_neg h1, zL_neg]
    congr 1
    omega
theorem q_tmod_lt (a : Int) {b : Int} (hb : b ≠ 0) : (a.tmod b).natAbs < b.natAbs := by
  rw [Int.natAbs_tmod]
  exact Nat.mod_lt _ (by omega)
theorem q_mod2 {b c : Nat} (h0 : 0 < c) (h : c < b) : 2 * (b % c) < b := by
  have h1 := Nat.mod_lt b h0
  have h2 := Nat.div_add_mod b c
  have h3 : 1 ≤ b / c := (Nat.one_le_div_iff h0).mpr (by omega)
  have h4 : c * 1 ≤ c * (b / c) := Nat.mul_le_mul_left _ h3
  omega
section QG
variable {n : Nat} {I : Nat → Nat → Int32} {J : Nat → Nat → Int64} {T : Nat}
theorem q_gcd_step (a b : Int) : Int.gcd b (a.tmod b) = Int.gcd a b := by
  unfold Int.gcd
  rw [Int.natAbs_tmod, Nat.gcd_comm b.natAbs, Nat.gcd_comm a.natAbs b.natAbs, Nat.gcd_rec b.natAbs a.natAbs]
theorem m_common_1 (r : Nat) {a : Int} (ha : a.natAbs < 2 ^ 62) : fx_X12_common n (r + 1) I J T (zL a) (zL 0) = some (zL (Int.gcd a 0)) := by
  show fb_X12_common n (fx_X12_common n r) I J T (zL a) (zL 0) = _
  unfold fb_X12_common
  have e : lg_cmp (zL 0) 0 = 0 := (lg_cmp_eq _ _).mpr rfl
  rw [if_pos e, zL_abs ha, Int.gcd_zero_right]
  rfl
theorem m_common_s (r : Nat) {a b : Int} (hb0 : b ≠ 0) (ha : a.natAbs < 2 ^ 62) (hb : b.natAbs < 2 ^ 62) : fx_X12_common n (r + 1) I J T (zL a) (zL b) = fx_X12_common n r I J T (zL b) (zL (a.tmod b)) := by
  show fb_X12_common n (fx_X12_common n r) I J T (zL a) (zL b) = _
  unfold fb_X12_common
  have e : ¬ lg_cmp (zL b) 0 = 0 := fun z => zL_ne0 hb0 hb ((lg_cmp_eq _ _).mp z)
  rw [if_neg e, if_pos (zL_ne0 hb0 hb), zL_rem ha hb]
  cases fx_X12_common n r I J T (zL b) (zL (a.tmod b)) <;> rfl
theorem m_common_l : ∀ (k r : Nat) (a b : Int), a.natAbs < 2 ^ 62 → b.natAbs < 2 ^ 62 → b.natAbs < 2 ^ k → 2 * k < r → fx_X12_common n r I J T (zL a) (zL b) = some (zL (Int.gcd a b)) := by
  intro k
  induction k with
  | zero =>
    intro r a b ha hb h1 h2
    obtain ⟨r, rfl⟩ : ∃ j, r = j + 1 := ⟨r - 1, by omega⟩
    have h0 : b = 0 := by
      have : (2 : Nat) ^ 0 = 1 := rfl
      omega
    rw [h0]
    exact m_common_1 r ha
  | succ k ih =>
    intro r a b ha hb h1 h2
    obtain ⟨r, rfl⟩ : ∃ j, r = j + 1 + 1 := ⟨r - 2, by omega⟩
    by_cases h0 : b = 0
    · rw [h0]
      exact m_common_1 _ ha
    · have c1 := q_tmod_lt a h0
      rw [m_common_s _ h0 ha hb, ← q_gcd_step a b]
      by_cases h3 : a.tmod b = 0
      · rw [h3]
        exact m_common_1 _ hb
      · have c2 := q_tmod_lt b h3
        have c3 : 2 * (b.tmod (a.tmod b)).natAbs < b.natAbs := by
          rw [Int.natAbs_tmod b]
          exact q_mod2 (by omega) c1
        rw [m_common_s _ h3 hb (by omega), ← q_gcd_step b (a.tmod b)]
        refine ih r _ _ (by omega) (by omega) ?_ (by omega)
        have : 2 ^ (k + 1) = 2 * 2 ^ k := by rw [Nat.pow_succ, Nat.mul_comm]
        omega
theorem m_common (hn : 300 ≤ n) {a b : Int} (ha : a.natAbs < 2 ^ 62) (hb : b.natAbs < 2 ^ 62) : f_X12_common n I J T (zL a) (zL b) = some (zL (Int.gcd a b)) :=
  m_common_l 62 n a b ha hb hb (by omega)
/-- a part of a fraction made plain -/
def q_pt (a b : Int) (w : Bool) : Int := if w then a.tdiv (Int.gcd a b) else b.tdiv (Int.gcd a b)
theorem m_partOf (hn : 300 ≤ n) {a b : Int} (ha : a.natAbs < 2 ^ 62) (hb : b.natAbs < 2 ^ 62) (h0 : 0 < b) (x : Int32) : f_X12_partOf n I J T (zL a) (zL b) x = some (zL (q_pt a b (decide (x = 0)))) := by
  have hg : 0 < Int.gcd a b := Int.gcd_pos_of_ne_zero_right a (by omega)
  have hle : Int.gcd a b ≤ b.natAbs := Nat.le_of_dvd (by omega) (Nat.gcd_dvd_right _ _)
  have hne : ¬ zL ((Int.gcd a b : Nat) : Int) = 0 := zL_ne0 (by omega) (by omega)
  unfold f_X12_partOf q_pt
  rw [m_common hn ha hb, Option.bind_some, if_pos hne, if_pos hne, zL_div ha (by omega), zL_div hb (by omega)]
  by_cases hx : x = 0
  · rw [if_pos hx, decide_eq_true hx]
    rfl
  · rw [if_neg hx, decide_eq_false hx]
    rfl
theorem x_plain_1 {y0 y2 : Int64} {x4 : Int32} (m : Nat) {c x : Nat} (hx : x < 200) : f_X11_plain_12 n (m + 1) I J T y0 y2 x4 (lN c) (lN 0) (nI x) = f_X11_plain_48 n I J T y0 y2 x4 (lN (Nat.gcd c 0)) := by
  rw [f_X11_plain_12, if_neg (show ¬ (200 : Int32) ≤ nI x from nI_ge (b := 200) hx (by omega)), if_pos ((lg_cmp_le (lN 0) 0).mpr (Int64.le_refl _)), Nat.gcd_zero_right]
theorem x_plain_s {y0 y2 : Int64} {x4 : Int32} (m : Nat) {c d x : Nat} (hx : x < 200) (hc : c < 2 ^ 62) (h0 : 0 < d) (hd : d < 2 ^ 62) : f_X11_plain_12 n (m + 1) I J T y0 y2 x4 (lN c) (lN d) (nI x) = f_X11_plain_12 n m I J T y0 y2 x4 (lN d) (lN (c % d)) (nI (x + 1)) := by
  have e0 : ¬ lN d ≤ 0 := fun z => by
    have e : (0 : Int64) = lN 0 := rfl
    rw [e, pk_lLE (by omega) (by omega)] at z
    omega
  have e1 : ¬ lN d = 0 := fun z => by
    have e : (0 : Int64) = lN 0 := rfl
    rw [e, pk_lEQ (by omega) (by omega)] at z
    omega
  rw [f_X11_plain_12, if_neg (show ¬ (200 : Int32) ≤ nI x from nI_ge (b := 200) hx (by omega)), if_neg (fun z => e0 ((lg_cmp_le _ _).mp z)), if_pos e1, pk_lRem (by omega) h0 (by omega), nI_1]
theorem x_plain_l {y0 y2 : Int64} {x4 : Int32} : ∀ (k m c d x : Nat), c < 2 ^ 62 → d < 2 ^ 62 → d < 2 ^ k → x + 2 * k < 200 → 2 * k < m → f_X11_plain_12 n m I J T y0 y2 x4 (lN c) (lN d) (nI x) = f_X11_plain_48 n I J T y0 y2 x4 (lN (Nat.gcd c d)) := by
  intro k
  induction k with
  | zero =>
    intro m c d x hc hd h1 h2 h3
    obtain ⟨m, rfl⟩ : ∃ j, m = j + 1 := ⟨m - 1, by omega⟩
    have h0 : d = 0 := by
      have : (2 : Nat) ^ 0 = 1 := rfl
      omega
    rw [h0]
    exact x_plain_1 m (by omega)
  | succ k ih =>
    intro m c d x hc hd h1 h2 h3
    obtain ⟨m, rfl⟩ : ∃ j, m = j + 1 + 1 := ⟨m - 2, by omega⟩
    by_cases h0 : d = 0
    · rw [h0]
      exact x_plain_1 _ (by omega)
    · have c1 := Nat.mod_lt c (show 0 < d by omega)
      have g1 : Nat.gcd c d = Nat.gcd d (c % d) := by rw [Nat.gcd_comm c d, Nat.gcd_rec d c, Nat.gcd_comm]
      rw [x_plain_s _ (by omega) hc (by omega) hd, g1]
      by_cases h4 : c % d = 0
      · rw [h4]
        exact x_plain_1 _ (by omega)
      · have c2 := Nat.mod_lt d (show 0 < c % d by omega)
        have c3 := q_mod2 (show 0 < c % d by omega) c1
        have g2 : Nat.gcd d (c % d) = Nat.gcd (c % d) (d % (c % d)) := by rw [Nat.gcd_comm d, Nat.gcd_rec (c % d) d, Nat.gcd_comm]
        rw [x_plain_s _ (by omega) hd (by omega) (by omega), g2]
        refine ih m _ _ _ (by omega) (by omega) ?_ (by omega) (by omega)
        have : 2 ^ (k + 1) = 2 * 2 ^ k := by rw [Nat.pow_succ, Nat.mul_comm]
        omega
theorem x_plain (hn : 300 ≤ n) {a b : Int} (ha : a.natAbs < 2 ^ 62) (hb : b.natAbs < 2 ^ 62) (h0 : 0 < b) (x : Int32) : f_X11_plain n I J T (zL a) (zL b) x = some (zL (q_pt a b (decide (¬ x = 0)))) := by
  have hg : 0 < Int.gcd a b := Int.gcd_pos_of_ne_zero_right a (by omega)
  have hle : Int.gcd a b ≤ b.natAbs := Nat.le_of_dvd (by omega) (Nat.gcd_dvd_right _ _)
  have hb2 : zL b = lN b.natAbs := by
    rw [zL_n]
    congr 1
    omega
  have hgg : Nat.gcd b.natAbs a.natAbs = Int.gcd a b := Nat.gcd_comm _ _
  have e := x_plain_l (n := n) (I := I) (J := J) (T := T) (y0 := zL a) (y2 := zL b) (x4 := x) 62 n b.natAbs a.natAbs 0 hb ha ha (by omega) (by omega)
  rw [hgg] at e
  unfold f_X11_plain
  rw [zL_abs ha]
  have e' : f_X11_plain_12 n n I J T (zL a) (zL b) x (zL b) (lN a.natAbs) 0 = f_X11_plain_48 n I J T (zL a) (zL b) x (lN (Int.gcd a b)) := by
    rw [hb2] at e ⊢
    exact e
  rw [e']
  unfold f_X11_plain_48 f_X11_plain_69 q_pt
  have e1 : (0 : Int32) ≤ lg_cmp (lN (Int.gcd a b)) 1 := by
    rw [lg_cmp_ge]
    have e : (1 : Int64) = lN 1 := rfl
    rw [e, pk_lLE (by omega) (by omega)]
    omega
  have e2 : ¬ lN (Int.gcd a b) = 0 := fun z => by
    have e : (0 : Int64) = lN 0 := rfl
    rw [e, pk_lEQ (by omega) (by omega)] at z
    omega
  rw [if_pos e1, if_pos e2, if_pos e2, zL_n, zL_div ha (by omega), zL_div hb (by omega)]
  by_cases hx : x = 0
  · rw [if_pos hx, decide_eq_false (fun z => z hx)]
    rfl
  · rw [if_neg hx, decide_eq_true hx]
    rfl
theorem q_pt_mul {k : Int} (hk : 0 < k) (a b : Int) (w : Bool) : q_pt (k * a) (k * b) w = q_pt a b w := by
  have e : ((Int.gcd (k * a) (k * b) : Nat) : Int) = k * (Int.gcd a b : Nat) := by
    rw [Int.gcd_mul_left, Int.natCast_mul, Int.natAbs_of_nonneg (by omega)]
  unfold q_pt
  rw [e, Int.mul_tdiv_mul_of_pos _ _ hk, Int.mul_tdiv_mul_of_pos _ _ hk]
end QG
