/-! ===== whole numbers as longs; shares by orders ===== -/
def zL (z : Int) : Int64 := Int64.ofInt z
theorem zL_n (k : Nat) : lN k = zL k := rfl
theorem zL_add (a b : Int) : zL a + zL b = zL (a + b) := (Int64.ofInt_add a b).symm
theorem zL_mul (a b : Int) : zL a * zL b = zL (a * b) := (Int64.ofInt_mul a b).symm
theorem zL_sub (a b : Int) : zL a - zL b = zL (a - b) := (Int64.ofInt_sub a b).symm
theorem zL_neg (a : Int) : -zL a = zL (-a) := (Int64.ofInt_neg a).symm
theorem zL_toInt {z : Int} (h1 : -(2 ^ 62) < z) (h2 : z < 2 ^ 62) : (zL z).toInt = z := Int64.toInt_ofInt_of_le (by omega) (by omega)
theorem zL_lt {a b : Int} (a1 : -(2 ^ 62) < a) (a2 : a < 2 ^ 62) (b1 : -(2 ^ 62) < b) (b2 : b < 2 ^ 62) : zL a < zL b ↔ a < b := by
  rw [Int64.lt_iff_toInt_lt, zL_toInt a1 a2, zL_toInt b1 b2]
theorem zL_le {a b : Int} (a1 : -(2 ^ 62) < a) (a2 : a < 2 ^ 62) (b1 : -(2 ^ 62) < b) (b2 : b < 2 ^ 62) : zL a ≤ zL b ↔ a ≤ b := by
  rw [Int64.le_iff_toInt_le, zL_toInt a1 a2, zL_toInt b1 b2]
theorem zL_eq {a b : Int} (a1 : -(2 ^ 62) < a) (a2 : a < 2 ^ 62) (b1 : -(2 ^ 62) < b) (b2 : b < 2 ^ 62) : zL a = zL b ↔ a = b := by
  rw [← Int64.toInt_inj, zL_toInt a1 a2, zL_toInt b1 b2]
theorem zL_i {x : Int32} {z : Int} (h : x.toInt = z) : x.toInt64 = zL z := by
  apply Int64.toInt_inj.mp
  rw [Int32.toInt_toInt64, h]
  have h1 := Int32.le_toInt x
  have h2 := Int32.toInt_lt x
  rw [zL_toInt (by omega) (by omega)]
theorem zL_d {a b : Nat} (ha : a < 2 ^ 30) (hb : b < 2 ^ 30) : (nI a - nI b).toInt64 = zL ((a : Int) - b) := zL_i (pk_sub_toInt ha hb)
theorem q_cost_le {D : q_Rd} (hD : q_ok D) (S : Nat) : q_cost D S ≤ 7200 := by
  have h1 := q_mf_le hD S
  have h2 := q_nm_le hD S
  have h3 : q_pr D * (q_mf D S + q_nm D (q_mf D S)) ≤ 20 * (180 + 180) := Nat.mul_le_mul hD.1.2.2.2.1 (by omega)
  exact h3
def q_fac : Nat → Nat
  | 0 => 1
  | k + 1 => (k + 1) * q_fac k
theorem q_fac_F : ∀ k, k ≤ 6 → am_FACTORIALS (nI k) = nI (q_fac k) ∧ 0 < q_fac k ∧ q_fac k ≤ 720 ∧ q_fac k ∣ 720 := by decide +kernel
theorem q_fac_6 : ∀ k, k ≤ 6 → ∀ j, j ≤ k → q_fac j * q_fac (k - j) ≤ 720 := by decide +kernel
section QT
variable {n : Nat} {I : Nat → Nat → Int32} {J : Nat → Nat → Int64} {T : Nat} {D : q_Rd}
theorem m_times_loop {k : Nat} (hk : k ≤ 6) : ∀ (m j : Nat), j ≤ k → 1 ≤ j → k - j < m → f_X12_times_4 n m I J T (nI k) (nI (q_fac j)) (nI (j + 1)) = some (nI (q_fac k)) := by
  intro m
  induction m with
  | zero => intro j _ _ h; omega
  | succ m ih =>
    intro j hj h1 hm
    rw [f_X12_times_4]
    by_cases h : j = k
    · subst h
      rw [if_pos (nI_lt (by omega) (by omega))]
    · rw [if_neg (nI_nlt (by omega) (by omega)), pk_mul, nI_1]
      have e : q_fac j * (j + 1) = q_fac (j + 1) := by rw [q_fac, Nat.mul_comm]
      rw [e]
      exact ih (j + 1) (by omega) (by omega) (by omega)
theorem m_times {k : Nat} (hn : 300 ≤ n) (hk : k ≤ 6) : f_X12_times n I J T (nI k) = some (nI (q_fac k)) := by
  unfold f_X12_times
  by_cases h : k = 0
  · subst h
    obtain ⟨n, rfl⟩ : ∃ z, n = z + 1 := ⟨n - 1, by omega⟩
    rw [f_X12_times_4, if_pos (by decide)]
    rfl
  · exact m_times_loop hk n 1 (by omega) (by omega) (by omega)
end QT
/-- of all orders of S: what r brings behind those of a, times how many orders have just them ahead -/
def q_ot (D : q_Rd) (k r a : Nat) : Int := (q_fac (q_bc a) * q_fac (k - q_bc a) : Nat) * ((q_cost D (a ||| 2 ^ r) : Int) - q_cost D a)
/-- over the sets below u within the set of others -/
def q_os (D : q_Rd) (k r o : Nat) : Nat → Int
  | 0 => 0
  | u + 1 => q_os D k r o u + (if u &&& o = u then q_ot D k r u else 0)
theorem q_ot_le {D : q_Rd} (hD : q_ok D) {k r a : Nat} (hk : k ≤ 6) (ha : q_bc a ≤ k) : -(720 * 7200) ≤ q_ot D k r a ∧ q_ot D k r a ≤ 720 * 7200 := by
  have h1 := q_cost_le hD (a ||| 2 ^ r)
  have h2 := q_cost_le hD a
  have h3 := q_fac_6 k hk (q_bc a) ha
  unfold q_ot
  generalize q_fac (q_bc a) * q_fac (k - q_bc a) = f at h3 ⊢
  generalize q_cost D (a ||| 2 ^ r) = x at h1 ⊢
  generalize q_cost D a = y at h2 ⊢
  have hz1 : (-7200 : Int) ≤ (x : Int) - y := by omega
  have hz2 : (x : Int) - y ≤ 7200 := by omega
  generalize (x : Int) - y = z at hz1 hz2
  have hf0 : (0 : Int) ≤ f := by omega
  have hf1 : (f : Int) ≤ 720 := by omega
  constructor
  · have := Int.mul_le_mul_of_nonneg_left hz1 hf0
    have h5 : (f : Int) * 7200 ≤ 720 * 7200 := Int.mul_le_mul_of_nonneg_right hf1 (by decide)
    have h6 : (f : Int) * (-7200) = -((f : Int) * 7200) := Int.mul_neg _ _
    omega
  · have := Int.mul_le_mul_of_nonneg_left hz2 hf0
    have h5 : (f : Int) * 7200 ≤ 720 * 7200 := Int.mul_le_mul_of_nonneg_right hf1 (by decide)
    omega
