/-! ===== conditions, the reference ===== -/
def q_b1 : Int32 → Prop := fun v => v = 0 ∨ v = 1
theorem q_op_61 (x y : Int32) : q_op 61 x y = if x = y then 1 else 0 := rfl
theorem q_op_60 (x y : Int32) : q_op 60 x y = if x < y then 1 else 0 := rfl
theorem q_op_62 (x y : Int32) : q_op 62 x y = if y < x then 1 else 0 := rfl
theorem q_op_38 (x y : Int32) : q_op 38 x y = if x = 0 then 0 else if y = 0 then 0 else 1 := rfl
theorem q_op_124 (x y : Int32) : q_op 124 x y = if x = 0 then (if y = 0 then 0 else 1) else 1 := rfl
theorem q_b1_i {c : Prop} [Decidable c] : q_b1 (if c then 1 else 0) := by
  by_cases h : c
  · rw [if_pos h]; exact Or.inr rfl
  · rw [if_neg h]; exact Or.inl rfl
theorem q_b1_38 (x y : Int32) : q_b1 (q_op 38 x y) := by
  rw [q_op_38]
  by_cases h : x = 0
  · rw [if_pos h]; exact Or.inl rfl
  · rw [if_neg h]
    by_cases h2 : y = 0
    · rw [if_pos h2]; exact Or.inl rfl
    · rw [if_neg h2]; exact Or.inr rfl
theorem q_b1_124 (x y : Int32) : q_b1 (q_op 124 x y) := by
  rw [q_op_124]
  by_cases h : x = 0
  · rw [if_pos h]
    by_cases h2 : y = 0
    · rw [if_pos h2]; exact Or.inl rfl
    · rw [if_neg h2]; exact Or.inr rfl
  · rw [if_neg h]; exact Or.inr rfl
section QW
variable {n : Nat} {J : Nat → Nat → Int64} {T : Nat} {t : q_Tx}
theorem m_isSign {I : Nat → Nat → Int32} {p : Nat} (hp : p < 256) : f_X12_isSign n I J T (q_sg p) = some (if q_oC p = true then 1 else 0) := by
  unfold f_X12_isSign f_X12_isSign_18 q_oC
  have e1 : (q_sg p = 61) ↔ p = 61 := q_sg_eq (x := 61) hp (by omega) (by omega)
  have e2 : (q_sg p = 60) ↔ p = 60 := q_sg_eq (x := 60) hp (by omega) (by omega)
  have e3 : (q_sg p = 62) ↔ p = 62 := q_sg_eq (x := 62) hp (by omega) (by omega)
  simp only [e1, e2, e3, Bool.or_eq_true, decide_eq_true_eq]
  by_cases k1 : p = 61
  · simp [k1]
  by_cases k2 : p = 60
  · simp [k2]
  by_cases k3 : p = 62
  · simp [k3]
  simp [k1, k2, k3]
theorem m_cmp_f {I : Nat → Nat → Int32} (h : I 53 11 ≠ -1) (v : Int32) : f_X12_compares_12 n I J T v = some (0, I) := by
  unfold f_X12_compares_12
  rw [if_neg h]
theorem m_cmp12 (hn : 300 ≤ n) (ht : q_tok t) {E : Nat → Int32} {q : Nat} (hq : q ≤ 6) (r : Nat × List Int32 × q_Vl) : q_Y0 q_b1 T t E q (fun I => f_X12_compares_12 n I J T (r.2.2 E)) r.1 (q_cmp t q r) := by
  intro I h
  show ∃ v I', f_X12_compares_12 n I J T (r.2.2 E) = some (v, I') ∧ _
  have h160 := ht.1
  have hpl := (q_pk_lt ht (q_sk t r.1)).1
  have hsk := q_sk_le (t := t) h.1
  obtain ⟨I1, e1, e2, e3⟩ := m_look_s (n := n) (J := J) (T := T) hn ht h
  unfold f_X12_compares_12 q_cmp
  rw [h.2.1.2.2, if_pos rfl, e1, Option.bind_some]
  simp only []
  rw [m_isSign hpl, Option.bind_some]
  by_cases c1 : q_oC (q_pk t (q_sk t r.1)) = true
  · have hp0 : q_pk t (q_sk t r.1) ≠ 0 := fun z => by rw [z] at c1; cases c1
    have hlt := q_pk_in hp0
    obtain ⟨v, I2, a1, a2, a3⟩ := m_sum (n := n) (J := J) (T := T) (E := E) hn ht hq hlt _ (e3.nx hlt)
    have a1' : f_X12_sum n (am_u I1 53 10 (nI (q_sk t r.1 + 1))) J T = some (v, I2) := a1
    have hm2 : q_mr I I2 := (e2.t (q_mk.a I1 _)).mr.t a2
    have hgo : ∃ w, (if q_sg (q_pk t (q_sk t r.1)) = 61 then (if r.2.2 E = v then some ((1 : Int32), I2) else some (0, I2)) else if q_sg (q_pk t (q_sk t r.1)) = 60 then (if v ≤ r.2.2 E then some (0, I2) else some (1, I2)) else (if r.2.2 E ≤ v then some (0, I2) else some (1, I2))) = some (w, I2) ∧ q_b1 w ∧ w = q_op (q_pk t (q_sk t r.1)) (r.2.2 E) v := by
      have f61 : (q_sg (q_pk t (q_sk t r.1)) = 61) ↔ q_pk t (q_sk t r.1) = 61 := q_sg_eq (x := 61) hpl (by omega) (by omega)
      have f60 : (q_sg (q_pk t (q_sk t r.1)) = 60) ↔ q_pk t (q_sk t r.1) = 60 := q_sg_eq (x := 60) hpl (by omega) (by omega)
      have hc := c1
      unfold q_oC at hc
      simp only [Bool.or_eq_true, decide_eq_true_eq] at hc
      rcases hc with k | k | k
      · rw [if_pos (f61.mpr k), k, q_op_61]
        by_cases z : r.2.2 E = v
        · rw [if_pos z, if_pos z]; exact ⟨1, rfl, Or.inr rfl, rfl⟩
        · rw [if_neg z, if_neg z]; exact ⟨0, rfl, Or.inl rfl, rfl⟩
      · have hlt2 : (v ≤ r.2.2 E) ↔ ¬ (r.2.2 E < v) := by rw [Int32.le_iff_toInt_le, Int32.lt_iff_toInt_lt]; omega
        rw [if_neg (fun z => by have := f61.mp z; omega), if_pos (f60.mpr k), k, q_op_60]
        by_cases z : r.2.2 E < v
        · rw [if_neg (fun y => hlt2.mp y z), if_pos z]; exact ⟨1, rfl, Or.inr rfl, rfl⟩
        · rw [if_pos (hlt2.mpr z), if_neg z]; exact ⟨0, rfl, Or.inl rfl, rfl⟩
      · have hlt2 : (r.2.2 E ≤ v) ↔ ¬ (v < r.2.2 E) := by rw [Int32.le_iff_toInt_le, Int32.lt_iff_toInt_lt]; omega
        rw [if_neg (fun z => by have := f61.mp z; omega), if_neg (fun z => by have := f60.mp z; omega), k, q_op_62]
        by_cases z : v < r.2.2 E
        · rw [if_neg (fun y => hlt2.mp y z), if_pos z]; exact ⟨1, rfl, Or.inr rfl, rfl⟩
        · rw [if_pos (hlt2.mpr z), if_neg z]; exact ⟨0, rfl, Or.inl rfl, rfl⟩
    obtain ⟨w, w1, w2, w3⟩ := hgo
    rw [if_pos c1, if_neg (by exact q_10), e3.2.1.2.1, nI_1, a1', Option.bind_some, if_pos c1]
    simp only []
    rw [w1]
    cases hX : q_sum t q (q_sk t r.1 + 1) with
    | inl f =>
      rw [hX] at a3
      obtain ⟨f1, f2⟩ := a3.2.1 f rfl
      exact ⟨w, I2, rfl, hm2, q_YR.l w2 f1 f2⟩
    | inr z =>
      rw [hX] at a3
      obtain ⟨b1, b2⟩ := a3.2.2 z rfl
      exact ⟨w, I2, rfl, hm2, q_YR.o w2 (by rw [w3, b1]) b2⟩
  · rw [if_neg c1, if_pos rfl, m_fails e3.2.1, Option.bind_some, if_pos (Or.inl rfl), if_neg c1]
    exact ⟨_, _, rfl, (e2.t (q_mk.w I1 _)).mr, q_YR.l (Or.inl rfl) hsk.2 (e3.2.1.wr _).2.2⟩
theorem m_cmp0 (hn : 300 ≤ n) (ht : q_tok t) {E : Nat → Int32} {q a : Nat} (hq : q ≤ 6) (ha : a ≤ t.1) : q_Y0 q_b1 T t E q (fun I => f_X12_compares n I J T 0 0) a (q_rb (q_sum t q a) (q_cmp t q)) := by
  intro I h
  have h160 := ht.1
  show ∃ v I', f_X12_compares n I J T 0 0 = some (v, I') ∧ _
  obtain ⟨v, I1, e1, e2, e3⟩ := m_sum (n := n) (J := J) (T := T) (E := E) hn ht hq ha I h
  have e1' : f_X12_sum n I J T = some (v, I1) := e1
  unfold f_X12_compares
  rw [if_pos rfl, e1', Option.bind_some]
  cases hX : q_sum t q a with
  | inl f =>
    rw [hX] at e3
    obtain ⟨f1, f2⟩ := e3.2.1 f rfl
    have hne : I1 53 11 ≠ -1 := by rw [f2]; exact q_nIm1 (by omega)
    simp only []
    rw [m_cmp_f hne]
    exact ⟨_, I1, rfl, e2, q_YR.l (Or.inl rfl) f1 f2⟩
  | inr r =>
    rw [hX] at e3
    obtain ⟨b1, b2⟩ := e3.2.2 r rfl
    obtain ⟨w, I2, g1, g2, g3⟩ := m_cmp12 (n := n) (J := J) (T := T) (E := E) hn ht hq r I1 b2
    have g1' : f_X12_compares_12 n I1 J T (r.2.2 E) = some (w, I2) := g1
    simp only []
    rw [b1, g1']
    exact ⟨w, I2, rfl, e2.t g2, g3⟩
abbrev q_U6 : Type := (Nat → Nat → Int32) → (Nat → Nat → Int64) → Nat → Int32 → Int32 → Option (Int32 × (Nat → Nat → Int32))
theorem m_unF (hn : 300 ≤ n) (ht : q_tok t) {E : Nat → Int32} {q : Nat} (hq : q ≤ 6) {sU sC : Nat → q_Rs} {r1 : q_U3} {r2 r3 : q_U6} (hU : 0 < q → ∀ b, b ≤ t.1 → q_Y0 q_b1 T t E (q - 1) (fun I => r1 I J T) b (sU b)) (hC : 0 < q → ∀ b, b ≤ t.1 → q_Y0 q_b1 T t E (q - 1) (fun I => r3 I J T 0 0) b (sC b)) {a : Nat} (ha : a ≤ t.1) : q_Y0 q_b1 T t E q (fun I => fb_X12_unit n r1 r2 r3 I J T) a (q_unF t sU sC q a) := by
  intro I h
  show ∃ v I', fb_X12_unit n r1 r2 r3 I J T = some (v, I') ∧ _
  have h160 := ht.1
  have hpl := (q_pk_lt ht (q_sk t a)).1
  have hsk := q_sk_le (t := t) ha
  have f33 : (q_sg (q_pk t (q_sk t a)) = 33) ↔ q_pk t (q_sk t a) = 33 := q_sg_eq (x := 33) hpl (by omega) (by omega)
  have f40 : (q_sg (q_pk t (q_sk t a)) = 40) ↔ q_pk t (q_sk t a) = 40 := q_sg_eq (x := 40) hpl (by omega) (by omega)
  obtain ⟨I1, e1, e2, e3⟩ := m_look_s (n := n) (J := J) (T := T) hn ht h
  have goes : ∀ c, q_pk t (q_sk t a) = c → c ≠ 0 → (0 < q → f_X12_goesIn n I1 J T = some (1, am_u (am_u I1 53 12 (nI (6 - (q - 1)))) 53 10 (nI (q_sk t a + 1))) ∧ q_MS (am_u (am_u I1 53 12 (nI (6 - (q - 1)))) 53 10 (nI (q_sk t a + 1))) T t E (q - 1) (q_sk t a + 1)) ∧ (¬ 0 < q → f_X12_goesIn n I1 J T = some (0, am_u I1 53 11 (nI (q_sk t a)))) := by
    intro c hc hc0
    have hlt := q_pk_in (t := t) (a := q_sk t a) (by rw [hc]; exact hc0)
    unfold f_X12_goesIn
    rw [e3.2.2.1]
    refine ⟨fun c4 => ?_, fun c4 => ?_⟩
    · have n6 : ¬ nI (6 - q) = 6 := fun z => by
        have := (nI_eq (a := 6 - q) (b := 6) (by omega) (by omega)).mp z
        omega
      have e6 : nI (6 - q) + 1 = nI (6 - (q - 1)) := by rw [nI_1, show 6 - q + 1 = 6 - (q - 1) by omega]
      rw [if_neg n6, e6, e3.2.1.2.1, nI_1]
      exact ⟨rfl, (e3.dp (q' := q - 1)).nx hlt⟩
    · have e6 : nI (6 - q) = 6 := by rw [show q = 0 by omega]; rfl
      rw [if_pos e6, m_fails e3.2.1, Option.bind_some, if_pos (Or.inl rfl)]
  have e7 : 0 < q → nI (6 - (q - 1)) - 1 = nI (6 - q) := fun c4 => by
    rw [show (1 : Int32) = nI 1 from rfl, pk_sub (by omega), show 6 - (q - 1) - 1 = 6 - q by omega]
  unfold fb_X12_unit q_unF
  rw [e1, Option.bind_some]
  simp only [f33, f40]
  by_cases c1 : q_pk t (q_sk t a) = 33
  · have hlt := q_pk_in (t := t) (a := q_sk t a) (by rw [c1]; decide)
    obtain ⟨ga, gb⟩ := goes 33 c1 (by decide)
    rw [if_pos c1, if_pos c1]
    by_cases c4 : 0 < q
    · obtain ⟨ga1, ga2⟩ := ga c4
      obtain ⟨v, I2, a1, a2, a3⟩ := hU c4 _ hlt _ ga2
      have a1' : r1 (am_u (am_u I1 53 12 (nI (6 - (q - 1)))) 53 10 (nI (q_sk t a + 1))) J T = some (v, I2) := a1
      have hm2 : q_mr I I2 := ((e2.mr.t (q_mr.d I1 _)).t (q_mk.a _ _).mr).t a2
      rw [ga1, Option.bind_some]
      simp only []
      rw [if_neg (by exact q_10), a1', Option.bind_some, if_pos c4]
      have hres : ∀ d : Int32, ∃ w, (if v = 0 then some ((1 : Int32), am_u I2 53 12 d) else some (0, am_u I2 53 12 d)) = some (w, am_u I2 53 12 d) ∧ q_b1 w ∧ w = 1 - v := fun d => by
        rcases a3.1 with z | z
        · rw [if_pos z, z]; exact ⟨1, rfl, Or.inr rfl, rfl⟩
        · rw [z, if_neg (by exact q_10)]; exact ⟨0, rfl, Or.inl rfl, rfl⟩
      obtain ⟨w, w1, w2, w3⟩ := hres (I2 53 12 - 1)
      simp only []
      rw [w1]
      cases hX : sU (q_sk t a + 1) with
      | inl f =>
        rw [hX] at a3
        obtain ⟨f1, f2⟩ := a3.2.1 f rfl
        exact ⟨w, _, rfl, hm2.t (q_mr.d I2 _), q_YR.l w2 f1 (by unfold am_u; rw [if_neg (by omega)]; exact f2)⟩
      | inr z =>
        rw [hX] at a3
        obtain ⟨b1, b2⟩ := a3.2.2 z rfl
        rw [b2.2.2.1, e7 c4]
        exact ⟨w, _, rfl, hm2.t (q_mr.d I2 _), q_YR.o w2 (by rw [w3, b1]) (b2.dp (q' := q))⟩
    · rw [gb c4, Option.bind_some, if_neg c4]
      simp only []
      rw [if_pos trivial]
      exact ⟨_, _, rfl, (e2.t (q_mk.w I1 _)).mr, q_YR.l (Or.inl rfl) hsk.2 (e3.2.1.wr _).2.2⟩
  · rw [if_neg c1, if_neg c1]
    by_cases c3 : q_pk t (q_sk t a) = 40
    · have hlt := q_pk_in (t := t) (a := q_sk t a) (by rw [c3]; decide)
      obtain ⟨ga, gb⟩ := goes 40 c3 (by decide)
      rw [if_pos c3, if_pos c3]
      by_cases c4 : 0 < q
      · obtain ⟨ga1, ga2⟩ := ga c4
        obtain ⟨v, I2, a1, a2, a3⟩ := hC c4 _ hlt _ ga2
        have a1' : r3 (am_u (am_u I1 53 12 (nI (6 - (q - 1)))) 53 10 (nI (q_sk t a + 1))) J T 0 0 = some (v, I2) := a1
        have hm2 : q_mr I I2 := ((e2.mr.t (q_mr.d I1 _)).t (q_mk.a _ _).mr).t a2
        rw [ga1, Option.bind_some]
        simp only []
        rw [if_neg (by exact q_10), a1', Option.bind_some, if_pos c4]
        cases hX : sC (q_sk t a + 1) with
        | inl f =>
          rw [hX] at a3
          obtain ⟨f1, f2⟩ := a3.2.1 f rfl
          rw [m_takes_f (I := I2) (by rw [f2]; exact q_nIm1 (by omega)), Option.bind_some]
          simp only []
          rw [if_pos trivial]
          exact ⟨_, I2, rfl, hm2, q_YR.l (Or.inl rfl) f1 f2⟩
        | inr z =>
          rw [hX] at a3
          obtain ⟨b1, b2⟩ := a3.2.2 z rfl
          have hv01 : v = 0 ∨ v = 1 := a3.1
          have hsz := q_sk_le (t := t) b2.1
          obtain ⟨I3, k1, k2, k3, k4⟩ := m_takes (n := n) (J := J) (T := T) (p := 41) hn ht (by omega) (by omega) b2
          have k1' : f_X12_takes n I2 J T 41 = _ := k1
          rw [k1', Option.bind_some]
          simp only []
          show ∃ v I', _ ∧ q_mr I I' ∧ q_YR q_b1 I' T t E q v (q_xp t 41 z)
          unfold q_xp
          by_cases c5 : q_pk t (q_sk t z.1) = 41
          · have hS3 := k3 c5
            rw [if_pos c5, if_neg (by exact q_10), if_pos c5, if_pos hv01, hS3.2.2.1, e7 c4]
            exact ⟨_, _, rfl, (hm2.t k2.mr).t (q_mr.d I3 _), q_YR.o hv01 b1 (hS3.dp (q' := q))⟩
          · rw [if_neg c5, if_pos rfl, if_neg c5]
            exact ⟨_, I3, rfl, hm2.t k2.mr, q_YR.l (Or.inl rfl) hsz.2 (k4 c5)⟩
      · rw [gb c4, Option.bind_some, if_neg c4]
        simp only []
        rw [if_pos trivial]
        exact ⟨_, _, rfl, (e2.t (q_mk.w I1 _)).mr, q_YR.l (Or.inl rfl) hsk.2 (e3.2.1.wr _).2.2⟩
    · rw [if_neg c3, if_neg c3]
      obtain ⟨v, I2, a1, a2, a3⟩ := m_cmp0 (n := n) (J := J) (T := T) (E := E) hn ht hq hsk.2 I1 e3
      have a1' : f_X12_compares n I1 J T 0 0 = some (v, I2) := a1
      have hv01 : v = 0 ∨ v = 1 := a3.1
      rw [q_sum_sk ha] at a3
      rw [a1', Option.bind_some, if_pos hv01]
      exact ⟨v, I2, rfl, e2.mr.t a2, a3⟩
end QW
