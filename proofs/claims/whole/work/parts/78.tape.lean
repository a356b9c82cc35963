/-! ===== reading a text: the cursor, both sides ===== -/
abbrev q_Tx : Type := Nat × (Nat → Nat)
def q_skf (t : q_Tx) : Nat → Nat → Nat
  | 0, a => a
  | m + 1, a => if a < t.1 ∧ t.2 a = 32 then q_skf t m (a + 1) else a
/-- behind the blanks -/
def q_sk (t : q_Tx) (a : Nat) : Nat := q_skf t (t.1 - a) a
/-- the sign at a place, 0 behind the end -/
def q_pk (t : q_Tx) (a : Nat) : Nat := if a < t.1 then t.2 a else 0
def q_dig (t : q_Tx) (a : Nat) : Bool := decide (a < t.1) && (decide (48 ≤ t.2 a) && decide (t.2 a ≤ 57))
def q_sg (p : Nat) : Int32 := if p = 0 then -1 else nI p
theorem q_by_and : ∀ b, b < 256 → q_by b &&& 255 = nI b := by decide +kernel
theorem q_by_32 : ∀ b, b < 256 → (decide (q_by b = 32) == decide (b = 32)) = true := by decide +kernel
theorem q_by_dig : ∀ b, b < 256 → ((!decide (q_by b < 48) && !decide (57 < q_by b)) == (decide (48 ≤ b) && decide (b ≤ 57))) = true := by decide +kernel
theorem q_by_lo : ∀ b, b < 128 → q_by b = nI b := by decide +kernel
theorem q_skf_le {t : q_Tx} : ∀ m a, a ≤ t.1 → a ≤ q_skf t m a ∧ q_skf t m a ≤ t.1 := by
  intro m
  induction m with
  | zero => intro a h; exact ⟨Nat.le_refl _, h⟩
  | succ m ih =>
    intro a h
    unfold q_skf
    by_cases hb : a < t.1 ∧ t.2 a = 32
    · rw [if_pos hb]
      have := ih (a + 1) (by omega)
      omega
    · rw [if_neg hb]
      omega
theorem q_skf_stop {t : q_Tx} : ∀ m a, a ≤ t.1 → t.1 - a ≤ m → ¬ (q_skf t m a < t.1 ∧ t.2 (q_skf t m a) = 32) := by
  intro m
  induction m with
  | zero =>
    intro a h h2 z
    have e : q_skf t 0 a = a := rfl
    rw [e] at z
    omega
  | succ m ih =>
    intro a h h2
    unfold q_skf
    by_cases hb : a < t.1 ∧ t.2 a = 32
    · rw [if_pos hb]
      exact ih (a + 1) (by omega) (by omega)
    · rw [if_neg hb]
      exact hb
theorem q_sk_le {t : q_Tx} {a : Nat} (h : a ≤ t.1) : a ≤ q_sk t a ∧ q_sk t a ≤ t.1 := q_skf_le _ _ h
theorem q_skf_s {t : q_Tx} {a : Nat} (h : a < t.1 ∧ t.2 a = 32) : q_sk t a = q_sk t (a + 1) := by
  unfold q_sk
  obtain ⟨m, hm⟩ : ∃ m, t.1 - a = m + 1 := ⟨t.1 - a - 1, by omega⟩
  rw [hm, show t.1 - (a + 1) = m by omega]
  show (if a < t.1 ∧ t.2 a = 32 then q_skf t m (a + 1) else a) = _
  rw [if_pos h]
theorem q_skf_0 {t : q_Tx} {a : Nat} (h : ¬ (a < t.1 ∧ t.2 a = 32)) : q_sk t a = a := by
  unfold q_sk
  cases t.1 - a with
  | zero => rfl
  | succ m =>
    show (if a < t.1 ∧ t.2 a = 32 then q_skf t m (a + 1) else a) = _
    rw [if_neg h]
theorem q_sk_sk {t : q_Tx} {a : Nat} (h : a ≤ t.1) : q_sk t (q_sk t a) = q_sk t a := q_skf_0 (q_skf_stop _ _ h (Nat.le_refl _))
theorem q_pk_lt {t : q_Tx} (ht : q_tok t) (a : Nat) : q_pk t a < 256 ∧ (q_pk t a = 0 ↔ t.1 ≤ a) := by
  unfold q_pk
  by_cases h : a < t.1
  · have := ht.2 a h
    rw [if_pos h]
    omega
  · rw [if_neg h]
    omega
theorem q_sg_eq {p x : Nat} (hp : p < 256) (hx : x < 256) (h0 : x ≠ 0) : q_sg p = nI x ↔ p = x := by
  unfold q_sg
  by_cases h : p = 0
  · rw [if_pos h]
    constructor
    · intro z
      have h2 : (nI x).toInt = -1 := by rw [← z]; rfl
      rw [show (nI x).toInt = (x : Int) from nI_toInt (by omega)] at h2
      omega
    · intro z; omega
  · rw [if_neg h]
    exact nI_eq (by omega) (by omega)
theorem q_sg_m1 {p : Nat} (hp : p < 256) : q_sg p = -1 ↔ p = 0 := by
  unfold q_sg
  by_cases h : p = 0
  · rw [if_pos h]
    exact ⟨fun _ => h, fun _ => rfl⟩
  · rw [if_neg h]
    refine ⟨fun z => ?_, fun z => absurd z h⟩
    have h2 : (nI p).toInt = -1 := by rw [z]; rfl
    rw [show (nI p).toInt = (p : Int) from nI_toInt (by omega)] at h2
    omega
theorem q_dig_pk {t : q_Tx} {a : Nat} (h : q_dig t a = true) : a < t.1 ∧ 48 ≤ t.2 a ∧ t.2 a ≤ 57 ∧ q_pk t a = t.2 a := by
  unfold q_dig at h
  rw [Bool.and_eq_true, Bool.and_eq_true, decide_eq_true_eq, decide_eq_true_eq, decide_eq_true_eq] at h
  refine ⟨h.1, h.2.1, h.2.2, ?_⟩
  unfold q_pk
  rw [if_pos h.1]
theorem q_dig_iff {t : q_Tx} (a : Nat) : q_dig t a = true ↔ 48 ≤ q_pk t a ∧ q_pk t a ≤ 57 := by
  unfold q_dig q_pk
  rw [Bool.and_eq_true, Bool.and_eq_true, decide_eq_true_eq, decide_eq_true_eq, decide_eq_true_eq]
  by_cases h : a < t.1
  · rw [if_pos h]
    exact ⟨fun z => z.2, fun z => ⟨h, z⟩⟩
  · rw [if_neg h]
    exact ⟨fun z => absurd z.1 h, fun z => by omega⟩
/-- digits, at most so many -/
def q_dl (t : q_Tx) : Nat → Nat → Nat → Nat × Nat
  | 0, a, v => (a, v)
  | m + 1, a, v => if q_dig t a = true then q_dl t m (a + 1) (v * 10 + (t.2 a - 48)) else (a, v)
theorem q_dl_le {t : q_Tx} : ∀ m a v, a ≤ t.1 → a ≤ (q_dl t m a v).1 ∧ (q_dl t m a v).1 ≤ t.1 ∧ (q_dl t m a v).2 < (v + 1) * 10 ^ m := by
  intro m
  induction m with
  | zero =>
    intro a v h
    refine ⟨Nat.le_refl _, h, ?_⟩
    show v < (v + 1) * 1
    omega
  | succ m ih =>
    intro a v h
    unfold q_dl
    by_cases hb : q_dig t a = true
    · obtain ⟨h1, h2, h3, -⟩ := q_dig_pk hb
      obtain ⟨i1, i2, i3⟩ := ih (a + 1) (v * 10 + (t.2 a - 48)) (by omega)
      rw [if_pos hb]
      refine ⟨by omega, i2, Nat.lt_of_lt_of_le i3 ?_⟩
      rw [Nat.pow_succ, Nat.mul_comm (10 ^ m) 10, ← Nat.mul_assoc]
      exact Nat.mul_le_mul_right _ (by omega)
    · rw [if_neg hb]
      refine ⟨Nat.le_refl _, h, ?_⟩
      have h1 : 1 ≤ 10 ^ (m + 1) := Nat.pow_pos (by omega)
      have := Nat.mul_le_mul_left (v + 1) h1
      show v < _
      omega
/-- the class's cursor -/
def q_XC (I : Nat → Nat → Int32) (t : q_Tx) (a : Nat) (f : Int32) : Prop := I 1 1 = nI t.1 ∧ (∀ i, i < t.1 → I 2 i = q_by (t.2 i)) ∧ I 1 2 = nI a ∧ I 1 3 = f
section QW
variable {n : Nat} {J : Nat → Nat → Int64} {T : Nat} {t : q_Tx}
theorem q_XC.of {I I' : Nat → Nat → Int32} {a : Nat} {f : Int32} (h : q_XC I t a f) (e : ∀ x y, x ≤ 2 → I' x y = I x y) : q_XC I' t a f := ⟨by rw [e 1 1 (by omega)]; exact h.1, fun i hi => by rw [e 2 i (by omega)]; exact h.2.1 i hi, by rw [e 1 2 (by omega)]; exact h.2.2.1, by rw [e 1 3 (by omega)]; exact h.2.2.2⟩
theorem q_XC.at {I : Nat → Nat → Int32} {a : Nat} {f : Int32} (h : q_XC I t a f) (b : Nat) : q_XC (am_u I 1 2 (nI b)) t b f := ⟨by unfold am_u; rw [if_neg (by omega)]; exact h.1, fun i hi => by unfold am_u; rw [if_neg (by omega)]; exact h.2.1 i hi, by simp [am_u], by unfold am_u; rw [if_neg (by omega)]; exact h.2.2.2⟩
theorem q_XC.wr {I : Nat → Nat → Int32} {a : Nat} {f : Int32} (h : q_XC I t a f) (g : Int32) : q_XC (am_u I 1 3 g) t a g := ⟨by unfold am_u; rw [if_neg (by omega)]; exact h.1, fun i hi => by unfold am_u; rw [if_neg (by omega)]; exact h.2.1 i hi, by unfold am_u; rw [if_neg (by omega)]; exact h.2.2.1, by simp [am_u]⟩
theorem q_fu1 {I : Nat → Nat → Int32} {y : Nat} {v : Int32} : ∀ x z, x ≠ 1 → am_u I 1 y v x z = I x z := fun x z h => by
  unfold am_u
  rw [if_neg (by omega)]
theorem x_sign_loop (ht : q_tok t) : ∀ (m a : Nat) (I : Nat → Nat → Int32), a ≤ t.1 → t.1 - a < m → q_XC I t a (-1) → ∃ I', f_X10_sign_10 n m I J T = some (q_sg (q_pk t (q_sk t a)), I') ∧ q_XC I' t (q_sk t a) (-1) ∧ ∀ x y, x ≠ 1 → I' x y = I x y := by
  intro m
  induction m with
  | zero => intro a I _ h; omega
  | succ m ih =>
    intro a I ha hm h
    have h160 := ht.1
    rw [f_X10_sign_10]
    unfold f_X10_sign_48
    rw [h.1, h.2.2.1]
    by_cases e : a < t.1
    · have hix : ok_ix (nI a) 160 := q_ix (by omega) (by omega)
      have hcl : (nI a).toNatClampNeg = a := q_cl (by omega)
      have hb := ht.2 a e
      have h32 := q_by_32 (t.2 a) hb.2
      rw [beq_iff_eq, decide_eq_decide] at h32
      rw [if_neg (nI_ge e (by omega))]
      simp only [if_pos hix, hcl, h.2.1 a e]
      by_cases hbl : t.2 a = 32
      · rw [if_pos (h32.mpr hbl), q_skf_s ⟨e, hbl⟩, nI_1]
        obtain ⟨I', f1, f2, f3⟩ := ih (a + 1) (am_u I 1 2 (nI (a + 1))) (by omega) (by omega) (h.at (a + 1))
        exact ⟨I', f1, f2, fun x y hx => by rw [f3 x y hx]; exact q_fu1 x y hx⟩
      · rw [if_neg (fun z => hbl (h32.mp z)), if_neg (nI_ge e (by omega)), q_by_and _ hb.2, q_skf_0 (fun z => hbl z.2)]
        have hp : q_pk t a = t.2 a := by unfold q_pk; rw [if_pos e]
        have hs : q_sg (q_pk t a) = nI (t.2 a) := by unfold q_sg; rw [hp, if_neg (by omega)]
        rw [hs]
        exact ⟨I, rfl, h, fun _ _ _ => rfl⟩
    · have e2 : a = t.1 := by omega
      rw [if_pos (nI_le (by omega) (by omega)), if_pos (nI_le (by omega) (by omega)), q_skf_0 (fun z => e z.1)]
      have hp : q_pk t a = 0 := by unfold q_pk; rw [if_neg e]
      rw [hp]
      exact ⟨I, rfl, h, fun _ _ _ => rfl⟩
theorem x_sign (hn : 300 ≤ n) (ht : q_tok t) {a : Nat} {I : Nat → Nat → Int32} (ha : a ≤ t.1) (h : q_XC I t a (-1)) : ∃ I', f_X10_sign n I J T = some (q_sg (q_pk t (q_sk t a)), I') ∧ q_XC I' t (q_sk t a) (-1) ∧ ∀ x y, x ≠ 1 → I' x y = I x y := by
  unfold f_X10_sign
  rw [h.2.2.2, if_pos rfl]
  exact x_sign_loop ht n a I ha (by have := ht.1; omega) h
theorem x_sign_f {I : Nat → Nat → Int32} (h : I 1 3 ≠ -1) : f_X10_sign n I J T = some (-1, I) := by
  unfold f_X10_sign
  rw [if_neg h]
theorem x_takes (hn : 300 ≤ n) (ht : q_tok t) {a p : Nat} (hp : p < 256) (hp0 : p ≠ 0) {I : Nat → Nat → Int32} (ha : a ≤ t.1) (h : q_XC I t a (-1)) : ∃ I', f_X10_takes n I J T (nI p) = some (if q_pk t (q_sk t a) = p then 1 else 0, I') ∧ q_XC I' t (if q_pk t (q_sk t a) = p then q_sk t a + 1 else q_sk t a) (-1) ∧ ∀ x y, x ≠ 1 → I' x y = I x y := by
  obtain ⟨I1, e1, e2, e3⟩ := x_sign (n := n) (J := J) (T := T) hn ht ha h
  have hpl := (q_pk_lt ht (q_sk t a)).1
  unfold f_X10_takes
  rw [e1, Option.bind_some]
  by_cases hc : q_pk t (q_sk t a) = p
  · simp only [if_pos ((q_sg_eq hpl hp hp0).mpr hc), if_pos hc, e2.2.2.1]
    rw [nI_1]
    exact ⟨_, rfl, e2.at _, fun x y hx => by rw [q_fu1 x y hx]; exact e3 x y hx⟩
  · simp only [if_neg (fun z => hc ((q_sg_eq hpl hp hp0).mp z)), if_neg hc]
    exact ⟨I1, rfl, e2, e3⟩
theorem x_takes_f {p : Nat} (hp : p < 256) {I : Nat → Nat → Int32} (h : I 1 3 ≠ -1) : f_X10_takes n I J T (nI p) = some (0, I) := by
  unfold f_X10_takes
  rw [x_sign_f h, Option.bind_some]
  have hne : ¬ (-1 : Int32) = nI p := fun z => by
    have h2 : (nI p).toInt = -1 := by rw [← z]; rfl
    rw [show (nI p).toInt = (p : Int) from nI_toInt (by omega)] at h2
    omega
  simp only [if_neg hne]
theorem x_fail {a : Nat} {I : Nat → Nat → Int32} (h : q_XC I t a (-1)) (v : Int32) : f_X10_fail n I J T v = some (am_u I 1 3 v) := by
  unfold f_X10_fail
  rw [if_pos h.2.2.2]
theorem x_fail_f {I : Nat → Nat → Int32} (h : I 1 3 ≠ -1) (v : Int32) : f_X10_fail n I J T v = some I := by
  unfold f_X10_fail
  rw [if_neg h]
theorem x_dig (ht : q_tok t) {a : Nat} {f : Int32} {I : Nat → Nat → Int32} (ha : a ≤ t.1) (h : q_XC I t a f) : f_X10_isDigitHere n I J T = some (if q_dig t a = true then 1 else 0) := by
  have h160 := ht.1
  unfold f_X10_isDigitHere q_dig
  rw [h.1, h.2.2.1]
  by_cases e : a < t.1
  · have hix : ok_ix (nI a) 160 := q_ix (by omega) (by omega)
    have hcl : (nI a).toNatClampNeg = a := q_cl (by omega)
    have hb := ht.2 a e
    have hd := q_by_dig (t.2 a) hb.2
    rw [beq_iff_eq] at hd
    rw [if_neg (nI_ge e (by omega)), if_pos hix, if_pos hix, hcl, h.2.1 a e, decide_eq_true e, Bool.true_and, ← hd]
    by_cases h1 : q_by (t.2 a) < 48
    · rw [if_pos h1, decide_eq_true h1]
      rfl
    · rw [if_neg h1, decide_eq_false h1]
      by_cases h2 : 57 < q_by (t.2 a)
      · rw [if_pos h2, decide_eq_true h2]
        rfl
      · rw [if_neg h2, decide_eq_false h2]
        rfl
  · rw [if_pos (nI_le (by omega) (by omega)), decide_eq_false e]
    rfl
theorem x_number_loop (ht : q_tok t) {most a0 : Nat} (hmost : most ≤ 4) : ∀ (m k d a v : Nat) (I : Nat → Nat → Int32), d + k = most → k < m → a ≤ t.1 → a = a0 + d → q_XC I t a (-1) → ∃ I', f_X10_number_9 n m I J T (nI most) (nI v) (nI d) = some (nI (q_dl t k a v).2, I') ∧ q_XC I' t (q_dl t k a v).1 (if (q_dl t k a v).1 = a0 ∨ q_dig t (q_dl t k a v).1 = true then nI (q_dl t k a v).1 else -1) ∧ ∀ x y, x ≠ 1 → I' x y = I x y := by
  intro m
  induction m with
  | zero => intro k d a v I _ h; omega
  | succ m ih =>
    intro k d a v I h1 h2 ha hd h
    have h160 := ht.1
    have fin : ∀ k', (q_dl t k' a v) = (a, v) → ∃ I', f_X10_number_55 n I J T (nI v) (nI d) = some (nI (q_dl t k' a v).2, I') ∧ q_XC I' t (q_dl t k' a v).1 (if (q_dl t k' a v).1 = a0 ∨ q_dig t (q_dl t k' a v).1 = true then nI (q_dl t k' a v).1 else -1) ∧ ∀ x y, x ≠ 1 → I' x y = I x y := by
      intro k' hk'
      rw [hk']
      unfold f_X10_number_55 f_X10_number_66
      by_cases hd0 : d = 0
      · subst hd0
        rw [if_pos nI_0, x_fail h, Option.bind_some, h.2.2.1]
        refine ⟨_, rfl, ?_, q_fu1⟩
        rw [if_pos (Or.inl (by show a = a0; omega))]
        exact h.wr _
      · rw [if_neg (nI_ne0 (by omega) (by omega)), x_dig ht ha h, Option.bind_some]
        by_cases hg : q_dig t a = true
        · rw [if_pos hg, if_neg (by exact q_10), x_fail h, Option.bind_some, h.2.2.1]
          refine ⟨_, rfl, ?_, q_fu1⟩
          rw [if_pos (Or.inr hg)]
          exact h.wr _
        · rw [if_neg hg, if_pos rfl]
          refine ⟨I, rfl, ?_, fun _ _ _ => rfl⟩
          rw [if_neg (fun z => by
            rcases z with z | z
            · have z' : a = a0 := z
              omega
            · exact hg z)]
          exact h
    rw [f_X10_number_9]
    cases k with
    | zero =>
      rw [if_pos (nI_le (by omega) (by omega))]
      exact fin 0 rfl
    | succ k =>
      rw [if_neg (nI_ge (by omega) (by omega)), x_dig ht ha h, Option.bind_some]
      by_cases hg : q_dig t a = true
      · obtain ⟨g1, g2, g3, -⟩ := q_dig_pk hg
        have hix : ok_ix (nI a) 160 := q_ix (by omega) (by omega)
        have hcl : (nI a).toNatClampNeg = a := q_cl (by omega)
        have ev : nI v * 10 + nI (t.2 a) - 48 = nI (v * 10 + (t.2 a - 48)) := by
          rw [show nI v * 10 = nI (v * 10) from pk_mul v 10, nI_add, show (48 : Int32) = nI 48 from rfl, pk_sub (by omega)]
          congr 1
          omega
        have eu : q_dl t (k + 1) a v = q_dl t k (a + 1) (v * 10 + (t.2 a - 48)) := by
          show (if q_dig t a = true then _ else _) = _
          rw [if_pos hg]
        rw [if_pos hg, if_neg (by exact q_10), h.2.2.1, if_pos hix, hcl, h.2.1 a g1, q_by_lo _ (by omega), ev, nI_1, nI_1, eu]
        obtain ⟨I', f1, f2, f3⟩ := ih k (d + 1) (a + 1) (v * 10 + (t.2 a - 48)) (am_u I 1 2 (nI (a + 1))) (by omega) (by omega) (by omega) (by omega) (h.at (a + 1))
        exact ⟨I', f1, f2, fun x y hx => by rw [f3 x y hx]; exact q_fu1 x y hx⟩
      · rw [if_neg hg, if_pos rfl]
        exact fin (k + 1) (by show (if q_dig t a = true then _ else _) = _; rw [if_neg hg])
theorem x_number (hn : 300 ≤ n) (ht : q_tok t) {most a : Nat} (hmost : most ≤ 4) {I : Nat → Nat → Int32} (ha : a ≤ t.1) (h : q_XC I t a (-1)) : ∃ I', f_X10_number n I J T (nI most) = some (nI (q_dl t most (q_sk t a) 0).2, I') ∧ q_XC I' t (q_dl t most (q_sk t a) 0).1 (if (q_dl t most (q_sk t a) 0).1 = q_sk t a ∨ q_dig t (q_dl t most (q_sk t a) 0).1 = true then nI (q_dl t most (q_sk t a) 0).1 else -1) ∧ ∀ x y, x ≠ 1 → I' x y = I x y := by
  obtain ⟨I1, e1, e2, e3⟩ := x_sign (n := n) (J := J) (T := T) hn ht ha h
  obtain ⟨I', f1, f2, f3⟩ := x_number_loop (n := n) (J := J) (T := T) (a0 := q_sk t a) ht hmost n most 0 (q_sk t a) 0 I1 (by omega) (by omega) (q_sk_le ha).2 rfl e2
  have f1' : f_X10_number_9 n n I1 J T (nI most) 0 0 = _ := f1
  unfold f_X10_number
  rw [e1, Option.bind_some, f1']
  exact ⟨I', rfl, f2, fun x y hx => by rw [f3 x y hx]; exact e3 x y hx⟩
end QW
