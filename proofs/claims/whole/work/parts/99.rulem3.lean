/-! ===== terms and sums, the reference ===== -/
theorem q_64z (x : Int32) : x.toInt64 = 0 ↔ x = 0 := by
  constructor
  · intro h
    have h2 : x.toInt64.toInt = (0 : Int64).toInt := by rw [h]
    rw [Int32.toInt_toInt64] at h2
    exact Int32.toInt_inj.mp h2
  · intro h
    rw [h]
    rfl
section QW
variable {n : Nat} {J : Nat → Nat → Int64} {T : Nat} {t : q_Tx}
theorem m_trm (hn : 300 ≤ n) (ht : q_tok t) {E : Nat → Int32} {q : Nat} {X : Nat → q_Rs} {r1 r2 r3 : q_U3} (hA : ∀ b, b ≤ t.1 → q_Y0 q_any T t E q (fun I => r3 I J T) b (X b)) (hok : ∀ b, b ≤ t.1 → q_rok t b (X b)) {a : Nat} (ha : a ≤ t.1) : q_Y0 q_any T t E q (fun I => fb_X12_term n r1 r2 r3 I J T) a (q_rb (X a) (q_bl t q_oT X (t.1 + 1))) := by
  have h160 := ht.1
  have hfl : ∀ m I x, q_any x → I 53 11 ≠ -1 → f_X12_term_5 n r1 r2 r3 (m + 1) I J T x = some (x, I) := fun m I x _ h => by
    rw [f_X12_term_5, if_neg h]
  refine (hA a ha).lp (G := fun I v => f_X12_term_5 n r1 r2 r3 n I J T v) ht (fun r hr I hP h => ?_) (fun I v hP h => ?_)
  · refine m_lp (q := q) (op := q_oT) ht rfl hA hok (fun _ _ _ _ _ _ => trivial) (fun m I x => f_X12_term_5 n r1 r2 r3 m I J T x) hfl (fun m I x a hP h ho => ?_) (fun m I x a hP h ho => ?_) (t.1 + 1) n r I h.1 (by omega) (by omega) trivial h
    · have hpl := (q_pk_lt ht (q_sk t a)).1
      obtain ⟨I1, e1, e2, e3⟩ := m_look_s (n := n) (J := J) (T := T) hn ht h
      obtain ⟨I2, f1, f2, f3⟩ := m_look_s (n := n) (J := J) (T := T) hn ht e3
      rw [q_sk_sk h.1] at f1 f3
      unfold q_oT at ho
      rw [Bool.or_eq_false_iff, decide_eq_false_iff_not, decide_eq_false_iff_not] at ho
      show ∃ I', f_X12_term_5 n r1 r2 r3 (m + 1) I J T x = _ ∧ _
      rw [f_X12_term_5, h.2.1.2.2, if_pos rfl, e1, Option.bind_some]
      simp only []
      rw [if_neg (show ¬ q_sg (q_pk t (q_sk t a)) = 42 from fun z => ho.1 ((q_sg_eq (x := 42) hpl (by omega) (by omega)).mp z)), f1, Option.bind_some]
      simp only []
      rw [if_neg (show ¬ q_sg (q_pk t (q_sk t a)) = 47 from fun z => ho.2 ((q_sg_eq (x := 47) hpl (by omega) (by omega)).mp z))]
      exact ⟨I2, rfl, e2.t f2, f3⟩
    · have hpl := (q_pk_lt ht (q_sk t a)).1
      have hlt := q_pk_in (t := t) (a := q_sk t a) (fun z => by rw [z] at ho; cases ho)
      obtain ⟨I1, e1, e2, e3⟩ := m_look_s (n := n) (J := J) (T := T) hn ht h
      obtain ⟨I2, f1, f2, f3⟩ := m_look_s (n := n) (J := J) (T := T) hn ht e3
      rw [q_sk_sk h.1] at f1 f3
      unfold q_oT at ho
      rw [Bool.or_eq_true, decide_eq_true_eq, decide_eq_true_eq] at ho
      by_cases c : q_pk t (q_sk t a) = 42
      · refine ⟨_, (e2.t f2).t (q_mk.a I2 (nI (q_sk t a + 1))), f3.nx hlt, fun v w hA1 => ?_⟩
        have hA1' : r3 (am_u I2 53 10 (nI (q_sk t a + 1))) J T = some (v, w) := hA1
        show f_X12_term_5 n r1 r2 r3 (m + 1) I J T x = f_X12_term_5 n r1 r2 r3 m w J T _
        rw [f_X12_term_5, h.2.1.2.2, if_pos rfl, e1, Option.bind_some]
        simp only []
        rw [c, q_op_42, if_pos (show q_sg 42 = 42 from rfl)]
        unfold f_X12_term_31 f_X12_term_45 f_X12_term_87
        rw [f1, Option.bind_some]
        simp only []
        rw [c, if_pos (show q_sg 42 = 42 from rfl), f3.2.1.2.1, nI_1, hA1', Option.bind_some, if_neg (by exact q_10)]
        rfl
      · have c2 : q_pk t (q_sk t a) = 47 := ho.resolve_left c
        obtain ⟨I3, g1, g2, g3⟩ := m_look_s (n := n) (J := J) (T := T) hn ht f3
        rw [q_sk_sk h.1] at g1 g3
        refine ⟨_, ((e2.t f2).t g2).t (q_mk.a I3 (nI (q_sk t a + 1))), g3.nx hlt, fun v w hA1 => ?_⟩
        have hA1' : r3 (am_u I3 53 10 (nI (q_sk t a + 1))) J T = some (v, w) := hA1
        have n42 : ¬ q_sg 47 = 42 := by decide
        show f_X12_term_5 n r1 r2 r3 (m + 1) I J T x = f_X12_term_5 n r1 r2 r3 m w J T _
        rw [f_X12_term_5, h.2.1.2.2, if_pos rfl, e1, Option.bind_some]
        simp only []
        rw [c2, q_op_47, if_neg n42, f1, Option.bind_some]
        simp only []
        rw [c2, if_pos (show q_sg 47 = 47 from rfl)]
        unfold f_X12_term_31 f_X12_term_45 f_X12_term_87
        rw [g1, Option.bind_some]
        simp only []
        rw [c2, if_neg n42, g3.2.1.2.1, nI_1, hA1', Option.bind_some, if_pos trivial]
        have hz : (lg_cmp v.toInt64 0 = 0) ↔ v = 0 := (lg_cmp_eq _ _).trans (q_64z v)
        simp only [hz, q_64z]
        by_cases cv : v = 0
        · rw [if_pos cv, if_pos cv]
          rfl
        · rw [if_neg cv, if_neg cv, if_pos cv]
          rfl
  · obtain ⟨k, hk⟩ : ∃ z, n = z + 1 := ⟨n - 1, by omega⟩
    show f_X12_term_5 n r1 r2 r3 n I J T v = _
    have e : f_X12_term_5 n r1 r2 r3 n I J T v = f_X12_term_5 n r1 r2 r3 (k + 1) I J T v := by rw [← hk]
    rw [e]
    exact hfl k I v trivial h
theorem m_smm (hn : 300 ≤ n) (ht : q_tok t) {E : Nat → Int32} {q : Nat} {X : Nat → q_Rs} {r1 r2 r3 : q_U3} (hA : ∀ b, b ≤ t.1 → q_Y0 q_any T t E q (fun I => r1 I J T) b (X b)) (hok : ∀ b, b ≤ t.1 → q_rok t b (X b)) {a : Nat} (ha : a ≤ t.1) : q_Y0 q_any T t E q (fun I => fb_X12_sum n r1 r2 r3 I J T) a (q_rb (X a) (q_bl t q_oS X (t.1 + 1))) := by
  have h160 := ht.1
  have hfl : ∀ m I x, q_any x → I 53 11 ≠ -1 → f_X12_sum_5 n r1 r2 r3 (m + 1) I J T x = some (x, I) := fun m I x _ h => by
    rw [f_X12_sum_5, if_neg h]
  refine (hA a ha).lp (G := fun I v => f_X12_sum_5 n r1 r2 r3 n I J T v) ht (fun r hr I hP h => ?_) (fun I v hP h => ?_)
  · refine m_lp (q := q) (op := q_oS) ht rfl hA hok (fun _ _ _ _ _ _ => trivial) (fun m I x => f_X12_sum_5 n r1 r2 r3 m I J T x) hfl (fun m I x a hP h ho => ?_) (fun m I x a hP h ho => ?_) (t.1 + 1) n r I h.1 (by omega) (by omega) trivial h
    · have hpl := (q_pk_lt ht (q_sk t a)).1
      obtain ⟨I1, e1, e2, e3⟩ := m_look_s (n := n) (J := J) (T := T) hn ht h
      obtain ⟨I2, f1, f2, f3⟩ := m_look_s (n := n) (J := J) (T := T) hn ht e3
      rw [q_sk_sk h.1] at f1 f3
      unfold q_oS at ho
      rw [Bool.or_eq_false_iff, decide_eq_false_iff_not, decide_eq_false_iff_not] at ho
      show ∃ I', f_X12_sum_5 n r1 r2 r3 (m + 1) I J T x = _ ∧ _
      rw [f_X12_sum_5, h.2.1.2.2, if_pos rfl, e1, Option.bind_some]
      simp only []
      rw [if_neg (show ¬ q_sg (q_pk t (q_sk t a)) = 43 from fun z => ho.1 ((q_sg_eq (x := 43) hpl (by omega) (by omega)).mp z)), f1, Option.bind_some]
      simp only []
      rw [if_neg (show ¬ q_sg (q_pk t (q_sk t a)) = 45 from fun z => ho.2 ((q_sg_eq (x := 45) hpl (by omega) (by omega)).mp z))]
      exact ⟨I2, rfl, e2.t f2, f3⟩
    · have hpl := (q_pk_lt ht (q_sk t a)).1
      have hlt := q_pk_in (t := t) (a := q_sk t a) (fun z => by rw [z] at ho; cases ho)
      obtain ⟨I1, e1, e2, e3⟩ := m_look_s (n := n) (J := J) (T := T) hn ht h
      obtain ⟨I2, f1, f2, f3⟩ := m_look_s (n := n) (J := J) (T := T) hn ht e3
      rw [q_sk_sk h.1] at f1 f3
      unfold q_oS at ho
      rw [Bool.or_eq_true, decide_eq_true_eq, decide_eq_true_eq] at ho
      by_cases c : q_pk t (q_sk t a) = 43
      · refine ⟨_, (e2.t f2).t (q_mk.a I2 (nI (q_sk t a + 1))), f3.nx hlt, fun v w hA1 => ?_⟩
        have hA1' : r1 (am_u I2 53 10 (nI (q_sk t a + 1))) J T = some (v, w) := hA1
        show f_X12_sum_5 n r1 r2 r3 (m + 1) I J T x = f_X12_sum_5 n r1 r2 r3 m w J T _
        rw [f_X12_sum_5, h.2.1.2.2, if_pos rfl, e1, Option.bind_some]
        simp only []
        rw [c, q_op_43, if_pos (show q_sg 43 = 43 from rfl)]
        unfold f_X12_sum_31 f_X12_sum_45 f_X12_sum_77
        rw [f1, Option.bind_some]
        simp only []
        rw [c, if_pos (show q_sg 43 = 43 from rfl), f3.2.1.2.1, nI_1, hA1', Option.bind_some, if_neg (by exact q_10)]
        rfl
      · have c2 : q_pk t (q_sk t a) = 45 := ho.resolve_left c
        obtain ⟨I3, g1, g2, g3⟩ := m_look_s (n := n) (J := J) (T := T) hn ht f3
        rw [q_sk_sk h.1] at g1 g3
        refine ⟨_, ((e2.t f2).t g2).t (q_mk.a I3 (nI (q_sk t a + 1))), g3.nx hlt, fun v w hA1 => ?_⟩
        have hA1' : r1 (am_u I3 53 10 (nI (q_sk t a + 1))) J T = some (v, w) := hA1
        have n42 : ¬ q_sg 45 = 43 := by decide
        show f_X12_sum_5 n r1 r2 r3 (m + 1) I J T x = f_X12_sum_5 n r1 r2 r3 m w J T _
        rw [f_X12_sum_5, h.2.1.2.2, if_pos rfl, e1, Option.bind_some]
        simp only []
        rw [c2, q_op_45, if_neg n42, f1, Option.bind_some]
        simp only []
        rw [c2, if_pos (show q_sg 45 = 45 from rfl)]
        unfold f_X12_sum_31 f_X12_sum_45 f_X12_sum_77
        rw [g1, Option.bind_some]
        simp only []
        rw [c2, if_neg n42, g3.2.1.2.1, nI_1, hA1', Option.bind_some, if_pos trivial]
        rfl
  · obtain ⟨k, hk⟩ : ∃ z, n = z + 1 := ⟨n - 1, by omega⟩
    show f_X12_sum_5 n r1 r2 r3 n I J T v = _
    have e : f_X12_sum_5 n r1 r2 r3 n I J T v = f_X12_sum_5 n r1 r2 r3 (k + 1) I J T v := by rw [← hk]
    rw [e]
    exact hfl k I v trivial h
theorem m_sumq (hn : 300 ≤ n) (ht : q_tok t) {E : Nat → Int32} : ∀ (q r : Nat), q ≤ 6 → 3 * q ≤ r → ∀ a, a ≤ t.1 → q_Y0 q_any T t E q (fun I => (fx_X12_term n (r + 3)).2.1 I J T) a (q_sum t q a) := by
  intro q
  induction q with
  | zero =>
    intro r hq hr a ha
    have hatm : ∀ b, b ≤ t.1 → q_rok t b (q_atm t (fun _ => .inl 0) 0 b) := fun b hb => q_atm_ok hb (fun h => absurd h (Nat.lt_irrefl _))
    have hA : ∀ b, b ≤ t.1 → q_Y0 q_any T t E 0 (fun I => (fx_X12_term n (r + 1)).2.2 I J T) b (q_atm t (fun _ => .inl 0) 0 b) := fun b hb => m_atm (n := n) (J := J) (T := T) (r1 := (fx_X12_term n r).1) (r2 := (fx_X12_term n r).2.1) (r3 := (fx_X12_term n r).2.2) hn ht (by omega) (fun h => absurd h (Nat.lt_irrefl _)) hb
    have hT : ∀ b, b ≤ t.1 → q_Y0 q_any T t E 0 (fun I => (fx_X12_term n (r + 2)).1 I J T) b (q_trm t (fun _ => .inl 0) 0 b) := fun b hb => m_trm (n := n) (J := J) (T := T) (r1 := (fx_X12_term n (r + 1)).1) (r2 := (fx_X12_term n (r + 1)).2.1) (r3 := (fx_X12_term n (r + 1)).2.2) hn ht hA hatm hb
    exact m_smm (n := n) (J := J) (T := T) (r1 := (fx_X12_term n (r + 2)).1) (r2 := (fx_X12_term n (r + 2)).2.1) (r3 := (fx_X12_term n (r + 2)).2.2) hn ht hT (fun b hb => (q_smF_ok hb (fun h => absurd h (Nat.lt_irrefl _))).1) ha
  | succ q ih =>
    intro r hq hr a ha
    obtain ⟨r', rfl⟩ : ∃ z, r = z + 3 := ⟨r - 3, by omega⟩
    have hatm : ∀ b, b ≤ t.1 → q_rok t b (q_atm t (q_sum t q) (q + 1) b) := fun b hb => q_atm_ok hb (fun _ => q_sum_ok q)
    have hsub : 0 < q + 1 → ∀ b, b ≤ t.1 → q_Y0 q_any T t E (q + 1 - 1) (fun I => (fx_X12_term n (r' + 3)).2.1 I J T) b (q_sum t q b) := fun _ b hb => ih r' (by omega) (by omega) b hb
    have hA : ∀ b, b ≤ t.1 → q_Y0 q_any T t E (q + 1) (fun I => (fx_X12_term n (r' + 3 + 1)).2.2 I J T) b (q_atm t (q_sum t q) (q + 1) b) := fun b hb => m_atm (n := n) (J := J) (T := T) (r1 := (fx_X12_term n (r' + 3)).1) (r2 := (fx_X12_term n (r' + 3)).2.1) (r3 := (fx_X12_term n (r' + 3)).2.2) hn ht (by omega) hsub hb
    have hT : ∀ b, b ≤ t.1 → q_Y0 q_any T t E (q + 1) (fun I => (fx_X12_term n (r' + 3 + 2)).1 I J T) b (q_trm t (q_sum t q) (q + 1) b) := fun b hb => m_trm (n := n) (J := J) (T := T) (r1 := (fx_X12_term n (r' + 3 + 1)).1) (r2 := (fx_X12_term n (r' + 3 + 1)).2.1) (r3 := (fx_X12_term n (r' + 3 + 1)).2.2) hn ht hA hatm hb
    exact m_smm (n := n) (J := J) (T := T) (r1 := (fx_X12_term n (r' + 3 + 2)).1) (r2 := (fx_X12_term n (r' + 3 + 2)).2.1) (r3 := (fx_X12_term n (r' + 3 + 2)).2.2) hn ht hT (fun b hb => (q_smF_ok hb (fun _ => q_sum_ok q)).1) ha
theorem m_sum (hn : 300 ≤ n) (ht : q_tok t) {E : Nat → Int32} {q a : Nat} (hq : q ≤ 6) (ha : a ≤ t.1) : q_Y0 q_any T t E q (fun I => f_X12_sum n I J T) a (q_sum t q a) := by
  obtain ⟨k, hk⟩ : ∃ z, n = z + 3 := ⟨n - 3, by omega⟩
  have := m_sumq (n := n) (J := J) (T := T) (E := E) hn ht q k hq (by omega) a ha
  rw [← hk] at this
  exact this
end QW
