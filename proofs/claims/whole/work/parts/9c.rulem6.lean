/-! ===== clauses and the whole of a rule, the reference ===== -/
def q_FS (I : Nat → Nat → Int32) : Option Int32 → Prop
  | none => I 53 17 = 0 ∧ I 53 14 = 0
  | some v => I 53 17 = 1 ∧ I 53 14 = v
def q_f1 (o : Option Int32) (c v : Int32) : Option Int32 := match o with
  | some w => some w
  | none => if c = 0 then none else some v
def q_ff (E : Nat → Int32) : List (q_Vl × q_Vl) → Option Int32
  | [] => none
  | c :: l => if c.1 E = 0 then q_ff E l else some (c.2 E)
theorem q_ff_app (E : Nat → Int32) (c : q_Vl × q_Vl) : ∀ l, q_ff E (l ++ [c]) = q_f1 (q_ff E l) (c.1 E) (c.2 E) := by
  intro l
  induction l with
  | nil => rfl
  | cons d l ih =>
    show (if d.1 E = 0 then q_ff E (l ++ [c]) else some (d.2 E)) = q_f1 (if d.1 E = 0 then q_ff E l else some (d.2 E)) (c.1 E) (c.2 E)
    by_cases h : d.1 E = 0
    · rw [if_pos h, if_pos h]; exact ih
    · rw [if_neg h, if_neg h]; rfl
theorem q_ff_w (E : Nat → Int32) : ∀ l, (q_ff E l).getD 0 = q_wth E l := by
  intro l
  induction l with
  | nil => rfl
  | cons d l ih =>
    show (if d.1 E = 0 then q_ff E l else some (d.2 E)).getD 0 = (if d.1 E = 0 then q_wth E l else d.2 E)
    by_cases h : d.1 E = 0
    · rw [if_pos h, if_pos h]; exact ih
    · rw [if_neg h, if_neg h]; rfl
def q_MQ (I : Nat → Nat → Int32) (T : Nat) (t : q_Tx) (E : Nat → Int32) (a : Nat) (o : Option Int32) : Prop := q_MS I T t E 6 a ∧ I 53 13 = 121 ∧ q_FS I o
def q_mq (I I' : Nat → Nat → Int32) : Prop := ∀ x y, ¬ (x = 53 ∧ (y = 10 ∨ y = 11 ∨ y = 12 ∨ y = 14 ∨ y = 17)) → I' x y = I x y
theorem q_mq.r (I : Nat → Nat → Int32) : q_mq I I := fun _ _ _ => rfl
theorem q_mq.t {I I1 I2 : Nat → Nat → Int32} (h : q_mq I I1) (g : q_mq I1 I2) : q_mq I I2 := fun x y z => by rw [g x y z]; exact h x y z
theorem q_mr.q {I I1 : Nat → Nat → Int32} (h : q_mr I I1) : q_mq I I1 := fun x y z => h x y (fun w => z ⟨w.1, by omega⟩)
theorem q_FS.of {I I' : Nat → Nat → Int32} {o : Option Int32} (h : q_FS I o) (e : q_mr I I') : q_FS I' o := by
  cases o with
  | none => exact ⟨by rw [e 53 17 (by omega)]; exact h.1, by rw [e 53 14 (by omega)]; exact h.2⟩
  | some v => exact ⟨by rw [e 53 17 (by omega)]; exact h.1, by rw [e 53 14 (by omega)]; exact h.2⟩
theorem q_MQ.of {I I' : Nat → Nat → Int32} {T : Nat} {t : q_Tx} {E : Nat → Int32} {a b : Nat} {o : Option Int32} (h : q_MQ I T t E a o) (h' : q_MS I' T t E 6 b) (e : q_mr I I') : q_MQ I' T t E b o := ⟨h', by rw [e 53 13 (by omega)]; exact h.2.1, h.2.2.of e⟩
def q_YQ (I' : Nat → Nat → Int32) (T : Nat) (t : q_Tx) (E : Nat → Int32) (o : Option Int32) (x : q_Cs) : Prop := (∀ f, x = .inl f → f ≤ t.1 ∧ I' 53 11 = nI f) ∧ ∀ z, x = .inr z → q_MQ I' T t E z.1.1 (q_f1 o (z.2 E) (z.1.2.2 E))
section QW
variable {n : Nat} {J : Nat → Nat → Int64} {T : Nat} {t : q_Tx}
theorem m_134 {E : Nat → Int32} {a : Nat} {o : Option Int32} {I : Nat → Nat → Int32} (h : q_MQ I T t E a o) (c v : Int32) : ∃ I', f_X12_clause_134 n I J T 121 c v = some I' ∧ q_mq I I' ∧ q_MQ I' T t E a (q_f1 o c v) := by
  unfold f_X12_clause_134
  rw [h.1.2.1.2.2, if_pos rfl, h.2.1, if_pos rfl]
  cases o with
  | some w =>
    rw [show I 53 17 = 1 from h.2.2.1, if_neg (by exact q_10)]
    exact ⟨I, rfl, q_mq.r I, h⟩
  | none =>
    rw [show I 53 17 = 0 from h.2.2.1, if_pos rfl]
    show ∃ I', _ ∧ q_mq I I' ∧ q_MQ I' T t E a (if c = 0 then none else some v)
    by_cases hc : c = 0
    · rw [if_pos hc, if_pos hc]
      exact ⟨I, rfl, q_mq.r I, h⟩
    · rw [if_neg hc, if_neg hc]
      have hf : ∀ x y, ¬ (x = 53 ∧ (y = 14 ∨ y = 17)) → (am_u (am_u I 53 17 1) 53 14 v) x y = I x y := fun x y z => by
        unfold am_u
        rw [if_neg (by omega), if_neg (by omega)]
      refine ⟨_, rfl, fun x y z => hf x y (by omega), ⟨h.1.1, h.1.2.1.of (fun y _ _ => hf 53 y (by omega)) (fun x y _ => hf x y (by omega)), ?_, fun p hp => ?_⟩, ?_, ?_, ?_⟩
      · rw [hf 53 12 (by omega)]; exact h.1.2.2.1
      · rw [hf 57 p (by omega)]; exact h.1.2.2.2 p hp
      · rw [hf 53 13 (by omega)]; exact h.2.1
      · simp [am_u]
      · simp [am_u]
theorem m_134_f {I : Nat → Nat → Int32} (h : I 53 11 ≠ -1) (x c v : Int32) : f_X12_clause_134 n I J T x c v = some I := by
  unfold f_X12_clause_134
  rw [if_neg h]
/-- behind a condition -/
theorem m_qm (hn : 300 ≤ n) (ht : q_tok t) {E : Nat → Int32} {o : Option Int32} {I : Nat → Nat → Int32} {r : Nat × List Int32 × q_Vl} (h : q_MQ I T t E r.1 o) : ∃ I', ((f_X12_takes n I J T 63).bind fun w2 => if w2.1 = 0 then some w2.2 else (f_X12_sum n w2.2 J T).bind fun w4 => f_X12_clause_134 n w4.2 J T 121 (r.2.2 E) w4.1) = some I' ∧ q_mq I I' ∧ q_YQ I' T t E o (q_cq (q_qmr t r) r.2.2) := by
  have h160 := ht.1
  have hsk := q_sk_le (t := t) h.1.1
  obtain ⟨I1, k1, k2, k3, k4⟩ := m_takes (n := n) (J := J) (T := T) (p := 63) hn ht (by omega) (by omega) h.1
  have k1' : f_X12_takes n I J T 63 = _ := k1
  rw [k1', Option.bind_some]
  unfold q_qmr q_xp
  by_cases c : q_pk t (q_sk t r.1) = 63
  · have hS1 := k3 c
    have hlt := q_pk_in (t := t) (a := q_sk t r.1) (by rw [c]; decide)
    obtain ⟨v, I2, a1, a2, a3⟩ := m_sum (n := n) (J := J) (T := T) (E := E) hn ht (q := 6) (by omega) hlt I1 hS1
    have a1' : f_X12_sum n I1 J T = some (v, I2) := a1
    simp only []
    rw [if_pos c, if_neg (by exact q_10), a1', Option.bind_some, if_pos c]
    simp only []
    show ∃ I', _ ∧ q_mq I I' ∧ q_YQ I' T t E o (q_cq (q_rb (q_sum t 6 (q_sk t r.1 + 1)) _) r.2.2)
    cases hX : q_sum t 6 (q_sk t r.1 + 1) with
    | inl f =>
      rw [hX] at a3
      obtain ⟨f1, f2⟩ := a3.2.1 f rfl
      rw [m_134_f (by rw [f2]; exact q_nIm1 (by omega))]
      exact ⟨I2, rfl, (k2.mr.t a2).q, fun g z => (by cases z; exact ⟨f1, f2⟩), fun z w => (by cases w)⟩
    | inr z =>
      rw [hX] at a3
      obtain ⟨b1, b2⟩ := a3.2.2 z rfl
      obtain ⟨I3, g1, g2, g3⟩ := m_134 (n := n) (J := J) (h.of b2 (k2.mr.t a2)) (r.2.2 E) v
      rw [g1]
      refine ⟨I3, rfl, (k2.mr.t a2).q.t g2, fun g z => (by cases z), fun w e => ?_⟩
      cases e
      rw [b1] at g3
      exact g3
  · simp only []
    rw [if_neg c, if_pos rfl, if_neg c]
    exact ⟨I1, rfl, k2.mr.q, fun g z => (by cases z; exact ⟨hsk.2, k4 c⟩), fun z w => (by cases w)⟩
theorem m_cla (hn : 300 ≤ n) (ht : q_tok t) {E : Nat → Int32} {a : Nat} {o : Option Int32} {I : Nat → Nat → Int32} (h : q_MQ I T t E a o) : ∃ I', f_X12_clause n I J T = some I' ∧ q_mq I I' ∧ q_YQ I' T t E o (q_cla t a) := by
  have h160 := ht.1
  have ha := h.1.1
  have hsk := q_sk_le (t := t) ha
  have hpl := (q_pk_lt ht (q_sk t a)).1
  obtain ⟨I1, e1, e2, e3⟩ := m_look_s (n := n) (J := J) (T := T) hn ht h.1
  unfold f_X12_clause q_cla q_yc
  rw [e1, Option.bind_some]
  simp only []
  rw [m_among0 hn hpl, Option.bind_some]
  by_cases c1 : q_pk t (q_sk t a) = 121
  · have hlt := q_pk_in (t := t) (a := q_sk t a) (by rw [c1]; decide)
    have hlsk := q_sk_le (t := t) (a := q_sk t a + 1) hlt
    have hS1 := e3.nx hlt
    have hm1 : q_mr I (am_u I1 53 10 (nI (q_sk t a + 1))) := (e2.t (q_mk.a I1 _)).mr
    obtain ⟨I2, k1, k2, k3, k4⟩ := m_takes (n := n) (J := J) (T := T) (p := 58) hn ht (by omega) (by omega) hS1
    have k1' : f_X12_takes n (am_u I1 53 10 (nI (q_sk t a + 1))) J T 58 = _ := k1
    have hs121 : q_sg 121 = 121 := rfl
    rw [if_pos c1, if_neg (by exact q_10), e3.2.1.2.1, nI_1, k1', Option.bind_some, if_pos c1, c1, hs121]
    simp only []
    by_cases c2 : q_pk t (q_sk t (q_sk t a + 1)) = 58
    · have hlt2 := q_pk_in (t := t) (a := q_sk t (q_sk t a + 1)) (by rw [c2]; decide)
      have hS2 := k3 c2
      have hm2 := hm1.t k2.mr
      obtain ⟨b, hb⟩ : ∃ z, z = q_sk t (q_sk t a + 1) + 1 := ⟨_, rfl⟩
      rw [← hb] at hS2
      obtain ⟨I3, s1, s2, s3⟩ := m_look_s (n := n) (J := J) (T := T) hn ht hS2
      have hm3 := hm2.t s2.mr
      have b2 := hS2.1
      have hplb := (q_pk_lt ht (q_sk t b)).1
      have hskb := q_sk_le (t := t) b2
      have f33 : (q_sg (q_pk t (q_sk t b)) = 33) ↔ q_pk t (q_sk t b) = 33 := q_sg_eq (x := 33) hplb (by omega) (by omega)
      have f40 : (q_sg (q_pk t (q_sk t b)) = 40) ↔ q_pk t (q_sk t b) = 40 := q_sg_eq (x := 40) hplb (by omega) (by omega)
      rw [if_pos c2, if_neg (by exact q_10), if_pos c2, s1, Option.bind_some, ← hb]
      simp only [f33, f40]
      by_cases c3 : q_pk t (q_sk t b) = 33 ∨ q_pk t (q_sk t b) = 40
      · have hgo : ∀ (A B : Option (Nat → Nat → Int32)), (if q_pk t (q_sk t b) = 33 then A else if q_pk t (q_sk t b) = 40 then A else B) = A := fun A B => by
          rcases c3 with k | k
          · rw [if_pos k]
          · rw [if_neg (by omega), if_pos k]
        rw [hgo, if_pos c3]
        obtain ⟨v, I4, a1, a2, a3⟩ := m_cnd (n := n) (J := J) (T := T) (E := E) hn ht hskb.2 I3 s3
        have a1' : f_X12_condition n I3 J T 0 0 = some (v, I4) := a1
        rw [q_cnd_sk b2] at a3
        unfold f_X12_clause_64
        rw [a1', Option.bind_some]
        cases hz : q_cnd t 6 b with
        | inl f =>
          rw [hz] at a3
          obtain ⟨f1, f2⟩ := a3.2.1 f rfl
          rw [m_takes_f (I := I4) (by rw [f2]; exact q_nIm1 (by omega)), Option.bind_some]
          simp only []
          rw [if_pos trivial]
          exact ⟨I4, rfl, (hm3.t a2).q, fun g z => (by cases z; exact ⟨f1, f2⟩), fun z w => (by cases w)⟩
        | inr z =>
          rw [hz] at a3
          obtain ⟨b1, b2'⟩ := a3.2.2 z rfl
          obtain ⟨I5, g1, g2, g3⟩ := m_qm (n := n) (J := J) (r := z) hn ht (h.of b2' (hm3.t a2))
          simp only []
          rw [b1]
          exact ⟨I5, g1, (hm3.t a2).q.t g2, g3⟩
      · rw [if_neg (fun k => c3 (Or.inl k)), if_neg (fun k => c3 (Or.inr k)), if_neg c3]
        obtain ⟨v, I4, a1, a2, a3⟩ := m_sum (n := n) (J := J) (T := T) (E := E) hn ht (q := 6) (by omega) hskb.2 I3 s3
        have a1' : f_X12_sum n I3 J T = some (v, I4) := a1
        rw [q_sum_sk b2] at a3
        rw [a1', Option.bind_some]
        simp only []
        cases hz : q_sum t 6 b with
        | inl f =>
          rw [hz] at a3
          obtain ⟨f1, f2⟩ := a3.2.1 f rfl
          have hne : I4 53 11 ≠ -1 := by rw [f2]; exact q_nIm1 (by omega)
          rw [if_neg hne, m_134_f hne]
          exact ⟨I4, rfl, (hm3.t a2).q, fun g z => (by cases z; exact ⟨f1, f2⟩), fun z w => (by cases w)⟩
        | inr z =>
          rw [hz] at a3
          obtain ⟨d1, d2⟩ := a3.2.2 z rfl
          have hplz := (q_pk_lt ht (q_sk t z.1)).1
          obtain ⟨I5, p1, p2, p3⟩ := m_look_s (n := n) (J := J) (T := T) hn ht d2
          have hm5 := (hm3.t a2).t p2.mr
          simp only []
          rw [d2.2.1.2.2, if_pos rfl, p1, Option.bind_some]
          simp only []
          rw [m_isSign hplz, Option.bind_some]
          by_cases c5 : q_oC (q_pk t (q_sk t z.1)) = true
          · have hcs : q_cmp t 6 (q_sk t z.1, z.2.1, z.2.2) = q_cmp t 6 z := by
              unfold q_cmp
              simp only [q_sk_sk d2.1]
            obtain ⟨w, I6, r1, r2, r3⟩ := m_cnd_b (n := n) (J := J) (T := T) (E := E) hn ht (q_sk t z.1, z.2.1, z.2.2) I5 p3
            have r1' : f_X12_condition n I5 J T 1 (z.2.2 E) = some (w, I6) := r1
            rw [hcs] at r3
            rw [if_pos c5, if_neg (by exact q_10), if_pos c5, d1, r1', Option.bind_some]
            simp only []
            cases hw : q_ors t (q_unt t 6) (q_cmp t 6 z) with
            | inl f =>
              rw [hw] at r3
              obtain ⟨f1, f2⟩ := r3.2.1 f rfl
              rw [m_takes_f (I := I6) (by rw [f2]; exact q_nIm1 (by omega)), Option.bind_some]
              simp only []
              rw [if_pos trivial]
              exact ⟨I6, rfl, (hm5.t r2).q, fun g z => (by cases z; exact ⟨f1, f2⟩), fun z w => (by cases w)⟩
            | inr y =>
              rw [hw] at r3
              obtain ⟨y1, y2⟩ := r3.2.2 y rfl
              obtain ⟨I7, g1, g2, g3⟩ := m_qm (n := n) (J := J) (r := y) hn ht (h.of y2 (hm5.t r2))
              rw [y1]
              exact ⟨I7, g1, (hm5.t r2).q.t g2, g3⟩
          · rw [if_neg c5, if_pos rfl, if_neg c5]
            obtain ⟨I6, g1, g2, g3⟩ := m_134 (n := n) (J := J) (h.of p3 hm5) 1 v
            rw [g1]
            refine ⟨I6, rfl, hm5.q.t g2, fun g z => (by cases z), fun y e => ?_⟩
            cases e
            rw [d1] at g3
            exact g3
    · rw [if_neg c2, if_pos rfl, if_neg c2]
      exact ⟨I2, rfl, (hm1.t k2.mr).q, fun g z => (by cases z; exact ⟨hlsk.2, k4 c2⟩), fun z w => (by cases w)⟩
  · rw [if_neg c1, if_pos rfl, if_neg c1, m_fails e3.2.1, Option.bind_some]
    exact ⟨_, rfl, (e2.t (q_mk.w I1 _)).mr.q, fun g z => (by cases z; exact ⟨hsk.2, (e3.2.1.wr _).2.2⟩), fun z w => (by cases w)⟩
end QW
