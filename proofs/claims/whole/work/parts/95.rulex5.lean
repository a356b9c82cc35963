/-! ===== clauses of a rule: what they tell; the class ===== -/
abbrev q_Cs : Type := Nat ⊕ ((Nat × List Int32 × q_Vl) × q_Vl)
def q_yc (t : q_Tx) (a : Nat) : Nat ⊕ Nat := if q_pk t (q_sk t a) = 121 then (if q_pk t (q_sk t (q_sk t a + 1)) = 58 then .inr (q_sk t (q_sk t a + 1) + 1) else .inl (q_sk t (q_sk t a + 1))) else .inl (q_sk t a)
/-- a question and the sum behind it -/
def q_qmr (t : q_Tx) (r : Nat × List Int32 × q_Vl) : q_Rs := q_rb (q_xp t 63 r) (fun r1 => q_rb (q_sum t 6 r1.1) (fun z => .inr (z.1, r1.2.1 ++ (10063 :: (z.2.1 ++ [10059])), z.2.2)))
def q_cq (x : q_Rs) (w : q_Vl) : q_Cs := match x with
  | .inl f => .inl f
  | .inr r => .inr (r, w)
def q_cla (t : q_Tx) (a : Nat) : q_Cs := match q_yc t a with
  | .inl f => .inl f
  | .inr b =>
    if q_pk t (q_sk t b) = 33 ∨ q_pk t (q_sk t b) = 40 then (match q_cnd t 6 b with
      | .inl f => .inl f
      | .inr z => q_cq (q_qmr t z) z.2.2)
    else (match q_sum t 6 b with
      | .inl f => .inl f
      | .inr z => if q_oC (q_pk t (q_sk t z.1)) = true then (match q_ors t (q_unt t 6) (q_cmp t 6 z) with
          | .inl f => .inl f
          | .inr w => q_cq (q_qmr t w) w.2.2)
        else .inr ((q_sk t z.1, z.2.1 ++ [10059], z.2.2), fun _ => 1))
def q_rul (t : q_Tx) : Nat → Nat → List Int32 → List (q_Vl × q_Vl) → Nat ⊕ (List Int32 × List (q_Vl × q_Vl))
  | 0, _, _, _ => .inl 0
  | m + 1, a, s, l => if q_pk t (q_sk t a) = 59 then (match q_cla t (q_sk t a + 1) with
      | .inl f => .inl f
      | .inr z => q_rul t m z.1.1 (s ++ z.1.2.1) (l ++ [(z.2, z.1.2.2)]))
    else if q_pk t (q_sk t a) = 0 then .inr (s, l) else .inl (q_sk t a)
/-- a rule's text: the fault's place, or the steps and the clauses -/
def q_rule (t : q_Tx) : Nat ⊕ (List Int32 × List (q_Vl × q_Vl)) := match q_cla t 0 with
  | .inl f => .inl f
  | .inr z => q_rul t 200 z.1.1 z.1.2.1 [(z.2, z.1.2.2)]
def q_wth (E : Nat → Int32) : List (q_Vl × q_Vl) → Int32
  | [] => 0
  | c :: l => if c.1 E = 0 then q_wth E l else c.2 E
theorem q_yc_ok {t : q_Tx} {a : Nat} (ha : a ≤ t.1) : (∀ f, q_yc t a = .inl f → f ≤ t.1) ∧ ∀ b, q_yc t a = .inr b → a + 2 ≤ b ∧ b ≤ t.1 := by
  have h1 := q_sk_le ha
  unfold q_yc
  by_cases c1 : q_pk t (q_sk t a) = 121
  · have hlt := q_pk_in (t := t) (a := q_sk t a) (by rw [c1]; decide)
    have h2 := q_sk_le (t := t) (a := q_sk t a + 1) hlt
    rw [if_pos c1]
    by_cases c2 : q_pk t (q_sk t (q_sk t a + 1)) = 58
    · have hlt2 := q_pk_in (t := t) (a := q_sk t (q_sk t a + 1)) (by rw [c2]; decide)
      rw [if_pos c2]
      exact ⟨fun f z => (by cases z), fun b z => (by cases z; omega)⟩
    · rw [if_neg c2]
      exact ⟨fun f z => (by cases z; omega), fun b z => (by cases z)⟩
  · rw [if_neg c1]
    exact ⟨fun f z => (by cases z; omega), fun b z => (by cases z)⟩
theorem q_yc_eq {t : q_Tx} {a : Nat} (v : q_Vl) : q_rb (q_xp t 121 (a, [], v)) (q_xp t 58) = (match q_yc t a with | .inl f => .inl f | .inr b => .inr (b, [], v)) := by
  unfold q_yc q_xp
  by_cases c1 : q_pk t (q_sk t a) = 121
  · rw [if_pos (show q_pk t (q_sk t (a, ([] : List Int32), v).1) = 121 from c1), if_pos c1]
    unfold q_rb
    by_cases c2 : q_pk t (q_sk t (q_sk t a + 1)) = 58
    · simp only [if_pos c2]
    · simp only [if_neg c2]
  · rw [if_neg (show ¬ q_pk t (q_sk t (a, ([] : List Int32), v).1) = 121 from c1), if_neg c1]
    rfl
theorem q_qmr_ok {t : q_Tx} {a : Nat} {r : Nat × List Int32 × q_Vl} (h1 : a < r.1) (h2 : r.1 ≤ t.1) (h3 : a + r.2.1.length < r.1) : q_rok t a (q_qmr t r) := by
  have hx := q_xp_ok (t := t) (a := a) (x := 63) (r := r) (by decide) h1 h2 (by omega)
  have hsk := q_sk_le (t := t) h2
  unfold q_qmr
  cases hq : q_xp t 63 r with
  | inl e => exact ⟨fun g z => (by cases z; exact hx.1 _ hq), fun r z => (by cases z)⟩
  | inr r1 =>
    obtain ⟨k1, k2, k3⟩ := hx.2 r1 hq
    have k4 : r1.1 = q_sk t r.1 + 1 ∧ r1.2.1 = r.2.1 := by
      unfold q_xp at hq
      by_cases c : q_pk t (q_sk t r.1) = 63
      · rw [if_pos c] at hq
        cases hq
        exact ⟨rfl, rfl⟩
      · rw [if_neg c] at hq
        cases hq
    have hs := q_sum_ok (t := t) 6 r1.1 k2
    show q_rok t a (q_rb (q_sum t 6 r1.1) _)
    cases hz : q_sum t 6 r1.1 with
    | inl e => exact ⟨fun g z => (by cases z; exact hs.1 _ hz), fun r z => (by cases z)⟩
    | inr z =>
      obtain ⟨l1, l2, l3⟩ := hs.2 z hz
      refine ⟨fun f w => (by cases w), fun r' w => ?_⟩
      cases w
      refine ⟨by show a < z.1; omega, l2, ?_⟩
      show a + (r1.2.1 ++ (10063 :: (z.2.1 ++ [10059]))).length ≤ z.1
      rw [List.length_append, List.length_cons, List.length_append, List.length_singleton, k4.2]
      omega
theorem q_cq_ok {t : q_Tx} {a : Nat} {x : q_Rs} {w : q_Vl} (h : q_rok t a x) : (∀ f, q_cq x w = .inl f → f ≤ t.1) ∧ ∀ z, q_cq x w = .inr z → a < z.1.1 ∧ z.1.1 ≤ t.1 ∧ a + z.1.2.1.length ≤ z.1.1 := by
  cases x with
  | inl f => exact ⟨fun g z => (by cases z; exact h.1 _ rfl), fun z e => (by cases e)⟩
  | inr r => exact ⟨fun g z => (by cases z), fun z e => (by cases e; exact h.2 _ rfl)⟩
theorem q_cla_ok {t : q_Tx} {a : Nat} (ha : a ≤ t.1) : (∀ f, q_cla t a = .inl f → f ≤ t.1) ∧ ∀ z, q_cla t a = .inr z → a < z.1.1 ∧ z.1.1 ≤ t.1 ∧ a + z.1.2.1.length ≤ z.1.1 := by
  have hy := q_yc_ok ha
  unfold q_cla
  cases hb : q_yc t a with
  | inl f => exact ⟨fun g z => (by cases z; exact hy.1 _ hb), fun z e => (by cases e)⟩
  | inr b =>
    obtain ⟨b1, b2⟩ := hy.2 b hb
    simp only []
    by_cases c1 : q_pk t (q_sk t b) = 33 ∨ q_pk t (q_sk t b) = 40
    · rw [if_pos c1]
      have hc := q_cnd_ok (t := t) 6 b b2
      cases hz : q_cnd t 6 b with
      | inl f => exact ⟨fun g z => (by cases z; exact hc.1 _ hz), fun z e => (by cases e)⟩
      | inr z =>
        obtain ⟨l1, l2, l3⟩ := hc.2 z hz
        exact q_cq_ok (q_qmr_ok (by omega) l2 (by omega))
    · rw [if_neg c1]
      have hc := q_sum_ok (t := t) 6 b b2
      cases hz : q_sum t 6 b with
      | inl f => exact ⟨fun g z => (by cases z; exact hc.1 _ hz), fun z e => (by cases e)⟩
      | inr z =>
        obtain ⟨l1, l2, l3⟩ := hc.2 z hz
        have hsk := q_sk_le (t := t) l2
        simp only []
        by_cases c2 : q_oC (q_pk t (q_sk t z.1)) = true
        · rw [if_pos c2]
          have ho := (q_ors_ok (q_unt_ok (t := t) 6) (q_cmp_ok (t := t) (q := 6) (a := b) l1 l2 l3)).2
          cases hw : q_ors t (q_unt t 6) (q_cmp t 6 z) with
          | inl f => exact ⟨fun g z => (by cases z; exact ho.1 _ hw), fun z e => (by cases e)⟩
          | inr w =>
            obtain ⟨m1, m2, m3⟩ := ho.2 w hw
            exact q_cq_ok (q_qmr_ok (by omega) m2 (by omega))
        · rw [if_neg c2]
          refine ⟨fun f w => (by cases w), fun r' w => ?_⟩
          cases w
          refine ⟨by show a < q_sk t z.1; omega, hsk.2, ?_⟩
          show a + (z.2.1 ++ [10059]).length ≤ q_sk t z.1
          rw [List.length_append, List.length_singleton]
          omega
theorem q_cnd_sk {t : q_Tx} {a : Nat} (ha : a ≤ t.1) : q_cnd t 6 (q_sk t a) = q_cnd t 6 a := by
  have h : q_unt t 6 (q_sk t a) = q_unt t 6 a := by
    show q_unF t (q_unt t 5) (fun a => q_ors t (q_unt t 5) (q_unt t 5 a)) 6 (q_sk t a) = q_unF t (q_unt t 5) (fun a => q_ors t (q_unt t 5) (q_unt t 5 a)) 6 a
    unfold q_unF
    rw [q_sk_sk ha, q_sum_sk ha]
  unfold q_cnd
  rw [h]
section QW
variable {n : Nat} {J : Nat → Nat → Int64} {T : Nat} {t : q_Tx}
def q_PQ (I : Nat → Nat → Int32) (t : q_Tx) (c : List Int32) (x : q_Cs) : Prop := (∀ f, x = .inl f → q_PF I t f) ∧ ∀ z, x = .inr z → q_PS I t z.1.1 (c ++ z.1.2.1)
theorem q_PR.q {I : Nat → Nat → Int32} {c : List Int32} {x : q_Rs} {w : q_Vl} (h : q_PR I t c x) : q_PQ I t c (q_cq x w) := by
  cases x with
  | inl f => exact ⟨fun g z => (by cases z; exact h.1 _ rfl), fun z e => (by cases e)⟩
  | inr r => exact ⟨fun g z => (by cases z), fun z e => (by cases e; exact h.2 _ rfl)⟩
theorem x_qmr_f (hn : 300 ≤ n) : q_XH t (fun I => f_X4_clause_83 n I J T 1) := by
  have h := (x_expect_f (n := n) (J := J) (T := T) (t := t) (p := 63) (by omega)).seq ((x_emit_f (n := n) (J := J) (T := T) (t := t) 10063).seq ((x_sum_f (n := n) (J := J) (T := T) (t := t) hn 0).seq (x_emit_f (n := n) (J := J) (T := T) (t := t) 10059)))
  intro I f hF
  obtain ⟨I', e1, e2, e3⟩ := h I f hF
  refine ⟨I', ?_, e2, e3⟩
  show f_X4_clause_83 n I J T 1 = some I'
  unfold f_X4_clause_83 f_X4_clause_108
  simp only [q_bsm]
  rw [if_neg (by exact q_10)]
  exact e1
theorem x_qmr (hn : 300 ≤ n) (ht : q_tok t) {b : Nat} {r : Nat × List Int32 × q_Vl} (hr : r.1 ≤ t.1) (hb : b + r.2.1.length < r.1) : q_XG t b (fun I => f_X4_clause_83 n I J T 1) r (q_qmr t r) := by
  have hf := (x_emit_f (n := n) (J := J) (T := T) (t := t) 10063).seq ((x_sum_f (n := n) (J := J) (T := T) (t := t) hn 0).seq (x_emit_f (n := n) (J := J) (T := T) (t := t) 10059))
  have hsk := q_sk_le (t := t) hr
  have h : q_XG t b (fun I => (f_X10_expect n I J T 63).bind fun w2 => (f_X4_emit n w2 J T 10063).bind fun w3 => (f_X4_sum n w3 J T 0).bind fun w4 => f_X4_emit n w4 J T 10059) r (q_qmr t r) := by
    refine (x_expect_g (n := n) (J := J) (T := T) (t := t) (b := b) (p := 63) hn ht (by omega) (by omega) r).seq (fun r1 h1 => ?_) hf
    have k4 : r1.1 = q_sk t r.1 + 1 ∧ r1.2.1 = r.2.1 ∧ r1.1 ≤ t.1 := by
      unfold q_xp at h1
      by_cases c : q_pk t (q_sk t r.1) = 63
      · have hlt := q_pk_in (t := t) (a := q_sk t r.1) (by rw [c]; decide)
        rw [if_pos c] at h1
        cases h1
        exact ⟨rfl, rfl, hlt⟩
      · rw [if_neg c] at h1
        cases h1
    intro I c hc hS
    show ∃ I', ((f_X4_emit n I J T 10063).bind fun w3 => (f_X4_sum n w3 J T 0).bind fun w4 => f_X4_emit n w4 J T 10059) = some I' ∧ _
    obtain ⟨I1, a1, a2, a3⟩ := x_emit (n := n) (J := J) (T := T) ht hS (by rw [List.length_append, k4.2.1]; omega) 10063
    obtain ⟨I2, b1, b2, b3⟩ := x_sum (n := n) (J := J) (T := T) hn ht (q := 6) (by omega) k4.2.2 _ _ a3
    have b1' : f_X4_sum n I1 J T 0 = some I2 := b1
    have hok := q_sum_ok (t := t) 6 r1.1 k4.2.2
    rw [a1, Option.bind_some, b1', Option.bind_some]
    cases hz : q_sum t 6 r1.1 with
    | inl f =>
      rw [hz] at b3
      obtain ⟨I3, d1, d2, d3⟩ := x_emit_f (n := n) (J := J) (T := T) 10059 I2 f (b3.1 f rfl)
      exact ⟨I3, d1, (a2.t b2).t d2, q_PR.l d3⟩
    | inr z =>
      rw [hz] at b3 hok
      obtain ⟨z1, z2, z3⟩ := hok.2 z rfl
      obtain ⟨I3, d1, d2, d3⟩ := x_emit (n := n) (J := J) (T := T) ht (b3.2 z rfl) (by rw [List.length_append, List.length_append, List.length_append, List.length_singleton, k4.2.1]; omega) 10059
      refine ⟨I3, d1, (a2.t b2).t d2, q_PR.o ?_⟩
      have hlist : c ++ r1.2.1 ++ [10063] ++ z.2.1 ++ [10059] = c ++ (r1.2.1 ++ (10063 :: (z.2.1 ++ [10059]))) := by simp
      rw [hlist] at d3
      exact d3
  intro I c hc hS
  obtain ⟨I', e1, e2, e3⟩ := h I c hc hS
  refine ⟨I', ?_, e2, e3⟩
  show f_X4_clause_83 n I J T 1 = some I'
  unfold f_X4_clause_83 f_X4_clause_108
  simp only [q_bsm]
  rw [if_neg (by exact q_10)]
  exact e1
/-- behind the label -/
theorem x_cl_f (hn : 300 ≤ n) : q_XH t (fun w2 => (f_X10_sign n w2 J T).bind fun w3 => if w3.1 = 33 then f_X4_clause_38 n w3.2 J T else if w3.1 = 40 then f_X4_clause_38 n w3.2 J T else f_X4_clause_43 n w3.2 J T 0) := by
  intro I f h
  show ∃ I', ((f_X10_sign n I J T).bind fun w3 => if w3.1 = 33 then f_X4_clause_38 n w3.2 J T else if w3.1 = 40 then f_X4_clause_38 n w3.2 J T else f_X4_clause_43 n w3.2 J T 0) = some I' ∧ _
  rw [x_sign_f h.ne, Option.bind_some]
  simp only []
  rw [if_neg (show ¬ (-1 : Int32) = 33 by decide), if_neg (show ¬ (-1 : Int32) = 40 by decide)]
  unfold f_X4_clause_43
  obtain ⟨I1, a1, a2, a3⟩ := x_sum_f (n := n) (J := J) (T := T) (t := t) hn 0 I f h
  have a1' : f_X4_sum n I J T 0 = some I1 := a1
  have w2 : f_X4_isComparison n I1 J T (-1) = _ := x_isCmp (n := n) (J := J) (T := T) (I := I1) (p := 0) (by omega)
  obtain ⟨I2, b1, b2, b3⟩ := x_emit_f (n := n) (J := J) (T := T) (t := t) 10059 I1 f a3
  have b1' : f_X4_emit n I1 J T 10059 = some I2 := b1
  rw [if_pos rfl, a1', Option.bind_some, x_sign_f a3.ne, Option.bind_some]
  simp only []
  rw [w2, Option.bind_some, if_neg (show ¬ (q_oC 0 = true) from fun z => by cases z), if_pos rfl]
  unfold f_X4_clause_83 f_X4_clause_108
  rw [if_pos rfl, b1', Option.bind_some]
  exact ⟨I2, rfl, a2.t b2, b3⟩
theorem x_cla (hn : 300 ≤ n) (ht : q_tok t) {a : Nat} {c : List Int32} {I : Nat → Nat → Int32} (h : q_PS I t a c) : ∃ I', f_X4_clause n I J T = some I' ∧ q_fr3 I I' ∧ q_PQ I' t c (q_cla t a) := by
  have ha := h.1
  have hca := h.2.1
  have hpre := (x_expect_g (n := n) (J := J) (T := T) (t := t) (b := a) (p := 121) hn ht (by omega) (by omega) (a, [], fun _ => 0)).seq (fun r _ => x_expect_g (n := n) (J := J) (T := T) (t := t) (b := a) (p := 58) hn ht (by omega) (by omega) r) (x_expect_f (n := n) (J := J) (T := T) (t := t) (p := 58) (by omega))
  obtain ⟨I2, e1, e2, e3⟩ := hpre.z I c h
  have e1' : ((f_X10_expect n I J T 121).bind fun w1 => f_X10_expect n w1 J T 58) = some I2 := e1
  rw [q_yc_eq] at e3
  have hy := q_yc_ok ha
  have hsplit : f_X4_clause n I J T = ((f_X10_expect n I J T 121).bind fun w1 => f_X10_expect n w1 J T 58).bind fun w2 => (f_X10_sign n w2 J T).bind fun w3 => if w3.1 = 33 then f_X4_clause_38 n w3.2 J T else if w3.1 = 40 then f_X4_clause_38 n w3.2 J T else f_X4_clause_43 n w3.2 J T 0 := by
    unfold f_X4_clause
    cases f_X10_expect n I J T 121 with
    | none => rfl
    | some w => rfl
  rw [hsplit, e1', Option.bind_some]
  unfold q_cla
  cases hb : q_yc t a with
  | inl f =>
    rw [hb] at e3
    obtain ⟨I3, g1, g2, g3⟩ := x_cl_f (n := n) (J := J) (T := T) (t := t) hn I2 f (e3.1 f rfl)
    exact ⟨I3, g1, e2.t g2, fun g z => (by cases z; exact g3), fun z w => (by cases w)⟩
  | inr b =>
    rw [hb] at e3
    obtain ⟨b1, b2⟩ := hy.2 b hb
    have hS2 : q_PS I2 t b c := by
      have := e3.2 _ rfl
      rw [show c ++ ((b, ([] : List Int32), fun _ => (0 : Int32)) : Nat × List Int32 × q_Vl).2.1 = c from List.append_nil c] at this
      exact this
    obtain ⟨I3, s1, s2, s3⟩ := x_sign_s (n := n) (J := J) (T := T) hn ht hS2
    have hpl := (q_pk_lt ht (q_sk t b)).1
    have hsk := q_sk_le (t := t) b2
    have f33 : (q_sg (q_pk t (q_sk t b)) = 33) ↔ q_pk t (q_sk t b) = 33 := q_sg_eq (x := 33) hpl (by omega) (by omega)
    have f40 : (q_sg (q_pk t (q_sk t b)) = 40) ↔ q_pk t (q_sk t b) = 40 := q_sg_eq (x := 40) hpl (by omega) (by omega)
    rw [s1, Option.bind_some]
    simp only [f33, f40]
    by_cases c1 : q_pk t (q_sk t b) = 33 ∨ q_pk t (q_sk t b) = 40
    · have hgo : (if q_pk t (q_sk t b) = 33 then f_X4_clause_38 n I3 J T else if q_pk t (q_sk t b) = 40 then f_X4_clause_38 n I3 J T else f_X4_clause_43 n I3 J T 0) = (f_X4_condition n I3 J T 0 0).bind fun w2 => f_X4_clause_83 n w2 J T 1 := by
        have : f_X4_clause_38 n I3 J T = (f_X4_condition n I3 J T 0 0).bind fun w2 => f_X4_clause_83 n w2 J T 1 := by
          unfold f_X4_clause_38 f_X4_clause_43
          rw [if_neg (by exact q_10)]
        rw [this]
        rcases c1 with k | k
        · rw [if_pos k]
        · rw [if_neg (by omega), if_pos k]
      have hc := q_cnd_ok (t := t) 6 b b2
      obtain ⟨I4, a1, a2, a3⟩ := x_cnd (n := n) (J := J) (T := T) hn ht hsk.2 I3 c s3
      have a1' : f_X4_condition n I3 J T 0 0 = some I4 := a1
      rw [q_cnd_sk b2] at a3
      rw [hgo, if_pos c1, a1', Option.bind_some]
      cases hz : q_cnd t 6 b with
      | inl f =>
        rw [hz] at a3
        obtain ⟨I5, g1, g2, g3⟩ := x_qmr_f (n := n) (J := J) (T := T) (t := t) hn I4 f (a3.1 f rfl)
        exact ⟨I5, g1, ((e2.t s2).t a2).t g2, fun g z => (by cases z; exact g3), fun z w => (by cases w)⟩
      | inr z =>
        rw [hz] at a3
        obtain ⟨l1, l2, l3⟩ := hc.2 z hz
        obtain ⟨I5, g1, g2, g3⟩ := x_qmr (n := n) (J := J) (T := T) (b := a) hn ht l2 (by omega) I4 c hca (a3.2 z rfl)
        exact ⟨I5, g1, ((e2.t s2).t a2).t g2, g3.q⟩
    · have hgo : (if q_pk t (q_sk t b) = 33 then f_X4_clause_38 n I3 J T else if q_pk t (q_sk t b) = 40 then f_X4_clause_38 n I3 J T else f_X4_clause_43 n I3 J T 0) = f_X4_clause_43 n I3 J T 0 := by
        rw [if_neg (fun k => c1 (Or.inl k)), if_neg (fun k => c1 (Or.inr k))]
      have hc := q_sum_ok (t := t) 6 b b2
      obtain ⟨I4, a1, a2, a3⟩ := x_sum (n := n) (J := J) (T := T) (q := 6) hn ht (by omega) hsk.2 I3 c s3
      have a1' : f_X4_sum n I3 J T 0 = some I4 := a1
      rw [q_sum_sk b2] at a3
      rw [hgo, if_neg c1]
      unfold f_X4_clause_43
      rw [if_pos rfl, a1', Option.bind_some]
      cases hz : q_sum t 6 b with
      | inl f =>
        rw [hz] at a3
        have hF := a3.1 f rfl
        have w2 : f_X4_isComparison n I4 J T (-1) = _ := x_isCmp (n := n) (J := J) (T := T) (I := I4) (p := 0) (by omega)
        obtain ⟨I5, g1, g2, g3⟩ := x_emit_f (n := n) (J := J) (T := T) (t := t) 10059 I4 f hF
        have g1' : f_X4_emit n I4 J T 10059 = some I5 := g1
        rw [x_sign_f hF.ne, Option.bind_some]
        simp only []
        rw [w2, Option.bind_some, if_neg (show ¬ (q_oC 0 = true) from fun z => by cases z), if_pos rfl]
        unfold f_X4_clause_83 f_X4_clause_108
        rw [if_pos rfl, g1', Option.bind_some]
        exact ⟨I5, rfl, ((e2.t s2).t a2).t g2, fun g z => (by cases z; exact g3), fun z w => (by cases w)⟩
      | inr z =>
        rw [hz] at a3
        obtain ⟨l1, l2, l3⟩ := hc.2 z hz
        have hskz := q_sk_le (t := t) l2
        have hplz := (q_pk_lt ht (q_sk t z.1)).1
        obtain ⟨I5, g1, g2, g3⟩ := x_sign_s (n := n) (J := J) (T := T) hn ht (a3.2 z rfl)
        rw [g1, Option.bind_some]
        simp only []
        rw [x_isCmp hplz, Option.bind_some]
        by_cases c2 : q_oC (q_pk t (q_sk t z.1)) = true
        · rw [if_pos c2, if_neg (by exact q_10), if_pos c2]
          have hr' : (q_sk t z.1, z.2.1, z.2.2).1 ≤ t.1 := hskz.2
          have ho := (q_ors_ok (q_unt_ok (t := t) 6) (q_cmp_ok (t := t) (q := 6) (a := b) l1 l2 l3)).2
          have hcs : q_cmp t 6 (q_sk t z.1, z.2.1, z.2.2) = q_cmp t 6 z := by
            unfold q_cmp
            simp only [q_sk_sk l2]
          obtain ⟨I6, k1, k2, k3⟩ := x_cnd_b (n := n) (J := J) (T := T) (b := a) (r := (q_sk t z.1, z.2.1, z.2.2)) hn ht (by show a < q_sk t z.1; omega) hr' (by show a + z.2.1.length ≤ q_sk t z.1; omega) I5 c hca g3
          have k1' : f_X4_condition n I5 J T 0 1 = some I6 := k1
          rw [hcs] at k3
          rw [k1', Option.bind_some]
          cases hw : q_ors t (q_unt t 6) (q_cmp t 6 z) with
          | inl f =>
            rw [hw] at k3
            obtain ⟨I7, m1, m2, m3⟩ := x_qmr_f (n := n) (J := J) (T := T) (t := t) hn I6 f (k3.1 f rfl)
            exact ⟨I7, m1, ((((e2.t s2).t a2).t g2).t k2).t m2, fun g z => (by cases z; exact m3), fun z w => (by cases w)⟩
          | inr w =>
            rw [hw] at k3
            obtain ⟨p1, p2, p3⟩ := ho.2 w hw
            obtain ⟨I7, m1, m2, m3⟩ := x_qmr (n := n) (J := J) (T := T) (b := a) hn ht p2 (by omega) I6 c hca (k3.2 w rfl)
            exact ⟨I7, m1, ((((e2.t s2).t a2).t g2).t k2).t m2, m3.q⟩
        · rw [if_neg c2, if_pos rfl, if_neg c2]
          obtain ⟨I6, k1, k2, k3⟩ := x_emit (n := n) (J := J) (T := T) ht g3 (by rw [List.length_append]; omega) 10059
          unfold f_X4_clause_83 f_X4_clause_108
          rw [if_pos rfl, k1, Option.bind_some]
          refine ⟨I6, rfl, (((e2.t s2).t a2).t g2).t k2, fun g z => (by cases z), fun z w => ?_⟩
          cases w
          rw [List.append_assoc] at k3
          exact k3
end QW
