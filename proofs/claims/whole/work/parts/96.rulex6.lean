/-! ===== a rule's text read by the class ===== -/
section QW
variable {n : Nat} {J : Nat → Nat → Int64} {T : Nat} {t : q_Tx}
/-- the code that has been read -/
def q_cd (I : Nat → Nat → Int32) (s : List Int32) : Prop := I 17 2 = nI s.length ∧ s.length ≤ 160 ∧ ∀ i, i < s.length → I 18 i = s.getD i 0
theorem x_cla_f (hn : 300 ≤ n) : q_XH t (fun I => f_X4_clause n I J T) := by
  have h := ((x_expect_f (n := n) (J := J) (T := T) (t := t) (p := 121) (by omega)).seq (x_expect_f (n := n) (J := J) (T := T) (t := t) (p := 58) (by omega))).seq (x_cl_f (n := n) (J := J) (T := T) (t := t) hn)
  intro I f hF
  obtain ⟨I', e1, e2, e3⟩ := h I f hF
  refine ⟨I', ?_, e2, e3⟩
  rw [← e1]
  show f_X4_clause n I J T = ((f_X10_expect n I J T 121).bind fun w1 => f_X10_expect n w1 J T 58).bind _
  unfold f_X4_clause
  cases f_X10_expect n I J T 121 with
  | none => rfl
  | some w => rfl
theorem x_rd47_f {f : Nat} {I : Nat → Nat → Int32} (h : q_PF I t f) : f_X4_read_47 n I J T = some (nI f, I) := by
  unfold f_X4_read_47 f_X4_read_72
  rw [x_sign_f h.ne, Option.bind_some]
  simp only []
  rw [if_pos trivial, h.2.2.2.1]
theorem x_rd47 (hn : 300 ≤ n) (ht : q_tok t) {a : Nat} {s : List Int32} {I : Nat → Nat → Int32} (h : q_PS I t a s) : ∃ v I', f_X4_read_47 n I J T = some (v, I') ∧ q_fr3 I I' ∧ I' 1 1 = nI t.1 ∧ v = (if q_pk t (q_sk t a) = 0 then -1 else nI (q_sk t a)) ∧ q_cd I' s := by
  have h160 := ht.1
  obtain ⟨I1, e1, e2, e3⟩ := x_sign_s (n := n) (J := J) (T := T) hn ht h
  have hpl := (q_pk_lt ht (q_sk t a)).1
  have hsk := q_sk_le (t := t) h.1
  unfold f_X4_read_47 f_X4_read_72
  rw [e1, Option.bind_some]
  have hm1 : (q_sg (q_pk t (q_sk t a)) = -1) ↔ q_pk t (q_sk t a) = 0 := q_sg_m1 hpl
  simp only [hm1]
  have hcd : q_cd I1 s := ⟨e3.2.2.2.1, by have := e3.2.1; omega, e3.2.2.2.2⟩
  by_cases c : q_pk t (q_sk t a) = 0
  · rw [if_pos c, if_pos c]
    exact ⟨_, I1, rfl, e2, e3.2.2.1.1, e3.2.2.1.2.2.2, hcd⟩
  · rw [if_neg c, if_neg c, e3.2.2.1.2.2.1, x_fail e3.2.2.1, Option.bind_some]
    refine ⟨_, _, rfl, e2.t (fun x y h1 _ _ => q_fu1 x y h1), (e3.2.2.1.wr _).1, (e3.2.2.1.wr _).2.2.2, ?_⟩
    exact ⟨by rw [q_fu1 17 2 (by omega)]; exact hcd.1, hcd.2.1, fun i hi => by rw [q_fu1 18 i (by omega)]; exact hcd.2.2 i hi⟩
theorem x_rulL (hn : 300 ≤ n) (ht : q_tok t) : ∀ (m k c a : Nat) (s : List Int32) (l : List (q_Vl × q_Vl)) (I : Nat → Nat → Int32), c + (t.1 - a) ≤ 160 → t.1 - a < m → t.1 - a + 1 < k → q_PS I t a s → ∃ v I', f_X4_read_18 n k I J T (nI c) = some (v, I') ∧ q_fr3 I I' ∧ I' 1 1 = nI t.1 ∧ match q_rul t m a s l with
    | .inl f => v = nI f ∧ f ≤ t.1
    | .inr r => v = -1 ∧ q_cd I' r.1 := by
  intro m
  induction m with
  | zero => intro k c a s l I _ h; omega
  | succ m ih =>
    intro k c a s l I hc hm hk h
    have h160 := ht.1
    have ha := h.1
    have hsk := q_sk_le (t := t) ha
    have hpl := (q_pk_lt ht (q_sk t a)).1
    obtain ⟨k', rfl⟩ : ∃ z, k = z + 1 := ⟨k - 1, by omega⟩
    rw [f_X4_read_18]
    unfold q_rul
    have fin : ∀ (I1 : Nat → Nat → Int32) (b : Nat), q_sk t b = q_sk t a → q_fr3 I I1 → q_PS I1 t b s → q_pk t (q_sk t a) ≠ 59 → ∃ v I', f_X4_read_47 n I1 J T = some (v, I') ∧ q_fr3 I I' ∧ I' 1 1 = nI t.1 ∧ match (if q_pk t (q_sk t a) = 59 then (match q_cla t (q_sk t a + 1) with
      | .inl f => .inl f
      | .inr z => q_rul t m z.1.1 (s ++ z.1.2.1) (l ++ [(z.2, z.1.2.2)]))
    else if q_pk t (q_sk t a) = 0 then .inr (s, l) else .inl (q_sk t a) : Nat ⊕ (List Int32 × List (q_Vl × q_Vl))) with
      | .inl f => v = nI f ∧ f ≤ t.1
      | .inr r => v = -1 ∧ q_cd I' r.1 := by
      intro I1 b hb f1 h1 h59
      obtain ⟨v, I', g1, g2, g3, g4, g5⟩ := x_rd47 (n := n) (J := J) (T := T) hn ht h1
      rw [hb] at g4
      rw [if_neg h59]
      refine ⟨v, I', g1, f1.t g2, g3, ?_⟩
      by_cases c0 : q_pk t (q_sk t a) = 0
      · rw [if_pos c0] at g4 ⊢
        exact ⟨g4, g5⟩
      · rw [if_neg c0] at g4 ⊢
        exact ⟨g4, hsk.2⟩
    by_cases ce : c < 160
    · obtain ⟨I1, e1, e2, e3⟩ := x_takes (n := n) (J := J) (T := T) (p := 59) hn ht (by omega) (by omega) h.1 h.2.2.1
      have e1' : f_X10_takes n I J T 59 = _ := e1
      rw [if_neg (show ¬ (160 : Int32) ≤ nI c from nI_ge (b := 160) ce (by omega)), e1', Option.bind_some]
      simp only []
      by_cases c1 : q_pk t (q_sk t a) = 59
      · have hlt := q_pk_in (t := t) (a := q_sk t a) (by rw [c1]; decide)
        rw [if_pos c1] at e2
        have hS1 : q_PS I1 t (q_sk t a + 1) s := h.at hlt (by omega) e2 e3
        have hfr0 : q_fr3 I I1 := fun x y h1 _ _ => e3 x y h1
        obtain ⟨I2, g1, g2, g3⟩ := x_cla (n := n) (J := J) (T := T) hn ht hS1
        have hok := q_cla_ok (t := t) (a := q_sk t a + 1) hlt
        rw [if_pos c1, if_neg (by exact q_10), g1, Option.bind_some, if_pos c1, nI_1]
        cases hq : q_cla t (q_sk t a + 1) with
        | inl f =>
          rw [hq] at g3
          have hF := g3.1 f rfl
          obtain ⟨k2, rfl⟩ : ∃ z, k' = z + 1 := ⟨k' - 1, by omega⟩
          have htf : f_X10_takes n I2 J T 59 = some (0, I2) := x_takes_f (p := 59) (by omega) hF.ne
          have hend : f_X4_read_18 n (k2 + 1) I2 J T (nI (c + 1)) = some (nI f, I2) := by
            rw [f_X4_read_18, x_rd47_f hF, htf, Option.bind_some, if_pos rfl]
            by_cases cc : 160 ≤ nI (c + 1)
            · rw [if_pos cc]
            · rw [if_neg cc]
              exact x_rd47_f hF
          exact ⟨_, I2, hend, hfr0.t g2, hF.2.2.1, rfl, hF.1⟩
        | inr z =>
          rw [hq] at g3
          obtain ⟨z1, z2, z3⟩ := hok.2 z hq
          obtain ⟨v, I', f1, f2, f3, f4⟩ := ih k' (c + 1) z.1.1 (s ++ z.1.2.1) (l ++ [(z.2, z.1.2.2)]) I2 (by omega) (by omega) (by omega) (g3.2 z rfl)
          exact ⟨v, I', f1, (hfr0.t g2).t f2, f3, f4⟩
      · rw [if_neg c1] at e2
        have hS1 : q_PS I1 t (q_sk t a) s := h.at hsk.2 hsk.1 e2 e3
        have hr := fin I1 (q_sk t a) (q_sk_sk ha) (fun x y h1 _ _ => e3 x y h1) hS1 c1
        rw [if_neg c1, if_pos rfl]
        exact hr
    · have c160 : c = 160 := by omega
      have h0 : q_pk t (q_sk t a) = 0 := by
        unfold q_pk
        rw [if_neg (by omega)]
      have hr := fin I a rfl (q_fr3.r I) h (by omega)
      rw [if_pos (show (160 : Int32) ≤ nI c by rw [c160]; decide)]
      exact hr
/-- a rule's text read by the class -/
theorem x_rule (hn : 300 ≤ n) (ht : q_tok t) {I : Nat → Nat → Int32} (hN : I 1 1 = nI t.1) (hb : ∀ i, i < t.1 → I 2 i = q_by (t.2 i)) : ∃ v I', f_X4_read n I J T = some (v, I') ∧ q_fr3 I I' ∧ I' 1 1 = nI t.1 ∧ match q_rule t with
    | .inl f => v = nI f ∧ f ≤ t.1
    | .inr r => v = -1 ∧ q_cd I' r.1 := by
  have h160 := ht.1
  obtain ⟨I0, hI0⟩ : ∃ z, z = am_u (am_u (am_u I 1 2 0) 1 3 (-1)) 17 2 0 := ⟨_, rfl⟩
  have hfr0 : q_fr3 I I0 := fun x y h1 h2 h3 => by
    rw [hI0]
    unfold am_u
    rw [if_neg (by omega), if_neg (by omega), if_neg (by omega)]
  have hS0 : q_PS I0 t 0 [] := by
    refine ⟨Nat.zero_le _, Nat.le_refl _, ⟨?_, fun i hi => ?_, ?_, ?_⟩, ?_, fun i hi => absurd hi (Nat.not_lt_zero _)⟩
    · rw [hI0, ← hN]
      simp [am_u]
    · rw [hfr0 2 i (by omega) (by omega) (by omega)]
      exact hb i hi
    · rw [hI0]
      simp [am_u]
      rfl
    · rw [hI0]
      simp [am_u]
    · rw [hI0]
      simp [am_u]
      rfl
  obtain ⟨I2, g1, g2, g3⟩ := x_cla (n := n) (J := J) (T := T) hn ht hS0
  have hok := q_cla_ok (t := t) (a := 0) (Nat.zero_le _)
  unfold f_X4_read f_X10_begin
  rw [Option.bind_some, ← hI0, g1, Option.bind_some]
  unfold q_rule
  cases hq : q_cla t 0 with
  | inl f =>
    rw [hq] at g3
    have hF := g3.1 f rfl
    obtain ⟨k, hk⟩ : ∃ z, n = z + 1 := ⟨n - 1, by omega⟩
    have e : f_X4_read_18 n n I2 J T 0 = f_X4_read_18 n (k + 1) I2 J T 0 := by rw [← hk]
    have htf : f_X10_takes n I2 J T 59 = some (0, I2) := x_takes_f (p := 59) (by omega) hF.ne
    rw [e, f_X4_read_18, if_neg (show ¬ (160 : Int32) ≤ 0 by decide), htf, Option.bind_some, if_pos rfl, x_rd47_f hF]
    exact ⟨_, I2, rfl, hfr0.t g2, hF.2.2.1, rfl, hF.1⟩
  | inr z =>
    rw [hq] at g3
    obtain ⟨z1, z2, z3⟩ := hok.2 z hq
    obtain ⟨v, I', f1, f2, f3, f4⟩ := x_rulL (n := n) (J := J) (T := T) hn ht 200 n 0 z.1.1 z.1.2.1 [(z.2, z.1.2.2)] I2 (by omega) (by omega) (by omega) (g3.2 z rfl)
    exact ⟨v, I', f1, (hfr0.t g2).t f2, f3, f4⟩
end QW
