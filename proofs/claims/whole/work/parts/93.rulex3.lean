/-! ===== atoms, terms and sums of a rule, the class ===== -/
theorem q_bsm {α : Type} (x : Option α) : (x.bind fun w => some w) = x := by cases x <;> rfl
theorem q_X0.en {t : q_Tx} {F : (Nat → Nat → Int32) → Option (Nat → Nat → Int32)} {a : Nat} {x : q_Rs} (h : q_X0 t F a x) {I I1 : Nat → Nat → Int32} {c : List Int32} (hf : q_fr3 I I1) (hS : q_PS I1 t a c) : ∃ I', F I1 = some I' ∧ q_fr3 I I' ∧ q_PR I' t c x := by
  obtain ⟨I', e1, e2, e3⟩ := h I1 c hS
  exact ⟨I', e1, hf.t e2, e3⟩
section QW
variable {n : Nat} {J : Nat → Nat → Int64} {T : Nat} {t : q_Tx}
theorem x_atm (hn : 300 ≤ n) (ht : q_tok t) {q : Nat} (hq : q ≤ 6) {sub : Nat → q_Rs} {r1 r2 r3 : (Nat → Nat → Int32) → (Nat → Nat → Int64) → Nat → Int32 → Option (Nat → Nat → Int32)} (hs : 0 < q → ∀ b, b ≤ t.1 → q_X0 t (fun I => r3 I J T (nI (6 - q + 1))) b (sub b)) {a : Nat} (ha : a ≤ t.1) : q_X0 t (fun I => fb_X4_atom n r1 r2 r3 I J T (nI (6 - q))) a (q_atm t sub q a) := by
  intro I c h
  show ∃ I', fb_X4_atom n r1 r2 r3 I J T (nI (6 - q)) = some I' ∧ _
  have h160 := ht.1
  have hpl := (q_pk_lt ht (q_sk t a)).1
  have hsk := q_sk_le (t := t) ha
  have hca := h.2.1
  obtain ⟨I1, e1, e2, e3⟩ := x_sign_s (n := n) (J := J) (T := T) hn ht h
  unfold fb_X4_atom
  rw [e1, Option.bind_some]
  simp only []
  rw [x_wi_sg hpl, Option.bind_some]
  unfold q_atm
  by_cases c1 : q_dig t (q_sk t a) = true
  · obtain ⟨g1, g2, g3, g4⟩ := q_dig_pk c1
    have hl := q_dl_le (t := t) 4 (q_sk t a) 0 hsk.2
    have hgt : q_sk t a < (q_dl t 4 (q_sk t a) 0).1 := by
      have e : q_dl t 4 (q_sk t a) 0 = q_dl t 3 (q_sk t a + 1) (0 * 10 + (t.2 (q_sk t a) - 48)) := by
        show (if q_dig t (q_sk t a) = true then _ else _) = _
        rw [if_pos c1]
      rw [e]
      have := (q_dl_le (t := t) 3 (q_sk t a + 1) (0 * 10 + (t.2 (q_sk t a) - 48)) g1).1
      omega
    obtain ⟨I2, n1, n2, n3⟩ := x_number (n := n) (J := J) (T := T) (most := 4) (a := q_sk t a) hn ht (by omega) hsk.2 e3.2.2.1
    rw [q_sk_sk ha] at n1 n2
    have n1' : f_X10_number n I1 J T 4 = _ := n1
    rw [if_pos ((q_dig_iff _).mp c1), if_neg (by exact q_10), n1', Option.bind_some, if_pos c1]
    simp only []
    by_cases c2 : q_dig t (q_dl t 4 (q_sk t a) 0).1 = true
    · rw [if_pos (Or.inr c2)] at n2
      obtain ⟨I3, b1, b2, b3⟩ := x_emit_f (n := n) (J := J) (T := T) (nI (q_dl t 4 (q_sk t a) 0).2) I2 _ (e3.fl ht hl.2.1 n2 n3)
      have b1' : f_X4_emit n I2 J T (nI (q_dl t 4 (q_sk t a) 0).2) = some I3 := b1
      rw [b1', Option.bind_some, if_pos c2]
      exact ⟨I3, rfl, (e2.t (fun x y h1 _ _ => n3 x y h1)).t b2, q_PR.l b3⟩
    · rw [if_neg (fun z => by
        rcases z with z | z
        · omega
        · exact c2 z)] at n2
      have hS2 := e3.at hl.2.1 hl.1 n2 n3
      obtain ⟨I3, b1, b2, b3⟩ := x_emit (n := n) (J := J) (T := T) ht hS2 (by omega) (nI (q_dl t 4 (q_sk t a) 0).2)
      rw [b1, Option.bind_some, if_neg c2]
      exact ⟨I3, rfl, (e2.t (fun x y h1 _ _ => n3 x y h1)).t b2, q_PR.o b3⟩
  · rw [if_neg (fun z => c1 ((q_dig_iff _).mpr z)), if_pos rfl, x_letter hpl, Option.bind_some, if_neg c1]
    by_cases c2 : q_ltr (q_pk t (q_sk t a)) = true
    · have hp0 : q_pk t (q_sk t a) ≠ 0 := fun z => by rw [z] at c2; cases c2
      have hlt := q_pk_in hp0
      have e12 : am_u I1 1 2 (I1 1 2 + 1) = am_u I1 1 2 (nI (q_sk t a + 1)) := by rw [e3.2.2.1.2.2.1, nI_1]
      have hS1 := e3.put e3.2.2.1 (fun _ _ _ => rfl) hlt
      obtain ⟨I3, b1, b2, b3⟩ := x_emit (n := n) (J := J) (T := T) ht hS1 (by omega) (10000 + nI (q_pk t (q_sk t a)))
      rw [if_pos c2, if_neg (by exact q_10), e12, q_sg_nI hp0, b1, Option.bind_some, if_pos c2]
      exact ⟨I3, rfl, (e2.t (fun x y h1 _ _ => q_fu1 x y h1)).t b2, q_PR.o b3⟩
    · obtain ⟨I2, o1, o2, o3, o4, o5⟩ := x_opens (n := n) (J := J) (T := T) (p := 91) (d := 6 - q) hn ht (by omega) (by omega) (by omega) e3
      rw [q_sk_sk ha] at o1 o3 o4 o5
      have o1' : f_X4_opens n I1 J T 91 (nI (6 - q)) = _ := o1
      rw [if_neg c2, if_pos rfl, o1', Option.bind_some, if_neg c2]
      simp only []
      by_cases c3 : q_pk t (q_sk t a) = 91
      · have hlt := q_pk_in (t := t) (a := q_sk t a) (by rw [c3]; decide)
        by_cases c4 : 0 < q
        · rw [if_pos (show q_pk t (q_sk t a) = 91 ∧ 6 - q < 6 from ⟨c3, by omega⟩), if_neg (by exact q_10), if_pos (show q_pk t (q_sk t a) = 91 ∧ 0 < q from ⟨c3, c4⟩), nI_1]
          simp only [q_bsm]
          exact ((hs c4 _ hlt).seq (fun r _ => x_expect_g (n := n) (J := J) (T := T) (p := 93) hn ht (by omega) (by omega) r) (x_expect_f (n := n) (J := J) (T := T) (p := 93) (by omega))).en (e2.t o2) (o3 c3 (by omega))
        · have hF := o4 c3 (by omega)
          rw [if_neg (show ¬ (q_pk t (q_sk t a) = 91 ∧ 6 - q < 6) from fun z => by omega), if_pos rfl, if_neg (show ¬ (q_pk t (q_sk t a) = 91 ∧ 0 < q) from fun z => c4 z.2), x_fail_f hF.ne, Option.bind_some]
          exact ⟨I2, rfl, e2.t o2, q_PR.l hF⟩
      · have hS2 := o5 c3
        rw [if_neg (show ¬ (q_pk t (q_sk t a) = 91 ∧ 6 - q < 6) from fun z => c3 z.1), if_pos rfl, if_neg (show ¬ (q_pk t (q_sk t a) = 91 ∧ 0 < q) from fun z => c3 z.1), hS2.2.2.1.2.2.1, x_fail hS2.2.2.1, Option.bind_some]
        exact ⟨_, rfl, (e2.t o2).t (fun x y h1 _ _ => q_fu1 x y h1), q_PR.l (hS2.fl ht hsk.2 (hS2.2.2.1.wr _) q_fu1)⟩
theorem x_atm_f {r1 r2 r3 : (Nat → Nat → Int32) → (Nat → Nat → Int64) → Nat → Int32 → Option (Nat → Nat → Int32)} (d : Int32) : q_XH t (fun I => fb_X4_atom n r1 r2 r3 I J T d) := by
  intro I f h
  show ∃ I', fb_X4_atom n r1 r2 r3 I J T d = some I' ∧ _
  unfold fb_X4_atom
  have w1 : f_X11_isWithin n I J T (-1) 48 57 = _ := x_wi_sg (n := n) (J := J) (T := T) (I := I) (p := 0) (by omega)
  have w2 : f_X4_isLetter n I J T (-1) = _ := x_letter (n := n) (J := J) (T := T) (I := I) (p := 0) (by omega)
  have w3 : f_X4_opens n I J T 91 d = _ := x_opens_f (n := n) (J := J) (T := T) (p := 91) (by omega) h.ne d
  rw [x_sign_f h.ne, Option.bind_some]
  simp only []
  rw [w1, Option.bind_some, if_neg (show ¬ (48 ≤ 0 ∧ 0 ≤ 57) by omega), if_pos rfl, w2, Option.bind_some, if_neg (show ¬ (q_ltr 0 = true) from fun z => by cases z), if_pos rfl, w3, Option.bind_some]
  simp only []
  rw [if_pos trivial, x_fail_f h.ne, Option.bind_some]
  exact ⟨I, rfl, q_fr3.r I, h⟩
theorem x_trm (hn : 300 ≤ n) (ht : q_tok t) {X : Nat → q_Rs} {d : Int32} {r1 r2 r3 : (Nat → Nat → Int32) → (Nat → Nat → Int64) → Nat → Int32 → Option (Nat → Nat → Int32)} (hA : ∀ b, b ≤ t.1 → q_X0 t (fun I => r1 I J T d) b (X b)) (hAf : q_XH t (fun I => r1 I J T d)) (hok : ∀ b, b ≤ t.1 → q_rok t b (X b)) {a : Nat} (ha : a ≤ t.1) : q_X0 t (fun I => fb_X4_term n r1 r2 r3 I J T d) a (q_rb (X a) (q_bl t q_oT X (t.1 + 1))) := by
  have h160 := ht.1
  refine (hA a ha).seq (G := fun w1 => (f_X10_sign n w1 J T).bind fun w2 => f_X4_term_15 n r1 r2 r3 n w2.2 J T d w2.1 0) (fun r hr I c hc h => ?_) (fun I f h => ?_)
  · obtain ⟨k1, k2, k3⟩ := (hok a ha).2 r hr
    obtain ⟨I1, s1, s2, s3⟩ := x_sign_s (n := n) (J := J) (T := T) hn ht h
    obtain ⟨I', f1, f2, f3⟩ := x_lpA (n := n) (J := J) (T := T) (op := q_oT) hn ht rfl hA hAf hok (fun m I x2 x3 => f_X4_term_15 n r1 r2 r3 m I J T d x2 x3) (fun m I p x3 hp ho => by
      show f_X4_term_15 n r1 r2 r3 (m + 1) I J T d (q_sg p) x3 = _
      unfold q_oT at ho
      rw [Bool.or_eq_false_iff, decide_eq_false_iff_not, decide_eq_false_iff_not] at ho
      rw [f_X4_term_15, if_neg (show ¬ q_sg p = 42 from fun z => ho.1 ((q_sg_eq (x := 42) hp (by omega) (by omega)).mp z)), if_neg (show ¬ q_sg p = 47 from fun z => ho.2 ((q_sg_eq (x := 47) hp (by omega) (by omega)).mp z))]
      by_cases cc : 160 ≤ x3
      · rw [if_pos cc]
      · rw [if_neg cc]) (fun m I p x3 hp ho hx => by
      show f_X4_term_15 n r1 r2 r3 (m + 1) I J T d (q_sg p) x3 = _
      unfold q_oT at ho
      rw [Bool.or_eq_true, decide_eq_true_eq, decide_eq_true_eq] at ho
      rw [f_X4_term_15, if_neg hx]
      by_cases c1 : q_sg p = 42
      · rw [if_pos c1]
        rfl
      · rw [if_neg c1, if_pos (show q_sg p = 47 from (q_sg_eq (x := 47) hp (by omega) (by omega)).mpr (ho.resolve_left (fun z => c1 ((q_sg_eq (x := 42) hp (by omega) (by omega)).mpr z))))]
        rfl) (t.1 + 1) n 0 r I1 c (by omega) k2 (by omega) (by omega) (by omega) s3
    show ∃ I', ((f_X10_sign n I J T).bind fun w2 => f_X4_term_15 n r1 r2 r3 n w2.2 J T d w2.1 0) = some I' ∧ _
    rw [s1, Option.bind_some]
    exact ⟨I', f1, s2.t f2, f3⟩
  · show ∃ I', ((f_X10_sign n I J T).bind fun w2 => f_X4_term_15 n r1 r2 r3 n w2.2 J T d w2.1 0) = some I' ∧ _
    rw [x_sign_f h.ne, Option.bind_some]
    obtain ⟨k, hk⟩ : ∃ z, n = z + 1 := ⟨n - 1, by omega⟩
    have e : f_X4_term_15 n r1 r2 r3 n I J T d (-1) 0 = f_X4_term_15 n r1 r2 r3 (k + 1) I J T d (-1) 0 := by rw [← hk]
    simp only []
    rw [e, f_X4_term_15, if_neg (show ¬ (160 : Int32) ≤ 0 by decide), if_neg (show ¬ (-1 : Int32) = 42 by decide), if_neg (show ¬ (-1 : Int32) = 47 by decide)]
    exact ⟨I, rfl, q_fr3.r I, h⟩
theorem x_trm_f (hn : 300 ≤ n) {d : Int32} {r1 r2 r3 : (Nat → Nat → Int32) → (Nat → Nat → Int64) → Nat → Int32 → Option (Nat → Nat → Int32)} (hAf : q_XH t (fun I => r1 I J T d)) : q_XH t (fun I => fb_X4_term n r1 r2 r3 I J T d) := by
  refine hAf.seq (G := fun w1 => (f_X10_sign n w1 J T).bind fun w2 => f_X4_term_15 n r1 r2 r3 n w2.2 J T d w2.1 0) (fun I f h => ?_)
  show ∃ I', ((f_X10_sign n I J T).bind fun w2 => f_X4_term_15 n r1 r2 r3 n w2.2 J T d w2.1 0) = some I' ∧ _
  rw [x_sign_f h.ne, Option.bind_some]
  obtain ⟨k, hk⟩ : ∃ z, n = z + 1 := ⟨n - 1, by omega⟩
  have e : f_X4_term_15 n r1 r2 r3 n I J T d (-1) 0 = f_X4_term_15 n r1 r2 r3 (k + 1) I J T d (-1) 0 := by rw [← hk]
  simp only []
  rw [e, f_X4_term_15, if_neg (show ¬ (160 : Int32) ≤ 0 by decide), if_neg (show ¬ (-1 : Int32) = 42 by decide), if_neg (show ¬ (-1 : Int32) = 47 by decide)]
  exact ⟨I, rfl, q_fr3.r I, h⟩
theorem x_smm (hn : 300 ≤ n) (ht : q_tok t) {X : Nat → q_Rs} {d : Int32} {r1 r2 r3 : (Nat → Nat → Int32) → (Nat → Nat → Int64) → Nat → Int32 → Option (Nat → Nat → Int32)} (hA : ∀ b, b ≤ t.1 → q_X0 t (fun I => r2 I J T d) b (X b)) (hAf : q_XH t (fun I => r2 I J T d)) (hok : ∀ b, b ≤ t.1 → q_rok t b (X b)) {a : Nat} (ha : a ≤ t.1) : q_X0 t (fun I => fb_X4_sum n r1 r2 r3 I J T d) a (q_rb (X a) (q_bl t q_oS X (t.1 + 1))) := by
  have h160 := ht.1
  refine (hA a ha).seq (G := fun w1 => (f_X10_sign n w1 J T).bind fun w2 => f_X4_sum_15 n r1 r2 r3 n w2.2 J T d w2.1 0) (fun r hr I c hc h => ?_) (fun I f h => ?_)
  · obtain ⟨k1, k2, k3⟩ := (hok a ha).2 r hr
    obtain ⟨I1, s1, s2, s3⟩ := x_sign_s (n := n) (J := J) (T := T) hn ht h
    obtain ⟨I', f1, f2, f3⟩ := x_lpA (n := n) (J := J) (T := T) (op := q_oS) hn ht rfl hA hAf hok (fun m I x2 x3 => f_X4_sum_15 n r1 r2 r3 m I J T d x2 x3) (fun m I p x3 hp ho => by
      show f_X4_sum_15 n r1 r2 r3 (m + 1) I J T d (q_sg p) x3 = _
      unfold q_oS at ho
      rw [Bool.or_eq_false_iff, decide_eq_false_iff_not, decide_eq_false_iff_not] at ho
      rw [f_X4_sum_15, if_neg (show ¬ q_sg p = 43 from fun z => ho.1 ((q_sg_eq (x := 43) hp (by omega) (by omega)).mp z)), if_neg (show ¬ q_sg p = 45 from fun z => ho.2 ((q_sg_eq (x := 45) hp (by omega) (by omega)).mp z))]
      by_cases cc : 160 ≤ x3
      · rw [if_pos cc]
      · rw [if_neg cc]) (fun m I p x3 hp ho hx => by
      show f_X4_sum_15 n r1 r2 r3 (m + 1) I J T d (q_sg p) x3 = _
      unfold q_oS at ho
      rw [Bool.or_eq_true, decide_eq_true_eq, decide_eq_true_eq] at ho
      rw [f_X4_sum_15, if_neg hx]
      by_cases c1 : q_sg p = 43
      · rw [if_pos c1]
        rfl
      · rw [if_neg c1, if_pos (show q_sg p = 45 from (q_sg_eq (x := 45) hp (by omega) (by omega)).mpr (ho.resolve_left (fun z => c1 ((q_sg_eq (x := 43) hp (by omega) (by omega)).mpr z))))]
        rfl) (t.1 + 1) n 0 r I1 c (by omega) k2 (by omega) (by omega) (by omega) s3
    show ∃ I', ((f_X10_sign n I J T).bind fun w2 => f_X4_sum_15 n r1 r2 r3 n w2.2 J T d w2.1 0) = some I' ∧ _
    rw [s1, Option.bind_some]
    exact ⟨I', f1, s2.t f2, f3⟩
  · show ∃ I', ((f_X10_sign n I J T).bind fun w2 => f_X4_sum_15 n r1 r2 r3 n w2.2 J T d w2.1 0) = some I' ∧ _
    rw [x_sign_f h.ne, Option.bind_some]
    obtain ⟨k, hk⟩ : ∃ z, n = z + 1 := ⟨n - 1, by omega⟩
    have e : f_X4_sum_15 n r1 r2 r3 n I J T d (-1) 0 = f_X4_sum_15 n r1 r2 r3 (k + 1) I J T d (-1) 0 := by rw [← hk]
    simp only []
    rw [e, f_X4_sum_15, if_neg (show ¬ (160 : Int32) ≤ 0 by decide), if_neg (show ¬ (-1 : Int32) = 43 by decide), if_neg (show ¬ (-1 : Int32) = 45 by decide)]
    exact ⟨I, rfl, q_fr3.r I, h⟩
theorem x_smm_f (hn : 300 ≤ n) {d : Int32} {r1 r2 r3 : (Nat → Nat → Int32) → (Nat → Nat → Int64) → Nat → Int32 → Option (Nat → Nat → Int32)} (hAf : q_XH t (fun I => r2 I J T d)) : q_XH t (fun I => fb_X4_sum n r1 r2 r3 I J T d) := by
  refine hAf.seq (G := fun w1 => (f_X10_sign n w1 J T).bind fun w2 => f_X4_sum_15 n r1 r2 r3 n w2.2 J T d w2.1 0) (fun I f h => ?_)
  show ∃ I', ((f_X10_sign n I J T).bind fun w2 => f_X4_sum_15 n r1 r2 r3 n w2.2 J T d w2.1 0) = some I' ∧ _
  rw [x_sign_f h.ne, Option.bind_some]
  obtain ⟨k, hk⟩ : ∃ z, n = z + 1 := ⟨n - 1, by omega⟩
  have e : f_X4_sum_15 n r1 r2 r3 n I J T d (-1) 0 = f_X4_sum_15 n r1 r2 r3 (k + 1) I J T d (-1) 0 := by rw [← hk]
  simp only []
  rw [e, f_X4_sum_15, if_neg (show ¬ (160 : Int32) ≤ 0 by decide), if_neg (show ¬ (-1 : Int32) = 43 by decide), if_neg (show ¬ (-1 : Int32) = 45 by decide)]
  exact ⟨I, rfl, q_fr3.r I, h⟩
theorem x_sum_lv (hn : 300 ≤ n) {d : Int32} (r : Nat) : q_XH t (fun I => (fx_X4_atom n (r + 3)).2.2 I J T d) :=
  x_smm_f (n := n) (J := J) (T := T) (r1 := (fx_X4_atom n (r + 2)).1) (r2 := (fx_X4_atom n (r + 2)).2.1) (r3 := (fx_X4_atom n (r + 2)).2.2) hn (x_trm_f (n := n) (J := J) (T := T) (r1 := (fx_X4_atom n (r + 1)).1) (r2 := (fx_X4_atom n (r + 1)).2.1) (r3 := (fx_X4_atom n (r + 1)).2.2) hn (x_atm_f (n := n) (J := J) (T := T) (r1 := (fx_X4_atom n (r)).1) (r2 := (fx_X4_atom n (r)).2.1) (r3 := (fx_X4_atom n (r)).2.2) d))
theorem x_sumq (hn : 300 ≤ n) (ht : q_tok t) : ∀ (q r : Nat), q ≤ 6 → 3 * q ≤ r → ∀ a, a ≤ t.1 → q_X0 t (fun I => (fx_X4_atom n (r + 3)).2.2 I J T (nI (6 - q))) a (q_sum t q a) := by
  intro q
  induction q with
  | zero =>
    intro r hq hr a ha
    have hatm : ∀ b, b ≤ t.1 → q_rok t b (q_atm t (fun _ => .inl 0) 0 b) := fun b hb => q_atm_ok hb (fun h => absurd h (Nat.lt_irrefl _))
    have hA : ∀ b, b ≤ t.1 → q_X0 t (fun I => (fx_X4_atom n (r + 1)).1 I J T (nI (6 - 0))) b (q_atm t (fun _ => .inl 0) 0 b) := fun b hb => x_atm (n := n) (J := J) (T := T) (r1 := (fx_X4_atom n (r)).1) (r2 := (fx_X4_atom n (r)).2.1) (r3 := (fx_X4_atom n (r)).2.2) hn ht (by omega) (fun h => absurd h (Nat.lt_irrefl _)) hb
    have hT : ∀ b, b ≤ t.1 → q_X0 t (fun I => (fx_X4_atom n (r + 2)).2.1 I J T (nI (6 - 0))) b (q_trm t (fun _ => .inl 0) 0 b) := fun b hb => x_trm (n := n) (J := J) (T := T) (r1 := (fx_X4_atom n (r + 1)).1) (r2 := (fx_X4_atom n (r + 1)).2.1) (r3 := (fx_X4_atom n (r + 1)).2.2) hn ht hA (x_atm_f (n := n) (J := J) (T := T) (r1 := (fx_X4_atom n (r)).1) (r2 := (fx_X4_atom n (r)).2.1) (r3 := (fx_X4_atom n (r)).2.2) _) hatm hb
    exact x_smm (n := n) (J := J) (T := T) (r1 := (fx_X4_atom n (r + 2)).1) (r2 := (fx_X4_atom n (r + 2)).2.1) (r3 := (fx_X4_atom n (r + 2)).2.2) hn ht hT (x_trm_f (n := n) (J := J) (T := T) (r1 := (fx_X4_atom n (r + 1)).1) (r2 := (fx_X4_atom n (r + 1)).2.1) (r3 := (fx_X4_atom n (r + 1)).2.2) hn (x_atm_f (n := n) (J := J) (T := T) (r1 := (fx_X4_atom n (r)).1) (r2 := (fx_X4_atom n (r)).2.1) (r3 := (fx_X4_atom n (r)).2.2) _)) (fun b hb => (q_smF_ok hb (fun h => absurd h (Nat.lt_irrefl _))).1) ha
  | succ q ih =>
    intro r hq hr a ha
    obtain ⟨r', rfl⟩ : ∃ z, r = z + 3 := ⟨r - 3, by omega⟩
    have hatm : ∀ b, b ≤ t.1 → q_rok t b (q_atm t (q_sum t q) (q + 1) b) := fun b hb => q_atm_ok hb (fun _ => q_sum_ok q)
    have hsub : 0 < q + 1 → ∀ b, b ≤ t.1 → q_X0 t (fun I => (fx_X4_atom n (r' + 3)).2.2 I J T (nI (6 - (q + 1) + 1))) b (q_sum t q b) := fun _ b hb => by
      rw [show 6 - (q + 1) + 1 = 6 - q by omega]
      exact ih r' (by omega) (by omega) b hb
    have hA : ∀ b, b ≤ t.1 → q_X0 t (fun I => (fx_X4_atom n (r' + 3 + 1)).1 I J T (nI (6 - (q + 1)))) b (q_atm t (q_sum t q) (q + 1) b) := fun b hb => x_atm (n := n) (J := J) (T := T) (r1 := (fx_X4_atom n (r' + 3)).1) (r2 := (fx_X4_atom n (r' + 3)).2.1) (r3 := (fx_X4_atom n (r' + 3)).2.2) hn ht (by omega) hsub hb
    have hT : ∀ b, b ≤ t.1 → q_X0 t (fun I => (fx_X4_atom n (r' + 3 + 2)).2.1 I J T (nI (6 - (q + 1)))) b (q_trm t (q_sum t q) (q + 1) b) := fun b hb => x_trm (n := n) (J := J) (T := T) (r1 := (fx_X4_atom n (r' + 3 + 1)).1) (r2 := (fx_X4_atom n (r' + 3 + 1)).2.1) (r3 := (fx_X4_atom n (r' + 3 + 1)).2.2) hn ht hA (x_atm_f (n := n) (J := J) (T := T) (r1 := (fx_X4_atom n (r' + 3)).1) (r2 := (fx_X4_atom n (r' + 3)).2.1) (r3 := (fx_X4_atom n (r' + 3)).2.2) _) hatm hb
    exact x_smm (n := n) (J := J) (T := T) (r1 := (fx_X4_atom n (r' + 3 + 2)).1) (r2 := (fx_X4_atom n (r' + 3 + 2)).2.1) (r3 := (fx_X4_atom n (r' + 3 + 2)).2.2) hn ht hT (x_trm_f (n := n) (J := J) (T := T) (r1 := (fx_X4_atom n (r' + 3 + 1)).1) (r2 := (fx_X4_atom n (r' + 3 + 1)).2.1) (r3 := (fx_X4_atom n (r' + 3 + 1)).2.2) hn (x_atm_f (n := n) (J := J) (T := T) (r1 := (fx_X4_atom n (r' + 3)).1) (r2 := (fx_X4_atom n (r' + 3)).2.1) (r3 := (fx_X4_atom n (r' + 3)).2.2) _)) (fun b hb => (q_smF_ok hb (fun _ => q_sum_ok q)).1) ha
/-- a sum, so many deep -/
theorem x_sum (hn : 300 ≤ n) (ht : q_tok t) {q a : Nat} (hq : q ≤ 6) (ha : a ≤ t.1) : q_X0 t (fun I => f_X4_sum n I J T (nI (6 - q))) a (q_sum t q a) := by
  obtain ⟨k, hk⟩ : ∃ z, n = z + 3 := ⟨n - 3, by omega⟩
  have := x_sumq (n := n) (J := J) (T := T) hn ht q k hq (by omega) a ha
  rw [← hk] at this
  exact this
theorem x_sum_f (hn : 300 ≤ n) (d : Int32) : q_XH t (fun I => f_X4_sum n I J T d) := by
  obtain ⟨k, hk⟩ : ∃ z, n = z + 3 := ⟨n - 3, by omega⟩
  have := x_sum_lv (n := n) (J := J) (T := T) (t := t) (d := d) hn k
  rw [← hk] at this
  exact this
end QW
