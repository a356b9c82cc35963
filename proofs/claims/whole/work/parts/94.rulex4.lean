/-! ===== conditions of a rule, the class ===== -/
theorem q_X0.g {t : q_Tx} {F : (Nat → Nat → Int32) → Option (Nat → Nat → Int32)} {a b : Nat} {x : q_Rs} {v : q_Vl} (h : q_X0 t F a x) : q_XG t b F (a, [], v) x := fun I c _ hS => h I c (by have e : c ++ ([] : List Int32) = c := List.append_nil c; rw [← e]; exact hS)
theorem q_XG.z {t : q_Tx} {F : (Nat → Nat → Int32) → Option (Nat → Nat → Int32)} {a : Nat} {x : q_Rs} {v : q_Vl} (h : q_XG t a F (a, [], v) x) : q_X0 t F a x := fun I c hS => h I c hS.2.1 (by have e : c ++ ([] : List Int32) = c := List.append_nil c; show q_PS I t a (c ++ []); rw [e]; exact hS)
theorem q_atm_sk {t : q_Tx} {sub : Nat → q_Rs} {q a : Nat} (ha : a ≤ t.1) : q_atm t sub q (q_sk t a) = q_atm t sub q a := by
  unfold q_atm
  rw [q_sk_sk ha]
theorem q_smF_sk {t : q_Tx} {sub : Nat → q_Rs} {q a : Nat} (ha : a ≤ t.1) : q_smF t sub q (q_sk t a) = q_smF t sub q a := by
  unfold q_smF q_trm
  rw [q_atm_sk ha]
theorem q_sum_sk {t : q_Tx} {q a : Nat} (ha : a ≤ t.1) : q_sum t q (q_sk t a) = q_sum t q a := by
  cases q with
  | zero => exact q_smF_sk ha
  | succ q => exact q_smF_sk ha
section QW
variable {n : Nat} {J : Nat → Nat → Int64} {T : Nat} {t : q_Tx}
theorem x_isCmp {I : Nat → Nat → Int32} {p : Nat} (hp : p < 256) : f_X4_isComparison n I J T (q_sg p) = some (if q_oC p = true then 1 else 0) := by
  unfold f_X4_isComparison f_X4_isComparison_18 q_oC
  have e1 : (q_sg p = 61) ↔ p = 61 := q_sg_eq (x := 61) hp (by omega) (by omega)
  have e2 : (q_sg p = 60) ↔ p = 60 := q_sg_eq (x := 60) hp (by omega) (by omega)
  have e3 : (q_sg p = 62) ↔ p = 62 := q_sg_eq (x := 62) hp (by omega) (by omega)
  simp only [e1, e2, e3, Bool.or_eq_true, decide_eq_true_eq]
  by_cases k1 : p = 61
  · simp [k1]
  by_cases k2 : p = 60
  · simp [k2]
  by_cases k3 : p = 62
  · simp [k3]
  simp [k1, k2, k3]
theorem x_cmp (hn : 300 ≤ n) (ht : q_tok t) {q b : Nat} (hq : q ≤ 6) {r : Nat × List Int32 × q_Vl} (hr : r.1 ≤ t.1) (hbr : b + r.2.1.length ≤ r.1) : q_XG t b (fun I => f_X4_comparison n I J T (nI (6 - q))) r (q_cmp t q r) := by
  intro I c hc h
  show ∃ I', f_X4_comparison n I J T (nI (6 - q)) = some I' ∧ _
  have hpl := (q_pk_lt ht (q_sk t r.1)).1
  have hsk := q_sk_le (t := t) hr
  obtain ⟨I1, e1, e2, e3⟩ := x_sign_s (n := n) (J := J) (T := T) hn ht h
  unfold f_X4_comparison q_cmp
  rw [e1, Option.bind_some]
  simp only []
  rw [x_isCmp hpl, Option.bind_some]
  by_cases c1 : q_oC (q_pk t (q_sk t r.1)) = true
  · have hp0 : q_pk t (q_sk t r.1) ≠ 0 := fun z => by rw [z] at c1; cases c1
    have hlt := q_pk_in hp0
    have e12 : am_u I1 1 2 (I1 1 2 + 1) = am_u I1 1 2 (nI (q_sk t r.1 + 1)) := by rw [e3.2.2.1.2.2.1, nI_1]
    have hS1 := e3.put e3.2.2.1 (fun _ _ _ => rfl) hlt
    obtain ⟨I2, a1, a2, a3⟩ := x_sum (n := n) (J := J) (T := T) hn ht hq hlt _ _ hS1
    have a1' : f_X4_sum n (am_u I1 1 2 (nI (q_sk t r.1 + 1))) J T (nI (6 - q)) = some I2 := a1
    have hf2 : q_fr3 I I2 := (e2.t (fun x y h1 _ _ => q_fu1 x y h1)).t a2
    have hok := q_sum_ok q (q_sk t r.1 + 1) hlt
    simp only [q_bsm]
    rw [if_pos c1, if_neg (by exact q_10), e12, a1', Option.bind_some, if_pos c1, q_sg_nI hp0]
    cases hX : q_sum t q (q_sk t r.1 + 1) with
    | inl f =>
      rw [hX] at a3
      obtain ⟨I3, b1, b2, b3⟩ := x_emit_f (n := n) (J := J) (T := T) (10000 + nI (q_pk t (q_sk t r.1))) I2 f (a3.1 f rfl)
      exact ⟨I3, b1, hf2.t b2, q_PR.l b3⟩
    | inr z =>
      rw [hX] at a3 hok
      obtain ⟨z1, z2, z3⟩ := hok.2 z rfl
      obtain ⟨I3, b1, b2, b3⟩ := x_emit (n := n) (J := J) (T := T) ht (a3.2 z rfl) (by rw [List.length_append, List.length_append]; omega) (10000 + nI (q_pk t (q_sk t r.1)))
      refine ⟨I3, b1, hf2.t b2, q_PR.o ?_⟩
      have hlist : c ++ r.2.1 ++ z.2.1 ++ [10000 + nI (q_pk t (q_sk t r.1))] = c ++ (r.2.1 ++ (z.2.1 ++ [10000 + nI (q_pk t (q_sk t r.1))])) := by rw [List.append_assoc, List.append_assoc]
      rw [hlist] at b3
      exact b3
  · rw [if_neg c1, if_pos rfl, if_neg c1, e3.2.2.1.2.2.1, x_fail e3.2.2.1, Option.bind_some]
    exact ⟨_, rfl, e2.t (fun x y h1 _ _ => q_fu1 x y h1), q_PR.l (e3.fl ht hsk.2 (e3.2.2.1.wr _) q_fu1)⟩
theorem x_cmp_f (d : Int32) : q_XH t (fun I => f_X4_comparison n I J T d) := by
  intro I f h
  show ∃ I', f_X4_comparison n I J T d = some I' ∧ _
  have w2 : f_X4_isComparison n I J T (-1) = _ := x_isCmp (n := n) (J := J) (T := T) (I := I) (p := 0) (by omega)
  unfold f_X4_comparison
  rw [x_sign_f h.ne, Option.bind_some]
  simp only []
  rw [w2, Option.bind_some, if_neg (show ¬ (q_oC 0 = true) from fun z => by cases z), if_pos rfl, x_fail_f h.ne, Option.bind_some]
  exact ⟨I, rfl, q_fr3.r I, h⟩
abbrev q_U5 : Type := (Nat → Nat → Int32) → (Nat → Nat → Int64) → Nat → Int32 → Int32 → Option (Nat → Nat → Int32)
theorem x_unF (hn : 300 ≤ n) (ht : q_tok t) {q : Nat} (hq : q ≤ 6) {sU sC : Nat → q_Rs} {r1 r2 r3 : q_U5} (hU : 0 < q → ∀ b, b ≤ t.1 → q_X0 t (fun I => r1 I J T (nI (6 - q + 1)) 0) b (sU b)) (hUo : 0 < q → ∀ b, b ≤ t.1 → q_rok t b (sU b)) (hC : 0 < q → ∀ b, b ≤ t.1 → q_X0 t (fun I => r3 I J T (nI (6 - q + 1)) 0) b (sC b)) {a : Nat} (ha : a ≤ t.1) : q_X0 t (fun I => fb_X4_unit n r1 r2 r3 I J T (nI (6 - q)) 0) a (q_unF t sU sC q a) := by
  intro I c h
  show ∃ I', fb_X4_unit n r1 r2 r3 I J T (nI (6 - q)) 0 = some I' ∧ _
  have hsk := q_sk_le (t := t) ha
  have hca := h.2.1
  obtain ⟨I1, o1, o2, o3, o4, o5⟩ := x_opens (n := n) (J := J) (T := T) (p := 33) (d := 6 - q) hn ht (by omega) (by omega) (by omega) h
  have o1' : f_X4_opens n I J T 33 (nI (6 - q)) = _ := o1
  have hsf := x_sum_f (n := n) (J := J) (T := T) (t := t) hn (nI (6 - q))
  have hcf := x_cmp_f (n := n) (J := J) (T := T) (t := t) (nI (6 - q))
  unfold fb_X4_unit q_unF
  rw [if_pos rfl, o1', Option.bind_some]
  simp only [q_bsm]
  by_cases c1 : q_pk t (q_sk t a) = 33
  · have hlt := q_pk_in (t := t) (a := q_sk t a) (by rw [c1]; decide)
    by_cases c2 : 0 < q
    · rw [if_pos (show q_pk t (q_sk t a) = 33 ∧ 6 - q < 6 from ⟨c1, by omega⟩), if_neg (by exact q_10), if_pos c1, if_pos c2, nI_1]
      obtain ⟨I2, a1, a2, a3⟩ := hU c2 _ hlt _ _ (o3 c1 (by omega))
      have a1' : r1 I1 J T (nI (6 - q + 1)) 0 = some I2 := a1
      have hok := hUo c2 _ hlt
      rw [a1', Option.bind_some]
      cases hX : sU (q_sk t a + 1) with
      | inl f =>
        rw [hX] at a3
        obtain ⟨I3, b1, b2, b3⟩ := x_emit_f (n := n) (J := J) (T := T) 10033 I2 f (a3.1 f rfl)
        exact ⟨I3, b1, (o2.t a2).t b2, q_PR.l b3⟩
      | inr z =>
        rw [hX] at a3 hok
        obtain ⟨z1, z2, z3⟩ := hok.2 z rfl
        obtain ⟨I3, b1, b2, b3⟩ := x_emit (n := n) (J := J) (T := T) ht (a3.2 z rfl) (by rw [List.length_append]; omega) 10033
        refine ⟨I3, b1, (o2.t a2).t b2, q_PR.o ?_⟩
        rw [List.append_assoc] at b3
        exact b3
    · have hF := o4 c1 (by omega)
      have o6 : f_X4_opens n I1 J T 40 (nI (6 - q)) = _ := x_opens_f (n := n) (J := J) (T := T) (p := 40) (by omega) hF.ne _
      obtain ⟨I2, a1, a2, a3⟩ := (hsf.seq hcf) I1 _ hF
      have a1' : ((f_X4_sum n I1 J T (nI (6 - q))).bind fun I => f_X4_comparison n I J T (nI (6 - q))) = some I2 := a1
      rw [if_neg (show ¬ (q_pk t (q_sk t a) = 33 ∧ 6 - q < 6) from fun z => by omega), if_pos rfl, o6, Option.bind_some, if_pos c1, if_neg c2]
      simp only []
      rw [if_pos trivial]
      exact ⟨I2, a1', o2.t a2, q_PR.l a3⟩
  · have hS1 := o5 c1
    obtain ⟨I2, p1, p2, p3, p4, p5⟩ := x_opens (n := n) (J := J) (T := T) (p := 40) (d := 6 - q) hn ht (by omega) (by omega) (by omega) hS1
    rw [q_sk_sk ha] at p1 p3 p4 p5
    have p1' : f_X4_opens n I1 J T 40 (nI (6 - q)) = _ := p1
    rw [if_neg (show ¬ (q_pk t (q_sk t a) = 33 ∧ 6 - q < 6) from fun z => c1 z.1), if_pos rfl, p1', Option.bind_some, if_neg c1]
    simp only []
    by_cases c3 : q_pk t (q_sk t a) = 40
    · have hlt := q_pk_in (t := t) (a := q_sk t a) (by rw [c3]; decide)
      by_cases c2 : 0 < q
      · rw [if_pos (show q_pk t (q_sk t a) = 40 ∧ 6 - q < 6 from ⟨c3, by omega⟩), if_neg (by exact q_10), if_pos c3, if_pos c2, nI_1]
        exact ((hC c2 _ hlt).seq (fun r _ => x_expect_g (n := n) (J := J) (T := T) (p := 41) hn ht (by omega) (by omega) r) (x_expect_f (n := n) (J := J) (T := T) (p := 41) (by omega))).en (o2.t p2) (p3 c3 (by omega))
      · have hF := p4 c3 (by omega)
        obtain ⟨I3, a1, a2, a3⟩ := (hsf.seq hcf) I2 _ hF
        have a1' : ((f_X4_sum n I2 J T (nI (6 - q))).bind fun I => f_X4_comparison n I J T (nI (6 - q))) = some I3 := a1
        rw [if_neg (show ¬ (q_pk t (q_sk t a) = 40 ∧ 6 - q < 6) from fun z => by omega), if_pos rfl, if_pos c3, if_neg c2]
        exact ⟨I3, a1', (o2.t p2).t a2, q_PR.l a3⟩
    · have hS2 := p5 c3
      rw [if_neg (show ¬ (q_pk t (q_sk t a) = 40 ∧ 6 - q < 6) from fun z => c3 z.1), if_pos rfl, if_neg c3]
      have hall : q_X0 t (fun I => (f_X4_sum n I J T (nI (6 - q))).bind fun I => f_X4_comparison n I J T (nI (6 - q))) (q_sk t a) (q_rb (q_sum t q (q_sk t a)) (q_cmp t q)) := (x_sum (n := n) (J := J) (T := T) hn ht hq hsk.2).seq (fun r hr => by
        obtain ⟨k1, k2, k3⟩ := (q_sum_ok q (q_sk t a) hsk.2).2 r hr
        exact x_cmp (n := n) (J := J) (T := T) hn ht hq k2 k3) hcf
      have he : q_sum t q (q_sk t a) = q_sum t q a := q_sum_sk ha
      rw [he] at hall
      exact hall.en (o2.t p2) hS2
theorem x_unit_f (hn : 300 ≤ n) {r1 r2 r3 : q_U5} (d x2 : Int32) : q_XH t (fun I => fb_X4_unit n r1 r2 r3 I J T d x2) := by
  intro I f h
  show ∃ I', fb_X4_unit n r1 r2 r3 I J T d x2 = some I' ∧ _
  have hsf := x_sum_f (n := n) (J := J) (T := T) (t := t) hn d
  have hcf := x_cmp_f (n := n) (J := J) (T := T) (t := t) d
  have o1 : f_X4_opens n I J T 33 d = _ := x_opens_f (n := n) (J := J) (T := T) (p := 33) (by omega) h.ne d
  have o2 : f_X4_opens n I J T 40 d = _ := x_opens_f (n := n) (J := J) (T := T) (p := 40) (by omega) h.ne d
  unfold fb_X4_unit
  simp only [q_bsm]
  by_cases e : x2 = 0
  · obtain ⟨I2, a1, a2, a3⟩ := (hsf.seq hcf) I _ h
    have a1' : ((f_X4_sum n I J T d).bind fun I => f_X4_comparison n I J T d) = some I2 := a1
    rw [if_pos e, o1, Option.bind_some]
    simp only []
    rw [if_pos trivial, o2, Option.bind_some]
    simp only []
    rw [if_pos trivial]
    exact ⟨I2, a1', a2, a3⟩
  · rw [if_neg e]
    exact hcf I f h
theorem x_trth (hn : 300 ≤ n) (ht : q_tok t) {b : Nat} {x2 d : Int32} {r1 r2 r3 : q_U5} {r : Nat × List Int32 × q_Vl} {x : q_Rs} {U : Nat → q_Rs} (h1 : q_XG t b (fun I => r1 I J T d x2) r x) (hx : q_rok t b x) (hA : ∀ b, b ≤ t.1 → q_X0 t (fun I => r1 I J T d 0) b (U b)) (hAf : q_XH t (fun I => r1 I J T d 0)) (hok : ∀ b, b ≤ t.1 → q_rok t b (U b)) : q_XG t b (fun I => fb_X4_truth n r1 r2 r3 I J T d x2) r (q_andz t U x) := by
  have h160 := ht.1
  refine h1.seq (G := fun w1 => f_X4_truth_8 n r1 r2 r3 n w1 J T d 0) (fun z hz I c hc h => ?_) (fun I f h => ?_)
  · obtain ⟨k1, k2, k3⟩ := hx.2 z hz
    exact x_lpB (n := n) (J := J) (T := T) (op := q_oA) (p := 38) hn ht (by omega) (by omega) (fun x => decide_eq_true_iff) hA hAf hok (fun m I x3 => f_X4_truth_8 n r1 r2 r3 m I J T d x3) (fun m I x3 => rfl) (t.1 + 1) n 0 z I c (by omega) k2 (by omega) (by omega) (by omega) (Or.inl (by omega)) h
  · show ∃ I', f_X4_truth_8 n r1 r2 r3 n I J T d 0 = some I' ∧ _
    obtain ⟨k, hk⟩ : ∃ z, n = z + 1 := ⟨n - 1, by omega⟩
    have e : f_X4_truth_8 n r1 r2 r3 n I J T d 0 = f_X4_truth_8 n r1 r2 r3 (k + 1) I J T d 0 := by rw [← hk]
    have htf : f_X10_takes n I J T 38 = some (0, I) := x_takes_f (p := 38) (by omega) h.ne
    rw [e, f_X4_truth_8, if_neg (show ¬ (160 : Int32) ≤ 0 by decide), htf, Option.bind_some, if_pos rfl]
    exact ⟨I, rfl, q_fr3.r I, h⟩
theorem x_trth_f (hn : 300 ≤ n) {x2 d : Int32} {r1 r2 r3 : q_U5} (h1 : q_XH t (fun I => r1 I J T d x2)) : q_XH t (fun I => fb_X4_truth n r1 r2 r3 I J T d x2) := by
  refine h1.seq (G := fun w1 => f_X4_truth_8 n r1 r2 r3 n w1 J T d 0) (fun I f h => ?_)
  show ∃ I', f_X4_truth_8 n r1 r2 r3 n I J T d 0 = some I' ∧ _
  obtain ⟨k, hk⟩ : ∃ z, n = z + 1 := ⟨n - 1, by omega⟩
  have e : f_X4_truth_8 n r1 r2 r3 n I J T d 0 = f_X4_truth_8 n r1 r2 r3 (k + 1) I J T d 0 := by rw [← hk]
  have htf : f_X10_takes n I J T 38 = some (0, I) := x_takes_f (p := 38) (by omega) h.ne
  rw [e, f_X4_truth_8, if_neg (show ¬ (160 : Int32) ≤ 0 by decide), htf, Option.bind_some, if_pos rfl]
  exact ⟨I, rfl, q_fr3.r I, h⟩
theorem x_cndt (hn : 300 ≤ n) (ht : q_tok t) {b : Nat} {x2 d : Int32} {r1 r2 r3 : q_U5} {r : Nat × List Int32 × q_Vl} {x : q_Rs} {U : Nat → q_Rs} (h1 : q_XG t b (fun I => r2 I J T d x2) r x) (hx : q_rok t b x) (hA : ∀ b, b ≤ t.1 → q_X0 t (fun I => r2 I J T d 0) b (U b)) (hAf : q_XH t (fun I => r2 I J T d 0)) (hok : ∀ b, b ≤ t.1 → q_rok t b (U b)) : q_XG t b (fun I => fb_X4_condition n r1 r2 r3 I J T d x2) r (q_rb x (q_bl t q_oO U (t.1 + 1))) := by
  have h160 := ht.1
  refine h1.seq (G := fun w1 => f_X4_condition_8 n r1 r2 r3 n w1 J T d 0) (fun z hz I c hc h => ?_) (fun I f h => ?_)
  · obtain ⟨k1, k2, k3⟩ := hx.2 z hz
    exact x_lpB (n := n) (J := J) (T := T) (op := q_oO) (p := 124) hn ht (by omega) (by omega) (fun x => decide_eq_true_iff) hA hAf hok (fun m I x3 => f_X4_condition_8 n r1 r2 r3 m I J T d x3) (fun m I x3 => rfl) (t.1 + 1) n 0 z I c (by omega) k2 (by omega) (by omega) (by omega) (Or.inl (by omega)) h
  · show ∃ I', f_X4_condition_8 n r1 r2 r3 n I J T d 0 = some I' ∧ _
    obtain ⟨k, hk⟩ : ∃ z, n = z + 1 := ⟨n - 1, by omega⟩
    have e : f_X4_condition_8 n r1 r2 r3 n I J T d 0 = f_X4_condition_8 n r1 r2 r3 (k + 1) I J T d 0 := by rw [← hk]
    have htf : f_X10_takes n I J T 124 = some (0, I) := x_takes_f (p := 124) (by omega) h.ne
    rw [e, f_X4_condition_8, if_neg (show ¬ (160 : Int32) ≤ 0 by decide), htf, Option.bind_some, if_pos rfl]
    exact ⟨I, rfl, q_fr3.r I, h⟩
theorem x_cndt_f (hn : 300 ≤ n) {x2 d : Int32} {r1 r2 r3 : q_U5} (h1 : q_XH t (fun I => r2 I J T d x2)) : q_XH t (fun I => fb_X4_condition n r1 r2 r3 I J T d x2) := by
  refine h1.seq (G := fun w1 => f_X4_condition_8 n r1 r2 r3 n w1 J T d 0) (fun I f h => ?_)
  show ∃ I', f_X4_condition_8 n r1 r2 r3 n I J T d 0 = some I' ∧ _
  obtain ⟨k, hk⟩ : ∃ z, n = z + 1 := ⟨n - 1, by omega⟩
  have e : f_X4_condition_8 n r1 r2 r3 n I J T d 0 = f_X4_condition_8 n r1 r2 r3 (k + 1) I J T d 0 := by rw [← hk]
  have htf : f_X10_takes n I J T 124 = some (0, I) := x_takes_f (p := 124) (by omega) h.ne
  rw [e, f_X4_condition_8, if_neg (show ¬ (160 : Int32) ≤ 0 by decide), htf, Option.bind_some, if_pos rfl]
  exact ⟨I, rfl, q_fr3.r I, h⟩
/-- a condition over the units of a level -/
theorem x_cndL (hn : 300 ≤ n) (ht : q_tok t) {b L : Nat} {x2 d : Int32} {r : Nat × List Int32 × q_Vl} {x : q_Rs} {U : Nat → q_Rs} (h1 : q_XG t b (fun I => (fx_X4_unit n (L + 1)).1 I J T d x2) r x) (hx : q_rok t b x) (hA : ∀ b, b ≤ t.1 → q_X0 t (fun I => (fx_X4_unit n (L + 1)).1 I J T d 0) b (U b)) (hok : ∀ b, b ≤ t.1 → q_rok t b (U b)) : q_XG t b (fun I => (fx_X4_unit n (L + 3)).2.2 I J T d x2) r (q_ors t U x) := by
  have hAf : ∀ x2, q_XH t (fun I => (fx_X4_unit n (L + 1)).1 I J T d x2) := fun x2 => x_unit_f (n := n) (J := J) (T := T) (r1 := (fx_X4_unit n L).1) (r2 := (fx_X4_unit n L).2.1) (r3 := (fx_X4_unit n L).2.2) hn d x2
  have hT : q_XG t b (fun I => (fx_X4_unit n (L + 2)).2.1 I J T d x2) r (q_andz t U x) := x_trth (n := n) (J := J) (T := T) (r1 := (fx_X4_unit n (L + 1)).1) (r2 := (fx_X4_unit n (L + 1)).2.1) (r3 := (fx_X4_unit n (L + 1)).2.2) hn ht h1 hx hA (hAf 0) hok
  have hT0 : ∀ b, b ≤ t.1 → q_X0 t (fun I => (fx_X4_unit n (L + 2)).2.1 I J T d 0) b (q_andz t U (U b)) := fun b hb => (x_trth (n := n) (J := J) (T := T) (r := (b, [], fun _ => 0)) (r1 := (fx_X4_unit n (L + 1)).1) (r2 := (fx_X4_unit n (L + 1)).2.1) (r3 := (fx_X4_unit n (L + 1)).2.2) hn ht (hA b hb).g (hok b hb) hA (hAf 0) hok).z
  have hTf : q_XH t (fun I => (fx_X4_unit n (L + 2)).2.1 I J T d 0) := x_trth_f (n := n) (J := J) (T := T) (r1 := (fx_X4_unit n (L + 1)).1) (r2 := (fx_X4_unit n (L + 1)).2.1) (r3 := (fx_X4_unit n (L + 1)).2.2) hn (hAf 0)
  exact x_cndt (n := n) (J := J) (T := T) (r1 := (fx_X4_unit n (L + 2)).1) (r2 := (fx_X4_unit n (L + 2)).2.1) (r3 := (fx_X4_unit n (L + 2)).2.2) hn ht hT (q_ors_ok hok hx).1 hT0 hTf (fun b hb => (q_ors_ok hok (hok b hb)).1)
theorem x_cndL_f (hn : 300 ≤ n) (L : Nat) (d x2 : Int32) : q_XH t (fun I => (fx_X4_unit n (L + 3)).2.2 I J T d x2) :=
  x_cndt_f (n := n) (J := J) (T := T) (r1 := (fx_X4_unit n (L + 2)).1) (r2 := (fx_X4_unit n (L + 2)).2.1) (r3 := (fx_X4_unit n (L + 2)).2.2) hn (x_trth_f (n := n) (J := J) (T := T) (r1 := (fx_X4_unit n (L + 1)).1) (r2 := (fx_X4_unit n (L + 1)).2.1) (r3 := (fx_X4_unit n (L + 1)).2.2) hn (x_unit_f (n := n) (J := J) (T := T) (r1 := (fx_X4_unit n L).1) (r2 := (fx_X4_unit n L).2.1) (r3 := (fx_X4_unit n L).2.2) hn d x2))
theorem x_untq (hn : 300 ≤ n) (ht : q_tok t) : ∀ (q L : Nat), q ≤ 6 → 3 * q ≤ L → ∀ a, a ≤ t.1 → q_X0 t (fun I => (fx_X4_unit n (L + 1)).1 I J T (nI (6 - q)) 0) a (q_unt t q a) := by
  intro q
  induction q with
  | zero =>
    intro L hq hL a ha
    exact x_unF (n := n) (J := J) (T := T) (r1 := (fx_X4_unit n L).1) (r2 := (fx_X4_unit n L).2.1) (r3 := (fx_X4_unit n L).2.2) hn ht hq (fun h => absurd h (Nat.lt_irrefl _)) (fun h => absurd h (Nat.lt_irrefl _)) (fun h => absurd h (Nat.lt_irrefl _)) ha
  | succ q ih =>
    intro L hq hL a ha
    obtain ⟨L', rfl⟩ : ∃ z, L = z + 3 := ⟨L - 3, by omega⟩
    have e6 : 6 - (q + 1) + 1 = 6 - q := by omega
    exact x_unF (n := n) (J := J) (T := T) (sC := fun a => q_ors t (q_unt t q) (q_unt t q a)) (r1 := (fx_X4_unit n (L' + 3)).1) (r2 := (fx_X4_unit n (L' + 3)).2.1) (r3 := (fx_X4_unit n (L' + 3)).2.2) hn ht hq (fun _ b hb => by
      rw [e6]
      exact ih (L' + 2) (by omega) (by omega) b hb) (fun _ => q_unt_ok q) (fun _ b hb => by
      rw [e6]
      exact (x_cndL (n := n) (J := J) (T := T) (r := (b, [], fun _ => 0)) hn ht (ih L' (by omega) (by omega) b hb).g (q_unt_ok q b hb) (ih L' (by omega) (by omega)) (q_unt_ok q)).z) ha
/-- a condition, and one whose first sum has been read -/
theorem x_cnd (hn : 300 ≤ n) (ht : q_tok t) {a : Nat} (ha : a ≤ t.1) : q_X0 t (fun I => f_X4_condition n I J T 0 0) a (q_cnd t 6 a) := by
  obtain ⟨k, hk⟩ : ∃ z, n = z + 3 := ⟨n - 3, by omega⟩
  have hU := x_untq (n := n) (J := J) (T := T) hn ht 6 k (by omega) (by omega)
  have := (x_cndL (n := n) (J := J) (T := T) (L := k) (d := nI (6 - 6)) (r := (a, [], fun _ => 0)) hn ht (hU a ha).g (q_unt_ok 6 a ha) hU (q_unt_ok 6)).z
  rw [← hk] at this
  exact this
theorem x_cnd_b (hn : 300 ≤ n) (ht : q_tok t) {b : Nat} {r : Nat × List Int32 × q_Vl} (hbr : b < r.1) (hr : r.1 ≤ t.1) (hbl : b + r.2.1.length ≤ r.1) : q_XG t b (fun I => f_X4_condition n I J T 0 1) r (q_ors t (q_unt t 6) (q_cmp t 6 r)) := by
  obtain ⟨k, hk⟩ : ∃ z, n = z + 3 := ⟨n - 3, by omega⟩
  have hU := x_untq (n := n) (J := J) (T := T) hn ht 6 k (by omega) (by omega)
  have h1 : q_XG t b (fun I => (fx_X4_unit n (k + 1)).1 I J T (nI (6 - 6)) 1) r (q_cmp t 6 r) := by
    intro I c hc h
    have := x_cmp (n := n) (J := J) (T := T) (q := 6) hn ht (by omega) hr hbl I c hc h
    show ∃ I', fb_X4_unit n (fx_X4_unit n k).1 (fx_X4_unit n k).2.1 (fx_X4_unit n k).2.2 I J T (nI (6 - 6)) 1 = some I' ∧ _
    unfold fb_X4_unit
    simp only [q_bsm]
    rw [if_neg (by exact q_10)]
    exact this
  have := x_cndL (n := n) (J := J) (T := T) (L := k) (d := nI (6 - 6)) hn ht h1 (q_cmp_ok hbr hr hbl) hU (q_unt_ok 6)
  rw [← hk] at this
  exact this
theorem x_cnd_f (hn : 300 ≤ n) (d x2 : Int32) : q_XH t (fun I => f_X4_condition n I J T d x2) := by
  obtain ⟨k, hk⟩ : ∃ z, n = z + 3 := ⟨n - 3, by omega⟩
  have := x_cndL_f (n := n) (J := J) (T := T) (t := t) hn k d x2
  rw [← hk] at this
  exact this
end QW
