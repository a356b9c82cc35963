/-! ===== the loops and the atoms of a rule, the class ===== -/
section QW
variable {n : Nat} {J : Nat → Nat → Int64} {T : Nat} {t : q_Tx}
theorem q_sg_nI {p : Nat} (h : p ≠ 0) : q_sg p = nI p := by
  unfold q_sg
  rw [if_neg h]
theorem x_lpA (hn : 300 ≤ n) (ht : q_tok t) {op : Nat → Bool} {X : Nat → q_Rs} (h0 : op 0 = false) {A : (Nat → Nat → Int32) → Option (Nat → Nat → Int32)} (hA : ∀ b, b ≤ t.1 → q_X0 t A b (X b)) (hAf : q_XH t A) (hok : ∀ b, b ≤ t.1 → q_rok t b (X b)) (L : Nat → (Nat → Nat → Int32) → Int32 → Int32 → Option (Nat → Nat → Int32)) (hno : ∀ m I p x3, p < 256 → op p = false → L (m + 1) I (q_sg p) x3 = some I) (hyes : ∀ m I p x3, p < 256 → op p = true → ¬ 160 ≤ x3 → L (m + 1) I (q_sg p) x3 = (A (am_u I 1 2 (I 1 2 + 1))).bind fun w1 => (f_X4_emit n w1 J T (10000 + q_sg p)).bind fun w2 => (f_X10_sign n w2 J T).bind fun w3 => L m w3.2 w3.1 (x3 + 1)) : ∀ (m k x3 : Nat) (r : Nat × List Int32 × q_Vl) (I : Nat → Nat → Int32) (c : List Int32), c.length + r.2.1.length ≤ r.1 → r.1 ≤ t.1 → x3 + (t.1 - r.1) ≤ 160 → t.1 - r.1 < m → t.1 - r.1 + 1 < k → q_PS I t (q_sk t r.1) (c ++ r.2.1) → ∃ I', L k I (q_sg (q_pk t (q_sk t r.1))) (nI x3) = some I' ∧ q_fr3 I I' ∧ q_PR I' t c (q_bl t op X m r) := by
  intro m
  induction m with
  | zero => intro k x3 r I c _ _ _ h; omega
  | succ m ih =>
    intro k x3 r I c hc hr hx hm hk h
    have h160 := ht.1
    have hpl := (q_pk_lt ht (q_sk t r.1)).1
    have hs := q_sk_le (t := t) hr
    obtain ⟨k', rfl⟩ : ∃ z, k = z + 1 := ⟨k - 1, by omega⟩
    unfold q_bl
    by_cases c1 : op (q_pk t (q_sk t r.1)) = true
    · have hp0 : q_pk t (q_sk t r.1) ≠ 0 := fun z => by rw [z, h0] at c1; cases c1
      have hlt := q_pk_in hp0
      have hx3 : ¬ (160 : Int32) ≤ nI x3 := nI_ge (b := 160) (by omega) (by omega)
      have e12 : am_u I 1 2 (I 1 2 + 1) = am_u I 1 2 (nI (q_sk t r.1 + 1)) := by rw [h.2.2.1.2.2.1, nI_1]
      have hS1 : q_PS (am_u I 1 2 (nI (q_sk t r.1 + 1))) t (q_sk t r.1 + 1) (c ++ r.2.1) := h.put h.2.2.1 (fun _ _ _ => rfl) hlt
      obtain ⟨I1, a1, a2, a3⟩ := hA _ hlt _ _ hS1
      have hfr0 : q_fr3 I (am_u I 1 2 (nI (q_sk t r.1 + 1))) := fun x y h1 _ _ => q_fu1 x y h1
      rw [hyes k' I _ (nI x3) hpl c1 hx3, e12, a1, Option.bind_some, if_pos c1, q_sg_nI hp0]
      have hok1 := hok _ hlt
      cases hX : X (q_sk t r.1 + 1) with
      | inl f =>
        rw [hX] at a3
        have hF := a3.1 f rfl
        obtain ⟨I2, b1, b2, b3⟩ := x_emit_f (n := n) (J := J) (T := T) (10000 + nI (q_pk t (q_sk t r.1))) I1 f hF
        have b1' : f_X4_emit n I1 J T (10000 + nI (q_pk t (q_sk t r.1))) = some I2 := b1
        obtain ⟨k2, rfl⟩ : ∃ z, k' = z + 1 := ⟨k' - 1, by omega⟩
        rw [b1', Option.bind_some, x_sign_f b3.ne, Option.bind_some]
        have e0 : L (k2 + 1) I2 (-1) (nI x3 + 1) = some I2 := hno k2 I2 0 _ (by omega) h0
        exact ⟨I2, e0, (hfr0.t a2).t b2, q_PR.l b3⟩
      | inr z =>
        rw [hX] at a3 hok1
        obtain ⟨z1, z2, z3⟩ := hok1.2 z rfl
        have hZ := a3.2 z rfl
        obtain ⟨I2, b1, b2, b3⟩ := x_emit (n := n) (J := J) (T := T) ht hZ (by rw [List.length_append, List.length_append]; omega) (10000 + nI (q_pk t (q_sk t r.1)))
        obtain ⟨I3, s1, s2, s3⟩ := x_sign_s (n := n) (J := J) (T := T) hn ht b3
        rw [b1, Option.bind_some, s1, Option.bind_some, nI_1]
        have hlist : c ++ r.2.1 ++ z.2.1 ++ [10000 + nI (q_pk t (q_sk t r.1))] = c ++ (r.2.1 ++ (z.2.1 ++ [10000 + nI (q_pk t (q_sk t r.1))])) := by rw [List.append_assoc, List.append_assoc]
        rw [hlist] at s3
        obtain ⟨I', f1, f2, f3⟩ := ih k' (x3 + 1) (z.1, r.2.1 ++ (z.2.1 ++ [10000 + nI (q_pk t (q_sk t r.1))]), fun E => q_op (q_pk t (q_sk t r.1)) (r.2.2 E) (z.2.2 E)) I3 c (by
          show c.length + (r.2.1 ++ (z.2.1 ++ [_])).length ≤ z.1
          rw [List.length_append, List.length_append, List.length_singleton]
          omega) z2 (by show x3 + 1 + (t.1 - z.1) ≤ 160; omega) (by show t.1 - z.1 < m; omega) (by show t.1 - z.1 + 1 < k'; omega) s3
        exact ⟨I', f1, (((hfr0.t a2).t b2).t s2).t f2, f3⟩
    · have c1' : op (q_pk t (q_sk t r.1)) = false := by
        cases ho : op (q_pk t (q_sk t r.1)) with
        | true => exact absurd ho c1
        | false => rfl
      rw [hno k' I _ _ hpl c1', if_neg c1]
      exact ⟨I, rfl, q_fr3.r I, q_PR.o h⟩
theorem x_lpB (hn : 300 ≤ n) (ht : q_tok t) {op : Nat → Bool} {p : Nat} (hp : p < 256) (hp0 : p ≠ 0) (hop : ∀ x, op x = true ↔ x = p) {X : Nat → q_Rs} {A : (Nat → Nat → Int32) → Option (Nat → Nat → Int32)} (hA : ∀ b, b ≤ t.1 → q_X0 t A b (X b)) (hAf : q_XH t A) (hok : ∀ b, b ≤ t.1 → q_rok t b (X b)) (L : Nat → (Nat → Nat → Int32) → Int32 → Option (Nat → Nat → Int32)) (hL : ∀ m I x3, L (m + 1) I x3 = if 160 ≤ x3 then some I else (f_X10_takes n I J T (nI p)).bind fun w2 => if w2.1 = 0 then some w2.2 else (A w2.2).bind fun w4 => (f_X4_emit n w4 J T (10000 + nI p)).bind fun w5 => L m w5 (x3 + 1)) : ∀ (m k x3 : Nat) (r : Nat × List Int32 × q_Vl) (I : Nat → Nat → Int32) (c : List Int32), c.length + r.2.1.length ≤ r.1 → r.1 ≤ t.1 → x3 + (t.1 - r.1) ≤ 160 → t.1 - r.1 < m → t.1 - r.1 + 1 < k → (x3 < 160 ∨ q_sk t r.1 = r.1) → q_PS I t r.1 (c ++ r.2.1) → ∃ I', L k I (nI x3) = some I' ∧ q_fr3 I I' ∧ q_PR I' t c (q_bl t op X m r) := by
  intro m
  induction m with
  | zero => intro k x3 r I c _ _ _ h; omega
  | succ m ih =>
    intro k x3 r I c hc hr hx hm hk hx3 h
    have h160 := ht.1
    have hpl := (q_pk_lt ht (q_sk t r.1)).1
    have hs := q_sk_le (t := t) hr
    obtain ⟨k', rfl⟩ : ∃ z, k = z + 1 := ⟨k - 1, by omega⟩
    rw [hL]
    unfold q_bl
    by_cases ce : x3 < 160
    · obtain ⟨I1, e1, e2, e3⟩ := x_takes (n := n) (J := J) (T := T) (p := p) hn ht hp hp0 h.1 h.2.2.1
      rw [if_neg (show ¬ (160 : Int32) ≤ nI x3 from nI_ge (b := 160) ce (by omega)), e1, Option.bind_some]
      simp only []
      by_cases c1 : q_pk t (q_sk t r.1) = p
      · have hlt := q_pk_in (t := t) (a := q_sk t r.1) (by rw [c1]; exact hp0)
        rw [if_pos c1] at e2
        have hS1 : q_PS I1 t (q_sk t r.1 + 1) (c ++ r.2.1) := h.at hlt (by omega) e2 e3
        obtain ⟨I2, a1, a2, a3⟩ := hA _ hlt _ _ hS1
        have hfr0 : q_fr3 I I1 := fun x y h1 _ _ => e3 x y h1
        rw [if_pos c1, if_neg (by exact q_10), a1, Option.bind_some, if_pos ((hop _).mpr c1), c1]
        have hok1 := hok _ hlt
        cases hX : X (q_sk t r.1 + 1) with
        | inl f =>
          rw [hX] at a3
          have hF := a3.1 f rfl
          obtain ⟨I3, b1, b2, b3⟩ := x_emit_f (n := n) (J := J) (T := T) (10000 + nI p) I2 f hF
          have b1' : f_X4_emit n I2 J T (10000 + nI p) = some I3 := b1
          obtain ⟨k2, rfl⟩ : ∃ z, k' = z + 1 := ⟨k' - 1, by omega⟩
          rw [b1', Option.bind_some, hL]
          have e0 : (if 160 ≤ nI x3 + 1 then some I3 else (f_X10_takes n I3 J T (nI p)).bind fun w2 => if w2.1 = 0 then some w2.2 else (A w2.2).bind fun w4 => (f_X4_emit n w4 J T (10000 + nI p)).bind fun w5 => L k2 w5 (nI x3 + 1 + 1)) = some I3 := by
            rw [x_takes_f hp b3.ne, Option.bind_some]
            by_cases cc : 160 ≤ nI x3 + 1
            · rw [if_pos cc]
            · rw [if_neg cc, if_pos rfl]
          exact ⟨I3, e0, (hfr0.t a2).t b2, q_PR.l b3⟩
        | inr z =>
          rw [hX] at a3 hok1
          obtain ⟨z1, z2, z3⟩ := hok1.2 z rfl
          have hZ := a3.2 z rfl
          obtain ⟨I3, b1, b2, b3⟩ := x_emit (n := n) (J := J) (T := T) ht hZ (by rw [List.length_append, List.length_append]; omega) (10000 + nI p)
          rw [b1, Option.bind_some, nI_1]
          have hlist : c ++ r.2.1 ++ z.2.1 ++ [10000 + nI p] = c ++ (r.2.1 ++ (z.2.1 ++ [10000 + nI p])) := by rw [List.append_assoc, List.append_assoc]
          rw [hlist] at b3
          obtain ⟨I', f1, f2, f3⟩ := ih k' (x3 + 1) (z.1, r.2.1 ++ (z.2.1 ++ [10000 + nI p]), fun E => q_op p (r.2.2 E) (z.2.2 E)) I3 c (by
            show c.length + (r.2.1 ++ (z.2.1 ++ [_])).length ≤ z.1
            rw [List.length_append, List.length_append, List.length_singleton]
            omega) z2 (by show x3 + 1 + (t.1 - z.1) ≤ 160; omega) (by show t.1 - z.1 < m; omega) (by show t.1 - z.1 + 1 < k'; omega) (by
              show x3 + 1 < 160 ∨ q_sk t z.1 = z.1
              by_cases cz : x3 + 1 < 160
              · exact Or.inl cz
              · exact Or.inr (q_skf_0 (fun w => by omega))) b3
          exact ⟨I', f1, (((hfr0.t a2).t b2)).t f2, f3⟩
      · rw [if_neg c1] at e2
        rw [if_neg c1, if_pos rfl, if_neg (fun z => c1 ((hop _).mp z))]
        exact ⟨I1, rfl, fun x y h1 _ _ => e3 x y h1, q_PR.o (h.at hs.2 hs.1 e2 e3)⟩
    · have hrt : r.1 = t.1 := by omega
      have hsk : q_sk t r.1 = r.1 := q_skf_0 (fun w => by omega)
      have hpk : q_pk t (q_sk t r.1) = 0 := by unfold q_pk; rw [if_neg (by omega)]
      have c160 : x3 = 160 := by omega
      rw [if_pos (show (160 : Int32) ≤ nI x3 by rw [c160]; decide), if_neg (fun z => hp0 (by rw [hop, hpk] at z; exact z.symm)), hsk]
      exact ⟨I, rfl, q_fr3.r I, q_PR.o h⟩
/-- a letter -/
theorem x_letter {I : Nat → Nat → Int32} {p : Nat} (hp : p < 256) : f_X4_isLetter n I J T (q_sg p) = some (if q_ltr p = true then 1 else 0) := by
  unfold f_X4_isLetter q_ltr
  have e1 : (q_sg p = 107) ↔ p = 107 := q_sg_eq (x := 107) hp (by omega) (by omega)
  have e2 : (q_sg p = 109) ↔ p = 109 := q_sg_eq (x := 109) hp (by omega) (by omega)
  have e3 : (q_sg p = 110) ↔ p = 110 := q_sg_eq (x := 110) hp (by omega) (by omega)
  have e4 : (q_sg p = 112) ↔ p = 112 := q_sg_eq (x := 112) hp (by omega) (by omega)
  have e5 : (q_sg p = 115) ↔ p = 115 := q_sg_eq (x := 115) hp (by omega) (by omega)
  have e6 : (q_sg p = 119) ↔ p = 119 := q_sg_eq (x := 119) hp (by omega) (by omega)
  simp only [e1, e2, e3, e4, e5, e6, Bool.or_eq_true, decide_eq_true_eq]
  by_cases k1 : p = 107
  · simp [k1]
  by_cases k2 : p = 109
  · simp [k2]
  by_cases k3 : p = 110
  · simp [k3]
  by_cases k4 : p = 112
  · simp [k4]
  by_cases k5 : p = 115
  · simp [k5]
  by_cases k6 : p = 119
  · simp [k6]
  simp [k1, k2, k3, k4, k5, k6]
theorem x_wi_sg {I : Nat → Nat → Int32} {p : Nat} (hp : p < 256) : f_X11_isWithin n I J T (q_sg p) 48 57 = some (if 48 ≤ p ∧ p ≤ 57 then 1 else 0) := by
  by_cases h : p = 0
  · subst h
    have : f_X11_isWithin n I J T (-1) 48 57 = some 0 := by
      unfold f_X11_isWithin
      rw [if_pos (show (-1 : Int32) < 48 by decide)]
    exact this
  · rw [q_sg_nI h]
    exact x_wi (n := n) (I := I) (J := J) (T := T) (v := p) (lo := 48) (hi := 57) (by omega) (by omega) (by omega)
end QW
