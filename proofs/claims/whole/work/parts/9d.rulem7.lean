/-! ===== the whole of a rule's text, the reference ===== -/
section QW
variable {n : Nat} {J : Nat → Nat → Int64} {T : Nat} {t : q_Tx}
theorem m_grL (hn : 300 ≤ n) (ht : q_tok t) {E : Nat → Int32} : ∀ (m k a : Nat) (s : List Int32) (l : List (q_Vl × q_Vl)) (I : Nat → Nat → Int32), t.1 - a < m → t.1 - a + 1 < k → q_MQ I T t E a (q_ff E l) → ∃ I', f_X12_goThrough_32 n k I J T = some (I', T) ∧ q_mq I I' ∧ match q_rul t m a s l with
    | .inl f => f ≤ t.1 ∧ I' 53 11 = nI f
    | .inr r => I' 53 11 = -1 ∧ q_FS I' (q_ff E r.2) := by
  intro m
  induction m with
  | zero => intro k a s l I h; omega
  | succ m ih =>
    intro k a s l I hm hk h
    have h160 := ht.1
    have ha := h.1.1
    have hsk := q_sk_le (t := t) ha
    have hpl := (q_pk_lt ht (q_sk t a)).1
    obtain ⟨k', rfl⟩ : ∃ z, k = z + 1 := ⟨k - 1, by omega⟩
    obtain ⟨I1, e1, e2, e3⟩ := m_look_s (n := n) (J := J) (T := T) hn ht h.1
    rw [f_X12_goThrough_32, h.1.2.1.2.2, if_pos rfl, e1, Option.bind_some]
    simp only []
    unfold q_rul
    have f59 : (q_sg (q_pk t (q_sk t a)) = 59) ↔ q_pk t (q_sk t a) = 59 := q_sg_eq (x := 59) hpl (by omega) (by omega)
    have hm1 : (q_sg (q_pk t (q_sk t a)) = -1) ↔ q_pk t (q_sk t a) = 0 := q_sg_m1 hpl
    by_cases c : q_pk t (q_sk t a) = 59
    · have hlt := q_pk_in (t := t) (a := q_sk t a) (by rw [c]; decide)
      obtain ⟨I2, g1, g2, g3⟩ := m_cla (n := n) (J := J) hn ht (h.of (e3.nx hlt) (e2.t (q_mk.a I1 _)).mr)
      have hok := q_cla_ok (t := t) (a := q_sk t a + 1) hlt
      rw [if_pos (f59.mpr c), e3.2.1.2.1, nI_1, g1, Option.bind_some, if_pos c]
      cases hq : q_cla t (q_sk t a + 1) with
      | inl f =>
        rw [hq] at g3
        obtain ⟨f1, f2⟩ := g3.1 f rfl
        obtain ⟨k2, rfl⟩ : ∃ z, k' = z + 1 := ⟨k' - 1, by omega⟩
        have hne : I2 53 11 ≠ -1 := by rw [f2]; exact q_nIm1 (by omega)
        rw [f_X12_goThrough_32, if_neg hne]
        unfold f_X12_goThrough_66
        rw [if_neg hne]
        exact ⟨I2, rfl, (e2.t (q_mk.a I1 _)).mr.q.t g2, f1, f2⟩
      | inr z =>
        rw [hq] at g3
        obtain ⟨z1, z2, z3⟩ := hok.2 z hq
        have hz := g3.2 z rfl
        have hff : q_f1 (q_ff E l) (z.2 E) (z.1.2.2 E) = q_ff E (l ++ [(z.2, z.1.2.2)]) := (q_ff_app E (z.2, z.1.2.2) l).symm
        rw [hff] at hz
        obtain ⟨I', f1, f2, f3⟩ := ih k' z.1.1 (s ++ z.1.2.1) (l ++ [(z.2, z.1.2.2)]) I2 (by omega) (by omega) hz
        exact ⟨I', f1, ((e2.t (q_mk.a I1 _)).mr.q.t g2).t f2, f3⟩
    · obtain ⟨I2, k1, k2, k3⟩ := m_look_s (n := n) (J := J) (T := T) hn ht e3
      rw [q_sk_sk ha] at k1 k3
      rw [if_neg (fun z => c (f59.mp z)), if_neg c]
      unfold f_X12_goThrough_66
      rw [e3.2.1.2.2, if_pos rfl, k1, Option.bind_some]
      simp only [hm1]
      by_cases c0 : q_pk t (q_sk t a) = 0
      · rw [if_pos c0, if_pos c0]
        exact ⟨I2, rfl, (e2.t k2).mr.q, k3.2.1.2.2, h.2.2.of (e2.t k2).mr⟩
      · rw [if_neg c0, if_neg c0, m_fails k3.2.1, Option.bind_some]
        exact ⟨_, rfl, ((e2.t k2).t (q_mk.w I2 _)).mr.q, hsk.2, (k3.2.1.wr _).2.2⟩
/-- a rule's text gone through, over the rules kept -/
theorem m_gr (hn : 300 ≤ n) (ht : q_tok t) {o : Nat} (ho : o + t.1 ≤ 640) {I : Nat → Nat → Int32} {E : Nat → Int32} (hE : ∀ p, q_ltr p = true → I 57 p = E p) (hb : ∀ i, i < t.1 → I 55 (o + i) = q_by (t.2 i)) : ∃ I', f_X12_goThrough n I J T (nI o) (nI t.1) = some (I', 55) ∧ (∀ x y, ¬ (x = 53 ∧ 8 ≤ y ∧ y ≤ 17) → I' x y = I x y) ∧ match q_rule t with
    | .inl f => f ≤ t.1 ∧ I' 53 11 = nI f
    | .inr r => I' 53 11 = -1 ∧ I' 53 14 = q_wth E r.2 := by
  have h160 := ht.1
  obtain ⟨I0, hI0⟩ : ∃ z, z = am_u (am_u (am_u (am_u (am_u (am_u (am_u (am_u I 53 8 (nI o)) 53 9 (nI t.1)) 53 10 0) 53 11 (-1)) 53 13 121) 53 12 0) 53 17 0) 53 14 0 := ⟨_, rfl⟩
  have hf0 : ∀ x y, ¬ (x = 53 ∧ 8 ≤ y ∧ y ≤ 17) → I0 x y = I x y := fun x y z => by
    rw [hI0]
    unfold am_u
    rw [if_neg (by omega), if_neg (by omega), if_neg (by omega), if_neg (by omega), if_neg (by omega), if_neg (by omega), if_neg (by omega), if_neg (by omega)]
  have hQ : q_MQ I0 55 t E 0 (q_ff E []) := by
    refine ⟨⟨Nat.zero_le _, ⟨⟨o, ?_, ?_, ?_⟩, ?_, ?_⟩, ?_, fun p hp => by rw [hf0 57 p (by omega)]; exact hE p hp⟩, ?_, ?_, ?_⟩
    · rw [hI0]; simp [am_u]
    · rw [hI0]; simp [am_u]
    · exact Or.inr ⟨rfl, ho, fun i hi => by rw [hf0 55 _ (by omega)]; exact hb i hi⟩
    · rw [hI0]; simp [am_u]; rfl
    · rw [hI0]; simp [am_u]
    · rw [hI0]; simp [am_u]; rfl
    · rw [hI0]; simp [am_u]
    · rw [hI0]; simp [am_u]
    · rw [hI0]; simp [am_u]
  obtain ⟨I2, g1, g2, g3⟩ := m_cla (n := n) (J := J) hn ht hQ
  have hok := q_cla_ok (t := t) (a := 0) (Nat.zero_le _)
  unfold f_X12_goThrough f_X12_opens
  rw [Option.bind_some]
  simp only []
  rw [← hI0, g1, Option.bind_some]
  unfold q_rule
  cases hq : q_cla t 0 with
  | inl f =>
    rw [hq] at g3
    obtain ⟨f1, f2⟩ := g3.1 f rfl
    have hne : I2 53 11 ≠ -1 := by rw [f2]; exact q_nIm1 (by omega)
    obtain ⟨k, hk⟩ : ∃ z, n = z + 1 := ⟨n - 1, by omega⟩
    have e : f_X12_goThrough_32 n n I2 J 55 = f_X12_goThrough_32 n (k + 1) I2 J 55 := by rw [← hk]
    rw [e, f_X12_goThrough_32, if_neg hne]
    unfold f_X12_goThrough_66
    rw [if_neg hne]
    exact ⟨I2, rfl, fun x y z => by rw [g2 x y (by omega)]; exact hf0 x y z, f1, f2⟩
  | inr z =>
    rw [hq] at g3
    obtain ⟨z1, z2, z3⟩ := hok.2 z hq
    have hz := g3.2 z rfl
    have hff : q_f1 (q_ff E []) (z.2 E) (z.1.2.2 E) = q_ff E [(z.2, z.1.2.2)] := (q_ff_app _ (z.2, z.1.2.2) []).symm
    rw [hff] at hz
    obtain ⟨I', f1, f2, f3⟩ := m_grL (n := n) (J := J) hn ht 200 n z.1.1 z.1.2.1 [(z.2, z.1.2.2)] I2 (by omega) (by omega) hz
    refine ⟨I', f1, fun x y w => by rw [f2 x y (by omega), g2 x y (by omega)]; exact hf0 x y w, ?_⟩
    simp only []
    cases hr : q_rul t 200 z.1.1 z.1.2.1 [(z.2, z.1.2.2)] with
    | inl f =>
      rw [hr] at f3
      exact f3
    | inr r =>
      rw [hr] at f3
      obtain ⟨h1, h2⟩ := f3
      refine ⟨h1, ?_⟩
      show I' 53 14 = q_wth E r.2
      rw [← q_ff_w]
      cases ho : q_ff E r.2 with
      | none => rw [ho] at h2; exact h2.2
      | some v => rw [ho] at h2; exact h2.2
theorem m_grL_v2 (hn : 300 ≤ n) (ht : q_tok t) {E : Nat → Int32} : ∀ (m k a : Nat) (s : List Int32) (l : List (q_Vl × q_Vl)) (I : Nat → Nat → Int32), t.1 - a < m → t.1 - a + 1 < k → q_MQ I T t E a (q_ff E l) → ∃ I', f_X12_goThrough_v2_32 n k I J T = some (I', T) ∧ q_mq I I' ∧ match q_rul t m a s l with
    | .inl f => f ≤ t.1 ∧ I' 53 11 = nI f
    | .inr r => I' 53 11 = -1 ∧ q_FS I' (q_ff E r.2) := by
  intro m
  induction m with
  | zero => intro k a s l I h; omega
  | succ m ih =>
    intro k a s l I hm hk h
    have h160 := ht.1
    have ha := h.1.1
    have hsk := q_sk_le (t := t) ha
    have hpl := (q_pk_lt ht (q_sk t a)).1
    obtain ⟨k', rfl⟩ : ∃ z, k = z + 1 := ⟨k - 1, by omega⟩
    obtain ⟨I1, e1, e2, e3⟩ := m_look_s (n := n) (J := J) (T := T) hn ht h.1
    rw [f_X12_goThrough_v2_32, h.1.2.1.2.2, if_pos rfl, e1, Option.bind_some]
    simp only []
    unfold q_rul
    have f59 : (q_sg (q_pk t (q_sk t a)) = 59) ↔ q_pk t (q_sk t a) = 59 := q_sg_eq (x := 59) hpl (by omega) (by omega)
    have hm1 : (q_sg (q_pk t (q_sk t a)) = -1) ↔ q_pk t (q_sk t a) = 0 := q_sg_m1 hpl
    by_cases c : q_pk t (q_sk t a) = 59
    · have hlt := q_pk_in (t := t) (a := q_sk t a) (by rw [c]; decide)
      obtain ⟨I2, g1, g2, g3⟩ := m_cla (n := n) (J := J) hn ht (h.of (e3.nx hlt) (e2.t (q_mk.a I1 _)).mr)
      have hok := q_cla_ok (t := t) (a := q_sk t a + 1) hlt
      rw [if_pos (f59.mpr c), e3.2.1.2.1, nI_1, g1, Option.bind_some, if_pos c]
      cases hq : q_cla t (q_sk t a + 1) with
      | inl f =>
        rw [hq] at g3
        obtain ⟨f1, f2⟩ := g3.1 f rfl
        obtain ⟨k2, rfl⟩ : ∃ z, k' = z + 1 := ⟨k' - 1, by omega⟩
        have hne : I2 53 11 ≠ -1 := by rw [f2]; exact q_nIm1 (by omega)
        rw [f_X12_goThrough_v2_32, if_neg hne]
        unfold f_X12_goThrough_v2_66
        rw [if_neg hne]
        exact ⟨I2, rfl, (e2.t (q_mk.a I1 _)).mr.q.t g2, f1, f2⟩
      | inr z =>
        rw [hq] at g3
        obtain ⟨z1, z2, z3⟩ := hok.2 z hq
        have hz := g3.2 z rfl
        have hff : q_f1 (q_ff E l) (z.2 E) (z.1.2.2 E) = q_ff E (l ++ [(z.2, z.1.2.2)]) := (q_ff_app E (z.2, z.1.2.2) l).symm
        rw [hff] at hz
        obtain ⟨I', f1, f2, f3⟩ := ih k' z.1.1 (s ++ z.1.2.1) (l ++ [(z.2, z.1.2.2)]) I2 (by omega) (by omega) hz
        exact ⟨I', f1, ((e2.t (q_mk.a I1 _)).mr.q.t g2).t f2, f3⟩
    · obtain ⟨I2, k1, k2, k3⟩ := m_look_s (n := n) (J := J) (T := T) hn ht e3
      rw [q_sk_sk ha] at k1 k3
      rw [if_neg (fun z => c (f59.mp z)), if_neg c]
      unfold f_X12_goThrough_v2_66
      rw [e3.2.1.2.2, if_pos rfl, k1, Option.bind_some]
      simp only [hm1]
      by_cases c0 : q_pk t (q_sk t a) = 0
      · rw [if_pos c0, if_pos c0]
        exact ⟨I2, rfl, (e2.t k2).mr.q, k3.2.1.2.2, h.2.2.of (e2.t k2).mr⟩
      · rw [if_neg c0, if_neg c0, m_fails k3.2.1, Option.bind_some]
        exact ⟨_, rfl, ((e2.t k2).t (q_mk.w I2 _)).mr.q, hsk.2, (k3.2.1.wr _).2.2⟩
/-- a rule's text gone through, over the tape -/
theorem m_gr_v2 (hn : 300 ≤ n) (ht : q_tok t) {o : Nat} (ho : o + t.1 ≤ 160) {I : Nat → Nat → Int32} {E : Nat → Int32} (hE : ∀ p, q_ltr p = true → I 57 p = E p) (hb : ∀ i, i < t.1 → I 54 (o + i) = q_by (t.2 i)) : ∃ I', f_X12_goThrough_v2 n I J T (nI o) (nI t.1) = some (I', 54) ∧ (∀ x y, ¬ (x = 53 ∧ 8 ≤ y ∧ y ≤ 17) → I' x y = I x y) ∧ match q_rule t with
    | .inl f => f ≤ t.1 ∧ I' 53 11 = nI f
    | .inr r => I' 53 11 = -1 ∧ I' 53 14 = q_wth E r.2 := by
  have h160 := ht.1
  obtain ⟨I0, hI0⟩ : ∃ z, z = am_u (am_u (am_u (am_u (am_u (am_u (am_u (am_u I 53 8 (nI o)) 53 9 (nI t.1)) 53 10 0) 53 11 (-1)) 53 13 121) 53 12 0) 53 17 0) 53 14 0 := ⟨_, rfl⟩
  have hf0 : ∀ x y, ¬ (x = 53 ∧ 8 ≤ y ∧ y ≤ 17) → I0 x y = I x y := fun x y z => by
    rw [hI0]
    unfold am_u
    rw [if_neg (by omega), if_neg (by omega), if_neg (by omega), if_neg (by omega), if_neg (by omega), if_neg (by omega), if_neg (by omega), if_neg (by omega)]
  have hQ : q_MQ I0 54 t E 0 (q_ff E []) := by
    refine ⟨⟨Nat.zero_le _, ⟨⟨o, ?_, ?_, ?_⟩, ?_, ?_⟩, ?_, fun p hp => by rw [hf0 57 p (by omega)]; exact hE p hp⟩, ?_, ?_, ?_⟩
    · rw [hI0]; simp [am_u]
    · rw [hI0]; simp [am_u]
    · exact Or.inl ⟨rfl, ho, fun i hi => by rw [hf0 54 _ (by omega)]; exact hb i hi⟩
    · rw [hI0]; simp [am_u]; rfl
    · rw [hI0]; simp [am_u]
    · rw [hI0]; simp [am_u]; rfl
    · rw [hI0]; simp [am_u]
    · rw [hI0]; simp [am_u]
    · rw [hI0]; simp [am_u]
  obtain ⟨I2, g1, g2, g3⟩ := m_cla (n := n) (J := J) hn ht hQ
  have hok := q_cla_ok (t := t) (a := 0) (Nat.zero_le _)
  unfold f_X12_goThrough_v2 f_X12_opens_v2
  rw [Option.bind_some]
  simp only []
  rw [← hI0, g1, Option.bind_some]
  unfold q_rule
  cases hq : q_cla t 0 with
  | inl f =>
    rw [hq] at g3
    obtain ⟨f1, f2⟩ := g3.1 f rfl
    have hne : I2 53 11 ≠ -1 := by rw [f2]; exact q_nIm1 (by omega)
    obtain ⟨k, hk⟩ : ∃ z, n = z + 1 := ⟨n - 1, by omega⟩
    have e : f_X12_goThrough_v2_32 n n I2 J 54 = f_X12_goThrough_v2_32 n (k + 1) I2 J 54 := by rw [← hk]
    rw [e, f_X12_goThrough_v2_32, if_neg hne]
    unfold f_X12_goThrough_v2_66
    rw [if_neg hne]
    exact ⟨I2, rfl, fun x y z => by rw [g2 x y (by omega)]; exact hf0 x y z, f1, f2⟩
  | inr z =>
    rw [hq] at g3
    obtain ⟨z1, z2, z3⟩ := hok.2 z hq
    have hz := g3.2 z rfl
    have hff : q_f1 (q_ff E []) (z.2 E) (z.1.2.2 E) = q_ff E [(z.2, z.1.2.2)] := (q_ff_app _ (z.2, z.1.2.2) []).symm
    rw [hff] at hz
    obtain ⟨I', f1, f2, f3⟩ := m_grL_v2 (n := n) (J := J) hn ht 200 n z.1.1 z.1.2.1 [(z.2, z.1.2.2)] I2 (by omega) (by omega) hz
    refine ⟨I', f1, fun x y w => by rw [f2 x y (by omega), g2 x y (by omega)]; exact hf0 x y w, ?_⟩
    simp only []
    cases hr : q_rul t 200 z.1.1 z.1.2.1 [(z.2, z.1.2.2)] with
    | inl f =>
      rw [hr] at f3
      exact f3
    | inr r =>
      rw [hr] at f3
      obtain ⟨h1, h2⟩ := f3
      refine ⟨h1, ?_⟩
      show I' 53 14 = q_wth E r.2
      rw [← q_ff_w]
      cases ho : q_ff E r.2 with
      | none => rw [ho] at h2; exact h2.2
      | some v => rw [ho] at h2; exact h2.2
end QW
