/-! ===== atoms, terms and sums, the reference ===== -/
def q_any : Int32 → Prop := fun _ => True
theorem q_Y0.lp {P : Int32 → Prop} {T : Nat} {t : q_Tx} {E : Nat → Int32} {q a : Nat} {F : (Nat → Nat → Int32) → Option (Int32 × (Nat → Nat → Int32))} {G : (Nat → Nat → Int32) → Int32 → Option (Int32 × (Nat → Nat → Int32))} {x : q_Rs} {g : Nat × List Int32 × q_Vl → q_Rs} (ht : q_tok t) (h : q_Y0 P T t E q F a x) (hr : ∀ r, x = .inr r → ∀ I, P (r.2.2 E) → q_MS I T t E q r.1 → ∃ v I', G I (r.2.2 E) = some (v, I') ∧ q_mr I I' ∧ q_YR P I' T t E q v (g r)) (hf : ∀ I v, P v → I 53 11 ≠ -1 → G I v = some (v, I)) : q_Y0 P T t E q (fun I => (F I).bind fun w => G w.2 w.1) a (q_rb x g) := by
  intro I hS
  have h160 := ht.1
  obtain ⟨v, I1, e1, e2, e3⟩ := h I hS
  show ∃ v I', ((F I).bind fun w => G w.2 w.1) = some (v, I') ∧ _
  rw [e1, Option.bind_some]
  cases x with
  | inl f =>
    obtain ⟨f1, f2⟩ := e3.2.1 f rfl
    exact ⟨v, I1, hf I1 v e3.1 (by rw [f2]; exact q_nIm1 (by omega)), e2, q_YR.l e3.1 f1 f2⟩
  | inr r =>
    obtain ⟨b1, b2⟩ := e3.2.2 r rfl
    have hPv := e3.1
    simp only []
    rw [b1] at hPv ⊢
    obtain ⟨v', I2, g1, g2, g3⟩ := hr r rfl I1 hPv b2
    exact ⟨v', I2, g1, e2.t g2, g3⟩
section QW
variable {n : Nat} {J : Nat → Nat → Int64} {T : Nat} {t : q_Tx}
abbrev q_U3 : Type := (Nat → Nat → Int32) → (Nat → Nat → Int64) → Nat → Option (Int32 × (Nat → Nat → Int32))
theorem m_dgl (ht : q_tok t) {r1 r2 r3 : q_U3} : ∀ (k d m a v : Nat) (I : Nat → Nat → Int32), d + k = 4 → k < m → a ≤ t.1 → q_MC I T t a (-1) → ∃ v' I', f_X12_atom_90 n r1 r2 r3 m I J T (nI v) (nI d) = some (v', I') ∧ q_mk I I' ∧ (q_dig t (q_dl t k a v).1 = true → I' 53 11 = nI (q_dl t k a v).1) ∧ (¬ q_dig t (q_dl t k a v).1 = true → v' = nI (q_dl t k a v).2 ∧ q_MC I' T t (q_dl t k a v).1 (-1)) := by
  intro k
  induction k with
  | zero =>
    intro d m a v I h1 h2 ha h
    obtain ⟨m', rfl⟩ : ∃ z, m = z + 1 := ⟨m - 1, by omega⟩
    rw [f_X12_atom_90, m_dig ht ha h, Option.bind_some, h.2.2]
    show ∃ v' I', _ ∧ q_mk I I' ∧ (q_dig t a = true → I' 53 11 = nI a) ∧ (¬ q_dig t a = true → v' = nI v ∧ q_MC I' T t a (-1))
    by_cases c : q_dig t a = true
    · rw [if_pos c, if_neg (by exact q_10), if_pos rfl, if_pos (show nI d = 4 by rw [show d = 4 by omega]; rfl), m_fails h, Option.bind_some]
      exact ⟨_, _, rfl, q_mk.w I _, fun _ => (h.wr _).2.2, fun z => absurd c z⟩
    · rw [if_neg c, if_pos rfl]
      exact ⟨_, I, rfl, q_mk.r I, fun z => absurd z c, fun _ => ⟨rfl, h⟩⟩
  | succ k ih =>
    intro d m a v I h1 h2 ha h
    have h160 := ht.1
    obtain ⟨m', rfl⟩ : ∃ z, m = z + 1 := ⟨m - 1, by omega⟩
    obtain ⟨⟨o, h8, h9, hT⟩, h10, h11⟩ := id h
    rw [f_X12_atom_90, m_dig ht ha h, Option.bind_some, h11, h10, h8]
    by_cases c : q_dig t a = true
    · obtain ⟨g1, g2, g3, g4⟩ := q_dig_pk c
      have eu : q_dl t (k + 1) a v = q_dl t k (a + 1) (v * 10 + (t.2 a - 48)) := by
        show (if q_dig t a = true then _ else _) = _
        rw [if_pos c]
      have ev : 10 * nI v + nI (t.2 a) - 48 = nI (v * 10 + (t.2 a - 48)) := by
        rw [show (10 : Int32) * nI v = nI (10 * v) from pk_mul 10 v, nI_add, show (48 : Int32) = nI 48 from rfl, pk_sub (by omega)]
        congr 1
        omega
      obtain ⟨v', I', f1, f2, f3⟩ := ih (d + 1) m' (a + 1) (v * 10 + (t.2 a - 48)) (am_u I 53 10 (nI (a + 1))) (by omega) (by omega) (by omega) (h.at (a + 1))
      rw [if_pos c, if_neg (by exact q_10), if_pos rfl, if_neg (show ¬ nI d = 4 from fun z => by
        have := (nI_eq (a := d) (b := 4) (by omega) (by omega)).mp z
        omega), nI_add, eu]
      rcases hT with ⟨rfl, hb1, hc⟩ | ⟨rfl, hb1, hc⟩
      · have hix : ok_ix (nI (o + a)) 160 := q_ix (by omega) (by omega)
        have hcl : (nI (o + a)).toNatClampNeg = o + a := q_cl (by omega)
        rw [if_pos rfl, if_pos hix, hcl, hc a g1, q_by_lo _ (by omega), ev, nI_1, nI_1]
        exact ⟨v', I', f1, (q_mk.a I _).t f2, f3⟩
      · have hix : ok_ix (nI (o + a)) 640 := q_ix (by omega) (by omega)
        have hcl : (nI (o + a)).toNatClampNeg = o + a := q_cl (by omega)
        have n54 : ¬ (55 : Nat) = 54 := by decide
        rw [if_neg n54, if_pos rfl, if_pos hix, hcl, hc a g1, q_by_lo _ (by omega), ev, nI_1, nI_1]
        exact ⟨v', I', f1, (q_mk.a I _).t f2, f3⟩
    · have eu : q_dl t (k + 1) a v = (a, v) := by
        show (if q_dig t a = true then _ else _) = _
        rw [if_neg c]
      rw [if_neg c, if_pos rfl, eu]
      exact ⟨_, I, rfl, q_mk.r I, fun z => absurd z c, fun _ => ⟨rfl, h⟩⟩
theorem m_atm (hn : 300 ≤ n) (ht : q_tok t) {E : Nat → Int32} {q : Nat} (hq : q ≤ 6) {sub : Nat → q_Rs} {r1 r2 r3 : q_U3} (hs : 0 < q → ∀ b, b ≤ t.1 → q_Y0 q_any T t E (q - 1) (fun I => r2 I J T) b (sub b)) {a : Nat} (ha : a ≤ t.1) : q_Y0 q_any T t E q (fun I => fb_X12_atom n r1 r2 r3 I J T) a (q_atm t sub q a) := by
  intro I h
  show ∃ v I', fb_X12_atom n r1 r2 r3 I J T = some (v, I') ∧ _
  have h160 := ht.1
  have hpl := (q_pk_lt ht (q_sk t a)).1
  have hsk := q_sk_le (t := t) ha
  obtain ⟨I1, e1, e2, e3⟩ := m_look_s (n := n) (J := J) (T := T) hn ht h
  unfold fb_X12_atom f_X12_atom_86
  rw [e1, Option.bind_some]
  simp only []
  rw [m_among1 hn hpl, Option.bind_some]
  unfold q_atm
  by_cases c1 : q_dig t (q_sk t a) = true
  · obtain ⟨g1, g2, g3, g4⟩ := q_dig_pk c1
    have hl := q_dl_le (t := t) 4 (q_sk t a) 0 hsk.2
    have nl : ¬ q_ltr (q_pk t (q_sk t a)) = true := fun z => by
      unfold q_ltr at z
      simp only [Bool.or_eq_true, decide_eq_true_eq] at z
      omega
    have n91 : ¬ q_sg (q_pk t (q_sk t a)) = 91 := fun z => by
      have := (q_sg_eq (x := 91) hpl (by omega) (by omega)).mp z
      omega
    obtain ⟨v', I2, d1, d2, d3, d4⟩ := m_dgl (n := n) (J := J) (T := T) ht (r1 := r1) (r2 := r2) (r3 := r3) 4 0 n (q_sk t a) 0 I1 (by omega) (by omega) hsk.2 e3.2.1
    have d1' : f_X12_atom_90 n r1 r2 r3 n I1 J T 0 0 = some (v', I2) := d1
    rw [if_neg nl, if_pos rfl, if_neg n91, m_dig ht hsk.2 e3.2.1, Option.bind_some, if_pos c1, if_neg (by exact q_10), d1', if_pos c1]
    by_cases c2 : q_dig t (q_dl t 4 (q_sk t a) 0).1 = true
    · rw [if_pos c2]
      exact ⟨v', I2, rfl, (e2.t d2).mr, q_YR.l trivial hl.2.1 (d3 c2)⟩
    · rw [if_neg c2]
      obtain ⟨k1, k2⟩ := d4 c2
      exact ⟨v', I2, rfl, (e2.t d2).mr, q_YR.o trivial k1 (e3.at hl.2.1 k2 d2)⟩
  · rw [if_neg c1]
    by_cases c2 : q_ltr (q_pk t (q_sk t a)) = true
    · have hp0 : q_pk t (q_sk t a) ≠ 0 := fun z => by rw [z] at c2; cases c2
      have hlt := q_pk_in hp0
      have hp128 : q_pk t (q_sk t a) < 128 := by
        have z := c2
        unfold q_ltr at z
        simp only [Bool.or_eq_true, decide_eq_true_eq] at z
        omega
      have hix : ok_ix (q_sg (q_pk t (q_sk t a))) 128 := by rw [q_sg_nI hp0]; exact q_ix (by omega) (by omega)
      have hcl : (q_sg (q_pk t (q_sk t a))).toNatClampNeg = q_pk t (q_sk t a) := by rw [q_sg_nI hp0]; exact q_cl (by omega)
      rw [if_pos c2, if_neg (by exact q_10), if_pos hix, hcl, if_pos c2, e3.2.1.2.1, nI_1]
      exact ⟨_, _, rfl, (e2.t (q_mk.a I1 _)).mr, q_YR.o trivial (e3.2.2.2 _ c2) (e3.nx hlt)⟩
    · rw [if_neg c2, if_pos rfl, if_neg c2]
      have f91 : (q_sg (q_pk t (q_sk t a)) = 91) ↔ q_pk t (q_sk t a) = 91 := q_sg_eq (x := 91) hpl (by omega) (by omega)
      by_cases c3 : q_pk t (q_sk t a) = 91
      · have hlt := q_pk_in (t := t) (a := q_sk t a) (by rw [c3]; decide)
        rw [if_pos (f91.mpr c3)]
        unfold f_X12_goesIn
        rw [e3.2.2.1]
        by_cases c4 : 0 < q
        · have n6 : ¬ nI (6 - q) = 6 := fun z => by
            have := (nI_eq (a := 6 - q) (b := 6) (by omega) (by omega)).mp z
            omega
          have e6 : nI (6 - q) + 1 = nI (6 - (q - 1)) := by rw [nI_1, show 6 - q + 1 = 6 - (q - 1) by omega]
          have hS2 : q_MS (am_u (am_u I1 53 12 (nI (6 - (q - 1)))) 53 10 (nI (q_sk t a + 1))) T t E (q - 1) (q_sk t a + 1) := (e3.dp (q' := q - 1)).nx hlt
          obtain ⟨v, I2, a1, a2, a3⟩ := hs c4 _ hlt _ hS2
          have a1' : r2 (am_u (am_u I1 53 12 (nI (6 - (q - 1)))) 53 10 (nI (q_sk t a + 1))) J T = some (v, I2) := a1
          have hm2 : q_mr I I2 := ((e2.mr.t (q_mr.d I1 _)).t (q_mk.a _ _).mr).t a2
          have e10 : (am_u I1 53 12 (nI (6 - (q - 1)))) 53 10 = nI (q_sk t a) := by
            unfold am_u
            rw [if_neg (by omega)]
            exact e3.2.1.2.1
          rw [if_neg n6, Option.bind_some]
          simp only []
          rw [if_neg (by exact q_10), e6, e3.2.1.2.1, nI_1, a1', Option.bind_some, if_pos (show q_pk t (q_sk t a) = 91 ∧ 0 < q from ⟨c3, c4⟩)]
          cases hX : sub (q_sk t a + 1) with
          | inl f =>
            rw [hX] at a3
            obtain ⟨f1, f2⟩ := a3.2.1 f rfl
            rw [m_takes_f (I := I2) (by rw [f2]; exact q_nIm1 (by omega)), Option.bind_some]
            simp only []
            rw [if_pos trivial]
            exact ⟨_, I2, rfl, hm2, q_YR.l trivial f1 f2⟩
          | inr z =>
            rw [hX] at a3
            obtain ⟨b1, b2⟩ := a3.2.2 z rfl
            have hsz := q_sk_le (t := t) b2.1
            obtain ⟨I3, k1, k2, k3, k4⟩ := m_takes (n := n) (J := J) (T := T) (p := 93) hn ht (by omega) (by omega) b2
            have k1' : f_X12_takes n I2 J T 93 = _ := k1
            rw [k1', Option.bind_some]
            simp only []
            show ∃ v I', _ ∧ q_mr I I' ∧ q_YR q_any I' T t E q v (q_xp t 93 z)
            unfold q_xp
            by_cases c5 : q_pk t (q_sk t z.1) = 93
            · have hS3 := k3 c5
              have e7 : nI (6 - (q - 1)) - 1 = nI (6 - q) := by
                rw [show (1 : Int32) = nI 1 from rfl, pk_sub (by omega), show 6 - (q - 1) - 1 = 6 - q by omega]
              rw [if_pos c5, if_neg (by exact q_10), if_pos c5, hS3.2.2.1, e7]
              exact ⟨_, _, rfl, (hm2.t k2.mr).t (q_mr.d I3 _), q_YR.o trivial b1 (hS3.dp (q' := q))⟩
            · rw [if_neg c5, if_pos rfl, if_neg c5]
              exact ⟨_, I3, rfl, hm2.t k2.mr, q_YR.l trivial hsz.2 (k4 c5)⟩
        · have e6 : nI (6 - q) = 6 := by rw [show q = 0 by omega]; rfl
          rw [if_pos e6, m_fails e3.2.1, Option.bind_some, if_pos (Or.inl rfl), Option.bind_some, if_neg (show ¬ (q_pk t (q_sk t a) = 91 ∧ 0 < q) from fun z => c4 z.2)]
          simp only []
          rw [if_pos trivial]
          exact ⟨_, _, rfl, (e2.t (q_mk.w I1 _)).mr, q_YR.l trivial hsk.2 (e3.2.1.wr _).2.2⟩
      · have hM := e3.2.1.wr (nI (q_sk t a))
        obtain ⟨k, hk⟩ : ∃ z, n = z + 1 := ⟨n - 1, by omega⟩
        have e : f_X12_atom_90 n r1 r2 r3 n (am_u I1 53 11 (nI (q_sk t a))) J T 0 0 = f_X12_atom_90 n r1 r2 r3 (k + 1) (am_u I1 53 11 (nI (q_sk t a))) J T 0 0 := by rw [← hk]
        rw [if_neg (fun z => c3 (f91.mp z)), m_dig ht hsk.2 e3.2.1, Option.bind_some, if_neg c1, if_pos rfl, m_fails e3.2.1, Option.bind_some, if_neg (show ¬ (q_pk t (q_sk t a) = 91 ∧ 0 < q) from fun z => c3 z.1)]
        simp only []
        rw [e, f_X12_atom_90, m_dig ht hsk.2 hM, Option.bind_some, if_neg c1, if_pos rfl]
        exact ⟨_, _, rfl, (e2.t (q_mk.w I1 _)).mr, q_YR.l trivial hsk.2 hM.2.2⟩
theorem q_op_42 (x y : Int32) : q_op 42 x y = q_wi (x.toInt64 * y.toInt64) := rfl
theorem q_op_47 (x y : Int32) : q_op 47 x y = if y = 0 then 0 else q_wi (x.toInt64 / y.toInt64) := rfl
theorem q_op_43 (x y : Int32) : q_op 43 x y = q_wi (x.toInt64 + y.toInt64) := rfl
theorem q_op_45 (x y : Int32) : q_op 45 x y = q_wi (x.toInt64 - y.toInt64) := rfl
end QW
