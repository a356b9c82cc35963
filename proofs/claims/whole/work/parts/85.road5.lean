/-! ===== a road's text: items, the reference ===== -/
def q_LD (kind W R : Nat) (I : Nat → Nat → Int32) (vals : Nat → Nat) : Prop := ∀ i, q_iv kind i → I (q_lc kind W R i).1 (q_lc kind W R i).2 = nI (vals i)
/-- what items leave alone -/
def q_mi2 (kind W R : Nat) (I I' : Nat → Nat → Int32) : Prop := ∀ x y, ¬ (x = 53 ∧ (y = 10 ∨ y = 11)) → (∀ i, q_iv kind i → ¬ (x = (q_lc kind W R i).1 ∧ y = (q_lc kind W R i).2)) → I' x y = I x y
theorem q_ml_lt {kind W i : Nat} (hk : kind < 3) (hi : i < 3) (hW : W ≤ 9) : q_mos kind W i < 200 ∧ q_lea kind i < 200 := by
  refine ⟨?_, ?_⟩
  · unfold q_mos
    split
    · omega
    · rcases (show kind = 0 ∨ kind = 1 ∨ kind = 2 by omega) with rfl | rfl | rfl <;> rcases (show i = 0 ∨ i = 1 ∨ i = 2 by omega) with rfl | rfl | rfl <;> decide
  · rcases (show kind = 0 ∨ kind = 1 ∨ kind = 2 by omega) with rfl | rfl | rfl <;> rcases (show i = 0 ∨ i = 1 ∨ i = 2 by omega) with rfl | rfl | rfl <;> decide
theorem q_had7 : ∀ h, h < 8 → (!decide (q_bc h = 3) || decide (h = 7)) = true := by decide +kernel
theorem q_hadS_f : ∀ h, h < 8 → ∀ i, i < 3 → (h.testBit i || decide (q_bc (h ||| 2 ^ i) = q_bc h + 1)) = true := by decide +kernel
section QW
variable {n : Nat} {J : Nat → Nat → Int64} {T : Nat} {t : q_Tx}
theorem m_items (hn : 300 ≤ n) (ht : q_tok t) {kind W R : Nat} (hk : kind < 3) (hW : W ≤ 9) : ∀ (k m had : Nat) (vals : Nat → Nat) (a : Nat) (I : Nat → Nat → Int32), q_bc had + m = 3 → m + 1 < k → had < 8 → a ≤ t.1 → q_MC I T t (q_sk t a) (-1) → (kind = 0 → I 53 28 = nI (W + 1) ∧ W < 9) → (kind = 1 → I 53 29 = nI R ∧ R < 6) → q_LD kind W R I vals → ∃ I', q_mi2 kind W R I I' ∧ match q_its t kind W m had vals a with
    | .inl f => f_X12_readClause_187 n k I J T (q_kc kind) (kind + 2) (nI had) (if q_itm kind (q_pk t (q_sk t a)) = 3 then -1 else nI (q_itm kind (q_pk t (q_sk t a)))) = some I' ∧ I' 53 11 = nI f
    | .inr r => (f_X12_readClause_187 n k I J T (q_kc kind) (kind + 2) (nI had) (if q_itm kind (q_pk t (q_sk t a)) = 3 then -1 else nI (q_itm kind (q_pk t (q_sk t a)))) = f_X12_readClause_277 n I' J T (q_kc kind) ∧ q_MC I' T t (q_sk t r.1) (-1) ∧ q_LD kind W R I' r.2) ∨ (f_X12_readClause_187 n k I J T (q_kc kind) (kind + 2) (nI had) (if q_itm kind (q_pk t (q_sk t a)) = 3 then -1 else nI (q_itm kind (q_pk t (q_sk t a)))) = some I' ∧ I' 53 11 = nI (q_sk t r.1) ∧ q_pk t (q_sk t r.1) ≠ 59 ∧ q_pk t (q_sk t r.1) ≠ 0) := by
  intro k
  induction k with
  | zero => intro m had vals a I _ h; omega
  | succ k ih =>
    intro m had vals a I hbc hm hh ha h h28 h29 hL
    have h160 := ht.1
    have hs := q_sk_le ha
    have hp := q_pk_lt ht (q_sk t a)
    have hil := q_itm_lt kind (q_pk t (q_sk t a))
    rw [f_X12_readClause_187]
    by_cases c1 : q_itm kind (q_pk t (q_sk t a)) = 3
    · rw [if_pos c1, if_pos rfl]
      refine ⟨I, fun _ _ _ _ => rfl, ?_⟩
      cases m with
      | zero => exact Or.inl ⟨rfl, h, hL⟩
      | succ m =>
        unfold q_its
        rw [if_pos (Or.inl c1)]
        exact Or.inl ⟨rfl, by rw [q_sk_sk ha]; exact h, hL⟩
    · have hne : q_pk t (q_sk t a) ≠ 0 := fun z => c1 (by rw [z]; unfold q_itm; split; rfl; split <;> rfl)
      have hne59 : q_pk t (q_sk t a) ≠ 59 := fun z => c1 (by rw [z]; unfold q_itm; split; rfl; split <;> rfl)
      have hlt := q_pk_in hne
      have hiv := q_itm_iv c1
      obtain ⟨iv3, iv2⟩ := id hiv
      rw [if_neg c1, if_neg (q_nIm1 (by omega)), h.2.2, if_pos rfl, m_has (by omega) (by omega), Option.bind_some]
      by_cases c2 : had.testBit (q_itm kind (q_pk t (q_sk t a))) = true
      · rw [if_pos c2, if_neg (by exact q_10), m_fails h, Option.bind_some]
        refine ⟨am_u I 53 11 (nI (q_sk t a)), fun x y z _ => q_mk.w I _ x y z, ?_⟩
        have hend : q_its t kind W m had vals a = .inr (if m = 0 then a else q_sk t a, vals) := by
          cases m with
          | zero => rfl
          | succ m =>
            unfold q_its
            rw [if_pos (Or.inr c2)]
            rfl
        rw [hend]
        have hss : q_sk t (if m = 0 then a else q_sk t a) = q_sk t a := by
          split
          · rfl
          · exact q_sk_sk ha
        right
        show _ ∧ (am_u I 53 11 (nI (q_sk t a))) 53 11 = nI (q_sk t (if m = 0 then a else q_sk t a)) ∧ q_pk t (q_sk t (if m = 0 then a else q_sk t a)) ≠ 59 ∧ q_pk t (q_sk t (if m = 0 then a else q_sk t a)) ≠ 0
        rw [hss]
        exact ⟨rfl, (h.wr _).2.2, hne59, hne⟩
      · have hm0 : m ≠ 0 := fun z => by
          have h7 := q_had7 had hh
          rw [Bool.or_eq_true, Bool.not_eq_true', decide_eq_false_iff_not, decide_eq_true_eq] at h7
          have h7' : had = 7 := h7.resolve_left (fun w => w (by omega))
          rw [h7'] at c2
          rcases (show q_itm kind (q_pk t (q_sk t a)) = 0 ∨ q_itm kind (q_pk t (q_sk t a)) = 1 ∨ q_itm kind (q_pk t (q_sk t a)) = 2 by omega) with z | z | z <;> rw [z] at c2 <;> exact c2 (by decide)
        obtain ⟨m, rfl⟩ : ∃ z, m = z + 1 := ⟨m - 1, by omega⟩
        have hq := q_hadS_f had hh (q_itm kind (q_pk t (q_sk t a))) iv3
        rw [Bool.or_eq_true, decide_eq_true_eq] at hq
        have hbc' := hq.resolve_left c2
        obtain ⟨s1, s2⟩ := q_shl6 (q_itm kind (q_pk t (q_sk t a))) (by omega)
        have h8 : had ||| 2 ^ q_itm kind (q_pk t (q_sk t a)) < 8 := Nat.or_lt_two_pow (n := 3) hh (Nat.pow_lt_pow_right (by omega) iv3)
        obtain ⟨hmle, hlle⟩ := q_ml_lt (kind := kind) (W := W) (i := q_itm kind (q_pk t (q_sk t a))) hk iv3 hW
        obtain ⟨v, I1, e1, e2, e3⟩ := m_number (n := n) (J := J) (T := T) hn ht hlle hmle hlt h
        rw [if_neg c2, if_pos rfl, m_least hk hiv, Option.bind_some, m_most (W := W) hk hiv (fun z => (h28 z).1), Option.bind_some, e1, Option.bind_some]
        simp only []
        unfold q_its
        rw [if_neg (fun z => z.elim c1 c2)]
        obtain ⟨n1, n2⟩ := q_num_le (t := t) (lo := q_lea kind (q_itm kind (q_pk t (q_sk t a)))) (hi := q_mos kind W (q_itm kind (q_pk t (q_sk t a)))) (a := q_sk t a + 1) hlt
        cases hn2 : q_num t (q_lea kind (q_itm kind (q_pk t (q_sk t a)))) (q_mos kind W (q_itm kind (q_pk t (q_sk t a)))) (q_sk t a + 1) with
        | inl f =>
          rw [hn2] at e3
          have hfle := n1 f hn2
          have e3' : I1 53 11 = nI f := e3
          rw [e3', if_neg (q_nIm1 (by omega))]
          exact ⟨I1, fun x y z _ => e2 x y z, rfl, e3'⟩
        | inr r =>
          rw [hn2] at e3
          obtain ⟨ev, eM⟩ := e3
          obtain ⟨m1, m2, m3, m4⟩ := n2 r hn2
          have hlx := q_lc_x (kind := kind) (W := W) (R := R) (i := q_itm kind (q_pk t (q_sk t a))) hk
          have hl := m_lay (n := n) (J := J) (T := T) (I := I1) (kind := kind) (W := W) (R := R) (i := q_itm kind (q_pk t (q_sk t a))) hk hiv (fun z => ⟨by rw [e2 53 28 (by omega)]; exact (h28 z).1, (h28 z).2⟩) (fun z => ⟨by rw [e2 53 29 (by omega)]; exact (h29 z).1, (h29 z).2⟩) v
          obtain ⟨I2, hI2⟩ : ∃ z, z = am_u I1 (q_lc kind W R (q_itm kind (q_pk t (q_sk t a)))).1 (q_lc kind W R (q_itm kind (q_pk t (q_sk t a)))).2 v := ⟨_, rfl⟩
          have hI2f : ∀ x y, ¬ (x = (q_lc kind W R (q_itm kind (q_pk t (q_sk t a)))).1 ∧ y = (q_lc kind W R (q_itm kind (q_pk t (q_sk t a)))).2) → I2 x y = I1 x y := fun x y z => by
            rw [hI2]
            unfold am_u
            rw [if_neg z]
          have hM2 : q_MC I2 T t r.1 (-1) := eM.of (fun y _ _ => hI2f 53 y (by omega)) (fun x y hx => hI2f x y (by omega))
          obtain ⟨I3, g1, g2, g3⟩ := m_look (n := n) (J := J) hn ht m2 hM2
          have hpr := q_pk_lt ht (q_sk t r.1)
          rw [← hI2] at hl
          rw [eM.2.2, if_pos rfl, hl, Option.bind_some, g1, Option.bind_some]
          simp only []
          rw [m_placeOf hn hk hpr.1, Option.bind_some, s1, q_or]
          have hk13 : ∀ x y, ¬ (x = 53 ∧ (y = 10 ∨ y = 11)) → ¬ (x = (q_lc kind W R (q_itm kind (q_pk t (q_sk t a)))).1 ∧ y = (q_lc kind W R (q_itm kind (q_pk t (q_sk t a)))).2) → I3 x y = I x y := fun x y z1 z2 => by rw [g3 x y z1, hI2f x y z2]; exact e2 x y z1
          have hL3 : q_LD kind W R I3 (q_tu vals (q_itm kind (q_pk t (q_sk t a))) r.2) := by
            intro i hi
            have hx := q_lc_x (kind := kind) (W := W) (R := R) (i := i) hk
            rw [g3 _ _ (by omega)]
            unfold q_tu
            by_cases ei : i = q_itm kind (q_pk t (q_sk t a))
            · rw [if_pos ei, ei, hI2, ev]
              simp [am_u]
            · rw [if_neg ei, hI2f _ _ (q_lc_ne hk hiv hi (fun z => ei z.symm)), e2 _ _ (by omega)]
              exact hL i hi
          obtain ⟨I', gx1, gx2⟩ := ih m (had ||| 2 ^ q_itm kind (q_pk t (q_sk t a))) (q_tu vals (q_itm kind (q_pk t (q_sk t a))) r.2) r.1 I3 (by omega) (by omega) h8 m2 g2 (fun z => ⟨by rw [hk13 53 28 (by omega) (by omega)]; exact (h28 z).1, (h28 z).2⟩) (fun z => ⟨by rw [hk13 53 29 (by omega) (by omega)]; exact (h29 z).1, (h29 z).2⟩) hL3
          exact ⟨I', fun x y z1 z2 => by rw [gx1 x y z1 z2]; exact hk13 x y z1 (z2 _ hiv), gx2⟩
end QW
