/-! ===== a road's text: clauses, the reference ===== -/
def q_MTd (I : Nat → Nat → Int32) (D : q_Rd) (told : Bool) : Prop := ((I 53 28 = nI (q_W D) ∧ I 53 29 = nI (q_R D)) ∧ I 65 0 = nI (q_cs D) ∧ I 65 1 = nI (q_pr D) ∧ I 65 2 = nI (q_ni D)) ∧ (∀ p, 1 ≤ p → p ≤ q_W D → I 62 p = nI (q_fr D p) ∧ I 63 p = nI (q_mi D p)) ∧ (∀ r, r < q_R D → I 64 (3 * r) = nI (q_ho D r) ∧ I 64 (3 * r + 1) = nI (q_wa D r) ∧ I 64 (3 * r + 2) = nI (q_se D r)) ∧ I 53 30 = (if told = true then 1 else 0)
theorem q_MTd.of {I I' : Nat → Nat → Int32} {D : q_Rd} {told : Bool} (h : q_MTd I D told) (e1 : I' 53 28 = I 53 28) (e2 : I' 53 29 = I 53 29) (e3 : I' 53 30 = I 53 30) (e : ∀ x y, 62 ≤ x → x ≤ 65 → I' x y = I x y) : q_MTd I' D told := by
  obtain ⟨⟨⟨a1, a2⟩, a3, a4, a5⟩, b, c, d⟩ := h
  exact ⟨⟨⟨by rw [e1]; exact a1, by rw [e2]; exact a2⟩, by rw [e 65 0 (by omega) (by omega)]; exact a3, by rw [e 65 1 (by omega) (by omega)]; exact a4, by rw [e 65 2 (by omega) (by omega)]; exact a5⟩, fun p x y => ⟨by rw [e 62 p (by omega) (by omega)]; exact (b p x y).1, by rw [e 63 p (by omega) (by omega)]; exact (b p x y).2⟩, fun r x => ⟨by rw [e 64 _ (by omega) (by omega)]; exact (c r x).1, by rw [e 64 _ (by omega) (by omega)]; exact (c r x).2.1, by rw [e 64 _ (by omega) (by omega)]; exact (c r x).2.2⟩, by rw [e3]; exact d⟩
/-- what a road's reading leaves alone -/
def q_mf2 (I I' : Nat → Nat → Int32) : Prop := ∀ x y, ¬ (x = 53 ∧ (y = 10 ∨ y = 11 ∨ y = 28 ∨ y = 29 ∨ y = 30)) → ¬ (62 ≤ x ∧ x ≤ 65) → I' x y = I x y
def q_kb (kind : Nat) : Nat := if kind = 0 then 119 else if kind = 1 then 114 else 99
section QW
variable {n : Nat} {J : Nat → Nat → Int64} {T : Nat} {t : q_Tx}
theorem m_173 (hn : 300 ≤ n) (ht : q_tok t) {kind W R b : Nat} (hk : kind < 3) (hW : W ≤ 9) {I : Nat → Nat → Int32} (hb : b ≤ t.1) (h : q_MC I T t b (-1)) (h28 : kind = 0 → I 53 28 = nI (W + 1) ∧ W < 9) (h29 : kind = 1 → I 53 29 = nI R ∧ R < 6) (hL : q_LD kind W R I (q_wot kind)) : ∃ I', q_mi2 kind W R I I' ∧ match q_its t kind W 3 0 (q_wot kind) b with
    | .inl f => f_X12_readClause_173 n I J T (q_kc kind) (kind + 2) = some I' ∧ I' 53 11 = nI f
    | .inr r => (f_X12_readClause_173 n I J T (q_kc kind) (kind + 2) = f_X12_readClause_277 n I' J T (q_kc kind) ∧ q_MC I' T t (q_sk t r.1) (-1) ∧ q_LD kind W R I' r.2) ∨ (f_X12_readClause_173 n I J T (q_kc kind) (kind + 2) = some I' ∧ I' 53 11 = nI (q_sk t r.1) ∧ q_pk t (q_sk t r.1) ≠ 59 ∧ q_pk t (q_sk t r.1) ≠ 0) := by
  obtain ⟨I1, e1, e2, e3⟩ := m_look (n := n) (J := J) hn ht hb h
  have hp := q_pk_lt ht (q_sk t b)
  have h1 : f_X12_readClause_173 n I J T (q_kc kind) (kind + 2) = f_X12_readClause_187 n n I1 J T (q_kc kind) (kind + 2) (nI 0) (if q_itm kind (q_pk t (q_sk t b)) = 3 then -1 else nI (q_itm kind (q_pk t (q_sk t b)))) := by
    unfold f_X12_readClause_173
    rw [e1, Option.bind_some]
    simp only []
    rw [m_placeOf hn hk hp.1, Option.bind_some]
    rfl
  obtain ⟨I', g1, g2⟩ := m_items (n := n) (J := J) (T := T) (R := R) hn ht hk hW n 3 0 (q_wot kind) b I1 rfl (by omega) (by omega) hb e2 (fun z => ⟨by rw [e3 53 28 (by omega)]; exact (h28 z).1, (h28 z).2⟩) (fun z => ⟨by rw [e3 53 29 (by omega)]; exact (h29 z).1, (h29 z).2⟩) (fun i hi => by
    have hx := q_lc_x (kind := kind) (W := W) (R := R) (i := i) hk
    rw [e3 _ _ (by omega)]
    exact hL i hi)
  rw [h1]
  exact ⟨I', fun x y z1 z2 => by rw [g1 x y z1 z2]; exact e3 x y z1, g2⟩
theorem m_cl_fail {a : Nat} {I : Nat → Nat → Int32} (h : q_MC I T t a (-1)) (x : Int32) : f_X12_readClause_52 n I J T x = some (am_u I 53 11 (nI a)) := by
  unfold f_X12_readClause_52 f_X12_readClause_53
  rw [if_pos rfl, m_fails h, Option.bind_some]
theorem m_clause (hn : 300 ≤ n) (ht : q_tok t) {a : Nat} {I : Nat → Nat → Int32} {D : q_Rd} {told : Bool} (ha : a ≤ t.1) (h : q_MC I T t a (-1)) (hD : q_pok D) (hT : q_MTd I D told) (hco : told = false → q_cs D = 4 ∧ q_pr D = 1 ∧ q_ni D = 99) : ∃ I', f_X12_readClause n I J T = some I' ∧ q_mf2 I I' ∧ match q_clz t a D told with
    | .inl f => I' 53 11 = nI f
    | .inr s => (∃ b, b ≤ t.1 ∧ q_sk t b = q_sk t s.1 ∧ q_MC I' T t b (-1) ∧ q_MTd I' s.2.1 s.2.2) ∨ (I' 53 11 = nI (q_sk t s.1) ∧ q_pk t (q_sk t s.1) ≠ 59 ∧ q_pk t (q_sk t s.1) ≠ 0) := by
  have h160 := ht.1
  obtain ⟨I1, e1, e2, e3⟩ := m_look (n := n) (J := J) hn ht ha h
  have hT1 : q_MTd I1 D told := hT.of (e3 53 28 (by omega)) (e3 53 29 (by omega)) (e3 53 30 (by omega)) (fun x y h1 h2 => e3 x y (by omega))
  obtain ⟨⟨d1, d2, d3, d4, d5⟩, d6, d7⟩ := id hD
  have hs := q_sk_le ha
  have hp := q_pk_lt ht (q_sk t a)
  have h28 : I1 53 28 = nI (q_W D) := hT1.1.1.1
  have h29 : I1 53 29 = nI (q_R D) := hT1.1.1.2
  have h119 : (q_sg (q_pk t (q_sk t a)) = 119) ↔ q_pk t (q_sk t a) = 119 := q_sg_eq (x := 119) hp.1 (by omega) (by omega)
  have h114 : (q_sg (q_pk t (q_sk t a)) = 114) ↔ q_pk t (q_sk t a) = 114 := q_sg_eq (x := 114) hp.1 (by omega) (by omega)
  have h99 : (q_sg (q_pk t (q_sk t a)) = 99) ↔ q_pk t (q_sk t a) = 99 := q_sg_eq (x := 99) hp.1 (by omega) (by omega)
  have n1 : ¬ (119 : Int32) = 114 := by decide
  have n2 : ¬ (119 : Int32) = 99 := by decide
  have n3 : ¬ (114 : Int32) = 119 := by decide
  have n4 : ¬ (114 : Int32) = 99 := by decide
  have n5 : ¬ (99 : Int32) = 119 := by decide
  have n6 : ¬ (99 : Int32) = 114 := by decide
  have hfail : ∃ I', some (am_u I1 53 11 (nI (q_sk t a))) = some I' ∧ q_mf2 I I' ∧ I' 53 11 = nI (q_sk t a) := ⟨_, rfl, fun x y z1 z2 => by rw [q_mk.w I1 _ x y (by omega)]; exact e3 x y (by omega), (e2.wr _).2.2⟩
  have hff := fun x => m_cl_fail (n := n) (J := J) e2 x
  unfold f_X12_readClause
  rw [e1, Option.bind_some]
  simp only [h28]
  unfold f_X12_readClause_20 f_X12_readClause_35 q_clz
  simp only [h29, hT1.2.2.2]
  by_cases p119 : q_pk t (q_sk t a) = 119
  · rw [if_pos (h119.mpr p119)]
    have hsg : q_sg (q_pk t (q_sk t a)) = 119 := h119.mpr p119
    by_cases hw : q_W D < 9
    · have hlt := q_pk_in (t := t) (a := q_sk t a) (by rw [p119]; decide)
      -- laid as if nothing were told
      obtain ⟨I2, hI2⟩ : ∃ z, z = am_u (am_u I1 53 10 (nI (q_sk t a + 1))) 53 28 (nI (q_W D + 1)) := ⟨_, rfl⟩
      have e228 : I2 53 28 = nI (q_W D + 1) := by rw [hI2]; simp [am_u]
      have l0 := m_lay (n := n) (J := J) (T := T) (I := I2) (kind := 0) (W := q_W D) (R := q_R D) (i := 0) (by omega) ⟨by omega, fun _ => by omega⟩ (fun _ => ⟨e228, hw⟩) (fun z => by cases z) 0
      obtain ⟨I3, hI3⟩ : ∃ z, z = am_u I2 62 (q_W D + 1) 0 := ⟨_, rfl⟩
      have l0' : f_X12_lay n I2 J T 119 0 0 = some I3 := by rw [hI3]; exact l0
      have l1 := m_lay (n := n) (J := J) (T := T) (I := I3) (kind := 0) (W := q_W D) (R := q_R D) (i := 1) (by omega) ⟨by omega, fun _ => by omega⟩ (fun _ => ⟨by rw [hI3]; unfold am_u; rw [if_neg (by omega)]; exact e228, hw⟩) (fun z => by cases z) 1
      obtain ⟨I4, hI4⟩ : ∃ z, z = am_u I3 63 (q_W D + 1) 1 := ⟨_, rfl⟩
      have l1' : f_X12_lay n I3 J T 119 1 1 = some I4 := by rw [hI4]; exact l1
      have hI4f : ∀ x y, ¬ (x = 53 ∧ (y = 10 ∨ y = 28)) → ¬ (x = 62 ∧ y = q_W D + 1) → ¬ (x = 63 ∧ y = q_W D + 1) → I4 x y = I1 x y := fun x y z1 z2 z3 => by
        rw [hI4, hI3, hI2]
        unfold am_u
        rw [if_neg z3, if_neg z2, if_neg (by omega), if_neg (by omega)]
      have hM4 : q_MC I4 T t (q_sk t a + 1) (-1) := by
        have hA := e2.at (q_sk t a + 1)
        refine hA.of (fun y y1 y2 => ?_) (fun x y hx => ?_)
        · rw [hI4, hI3, hI2]
          unfold am_u
          rw [if_neg (by omega), if_neg (by omega), if_neg (by omega)]
        · rw [hI4, hI3, hI2]
          unfold am_u
          rw [if_neg (by omega), if_neg (by omega), if_neg (by omega)]
      have e428 : I4 53 28 = nI (q_W D + 1) := by
        rw [hI4, hI3, ← e228]
        unfold am_u
        rw [if_neg (by omega), if_neg (by omega)]
      have hL : q_LD 0 (q_W D) (q_R D) I4 (q_wot 0) := by
        intro i hi
        rcases (show i = 0 ∨ i = 1 by have := hi.2 rfl; omega) with rfl | rfl
        · show I4 62 (q_W D + 1) = nI 0
          rw [hI4, hI3]
          simp [am_u]
          rfl
        · show I4 63 (q_W D + 1) = nI 1
          rw [hI4]
          simp [am_u]
          rfl
      obtain ⟨I5, k1, k2⟩ := m_173 (n := n) (J := J) (T := T) (kind := 0) (W := q_W D) (R := q_R D) hn ht (by omega) d1 (b := q_sk t a + 1) hlt hM4 (fun _ => ⟨e428, hw⟩) (fun z => by cases z) hL
      have hreach : f_X12_readClause_48 n I1 J T (q_sg (q_pk t (q_sk t a))) = f_X12_readClause_173 n I4 J T (q_kc 0) (0 + 2) := by
        unfold f_X12_readClause_48 f_X12_readClause_53 f_X12_readClause_106 f_X12_readClause_137 f_X12_readClause_148
        rw [hsg, if_neg q_10, if_pos rfl, e2.2.1, h28, nI_1, nI_1, ← hI2, l0', Option.bind_some, l1', Option.bind_some, if_neg n1, if_neg n2, if_pos rfl]
        rfl
      have hI5 : ∀ x y, ¬ (x = 53 ∧ (y = 10 ∨ y = 11)) → ¬ (x = 62 ∧ y = q_W D + 1) → ¬ (x = 63 ∧ y = q_W D + 1) → I5 x y = I4 x y := fun x y z1 z2 z3 => k1 x y z1 (fun i hi => by
        rcases (show i = 0 ∨ i = 1 by have := hi.2 rfl; omega) with rfl | rfl
        · exact z2
        · exact z3)
      have hmf : q_mf2 I I5 := fun x y z1 z2 => by rw [hI5 x y (by omega) (by omega) (by omega), hI4f x y (by omega) (by omega) (by omega)]; exact e3 x y (by omega)
      rw [if_pos (show nI (q_W D) < 9 from nI_lt (b := 9) hw (by omega)), hreach, if_pos (show q_pk t (q_sk t a) = 119 ∧ q_W D < 9 from ⟨p119, hw⟩)]
      cases hq : q_its t 0 (q_W D) 3 0 (q_wot 0) (q_sk t a + 1) with
      | inl f =>
        rw [hq] at k2
        rw [k2.1]
        exact ⟨I5, rfl, hmf, k2.2⟩
      | inr r =>
        rw [hq] at k2
        rcases k2 with ⟨g1, g2, g3⟩ | ⟨g1, g2, g3, g4⟩
        · have hend : f_X12_readClause_277 n I5 J T (q_kc 0) = some I5 := by
            unfold f_X12_readClause_277
            rw [if_neg (show ¬ q_kc 0 = 114 by decide)]
          rw [g1, hend]
          have hrl : r.1 ≤ t.1 := ((q_its_ok (t := t) (kind := 0) (W := q_W D) 3 0 (q_wot 0) (q_sk t a + 1) hlt (fun i hi => q_wot_ok 0 (by omega) i hi _)).2 r hq).2.1
          refine ⟨I5, rfl, hmf, Or.inl ⟨q_sk t r.1, (q_sk_le hrl).2, q_sk_sk hrl, g2, ⟨⟨?_, ?_⟩, ?_, ?_, ?_⟩, fun p p1 p2 => ?_, fun i hi => ?_, ?_⟩⟩
          · show I5 53 28 = nI (q_W D + 1)
            rw [hI5 53 28 (by omega) (by omega) (by omega)]; exact e428
          · rw [hI5 53 29 (by omega) (by omega) (by omega), hI4f 53 29 (by omega) (by omega) (by omega)]; exact h29
          · rw [hI5 65 0 (by omega) (by omega) (by omega), hI4f 65 0 (by omega) (by omega) (by omega)]; exact hT1.1.2.1
          · rw [hI5 65 1 (by omega) (by omega) (by omega), hI4f 65 1 (by omega) (by omega) (by omega)]; exact hT1.1.2.2.1
          · rw [hI5 65 2 (by omega) (by omega) (by omega), hI4f 65 2 (by omega) (by omega) (by omega)]; exact hT1.1.2.2.2
          · have p2' : p ≤ q_W D + 1 := p2
            show I5 62 p = nI (q_tu (q_fr D) (q_W D + 1) (r.2 0) p) ∧ I5 63 p = nI (q_tu (q_mi D) (q_W D + 1) (r.2 1) p)
            unfold q_tu
            by_cases ep : p = q_W D + 1
            · rw [if_pos ep, if_pos ep, ep]
              exact ⟨g3 0 ⟨by omega, fun _ => by omega⟩, g3 1 ⟨by omega, fun _ => by omega⟩⟩
            · obtain ⟨w1, w2⟩ := hT1.2.1 p p1 (by omega)
              rw [if_neg ep, if_neg ep, hI5 62 p (by omega) (by omega) (by omega), hI5 63 p (by omega) (by omega) (by omega), hI4f 62 p (by omega) (by omega) (by omega), hI4f 63 p (by omega) (by omega) (by omega)]
              exact ⟨w1, w2⟩
          · obtain ⟨w1, w2, w3⟩ := hT1.2.2.1 i hi
            refine ⟨?_, ?_, ?_⟩
            · rw [hI5 64 _ (by omega) (by omega) (by omega), hI4f 64 _ (by omega) (by omega) (by omega)]; exact w1
            · rw [hI5 64 _ (by omega) (by omega) (by omega), hI4f 64 _ (by omega) (by omega) (by omega)]; exact w2
            · rw [hI5 64 _ (by omega) (by omega) (by omega), hI4f 64 _ (by omega) (by omega) (by omega)]; exact w3
          · rw [hI5 53 30 (by omega) (by omega) (by omega), hI4f 53 30 (by omega) (by omega) (by omega)]; exact hT1.2.2.2
        · rw [g1]
          exact ⟨I5, rfl, hmf, Or.inr ⟨g2, g3, g4⟩⟩
    · rw [if_neg (show ¬ nI (q_W D) < 9 from nI_nlt (b := 9) (by omega) (by omega)), if_neg (fun z => by have := h114.mp z; omega), if_neg (fun z => by have := h99.mp z; omega), hff, if_neg (show ¬ (q_pk t (q_sk t a) = 119 ∧ q_W D < 9) from fun z => hw z.2), if_neg (show ¬ (q_pk t (q_sk t a) = 114 ∧ q_R D < 6) from fun z => by have := z.1; omega), if_neg (show ¬ (q_pk t (q_sk t a) = 99 ∧ told = false) from fun z => by have := z.1; omega)]
      exact hfail
  · rw [if_neg (fun z => p119 (h119.mp z)), if_neg (show ¬ (q_pk t (q_sk t a) = 119 ∧ q_W D < 9) from fun z => p119 z.1)]
    by_cases p114 : q_pk t (q_sk t a) = 114
    · have hsg : q_sg (q_pk t (q_sk t a)) = 114 := h114.mpr p114
      rw [if_pos hsg]
      by_cases hw : q_R D < 6
      · have hlt := q_pk_in (t := t) (a := q_sk t a) (by rw [p114]; decide)
        obtain ⟨I2, hI2⟩ : ∃ z, z = am_u I1 53 10 (nI (q_sk t a + 1)) := ⟨_, rfl⟩
        have e229 : ∀ I' : Nat → Nat → Int32, (∀ y, I' 53 y = I2 53 y) → I' 53 29 = nI (q_R D) := fun I' h' => by
          rw [h' 29, hI2]
          unfold am_u
          rw [if_neg (by omega)]
          exact h29
        have l0 := m_lay (n := n) (J := J) (T := T) (I := I2) (kind := 1) (W := q_W D) (R := q_R D) (i := 0) (by omega) ⟨by omega, fun z => by cases z⟩ (fun z => by cases z) (fun _ => ⟨e229 I2 (fun _ => rfl), hw⟩) 1
        obtain ⟨I3, hI3⟩ : ∃ z, z = am_u I2 64 (3 * q_R D + 0) 1 := ⟨_, rfl⟩
        have l0' : f_X12_lay n I2 J T 114 0 1 = some I3 := by rw [hI3]; exact l0
        have h353 : ∀ y, I3 53 y = I2 53 y := fun y => by rw [hI3]; unfold am_u; rw [if_neg (by omega)]
        have l1 := m_lay (n := n) (J := J) (T := T) (I := I3) (kind := 1) (W := q_W D) (R := q_R D) (i := 1) (by omega) ⟨by omega, fun z => by cases z⟩ (fun z => by cases z) (fun _ => ⟨e229 I3 h353, hw⟩) 99
        obtain ⟨I4, hI4⟩ : ∃ z, z = am_u I3 64 (3 * q_R D + 1) 99 := ⟨_, rfl⟩
        have l1' : f_X12_lay n I3 J T 114 1 99 = some I4 := by rw [hI4]; exact l1
        have h453 : ∀ y, I4 53 y = I2 53 y := fun y => by rw [hI4]; unfold am_u; rw [if_neg (by omega)]; exact h353 y
        have l2 := m_lay (n := n) (J := J) (T := T) (I := I4) (kind := 1) (W := q_W D) (R := q_R D) (i := 2) (by omega) ⟨by omega, fun z => by cases z⟩ (fun z => by cases z) (fun _ => ⟨e229 I4 h453, hw⟩) 1
        obtain ⟨I6, hI6⟩ : ∃ z, z = am_u I4 64 (3 * q_R D + 2) 1 := ⟨_, rfl⟩
        have l2' : f_X12_lay n I4 J T 114 2 1 = some I6 := by rw [hI6]; exact l2
        have h653 : ∀ y, I6 53 y = I2 53 y := fun y => by rw [hI6]; unfold am_u; rw [if_neg (by omega)]; exact h453 y
        have hI6f : ∀ x y, ¬ (x = 53 ∧ y = 10) → ¬ (x = 64 ∧ 3 * q_R D ≤ y ∧ y ≤ 3 * q_R D + 2) → I6 x y = I1 x y := fun x y z1 z2 => by
          rw [hI6, hI4, hI3, hI2]
          unfold am_u
          rw [if_neg (by omega), if_neg (by omega), if_neg (by omega), if_neg z1]
        have hM6 : q_MC I6 T t (q_sk t a + 1) (-1) := by
          have hA := e2.at (q_sk t a + 1)
          rw [← hI2] at hA
          exact hA.of (fun y y1 y2 => h653 y) (fun x y hx => by
            rw [hI6, hI4, hI3]
            unfold am_u
            rw [if_neg (by omega), if_neg (by omega), if_neg (by omega)])
        have hL : q_LD 1 (q_W D) (q_R D) I6 (q_wot 1) := by
          intro i hi
          rcases (show i = 0 ∨ i = 1 ∨ i = 2 by have := hi.1; omega) with rfl | rfl | rfl
          · show I6 64 (3 * q_R D + 0) = nI 1
            rw [hI6, hI4, hI3]
            simp [am_u]
            rfl
          · show I6 64 (3 * q_R D + 1) = nI 99
            rw [hI6, hI4]
            simp [am_u]
            rfl
          · show I6 64 (3 * q_R D + 2) = nI 1
            rw [hI6]
            simp [am_u]
            rfl
        obtain ⟨I5, k1, k2⟩ := m_173 (n := n) (J := J) (T := T) (kind := 1) (W := q_W D) (R := q_R D) hn ht (by omega) d1 (b := q_sk t a + 1) hlt hM6 (fun z => by cases z) (fun _ => ⟨e229 I6 h653, hw⟩) hL
        have hreach : f_X12_readClause_48 n I1 J T (q_sg (q_pk t (q_sk t a))) = f_X12_readClause_173 n I6 J T (q_kc 1) (1 + 2) := by
          unfold f_X12_readClause_48 f_X12_readClause_53 f_X12_readClause_106 f_X12_readClause_137 f_X12_readClause_148
          rw [hsg, if_neg q_10, if_neg n3, if_pos rfl, e2.2.1, nI_1, ← hI2, l0', Option.bind_some, l1', Option.bind_some, l2', Option.bind_some, if_neg n4, if_neg n3, if_pos rfl]
          rfl
        have hI5 : ∀ x y, ¬ (x = 53 ∧ (y = 10 ∨ y = 11)) → ¬ (x = 64 ∧ 3 * q_R D ≤ y ∧ y ≤ 3 * q_R D + 2) → I5 x y = I6 x y := fun x y z1 z2 => k1 x y z1 (fun i hi => by
          have := hi.1
          rintro ⟨w1, w2⟩
          have w1' : x = 64 := w1
          have w2' : y = 3 * q_R D + i := w2
          omega)
        have hmf0 : q_mf2 I I5 := fun x y z1 z2 => by rw [hI5 x y (by omega) (by omega), hI6f x y (by omega) (by omega)]; exact e3 x y (by omega)
        rw [if_pos (show nI (q_R D) < 6 from nI_lt (b := 6) hw (by omega)), hreach, if_pos (show q_pk t (q_sk t a) = 114 ∧ q_R D < 6 from ⟨p114, hw⟩)]
        cases hq : q_its t 1 (q_W D) 3 0 (q_wot 1) (q_sk t a + 1) with
        | inl f =>
          rw [hq] at k2
          rw [k2.1]
          exact ⟨I5, rfl, hmf0, k2.2⟩
        | inr r =>
          rw [hq] at k2
          rcases k2 with ⟨g1, g2, g3⟩ | ⟨g1, g2, g3, g4⟩
          · have e529 : I5 53 29 = nI (q_R D) := by rw [hI5 53 29 (by omega) (by omega)]; exact e229 I6 h653
            have hend : f_X12_readClause_277 n I5 J T (q_kc 1) = some (am_u I5 53 29 (nI (q_R D + 1))) := by
              unfold f_X12_readClause_277
              rw [if_pos (show q_kc 1 = 114 by rfl), e529, nI_1]
            obtain ⟨I7, hI7⟩ : ∃ z, z = am_u I5 53 29 (nI (q_R D + 1)) := ⟨_, rfl⟩
            have hI7f : ∀ x y, ¬ (x = 53 ∧ y = 29) → I7 x y = I5 x y := fun x y z => by rw [hI7]; unfold am_u; rw [if_neg z]
            rw [g1, hend, ← hI7]
            have hrl : r.1 ≤ t.1 := ((q_its_ok (t := t) (kind := 1) (W := q_W D) 3 0 (q_wot 1) (q_sk t a + 1) hlt (fun i hi => q_wot_ok 1 (by omega) i hi _)).2 r hq).2.1
            have hall : ∀ x y, ¬ (x = 53 ∧ (y = 10 ∨ y = 11 ∨ y = 29)) → ¬ (x = 64 ∧ 3 * q_R D ≤ y ∧ y ≤ 3 * q_R D + 2) → I7 x y = I1 x y := fun x y z1 z2 => by rw [hI7f x y (by omega), hI5 x y (by omega) z2, hI6f x y (by omega) z2]
            refine ⟨I7, rfl, fun x y z1 z2 => by rw [hI7f x y (by omega)]; exact hmf0 x y z1 z2, Or.inl ⟨q_sk t r.1, (q_sk_le hrl).2, q_sk_sk hrl, g2.of (fun y y1 y2 => hI7f 53 y (by omega)) (fun x y hx => hI7f x y (by omega)), ⟨⟨?_, ?_⟩, ?_, ?_, ?_⟩, fun p p1 p2 => ?_, fun i hi => ?_, ?_⟩⟩
            · rw [hall 53 28 (by omega) (by omega)]; exact h28
            · show I7 53 29 = nI (q_R D + 1)
              rw [hI7]; simp [am_u]
            · rw [hall 65 0 (by omega) (by omega)]; exact hT1.1.2.1
            · rw [hall 65 1 (by omega) (by omega)]; exact hT1.1.2.2.1
            · rw [hall 65 2 (by omega) (by omega)]; exact hT1.1.2.2.2
            · obtain ⟨w1, w2⟩ := hT1.2.1 p p1 p2
              rw [hall 62 p (by omega) (by omega), hall 63 p (by omega) (by omega)]
              exact ⟨w1, w2⟩
            · have hi' : i < q_R D + 1 := hi
              show I7 64 (3 * i) = nI (q_tu (q_ho D) (q_R D) (r.2 0) i) ∧ I7 64 (3 * i + 1) = nI (q_tu (q_wa D) (q_R D) (r.2 1) i) ∧ I7 64 (3 * i + 2) = nI (q_tu (q_se D) (q_R D) (r.2 2) i)
              unfold q_tu
              by_cases ep : i = q_R D
              · rw [if_pos ep, if_pos ep, if_pos ep, ep, hI7f 64 _ (by omega), hI7f 64 _ (by omega), hI7f 64 _ (by omega)]
                exact ⟨g3 0 ⟨by omega, fun z => by cases z⟩, g3 1 ⟨by omega, fun z => by cases z⟩, g3 2 ⟨by omega, fun z => by cases z⟩⟩
              · obtain ⟨w1, w2, w3⟩ := hT1.2.2.1 i (by omega)
                rw [if_neg ep, if_neg ep, if_neg ep, hall 64 _ (by omega) (by omega), hall 64 _ (by omega) (by omega), hall 64 _ (by omega) (by omega)]
                exact ⟨w1, w2, w3⟩
            · rw [hall 53 30 (by omega) (by omega)]; exact hT1.2.2.2
          · rw [g1]
            exact ⟨I5, rfl, hmf0, Or.inr ⟨g2, g3, g4⟩⟩
      · rw [if_neg (show ¬ nI (q_R D) < 6 from nI_nlt (b := 6) (by omega) (by omega)), if_neg (fun z => by have := h99.mp z; omega), hff, if_neg (show ¬ (q_pk t (q_sk t a) = 114 ∧ q_R D < 6) from fun z => hw z.2), if_neg (show ¬ (q_pk t (q_sk t a) = 99 ∧ told = false) from fun z => by have := z.1; omega)]
        exact hfail
    · rw [if_neg (fun z => p114 (h114.mp z)), if_neg (show ¬ (q_pk t (q_sk t a) = 114 ∧ q_R D < 6) from fun z => p114 z.1)]
      by_cases p99 : q_pk t (q_sk t a) = 99
      · have hsg : q_sg (q_pk t (q_sk t a)) = 99 := h99.mpr p99
        rw [if_pos hsg]
        by_cases hw : told = false
        · subst hw
          obtain ⟨o1, o2, o3⟩ := hco rfl
          have hlt := q_pk_in (t := t) (a := q_sk t a) (by rw [p99]; decide)
          obtain ⟨I2, hI2⟩ : ∃ z, z = am_u (am_u I1 53 10 (nI (q_sk t a + 1))) 53 30 1 := ⟨_, rfl⟩
          have hI2f : ∀ x y, ¬ (x = 53 ∧ (y = 10 ∨ y = 30)) → I2 x y = I1 x y := fun x y z1 => by
            rw [hI2]
            unfold am_u
            rw [if_neg (by omega), if_neg (by omega)]
          have hM2 : q_MC I2 T t (q_sk t a + 1) (-1) := by
            have hA := e2.at (q_sk t a + 1)
            exact hA.of (fun y y1 y2 => by rw [hI2]; unfold am_u; rw [if_neg (by omega)]) (fun x y hx => by rw [hI2]; unfold am_u; rw [if_neg (by omega)])
          have hL : q_LD 2 (q_W D) (q_R D) I2 (q_wot 2) := by
            intro i hi
            rcases (show i = 0 ∨ i = 1 ∨ i = 2 by have := hi.1; omega) with rfl | rfl | rfl
            · show I2 65 0 = nI 4
              rw [hI2f 65 0 (by omega), hT1.1.2.1, o1]
            · show I2 65 1 = nI 1
              rw [hI2f 65 1 (by omega), hT1.1.2.2.1, o2]
            · show I2 65 2 = nI 99
              rw [hI2f 65 2 (by omega), hT1.1.2.2.2, o3]
          obtain ⟨I5, k1, k2⟩ := m_173 (n := n) (J := J) (T := T) (kind := 2) (W := q_W D) (R := q_R D) hn ht (by omega) d1 (b := q_sk t a + 1) hlt hM2 (fun z => by cases z) (fun z => by cases z) hL
          have hreach : f_X12_readClause_48 n I1 J T (q_sg (q_pk t (q_sk t a))) = f_X12_readClause_173 n I2 J T (q_kc 2) (2 + 2) := by
            unfold f_X12_readClause_48 f_X12_readClause_53 f_X12_readClause_106 f_X12_readClause_137 f_X12_readClause_148
            rw [hsg, if_neg q_10, if_neg n5, if_neg n6, if_pos rfl, e2.2.1, nI_1, ← hI2, if_neg n5, if_neg n6]
            rfl
          have hI5 : ∀ x y, ¬ (x = 53 ∧ (y = 10 ∨ y = 11)) → ¬ (x = 65 ∧ y < 3) → I5 x y = I2 x y := fun x y z1 z2 => k1 x y z1 (fun i hi => by
            have := hi.1
            rintro ⟨w1, w2⟩
            have w1' : x = 65 := w1
            have w2' : y = i := w2
            omega)
          have hmf : q_mf2 I I5 := fun x y z1 z2 => by rw [hI5 x y (by omega) (by omega), hI2f x y (by omega)]; exact e3 x y (by omega)
          rw [if_pos (show (if false = true then (1 : Int32) else 0) = 0 by rfl), hreach, if_pos (show q_pk t (q_sk t a) = 99 ∧ false = false from ⟨p99, rfl⟩)]
          cases hq : q_its t 2 (q_W D) 3 0 (q_wot 2) (q_sk t a + 1) with
          | inl f =>
            rw [hq] at k2
            rw [k2.1]
            exact ⟨I5, rfl, hmf, k2.2⟩
          | inr r =>
            rw [hq] at k2
            rcases k2 with ⟨g1, g2, g3⟩ | ⟨g1, g2, g3, g4⟩
            · have hend : f_X12_readClause_277 n I5 J T (q_kc 2) = some I5 := by
                unfold f_X12_readClause_277
                rw [if_neg (show ¬ q_kc 2 = 114 by decide)]
              rw [g1, hend]
              have hrl : r.1 ≤ t.1 := ((q_its_ok (t := t) (kind := 2) (W := q_W D) 3 0 (q_wot 2) (q_sk t a + 1) hlt (fun i hi => q_wot_ok 2 (by omega) i hi _)).2 r hq).2.1
              have hall : ∀ x y, ¬ (x = 53 ∧ (y = 10 ∨ y = 11 ∨ y = 30)) → ¬ (x = 65 ∧ y < 3) → I5 x y = I1 x y := fun x y z1 z2 => by rw [hI5 x y (by omega) z2, hI2f x y (by omega)]
              refine ⟨I5, rfl, hmf, Or.inl ⟨q_sk t r.1, (q_sk_le hrl).2, q_sk_sk hrl, g2, ⟨⟨?_, ?_⟩, ?_, ?_, ?_⟩, fun p p1 p2 => ?_, fun i hi => ?_, ?_⟩⟩
              · rw [hall 53 28 (by omega) (by omega)]; exact h28
              · rw [hall 53 29 (by omega) (by omega)]; exact h29
              · exact g3 0 ⟨by omega, fun z => by cases z⟩
              · exact g3 1 ⟨by omega, fun z => by cases z⟩
              · exact g3 2 ⟨by omega, fun z => by cases z⟩
              · obtain ⟨w1, w2⟩ := hT1.2.1 p p1 p2
                rw [hall 62 p (by omega) (by omega), hall 63 p (by omega) (by omega)]
                exact ⟨w1, w2⟩
              · obtain ⟨w1, w2, w3⟩ := hT1.2.2.1 i hi
                rw [hall 64 _ (by omega) (by omega), hall 64 _ (by omega) (by omega), hall 64 _ (by omega) (by omega)]
                exact ⟨w1, w2, w3⟩
              · show I5 53 30 = 1
                rw [hI5 53 30 (by omega) (by omega), hI2]
                simp [am_u]
            · rw [g1]
              exact ⟨I5, rfl, hmf, Or.inr ⟨g2, g3, g4⟩⟩
        · have htd : told = true := by simpa using hw
          subst htd
          rw [if_neg (show ¬ (if true = true then (1 : Int32) else 0) = 0 by exact q_10), hff, if_neg (show ¬ (q_pk t (q_sk t a) = 99 ∧ true = false) from fun z => by cases z.2)]
          exact hfail
      · rw [if_neg (fun z => p99 (h99.mp z)), hff, if_neg (show ¬ (q_pk t (q_sk t a) = 99 ∧ told = false) from fun z => p99 z.1)]
        exact hfail
end QW
