/-! ===== conditions over units, the reference ===== -/
section QW
variable {n : Nat} {J : Nat → Nat → Int64} {T : Nat} {t : q_Tx}
theorem m_prt17 (hn : 300 ≤ n) (ht : q_tok t) {E : Nat → Int32} {q : Nat} {X : Nat → q_Rs} {r1 : q_U3} {r2 r3 : q_U6} {F : (Nat → Nat → Int32) → Option (Int32 × (Nat → Nat → Int32))} {a : Nat} {x : q_Rs} (h1 : q_Y0 q_b1 T t E q F a x) (hA : ∀ b, b ≤ t.1 → q_Y0 q_b1 T t E q (fun I => r1 I J T) b (X b)) (hok : ∀ b, b ≤ t.1 → q_rok t b (X b)) : q_Y0 q_b1 T t E q (fun I => (F I).bind fun w => f_X12_part_17 n r1 r2 r3 w.2 J T w.1) a (q_andz t X x) := by
  have h160 := ht.1
  have hfl : ∀ m I x, q_b1 x → I 53 11 ≠ -1 → f_X12_part_18 n r1 r2 r3 (m + 1) I J T x = some (x, I) := fun m I x hx h => by
    have hx' : x = 0 ∨ x = 1 := hx
    rw [f_X12_part_18, if_neg h, if_pos hx']
  refine h1.lp (G := fun I v => f_X12_part_17 n r1 r2 r3 I J T v) ht (fun r hr I hP h => ?_) (fun I v hP h => ?_)
  · refine m_lp (q := q) (op := q_oA) ht rfl hA hok (fun p x y ho _ _ => by
      rw [show p = 38 from decide_eq_true_iff.mp ho]
      exact q_b1_38 x y) (fun m I x => f_X12_part_18 n r1 r2 r3 m I J T x) hfl (fun m I x a hP h ho => ?_) (fun m I x a hP h ho => ?_) (t.1 + 1) n r I h.1 (by omega) (by omega) hP h
    · have hpl := (q_pk_lt ht (q_sk t a)).1
      obtain ⟨I1, e1, e2, e3⟩ := m_look_s (n := n) (J := J) (T := T) hn ht h
      have ho' : ¬ q_pk t (q_sk t a) = 38 := decide_eq_false_iff_not.mp ho
      have hP' : x = 0 ∨ x = 1 := hP
      show ∃ I', f_X12_part_18 n r1 r2 r3 (m + 1) I J T x = _ ∧ _
      rw [f_X12_part_18, h.2.1.2.2, if_pos rfl, e1, Option.bind_some]
      simp only []
      rw [if_neg (show ¬ q_sg (q_pk t (q_sk t a)) = 38 from fun z => ho' ((q_sg_eq (x := 38) hpl (by omega) (by omega)).mp z)), if_pos hP']
      exact ⟨I1, rfl, e2, e3⟩
    · have hpl := (q_pk_lt ht (q_sk t a)).1
      have c : q_pk t (q_sk t a) = 38 := decide_eq_true_iff.mp ho
      have hlt := q_pk_in (t := t) (a := q_sk t a) (by rw [c]; decide)
      obtain ⟨I1, e1, e2, e3⟩ := m_look_s (n := n) (J := J) (T := T) hn ht h
      refine ⟨_, e2.t (q_mk.a I1 (nI (q_sk t a + 1))), e3.nx hlt, fun v w hA1 => ?_⟩
      have hA1' : r1 (am_u I1 53 10 (nI (q_sk t a + 1))) J T = some (v, w) := hA1
      show f_X12_part_18 n r1 r2 r3 (m + 1) I J T x = f_X12_part_18 n r1 r2 r3 m w J T _
      rw [f_X12_part_18, h.2.1.2.2, if_pos rfl, e1, Option.bind_some]
      simp only []
      rw [c, q_op_38, if_pos (show q_sg 38 = 38 from rfl), e3.2.1.2.1, nI_1, hA1', Option.bind_some]
      unfold f_X12_part_64 f_X12_part_65
      by_cases c1 : x = 0
      · rw [if_pos c1, if_pos c1]
      · rw [if_neg c1, if_neg c1]
        by_cases c2 : v = 0
        · rw [if_pos c2, if_pos c2]
        · rw [if_neg c2, if_neg c2]
  · obtain ⟨k, hk⟩ : ∃ z, n = z + 1 := ⟨n - 1, by omega⟩
    show f_X12_part_18 n r1 r2 r3 n I J T v = _
    have e : f_X12_part_18 n r1 r2 r3 n I J T v = f_X12_part_18 n r1 r2 r3 (k + 1) I J T v := by rw [← hk]
    rw [e]
    exact hfl k I v hP h
theorem m_cnd7 (hn : 300 ≤ n) (ht : q_tok t) {E : Nat → Int32} {q : Nat} {X : Nat → q_Rs} {r1 : q_U3} {r2 r3 : q_U6} {a : Nat} {x : q_Rs} {x1 x2 : Int32} (h1 : q_Y0 q_b1 T t E q (fun I => r2 I J T x1 x2) a x) (hA : ∀ b, b ≤ t.1 → q_Y0 q_b1 T t E q (fun I => r2 I J T 0 0) b (X b)) (hok : ∀ b, b ≤ t.1 → q_rok t b (X b)) : q_Y0 q_b1 T t E q (fun I => fb_X12_condition n r1 r2 r3 I J T x1 x2) a (q_rb x (q_bl t q_oO X (t.1 + 1))) := by
  have h160 := ht.1
  have hfl : ∀ m I x, q_b1 x → I 53 11 ≠ -1 → f_X12_condition_7 n r1 r2 r3 (m + 1) I J T x = some (x, I) := fun m I x hx h => by
    have hx' : x = 0 ∨ x = 1 := hx
    rw [f_X12_condition_7, if_neg h, if_pos hx']
  refine h1.lp (G := fun I v => f_X12_condition_7 n r1 r2 r3 n I J T v) ht (fun r hr I hP h => ?_) (fun I v hP h => ?_)
  · refine m_lp (q := q) (op := q_oO) ht rfl hA hok (fun p x y ho _ _ => by
      rw [show p = 124 from decide_eq_true_iff.mp ho]
      exact q_b1_124 x y) (fun m I x => f_X12_condition_7 n r1 r2 r3 m I J T x) hfl (fun m I x a hP h ho => ?_) (fun m I x a hP h ho => ?_) (t.1 + 1) n r I h.1 (by omega) (by omega) hP h
    · have hpl := (q_pk_lt ht (q_sk t a)).1
      obtain ⟨I1, e1, e2, e3⟩ := m_look_s (n := n) (J := J) (T := T) hn ht h
      have ho' : ¬ q_pk t (q_sk t a) = 124 := decide_eq_false_iff_not.mp ho
      have hP' : x = 0 ∨ x = 1 := hP
      show ∃ I', f_X12_condition_7 n r1 r2 r3 (m + 1) I J T x = _ ∧ _
      rw [f_X12_condition_7, h.2.1.2.2, if_pos rfl, e1, Option.bind_some]
      simp only []
      rw [if_neg (show ¬ q_sg (q_pk t (q_sk t a)) = 124 from fun z => ho' ((q_sg_eq (x := 124) hpl (by omega) (by omega)).mp z)), if_pos hP']
      exact ⟨I1, rfl, e2, e3⟩
    · have hpl := (q_pk_lt ht (q_sk t a)).1
      have c : q_pk t (q_sk t a) = 124 := decide_eq_true_iff.mp ho
      have hlt := q_pk_in (t := t) (a := q_sk t a) (by rw [c]; decide)
      obtain ⟨I1, e1, e2, e3⟩ := m_look_s (n := n) (J := J) (T := T) hn ht h
      refine ⟨_, e2.t (q_mk.a I1 (nI (q_sk t a + 1))), e3.nx hlt, fun v w hA1 => ?_⟩
      have hA1' : r2 (am_u I1 53 10 (nI (q_sk t a + 1))) J T 0 0 = some (v, w) := hA1
      show f_X12_condition_7 n r1 r2 r3 (m + 1) I J T x = f_X12_condition_7 n r1 r2 r3 m w J T _
      rw [f_X12_condition_7, h.2.1.2.2, if_pos rfl, e1, Option.bind_some]
      simp only []
      rw [c, q_op_124, if_pos (show q_sg 124 = 124 from rfl), e3.2.1.2.1, nI_1, hA1', Option.bind_some]
      unfold f_X12_condition_51 f_X12_condition_56
      by_cases c1 : x = 0
      · rw [if_pos c1, if_pos c1]
        by_cases c2 : v = 0
        · rw [if_pos c2, if_pos c2]
        · rw [if_neg c2, if_neg c2]
      · rw [if_neg c1, if_neg c1]
  · obtain ⟨k, hk⟩ : ∃ z, n = z + 1 := ⟨n - 1, by omega⟩
    show f_X12_condition_7 n r1 r2 r3 n I J T v = _
    have e : f_X12_condition_7 n r1 r2 r3 n I J T v = f_X12_condition_7 n r1 r2 r3 (k + 1) I J T v := by rw [← hk]
    rw [e]
    exact hfl k I v hP h
theorem m_prt0 (hn : 300 ≤ n) (ht : q_tok t) {E : Nat → Int32} {q : Nat} {U : Nat → q_Rs} {r1 : q_U3} {r2 r3 : q_U6} (hA : ∀ b, b ≤ t.1 → q_Y0 q_b1 T t E q (fun I => r1 I J T) b (U b)) (hok : ∀ b, b ≤ t.1 → q_rok t b (U b)) {b : Nat} (hb : b ≤ t.1) : q_Y0 q_b1 T t E q (fun I => fb_X12_part n r1 r2 r3 I J T 0 0) b (q_andz t U (U b)) := by
  intro I h
  obtain ⟨v, I', g1, g2, g3⟩ := m_prt17 (n := n) (J := J) (T := T) (r2 := r2) (r3 := r3) hn ht (hA b hb) hA hok I h
  refine ⟨v, I', ?_, g2, g3⟩
  show fb_X12_part n r1 r2 r3 I J T 0 0 = some (v, I')
  unfold fb_X12_part
  rw [if_pos rfl]
  exact g1
theorem m_cndL (hn : 300 ≤ n) (ht : q_tok t) {E : Nat → Int32} {q L : Nat} {U : Nat → q_Rs} (hA : ∀ b, b ≤ t.1 → q_Y0 q_b1 T t E q (fun I => (fx_X12_unit n (L + 1)).1 I J T) b (U b)) (hok : ∀ b, b ≤ t.1 → q_rok t b (U b)) {b : Nat} (hb : b ≤ t.1) : q_Y0 q_b1 T t E q (fun I => (fx_X12_unit n (L + 3)).2.2 I J T 0 0) b (q_ors t U (U b)) := by
  have hT0 : ∀ b, b ≤ t.1 → q_Y0 q_b1 T t E q (fun I => (fx_X12_unit n (L + 2)).2.1 I J T 0 0) b (q_andz t U (U b)) := fun b hb => m_prt0 (n := n) (J := J) (T := T) (r1 := (fx_X12_unit n (L + 1)).1) (r2 := (fx_X12_unit n (L + 1)).2.1) (r3 := (fx_X12_unit n (L + 1)).2.2) hn ht hA hok hb
  exact m_cnd7 (n := n) (J := J) (T := T) (r1 := (fx_X12_unit n (L + 2)).1) (r2 := (fx_X12_unit n (L + 2)).2.1) (r3 := (fx_X12_unit n (L + 2)).2.2) hn ht (hT0 b hb) hT0 (fun b hb => (q_ors_ok hok (hok b hb)).1)
theorem m_untq (hn : 300 ≤ n) (ht : q_tok t) {E : Nat → Int32} : ∀ (q L : Nat), q ≤ 6 → 3 * q ≤ L → ∀ a, a ≤ t.1 → q_Y0 q_b1 T t E q (fun I => (fx_X12_unit n (L + 1)).1 I J T) a (q_unt t q a) := by
  intro q
  induction q with
  | zero =>
    intro L hq hL a ha
    exact m_unF (n := n) (J := J) (T := T) (r1 := (fx_X12_unit n L).1) (r2 := (fx_X12_unit n L).2.1) (r3 := (fx_X12_unit n L).2.2) hn ht hq (fun h => absurd h (Nat.lt_irrefl _)) (fun h => absurd h (Nat.lt_irrefl _)) ha
  | succ q ih =>
    intro L hq hL a ha
    obtain ⟨L', rfl⟩ : ∃ z, L = z + 3 := ⟨L - 3, by omega⟩
    exact m_unF (n := n) (J := J) (T := T) (sC := fun a => q_ors t (q_unt t q) (q_unt t q a)) (r1 := (fx_X12_unit n (L' + 3)).1) (r2 := (fx_X12_unit n (L' + 3)).2.1) (r3 := (fx_X12_unit n (L' + 3)).2.2) hn ht hq (fun _ b hb => ih (L' + 2) (by omega) (by omega) b hb) (fun _ b hb => m_cndL (n := n) (J := J) (T := T) hn ht (ih L' (by omega) (by omega)) (q_unt_ok q) hb) ha
theorem m_cnd (hn : 300 ≤ n) (ht : q_tok t) {E : Nat → Int32} {a : Nat} (ha : a ≤ t.1) : q_Y0 q_b1 T t E 6 (fun I => f_X12_condition n I J T 0 0) a (q_cnd t 6 a) := by
  obtain ⟨k, hk⟩ : ∃ z, n = z + 3 := ⟨n - 3, by omega⟩
  have := m_cndL (n := n) (J := J) (T := T) (L := k) hn ht (m_untq (n := n) (J := J) (T := T) (E := E) hn ht 6 k (by omega) (by omega)) (q_unt_ok 6) ha
  rw [← hk] at this
  exact this
theorem m_cnd_b (hn : 300 ≤ n) (ht : q_tok t) {E : Nat → Int32} (r : Nat × List Int32 × q_Vl) : q_Y0 q_b1 T t E 6 (fun I => f_X12_condition n I J T 1 (r.2.2 E)) r.1 (q_ors t (q_unt t 6) (q_cmp t 6 r)) := by
  obtain ⟨k, hk⟩ : ∃ z, n = z + 3 := ⟨n - 3, by omega⟩
  have hU := m_untq (n := n) (J := J) (T := T) (E := E) hn ht 6 k (by omega) (by omega)
  have h1 : q_Y0 q_b1 T t E 6 (fun I => (fx_X12_unit n (k + 2)).2.1 I J T 1 (r.2.2 E)) r.1 (q_andz t (q_unt t 6) (q_cmp t 6 r)) := by
    intro I h
    obtain ⟨v, I', g1, g2, g3⟩ := m_prt17 (n := n) (J := J) (T := T) (r1 := (fx_X12_unit n (k + 1)).1) (r2 := (fx_X12_unit n (k + 1)).2.1) (r3 := (fx_X12_unit n (k + 1)).2.2) hn ht (m_cmp12 (n := n) (J := J) (T := T) (E := E) hn ht (q := 6) (by omega) r) hU (q_unt_ok 6) I h
    refine ⟨v, I', ?_, g2, g3⟩
    show fb_X12_part n (fx_X12_unit n (k + 1)).1 (fx_X12_unit n (k + 1)).2.1 (fx_X12_unit n (k + 1)).2.2 I J T 1 (r.2.2 E) = some (v, I')
    unfold fb_X12_part f_X12_compares
    rw [if_neg (by exact q_10), if_neg (by exact q_10)]
    exact g1
  have hT0 : ∀ b, b ≤ t.1 → q_Y0 q_b1 T t E 6 (fun I => (fx_X12_unit n (k + 2)).2.1 I J T 0 0) b (q_andz t (q_unt t 6) (q_unt t 6 b)) := fun b hb => m_prt0 (n := n) (J := J) (T := T) (r1 := (fx_X12_unit n (k + 1)).1) (r2 := (fx_X12_unit n (k + 1)).2.1) (r3 := (fx_X12_unit n (k + 1)).2.2) hn ht hU (q_unt_ok 6) hb
  have := m_cnd7 (n := n) (J := J) (T := T) (r1 := (fx_X12_unit n (k + 2)).1) (r2 := (fx_X12_unit n (k + 2)).2.1) (r3 := (fx_X12_unit n (k + 2)).2.2) hn ht h1 hT0 (fun b hb => (q_ors_ok (q_unt_ok 6) (q_unt_ok 6 b hb)).1)
  intro I h
  obtain ⟨v, I', g1, g2, g3⟩ := this I h
  refine ⟨v, I', ?_, g2, g3⟩
  have e : f_X12_condition n I J T 1 (r.2.2 E) = (fx_X12_unit n (k + 3)).2.2 I J T 1 (r.2.2 E) := by rw [← hk]; rfl
  show f_X12_condition n I J T 1 (r.2.2 E) = some (v, I')
  rw [e]
  exact g1
end QW
