/-! ===== shares by orders, the reference ===== -/
theorem q_os_top {D : q_Rd} {k r o : Nat} (ho : o < 64) : ∀ u, o + 1 ≤ u → u ≤ 64 → q_os D k r o u = q_os D k r o (o + 1) := by
  intro u h1 h2
  induction u with
  | zero => omega
  | succ u ih =>
    by_cases h : u = o
    · rw [h]
    · have h3 : ¬ u &&& o = u := fun z => by
        have := ((q_sub_f u (by omega) o ho).2 z).1
        omega
      rw [q_os, if_neg h3, Int.add_zero]
      exact ih (by omega) (by omega)
theorem q_wo_sub' : ∀ S, S < 64 → ∀ r, r < 6 → ∀ u, u < 64 → (!S.testBit r || ((u &&& q_wo S r == u) == ((u &&& S == u) && !u.testBit r))) = true := by decide +kernel
theorem q_wo_sub (S : Nat) (hS : S < 64) (r : Nat) (hr : r < 6) (hb : S.testBit r = true) (u : Nat) (hu : u < 64) : (u &&& q_wo S r = u ↔ (u &&& S = u ∧ u.testBit r = false)) := by
  have h := q_wo_sub' S hS r hr u hu
  rw [hb, Bool.not_true, Bool.false_or, beq_iff_eq, Bool.eq_iff_iff] at h
  simpa using h
/-- values laid for those riders of S that P tells, over J0 -/
def q_lz (J0 J : Nat → Nat → Int64) (S R : Nat) (v : Nat → Int) : Prop := (∀ i, i < R → S.testBit i = true → J 66 i = zL (v i)) ∧ (∀ i, ¬ (i < R ∧ S.testBit i = true) → J 66 i = J0 66 i) ∧ ∀ a c, a ≠ 66 → J a c = J0 a c
theorem q_pow2 : ∀ R, R ≤ 6 → ((1 : Int32) <<< (nI R &&& 31)) = nI (2 ^ R) ∧ 2 ^ R ≤ 64 := by decide +kernel
section QV
variable {n : Nat} {I : Nat → Nat → Int32} {T : Nat} {D : q_Rd}
theorem m_ord_in (hn : 300 ≤ n) (hD : q_ok D) (h : q_RM I D) {S u : Nat} (hS : S < 64) (hS0 : 0 < S) (hu : u < 64) (hus : u &&& S = u) (J0 : Nat → Nat → Int64) {k11 : (Nat → Nat → Int32) → (Nat → Nat → Int64) → Nat → Int32 → Int32 → Int32 → Option (Nat → Nat → Int64)} :
    ∀ (m r : Nat) (J : Nat → Nat → Int64), r ≤ q_R D → q_R D - r < m → q_lz J0 J S (q_R D) (fun i => q_os D (q_bc S - 1) i (q_wo S i) (if i < r then u + 1 else u)) →
    ∃ J', f_X12_byOrders_41 n k11 m I J T (nI S) (nI (q_bc S)) (nI u) (nI (q_bc u)) (nI r) = k11 I J' T (nI S) (nI (q_bc S)) (nI (u + 1)) ∧ q_lz J0 J' S (q_R D) (fun i => q_os D (q_bc S - 1) i (q_wo S i) (u + 1)) := by
  intro m
  induction m with
  | zero => intro r J _ h; omega
  | succ m ih =>
    intro r J hr hm hL
    have hR := hD.1.2.1
    have hbc := q_bcx_eq S hS
    have hbu := q_bcx_eq u hu
    rw [f_X12_byOrders_41, h.1.2.1]
    by_cases h1 : r = q_R D
    · subst h1
      rw [if_pos (Int32.le_refl _)]
      unfold f_X12_byOrders_119
      rw [nI_1]
      refine ⟨J, rfl, fun i hi hb => ?_, hL.2⟩
      have := hL.1 i hi hb
      simp only [if_pos hi] at this
      exact this
    · have hrR : r < q_R D := by omega
      rw [if_neg (nI_ge (by omega) (by omega)), m_has (by omega) (by omega)]
      have hnext : ∀ J2 : Nat → Nat → Int64, (∀ i, i ≠ r → J2 66 i = J 66 i) → (∀ a c, a ≠ 66 → J2 a c = J a c) → (S.testBit r = true → J2 66 r = zL (q_os D (q_bc S - 1) r (q_wo S r) (u + 1))) → (S.testBit r ≠ true → J2 66 r = J 66 r) →
          q_lz J0 J2 S (q_R D) (fun i => q_os D (q_bc S - 1) i (q_wo S i) (if i < r + 1 then u + 1 else u)) := by
        intro J2 n1 n2 n3 n4
        refine ⟨fun i hi hb => ?_, fun i hi => ?_, fun a c ha => by rw [n2 a c ha]; exact hL.2.2 a c ha⟩
        · by_cases e : i = r
          · subst e
            simp only [if_pos (Nat.lt_succ_self i)]
            exact n3 hb
          · rw [n1 i e, hL.1 i hi hb]
            have e2 : (i < r + 1) = (i < r) := by
              apply propext
              omega
            simp only [e2]
        · by_cases e : i = r
          · subst e
            rw [n4 (fun z => hi ⟨hrR, z⟩)]
            exact hL.2.1 i hi
          · rw [n1 i e]
            exact hL.2.1 i hi
      by_cases hb : S.testBit r = true
      · rw [if_pos hb, Option.bind_some, if_neg (by decide), m_has (by omega) (by omega)]
        have hws := q_wo_sub S hS r (by omega) hb u hu
        have hos : q_os D (q_bc S - 1) r (q_wo S r) (u + 1) = q_os D (q_bc S - 1) r (q_wo S r) u + (if u &&& q_wo S r = u then q_ot D (q_bc S - 1) r u else 0) := rfl
        have hJr : J 66 r = zL (q_os D (q_bc S - 1) r (q_wo S r) u) := by
          have := hL.1 r hrR hb
          simp only [Nat.lt_irrefl, if_false] at this
          exact this
        by_cases hub : u.testBit r = true
        · rw [if_pos hub, Option.bind_some, if_neg (by decide)]
          unfold f_X12_byOrders_113
          rw [nI_1]
          refine ih (r + 1) J (by omega) (by omega) (hnext J (fun _ _ => rfl) (fun _ _ _ => rfl) (fun _ => ?_) (fun _ => rfl))
          rw [hJr, hos, if_neg (fun z => by rw [(hws.mp z).2] at hub; cases hub), Int.add_zero]
        · simp only [Bool.not_eq_true] at hub
          have hin : u &&& q_wo S r = u := hws.mpr ⟨hus, hub⟩
          obtain ⟨w1, w2, w3, w4⟩ := q_wo_f S hS r (by omega)
          have hle := ((q_sub_f u hu (q_wo S r) (by omega)).2 hin).2
          have hw4 := w4 hb
          obtain ⟨g1, g2⟩ := q_or_f u hu r (by omega)
          obtain ⟨f1, f2, f3, f4⟩ := q_fac_F (q_bc u) (by omega)
          obtain ⟨f5, f6, f7, f8⟩ := q_fac_F (q_bc S - 1 - q_bc u) (by omega)
          have f9 := q_fac_6 (q_bc S - 1) (by omega) (q_bc u) (by omega)
          have c1 := q_cost_le hD (u ||| 2 ^ r)
          have c2 := q_cost_le hD u
          have e1 : nI (q_bc S) - nI (q_bc u) - 1 = nI (q_bc S - 1 - q_bc u) := by
            rw [pk_sub (by omega), show (1 : Int32) = nI 1 from rfl, pk_sub (by omega)]
            congr 1
            omega
          rw [hub, if_neg (by decide), Option.bind_some, if_pos rfl, if_pos (q_ix (by omega) (by omega)), m_times hn (by omega), Option.bind_some, e1, m_times hn (by omega), Option.bind_some, g1, m_costOf hn hD h (by omega), Option.bind_some, m_costOf hn hD h (by omega), Option.bind_some, Option.bind_some, if_pos (q_ix (by omega) (by omega)), q_cl (by omega), hJr, nI_l (by omega), nI_l (by omega), lN_mul, zL_d (by omega) (by omega), zL_n, zL_mul, zL_add]
          unfold f_X12_byOrders_113
          rw [nI_1]
          refine ih (r + 1) _ (by omega) (by omega) (hnext _ (fun i hi => ?_) (fun a c ha => ?_) (fun _ => ?_) (fun z => absurd hb z))
          · unfold am_u
            rw [if_neg (fun z => hi z.2)]
          · unfold am_u
            rw [if_neg (fun z => ha z.1)]
          · rw [hos, if_pos hin]
            simp [am_u, q_ot]
      · rw [if_neg hb, Option.bind_some, if_pos rfl]
        unfold f_X12_byOrders_113
        rw [nI_1]
        exact ih (r + 1) J (by omega) (by omega) (hnext J (fun _ _ => rfl) (fun _ _ _ => rfl) (fun z => absurd z hb) (fun _ => rfl))
theorem m_ord_out (hn : 300 ≤ n) (hD : q_ok D) (h : q_RM I D) {S : Nat} (hS : S < 2 ^ q_R D) (hS0 : 0 < S) (J0 : Nat → Nat → Int64) :
    ∀ (m u : Nat) (J : Nat → Nat → Int64), u ≤ 2 ^ q_R D → 2 ^ q_R D - u < m → q_lz J0 J S (q_R D) (fun i => q_os D (q_bc S - 1) i (q_wo S i) u) →
    ∃ J', f_X12_byOrders_11 n m I J T (nI S) (nI (q_bc S)) (nI u) = some J' ∧ q_lz J0 J' S (q_R D) (fun i => q_os D (q_bc S - 1) i (q_wo S i) (2 ^ q_R D)) := by
  obtain ⟨p1, p2⟩ := q_pow2 (q_R D) hD.1.2.1
  intro m
  induction m with
  | zero => intro u J _ h; omega
  | succ m ih =>
    intro u J hu hm hL
    rw [f_X12_byOrders_11, h.1.2.1, p1]
    by_cases h1 : u = 2 ^ q_R D
    · subst h1
      rw [if_pos (Int32.le_refl _)]
      exact ⟨J, rfl, hL⟩
    · have hu2 : u < 64 := by omega
      rw [if_neg (nI_ge (by omega) (by omega))]
      obtain ⟨s1, s2⟩ := q_sub_f u hu2 S (by omega)
      by_cases hb : u &&& S = u
      · rw [if_pos (s1.mpr hb), j_bitCount hu2, Option.bind_some]
        obtain ⟨J1, e1, e2⟩ := m_ord_in (T := T) hn hD h (by omega) hS0 hu2 hb J0 (k11 := f_X12_byOrders_11 n m) n 0 J (Nat.zero_le _) (by have := hD.1.2.1; omega) ⟨fun i hi hbi => by rw [hL.1 i hi hbi]; simp, hL.2⟩
        have e0 : (0 : Int32) = nI 0 := rfl
        rw [e0, e1]
        exact ih (u + 1) J1 (by omega) (by omega) e2
      · rw [if_neg (fun z => hb (s1.mp z))]
        unfold f_X12_byOrders_119
        rw [nI_1]
        refine ih (u + 1) J (by omega) (by omega) ⟨fun i hi hbi => ?_, hL.2⟩
        rw [hL.1 i hi hbi]
        have hi6 : i < 6 := by have := hD.1.2.1; omega
        have hws := q_wo_sub S (by omega) i hi6 hbi u hu2
        show _ = zL (q_os D (q_bc S - 1) i (q_wo S i) u + (if u &&& q_wo S i = u then q_ot D (q_bc S - 1) i u else 0))
        rw [if_neg (fun z => hb (hws.mp z).1), Int.add_zero]
/-- a share by orders, over so many orders -/
def q_ord (D : q_Rd) (S r : Nat) : Int := q_os D (q_bc S - 1) r (q_wo S r) (q_wo S r + 1)
theorem m_byOrders (hn : 300 ≤ n) (hD : q_ok D) (h : q_RM I D) {S : Nat} (hS : S < 2 ^ q_R D) (hS0 : 0 < S) (J : Nat → Nat → Int64) (hz : ∀ i, i < 6 → J 66 i = 0) :
    ∃ J', f_X12_byOrders n I J T (nI S) (nI (q_bc S)) = some J' ∧ q_lz (am_u J 53 33 (zL (q_fac (q_bc S)))) J' S (q_R D) (fun i => q_ord D S i) := by
  obtain ⟨p1, p2⟩ := q_pow2 (q_R D) hD.1.2.1
  have hbc := q_bcx_eq S (by omega)
  obtain ⟨f1, f2, f3, f4⟩ := q_fac_F (q_bc S) hbc.2.1
  have hR := hD.1.2.1
  unfold f_X12_byOrders
  rw [m_times hn hbc.2.1, Option.bind_some, nI_l (by omega), zL_n]
  obtain ⟨J', e1, e2⟩ := m_ord_out (T := T) hn hD h hS hS0 (am_u J 53 33 (zL (q_fac (q_bc S)))) n 0 (am_u J 53 33 (zL (q_fac (q_bc S)))) (Nat.zero_le _) (by omega) ⟨fun i hi _ => by
    have : am_u J 53 33 (zL (q_fac (q_bc S))) 66 i = J 66 i := rfl
    rw [this, hz i (by omega)]
    rfl, fun _ _ => rfl, fun _ _ _ => rfl⟩
  refine ⟨J', e1, fun i hi hb => ?_, e2.2⟩
  have hw := q_wo_f S (by omega) i (by omega)
  rw [e2.1 i hi hb]
  show zL (q_os D (q_bc S - 1) i (q_wo S i) (2 ^ q_R D)) = zL (q_os D (q_bc S - 1) i (q_wo S i) (q_wo S i + 1))
  rw [q_os_top (by omega) (2 ^ q_R D) (by omega) p2]
end QV
